/-! the best look -/
theorem mx_C {a b : Nat} (ha : a < 1000) (hb : b < 1000) : mm_max (nI a) (nI b) = nI (max a b) := by
  unfold mm_max
  by_cases e : a < b
  · rw [if_pos (nI_lt e (by omega)), Nat.max_eq_right (by omega)]
  · rw [if_neg (nI_nlt (by omega) (by omega)), Nat.max_eq_left (by omega)]
/-- the worst of three -/
def w3 (g : Nat → Nat → Nat) (e : Nat) : Nat := max (g e 0) (max (g e 1) (g e 2))
theorem c_most {C : mm_M} {n d i : Nat} {g : Nat → Nat → Nat} (h : TI (C 24) n g) (hg : ∀ e p, g e p < 60) (hd : d ≤ 20) (hi : i < n) (hn : n ≤ 6) : fn_X7_mostLeft (nI d) (nI i) C = some (nI (w3 g (6 * d + i)), C) := by
  have h0 := h (6 * d + i) (by omega) (by omega) 0 (by omega)
  have h1 := h (6 * d + i) (by omega) (by omega) 1 (by omega)
  have h2 := h (6 * d + i) (by omega) (by omega) 2 (by omega)
  have g0 := hg (6 * d + i) 0
  have g1 := hg (6 * d + i) 1
  have g2 := hg (6 * d + i) 2
  have e1 : (nI d * 6 + nI i) * 3 = nI (3 * (6 * d + i)) := by
    rw [show nI d * 6 = nI (d * 6) from pk_mul d 6, nI_add, show nI (d * 6 + i) * 3 = nI ((d * 6 + i) * 3) from pk_mul _ 3]
    congr 1
    omega
  unfold fn_X7_mostLeft fn_X7_tallyAt
  simp only [pb_some, mm_leq]
  rw [e1, show nI (3 * (6 * d + i)) + 0 = nI (3 * (6 * d + i) + 0) from nI_add _ 0, show nI (3 * (6 * d + i)) + 1 = nI (3 * (6 * d + i) + 1) from nI_add _ 1, show nI (3 * (6 * d + i)) + 2 = nI (3 * (6 * d + i) + 2) from nI_add _ 2]
  rw [if_pos (pu_in (by omega) (by omega)), if_pos (pu_in (by omega) (by omega)), if_pos (pu_in (by omega) (by omega)), nI_clamp (by omega), nI_clamp (by omega), nI_clamp (by omega), h0, h1, h2, mx_C (by omega) (by omega), mx_C (by omega) (by omega)]
  rfl
theorem mx_R {a b : Nat} (hb : b < 1000) (ha : a < 1000) {α : Type} (F : Int32 → α) : (if nI b ≤ nI a then F (nI a) else F (nI b)) = F (nI (max a b)) := by
  by_cases e : b ≤ a
  · rw [if_pos (nI_le e (by omega)), Nat.max_eq_left e]
  · rw [if_neg (nI_ge (by omega) (by omega)), Nat.max_eq_right (by omega)]
theorem r_most {R : mm_M} {n e : Nat} {g : Nat → Nat → Nat} (h : TI (R 7) n g) (hg : ∀ e p, g e p < 60) (he : e < 126) (hen : e % 6 < n) (c2 : Int32) (k : Int32 → mm_M → Option (Int32 × mm_M)) : fn_X8_ask_L154 c2 (nI e) k mm_fu 0 0 R = k (nI (w3 g e)) R := by
  have h0 := h e he hen 0 (by omega)
  have h1 := h e he hen 1 (by omega)
  have h2 := h e he hen 2 (by omega)
  have g0 := hg e 0
  have g1 := hg e 1
  have g2 := hg e 2
  obtain ⟨f, hf⟩ : ∃ f, mm_fu = f + 1 + 1 + 1 + 1 := ⟨mm_fu - 4, by have := mm_fu_ge; omega⟩
  have e3 : (3 : Int32) * nI e = nI (3 * e) := pk_mul 3 e
  have i0 : nI (3 * e) + 0 = nI (3 * e + 0) := nI_add _ 0
  have i1 : nI (3 * e) + (0 + 1) = nI (3 * e + 1) := nI_add _ 1
  have i2 : nI (3 * e) + (0 + 1 + 1) = nI (3 * e + 2) := nI_add _ 2
  rw [hf, fn_X8_ask_L154, if_neg (by decide), e3, i0, if_pos (pu_in (by omega) (by omega)), nI_clamp (by omega), h0, mm_leq]
  have s0 := mx_R (a := 0) (b := g e 0) (by omega) (by omega) (fun x => fn_X8_ask_L154 c2 (nI e) k (f + 1 + 1 + 1) x (0 + 1) R)
  rw [show (if nI (g e 0) ≤ 0 then fn_X8_ask_L154 c2 (nI e) k (f + 1 + 1 + 1) 0 (0 + 1) R else fn_X8_ask_L154 c2 (nI e) k (f + 1 + 1 + 1) (nI (g e 0)) (0 + 1) R) = _ from s0]
  rw [fn_X8_ask_L154, if_neg (by decide), e3, i1, if_pos (pu_in (by omega) (by omega)), nI_clamp (by omega), h1, mm_leq]
  have s1 := mx_R (a := max 0 (g e 0)) (b := g e 1) (by omega) (by omega) (fun x => fn_X8_ask_L154 c2 (nI e) k (f + 1 + 1) x (0 + 1 + 1) R)
  rw [s1]
  rw [fn_X8_ask_L154, if_neg (by decide), e3, i2, if_pos (pu_in (by omega) (by omega)), nI_clamp (by omega), h2, mm_leq]
  have s2 := mx_R (a := max (max 0 (g e 0)) (g e 1)) (b := g e 2) (by omega) (by omega) (fun x => fn_X8_ask_L154 c2 (nI e) k (f + 1) x (0 + 1 + 1 + 1) R)
  rw [s2, fn_X8_ask_L154, if_pos (by decide)]
  congr 2
  unfold w3
  omega
theorem r_mostx (R : mm_M) {e : Nat} (he : e < 126) (c2 : Int32) (k : Int32 → mm_M → Option (Int32 × mm_M)) : ∃ y, fn_X8_ask_L154 c2 (nI e) k mm_fu 0 0 R = k y R := by
  obtain ⟨f, hf⟩ : ∃ f, mm_fu = f + 1 + 1 + 1 + 1 := ⟨mm_fu - 4, by have := mm_fu_ge; omega⟩
  have e3 : (3 : Int32) * nI e = nI (3 * e) := pk_mul 3 e
  have i0 : nI (3 * e) + 0 = nI (3 * e + 0) := nI_add _ 0
  have i1 : nI (3 * e) + (0 + 1) = nI (3 * e + 1) := nI_add _ 1
  have i2 : nI (3 * e) + (0 + 1 + 1) = nI (3 * e + 2) := nI_add _ 2
  have st3 : ∀ x : Int32, fn_X8_ask_L154 c2 (nI e) k (f + 1) x (0 + 1 + 1 + 1) R = k x R := fun x => by
    rw [fn_X8_ask_L154, if_pos (by decide)]
  have st2 : ∀ x : Int32, ∃ y, fn_X8_ask_L154 c2 (nI e) k (f + 1 + 1) x (0 + 1 + 1) R = k y R := fun x => by
    rw [fn_X8_ask_L154, if_neg (by decide), e3, i2, if_pos (pu_in (by omega) (by omega)), mm_leq]
    split
    · exact ⟨_, st3 _⟩
    · exact ⟨_, st3 _⟩
  have st1 : ∀ x : Int32, ∃ y, fn_X8_ask_L154 c2 (nI e) k (f + 1 + 1 + 1) x (0 + 1) R = k y R := fun x => by
    rw [fn_X8_ask_L154, if_neg (by decide), e3, i1, if_pos (pu_in (by omega) (by omega)), mm_leq]
    split
    · exact st2 _
    · exact st2 _
  rw [hf, fn_X8_ask_L154, if_neg (by decide), e3, i0, if_pos (pu_in (by omega) (by omega)), mm_leq]
  split
  · exact st1 _
  · exact st1 _
theorem r_skip_L {L : LV} (h6 : L 0 0 ≤ 6) (c2 : Int32) (k : mm_M → Option (Int32 × mm_M)) (R : mm_M) (h1 : R 1 24 = nI (L 0 0)) {d : Nat} (hd : d ≤ 20) : ∀ z i fu, L 0 0 ≤ i → i + z = 6 → fn_X8_ask_L141 c2 k (fu + z) (nI (6 * d + i)) R = fn_X8_ask_L141 c2 k fu (nI (6 * d + 6)) R := by
  intro z
  induction z with
  | zero =>
    intro i fu hi hz
    have : i = 6 := by omega
    subst this
    rfl
  | succ z ih =>
    intro i fu hi hz
    have er : nI (6 * d + i) - nI (6 * d + i) / 6 * 6 = nI ((6 * d + i) % 6) := pk_rem (d := 6) (by omega) (by omega) (by omega)
    rw [show fu + (z + 1) = fu + z + 1 by omega, fn_X8_ask_L141, if_neg (show ¬ (126 : Int32) ≤ nI (6 * d + i) from nI_ge (b := 126) (by omega) (by omega))]
    obtain ⟨y, hy⟩ := r_mostx R (e := 6 * d + i) (by omega) c2 (fun x5_31 M_32 => (if (M_32 1 24) ≤ (nI (6 * d + i) - nI (6 * d + i) / 6 * 6) then fn_X8_ask_L141 c2 k (fu + z) (nI (6 * d + i) + 1) M_32 else ((fn_X8_judges ((10 * (nI (6 * d + i) / 6)) + (nI (6 * d + i) - nI (6 * d + i) / 6 * 6)) x5_31 M_32).bind fun z_35 => fn_X8_ask_L141 c2 k (fu + z) (nI (6 * d + i) + 1) z_35)))
    rw [hy, er, h1, if_pos (nI_le (by omega) (by omega)), nI_1]
    exact ih (i + 1) fu (by omega) (by omega)
theorem ask_in {L : LV} (h6 : L 0 0 ≤ 6) {g : Nat → Nat → Nat} (hg : ∀ e p, g e p < 60) (c2 : Int32) {d : Nat} (hd : d ≤ 20) (kC kR : mm_M → Option (Int32 × mm_M)) : ∀ z i fuel fu (C R : mm_M), ci L C R → TI (C 24) (L 0 0) g → TI (R 7) (L 0 0) g → i + z = L 0 0 → z < fuel →
    ∃ C' R', fn_X7_ask_L53 c2 (nI d) kC fuel (nI i) C = kC C' ∧ fn_X8_ask_L141 c2 kR (fu + z) (nI (6 * d + i)) R = fn_X8_ask_L141 c2 kR fu (nI (6 * d + L 0 0)) R' ∧ ci L C' R' ∧ c_23 C C' ∧ r_16 R R' := by
  intro z
  induction z with
  | zero =>
    intro i fuel fu C R h tc tr hi hf
    obtain ⟨f, rfl⟩ : ∃ f, fuel = f + 1 := ⟨fuel - 1, by omega⟩
    have : i = L 0 0 := by omega
    subst this
    refine ⟨C, R, ?_, rfl, h, c_23_rf C, r_16_rf R⟩
    rw [fn_X7_ask_L53, h.1.1, if_pos (nI_le (Nat.le_refl _) (by omega))]
  | succ z ih =>
    intro i fuel fu C R h tc tr hi hf
    obtain ⟨f, rfl⟩ : ∃ f, fuel = f + 1 := ⟨fuel - 1, by omega⟩
    have w : w3 g (6 * d + i) ≤ 60 := by
      have g0 := hg (6 * d + i) 0
      have g1 := hg (6 * d + i) 1
      have g2 := hg (6 * d + i) 2
      unfold w3
      omega
    have er : nI (6 * d + i) - nI (6 * d + i) / 6 * 6 = nI i := by
      rw [show (nI (6 * d + i) - nI (6 * d + i) / 6 * 6 : Int32) = nI ((6 * d + i) % 6) from pk_rem (d := 6) (by omega) (by omega) (by omega)]
      congr 1
      omega
    have ed : nI (6 * d + i) / 6 = nI d := by
      rw [show nI (6 * d + i) / 6 = nI ((6 * d + i) / 6) from pk_div (d := 6) (by omega) (by omega) (by omega)]
      congr 1
      omega
    obtain ⟨C1, R1, x1, x2, x3, x4, x5⟩ := ch_offer h.2.2 (10 * nI d + nI i) (t := w3 g (6 * d + i)) (by omega)
    rw [show nN (w3 g (6 * d + i)) = nI (w3 g (6 * d + i)) from if_neg (by omega)] at x2
    have hci : ci L C1 R1 := ⟨lC_eq (fun a _ _ => x4 a (by omega)) h.1, by rw [x5.1 1 (by omega)]; exact h.2.1, x3⟩
    rw [fn_X7_ask_L53, h.1.1, if_neg (nI_ge (by omega) (by omega)), c_most tc hg hd (by omega) h6]
    simp only [pb_some]
    rw [x1]
    simp only [pb_some]
    rw [nI_1, show fu + (z + 1) = fu + z + 1 by omega, fn_X8_ask_L141, if_neg (show ¬ (126 : Int32) ≤ nI (6 * d + i) from nI_ge (b := 126) (by omega) (by omega)), r_most tr hg (by omega) (by omega), er, ed, h.2.1.1, if_neg (nI_ge (by omega) (by omega)), x2, pb_some, nI_1]
    obtain ⟨C', R', y1, y2, y3, y4, y5⟩ := ih (i + 1) f fu C1 R1 hci (by rw [x4 24 (by omega)]; exact tc) (by rw [x5.1 7 (by omega)]; exact tr) (by omega) (by omega)
    exact ⟨C', R', y1, y2, y3, fun a ha => (y4 a ha).trans (x4 a ha), fun a ha => (y5.1 a ha).trans (x5.1 a ha), fun j h1 h2 => (y5.2 j h1 h2).trans (x5.2 j h1 h2)⟩
theorem ask_out {L : LV} (h6 : L 0 0 ≤ 6) {g : Nat → Nat → Nat} (hg : ∀ e p, g e p < 60) (c2 : Int32) (kC kR : mm_M → Option (Int32 × mm_M)) : ∀ z d fuel fu (C R : mm_M), ci L C R → TI (C 24) (L 0 0) g → TI (R 7) (L 0 0) g → d + z = 21 → z < fuel →
    ∃ C' R', fn_X7_ask_L43 c2 kC fuel (nI d) C = kC C' ∧ fn_X8_ask_L141 c2 kR (fu + 1 + 6 * z) (nI (6 * d)) R = kR R' ∧ ci L C' R' ∧ c_23 C C' ∧ r_16 R R' := by
  intro z
  induction z with
  | zero =>
    intro d fuel fu C R h tc tr hi hf
    obtain ⟨f, rfl⟩ : ∃ f, fuel = f + 1 := ⟨fuel - 1, by omega⟩
    have : d = 21 := by omega
    subst this
    refine ⟨C, R, ?_, ?_, h, c_23_rf C, r_16_rf R⟩
    · rw [fn_X7_ask_L43, if_pos (by decide)]
    · rw [show fu + 1 + 6 * 0 = fu + 1 by omega, fn_X8_ask_L141, if_pos (by decide)]
  | succ z ih =>
    intro d fuel fu C R h tc tr hi hf
    obtain ⟨f, rfl⟩ : ∃ f, fuel = f + 1 := ⟨fuel - 1, by omega⟩
    obtain ⟨C1, R1, x1, x2, x3, x4, x5⟩ := ask_in h6 hg c2 (d := d) (by omega) (fun M_14 => fn_X7_ask_L43 c2 kC f (nI d + 1) M_14) kR (L 0 0) 0 mm_fu (fu + 1 + 6 * z + (6 - L 0 0)) C R h tc tr (by omega) (by have := mm_fu_ge; omega)
    have hs := r_skip_L h6 c2 kR R1 x3.2.1.1 (d := d) (by omega) (6 - L 0 0) (L 0 0) (fu + 1 + 6 * z) (Nat.le_refl _) (by omega)
    rw [hs, show fu + 1 + 6 * z + (6 - L 0 0) + L 0 0 = fu + 1 + 6 * (z + 1) by omega, show 6 * d + 6 = 6 * (d + 1) by omega] at x2
    obtain ⟨C', R', y1, y2, y3, y4, y5⟩ := ih (d + 1) f fu C1 R1 x3 (by rw [x4 24 (by omega)]; exact tc) (by rw [x5.1 7 (by omega)]; exact tr) (by omega) (by omega)
    refine ⟨C', R', ?_, x2.trans y2, y3, fun a ha => (y4 a ha).trans (x4 a ha), fun a ha => (y5.1 a ha).trans (x5.1 a ha), fun j h1 h2 => (y5.2 j h1 h2).trans (x5.2 j h1 h2)⟩
    rw [fn_X7_ask_L43, if_neg (show ¬ (20 : Int32) < nI d from nI_nlt (a := 20) (b := d) (by omega) (by omega)), show fn_X7_ask_L53 c2 (nI d) _ mm_fu 0 C = _ from x1, nI_1]
    exact y1
theorem so_ask : sj_ask sm_S := by
  intro C R h d w
  obtain ⟨L, hw, hd, hc, hr, hsn⟩ := sm_L h
  have h6 := hw.1
  have hc0 : C 1 0 = nI (L 0 0) := hc.1
  have hr0 : R 1 24 = nI (L 0 0) := hr.1
  rcases pw_one d (L 0 0) (by omega) with e0 | ⟨j, hj, rfl, e0⟩
  · refine ⟨-1, C, R, ?_, ?_, h⟩
    · simp [fn_X7_ask, pw_oneC, hc0, e0]
    · simp [fn_X8_ask, pw_oneR, hr0, e0]
  · rcases pw_lit w 1 (x := 1) rfl (by decide) with e | ⟨u, hu, rfl, e⟩
    · refine ⟨-1, C, R, ?_, ?_, h⟩
      · simp [fn_X7_ask, pw_oneC, hc0, e0, pw_half, e]
      · simp [fn_X8_ask, pw_oneR, hr0, e0, pw_part, e]
    · obtain ⟨m, a, b, c, hs⟩ := sn_sq hsn
      have fuge := mm_fu_ge
      generalize hP : (fun y => agr m a b c (lu L (1 + 1) j y)) = P
      have hPv : ∀ y, P y = agr m a b c (lu L (1 + 1) j y) := fun y => by rw [← hP]
      -- the class
      obtain ⟨C1, p1, p2⟩ := c_greys_L hw hd j hj (fun x2_8 M_9 => some (x2_8, M_9)) 31 0 mm_fu C hc hs (by omega) (by omega)
      rw [hP] at p1
      have hfill := pu_fillarr 24 378 0 C1 (by omega)
      generalize hC2 : mm_row C1 24 (fun j => if j < 378 then 0 else C1 24 j) = C2 at hfill
      have f2 : c_24 C C2 := c_24_tr (c_24_of p2) (fun x _ hx => by rw [← hC2, pu_row_ne _ _ hx])
      have t2 : TI (C2 24) (L 0 0) (fun e p => tl (tQ P (lG L j) e p) 0) := fun x hx _ p hp => by
        rw [← hC2, pu_row_at, if_pos (by omega)]
        rfl
      have hc2 : lC C2 1 L := lC_eq (fun x _ _ => f2 x (by omega) (by omega)) hc
      obtain ⟨C3, q1, q2, q3⟩ := tally_L hw hd j hj P (fun M => some M) 31 0 mm_fu C2 hc2 t2 (by omega) (by omega)
      have f3 := c_24_tr f2 q3
      have hc3 : lC C3 1 L := lC_eq (fun x _ _ => f3 x (by omega) (by omega)) hc
      have hbc := bc_bits P C3
      -- the reference
      have hrf := pu_fill (fn_X8_ask_L22 (nI j) (nI u) 0 (fun M_8 => fn_X8_ask_L47 (nI j) (nI u) (fun x3_22 M_23 => ((fn_X8_startsJudging x3_22 M_23).bind fun z_25 => fn_X8_ask_L141 (nI u) (fun M_36 => ((fn_X8_judged (nI u) M_36).bind fun z_38 => some (z_38.1, z_38.2))) mm_fu 0 z_25)) mm_fu 0 0 M_8)) (fun M_8 => fn_X8_ask_L47 (nI j) (nI u) (fun x3_22 M_23 => ((fn_X8_startsJudging x3_22 M_23).bind fun z_25 => fn_X8_ask_L141 (nI u) (fun M_36 => ((fn_X8_judged (nI u) M_36).bind fun z_38 => some (z_38.1, z_38.2))) mm_fu 0 z_25)) mm_fu 0 0 M_8) 7 0 378 (fun _ _ => 0)
        (fun m M => by
          rw [fn_X8_ask_L22, if_pos]
          exact nI_le (a := 378) (Nat.le_refl _) (by omega))
        (fun m i M hi => by
          rw [fn_X8_ask_L22, if_neg (show ¬ (378 : Int32) ≤ nI i from nI_ge (b := 378) hi (by omega)), if_pos (pu_in hi (by omega)), mm_leq, nI_clamp (by omega), nI_1, Nat.zero_add])
        (fun M f i hi => rfl) mm_fu 0 R (Nat.zero_le _) (by omega)
      generalize hR1 : mm_row R 7 (fun j => if 0 + 0 ≤ j ∧ j < 0 + 378 then 0 else R 7 j) = R1 at hrf
      have g1 : ∀ x, x ≠ 7 → R1 x = R x := fun x hx => by rw [← hR1, pu_row_ne _ _ hx]
      have t1 : TI (R1 7) (L 0 0) (fun e p => tl (tQ (fun y => agr m a b c (lu L (1 + 1) j y)) (lG L j) e p) 0) := fun x hx _ p hp => by
        rw [← hR1, pu_row_at, if_pos (by omega)]
        rfl
      obtain ⟨R2, s1, s2, s3⟩ := r_asked_L (C0 := C) hw hd j hj (nI u) (fun x3_22 M_23 => ((fn_X8_startsJudging x3_22 M_23).bind fun z_25 => fn_X8_ask_L141 (nI u) (fun M_36 => ((fn_X8_judged (nI u) M_36).bind fun z_38 => some (z_38.1, z_38.2))) mm_fu 0 z_25)) 31 0 mm_fu R1 (by rw [g1 1 (by omega)]; exact hr) (by rw [g1 1 (by omega)]; exact hs) t1 (by omega) (by omega)
      have hcn : (fun v => if agr m a b c (lu L (1 + 1) j v) = true then 1 else 0) = fun v => if P v = true then 1 else 0 := by
        funext v
        rw [hPv]
      rw [hP] at s2
      rw [hcn] at s1
      have fr2 : r_w7 R R2 := r_w7_tr (r_w7_7 g1) s3
      have hr2 : lR (R2 1) L := by rw [fr2.1 1 (by omega) (by omega) (by omega) (by omega)]; exact hr
      have hcl := lv_cnt_le (fun v => if P v = true then 1 else 0) 1 31
      -- the choice
      obtain ⟨C4, R3, x1, x2, x3, x4, x5⟩ := ch_begin C3 R2 (t := lv_cnt (fun v => if P v = true then 1 else 0) 1 31) (by omega) rfl rfl
      rw [show nN (lv_cnt (fun v => if P v = true then 1 else 0) 1 31) = nI (lv_cnt (fun v => if P v = true then 1 else 0) 1 31) from if_neg (by omega)] at x2
      have hci : ci L C4 R3 := ⟨lC_eq (fun x _ _ => x4 x (by omega)) hc3, by rw [x5.1 1 (by omega)]; exact hr2, x3⟩
      obtain ⟨C5, R4, y1, y2, y3, y4, y5⟩ := ask_out h6 (g := fun e p => tl (tQ P (lG L j) e p) 31) (fun e p => Nat.lt_of_le_of_lt (tl_le _ 31) (by omega)) (nI u) (fun M_16 => ((fn_X0_tell (nI u) M_16).bind fun z_18 => some (z_18.1, z_18.2))) (fun M_36 => ((fn_X8_judged (nI u) M_36).bind fun z_38 => some (z_38.1, z_38.2))) 21 0 mm_fu (mm_fu - 127) C4 R3 hci (by rw [x4 24 (by omega)]; exact q2) (by rw [x5.1 7 (by omega)]; exact s2) (by omega) (by omega)
      rw [show mm_fu - 127 + 1 + 6 * 21 = mm_fu by omega] at y2
      obtain ⟨r, z1, z2⟩ := ci_tell y3 (nI u)
      refine ⟨r, C5, R4, ?_, ?_, sm_scr h (c_sc_tr (c_sc_24 f3) (c_sc_tr (c_sc_23 x4) (c_sc_23 y4))) (r_sc_tr (r_sc_w7 fr2) (r_sc_tr (r_sc_16 x5) (r_sc_16 y5)))⟩
      · unfold fn_X7_ask
        rw [pw_oneC, hc0]
        simp only [pb_some]
        rw [if_neg (by rw [e0]; decide), pw_half]
        simp only [pb_some]
        rw [if_neg (by rw [e]; decide), show fn_X7_greysAsSeen (nI j) C = _ from p1]
        simp only [pb_some, mm_leq]
        rw [show fn_X7_tallyPlaces (nI j) (nI (lv_bits P 31)) C1 = some C3 from by
          unfold fn_X7_tallyPlaces
          rw [hfill, pb_some]
          exact q1]
        simp only [pb_some]
        rw [hbc]
        simp only [pb_some]
        rw [x1]
        simp only [pb_some]
        exact y1.trans z1
      · unfold fn_X8_ask
        rw [pw_oneR, hr0]
        simp only [pb_some]
        rw [if_neg (by rw [e0]; decide), pw_part]
        simp only [pb_some]
        rw [if_neg (by rw [e]; decide)]
        refine Eq.trans hrf (Eq.trans s1 ?_)
        rw [x2]
        simp only [pb_some]
        exact y2.trans z2
