/-! told from where it was when -/
/-- what was SEEN, as numbers -/
def sq (C : mm_M) (f : Nat → Int32) (n m : Nat) (a b c : Nat → Nat) : Prop := m ≤ 6 ∧ C 19 0 = nI m ∧ f 38 = nI m ∧ ∀ q, q < m → (a q ≤ 20 ∧ b q < n ∧ c q < 3) ∧ (C 20 q = nI (a q) ∧ C 21 q = nI (b q) ∧ C 22 q = nI (c q)) ∧ f (39 + 3 * q) = nI (a q) ∧ f (39 + 3 * q + 1) = nI (b q) ∧ f (39 + 3 * q + 2) = nI (c q)
def agr (m : Nat) (a b c : Nat → Nat) (L : LV) : Bool := decide (∀ q, q < m → lv_n (a q) L 4 (b q) = c q)
def lk (a : Nat → Nat) : Nat → Nat
  | 0 => 0
  | q + 1 => max (lk a q) (a q + 1)
theorem lk_le (a : Nat → Nat) (m : Nat) (h : ∀ q, q < m → a q ≤ 20) : lk a m ≤ 21 := by
  induction m with
  | zero => exact Nat.zero_le _
  | succ m ih =>
    rw [lk]
    have := ih (fun q hq => h q (by omega))
    have := h m (by omega)
    omega
theorem lk_ge (a : Nat → Nat) (m : Nat) : ∀ q, q < m → a q < lk a m := by
  induction m with
  | zero => intro q hq; omega
  | succ m ih =>
    intro q hq
    rw [lk]
    by_cases e : q = m
    · rw [e]; omega
    · have := ih q (by omega)
      omega
theorem pl_max {k a : Nat} (hk : k < 1000) (ha : a < 1000) : mm_max (nI k - 1) (nI a) = nI (max k (a + 1)) - 1 := by
  cases k with
  | zero =>
    rw [Nat.max_eq_right (by omega), nI_pred]
    unfold mm_max
    rw [if_pos]
    rw [Int32.lt_iff_toInt_lt, nI_toInt (by omega)]
    have : (nI 0 - 1 : Int32).toInt = -1 := by decide
    omega
  | succ k =>
    rw [nI_pred]
    unfold mm_max
    by_cases e : k < a
    · rw [if_pos (nI_lt e (by omega)), Nat.max_eq_right (by omega), nI_pred]
    · rw [if_neg (nI_nlt (by omega) (by omega)), Nat.max_eq_left (by omega), nI_pred]
theorem pl_ltm {k d : Nat} (hk : k < 1000) (hd : d < 1000) : (nI k - 1 < nI d) = (k ≤ d) := by
  apply propext
  cases k with
  | zero =>
    refine ⟨fun _ => Nat.zero_le _, fun _ => ?_⟩
    rw [Int32.lt_iff_toInt_lt, nI_toInt (by omega)]
    have : (nI 0 - 1 : Int32).toInt = -1 := by decide
    omega
  | succ k =>
    rw [nI_pred, nI_ltI (by omega) (by omega)]
    omega
section
variable {n m : Nat} {a b c : Nat → Nat}
theorem c_last_L {C : mm_M} {f : Nat → Int32} (hs : sq C f n m a b c) (k : Int32 → mm_M → Option (Int32 × mm_M)) : ∀ z i fuel, i + z = m → z < fuel → fn_X5_lastLook_L4 19 k fuel (nI (lk a i) - 1) (nI i) C = k (nI (lk a m) - 1) C := by
  have hm := hs.1
  intro z
  induction z with
  | zero =>
    intro i fuel hi hf
    obtain ⟨fu, rfl⟩ : ∃ f, fuel = f + 1 := ⟨fuel - 1, by omega⟩
    have : i = m := by omega
    subst this
    rw [fn_X5_lastLook_L4, hs.2.1, if_pos (nI_le (Nat.le_refl _) (by omega))]
  | succ z ih =>
    intro i fuel hi hf
    obtain ⟨fu, rfl⟩ : ∃ f, fuel = f + 1 := ⟨fuel - 1, by omega⟩
    obtain ⟨⟨g1, g2, g3⟩, ⟨g4, g5, g6⟩, g7⟩ := hs.2.2.2 i (by omega)
    have hl := lk_le a i (fun q hq => (hs.2.2.2 q (by omega)).1.1)
    rw [fn_X5_lastLook_L4, hs.2.1, if_neg (nI_ge (by omega) (by omega)), if_pos (pu_in (by omega) (by omega)), nI_clamp (by omega), show C (19 + 1) i = nI (a i) from g4, pl_max (by omega) (by omega), nI_1]
    exact ih (i + 1) fu (by omega) (by omega)
theorem c_last {C : mm_M} {f : Nat → Int32} (hs : sq C f n m a b c) : fn_X5_lastLook 19 C = some (nI (lk a m) - 1, C) := by
  have hm := hs.1
  exact c_last_L hs (fun x M => some (x, M)) m 0 mm_fu (by omega) (by have := mm_fu_ge; omega)
theorem c_on_L {C : mm_M} {f : Nat → Int32} {L : LV} {d : Nat} (hn : n ≤ 6) (hs : sq C f n m a b c) (hc : lC C 8 L) (hw : lw L) (hL : L 0 0 = n) (hd : d < 1000) : ∀ z i fuel, i + z = m → z < fuel → (∀ q, q < i → a q = d → L 4 (b q) = c q) →
    ∃ r : Int32, fn_X5_agreeOn_L2 19 (nI d) 8 (fun M => some (0, M)) (fun M => some (1, M)) fuel (nI i) C = some (r, C) ∧ ((r = 1 ∧ ∀ q, q < m → a q = d → L 4 (b q) = c q) ∨ (r = 0 ∧ ∃ q, q < m ∧ a q = d ∧ L 4 (b q) ≠ c q)) := by
  have hm := hs.1
  intro z
  induction z with
  | zero =>
    intro i fuel hi hf hq
    obtain ⟨fu, rfl⟩ : ∃ f, fuel = f + 1 := ⟨fuel - 1, by omega⟩
    have : i = m := by omega
    subst this
    refine ⟨1, ?_, Or.inl ⟨rfl, hq⟩⟩
    rw [fn_X5_agreeOn_L2, hs.2.1, if_pos (nI_le (Nat.le_refl _) (by omega))]
  | succ z ih =>
    intro i fuel hi hf hq
    obtain ⟨fu, rfl⟩ : ∃ f, fuel = f + 1 := ⟨fuel - 1, by omega⟩
    obtain ⟨⟨g1, g2, g3⟩, ⟨g4, g5, g6⟩, g7⟩ := hs.2.2.2 i (by omega)
    obtain ⟨d1, d2, d3, d4⟩ := hc.2.2.2.2 (b i) (by omega)
    have w4 := (hw.2.2.2 (b i) (by omega)).2.2.2
    rw [fn_X5_agreeOn_L2, hs.2.1, if_neg (nI_ge (by omega) (by omega)), if_pos (pu_in (by omega) (by omega)), nI_clamp (by omega), show C (19 + 1) i = nI (a i) from g4, show C (19 + 2) i = nI (b i) from g5, show C (19 + 3) i = nI (c i) from g6, if_pos (pu_in (by omega) (by omega)), nI_clamp (by omega), d4, nI_1]
    simp only [pu_eq (a := a i) (b := d) (by omega) (by omega), pu_eq (a := L 4 (b i)) (b := c i) (by omega) (by omega)]
    have next : (a i = d → L 4 (b i) = c i) → ∃ r : Int32, fn_X5_agreeOn_L2 19 (nI d) 8 (fun M => some (0, M)) (fun M => some (1, M)) fu (nI (i + 1)) C = some (r, C) ∧ ((r = 1 ∧ ∀ q, q < m → a q = d → L 4 (b q) = c q) ∨ (r = 0 ∧ ∃ q, q < m ∧ a q = d ∧ L 4 (b q) ≠ c q)) := fun hh => ih (i + 1) fu (by omega) (by omega) (fun q h1 h2 => by
      by_cases e : q = i
      · subst e; exact hh h2
      · exact hq q (by omega) h2)
    by_cases e1 : a i = d
    · rw [if_pos e1]
      by_cases e2 : L 4 (b i) = c i
      · rw [if_pos e2]
        exact next (fun _ => e2)
      · rw [if_neg e2]
        exact ⟨0, rfl, Or.inr ⟨rfl, i, by omega, e1, e2⟩⟩
    · rw [if_neg e1]
      exact next (fun h => absurd h e1)
theorem sq_fr {C C' : mm_M} {f : Nat → Int32} (hs : sq C f n m a b c) (h : ∀ x, 19 ≤ x → x ≤ 22 → C' x = C x) : sq C' f n m a b c := by
  unfold sq at hs ⊢
  rw [h 19 (by omega) (by omega), h 20 (by omega) (by omega), h 21 (by omega) (by omega), h 22 (by omega) (by omega)]
  exact hs
theorem c_agr_L {f : Nat → Int32} {L : LV} (hn : n ≤ 6) (hw : lw L) (hL : L 0 0 = n) (hd : L 0 1 < 2000) : ∀ z d fuel (C : mm_M), sq C f n m a b c → lC C 8 (lv_n d L) → d + z = lk a m → z < fuel → (∀ q, q < m → a q < d → lv_n (a q) L 4 (b q) = c q) →
    ∃ C', fn_X5_agreeWith_L7 19 8 (nI (lk a m) - 1) (fun M => some (0, M)) (fun M => some (1, M)) fuel (nI d) C = some (if agr m a b c L = true then 1 else 0, C') ∧ c_fr 8 C C' := by
  intro z
  induction z with
  | zero =>
    intro d fuel C hs hc hz hf hq
    obtain ⟨fu, rfl⟩ : ∃ f, fuel = f + 1 := ⟨fuel - 1, by omega⟩
    have hl := lk_le a m (fun q hq => (hs.2.2.2 q hq).1.1)
    have : d = lk a m := by omega
    subst this
    refine ⟨C, ?_, c_fr_rf 8 C⟩
    rw [fn_X5_agreeWith_L7, if_pos (by rw [pl_ltm (by omega) (by omega)]; exact Nat.le_refl _), if_pos]
    exact decide_eq_true (fun q h => hq q h (lk_ge a m q h))
  | succ z ih =>
    intro d fuel C hs hc hz hf hq
    obtain ⟨fu, rfl⟩ : ∃ f, fuel = f + 1 := ⟨fuel - 1, by omega⟩
    have hl := lk_le a m (fun q hq => (hs.2.2.2 q hq).1.1)
    have hm := hs.1
    have hk := lv_n_k d L
    have hwd := lv_n_w d hw
    obtain ⟨r, p1, p2⟩ := c_on_L (d := d) hn hs hc hwd (by omega) (by omega) m 0 mm_fu (by omega) (by have := mm_fu_ge; omega) (fun q h => by omega)
    rw [fn_X5_agreeWith_L7, if_neg (by rw [pl_ltm (by omega) (by omega)]; omega), show fn_X5_agreeOn 19 (nI d) 8 C = some (r, C) from p1]
    simp only [Option.bind_some]
    rcases p2 with ⟨rfl, p3⟩ | ⟨rfl, q, h1, h2, h3⟩
    · rw [if_neg (by decide)]
      obtain ⟨C1, q1, q2, q3, q4⟩ := c_next hc hwd (by omega)
      rw [pb_bind2, q1]
      simp only [Option.bind_some]
      rw [nI_1]
      rw [← lv_n_S] at q2
      obtain ⟨C', y1, y2⟩ := ih (d + 1) fu C1 (sq_fr hs (fun x _ _ => q4 x (by omega))) q2 (by omega) (by omega) (fun q h1 h2 => by
        by_cases e : a q = d
        · rw [e]
          exact p3 q h1 e
        · exact hq q h1 (by omega))
      exact ⟨C', y1, c_fr_tr q4 y2⟩
    · rw [if_pos rfl]
      refine ⟨C, ?_, c_fr_rf 8 C⟩
      rw [if_neg]
      intro hh
      have := of_decide_eq_true hh q h1
      rw [h2] at this
      exact h3 this
theorem c_agr {C : mm_M} {f : Nat → Int32} {L : LV} (hn : n ≤ 6) (hs : sq C f n m a b c) (hc : lC C 8 L) (hw : lw L) (hL : L 0 0 = n) (hd : L 0 1 < 2000) : ∃ C', fn_X5_agreeWith 19 8 C = some (if agr m a b c L = true then 1 else 0, C') ∧ c_fr 8 C C' := by
  have hl := lk_le a m (fun q hq => (hs.2.2.2 q hq).1.1)
  obtain ⟨C', q1, q2⟩ := c_agr_L hn hw hL hd (lk a m) 0 mm_fu C hs hc (by omega) (by have := mm_fu_ge; omega) (fun q _ h => by omega)
  refine ⟨C', ?_, q2⟩
  unfold fn_X5_agreeWith
  rw [c_last hs]
  simp only [Option.bind_some]
  rw [mm_leq]
  exact q1
/-! the reference notes all days -/
def r_w (R R' : mm_M) : Prop := (∀ a, a ≠ 2 → a ≠ 0 → a ≠ 6 → R' a = R a) ∧ ∀ j, j ≠ 14 → j ≠ 15 → R' 0 j = R 0 j
theorem r_w_rf (R : mm_M) : r_w R R := ⟨fun _ _ _ _ => rfl, fun _ _ _ => rfl⟩
theorem r_w_tr {A B C : mm_M} (h1 : r_w A B) (h2 : r_w B C) : r_w A C := ⟨fun a p q r => (h2.1 a p q r).trans (h1.1 a p q r), fun j p q => (h2.2 j p q).trans (h1.2 j p q)⟩
theorem r_w_of {A B : mm_M} (h : r_s A B) : r_w A B := ⟨fun a p q _ => h.1 a p q, h.2⟩
theorem r_sc_w {A B : mm_M} (h : r_w A B) : r_sc A B := ⟨fun a p q r _ _ => h.1 a q p r, fun j p => h.2 j (by omega) (by omega)⟩
theorem r_note_L {L : LV} (hw : lw L) (d : Nat) (hd : d ≤ 20) (k : mm_M → Option (Int32 × mm_M)) : ∀ z i fuel (R : mm_M), lR (R 2) L → i + z = L 0 0 → z < fuel →
    ∃ R', fn_X8_isSoWith_L22 (nI d) k fuel (nI i) R = k R' ∧ (∀ x, x ≠ 6 → R' x = R x) ∧ (∀ j, i ≤ j → j < L 0 0 → R' 6 (6 * d + j) = nI (L 4 j)) ∧ ∀ j, j < 6 * d + i ∨ 6 * d + L 0 0 ≤ j → R' 6 j = R 6 j := by
  have h6 := hw.1
  intro z
  induction z with
  | zero =>
    intro i fuel R h hi hf
    obtain ⟨fu, rfl⟩ : ∃ f, fuel = f + 1 := ⟨fuel - 1, by omega⟩
    have : i = L 0 0 := by omega
    subst this
    refine ⟨R, ?_, fun _ _ => rfl, fun j h1 h2 => by omega, fun _ _ => rfl⟩
    rw [fn_X8_isSoWith_L22, h.1, if_pos (nI_le (Nat.le_refl _) (by omega))]
  | succ z ih =>
    intro i fuel R h hi hf
    obtain ⟨fu, rfl⟩ : ∃ f, fuel = f + 1 := ⟨fuel - 1, by omega⟩
    have e6 : (6 : Int32) * nI d + nI i = nI (6 * d + i) := by
      rw [show (6 : Int32) * nI d = nI (6 * d) from pk_mul 6 d, nI_add]
    rw [fn_X8_isSoWith_L22, h.1, if_neg (nI_ge (by omega) (by omega)), r_of h h6 (i := i) (by omega) 3 (cc := 3) rfl (by omega)]
    simp only [Option.bind_some, mm_let]
    rw [e6, if_pos (pu_in (by omega) (by omega)), nI_clamp (by omega), nI_1]
    obtain ⟨R', q1, q2, q3, q4⟩ := ih (i + 1) fu (mm_up R 6 (6 * d + i) (nI (L (1 + 3) i))) (by rw [pu_upr _ _ _ (by omega)]; exact h) (by omega) (by omega)
    refine ⟨R', q1, fun x hx => by rw [q2 x hx, pu_upr _ _ _ hx], fun j h1 h2 => ?_, fun j hj => by rw [q4 j (by omega), pu_up, if_neg (by omega)]⟩
    by_cases e : j = i
    · subst e
      rw [q4 _ (by omega), pu_up, if_pos ⟨rfl, rfl⟩]
    · exact q3 j (by omega) h2
theorem r_were_L {L : LV} (hw : lw L) (hd : L 0 1 < 1900) (k : mm_M → Option (Int32 × mm_M)) : ∀ z d fuel (R : mm_M), lR (R 2) (lv_n d L) → d + z = 21 → z < fuel → (∀ e i, e < d → i < L 0 0 → R 6 (6 * e + i) = nI (lv_n e L 4 i)) →
    ∃ R', fn_X8_isSoWith_L13 k fuel (nI d) R = k R' ∧ (∀ e i, e < 21 → i < L 0 0 → R' 6 (6 * e + i) = nI (lv_n e L 4 i)) ∧ r_w R R' := by
  have h6 := hw.1
  intro z
  induction z with
  | zero =>
    intro d fuel R h hz hf hq
    obtain ⟨fu, rfl⟩ : ∃ f, fuel = f + 1 := ⟨fuel - 1, by omega⟩
    refine ⟨R, ?_, fun e i h1 h2 => hq e i (by omega) h2, r_w_rf R⟩
    rw [fn_X8_isSoWith_L13, if_pos (show (20 : Int32) < nI d from nI_lt (a := 20) (by omega) (by omega))]
  | succ z ih =>
    intro d fuel R h hz hf hq
    obtain ⟨fu, rfl⟩ : ∃ f, fuel = f + 1 := ⟨fuel - 1, by omega⟩
    have hk := lv_n_k d L
    have hwd := lv_n_w d hw
    obtain ⟨R1, p1, p2, p3, p4⟩ := r_note_L hwd d (by omega) (fun M_9 => ((fn_X8_daysGo 1 M_9).bind fun z_11 => fn_X8_isSoWith_L13 k fu (nI d + 1) z_11)) (lv_n d L 0 0) 0 mm_fu R h (by omega) (by have := mm_fu_ge; omega)
    rw [hk.1] at p3 p4
    have h1 : lR (R1 2) (lv_n d L) := by rw [p2 2 (by omega)]; exact h
    obtain ⟨R2, q1, q2, q3, q4, q5⟩ := r_go (c := 1) (n := 1) rfl (by omega) h1 hwd (by omega)
    rw [← lv_n_add d 1 L] at q2
    rw [fn_X8_isSoWith_L13, if_neg (show ¬ (20 : Int32) < nI d from nI_nlt (a := 20) (b := d) (by omega) (by omega)), show fn_X8_isSoWith_L22 (nI d) _ mm_fu 0 R = _ from p1, q1]
    simp only [Option.bind_some]
    rw [nI_1]
    have w2 : r_w R R2 := r_w_tr ⟨fun x _ _ h => p2 x h, fun j _ _ => by rw [p2 0 (by omega)]⟩ (r_w_of (r_s_of q5))
    obtain ⟨R', y1, y2, y3⟩ := ih (d + 1) fu R2 q2 (by omega) (by omega) (fun e i he hi => by
      rw [q5.1 6 (by omega) (by omega)]
      by_cases ed : e = d
      · subst ed
        exact p3 i (by omega) hi
      · rw [p4 _ (by omega)]
        exact hq e i (by omega) hi)
    exact ⟨R', y1, y2, r_w_tr w2 y3⟩
theorem r_so_L {C R : mm_M} {L : LV} (hn : n ≤ 6) (hs : sq C (R 1) n m a b c) (hw : lw L) (hL : L 0 0 = n) (hq : ∀ e i, e < 21 → i < L 0 0 → R 6 (6 * e + i) = nI (lv_n e L 4 i)) (k : Int32 → mm_M → Option (Int32 × mm_M)) : ∀ z i fuel, i + z = m → z < fuel →
    fn_X8_isSoWith_L75 k fuel (if agr i a b c L = true then 1 else 0) (nI i) R = k (if agr m a b c L = true then 1 else 0) R := by
  have hm := hs.1
  intro z
  induction z with
  | zero =>
    intro i fuel hi hf
    obtain ⟨fu, rfl⟩ : ∃ f, fuel = f + 1 := ⟨fuel - 1, by omega⟩
    have : i = m := by omega
    subst this
    rw [fn_X8_isSoWith_L75, hs.2.2.1, if_pos (nI_le (Nat.le_refl _) (by omega))]
  | succ z ih =>
    intro i fuel hi hf
    obtain ⟨fu, rfl⟩ : ∃ f, fuel = f + 1 := ⟨fuel - 1, by omega⟩
    obtain ⟨⟨g1, g2, g3⟩, -, g7, g8, g9⟩ := hs.2.2.2 i (by omega)
    have w4 := ((lv_n_w (a i) hw).2.2.2 (b i) (by rw [(lv_n_k _ _).1]; omega)).2.2.2
    have e3 : (39 : Int32) + 3 * nI i = nI (39 + 3 * i) := by
      rw [show (3 : Int32) * nI i = nI (3 * i) from pk_mul 3 i]
      exact nI_add 39 _
    have i1 : nI (39 + 3 * i) + 1 = nI (39 + 3 * i + 1) := nI_add _ 1
    have i2 : nI (39 + 3 * i) + 2 = nI (39 + 3 * i + 2) := nI_add _ 2
    have e6 : (6 : Int32) * nI (a i) + nI (b i) = nI (6 * a i + b i) := by
      rw [show (6 : Int32) * nI (a i) = nI (6 * a i) from pk_mul 6 _, nI_add]
    have step := ih (i + 1) fu (by omega) (by omega)
    have ag : (agr (i + 1) a b c L = true) = (agr i a b c L = true ∧ lv_n (a i) L 4 (b i) = c i) := by
      apply propext
      unfold agr
      rw [decide_eq_true_eq, decide_eq_true_eq]
      refine ⟨fun h => ⟨fun q hq => h q (by omega), h i (by omega)⟩, fun h q hq => ?_⟩
      by_cases e : q = i
      · subst e; exact h.2
      · exact h.1 q (by omega)
    rw [fn_X8_isSoWith_L75, hs.2.2.1, if_neg (nI_ge (by omega) (by omega))]
    simp only [mm_let, e3, i1, i2]
    rw [nI_1]
    by_cases ea : agr i a b c L = true
    · rw [if_pos ea, if_neg (by decide), if_pos (pu_in (by omega) (by omega)), if_pos (pu_in (by omega) (by omega)), nI_clamp (by omega), nI_clamp (by omega), g7, g8, e6, if_pos (pu_in (by omega) (by omega)), if_pos (pu_in (by omega) (by omega)), nI_clamp (by omega), nI_clamp (by omega), g9, hq (a i) (b i) (by omega) (by omega)]
      simp only [pu_eq (a := lv_n (a i) L 4 (b i)) (b := c i) (by omega) (by omega)]
      by_cases eb : lv_n (a i) L 4 (b i) = c i
      · rw [if_pos (by rw [ag]; exact ⟨ea, eb⟩)] at step
        rw [if_pos eb]
        exact step
      · rw [if_neg (by rw [ag]; exact fun q => eb q.2)] at step
        rw [if_neg eb]
        exact step
    · rw [if_neg (by rw [ag]; exact fun q => ea q.1)] at step
      rw [if_neg ea, if_pos rfl]
      exact step
end
