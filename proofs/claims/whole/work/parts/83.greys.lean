/-! kinds, greys -/
theorem sn_sq {C : mm_M} {f : Nat → Int32} {n : Nat} (h : sm_sn C 19 f n) : ∃ m a b c, sq C f n m a b c := by
  obtain ⟨m, a, b, c, h1, h2, h3, h4⟩ := h
  exact ⟨m, a, b, c, h1, h2, h3, h4⟩
/-- with one number of one of them otherwise: the reference -/
theorem r_so {C R : mm_M} {L : LV} {m : Nat} {a b c : Nat → Nat} (hw : lw L) (hd : L 0 1 ≤ 999) (hr : lR (R 1) L) (hs : sq C (R 1) (L 0 0) m a b c) (x j v : Nat) (hx : x < 4) (hj : j < L 0 0) (hv : v ≤ [3, 60, 20, 2].getD x 0) {c1 : Int32} (hc1 : c1 = nI (4 * j + x)) :
    ∃ R', fn_X8_isSoWith c1 (nI v) R = some (if agr m a b c (lu L (1 + x) j v) = true then 1 else 0, R') ∧ (∀ e i, e < 21 → i < L 0 0 → R' 6 (6 * e + i) = nI (lv_n e (lu L (1 + x) j v) 4 i)) ∧ r_w R R' := by
  subst hc1
  have h6 := hw.1
  obtain ⟨R1, b1, b2, b3, b4, b5, b6⟩ := r_begin hr hw
  have l0 : (lu L (1 + x) j v) 0 = L 0 := lu_ne _ _ _ (by omega)
  have l00 : (lu L (1 + x) j v) 0 0 = L 0 0 := by rw [l0]
  have l01 : (lu L (1 + x) j v) 0 1 = L 0 1 := by rw [l0]
  have hw' : lw (lu L (1 + x) j v) := by
    refine lw_up hw (1 + x) j v ?_
    match x, hx with
    | 0, _ => simp at hv ⊢; omega
    | 1, _ => simp at hv ⊢; omega
    | 2, _ => simp at hv ⊢; omega
    | 3, _ => simp at hv ⊢; omega
  have h2 : lR ((mm_up R1 2 (4 * j + x) (nI v)) 2) (lu L (1 + x) j v) := lR_row b2 h6 (by omega) x v hx
  obtain ⟨R2, p1, p2, p3⟩ := r_were_L hw' (by omega) (fun M_12 => fn_X8_isSoWith_L75 (fun x3_22 M_23 => (if x3_22 = 0 ∨ x3_22 = 1 then some (x3_22, M_23) else none)) mm_fu 1 0 M_12) 21 0 mm_fu (mm_up R1 2 (4 * j + x) (nI v)) h2 (by omega) (by have := mm_fu_ge; omega) (fun e i he _ => by omega)
  have wR : r_w R R2 := r_w_tr (r_w_of (r_s_tr b6 (r_s_up _ _ _))) p3
  have hs2 : sq C (R2 1) (L 0 0) m a b c := by rw [wR.1 1 (by omega) (by omega) (by omega)]; exact hs
  have hm := hs.1
  have q := r_so_L h6 hs2 hw' l00 p2 (fun x3_22 M_23 => (if x3_22 = 0 ∨ x3_22 = 1 then some (x3_22, M_23) else none)) m 0 mm_fu (by omega) (by have := mm_fu_ge; omega)
  rw [if_pos (show agr 0 a b c (lu L (1 + x) j v) = true from decide_eq_true (fun q h => by omega))] at q
  refine ⟨R2, ?_, fun e i he hi => p2 e i he (by omega), wR⟩
  unfold fn_X8_isSoWith
  rw [b1]
  simp only [pb_some]
  rw [if_pos (pu_in (by omega) (by omega)), nI_clamp (by omega), mm_leq]
  refine p1.trans (q.trans ?_)
  rw [if_pos]
  split
  · exact Or.inr rfl
  · exact Or.inl rfl
theorem pb_flag {b i : Nat} (P : Bool) (hb : b < 2 ^ 31) (hi : i < 31) : nI b ||| ((if P = true then (1 : Int32) else 0) <<< (nI i &&& 31)) = nI (b ||| if P = true then 2 ^ i else 0) := by
  by_cases e : P = true
  · rw [if_pos e, if_pos e, pb_or hb hi]
  · have z : (0 : Int32) <<< (nI i &&& 31) = nI 0 := by
      have := pk_shlN (n := 0) (nI i &&& 31) i (pb_sh ⟨i, by omega⟩) (by omega)
      rw [Nat.zero_mul] at this
      exact this
    rw [if_neg e, if_neg e, z, pb_or2 (by omega) (by omega)]
theorem which_L {C : mm_M} {L : LV} {m : Nat} {a b c : Nat → Nat} (hw : lw L) (hd : L 0 1 ≤ 999) (x j most : Nat) (hx : x < 4) (hj : j < L 0 0) (hmost : most ≤ 30) (hv : most ≤ [3, 60, 20, 2].getD x 0) {c1 : Int32} (hc1 : c1 = nI (4 * j + x)) (k : Int32 → mm_M → Option (Int32 × mm_M)) : ∀ z v fuel (R : mm_M), lR (R 1) L → sq C (R 1) (L 0 0) m a b c → v + z = most + 1 → z < fuel →
    ∃ R', fn_X8_which_L5 c1 (nI most) k fuel (nI (lv_bits (fun y => agr m a b c (lu L (1 + x) j y)) v)) (nI v) R = k (nI (lv_bits (fun y => agr m a b c (lu L (1 + x) j y)) (most + 1))) R' ∧ r_w R R' := by
  intro z
  induction z with
  | zero =>
    intro v fuel R hr hs hz hf
    obtain ⟨fu, rfl⟩ : ∃ f, fuel = f + 1 := ⟨fuel - 1, by omega⟩
    have : v = most + 1 := by omega
    subst this
    refine ⟨R, ?_, r_w_rf R⟩
    rw [fn_X8_which_L5, if_pos (nI_lt (by omega) (by omega))]
  | succ z ih =>
    intro v fuel R hr hs hz hf
    obtain ⟨fu, rfl⟩ : ∃ f, fuel = f + 1 := ⟨fuel - 1, by omega⟩
    obtain ⟨R1, p1, p2, p3⟩ := r_so hw hd hr hs x j v hx hj (by omega) hc1
    have hr1 : R1 1 = R 1 := p3.1 1 (by omega) (by omega) (by omega)
    have h31 := lv_bits_31 (fun y => agr m a b c (lu L (1 + x) j y)) (n := v) (by omega)
    rw [fn_X8_which_L5, if_neg (nI_nlt (by omega) (by omega)), p1]
    simp only [Option.bind_some]
    rw [r_flag01 R1 (by split <;> simp)]
    simp only [Option.bind_some]
    rw [mm_leq, pb_flag _ h31 (by omega), nI_1]
    obtain ⟨R', y1, y2⟩ := ih (v + 1) fu R1 (by rw [hr1]; exact hr) (by rw [hr1]; exact hs) (by omega) (by omega)
    exact ⟨R', y1, r_w_tr p3 y2⟩
theorem c_kinds_L {f : Nat → Int32} {L : LV} {m : Nat} {a b c : Nat → Nat} (hw : lw L) (hd : L 0 1 ≤ 999) (j : Nat) (hj : j < L 0 0) (k : Int32 → mm_M → Option (Int32 × mm_M)) : ∀ z v fuel (C : mm_M), lC C 1 L → sq C f (L 0 0) m a b c → v + z = 4 → z < fuel →
    ∃ C', fn_X7_kinds_L14 (nI j) k fuel (nI (lv_bits (fun y => agr m a b c (lu L (1 + 0) j y)) v)) (nI v) C = k (nI (lv_bits (fun y => agr m a b c (lu L (1 + 0) j y)) 4)) C' ∧ c_fr 8 C C' := by
  have h6 := hw.1
  intro z
  induction z with
  | zero =>
    intro v fuel C hc hs hz hf
    obtain ⟨fu, rfl⟩ : ∃ f, fuel = f + 1 := ⟨fuel - 1, by omega⟩
    have : v = 4 := by omega
    subst this
    refine ⟨C, ?_, c_fr_rf 8 C⟩
    rw [fn_X7_kinds_L14, if_pos (by decide)]
  | succ z ih =>
    intro v fuel C hc hs hz hf
    obtain ⟨fu, rfl⟩ : ∃ f, fuel = f + 1 := ⟨fuel - 1, by omega⟩
    obtain ⟨C1, a1, a2, a3⟩ := c_begin hc hw
    have l0 : (lu L (1 + 0) j v) 0 = L 0 := lu_ne _ _ _ (by omega)
    have hw' : lw (lu L (1 + 0) j v) := lw_up hw (1 + 0) j v (by omega)
    have a4 : lC (mm_up C1 9 j (nI v)) 8 (lu L (1 + 0) j v) := lC_up a2 1 j v (by omega)
    have f1 : c_fr 8 C (mm_up C1 9 j (nI v)) := c_fr_tr a3 (c_fr_up C1 _ _ (by omega))
    obtain ⟨C2, p1, p2⟩ := c_agr h6 (sq_fr hs (fun x _ _ => f1 x (by omega))) a4 hw' (by rw [l0]) (by rw [l0]; omega)
    have f2 := c_fr_tr f1 p2
    have h31 := lv_bits_31 (fun y => agr m a b c (lu L (1 + 0) j y)) (n := v) (by omega)
    rw [fn_X7_kinds_L14, if_neg (show ¬ (4 : Int32) ≤ nI v from nI_ge (b := 4) (by omega) (by omega)), a1]
    simp only [Option.bind_some]
    rw [if_pos (pu_in (by omega) (by omega)), nI_clamp (by omega), mm_leq, p1]
    simp only [Option.bind_some]
    obtain ⟨C', y1, y2⟩ := ih (v + 1) fu C2 (lC_fr f2 hc) (sq_fr hs (fun x _ _ => f2 x (by omega))) (by omega) (by omega)
    refine ⟨C', ?_, c_fr_tr f2 y2⟩
    rw [lv_bits] at y1
    by_cases e : agr m a b c (lu L (1 + 0) j v) = true
    · rw [if_pos e] at y1 ⊢
      rw [if_neg (by decide), mm_leq, pb_or h31 (by omega), nI_1]
      exact y1
    · rw [if_neg e, Nat.or_zero] at y1
      rw [if_neg e, if_pos rfl, nI_1]
      exact y1
theorem c_greys_L {f : Nat → Int32} {L : LV} {m : Nat} {a b c : Nat → Nat} (hw : lw L) (hd : L 0 1 ≤ 999) (j : Nat) (hj : j < L 0 0) (k : Int32 → mm_M → Option (Int32 × mm_M)) : ∀ z v fuel (C : mm_M), lC C 1 L → sq C f (L 0 0) m a b c → v + z = 31 → z < fuel →
    ∃ C', fn_X7_greysAsSeen_L4 (nI j) k fuel (nI (lv_bits (fun y => agr m a b c (lu L (1 + 1) j y)) v)) (nI v) C = k (nI (lv_bits (fun y => agr m a b c (lu L (1 + 1) j y)) 31)) C' ∧ c_fr 8 C C' := by
  have h6 := hw.1
  intro z
  induction z with
  | zero =>
    intro v fuel C hc hs hz hf
    obtain ⟨fu, rfl⟩ : ∃ f, fuel = f + 1 := ⟨fuel - 1, by omega⟩
    have : v = 31 := by omega
    subst this
    refine ⟨C, ?_, c_fr_rf 8 C⟩
    rw [fn_X7_greysAsSeen_L4, if_pos (by decide)]
  | succ z ih =>
    intro v fuel C hc hs hz hf
    obtain ⟨fu, rfl⟩ : ∃ f, fuel = f + 1 := ⟨fuel - 1, by omega⟩
    obtain ⟨C1, a1, a2, a3⟩ := c_begin hc hw
    have l0 : (lu L (1 + 1) j v) 0 = L 0 := lu_ne _ _ _ (by omega)
    have hw' : lw (lu L (1 + 1) j v) := lw_up hw (1 + 1) j v (by omega)
    have a4 : lC (mm_up C1 10 j (nI v)) 8 (lu L (1 + 1) j v) := lC_up a2 2 j v (by omega)
    have f1 : c_fr 8 C (mm_up C1 10 j (nI v)) := c_fr_tr a3 (c_fr_up C1 _ _ (by omega))
    obtain ⟨C2, p1, p2⟩ := c_agr h6 (sq_fr hs (fun x _ _ => f1 x (by omega))) a4 hw' (by rw [l0]) (by rw [l0]; omega)
    have f2 := c_fr_tr f1 p2
    have h31 := lv_bits_31 (fun y => agr m a b c (lu L (1 + 1) j y)) (n := v) (by omega)
    rw [fn_X7_greysAsSeen_L4, if_neg (show ¬ (31 : Int32) ≤ nI v from nI_ge (b := 31) (by omega) (by omega)), a1]
    simp only [Option.bind_some]
    rw [if_pos (pu_in (by omega) (by omega)), nI_clamp (by omega), mm_leq, p1]
    simp only [Option.bind_some]
    obtain ⟨C', y1, y2⟩ := ih (v + 1) fu C2 (lC_fr f2 hc) (sq_fr hs (fun x _ _ => f2 x (by omega))) (by omega) (by omega)
    refine ⟨C', ?_, c_fr_tr f2 y2⟩
    rw [lv_bits] at y1
    by_cases e : agr m a b c (lu L (1 + 1) j v) = true
    · rw [if_pos e] at y1 ⊢
      rw [if_neg (by decide), mm_leq, pb_or h31 (by omega), nI_1]
      exact y1
    · rw [if_neg e, Nat.or_zero] at y1
      rw [if_neg e, if_pos rfl, nI_1]
      exact y1
theorem so_kinds : sj_kinds sm_S := by
  intro C R h d
  obtain ⟨L, hw, hd, hc, hr, hsn⟩ := sm_L h
  have h6 := hw.1
  have hc0 : C 1 0 = nI (L 0 0) := hc.1
  have hr0 : R 1 24 = nI (L 0 0) := hr.1
  rcases pw_one d (L 0 0) (by omega) with e0 | ⟨j, hj, rfl, e0⟩
  · refine ⟨-1, C, R, ?_, ?_, h⟩
    · simp [fn_X7_kinds, pw_oneC, hc0, e0]
    · simp [fn_X8_kinds, pw_oneR, hr0, e0]
  · obtain ⟨m, a, b, c, hs⟩ := sn_sq hsn
    obtain ⟨C', p1, p2⟩ := c_kinds_L hw hd j hj (fun x2_10 M_11 => some (x2_10, M_11)) 4 0 mm_fu C hc hs (by omega) (by have := mm_fu_ge; omega)
    obtain ⟨R', q1, q2⟩ := which_L hw hd 0 j 3 (by omega) hj (by omega) (by decide) (c1 := 4 * nI j + 0) (r_ix j 0 rfl) (fun x3_5 M_6 => some (x3_5, M_6)) 4 0 mm_fu R hr hs (by omega) (by have := mm_fu_ge; omega)
    refine ⟨nI (lv_bits (fun y => agr m a b c (lu L (1 + 0) j y)) 4), C', R', ?_, ?_, sm_scr h (c_sc_of p2) (r_sc_w q2)⟩
    · simp only [fn_X7_kinds, pw_oneC, hc0, e0, pb_some]
      rw [if_neg (by decide)]
      exact p1
    · simp only [fn_X8_kinds, pw_oneR, hr0, e0, pb_some]
      rw [if_neg (by decide)]
      unfold fn_X8_which
      rw [show fn_X8_which_L5 (4 * nI j + 0) 3 _ mm_fu 0 0 R = _ from q1]
      rfl
theorem so_greys : sj_greys sm_S := by
  intro C R h d
  obtain ⟨L, hw, hd, hc, hr, hsn⟩ := sm_L h
  have h6 := hw.1
  have hc0 : C 1 0 = nI (L 0 0) := hc.1
  have hr0 : R 1 24 = nI (L 0 0) := hr.1
  rcases pw_one d (L 0 0) (by omega) with e0 | ⟨j, hj, rfl, e0⟩
  · refine ⟨-1, C, R, ?_, ?_, h⟩
    · simp [fn_X7_greys, pw_oneC, hc0, e0]
    · simp [fn_X8_greys, pw_oneR, hr0, e0]
  · obtain ⟨m, a, b, c, hs⟩ := sn_sq hsn
    obtain ⟨C', p1, p2⟩ := c_greys_L hw hd j hj (fun x2_10 M_11 => some (x2_10, M_11)) 31 0 mm_fu C hc hs (by omega) (by have := mm_fu_ge; omega)
    obtain ⟨R', q1, q2⟩ := which_L hw hd 1 j 30 (by omega) hj (by omega) (by decide) (c1 := 4 * nI j + 1) (r_ix j 1 rfl) (fun x3_5 M_6 => some (x3_5, M_6)) 31 0 mm_fu R hr hs (by omega) (by have := mm_fu_ge; omega)
    refine ⟨nI (lv_bits (fun y => agr m a b c (lu L (1 + 1) j y)) 31), C', R', ?_, ?_, sm_scr h (c_sc_of p2) (r_sc_w q2)⟩
    · simp only [fn_X7_greys, pw_oneC, hc0, e0, pb_some]
      rw [if_neg (by decide)]
      unfold fn_X7_greysAsSeen
      rw [show fn_X7_greysAsSeen_L4 (nI j) _ mm_fu 0 0 C = _ from p1]
      rfl
    · simp only [fn_X8_greys, pw_oneR, hr0, e0, pb_some]
      rw [if_neg (by decide)]
      unfold fn_X8_which
      rw [show fn_X8_which_L5 (4 * nI j + 1) 30 _ mm_fu 0 0 R = _ from q1]
      rfl
