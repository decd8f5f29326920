/-! least rules, stain -/
theorem lC_fr {C C' : mm_M} {L : LV} (h : c_fr 8 C C') (hc : lC C 1 L) : lC C' 1 L := lC_eq (fun a _ _ => h a (by omega)) hc
theorem least_L {L : LV} {n : Nat} {c1 : Int32} (hw : lw L) (hd : L 0 1 ≤ 999) (hn : n ≤ 60) (w : Nat) (hcw : c1 = nI w) (h5 : w < 5) : ∀ m v fuel fuel' (C R : mm_M), lC C 1 L → lR (R 1) L → v + m = sm_most w + 1 → m < fuel → m < fuel' →
    ∃ (r : Int32) (C' R' : mm_M), fn_X7_leastOfRule_L18 c1 (nI n) (fun x M => some (x, M)) (fun M => some (-4, M)) fuel (nI v) C = some (r, C') ∧ fn_X8_leastRule_L2 c1 (nI n) (fun x M => some (x, M)) (fun M => some (-4, M)) fuel' (nI v) R = some (r, R') ∧ c_sc C C' ∧ r_sc R R' := by
  subst hcw
  obtain ⟨m1, m2, m3⟩ := sm_most_eq w h5
  have hin := pu_in (i := w) (n := 5) h5 (by omega)
  have hcl : (nI w).toNatClampNeg = w := nI_clamp (by omega)
  intro m
  induction m with
  | zero =>
    intro v fuel fuel' C R hc hr hv hf hf'
    obtain ⟨f, rfl⟩ : ∃ f, fuel = f + 1 := ⟨fuel - 1, by omega⟩
    obtain ⟨f', rfl⟩ : ∃ f, fuel' = f + 1 := ⟨fuel' - 1, by omega⟩
    have hlt : mm_sav 1 w < nI v := by rw [← m1]; exact nI_lt (by omega) (by omega)
    refine ⟨-4, C, R, ?_, ?_, c_sc_rf C, r_sc_rf R⟩
    · rw [fn_X7_leastOfRule_L18, if_pos hin, hcl, if_pos hlt]
    · rw [fn_X8_leastRule_L2, pl_most w h5]
      simp only [Option.bind_some]
      rw [if_pos hlt]
  | succ m ih =>
    intro v fuel fuel' C R hc hr hv hf hf'
    obtain ⟨f, rfl⟩ : ∃ f, fuel = f + 1 := ⟨fuel - 1, by omega⟩
    obtain ⟨f', rfl⟩ : ∃ f, fuel' = f + 1 := ⟨fuel' - 1, by omega⟩
    have hlt : ¬ mm_sav 1 w < nI v := by rw [← m1]; exact nI_nlt (by omega) (by omega)
    have hw' : lw (lu L 5 w v) := lw_rule hw w v h5 (by omega)
    have hd' : (lu L 5 w v) 0 1 = L 0 1 := by rw [lu_ne _ _ _ (by omega)]
    obtain ⟨C1, a1, a2, a3⟩ := c_begin hc hw
    obtain ⟨R1, b1, b2, b3, b4, b5, b6⟩ := r_begin hr hw
    have a4 : lC (mm_up C1 13 w (nI v)) 8 (lu L 5 w v) := lC_up a2 5 w v (by omega)
    have b7 : lR ((mm_up R1 2 (25 + w) (nI v)) 2) (lu L 5 w v) := by
      rw [pu_up_at]
      exact lR_rule b2 w v hw.1 h5
    obtain ⟨C2, p1, p2⟩ := c_till (c := nI n) rfl hn a4 hw' (by omega)
    obtain ⟨R2, q1, q2, q3, q4, q5⟩ := r_go (c := nI n) rfl hn b7 hw' (by omega)
    have hC2 : c_fr 8 C C2 := c_fr_tr a3 (c_fr_tr (c_fr_up C1 w (nI v) (by omega)) p2)
    have hR2 : r_s R R2 := r_s_tr b6 (r_s_tr (r_s_up R1 _ _) (r_s_of q5))
    have hmono := til_mono lv_done_mono n 0 (lu L 5 w v) (by omega)
    have htl := til_le lv_done (n + 1) 0 (lu L 5 w v) (by omega)
    have e25 : (25 : Int32) + nI w = nI (25 + w) := nI_add 25 w
    rw [fn_X7_leastOfRule_L18, if_pos hin, hcl, if_neg hlt, a1, fn_X8_leastRule_L2, pl_most w h5]
    simp only [Option.bind_some]
    rw [if_neg hlt, b1]
    simp only [Option.bind_some, mm_let]
    rw [p1, e25, if_pos (pu_in (by omega) (by omega)), nI_clamp (by omega), q1]
    simp only [Option.bind_some]
    rw [r_all q2 (lv_n_w n hw')]
    simp only [Option.bind_some, show (nI (til lv_done (n + 1) 0 (lu L 5 w v)) = (61 : Int32)) = (til lv_done (n + 1) 0 (lu L 5 w v) = 61) from pu_eq (b := 61) (by omega) (by omega), hmono]
    by_cases e : lv_done (lv_n n (lu L 5 w v)) = true
    · rw [if_neg (fun q => q e), if_pos e, if_neg (by decide)]
      exact ⟨_, C2, R2, rfl, rfl, c_sc_of hC2, r_sc_of hR2⟩
    · rw [if_pos e, if_neg e, if_pos rfl, nI_1]
      obtain ⟨r, C', R', x1, x2, x3, x4⟩ := ih (v + 1) f f' C2 R2 (lC_fr hC2 hc) (by rw [hR2.1 1 (by omega) (by omega)]; exact hr) (by omega) (by omega) (by omega)
      exact ⟨r, C', R', x1, x2, c_sc_tr (c_sc_of hC2) x3, r_sc_tr (r_sc_of hR2) x4⟩
theorem least_ok {C R : mm_M} (h : sm_S C R) {n : Nat} (hn : n ≤ 60) (w : Nat) {c1 : Int32} (hcw : c1 = nI w) (h5 : w < 5) (h0 : mm_sav 0 w = 0) : ∃ (r : Int32) (C' R' : mm_M), fn_X7_leastOfRule c1 (nI n) C = some (r, C') ∧ fn_X8_leastRule c1 (nI n) R = some (r, R') ∧ sm_S C' R' := by
  obtain ⟨L, hw, hd, hc, hr, hsn⟩ := sm_L h
  obtain ⟨m1, m2, m3⟩ := sm_most_eq w h5
  have e : pw_b (nI n) 0 60 = 1 := by
    rcases pw_60C (nI n) with e | ⟨_, _, _, e⟩
    · exfalso
      unfold pw_b at e
      rw [if_neg (nI_pos (by omega)), if_neg (show ¬ (60 : Int32) < nI n from nI_nlt (b := n) (a := 60) (by omega) (by omega))] at e
      exact absurd e (by decide)
    · exact e
  obtain ⟨r, C', R', x1, x2, x3, x4⟩ := least_L hw hd hn w hcw h5 (sm_most w + 1) 0 mm_fu mm_fu C R hc hr (by omega) (by have := mm_fu_ge; omega) (by have := mm_fu_ge; omega)
  refine ⟨r, C', R', ?_, x2, sm_scr h x3 x4⟩
  unfold fn_X7_leastOfRule
  rw [pw_C]
  simp only [Option.bind_some, e]
  rw [if_neg (by decide), hcw, if_pos (pu_in h5 (by omega)), nI_clamp (by omega), h0, ← hcw]
  exact x1
theorem so_blue : sj_blue sm_S := by
  intro C R h c
  rcases pw_60C c with e | ⟨n, hn, rfl, e⟩
  · refine ⟨-1, C, R, ?_, ?_, h⟩
    · simp [fn_X7_blue, fn_X7_leastOfRule, pw_C, e]
    · simp [fn_X8_blue, pw_far, e]
  · obtain ⟨r, C', R', x1, x2, x3⟩ := least_ok h hn 0 (c1 := 0) rfl (by omega) rfl
    refine ⟨r, C', R', ?_, ?_, x3⟩
    · simp [fn_X7_blue, x1]
    · simp [fn_X8_blue, pw_far, e, x2]
theorem so_pegs : sj_pegs sm_S := by
  intro C R h c
  rcases pw_60C c with e | ⟨n, hn, rfl, e⟩
  · refine ⟨-1, C, R, ?_, ?_, h⟩
    · simp [fn_X7_pegs, fn_X7_leastOfRule, pw_C, e]
    · simp [fn_X8_pegs, pw_far, e]
  · obtain ⟨r, C', R', x1, x2, x3⟩ := least_ok h hn 2 (c1 := 2) rfl (by omega) rfl
    refine ⟨r, C', R', ?_, ?_, x3⟩
    · simp [fn_X7_pegs, x1]
    · simp [fn_X8_pegs, pw_far, e, x2]
/-- one number of one of them is tried on both sides -/
theorem try_one {C R : mm_M} {L : LV} (hw : lw L) (hc : lC C 1 L) (hr : lR (R 1) L) (c j v : Nat) (hc4 : c < 4) (hj : j < L 0 0) (hv : v ≤ [3, 60, 20, 2].getD c 0) : ∃ C1 R1, fn_X2_become 8 1 C = some C1 ∧ fn_X8_starts R = some R1 ∧ fn_X8_becomesOf (nI j) (nI c) (nI v) R1 = some (mm_up R1 2 (4 * j + c) (nI v)) ∧ lC (mm_up C1 (9 + c) j (nI v)) 8 (lu L (1 + c) j v) ∧ lR ((mm_up R1 2 (4 * j + c) (nI v)) 2) (lu L (1 + c) j v) ∧ lw (lu L (1 + c) j v) ∧ (lu L (1 + c) j v) 0 = L 0 ∧ c_fr 8 C (mm_up C1 (9 + c) j (nI v)) ∧ r_s R (mm_up R1 2 (4 * j + c) (nI v)) := by
  have h6 := hw.1
  obtain ⟨C1, a1, a2, a3⟩ := c_begin hc hw
  obtain ⟨R1, b1, b2, b3, b4, b5, b6⟩ := r_begin hr hw
  refine ⟨C1, R1, a1, b1, r_be R1 (by omega) c (nI v) rfl hc4, ?_, lR_row b2 hw.1 (by omega) c v hc4, ?_, lu_ne _ _ _ (by omega), c_fr_tr a3 (c_fr_up C1 _ _ (by omega)), r_s_tr b6 (r_s_up _ _ _)⟩
  · have := lC_up a2 (1 + c) j v (by omega)
    rw [show 8 + (1 + c) = 9 + c by omega] at this
    exact this
  · refine lw_up hw (1 + c) j v ?_
    match c, hc4 with
    | 0, _ => simp at hv ⊢; omega
    | 1, _ => simp at hv ⊢; omega
    | 2, _ => simp at hv ⊢; omega
    | 3, _ => simp at hv ⊢; omega
theorem stain_L {L : LV} {n j : Nat} (hw : lw L) (hd : L 0 1 ≤ 999) (hn : n ≤ 60) (hj : j < L 0 0) : ∀ v fuel fuel' (C R : mm_M), lC C 1 L → lR (R 1) L → v ≤ 60 → v + 1 < fuel → v + 1 < fuel' →
    ∃ (r : Int32) (C' R' : mm_M), fn_X7_stain_L23 (nI j) (nI n) (fun x M => some (x, M)) (fun M => some (-4, M)) fuel (nI v) C = some (r, C') ∧ fn_X8_stain_L20 (nI j) (nI n) (fun x M => some (x, M)) (fun M => some (-4, M)) fuel' (nI v) R = some (r, R') ∧ c_sc C C' ∧ r_sc R R' := by
  have h6 := hw.1
  have hin := pu_in (i := j) (n := 6) (by omega) (by omega)
  have hcl : (nI j).toNatClampNeg = j := nI_clamp (by omega)
  have step : ∀ v f f' (C R : mm_M), lC C 1 L → lR (R 1) L → v ≤ 60 → (∀ C2 R2, lC C2 1 L → lR (R2 1) L → ∃ (r : Int32) (C' R' : mm_M), fn_X7_stain_L23 (nI j) (nI n) (fun x M => some (x, M)) (fun M => some (-4, M)) f (nI v + (-1)) C2 = some (r, C') ∧ fn_X8_stain_L20 (nI j) (nI n) (fun x M => some (x, M)) (fun M => some (-4, M)) f' (nI v + (-1)) R2 = some (r, R') ∧ c_sc C2 C' ∧ r_sc R2 R') →
      ∃ (r : Int32) (C' R' : mm_M), fn_X7_stain_L23 (nI j) (nI n) (fun x M => some (x, M)) (fun M => some (-4, M)) (f + 1) (nI v) C = some (r, C') ∧ fn_X8_stain_L20 (nI j) (nI n) (fun x M => some (x, M)) (fun M => some (-4, M)) (f' + 1) (nI v) R = some (r, R') ∧ c_sc C C' ∧ r_sc R R' := by
    intro v f f' C R hc hr hv next
    obtain ⟨C1, R1, a1, b1, b2, a4, b7, hw', l0, a5, b8⟩ := try_one hw hc hr 1 j v (by omega) hj (by simpa using hv)
    have l00 : (lu L (1 + 1) j v) 0 0 = L 0 0 := by rw [l0]
    have l01 : (lu L (1 + 1) j v) 0 1 = L 0 1 := by rw [l0]
    obtain ⟨C2, p1, p2⟩ := c_tilh (c := nI n) rfl hn (i := j) (by omega) a4 hw' (by omega)
    obtain ⟨R2, q1, q2, q3, q4, q5⟩ := r_go (c := nI n) rfl hn b7 hw' (by omega)
    have hC2 := c_fr_tr a5 p2
    have hR2 := r_s_tr b8 (r_s_of q5)
    have hmono := til_mono (lv_home_mono j) n 0 (lu L (1 + 1) j v) (by omega)
    have htl := til_le (lv_home j) (n + 1) 0 (lu L (1 + 1) j v) (by omega)
    have hk := lv_n_k n (lu L (1 + 1) j v)
    have w4 := ((lv_n_w n hw').2.2.2 j (by omega)).2.2.2
    rw [fn_X7_stain_L23, if_neg (nI_pos (by omega)), a1, fn_X8_stain_L20, if_neg (nI_pos (by omega)), b1]
    simp only [Option.bind_some, mm_let]
    rw [if_pos hin, hcl]
    rw [show fn_X8_becomesOf (nI j) 1 (nI v) R1 = _ from b2]
    simp only [Option.bind_some]
    rw [show fn_X2_daysTillHome 8 (nI j) (nI n) (mm_up C1 10 j (nI v)) = _ from p1, q1]
    simp only [Option.bind_some]
    rw [r_of q2 (by omega) (i := j) (by omega) 3 (cc := 3) rfl (by omega)]
    simp only [Option.bind_some, show (nI (til (lv_home j) (n + 1) 0 (lu L (1 + 1) j v)) = (61 : Int32)) = (til (lv_home j) (n + 1) 0 (lu L (1 + 1) j v) = 61) from pu_eq (b := 61) (by omega) (by omega), hmono, show (nI (lv_n n (lu L (1 + 1) j v) (1 + 3) j) = (2 : Int32)) = (lv_n n (lu L (1 + 1) j v) 4 j = 2) from pu_eq (a := lv_n n (lu L (1 + 1) j v) 4 j) (b := 2) (by omega) (by omega), lv_home, decide_eq_true_eq]
    by_cases e : lv_n n (lu L (1 + 1) j v) 4 j = 2
    · rw [if_neg (fun q => q e), if_pos e]
      exact ⟨_, C2, R2, rfl, rfl, c_sc_of hC2, r_sc_of hR2⟩
    · rw [if_pos e, if_neg e]
      obtain ⟨r, C', R', x1, x2, x3, x4⟩ := next C2 R2 (lC_fr hC2 hc) (by rw [hR2.1 1 (by omega) (by omega)]; exact hr)
      exact ⟨r, C', R', x1, x2, c_sc_tr (c_sc_of hC2) x3, r_sc_tr (r_sc_of hR2) x4⟩
  intro v
  induction v with
  | zero =>
    intro fuel fuel' C R hc hr hv hf hf'
    obtain ⟨f, rfl⟩ : ∃ f, fuel = f + 1 + 1 := ⟨fuel - 2, by omega⟩
    obtain ⟨f', rfl⟩ : ∃ f, fuel' = f + 1 + 1 := ⟨fuel' - 2, by omega⟩
    refine step 0 (f + 1) (f' + 1) C R hc hr hv (fun C2 R2 _ _ => ⟨-4, C2, R2, ?_, ?_, c_sc_rf _, r_sc_rf _⟩)
    · rw [fn_X7_stain_L23, if_pos (by decide)]
    · rw [fn_X8_stain_L20, if_pos (by decide)]
  | succ v ih =>
    intro fuel fuel' C R hc hr hv hf hf'
    obtain ⟨f, rfl⟩ : ∃ f, fuel = f + 1 := ⟨fuel - 1, by omega⟩
    obtain ⟨f', rfl⟩ : ∃ f, fuel' = f + 1 := ⟨fuel' - 1, by omega⟩
    refine step (v + 1) f f' C R hc hr hv (fun C2 R2 hc2 hr2 => ?_)
    rw [pk_m1]
    exact ih f f' C2 R2 hc2 hr2 (by omega) (by omega) (by omega)
theorem so_stain : sj_stain sm_S := by
  intro C R h c d
  obtain ⟨L, hw, hd, hc, hr, hsn⟩ := sm_L h
  have h6 := hw.1
  have hc0 : C 1 0 = nI (L 0 0) := hc.1
  have hr0 : R 1 24 = nI (L 0 0) := hr.1
  rcases pw_one c (L 0 0) (by omega) with e | ⟨j, hj, rfl, e⟩
  · refine ⟨-1, C, R, ?_, ?_, h⟩
    · simp [fn_X7_stain, pw_oneC, hc0, e]
    · simp [fn_X8_stain, pw_oneR, hr0, e]
  · rcases pw_60C d with e2 | ⟨n, hn, rfl, e2⟩
    · refine ⟨-1, C, R, ?_, ?_, h⟩
      · simp [fn_X7_stain, pw_oneC, hc0, e, pw_C, e2]
      · simp [fn_X8_stain, pw_oneR, hr0, e, pw_far, e2]
    · obtain ⟨r, C', R', x1, x2, x3, x4⟩ := stain_L hw hd hn hj 60 mm_fu mm_fu C R hc hr (by omega) (by have := mm_fu_ge; omega) (by have := mm_fu_ge; omega)
      refine ⟨r, C', R', ?_, ?_, sm_scr h x3 x4⟩
      · simp only [fn_X7_stain, pw_oneC, hc0, e, pw_C, e2, Option.bind_some]
        rw [if_neg (by decide), if_neg (by decide)]
        exact x1
      · simp only [fn_X8_stain, pw_oneR, hr0, e, pw_far, e2, Option.bind_some]
        rw [if_neg (by decide), if_neg (by decide)]
        exact x2
