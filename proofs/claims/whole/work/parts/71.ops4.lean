theorem sn_f2 {C : mm_M} {q m : Nat} {f f' : Nat → Int32} (e : ∀ j, 38 ≤ j → j < 57 → f' j = f j) (h : sm_sn C q f m) : sm_sn C q f' m := by
  obtain ⟨t, a, b, c, h1, h2, h3, h4⟩ := h
  exact ⟨t, a, b, c, h1, h2, by rw [e 38 (by omega) (by omega)]; exact h3, fun x hx => by
    obtain ⟨y1, y2, y3, y4, y5⟩ := h4 x hx
    exact ⟨y1, y2, by rw [e _ (by omega) (by omega)]; exact y3, by rw [e _ (by omega) (by omega)]; exact y4, by rw [e _ (by omega) (by omega)]; exact y5⟩⟩
/-! calls that run days -/
theorem pw_60C (c : Int32) : pw_b c 0 60 = 0 ∨ ∃ j : Nat, j ≤ 60 ∧ c = nI j ∧ pw_b c 0 60 = 1 := pw_lit c 60 (x := 60) rfl (by decide)
theorem pw_far (c : Int32) (M : mm_M) : fn_X8_isFar c M = some (pw_b c 0 60, M) := by
  unfold fn_X8_isFar
  rw [pw_R60]
  simp only [Option.bind_some]
  rw [pw_ite (pw_01 _ _ _)]
theorem pw_part (c : Int32) (M : mm_M) : fn_X8_isPart c M = some (pw_b c 0 1, M) := by
  unfold fn_X8_isPart
  rw [pw_R1]
  simp only [Option.bind_some]
  rw [pw_ite (pw_01 _ _ _)]
theorem pw_half (c : Int32) (M : mm_M) : fn_X7_isHalf c M = some (pw_b c 0 1, M) := by
  unfold fn_X7_isHalf
  rw [pw_C]
  simp only [Option.bind_some]
  rw [pw_ite (pw_01 _ _ _)]
theorem so_days : sj_days sm_S := by
  intro C R h c
  obtain ⟨L, hw, hd, hc, hr, hsn⟩ := sm_L h
  rcases pw_lit c 30 (x := 30) rfl (by decide) with e | ⟨n, hn, rfl, e⟩
  · refine ⟨-1, C, R, ?_, ?_, h⟩
    · simp [fn_X7_days, pw_C, e]
    · simp [fn_X8_days, pw_R30, e]
  · have hday : C 1 1 = nI (L 0 1) := hc.2.1
    have hdayr : R 1 37 = nI (L 0 1) := hr.2.1
    have cond : (nI (L 0 1 + n) ≤ (999 : Int32)) = (L 0 1 + n ≤ 999) := pu_le (b := 999) (by omega) (by omega)
    by_cases hf : L 0 1 + n ≤ 999
    · obtain ⟨C', p1, p2, p3⟩ := c_pass n (by omega) hc hw (by omega)
      obtain ⟨R1, q1, q2, q3, q4, q5, q6⟩ := r_begin hr hw
      obtain ⟨R2, s1, s2, s3, s4, s5⟩ := r_go (c := nI n) rfl (by omega) q2 hw (by omega)
      obtain ⟨R3, t1, t2, t3, t4⟩ := r_settles R2
      refine ⟨nI (lv_came n L), C', R3, ?_, ?_, ?_⟩
      · simp only [fn_X7_days, pw_C, Option.bind_some, e, hday, nI_add, cond]
        rw [if_neg (by decide), if_pos hf, p1]
        rfl
      · simp only [fn_X8_days, pw_R30, Option.bind_some, e, hdayr, nI_add, cond]
        rw [if_neg (by decide), if_pos hf, q1]
        simp only [Option.bind_some]
        rw [s1]
        simp only [Option.bind_some]
        rw [t1]
        simp only [Option.bind_some]
        rw [t4 0 (by omega), s4, q4, Int32.zero_add]
      · have hk := lv_n_k n L
        have hs' : sm_sn C' 19 (R3 1) (L 0 0) := by
          refine sm_sn_eq (fun a ha hb => p3 a (by omega)) ?_
          refine sn_f2 ?_ hsn
          intro j hj hj2
          rw [t2 j hj2, s5.2.2 j hj, q5 j hj2]
        refine sm_move h ⟨by rw [p3 0 (by omega)], by rw [p3 16 (by omega)], p3 17 (by omega), by rw [p3 18 (by omega)], fun a ha _ => p3 a (by omega)⟩ ⟨?_, ?_, ?_, ?_, ?_, ?_, ?_, ?_, ?_⟩ (sm_Lst (lv_n_w n hw) (by omega) p2 (lR_cg t2 (by have := hw.1; omega) s2) (by rw [hk.1]; exact hs'))
        · rw [t4 0 (by omega), s5.2.1 7 (by omega) (by omega), q6.2 7 (by omega) (by omega)]
        · rw [t4 0 (by omega), s5.2.1 12 (by omega) (by omega), q6.2 12 (by omega) (by omega)]
        · rw [t4 0 (by omega), s5.2.1 26 (by omega) (by omega), q6.2 26 (by omega) (by omega)]
        · intro j hj
          rw [t3 j hj, s5.1 1 (by omega) (by omega), q6.1 1 (by omega) (by omega)]
        · rw [t4 3 (by omega), s5.1 3 (by omega) (by omega), q6.1 3 (by omega) (by omega)]
        · rw [t4 5 (by omega), s5.1 5 (by omega) (by omega), q6.1 5 (by omega) (by omega)]
        · rw [t4 8 (by omega), s5.1 8 (by omega) (by omega), q6.1 8 (by omega) (by omega)]
        · rw [t4 9 (by omega), s5.1 9 (by omega) (by omega), q6.1 9 (by omega) (by omega)]
        · rw [t4 10 (by omega), s5.1 10 (by omega) (by omega), q6.1 10 (by omega) (by omega)]
    · refine ⟨-3, C, R, ?_, ?_, h⟩
      · simp only [fn_X7_days, pw_C, Option.bind_some, e, hday, nI_add, cond]
        rw [if_neg (by decide), if_neg hf]
      · simp only [fn_X8_days, pw_R30, Option.bind_some, e, hdayr, nI_add, cond]
        rw [if_neg (by decide), if_neg hf]
theorem so_done : sj_done sm_S := by
  intro C R h
  obtain ⟨L, hw, hd, hc, hr, hsn⟩ := sm_L h
  obtain ⟨C1, a1, a2, a3⟩ := c_begin hc hw
  obtain ⟨R1, b1, b2, b3, b4, b5, b6⟩ := r_begin hr hw
  obtain ⟨C2, p1, p2⟩ := c_till (c := 60) (n := 60) rfl (by omega) a2 hw (by omega)
  obtain ⟨R2, q1, q2⟩ := r_till b2 hw (by omega)
  refine ⟨nN (til lv_done 61 0 L), C2, R2, ?_, ?_, sm_scr h (c_sc_tr (c_sc_of a3) (c_sc_of p2)) (r_sc_tr (r_sc_of b6) (r_sc_of q2))⟩
  · simp only [fn_X7_done, fn_X7_daysAsItIs, a1, Option.bind_some, p1]
    rw [pn_or _ (til_le _ _ _ _ (by omega))]
    rfl
  · simp only [fn_X8_done, b1, Option.bind_some, q1]
theorem so_home : sj_home sm_S := by
  intro C R h c
  obtain ⟨L, hw, hd, hc, hr, hsn⟩ := sm_L h
  have h6 := hw.1
  rcases pw_one c (L 0 0) (by omega) with e | ⟨j, hj, rfl, e⟩
  · refine ⟨-1, C, R, ?_, ?_, h⟩
    · simp [fn_X7_home, pw_oneC, show C 1 0 = nI (L 0 0) from hc.1, e]
    · simp [fn_X8_home, pw_oneR, show R 1 24 = nI (L 0 0) from hr.1, e]
  · obtain ⟨C1, a1, a2, a3⟩ := c_begin hc hw
    obtain ⟨R1, b1, b2, b3, b4, b5, b6⟩ := r_begin hr hw
    obtain ⟨C2, p1, p2⟩ := c_tilh (c := 60) (n := 60) rfl (by omega) hj a2 hw (by omega)
    obtain ⟨R2, q1, q2⟩ := r_tilh_L j 61 0 mm_fu R1 L b2 hw hj (by omega) (by omega) (by have := mm_fu_ge; omega)
    refine ⟨nN (til (lv_home j) 61 0 L), C2, R2, ?_, ?_, sm_scr h (c_sc_tr (c_sc_of a3) (c_sc_of p2)) (r_sc_tr (r_sc_of b6) (r_sc_of q2))⟩
    · simp only [fn_X7_home, pw_oneC, show C 1 0 = nI (L 0 0) from hc.1, e, Option.bind_some]
      rw [if_neg (by decide), a1]
      simp only [Option.bind_some]
      rw [p1]
      simp only [Option.bind_some]
      rw [pn_or _ (til_le _ _ _ _ (by omega))]
      rfl
    · simp only [fn_X8_home, pw_oneR, show R 1 24 = nI (L 0 0) from hr.1, e, Option.bind_some]
      rw [if_neg (by decide), b1]
      simp only [Option.bind_some]
      exact q1
theorem so_ahead : sj_ahead sm_S := by
  intro C R h c d w
  obtain ⟨L, hw, hd, hc, hr, hsn⟩ := sm_L h
  have h6 := hw.1
  have hc0 : C 1 0 = nI (L 0 0) := hc.1
  have hr0 : R 1 24 = nI (L 0 0) := hr.1
  rcases pw_one c (L 0 0) (by omega) with e | ⟨j, hj, rfl, e⟩
  · refine ⟨-1, C, R, ?_, ?_, h⟩
    · simp [fn_X7_ahead, pw_oneC, hc0, e]
    · simp [fn_X8_ahead, pw_oneR, hr0, e]
  · rcases pw_60C d with e2 | ⟨n, hn, rfl, e2⟩
    · refine ⟨-1, C, R, ?_, ?_, h⟩
      · simp [fn_X7_ahead, pw_oneC, hc0, e, pw_C, e2]
      · simp [fn_X8_ahead, pw_oneR, hr0, e, pw_far, e2]
    · obtain ⟨C1, a1, a2, a3⟩ := c_begin hc hw
      obtain ⟨R1, b1, b2, b3, b4, b5, b6⟩ := r_begin hr hw
      obtain ⟨C2, p1, p2, p3⟩ := c_pass n hn a2 hw (by omega)
      obtain ⟨R2, q1, q2, q3, q4, q5⟩ := r_go (c := nI n) rfl hn b2 hw (by omega)
      have hk := lv_n_k n L
      have hC : fn_X7_ahead (nI j) (nI n) w C = (if w = 0 then (if mm_in (nI j) 6 then some ((C2 10 (nI j).toNatClampNeg), C2) else none) else (if w = 1 then (if mm_in (nI j) 6 then some ((C2 11 (nI j).toNatClampNeg), C2) else none) else (if w = 2 then (if mm_in (nI j) 6 then some ((C2 12 (nI j).toNatClampNeg), C2) else none) else some ((-1), C2)))) := by
        simp only [fn_X7_ahead, pw_oneC, hc0, e, Option.bind_some, pw_C, e2]
        rw [if_neg (by decide), if_neg (by decide), a1]
        simp only [Option.bind_some]
        rw [p1]
        rfl
      have hS := sm_scr h (c_sc_tr (c_sc_of a3) (c_sc_of p3)) (r_sc_tr (r_sc_of b6) (r_sc_of (r_s_of q5)))
      have hSC := sm_scr h (c_sc_tr (c_sc_of a3) (c_sc_of p3)) (r_sc_rf R)
      obtain ⟨d1, d2, d3, d4⟩ := p2.2.2.2.2 j (by omega)
      have hin := pu_in (i := j) (n := 6) (by omega) (by omega)
      have hcl : (nI j).toNatClampNeg = j := nI_clamp (by omega)
      rw [hin, hcl] at hC
      rcases pw_lit w 2 (x := 2) rfl (by decide) with e3 | ⟨u, hu, rfl, e3⟩
      · refine ⟨-1, C2, R, ?_, ?_, hSC⟩
        · have n0 : ¬ w = 0 := fun q => by subst q; revert e3; decide
          have n1 : ¬ w = 1 := fun q => by subst q; revert e3; decide
          have n2 : ¬ w = 2 := fun q => by subst q; revert e3; decide
          rw [hC, if_neg n0, if_neg n1, if_neg n2]
        · simp only [fn_X8_ahead, pw_oneR, hr0, e, pw_far, e2, pw_R2, e3, Option.bind_some]
          rw [if_neg (by decide), if_neg (by decide), if_pos trivial]
      · have hR : fn_X8_ahead (nI j) (nI n) (nI u) R = some (nI (lv_n n L (1 + (1 + u)) j), R2) := by
          simp only [fn_X8_ahead, pw_oneR, hr0, e, pw_far, e2, pw_R2, e3, Option.bind_some]
          rw [if_neg (by decide), if_neg (by decide), if_neg (by decide), b1]
          simp only [Option.bind_some]
          rw [q1]
          simp only [Option.bind_some]
          rw [r_of q2 (by omega) (i := j) (by omega) (1 + u) (cc := 1 + nI u) (nI_add 1 u) (by omega)]
          rfl
        match u, hu with
        | 0, _ => exact ⟨_, C2, R2, hC.trans (congrArg (fun z => some (z, C2)) d2), hR, hS⟩
        | 1, _ => exact ⟨_, C2, R2, hC.trans (congrArg (fun z => some (z, C2)) d3), hR, hS⟩
        | 2, _ => exact ⟨_, C2, R2, hC.trans (congrArg (fun z => some (z, C2)) d4), hR, hS⟩
