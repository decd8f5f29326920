/-! luck, mean: both sides -/
theorem nI_m1 {t : Nat} (h : t < 2 ^ 31) : ¬ nI t = (-1 : Int32) := fun q => by
  have := nI_pos h
  rw [q] at this
  exact this (by decide)
theorem fl_k : ∀ (m s : Nat) (L : LV), (fl m s L) 0 0 = L 0 0 := by
  intro m
  induction m with
  | zero => intro s L; rfl
  | succ m ih =>
    intro s L
    rw [fl, ih]
    split
    · exact (lv_D_k 0 L).1
    · exact (lv_next_k L).1
theorem lv_sum_le {f : Nat → Nat} {N : Nat} (h : ∀ i, i < N → f i ≤ 60) : ∀ q, q ≤ N → lv_sum f q ≤ 60 * q := by
  intro q
  induction q with
  | zero => intro _; exact Nat.le_refl _
  | succ q ih =>
    intro hq
    have h1 := ih (by omega)
    have h2 := h q (by omega)
    rw [lv_sum]
    omega
theorem so_luck : sj_luck sm_S := by
  intro C R h N c1 c2 c3 c4
  obtain ⟨L, hw, hd, hc, hr, hsn⟩ := sm_L h
  have h6 := hw.1
  have hc0 : C 1 0 = nI (L 0 0) := hc.1
  have hr0 : R 1 24 = nI (L 0 0) := hr.1
  rcases pw_one c2 (L 0 0) (by omega) with e0 | ⟨j, hj, rfl, e0⟩
  · refine ⟨-1, C, R, N, ?_, ?_, h⟩
    · simp [fn_X7_luck, pw_oneC, hc0, e0]
    · rcases pw_01 c1 0 10 with e | e
      · simp [fn_X8_luck, pw_R10, e]
      · simp [fn_X8_luck, pw_R10, e, pw_oneR, hr0, e0]
  · rcases pw_lit c1 10 (x := 10) rfl (by decide) with e1 | ⟨v, hv, rfl, e1⟩
    · refine ⟨-1, C, R, N, ?_, ?_, h⟩
      · simp [fn_X7_luck, fn_X7_rainFraction, pw_oneC, hc0, e0, pw_C, e1]
      · simp [fn_X8_luck, pw_R10, e1]
    · rcases pw_lit c3 8 (x := 8) rfl (by decide) with e2 | ⟨n, hn, rfl, e2⟩
      · refine ⟨-1, C, R, N, ?_, ?_, h⟩
        · simp [fn_X7_luck, fn_X7_rainFraction, pw_oneC, hc0, e0, pw_C, e1, e2]
        · simp [fn_X8_luck, pw_R10, e1, pw_oneR, hr0, e0, pw_R8, e2]
      · rcases pw_lit c4 1 (x := 1) rfl (by decide) with e3 | ⟨u, hu, rfl, e3⟩
        · refine ⟨-1, C, R, N, ?_, ?_, h⟩
          · simp [fn_X7_luck, fn_X7_rainFraction, pw_oneC, hc0, e0, pw_C, e1, e2, pw_half, e3]
          · simp [fn_X8_luck, pw_R10, e1, pw_oneR, hr0, e0, pw_R8, e2, pw_part, e3]
        · have hW : ∀ (C : mm_M) (o : Nat) (M : LV), lC C o M → lw M → M 0 0 = L 0 0 → fn_X7_worth o (nI j) C = some (lN (wH (some j) M), C) := fun C o M hM hwM hN => by
            have h4 : C (o + 4) j = nI (M 4 j) := (hM.2.2.2.2 j (by omega)).2.2.2
            have w4 := (hwM.2.2.2 j (by omega)).2.2.2
            unfold fn_X7_worth
            rw [if_neg (nI_m1 (by omega)), if_pos (pu_in (by omega) (by omega)), nI_clamp (by omega), h4]
            unfold wH
            by_cases e : M 4 j = 2
            · simp only [e]
              rw [if_pos (by rfl)]
              rfl
            · simp only [e, if_false]
              rw [if_neg (show ¬ nI (M 4 j) = 2 from fun q => e ((nI_eq (a := M 4 j) (b := 2) (by omega) (by omega)).mp q))]
              rfl
          have hW3 : ∀ M, lw M → wH (some j) M ≤ 360 := fun M _ => by
            unfold wH
            simp only []
            split <;> omega
          obtain ⟨C', p1, p2⟩ := rain_C hw hd hc hv hn (nI j) (wH (some j)) hW hW3 (w := nI u) e1 e2 e3
          obtain ⟨R', N', q1, q2, q3, q4, q5⟩ := odds_R hw hd hr hv hn (some j) (fun i hi => by cases hi; exact hj) (c2 := nI j) rfl N
          have hle := wv_le hv hW3 n L hw
          have hp : 10 ^ n ≤ 10 ^ 8 := Nat.pow_le_pow_right (by omega) hn
          have pC : fn_X7_luck (nI v) (nI j) (nI n) (nI u) C = (fn_X7_rainFraction (nI v) (nI j) (nI n) (nI u) C).bind fun z => some (z.1, z.2) := by
            unfold fn_X7_luck
            rw [pw_oneC, hc0]
            simp only [pb_some]
            rw [if_neg (by rw [e0]; decide)]
          rw [p1] at pC
          simp only [pb_some] at pC
          refine ⟨_, C', R', N', pC, ?_, sm_scr h p2 (r_sc_of q5)⟩
          · unfold fn_X8_luck
            rw [pw_R10]
            simp only [pb_some]
            rw [if_neg (by rw [e1]; decide), pw_oneR, hr0]
            simp only [pb_some]
            rw [if_neg (by rw [e0]; decide), pw_R8]
            simp only [pb_some]
            rw [if_neg (by rw [e2]; decide), pw_part]
            simp only [pb_some]
            rw [if_neg (by rw [e3]; decide), q1]
            simp only [pb_some]
            rw [q2, q4, lowest_ok (by omega) (by omega) (Nat.pow_pos (by omega))]
            simp only [pb_some]
theorem so_mean : sj_mean sm_S := by
  intro C R h N c1 c3 c4
  obtain ⟨L, hw, hd, hc, hr, hsn⟩ := sm_L h
  have h6 := hw.1
  rcases pw_lit c1 10 (x := 10) rfl (by decide) with e1 | ⟨v, hv, rfl, e1⟩
  · refine ⟨-1, C, R, N, ?_, ?_, h⟩
    · simp [fn_X7_mean, fn_X7_rainFraction, pw_C, e1]
    · simp [fn_X8_mean, pw_R10, e1]
  · rcases pw_lit c3 8 (x := 8) rfl (by decide) with e2 | ⟨n, hn, rfl, e2⟩
    · refine ⟨-1, C, R, N, ?_, ?_, h⟩
      · simp [fn_X7_mean, fn_X7_rainFraction, pw_C, e1, e2]
      · simp [fn_X8_mean, pw_R10, e1, pw_R8, e2]
    · rcases pw_lit c4 1 (x := 1) rfl (by decide) with e3 | ⟨u, hu, rfl, e3⟩
      · refine ⟨-1, C, R, N, ?_, ?_, h⟩
        · simp [fn_X7_mean, fn_X7_rainFraction, pw_C, e1, e2, pw_half, e3]
        · simp [fn_X8_mean, pw_R10, e1, pw_R8, e2, pw_part, e3]
      · have hW3 : ∀ M : LV, lw M → lv_sum (M 2) (M 0 0) ≤ 360 := fun M hM => by
          have := lv_sum_le (f := M 2) (N := M 0 0) (fun i hi => (hM.2.2.2 i hi).2.1) (M 0 0) (Nat.le_refl _)
          have := hM.1
          omega
        have hW : ∀ (C : mm_M) (o : Nat) (M : LV), lC C o M → lw M → M 0 0 = L 0 0 → fn_X7_worth o (-1) C = some (lN (lv_sum (M 2) (M 0 0)), C) := fun C o M hM hwM hN => by
          have := hW3 M hwM
          unfold fn_X7_worth
          rw [if_pos rfl, c_grey hM hwM]
          simp only [pb_some]
          rw [nI_l (by omega)]
        obtain ⟨C', p1, p2⟩ := rain_C hw hd hc hv hn (-1) (fun M => lv_sum (M 2) (M 0 0)) hW hW3 (w := nI u) e1 e2 e3
        obtain ⟨R', N', q1, q2, q3, q4, q5⟩ := odds_R hw hd hr hv hn none (fun i hi => by cases hi) (c2 := -4) rfl N
        have hle := wv_le hv hW3 n L hw
        have hp : 10 ^ n ≤ 10 ^ 8 := Nat.pow_le_pow_right (by omega) hn
        have hs : ss (fun t => wy v n t 1 * lv_sum ((fl n t L) 2) (L 0 0)) (2 ^ n) = wv v (fun M => lv_sum (M 2) (M 0 0)) n L := by
          have h1 := ss_wv v (fun M => lv_sum (M 2) (M 0 0)) n 1 L
          rw [Nat.one_mul] at h1
          rw [← h1]
          refine ss_cg (fun t => ?_) _
          rw [fl_k]
        rw [hs] at q3
        have pC : fn_X7_mean (nI v) (nI n) (nI u) C = (fn_X7_rainFraction (nI v) (-1) (nI n) (nI u) C).bind fun z => some (z.1, z.2) := rfl
        rw [p1] at pC
        simp only [pb_some] at pC
        refine ⟨_, C', R', N', pC, ?_, sm_scr h p2 (r_sc_of q5)⟩
        · unfold fn_X8_mean
          rw [pw_R10]
          simp only [pb_some]
          rw [if_neg (by rw [e1]; decide), pw_R8]
          simp only [pb_some]
          rw [if_neg (by rw [e2]; decide), pw_part]
          simp only [pb_some]
          rw [if_neg (by rw [e3]; decide), q1]
          simp only [pb_some]
          rw [q3, q4, lowest_ok (by omega) (by omega) (Nat.pow_pos (by omega))]
          simp only [pb_some]
