theorem so_fault : sj_fault sm_S := fun C R h => ⟨C 18 1, C, R, rfl, by unfold fn_X8_fault; rw [h.2.2.1], h⟩
theorem so_torn : sj_torn sm_S := fun C R h => ⟨C 0 10, C, R, rfl, by unfold fn_X8_torn; rw [h.2.2.2.1], h⟩
theorem so_end : sj_end sm_S := by
  intro C R h c
  have h' := h
  obtain ⟨hst, ⟨t, b, ht, h1, h2, h3⟩, h6, h7, h8, h9⟩ := h'
  rcases pw_to c t (by omega) with e | ⟨j, hj, rfl, e⟩
  · refine ⟨-1, C, R, ?_, ?_, h⟩
    · simp [fn_X7_end, mm_let, pw_C, h1, e]
    · simp [fn_X8_end, mm_let, pw_R0, h2, e]
  · refine ⟨nI t, mm_up C 16 1 (nI j), mm_up R 0 7 (nI j), ?_, ?_, ?_⟩
    · simp [fn_X7_end, mm_let, pw_C, h1, e]
    · simp [fn_X8_end, mm_let, pw_R0, h2, e]
    · refine ⟨?_, ⟨j, b, by omega, by simp [pu_up], by simp [pu_up], fun i hi => ?_⟩, by simp [pu_up, h6], by simp [pu_up, h7], fun e he => sm_im_eq (fun a ha hb => pu_upr _ _ _ (by omega)) (fun j hj => by simp [pu_up]) (pu_upr _ _ _ (by omega)) he (h8 e he), fun e he => sm_sh_eq (fun a ha hb => pu_upr _ _ _ (by omega)) (pu_upr _ _ _ (by omega)) (pu_upr _ _ _ (by omega)) (pu_upr _ _ _ (by omega)) he (h9 e he)⟩
      · rw [pu_upr R 7 (nI j) (by omega : (1 : Nat) ≠ 0)]
        exact sm_st_eq (fun a ha hb => pu_upr _ _ _ (by omega)) (fun a ha hb => pu_upr _ _ _ (by omega)) hst
      · rw [pu_upr C 1 (nI j) (by omega : (17 : Nat) ≠ 16), pu_upr R 7 (nI j) (by omega : (5 : Nat) ≠ 0)]
        exact h3 i (by omega)
theorem so_feed : sj_feed sm_S := by
  intro C R h c
  have h' := h
  obtain ⟨hst, ⟨t, b, ht, h1, h2, h3⟩, h6, h7, h8, h9⟩ := h'
  rcases pw_lit c 127 (x := 127) rfl (by decide) with e | ⟨j, hj, rfl, e⟩
  · refine ⟨-1, C, R, ?_, ?_, h⟩
    · simp [fn_X7_feed, mm_let, pw_C, e]
    · simp [fn_X8_feed, mm_let, pw_R127, e]
  · by_cases hf : t = 160
    · subst hf
      refine ⟨-3, C, R, ?_, ?_, h⟩
      · have : ¬ (nI 160 < (160 : Int32)) := by decide
        simp [fn_X7_feed, fn_X6_append, mm_let, pw_C, e, h1, this]
      · have : nI 160 = (160 : Int32) := rfl
        simp [fn_X8_feed, mm_let, pw_R127, e, h2, this]
    · have hlt : nI t < (160 : Int32) := nI_lt (b := 160) (by omega) (by decide)
      have hne : ¬ nI t = (160 : Int32) := fun q => hf ((nI_eq (b := 160) (by omega) (by decide)).mp q)
      have hin := pu_in (i := t) (n := 160) (by omega) (by decide)
      have hcl : (nI t).toNatClampNeg = t := nI_clamp (by omega)
      refine ⟨nI (t + 1), mm_up (mm_up C 17 t (nI j)) 16 1 (nI (t + 1)), mm_up (mm_up R 5 t (nI j)) 0 7 (nI (t + 1)), ?_, ?_, ?_⟩
      · simp [fn_X7_feed, fn_X6_append, mm_let, pw_C, e, h1, hlt, hin, hcl, pu_up, nI_1]
      · simp [fn_X8_feed, mm_let, pw_R127, e, h2, hne, hin, hcl, pu_up, nI_1]
      · refine ⟨?_, ⟨t + 1, fun i => if i = t then j else b i, by omega, by simp [pu_up], by simp [pu_up], fun i hi => ?_⟩, by simp [pu_up, h6], by simp [pu_up, h7], fun e he => sm_im_eq (fun a ha hb => by rw [pu_upr _ _ _ (by omega), pu_upr _ _ _ (by omega)]) (fun j hj => by simp [pu_up]) (by rw [pu_upr _ _ _ (by omega), pu_upr _ _ _ (by omega)]) he (h8 e he), fun e he => sm_sh_eq (fun a ha hb => by rw [pu_upr _ _ _ (by omega), pu_upr _ _ _ (by omega)]) (by rw [pu_upr _ _ _ (by omega), pu_upr _ _ _ (by omega)]) (by rw [pu_upr _ _ _ (by omega), pu_upr _ _ _ (by omega)]) (by rw [pu_upr _ _ _ (by omega), pu_upr _ _ _ (by omega)]) he (h9 e he)⟩
        · rw [pu_upr _ 7 _ (by omega : (1 : Nat) ≠ 0), pu_upr _ t _ (by omega : (1 : Nat) ≠ 5)]
          exact sm_st_eq (fun a ha hb => by rw [pu_upr _ _ _ (by omega), pu_upr _ _ _ (by omega)]) (fun a ha hb => by rw [pu_upr _ _ _ (by omega), pu_upr _ _ _ (by omega)]) hst
        · by_cases hi2 : i = t
          · subst hi2
            simp [pu_up, hj]
          · have := h3 i (by omega)
            simp [pu_up, hi2, this]
theorem so_told : sj_told sm_S := by
  intro C R h c
  have h' := h
  obtain ⟨⟨n, d, r, s, k, g, w, p, hw, ⟨c1, c2, c3, c4, c5⟩, ⟨r1, r2, r3, r4, r5⟩, hsn⟩, -⟩ := h'
  rcases pw_lit c 4 (x := 4) rfl (by decide) with e | ⟨j, hj, rfl, e⟩
  · refine ⟨-1, C, R, ?_, ?_, h⟩
    · simp [fn_X7_told, pw_C, e]
    · simp [fn_X8_told, pw_R4, e]
  · refine ⟨nI (r j), C, R, ?_, ?_, h⟩
    · simp [fn_X7_told, pw_C, e, pu_in (i := j) (n := 5) (by omega) (by decide), nI_clamp (n := j) (by omega), c3 j (by omega)]
    · have e25 : (25 : Int32) + nI j = nI (25 + j) := nI_add 25 j
      simp [fn_X8_told, pw_R4, e, e25, pu_in (i := 25 + j) (n := 171) (by omega) (by decide), nI_clamp (n := 25 + j) (by omega), r3 j (by omega)]
theorem so_sun : sj_sun sm_S := by
  intro C R h c
  have h' := h
  obtain ⟨⟨n, d, r, s, k, g, w, p, hw, ⟨c1, c2, c3, c4, c5⟩, ⟨r1, r2, r3, r4, r5⟩, hsn⟩, -⟩ := h'
  rcases pw_lit c 6 (x := 6) rfl (by decide) with e | ⟨j, hj, rfl, e⟩
  · refine ⟨-1, C, R, ?_, ?_, h⟩
    · simp [fn_X7_sun, fn_X7_isWeekday, pw_C, e]
    · simp [fn_X8_sun, pw_R6, e]
  · refine ⟨nI (s j), C, R, ?_, ?_, h⟩
    · simp [fn_X7_sun, fn_X7_isWeekday, pw_C, e, pu_in (i := j) (n := 7) (by omega) (by decide), nI_clamp (n := j) (by omega), c4 j (by omega)]
    · have e25 : (30 : Int32) + nI j = nI (30 + j) := nI_add 30 j
      simp [fn_X8_sun, pw_R6, e, e25, pu_in (i := 30 + j) (n := 171) (by omega) (by decide), nI_clamp (n := 30 + j) (by omega), r4 j (by omega)]
