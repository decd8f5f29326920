/-! THE TWO SYSTEMS AT FIRST, and the whole -/
theorem st_ML (x : Nat) (hx : x ≤ 6) : mb_MC (1 + x) = mb_ML x := by
  unfold mb_MC
  rw [if_neg (by omega), if_pos (by omega), show 1 + x - 1 = x by omega]
theorem st_lC : lC mb_MC 1 tz_L0 := by
  have h := cl_L 0 mb_Z
  obtain ⟨a1, a2, a3, a4, a5⟩ := h
  refine ⟨?_, ?_, fun j hj => ?_, fun j hj => ?_, fun i hi => absurd hi (by show ¬ i < 0; omega)⟩
  · rw [show mb_MC 1 = mb_ML 0 from st_ML 0 (by omega)]
    exact a1
  · rw [show mb_MC 1 = mb_ML 0 from st_ML 0 (by omega)]
    exact a2
  · rw [show mb_MC (1 + 5) = mb_ML 5 from st_ML 5 (by omega)]
    exact a3 j hj
  · rw [show mb_MC (1 + 6) = mb_ML 6 from st_ML 6 (by omega)]
    exact a4 j hj
theorem st_1 (j : Nat) (hj : j < 57) : mb_MM 1 j = px_first mb_MM0 4 j := by
  unfold mb_MM px_keep
  rw [pu_upr _ _ _ (by omega), pu_upr _ _ _ (by omega), pu_row_at, if_pos hj]
theorem st_0 (j : Nat) (h4 : j ≠ 4) (h5 : j ≠ 5) : mb_MM 0 j = 0 := by
  unfold mb_MM px_keep
  rw [pu_upr _ _ _ (by omega), pu_upr _ _ _ (by omega), pu_row_ne _ _ (by omega), fi_0 _ _ h4 h5]
  unfold mb_MM0
  rw [pu_row_ne _ _ (by omega)]
  rfl
theorem st_a (a : Nat) (h0 : a ≠ 0) (h1 : a ≠ 1) (h3 : a ≠ 3) (h4 : a ≠ 4) : mb_MM a = mb_MM0 a := by
  unfold mb_MM px_keep
  rw [pu_upr _ _ _ h3, pu_upr _ _ _ h3, pu_row_ne _ _ h1, fi_fr _ _ h0 h4]
theorem st_3 : mb_MM 3 0 = 0 ∧ mb_MM 3 1 = 0 := by
  unfold mb_MM px_keep
  exact ⟨by rw [pu_nk _ _ (by omega), pu_at], pu_at _ _ _ _⟩
theorem st_MH (e x : Nat) (he : e < 4) (hx : x ≤ 1) : mb_MC (114 + 2 * e + x) = mb_MH x := by
  rcases (by omega : e = 0 ∨ e = 1 ∨ e = 2 ∨ e = 3) with rfl | rfl | rfl | rfl <;> rcases (by omega : x = 0 ∨ x = 1) with rfl | rfl <;> rfl
theorem st_S : sm_S mb_MC mb_MM := by
  refine ⟨?_, ⟨0, fun _ => 0, by omega, rfl, st_0 7 (by omega) (by omega), fun i hi => absurd hi (by omega)⟩, ?_, ?_, fun e he => Or.inl ⟨?_, ?_⟩, fun e he => ⟨⟨0, by omega, ?_, ?_⟩, Or.inl ⟨?_, ?_⟩, fun i hi => ?_⟩⟩
  · refine sm_Lst L0_w (by decide) st_lC (lR_cg st_1 (by decide) (fi_L _)) ⟨0, fun _ => 0, fun _ => 0, fun _ => 0, by omega, rfl, ?_, fun q hq => absurd hq (by omega)⟩
    rw [st_1 38 (by omega)]
    exact fi_z _ 38 (by omega)
  · rw [st_0 12 (by omega) (by omega)]
    rfl
  · rw [st_0 26 (by omega) (by omega)]
    rfl
  · rcases (by omega : e = 0 ∨ e = 1) with rfl | rfl <;> rfl
  · rcases (by omega : e = 0 ∨ e = 1) with rfl | rfl
    · exact st_3.1
    · exact st_3.2
  · rw [show mb_MC (114 + 2 * e) = mb_MH 0 from st_MH e 0 he (by omega)]
    rfl
  · rw [st_a 9 (by omega) (by omega) (by omega) (by omega)]
    rfl
  · rw [show mb_MC (114 + 2 * e) = mb_MH 0 from st_MH e 0 he (by omega)]
    rfl
  · rw [st_a 8 (by omega) (by omega) (by omega) (by omega)]
    rcases (by omega : e = 0 ∨ e = 1 ∨ e = 2 ∨ e = 3) with rfl | rfl | rfl | rfl <;> rfl
  · rw [show mb_MC (114 + 2 * e + 1) = mb_MH 1 from st_MH e 1 he (by omega), st_a 10 (by omega) (by omega) (by omega) (by omega)]
    rfl
theorem so_all : sm_All sm_S := ⟨so_feed, so_end, so_text, so_fault, so_rule, so_told, so_one, so_sun, so_alter, so_set, so_shine, so_bring, so_fetch, so_days, so_runs, so_ahead, so_home, so_done, so_blue, so_pegs, so_batch, so_swap, so_fair, so_stain, so_kind, so_luck, so_mean, so_see, so_forget, so_kinds, so_greys, so_ask, so_drift, so_keep, so_back, so_sheet, so_lay, so_read, so_torn, so_count⟩
/-- the law, from its entry -/
theorem whole_start {p : Program} {e : Env} {s : State} {m : MethodId} {below : List Frame} {meth : Method} {c : Code} (l : Launch) {b L : Nat} {xs : Nat → Int32} (hL : L ≤ 320) (C0 : lw_At p s m meth c b L xs) : W p l e room_1 s m #[Value.ref b] below meth c s.heap [] 0 0 (lw_Z below #[Value.ref b] s) (entryFrame m ([Value.ref b] : List Value).toArray 4) :=
  start_of l hL C0 (S := sm_S) so_all st_S
