/-! the best of many, on both sides -/
def ch (C R : mm_M) : Prop := C 23 0 = R 0 16 ∧ ((∃ c : Nat, c ≤ 60 ∧ C 23 1 = nI c ∧ R 0 17 = nI c) ∨ (C 23 1 = 61 ∧ R 0 17 = 1000000 ∧ C 23 0 = -4))
def c_23 (C C' : mm_M) : Prop := ∀ a, a ≠ 23 → C' a = C a
def r_16 (R R' : mm_M) : Prop := (∀ a, a ≠ 0 → R' a = R a) ∧ ∀ j, j ≠ 16 → j ≠ 17 → R' 0 j = R 0 j
theorem c_sc_23 {A B : mm_M} (h : c_23 A B) : c_sc A B := fun a _ p _ _ => h a p
theorem r_sc_16 {A B : mm_M} (h : r_16 A B) : r_sc A B := ⟨fun a p _ _ _ _ => h.1 a p, fun j p => h.2 j (by omega) (by omega)⟩
theorem c_23_2 (C : mm_M) (x y : Int32) : c_23 C (mm_up (mm_up C 23 0 x) 23 1 y) := fun a h => by rw [pu_upr _ _ _ h, pu_upr _ _ _ h]
theorem r_16_2 (R : mm_M) (x y : Int32) : r_16 R (mm_up (mm_up R 0 16 x) 0 17 y) := ⟨fun a h => by rw [pu_upr _ _ _ h, pu_upr _ _ _ h], fun j h1 h2 => by rw [pu_up, if_neg (by omega), pu_up, if_neg (by omega)]⟩
theorem ch_get (C : mm_M) (x y : Int32) : (mm_up (mm_up C 23 0 x) 23 1 y) 23 0 = x ∧ (mm_up (mm_up C 23 0 x) 23 1 y) 23 1 = y := by
  refine ⟨?_, ?_⟩
  · rw [pu_up, if_neg (by omega), pu_up, if_pos ⟨rfl, rfl⟩]
  · rw [pu_up, if_pos ⟨rfl, rfl⟩]
theorem ch_getR (R : mm_M) (x y : Int32) : (mm_up (mm_up R 0 16 x) 0 17 y) 0 16 = x ∧ (mm_up (mm_up R 0 16 x) 0 17 y) 0 17 = y := by
  refine ⟨?_, ?_⟩
  · rw [pu_up, if_neg (by omega), pu_up, if_pos ⟨rfl, rfl⟩]
  · rw [pu_up, if_pos ⟨rfl, rfl⟩]
theorem nI_m4 {t : Nat} (h : t < 2 ^ 31) : ¬ nI t = (-4 : Int32) := fun q => by
  have := nI_pos h
  rw [q] at this
  exact this (by decide)
theorem ch_begin (C R : mm_M) {t : Nat} (ht : t ≤ 61) {c d : Int32} (hc : c = nI t) (hd : d = nN t) : ∃ C' R', fn_X0_begin c C = some C' ∧ fn_X8_startsJudging d R = some R' ∧ ch C' R' ∧ c_23 C C' ∧ r_16 R R' := by
  subst hc; subst hd
  by_cases e : t = 61
  · subst e
    refine ⟨mm_up (mm_up C 23 0 (-4)) 23 1 (nI 61), mm_up (mm_up R 0 16 (-4)) 0 17 1000000, rfl, ?_, ?_, c_23_2 _ _ _, r_16_2 _ _ _⟩
    · unfold fn_X8_startsJudging nN
      simp [mm_let]
    · have h1 := ch_get C (-4) (nI 61)
      have h2 := ch_getR R (-4) 1000000
      exact ⟨h1.1.trans h2.1.symm, Or.inr ⟨h1.2, h2.2, h1.1⟩⟩
  · refine ⟨mm_up (mm_up C 23 0 (-4)) 23 1 (nI t), mm_up (mm_up R 0 16 (-4)) 0 17 (nI t), rfl, ?_, ?_, c_23_2 _ _ _, r_16_2 _ _ _⟩
    · unfold fn_X8_startsJudging nN
      simp only [mm_let]
      rw [if_neg e, if_neg (nI_m4 (t := t) (by omega))]
    · have h1 := ch_get C (-4) (nI t)
      have h2 := ch_getR R (-4) (nI t)
      exact ⟨h1.1.trans h2.1.symm, Or.inl ⟨t, by omega, h1.2, h2.2⟩⟩
theorem c_23_rf (C : mm_M) : c_23 C C := fun _ _ => rfl
theorem r_16_rf (R : mm_M) : r_16 R R := ⟨fun _ _ => rfl, fun _ _ _ => rfl⟩
theorem ch_offer {C R : mm_M} (h : ch C R) (v : Int32) {t : Nat} (ht : t ≤ 61) : ∃ C' R', fn_X0_offer v (nI t) C = some C' ∧ fn_X8_judges v (nN t) R = some R' ∧ ch C' R' ∧ c_23 C C' ∧ r_16 R R' := by
  obtain ⟨h0, h1⟩ := h
  by_cases e : t = 61
  · subst e
    refine ⟨C, R, ?_, ?_, ⟨h0, h1⟩, c_23_rf C, r_16_rf R⟩
    · unfold fn_X0_offer
      rw [if_pos]
      rcases h1 with ⟨c, h2, h3, h4⟩ | ⟨h2, h3, h4⟩
      · rw [h3]; exact nI_le (by omega) (by omega)
      · rw [h2]; exact nI_le (a := 61) (by omega) (by omega)
    · unfold fn_X8_judges nN
      rw [if_pos rfl, if_pos rfl]
  · have hn : nN t = nI t := if_neg e
    rw [hn]
    have take : ¬ C 23 1 ≤ nI t → ¬ R 0 17 ≤ nI t → ∃ C' R', fn_X0_offer v (nI t) C = some C' ∧ fn_X8_judges v (nI t) R = some R' ∧ ch C' R' ∧ c_23 C C' ∧ r_16 R R' := fun n1 n2 => by
      refine ⟨mm_up (mm_up C 23 0 v) 23 1 (nI t), mm_up (mm_up R 0 16 v) 0 17 (nI t), ?_, ?_, ?_, c_23_2 _ _ _, r_16_2 _ _ _⟩
      · unfold fn_X0_offer
        rw [if_neg n1]
        rfl
      · unfold fn_X8_judges
        rw [if_neg (nI_m4 (by omega)), if_neg n2]
        rfl
      · have g1 := ch_get C v (nI t)
        have g2 := ch_getR R v (nI t)
        exact ⟨g1.1.trans g2.1.symm, Or.inl ⟨t, by omega, g1.2, g2.2⟩⟩
    rcases h1 with ⟨c, h2, h3, h4⟩ | ⟨h2, h3, h4⟩
    · by_cases hct : c ≤ t
      · refine ⟨C, R, ?_, ?_, ⟨h0, Or.inl ⟨c, h2, h3, h4⟩⟩, c_23_rf C, r_16_rf R⟩
        · unfold fn_X0_offer
          rw [h3, if_pos (nI_le hct (by omega))]
        · unfold fn_X8_judges
          rw [h4, if_neg (nI_m4 (by omega)), if_pos (nI_le hct (by omega))]
      · exact take (by rw [h3]; exact nI_ge (by omega) (by omega)) (by rw [h4]; exact nI_ge (by omega) (by omega))
    · exact take (by rw [h2]; exact nI_ge (b := 61) (by omega) (by omega)) (by rw [h3]; exact nI_ge (b := 1000000) (by omega) (by omega))
theorem ch_tell {C R : mm_M} (h : ch C R) (c : Int32) : ∃ r, fn_X0_tell c C = some (r, C) ∧ fn_X8_judged c R = some (r, R) := by
  obtain ⟨h0, h1⟩ := h
  unfold fn_X0_tell fn_X8_judged
  rw [← h0]
  by_cases e : C 23 0 = -4
  · rw [e, if_pos rfl, if_pos rfl]
    refine ⟨-4, ?_, rfl⟩
    split <;> rfl
  · rw [if_neg e, if_neg e]
    rcases h1 with ⟨c', h2, h3, h4⟩ | ⟨h2, h3, h4⟩
    · rw [h3, h4]
      split
      · exact ⟨_, rfl, rfl⟩
      · exact ⟨_, rfl, rfl⟩
    · exact absurd h4 e
theorem ch_keep {C C' R R' : mm_M} (h : ch C R) (hc : C' 23 = C 23) (h1 : R' 0 16 = R 0 16) (h2 : R' 0 17 = R 0 17) : ch C' R' := by
  unfold ch at h ⊢
  rw [hc, h1, h2]
  exact h
/-- laundry and choice, on both sides -/
def ci (L : LV) (C R : mm_M) : Prop := lC C 1 L ∧ lR (R 1) L ∧ ch C R
/-- one trial, offered -/
theorem ci_try {L L' : LV} {C R C1 R1 : mm_M} (h : ci L C R) (hw : lw L') (hd : L' 0 1 < 2000) (hc : lC C1 8 L') (hr : lR (R1 2) L') (fc : c_fr 8 C C1) (fr : r_s R R1) (v : Int32) :
    ∃ C' R', ((fn_X2_daysTillDone 8 60 C1).bind fun z => fn_X0_offer v z.1 z.2) = some C' ∧ ((fn_X8_daysTo R1).bind fun z => fn_X8_judges v z.1 z.2) = some R' ∧ ci L C' R' ∧ c_sc C C' ∧ r_sc R R' := by
  obtain ⟨C2, p1, p2⟩ := c_till (c := 60) (n := 60) rfl (by omega) hc hw hd
  obtain ⟨R2, q1, q2⟩ := r_till hr hw hd
  have f1 := c_fr_tr fc p2
  have f2 := r_s_tr fr q2
  have h' : ch C2 R2 := ch_keep h.2.2 (f1 23 (by omega)) (f2.2 16 (by omega) (by omega)) (f2.2 17 (by omega) (by omega))
  obtain ⟨C', R', x1, x2, x3, x4, x5⟩ := ch_offer h' v (til_le lv_done 61 0 L' (by omega))
  refine ⟨C', R', ?_, ?_, ⟨?_, ?_, x3⟩, c_sc_tr (c_sc_of f1) (c_sc_23 x4), r_sc_tr (r_sc_of f2) (r_sc_16 x5)⟩
  · rw [p1]
    exact x1
  · rw [q1]
    exact x2
  · exact lC_eq (fun a _ _ => (x4 a (by omega)).trans (f1 a (by omega))) h.1
  · rw [x5.1 1 (by omega), f2.1 1 (by omega) (by omega)]
    exact h.2.1
theorem ci_tell {L : LV} {C R : mm_M} (h : ci L C R) (c : Int32) : ∃ r, ((fn_X0_tell c C).bind fun z => some (z.1, z.2)) = some (r, C) ∧ ((fn_X8_judged c R).bind fun z => some (z.1, z.2)) = some (r, R) := by
  obtain ⟨r, h1, h2⟩ := ch_tell h.2.2 c
  exact ⟨r, by rw [h1]; rfl, by rw [h2]; rfl⟩
theorem ci_begin {L : LV} {C R : mm_M} (hc : lC C 1 L) (hr : lR (R 1) L) {t : Nat} (ht : t ≤ 61) {c d : Int32} (hcc : c = nI t) (hdd : d = nN t) : ∃ C' R', fn_X0_begin c C = some C' ∧ fn_X8_startsJudging d R = some R' ∧ ci L C' R' ∧ c_sc C C' ∧ r_sc R R' := by
  obtain ⟨C', R', x1, x2, x3, x4, x5⟩ := ch_begin C R ht hcc hdd
  exact ⟨C', R', x1, x2, ⟨lC_eq (fun a _ _ => x4 a (by omega)) hc, by rw [x5.1 1 (by omega)]; exact hr, x3⟩, c_sc_23 x4, r_sc_16 x5⟩
/-- as it is -/
theorem ci_asis {L : LV} {C R : mm_M} (hw : lw L) (hd : L 0 1 ≤ 999) (hc : lC C 1 L) (hr : lR (R 1) L) : ∃ C' R', ((fn_X7_daysAsItIs C).bind fun z => fn_X0_begin z.1 z.2) = some C' ∧ ((fn_X8_starts R).bind fun y => ((fn_X8_daysTo y).bind fun z => fn_X8_startsJudging z.1 z.2)) = some R' ∧ ci L C' R' ∧ c_sc C C' ∧ r_sc R R' := by
  obtain ⟨C1, a1, a2, a3⟩ := c_begin hc hw
  obtain ⟨R1, b1, b2, b3, b4, b5, b6⟩ := r_begin hr hw
  obtain ⟨C2, p1, p2⟩ := c_till (c := 60) (n := 60) rfl (by omega) a2 hw (by omega)
  obtain ⟨R2, q1, q2⟩ := r_till b2 hw (by omega)
  have f1 := c_fr_tr a3 p2
  have f2 := r_s_tr b6 q2
  obtain ⟨C', R', x1, x2, x3, x4, x5⟩ := ci_begin (C := C2) (R := R2) (L := L) (lC_fr f1 hc) (by rw [f2.1 1 (by omega) (by omega)]; exact hr) (til_le lv_done 61 0 L (by omega)) rfl rfl
  refine ⟨C', R', ?_, ?_, x3, c_sc_tr (c_sc_of f1) x4, r_sc_tr (r_sc_of f2) x5⟩
  · unfold fn_X7_daysAsItIs
    rw [a1]
    simp only [Option.bind_some]
    rw [p1]
    exact x1
  · rw [b1]
    simp only [Option.bind_some]
    rw [q1]
    exact x2
theorem batch_L {L : LV} (hw : lw L) (hd : L 0 1 ≤ 999) (c1 : Int32) (kC kR : mm_M → Option (Int32 × mm_M)) : ∀ m v fuel fuel' (C R : mm_M), ci L C R → v + m = 7 → m < fuel → m < fuel' →
    ∃ C' R', fn_X7_batch_L24 c1 kC fuel (nI v) C = kC C' ∧ fn_X8_batch_L17 c1 kR fuel' (nI v) R = kR R' ∧ ci L C' R' ∧ c_sc C C' ∧ r_sc R R' := by
  have m1 : mm_sav 1 1 = nI 6 := rfl
  intro m
  induction m with
  | zero =>
    intro v fuel fuel' C R h hv hf hf'
    obtain ⟨f, rfl⟩ : ∃ f, fuel = f + 1 := ⟨fuel - 1, by omega⟩
    obtain ⟨f', rfl⟩ : ∃ f, fuel' = f + 1 := ⟨fuel' - 1, by omega⟩
    refine ⟨C, R, ?_, ?_, h, c_sc_rf C, r_sc_rf R⟩
    · rw [fn_X7_batch_L24, m1, if_pos (nI_lt (by omega) (by omega))]
    · rw [fn_X8_batch_L17, if_pos (show (6 : Int32) < nI v from nI_lt (a := 6) (by omega) (by omega))]
  | succ m ih =>
    intro v fuel fuel' C R h hv hf hf'
    obtain ⟨f, rfl⟩ : ∃ f, fuel = f + 1 := ⟨fuel - 1, by omega⟩
    obtain ⟨f', rfl⟩ : ∃ f, fuel' = f + 1 := ⟨fuel' - 1, by omega⟩
    obtain ⟨C1, a1, a2, a3⟩ := c_begin h.1 hw
    obtain ⟨R1, b1, b2, b3, b4, b5, b6⟩ := r_begin h.2.1 hw
    have hw' : lw (lu L 5 1 v) := lw_rule hw 1 v (by omega) (show v ≤ 6 by omega)
    have hd' : (lu L 5 1 v) 0 1 = L 0 1 := by rw [lu_ne _ _ _ (by omega)]
    have a4 : lC (mm_up C1 13 1 (nI v)) 8 (lu L 5 1 v) := lC_up a2 5 1 v (by omega)
    have b7 : lR ((mm_up R1 2 26 (nI v)) 2) (lu L 5 1 v) := by
      rw [pu_up_at]
      exact lR_rule b2 1 v hw.1 (by omega)
    obtain ⟨C2, R2, x1, x2, x3, x4, x5⟩ := ci_try h hw' (by omega) a4 b7 (c_fr_tr a3 (c_fr_up C1 _ _ (by omega))) (r_s_tr b6 (r_s_up R1 _ _)) (nI v)
    rw [fn_X7_batch_L24, m1, if_neg (nI_nlt (by omega) (by omega)), a1, fn_X8_batch_L17, if_neg (show ¬ (6 : Int32) < nI v from nI_nlt (b := v) (a := 6) (by omega) (by omega)), b1]
    simp only [Option.bind_some, mm_let]
    rw [pb_bind2, x1, pb_bind2, x2, nI_1]
    simp only [Option.bind_some]
    obtain ⟨C', R', y1, y2, y3, y4, y5⟩ := ih (v + 1) f f' C2 R2 x3 (by omega) (by omega) (by omega)
    exact ⟨C', R', y1, y2, y3, c_sc_tr x4 y4, r_sc_tr x5 y5⟩
theorem so_batch : sj_batch sm_S := by
  intro C R h c
  obtain ⟨L, hw, hd, hc, hr, hsn⟩ := sm_L h
  rcases pw_lit c 1 (x := 1) rfl (by decide) with e | ⟨w, hww, rfl, e⟩
  · refine ⟨-1, C, R, ?_, ?_, h⟩
    · simp [fn_X7_batch, pw_half, e]
    · simp [fn_X8_batch, pw_part, e]
  · obtain ⟨C1, R1, a1, a2, a3, a4, a5⟩ := ci_begin (t := 61) (c := 61) (d := -4) hc hr (by omega) rfl rfl
    obtain ⟨C2, R2, b1, b2, b3, b4, b5⟩ := batch_L hw hd (nI w) (fun M_10 => ((fn_X0_tell (nI w) M_10).bind fun z_12 => some (z_12.1, z_12.2))) (fun M_9 => ((fn_X8_judged (nI w) M_9).bind fun z_11 => some (z_11.1, z_11.2))) 6 1 mm_fu mm_fu C1 R1 a3 (by omega) (by have := mm_fu_ge; omega) (by have := mm_fu_ge; omega)
    obtain ⟨r, t1, t2⟩ := ci_tell b3 (nI w)
    refine ⟨r, C2, R2, ?_, ?_, sm_scr h (c_sc_tr a4 b4) (r_sc_tr a5 b5)⟩
    · simp only [fn_X7_batch, pw_half, e, Option.bind_some]
      rw [if_neg (by decide), a1]
      simp only [Option.bind_some]
      exact b1.trans t1
    · simp only [fn_X8_batch, pw_part, e, Option.bind_some]
      rw [if_neg (by decide), a2]
      simp only [Option.bind_some]
      exact b2.trans t2
theorem fair_L {L : LV} (hw : lw L) (hd : L 0 1 ≤ 999) (c1 : Int32) (kC kR : mm_M → Option (Int32 × mm_M)) : ∀ m v fuel fuel' (C R : mm_M), ci L C R → v + m = 7 → m < fuel → m < fuel' →
    ∃ C' R', fn_X7_fair_L22 c1 kC fuel (nI v) C = kC C' ∧ fn_X8_fair_L23 c1 kR fuel' (nI v) R = kR R' ∧ ci L C' R' ∧ c_sc C C' ∧ r_sc R R' := by
  intro m
  induction m with
  | zero =>
    intro v fuel fuel' C R h hv hf hf'
    obtain ⟨f, rfl⟩ : ∃ f, fuel = f + 1 := ⟨fuel - 1, by omega⟩
    obtain ⟨f', rfl⟩ : ∃ f, fuel' = f + 1 := ⟨fuel' - 1, by omega⟩
    have h7 : (7 : Int32) ≤ nI v := nI_le (a := 7) (by omega) (by omega)
    refine ⟨C, R, ?_, ?_, h, c_sc_rf C, r_sc_rf R⟩
    · rw [fn_X7_fair_L22, if_pos h7]
    · rw [fn_X8_fair_L23, if_pos h7]
  | succ m ih =>
    intro v fuel fuel' C R h hv hf hf'
    obtain ⟨f, rfl⟩ : ∃ f, fuel = f + 1 := ⟨fuel - 1, by omega⟩
    obtain ⟨f', rfl⟩ : ∃ f, fuel' = f + 1 := ⟨fuel' - 1, by omega⟩
    obtain ⟨C1, a1, a2, a3⟩ := c_begin h.1 hw
    obtain ⟨R1, b1, b2, b3, b4, b5, b6⟩ := r_begin h.2.1 hw
    have hw' : lw (lu L 6 v 9) := lw_sun hw v 9 (by omega)
    have hd' : (lu L 6 v 9) 0 1 = L 0 1 := by rw [lu_ne _ _ _ (by omega)]
    have a4 : lC (mm_up C1 14 v 9) 8 (lu L 6 v 9) := lC_up a2 6 v 9 (by omega)
    have b7 : lR ((mm_up R1 2 (30 + v) 9) 2) (lu L 6 v 9) := by
      rw [pu_up_at]
      exact lR_sun b2 v 9 hw.1 (by omega)
    have h7 : ¬ (7 : Int32) ≤ nI v := nI_ge (b := 7) (by omega) (by omega)
    have e30 : (30 : Int32) + nI v = nI (30 + v) := nI_add 30 v
    obtain ⟨C2, R2, x1, x2, x3, x4, x5⟩ := ci_try h hw' (by omega) a4 b7 (c_fr_tr a3 (c_fr_up C1 _ _ (by omega))) (r_s_tr b6 (r_s_up R1 _ _)) (nI v)
    rw [fn_X7_fair_L22, if_neg h7, a1, fn_X8_fair_L23, if_neg h7, b1]
    simp only [Option.bind_some, mm_let]
    rw [if_pos (pu_in (by omega) (by omega)), nI_clamp (by omega), e30, if_pos (pu_in (by omega) (by omega)), nI_clamp (by omega), pb_bind2, x1, pb_bind2, x2, nI_1]
    simp only [Option.bind_some]
    obtain ⟨C', R', y1, y2, y3, y4, y5⟩ := ih (v + 1) f f' C2 R2 x3 (by omega) (by omega) (by omega)
    exact ⟨C', R', y1, y2, y3, c_sc_tr x4 y4, r_sc_tr x5 y5⟩
theorem so_fair : sj_fair sm_S := by
  intro C R h c
  obtain ⟨L, hw, hd, hc, hr, hsn⟩ := sm_L h
  rcases pw_lit c 1 (x := 1) rfl (by decide) with e | ⟨w, hww, rfl, e⟩
  · refine ⟨-1, C, R, ?_, ?_, h⟩
    · simp [fn_X7_fair, pw_half, e]
    · simp [fn_X8_fair, pw_part, e]
  · obtain ⟨C1, R1, a1, a2, a3, a4, a5⟩ := ci_asis hw hd hc hr
    obtain ⟨C2, R2, b1, b2, b3, b4, b5⟩ := fair_L hw hd (nI w) (fun M_10 => ((fn_X0_tell (nI w) M_10).bind fun z_12 => some (z_12.1, z_12.2))) (fun M_9 => ((fn_X8_judged (nI w) M_9).bind fun z_11 => some (z_11.1, z_11.2))) 7 0 mm_fu mm_fu C1 R1 a3 (by omega) (by have := mm_fu_ge; omega) (by have := mm_fu_ge; omega)
    obtain ⟨r, t1, t2⟩ := ci_tell b3 (nI w)
    refine ⟨r, C2, R2, ?_, ?_, sm_scr h (c_sc_tr a4 b4) (r_sc_tr a5 b5)⟩
    · simp only [fn_X7_fair, pw_half, e, Option.bind_some]
      rw [if_neg (by decide), pb_bind2, a1]
      simp only [Option.bind_some]
      exact b1.trans t1
    · simp only [fn_X8_fair, pw_part, e, Option.bind_some]
      rw [if_neg (by decide)]
      simp only [pb_bind2]
      simp only [pb_bind2] at a2
      rw [a2]
      simp only [Option.bind_some]
      exact b2.trans t2
theorem kind_L {L : LV} (hw : lw L) (hd : L 0 1 ≤ 999) {j : Nat} (hj : j < L 0 0) (c2 : Int32) (kC kR : mm_M → Option (Int32 × mm_M)) : ∀ m v fuel fuel' (C R : mm_M), ci L C R → v + m = 4 → m < fuel → m < fuel' →
    ∃ C' R', fn_X7_kind_L28 (nI j) c2 kC fuel (nI v) C = kC C' ∧ fn_X8_kind_L25 (nI j) c2 kR fuel' (nI v) R = kR R' ∧ ci L C' R' ∧ c_sc C C' ∧ r_sc R R' := by
  have h6 := hw.1
  intro m
  induction m with
  | zero =>
    intro v fuel fuel' C R h hv hf hf'
    obtain ⟨f, rfl⟩ : ∃ f, fuel = f + 1 := ⟨fuel - 1, by omega⟩
    obtain ⟨f', rfl⟩ : ∃ f, fuel' = f + 1 := ⟨fuel' - 1, by omega⟩
    have h7 : (4 : Int32) ≤ nI v := nI_le (a := 4) (by omega) (by omega)
    refine ⟨C, R, ?_, ?_, h, c_sc_rf C, r_sc_rf R⟩
    · rw [fn_X7_kind_L28, if_pos h7]
    · rw [fn_X8_kind_L25, if_pos h7]
  | succ m ih =>
    intro v fuel fuel' C R h hv hf hf'
    obtain ⟨f, rfl⟩ : ∃ f, fuel = f + 1 := ⟨fuel - 1, by omega⟩
    obtain ⟨f', rfl⟩ : ∃ f, fuel' = f + 1 := ⟨fuel' - 1, by omega⟩
    obtain ⟨C1, R1, a1, b1, b2, a4, b7, hw', l0, a5, b8⟩ := try_one hw h.1 h.2.1 0 j v (by omega) hj (show v ≤ 3 by omega)
    have l01 : (lu L (1 + 0) j v) 0 1 = L 0 1 := by rw [l0]
    have h7 : ¬ (4 : Int32) ≤ nI v := nI_ge (b := 4) (by omega) (by omega)
    obtain ⟨C2, R2, x1, x2, x3, x4, x5⟩ := ci_try h hw' (by omega) a4 b7 a5 b8 (nI v)
    rw [fn_X7_kind_L28, if_neg h7, a1, fn_X8_kind_L25, if_neg h7, b1]
    simp only [Option.bind_some, mm_let]
    rw [if_pos (pu_in (by omega) (by omega)), nI_clamp (by omega), show fn_X8_becomesOf (nI j) 0 (nI v) R1 = _ from b2]
    simp only [Option.bind_some]
    rw [pb_bind2, x1, pb_bind2, x2, nI_1]
    simp only [Option.bind_some]
    obtain ⟨C', R', y1, y2, y3, y4, y5⟩ := ih (v + 1) f f' C2 R2 x3 (by omega) (by omega) (by omega)
    exact ⟨C', R', y1, y2, y3, c_sc_tr x4 y4, r_sc_tr x5 y5⟩
theorem so_kind : sj_kind sm_S := by
  intro C R h d c
  obtain ⟨L, hw, hd, hc, hr, hsn⟩ := sm_L h
  have h6 := hw.1
  have hc0 : C 1 0 = nI (L 0 0) := hc.1
  have hr0 : R 1 24 = nI (L 0 0) := hr.1
  rcases pw_one d (L 0 0) (by omega) with e0 | ⟨j, hj, rfl, e0⟩
  · refine ⟨-1, C, R, ?_, ?_, h⟩
    · simp [fn_X7_kind, pw_oneC, hc0, e0]
    · simp [fn_X8_kind, pw_oneR, hr0, e0]
  · rcases pw_lit c 1 (x := 1) rfl (by decide) with e | ⟨w, hww, rfl, e⟩
    · refine ⟨-1, C, R, ?_, ?_, h⟩
      · simp [fn_X7_kind, pw_oneC, hc0, e0, pw_half, e]
      · simp [fn_X8_kind, pw_oneR, hr0, e0, pw_part, e]
    · obtain ⟨C1, R1, a1, a2, a3, a4, a5⟩ := ci_begin (t := 61) (c := 61) (d := -4) hc hr (by omega) rfl rfl
      obtain ⟨C2, R2, b1, b2, b3, b4, b5⟩ := kind_L hw hd hj (nI w) (fun M_10 => ((fn_X0_tell (nI w) M_10).bind fun z_12 => some (z_12.1, z_12.2))) (fun M_9 => ((fn_X8_judged (nI w) M_9).bind fun z_11 => some (z_11.1, z_11.2))) 4 0 mm_fu mm_fu C1 R1 a3 (by omega) (by have := mm_fu_ge; omega) (by have := mm_fu_ge; omega)
      obtain ⟨r, t1, t2⟩ := ci_tell b3 (nI w)
      refine ⟨r, C2, R2, ?_, ?_, sm_scr h (c_sc_tr a4 b4) (r_sc_tr a5 b5)⟩
      · simp only [fn_X7_kind, pw_oneC, hc0, e0, pw_half, e, Option.bind_some]
        rw [if_neg (by decide), if_neg (by decide), a1]
        simp only [Option.bind_some]
        exact b1.trans t1
      · simp only [fn_X8_kind, pw_oneR, hr0, e0, pw_part, e, Option.bind_some]
        rw [if_neg (by decide), if_neg (by decide), a2]
        simp only [Option.bind_some]
        exact b2.trans t2
