/-! what was SEEN, images -/
theorem so_see : sj_see sm_S := by
  intro C R h c1 c2 c3
  obtain ⟨L, hw, hd, hc, hr, hsn⟩ := sm_L h
  have h6 := hw.1
  have hc0 : C 1 0 = nI (L 0 0) := hc.1
  have hr0 : R 1 24 = nI (L 0 0) := hr.1
  rcases pw_lit c1 20 (x := 20) rfl (by decide) with e1 | ⟨x, hx, rfl, e1⟩
  · refine ⟨-1, C, R, ?_, ?_, h⟩
    · simp [fn_X7_see, pw_C, e1]
    · simp [fn_X8_see, pw_R20, e1]
  · rcases pw_one c2 (L 0 0) (by omega) with e2 | ⟨y, hy, rfl, e2⟩
    · refine ⟨-1, C, R, ?_, ?_, h⟩
      · simp [fn_X7_see, pw_C, e1, pw_oneC, hc0, e2]
      · simp [fn_X8_see, pw_R20, e1, pw_oneR, hr0, e2]
    · rcases pw_lit c3 2 (x := 2) rfl (by decide) with e3 | ⟨z, hz, rfl, e3⟩
      · refine ⟨-1, C, R, ?_, ?_, h⟩
        · simp [fn_X7_see, pw_C, e1, pw_oneC, hc0, e2, e3]
        · simp [fn_X8_see, pw_R20, e1, pw_oneR, hr0, e2, pw_R2, e3]
      · obtain ⟨m, a, b, c, hm, g1, g2, g3⟩ := hsn
        by_cases hf : m < 6
        · have hin := pu_in (i := m) (n := 6) hf (by omega)
          have hcl : (nI m).toNatClampNeg = m := nI_clamp (by omega)
          have z1 : ∀ x, (mm_up C 20 m x) 19 0 = nI m := fun x => by rw [pu_upr _ _ _ (by omega)]; exact g1
          have z2 : ∀ x y, (mm_up (mm_up C 20 m x) 21 m y) 19 0 = nI m := fun x y => by rw [pu_upr _ _ _ (by omega)]; exact z1 x
          have z3 : ∀ x y z, (mm_up (mm_up (mm_up C 20 m x) 21 m y) 22 m z) 19 0 = nI m := fun x y z => by rw [pu_upr _ _ _ (by omega)]; exact z2 x y
          have i0 : (39 : Int32) + 3 * nI m = nI (39 + 3 * m) := by
            rw [show (3 : Int32) * nI m = nI (3 * m) from pk_mul 3 m]
            exact nI_add 39 _
          have i1 : nI (39 + 3 * m) + 1 = nI (39 + 3 * m + 1) := nI_add _ 1
          have i2 : nI (39 + 3 * m) + 2 = nI (39 + 3 * m + 2) := nI_add _ 2
          refine ⟨nI (m + 1), mm_up (mm_up (mm_up (mm_up C 20 m (nI x)) 21 m (nI y)) 22 m (nI z)) 19 0 (nI (m + 1)), mm_up (mm_up (mm_up (mm_up R 1 (39 + 3 * m) (nI x)) 1 (39 + 3 * m + 1) (nI y)) 1 (39 + 3 * m + 2) (nI z)) 1 38 (nI (m + 1)), ?_, ?_, ?_⟩
          · simp only [fn_X7_see, pw_C, e1, pw_oneC, hc0, e2, e3, Option.bind_some, fn_X5_note, g1, mm_let, hin, hcl, z1, z2, z3, if_true, nI_1]
            rw [if_neg (by decide), if_neg (by decide), if_neg (by decide), if_pos (show nI m < 6 from nI_lt (b := 6) hf (by omega))]
            simp only [Option.bind_some]
            rw [if_neg (by decide), pu_up, if_pos ⟨rfl, rfl⟩]
          · simp only [fn_X8_see, pw_R20, e1, pw_oneR, hr0, e2, pw_R2, e3, Option.bind_some, g2, mm_let, i0, i1, i2]
            rw [if_neg (by decide), if_neg (by decide), if_neg (by decide), if_neg (show ¬ nI m = 6 from fun q => by have := (nI_eq (b := 6) (by omega) (by omega)).mp q; omega)]
            rw [if_pos (pu_in (by omega) (by omega)), if_pos (pu_in (by omega) (by omega)), if_pos (pu_in (by omega) (by omega)), nI_clamp (by omega), nI_clamp (by omega), nI_clamp (by omega)]
            have z : (mm_up (mm_up (mm_up R 1 (39 + 3 * m) (nI x)) 1 (39 + 3 * m + 1) (nI y)) 1 (39 + 3 * m + 2) (nI z)) 1 38 = nI m := by
              rw [pu_up, if_neg (by omega), pu_up, if_neg (by omega), pu_up, if_neg (by omega)]
              exact g2
            rw [z, nI_1, pu_up, if_pos ⟨rfl, rfl⟩]
          · refine sm_move h (sm_eC_tr (sm_eC_up (by omega)) (sm_eC_tr (sm_eC_up (by omega)) (sm_eC_tr (sm_eC_up (by omega)) (sm_eC_up (by omega))))) (sm_eR_tr (sm_eR_up (by omega)) (sm_eR_tr (sm_eR_up (by omega)) (sm_eR_tr (sm_eR_up (by omega)) (sm_eR_up (by omega))))) (sm_Lst hw hd (lC_eq (fun a _ _ => by rw [pu_upr _ _ _ (by omega), pu_upr _ _ _ (by omega), pu_upr _ _ _ (by omega), pu_upr _ _ _ (by omega)]) hc) ?_ ⟨m + 1, sm_f a m x, sm_f b m y, sm_f c m z, by omega, by simp [pu_up], by simp [pu_up], fun q hq => ?_⟩)
            · obtain ⟨h1, h2, h3, h4, h5⟩ := hr
              have key : ∀ j, j < 38 → (mm_up (mm_up (mm_up (mm_up R 1 (39 + 3 * m) (nI x)) 1 (39 + 3 * m + 1) (nI y)) 1 (39 + 3 * m + 2) (nI z)) 1 38 (nI (m + 1))) 1 j = R 1 j := fun j hj => by
                rw [pu_up, if_neg (by omega), pu_up, if_neg (by omega), pu_up, if_neg (by omega), pu_up, if_neg (by omega)]
              refine ⟨by rw [key _ (by omega)]; exact h1, by rw [key _ (by omega)]; exact h2, fun j hj => by rw [key _ (by omega)]; exact h3 j hj, fun j hj => by rw [key _ (by omega)]; exact h4 j hj, fun i hi => ?_⟩
              rw [key _ (by omega), key _ (by omega), key _ (by omega), key _ (by omega)]
              exact h5 i hi
            · by_cases e : q = m
              · subst e
                have f1 : ¬ 39 + 3 * q = 38 := by omega
                simp [pu_up, sm_f, hx, hy]
                omega
              · obtain ⟨y1, y2, y3, y4, y5⟩ := g3 q (by omega)
                have f1 : ∀ u v, u < 3 → v < 3 → ¬ 39 + 3 * q + u = 39 + 3 * m + v := fun u v _ _ => by omega
                refine ⟨by simp only [sm_f, if_neg e]; exact y1, by simp only [sm_f, if_neg e]; simp [pu_up, e]; exact y2, ?_, ?_, ?_⟩
                · rw [pu_up, if_neg (by omega), pu_up, if_neg (by omega), pu_up, if_neg (by omega), pu_up, if_neg (by omega)]
                  simp only [sm_f, if_neg e]
                  exact y3
                · rw [pu_up, if_neg (by omega), pu_up, if_neg (by omega), pu_up, if_neg (by omega), pu_up, if_neg (by omega)]
                  simp only [sm_f, if_neg e]
                  exact y4
                · rw [pu_up, if_neg (by omega), pu_up, if_neg (by omega), pu_up, if_neg (by omega), pu_up, if_neg (by omega)]
                  simp only [sm_f, if_neg e]
                  exact y5
        · have hm6 : m = 6 := by omega
          subst hm6
          refine ⟨-3, C, R, ?_, ?_, h⟩
          · simp only [fn_X7_see, pw_C, e1, pw_oneC, hc0, e2, e3, Option.bind_some, fn_X5_note, g1]
            rw [if_neg (by decide), if_neg (by decide), if_neg (by decide), if_neg (by decide)]
            simp only [Option.bind_some]
            rw [if_pos trivial]
          · simp only [fn_X8_see, pw_R20, e1, pw_oneR, hr0, e2, pw_R2, e3, Option.bind_some, g2]
            rw [if_neg (by decide), if_neg (by decide), if_neg (by decide), if_pos (by decide)]
theorem so_forget : sj_forget sm_S := by
  intro C R h c1
  obtain ⟨L, hw, hd, hc, hr, m, a, b, c, hm, g1, g2, g3⟩ := sm_L h
  rcases pw_to c1 m (by omega) with e | ⟨j, hj, rfl, e⟩
  · refine ⟨-1, C, R, ?_, ?_, h⟩
    · simp [fn_X7_forget, mm_let, pw_C, g1, e]
    · simp [fn_X8_forget, mm_let, pw_R0, g2, e]
  · refine ⟨nI m, mm_up C 19 0 (nI j), mm_up R 1 38 (nI j), ?_, ?_, ?_⟩
    · simp [fn_X7_forget, mm_let, pw_C, g1, e]
    · simp [fn_X8_forget, mm_let, pw_R0, g2, e, pl_becomes 38 (nI j) R (x := 38) (by omega) rfl]
    · refine sm_move h (sm_eC_up (by omega)) (sm_eR_up (by omega)) (sm_Lst hw hd (lC_eq (fun a _ _ => pu_upr _ _ _ (by omega)) hc) ?_ ⟨j, a, b, c, by omega, by simp [pu_up], by simp [pu_up], fun q hq => ?_⟩)
      · obtain ⟨h1, h2, h3, h4, h5⟩ := hr
        have h6 := hw.1
        have key : ∀ i, i < 38 → (mm_up R 1 38 (nI j)) 1 i = R 1 i := fun i hi => by
          rw [pu_up, if_neg (by omega)]
        refine ⟨by rw [key _ (by omega)]; exact h1, by rw [key _ (by omega)]; exact h2, fun j hj => by rw [key _ (by omega)]; exact h3 j hj, fun j hj => by rw [key _ (by omega)]; exact h4 j hj, fun i hi => ?_⟩
        rw [key _ (by omega), key _ (by omega), key _ (by omega), key _ (by omega)]
        exact h5 i hi
      · obtain ⟨y1, y2, y3, y4, y5⟩ := g3 q (by omega)
        refine ⟨y1, ?_, ?_, ?_, ?_⟩
        · rw [pu_upr _ _ _ (by omega), pu_upr _ _ _ (by omega), pu_upr _ _ _ (by omega)]
          exact y2
        · rw [pu_up, if_neg (by omega)]
          exact y3
        · rw [pu_up, if_neg (by omega)]
          exact y4
        · rw [pu_up, if_neg (by omega)]
          exact y5
/-- what was SEEN is copied -/
theorem s_become {C : mm_M} (o q : Nat) {f : Nat → Int32} {n : Nat} (h : sm_sn C q f n) (ho : o + 3 < q ∨ q + 3 < o) : ∃ C', fn_X5_become o q C = some C' ∧ sm_sn C' o f n ∧ ∀ a, a < o ∨ o + 3 < a → C' a = C a := by
  obtain ⟨m, a, b, c, hm, g1, g2, g3⟩ := h
  refine ⟨_, rfl, ⟨m, a, b, c, hm, ?_, g2, fun x hx => ?_⟩, fun x hx => ?_⟩
  · have e1 : o ≠ o + 1 := by omega
    simp [mm_up, mm_row]
    exact g1
  · obtain ⟨y1, ⟨y2, y3, y4⟩, y5⟩ := g3 x hx
    refine ⟨y1, ⟨?_, ?_, ?_⟩, y5⟩
    · have k : q + 1 ≠ o := by omega
      simp [mm_up, mm_row, k]
      rw [pk_cpy_in (by omega) (by omega)]
      simpa using y2
    · have k : q + 2 ≠ o := by omega
      have k1 : q + 2 ≠ o + 1 := by omega
      simp [mm_up, mm_row, k, k1]
      rw [pk_cpy_in (by omega) (by omega)]
      simpa using y3
    · have k : q + 3 ≠ o := by omega
      have k1 : q + 3 ≠ o + 1 := by omega
      have k2 : q + 3 ≠ o + 2 := by omega
      simp [mm_up, mm_row, k, k1, k2]
      rw [pk_cpy_in (by omega) (by omega)]
      simpa using y4
  · have b0 : x ≠ o := by omega
    have b1 : x ≠ o + 1 := by omega
    have b2 : x ≠ o + 2 := by omega
    have b3 : x ≠ o + 3 := by omega
    simp [mm_up, mm_row, b0, b1, b2, b3]
theorem r_copy_L (to src : Nat) (hto : to + 57 ≤ 171) (hsrc : src + 57 ≤ 171) (hdis : to + 57 ≤ src ∨ src + 57 ≤ to) (g : Nat → Int32) (k : mm_M → Option mm_M) : ∀ m i fuel (R : mm_M), (∀ j, j < 57 → R 1 (src + j) = g j) → i + m = 57 → m < fuel →
    ∃ R', fn_X8_copies_L2 (nI to) (nI src) k fuel (nI i) R = k R' ∧ (∀ a, a ≠ 1 → R' a = R a) ∧ (∀ j, i ≤ j → j < 57 → R' 1 (to + j) = g j) ∧ ∀ j, j < to + i ∨ to + 57 ≤ j → R' 1 j = R 1 j := by
  intro m
  induction m with
  | zero =>
    intro i fuel R hg hi hf
    obtain ⟨f, rfl⟩ : ∃ f, fuel = f + 1 := ⟨fuel - 1, by omega⟩
    refine ⟨R, ?_, fun _ _ => rfl, fun j h1 h2 => by omega, fun _ _ => rfl⟩
    rw [fn_X8_copies_L2, if_pos (show (57 : Int32) ≤ nI i from nI_le (a := 57) (by omega) (by omega))]
  | succ m ih =>
    intro i fuel R hg hi hf
    obtain ⟨f, rfl⟩ : ∃ f, fuel = f + 1 := ⟨fuel - 1, by omega⟩
    rw [fn_X8_copies_L2, if_neg (show ¬ (57 : Int32) ≤ nI i from nI_ge (b := 57) (by omega) (by omega)), nI_add, nI_add, if_pos (pu_in (by omega) (by omega)), if_pos (pu_in (by omega) (by omega)), nI_clamp (by omega), nI_clamp (by omega), hg i (by omega), nI_1]
    simp only [mm_let]
    obtain ⟨R', q1, q2, q3, q4⟩ := ih (i + 1) f (mm_up R 1 (to + i) (g i)) (fun j hj => by rw [pu_up, if_neg (by omega)]; exact hg j hj) (by omega) (by omega)
    refine ⟨R', q1, fun a ha => by rw [q2 a ha, pu_upr _ _ _ ha], fun j h1 h2 => ?_, fun j hj => by rw [q4 j (by omega), pu_up, if_neg (by omega)]⟩
    by_cases e : j = i
    · subst e
      rw [q4 _ (by omega), pu_up, if_pos ⟨rfl, rfl⟩]
    · exact q3 j (by omega) h2
theorem r_copies (R : mm_M) (to src : Nat) {c d : Int32} (hc : c = nI to) (hd : d = nI src) (hto : to + 57 ≤ 171) (hsrc : src + 57 ≤ 171) (hdis : to + 57 ≤ src ∨ src + 57 ≤ to) : ∃ R', fn_X8_copies c d R = some R' ∧ (∀ a, a ≠ 1 → R' a = R a) ∧ (∀ j, j < 57 → R' 1 (to + j) = R 1 (src + j)) ∧ ∀ j, j < to ∨ to + 57 ≤ j → R' 1 j = R 1 j := by
  subst hc; subst hd
  obtain ⟨R', q1, q2, q3, q4⟩ := r_copy_L to src hto hsrc hdis (fun j => R 1 (src + j)) (fun M => some M) 57 0 mm_fu R (fun _ _ => rfl) (by omega) (by have := mm_fu_ge; omega)
  exact ⟨R', q1, q2, fun j hj => q3 j (by omega) hj, fun j hj => q4 j (by omega)⟩
