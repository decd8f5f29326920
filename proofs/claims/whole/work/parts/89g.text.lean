/-! THE TEXT -/
section
variable {t : Nat} {b : Nat → Nat}
theorem tz_B_cg {C R C' R' : mm_M} (h : tz_B C R) (h1 : C' 18 3 = C 18 3) (h2 : R' 0 4 = R 0 4) (h3 : R' 0 5 = R 0 5) : tz_B C' R' := by
  refine ⟨fun k p q => ?_, fun q => ?_⟩
  · rw [h1, h2]
    exact h.1 k p q
  · rw [h2] at q
    rw [h3]
    exact h.2 q
noncomputable def tz_te (f : Nat) (n : Int32) (C : mm_M) : Option (Int32 × mm_M) := fn_X3_tell_L23 8 (fun x2_12 M_13 => some (x2_12, M_13)) (fun M_15 => some (((-10) - (M_15 18 2)), M_15)) (fun M_17 => some (((-10) - (M_17 18 2)), M_17)) f n C
theorem te_S (f n : Nat) (hn : n ≤ 160) (C : mm_M) : tz_te (f + 1) (nI n) C = (fn_X3_takeToken C).bind fun z_6 => (if z_6.1 = 0 then some (((-10) - (z_6.2 18 2)), z_6.2) else (if (z_6.2 16 3) = 4 then some (nI n, z_6.2) else ((fn_X3_tellLine 8 z_6.2).bind fun z_10 => (if z_10.1 = 0 then some (((-10) - (z_10.2 18 2)), z_10.2) else tz_te f (nI (n + 1)) z_10.2)))) := by
  unfold tz_te
  rw [fn_X3_tell_L23, if_neg (show ¬ (160 : Int32) < nI n from nI_nlt (a := 160) hn (by omega)), nI_1]
  rfl
theorem text_L (kk : Int32 → mm_M → Option (Int32 × mm_M)) : ∀ z p n f f' (C R : mm_M) (L : LV), t ≤ p + z → n ≤ p → z < f → z + 1 < f' → tz_T C R t b p → tz_D C R L → tz_B C R →
    (∃ C' R' n', tz_te f (nI n) C = some (-10 - C' 18 2, C') ∧ ((fn_X8_reads R).bind fun z_4 => fn_X8_text_L20 kk f' (nI n) z_4) = kk n' R' ∧ tz_F C' R' ∧ gC C C' ∧ gR R R') ∨
    (∃ C' R' L' n', tz_te f (nI n) C = some (nI n', C') ∧ ((fn_X8_reads R).bind fun z_4 => fn_X8_text_L20 kk f' (nI n) z_4) = kk (nI n') R' ∧ n' ≤ 160 ∧ tz_D C' R' L' ∧ R' 0 12 = 0 ∧ C' 18 1 = 0 ∧ gC C C' ∧ gR R R') := by
  intro z
  induction z with
  | zero =>
    intro p n f f' C R L hp hn hf hf' hT hD hBt
    obtain ⟨f0, rfl⟩ : ∃ g, f = g + 1 := ⟨f - 1, by omega⟩
    obtain ⟨g, rfl⟩ : ∃ g, f' = g + 1 + 1 := ⟨f' - 2, by omega⟩
    have h160 := hT.1.1
    have hpt : p ≤ t := hT.2.2.2.2.2.2.2
    rw [te_S f0 n (by omega)]
    obtain ⟨C1, R1, a1, a2, a3, a4⟩ := take_ok hT
    rw [a1]
    simp only [pb_some]
    rcases a4 with ⟨a4, aF⟩ | ⟨a4, k, s, e, v, aK, ps⟩
    · rw [a4]
      simp only [pb_some]
      rw [if_pos trivial, fn_X8_text_L20, if_neg (tz_F_n aF).1]
      exact Or.inl ⟨C1, R1, nI n, rfl, rfl, aF, gC_of a2, gR_of a3⟩
    · have h12 : R1 0 12 = 0 := aK.1.2.2.2.2.1
      have he : e ≤ t := aK.1.2.2.2.2.2.2.2
      have k4 : k = 4 := by
        by_cases q : k = 4
        · exact q
        · have := aK.2.2.2.2.2.2.2.1 q
          omega
      rw [a4]
      simp only [pb_some]
      rw [if_neg (by decide), if_pos (by rw [K_C aK 4 (by omega) (x := 4) rfl]; exact k4), fn_X8_text_L20, if_pos h12, if_pos (by rw [aK.2.2.1, if_pos k4]; rfl)]
      exact Or.inr ⟨C1, R1, L, n, rfl, rfl, by omega, tz_D_cg hD (fun a p q => a2.1 a (by omega) (by omega)) (a3.1 4 (by omega)), h12, aK.1.2.2.2.1, gC_of a2, gR_of a3⟩
  | succ z ih =>
    intro p n f f' C R L hp hn hf hf' hT hD hBt
    obtain ⟨f0, rfl⟩ : ∃ g, f = g + 1 := ⟨f - 1, by omega⟩
    obtain ⟨g, rfl⟩ : ∃ g, f' = g + 1 + 1 := ⟨f' - 2, by omega⟩
    have h160 := hT.1.1
    have hpt : p ≤ t := hT.2.2.2.2.2.2.2
    rw [te_S f0 n (by omega)]
    obtain ⟨C1, R1, a1, a2, a3, a4⟩ := take_ok hT
    rw [a1]
    simp only [pb_some]
    rcases a4 with ⟨a4, aF⟩ | ⟨a4, k, s, e, v, aK, ps⟩
    · rw [a4]
      simp only [pb_some]
      rw [if_pos trivial, fn_X8_text_L20, if_neg (tz_F_n aF).1]
      exact Or.inl ⟨C1, R1, nI n, rfl, rfl, aF, gC_of a2, gR_of a3⟩
    · have h12 : R1 0 12 = 0 := aK.1.2.2.2.2.1
      have D1 : tz_D C1 R1 L := tz_D_cg hD (fun a p q => a2.1 a (by omega) (by omega)) (a3.1 4 (by omega))
      rw [a4]
      simp only [pb_some]
      rw [if_neg (by decide)]
      by_cases k4 : k = 4
      · rw [if_pos (by rw [K_C aK 4 (by omega) (x := 4) rfl]; exact k4), fn_X8_text_L20, if_pos h12, if_pos (by rw [aK.2.2.1, if_pos k4]; rfl)]
        exact Or.inr ⟨C1, R1, L, n, rfl, rfl, by omega, D1, h12, aK.1.2.2.2.1, gC_of a2, gR_of a3⟩
      · have se := aK.2.2.2.2.2.2.2.1 k4
        have kb := aK.2.2.2.2.2.1
        rw [if_neg (by rw [K_C aK 4 (by omega) (x := 4) rfl]; exact k4), fn_X8_text_L20, if_pos h12, if_neg (by
          rw [aK.2.2.1, if_neg k4]
          exact nI_ne0 (by omega) (by omega))]
        rcases line_ok aK D1 (tz_B_cg hBt a2.2 (a3.2 4 (by omega)) (a3.2 5 (by omega))) with ⟨C', R', x1, x2, x3, x4, x5⟩ | ⟨C', R', L', p', x1, x2, x3, x4, x5, x6, x7, x8⟩
        · rw [x1, x2]
          simp only [pb_some]
          rw [if_pos trivial, fn_X8_text_L20, if_neg (tz_F_n x3).1]
          exact Or.inl ⟨C', R', _, rfl, rfl, x3, gC_tr (gC_of a2) x4, gR_tr (gR_of a3) x5⟩
        · rw [x1, x2, nI_1]
          simp only [pb_some]
          rw [if_neg (by decide)]
          rcases ih p' (n + 1) f0 (g + 1) C' R' L' (by omega) (by omega) (by omega) (by omega) x3 x5 x6 with ⟨C2, R2, n', y1, y2, y3, y4, y5⟩ | ⟨C2, R2, L2, n', y1, y2, y3, y4, y5, y6, y7, y8⟩
          · exact Or.inl ⟨C2, R2, n', y1, y2, y3, gC_tr (gC_tr (gC_of a2) x7) y4, gR_tr (gR_tr (gR_of a3) x8) y5⟩
          · exact Or.inr ⟨C2, R2, L2, n', y1, y2, y3, y4, y5, y6, gC_tr (gC_tr (gC_of a2) x7) y7, gR_tr (gR_tr (gR_of a3) x8) y8⟩
end
/-! the draft at first -/
def tz_L0 : LV := fun a j => if a = 5 then [3, 2, 3, 0, 8].getD j 0 else if a = 6 then 4 else 0
theorem L0_w : lw tz_L0 := ⟨by decide, by decide, fun j _ => by show 4 ≤ 9; omega, fun i hi => absurd hi (by show ¬ i < 0; omega)⟩
theorem cl_fr (M : mm_M) (a : Nat) (h : ¬ (8 ≤ a ∧ a ≤ 14)) : px_clear 8 M a = M a := by
  unfold px_clear
  rw [pu_row_ne _ _ (by omega), pu_row_ne _ _ (by omega), pu_upr _ _ _ (by omega), pu_upr _ _ _ (by omega)]
theorem cl_L (r : Nat) (M : mm_M) : lC (px_clear r M) r tz_L0 := by
  unfold px_clear
  refine ⟨?_, ?_, fun j hj => ?_, fun j hj => ?_, fun i hi => absurd hi (by show ¬ i < 0; omega)⟩
  · rw [pu_row_ne _ _ (by omega), pu_row_ne _ _ (by omega), pu_nk _ _ (by omega), pu_at]
    rfl
  · rw [pu_row_ne _ _ (by omega), pu_row_ne _ _ (by omega), pu_at]
    rfl
  · rw [pu_row_ne _ _ (by omega), pu_row_at, pk_cpy_in (by omega) (by omega)]
    match j, hj with
    | 0, _ => rfl
    | 1, _ => rfl
    | 2, _ => rfl
    | 3, _ => rfl
    | 4, _ => rfl
  · rw [pu_row_at, if_pos hj]
    rfl
theorem fi_fr (M : mm_M) (a : Nat) (h0 : a ≠ 0) (h4 : a ≠ 4) : px_first M a = M a := by
  unfold px_first
  rw [pu_upr _ _ _ h0, pu_upr _ _ _ h0, pu_row_ne _ _ h4]
theorem fi_0 (M : mm_M) (j : Nat) (h0 : j ≠ 4) (h4 : j ≠ 5) : px_first M 0 j = M 0 j := by
  unfold px_first
  rw [pu_nk _ _ h4, pu_nk _ _ h0, pu_row_ne _ _ (by omega)]
theorem fi_b (M : mm_M) : px_first M 0 4 = 0 ∧ px_first M 0 5 = 0 := by
  unfold px_first
  exact ⟨by rw [pu_nk _ _ (by omega), pu_at], by rw [pu_at]⟩
theorem fi_4 (M : mm_M) (j : Nat) (h : j < 57) : px_first M 4 j = if j = 25 then 3 else if j = 26 then 2 else if j = 27 then 3 else if j = 29 then 8 else if 30 ≤ j ∧ j < 37 then 4 else 0 := by
  unfold px_first
  rw [pu_upr _ _ _ (by omega), pu_upr _ _ _ (by omega), pu_row_at, if_pos h]
theorem fi_z (M : mm_M) (j : Nat) (h : j < 25 ∨ (37 ≤ j ∧ j < 57)) : px_first M 4 j = 0 := by
  rw [fi_4 M j (by omega), if_neg (by omega), if_neg (by omega), if_neg (by omega), if_neg (by omega), if_neg (by omega)]
theorem fi_L (M : mm_M) : lR (px_first M 4) tz_L0 := by
  refine ⟨fi_z M 24 (by omega), fi_z M 37 (by omega), fun j hj => ?_, fun j hj => ?_, fun i hi => absurd hi (by show ¬ i < 0; omega)⟩
  · rw [fi_4 M _ (by omega)]
    match j, hj with
    | 0, _ => rfl
    | 1, _ => rfl
    | 2, _ => rfl
    | 3, _ => rfl
    | 4, _ => rfl
  · rw [fi_4 M _ (by omega), if_neg (by omega), if_neg (by omega), if_neg (by omega), if_neg (by omega), if_pos (by omega)]
    rfl
theorem tx_L (c1 : Int32) (k : mm_M → Option (Int32 × mm_M)) (f : Nat) (M : mm_M) : fn_X7_text_L45 c1 k (f + 3) 0 M = k (mm_up (mm_up M 90 0 0) 102 0 0) := by
  rw [fn_X7_text_L45, if_neg (by decide), if_pos (by decide), mm_leq, fn_X7_text_L45, if_neg (by decide), if_pos (by decide), mm_leq, fn_X7_text_L45, if_pos (by decide)]
  rfl
theorem m10 : ∀ s : Fin 161, (-10 : Int32) - nI s.1 < 0 := by decide +kernel
theorem so_text : sj_text sm_S := by
  intro C R h
  have hfu := mm_fu_ge
  obtain ⟨hst, ⟨t, b, ht, h1, h2, h3⟩, h6, h7, h8, h9⟩ := h
  have hB : tB t b := ⟨ht, fun i hi => (h3 i hi).1⟩
  -- where the reading begins
  have eC : fn_X3_tell 8 C = tz_te mm_fu (nI 0) (mm_up (px_clear 8 (mm_up (mm_up C 18 1 0) 18 3 0)) 16 2 0) := by
    unfold fn_X3_tell fn_X6_rewind
    simp only [mm_leq]
    rw [pl_clear]
    rfl
  have eR : fn_X8_text R = ((fn_X8_reads (px_first (mm_up (mm_up R 0 12 0) 0 8 0))).bind fun z_4 => fn_X8_text_L20 (fun x1_8 M_9 => mm_let (mm_up M_9 0 7 0) fun M_11 => (if (M_11 0 12) ≤ 0 then ((fn_X8_keepDraft M_11).bind fun z_13 => some (x1_8, z_13)) else some (((-10) - (M_11 0 13)), M_11))) mm_fu (nI 0) z_4) := by
    unfold fn_X8_text
    simp only [mm_leq]
    rw [pl_first]
    rfl
  have gc : gC C (mm_up (px_clear 8 (mm_up (mm_up C 18 1 0) 18 3 0)) 16 2 0) := fun a p q r => by
    rw [pu_upr _ _ _ q, cl_fr _ _ p, pu_upr _ _ _ r, pu_upr _ _ _ r]
  have gr : gR R (px_first (mm_up (mm_up R 0 12 0) 0 8 0)) := ⟨fun a p q => by rw [fi_fr _ _ p q, pu_upr _ _ _ p, pu_upr _ _ _ p], fun j hj => by rw [fi_0 _ _ (by omega) (by omega), pu_nk _ _ (by omega), pu_nk _ _ (by omega)]⟩
  have hT : tz_T (mm_up (px_clear 8 (mm_up (mm_up C 18 1 0) 18 3 0)) 16 2 0) (px_first (mm_up (mm_up R 0 12 0) 0 8 0)) t b 0 := by
    refine ⟨hB, ⟨?_, fun i hi => ?_⟩, ⟨?_, fun i hi => ?_⟩, ?_, ?_, pu_at _ _ _ _, ?_, by omega⟩
    · rw [pu_nk _ _ (by omega), cl_fr _ _ (by omega), pu_upr _ _ _ (by omega), pu_upr _ _ _ (by omega)]
      exact h1
    · rw [gc 17 (by omega) (by omega) (by omega)]
      exact (h3 i hi).2.1
    · rw [gr.2 7 (by omega)]
      exact h2
    · rw [gr.1 5 (by omega) (by omega)]
      exact (h3 i hi).2.2
    · rw [pu_upr _ _ _ (by omega), cl_fr _ _ (by omega), pu_nk _ _ (by omega), pu_at]
    · rw [fi_0 _ _ (by omega) (by omega), pu_nk _ _ (by omega), pu_at]
    · rw [fi_0 _ _ (by omega) (by omega), pu_at]
      rfl
  have hD : tz_D (mm_up (px_clear 8 (mm_up (mm_up C 18 1 0) 18 3 0)) 16 2 0) (px_first (mm_up (mm_up R 0 12 0) 0 8 0)) tz_L0 := by
    refine ⟨L0_w, lC_eq (fun a p q => pu_upr _ _ _ (by omega)) (cl_L 8 _), fi_L _, rfl, fi_z _ 38 (by omega), fun i _ hi => ⟨fi_z _ _ (by omega), fi_z _ _ (by omega)⟩⟩
  have hBt : tz_B (mm_up (px_clear 8 (mm_up (mm_up C 18 1 0) 18 3 0)) 16 2 0) (px_first (mm_up (mm_up R 0 12 0) 0 8 0)) := by
    have e3 : (mm_up (px_clear 8 (mm_up (mm_up C 18 1 0) 18 3 0)) 16 2 0) 18 3 = 0 := by
      rw [pu_upr _ _ _ (by omega), cl_fr _ _ (by omega), pu_at]
    obtain ⟨e4, e5⟩ := fi_b (mm_up (mm_up R 0 12 0) 0 8 0)
    exact ⟨fun k _ _ => by rw [e3, e4], fun _ => e5⟩
  -- what comes of it
  rcases text_L (t := t) (b := b) (fun x1_8 M_9 => mm_let (mm_up M_9 0 7 0) fun M_11 => (if (M_11 0 12) ≤ 0 then ((fn_X8_keepDraft M_11).bind fun z_13 => some (x1_8, z_13)) else some (((-10) - (M_11 0 13)), M_11))) t 0 0 mm_fu mm_fu _ _ _ (by omega) (by omega) (by omega) (by omega) hT hD hBt with ⟨C', R', n', x1, x2, x3, x4, x5⟩ | ⟨C', R', L', n', x1, x2, x3, x4, x5, x6, x7, x8⟩
  · have kc := gC_tr gc x4
    have kr := gR_tr gr x5
    obtain ⟨c, s, f1, f2, f3, f4, f5, f6⟩ := id x3
    have hn := tz_F_n x3
    rw [f5] at x1
    refine ⟨-10 - nI s, mm_up C' 16 1 0, mm_up R' 0 7 0, ?_, ?_, ?_⟩
    · unfold fn_X7_text
      rw [eC, x1]
      simp only [pb_some, mm_leq]
      rw [if_pos (m10 ⟨s, by omega⟩)]
    · rw [eR, x2]
      simp only [mm_leq]
      rw [if_neg (by rw [pu_nk _ _ (by omega)]; exact hn.2), pu_nk _ _ (by omega), f6]
    · refine ⟨?_, ⟨0, b, by omega, by rw [pu_at]; rfl, by rw [pu_at]; rfl, fun i hi => absurd hi (by omega)⟩, ?_, ?_, fun e he => ?_, fun e he => ?_⟩
      · rw [pu_upr _ _ _ (by omega), kr.1 1 (by omega) (by omega)]
        exact sm_st_eq (fun a p q => by rw [pu_upr _ _ _ (by omega), kc a (by omega) (by omega) (by omega)]) (fun a p q => by rw [pu_upr _ _ _ (by omega), kc a (by omega) (by omega) (by omega)]) hst
      · rw [pu_upr _ _ _ (by omega), pu_nk _ _ (by omega), f3, f4]
      · rw [pu_upr _ _ _ (by omega), pu_nk _ _ (by omega), kc 0 (by omega) (by omega) (by omega), kr.2 26 (by omega)]
        exact h7
      · exact sm_im_eq (fun a p q => by rw [pu_upr _ _ _ (by omega), kc a (by omega) (by omega) (by omega)]) (fun j _ => by rw [pu_upr _ _ _ (by omega), kr.1 1 (by omega) (by omega)]) (by rw [pu_upr _ _ _ (by omega), kr.1 3 (by omega) (by omega)]) he (h8 e he)
      · exact sm_sh_eq (fun a p q => by rw [pu_upr _ _ _ (by omega), kc a (by omega) (by omega) (by omega)]) (by rw [pu_upr _ _ _ (by omega), kr.1 8 (by omega) (by omega)]) (by rw [pu_upr _ _ _ (by omega), kr.1 9 (by omega) (by omega)]) (by rw [pu_upr _ _ _ (by omega), kr.1 10 (by omega) (by omega)]) he (h9 e he)
  · have kc := gC_tr gc x7
    have kr := gR_tr gr x8
    obtain ⟨w1, w2, w3, w4, w5, w6⟩ := x4
    have l1 : lC (mm_up C' 16 1 0) 8 L' := lC_eq (fun a p q => pu_upr _ _ _ (by omega)) w2
    obtain ⟨C2, b1, b2, b3⟩ := c_become 1 8 l1 w1.1 (by omega)
    obtain ⟨f, hf⟩ : ∃ f, mm_fu = f + 3 := ⟨mm_fu - 3, by omega⟩
    have q1 : ∀ a, ¬ (1 ≤ a ∧ a ≤ 7) → a ≠ 16 → a ≠ 19 → a ≠ 90 → a ≠ 102 → (mm_up (mm_up (mm_up C2 19 0 0) 90 0 0) 102 0 0) a = C' a := fun a p1 p2 p3 p4 p5 => by
      rw [pu_upr _ _ _ p5, pu_upr _ _ _ p4, pu_upr _ _ _ p3, b3 a (by omega), pu_upr _ _ _ p2]
    have l2 : lC (mm_up (mm_up (mm_up C2 19 0 0) 90 0 0) 102 0 0) 1 L' := lC_eq (fun a p q => by rw [pu_upr _ _ _ (by omega), pu_upr _ _ _ (by omega), pu_upr _ _ _ (by omega)]) b2
    have q2 : (mm_up (mm_up (mm_up C2 19 0 0) 90 0 0) 102 0 0) 16 1 = 0 := by
      rw [pu_upr _ _ _ (by omega), pu_upr _ _ _ (by omega), pu_upr _ _ _ (by omega), b3 16 (by omega), pu_at]
    have u1 : ∀ j, j < 57 → (px_keep (mm_up R' 0 7 0)) 1 j = R' 4 j := fun j hj => by
      unfold px_keep
      rw [pu_upr _ _ _ (by omega), pu_upr _ _ _ (by omega), pu_row_at, if_pos hj, pu_upr _ _ _ (by omega)]
    have u2 : ∀ a, a ≠ 0 → a ≠ 1 → a ≠ 3 → (px_keep (mm_up R' 0 7 0)) a = R' a := fun a p1 p2 p3 => by
      unfold px_keep
      rw [pu_upr _ _ _ p3, pu_upr _ _ _ p3, pu_row_ne _ _ p2, pu_upr _ _ _ p1]
    have u0 : ∀ j, (px_keep (mm_up R' 0 7 0)) 0 j = (mm_up R' 0 7 0) 0 j := fun j => by
      unfold px_keep
      rw [pu_upr _ _ _ (by omega), pu_upr _ _ _ (by omega), pu_row_ne _ _ (by omega)]
    have u3 : (px_keep (mm_up R' 0 7 0)) 3 0 = 0 ∧ (px_keep (mm_up R' 0 7 0)) 3 1 = 0 := by
      unfold px_keep
      exact ⟨by rw [pu_nk _ _ (by omega), pu_at], pu_at _ _ _ _⟩
    refine ⟨nI n', mm_up (mm_up (mm_up C2 19 0 0) 90 0 0) 102 0 0, px_keep (mm_up R' 0 7 0), ?_, ?_, ?_⟩
    · unfold fn_X7_text
      rw [eC, x1]
      simp only [pb_some, mm_leq]
      rw [if_neg (nI_pos (by omega)), b1]
      simp only [pb_some]
      rw [hf, tx_L]
    · rw [eR, x2]
      simp only [mm_leq]
      rw [if_pos (by rw [pu_nk _ _ (by omega), x5]; decide), pl_keep]
      rfl
    · refine ⟨?_, ⟨0, b, by omega, q2, by rw [u0, pu_at]; rfl, fun i hi => absurd hi (by omega)⟩, ?_, ?_, fun e he => ?_, fun e he => ?_⟩
      · refine sm_Lst w1 (by omega) l2 (lR_cg u1 w1.1 w3) ⟨0, fun _ => 0, fun _ => 0, fun _ => 0, by omega, ?_, ?_, fun q hq => absurd hq (by omega)⟩
        · rw [pu_upr _ _ _ (by omega), pu_upr _ _ _ (by omega), pu_at]
          rfl
        · rw [u1 38 (by omega)]
          exact w5
      · rw [q1 18 (by omega) (by omega) (by omega) (by omega) (by omega), x6, u0, pu_nk _ _ (by omega), x5]
      · rw [q1 0 (by omega) (by omega) (by omega) (by omega) (by omega), kc 0 (by omega) (by omega) (by omega), u0, pu_nk _ _ (by omega), kr.2 26 (by omega)]
        exact h7
      · refine Or.inl ⟨?_, ?_⟩
        · rcases (by omega : e = 0 ∨ e = 1) with rfl | rfl
          · rw [pu_upr _ _ _ (by omega), pu_at]
          · rw [pu_at]
        · rcases (by omega : e = 0 ∨ e = 1) with rfl | rfl
          · exact u3.1
          · exact u3.2
      · exact sm_sh_eq (fun a p q => by rw [q1 a (by omega) (by omega) (by omega) (by omega) (by omega), kc a (by omega) (by omega) (by omega)]) (by rw [u2 8 (by omega) (by omega) (by omega), kr.1 8 (by omega) (by omega)]) (by rw [u2 9 (by omega) (by omega) (by omega), kr.1 9 (by omega) (by omega)]) (by rw [u2 10 (by omega) (by omega) (by omega), kr.1 10 (by omega) (by omega)]) he (h9 e he)
