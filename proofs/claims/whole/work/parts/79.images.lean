/-! images and sheets -/
theorem sm_st_cg {C C' : mm_M} {o q : Nat} {f f' : Nat → Int32} (h : sm_st C o q f) (e1 : ∀ a, o ≤ a → a ≤ o + 6 → C' a = C a) (e2 : ∀ a, q ≤ a → a ≤ q + 3 → C' a = C a) (ef : ∀ j, j < 57 → f' j = f j) : sm_st C' o q f' := by
  obtain ⟨n, d, r, s, k, g, w, p, h1, h2, h3, h4⟩ := sm_st_eq e1 e2 h
  exact ⟨n, d, r, s, k, g, w, p, h1, h2, lR_cg (L := lv_pack n d r s k g w p) ef h1.2.1 h3, sn_f2 (fun j _ hj => ef j hj) h4⟩
theorem sm_im_cg {C C' R R' : mm_M} {e : Nat} (h : sm_im C R e) (eC : ∀ a, 90 + 12 * e ≤ a → a ≤ 101 + 12 * e → C' a = C a) (eR : ∀ j, j < 57 → R' 1 (57 * (e + 1) + j) = R 1 (57 * (e + 1) + j)) (e3 : R' 3 e = R 3 e) : sm_im C' R' e := by
  unfold sm_im at h ⊢
  rw [eC _ (by omega) (by omega), e3]
  rcases h with h | ⟨h1, h2, h3⟩
  · exact Or.inl h
  · exact Or.inr ⟨h1, h2, sm_st_cg h3 (fun a _ _ => eC a (by omega) (by omega)) (fun a _ _ => eC a (by omega) (by omega)) eR⟩
theorem sm_stL {C : mm_M} {o q : Nat} {f : Nat → Int32} (h : sm_st C o q f) : ∃ L : LV, lw L ∧ L 0 1 ≤ 999 ∧ lC C o L ∧ lR f L ∧ sm_sn C q f (L 0 0) := by
  obtain ⟨n, d, r, s, k, g, w, p, ⟨hd, hw⟩, hc, hr, hsn⟩ := h
  exact ⟨lv_pack n d r s k g w p, hw, hd, hc, hr, hsn⟩
theorem so_keep : sj_keep sm_S := by
  intro C R h c
  obtain ⟨L, hw, hd, hc, hr, hsn⟩ := sm_L h
  rcases pw_lit c 1 (x := 1) rfl (by decide) with e | ⟨k, hk, rfl, e⟩
  · refine ⟨-1, C, R, ?_, ?_, h⟩
    · simp [fn_X7_keep, pw_C, e]
    · simp [fn_X8_keep, pw_R1, e]
  · have hin := pu_in (i := k) (n := 2) (by omega) (by omega)
    have hcl : (nI k).toNatClampNeg = k := nI_clamp (by omega)
    have hC1 : lC (mm_up C (90 + 12 * k) 0 1) 1 L := lC_eq (fun a _ _ => pu_upr _ _ _ (by omega)) hc
    obtain ⟨C2, p1, p2, p3⟩ := c_become (90 + 12 * k + 1) 1 hC1 hw.1 (by omega)
    have hs2 : sm_sn C2 19 (R 1) (L 0 0) := sm_sn_eq (fun a _ _ => by rw [p3 a (by omega), pu_upr _ _ _ (by omega)]) hsn
    obtain ⟨C3, q1, q2, q3⟩ := s_become (90 + 12 * k + 8) 19 hs2 (by omega)
    obtain ⟨R2, s1, s2, s3, s4⟩ := r_copies (mm_up R 3 k 1) (57 * (k + 1)) 0 (c := 57 * (nI k + 1)) (d := 0) (by
      rw [nI_1]
      exact pk_mul 57 (k + 1)) rfl (by omega) (by omega) (by omega)
    have hC3 : ∀ a, a < 90 + 12 * k ∨ 101 + 12 * k < a → C3 a = C a := fun a ha => by rw [q3 a (by omega), p3 a (by omega), pu_upr _ _ _ (by omega)]
    have hR1 : ∀ j, j < 57 * (k + 1) ∨ 57 * (k + 1) + 57 ≤ j → R2 1 j = R 1 j := fun j hj => by rw [s4 j hj, pu_upr _ _ _ (by omega)]
    have hRa : ∀ a, a ≠ 1 → a ≠ 3 → R2 a = R a := fun a h1 h3 => by rw [s2 a h1, pu_upr _ _ _ h3]
    have i0 : C3 (90 + 12 * k) 0 = 1 := by rw [q3 _ (by omega), p3 _ (by omega), pu_up, if_pos ⟨rfl, rfl⟩]
    have i1 : R2 3 k = 1 := by rw [s2 3 (by omega), pu_up, if_pos ⟨rfl, rfl⟩]
    have hRc : ∀ j, j < 57 → R2 1 (57 * (k + 1) + j) = R 1 j := fun j hj => by rw [s3 j hj, Nat.zero_add, pu_upr _ _ _ (by omega)]
    have hS : sm_S C3 R2 := by
      obtain ⟨g1, ⟨t, b, t1, t2, t3, t4⟩, g3, g4, g5, g6⟩ := h
      refine ⟨?_, ⟨t, b, t1, by rw [hC3 16 (by omega)]; exact t2, by rw [hRa 0 (by omega) (by omega)]; exact t3, fun i hi => by rw [hC3 17 (by omega), hRa 5 (by omega) (by omega)]; exact t4 i hi⟩, by rw [hC3 18 (by omega), hRa 0 (by omega) (by omega)]; exact g3, by rw [hC3 0 (by omega), hRa 0 (by omega) (by omega)]; exact g4, fun y hy => ?_, fun y hy => sm_sh_eq (fun a _ _ => hC3 a (by omega)) (hRa 8 (by omega) (by omega)) (hRa 9 (by omega) (by omega)) (hRa 10 (by omega) (by omega)) hy (g6 y hy)⟩
      · exact sm_st_cg g1 (fun a _ _ => hC3 a (by omega)) (fun a _ _ => hC3 a (by omega)) (fun j hj => hR1 j (by omega))
      · by_cases ek : y = k
        · subst ek
          refine Or.inr ⟨i0, i1, sm_Lst hw hd ?_ (lR_cg hRc hw.1 hr) ?_⟩
          · have := lC_eq (C' := C3) (fun a _ _ => q3 a (by omega)) p2
            rw [show 90 + 12 * y + 1 = 91 + 12 * y by omega] at this
            exact this
          · have := sn_f2 (f' := fun j => R2 1 (57 * (y + 1) + j)) (fun j _ hj => hRc j hj) q2
            rw [show 90 + 12 * y + 8 = 98 + 12 * y by omega] at this
            exact this
        · refine sm_im_cg (g5 y hy) (fun a _ _ => hC3 a (by omega)) (fun j hj => hR1 _ (by omega)) ?_
          rw [s2 3 (by omega), pu_up, if_neg (by omega)]
    rcases h.2.2.2.2.1 k (by omega) with ⟨f1, f2⟩ | ⟨f1, f2, -⟩
    · refine ⟨0, C3, R2, ?_, ?_, hS⟩
      · simp only [fn_X7_keep, pw_C, e, Option.bind_some, hin, hcl, f1, mm_let, if_true]
        rw [if_neg (by decide), p1]
        simp only [Option.bind_some]
        rw [q1]
        rfl
      · simp only [fn_X8_keep, pw_R1, e, Option.bind_some, hin, hcl, f2, mm_let, if_true, r_flag0]
        rw [if_neg (by decide), s1]
        rfl
    · refine ⟨1, C3, R2, ?_, ?_, hS⟩
      · simp only [fn_X7_keep, pw_C, e, Option.bind_some, hin, hcl, f1, mm_let, if_true]
        rw [if_neg (by decide), if_neg (by decide), p1]
        simp only [Option.bind_some]
        rw [q1]
        rfl
      · simp only [fn_X8_keep, pw_R1, e, Option.bind_some, hin, hcl, f2, mm_let, if_true, r_flag1]
        rw [if_neg (by decide), s1]
        rfl
theorem so_back : sj_back sm_S := by
  intro C R h c
  rcases pw_lit c 1 (x := 1) rfl (by decide) with e | ⟨k, hk, rfl, e⟩
  · refine ⟨-1, C, R, ?_, ?_, h⟩
    · simp [fn_X7_back, pw_C, e]
    · simp [fn_X8_back, pw_R1, e]
  · have hin := pu_in (i := k) (n := 2) (by omega) (by omega)
    have hcl : (nI k).toNatClampNeg = k := nI_clamp (by omega)
    rcases h.2.2.2.2.1 k (by omega) with ⟨f1, f2⟩ | ⟨f1, f2, f3⟩
    · refine ⟨-2, C, R, ?_, ?_, h⟩
      · simp only [fn_X7_back, pw_C, e, Option.bind_some, hin, hcl, f1, if_true]
        rw [if_neg (by decide)]
      · simp only [fn_X8_back, pw_R1, e, Option.bind_some, hin, hcl, f2, if_true]
        rw [if_neg (by decide)]
    · obtain ⟨L, hw, hd, hc, hr, hsn⟩ := sm_stL f3
      obtain ⟨C2, p1, p2, p3⟩ := c_become 1 (91 + 12 * k) hc hw.1 (by omega)
      have hs2 : sm_sn C2 (98 + 12 * k) (fun j => R 1 (57 * (k + 1) + j)) (L 0 0) := sm_sn_eq (fun a _ _ => p3 a (by omega)) hsn
      obtain ⟨C3, q1, q2, q3⟩ := s_become 19 (98 + 12 * k) hs2 (by omega)
      obtain ⟨R2, s1, s2, s3, s4⟩ := r_copies R 0 (57 * (k + 1)) (c := 0) (d := 57 * (nI k + 1)) rfl (by
        rw [nI_1]
        exact pk_mul 57 (k + 1)) (by omega) (by omega) (by omega)
      have hR2 : ∀ j, j < 57 → R2 1 j = R 1 (57 * (k + 1) + j) := fun j hj => by
        have := s3 j hj
        rw [Nat.zero_add] at this
        exact this
      have hC3 : ∀ a, a = 0 ∨ (8 ≤ a ∧ a ≤ 18) ∨ 23 ≤ a → C3 a = C a := fun a ha => by rw [q3 a (by omega), p3 a (by omega)]
      have p2' : lC C3 1 L := lC_eq (fun a _ _ => q3 a (by omega)) p2
      have hr2 : lR (R2 1) L := lR_cg (f := fun j => R 1 (57 * (k + 1) + j)) hR2 hw.1 hr
      refine ⟨nI (L 0 1), C3, R2, ?_, ?_, ?_⟩
      · simp only [fn_X7_back, pw_C, e, Option.bind_some, hin, hcl, f1, if_true]
        rw [if_neg (by decide), if_neg (by decide), show 90 + 12 * k + 1 = 91 + 12 * k by omega, p1]
        simp only [Option.bind_some]
        rw [show 90 + 12 * k + 8 = 98 + 12 * k by omega, q1]
        simp only [Option.bind_some]
        rw [p2'.2.1]
      · simp only [fn_X8_back, pw_R1, e, Option.bind_some, hin, hcl, f2, if_true]
        rw [if_neg (by decide), if_neg (by decide), s1]
        simp only [Option.bind_some]
        rw [hr2.2.1]
      · exact sm_move h ⟨by rw [hC3 0 (by omega)], by rw [hC3 16 (by omega)], hC3 17 (by omega), by rw [hC3 18 (by omega)], fun a _ _ => hC3 a (by omega)⟩ ⟨by rw [s2 0 (by omega)], by rw [s2 0 (by omega)], by rw [s2 0 (by omega)], fun j hj => s4 j (by omega), s2 3 (by omega), s2 5 (by omega), s2 8 (by omega), s2 9 (by omega), s2 10 (by omega)⟩ (sm_Lst hw hd p2' hr2 (sn_f2 (f := fun j => R 1 (57 * (k + 1) + j)) (fun j _ hj => hR2 j hj) q2))
theorem sm_shs {C C' R R' : mm_M} (h : sm_S C R) (hc : ∀ a, a < 114 → C' a = C a) (hr : ∀ a, a ≠ 8 → a ≠ 9 → a ≠ 10 → R' a = R a) (hs : ∀ e, e < 4 → sm_sh C' R' e) : sm_S C' R' := by
  obtain ⟨g1, ⟨t, b, t1, t2, t3, t4⟩, g3, g4, g5, g6⟩ := h
  refine ⟨?_, ⟨t, b, t1, by rw [hc 16 (by omega)]; exact t2, by rw [hr 0 (by omega) (by omega) (by omega)]; exact t3, fun i hi => by rw [hc 17 (by omega), hr 5 (by omega) (by omega) (by omega)]; exact t4 i hi⟩, by rw [hc 18 (by omega), hr 0 (by omega) (by omega) (by omega)]; exact g3, by rw [hc 0 (by omega), hr 0 (by omega) (by omega) (by omega)]; exact g4, fun e he => ?_, hs⟩
  · exact sm_st_cg g1 (fun a _ _ => hc a (by omega)) (fun a _ _ => hc a (by omega)) (fun j _ => by rw [hr 1 (by omega) (by omega) (by omega)])
  · exact sm_im_cg (g5 e he) (fun a _ _ => hc a (by omega)) (fun j _ => by rw [hr 1 (by omega) (by omega) (by omega)]) (by rw [hr 3 (by omega) (by omega) (by omega)])
theorem sm_sh_cg {C C' R R' : mm_M} {e : Nat} (h : sm_sh C R e) (h0 : C' (114 + 2 * e) = C (114 + 2 * e)) (h1 : C' (114 + 2 * e + 1) = C (114 + 2 * e + 1)) (h8 : R' 8 e = R 8 e) (h9 : R' 9 e = R 9 e) (h10 : ∀ i, i < 40 → R' 10 (40 * e + i) = R 10 (40 * e + i)) : sm_sh C' R' e := by
  unfold sm_sh at h ⊢
  rw [h0, h1, h8, h9]
  exact ⟨h.1, h.2.1, fun i hi => by rw [h10 i hi]; exact h.2.2 i hi⟩
theorem pw_sheetC (c : Int32) (M : mm_M) : fn_X7_isSheet c M = some (pw_b c 0 3, M) := by
  unfold fn_X7_isSheet
  rw [pw_C]
  simp only [Option.bind_some]
  rw [pw_ite (pw_01 _ _ _)]
theorem pw_laneC (c : Int32) (M : mm_M) : fn_X7_isLane c M = some (pw_b c 0 2, M) := by
  unfold fn_X7_isLane
  rw [pw_C]
  simp only [Option.bind_some]
  rw [pw_ite (pw_01 _ _ _)]
theorem pw_sheetR (c d : Int32) (M : mm_M) : fn_X8_isSheet c d M = some (if pw_b c 0 3 = 0 then 0 else if pw_b d 0 2 = 0 then 0 else 1, M) := by
  unfold fn_X8_isSheet
  rw [pw_R3]
  simp only [Option.bind_some]
  by_cases e : pw_b c 0 3 = 0
  · rw [if_pos e, if_pos e]
  · rw [if_neg e, if_neg e, pw_R2]
    simp only [Option.bind_some]
    by_cases e2 : pw_b d 0 2 = 0
    · rw [if_pos e2, if_pos e2]
    · rw [if_neg e2, if_neg e2]
theorem so_sheet : sj_sheet sm_S := by
  intro C R h c1 c2 c3
  rcases pw_lit c1 3 (x := 3) rfl (by decide) with e1 | ⟨k, hk, rfl, e1⟩
  · refine ⟨-1, C, R, ?_, ?_, h⟩
    · simp [fn_X7_sheet, pw_sheetC, e1]
    · simp [fn_X8_sheet, pw_sheetR, e1]
  · rcases pw_lit c2 2 (x := 2) rfl (by decide) with e2 | ⟨l, hl, rfl, e2⟩
    · refine ⟨-1, C, R, ?_, ?_, h⟩
      · simp [fn_X7_sheet, pw_sheetC, e1, pw_laneC, e2]
      · simp [fn_X8_sheet, pw_sheetR, e1, e2]
    · have hin := pu_in (i := k) (n := 4) (by omega) (by omega)
      have hcl : (nI k).toNatClampNeg = k := nI_clamp (by omega)
      by_cases e3 : c3 ≤ 40
      · by_cases e4 : (0 : Int32) ≤ c3
        · obtain ⟨len, hlen, rfl⟩ : ∃ len : Nat, len ≤ 40 ∧ c3 = nI len := nI_of2 (M := 40) (n := 40) (by decide) (Int32.not_lt.mpr e4) e3
          have hfill := pu_fillarr (114 + 2 * k + 1) 40 0 (mm_up (mm_up C (114 + 2 * k) 0 (nI l)) (114 + 2 * k) 1 (nI len)) (by omega)
          have hrf := pu_fill (fn_X8_sheet_L40 (nI k) (fun M => some ((1 : Int32), M))) (fun M => some ((1 : Int32), M)) 10 (40 * k) 40 (fun _ _ => 0)
            (fun m M => by
              rw [fn_X8_sheet_L40, if_pos]
              exact nI_le (a := 40) (Nat.le_refl _) (by omega))
            (fun m i M hi => by
              rw [fn_X8_sheet_L40, if_neg (show ¬ (40 : Int32) ≤ nI i from nI_ge (b := 40) hi (by omega)), show (40 : Int32) * nI k = nI (40 * k) from pk_mul 40 k, nI_add, if_pos (pu_in (by omega) (by omega))]
              simp only [mm_let]
              rw [nI_clamp (by omega), nI_1])
            (fun M f i hi => rfl) mm_fu 0 (mm_up (mm_up R 8 k (nI l)) 9 k (nI len)) (Nat.zero_le _) (by have := mm_fu_ge; omega)
          refine ⟨1, mm_row (mm_up (mm_up C (114 + 2 * k) 0 (nI l)) (114 + 2 * k) 1 (nI len)) (114 + 2 * k + 1) (fun j => if j < 40 then 0 else (mm_up (mm_up C (114 + 2 * k) 0 (nI l)) (114 + 2 * k) 1 (nI len)) (114 + 2 * k + 1) j), mm_row (mm_up (mm_up R 8 k (nI l)) 9 k (nI len)) 10 (fun j => if 40 * k + 0 ≤ j ∧ j < 40 * k + 40 then 0 else (mm_up (mm_up R 8 k (nI l)) 9 k (nI len)) 10 j), ?_, ?_, ?_⟩
          · simp only [fn_X7_sheet, pw_sheetC, e1, pw_laneC, e2, Option.bind_some, hin, hcl, if_true, if_pos e3, if_pos e4, fn_X4_renew, mm_let, hfill]
            rw [if_neg (by decide), if_neg (by decide)]
          · simp only [fn_X8_sheet, pw_sheetR, e1, e2, Option.bind_some, hin, hcl, if_true, if_pos e3, if_pos e4, mm_let]
            exact hrf
          · refine sm_shs h (fun a ha => ?_) (fun a h8 h9 h10 => ?_) (fun e he => ?_)
            · rw [pu_row_ne _ _ (by omega), pu_upr _ _ _ (by omega), pu_upr _ _ _ (by omega)]
            · rw [pu_row_ne _ _ h10, pu_upr _ _ _ h9, pu_upr _ _ _ h8]
            · by_cases ek : e = k
              · subst ek
                refine ⟨⟨len, hlen, ?_, ?_⟩, Or.inr ⟨l, by omega, ?_, ?_⟩, fun i hi => ?_⟩
                · rw [pu_row_ne _ _ (by omega), pu_up, if_pos ⟨rfl, rfl⟩]
                · rw [pu_row_ne _ _ (by omega), pu_up, if_pos ⟨rfl, rfl⟩]
                · rw [pu_row_ne _ _ (by omega), pu_up, if_neg (by omega), pu_up, if_pos ⟨rfl, rfl⟩]
                · rw [pu_row_ne _ _ (by omega), pu_upr _ _ _ (by omega), pu_up, if_pos ⟨rfl, rfl⟩]
                · rw [pu_row_at, pu_row_at, if_pos hi, if_pos (by omega)]
              · refine sm_sh_cg (h.2.2.2.2.2 e he) ?_ ?_ ?_ ?_ (fun i hi => ?_)
                · rw [pu_row_ne _ _ (by omega), pu_upr _ _ _ (by omega), pu_upr _ _ _ (by omega)]
                · rw [pu_row_ne _ _ (by omega), pu_upr _ _ _ (by omega), pu_upr _ _ _ (by omega)]
                · rw [pu_row_ne _ _ (by omega), pu_upr _ _ _ (by omega), pu_up, if_neg (by omega)]
                · rw [pu_row_ne _ _ (by omega), pu_up, if_neg (by omega), pu_upr _ _ _ (by omega)]
                · rw [pu_row_at, if_neg (by omega), pu_upr _ _ _ (by omega), pu_upr _ _ _ (by omega)]
        · refine ⟨-14, C, R, ?_, ?_, h⟩
          · simp only [fn_X7_sheet, pw_sheetC, e1, pw_laneC, e2, Option.bind_some, if_pos e3, if_neg e4]
            rw [if_neg (by decide), if_neg (by decide)]
          · simp only [fn_X8_sheet, pw_sheetR, e1, e2, Option.bind_some, if_pos e3, if_neg e4]
            rfl
      · refine ⟨-1, C, R, ?_, ?_, h⟩
        · simp only [fn_X7_sheet, pw_sheetC, e1, pw_laneC, e2, Option.bind_some, if_neg e3]
          rw [if_neg (by decide), if_neg (by decide)]
        · simp only [fn_X8_sheet, pw_sheetR, e1, e2, Option.bind_some, if_neg e3]
          rfl
theorem so_lay : sj_lay sm_S := by
  intro C R h c1 c2 c3
  rcases pw_lit c1 3 (x := 3) rfl (by decide) with e1 | ⟨k, hk, rfl, e1⟩
  · refine ⟨-1, C, R, ?_, ?_, h⟩
    · simp [fn_X7_lay, pw_sheetC, e1]
    · simp [fn_X8_lay, pw_sheetR, e1]
  · have hin := pu_in (i := k) (n := 4) (by omega) (by omega)
    have hcl : (nI k).toNatClampNeg = k := nI_clamp (by omega)
    have e20 : pw_b 0 0 2 = 1 := by decide
    obtain ⟨⟨len, hlen, l1, l2⟩, hlane, hcells⟩ := h.2.2.2.2.2 k (by omega)
    rcases hlane with ⟨f1, f2⟩ | ⟨l, hl, f1, f2⟩
    · refine ⟨-11, C, R, ?_, ?_, h⟩
      · simp only [fn_X7_lay, pw_sheetC, e1, Option.bind_some, hin, hcl, if_true, fn_X4_isNothing, f1]
        rfl
      · simp only [fn_X8_lay, pw_sheetR, e1, e20, Option.bind_some, hin, hcl, if_true, f2]
        rfl
    · have hl1 : ¬ nI l = (-1 : Int32) := fun q => by
        have := nI_pos (n := l) (by omega)
        rw [q] at this
        exact this (by decide)
      have hl4 : ¬ nI l = (-4 : Int32) := nI_m4 (by omega)
      have hR : ∀ M : mm_M, fn_X8_in c2.toInt64 0 ((nI len - 1).toInt64) M = some (pw_b c2 0 (nI len - 1), M) := fun M => pw_R0 c2 _ M
      rcases pw_one c2 len (by omega) with e2 | ⟨i, hi, rfl, e2⟩
      · refine ⟨-12, C, R, ?_, ?_, h⟩
        · simp only [fn_X7_lay, pw_sheetC, e1, Option.bind_some, hin, hcl, if_true, fn_X4_isNothing, f1, if_neg hl1, fn_X4_hasCell, pw_C, l1, e2]
          rfl
        · simp only [fn_X8_lay, pw_sheetR, e1, e20, Option.bind_some, hin, hcl, if_true, f2, if_neg hl4, l2, hR, e2]
          rfl
      · have hin4 := pu_in (i := i) (n := 40) (by omega) (by omega)
        have hcl4 : (nI i).toNatClampNeg = i := nI_clamp (by omega)
        have e40 : (40 : Int32) * nI k + nI i = nI (40 * k + i) := by
          rw [show (40 : Int32) * nI k = nI (40 * k) from pk_mul 40 k, nI_add]
        have hin6 := pu_in (i := 40 * k + i) (n := 160) (by omega) (by omega)
        have hcl6 : (nI (40 * k + i)).toNatClampNeg = 40 * k + i := nI_clamp (by omega)
        have hC : ∀ v, (if nI l = 0 then c3.toInt8.toInt32 else if nI l = 1 then c3.toInt16.toInt32 else c3) = v → fn_X7_lay (nI k) (nI i) c3 C = some (1, mm_up C (114 + 2 * k + 1) i v) := fun v hv => by
          simp only [fn_X7_lay, pw_sheetC, e1, Option.bind_some, hin, hcl, if_true, fn_X4_isNothing, f1, if_neg hl1, fn_X4_hasCell, pw_C, l1, e2, fn_X4_write, hin4, hcl4, mm_let]
          rw [if_neg (by decide), ← hv]
          by_cases q0 : nI l = 0
          · simp [f1, q0]
          · by_cases q1 : nI l = 1
            · simp [f1, q1]
            · simp [f1, q0, q1]
        have hRR : ∀ v, (if nI l = 0 then c3.toInt8.toInt32 else if nI l = 1 then c3.toInt16.toInt32 else c3) = v → fn_X8_lay (nI k) (nI i) c3 R = some (1, mm_up R 10 (40 * k + i) v) := fun v hv => by
          simp only [fn_X8_lay, pw_sheetR, e1, e20, Option.bind_some, hin, hcl, if_true, f2, if_neg hl4, l2, hR, e2, e40, hin6, hcl6, mm_let]
          rw [if_neg (by decide), ← hv]
          by_cases q0 : nI l = 0
          · simp [q0]
          · by_cases q1 : nI l = 1
            · simp [q1]
            · simp [q0, q1]
        refine ⟨1, _, _, hC _ rfl, hRR _ rfl, ?_⟩
        generalize (if nI l = 0 then c3.toInt8.toInt32 else if nI l = 1 then c3.toInt16.toInt32 else c3) = v
        refine sm_shs h (fun a ha => pu_upr _ _ _ (by omega)) (fun a _ _ h10 => pu_upr _ _ _ h10) (fun e he => ?_)
        by_cases ek : e = k
        · subst ek
          refine ⟨⟨len, hlen, by rw [pu_upr _ _ _ (by omega)]; exact l1, by rw [pu_upr _ _ _ (by omega)]; exact l2⟩, Or.inr ⟨l, hl, by rw [pu_upr _ _ _ (by omega)]; exact f1, by rw [pu_upr _ _ _ (by omega)]; exact f2⟩, fun x hx => ?_⟩
          rw [pu_up, pu_up]
          by_cases ex : x = i
          · rw [if_pos ⟨rfl, ex⟩, if_pos ⟨rfl, by omega⟩]
          · rw [if_neg (fun q => ex q.2), if_neg (by omega)]
            exact hcells x hx
        · exact sm_sh_cg (h.2.2.2.2.2 e he) (pu_upr _ _ _ (by omega)) (pu_upr _ _ _ (by omega)) (by rw [pu_upr _ _ _ (by omega)]) (by rw [pu_upr _ _ _ (by omega)]) (fun x hx => by rw [pu_up, if_neg (by omega)])
