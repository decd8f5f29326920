theorem pw_low {L v m : Int32} (hL : ¬ L < 0) : (L ≤ v → pw_b v L m = pw_b v 0 m) ∧ (¬ L ≤ v → pw_b v L m = 0) := by
  refine ⟨fun h => ?_, fun h => ?_⟩
  · unfold pw_b
    have h0 : ¬ v < 0 := by
      rw [Int32.lt_iff_toInt_lt] at hL ⊢
      rw [Int32.le_iff_toInt_le] at h
      omega
    have h1 : ¬ v < L := by
      rw [Int32.lt_iff_toInt_lt]
      rw [Int32.le_iff_toInt_le] at h
      omega
    rw [if_neg h0, if_neg h1]
  · unfold pw_b
    rw [if_pos]
    rw [Int32.lt_iff_toInt_lt]
    rw [Int32.le_iff_toInt_le] at h
    omega
theorem pl_low (j : Nat) (hj : j < 5) (R : mm_M) : fn_X8_lowOf (nI j) R = some (mm_sav 0 j, R) := by
  match j, hj with
  | 0, _ => rfl
  | 1, _ => rfl
  | 2, _ => rfl
  | 3, _ => rfl
  | 4, _ => rfl
theorem pl_most (j : Nat) (hj : j < 5) (R : mm_M) : fn_X8_mostOf (nI j) R = some (mm_sav 1 j, R) := by
  match j, hj with
  | 0, _ => rfl
  | 1, _ => rfl
  | 2, _ => rfl
  | 3, _ => rfl
  | 4, _ => rfl
def sm_most (j : Nat) : Nat := [9, 6, 6, 30, 20].getD j 0
theorem sm_most_eq (j : Nat) (hj : j < 5) : nI (sm_most j) = mm_sav 1 j ∧ sm_most j ≤ 30 ∧ ¬ mm_sav 0 j < 0 := by
  match j, hj with
  | 0, _ => exact ⟨rfl, by decide, by decide⟩
  | 1, _ => exact ⟨rfl, by decide, by decide⟩
  | 2, _ => exact ⟨rfl, by decide, by decide⟩
  | 3, _ => exact ⟨rfl, by decide, by decide⟩
  | 4, _ => exact ⟨rfl, by decide, by decide⟩
theorem sm_wf_rule {n : Nat} {r s k g w p : Nat → Nat} (h : sm_wf n r s k g w p) (j u : Nat) (hj : j < 5) (hu : u ≤ sm_most j) : sm_wf n (sm_f r j u) s k g w p := by
  refine ⟨h.1, ?_, h.2.2⟩
  obtain ⟨h0, h1, h2, h3, h4⟩ := h.2.1
  match j, hj with
  | 0, _ => exact ⟨hu, h1, h2, h3, h4⟩
  | 1, _ => exact ⟨h0, hu, h2, h3, h4⟩
  | 2, _ => exact ⟨h0, h1, hu, h3, h4⟩
  | 3, _ => exact ⟨h0, h1, h2, hu, h4⟩
  | 4, _ => exact ⟨h0, h1, h2, h3, hu⟩
theorem so_set : sj_set sm_S := by
  intro C R h c v
  have h' := h
  obtain ⟨⟨n, d, r, s, k, g, w, p, ⟨hd, hw⟩, hc, hr, hsn⟩, -⟩ := h'
  rcases pw_lit c 4 (x := 4) rfl (by decide) with e | ⟨j, hj, rfl, e⟩
  · refine ⟨-1, C, R, ?_, ?_, h⟩
    · simp [fn_X7_set, pw_C, e]
    · simp [fn_X8_set, pw_R4, e]
  · have hj5 : j < 5 := by omega
    obtain ⟨m1, m2, m3⟩ := sm_most_eq j hj5
    have e25 : (25 : Int32) + nI j = nI (25 + j) := nI_add 25 j
    have hin := pu_in (i := j) (n := 5) hj5 (by decide)
    have hcl : (nI j).toNatClampNeg = j := nI_clamp (by omega)
    have hR : ∀ M : mm_M, fn_X8_in v.toInt64 (mm_sav 0 j).toInt64 (mm_sav 1 j).toInt64 M = some (pw_b v (mm_sav 0 j) (mm_sav 1 j), M) := fun M => pw_R v _ _ M rfl rfl
    by_cases hlo : mm_sav 0 j ≤ v
    · have eL := (pw_low (m := mm_sav 1 j) m3).1 hlo
      rcases pw_lit v (sm_most j) m1 (by omega) with e2 | ⟨u, hu, rfl, e2⟩
      · refine ⟨-1, C, R, ?_, ?_, h⟩
        · simp [fn_X7_set, pw_C, e, hin, hcl, hlo, pl_replace 6 5 (nI j) v (mm_sav 1 j) C hj5 (by decide) rfl, e2]
        · simp [fn_X8_set, pw_R4, e, pl_low j hj5, pl_most j hj5, hR, eL, e2]
      · refine ⟨nI (r j), mm_up C 6 j (nI u), mm_up R 1 (25 + j) (nI u), ?_, ?_, sm_move h (sm_eC_up (by omega)) (sm_eR_up (by omega)) ?_⟩
        · simp [fn_X7_set, pw_C, e, hin, hcl, hlo, pl_replace 6 5 (nI j) (nI u) (mm_sav 1 j) C hj5 (by decide) rfl, e2, hc.2.2.1 j hj5]
        · simp [fn_X8_set, pw_R4, e, pl_low j hj5, pl_most j hj5, hR, eL, e2, pl_becomes (25 + j) (nI u) R (by omega) e25, hr.2.2.1 j hj5]
        · rw [pu_up_at]
          exact ⟨n, d, sm_f r j u, s, k, g, w, p, ⟨hd, sm_wf_rule hw j u hj5 hu⟩, rc_rule hc j u, rr_rule hr hw.1 j u hj5, sn_f (fun i hi => by rw [upd, if_neg (by omega)]) (sm_sn_eq (fun a ha hb => pu_upr _ _ _ (by omega)) hsn)⟩
    · have eL := (pw_low (m := mm_sav 1 j) m3).2 hlo
      refine ⟨-1, C, R, ?_, ?_, h⟩
      · simp [fn_X7_set, pw_C, e, hin, hcl, hlo]
      · simp [fn_X8_set, pw_R4, e, pl_low j hj5, pl_most j hj5, hR, eL]
/-- one number of one of them is written -/
theorem sm_one {C R : mm_M} (h : sm_S C R) {n d : Nat} {r s k g w p : Nat → Nat} (hw : d ≤ 999 ∧ sm_wf n r s k g w p) (hc : sm_rc C 1 n d r s k g w p) (hr : sm_rr (R 1) n d r s k g w p) (hsn : sm_sn C 19 (R 1) n) (c i u : Nat) (hc4 : c < 4) (hi : i < n) (hu : u ≤ [3, 60, 20, 2].getD c 0) : sm_S (mm_up C (2 + c) i (nI u)) (mm_up R 1 (4 * i + c) (nI u)) := by
  have hn := hw.2.1
  refine sm_move h (sm_eC_up (by omega)) (sm_eR_up (by omega)) ?_
  rw [pu_up_at]
  refine ⟨n, d, r, s, _, _, _, _, ⟨hw.1, hn, hw.2.2.1, hw.2.2.2.1, fun x hx => ?_⟩, rc_one hc c i u hc4, rr_one hr c i u hn (by omega) hc4, sn_f (fun i hi => by rw [upd, if_neg (by omega)]) (sm_sn_eq (fun a ha hb => pu_upr _ _ _ (by omega)) hsn)⟩
  obtain ⟨a1, a2, a3, a4⟩ := hw.2.2.2.2 x hx
  match c, hc4 with
  | 0, _ => simp [sm_f] at hu ⊢; split <;> omega
  | 1, _ => simp [sm_f] at hu ⊢; split <;> omega
  | 2, _ => simp [sm_f] at hu ⊢; split <;> omega
  | 3, _ => simp [sm_f] at hu ⊢; split <;> omega
theorem so_fetch : sj_fetch sm_S := by
  intro C R h c
  have h' := h
  obtain ⟨⟨n, d, r, s, k, g, w, p, hw, hc, hr, hsn⟩, -⟩ := h'
  have hn := hw.2.1
  rcases pw_one c n (by omega) with e | ⟨j, hj, rfl, e⟩
  · refine ⟨-1, C, R, ?_, ?_, h⟩
    · simp [fn_X7_fetch, pw_oneC, hc.1, e]
    · simp [fn_X8_fetch, pw_oneR, hr.1, e]
  · have e4 : (4 : Int32) * nI j + 3 = nI (4 * j + 3) := by
      rw [show (4 : Int32) * nI j = nI (4 * j) from pk_mul 4 j]
      exact nI_add (4 * j) 3
    have hin := pu_in (i := j) (n := 6) (by omega) (by decide)
    have hcl : (nI j).toNatClampNeg = j := nI_clamp (by omega)
    have hp := (hw.2.2.2.2 j hj).2.2.2
    have hpc := (hc.2.2.2.2 j hj).2.2.2
    have hpr := (hr.2.2.2.2 j hj).2.2.2
    have hb := pl_becomes (4 * j + 3) 0 R (by omega) e4
    by_cases hz : p j = 0
    · have hz2 : nI (p j) = 0 := by rw [hz]; rfl
      refine ⟨-2, C, mm_up R 1 (4 * j + 3) 0, ?_, ?_, sm_move h (sm_eC_rf C) (sm_eR_up (by omega)) ?_⟩
      · simp [fn_X7_fetch, pw_oneC, hc.1, e, hin, hcl, mm_let, hpc, hz2]
      · simp [fn_X8_fetch, pw_oneR, hr.1, e, hb, mm_let, hpr, hz2]
      · have : (mm_up R 1 (4 * j + 3) 0) 1 = R 1 := by
          rw [pu_up_at]
          funext x
          rw [upd]
          split
          · next hx => rw [hx, hpr, hz2]
          · rfl
        rw [this]
        exact h.1
    · have hz2 : ¬ nI (p j) = 0 := nI_ne0 (by omega) (by omega)
      refine ⟨nI (p j), mm_up C 5 j 0, mm_up R 1 (4 * j + 3) 0, ?_, ?_, sm_one h hw hc hr hsn 3 j 0 (by decide) hj (by decide)⟩
      · simp [fn_X7_fetch, pw_oneC, hc.1, e, hin, hcl, mm_let, hpc, hz2]
      · simp [fn_X8_fetch, pw_oneR, hr.1, e, hb, mm_let, hpr, hz2]
theorem so_alter : sj_alter sm_S := by
  intro C R h c what v
  have h' := h
  obtain ⟨⟨n, d, r, s, k, g, w, p, hw, hc, hr, hsn⟩, -⟩ := h'
  have hn := hw.2.1
  rcases pw_one c n (by omega) with e | ⟨j, hj, rfl, e⟩
  · refine ⟨-1, C, R, ?_, ?_, h⟩
    · simp [fn_X7_alter, pw_oneC, hc.1, e]
    · simp only [fn_X8_alter, fn_X8_alter_B55, pw_R3, pw_R60, pw_R20, pw_oneR, hr.1, e, Option.bind_some]
      simp
  · have e4 : ∀ x : Nat, (4 : Int32) * nI j + nI x = nI (4 * j + x) := fun x => by
      rw [show (4 : Int32) * nI j = nI (4 * j) from pk_mul 4 j]
      exact nI_add (4 * j) x
    have f0 : (4 : Int32) * nI j = nI (4 * j) := pk_mul 4 j
    have f1 : (4 : Int32) * nI j + 1 = nI (4 * j + 1) := e4 1
    have f2 : (4 : Int32) * nI j + 2 = nI (4 * j + 2) := e4 2
    have h6 : j < 6 := by omega
    obtain ⟨b1, b2, b3, b4⟩ := hc.2.2.2.2 j hj
    obtain ⟨d1, d2, d3, d4⟩ := hr.2.2.2.2 j hj
    by_cases w0 : what = 0
    · subst w0
      rcases pw_lit v 3 (x := 3) rfl (by decide) with e2 | ⟨u, hu, rfl, e2⟩
      · refine ⟨-1, C, R, ?_, ?_, h⟩
        · simp [fn_X7_alter, pw_oneC, hc.1, e, pl_replace 2 6 (nI j) v 3 C h6 (by decide) rfl, e2]
        · simp [fn_X8_alter, fn_X8_alter_B55, pw_R3, pw_oneR, hr.1, e, e2]
      · refine ⟨nI (k j), mm_up C 2 j (nI u), mm_up R 1 (4 * j) (nI u), ?_, ?_, sm_one h hw hc hr hsn 0 j u (by decide) hj hu⟩
        · simp [fn_X7_alter, pw_oneC, hc.1, e, pl_replace 2 6 (nI j) (nI u) 3 C h6 (by decide) rfl, e2, b1]
        · simp [fn_X8_alter, fn_X8_alter_B55, pw_R3, pw_oneR, hr.1, e, e2, pl_becomes (4 * j) (nI u) R (by omega) f0, d1]
    · by_cases w1 : what = 1
      · subst w1
        rcases pw_lit v 60 (x := 60) rfl (by decide) with e2 | ⟨u, hu, rfl, e2⟩
        · refine ⟨-1, C, R, ?_, ?_, h⟩
          · simp [fn_X7_alter, pw_oneC, hc.1, e, pl_replace 3 6 (nI j) v 60 C h6 (by decide) rfl, e2]
          · simp [fn_X8_alter, fn_X8_alter_B55, pw_R60, pw_oneR, hr.1, e, e2]
        · refine ⟨nI (g j), mm_up C 3 j (nI u), mm_up R 1 (4 * j + 1) (nI u), ?_, ?_, sm_one h hw hc hr hsn 1 j u (by decide) hj hu⟩
          · simp [fn_X7_alter, pw_oneC, hc.1, e, pl_replace 3 6 (nI j) (nI u) 60 C h6 (by decide) rfl, e2, b2]
          · simp [fn_X8_alter, fn_X8_alter_B55, pw_R60, pw_oneR, hr.1, e, e2, pl_becomes (4 * j + 1) (nI u) R (by omega) f1, d2]
      · by_cases w2 : what = 2
        · subst w2
          rcases pw_lit v 20 (x := 20) rfl (by decide) with e2 | ⟨u, hu, rfl, e2⟩
          · refine ⟨-1, C, R, ?_, ?_, h⟩
            · simp [fn_X7_alter, pw_oneC, hc.1, e, pl_replace 4 6 (nI j) v 20 C h6 (by decide) rfl, e2]
            · simp [fn_X8_alter, fn_X8_alter_B55, pw_R20, pw_oneR, hr.1, e, e2]
          · refine ⟨nI (w j), mm_up C 4 j (nI u), mm_up R 1 (4 * j + 2) (nI u), ?_, ?_, sm_one h hw hc hr hsn 2 j u (by decide) hj hu⟩
            · simp [fn_X7_alter, pw_oneC, hc.1, e, pl_replace 4 6 (nI j) (nI u) 20 C h6 (by decide) rfl, e2, b3]
            · simp [fn_X8_alter, fn_X8_alter_B55, pw_R20, pw_oneR, hr.1, e, e2, pl_becomes (4 * j + 2) (nI u) R (by omega) f2, d3]
        · refine ⟨-1, C, R, ?_, ?_, h⟩
          · simp [fn_X7_alter, pw_oneC, hc.1, e, w0, w1, w2]
          · simp [fn_X8_alter, fn_X8_alter_B55, pw_oneR, hr.1, e, w0, w1, w2]
