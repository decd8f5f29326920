/-! runs, rule, one -/
theorem pi_self (x y : Int32) : (x + y = x) = (y = 0) := propext ⟨fun h => (Int32.add_right_inj x).mp (h.trans (Int32.add_zero x).symm), fun h => by rw [h, Int32.add_zero]⟩
def lv_idle : Nat → LV → Nat
  | 0, _ => 0
  | m + 1, L => (if (lv_B L).2 = 0 then 1 else 0) + lv_idle m (lv_next L)
theorem lv_bo_le (m : Nat) : ∀ (i : Nat) (x : LV × Nat), (it lv_bo i m x).2 ≤ x.2 + m := by
  induction m with
  | zero => intro i x; exact Nat.le_refl _
  | succ m ih =>
    intro i x
    have h := ih (i + 1) (lv_bo i x)
    have h2 : (lv_bo i x).2 ≤ x.2 + 1 := by
      unfold lv_bo
      split
      · exact Nat.le_refl _
      · omega
    rw [it]
    omega
theorem lv_B_le {L : LV} (hw : lw L) : (lv_B L).2 ≤ 6 := by
  have h := lv_bo_le (L 0 0) 0 (L, 0)
  have h6 := hw.1
  unfold lv_B
  have : ((L, 0) : LV × Nat).2 = 0 := rfl
  omega
theorem c_runs_L (n : Nat) (hn : n < 10000) (c2 : Int32) (k : Int32 → Int32 → mm_M → Option (Int32 × mm_M)) : ∀ m i fuel (C : mm_M) (L : LV) (x y : Int32), lC C 8 L → lw L → L 0 1 + m < 10000 → i + m = n → m < fuel →
    ∃ C', fn_X7_runs_L31 (nI n) c2 k fuel x y (nI i) C = k (x + nI (lv_boi m L)) (y + nI (lv_idle m L)) C' ∧ lC C' 8 (lv_n m L) ∧ c_fr 8 C C' := by
  intro m
  induction m with
  | zero =>
    intro i fuel C L x y h hw hd hi hf
    obtain ⟨f, rfl⟩ : ∃ f, fuel = f + 1 := ⟨fuel - 1, by omega⟩
    have : i = n := by omega
    subst this
    refine ⟨C, ?_, h, c_fr_rf 8 C⟩
    rw [fn_X7_runs_L31, if_pos (nI_le (Nat.le_refl _) (by omega))]
    show k x y C = k (x + 0) (y + 0) C
    rw [Int32.add_zero, Int32.add_zero]
  | succ m ih =>
    intro i fuel C L x y h hw hd hi hf
    obtain ⟨f, rfl⟩ : ∃ f, fuel = f + 1 := ⟨fuel - 1, by omega⟩
    obtain ⟨C1, p1, p2, p3, p4⟩ := c_next h hw (by omega)
    have hB := lv_B_le hw
    rw [fn_X7_runs_L31, if_neg (nI_ge (by omega) (by omega)), pb_bind2, p1]
    simp only [Option.bind_some, mm_let, p3]
    rw [nI_1]
    have k1 := lv_next_k L
    have fin : ∀ z : Int32, z = nI (if (lv_B L).2 = 0 then 1 else 0) → ∃ C', fn_X7_runs_L31 (nI n) c2 k f (x + nI (lv_B L).2) (y + z) (nI (i + 1)) C1 = k (x + nI (lv_boi (m + 1) L)) (y + nI (lv_idle (m + 1) L)) C' ∧ lC C' 8 (lv_n (m + 1) L) ∧ c_fr 8 C C' := fun z hz => by
      subst hz
      obtain ⟨C', q1, q2, q3⟩ := ih (i + 1) f C1 (lv_next L) (x + nI (lv_B L).2) (y + nI (if (lv_B L).2 = 0 then 1 else 0)) p2 (lv_next_w hw) (by omega) (by omega) (by omega)
      refine ⟨C', ?_, q2, c_fr_tr p4 q3⟩
      rw [q1, Int32.add_assoc, nI_add, Int32.add_assoc, nI_add]
      rfl
    by_cases e : (lv_B L).2 = 0
    · rw [if_pos (by rw [e]; rfl)]
      exact fin 1 (by rw [if_pos e]; rfl)
    · rw [if_neg (nI_ne0 (by omega) (by omega))]
      exact fin 0 (by rw [if_neg e]; rfl)
theorem r_runs_L (n : Nat) (hn : n < 10000) (c2 : Int32) (k : Int32 → mm_M → Option (Int32 × mm_M)) : ∀ m i fuel (R : mm_M) (L : LV) (y : Int32), lR (R 2) L → lw L → L 0 1 + m < 10000 → i + m = n → m < fuel →
    ∃ R', fn_X8_runs_L30 (nI n) c2 k fuel y (nI i) R = k (y + nI (lv_idle m L)) R' ∧ R' 0 14 = R 0 14 + nI (lv_boi m L) ∧ lR (R' 2) (lv_n m L) ∧ r_s R R' := by
  intro m
  induction m with
  | zero =>
    intro i fuel R L y h hw hd hi hf
    obtain ⟨f, rfl⟩ : ∃ f, fuel = f + 1 := ⟨fuel - 1, by omega⟩
    have : i = n := by omega
    subst this
    refine ⟨R, ?_, (Int32.add_zero _).symm, h, r_s_rf R⟩
    rw [fn_X8_runs_L30, if_pos (nI_le (Nat.le_refl _) (by omega))]
    show k y R = k (y + 0) R
    rw [Int32.add_zero]
  | succ m ih =>
    intro i fuel R L y h hw hd hi hf
    obtain ⟨f, rfl⟩ : ∃ f, fuel = f + 1 := ⟨fuel - 1, by omega⟩
    obtain ⟨R1, p1, p2, p3, p4, p5⟩ := r_go_L 1 (by omega) (fun M => some M) 1 0 mm_fu R L h hw (by omega) (by omega) (by have := mm_fu_ge; omega)
    have hB := lv_B_le hw
    have p3' : R1 0 14 = R 0 14 + nI (lv_B L).2 := p3
    rw [fn_X8_runs_L30, if_neg (nI_ge (by omega) (by omega)), show fn_X8_daysGo 1 R = some R1 from p1]
    simp only [Option.bind_some, mm_let, p3', pi_self, r_flag0, r_flag1]
    rw [nI_1]
    have k1 := lv_next_k L
    have fin : ∀ z : Int32, z = nI (if (lv_B L).2 = 0 then 1 else 0) → ∃ R', fn_X8_runs_L30 (nI n) c2 k f (y + z) (nI (i + 1)) R1 = k (y + nI (lv_idle (m + 1) L)) R' ∧ R' 0 14 = R 0 14 + nI (lv_boi (m + 1) L) ∧ lR (R' 2) (lv_n (m + 1) L) ∧ r_s R R' := fun z hz => by
      subst hz
      obtain ⟨R', q1, q2, q3, q4⟩ := ih (i + 1) f R1 (lv_next L) (y + nI (if (lv_B L).2 = 0 then 1 else 0)) p2 (lv_next_w hw) (by omega) (by omega) (by omega)
      refine ⟨R', ?_, ?_, q3, r_s_tr (r_s_of p5) q4⟩
      · rw [q1, Int32.add_assoc, nI_add]
        rfl
      · rw [q2, p3', Int32.add_assoc, nI_add]
        rfl
    by_cases e : (lv_B L).2 = 0
    · rw [if_pos (by rw [e]; rfl)]
      exact fin 1 (by rw [if_pos e]; rfl)
    · rw [if_neg (nI_ne0 (by omega) (by omega))]
      exact fin 0 (by rw [if_neg e]; rfl)
theorem so_runs : sj_runs sm_S := by
  intro C R h c w
  obtain ⟨L, hw, hd, hc, hr, hsn⟩ := sm_L h
  rcases pw_60C c with e | ⟨n, hn, rfl, e⟩
  · refine ⟨-1, C, R, ?_, ?_, h⟩
    · simp [fn_X7_runs, pw_C, e]
    · simp [fn_X8_runs, pw_far, e]
  · obtain ⟨C1, a1, a2, a3⟩ := c_begin hc hw
    obtain ⟨R1, b1, b2, b3, b4, b5, b6⟩ := r_begin hr hw
    have hk := lv_n_k n L
    have hw' := lv_n_w n hw
    have h6 := hw.1
    generalize hkC : (fun (x3_11 x4_12 : Int32) (M_13 : mm_M) => (if w = 0 then ((fn_X2_whoIsAt 8 2 M_13).bind fun z_16 => ((fn_J6_bitCount_0f7a4 z_16.1 z_16.2).bind fun z_17 => some (z_17.1, z_17.2))) else (if w = 1 then ((fn_X2_greyOfAll 8 M_13).bind fun z_19 => some (z_19.1, z_19.2)) else (if w = 2 then ((fn_X2_whoIsAt 8 1 M_13).bind fun z_21 => some (z_21.1, z_21.2)) else (if w = 3 then some (x3_11, M_13) else (if w = 4 then some (x4_12, M_13) else some ((-1), M_13))))))) = kC
    obtain ⟨C2, p1, p2, p3⟩ := c_runs_L n (by omega) w kC n 0 mm_fu C1 L 0 0 a2 hw (by omega) (by omega) (by have := mm_fu_ge; omega)
    rw [Int32.zero_add, Int32.zero_add] at p1
    have hC : fn_X7_runs (nI n) w C = kC (nI (lv_boi n L)) (nI (lv_idle n L)) C2 := by
      simp only [fn_X7_runs, pw_C, e, Option.bind_some]
      rw [if_neg (by decide), a1]
      simp only [Option.bind_some]
      rw [← hkC] at p1 ⊢
      exact p1
    clear p1
    subst hkC
    simp only [] at hC
    rcases pw_lit w 4 (x := 4) rfl (by decide) with e3 | ⟨u, hu, rfl, e3⟩
    · refine ⟨-1, C2, R, ?_, ?_, sm_scr h (c_sc_tr (c_sc_of a3) (c_sc_of p3)) (r_sc_rf R)⟩
      · have n0 : ¬ w = 0 := fun q => by subst q; revert e3; decide
        have n1 : ¬ w = 1 := fun q => by subst q; revert e3; decide
        have n2 : ¬ w = 2 := fun q => by subst q; revert e3; decide
        have n3 : ¬ w = 3 := fun q => by subst q; revert e3; decide
        have n4 : ¬ w = 4 := fun q => by subst q; revert e3; decide
        rw [hC, if_neg n0, if_neg n1, if_neg n2, if_neg n3, if_neg n4]
      · simp only [fn_X8_runs, pw_far, e, pw_R4, e3, Option.bind_some]
        rw [if_neg (by decide), if_pos trivial]
    · generalize hkR : (fun (x3_14 : Int32) (M_15 : mm_M) => (if nI u = 0 then ((fn_X8_manyAt 2 M_15).bind fun z_18 => some (z_18.1, z_18.2)) else (if nI u = 1 then ((fn_X8_sumOf 1 M_15).bind fun z_20 => some (z_20.1, z_20.2)) else (if nI u = 2 then ((fn_X8_those 1 M_15).bind fun z_22 => some (z_22.1, z_22.2)) else (if nI u = 3 then some ((M_15 0 14), M_15) else some (x3_14, M_15)))))) = kR
      obtain ⟨R2, q1, q2, q3, q4⟩ := r_runs_L n (by omega) (nI u) kR n 0 mm_fu R1 L 0 b2 hw (by omega) (by omega) (by have := mm_fu_ge; omega)
      rw [Int32.zero_add] at q1
      rw [b3, Int32.zero_add] at q2
      have hR : fn_X8_runs (nI n) (nI u) R = kR (nI (lv_idle n L)) R2 := by
        simp only [fn_X8_runs, pw_far, e, pw_R4, e3, Option.bind_some]
        rw [if_neg (by decide), if_neg (by decide), b1]
        simp only [Option.bind_some]
        rw [← hkR] at q1 ⊢
        exact q1
      clear q1
      subst hkR
      simp only [] at hR
      have hS := sm_scr h (c_sc_tr (c_sc_of a3) (c_sc_of p3)) (r_sc_tr (r_sc_of b6) (r_sc_of q4))
      match u, hu with
      | 0, _ =>
        refine ⟨nI (lv_cnt (lv_n n L 4) 2 (lv_n n L 0 0)), C2, R2, hC.trans ?_, hR.trans ?_, hS⟩
        · rw [if_pos (by decide), c_who p2 hw' (v := 2) (c1 := 2) rfl (by omega)]
          simp only [Option.bind_some]
          rw [c_many (by omega)]
          rfl
        · rw [if_pos (by decide), r_many q3 hw' (v := 2) (c1 := 2) rfl (by omega)]
          rfl
      | 1, _ =>
        refine ⟨nI (lv_sum (lv_n n L 2) (lv_n n L 0 0)), C2, R2, hC.trans ?_, hR.trans ?_, hS⟩
        · rw [if_neg (by decide), if_pos (by decide), c_grey p2 hw']
          rfl
        · rw [if_neg (by decide), if_pos (by decide), r_sum q3 hw' (v := 1) (c1 := 1) rfl (by omega)]
          rfl
      | 2, _ =>
        refine ⟨nI (lv_bits (fun j => decide (lv_n n L 4 j = 1)) (lv_n n L 0 0)), C2, R2, hC.trans ?_, hR.trans ?_, hS⟩
        · rw [if_neg (by decide), if_neg (by decide), if_pos (by decide), c_who p2 hw' (v := 1) (c1 := 1) rfl (by omega)]
          rfl
        · rw [if_neg (by decide), if_neg (by decide), if_pos (by decide), r_those q3 hw' (v := 1) (c1 := 1) rfl (by omega)]
          rfl
      | 3, _ =>
        refine ⟨nI (lv_boi n L), C2, R2, hC.trans ?_, hR.trans ?_, hS⟩
        · rw [if_neg (by decide), if_neg (by decide), if_neg (by decide), if_pos (by decide)]
        · rw [if_neg (by decide), if_neg (by decide), if_neg (by decide), if_pos (by decide), q2]
      | 4, _ =>
        refine ⟨nI (lv_idle n L), C2, R2, hC.trans ?_, hR.trans ?_, hS⟩
        · rw [if_neg (by decide), if_neg (by decide), if_neg (by decide), if_neg (by decide), if_pos (by decide)]
        · rw [if_neg (by decide), if_neg (by decide), if_neg (by decide), if_neg (by decide)]
theorem so_rule : sj_rule sm_S := by
  intro C R h w
  obtain ⟨L, hw, hd, hc, hr, hsn⟩ := sm_L h
  obtain ⟨R1, b1, b2, b3, b4, b5, b6⟩ := r_begin hr hw
  have hS := sm_scr h (c_sc_rf C) (r_sc_of b6)
  have e1 := b6.1 1 (by omega) (by omega)
  have hc0 : C 1 0 = nI (L 0 0) := hc.1
  have hc1 : C 1 1 = nI (L 0 1) := hc.2.1
  have hr0 : R 1 24 = nI (L 0 0) := hr.1
  have hr1 : R 1 37 = nI (L 0 1) := hr.2.1
  unfold fn_X7_rule fn_X8_rule
  simp only [b1, Option.bind_some, e1, hc0, hc1, hr0, hr1, c_who hc hw (v := 0) (c1 := 0) rfl (by omega), c_who hc hw (v := 1) (c1 := 1) rfl (by omega), c_who hc hw (v := 2) (c1 := 2) rfl (by omega), r_those b2 hw (v := 0) (c1 := 0) rfl (by omega), r_those b2 hw (v := 1) (c1 := 1) rfl (by omega), r_those b2 hw (v := 2) (c1 := 2) rfl (by omega), c_grey hc hw, r_sum b2 hw (v := 1) (c1 := 1) rfl (by omega), c_sun hc (by omega), r_sun b2 (by omega)]
  have go : ∀ r : Int32, ∃ r' C' R', some (r, C) = some (r', C') ∧ some (r, R1) = some (r', R') ∧ sm_S C' R' := fun r => ⟨r, C, R1, rfl, rfl, hS⟩
  by_cases n0 : w = 0
  · simp only [if_pos n0]
    exact go _
  · simp only [if_neg n0]
    by_cases n1 : w = 1
    · simp only [if_pos n1]
      exact go _
    · simp only [if_neg n1]
      by_cases n2 : w = 2
      · simp only [if_pos n2]
        exact go _
      · simp only [if_neg n2]
        by_cases n3 : w = 3
        · simp only [if_pos n3]
          exact go _
        · simp only [if_neg n3]
          by_cases n4 : w = 4
          · simp only [if_pos n4]
            exact go _
          · simp only [if_neg n4]
            by_cases n5 : w = 5
            · simp only [if_pos n5]
              exact go _
            · simp only [if_neg n5]
              by_cases n6 : w = 6
              · simp only [if_pos n6]
                exact go _
              · simp only [if_neg n6]
                exact go _
theorem so_one : sj_one sm_S := by
  intro C R h c w
  obtain ⟨L, hw, hd, hc, hr, hsn⟩ := sm_L h
  have h6 := hw.1
  have hc0 : C 1 0 = nI (L 0 0) := hc.1
  have hr0 : R 1 24 = nI (L 0 0) := hr.1
  rcases pw_one c (L 0 0) (by omega) with e | ⟨j, hj, rfl, e⟩
  · refine ⟨-1, C, R, ?_, ?_, h⟩
    · simp [fn_X7_one, pw_oneC, hc0, e]
    · simp [fn_X8_one, pw_oneR, hr0, e]
  · obtain ⟨R1, b1, b2, b3, b4, b5, b6⟩ := r_begin hr hw
    have hS := sm_scr h (c_sc_rf C) (r_sc_of b6)
    obtain ⟨d1, d2, d3, d4⟩ := hc.2.2.2.2 j hj
    have hin := pu_in (i := j) (n := 6) (by omega) (by omega)
    have hcl : (nI j).toNatClampNeg = j := nI_clamp (by omega)
    have d1' : C 2 j = nI (L 1 j) := d1
    have d2' : C 3 j = nI (L 2 j) := d2
    have d3' : C 4 j = nI (L 3 j) := d3
    have d4' : C 5 j = nI (L 4 j) := d4
    have go : ∀ r : Int32, ∃ r' C' R', some (r, C) = some (r', C') ∧ some (r, R1) = some (r', R') ∧ sm_S C' R' := fun r => ⟨r, C, R1, rfl, rfl, hS⟩
    unfold fn_X7_one fn_X8_one
    simp only [b1, Option.bind_some, pw_oneC, pw_oneR, hc0, hr0, e, hin, hcl, if_true, if_neg (show ¬ (1 : Int32) = 0 by decide), d1', d2', d3', d4', c_scrubs hc hw hj, r_scrubs b2 hw hj, c_sun hc (by omega : L 0 1 < 10000), r_sun b2 (by omega : L 0 1 < 10000), c_dries hc hw hj (lv_today_le hw), r_dries b2 hw hj (lv_today_le hw)]
    by_cases n0 : w = 0
    · subst n0
      rw [r_of b2 h6 (i := j) hj 0 (cc := 0) rfl (by omega)]
      exact go _
    · simp only [if_neg n0]
      by_cases n1 : w = 1
      · subst n1
        rw [r_of b2 h6 (i := j) hj 1 (cc := 1) rfl (by omega)]
        exact go _
      · simp only [if_neg n1]
        by_cases n2 : w = 2
        · subst n2
          rw [r_of b2 h6 (i := j) hj 2 (cc := 2) rfl (by omega)]
          exact go _
        · simp only [if_neg n2]
          by_cases n3 : w = 3
          · subst n3
            rw [r_of b2 h6 (i := j) hj 3 (cc := 3) rfl (by omega)]
            exact go _
          · simp only [if_neg n3]
            by_cases n4 : w = 4
            · simp only [if_pos n4]
              exact go _
            · simp only [if_neg n4]
              by_cases n5 : w = 5
              · simp only [if_pos n5]
                exact go _
              · simp only [if_neg n5]
                exact go _
