/-! by a seed -/
/-- not by unfolding: the kernel would count out the numbers within -/
theorem mm_leq {α β : Type} (a : α) (k : α → β) : mm_let a k = k a := Eq.trans rfl rfl
theorem pd_got (x : Int32) : ∃ g : Nat, g < 32768 ∧ ((x.toUInt32 >>> ((16 : Int32).toUInt32 &&& Int32.toUInt32 31)).toInt32 &&& 32767) = nI g ∧ ((x >>> (16 &&& 31)) &&& 32767) = nI g := by
  refine ⟨x.toBitVec.toNat / 2 ^ 16 % 2 ^ 15, Nat.mod_lt _ (by omega), ?_, ?_⟩
  · rw [pk_and _ 15 (by decide), pk_ushr x 16 16 (by decide)]
  · rw [pk_and _ 15 (by decide)]
    have h := pk_shr x (16 &&& 31) 16 (by decide)
    congr 1
    have hx := x.toBitVec.isLt
    have hy := (x >>> (16 &&& 31)).toBitVec.isLt
    have e1 : x.toInt = if 2 * x.toBitVec.toNat < 2 ^ 32 then (x.toBitVec.toNat : Int) else (x.toBitVec.toNat : Int) - 2 ^ 32 := BitVec.toInt_eq_toNat_cond x.toBitVec
    have e2 : (x >>> (16 &&& 31)).toInt = if 2 * (x >>> (16 &&& 31)).toBitVec.toNat < 2 ^ 32 then ((x >>> (16 &&& 31)).toBitVec.toNat : Int) else ((x >>> (16 &&& 31)).toBitVec.toNat : Int) - 2 ^ 32 := BitVec.toInt_eq_toNat_cond (x >>> (16 &&& 31)).toBitVec
    rw [Int.shiftRight_eq_div_pow] at h
    generalize (x >>> (16 &&& 31)).toBitVec.toNat = Y at *
    generalize x.toBitVec.toNat = X at *
    generalize (x >>> (16 &&& 31)).toInt = yi at *
    generalize x.toInt = xi at *
    split at e1 <;> split at e2 <;> omega
theorem pd_min {a : Nat} (h : a < 1000) : mm_min 60 (nI a) = nI (min 60 a) := by
  unfold mm_min
  by_cases e : a < 60
  · rw [if_pos (show nI a < 60 from nI_lt (b := 60) e (by omega)), Nat.min_eq_right (by omega)]
  · rw [if_neg (show ¬ nI a < 60 from nI_nlt (b := 60) (by omega) (by omega)), Nat.min_eq_left (by omega)]
    rfl
theorem pd_les {a : Nat} (M : mm_M) (h : a < 1000) : fn_X8_lesser 60 (nI a) M = some (nI (min 60 a), M) := by
  unfold fn_X8_lesser
  by_cases e : a ≤ 60
  · rw [if_pos (show nI a ≤ 60 from nI_le (b := 60) e (by omega)), Nat.min_eq_right (by omega)]
  · rw [if_neg (show ¬ nI a ≤ 60 from nI_ge (a := 60) (by omega) (by omega)), Nat.min_eq_left (by omega)]
    rfl
def lv_soil (g : Nat) (L : LV) : LV := lu L 2 (g / 16 % L 0 0) (min 60 (L 2 (g / 16 % L 0 0) + g / 128 % 3))
theorem lv_soil_w {L : LV} (hw : lw L) (g : Nat) : lw (lv_soil g L) ∧ (lv_soil g L) 0 = L 0 := by
  have : min 60 (L 2 (g / 16 % L 0 0) + g / 128 % 3) ≤ 60 := Nat.min_le_left _ _
  exact ⟨lw_up hw 2 _ _ (by omega), lu_ne _ _ _ (by omega)⟩
theorem drift_L {n : Nat} (hn : n < 10000) (N : Nat) (hN : 0 < N) (hN6 : N ≤ 6) (c3 : Int32) (kC kR : mm_M → Option (Int32 × mm_M)) : ∀ m i fuel fuel' (C R : mm_M) (L : LV) (x : Int32), lC C 8 L → lR (R 2) L → lw L → L 0 0 = N → C 1 0 = nI N → R 1 24 = nI N → i + m = n → m < fuel → m < fuel' →
    ∃ C' R' L', fn_X7_drift_L50 (nI n) c3 kC fuel x (nI i) C = kC C' ∧ fn_X8_drift_L44 (nI n) c3 kR fuel' x (nI i) R = kR R' ∧ lC C' 8 L' ∧ lR (R' 2) L' ∧ lw L' ∧ c_fr 8 C C' ∧ r_s R R' := by
  intro m
  induction m with
  | zero =>
    intro i fuel fuel' C R L x hc hr hw hL h1 h2 hi hf hf'
    obtain ⟨f, rfl⟩ : ∃ f, fuel = f + 1 := ⟨fuel - 1, by omega⟩
    obtain ⟨f', rfl⟩ : ∃ f, fuel' = f + 1 := ⟨fuel' - 1, by omega⟩
    have : i = n := by omega
    subst this
    refine ⟨C, R, L, ?_, ?_, hc, hr, hw, c_fr_rf 8 C, r_s_rf R⟩
    · rw [fn_X7_drift_L50, if_pos (nI_le (Nat.le_refl _) (by omega))]
    · rw [fn_X8_drift_L44, if_pos (nI_le (Nat.le_refl _) (by omega))]
  | succ m ih =>
    intro i fuel fuel' C R L x hc hr hw hL h1 h2 hi hf hf'
    obtain ⟨f, rfl⟩ : ∃ f, fuel = f + 1 := ⟨fuel - 1, by omega⟩
    obtain ⟨f', rfl⟩ : ∃ f, fuel' = f + 1 := ⟨fuel' - 1, by omega⟩
    rw [fn_X7_drift_L50, if_neg (nI_ge (by omega) (by omega)), mm_leq, fn_X8_drift_L44, if_neg (nI_ge (by omega) (by omega)), mm_leq]
    generalize x * 1103515245 + 12345 = y
    obtain ⟨g, hg, g1, g2⟩ := pd_got y
    have hj : g / 16 % N < N := Nat.mod_lt _ hN
    have w2 := (hw.2.2.2 (g / 16 % N) (by omega)).2.1
    have d16 : nI g / 16 = nI (g / 16) := pk_div (d := 16) (by omega) (by omega) (by omega)
    have d128 : nI g / 128 = nI (g / 128) := pk_div (d := 128) (by omega) (by omega) (by omega)
    have r10 : nI g - nI g / 10 * 10 = nI (g % 10) := pk_rem (d := 10) (by omega) (by omega) (by omega)
    have r3 : nI (g / 128) - nI (g / 128) / 3 * 3 = nI (g / 128 % 3) := pk_rem (d := 3) (by omega) (by omega) (by omega)
    have rN : nI (g / 16) - nI (g / 16) / nI N * nI N = nI (g / 16 % N) := pk_rem (by omega) hN (by omega)
    have hs : g % 10 ≤ 9 := by omega
    have m3 : g / 128 % 3 < 3 := Nat.mod_lt _ (by omega)
    obtain ⟨s1, s2⟩ := lv_soil_w hw g
    have eC : C (8 + 2) (g / 16 % N) = nI (L 2 (g / 16 % N)) := (hc.2.2.2.2 (g / 16 % N) (by omega)).2.1
    have cs : lC (mm_up C (8 + 2) (g / 16 % N) (nI (min 60 (L 2 (g / 16 % N) + g / 128 % 3)))) 8 (lv_soil g L) := by
      unfold lv_soil
      rw [hL]
      exact lC_up hc 2 _ _ (by omega)
    have rs : lR ((mm_up R 2 (4 * (g / 16 % N) + 1) (nI (min 60 (L 2 (g / 16 % N) + g / 128 % 3)))) 2) (lv_soil g L) := by
      unfold lv_soil
      rw [hL]
      exact lR_row hr hw.1 (by omega) 1 _ (by omega)
    obtain ⟨C2, p1, p2, p3, p4⟩ := c_day cs s1 hs
    obtain ⟨R2, q1, q2, q3, q4, q5⟩ := r_day rs s1 hs
    have k := lv_D_k (g % 10) (lv_soil g L)
    rw [s2] at k
    have fc : c_fr 8 C C2 := c_fr_tr (c_fr_up C _ _ (by omega)) p4
    have fr : r_s R R2 := r_s_tr (r_s_up R _ _) (r_s_of q5)
    simp only [mm_leq, g1, g2, h1, h2, d16, d128, r10, r3, rN, if_neg (nI_ne0 hN (by omega : N < 2 ^ 31))]
    rw [r_of hr hw.1 (i := g / 16 % N) (by omega) 1 (cc := 1) rfl (by omega)]
    unfold fn_X2_soil
    rw [if_pos (pu_in (by omega) (by omega)), nI_clamp (by omega), eC, nI_add, pd_min (by omega)]
    simp only [mm_let, Option.bind_some]
    rw [p1, show (1 + 1 : Nat) = 2 from rfl, nI_add, pd_les R (by omega)]
    simp only [Option.bind_some]
    rw [r_be R (i := g / 16 % N) (by omega) 1 (cc := 1) _ rfl (by omega)]
    simp only [Option.bind_some]
    rw [q1, nI_1]
    simp only [Option.bind_some]
    obtain ⟨C', R', L', y1, y2, y3, y4, y5, y6, y7⟩ := ih (i + 1) f f' C2 R2 (lv_D (g % 10) (lv_soil g L)) y p2 q2 (lv_D_w _ s1) (by omega) (by rw [fc 1 (by omega)]; exact h1) (by rw [fr.1 1 (by omega) (by omega)]; exact h2) (by omega) (by omega) (by omega)
    exact ⟨C', R', L', y1, y2, y3, y4, y5, c_fr_tr fc y6, r_s_tr fr y7⟩
theorem so_drift : sj_drift sm_S := by
  intro C R h x c d
  obtain ⟨L, hw, hd, hc, hr, hsn⟩ := sm_L h
  have h6 := hw.1
  have hc0 : C 1 0 = nI (L 0 0) := hc.1
  have hr0 : R 1 24 = nI (L 0 0) := hr.1
  have hR : ∀ M : mm_M, fn_X8_in c.toInt64 1 60 M = some (pw_b c 1 60, M) := fun M => pw_R c 1 60 M rfl rfl
  have bad : pw_b c 1 60 = 0 → ∃ (r : Int32) (C' R' : mm_M), fn_X7_drift x c d C = some (r, C') ∧ fn_X8_drift x c d R = some (r, R') ∧ sm_S C' R' := fun e => by
    refine ⟨-1, C, R, ?_, ?_, h⟩
    · simp [fn_X7_drift, pw_C, e]
    · simp [fn_X8_drift, hR, e]
  have hlow := pw_low (L := 1) (v := c) (m := 60) (by decide)
  by_cases h1 : (1 : Int32) ≤ c
  · rcases pw_60C c with e | ⟨n, hn, rfl, e⟩
    · exact bad ((hlow.1 h1).trans e)
    · have e1 := (hlow.1 h1).trans e
      rcases pw_lit d 1 (x := 1) rfl (by decide) with e2 | ⟨w, hww, rfl, e2⟩
      · refine ⟨-1, C, R, ?_, ?_, h⟩
        · simp [fn_X7_drift, pw_C, e1, pw_half, e2]
        · simp [fn_X8_drift, hR, e1, pw_part, e2]
      · by_cases e3 : L 0 0 = 0
        · refine ⟨-2, C, R, ?_, ?_, h⟩
          · simp only [fn_X7_drift, pw_C, e1, pw_half, e2, Option.bind_some, hc0, e3]
            rw [if_neg (by decide), if_neg (by decide), if_neg (by decide)]
          · simp only [fn_X8_drift, hR, e1, pw_part, e2, Option.bind_some, hr0, e3]
            rw [if_neg (by decide), if_neg (by decide), if_pos (by decide)]
        · obtain ⟨C1, a1, a2, a3⟩ := c_begin hc hw
          obtain ⟨R1, b1, b2, b3, b4, b5, b6⟩ := r_begin hr hw
          obtain ⟨C2, R2, L', x1, x2, x3, x4, x5, x6, x7⟩ := drift_L (n := n) (by omega) (L 0 0) (by omega) h6 (nI w) (fun M_12 => (if nI w = 0 then ((fn_X2_whoIsAt 8 2 M_12).bind fun z_16 => ((fn_J6_bitCount_0f7a4 z_16.1 z_16.2).bind fun z_17 => some (z_17.1, z_17.2))) else ((fn_X2_greyOfAll 8 M_12).bind fun z_15 => some (z_15.1, z_15.2)))) (fun M_15 => (if nI w = 0 then ((fn_X8_manyAt 2 M_15).bind fun z_19 => some (z_19.1, z_19.2)) else ((fn_X8_sumOf 1 M_15).bind fun z_18 => some (z_18.1, z_18.2)))) n 0 mm_fu mm_fu C1 R1 L x a2 b2 hw rfl (by rw [a3 1 (by omega)]; exact hc0) (by rw [b6.1 1 (by omega) (by omega)]; exact hr0) (by omega) (by have := mm_fu_ge; omega) (by have := mm_fu_ge; omega)
          simp only [c_who x3 x5 (v := 2) (c1 := 2) rfl (by omega), c_many x5.1, c_grey x3 x5, Option.bind_some] at x1
          simp only [r_many x4 x5 (v := 2) (c1 := 2) rfl (by omega), r_sum x4 x5 (v := 1) (c1 := 1) rfl (by omega), Option.bind_some] at x2
          have hS := sm_scr h (c_sc_tr (c_sc_of a3) (c_sc_of x6)) (r_sc_tr (r_sc_of b6) (r_sc_of x7))
          refine ⟨if nI w = 0 then nI (lv_cnt (L' 4) 2 (L' 0 0)) else nI (lv_sum (L' 2) (L' 0 0)), C2, R2, ?_, ?_, hS⟩
          · simp only [fn_X7_drift, pw_C, e1, pw_half, e2, Option.bind_some, hc0]
            rw [if_neg (by decide), if_neg (by decide), if_pos (show (1 : Int32) ≤ nI (L 0 0) from nI_le (a := 1) (by omega) (by omega)), a1]
            simp only [Option.bind_some]
            refine Eq.trans x1 ?_
            split <;> rfl
          · simp only [fn_X8_drift, hR, e1, pw_part, e2, Option.bind_some, hr0]
            rw [if_neg (by decide), if_neg (by decide), if_neg (nI_ne0 (by omega) (by omega)), b1]
            simp only [Option.bind_some]
            refine Eq.trans x2 ?_
            split <;> rfl
  · exact bad (hlow.2 h1)
