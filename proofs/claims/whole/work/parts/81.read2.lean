/-! sheets are read -/
theorem pb_some {α β : Type} (a : α) (f : α → Option β) : (some a).bind f = f a := Eq.trans rfl rfl
theorem pl_cmp0 {a : Nat} (ha : a < 2 ^ 31) : ¬ lg_cmp (lN a) 0 < 0 := fun q => by
  have := (pw_cmp (lN a) 0).1.mp q
  rw [show (0 : Int64) = lN 0 from rfl, lN_lt ha (by omega)] at this
  omega
theorem pl_cmpI {a b : Nat} (ha : a < 2 ^ 31) (hb : b < 2 ^ 31) : (lg_cmp (lN a) (lN b) < 0) = (a < b) := propext ((pw_cmp (lN a) (lN b)).1.trans (lN_lt ha hb))
/-- the place of a CELL, as a long -/
theorem pl_p {fv i c : Nat} (h1 : fv < 1000) (h2 : i < 1000) (h3 : c < 1000) {x : Int32} (hx : x = nI c) : (nI fv).toInt64 + (2 * nI i).toInt64 + x.toInt64 = lN (fv + 2 * i + c) := by
  subst hx
  rw [show (2 : Int32) * nI i = nI (2 * i) from pk_mul 2 i, nI_l (by omega), nI_l (by omega), nI_l (by omega), lN_add, lN_add]
/-- a pair that is whole, or not, in the reference -/
theorem rd_pair {R : mm_M} {k l fv len i : Nat} (hk : k < 4) (hl : l < 3) (h8 : R 8 k = nI l) (h9 : R 9 k = nI len) (hfv : fv ≤ 40) (hlen : len ≤ 40) (hi : i ≤ 20) (c4 c6 : Int32) (kk : Int32 → mm_M → Option (Int32 × mm_M)) (fu : Nat) (hfu : 3 < fu) :
    fn_X8_read_L77 (nI k) (nI l) (nI fv) c4 c6 (nI i) kk fu 0 0 R = kk (if fv + 2 * i + 1 < len then 0 else 2) R := by
  obtain ⟨f, rfl⟩ : ∃ f, fu = f + 1 + 1 + 1 := ⟨fu - 3, by omega⟩
  have hin := pu_in (i := k) (n := 4) hk (by omega)
  have hcl : (nI k).toNatClampNeg = k := nI_clamp (by omega)
  have p0 : (nI fv).toInt64 + (2 * nI i).toInt64 + (0 : Int32).toInt64 = lN (fv + 2 * i + 0) := pl_p (by omega) (by omega) (by omega) rfl
  have p1 : (nI fv).toInt64 + (2 * nI i).toInt64 + (0 + 1 : Int32).toInt64 = lN (fv + 2 * i + 1) := pl_p (by omega) (by omega) (by omega) rfl
  rw [fn_X8_read_L77, if_neg (by decide), if_pos rfl, p0]
  simp only [mm_let]
  rw [if_pos hin, hcl, h8, h9, if_neg (nI_m4 (by omega)), if_pos rfl, if_neg (pl_cmp0 (by omega)), nI_l (by omega)]
  simp only [pl_cmpI (a := fv + 2 * i + 0) (b := len) (by omega) (by omega)]
  by_cases e0 : fv + 2 * i + 0 < len
  · rw [if_pos e0, fn_X8_read_L77, if_neg (by decide), if_pos rfl, p1]
    simp only [mm_let]
    rw [if_pos hin, hcl, h8, h9, if_neg (nI_m4 (by omega)), if_pos rfl, if_neg (pl_cmp0 (by omega)), nI_l (by omega)]
    simp only [pl_cmpI (a := fv + 2 * i + 1) (b := len) (by omega) (by omega)]
    by_cases e1 : fv + 2 * i + 1 < len
    · rw [if_pos e1, if_pos e1, fn_X8_read_L77, if_pos (by decide)]
    · rw [if_neg e1, if_neg e1, fn_X8_read_L77, if_pos (by decide)]
  · rw [if_neg e0, if_neg (by omega), fn_X8_read_L77, if_neg (by decide), if_neg (by decide)]
theorem rd_L {L0 : LV} {C0 R1 : mm_M} {k l fv len n W : Nat} (hk : k < 4) (hl : l < 3) (hlen : len ≤ 40) (hfv : fv < len) (hn : n ≤ 20) (hW : W = min n ((len - fv) / 2)) (h8 : R1 8 k = nI l) (h9 : R1 9 k = nI len) (hcell : ∀ i, i < 40 → C0 (114 + 2 * k + 1) i = R1 10 (40 * k + i)) (c7 : Int32) (k0 : Int32 → mm_M → Option (Int32 × mm_M)) (k1 : mm_M → Option (Int32 × mm_M)) (j0 : Int32 → mm_M → Option (Int32 × mm_M)) (j1 : Int32 → Int32 → mm_M → Option (Int32 × mm_M)) :
    ∀ m i fuel fuel' (C R : mm_M) (L : LV), i + m = W → m < fuel → m + 1 < fuel' → lC C 1 L → lR (R 1) L → lw L → L 0 1 = L0 0 1 → L0 0 0 ≤ L 0 0 → bC (L0 0 0) C0 C → bR R1 R →
    ∃ C' R' L', (lC C' 1 L' ∧ lR (R' 1) L' ∧ lw L' ∧ L' 0 1 = L0 0 1 ∧ L0 0 0 ≤ L' 0 0 ∧ bC (L0 0 0) C0 C' ∧ bR R1 R') ∧ ((fn_X7_read_L58 (nI l) (nI fv) (nI n) (114 + 2 * k) (nI W) c7 k0 k1 fuel (nI i) C = k1 C' ∧ fn_X8_read_L62 (nI k) (nI l) (nI fv) (nI n) j0 j1 fuel' 0 (nI i) (nI i) R = j1 (if W < n then 2 else 0) (nI W) R') ∨ ∃ j : Nat, fn_X7_read_L58 (nI l) (nI fv) (nI n) (114 + 2 * k) (nI W) c7 k0 k1 fuel (nI i) C = k0 (nI j) C' ∧ fn_X8_read_L62 (nI k) (nI l) (nI fv) (nI n) j0 j1 fuel' 0 (nI i) (nI i) R = j0 (nI j) R') := by
  have hWn : W ≤ n := by rw [hW]; exact Nat.min_le_left _ _
  have hWl : W ≤ (len - fv) / 2 := by rw [hW]; exact Nat.min_le_right _ _
  have fuge := mm_fu_ge
  intro m
  induction m with
  | zero =>
    intro i fuel fuel' C R L hi hf hf' hc hr hw hd hsz hbC hbR
    obtain ⟨f, rfl⟩ : ∃ f, fuel = f + 1 := ⟨fuel - 1, by omega⟩
    obtain ⟨f', rfl⟩ : ∃ f, fuel' = f + 1 + 1 := ⟨fuel' - 2, by omega⟩
    have : i = W := by omega
    subst this
    refine ⟨C, R, L, ⟨hc, hr, hw, hd, hsz, hbC, hbR⟩, Or.inl ⟨?_, ?_⟩⟩
    · rw [fn_X7_read_L58, if_pos (nI_le (Nat.le_refl _) (by omega))]
    · by_cases e : i < n
      · have hnot : ¬ fv + 2 * i + 1 < len := by
          have : i = (len - fv) / 2 := by omega
          omega
        rw [if_pos e, fn_X8_read_L62, if_neg (nI_ge e (by omega)), if_pos rfl, rd_pair hk hl (by rw [hbR.1 8 (by omega)]; exact h8) (by rw [hbR.1 9 (by omega)]; exact h9) (by omega) hlen (by omega) _ _ _ mm_fu (by omega), if_neg hnot]
        rw [fn_X8_read_B164, if_neg (by decide), fn_X8_read_L62]
        by_cases e2 : nI n ≤ nI i + 1
        · rw [if_pos e2]
        · rw [if_neg e2, if_neg (by decide)]
      · rw [if_neg e, fn_X8_read_L62, if_pos (nI_le (by omega) (by omega))]
  | succ m ih =>
    intro i fuel fuel' C R L hi hf hf' hc hr hw hd hsz hbC hbR
    obtain ⟨f, rfl⟩ : ∃ f, fuel = f + 1 := ⟨fuel - 1, by omega⟩
    obtain ⟨f', rfl⟩ : ∃ f, fuel' = f + 1 := ⟨fuel' - 1, by omega⟩
    have hyes : fv + 2 * i + 1 < len := by omega
    have ec : nI fv + 2 * nI i = nI (fv + 2 * i) := by
      rw [show (2 : Int32) * nI i = nI (2 * i) from pk_mul 2 i, nI_add]
    have er : 40 * nI k + nI fv + 2 * nI i = nI (40 * k + (fv + 2 * i)) := by
      rw [show (40 : Int32) * nI k = nI (40 * k) from pk_mul 40 k, show (2 : Int32) * nI i = nI (2 * i) from pk_mul 2 i, nI_add, nI_add]
      congr 1
      omega
    have g0 : C (114 + 2 * k + 1) (fv + 2 * i) = R 10 (40 * k + (fv + 2 * i)) := by
      rw [hbC.1 _ (by omega), hbR.1 10 (by omega)]
      exact hcell _ (by omega)
    have g1 : C (114 + 2 * k + 1) (fv + 2 * i + 1) = R 10 (40 * k + (fv + 2 * i) + 1) := by
      rw [hbC.1 _ (by omega), hbR.1 10 (by omega)]
      exact hcell (fv + 2 * i + 1) (by omega)
    obtain ⟨v, C', R', L', p1, p2, p3, p4, p5, p6, p7, p8, p9⟩ := br_ok hc hr hw (R 10 (40 * k + (fv + 2 * i))) (R 10 (40 * k + (fv + 2 * i) + 1))
    have hbC' : bC (L0 0 0) C0 C' := ⟨fun a ha => (p8.1 a ha).trans (hbC.1 a ha), p8.2.1.trans hbC.2.1, fun r x hr' hx => (p8.2.2 r x hr' (by omega)).trans (hbC.2.2 r x hr' hx)⟩
    have hbR' : bR R1 R' := ⟨fun a ha => (p9.1 a ha).trans (hbR.1 a ha), fun j hj => (p9.2 j hj).trans (hbR.2 j hj)⟩
    rw [fn_X7_read_L58, if_neg (nI_ge (by omega) (by omega)), fn_X8_read_L62, if_neg (nI_ge (by omega) (by omega)), if_pos rfl, rd_pair hk hl (by rw [hbR.1 8 (by omega)]; exact h8) (by rw [hbR.1 9 (by omega)]; exact h9) (by omega) hlen (by omega) _ _ _ mm_fu (by omega), if_pos hyes]
    rw [fn_X8_read_B164, if_pos rfl]
    simp only [mm_let]
    rw [ec, er, nI_1, nI_1, nI_1, if_pos (pu_in (by omega) (by omega)), if_pos (pu_in (by omega) (by omega)), if_pos (pu_in (by omega) (by omega)), if_pos (pu_in (by omega) (by omega)), nI_clamp (by omega), nI_clamp (by omega), nI_clamp (by omega), nI_clamp (by omega), g0, g1, p1, p2]
    simp only [Option.bind_some]
    by_cases e : (0 : Int32) ≤ v
    · rw [if_pos e, if_pos e]
      exact ih (i + 1) f f' C' R' L' (by omega) (by omega) (by omega) p3 p4 p5 (by omega) (by omega) hbC' hbR'
    · rw [if_neg e, if_neg e]
      exact ⟨C', R', L', ⟨p3, p4, p5, by omega, by omega, hbC', hbR'⟩, Or.inr ⟨i, rfl, rfl⟩⟩
theorem r_before (R : mm_M) (c1 c2 c3 c4 : Int32) (k : mm_M → Option (Int32 × mm_M)) : ∃ R', fn_X8_read_L26 c1 c2 c3 c4 k mm_fu 0 R = k R' ∧ (∀ j, j < 57 → R' 11 j = R 1 j) ∧ ∀ a, a ≠ 11 → R' a = R a := by
  have h := pu_fill (fn_X8_read_L26 c1 c2 c3 c4 k) k 11 0 57 (fun M i => M 1 i)
    (fun m M => by
      rw [fn_X8_read_L26, if_pos]
      exact nI_le (a := 57) (Nat.le_refl _) (by omega))
    (fun m i M hi => by
      rw [fn_X8_read_L26, if_neg (show ¬ (57 : Int32) ≤ nI i from nI_ge (b := 57) hi (by omega)), if_pos (pu_in (by omega) (by omega)), if_pos (pu_in hi (by omega))]
      simp only [mm_let]
      rw [nI_clamp (by omega), nI_1, Nat.zero_add])
    (fun M f i hi => by rw [pu_row_ne _ _ (by omega)]) mm_fu 0 R (Nat.zero_le _) (by have := mm_fu_ge; omega)
  refine ⟨_, h, fun j hj => ?_, fun a h1 => pu_row_ne _ _ h1⟩
  rw [pu_row_at, if_pos (by omega), Nat.sub_zero]
theorem r_restore (R : mm_M) (c7 : Int32) (k : mm_M → Option (Int32 × mm_M)) : ∃ R', fn_X8_read_L208 c7 k mm_fu 0 R = k R' ∧ (∀ j, j < 57 → R' 1 j = R 11 j) ∧ (∀ j, 57 ≤ j → R' 1 j = R 1 j) ∧ ∀ a, a ≠ 1 → R' a = R a := by
  have h := pu_fill (fn_X8_read_L208 c7 k) k 1 0 57 (fun M i => M 11 i)
    (fun m M => by
      rw [fn_X8_read_L208, if_pos]
      exact nI_le (a := 57) (Nat.le_refl _) (by omega))
    (fun m i M hi => by
      rw [fn_X8_read_L208, if_neg (show ¬ (57 : Int32) ≤ nI i from nI_ge (b := 57) hi (by omega)), if_pos (pu_in hi (by omega)), if_pos (pu_in (by omega) (by omega))]
      simp only [mm_let]
      rw [nI_clamp (by omega), nI_1, Nat.zero_add])
    (fun M f i hi => by rw [pu_row_ne _ _ (by omega)]) mm_fu 0 R (Nat.zero_le _) (by have := mm_fu_ge; omega)
  refine ⟨_, h, fun j hj => ?_, fun j hj => ?_, fun a h1 => pu_row_ne _ _ h1⟩
  · rw [pu_row_at, if_pos (by omega), Nat.sub_zero]
  · rw [pu_row_at, if_neg (by omega)]
theorem sm_torn {C R : mm_M} (h : sm_S C R) (v : Int32) : sm_S (mm_up C 0 10 v) (mm_up R 0 26 v) := by
  obtain ⟨g1, ⟨t, b, t1, t2, t3, t4⟩, g3, g4, g5, g6⟩ := h
  refine ⟨?_, ⟨t, b, t1, by rw [pu_upr _ _ _ (by omega)]; exact t2, by rw [pu_up, if_neg (by omega)]; exact t3, fun i hi => by rw [pu_upr _ _ _ (by omega), pu_upr _ _ _ (by omega)]; exact t4 i hi⟩, by rw [pu_upr _ _ _ (by omega), pu_up, if_neg (by omega)]; exact g3, by rw [pu_up, if_pos ⟨rfl, rfl⟩, pu_up, if_pos ⟨rfl, rfl⟩], fun e he => ?_, fun e he => ?_⟩
  · exact sm_st_cg g1 (fun a _ _ => pu_upr _ _ _ (by omega)) (fun a _ _ => pu_upr _ _ _ (by omega)) (fun j _ => by rw [pu_upr _ _ _ (by omega)])
  · exact sm_im_cg (g5 e he) (fun a _ _ => pu_upr _ _ _ (by omega)) (fun j _ => by rw [pu_upr _ _ _ (by omega)]) (by rw [pu_upr _ _ _ (by omega)])
  · exact sm_sh_eq (fun a _ _ => pu_upr _ _ _ (by omega)) (pu_upr _ _ _ (by omega)) (pu_upr _ _ _ (by omega)) (pu_upr _ _ _ (by omega)) he (g6 e he)
/-- what the class says of a sheet's reading -/
theorem c_fault0 (o : Nat) (c : Int32) (M : mm_M) : fn_X4_faultOfReading o c 0 M = some (0, M) := by
  unfold fn_X4_faultOfReading
  rw [if_pos rfl]
/-- no pair can be read -/
theorem rd_none {C R : mm_M} (h : sm_S C R) {k l n : Nat} (hk : k < 4) (hl : l < 3) (hn : n ≤ 20) (c3 r : Int32) (hr0 : ¬ r = 0) (e1 : pw_b (nI k) 0 3 = 1) (e2 : pw_b (nI l) 0 2 = 1) (e4 : pw_b (nI n) 0 20 = 1)
    (hC : fn_X4_wholePairs (114 + 2 * k) (nI l) c3 (nI n) C = some (0, C)) (hF : fn_X4_faultOfReading (114 + 2 * k) (nI l) 1 C = some (r, C))
    (hR : ∀ (R' : mm_M) (c6 : Int32) (kk : Int32 → mm_M → Option (Int32 × mm_M)), R' 8 = R 8 → R' 9 = R 9 → fn_X8_read_L77 (nI k) (nI l) c3 (nI n) c6 0 kk mm_fu 0 0 R' = kk r R') :
    ∃ (v : Int32) (C' R' : mm_M), fn_X7_read (nI k) (nI l) c3 (nI n) C = some (v, C') ∧ fn_X8_read (nI k) (nI l) c3 (nI n) R = some (v, R') ∧ sm_S C' R' := by
  have hin := pu_in (i := k) (n := 4) hk (by omega)
  have hcl : (nI k).toNatClampNeg = k := nI_clamp (by omega)
  have fuge := mm_fu_ge
  obtain ⟨fu, hfu⟩ : ∃ f, mm_fu = f + 1 + 1 := ⟨mm_fu - 2, by omega⟩
  obtain ⟨R1, s1, s2, s3⟩ := r_before R (nI k) (nI l) c3 (nI n) (fun M_9 => fn_X8_read_L62 (nI k) (nI l) c3 (nI n) (fun x7_30 M_31 => fn_X8_read_L208 x7_30 (fun M_37 => some (((-20) - x7_30), M_37)) mm_fu 0 M_31) (fun x5_39 x6_40 M_41 => mm_let (mm_up M_41 0 26 x5_39) fun M_43 => some (x6_40, M_43)) mm_fu 0 0 0 M_9)
  have hS1 : sm_S C R1 := sm_scr h (c_sc_rf C) ⟨fun a _ _ _ _ h11 => s3 a h11, fun j _ => by rw [s3 0 (by omega)]⟩
  have out : ∀ x, fn_X7_read (nI k) (nI l) c3 (nI n) C = some (0, mm_up C 0 10 x) → fn_X8_read (nI k) (nI l) c3 (nI n) R = some (0, mm_up R1 0 26 x) → ∃ (v : Int32) (C' R' : mm_M), fn_X7_read (nI k) (nI l) c3 (nI n) C = some (v, C') ∧ fn_X8_read (nI k) (nI l) c3 (nI n) R = some (v, R') ∧ sm_S C' R' := fun x q1 q2 => ⟨0, _, _, q1, q2, sm_torn hS1 x⟩
  have qC : fn_X7_read (nI k) (nI l) c3 (nI n) C = if nI n ≤ 0 then some (0, mm_up C 0 10 0) else some (0, mm_up C 0 10 r) := by
    simp only [fn_X7_read, pw_sheetC, e1, pw_laneC, e2, pw_C, e4, Option.bind_some, hin, hcl, if_true, hC, mm_let]
    rw [if_neg (by decide), if_neg (by decide), if_neg (by decide), hfu, fn_X7_read_L58, if_pos (by decide), c_fault0, hF]
    rfl
  have qR : fn_X8_read (nI k) (nI l) c3 (nI n) R = fn_X8_read_L62 (nI k) (nI l) c3 (nI n) (fun x7_30 M_31 => fn_X8_read_L208 x7_30 (fun M_37 => some (((-20) - x7_30), M_37)) mm_fu 0 M_31) (fun x5_39 x6_40 M_41 => mm_let (mm_up M_41 0 26 x5_39) fun M_43 => some (x6_40, M_43)) mm_fu 0 0 0 R1 := by
    simp only [fn_X8_read, pw_sheetR, e1, e2, pw_R20, e4, Option.bind_some]
    exact s1
  by_cases hz : n = 0
  · subst hz
    refine out 0 (qC.trans (if_pos (by decide))) (qR.trans ?_)
    generalize (fun x7_30 M_31 => fn_X8_read_L208 x7_30 (fun M_37 => some (((-20) - x7_30), M_37)) mm_fu 0 M_31) = kk0
    rw [hfu, fn_X8_read_L62, if_pos (by decide)]
    rfl
  · refine out r (qC.trans (if_neg (nI_nle (by omega) (by omega)))) (qR.trans ?_)
    generalize (fun x7_30 M_31 => fn_X8_read_L208 x7_30 (fun M_37 => some (((-20) - x7_30), M_37)) mm_fu 0 M_31) = kk0
    have step : ∀ f, fn_X8_read_L62 (nI k) (nI l) c3 (nI n) kk0 (fun x5_39 x6_40 M_41 => mm_let (mm_up M_41 0 26 x5_39) fun M_43 => some (x6_40, M_43)) (f + 1 + 1) 0 0 0 R1 = some (0, mm_up R1 0 26 r) := fun f => by
      rw [fn_X8_read_L62, if_neg (nI_nle (by omega) (by omega)), if_pos rfl, hR R1 _ _ (s3 8 (by omega)) (s3 9 (by omega)), fn_X8_read_B164, if_neg hr0, fn_X8_read_L62]
      by_cases e : nI n ≤ 0 + 1
      · rw [if_pos e]
        rfl
      · rw [if_neg e, if_neg hr0]
        rfl
    have := step fu
    rw [← hfu] at this
    exact this
theorem so_read : sj_read sm_S := by
  intro C R h c1 c2 c3 c4
  obtain ⟨L, hw, hd, hc, hr, hsn⟩ := sm_L h
  rcases pw_lit c1 3 (x := 3) rfl (by decide) with e1 | ⟨k, hk, rfl, e1⟩
  · refine ⟨-1, C, R, ?_, ?_, h⟩
    · simp [fn_X7_read, pw_sheetC, e1]
    · simp [fn_X8_read, pw_sheetR, e1]
  · rcases pw_lit c2 2 (x := 2) rfl (by decide) with e2 | ⟨l, hl, rfl, e2⟩
    · refine ⟨-1, C, R, ?_, ?_, h⟩
      · simp [fn_X7_read, pw_sheetC, e1, pw_laneC, e2]
      · simp [fn_X8_read, pw_sheetR, e1, e2]
    · rcases pw_lit c4 20 (x := 20) rfl (by decide) with e4 | ⟨n, hn, rfl, e4⟩
      · refine ⟨-1, C, R, ?_, ?_, h⟩
        · simp [fn_X7_read, pw_sheetC, e1, pw_laneC, e2, pw_C, e4]
        · simp [fn_X8_read, pw_sheetR, e1, e2, pw_R20, e4]
      · have hin := pu_in (i := k) (n := 4) (by omega) (by omega)
        have hcl : (nI k).toNatClampNeg = k := nI_clamp (by omega)
        have fuge := mm_fu_ge
        obtain ⟨fu, hfu⟩ : ∃ f, mm_fu = f + 1 + 1 := ⟨mm_fu - 2, by omega⟩
        obtain ⟨⟨len, hlen, l1, l2⟩, hlane, hcells⟩ := h.2.2.2.2.2 k (by omega)
        rcases hlane with ⟨f1, f2⟩ | ⟨l', hl', f1, f2⟩
        · refine rd_none h (by omega) (by omega) hn c3 1 (by decide) e1 e2 e4 ?_ ?_ (fun R' c6 kk h8 h9 => ?_)
          · simp only [fn_X4_wholePairs, fn_X4_isNothing, f1, if_true, Option.bind_some]
            rfl
          · simp only [fn_X4_faultOfReading, fn_X4_isNothing, f1, if_true, Option.bind_some]
            rfl
          · rw [hfu, fn_X8_read_L77, if_neg (by decide), if_pos rfl, mm_leq, if_pos hin, hcl, h8, f2, if_pos rfl, fn_X8_read_L77, if_neg (by decide), if_neg (by decide)]
        · have q1 : ¬ nI l' = (-1 : Int32) := fun q => by
            have := nI_pos (n := l') (by omega)
            rw [q] at this
            exact this (by decide)
          have q4 : ¬ nI l' = (-4 : Int32) := nI_m4 (by omega)
          by_cases el : l' = l
          · subst el
            have hwh : fn_X4_wholePairs (114 + 2 * k) (nI l') c3 (nI n) C = if pw_b c3 0 (nI len - 1) = 0 then some (0, C) else some (mm_min (nI n) ((nI len - c3) / 2), C) := by
              simp only [fn_X4_wholePairs, fn_X4_isNothing, fn_X4_isAnotherLane, f1, if_neg q1, if_true, Option.bind_some, fn_X4_hasCell, pw_C, l1]
              rw [pw_ite (pw_01 _ _ _)]
              simp only [Option.bind_some, l1]
            have hfa : ∀ M : mm_M, M (114 + 2 * k) = C (114 + 2 * k) → fn_X4_faultOfReading (114 + 2 * k) (nI l') 1 M = some (2, M) := fun M hM => by
              simp only [fn_X4_faultOfReading, fn_X4_isNothing, fn_X4_isAnotherLane, hM, f1, if_neg q1, if_true, Option.bind_some]
              rfl
            rcases pw_one c3 len (by omega) with e3 | ⟨fv, hfv, rfl, e3⟩
            · refine rd_none h (by omega) (by omega) hn c3 2 (by decide) e1 e2 e4 (hwh.trans (if_pos e3)) (hfa C rfl) (fun R' c6 kk h8 h9 => ?_)
              have p0 : c3.toInt64 + (2 * 0 : Int32).toInt64 + (0 : Int32).toInt64 = c3.toInt64 := by
                rw [show (2 * 0 : Int32).toInt64 = 0 by decide, show (0 : Int32).toInt64 = 0 by decide, Int64.add_zero, Int64.add_zero]
              rw [hfu, fn_X8_read_L77, if_neg (by decide), if_pos rfl, mm_leq, if_pos hin, hcl, h8, h9, f2, l2, if_neg q4, if_pos rfl, p0]
              have last : fn_X8_read_L77 (nI k) (nI l') c3 (nI n) c6 0 kk (fu + 1) 2 (0 + 1) R' = kk 2 R' := by
                rw [fn_X8_read_L77, if_neg (by decide), if_neg (by decide)]
              by_cases m1 : lg_cmp c3.toInt64 0 < 0
              · rw [if_pos m1]
                exact last
              · rw [if_neg m1]
                have m2 : ¬ lg_cmp c3.toInt64 (nI len).toInt64 < 0 := fun q => by
                  have a1 : ¬ c3 < 0 := fun q2 => m1 ((pw_cmp _ _).1.mpr ((pw_lt64 c3 0).mpr q2))
                  have a2 : c3 < nI len := (pw_lt64 _ _).mp ((pw_cmp _ _).1.mp q)
                  obtain ⟨x, hx, rfl⟩ := nI_of a1
                  have hlt := (nI_ltI hx (by omega)).mp a2
                  obtain ⟨y, rfl⟩ : ∃ y, len = y + 1 := ⟨len - 1, by omega⟩
                  rw [nI_pred] at e3
                  unfold pw_b at e3
                  rw [if_neg a1, if_neg (nI_nlt (by omega) (by omega))] at e3
                  exact absurd e3 (by decide)
                rw [if_neg m2]
                exact last
            · obtain ⟨R1, s1, s2, s3⟩ := r_before R (nI k) (nI l') (nI fv) (nI n) (fun M_9 => fn_X8_read_L62 (nI k) (nI l') (nI fv) (nI n) (fun x7_30 M_31 => fn_X8_read_L208 x7_30 (fun M_37 => some (((-20) - x7_30), M_37)) mm_fu 0 M_31) (fun x5_39 x6_40 M_41 => mm_let (mm_up M_41 0 26 x5_39) fun M_43 => some (x6_40, M_43)) mm_fu 0 0 0 M_9)
              have hS1 : sm_S C R1 := sm_scr h (c_sc_rf C) ⟨fun a _ _ _ _ h11 => s3 a h11, fun j _ => by rw [s3 0 (by omega)]⟩
              have hW : mm_min (nI n) ((nI len - nI fv) / 2) = nI (min n ((len - fv) / 2)) := by
                rw [pk_sub (by omega), show nI (len - fv) / 2 = nI ((len - fv) / 2) from pk_div (d := 2) (by omega) (by omega) (by omega)]
                unfold mm_min
                by_cases e : (len - fv) / 2 < n
                · rw [if_pos (nI_lt e (by omega)), Nat.min_eq_right (by omega)]
                · rw [if_neg (nI_nlt (by omega) (by omega)), Nat.min_eq_left (by omega)]
              generalize hWW : min n ((len - fv) / 2) = W at hW
              have hWn : W ≤ n := by rw [← hWW]; exact Nat.min_le_left _ _
              rw [hW, if_neg (by rw [e3]; decide)] at hwh
              obtain ⟨C', R', L', ⟨x1, x2, x3, x4, x5, x6, x7⟩, x8⟩ := rd_L (L0 := L) (C0 := C) (R1 := R1) (k := k) (l := l') (fv := fv) (len := len) (n := n) (W := W) (by omega) (by omega) hlen hfv hn hWW.symm (by rw [s3 8 (by omega)]; exact f2) (by rw [s3 9 (by omega)]; exact l2) (fun i hi => by rw [s3 10 (by omega)]; exact hcells i hi) (nI (L 0 0)) (fun x8_17 M_18 => mm_let (mm_up M_18 1 0 (nI (L 0 0))) fun M_20 => some (((-20) - x8_17), M_20)) (fun M_21 => (if nI n ≤ nI W then ((fn_X4_faultOfReading (114 + 2 * k) (nI l') 0 M_21).bind fun z_24 => mm_let (mm_up z_24.2 0 10 z_24.1) fun M_25 => some (nI W, M_25)) else ((fn_X4_faultOfReading (114 + 2 * k) (nI l') 1 M_21).bind fun z_26 => mm_let (mm_up z_26.2 0 10 z_26.1) fun M_27 => some (nI W, M_27)))) (fun x7_30 M_31 => fn_X8_read_L208 x7_30 (fun M_37 => some (((-20) - x7_30), M_37)) mm_fu 0 M_31) (fun x5_39 x6_40 M_41 => mm_let (mm_up M_41 0 26 x5_39) fun M_43 => some (x6_40, M_43)) W 0 mm_fu mm_fu C R1 L (by omega) (by omega) (by omega) hc (by rw [s3 1 (by omega)]; exact hr) hw rfl (Nat.le_refl _) ⟨fun _ _ => rfl, rfl, fun _ _ _ _ => rfl⟩ ⟨fun _ _ => rfl, fun _ _ => rfl⟩
              rw [nI_0] at x8
              have qC : ∀ X, fn_X7_read_L58 (nI l') (nI fv) (nI n) (114 + 2 * k) (nI W) (nI (L 0 0)) (fun x8_17 M_18 => mm_let (mm_up M_18 1 0 (nI (L 0 0))) fun M_20 => some (((-20) - x8_17), M_20)) (fun M_21 => (if nI n ≤ nI W then ((fn_X4_faultOfReading (114 + 2 * k) (nI l') 0 M_21).bind fun z_24 => mm_let (mm_up z_24.2 0 10 z_24.1) fun M_25 => some (nI W, M_25)) else ((fn_X4_faultOfReading (114 + 2 * k) (nI l') 1 M_21).bind fun z_26 => mm_let (mm_up z_26.2 0 10 z_26.1) fun M_27 => some (nI W, M_27)))) mm_fu 0 C = X → fn_X7_read (nI k) (nI l') (nI fv) (nI n) C = X := fun X hX => by
                have hc0 : C 1 0 = nI (L 0 0) := hc.1
                unfold fn_X7_read
                rw [pw_sheetC]
                simp only [pb_some]
                rw [if_neg (by rw [e1]; decide), pw_laneC]
                simp only [pb_some]
                rw [if_neg (by rw [e2]; decide), pw_C]
                simp only [pb_some]
                rw [if_neg (by rw [e4]; decide), if_pos hin, hcl, hwh]
                simp only [pb_some, mm_leq, hc0]
                exact hX
              have qR : ∀ X, fn_X8_read_L62 (nI k) (nI l') (nI fv) (nI n) (fun x7_30 M_31 => fn_X8_read_L208 x7_30 (fun M_37 => some (((-20) - x7_30), M_37)) mm_fu 0 M_31) (fun x5_39 x6_40 M_41 => mm_let (mm_up M_41 0 26 x5_39) fun M_43 => some (x6_40, M_43)) mm_fu 0 0 0 R1 = X → fn_X8_read (nI k) (nI l') (nI fv) (nI n) R = X := fun X hX => by
                simp only [fn_X8_read, pw_sheetR, e1, e2, pw_R20, e4, Option.bind_some]
                exact s1.trans hX
              have hsn1 : sm_sn C 19 (R1 1) (L 0 0) := by rw [s3 1 (by omega)]; exact hsn
              rcases x8 with ⟨y1, y2⟩ | ⟨j, y1, y2⟩
              · have hSb : sm_S C' R' := sm_brought hS1 hd hsn1 x1 x2 x3 x4 x5 (fun a ha => x6.1 a (by omega)) x7
                refine ⟨nI W, mm_up C' 0 10 (if W < n then 2 else 0), mm_up R' 0 26 (if W < n then 2 else 0), qC _ (y1.trans ?_), qR _ (y2.trans ?_), sm_torn hSb _⟩
                · by_cases e : W < n
                  · rw [if_neg (nI_ge e (by omega)), if_pos e, hfa C' (x6.1 _ (by omega))]
                    rfl
                  · rw [if_pos (nI_le (by omega) (by omega)), if_neg e, c_fault0]
                    rfl
                · rfl
              · obtain ⟨R3, z1, z2, z3, z4⟩ := r_restore R' (nI j) (fun M_37 => some (((-20) - nI j), M_37))
                refine ⟨-20 - nI j, mm_up C' 1 0 (nI (L 0 0)), R3, qC _ (y1.trans rfl), qR _ (y2.trans z1), ?_⟩
                have hR3 : ∀ j, R3 1 j = R 1 j := fun j => by
                  by_cases e : j < 57
                  · rw [z2 j e, x7.1 11 (by omega), s2 j e]
                  · rw [z3 j (by omega), x7.2 j (by omega), s3 1 (by omega)]
                have hR3' : R3 1 = R 1 := funext hR3
                have hRa : ∀ a, a ≠ 1 → a ≠ 11 → R3 a = R a := fun a h1 h11 => by rw [z4 a h1, x7.1 a h1, s3 a h11]
                have hCa : ∀ a, a = 0 ∨ 6 ≤ a → (mm_up C' 1 0 (nI (L 0 0))) a = C a := fun a ha => by rw [pu_upr _ _ _ (by omega), x6.1 a ha]
                refine sm_move h ⟨by rw [hCa 0 (by omega)], by rw [hCa 16 (by omega)], hCa 17 (by omega), by rw [hCa 18 (by omega)], fun a _ _ => hCa a (by omega)⟩ ⟨by rw [hRa 0 (by omega) (by omega)], by rw [hRa 0 (by omega) (by omega)], by rw [hRa 0 (by omega) (by omega)], fun j _ => hR3 j, hRa 3 (by omega) (by omega), hRa 5 (by omega) (by omega), hRa 8 (by omega) (by omega), hRa 9 (by omega) (by omega), hRa 10 (by omega) (by omega)⟩ ?_
                rw [hR3']
                refine sm_Lst hw hd ?_ hr (sm_sn_eq (fun a _ _ => hCa a (by omega)) hsn)
                obtain ⟨w1, w2, w3, w4, w5⟩ := hc
                refine ⟨by rw [pu_up, if_pos ⟨rfl, rfl⟩], by rw [pu_up, if_neg (by omega), x6.2.1]; exact w2, fun j hj => by rw [hCa _ (by omega)]; exact w3 j hj, fun j hj => by rw [hCa _ (by omega)]; exact w4 j hj, fun i hi => ?_⟩
                obtain ⟨v1, v2, v3, v4⟩ := w5 i hi
                have u := fun r hr4 => x6.2.2 r i hr4 hi
                refine ⟨?_, ?_, ?_, ?_⟩
                · rw [pu_upr _ _ _ (by omega)]
                  exact (u 0 (by omega)).trans v1
                · rw [pu_upr _ _ _ (by omega)]
                  exact (u 1 (by omega)).trans v2
                · rw [pu_upr _ _ _ (by omega)]
                  exact (u 2 (by omega)).trans v3
                · rw [pu_upr _ _ _ (by omega)]
                  exact (u 3 (by omega)).trans v4
          · have hne : ¬ nI l' = nI l := fun q => el ((nI_eq (by omega) (by omega)).mp q)
            refine rd_none h (by omega) (by omega) hn c3 3 (by decide) e1 e2 e4 ?_ ?_ (fun R' c6 kk h8 h9 => ?_)
            · simp only [fn_X4_wholePairs, fn_X4_isNothing, fn_X4_isAnotherLane, f1, if_neg q1, if_neg hne, if_true, Option.bind_some]
              rfl
            · simp only [fn_X4_faultOfReading, fn_X4_isNothing, fn_X4_isAnotherLane, f1, if_neg q1, if_neg hne, if_true, Option.bind_some]
              rfl
            · rw [hfu, fn_X8_read_L77, if_neg (by decide), if_pos rfl, mm_leq, if_pos hin, hcl, h8, f2, if_neg q4, if_neg hne, fn_X8_read_L77, if_neg (by decide), if_neg (by decide)]
