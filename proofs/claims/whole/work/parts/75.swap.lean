/-! two change places -/
def lv_xs (L : LV) (a b : Nat) : Nat → LV
  | 0 => L
  | c + 1 => lu (lu (lv_xs L a b c) (1 + c) a (L (1 + c) b)) (1 + c) b (L (1 + c) a)
theorem lv_xs_k {L : LV} (hw : lw L) {a b : Nat} (ha : a < L 0 0) (hb : b < L 0 0) : ∀ c, c ≤ 4 → lw (lv_xs L a b c) ∧ lv_xs L a b c 0 = L 0 ∧ ∀ c', c ≤ c' → lv_xs L a b c (1 + c') = L (1 + c') := by
  intro c
  induction c with
  | zero => intro _; exact ⟨hw, rfl, fun _ _ => rfl⟩
  | succ c ih =>
    intro hc
    obtain ⟨h1, h2, h3⟩ := ih (by omega)
    obtain ⟨a1, a2, a3, a4⟩ := hw.2.2.2 a ha
    obtain ⟨b1, b2, b3, b4⟩ := hw.2.2.2 b hb
    refine ⟨?_, ?_, fun c' hc' => ?_⟩
    · rw [lv_xs]
      refine lw_up (lw_up h1 _ _ _ ?_) _ _ _ ?_
      · match c, hc with
        | 0, _ => simp; omega
        | 1, _ => simp; omega
        | 2, _ => simp; omega
        | 3, _ => simp; omega
      · match c, hc with
        | 0, _ => simp; omega
        | 1, _ => simp; omega
        | 2, _ => simp; omega
        | 3, _ => simp; omega
    · rw [lv_xs, lu_ne _ _ _ (by omega : 0 ≠ 1 + c), lu_ne _ _ _ (by omega : 0 ≠ 1 + c), h2]
    · rw [lv_xs, lu_ne _ _ _ (by omega : 1 + c' ≠ 1 + c), lu_ne _ _ _ (by omega : 1 + c' ≠ 1 + c), h3 c' (by omega)]
theorem lC_cell {C : mm_M} {o : Nat} {L : LV} (h : lC C o L) {i : Nat} (hi : i < L 0 0) (c : Nat) (hc : c < 4) : C (o + (1 + c)) i = nI (L (1 + c) i) := by
  obtain ⟨b0, b1, b2, b3⟩ := h.2.2.2.2 i hi
  match c, hc with
  | 0, _ => exact b0
  | 1, _ => exact b1
  | 2, _ => exact b2
  | 3, _ => exact b3
theorem lR_cell {f : Nat → Int32} {L : LV} (h : lR f L) {i : Nat} (hi : i < L 0 0) (c : Nat) (hc : c < 4) : f (4 * i + c) = nI (L (1 + c) i) := r_cell (R := fun _ => f) h hi c hc
theorem c_exIn {C : mm_M} {L : LV} (hw : lw L) {a b : Nat} (ha : a < L 0 0) (hb : b < L 0 0) (c : Nat) (hc : c < 4) (h : lC C 8 (lv_xs L a b c)) : ∃ C', fn_X2_exchangeIn (8 + (1 + c)) 6 (nI a) (nI b) C = some C' ∧ lC C' 8 (lv_xs L a b (c + 1)) ∧ c_fr 8 C C' := by
  have h6 := hw.1
  obtain ⟨h1, h2, h3⟩ := lv_xs_k hw ha hb c (by omega)
  have n0 : lv_xs L a b c 0 0 = L 0 0 := by rw [h2]
  have ea := lC_cell h (i := a) (by omega) c hc
  have eb := lC_cell h (i := b) (by omega) c hc
  rw [h3 c (Nat.le_refl _)] at ea eb
  unfold fn_X2_exchangeIn
  simp only [mm_let]
  rw [if_pos (pu_in (by omega) (by omega)), if_pos (pu_in (by omega) (by omega)), nI_clamp (by omega), nI_clamp (by omega)]
  refine ⟨_, rfl, ?_, c_fr_tr (c_fr_up C _ _ (by omega)) (c_fr_up _ _ _ (by omega))⟩
  rw [ea, eb, lv_xs]
  exact lC_up (lC_up h (1 + c) a _ (by omega)) (1 + c) b _ (by omega)
theorem c_ex {C : mm_M} {L : LV} (hw : lw L) {a b : Nat} (ha : a < L 0 0) (hb : b < L 0 0) (h : lC C 8 L) : ∃ C', fn_X2_exchange 8 (nI a) (nI b) C = some C' ∧ lC C' 8 (lv_xs L a b 4) ∧ c_fr 8 C C' := by
  obtain ⟨C1, p1, p2, p3⟩ := c_exIn hw ha hb 0 (by omega) h
  obtain ⟨C2, q1, q2, q3⟩ := c_exIn hw ha hb 1 (by omega) p2
  obtain ⟨C3, r1, r2, r3⟩ := c_exIn hw ha hb 2 (by omega) q2
  obtain ⟨C4, s1, s2, s3⟩ := c_exIn hw ha hb 3 (by omega) r2
  refine ⟨C4, ?_, s2, c_fr_tr p3 (c_fr_tr q3 (c_fr_tr r3 s3))⟩
  unfold fn_X2_exchange
  rw [show fn_X2_exchangeIn (8 + 1) 6 (nI a) (nI b) C = _ from p1]
  simp only [Option.bind_some]
  rw [show fn_X2_exchangeIn (8 + 2) 6 (nI a) (nI b) C1 = _ from q1]
  simp only [Option.bind_some]
  rw [show fn_X2_exchangeIn (8 + 3) 6 (nI a) (nI b) C2 = _ from r1]
  simp only [Option.bind_some]
  rw [show fn_X2_exchangeIn (8 + 4) 6 (nI a) (nI b) C3 = _ from s1]
  rfl
theorem r_ex_L {L : LV} (hw : lw L) {a b : Nat} (ha : a < L 0 0) (hb : b < L 0 0) (c1 : Int32) (k : mm_M → Option (Int32 × mm_M)) : ∀ m c fuel (R : mm_M), lR (R 1) L → lR (R 2) (lv_xs L a b c) → c + m = 4 → m < fuel →
    ∃ R', fn_X8_swap_L56 c1 (nI a) (nI b) k fuel (nI c) R = k R' ∧ lR (R' 2) (lv_xs L a b 4) ∧ r_s R R' := by
  have h6 := hw.1
  intro m
  induction m with
  | zero =>
    intro c fuel R h1 h2 hc hf
    obtain ⟨f, rfl⟩ : ∃ f, fuel = f + 1 := ⟨fuel - 1, by omega⟩
    have : c = 4 := by omega
    subst this
    refine ⟨R, ?_, h2, r_s_rf R⟩
    rw [fn_X8_swap_L56, if_pos (show (4 : Int32) ≤ nI 4 by decide)]
  | succ m ih =>
    intro c fuel R h1 h2 hc hf
    obtain ⟨f, rfl⟩ : ∃ f, fuel = f + 1 := ⟨fuel - 1, by omega⟩
    obtain ⟨k1, k2, k3⟩ := lv_xs_k hw ha hb c (by omega)
    have n0 : lv_xs L a b c 0 0 = L 0 0 := by rw [k2]
    have ea := lR_cell h1 ha c (by omega)
    have eb := lR_cell h1 hb c (by omega)
    rw [fn_X8_swap_L56, if_neg (show ¬ (4 : Int32) ≤ nI c from nI_ge (b := 4) (by omega) (by omega)), r_ix a c rfl, r_ix b c rfl, if_pos (pu_in (by omega) (by omega)), if_pos (pu_in (by omega) (by omega))]
    simp only [mm_let]
    rw [if_pos (pu_in (by omega) (by omega)), if_pos (pu_in (by omega) (by omega)), nI_clamp (by omega), nI_clamp (by omega), eb, pu_upr R _ _ (by omega : (1 : Nat) ≠ 2), ea, nI_1]
    have h3 : lR ((mm_up (mm_up R 2 (4 * a + c) (nI (L (1 + c) b))) 2 (4 * b + c) (nI (L (1 + c) a))) 2) (lv_xs L a b (c + 1)) := by
      rw [lv_xs]
      refine lR_row (lR_row h2 (by omega) (by omega) c _ (by omega)) ?_ (by omega) c _ (by omega)
      rw [lu_ne _ _ _ (by omega : 0 ≠ 1 + c)]
      omega
    obtain ⟨R', q1, q2, q3⟩ := ih (c + 1) f _ (by rw [pu_upr _ _ _ (by omega : (1 : Nat) ≠ 2), pu_upr _ _ _ (by omega : (1 : Nat) ≠ 2)]; exact h1) h3 (by omega) (by omega)
    exact ⟨R', q1, q2, r_s_tr (r_s_tr (r_s_up R _ _) (r_s_up _ _ _)) q3⟩
theorem swap_in {L : LV} (hw : lw L) (hd : L 0 1 ≤ 999) {a : Nat} (ha : a < L 0 0) (c1 : Int32) (kC kR : mm_M → Option (Int32 × mm_M)) : ∀ m b fuel fuel' (C R : mm_M), ci L C R → b + m = L 0 0 → m < fuel → m < fuel' →
    ∃ C' R', fn_X7_swap_L37 c1 (nI a) kC fuel (nI b) C = kC C' ∧ fn_X8_swap_L38 c1 (nI a) kR fuel' (nI b) R = kR R' ∧ ci L C' R' ∧ c_sc C C' ∧ r_sc R R' := by
  have h6 := hw.1
  intro m
  induction m with
  | zero =>
    intro b fuel fuel' C R h hb hf hf'
    obtain ⟨f, rfl⟩ : ∃ f, fuel = f + 1 := ⟨fuel - 1, by omega⟩
    obtain ⟨f', rfl⟩ : ∃ f, fuel' = f + 1 := ⟨fuel' - 1, by omega⟩
    have : b = L 0 0 := by omega
    subst this
    refine ⟨C, R, ?_, ?_, h, c_sc_rf C, r_sc_rf R⟩
    · rw [fn_X7_swap_L37, h.1.1, if_pos (nI_le (Nat.le_refl _) (by omega))]
    · rw [fn_X8_swap_L38, h.2.1.1, if_pos (nI_le (Nat.le_refl _) (by omega))]
  | succ m ih =>
    intro b fuel fuel' C R h hb hf hf'
    obtain ⟨f, rfl⟩ : ∃ f, fuel = f + 1 := ⟨fuel - 1, by omega⟩
    obtain ⟨f', rfl⟩ : ∃ f, fuel' = f + 1 := ⟨fuel' - 1, by omega⟩
    have hb' : b < L 0 0 := by omega
    obtain ⟨C1, a1, a2, a3⟩ := c_begin h.1 hw
    obtain ⟨R1, b1, b2, b3, b4, b5, b6⟩ := r_begin h.2.1 hw
    obtain ⟨C2, d1, d2, d3⟩ := c_ex hw ha hb' a2
    obtain ⟨k1, k2, k3⟩ := lv_xs_k hw ha hb' 4 (by omega)
    have l01 : lv_xs L a b 4 0 1 = L 0 1 := by rw [k2]
    have hr1 : lR (R1 1) L := by rw [b6.1 1 (by omega) (by omega)]; exact h.2.1
    have e10 : (10 : Int32) * nI a + nI b = nI (10 * a + b) := by
      rw [show (10 : Int32) * nI a = nI (10 * a) from pk_mul 10 a, nI_add]
    obtain ⟨R2, g1, g2, g3⟩ := r_ex_L hw ha hb' c1 (fun M_17 => ((fn_X8_daysTo M_17).bind fun z_19 => ((fn_X8_judges ((10 * nI a) + nI b) z_19.1 z_19.2).bind fun z_20 => fn_X8_swap_L38 c1 (nI a) kR f' (nI b + 1) z_20))) 4 0 mm_fu R1 hr1 b2 (by omega) (by have := mm_fu_ge; omega)
    obtain ⟨C3, R3, x1, x2, x3, x4, x5⟩ := ci_try h k1 (by omega) d2 g2 (c_fr_tr a3 d3) (r_s_tr b6 g3) (10 * nI a + nI b)
    rw [fn_X7_swap_L37, h.1.1, if_neg (nI_ge (by omega) (by omega)), a1, fn_X8_swap_L38, h.2.1.1, if_neg (nI_ge (by omega) (by omega)), b1]
    simp only [Option.bind_some]
    rw [d1, show fn_X8_swap_L56 c1 (nI a) (nI b) _ mm_fu 0 R1 = _ from g1]
    simp only [Option.bind_some]
    rw [pb_bind2, x1, pb_bind2, x2, nI_1]
    simp only [Option.bind_some]
    obtain ⟨C', R', y1, y2, y3, y4, y5⟩ := ih (b + 1) f f' C3 R3 x3 (by omega) (by omega) (by omega)
    exact ⟨C', R', y1, y2, y3, c_sc_tr x4 y4, r_sc_tr x5 y5⟩
theorem swap_out {L : LV} (hw : lw L) (hd : L 0 1 ≤ 999) (c1 : Int32) (kC kR : mm_M → Option (Int32 × mm_M)) : ∀ m a fuel fuel' (C R : mm_M), ci L C R → a + m = L 0 0 → m < fuel → m < fuel' →
    ∃ C' R', fn_X7_swap_L22 c1 kC fuel (nI a) C = kC C' ∧ fn_X8_swap_L23 c1 kR fuel' (nI a) R = kR R' ∧ ci L C' R' ∧ c_sc C C' ∧ r_sc R R' := by
  have h6 := hw.1
  intro m
  induction m with
  | zero =>
    intro b fuel fuel' C R h hb hf hf'
    obtain ⟨f, rfl⟩ : ∃ f, fuel = f + 1 := ⟨fuel - 1, by omega⟩
    obtain ⟨f', rfl⟩ : ∃ f, fuel' = f + 1 := ⟨fuel' - 1, by omega⟩
    have : b = L 0 0 := by omega
    subst this
    refine ⟨C, R, ?_, ?_, h, c_sc_rf C, r_sc_rf R⟩
    · rw [fn_X7_swap_L22, h.1.1, if_pos (nI_le (Nat.le_refl _) (by omega))]
    · rw [fn_X8_swap_L23, h.2.1.1, if_pos (nI_le (Nat.le_refl _) (by omega))]
  | succ m ih =>
    intro a fuel fuel' C R h ha hf hf'
    obtain ⟨f, rfl⟩ : ∃ f, fuel = f + 1 := ⟨fuel - 1, by omega⟩
    obtain ⟨f', rfl⟩ : ∃ f, fuel' = f + 1 := ⟨fuel' - 1, by omega⟩
    rw [fn_X7_swap_L22, h.1.1, if_neg (nI_ge (by omega) (by omega)), fn_X8_swap_L23, h.2.1.1, if_neg (nI_ge (by omega) (by omega))]
    simp only [mm_let]
    rw [nI_1]
    obtain ⟨C1, R1, x1, x2, x3, x4, x5⟩ := swap_in hw hd (a := a) (by omega) c1 (fun M => fn_X7_swap_L22 c1 kC f (nI (a + 1)) M) (fun M => fn_X8_swap_L23 c1 kR f' (nI (a + 1)) M) m (a + 1) mm_fu mm_fu C R h (by omega) (by have := mm_fu_ge; omega) (by have := mm_fu_ge; omega)
    rw [x1, x2]
    obtain ⟨C', R', y1, y2, y3, y4, y5⟩ := ih (a + 1) f f' C1 R1 x3 (by omega) (by omega) (by omega)
    exact ⟨C', R', y1, y2, y3, c_sc_tr x4 y4, r_sc_tr x5 y5⟩
theorem so_swap : sj_swap sm_S := by
  intro C R h c
  obtain ⟨L, hw, hd, hc, hr, hsn⟩ := sm_L h
  have h6 := hw.1
  rcases pw_lit c 1 (x := 1) rfl (by decide) with e | ⟨w, hww, rfl, e⟩
  · refine ⟨-1, C, R, ?_, ?_, h⟩
    · simp [fn_X7_swap, pw_half, e]
    · simp [fn_X8_swap, pw_part, e]
  · obtain ⟨C1, R1, a1, a2, a3, a4, a5⟩ := ci_asis hw hd hc hr
    obtain ⟨C2, R2, b1, b2, b3, b4, b5⟩ := swap_out hw hd (nI w) (fun M_10 => ((fn_X0_tell (nI w) M_10).bind fun z_12 => some (z_12.1, z_12.2))) (fun M_9 => ((fn_X8_judged (nI w) M_9).bind fun z_11 => some (z_11.1, z_11.2))) (L 0 0) 0 mm_fu mm_fu C1 R1 a3 (by omega) (by have := mm_fu_ge; omega) (by have := mm_fu_ge; omega)
    obtain ⟨r, t1, t2⟩ := ci_tell b3 (nI w)
    refine ⟨r, C2, R2, ?_, ?_, sm_scr h (c_sc_tr a4 b4) (r_sc_tr a5 b5)⟩
    · simp only [fn_X7_swap, pw_half, e, Option.bind_some]
      rw [if_neg (by decide), pb_bind2, a1]
      simp only [Option.bind_some]
      exact b1.trans t1
    · simp only [fn_X8_swap, pw_part, e, Option.bind_some]
      rw [if_neg (by decide)]
      simp only [pb_bind2]
      simp only [pb_bind2] at a2
      rw [a2]
      simp only [Option.bind_some]
      exact b2.trans t2
