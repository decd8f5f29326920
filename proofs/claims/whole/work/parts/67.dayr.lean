/-! the reference's row, asked -/
section
variable {R : mm_M} {L : LV}
theorem r_ix (i c : Nat) {cc : Int32} (hcc : cc = nI c) : (4 : Int32) * nI i + cc = nI (4 * i + c) := by
  subst hcc
  rw [show (4 : Int32) * nI i = nI (4 * i) from pk_mul 4 i, nI_add]
theorem r_cell (h : lR (R 2) L) {i : Nat} (hi : i < L 0 0) (c : Nat) (hc : c < 4) : R 2 (4 * i + c) = nI (L (1 + c) i) := by
  obtain ⟨b0, b1, b2, b3⟩ := h.2.2.2.2 i hi
  match c, hc with
  | 0, _ => exact b0
  | 1, _ => exact b1
  | 2, _ => exact b2
  | 3, _ => exact b3
theorem r_of (h : lR (R 2) L) (hn : L 0 0 ≤ 6) {i : Nat} (hi : i < L 0 0) (c : Nat) {cc : Int32} (hcc : cc = nI c) (hc : c < 4) : fn_X8_of (nI i) cc R = some (nI (L (1 + c) i), R) := by
  unfold fn_X8_of
  rw [r_ix i c hcc, if_pos (pu_in (by omega) (by omega)), nI_clamp (by omega), r_cell h hi c hc]
theorem r_be (R : mm_M) {i : Nat} (hi : i < 6) (c : Nat) {cc : Int32} (v : Int32) (hcc : cc = nI c) (hc : c < 4) : fn_X8_becomesOf (nI i) cc v R = some (mm_up R 2 (4 * i + c) v) := by
  unfold fn_X8_becomesOf
  rw [r_ix i c hcc, if_pos (pu_in (by omega) (by omega)), nI_clamp (by omega)]
  rfl
theorem r_less (R : mm_M) {a b : Nat} (ha : a < 2 ^ 30) (hb : b < 2 ^ 30) : fn_X8_less (nI a) (nI b) R = some (nI (a - b), R) := by
  unfold fn_X8_less
  by_cases h : a ≤ b
  · rw [if_pos (nI_le h (by omega)), show a - b = 0 by omega]
    rfl
  · rw [if_neg (nI_ge (by omega) (by omega)), pk_sub (by omega)]
theorem r_scrubs (h : lR (R 2) L) (hw : lw L) {i : Nat} (hi : i < L 0 0) : fn_X8_scrubs (nI i) R = some (nI (lv_scr L i), R) := by
  have hn := hw.1
  have h0 := hw.2.1.1
  have hk := (hw.2.2.2 i hi).1
  have b0 : R 2 25 = nI (L 5 0) := h.2.2.1 0 (by omega)
  unfold fn_X8_scrubs
  rw [r_of h hn hi 0 (cc := 0) rfl (by omega), b0]
  simp only [mm_let, Option.bind_some, show (1 + 0 : Nat) = 1 from rfl]
  simp only [show (nI (L 1 i) = (1 : Int32)) = (L 1 i = 1) from pu_eq (b := 1) (by omega) (by omega), show (nI (L 1 i) = (3 : Int32)) = (L 1 i = 3) from pu_eq (b := 3) (by omega) (by omega), show nI (L 5 0) / 2 = nI (L 5 0 / 2) from pk_div (d := 2) (by omega) (by omega) (by omega)]
  rw [show fn_X8_less (nI (L 5 0 / 2)) 1 R = _ from r_less R (b := 1) (by omega) (by omega)]
  unfold lv_scr
  by_cases e1 : L 1 i = 1
  · simp [e1]
  · by_cases e3 : L 1 i = 3
    · simp [e3]
    · simp [e1, e3]
theorem r_dries (h : lR (R 2) L) (hw : lw L) {i sky : Nat} (hi : i < L 0 0) (hs : sky ≤ 9) : fn_X8_dries (nI i) (nI sky) R = some (nI (lv_dry L i sky), R) := by
  have hn := hw.1
  have hk := (hw.2.2.2 i hi).1
  unfold fn_X8_dries
  rw [r_of h hn hi 0 (cc := 0) rfl (by omega)]
  simp only [mm_let, Option.bind_some, show (1 + 0 : Nat) = 1 from rfl]
  simp only [show (nI (L 1 i) = (2 : Int32)) = (L 1 i = 2) from pu_eq (b := 2) (by omega) (by omega), show (nI (L 1 i) = (3 : Int32)) = (L 1 i = 3) from pu_eq (b := 3) (by omega) (by omega), show nI sky / 2 = nI (sky / 2) from pk_div (d := 2) (by omega) (by omega) (by omega), show (2 : Int32) * nI sky = nI (2 * sky) from pk_mul 2 sky]
  unfold lv_dry
  by_cases e1 : L 1 i = 2
  · simp [e1]
  · by_cases e3 : L 1 i = 3
    · simp [e3]
    · simp [e1, e3]
theorem r_sun (h : lR (R 2) L) (hd : L 0 1 < 10000) : fn_X8_sunNow R = some (nI (lv_today L), R) := by
  have b1 : R 2 37 = nI (L 0 1) := h.2.1
  have hl : L 0 1 % 7 < 7 := Nat.mod_lt _ (by omega)
  have b2 := h.2.2.2.1 (L 0 1 % 7) hl
  have e : (nI (L 0 1) - nI (L 0 1) / 7 * 7 : Int32) = nI (L 0 1 % 7) := pk_rem (d := 7) (by omega) (by omega) (by omega)
  simp only [fn_X8_sunNow, b1, e]
  rw [show (30 : Int32) + nI (L 0 1 % 7) = nI (30 + L 0 1 % 7) from nI_add 30 _, nI_clamp (by omega), if_pos (pu_in (by omega) (by omega)), b2]
  rfl
theorem r_flag0 (R : mm_M) : fn_X8_flag 0 R = some (0, R) := rfl
theorem r_flag1 (R : mm_M) : fn_X8_flag 1 R = some (1, R) := rfl
theorem r_those_L (h : lR (R 2) L) (hw : lw L) {v : Nat} {c1 : Int32} (hc : c1 = nI v) (hv : v < 3) (k : Int32 → mm_M → Option (Int32 × mm_M)) : ∀ m i fuel, i + m = L 0 0 → m < fuel → fn_X8_those_L4 c1 k fuel (nI (lv_bits (fun j => decide (L 4 j = v)) i)) (nI i) R = k (nI (lv_bits (fun j => decide (L 4 j = v)) (L 0 0))) R := by
  subst hc
  have hn := hw.1
  have h24 : R 2 24 = nI (L 0 0) := h.1
  intro m
  induction m with
  | zero =>
    intro i fuel hi hf
    obtain ⟨f, rfl⟩ : ∃ f, fuel = f + 1 := ⟨fuel - 1, by omega⟩
    have : i = L 0 0 := by omega
    subst this
    rw [fn_X8_those_L4, h24, if_pos (nI_le (Nat.le_refl _) (by omega))]
  | succ m ih =>
    intro i fuel hi hf
    obtain ⟨f, rfl⟩ : ∃ f, fuel = f + 1 := ⟨fuel - 1, by omega⟩
    have hp := (hw.2.2.2 i (by omega)).2.2.2
    rw [fn_X8_those_L4, h24, if_neg (nI_ge (by omega) (by omega)), r_of h hn (i := i) (by omega) 3 (cc := 3) rfl (by omega)]
    simp only [Option.bind_some, r_flag0, r_flag1, mm_let, show (1 + 3 : Nat) = 4 from rfl, pu_eq (a := L 4 i) (b := v) (by omega) (by omega)]
    have := ih (i + 1) f (by omega) (by omega)
    rw [lv_bits] at this
    by_cases e : L 4 i = v
    · rw [if_pos e, pb_or (lv_bits_31 _ (by omega)) (by omega), nI_1]
      simp only [e] at this
      exact this
    · have z : (0 : Int32) <<< (nI i &&& 31) = nI 0 := by
        have := pk_shlN (n := 0) (nI i &&& 31) i (pb_sh ⟨i, by omega⟩) (by omega)
        rw [Nat.zero_mul] at this
        exact this
      have l31 := lv_bits_31 (fun j => decide (L 4 j = v)) (n := i) (by omega)
      rw [if_neg e, nI_1, z, pb_or2 (by omega) (by omega), Nat.or_zero]
      simp only [e] at this
      simpa using this
theorem r_those (h : lR (R 2) L) (hw : lw L) {v : Nat} {c1 : Int32} (hc : c1 = nI v) (hv : v < 3) : fn_X8_those c1 R = some (nI (lv_bits (fun j => decide (L 4 j = v)) (L 0 0)), R) := by
  have hn := hw.1
  exact r_those_L h hw hc hv (fun x M => some (x, M)) (L 0 0) 0 mm_fu (by omega) (by have := mm_fu_ge; omega)
theorem r_many_L (h : lR (R 2) L) (hw : lw L) {v : Nat} {c1 : Int32} (hc : c1 = nI v) (hv : v < 3) (k : Int32 → mm_M → Option (Int32 × mm_M)) : ∀ m i fuel, i + m = L 0 0 → m < fuel → fn_X8_manyAt_L4 c1 k fuel (nI (lv_cnt (L 4) v i)) (nI i) R = k (nI (lv_cnt (L 4) v (L 0 0))) R := by
  subst hc
  have hn := hw.1
  have h24 : R 2 24 = nI (L 0 0) := h.1
  intro m
  induction m with
  | zero =>
    intro i fuel hi hf
    obtain ⟨f, rfl⟩ : ∃ f, fuel = f + 1 := ⟨fuel - 1, by omega⟩
    have : i = L 0 0 := by omega
    subst this
    rw [fn_X8_manyAt_L4, h24, if_pos (nI_le (Nat.le_refl _) (by omega))]
  | succ m ih =>
    intro i fuel hi hf
    obtain ⟨f, rfl⟩ : ∃ f, fuel = f + 1 := ⟨fuel - 1, by omega⟩
    have hp := (hw.2.2.2 i (by omega)).2.2.2
    rw [fn_X8_manyAt_L4, h24, if_neg (nI_ge (by omega) (by omega)), r_of h hn (i := i) (by omega) 3 (cc := 3) rfl (by omega)]
    simp only [Option.bind_some, r_flag0, r_flag1, mm_let, show (1 + 3 : Nat) = 4 from rfl, pu_eq (a := L 4 i) (b := v) (by omega) (by omega)]
    have := ih (i + 1) f (by omega) (by omega)
    rw [lv_cnt] at this
    by_cases e : L 4 i = v
    · rw [if_pos e] at this ⊢
      rw [nI_1, nI_1]
      exact this
    · rw [if_neg e] at this ⊢
      rw [nI_1, show nI (lv_cnt (L 4) v i) + 0 = nI (lv_cnt (L 4) v i + 0) from nI_add _ 0]
      exact this
theorem r_many (h : lR (R 2) L) (hw : lw L) {v : Nat} {c1 : Int32} (hc : c1 = nI v) (hv : v < 3) : fn_X8_manyAt c1 R = some (nI (lv_cnt (L 4) v (L 0 0)), R) := by
  have hn := hw.1
  exact r_many_L h hw hc hv (fun x M => some (x, M)) (L 0 0) 0 mm_fu (by omega) (by have := mm_fu_ge; omega)
theorem r_sum_L (h : lR (R 2) L) (hw : lw L) {v : Nat} {c1 : Int32} (hc : c1 = nI v) (hv : v < 3) (k : Int32 → mm_M → Option (Int32 × mm_M)) : ∀ m i fuel, i + m = L 0 0 → m < fuel → fn_X8_sumOf_L4 c1 k fuel (nI (lv_sum (L (1 + v)) i)) (nI i) R = k (nI (lv_sum (L (1 + v)) (L 0 0))) R := by
  subst hc
  have hn := hw.1
  have h24 : R 2 24 = nI (L 0 0) := h.1
  intro m
  induction m with
  | zero =>
    intro i fuel hi hf
    obtain ⟨f, rfl⟩ : ∃ f, fuel = f + 1 := ⟨fuel - 1, by omega⟩
    have : i = L 0 0 := by omega
    subst this
    rw [fn_X8_sumOf_L4, h24, if_pos (nI_le (Nat.le_refl _) (by omega))]
  | succ m ih =>
    intro i fuel hi hf
    obtain ⟨f, rfl⟩ : ∃ f, fuel = f + 1 := ⟨fuel - 1, by omega⟩
    rw [fn_X8_sumOf_L4, h24, if_neg (nI_ge (by omega) (by omega)), r_of h hn (i := i) (by omega) v rfl (by omega)]
    simp only [Option.bind_some, mm_let]
    rw [nI_add, nI_1]
    exact ih (i + 1) f (by omega) (by omega)
theorem r_sum (h : lR (R 2) L) (hw : lw L) {v : Nat} {c1 : Int32} (hc : c1 = nI v) (hv : v < 3) : fn_X8_sumOf c1 R = some (nI (lv_sum (L (1 + v)) (L 0 0)), R) := by
  have hn := hw.1
  exact r_sum_L h hw hc hv (fun x M => some (x, M)) (L 0 0) 0 mm_fu (by omega) (by have := mm_fu_ge; omega)
end
/-! a day of the reference -/
/-- all stands but row 2 below 38 -/
def r_fr (R R' : mm_M) : Prop := (∀ a, a ≠ 2 → R' a = R a) ∧ ∀ j, 38 ≤ j → R' 2 j = R 2 j
theorem r_fr_rf (R : mm_M) : r_fr R R := ⟨fun _ _ => rfl, fun _ _ => rfl⟩
theorem r_fr_tr {A B C : mm_M} (h1 : r_fr A B) (h2 : r_fr B C) : r_fr A C := ⟨fun a h => (h2.1 a h).trans (h1.1 a h), fun j h => (h2.2 j h).trans (h1.2 j h)⟩
theorem r_fr_up (R : mm_M) {j : Nat} (v : Int32) (h : j < 38) : r_fr R (mm_up R 2 j v) := ⟨fun a ha => pu_upr _ _ _ ha, fun i hi => by rw [pu_up, if_neg (by omega)]⟩
theorem lR_row {R : mm_M} {L : LV} (h : lR (R 2) L) (hn : L 0 0 ≤ 6) {i : Nat} (hi : i < 6) (c v : Nat) (hc : c < 4) : lR (mm_up R 2 (4 * i + c) (nI v) 2) (lu L (1 + c) i v) := by
  rw [pu_up_at]
  exact lR_one h c i v hn hi hc
theorem r_boils_L (B : Nat) (hB : B < 2 ^ 31) (k : Int32 → mm_M → Option mm_M) : ∀ m i fuel (R : mm_M) (L : LV) (b : Nat), lR (R 2) L → lw L → i + m = L 0 0 → m < fuel → b ≤ i → (∀ j, i ≤ j → j < L 0 0 → (B / 2 ^ j % 2 = 1) = (L 4 j = 0)) →
    ∃ R', fn_X8_boils_L10 (nI B) k fuel (nI b) (nI i) R = k (nI (it lv_bo i m (L, b)).2) R' ∧ lR (R' 2) (it lv_bo i m (L, b)).1 ∧ r_fr R R' := by
  intro m
  induction m with
  | zero =>
    intro i fuel R L b h hw hi hf hb hBt
    have hn := hw.1
    have h24 : R 2 24 = nI (L 0 0) := h.1
    obtain ⟨f, rfl⟩ : ∃ f, fuel = f + 1 := ⟨fuel - 1, by omega⟩
    have : i = L 0 0 := by omega
    subst this
    refine ⟨R, ?_, h, r_fr_rf R⟩
    rw [fn_X8_boils_L10, h24, if_pos (nI_le (Nat.le_refl _) (by omega))]
    rfl
  | succ m ih =>
    intro i fuel R L b h hw hi hf hb hBt
    have hn := hw.1
    have h24 : R 2 24 = nI (L 0 0) := h.1
    obtain ⟨f, rfl⟩ : ∃ f, fuel = f + 1 := ⟨fuel - 1, by omega⟩
    obtain ⟨w1, w2, w3, w4⟩ := hw.2.2.2 i (by omega)
    have hr := hw.2.1
    have e26 : R 2 26 = nI (L 5 1) := h.2.2.1 1 (by omega)
    rw [fn_X8_boils_L10, h24, if_neg (nI_ge (by omega) (by omega)), pb_bit hB (by omega), it]
    have hm2 : B / 2 ^ i % 2 < 2 := Nat.mod_lt _ (by omega)
    simp only [show (nI (B / 2 ^ i % 2) = (1 : Int32)) = (B / 2 ^ i % 2 = 1) from pu_eq (b := 1) (by omega) (by omega), hBt i (by omega) (by omega)]
    have skip : lv_bo i (L, b) = (L, b) → ∃ R', fn_X8_boils_L10 (nI B) k f (nI b) (nI i + 1) R = k (nI (it lv_bo (i + 1) m (lv_bo i (L, b))).2) R' ∧ lR (R' 2) (it lv_bo (i + 1) m (lv_bo i (L, b))).1 ∧ r_fr R R' := fun e => by
      rw [e, nI_1]
      exact ih (i + 1) f R L b h hw (by omega) (by omega) (by omega) (fun j h1 h2 => hBt j (by omega) h2)
    by_cases e0 : L 4 i = 0
    · rw [if_pos e0, e26]
      by_cases hlt : b < L 5 1
      · rw [if_neg (nI_ge hlt (by omega)), r_of h hn (i := i) (by omega) 1 (cc := 1) rfl (by omega)]
        simp only [Option.bind_some, show (1 + 1 : Nat) = 2 from rfl]
        rw [r_scrubs h hw (by omega)]
        simp only [Option.bind_some]
        have hsc : lv_scr L i ≤ 9 := by
          unfold lv_scr
          split
          · omega
          · split <;> omega
        rw [r_less R (by omega) (by omega)]
        simp only [Option.bind_some]
        rw [r_be R (i := i) (by omega) 1 (cc := 1) _ rfl (by omega)]
        simp only [Option.bind_some]
        have h9 := lR_row h hn (i := i) (by omega) 1 (L 2 i - lv_scr L i) (by omega)
        simp only [show (1 + 1 : Nat) = 2 from rfl] at h9
        have e29 : (mm_up R 2 (4 * i + 1) (nI (L 2 i - lv_scr L i))) 2 29 = nI (L 5 4) := by
          rw [pu_up, if_neg (by omega)]
          exact h.2.2.1 4 (by omega)
        rw [e29, r_be _ (i := i) (by omega) 2 (cc := 2) _ rfl (by omega)]
        simp only [Option.bind_some]
        have n9 : lu L 2 i (L 2 i - lv_scr L i) 0 0 = L 0 0 := if_neg (by omega)
        have h10 := lR_row h9 (by omega) (i := i) (by omega) 2 (L 5 4) (by omega)
        simp only [show (1 + 1 : Nat) = 2 from rfl, show (1 + 2 : Nat) = 3 from rfl] at h10
        have w10 : lw (lu (lu L 2 i (L 2 i - lv_scr L i)) 3 i (L 5 4)) := lw_up (lw_up hw 2 i _ (by omega)) 3 i _ (by omega)
        have row4 : lu (lu L 2 i (L 2 i - lv_scr L i)) 3 i (L 5 4) 4 = L 4 := by
          rw [lu_ne _ _ _ (by omega : (4 : Nat) ≠ 3), lu_ne _ _ _ (by omega : (4 : Nat) ≠ 2)]
        have n10 : lu (lu L 2 i (L 2 i - lv_scr L i)) 3 i (L 5 4) 0 0 = L 0 0 := by
          rw [lu_ne _ _ _ (by omega : (0 : Nat) ≠ 3), lu_ne _ _ _ (by omega : (0 : Nat) ≠ 2)]
        rw [r_many h10 w10 (v := 1) (c1 := 1) rfl (by omega), row4, n10]
        simp only [Option.bind_some]
        have e27 : (mm_up (mm_up R 2 (4 * i + 1) (nI (L 2 i - lv_scr L i))) 2 (4 * i + 2) (nI (L 5 4))) 2 27 = nI (L 5 2) := by
          rw [pu_up, if_neg (by omega), pu_up, if_neg (by omega)]
          exact h.2.2.1 2 (by omega)
        rw [e27]
        have hok : lv_ok L (lv_bo i (L, b)).1 := lv_bo_ok i (L, b) (show i < L 0 0 by omega)
        have hbo : lv_bo i (L, b) = (lu (lu (lu L 2 i (L 2 i - lv_scr L i)) 3 i (L 5 4)) 4 i (if lv_cnt (L 4) 1 (L 0 0) < L 5 2 then 1 else 0), b + 1) := by
          unfold lv_bo
          rw [if_pos ⟨hlt, e0⟩]
        rw [hbo] at hok ⊢
        simp only [] at hok
        have hcl := lv_cnt_le (L 4) 1 (L 0 0)
        have f10 : r_fr R (mm_up (mm_up R 2 (4 * i + 1) (nI (L 2 i - lv_scr L i))) 2 (4 * i + 2) (nI (L 5 4))) := r_fr_tr (r_fr_up R _ (by omega)) (r_fr_up _ _ (by omega))
        have fin : ∀ v, lv_ok L (lu (lu (lu L 2 i (L 2 i - lv_scr L i)) 3 i (L 5 4)) 4 i v) → ∃ R', fn_X8_boils_L10 (nI B) k f (nI (b + 1)) (nI (i + 1)) (mm_up (mm_up (mm_up R 2 (4 * i + 1) (nI (L 2 i - lv_scr L i))) 2 (4 * i + 2) (nI (L 5 4))) 2 (4 * i + 3) (nI v)) = k (nI (it lv_bo (i + 1) m (lu (lu (lu L 2 i (L 2 i - lv_scr L i)) 3 i (L 5 4)) 4 i v, b + 1)).2) R' ∧ lR (R' 2) (it lv_bo (i + 1) m (lu (lu (lu L 2 i (L 2 i - lv_scr L i)) 3 i (L 5 4)) 4 i v, b + 1)).1 ∧ r_fr R R' := fun v hv => by
          have h13 := lR_row h10 (by omega) (i := i) (by omega) 3 v (by omega)
          have nn : (lu (lu (lu L 2 i (L 2 i - lv_scr L i)) 3 i (L 5 4)) 4 i v) 0 0 = L 0 0 := by rw [hv.1.1]
          obtain ⟨R', q1, q2, q3⟩ := ih (i + 1) f _ _ (b + 1) h13 (hv.2.1 hw) (by rw [show (1 + 3 : Nat) = 4 from rfl, nn]; omega) (by omega) (by omega) (fun j h1 h2 => by
            rw [show (1 + 3 : Nat) = 4 from rfl] at h2 ⊢
            rw [nn] at h2
            rw [hBt j (by omega) h2, lu_nj _ _ _ (by omega : j ≠ i), row4])
          exact ⟨R', q1, q2, r_fr_tr f10 (r_fr_tr (r_fr_up _ _ (by omega)) q3)⟩
        by_cases hp : lv_cnt (L 4) 1 (L 0 0) < L 5 2
        · rw [if_neg (nI_ge hp (by omega)), r_be _ (i := i) (by omega) 3 (cc := 3) _ rfl (by omega)]
          simp only [Option.bind_some]
          rw [if_pos hp] at hok ⊢
          rw [nI_1, nI_1]
          exact fin 1 hok
        · rw [if_pos (nI_le (by omega) (by omega)), r_be _ (i := i) (by omega) 3 (cc := 3) _ rfl (by omega)]
          simp only [Option.bind_some]
          rw [if_neg hp] at hok ⊢
          rw [nI_1, nI_1]
          exact fin 0 hok
      · rw [if_pos (nI_le (by omega) (by omega))]
        exact skip (by unfold lv_bo; rw [if_neg (fun q => hlt q.1)])
    · rw [if_neg e0]
      exact skip (by unfold lv_bo; rw [if_neg (fun q => e0 q.2)])
theorem r_boils {R : mm_M} {L : LV} (h : lR (R 2) L) (hw : lw L) : ∃ R', fn_X8_boils R = some (mm_up R' 0 14 (R 0 14 + nI (lv_B L).2)) ∧ lR (R' 2) (lv_B L).1 ∧ r_fr R R' := by
  have hn := hw.1
  unfold fn_X8_boils
  rw [r_those h hw (v := 0) (c1 := 0) rfl (by omega)]
  simp only [Option.bind_some, mm_let]
  obtain ⟨R', q1, q2, q3⟩ := r_boils_L (lv_bits (fun j => decide (L 4 j = 0)) (L 0 0)) (lv_bits_31 _ (by omega)) (fun x M => some (mm_up M 0 14 (M 0 14 + x))) (L 0 0) 0 mm_fu R L 0 h hw (by omega) (by have := mm_fu_ge; omega) (by omega) (fun j h1 h2 => by
    rw [lv_bits_bit _ h2]
    simp)
  refine ⟨R', ?_, q2, q3⟩
  rw [show (lv_B L) = it lv_bo 0 (L 0 0) (L, 0) from rfl]
  rw [q3.1 0 (by omega)] at q1
  exact q1
