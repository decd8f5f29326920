/-! bits and lesser numbers -/
theorem pm_max0 {a b : Nat} (ha : a < 2 ^ 30) (hb : b < 2 ^ 30) : mm_max 0 (nI a - nI b) = nI (a - b) := by
  unfold mm_max
  by_cases h : b ≤ a
  · rw [pk_sub h]
    by_cases h0 : a - b = 0
    · rw [h0]
      decide
    · rw [if_pos]
      exact nI_lt (a := 0) (by omega) (by omega)
  · have h1 := pk_sneg hb (by omega : a < b)
    rw [if_neg, show a - b = 0 by omega]
    · rfl
    · rw [Int32.lt_iff_toInt_lt] at h1 ⊢
      have e0 : (0 : Int32).toInt = 0 := by decide
      omega
theorem pb_sh : ∀ i : Fin 32, ((nI i.1 &&& 31).toBitVec.smod 32).toNat = i.1 := by decide
theorem pb_or2 {a b : Nat} (ha : a < 2 ^ 32) (hb : b < 2 ^ 32) : nI a ||| nI b = nI (a ||| b) := by
  rw [← Int32.toBitVec_inj, Int32.toBitVec_or]
  apply BitVec.eq_of_toNat_eq
  rw [BitVec.toNat_or, pk_tn ha, pk_tn hb, pk_tn (Nat.or_lt_two_pow ha hb)]
theorem pb_pow {i : Nat} (hi : i < 31) : 2 ^ i < 2 ^ 31 := Nat.pow_lt_pow_right (by omega) hi
theorem pb_or {b i : Nat} (hb : b < 2 ^ 31) (hi : i < 31) : nI b ||| (1 <<< (nI i &&& 31)) = nI (b ||| 2 ^ i) := by
  have h := pb_pow hi
  have e : (1 : Int32) <<< (nI i &&& 31) = nI (2 ^ i) := by
    have := pk_shlN (n := 1) (nI i &&& 31) i (pb_sh ⟨i, by omega⟩) (by omega)
    rw [Nat.one_mul] at this
    exact this
  rw [e, pb_or2 (by omega) (by omega)]
theorem pb_bit {B i : Nat} (hB : B < 2 ^ 31) (hi : i < 31) : ((nI B >>> (nI i &&& 31)) &&& 1) = nI (B / 2 ^ i % 2) := by
  rw [pk_shrN hB (nI i &&& 31) i (pb_sh ⟨i, by omega⟩), pk_andN (k := 1) (Nat.lt_of_le_of_lt (Nat.div_le_self _ _) (by omega)) (by decide)]
theorem lv_bits_lt (P : Nat → Bool) (n : Nat) : lv_bits P n < 2 ^ n := by
  induction n with
  | zero => exact Nat.zero_lt_one
  | succ n ih =>
    refine Nat.or_lt_two_pow (Nat.lt_of_lt_of_le ih (Nat.pow_le_pow_right (by omega) (by omega))) ?_
    split
    · exact Nat.pow_lt_pow_right (by omega) (by omega)
    · exact Nat.two_pow_pos _
theorem lv_bits_31 (P : Nat → Bool) {n : Nat} (h : n ≤ 31) : lv_bits P n < 2 ^ 31 := Nat.lt_of_lt_of_le (lv_bits_lt P n) (Nat.pow_le_pow_right (by omega) h)
theorem lv_bits_test (P : Nat → Bool) (n i : Nat) : (lv_bits P n).testBit i = (decide (i < n) && P i) := by
  induction n with
  | zero => simp [lv_bits]
  | succ n ih =>
    rw [lv_bits, Nat.testBit_or, ih]
    by_cases h : P n
    · rw [if_pos h, Nat.testBit_two_pow]
      by_cases e : n = i
      · subst e
        simp [h]
      · have : (i < n + 1) = (i < n) := by
          apply propext
          omega
        simp [this, e]
    · rw [if_neg h, Nat.zero_testBit, Bool.or_false]
      by_cases e : i = n
      · subst e
        simp [h]
      · have : (i < n + 1) = (i < n) := by
          apply propext
          omega
        simp [this]
theorem lv_bits_bit (P : Nat → Bool) {n i : Nat} (h : i < n) : (lv_bits P n / 2 ^ i % 2 = 1) = (P i = true) := by
  have := lv_bits_test P n i
  rw [Nat.testBit_eq_decide_div_mod_eq, decide_eq_true h, Bool.true_and] at this
  rw [← this]
  simp
theorem lv_cnt_le (f : Nat → Nat) (v n : Nat) : lv_cnt f v n ≤ n := by
  induction n with
  | zero => exact Nat.le_refl _
  | succ n ih =>
    rw [lv_cnt]
    split <;> omega
theorem lv_cnt_cg {f g : Nat → Nat} {v : Nat} : ∀ {n : Nat}, (∀ j, j < n → f j = g j) → lv_cnt f v n = lv_cnt g v n := by
  intro n
  induction n with
  | zero => intro _; rfl
  | succ n ih =>
    intro h
    rw [lv_cnt, lv_cnt, ih (fun j hj => h j (by omega)), h n (by omega)]
/-- one more stands at v -/
theorem lv_cnt_up {f : Nat → Nat} {v i : Nat} (hne : f i ≠ v) : ∀ {n : Nat}, i < n → lv_cnt (fun y => if y = i then v else f y) v n = lv_cnt f v n + 1 := by
  intro n
  induction n with
  | zero => intro h; omega
  | succ n ih =>
    intro h
    rw [lv_cnt, lv_cnt]
    by_cases e : n = i
    · subst e
      rw [lv_cnt_cg (g := f) (fun j hj => if_neg (by omega)), if_pos (if_pos rfl), if_neg hne]
    · rw [ih (by omega), if_neg e]
      omega
theorem lv_bitcnt : ∀ b : Fin 64, ∀ M : mm_M, fn_J6_bitCount_0f7a4 (nI b.1) M = some (nI (b.1 % 2 + b.1 / 2 % 2 + b.1 / 4 % 2 + b.1 / 8 % 2 + b.1 / 16 % 2 + b.1 / 32 % 2), M) := by
  intro b M
  have key : ∀ b : Fin 64, (fn_J6_bitCount_0f7a4 (nI b.1) (fun _ _ => 0)).map (fun z => z.1) = some (nI (b.1 % 2 + b.1 / 2 % 2 + b.1 / 4 % 2 + b.1 / 8 % 2 + b.1 / 16 % 2 + b.1 / 32 % 2)) := by
    unfold fn_J6_bitCount_0f7a4
    simp only [mm_let, Option.map_some]
    decide
  have h := key b
  unfold fn_J6_bitCount_0f7a4 at h ⊢
  simp only [mm_let, Option.map_some, Option.some.injEq] at h ⊢
  rw [h]
/-! the class's laundry, asked -/
section
variable {C : mm_M} {o : Nat} {L : LV}
theorem c_scrubs (h : lC C o L) (hw : lw L) {i : Nat} (hi : i < L 0 0) : fn_X2_scrubs o (nI i) C = some (nI (lv_scr L i), C) := by
  have hn := hw.1
  have h0 := hw.2.1.1
  have hk := (hw.2.2.2 i hi).1
  have b := (h.2.2.2.2 i hi).1
  have b0 := h.2.2.1 0 (by omega)
  simp only [fn_X2_scrubs, mm_let, b, b0, nI_clamp (n := i) (by omega)]
  rw [if_pos (pu_in (by omega) (by omega))]
  simp only [show (nI (L 1 i) = (1 : Int32)) = (L 1 i = 1) from pu_eq (b := 1) (by omega) (by omega), show (nI (L 1 i) = (3 : Int32)) = (L 1 i = 3) from pu_eq (b := 3) (by omega) (by omega), show ((2 : Int32) ≤ nI (L 5 0)) = (2 ≤ L 5 0) from pu_le (a := 2) (by omega) (by omega), show nI (L 5 0) / 2 = nI (L 5 0 / 2) from pk_div (d := 2) (by omega) (by omega) (by omega)]
  unfold lv_scr
  by_cases e1 : L 1 i = 1
  · simp [e1]
  · by_cases e3 : L 1 i = 3
    · rw [if_neg e1, if_pos e3, if_neg e1, if_pos e3]
      by_cases e2 : 2 ≤ L 5 0
      · rw [if_pos e2, show nI (L 5 0 / 2) - 1 = nI (L 5 0 / 2 - 1) from pk_sub (b := 1) (by omega)]
      · rw [if_neg e2, show L 5 0 / 2 - 1 = 0 by omega]
        rfl
    · simp [e1, e3]
theorem c_dries (h : lC C o L) (hw : lw L) {i sky : Nat} (hi : i < L 0 0) (hs : sky ≤ 9) : fn_X2_dries o (nI i) (nI sky) C = some (nI (lv_dry L i sky), C) := by
  have hn := hw.1
  have hk := (hw.2.2.2 i hi).1
  have b := (h.2.2.2.2 i hi).1
  simp only [fn_X2_dries, b, nI_clamp (n := i) (by omega)]
  rw [if_pos (pu_in (by omega) (by omega))]
  simp only [show (nI (L 1 i) = (2 : Int32)) = (L 1 i = 2) from pu_eq (b := 2) (by omega) (by omega), show (nI (L 1 i) = (3 : Int32)) = (L 1 i = 3) from pu_eq (b := 3) (by omega) (by omega), show nI sky / 2 = nI (sky / 2) from pk_div (d := 2) (by omega) (by omega) (by omega), show (2 : Int32) * nI sky = nI (2 * sky) from pk_mul 2 sky]
  unfold lv_dry
  by_cases e1 : L 1 i = 2
  · simp [e1]
  · by_cases e3 : L 1 i = 3
    · simp [e3]
    · simp [e1, e3]
theorem c_sun (h : lC C o L) (hd : L 0 1 < 10000) : fn_X2_sunToday o C = some (nI (lv_today L), C) := by
  have b1 := h.2.1
  have b2 := h.2.2.2.1 (L 0 1 % 7) (Nat.mod_lt _ (by omega))
  have e : (nI (L 0 1) - nI (L 0 1) / 7 * 7 : Int32) = nI (L 0 1 % 7) := pk_rem (d := 7) (by omega) (by omega) (by omega)
  have hl : L 0 1 % 7 < 7 := Nat.mod_lt _ (by omega)
  simp only [fn_X2_sunToday, b1, e, nI_clamp (n := L 0 1 % 7) (by omega)]
  rw [if_pos (pu_in hl (by omega)), b2]
  rfl
theorem c_who_L (h : lC C o L) (hw : lw L) {v : Nat} {c1 : Int32} (hc : c1 = nI v) (hv : v < 3) (k : Int32 → mm_M → Option (Int32 × mm_M)) : ∀ m i fuel, i + m = L 0 0 → m < fuel → fn_X2_whoIsAt_L4 o c1 k fuel (nI (lv_bits (fun j => decide (L 4 j = v)) i)) (nI i) C = k (nI (lv_bits (fun j => decide (L 4 j = v)) (L 0 0))) C := by
  subst hc
  have hn := hw.1
  intro m
  induction m with
  | zero =>
    intro i fuel hi hf
    obtain ⟨f, rfl⟩ : ∃ f, fuel = f + 1 := ⟨fuel - 1, by omega⟩
    have : i = L 0 0 := by omega
    subst this
    rw [fn_X2_whoIsAt_L4, h.1, if_pos (nI_le (Nat.le_refl _) (by omega))]
  | succ m ih =>
    intro i fuel hi hf
    obtain ⟨f, rfl⟩ : ∃ f, fuel = f + 1 := ⟨fuel - 1, by omega⟩
    have hb := (h.2.2.2.2 i (by omega)).2.2.2
    have hp := (hw.2.2.2 i (by omega)).2.2.2
    rw [fn_X2_whoIsAt_L4, h.1, if_neg (nI_ge (by omega) (by omega)), if_pos (pu_in (by omega) (by omega)), nI_clamp (by omega), hb]
    simp only [pu_eq (a := L 4 i) (b := v) (by omega) (by omega)]
    have := ih (i + 1) f (by omega) (by omega)
    rw [lv_bits] at this
    by_cases e : L 4 i = v
    · rw [if_pos e]
      simp only [mm_let]
      rw [pb_or (lv_bits_31 _ (by omega)) (by omega), nI_1]
      simp only [e] at this
      exact this
    · rw [if_neg e, nI_1]
      simp only [e] at this
      simpa using this
theorem c_who (h : lC C o L) (hw : lw L) {v : Nat} {c1 : Int32} (hc : c1 = nI v) (hv : v < 3) : fn_X2_whoIsAt o c1 C = some (nI (lv_bits (fun j => decide (L 4 j = v)) (L 0 0)), C) := by
  have hn := hw.1
  have := c_who_L h hw hc hv (fun x M => some (x, M)) (L 0 0) 0 mm_fu (by omega) (by have := mm_fu_ge; omega)
  exact this
theorem lv_bits_cnt (P : Nat → Bool) (f : Nat → Nat) (v : Nat) (hP : ∀ j, P j = decide (f j = v)) : ∀ n, n ≤ 6 → lv_cnt f v n = lv_bits P n % 2 + lv_bits P n / 2 % 2 + lv_bits P n / 4 % 2 + lv_bits P n / 8 % 2 + lv_bits P n / 16 % 2 + lv_bits P n / 32 % 2 := by
  intro n hn
  have key : ∀ i, lv_bits P n / 2 ^ i % 2 = if i < n then (if f i = v then 1 else 0) else 0 := fun i => by
    have := lv_bits_test P n i
    rw [Nat.testBit_eq_decide_div_mod_eq, hP] at this
    by_cases h1 : i < n
    · by_cases h2 : f i = v
      · simp [h1, h2] at this
        simp [h1, h2, this]
      · simp [h1, h2] at this
        simp [h1, h2, this]
    · simp [h1] at this
      simp [h1, this]
  have k0 := key 0
  have k1 := key 1
  have k2 := key 2
  have k3 := key 3
  have k4 := key 4
  have k5 := key 5
  simp only [Nat.reducePow, Nat.div_one] at k0 k1 k2 k3 k4 k5
  rw [k0, k1, k2, k3, k4, k5]
  match n, hn with
  | 0, _ => simp [lv_cnt]
  | 1, _ => simp [lv_cnt]
  | 2, _ => simp [lv_cnt]
  | 3, _ => simp [lv_cnt]
  | 4, _ => simp [lv_cnt]
  | 5, _ => simp [lv_cnt]
  | 6, _ => simp [lv_cnt]
theorem c_many (hn : L 0 0 ≤ 6) (v : Nat) : fn_J6_bitCount_0f7a4 (nI (lv_bits (fun j => decide (L 4 j = v)) (L 0 0))) C = some (nI (lv_cnt (L 4) v (L 0 0)), C) := by
  have hlt : lv_bits (fun j => decide (L 4 j = v)) (L 0 0) < 64 := Nat.lt_of_lt_of_le (lv_bits_lt _ _) (Nat.pow_le_pow_right (n := 2) (by omega) hn)
  rw [lv_bitcnt ⟨_, hlt⟩ C, lv_bits_cnt _ (L 4) v (fun _ => rfl) _ hn]
end
