/-! in lowest terms -/
theorem lc_eq (x y : Int64) : (lg_cmp x y = 0) = (x = y) := by
  apply propext
  unfold lg_cmp
  by_cases h : y < x
  · rw [if_pos h]
    refine ⟨fun q => absurd q (by decide), fun q => ?_⟩
    subst q
    rw [Int64.lt_iff_toInt_lt] at h
    omega
  · rw [if_neg h]
    by_cases h2 : x = y
    · rw [if_pos h2]
      exact ⟨fun _ => h2, fun _ => rfl⟩
    · rw [if_neg h2]
      exact ⟨fun q => absurd q (by decide), fun q => absurd q h2⟩
theorem lN0 {a : Nat} (h : a < 2 ^ 63) : (lN a = 0) = (a = 0) := propext (pk_lEQ (b := 0) h (by omega))
theorem gcd_step (x y : Nat) : Nat.gcd x y = Nat.gcd y (x % y) := by
  rw [Nat.gcd_comm x y, Nat.gcd_rec y x, Nat.gcd_comm]
theorem common_L (k : Int64 → mm_M → Option (Int64 × mm_M)) (M : mm_M) : ∀ f x y fuel, y < 2 ^ f → y < 2 ^ 62 → x < 2 ^ 62 → 2 * f + 2 ≤ fuel → fn_X8_common_L6 k fuel (lN x) (lN y) M = k (lN (Nat.gcd x y)) M := by
  intro f
  induction f with
  | zero =>
    intro x y fuel hy hy2 hx hf
    obtain ⟨fu, rfl⟩ : ∃ f, fuel = f + 1 := ⟨fuel - 1, by omega⟩
    have : y = 0 := by simpa using hy
    subst this
    rw [fn_X8_common_L6, if_pos (by rw [lc_eq]; rfl), Nat.gcd_zero_right]
  | succ f ih =>
    intro x y fuel hy hy2 hx hf
    obtain ⟨fu, rfl⟩ : ∃ f, fuel = f + 1 + 1 := ⟨fuel - 2, by omega⟩
    by_cases e : y = 0
    · subst e
      rw [fn_X8_common_L6, if_pos (by rw [lc_eq]; rfl), Nat.gcd_zero_right]
    · have hne : ¬ lN y = 0 := by rw [lN0 (by omega)]; exact e
      have l1 : x % y < y := Nat.mod_lt _ (by omega)
      rw [fn_X8_common_L6, if_neg (by rw [lc_eq]; exact hne), if_neg hne, pk_lRem (by omega) (by omega) (by omega), mm_leq, gcd_step x y]
      by_cases e2 : x % y = 0
      · rw [e2, fn_X8_common_L6, if_pos (by rw [lc_eq]; rfl), Nat.gcd_zero_right]
      · have hne2 : ¬ lN (x % y) = 0 := by rw [lN0 (by omega)]; exact e2
        have l2 : y % (x % y) < x % y := Nat.mod_lt _ (by omega)
        have l3 : 2 * (y % (x % y)) < y := by
          have h1 := Nat.div_add_mod y (x % y)
          have h2 : 1 ≤ y / (x % y) := (Nat.one_le_div_iff (by omega)).mpr (by omega)
          have h3 : x % y * 1 ≤ x % y * (y / (x % y)) := Nat.mul_le_mul_left _ h2
          omega
        rw [fn_X8_common_L6, if_neg (by rw [lc_eq]; exact hne2), if_neg hne2, pk_lRem (by omega) (by omega) (by omega), mm_leq, gcd_step y (x % y)]
        refine ih _ _ fu ?_ (by omega) (by omega) (by omega)
        rw [Nat.pow_succ] at hy
        omega
theorem lowest_ok {a b : Nat} (ha : a < 2 ^ 40) (hb : b < 2 ^ 40) (h0 : 0 < b) (c : Int32) (M : mm_M) : fn_X8_lowest (lN a) (lN b) c M = some (if c = 0 then lN (a / Nat.gcd a b) else lN (b / Nat.gcd a b), M) := by
  have hg : Nat.gcd b a = Nat.gcd a b := Nat.gcd_comm b a
  have hpos : 0 < Nat.gcd a b := Nat.gcd_pos_of_pos_right _ h0
  have hle : Nat.gcd a b ≤ b := Nat.gcd_le_right _ h0
  unfold fn_X8_lowest fn_X8_common
  rw [common_L (fun x4_3 M_4 => some (x4_3, M_4)) M 40 b a mm_fu ha (by omega) (by omega) (by have := mm_fu_ge; omega), hg]
  simp only [pb_some, mm_leq]
  have hne : ¬ lN (Nat.gcd a b) = 0 := by rw [lN0 (by omega)]; omega
  rw [if_neg hne, if_neg hne, pk_lDiv (by omega) hpos (by omega), pk_lDiv (by omega) hpos (by omega)]
  split <;> rfl
/-- one round of the class -/
def r2 (p : Nat × Nat) : Nat × Nat := if p.1 % 2 = 0 ∧ p.2 % 2 = 0 then (p.1 / 2, p.2 / 2) else p
def r5 (p : Nat × Nat) : Nat × Nat := if p.1 % 5 = 0 ∧ p.2 % 5 = 0 then (p.1 / 5, p.2 / 5) else p
def lt25 : Nat → Nat × Nat → Nat × Nat
  | 0, p => p
  | m + 1, p => lt25 m (r5 (r2 p))
theorem dg_mul (c a b : Nat) (hc : 0 < c) : c * a / Nat.gcd (c * a) (c * b) = a / Nat.gcd a b ∧ c * b / Nat.gcd (c * a) (c * b) = b / Nat.gcd a b := by
  rw [Nat.gcd_mul_left, Nat.mul_div_mul_left _ _ hc, Nat.mul_div_mul_left _ _ hc]
  exact ⟨rfl, rfl⟩
/-- what a round leaves as it is -/
def lo (p : Nat × Nat) : Nat × Nat := (p.1 / Nat.gcd p.1 p.2, p.2 / Nat.gcd p.1 p.2)
theorem lo_r2 (p : Nat × Nat) : lo (r2 p) = lo p := by
  unfold r2
  split
  · next h =>
    obtain ⟨a, b⟩ := p
    simp only [] at h
    obtain ⟨x, rfl⟩ : ∃ x, a = 2 * x := ⟨a / 2, by omega⟩
    obtain ⟨y, rfl⟩ : ∃ y, b = 2 * y := ⟨b / 2, by omega⟩
    have := dg_mul 2 x y (by omega)
    unfold lo
    simp only [show 2 * x / 2 = x by omega, show 2 * y / 2 = y by omega]
    rw [this.1, this.2]
  · rfl
theorem lo_r5 (p : Nat × Nat) : lo (r5 p) = lo p := by
  unfold r5
  split
  · next h =>
    obtain ⟨a, b⟩ := p
    simp only [] at h
    obtain ⟨x, rfl⟩ : ∃ x, a = 5 * x := ⟨a / 5, by omega⟩
    obtain ⟨y, rfl⟩ : ∃ y, b = 5 * y := ⟨b / 5, by omega⟩
    have := dg_mul 5 x y (by omega)
    unfold lo
    simp only [show 5 * x / 5 = x by omega, show 5 * y / 5 = y by omega]
    rw [this.1, this.2]
  · rfl
theorem cp_2 {a : Nat} (h : a % 2 = 1) : Nat.Coprime a 2 := by
  unfold Nat.Coprime
  rw [Nat.gcd_comm, Nat.gcd_rec, h]
  decide
theorem cp_5 {a : Nat} (h : a % 5 ≠ 0) : Nat.Coprime a 5 := by
  unfold Nat.Coprime
  rw [Nat.gcd_comm, Nat.gcd_rec]
  have : a % 5 < 5 := Nat.mod_lt _ (by omega)
  rcases (by omega : a % 5 = 1 ∨ a % 5 = 2 ∨ a % 5 = 3 ∨ a % 5 = 4) with e | e | e | e <;> rw [e] <;> decide
theorem pow5_odd (j : Nat) : 5 ^ j % 2 = 1 := by
  induction j with
  | zero => rfl
  | succ j ih =>
    rw [Nat.pow_succ]
    omega
theorem pow2_n5 (i : Nat) : 2 ^ i % 5 ≠ 0 := by
  induction i with
  | zero => decide
  | succ i ih =>
    rw [Nat.pow_succ]
    omega
theorem p25_2 (i j : Nat) : (2 ^ i * 5 ^ j) % 2 = 0 ↔ 0 < i := by
  cases i with
  | zero =>
    rw [Nat.pow_zero, Nat.one_mul, pow5_odd]
    omega
  | succ i =>
    rw [Nat.pow_succ, Nat.mul_comm (2 ^ i) 2, Nat.mul_assoc]
    omega
theorem p25_5 (i j : Nat) : (2 ^ i * 5 ^ j) % 5 = 0 ↔ 0 < j := by
  cases j with
  | zero =>
    rw [Nat.pow_zero, Nat.mul_one]
    have := pow2_n5 i
    omega
  | succ j =>
    rw [Nat.pow_succ, Nat.mul_comm (5 ^ j) 5, Nat.mul_left_comm]
    omega
/-- as many rounds as there can be twos and fives leave nothing in common -/
theorem lt25_ok : ∀ m a i j, (i ≤ m ∨ a % 2 = 1) → (j ≤ m ∨ a % 5 ≠ 0) → lt25 m (a, 2 ^ i * 5 ^ j) = lo (a, 2 ^ i * 5 ^ j) := by
  intro m
  induction m with
  | zero =>
    intro a i j hi hj
    have h2 : Nat.Coprime a (2 ^ i) := by
      rcases hi with h | h
      · rw [show i = 0 by omega, Nat.pow_zero]
        exact Nat.coprime_one_right a
      · exact Nat.Coprime.pow_right _ (cp_2 h)
    have h5 : Nat.Coprime a (5 ^ j) := by
      rcases hj with h | h
      · rw [show j = 0 by omega, Nat.pow_zero]
        exact Nat.coprime_one_right a
      · exact Nat.Coprime.pow_right _ (cp_5 h)
    have h : Nat.gcd a (2 ^ i * 5 ^ j) = 1 := Nat.Coprime.mul_right h2 h5
    unfold lo
    simp only [h, Nat.div_one]
    rfl
  | succ m ih =>
    intro a i j hi hj
    rw [lt25, ← lo_r2, ← lo_r5]
    have s2 : ∃ a' i', r2 (a, 2 ^ i * 5 ^ j) = (a', 2 ^ i' * 5 ^ j) ∧ (i' ≤ m ∨ a' % 2 = 1) ∧ (j ≤ m + 1 ∨ a' % 5 ≠ 0) := by
      unfold r2
      simp only [p25_2]
      by_cases e : a % 2 = 0 ∧ 0 < i
      · rw [if_pos e]
        obtain ⟨i', rfl⟩ : ∃ i', i = i' + 1 := ⟨i - 1, by omega⟩
        refine ⟨a / 2, i', ?_, by omega, by omega⟩
        rw [Nat.pow_succ, Nat.mul_comm (2 ^ i') 2, Nat.mul_assoc, Nat.mul_div_cancel_left _ (by omega)]
      · rw [if_neg e]
        exact ⟨a, i, rfl, by omega, hj⟩
    obtain ⟨a', i', e1, g1, g2⟩ := s2
    rw [e1]
    have s5 : ∃ a'' j', r5 (a', 2 ^ i' * 5 ^ j) = (a'', 2 ^ i' * 5 ^ j') ∧ (i' ≤ m ∨ a'' % 2 = 1) ∧ (j' ≤ m ∨ a'' % 5 ≠ 0) := by
      unfold r5
      simp only [p25_5]
      by_cases e : a' % 5 = 0 ∧ 0 < j
      · rw [if_pos e]
        obtain ⟨j', rfl⟩ : ∃ j', j = j' + 1 := ⟨j - 1, by omega⟩
        refine ⟨a' / 5, j', ?_, by omega, by omega⟩
        rw [Nat.pow_succ, Nat.mul_comm (5 ^ j') 5, Nat.mul_left_comm, Nat.mul_div_cancel_left _ (by omega)]
      · rw [if_neg e]
        exact ⟨a', j, rfl, g1, by omega⟩
    obtain ⟨a'', j', e2, g3, g4⟩ := s5
    rw [e2]
    exact ih a'' i' j' g3 g4
theorem r2_le (p : Nat × Nat) : (r2 p).1 ≤ p.1 ∧ (r2 p).2 ≤ p.2 := by
  unfold r2
  split
  · exact ⟨Nat.div_le_self _ _, Nat.div_le_self _ _⟩
  · exact ⟨Nat.le_refl _, Nat.le_refl _⟩
theorem r5_le (p : Nat × Nat) : (r5 p).1 ≤ p.1 ∧ (r5 p).2 ≤ p.2 := by
  unfold r5
  split
  · exact ⟨Nat.div_le_self _ _, Nat.div_le_self _ _⟩
  · exact ⟨Nat.le_refl _, Nat.le_refl _⟩
theorem terms_L {n : Nat} (hn : n < 1000) (c5 : Int32) (M : mm_M) (k : Int64 → Int64 → mm_M → Option (Int64 × mm_M)) : ∀ m i fuel (p : Nat × Nat), i + m = n → m < fuel → p.1 < 2 ^ 40 → p.2 < 2 ^ 40 → fn_X7_inLowestTerms_L3 (nI n) c5 k fuel (lN p.1) (lN p.2) (nI i) M = k (lN (lt25 m p).1) (lN (lt25 m p).2) M := by
  intro m
  induction m with
  | zero =>
    intro i fuel p hi hf h1 h2
    obtain ⟨f, rfl⟩ : ∃ f, fuel = f + 1 := ⟨fuel - 1, by omega⟩
    rw [fn_X7_inLowestTerms_L3, if_pos (nI_le (by omega) (by omega))]
    rfl
  | succ m ih =>
    intro i fuel p hi hf h1 h2
    obtain ⟨f, rfl⟩ : ∃ f, fuel = f + 1 := ⟨fuel - 1, by omega⟩
    have five : ∀ q : Nat × Nat, q.1 < 2 ^ 40 → q.2 < 2 ^ 40 → fn_X7_inLowestTerms_B42 (nI n) c5 (fun y0 y2 y6 M => fn_X7_inLowestTerms_L3 (nI n) c5 k f y0 y2 y6 M) k (lN q.1) (lN q.2) (nI i) M = k (lN (lt25 m (r5 q)).1) (lN (lt25 m (r5 q)).2) M := fun q g1 g2 => by
      have le := r5_le q
      have e1 : lN q.1 - lN q.1 / 5 * 5 = lN (q.1 % 5) := pk_lRem (b := 5) (by omega) (by omega) (by omega)
      have e2 : lN q.2 - lN q.2 / 5 * 5 = lN (q.2 % 5) := pk_lRem (b := 5) (by omega) (by omega) (by omega)
      have d1 : lN q.1 / 5 = lN (q.1 / 5) := pk_lDiv (b := 5) (by omega) (by omega) (by omega)
      have d2 : lN q.2 / 5 = lN (q.2 / 5) := pk_lDiv (b := 5) (by omega) (by omega) (by omega)
      have step := ih (i + 1) f (r5 q) (by omega) (by omega) (by omega) (by omega)
      unfold fn_X7_inLowestTerms_B42
      rw [e1, e2, d1, d2, mm_leq, mm_leq, nI_1]
      simp only [lc_eq, lN0 (a := q.1 % 5) (by omega), lN0 (a := q.2 % 5) (by omega)]
      by_cases a1 : q.1 % 5 = 0
      · by_cases a2 : q.2 % 5 = 0
        · rw [if_pos a1, if_pos a2]
          rw [show r5 q = (q.1 / 5, q.2 / 5) from if_pos ⟨a1, a2⟩] at step ⊢
          exact step
        · rw [if_pos a1, if_neg a2]
          rw [show r5 q = q from if_neg (fun z => a2 z.2)] at step ⊢
          exact step
      · rw [if_neg a1]
        rw [show r5 q = q from if_neg (fun z => a1 z.1)] at step ⊢
        exact step
    have le := r2_le p
    have e1 : lN p.1 - lN p.1 / 2 * 2 = lN (p.1 % 2) := pk_lRem (b := 2) (by omega) (by omega) (by omega)
    have e2 : lN p.2 - lN p.2 / 2 * 2 = lN (p.2 % 2) := pk_lRem (b := 2) (by omega) (by omega) (by omega)
    have d1 : lN p.1 / 2 = lN (p.1 / 2) := pk_lDiv (b := 2) (by omega) (by omega) (by omega)
    have d2 : lN p.2 / 2 = lN (p.2 / 2) := pk_lDiv (b := 2) (by omega) (by omega) (by omega)
    have step := five (r2 p) (by omega) (by omega)
    rw [fn_X7_inLowestTerms_L3, if_neg (nI_ge (by omega) (by omega)), e1, e2, d1, d2, mm_leq, mm_leq, lt25]
    simp only [lc_eq, lN0 (a := p.1 % 2) (by omega), lN0 (a := p.2 % 2) (by omega)]
    by_cases a1 : p.1 % 2 = 0
    · by_cases a2 : p.2 % 2 = 0
      · rw [if_pos a1, if_pos a2]
        rw [show r2 p = (p.1 / 2, p.2 / 2) from if_pos ⟨a1, a2⟩] at step ⊢
        exact step
      · rw [if_pos a1, if_neg a2]
        rw [show r2 p = p from if_neg (fun z => a2 z.2)] at step ⊢
        exact step
    · rw [if_neg a1]
      rw [show r2 p = p from if_neg (fun z => a1 z.1)] at step ⊢
      exact step
theorem terms_ok {n a : Nat} (hn : n ≤ 8) (ha : a < 2 ^ 40) (c : Int32) (M : mm_M) : fn_X7_inLowestTerms (lN a) (lN (10 ^ n)) (nI n) c M = some (if c = 0 then lN (a / Nat.gcd a (10 ^ n)) else lN (10 ^ n / Nat.gcd a (10 ^ n)), M) := by
  have hp : 10 ^ n ≤ 10 ^ 8 := Nat.pow_le_pow_right (by omega) hn
  have h10 : (10 : Nat) ^ n = 2 ^ n * 5 ^ n := Nat.mul_pow 2 5 n
  have hl := lt25_ok n a n n (Or.inl (Nat.le_refl _)) (Or.inl (Nat.le_refl _))
  rw [← h10] at hl
  unfold fn_X7_inLowestTerms
  have ht := terms_L (n := n) (by omega) c M (fun x0_10 x2_11 M_12 => (if c = 0 then some (x0_10, M_12) else some (x2_11, M_12))) n 0 mm_fu (a, 10 ^ n) (by omega) (by have := mm_fu_ge; omega) ha (show 10 ^ n < 2 ^ 40 by omega)
  rw [hl] at ht
  refine Eq.trans ht ?_
  unfold lo
  simp only []
  split <;> rfl
theorem tens_C {n : Nat} (hn : n ≤ 8) (c4 : Int32) (c5 : Int64) (M : mm_M) (k : Int64 → mm_M → Option (Int64 × mm_M)) : ∀ m i fuel, i + m = n → m < fuel → fn_X7_rainFraction_L61 (nI n) c4 c5 k fuel (lN (10 ^ i)) (nI i) M = k (lN (10 ^ n)) M := by
  intro m
  induction m with
  | zero =>
    intro i fuel hi hf
    obtain ⟨f, rfl⟩ : ∃ f, fuel = f + 1 := ⟨fuel - 1, by omega⟩
    have : i = n := by omega
    subst this
    rw [fn_X7_rainFraction_L61, if_pos (nI_le (Nat.le_refl _) (by omega))]
  | succ m ih =>
    intro i fuel hi hf
    obtain ⟨f, rfl⟩ : ∃ f, fuel = f + 1 := ⟨fuel - 1, by omega⟩
    rw [fn_X7_rainFraction_L61, if_neg (nI_ge (by omega) (by omega)), show lN (10 ^ i) * 10 = lN (10 ^ i * 10) from lN_mul _ 10, mm_leq, nI_1, ← Nat.pow_succ]
    exact ih (i + 1) f (by omega) (by omega)
theorem tens_R {n : Nat} (hn : n ≤ 8) (c1 c2 : Int32) (M : mm_M) (k : mm_M → (Nat → Int64) → Option (mm_M × (Nat → Int64))) : ∀ m i fuel (N : Nat → Int64), i + m = n → m < fuel → N 20 = lN (10 ^ i) → ∃ N', fn_X8_findOdds_L18 c1 c2 (nI n) k fuel (nI i) M N = k M N' ∧ N' 20 = lN (10 ^ n) ∧ N' 18 = N 18 ∧ N' 19 = N 19 := by
  intro m
  induction m with
  | zero =>
    intro i fuel N hi hf h
    obtain ⟨f, rfl⟩ : ∃ f, fuel = f + 1 := ⟨fuel - 1, by omega⟩
    have : i = n := by omega
    subst this
    refine ⟨N, ?_, h, rfl, rfl⟩
    rw [fn_X8_findOdds_L18, if_pos (nI_le (Nat.le_refl _) (by omega))]
  | succ m ih =>
    intro i fuel N hi hf h
    obtain ⟨f, rfl⟩ : ∃ f, fuel = f + 1 := ⟨fuel - 1, by omega⟩
    rw [fn_X8_findOdds_L18, if_neg (nI_ge (by omega) (by omega)), mm_leq, nI_1]
    obtain ⟨N', y1, y2, y3, y4⟩ := ih (i + 1) f (vp_updL N 20 (N 20 * 10)) (by omega) (by omega) (by
      rw [pk_uLs, h, show lN (10 ^ i) * 10 = lN (10 ^ i * 10) from lN_mul _ 10, ← Nat.pow_succ])
    exact ⟨N', y1, y2, y3.trans (pk_uLn (by omega)), y4.trans (pk_uLn (by omega))⟩
/-! luck, mean -/
theorem rain_C {C : mm_M} {L : LV} (hw : lw L) (hd : L 0 1 ≤ 999) (hc : lC C 1 L) {v n : Nat} (hv : v ≤ 10) (hn : n ≤ 8) (who : Int32) (W : LV → Nat) (hW : ∀ (C : mm_M) (o : Nat) (M : LV), lC C o M → lw M → M 0 0 = L 0 0 → fn_X7_worth o who C = some (lN (W M), C)) (hW3 : ∀ M, lw M → W M ≤ 360) {w : Int32} (e1 : pw_b (nI v) 0 10 = 1) (e2 : pw_b (nI n) 0 8 = 1) (e3 : pw_b w 0 1 = 1) :
    ∃ C', fn_X7_rainFraction (nI v) who (nI n) w C = some (if w = 0 then lN (wv v W n L / Nat.gcd (wv v W n L) (10 ^ n)) else lN (10 ^ n / Nat.gcd (wv v W n L) (10 ^ n)), C') ∧ c_sc C C' := by
  obtain ⟨C1, a1, a2, a3⟩ := c_become 27 1 hc hw.1 (by omega)
  obtain ⟨C2, p1, p2⟩ := weigh_ok (v := v) (n := n) (N := L 0 0) hv hn who W hW n 0 10 C1 L (by omega) (by omega) a2 hw rfl (by omega)
  have hle := wv_le hv hW3 n L hw
  have hp : 10 ^ n ≤ 10 ^ 8 := Nat.pow_le_pow_right (by omega) hn
  refine ⟨C2, ?_, fun a h1 h2 h3 h4 => by rw [p2 a (by omega), a3 a (by omega)]⟩
  unfold fn_X7_rainFraction
  rw [pw_C]
  simp only [pb_some]
  rw [if_neg (by rw [e1]; decide), pw_C]
  simp only [pb_some]
  rw [if_neg (by rw [e2]; decide), pw_half]
  simp only [pb_some]
  rw [if_neg (by rw [e3]; decide), a1]
  simp only [pb_some]
  rw [show fn_X7_weigh 10 0 (nI n) (nI v) who C1 = _ from p1]
  simp only [pb_some, mm_leq]
  have ht := tens_C hn w (lN (wv v W n L)) C2 (fun x7_12 M_13 => ((fn_X7_inLowestTerms (lN (wv v W n L)) x7_12 (nI n) w M_13).bind fun z_15 => some (z_15.1, z_15.2))) n 0 mm_fu (by omega) (by have := mm_fu_ge; omega)
  refine Eq.trans ht ?_
  rw [terms_ok hn (by omega)]
  rfl
theorem odds_R {R : mm_M} {L : LV} (hw : lw L) (hd : L 0 1 ≤ 999) (hr : lR (R 1) L) {v n : Nat} (hv : v ≤ 10) (hn : n ≤ 8) (who : Option Nat) (hwho : ∀ i, who = some i → i < L 0 0) {c2 : Int32} (hc2 : c2 = wC who) (N : Nat → Int64) : ∃ R' N', fn_X8_findOdds (nI v) c2 (nI n) R N = some (R', N') ∧ N' 18 = lN (wv v (wH who) n L) ∧ N' 19 = lN (ss (fun t => wy v n t 1 * lv_sum ((fl n t L) 2) (L 0 0)) (2 ^ n)) ∧ N' 20 = lN (10 ^ n) ∧ r_s R R' := by
  have hp : 2 ^ n ≤ 256 := Nat.pow_le_pow_right (n := 2) (by omega) hn
  unfold fn_X8_findOdds
  rw [mm_leq, mm_leq, mm_leq]
  obtain ⟨N1, y1, y2, y3, y4⟩ := tens_R hn (nI v) c2 R (fun M_6 N_7 => fn_X8_findOdds_L45 (nI v) c2 (nI n) (fun M_33 N_34 => some (M_33, N_34)) mm_fu 0 M_6 N_7) n 0 mm_fu (vp_updL (vp_updL (vp_updL N 18 0) 19 0) 20 1) (by omega) (by have := mm_fu_ge; omega) (by rw [pk_uLs]; rfl)
  obtain ⟨R', N', z1, z2, z3, z4, z5⟩ := r_odds_L hv hn hw hd who hwho hc2 (fun M_33 N_34 => some (M_33, N_34)) (2 ^ n) 0 mm_fu R N1 (by omega) (by have := mm_fu_ge; omega) hr (by
    rw [y3, pk_uLn (by omega), pk_uLn (by omega), pk_uLs]
    rfl) (by
    rw [y4, pk_uLn (by omega), pk_uLs]
    rfl)
  refine ⟨R', N', Eq.trans y1 z1, ?_, z3, z4.trans y2, z5⟩
  rw [z2, ss_wv v (wH who) n 1 L, Nat.one_mul]
