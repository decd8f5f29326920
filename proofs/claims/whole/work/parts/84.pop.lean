/-! how many bits are set -/
theorem pb_and2 {a b : Nat} (ha : a < 2 ^ 32) (hb : b < 2 ^ 32) : nI a &&& nI b = nI (a &&& b) := by
  rw [← Int32.toBitVec_inj, Int32.toBitVec_and]
  apply BitVec.eq_of_toNat_eq
  rw [BitVec.toNat_and, pk_tn ha, pk_tn hb, pk_tn (Nat.and_lt_two_pow _ hb)]
theorem bn_split {a c y m : Nat} (ha : a < 256) (hc : c < 256) : (a + 256 * y) &&& (c + 256 * m) = (a &&& c) + 256 * (y &&& m) := by
  have h1 : ((a + 256 * y) &&& (c + 256 * m)) % 2 ^ 8 = a &&& c := by
    rw [Nat.and_mod_two_pow, show (a + 256 * y) % 2 ^ 8 = a by omega, show (c + 256 * m) % 2 ^ 8 = c by omega]
  have h2 : ((a + 256 * y) &&& (c + 256 * m)) / 2 ^ 8 = y &&& m := by
    rw [← Nat.shiftRight_eq_div_pow, Nat.shiftRight_and_distrib, Nat.shiftRight_eq_div_pow, Nat.shiftRight_eq_div_pow, show (a + 256 * y) / 2 ^ 8 = y by omega, show (c + 256 * m) / 2 ^ 8 = m by omega]
  omega
def s1b (b : Nat) : Nat := b - (b / 2 &&& 85)
def s2b (b : Nat) : Nat := (b &&& 51) + (b / 4 &&& 51)
def s3b (b : Nat) : Nat := (b + b / 16) &&& 15
def pc : Nat → Nat → Nat
  | 0, _ => 0
  | k + 1, x => x % 2 + pc k (x / 2)
theorem bt_1 : ∀ b : Fin 256, ∀ t : Fin 2, (b.1 / 2 + 128 * t.1) &&& 85 = b.1 / 2 &&& 85 := by decide +kernel
theorem bt_2 : ∀ b : Fin 256, ∀ t : Fin 4, (b.1 / 4 + 64 * t.1) &&& 51 = b.1 / 4 &&& 51 := by decide +kernel
theorem bt_3 : ∀ b : Fin 69, ∀ t : Fin 5, (b.1 + b.1 / 16 + 16 * t.1) &&& 15 = (b.1 + b.1 / 16) &&& 15 := by decide +kernel
theorem bt_4 : ∀ b : Fin 256, s1b b.1 < 256 ∧ (b.1 / 2 &&& 85) ≤ b.1 ∧ s2b (s1b b.1) ≤ 68 ∧ s2b (s1b b.1) % 16 ≤ 4 ∧ s3b (s2b (s1b b.1)) = pc 8 b.1 ∧ pc 8 b.1 ≤ 8 := by decide +kernel
theorem bl_1 {b y M : Nat} (hb : b < 256) : (b + 256 * y) - ((b + 256 * y) / 2 &&& (85 + 256 * M)) = s1b b + 256 * (y - (y / 2 &&& M)) := by
  have e : (b + 256 * y) / 2 = (b / 2 + 128 * (y % 2)) + 256 * (y / 2) := by omega
  have h := bt_1 ⟨b, hb⟩ ⟨y % 2, Nat.mod_lt _ (by omega)⟩
  have h4 := (bt_4 ⟨b, hb⟩).2.1
  have h5 : (y / 2 &&& M) ≤ y / 2 := Nat.and_le_left
  simp only [] at h h4
  rw [e, bn_split (by omega) (by omega), h]
  unfold s1b
  omega
theorem bl_2 {b y M : Nat} (hb : b < 256) : ((b + 256 * y) &&& (51 + 256 * M)) + ((b + 256 * y) / 4 &&& (51 + 256 * M)) = s2b b + 256 * ((y &&& M) + (y / 4 &&& M)) := by
  have e : (b + 256 * y) / 4 = (b / 4 + 64 * (y % 4)) + 256 * (y / 4) := by omega
  have h := bt_2 ⟨b, hb⟩ ⟨y % 4, Nat.mod_lt _ (by omega)⟩
  simp only [] at h
  rw [e, bn_split (by omega) (by omega), bn_split (by omega) (by omega), h]
  unfold s2b
  omega
theorem bl_3 {b y M : Nat} (hb : b ≤ 68) (hy : y % 16 ≤ 4) : ((b + 256 * y) + (b + 256 * y) / 16) &&& (15 + 256 * M) = s3b b + 256 * ((y + y / 16) &&& M) := by
  have e : (b + 256 * y) + (b + 256 * y) / 16 = (b + b / 16 + 16 * (y % 16)) + 256 * (y + y / 16) := by omega
  have h := bt_3 ⟨b, by omega⟩ ⟨y % 16, by omega⟩
  simp only [] at h
  rw [e, bn_split (by omega) (by omega), h]
  rfl
theorem b4_1 {a b c d : Nat} (ha : a < 256) (hb : b < 256) (hc : c < 256) (hd : d < 256) : (a + 256 * (b + 256 * (c + 256 * d))) - ((a + 256 * (b + 256 * (c + 256 * d))) / 2 &&& 1431655765) = s1b a + 256 * (s1b b + 256 * (s1b c + 256 * s1b d)) := by
  rw [show (1431655765 : Nat) = 85 + 256 * (85 + 256 * (85 + 256 * 85)) from rfl, bl_1 ha, bl_1 hb, bl_1 hc]
  rfl
theorem b4_2 {a b c d : Nat} (ha : a < 256) (hb : b < 256) (hc : c < 256) (hd : d < 256) : ((a + 256 * (b + 256 * (c + 256 * d))) &&& 858993459) + ((a + 256 * (b + 256 * (c + 256 * d))) / 4 &&& 858993459) = s2b a + 256 * (s2b b + 256 * (s2b c + 256 * s2b d)) := by
  rw [show (858993459 : Nat) = 51 + 256 * (51 + 256 * (51 + 256 * 51)) from rfl, bl_2 ha, bl_2 hb, bl_2 hc]
  rfl
theorem b4_3 {a b c d : Nat} (ha : a ≤ 68) (hb : b ≤ 68) (hc : c ≤ 68) (hd : d ≤ 68) (gb : b % 16 ≤ 4) (gc : c % 16 ≤ 4) (gd : d % 16 ≤ 4) : ((a + 256 * (b + 256 * (c + 256 * d))) + (a + 256 * (b + 256 * (c + 256 * d))) / 16) &&& 252645135 = s3b a + 256 * (s3b b + 256 * (s3b c + 256 * s3b d)) := by
  rw [show (252645135 : Nat) = 15 + 256 * (15 + 256 * (15 + 256 * 15)) from rfl, bl_3 ha (by omega), bl_3 hb (by omega), bl_3 hc (by omega)]
  rfl
theorem pc_8 (k x : Nat) : pc (8 + k) x = pc 8 (x % 256) + pc k (x / 256) := by
  rw [show 8 + k = k + 1 + 1 + 1 + 1 + 1 + 1 + 1 + 1 by omega]
  simp only [pc]
  rw [show x / 2 / 2 / 2 / 2 / 2 / 2 / 2 / 2 = x / 256 by omega]
  omega
theorem pc_S : ∀ (k x : Nat), pc (k + 1) x = pc k x + x / 2 ^ k % 2 := by
  intro k
  induction k with
  | zero => intro x; simp [pc]
  | succ k ih =>
    intro x
    rw [pc, ih (x / 2), pc, Nat.div_div_eq_div_mul, show 2 * 2 ^ k = 2 ^ (k + 1) by rw [Nat.pow_succ]; omega]
    omega
theorem be_1 {x y : Nat} (hx : x < 2 ^ 32) (h : x - (x / 2 &&& 1431655765) = y) : nI x - (((nI x).toUInt32 >>> ((1 : Int32).toUInt32 &&& Int32.toUInt32 31)).toInt32 &&& 1431655765) = nI y := by
  rw [pk_ushrN hx 1 1 (by decide), show (1431655765 : Int32) = nI 1431655765 from rfl, pb_and2 (by omega) (by omega), pk_sub (Nat.le_trans Nat.and_le_left (Nat.div_le_self _ _)), ← h]
theorem be_2 {x y : Nat} (hx : x < 2 ^ 32) (h : (x &&& 858993459) + (x / 4 &&& 858993459) = y) : (nI x &&& 858993459) + (((nI x).toUInt32 >>> ((2 : Int32).toUInt32 &&& Int32.toUInt32 31)).toInt32 &&& 858993459) = nI y := by
  rw [pk_ushrN hx 2 2 (by decide), show (858993459 : Int32) = nI 858993459 from rfl, pb_and2 hx (by omega), pb_and2 (by omega) (by omega), nI_add, ← h]
theorem be_3 {x y : Nat} (hx : x < 2 ^ 31) (h : (x + x / 16) &&& 252645135 = y) : (nI x + ((nI x).toUInt32 >>> ((4 : Int32).toUInt32 &&& Int32.toUInt32 31)).toInt32) &&& 252645135 = nI y := by
  rw [pk_ushrN (by omega) 4 4 (by decide), show (252645135 : Int32) = nI 252645135 from rfl, nI_add, pb_and2 (by omega) (by omega), ← h]
theorem be_4 {x : Nat} (hx : x < 2 ^ 31) : nI x + ((nI x).toUInt32 >>> ((8 : Int32).toUInt32 &&& Int32.toUInt32 31)).toInt32 = nI (x + x / 256) := by
  rw [pk_ushrN (by omega) 8 8 (by decide), nI_add]
theorem be_5 {x : Nat} (hx : x < 2 ^ 31) : nI x + ((nI x).toUInt32 >>> ((16 : Int32).toUInt32 &&& Int32.toUInt32 31)).toInt32 = nI (x + x / 65536) := by
  rw [pk_ushrN (by omega) 16 16 (by decide), nI_add]
theorem bc_nat {x y1 y2 y3 : Nat} (hx : x < 2 ^ 32) (h1 : x - (x / 2 &&& 1431655765) = y1) (h2 : (y1 &&& 858993459) + (y1 / 4 &&& 858993459) = y2) (h3 : (y2 + y2 / 16) &&& 252645135 = y3) (M : mm_M) : fn_J6_bitCount_0f7a4 (nI x) M = some (nI ((y3 + y3 / 256 + (y3 + y3 / 256) / 65536) % 64), M) := by
  have l2 : y2 < 2 ^ 31 := by
    have a1 : (y1 &&& 858993459) ≤ 858993459 := Nat.and_le_right
    have a2 : (y1 / 4 &&& 858993459) ≤ 858993459 := Nat.and_le_right
    omega
  have l3 : y3 ≤ 252645135 := by
    rw [← h3]
    exact Nat.and_le_right
  unfold fn_J6_bitCount_0f7a4
  rw [be_1 hx h1, mm_leq, be_2 (by omega) h2, mm_leq, be_3 l2 h3, mm_leq, be_4 (by omega), mm_leq, be_5 (by omega), mm_leq, show nI (y3 + y3 / 256 + (y3 + y3 / 256) / 65536) &&& 63 = nI ((y3 + y3 / 256 + (y3 + y3 / 256) / 65536) % 64) from pk_andN (k := 6) (by omega) (by decide)]
theorem pc_32 {a b c d : Nat} (ha : a < 256) (hb : b < 256) (hc : c < 256) (hd : d < 256) : pc 32 (a + 256 * (b + 256 * (c + 256 * d))) = pc 8 a + (pc 8 b + (pc 8 c + pc 8 d)) := by
  have e1 := pc_8 24 (a + 256 * (b + 256 * (c + 256 * d)))
  have e2 := pc_8 16 (b + 256 * (c + 256 * d))
  have e3 := pc_8 8 (c + 256 * d)
  rw [show (a + 256 * (b + 256 * (c + 256 * d))) % 256 = a by omega, show (a + 256 * (b + 256 * (c + 256 * d))) / 256 = b + 256 * (c + 256 * d) by omega] at e1
  rw [show (b + 256 * (c + 256 * d)) % 256 = b by omega, show (b + 256 * (c + 256 * d)) / 256 = c + 256 * d by omega] at e2
  rw [show (c + 256 * d) % 256 = c by omega, show (c + 256 * d) / 256 = d by omega] at e3
  exact e1.trans (by rw [show pc 24 (b + 256 * (c + 256 * d)) = _ from e2, show pc 16 (c + 256 * d) = _ from e3])
theorem bc_end {p q r s : Nat} (hp : p ≤ 8) (hq : q ≤ 8) (hr : r ≤ 8) (hs : s ≤ 8) : (p + 256 * (q + 256 * (r + 256 * s)) + (p + 256 * (q + 256 * (r + 256 * s))) / 256 + (p + 256 * (q + 256 * (r + 256 * s)) + (p + 256 * (q + 256 * (r + 256 * s))) / 256) / 65536) % 64 = p + (q + (r + s)) := by
  have e1 : (p + 256 * (q + 256 * (r + 256 * s))) / 256 = q + 256 * (r + 256 * s) := by omega
  rw [e1]
  have e2 : (p + 256 * (q + 256 * (r + 256 * s)) + (q + 256 * (r + 256 * s))) / 65536 = r + s + 256 * s := by omega
  rw [e2]
  have e3 : p + 256 * (q + 256 * (r + 256 * s)) + (q + 256 * (r + 256 * s)) + (r + s + 256 * s) = (p + (q + (r + s))) + 64 * (4 * (q + r + s) + 1024 * (r + s) + 262144 * s) := by omega
  rw [e3, Nat.add_mul_mod_self_left]
  exact Nat.mod_eq_of_lt (by omega)
theorem bc_ok {x : Nat} (hx : x < 2 ^ 32) (M : mm_M) : fn_J6_bitCount_0f7a4 (nI x) M = some (nI (pc 32 x), M) := by
  obtain ⟨a, b, c, d, ha, hb, hc, hd, rfl⟩ : ∃ a b c d, a < 256 ∧ b < 256 ∧ c < 256 ∧ d < 256 ∧ x = a + 256 * (b + 256 * (c + 256 * d)) := ⟨x % 256, x / 256 % 256, x / 65536 % 256, x / 16777216, by omega, by omega, by omega, by omega, by omega⟩
  obtain ⟨a1, a2, a3, a4, a5, a6⟩ := bt_4 ⟨a, ha⟩
  obtain ⟨b1, b2, b3, b4, b5, b6⟩ := bt_4 ⟨b, hb⟩
  obtain ⟨c1, c2, c3, c4, c5, c6⟩ := bt_4 ⟨c, hc⟩
  obtain ⟨d1, d2, d3, d4, d5, d6⟩ := bt_4 ⟨d, hd⟩
  rw [bc_nat hx (b4_1 ha hb hc hd) (b4_2 a1 b1 c1 d1) (b4_3 a3 b3 c3 d3 b4 c4 d4) M, pc_32 ha hb hc hd]
  have a5' : s3b (s2b (s1b a)) = pc 8 a := a5
  have b5' : s3b (s2b (s1b b)) = pc 8 b := b5
  have c5' : s3b (s2b (s1b c)) = pc 8 c := c5
  have d5' : s3b (s2b (s1b d)) = pc 8 d := d5
  have a6' : pc 8 a ≤ 8 := a6
  have b6' : pc 8 b ≤ 8 := b6
  have c6' : pc 8 c ≤ 8 := c6
  have d6' : pc 8 d ≤ 8 := d6
  rw [a5', b5', c5', d5']
  generalize pc 8 a = p at *
  generalize pc 8 b = q at *
  generalize pc 8 c = r at *
  generalize pc 8 d = s at *
  rw [bc_end a6' b6' c6' d6']
theorem pc_bits (P : Nat → Bool) (N : Nat) : ∀ k, k ≤ N → pc k (lv_bits P N) = lv_cnt (fun v => if P v = true then 1 else 0) 1 k := by
  intro k
  induction k with
  | zero => intro _; rfl
  | succ k ih =>
    intro hk
    rw [pc_S, ih (by omega), lv_cnt]
    have h := lv_bits_bit P (n := N) (i := k) (by omega)
    have h2 : lv_bits P N / 2 ^ k % 2 < 2 := Nat.mod_lt _ (by omega)
    congr 1
    by_cases e : P k = true
    · rw [if_pos (by rw [if_pos e])]
      exact h.mpr e
    · rw [if_neg (by rw [if_neg e]; omega)]
      have : ¬ lv_bits P N / 2 ^ k % 2 = 1 := fun q => e (h.mp q)
      omega
theorem bc_bits (P : Nat → Bool) (M : mm_M) : fn_J6_bitCount_0f7a4 (nI (lv_bits P 31)) M = some (nI (lv_cnt (fun v => if P v = true then 1 else 0) 1 31), M) := by
  have h := lv_bits_31 P (n := 31) (by omega)
  have h2 : lv_bits P 31 / 2 ^ 31 = 0 := Nat.div_eq_of_lt h
  rw [bc_ok (by omega), pc_S, pc_bits P 31 31 (by omega), h2]
  rfl
