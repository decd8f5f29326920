/-! THE TAPE: spaces, runs, tokens -/
theorem pu_self {M : mm_M} {o k : Nat} {v : Int32} (h : M o k = v) : mm_up M o k v = M := by
  funext a j
  rw [pu_up]
  split
  · next e => rw [e.1, e.2, h]
  · rfl
theorem pu_up2 (M : mm_M) (o k : Nat) (v w : Int32) : mm_up (mm_up M o k v) o k w = mm_up M o k w := by
  funext a j
  rw [pu_up, pu_up, pu_up]
  by_cases h : a = o ∧ j = k
  · rw [if_pos h, if_pos h]
  · rw [if_neg h, if_neg h, if_neg h]
theorem pu_at (M : mm_M) (o k : Nat) (v : Int32) : mm_up M o k v o k = v := by
  rw [pu_up, if_pos ⟨rfl, rfl⟩]
theorem pu_nk (M : mm_M) {o k j : Nat} (v : Int32) (h : j ≠ k) : mm_up M o k v o j = M o j := by
  rw [pu_up, if_neg (fun q => h q.2)]
def tC (C : mm_M) (t : Nat) (b : Nat → Nat) : Prop := C 16 1 = nI t ∧ ∀ i, i < t → C 17 i = nI (b i)
def tR (R : mm_M) (t : Nat) (b : Nat → Nat) : Prop := R 0 7 = nI t ∧ ∀ i, i < t → R 5 i = nI (b i)
def tB (t : Nat) (b : Nat → Nat) : Prop := t ≤ 160 ∧ ∀ i, i < t → b i ≤ 127
/-- the byte at p, or -1 -/
def bt (t : Nat) (b : Nat → Nat) (p : Nat) : Int32 := if p < t then nI (b p) else -1
theorem bt_lt {t : Nat} {b : Nat → Nat} {p : Nat} (h : p < t) : bt t b p = nI (b p) := if_pos h
theorem bt_ge {t : Nat} {b : Nat → Nat} {p : Nat} (h : ¬ p < t) : bt t b p = -1 := if_neg h
theorem byte_ok {R : mm_M} {t : Nat} {b : Nat → Nat} (ht : t ≤ 160) (h : tR R t b) {p : Nat} (hp : p < 1000) : fn_X8_byteAt (nI p) R = some (bt t b p, R) := by
  unfold fn_X8_byteAt bt
  rw [h.1]
  by_cases e : p < t
  · rw [if_neg (nI_ge e (by omega)), if_pos (pu_in (by omega) (by omega)), nI_clamp (by omega), h.2 p e, if_pos e]
  · rw [if_pos (nI_le (by omega) (by omega)), if_neg e]
def tk (c : Nat) : Nat := if 97 ≤ c ∧ c ≤ 122 then 1 else if 48 ≤ c ∧ c ≤ 57 then 2 else if c = 59 then 3 else 0
theorem tk_le (c : Nat) : tk c ≤ 3 := by
  unfold tk
  repeat' split
  all_goals omega
theorem tok_with {c : Nat} (hc : c ≤ 127) (M : mm_M) : fn_X6_tokenWith (nI c) M = some (nI (tk c), M) := by
  unfold fn_X6_tokenWith tk
  have a1 : (nI c < (97 : Int32)) = (c < 97) := pu_lt (b := 97) (by omega) (by omega)
  have a2 : (nI c < (48 : Int32)) = (c < 48) := pu_lt (b := 48) (by omega) (by omega)
  have a3 : ((57 : Int32) < nI c) = (57 < c) := pu_lt (a := 57) (by omega) (by omega)
  have a4 : ((122 : Int32) < nI c) = (122 < c) := pu_lt (a := 122) (by omega) (by omega)
  have a5 : (nI c = (59 : Int32)) = (c = 59) := pu_eq (b := 59) (by omega) (by omega)
  simp only [a1, a2, a3, a4, a5]
  repeat' split
  all_goals first
    | (exfalso; omega)
    | rfl
theorem tk_1 (c : Nat) : (tk c = 1) = (97 ≤ c ∧ c ≤ 122) := by
  unfold tk
  split
  · next h => exact propext ⟨fun _ => h, fun _ => rfl⟩
  · next h =>
    refine propext ⟨fun q => absurd q ?_, fun q => absurd q h⟩
    split
    · omega
    · split <;> omega
theorem tk_2 (c : Nat) : (tk c = 2) = (48 ≤ c ∧ c ≤ 57) := by
  unfold tk
  split
  · next h => exact propext ⟨fun q => absurd q (by omega), fun q => absurd q (by omega)⟩
  · split
    · next h => exact propext ⟨fun _ => h, fun _ => rfl⟩
    · next h =>
      refine propext ⟨fun q => absurd q ?_, fun q => absurd q h⟩
      split <;> omega
theorem pw_az {c : Nat} (hc : c ≤ 127) : pw_b (nI c) 97 122 = if tk c = 1 then 1 else 0 := by
  unfold pw_b
  have a1 : (nI c < (97 : Int32)) = (c < 97) := pu_lt (b := 97) (by omega) (by omega)
  have a4 : ((122 : Int32) < nI c) = (122 < c) := pu_lt (a := 122) (by omega) (by omega)
  simp only [a1, a4, tk_1]
  by_cases h : 97 ≤ c ∧ c ≤ 122
  · rw [if_neg (by omega), if_neg (by omega), if_pos h]
  · rw [if_neg h]
    split
    · rfl
    · rw [if_pos (by omega)]
theorem pw_09 {c : Nat} (hc : c ≤ 127) : pw_b (nI c) 48 57 = if tk c = 2 then 1 else 0 := by
  unfold pw_b
  have a1 : (nI c < (48 : Int32)) = (c < 48) := pu_lt (b := 48) (by omega) (by omega)
  have a4 : ((57 : Int32) < nI c) = (57 < c) := pu_lt (a := 57) (by omega) (by omega)
  simp only [a1, a4, tk_2]
  by_cases h : 48 ≤ c ∧ c ≤ 57
  · rw [if_neg (by omega), if_neg (by omega), if_pos h]
  · rw [if_neg h]
    split
    · rfl
    · rw [if_pos (by omega)]
theorem in_az (x : Int32) (M : mm_M) : fn_X8_in x.toInt64 97 122 M = some (pw_b x 97 122, M) := pw_R x 97 122 M rfl rfl
theorem in_09 (x : Int32) (M : mm_M) : fn_X8_in x.toInt64 48 57 M = some (pw_b x 48 57, M) := pw_R x 48 57 M rfl rfl
/-- behind the spaces -/
def tz_s (b : Nat → Nat) : Nat → Nat → Nat
  | 0, p => p
  | z + 1, p => if b p = 32 then tz_s b z (p + 1) else p
/-- behind a run of bytes of a sort -/
def ru (b : Nat → Nat) (cl : Nat) : Nat → Nat → Nat
  | 0, p => p
  | z + 1, p => if tk (b p) = cl then ru b cl z (p + 1) else p
theorem tz_sle (b : Nat → Nat) : ∀ z p, p ≤ tz_s b z p ∧ tz_s b z p ≤ p + z := by
  intro z
  induction z with
  | zero => intro p; exact ⟨Nat.le_refl _, Nat.le_refl _⟩
  | succ z ih =>
    intro p
    have := ih (p + 1)
    rw [tz_s]
    split <;> omega
theorem ru_le (b : Nat → Nat) (cl : Nat) : ∀ z p, p ≤ ru b cl z p ∧ ru b cl z p ≤ p + z := by
  intro z
  induction z with
  | zero => intro p; exact ⟨Nat.le_refl _, Nat.le_refl _⟩
  | succ z ih =>
    intro p
    have := ih (p + 1)
    rw [ru]
    split <;> omega
theorem ru_in (b : Nat → Nat) (cl : Nat) : ∀ z p i, p ≤ i → i < ru b cl z p → tk (b i) = cl := by
  intro z
  induction z with
  | zero => intro p i h1 h2; rw [ru] at h2; omega
  | succ z ih =>
    intro p i h1 h2
    rw [ru] at h2
    split at h2
    · next e =>
      by_cases h : i = p
      · rw [h]; exact e
      · exact ih (p + 1) i (by omega) h2
    · omega
section
variable {t : Nat} {b : Nat → Nat}
theorem sp_C (hB : tB t b) (k : mm_M → Option mm_M) : ∀ z p fuel (C : mm_M), p + z = t → z < fuel → tC C t b → C 16 2 = nI p → fn_X6_readToken_L0 k fuel C = k (mm_up C 16 2 (nI (tz_s b z p))) := by
  have h160 := hB.1
  intro z
  induction z with
  | zero =>
    intro p fuel C hp hf h h2
    obtain ⟨f, rfl⟩ : ∃ f, fuel = f + 1 := ⟨fuel - 1, by omega⟩
    rw [fn_X6_readToken_L0, h.1, h2, if_pos (nI_le (by omega) (by omega)), tz_s, pu_self h2]
  | succ z ih =>
    intro p fuel C hp hf h h2
    obtain ⟨f, rfl⟩ : ∃ f, fuel = f + 1 := ⟨fuel - 1, by omega⟩
    have hb := hB.2 p (by omega)
    have e32 : (nI (b p) = (32 : Int32)) = (b p = 32) := pu_eq (b := 32) (by omega) (by omega)
    rw [fn_X6_readToken_L0, h.1, h2, if_neg (nI_ge (by omega) (by omega)), if_pos (pu_in (by omega) (by omega)), nI_clamp (by omega), h.2 p (by omega), mm_leq, nI_1, tz_s]
    simp only [e32]
    by_cases e : b p = 32
    · rw [if_pos e, if_pos e, ih (p + 1) f _ (by omega) (by omega) ⟨by rw [pu_nk _ _ (by omega)]; exact h.1, fun i hi => by rw [pu_upr _ _ _ (by omega)]; exact h.2 i hi⟩ (pu_at _ _ _ _), pu_up2]
    · rw [if_neg e, if_neg e, pu_self h2]
theorem sp_R (hB : tB t b) (k : mm_M → Option mm_M) : ∀ z p fuel (R : mm_M), p + z = t → z < fuel → tR R t b → R 0 8 = nI p → fn_X8_reads_L8 k fuel R = k (mm_up R 0 8 (nI (tz_s b z p))) := by
  have h160 := hB.1
  intro z
  induction z with
  | zero =>
    intro p fuel R hp hf h h2
    obtain ⟨f, rfl⟩ : ∃ f, fuel = f + 1 := ⟨fuel - 1, by omega⟩
    rw [fn_X8_reads_L8, h2, byte_ok h160 h (by omega)]
    simp only [pb_some]
    rw [bt_ge (t := t) (b := b) (p := p) (by omega), if_neg (by decide), tz_s, pu_self h2]
  | succ z ih =>
    intro p fuel R hp hf h h2
    obtain ⟨f, rfl⟩ : ∃ f, fuel = f + 1 := ⟨fuel - 1, by omega⟩
    have hb := hB.2 p (by omega)
    have e32 : (nI (b p) = (32 : Int32)) = (b p = 32) := pu_eq (b := 32) (by omega) (by omega)
    rw [fn_X8_reads_L8, h2, byte_ok h160 h (by omega)]
    simp only [pb_some, mm_leq]
    rw [bt_lt (t := t) (b := b) (p := p) (by omega), h2, nI_1, tz_s]
    simp only [e32]
    by_cases e : b p = 32
    · rw [if_pos e, if_pos e, ih (p + 1) f _ (by omega) (by omega) ⟨by rw [pu_nk _ _ (by omega)]; exact h.1, fun i hi => by rw [pu_upr _ _ _ (by omega)]; exact h.2 i hi⟩ (pu_at _ _ _ _), pu_up2]
    · rw [if_neg e, if_neg e, pu_self h2]
theorem rn_C (hB : tB t b) {cl : Nat} (hcl : cl ≤ 4) (k : mm_M → Option mm_M) : ∀ z p fuel (C : mm_M), p + z = t → z < fuel → tC C t b → C 16 3 = nI cl → C 16 2 = nI p → fn_X6_readToken_L114 k fuel C = k (mm_up C 16 2 (nI (ru b cl z p))) := by
  have h160 := hB.1
  intro z
  induction z with
  | zero =>
    intro p fuel C hp hf h h3 h2
    obtain ⟨f, rfl⟩ : ∃ f, fuel = f + 1 := ⟨fuel - 1, by omega⟩
    rw [fn_X6_readToken_L114, h.1, h2, if_pos (nI_le (by omega) (by omega)), ru, pu_self h2]
  | succ z ih =>
    intro p fuel C hp hf h h3 h2
    obtain ⟨f, rfl⟩ : ∃ f, fuel = f + 1 := ⟨fuel - 1, by omega⟩
    have hb := hB.2 p (by omega)
    have ht := tk_le (b p)
    have e32 : (nI (tk (b p)) = nI cl) = (tk (b p) = cl) := pu_eq (by omega) (by omega)
    rw [fn_X6_readToken_L114, h.1, h2, if_neg (nI_ge (by omega) (by omega)), if_pos (pu_in (by omega) (by omega)), nI_clamp (by omega), h.2 p (by omega), tok_with hb]
    simp only [pb_some, mm_leq]
    rw [h3, h2, nI_1, ru]
    simp only [e32]
    by_cases e : tk (b p) = cl
    · rw [if_pos e, if_pos e, ih (p + 1) f _ (by omega) (by omega) ⟨by rw [pu_nk _ _ (by omega)]; exact h.1, fun i hi => by rw [pu_upr _ _ _ (by omega)]; exact h.2 i hi⟩ (by rw [pu_nk _ _ (by omega)]; exact h3) (pu_at _ _ _ _), pu_up2]
    · rw [if_neg e, if_neg e, pu_self h2]
theorem rn_R (hB : tB t b) (k : mm_M → Option mm_M) : ∀ z p fuel (R : mm_M), p + z = t → z < fuel → tR R t b → R 0 8 = nI p → fn_X8_reads_L82 k fuel R = k (mm_up R 0 8 (nI (ru b 1 z p))) := by
  have h160 := hB.1
  intro z
  induction z with
  | zero =>
    intro p fuel R hp hf h h2
    obtain ⟨f, rfl⟩ : ∃ f, fuel = f + 1 := ⟨fuel - 1, by omega⟩
    rw [fn_X8_reads_L82, h2, byte_ok h160 h (by omega)]
    simp only [pb_some]
    rw [bt_ge (t := t) (b := b) (p := p) (by omega), in_az]
    simp only [pb_some]
    rw [if_pos (by decide), ru, pu_self h2]
  | succ z ih =>
    intro p fuel R hp hf h h2
    obtain ⟨f, rfl⟩ : ∃ f, fuel = f + 1 := ⟨fuel - 1, by omega⟩
    have hb := hB.2 p (by omega)
    rw [fn_X8_reads_L82, h2, byte_ok h160 h (by omega)]
    simp only [pb_some]
    rw [bt_lt (t := t) (b := b) (p := p) (by omega), in_az, pw_az hb]
    simp only [pb_some, mm_leq]
    rw [h2, nI_1, ru]
    by_cases e : tk (b p) = 1
    · rw [if_pos e, if_pos e, if_neg (by decide), ih (p + 1) f _ (by omega) (by omega) ⟨by rw [pu_nk _ _ (by omega)]; exact h.1, fun i hi => by rw [pu_upr _ _ _ (by omega)]; exact h.2 i hi⟩ (pu_at _ _ _ _), pu_up2]
    · rw [if_neg e, if_neg e, if_pos rfl, pu_self h2]
/-- what the figures come to -/
def vx (b : Nat → Nat) (s : Nat) : Nat → Nat → Int32 → Int32
  | 0, _, x => x
  | z + 1, p, x => if tk (b p) = 2 then vx b s z (p + 1) (if 2 ≤ p - s then x else 10 * x + nI (b p) - 48) else x
theorem nu_R (hB : tB t b) {s : Nat} (k : mm_M → Option mm_M) : ∀ z p fuel (R : mm_M), s ≤ p → p + z = t → z < fuel → tR R t b → R 0 8 = nI p → R 0 9 = nI s → ∃ R', fn_X8_reads_L140 k fuel R = k R' ∧ R' 0 8 = nI (ru b 2 z p) ∧ R' 0 11 = vx b s z p (R 0 11) ∧ (∀ a, a ≠ 0 → R' a = R a) ∧ ∀ j, j ≠ 8 → j ≠ 11 → R' 0 j = R 0 j := by
  have h160 := hB.1
  intro z
  induction z with
  | zero =>
    intro p fuel R hs hp hf h h2 h9
    obtain ⟨f, rfl⟩ : ∃ f, fuel = f + 1 := ⟨fuel - 1, by omega⟩
    refine ⟨R, ?_, h2, rfl, fun _ _ => rfl, fun _ _ _ => rfl⟩
    rw [fn_X8_reads_L140, h2, byte_ok h160 h (by omega)]
    simp only [pb_some]
    rw [bt_ge (t := t) (b := b) (p := p) (by omega), in_09]
    simp only [pb_some]
    rw [if_pos (by decide)]
  | succ z ih =>
    intro p fuel R hs hp hf h h2 h9
    obtain ⟨f, rfl⟩ : ∃ f, fuel = f + 1 := ⟨fuel - 1, by omega⟩
    have hb := hB.2 p (by omega)
    rw [fn_X8_reads_L140, h2, byte_ok h160 h (by omega)]
    simp only [pb_some]
    rw [bt_lt (t := t) (b := b) (p := p) (by omega), in_09, pw_09 hb]
    simp only [pb_some, mm_leq]
    rw [h2, byte_ok h160 h (by omega), h9, pk_sub hs]
    simp only [pb_some, mm_leq]
    rw [pu_nk _ _ (by omega : (8 : Nat) ≠ 11), pu_nk _ _ (by omega : (8 : Nat) ≠ 11), h2, nI_1, bt_lt (t := t) (b := b) (p := p) (by omega), ru, vx]
    by_cases e : tk (b p) = 2
    · rw [if_pos e, if_pos e, if_pos e, if_neg (by decide)]
      have key : ∀ x : Int32, ∃ R', fn_X8_reads_L140 k f (mm_up (mm_up R 0 11 x) 0 8 (nI (p + 1))) = k R' ∧ R' 0 8 = nI (ru b 2 z (p + 1)) ∧ R' 0 11 = vx b s z (p + 1) x ∧ (∀ a, a ≠ 0 → R' a = R a) ∧ ∀ j, j ≠ 8 → j ≠ 11 → R' 0 j = R 0 j := fun x => by
        obtain ⟨R', q1, q2, q3, q4, q5⟩ := ih (p + 1) f (mm_up (mm_up R 0 11 x) 0 8 (nI (p + 1))) (by omega) (by omega) (by omega) ⟨by rw [pu_nk _ _ (by omega), pu_nk _ _ (by omega)]; exact h.1, fun i hi => by rw [pu_upr _ _ _ (by omega), pu_upr _ _ _ (by omega)]; exact h.2 i hi⟩ (pu_at _ _ _ _) (by rw [pu_nk _ _ (by omega), pu_nk _ _ (by omega)]; exact h9)
        refine ⟨R', q1, q2, ?_, fun a ha => ?_, fun j g1 g2 => ?_⟩
        · rw [q3, pu_nk _ _ (by omega), pu_at]
        · rw [q4 a ha, pu_upr _ _ _ ha, pu_upr _ _ _ ha]
        · rw [q5 j g1 g2, pu_nk _ _ g1, pu_nk _ _ g2]
      have e2 : ((2 : Int32) ≤ nI (p - s)) = (2 ≤ p - s) := pu_le (a := 2) (by omega) (by omega)
      simp only [e2]
      by_cases h2' : 2 ≤ p - s
      · rw [if_pos h2', if_pos h2']
        exact key _
      · rw [if_neg h2', if_neg h2']
        exact key _
    · rw [if_neg e, if_neg e, if_neg e, if_pos rfl]
      exact ⟨R, rfl, h2, rfl, fun _ _ => rfl, fun _ _ _ => rfl⟩
end
