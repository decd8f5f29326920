/-! WHEN THE TWO SYSTEMS ARE ALIKE. A laundry is said by numbers: size n, day d, rules r, suns s, and of each ONE below n its kind k, grey g, wet w, place p. -/
def sm_wf (n : Nat) (r s k g w p : Nat → Nat) : Prop := n ≤ 6 ∧ (r 0 ≤ 9 ∧ r 1 ≤ 6 ∧ r 2 ≤ 6 ∧ r 3 ≤ 30 ∧ r 4 ≤ 20) ∧ (∀ j, j < 7 → s j ≤ 9) ∧ ∀ i, i < n → k i < 4 ∧ g i ≤ 60 ∧ w i ≤ 20 ∧ p i < 3
/-- a laundry of the class at o -/
def sm_rc (C : mm_M) (o n d : Nat) (r s k g w p : Nat → Nat) : Prop := C o 0 = nI n ∧ C o 1 = nI d ∧ (∀ j, j < 5 → C (o + 5) j = nI (r j)) ∧ (∀ j, j < 7 → C (o + 6) j = nI (s j)) ∧ ∀ i, i < n → C (o + 1) i = nI (k i) ∧ C (o + 2) i = nI (g i) ∧ C (o + 3) i = nI (w i) ∧ C (o + 4) i = nI (p i)
/-- a row of the reference -/
def sm_rr (f : Nat → Int32) (n d : Nat) (r s k g w p : Nat → Nat) : Prop := f 24 = nI n ∧ f 37 = nI d ∧ (∀ j, j < 5 → f (25 + j) = nI (r j)) ∧ (∀ j, j < 7 → f (30 + j) = nI (s j)) ∧ ∀ i, i < n → f (4 * i) = nI (k i) ∧ f (4 * i + 1) = nI (g i) ∧ f (4 * i + 2) = nI (w i) ∧ f (4 * i + 3) = nI (p i)
/-- what was SEEN: m of them, behind a days, who b (below n), where c -/
def sm_sn (C : mm_M) (o : Nat) (f : Nat → Int32) (n : Nat) : Prop := ∃ (m : Nat) (a b c : Nat → Nat), m ≤ 6 ∧ C o 0 = nI m ∧ f 38 = nI m ∧ ∀ q, q < m → (a q ≤ 20 ∧ b q < n ∧ c q < 3) ∧ (C (o + 1) q = nI (a q) ∧ C (o + 2) q = nI (b q) ∧ C (o + 3) q = nI (c q)) ∧ f (39 + 3 * q) = nI (a q) ∧ f (39 + 3 * q + 1) = nI (b q) ∧ f (39 + 3 * q + 2) = nI (c q)
/-- laundry and SEEN together: the class's laundry at o and SEEN at q, the reference's row f -/
def sm_st (C : mm_M) (o q : Nat) (f : Nat → Int32) : Prop := ∃ (n d : Nat) (r s k g w p : Nat → Nat), (d ≤ 999 ∧ sm_wf n r s k g w p) ∧ sm_rc C o n d r s k g w p ∧ sm_rr f n d r s k g w p ∧ sm_sn C q f n
def sm_tp (C R : mm_M) : Prop := ∃ (t : Nat) (b : Nat → Nat), t ≤ 160 ∧ C 16 1 = nI t ∧ R 0 7 = nI t ∧ ∀ i, i < t → b i ≤ 127 ∧ C 17 i = nI (b i) ∧ R 5 i = nI (b i)
def sm_im (C R : mm_M) (e : Nat) : Prop := (C (90 + 12 * e) 0 = 0 ∧ R 3 e = 0) ∨ (C (90 + 12 * e) 0 = 1 ∧ R 3 e = 1 ∧ sm_st C (91 + 12 * e) (98 + 12 * e) (fun j => R 1 (57 * (e + 1) + j)))
def sm_sh (C R : mm_M) (e : Nat) : Prop := (∃ len : Nat, len ≤ 40 ∧ C (114 + 2 * e) 1 = nI len ∧ R 9 e = nI len) ∧ ((C (114 + 2 * e) 0 = -1 ∧ R 8 e = -4) ∨ ∃ l : Nat, l < 3 ∧ C (114 + 2 * e) 0 = nI l ∧ R 8 e = nI l) ∧ ∀ i, i < 40 → C (114 + 2 * e + 1) i = R 10 (40 * e + i)
def sm_S (C R : mm_M) : Prop := sm_st C 1 19 (R 1) ∧ sm_tp C R ∧ C 18 1 = R 0 12 ∧ C 0 10 = R 0 26 ∧ (∀ e, e < 2 → sm_im C R e) ∧ ∀ e, e < 4 → sm_sh C R e
/-! reading behind writing -/
theorem pu_up (M : mm_M) (o k : Nat) (v : Int32) (a j : Nat) : mm_up M o k v a j = if a = o ∧ j = k then v else M a j := by
  unfold mm_up mm_row upd
  by_cases h : a = o
  · subst h
    by_cases h2 : j = k <;> simp [h2]
  · simp [h]
theorem pu_upr (M : mm_M) {o : Nat} (k : Nat) (v : Int32) {a : Nat} (h : a ≠ o) : mm_up M o k v a = M a := by
  unfold mm_up
  exact pu_row_ne M _ h
/-! what hangs on which rows -/
theorem sm_rc_eq {C C' : mm_M} {o n d : Nat} {r s k g w p : Nat → Nat} (e : ∀ a, o ≤ a → a ≤ o + 6 → C' a = C a) (h : sm_rc C o n d r s k g w p) : sm_rc C' o n d r s k g w p := by
  unfold sm_rc at h ⊢
  rw [e o (by omega) (by omega), e (o + 1) (by omega) (by omega), e (o + 2) (by omega) (by omega), e (o + 3) (by omega) (by omega), e (o + 4) (by omega) (by omega), e (o + 5) (by omega) (by omega), e (o + 6) (by omega) (by omega)]
  exact h
theorem sm_sn_eq {C C' : mm_M} {o n : Nat} {f : Nat → Int32} (e : ∀ a, o ≤ a → a ≤ o + 3 → C' a = C a) (h : sm_sn C o f n) : sm_sn C' o f n := by
  unfold sm_sn at h ⊢
  rw [e o (by omega) (by omega), e (o + 1) (by omega) (by omega), e (o + 2) (by omega) (by omega), e (o + 3) (by omega) (by omega)]
  exact h
theorem sm_st_eq {C C' : mm_M} {o q : Nat} {f : Nat → Int32} (e1 : ∀ a, o ≤ a → a ≤ o + 6 → C' a = C a) (e2 : ∀ a, q ≤ a → a ≤ q + 3 → C' a = C a) (h : sm_st C o q f) : sm_st C' o q f := by
  obtain ⟨n, d, r, s, k, g, w, p, h1, h2, h3, h4⟩ := h
  exact ⟨n, d, r, s, k, g, w, p, h1, sm_rc_eq e1 h2, h3, sm_sn_eq e2 h4⟩
theorem sm_im_eq {C C' R R' : mm_M} {e : Nat} (eC : ∀ a, 90 ≤ a → a ≤ 113 → C' a = C a) (e1 : ∀ j, 57 ≤ j → R' 1 j = R 1 j) (e3 : R' 3 = R 3) (he : e < 2) (h : sm_im C R e) : sm_im C' R' e := by
  unfold sm_im at h ⊢
  rw [eC _ (by omega) (by omega), e3]
  rcases h with h | ⟨h1, h2, h3⟩
  · exact Or.inl h
  · refine Or.inr ⟨h1, h2, ?_⟩
    have : (fun j => R' 1 (57 * (e + 1) + j)) = fun j => R 1 (57 * (e + 1) + j) := funext fun j => e1 _ (by omega)
    rw [this]
    exact sm_st_eq (fun a ha hb => eC a (by omega) (by omega)) (fun a ha hb => eC a (by omega) (by omega)) h3
theorem sm_sh_eq {C C' R R' : mm_M} {e : Nat} (eC : ∀ a, 114 ≤ a → a ≤ 121 → C' a = C a) (e8 : R' 8 = R 8) (e9 : R' 9 = R 9) (e10 : R' 10 = R 10) (he : e < 4) (h : sm_sh C R e) : sm_sh C' R' e := by
  unfold sm_sh at h ⊢
  rw [eC (114 + 2 * e) (by omega) (by omega), eC (114 + 2 * e + 1) (by omega) (by omega), e8, e9, e10]
  exact h
/-- the class's rows that count, but for laundry and SEEN -/
def sm_eC (C C' : mm_M) : Prop := C' 0 10 = C 0 10 ∧ C' 16 1 = C 16 1 ∧ C' 17 = C 17 ∧ C' 18 1 = C 18 1 ∧ ∀ a, 90 ≤ a → a ≤ 121 → C' a = C a
def sm_eR (R R' : mm_M) : Prop := R' 0 7 = R 0 7 ∧ R' 0 12 = R 0 12 ∧ R' 0 26 = R 0 26 ∧ (∀ j, 57 ≤ j → R' 1 j = R 1 j) ∧ R' 3 = R 3 ∧ R' 5 = R 5 ∧ R' 8 = R 8 ∧ R' 9 = R 9 ∧ R' 10 = R 10
/-- laundry and SEEN have moved alike, the rest stood still -/
theorem sm_move {C C' R R' : mm_M} (h : sm_S C R) (hC : sm_eC C C') (hR : sm_eR R R') (hs : sm_st C' 1 19 (R' 1)) : sm_S C' R' := by
  obtain ⟨h1, ⟨t, b, h2, h3, h4, h5⟩, h6, h7, h8, h9⟩ := h
  obtain ⟨c1, c2, c3, c4, c5⟩ := hC
  obtain ⟨r1, r2, r3, r4, r5, r6, r7, r8, r9⟩ := hR
  exact ⟨hs, ⟨t, b, h2, by rw [c2]; exact h3, by rw [r1]; exact h4, fun i hi => by rw [c3, r6]; exact h5 i hi⟩, by rw [c4, r2]; exact h6, by rw [c1, r3]; exact h7, fun e he => sm_im_eq (fun a ha hb => c5 a ha (by omega)) r4 r5 he (h8 e he), fun e he => sm_sh_eq (fun a ha hb => c5 a (by omega) hb) r7 r8 r9 he (h9 e he)⟩
/-- nothing that counts has moved -/
theorem sm_keep {C C' R R' : mm_M} (h : sm_S C R) (hC : sm_eC C C') (hC2 : ∀ a, 1 ≤ a → a ≤ 7 → C' a = C a) (hC3 : ∀ a, 19 ≤ a → a ≤ 22 → C' a = C a) (hR : sm_eR R R') (hR1 : R' 1 = R 1) : sm_S C' R' :=
  sm_move h hC hR (by rw [hR1]; exact sm_st_eq (fun a ha hb => hC2 a (by omega) (by omega)) (fun a ha hb => hC3 a (by omega) (by omega)) h.1)
/-! bounds, asked on both sides -/
def pw_b (c lo hi : Int32) : Int32 := if c < lo then 0 else if hi < c then 0 else 1
theorem pw_C (c lo hi : Int32) (M : mm_M) : fn_X7_within c lo hi M = some (pw_b c lo hi, M) := by
  unfold fn_X7_within pw_b
  split
  · rfl
  · split <;> rfl
theorem pw_01 (c lo hi : Int32) : pw_b c lo hi = 0 ∨ pw_b c lo hi = 1 := by
  unfold pw_b
  split
  · exact Or.inl rfl
  · split
    · exact Or.inl rfl
    · exact Or.inr rfl
theorem pw_lt64 (a b : Int32) : a.toInt64 < b.toInt64 ↔ a < b := by
  rw [Int64.lt_iff_toInt_lt, Int32.lt_iff_toInt_lt, Int32.toInt_toInt64, Int32.toInt_toInt64]
theorem pw_cmp (x y : Int64) : (lg_cmp x y < 0 ↔ x < y) ∧ (0 < lg_cmp x y ↔ y < x) := by
  unfold lg_cmp
  by_cases h1 : y < x
  · rw [if_pos h1]
    have h2 : ¬ x < y := by
      rw [Int64.lt_iff_toInt_lt] at h1 ⊢
      omega
    exact ⟨⟨fun h => absurd h (by decide), fun h => absurd h h2⟩, ⟨fun _ => h1, fun _ => by decide⟩⟩
  · rw [if_neg h1]
    by_cases h2 : x = y
    · rw [if_pos h2]
      subst h2
      exact ⟨⟨fun h => absurd h (by decide), fun h => absurd h h1⟩, ⟨fun h => absurd h (by decide), fun h => absurd h h1⟩⟩
    · rw [if_neg h2]
      have h3 : x < y := by
        rw [Int64.lt_iff_toInt_lt] at h1 ⊢
        have : x.toInt ≠ y.toInt := fun e => h2 (Int64.toInt_inj.mp e)
        omega
      exact ⟨⟨fun _ => h3, fun _ => by decide⟩, ⟨fun h => absurd h (by decide), fun h => absurd h h1⟩⟩
theorem pw_R (c lo hi : Int32) (M : mm_M) {l h : Int64} (hl : l = lo.toInt64) (hh : h = hi.toInt64) : fn_X8_in c.toInt64 l h M = some (pw_b c lo hi, M) := by
  subst hl; subst hh
  unfold fn_X8_in pw_b
  by_cases h1 : c < lo
  · rw [if_pos ((pw_cmp _ _).1.mpr ((pw_lt64 _ _).mpr h1)), if_pos h1]
  · rw [if_neg (fun h => h1 ((pw_lt64 _ _).mp ((pw_cmp _ _).1.mp h))), if_neg h1]
    by_cases h2 : hi < c
    · rw [if_pos ((pw_cmp _ _).2.mpr ((pw_lt64 _ _).mpr h2)), if_pos h2]
    · rw [if_neg (fun h => h2 ((pw_lt64 _ _).mp ((pw_cmp _ _).2.mp h))), if_neg h2]
/-- inside 0 to m, or not -/
theorem pw_to (c : Int32) (m : Nat) (hm : m < 2 ^ 31) : pw_b c 0 (nI m) = 0 ∨ ∃ j : Nat, j ≤ m ∧ c = nI j ∧ pw_b c 0 (nI m) = 1 := by
  unfold pw_b
  by_cases h1 : c < 0
  · exact Or.inl (by rw [if_pos h1])
  · rw [if_neg h1]
    by_cases h2 : nI m < c
    · exact Or.inl (by rw [if_pos h2])
    · rw [if_neg h2]
      obtain ⟨j, hj, rfl⟩ := nI_of h1
      refine Or.inr ⟨j, ?_, rfl, rfl⟩
      rw [nI_ltI hm hj] at h2
      omega
/-- below n, or not -/
theorem pw_one (c : Int32) (n : Nat) (hn : n < 2 ^ 30) : pw_b c 0 (nI n - 1) = 0 ∨ ∃ j : Nat, j < n ∧ c = nI j ∧ pw_b c 0 (nI n - 1) = 1 := by
  cases n with
  | zero =>
    left
    unfold pw_b
    by_cases h1 : c < 0
    · rw [if_pos h1]
    · rw [if_neg h1, if_pos]
      have h2 := Int32.not_lt.mp h1
      rw [Int32.le_iff_toInt_le] at h2
      rw [Int32.lt_iff_toInt_lt]
      have e : (nI 0 - 1 : Int32).toInt = -1 := by decide
      have e0 : (0 : Int32).toInt = 0 := by decide
      omega
  | succ k =>
    rw [nI_pred]
    rcases pw_to c k (by omega) with h | ⟨j, h1, h2, h3⟩
    · exact Or.inl h
    · exact Or.inr ⟨j, by omega, h2, h3⟩
theorem pw_ite {α : Type} {b : Int32} (h : b = 0 ∨ b = 1) (x : α) : (if b = 0 ∨ b = 1 then some x else none) = some x := if_pos h
theorem pw_oneC (c : Int32) (M : mm_M) : fn_X7_isOne c M = some (pw_b c 0 (M 1 0 - 1), M) := by
  unfold fn_X7_isOne
  rw [pw_C]
  simp only [Option.bind_some]
  rw [pw_ite (pw_01 _ _ _)]
theorem pw_oneR (c : Int32) (M : mm_M) : fn_X8_isOne c M = some (pw_b c 0 (M 1 24 - 1), M) := by
  unfold fn_X8_isOne
  rw [pw_R c 0 (M 1 24 - 1) M (l := 0) rfl rfl]
  simp only [Option.bind_some]
  rw [pw_ite (pw_01 _ _ _)]
theorem pw_lit (c : Int32) (m : Nat) {x : Int32} (hx : nI m = x) (hm : m < 2 ^ 31) : pw_b c 0 x = 0 ∨ ∃ j : Nat, j ≤ m ∧ c = nI j ∧ pw_b c 0 x = 1 := by
  subst hx
  exact pw_to c m hm
theorem pw_R0 (c hi : Int32) (M : mm_M) : fn_X8_in c.toInt64 0 hi.toInt64 M = some (pw_b c 0 hi, M) := pw_R c 0 hi M rfl rfl
theorem pw_R127 (c : Int32) (M : mm_M) : fn_X8_in c.toInt64 0 127 M = some (pw_b c 0 127, M) := pw_R c 0 127 M rfl rfl
theorem pw_R4 (c : Int32) (M : mm_M) : fn_X8_in c.toInt64 0 4 M = some (pw_b c 0 4, M) := pw_R c 0 4 M rfl rfl
theorem pw_R6 (c : Int32) (M : mm_M) : fn_X8_in c.toInt64 0 6 M = some (pw_b c 0 6, M) := pw_R c 0 6 M rfl rfl
theorem pw_R3 (c : Int32) (M : mm_M) : fn_X8_in c.toInt64 0 3 M = some (pw_b c 0 3, M) := pw_R c 0 3 M rfl rfl
theorem pw_R60 (c : Int32) (M : mm_M) : fn_X8_in c.toInt64 0 60 M = some (pw_b c 0 60, M) := pw_R c 0 60 M rfl rfl
theorem pw_R20 (c : Int32) (M : mm_M) : fn_X8_in c.toInt64 0 20 M = some (pw_b c 0 20, M) := pw_R c 0 20 M rfl rfl
theorem pw_R2 (c : Int32) (M : mm_M) : fn_X8_in c.toInt64 0 2 M = some (pw_b c 0 2, M) := pw_R c 0 2 M rfl rfl
theorem pw_R9 (c : Int32) (M : mm_M) : fn_X8_in c.toInt64 0 9 M = some (pw_b c 0 9, M) := pw_R c 0 9 M rfl rfl
theorem pw_R1 (c : Int32) (M : mm_M) : fn_X8_in c.toInt64 0 1 M = some (pw_b c 0 1, M) := pw_R c 0 1 M rfl rfl
theorem pw_R30 (c : Int32) (M : mm_M) : fn_X8_in c.toInt64 0 30 M = some (pw_b c 0 30, M) := pw_R c 0 30 M rfl rfl
theorem pw_R8 (c : Int32) (M : mm_M) : fn_X8_in c.toInt64 0 8 M = some (pw_b c 0 8, M) := pw_R c 0 8 M rfl rfl
theorem pw_R10 (c : Int32) (M : mm_M) : fn_X8_in c.toInt64 0 10 M = some (pw_b c 0 10, M) := pw_R c 0 10 M rfl rfl
