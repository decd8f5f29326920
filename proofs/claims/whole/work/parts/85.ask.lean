/-! when to look -/
/-- a row of tallies says g -/
def TI (X : Nat → Int32) (n : Nat) (g : Nat → Nat → Nat) : Prop := ∀ e, e < 126 → e % 6 < n → ∀ p, p < 3 → X (3 * e + p) = nI (g e p)
/-- the tallies, behind places below c -/
def tg (g : Nat → Nat → Nat) (F : Nat → Nat) (c : Nat) : Nat → Nat → Nat := fun e p => g e p + if e < c ∧ F e = p then 1 else 0
theorem TI_step {X : Nat → Int32} {n c : Nat} {g : Nat → Nat → Nat} {F : Nat → Nat} (h : TI X n (tg g F c)) (hc : c < 126) (hn : c % 6 < n) (hF : F c < 3) : TI (upd X (3 * c + F c) (X (3 * c + F c) + 1)) n (tg g F (c + 1)) := by
  intro e he hen p hp
  have h1 := h e he hen p hp
  unfold upd
  by_cases q : e = c
  · subst q
    by_cases q2 : F e = p
    · subst q2
      rw [if_pos rfl, h1, nI_1]
      unfold tg
      rw [if_neg (by omega), if_pos (by omega)]
    · rw [if_neg (by omega), h1]
      unfold tg
      rw [if_neg (by omega), if_neg (fun z => q2 z.2)]
  · rw [if_neg (by omega), h1]
    unfold tg
    have : (e < c ∧ F e = p) = (e < c + 1 ∧ F e = p) := by
      apply propext
      omega
    simp only [this]
theorem TI_skip {X : Nat → Int32} {n c : Nat} {g : Nat → Nat → Nat} {F : Nat → Nat} (h : TI X n (tg g F c)) (hn : ¬ c % 6 < n) (v : Int32) : TI (upd X (3 * c) v) n (tg g F (c + 1)) := by
  intro e he hen p hp
  have h1 := h e he hen p hp
  have q : e ≠ c := fun z => hn (by rw [← z]; exact hen)
  unfold upd
  rw [if_neg (by omega), h1]
  unfold tg
  have : (e < c ∧ F e = p) = (e < c + 1 ∧ F e = p) := by
    apply propext
    omega
  simp only [this]
/-- all who stand below n on a day: the next day's -/
theorem TI_day {X : Nat → Int32} {n d : Nat} {g : Nat → Nat → Nat} {F : Nat → Nat} (h : TI X n (tg g F (6 * d + n))) (hn : n ≤ 6) : TI X n (tg g F (6 * (d + 1))) := by
  intro e he hen p hp
  rw [h e he hen p hp]
  unfold tg
  have : (e < 6 * d + n ∧ F e = p) = (e < 6 * (d + 1) ∧ F e = p) := by
    apply propext
    omega
  simp only [this]
def c_24 (C C' : mm_M) : Prop := ∀ a, ¬ (8 ≤ a ∧ a ≤ 14) → a ≠ 24 → C' a = C a
theorem c_24_rf (C : mm_M) : c_24 C C := fun _ _ _ => rfl
theorem c_24_tr {A B C : mm_M} (h1 : c_24 A B) (h2 : c_24 B C) : c_24 A C := fun a p q => (h2 a p q).trans (h1 a p q)
theorem c_24_of {A B : mm_M} (h : c_fr 8 A B) : c_24 A B := fun a p _ => h a (by omega)
theorem c_sc_24 {A B : mm_M} (h : c_24 A B) : c_sc A B := fun a p _ q _ => h a p q
theorem tally_who {L : LV} (hw : lw L) {d : Nat} (hd : d ≤ 20) (c1 c2 c3 : Int32) {g : Nat → Nat → Nat} {F : Nat → Nat} (hF : ∀ i, i < L 0 0 → F (6 * d + i) = L 4 i) (k : mm_M → Option mm_M) : ∀ z i fuel (C : mm_M), lC C 8 L → TI (C 24) (L 0 0) (tg g F (6 * d + i)) → i + z = L 0 0 → z < fuel →
    ∃ C', fn_X7_tallyPlaces_L61 c1 c2 c3 (nI d) k fuel (nI i) C = k C' ∧ TI (C' 24) (L 0 0) (tg g F (6 * d + L 0 0)) ∧ ∀ a, a ≠ 24 → C' a = C a := by
  have h6 := hw.1
  intro z
  induction z with
  | zero =>
    intro i fuel C hc ht hi hf
    obtain ⟨fu, rfl⟩ : ∃ f, fuel = f + 1 := ⟨fuel - 1, by omega⟩
    have : i = L 0 0 := by omega
    subst this
    refine ⟨C, ?_, ht, fun _ _ => rfl⟩
    rw [fn_X7_tallyPlaces_L61, hc.1, if_pos (nI_le (Nat.le_refl _) (by omega))]
  | succ z ih =>
    intro i fuel C hc ht hi hf
    obtain ⟨fu, rfl⟩ : ∃ f, fuel = f + 1 := ⟨fuel - 1, by omega⟩
    obtain ⟨d1, d2, d3, d4⟩ := hc.2.2.2.2 i (by omega)
    have w4 := (hw.2.2.2 i (by omega)).2.2.2
    have hFi := hF i (by omega)
    have e1 : (nI d * 6 + nI i) * 3 + nI (L 4 i) = nI (3 * (6 * d + i) + F (6 * d + i)) := by
      rw [show nI d * 6 = nI (d * 6) from pk_mul d 6, nI_add, show nI (d * 6 + i) * 3 = nI ((d * 6 + i) * 3) from pk_mul _ 3, nI_add, hFi]
      congr 1
      omega
    rw [fn_X7_tallyPlaces_L61, hc.1, if_neg (nI_ge (by omega) (by omega))]
    unfold fn_X7_tallyAt
    simp only [pb_some]
    rw [if_pos (pu_in (by omega) (by omega)), nI_clamp (n := i) (by omega), show C 12 i = nI (L 4 i) from d4, e1, if_pos (pu_in (by omega) (by omega)), nI_clamp (by omega), mm_leq, nI_1]
    have ht' : TI ((mm_up C 24 (3 * (6 * d + i) + F (6 * d + i)) (C 24 (3 * (6 * d + i) + F (6 * d + i)) + 1)) 24) (L 0 0) (tg g F (6 * d + (i + 1))) := by
      rw [pu_up_at]
      exact TI_step ht (by omega) (by omega) (by omega)
    obtain ⟨C', y1, y2, y3⟩ := ih (i + 1) fu _ (lC_eq (fun a _ _ => pu_upr _ _ _ (by omega)) hc) ht' (by omega) (by omega)
    exact ⟨C', y1, y2, fun a ha => by rw [y3 a ha, pu_upr _ _ _ ha]⟩
theorem tally_day {L : LV} (hw : lw L) (hd : L 0 1 < 1900) (c1 c2 c3 : Int32) {g : Nat → Nat → Nat} {F : Nat → Nat} (hF : ∀ e, e < 126 → F e = lv_n (e / 6) L 4 (e % 6)) (k : mm_M → Option mm_M) : ∀ z d fuel (C : mm_M), lC C 8 (lv_n d L) → TI (C 24) (L 0 0) (tg g F (6 * d)) → d + z = 21 → z < fuel →
    ∃ C', fn_X7_tallyPlaces_L51 c1 c2 c3 k fuel (nI d) C = k C' ∧ TI (C' 24) (L 0 0) (tg g F 126) ∧ c_24 C C' := by
  have h6 := hw.1
  intro z
  induction z with
  | zero =>
    intro d fuel C hc ht hz hf
    obtain ⟨fu, rfl⟩ : ∃ f, fuel = f + 1 := ⟨fuel - 1, by omega⟩
    have : d = 21 := by omega
    subst this
    refine ⟨C, ?_, ht, c_24_rf C⟩
    rw [fn_X7_tallyPlaces_L51, if_pos (by decide)]
  | succ z ih =>
    intro d fuel C hc ht hz hf
    obtain ⟨fu, rfl⟩ : ∃ f, fuel = f + 1 := ⟨fuel - 1, by omega⟩
    have hk := lv_n_k d L
    have hwd := lv_n_w d hw
    obtain ⟨C1, p1, p2, p3⟩ := tally_who hwd (d := d) (by omega) c1 c2 c3 (g := g) (F := F) (fun i hi => by
      rw [hF _ (by omega), show (6 * d + i) / 6 = d by omega, show (6 * d + i) % 6 = i by omega]) (fun M_13 => ((fn_X2_sunToday 8 M_13).bind fun z_15 => ((fn_X2_passDay 8 z_15.1 z_15.2).bind fun z_16 => fn_X7_tallyPlaces_L51 c1 c2 c3 k fu (nI d + 1) z_16.2))) (lv_n d L 0 0) 0 mm_fu C hc (by rw [hk.1]; exact ht) (by omega) (by have := mm_fu_ge; omega)
    rw [hk.1] at p2
    have hc1 : lC C1 8 (lv_n d L) := lC_eq (fun a _ _ => p3 a (by omega)) hc
    obtain ⟨C2, q1, q2, q3, q4⟩ := c_next hc1 hwd (by omega)
    rw [← lv_n_S] at q2
    rw [fn_X7_tallyPlaces_L51, if_neg (show ¬ (20 : Int32) < nI d from nI_nlt (a := 20) (b := d) (by omega) (by omega)), show fn_X7_tallyPlaces_L61 c1 c2 c3 (nI d) _ mm_fu 0 C = _ from p1, pb_bind2, q1]
    simp only [pb_some]
    rw [nI_1]
    obtain ⟨C', y1, y2, y3⟩ := ih (d + 1) fu C2 q2 (by rw [q4 24 (by omega)]; exact TI_day p2 h6) (by omega) (by omega)
    exact ⟨C', y1, y2, c_24_tr (fun a _ h => p3 a h) (c_24_tr (c_24_of q4) y3)⟩
/-- the tallies of all that agree, below V -/
def tl (Q : Nat → Bool) : Nat → Nat
  | 0 => 0
  | V + 1 => tl Q V + if Q V = true then 1 else 0
theorem tl_le (Q : Nat → Bool) (V : Nat) : tl Q V ≤ V := by
  induction V with
  | zero => exact Nat.le_refl _
  | succ V ih =>
    rw [tl]
    split <;> omega
def tQ (P : Nat → Bool) (G : Nat → Nat → Nat) (e p : Nat) : Nat → Bool := fun v => P v && decide (G v e = p)
theorem TI_next {X : Nat → Int32} {n V : Nat} {P : Nat → Bool} {G : Nat → Nat → Nat} (hP : P V = true) (h : TI X n (tg (fun e p => tl (tQ P G e p) V) (G V) 126)) : TI X n (fun e p => tl (tQ P G e p) (V + 1)) := by
  intro e he hen p hp
  rw [h e he hen p hp]
  have : (e < 126 ∧ G V e = p) = (tQ P G e p V = true) := by
    unfold tQ
    rw [hP]
    simp [he]
  show nI (tl (tQ P G e p) V + if e < 126 ∧ G V e = p then 1 else 0) = nI (tl (tQ P G e p) V + if tQ P G e p V = true then 1 else 0)
  simp only [this]
theorem TI_start {X : Nat → Int32} {n : Nat} {g : Nat → Nat → Nat} {F : Nat → Nat} (h : TI X n g) : TI X n (tg g F 0) := by
  intro e he hen p hp
  rw [h e he hen p hp]
  unfold tg
  rw [if_neg (by omega)]
  rfl
theorem TI_not {X : Nat → Int32} {n V : Nat} {P : Nat → Bool} {G : Nat → Nat → Nat} (hP : ¬ P V = true) (h : TI X n (fun e p => tl (tQ P G e p) V)) : TI X n (fun e p => tl (tQ P G e p) (V + 1)) := by
  intro e he hen p hp
  rw [h e he hen p hp]
  have : ¬ tQ P G e p V = true := by
    unfold tQ
    simp [hP]
  show nI (tl (tQ P G e p) V) = nI (tl (tQ P G e p) V + if tQ P G e p V = true then 1 else 0)
  rw [if_neg this]
  rfl
def lG (L : LV) (j : Nat) : Nat → Nat → Nat := fun v e => lv_n (e / 6) (lu L (1 + 1) j v) 4 (e % 6)
theorem tally_L {L : LV} (hw : lw L) (hd : L 0 1 ≤ 999) (j : Nat) (hj : j < L 0 0) (P : Nat → Bool) (k : mm_M → Option mm_M) : ∀ z v fuel (C : mm_M), lC C 1 L → TI (C 24) (L 0 0) (fun e p => tl (tQ P (lG L j) e p) v) → v + z = 31 → z < fuel →
    ∃ C', fn_X7_tallyPlaces_L10 (nI j) (nI (lv_bits P 31)) k fuel (nI v) C = k C' ∧ TI (C' 24) (L 0 0) (fun e p => tl (tQ P (lG L j) e p) 31) ∧ c_24 C C' := by
  have h6 := hw.1
  have hB := lv_bits_31 P (n := 31) (by omega)
  intro z
  induction z with
  | zero =>
    intro v fuel C hc ht hz hf
    obtain ⟨fu, rfl⟩ : ∃ f, fuel = f + 1 := ⟨fuel - 1, by omega⟩
    have : v = 31 := by omega
    subst this
    refine ⟨C, ?_, ht, c_24_rf C⟩
    rw [fn_X7_tallyPlaces_L10, if_pos (by decide)]
  | succ z ih =>
    intro v fuel C hc ht hz hf
    obtain ⟨fu, rfl⟩ : ∃ f, fuel = f + 1 := ⟨fuel - 1, by omega⟩
    have hbit := lv_bits_bit P (n := 31) (i := v) (by omega)
    have h2 : lv_bits P 31 / 2 ^ v % 2 < 2 := Nat.mod_lt _ (by omega)
    rw [fn_X7_tallyPlaces_L10, if_neg (show ¬ (31 : Int32) ≤ nI v from nI_ge (b := 31) (by omega) (by omega)), pb_bit hB (by omega)]
    by_cases e : P v = true
    · have hb1 : lv_bits P 31 / 2 ^ v % 2 = 1 := hbit.mpr e
      rw [hb1, if_neg (by decide)]
      obtain ⟨C1, a1, a2, a3⟩ := c_begin hc hw
      have l0 : (lu L (1 + 1) j v) 0 = L 0 := lu_ne _ _ _ (by omega)
      have l00 : (lu L (1 + 1) j v) 0 0 = L 0 0 := by rw [l0]
      have l01 : (lu L (1 + 1) j v) 0 1 = L 0 1 := by rw [l0]
      have hw' : lw (lu L (1 + 1) j v) := lw_up hw (1 + 1) j v (by omega)
      have a4 : lC (mm_up C1 10 j (nI v)) 8 (lu L (1 + 1) j v) := lC_up a2 2 j v (by omega)
      have f1 : c_fr 8 C (mm_up C1 10 j (nI v)) := c_fr_tr a3 (c_fr_up C1 _ _ (by omega))
      obtain ⟨C2, p1, p2, p3⟩ := tally_day hw' (by omega) (nI j) (nI (lv_bits P 31)) (nI v) (g := fun e p => tl (tQ P (lG L j) e p) v) (F := lG L j v) (fun e _ => rfl) (fun M_17 => fn_X7_tallyPlaces_L10 (nI j) (nI (lv_bits P 31)) k fu (nI v + 1) M_17) 21 0 mm_fu (mm_up C1 10 j (nI v)) a4 (by rw [l00, f1 24 (by omega)]; exact TI_start ht) (by omega) (by have := mm_fu_ge; omega)
      rw [l00] at p2
      rw [a1]
      simp only [pb_some]
      rw [if_pos (pu_in (by omega) (by omega)), nI_clamp (by omega), mm_leq, show fn_X7_tallyPlaces_L51 (nI j) (nI (lv_bits P 31)) (nI v) _ mm_fu 0 (mm_up C1 10 j (nI v)) = _ from p1, nI_1]
      have f2 := c_24_tr (c_24_of f1) p3
      obtain ⟨C', y1, y2, y3⟩ := ih (v + 1) fu C2 (lC_eq (fun a _ _ => f2 a (by omega) (by omega)) hc) (TI_next e p2) (by omega) (by omega)
      exact ⟨C', y1, y2, c_24_tr f2 y3⟩
    · have hb1 : ¬ lv_bits P 31 / 2 ^ v % 2 = 1 := fun q => e (hbit.mp q)
      rw [show lv_bits P 31 / 2 ^ v % 2 = 0 by omega, if_pos (by decide), nI_1]
      exact ih (v + 1) fu C hc (TI_not e ht) (by omega) (by omega)
/-! the reference's tallies -/
theorem r_tally_L {L : LV} (h6 : L 0 0 ≤ 6) (c1 c2 c3 c4 : Int32) {g : Nat → Nat → Nat} {F : Nat → Nat} (hF3 : ∀ e, e < 126 → e % 6 < L 0 0 → F e < 3) (k : mm_M → Option (Int32 × mm_M)) : ∀ z c fuel (R : mm_M), R 1 24 = nI (L 0 0) → (∀ e, e < 126 → e % 6 < L 0 0 → R 6 e = nI (F e)) → TI (R 7) (L 0 0) (tg g F c) → c + z = 126 → z < fuel →
    ∃ R', fn_X8_ask_L71 c1 c2 c3 c4 k fuel (nI c) R = k R' ∧ TI (R' 7) (L 0 0) (tg g F 126) ∧ ∀ a, a ≠ 7 → R' a = R a := by
  intro z
  induction z with
  | zero =>
    intro c fuel R h1 h2 ht hz hf
    obtain ⟨fu, rfl⟩ : ∃ f, fuel = f + 1 := ⟨fuel - 1, by omega⟩
    have : c = 126 := by omega
    subst this
    refine ⟨R, ?_, ht, fun _ _ => rfl⟩
    rw [fn_X8_ask_L71, if_pos (by decide)]
  | succ z ih =>
    intro c fuel R h1 h2 ht hz hf
    obtain ⟨fu, rfl⟩ : ∃ f, fuel = f + 1 := ⟨fuel - 1, by omega⟩
    have er : nI c - nI c / 6 * 6 = nI (c % 6) := pk_rem (d := 6) (by omega) (by omega) (by omega)
    have e3 : (3 : Int32) * nI c = nI (3 * c) := pk_mul 3 c
    have m6 : c % 6 < 6 := Nat.mod_lt _ (by omega)
    rw [fn_X8_ask_L71, if_neg (show ¬ (126 : Int32) ≤ nI c from nI_ge (b := 126) (by omega) (by omega)), er, h1, e3]
    by_cases e : c % 6 < L 0 0
    · have hF := hF3 c (by omega) e
      rw [if_neg (nI_ge e (by omega)), if_pos (pu_in (by omega) (by omega)), nI_clamp (n := c) (by omega), h2 c (by omega) e, nI_add, if_pos (pu_in (by omega) (by omega)), nI_clamp (by omega), mm_leq, nI_1]
      have ht' : TI ((mm_up R 7 (3 * c + F c) (R 7 (3 * c + F c) + 1)) 7) (L 0 0) (tg g F (c + 1)) := by
        rw [pu_up_at]
        exact TI_step ht (by omega) e hF
      obtain ⟨R', y1, y2, y3⟩ := ih (c + 1) fu _ (by rw [pu_upr _ _ _ (by omega)]; exact h1) (by rw [pu_upr _ _ _ (by omega)]; exact h2) ht' (by omega) (by omega)
      exact ⟨R', y1, y2, fun a ha => by rw [y3 a ha, pu_upr _ _ _ ha]⟩
    · rw [if_pos (nI_le (by omega) (by omega)), show nI (3 * c) + 0 = nI (3 * c) from nI_add (3 * c) 0, if_pos (pu_in (by omega) (by omega)), nI_clamp (by omega), mm_leq, nI_1]
      have ht' : TI ((mm_up R 7 (3 * c) (R 7 (3 * c) + 1)) 7) (L 0 0) (tg g F (c + 1)) := by
        rw [pu_up_at]
        exact TI_skip ht e _
      obtain ⟨R', y1, y2, y3⟩ := ih (c + 1) fu _ (by rw [pu_upr _ _ _ (by omega)]; exact h1) (by rw [pu_upr _ _ _ (by omega)]; exact h2) ht' (by omega) (by omega)
      exact ⟨R', y1, y2, fun a ha => by rw [y3 a ha, pu_upr _ _ _ ha]⟩
def r_w7 (R R' : mm_M) : Prop := (∀ a, a ≠ 2 → a ≠ 0 → a ≠ 6 → a ≠ 7 → R' a = R a) ∧ ∀ j, j ≠ 14 → j ≠ 15 → R' 0 j = R 0 j
theorem r_w7_rf (R : mm_M) : r_w7 R R := ⟨fun _ _ _ _ _ => rfl, fun _ _ _ => rfl⟩
theorem r_w7_tr {A B C : mm_M} (h1 : r_w7 A B) (h2 : r_w7 B C) : r_w7 A C := ⟨fun a p q r s => (h2.1 a p q r s).trans (h1.1 a p q r s), fun j p q => (h2.2 j p q).trans (h1.2 j p q)⟩
theorem r_w7_of {A B : mm_M} (h : r_w A B) : r_w7 A B := ⟨fun a p q r _ => h.1 a p q r, h.2⟩
theorem r_w7_7 {A B : mm_M} (h : ∀ a, a ≠ 7 → B a = A a) : r_w7 A B := ⟨fun a _ _ _ s => h a s, fun j _ _ => by rw [h 0 (by omega)]⟩
theorem r_sc_w7 {A B : mm_M} (h : r_w7 A B) : r_sc A B := ⟨fun a p q r s _ => h.1 a q p r s, fun j p => h.2 j (by omega) (by omega)⟩
theorem r_asked_L {C0 : mm_M} {L : LV} {m : Nat} {a b c : Nat → Nat} (hw : lw L) (hd : L 0 1 ≤ 999) (j : Nat) (hj : j < L 0 0) (c2 : Int32) (k : Int32 → mm_M → Option (Int32 × mm_M)) : ∀ z v fuel (R : mm_M), lR (R 1) L → sq C0 (R 1) (L 0 0) m a b c → TI (R 7) (L 0 0) (fun e p => tl (tQ (fun y => agr m a b c (lu L (1 + 1) j y)) (lG L j) e p) v) → v + z = 31 → z < fuel →
    ∃ R', fn_X8_ask_L47 (nI j) c2 k fuel (nI (lv_cnt (fun v => if agr m a b c (lu L (1 + 1) j v) = true then 1 else 0) 1 v)) (nI v) R = k (nI (lv_cnt (fun v => if agr m a b c (lu L (1 + 1) j v) = true then 1 else 0) 1 31)) R' ∧ TI (R' 7) (L 0 0) (fun e p => tl (tQ (fun y => agr m a b c (lu L (1 + 1) j y)) (lG L j) e p) 31) ∧ r_w7 R R' := by
  have h6 := hw.1
  intro z
  induction z with
  | zero =>
    intro v fuel R hr hs ht hz hf
    obtain ⟨fu, rfl⟩ : ∃ f, fuel = f + 1 := ⟨fuel - 1, by omega⟩
    have : v = 31 := by omega
    subst this
    refine ⟨R, ?_, ht, r_w7_rf R⟩
    rw [fn_X8_ask_L47, if_pos (by decide)]
  | succ z ih =>
    intro v fuel R hr hs ht hz hf
    obtain ⟨fu, rfl⟩ : ∃ f, fuel = f + 1 := ⟨fuel - 1, by omega⟩
    obtain ⟨R1, p1, p2, p3⟩ := r_so hw hd hr hs 1 j v (by omega) hj (show v ≤ 60 by omega) (c1 := 4 * nI j + 1) (r_ix j 1 rfl)
    have hr1 : R1 1 = R 1 := p3.1 1 (by omega) (by omega) (by omega)
    have h71 : R1 7 = R 7 := p3.1 7 (by omega) (by omega) (by omega)
    rw [fn_X8_ask_L47, if_neg (show ¬ (30 : Int32) < nI v from nI_nlt (a := 30) (b := v) (by omega) (by omega)), p1]
    simp only [pb_some]
    by_cases e : agr m a b c (lu L (1 + 1) j v) = true
    · rw [if_pos e, if_neg (by decide)]
      have l0 : (lu L (1 + 1) j v) 0 = L 0 := lu_ne _ _ _ (by omega)
      have l00 : (lu L (1 + 1) j v) 0 0 = L 0 0 := by rw [l0]
      have hw' : lw (lu L (1 + 1) j v) := lw_up hw (1 + 1) j v (by omega)
      obtain ⟨R2, q1, q2, q3⟩ := r_tally_L (L := L) h6 (nI j) c2 (nI (lv_cnt (fun v => if agr m a b c (lu L (1 + 1) j v) = true then 1 else 0) 1 v)) (nI v) (g := fun e p => tl (tQ (fun y => agr m a b c (lu L (1 + 1) j y)) (lG L j) e p) v) (F := lG L j v) (fun x hx hxn => ((lv_n_w (x / 6) hw').2.2.2 (x % 6) (by rw [(lv_n_k _ _).1, l00]; exact hxn)).2.2.2) (fun M_20 => fn_X8_ask_L47 (nI j) c2 k fu (nI (lv_cnt (fun v => if agr m a b c (lu L (1 + 1) j v) = true then 1 else 0) 1 v) + 1) (nI v + 1) M_20) 126 0 mm_fu R1 (by rw [hr1]; exact hr.1) (fun x hx hxn => by
        have := p2 (x / 6) (x % 6) (by omega) hxn
        rw [show 6 * (x / 6) + x % 6 = x by omega] at this
        exact this) (by rw [h71]; exact TI_start ht) (by omega) (by have := mm_fu_ge; omega)
      rw [show fn_X8_ask_L71 (nI j) c2 _ (nI v) _ mm_fu 0 R1 = _ from q1, nI_1, nI_1]
      have hr2 : R2 1 = R 1 := (q3 1 (by omega)).trans hr1
      obtain ⟨R', y1, y2, y3⟩ := ih (v + 1) fu R2 (by rw [hr2]; exact hr) (by rw [hr2]; exact hs) (TI_next e q2) (by omega) (by omega)
      refine ⟨R', ?_, y2, r_w7_tr (r_w7_of p3) (r_w7_tr (r_w7_7 q3) y3)⟩
      rw [lv_cnt, if_pos (by rw [if_pos e])] at y1
      exact y1
    · rw [if_neg e, if_pos rfl, nI_1]
      obtain ⟨R', y1, y2, y3⟩ := ih (v + 1) fu R1 (by rw [hr1]; exact hr) (by rw [hr1]; exact hs) (by rw [h71]; exact TI_not e ht) (by omega) (by omega)
      refine ⟨R', ?_, y2, r_w7_tr (r_w7_of p3) y3⟩
      rw [lv_cnt, if_neg (by rw [if_neg e]; omega)] at y1
      exact y1
