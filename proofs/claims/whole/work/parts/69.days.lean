/-! days, one after the other -/
def lv_next (L : LV) : LV := lv_D (lv_today L) L
def lv_n : Nat → LV → LV
  | 0, L => L
  | m + 1, L => lv_n m (lv_next L)
def lv_came : Nat → LV → Nat
  | 0, _ => 0
  | m + 1, L => (lv_H (lv_today L) L).2 + lv_came m (lv_next L)
def lv_boi : Nat → LV → Nat
  | 0, _ => 0
  | m + 1, L => (lv_B L).2 + lv_boi m (lv_next L)
theorem lv_today_le {L : LV} (hw : lw L) : lv_today L ≤ 9 := hw.2.2.1 _ (Nat.mod_lt _ (by omega))
theorem lv_next_w {L : LV} (h : lw L) : lw (lv_next L) := lv_D_w _ h
theorem lv_next_k (L : LV) : (lv_next L) 0 0 = L 0 0 ∧ (lv_next L) 0 1 = L 0 1 + 1 ∧ (lv_next L) 1 = L 1 ∧ (lv_next L) 5 = L 5 ∧ (lv_next L) 6 = L 6 := lv_D_k _ L
theorem lv_n_w : ∀ (m : Nat) {L : LV}, lw L → lw (lv_n m L) := by
  intro m
  induction m with
  | zero => intro L h; exact h
  | succ m ih => intro L h; exact ih (lv_next_w h)
theorem lv_n_k : ∀ (m : Nat) (L : LV), (lv_n m L) 0 0 = L 0 0 ∧ (lv_n m L) 0 1 = L 0 1 + m := by
  intro m
  induction m with
  | zero => intro L; exact ⟨rfl, rfl⟩
  | succ m ih =>
    intro L
    have h := ih (lv_next L)
    have k := lv_next_k L
    rw [lv_n, h.1, h.2, k.1, k.2.1]
    exact ⟨rfl, by omega⟩
theorem lv_n_add : ∀ (m j : Nat) (L : LV), lv_n (m + j) L = lv_n j (lv_n m L) := by
  intro m
  induction m with
  | zero => intro j L; rw [Nat.zero_add]; rfl
  | succ m ih =>
    intro j L
    rw [show m + 1 + j = (m + j) + 1 by omega]
    exact ih j (lv_next L)
theorem lv_n_S (m : Nat) (L : LV) : lv_n (m + 1) L = lv_next (lv_n m L) := lv_n_add m 1 L
/-- the laundry that is alike, but for rows that nobody reads -/
theorem lR_cg {f f' : Nat → Int32} {L : LV} (e : ∀ j, j < 57 → f' j = f j) (hn : L 0 0 ≤ 6) (h : lR f L) : lR f' L := by
  obtain ⟨h1, h2, h3, h4, h5⟩ := h
  refine ⟨by rw [e _ (by omega)]; exact h1, by rw [e _ (by omega)]; exact h2, fun j hj => by rw [e _ (by omega)]; exact h3 j hj, fun j hj => by rw [e _ (by omega)]; exact h4 j hj, fun i hi => ?_⟩
  rw [e _ (by omega), e _ (by omega), e _ (by omega), e _ (by omega)]
  exact h5 i hi
theorem c_next {C : mm_M} {o : Nat} {L : LV} (h : lC C o L) (hw : lw L) (hd : L 0 1 < 10000) : ∃ C', ((fn_X2_sunToday o C).bind fun z => fn_X2_passDay o z.1 z.2) = some (nI (lv_H (lv_today L) L).2, C') ∧ lC C' o (lv_next L) ∧ C' o 2 = nI (lv_B L).2 ∧ c_fr o C C' := by
  rw [c_sun h hd]
  exact c_day h hw (lv_today_le hw)
theorem r_next {R : mm_M} {L : LV} (h : lR (R 2) L) (hw : lw L) (hd : L 0 1 < 10000) : ∃ R', ((fn_X8_sunNow R).bind fun z => fn_X8_dayGoesBy z.1 z.2) = some R' ∧ lR (R' 2) (lv_next L) ∧ R' 0 14 = R 0 14 + nI (lv_B L).2 ∧ R' 0 15 = R 0 15 + nI (lv_H (lv_today L) L).2 ∧ r_fq R R' := by
  rw [r_sun h hd]
  exact r_day h hw (lv_today_le hw)
theorem pb_bind2 {α β γ : Type} (x : Option α) (f : α → Option β) (g : β → Option γ) : (x.bind fun a => (f a).bind g) = (x.bind f).bind g := by
  cases x <;> rfl
theorem c_pass_L (o n : Nat) (hn : n < 10000) (k : Int32 → mm_M → Option (Int32 × mm_M)) : ∀ m i fuel (C : mm_M) (L : LV) (x : Int32), lC C o L → lw L → L 0 1 + m < 10000 → i + m = n → m < fuel →
    ∃ C', fn_X2_passDays_L4 o (nI n) k fuel x (nI i) C = k (x + nI (lv_came m L)) C' ∧ lC C' o (lv_n m L) ∧ c_fr o C C' := by
  intro m
  induction m with
  | zero =>
    intro i fuel C L x h hw hd hi hf
    obtain ⟨f, rfl⟩ : ∃ f, fuel = f + 1 := ⟨fuel - 1, by omega⟩
    have : i = n := by omega
    subst this
    refine ⟨C, ?_, h, c_fr_rf o C⟩
    rw [fn_X2_passDays_L4, if_pos (nI_le (Nat.le_refl _) (by omega))]
    show k x C = k (x + 0) C
    rw [Int32.add_zero]
  | succ m ih =>
    intro i fuel C L x h hw hd hi hf
    obtain ⟨f, rfl⟩ : ∃ f, fuel = f + 1 := ⟨fuel - 1, by omega⟩
    obtain ⟨C1, p1, p2, p3, p4⟩ := c_next h hw (by omega)
    rw [fn_X2_passDays_L4, if_neg (nI_ge (by omega) (by omega)), pb_bind2, p1]
    simp only [Option.bind_some, mm_let]
    rw [nI_1]
    have k1 := lv_next_k L
    obtain ⟨C', q1, q2, q3⟩ := ih (i + 1) f C1 (lv_next L) (x + nI (lv_H (lv_today L) L).2) p2 (lv_next_w hw) (by omega) (by omega) (by omega)
    refine ⟨C', ?_, q2, c_fr_tr p4 q3⟩
    rw [q1, Int32.add_assoc, nI_add]
    rfl
theorem c_pass {C : mm_M} {o : Nat} {L : LV} (n : Nat) (hn : n ≤ 60) (h : lC C o L) (hw : lw L) (hd : L 0 1 < 2000) : ∃ C', fn_X2_passDays o (nI n) C = some (nI (lv_came n L), C') ∧ lC C' o (lv_n n L) ∧ c_fr o C C' := by
  obtain ⟨C', q1, q2, q3⟩ := c_pass_L o n (by omega) (fun x M => some (x, M)) n 0 mm_fu C L 0 h hw (by omega) (by omega) (by have := mm_fu_ge; omega)
  refine ⟨C', ?_, q2, q3⟩
  rw [Int32.zero_add] at q1
  exact q1
theorem r_go_L (n : Nat) (hn : n < 10000) (k : mm_M → Option mm_M) : ∀ m i fuel (R : mm_M) (L : LV), lR (R 2) L → lw L → L 0 1 + m < 10000 → i + m = n → m < fuel →
    ∃ R', fn_X8_daysGo_L2 (nI n) k fuel (nI i) R = k R' ∧ lR (R' 2) (lv_n m L) ∧ R' 0 14 = R 0 14 + nI (lv_boi m L) ∧ R' 0 15 = R 0 15 + nI (lv_came m L) ∧ r_fq R R' := by
  intro m
  induction m with
  | zero =>
    intro i fuel R L h hw hd hi hf
    obtain ⟨f, rfl⟩ : ∃ f, fuel = f + 1 := ⟨fuel - 1, by omega⟩
    have : i = n := by omega
    subst this
    refine ⟨R, ?_, h, (Int32.add_zero _).symm, (Int32.add_zero _).symm, r_fq_rf R⟩
    rw [fn_X8_daysGo_L2, if_pos (nI_le (Nat.le_refl _) (by omega))]
  | succ m ih =>
    intro i fuel R L h hw hd hi hf
    obtain ⟨f, rfl⟩ : ∃ f, fuel = f + 1 := ⟨fuel - 1, by omega⟩
    obtain ⟨R1, p1, p2, p3, p4, p5⟩ := r_next h hw (by omega)
    rw [fn_X8_daysGo_L2, if_neg (nI_ge (by omega) (by omega)), pb_bind2, p1]
    simp only [Option.bind_some]
    rw [nI_1]
    have k1 := lv_next_k L
    obtain ⟨R', q1, q2, q3, q4, q5⟩ := ih (i + 1) f R1 (lv_next L) p2 (lv_next_w hw) (by omega) (by omega) (by omega)
    refine ⟨R', q1, q2, ?_, ?_, r_fq_tr p5 q5⟩
    · rw [q3, p3, Int32.add_assoc, nI_add]
      rfl
    · rw [q4, p4, Int32.add_assoc, nI_add]
      rfl
theorem r_go {R : mm_M} {L : LV} {n : Nat} {c : Int32} (hc : c = nI n) (hn : n ≤ 60) (h : lR (R 2) L) (hw : lw L) (hd : L 0 1 < 2000) : ∃ R', fn_X8_daysGo c R = some R' ∧ lR (R' 2) (lv_n n L) ∧ R' 0 14 = R 0 14 + nI (lv_boi n L) ∧ R' 0 15 = R 0 15 + nI (lv_came n L) ∧ r_fq R R' := by
  subst hc
  exact r_go_L n (by omega) (fun M => some M) n 0 mm_fu R L h hw (by omega) (by omega) (by have := mm_fu_ge; omega)
/-! to start, to settle -/
def r_s (R R' : mm_M) : Prop := (∀ a, a ≠ 2 → a ≠ 0 → R' a = R a) ∧ ∀ j, j ≠ 14 → j ≠ 15 → R' 0 j = R 0 j
theorem r_s_rf (R : mm_M) : r_s R R := ⟨fun _ _ _ => rfl, fun _ _ _ => rfl⟩
theorem r_s_tr {A B C : mm_M} (h1 : r_s A B) (h2 : r_s B C) : r_s A C := ⟨fun a h g => (h2.1 a h g).trans (h1.1 a h g), fun j h g => (h2.2 j h g).trans (h1.2 j h g)⟩
theorem r_s_of {A B : mm_M} (h : r_fq A B) : r_s A B := ⟨h.1, h.2.1⟩
theorem r_s_up (R : mm_M) (j : Nat) (v : Int32) : r_s R (mm_up R 2 j v) := ⟨fun a h _ => pu_upr _ _ _ h, fun _ _ _ => by rw [pu_upr _ _ _ (by omega)]⟩
theorem r_starts (R : mm_M) : ∃ R', fn_X8_starts R = some R' ∧ (∀ j, j < 57 → R' 2 j = R 1 j) ∧ R' 0 14 = 0 ∧ R' 0 15 = 0 ∧ r_s R R' := by
  unfold fn_X8_starts
  have h := pu_fill (fn_X8_starts_L2 (fun M => some (mm_up (mm_up M 0 14 0) 0 15 0))) (fun M => some (mm_up (mm_up M 0 14 0) 0 15 0)) 2 0 57 (fun M i => M 1 i)
    (fun m M => by
      rw [fn_X8_starts_L2, if_pos]
      exact nI_le (a := 57) (Nat.le_refl _) (by omega))
    (fun m i M hi => by
      rw [fn_X8_starts_L2, if_neg (show ¬ (57 : Int32) ≤ nI i from nI_ge (b := 57) hi (by omega)), if_pos (pu_in (by omega) (by omega)), if_pos (pu_in hi (by omega))]
      simp only [mm_let]
      rw [nI_clamp (by omega), nI_1, Nat.zero_add])
    (fun M f i hi => by rw [pu_row_ne _ _ (by omega)]) mm_fu 0 R (Nat.zero_le _) (by have := mm_fu_ge; omega)
  refine ⟨_, h, fun j hj => ?_, ?_, ?_, fun a h2 h0 => ?_, fun j h1 h2 => ?_⟩
  · rw [pu_upr _ _ _ (by omega), pu_upr _ _ _ (by omega), pu_row_at]
    rw [if_pos (by omega), Nat.sub_zero]
  · rw [pu_up, if_neg (by omega), pu_up, if_pos ⟨rfl, rfl⟩]
  · rw [pu_up, if_pos ⟨rfl, rfl⟩]
  · rw [pu_upr _ _ _ h0, pu_upr _ _ _ h0, pu_row_ne _ _ h2]
  · rw [pu_up, if_neg (by omega), pu_up, if_neg (by omega), pu_row_ne _ _ (by omega)]
theorem r_settles (R : mm_M) : ∃ R', fn_X8_settles R = some R' ∧ (∀ j, j < 57 → R' 1 j = R 2 j) ∧ (∀ j, 57 ≤ j → R' 1 j = R 1 j) ∧ ∀ a, a ≠ 1 → R' a = R a := by
  unfold fn_X8_settles
  have h := pu_fill (fn_X8_settles_L2 (fun M => some M)) (fun M => some M) 1 0 57 (fun M i => M 2 i)
    (fun m M => by
      rw [fn_X8_settles_L2, if_pos]
      exact nI_le (a := 57) (Nat.le_refl _) (by omega))
    (fun m i M hi => by
      rw [fn_X8_settles_L2, if_neg (show ¬ (57 : Int32) ≤ nI i from nI_ge (b := 57) hi (by omega)), if_pos (pu_in hi (by omega)), if_pos (pu_in (by omega) (by omega))]
      simp only [mm_let]
      rw [nI_clamp (by omega), nI_1, Nat.zero_add])
    (fun M f i hi => by rw [pu_row_ne _ _ (by omega)]) mm_fu 0 R (Nat.zero_le _) (by have := mm_fu_ge; omega)
  refine ⟨_, h, fun j hj => ?_, fun j hj => ?_, fun a h1 => pu_row_ne _ _ h1⟩
  · rw [pu_row_at]
    rw [if_pos (by omega), Nat.sub_zero]
  · rw [pu_row_at]
    rw [if_neg (by omega)]
/-- both sides begin -/
theorem c_begin {C : mm_M} {L : LV} (h : lC C 1 L) (hw : lw L) : ∃ C', fn_X2_become 8 1 C = some C' ∧ lC C' 8 L ∧ c_fr 8 C C' := c_become 8 1 h hw.1 (by omega)
theorem r_begin {R : mm_M} {L : LV} (h : lR (R 1) L) (hw : lw L) : ∃ R', fn_X8_starts R = some R' ∧ lR (R' 2) L ∧ R' 0 14 = 0 ∧ R' 0 15 = 0 ∧ (∀ j, j < 57 → R' 2 j = R 1 j) ∧ r_s R R' := by
  obtain ⟨R', q1, q2, q3, q4, q5⟩ := r_starts R
  exact ⟨R', q1, lR_cg q2 hw.1 h, q3, q4, q2, q5⟩
/-! what may change with nothing that counts -/
def c_sc (C C' : mm_M) : Prop := ∀ a, ¬ (8 ≤ a ∧ a ≤ 14) → a ≠ 23 → a ≠ 24 → ¬ (27 ≤ a ∧ a ≤ 89) → C' a = C a
def r_sc (R R' : mm_M) : Prop := (∀ a, a ≠ 0 → a ≠ 2 → a ≠ 6 → a ≠ 7 → a ≠ 11 → R' a = R a) ∧ ∀ j, j < 14 ∨ 17 < j → R' 0 j = R 0 j
theorem sm_scr {C C' R R' : mm_M} (h : sm_S C R) (hc : c_sc C C') (hr : r_sc R R') : sm_S C' R' :=
  sm_keep h ⟨by rw [hc 0 (by omega) (by omega) (by omega) (by omega)], by rw [hc 16 (by omega) (by omega) (by omega) (by omega)], hc 17 (by omega) (by omega) (by omega) (by omega), by rw [hc 18 (by omega) (by omega) (by omega) (by omega)], fun a _ _ => hc a (by omega) (by omega) (by omega) (by omega)⟩
    (fun a _ _ => hc a (by omega) (by omega) (by omega) (by omega)) (fun a _ _ => hc a (by omega) (by omega) (by omega) (by omega))
    ⟨hr.2 7 (by omega), hr.2 12 (by omega), hr.2 26 (by omega), fun j _ => by rw [hr.1 1 (by omega) (by omega) (by omega) (by omega) (by omega)], hr.1 3 (by omega) (by omega) (by omega) (by omega) (by omega), hr.1 5 (by omega) (by omega) (by omega) (by omega) (by omega), hr.1 8 (by omega) (by omega) (by omega) (by omega) (by omega), hr.1 9 (by omega) (by omega) (by omega) (by omega) (by omega), hr.1 10 (by omega) (by omega) (by omega) (by omega) (by omega)⟩
    (hr.1 1 (by omega) (by omega) (by omega) (by omega) (by omega))
theorem c_sc_rf (C : mm_M) : c_sc C C := fun _ _ _ _ _ => rfl
theorem c_sc_tr {A B C : mm_M} (h1 : c_sc A B) (h2 : c_sc B C) : c_sc A C := fun a p q r s => (h2 a p q r s).trans (h1 a p q r s)
theorem c_sc_of {A B : mm_M} (h : c_fr 8 A B) : c_sc A B := fun a p _ _ _ => h a (by omega)
theorem c_sc_up (C : mm_M) {a : Nat} (j : Nat) (v : Int32) (h : (8 ≤ a ∧ a ≤ 14) ∨ a = 23 ∨ a = 24 ∨ (27 ≤ a ∧ a ≤ 89)) : c_sc C (mm_up C a j v) := fun b p q r s => pu_upr _ _ _ (by omega)
theorem r_sc_rf (R : mm_M) : r_sc R R := ⟨fun _ _ _ _ _ _ => rfl, fun _ _ => rfl⟩
theorem r_sc_tr {A B C : mm_M} (h1 : r_sc A B) (h2 : r_sc B C) : r_sc A C := ⟨fun a p q r s t => (h2.1 a p q r s t).trans (h1.1 a p q r s t), fun j p => (h2.2 j p).trans (h1.2 j p)⟩
theorem r_sc_of {A B : mm_M} (h : r_s A B) : r_sc A B := ⟨fun a p q _ _ _ => h.1 a q p, fun j p => h.2 j (by omega) (by omega)⟩
theorem r_sc_up (R : mm_M) {a : Nat} (j : Nat) (v : Int32) (h : a = 2 ∨ a = 6 ∨ a = 7 ∨ a = 11 ∨ (a = 0 ∧ 14 ≤ j ∧ j ≤ 17)) : r_sc R (mm_up R a j v) := ⟨fun b p q r s t => pu_upr _ _ _ (by omega), fun i p => by rw [pu_up, if_neg (by omega)]⟩
/-- laundry and SEEN as one laundry L -/
theorem sm_L {C R : mm_M} (h : sm_S C R) : ∃ L : LV, lw L ∧ L 0 1 ≤ 999 ∧ lC C 1 L ∧ lR (R 1) L ∧ sm_sn C 19 (R 1) (L 0 0) := by
  obtain ⟨⟨n, d, r, s, k, g, w, p, ⟨hd, hw⟩, hc, hr, hsn⟩, -⟩ := h
  exact ⟨lv_pack n d r s k g w p, hw, hd, hc, hr, hsn⟩
theorem sm_Lst {C : mm_M} {o q : Nat} {f : Nat → Int32} {L : LV} (hw : lw L) (hd : L 0 1 ≤ 999) (hc : lC C o L) (hr : lR f L) (hs : sm_sn C q f (L 0 0)) : sm_st C o q f :=
  ⟨L 0 0, L 0 1, L 5, L 6, L 1, L 2, L 3, L 4, ⟨hd, hw⟩, hc, hr, hs⟩
