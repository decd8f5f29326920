/-! how many days till .. -/
def til (P : LV → Bool) : Nat → Nat → LV → Nat
  | 0, _, _ => 61
  | m + 1, j, L => if P L = true then j else til P m (j + 1) (lv_next L)
def lv_done (L : LV) : Bool := decide (lv_cnt (L 4) 2 (L 0 0) = L 0 0)
def lv_home (i : Nat) (L : LV) : Bool := decide (L 4 i = 2)
theorem til_le (P : LV → Bool) : ∀ m j L, j + m ≤ 61 → til P m j L ≤ 61 := by
  intro m
  induction m with
  | zero => intro j L _; exact Nat.le_refl _
  | succ m ih =>
    intro j L h
    rw [til]
    split
    · omega
    · exact ih _ _ (by omega)
theorem lv_cnt_all (f : Nat → Nat) (v : Nat) : ∀ n, lv_cnt f v n = n ↔ ∀ i, i < n → f i = v := by
  intro n
  induction n with
  | zero => exact ⟨fun _ i hi => by omega, fun _ => rfl⟩
  | succ n ih =>
    have hl := lv_cnt_le f v n
    rw [lv_cnt]
    constructor
    · intro h i hi
      by_cases e : f n = v
      · rw [if_pos e] at h
        by_cases e2 : i = n
        · rw [e2]; exact e
        · exact ih.mp (by omega) i (by omega)
      · rw [if_neg e] at h
        omega
    · intro h
      rw [if_pos (h n (by omega)), ih.mpr (fun i hi => h i (by omega))]
/-- P, once so, stays so -/
def lv_mono (P : LV → Bool) : Prop := ∀ L, P L = true → P (lv_next L) = true
theorem lv_done_mono : lv_mono lv_done := fun L h => by
  unfold lv_done at h ⊢
  rw [decide_eq_true_eq] at h ⊢
  have k := lv_next_k L
  rw [k.1, lv_cnt_all]
  intro i hi
  exact lv_D_home _ L i ((lv_cnt_all _ _ _).mp h i hi)
theorem lv_home_mono (i : Nat) : lv_mono (lv_home i) := fun L h => by
  unfold lv_home at h ⊢
  rw [decide_eq_true_eq] at h ⊢
  exact lv_D_home _ L i h
theorem lv_mono_n {P : LV → Bool} (h : lv_mono P) : ∀ m L, P L = true → P (lv_n m L) = true := by
  intro m
  induction m with
  | zero => intro L hL; exact hL
  | succ m ih => intro L hL; exact ih _ (h L hL)
theorem til_mono {P : LV → Bool} (h : lv_mono P) : ∀ m j L, j + m ≤ 60 → (til P (m + 1) j L = 61 ↔ ¬ P (lv_n m L) = true) := by
  intro m
  induction m with
  | zero =>
    intro j L hj
    rw [til]
    by_cases e : P L = true
    · rw [if_pos e]
      exact ⟨fun q => by omega, fun q => absurd e q⟩
    · rw [if_neg e]
      exact ⟨fun _ => e, fun _ => rfl⟩
  | succ m ih =>
    intro j L hj
    rw [til]
    by_cases e : P L = true
    · rw [if_pos e]
      exact ⟨fun q => by omega, fun q => absurd (lv_mono_n h (m + 1) L e) q⟩
    · rw [if_neg e]
      exact ih (j + 1) (lv_next L) (by omega)
theorem c_all_L {C : mm_M} {o : Nat} {L : LV} (h : lC C o L) (hw : lw L) : ∀ m i fuel, i + m = L 0 0 → m < fuel → (∀ j, j < i → L 4 j = 2) →
    fn_X2_allAreHome_L2 o (fun M => some (0, M)) (fun M => some (1, M)) fuel (nI i) C = some (if lv_done L = true then 1 else 0, C) := by
  have hn := hw.1
  intro m
  induction m with
  | zero =>
    intro i fuel hi hf ha
    obtain ⟨f, rfl⟩ : ∃ f, fuel = f + 1 := ⟨fuel - 1, by omega⟩
    have : i = L 0 0 := by omega
    subst this
    rw [fn_X2_allAreHome_L2, h.1, if_pos (nI_le (Nat.le_refl _) (by omega)), if_pos]
    unfold lv_done
    rw [decide_eq_true_eq, lv_cnt_all]
    exact ha
  | succ m ih =>
    intro i fuel hi hf ha
    obtain ⟨f, rfl⟩ : ∃ f, fuel = f + 1 := ⟨fuel - 1, by omega⟩
    obtain ⟨d1, d2, d3, d4⟩ := h.2.2.2.2 i (by omega)
    have w4 := (hw.2.2.2 i (by omega)).2.2.2
    rw [fn_X2_allAreHome_L2, h.1, if_neg (nI_ge (by omega) (by omega)), if_pos (pu_in (by omega) (by omega)), nI_clamp (by omega), d4]
    by_cases e : L 4 i = 2
    · rw [if_pos (by rw [e]; rfl), nI_1]
      refine ih (i + 1) f (by omega) (by omega) (fun j hj => ?_)
      by_cases e2 : j = i
      · rw [e2]; exact e
      · exact ha j (by omega)
    · have hne : ¬ nI (L 4 i) = 2 := fun q => e ((nI_eq (b := 2) (by omega) (by omega)).mp q)
      rw [if_neg hne, if_neg]
      unfold lv_done
      rw [decide_eq_true_eq, lv_cnt_all]
      exact fun q => e (q i (by omega))
theorem c_all {C : mm_M} {o : Nat} {L : LV} (h : lC C o L) (hw : lw L) : fn_X2_allAreHome o C = some (if lv_done L = true then 1 else 0, C) := by
  have hn := hw.1
  exact c_all_L h hw (L 0 0) 0 mm_fu (by omega) (by have := mm_fu_ge; omega) (fun j hj => by omega)
theorem r_all {R : mm_M} {L : LV} (h : lR (R 2) L) (hw : lw L) : fn_X8_isDone R = some (if lv_done L = true then 1 else 0, R) := by
  have hn := hw.1
  have hc := lv_cnt_le (L 4) 2 (L 0 0)
  unfold fn_X8_isDone
  rw [r_many h hw (v := 2) (c1 := 2) rfl (by omega)]
  simp only [Option.bind_some]
  rw [show R 2 24 = nI (L 0 0) from h.1]
  unfold lv_done
  simp only [pu_eq (a := lv_cnt (L 4) 2 (L 0 0)) (b := L 0 0) (by omega) (by omega), decide_eq_true_eq]
  split <;> rfl
theorem c_till_L (o n : Nat) (hn : n ≤ 60) : ∀ m j fuel (C : mm_M) (L : LV), lC C o L → lw L → L 0 1 + m < 10000 → j + m = n + 1 → m < fuel →
    ∃ C', fn_X2_daysTillDone_L2 o (nI n) (fun x M => some (x, M)) (fun M => some (61, M)) fuel (nI j) C = some (nI (til lv_done m j L), C') ∧ c_fr o C C' := by
  intro m
  induction m with
  | zero =>
    intro j fuel C L h hw hd hj hf
    obtain ⟨f, rfl⟩ : ∃ f, fuel = f + 1 := ⟨fuel - 1, by omega⟩
    refine ⟨C, ?_, c_fr_rf o C⟩
    rw [fn_X2_daysTillDone_L2, if_pos (nI_lt (by omega) (by omega))]
    rfl
  | succ m ih =>
    intro j fuel C L h hw hd hj hf
    obtain ⟨f, rfl⟩ : ∃ f, fuel = f + 1 := ⟨fuel - 1, by omega⟩
    rw [fn_X2_daysTillDone_L2, if_neg (nI_nlt (by omega) (by omega)), c_all h hw, til]
    simp only [Option.bind_some]
    by_cases e : lv_done L = true
    · rw [if_pos e, if_neg (by decide), if_pos e]
      exact ⟨C, rfl, c_fr_rf o C⟩
    · rw [if_neg e, if_pos rfl, if_neg e]
      obtain ⟨C1, p1, p2, p3, p4⟩ := c_next h hw (by omega)
      rw [pb_bind2, p1]
      simp only [Option.bind_some]
      rw [nI_1]
      have k1 := lv_next_k L
      obtain ⟨C', q1, q2⟩ := ih (j + 1) f C1 (lv_next L) p2 (lv_next_w hw) (by omega) (by omega) (by omega)
      exact ⟨C', q1, c_fr_tr p4 q2⟩
theorem c_till {C : mm_M} {o : Nat} {L : LV} {n : Nat} {c : Int32} (hc : c = nI n) (hn : n ≤ 60) (h : lC C o L) (hw : lw L) (hd : L 0 1 < 2000) : ∃ C', fn_X2_daysTillDone o c C = some (nI (til lv_done (n + 1) 0 L), C') ∧ c_fr o C C' := by
  subst hc
  exact c_till_L o n hn (n + 1) 0 mm_fu C L h hw (by omega) (by omega) (by have := mm_fu_ge; omega)
theorem c_tilh_L (o n i : Nat) (hn : n ≤ 60) : ∀ m j fuel (C : mm_M) (L : LV), lC C o L → lw L → i < L 0 0 → L 0 1 + m < 10000 → j + m = n + 1 → m < fuel →
    ∃ C', fn_X2_daysTillHome_L2 o (nI i) (nI n) (fun x M => some (x, M)) (fun M => some (61, M)) fuel (nI j) C = some (nI (til (lv_home i) m j L), C') ∧ c_fr o C C' := by
  intro m
  induction m with
  | zero =>
    intro j fuel C L h hw hi hd hj hf
    obtain ⟨f, rfl⟩ : ∃ f, fuel = f + 1 := ⟨fuel - 1, by omega⟩
    refine ⟨C, ?_, c_fr_rf o C⟩
    rw [fn_X2_daysTillHome_L2, if_pos (nI_lt (by omega) (by omega))]
    rfl
  | succ m ih =>
    intro j fuel C L h hw hi hd hj hf
    have h6 := hw.1
    obtain ⟨f, rfl⟩ : ∃ f, fuel = f + 1 := ⟨fuel - 1, by omega⟩
    obtain ⟨d1, d2, d3, d4⟩ := h.2.2.2.2 i hi
    have w4 := (hw.2.2.2 i hi).2.2.2
    rw [fn_X2_daysTillHome_L2, if_neg (nI_nlt (by omega) (by omega)), if_pos (pu_in (by omega) (by omega)), nI_clamp (by omega), d4, til]
    by_cases e : L 4 i = 2
    · have e' : lv_home i L = true := decide_eq_true e
      rw [if_pos (by rw [e]; rfl), if_pos e']
      exact ⟨C, rfl, c_fr_rf o C⟩
    · have e' : ¬ lv_home i L = true := fun q => e (of_decide_eq_true q)
      have hne : ¬ nI (L 4 i) = 2 := fun q => e ((nI_eq (b := 2) (by omega) (by omega)).mp q)
      rw [if_neg hne, if_neg e']
      obtain ⟨C1, p1, p2, p3, p4⟩ := c_next h hw (by omega)
      rw [pb_bind2, p1]
      simp only [Option.bind_some]
      rw [nI_1]
      have k1 := lv_next_k L
      obtain ⟨C', q1, q2⟩ := ih (j + 1) f C1 (lv_next L) p2 (lv_next_w hw) (by omega) (by omega) (by omega) (by omega)
      exact ⟨C', q1, c_fr_tr p4 q2⟩
theorem c_tilh {C : mm_M} {o : Nat} {L : LV} {n i : Nat} {c : Int32} (hc : c = nI n) (hn : n ≤ 60) (hi : i < L 0 0) (h : lC C o L) (hw : lw L) (hd : L 0 1 < 2000) : ∃ C', fn_X2_daysTillHome o (nI i) c C = some (nI (til (lv_home i) (n + 1) 0 L), C') ∧ c_fr o C C' := by
  subst hc
  exact c_tilh_L o n i hn (n + 1) 0 mm_fu C L h hw hi (by omega) (by omega) (by have := mm_fu_ge; omega)
/-- never is 61 in the class, -4 in the reference -/
def nN (t : Nat) : Int32 := if t = 61 then -4 else nI t
theorem r_till_L : ∀ m j fuel (R : mm_M) (L : LV), lR (R 2) L → lw L → L 0 1 + m < 10000 → j + m = 61 → m < fuel →
    ∃ R', fn_X8_daysTo_L2 (fun x M => some (x, M)) (fun M => some (-4, M)) fuel (nI j) R = some (nN (til lv_done m j L), R') ∧ r_s R R' := by
  intro m
  induction m with
  | zero =>
    intro j fuel R L h hw hd hj hf
    obtain ⟨f, rfl⟩ : ∃ f, fuel = f + 1 := ⟨fuel - 1, by omega⟩
    refine ⟨R, ?_, r_s_rf R⟩
    rw [fn_X8_daysTo_L2, if_pos (show (60 : Int32) < nI j from nI_lt (a := 60) (by omega) (by omega))]
    rfl
  | succ m ih =>
    intro j fuel R L h hw hd hj hf
    obtain ⟨f, rfl⟩ : ∃ f, fuel = f + 1 := ⟨fuel - 1, by omega⟩
    rw [fn_X8_daysTo_L2, if_neg (show ¬ (60 : Int32) < nI j from nI_nlt (b := j) (a := 60) (by omega) (by omega)), r_all h hw, til]
    simp only [Option.bind_some]
    by_cases e : lv_done L = true
    · rw [if_pos e, if_neg (by decide), if_pos e]
      refine ⟨R, ?_, r_s_rf R⟩
      rw [nN, if_neg (by omega)]
    · rw [if_neg e, if_pos rfl, if_neg e]
      obtain ⟨R1, p1, p2, p3, p4, p5⟩ := r_go_L 1 (by omega) (fun M => some M) 1 0 mm_fu R L h hw (by omega) (by omega) (by have := mm_fu_ge; omega)
      rw [show fn_X8_daysGo 1 R = some R1 from p1]
      simp only [Option.bind_some]
      rw [nI_1]
      have k1 := lv_next_k L
      obtain ⟨R', q1, q2⟩ := ih (j + 1) f R1 (lv_next L) p2 (lv_next_w hw) (by omega) (by omega) (by omega)
      exact ⟨R', q1, r_s_tr (r_s_of p5) q2⟩
theorem r_till {R : mm_M} {L : LV} (h : lR (R 2) L) (hw : lw L) (hd : L 0 1 < 2000) : ∃ R', fn_X8_daysTo R = some (nN (til lv_done 61 0 L), R') ∧ r_s R R' :=
  r_till_L 61 0 mm_fu R L h hw (by omega) (by omega) (by have := mm_fu_ge; omega)
theorem r_tilh_L (i : Nat) : ∀ m j fuel (R : mm_M) (L : LV), lR (R 2) L → lw L → i < L 0 0 → L 0 1 + m < 10000 → j + m = 61 → m < fuel →
    ∃ R', fn_X8_home_L16 (nI i) (fun x M => some (x, M)) (fun M => some (-4, M)) fuel (nI j) R = some (nN (til (lv_home i) m j L), R') ∧ r_s R R' := by
  intro m
  induction m with
  | zero =>
    intro j fuel R L h hw hi hd hj hf
    obtain ⟨f, rfl⟩ : ∃ f, fuel = f + 1 := ⟨fuel - 1, by omega⟩
    refine ⟨R, ?_, r_s_rf R⟩
    rw [fn_X8_home_L16, if_pos (show (60 : Int32) < nI j from nI_lt (a := 60) (by omega) (by omega))]
    rfl
  | succ m ih =>
    intro j fuel R L h hw hi hd hj hf
    have h6 := hw.1
    obtain ⟨f, rfl⟩ : ∃ f, fuel = f + 1 := ⟨fuel - 1, by omega⟩
    have w4 := (hw.2.2.2 i hi).2.2.2
    rw [fn_X8_home_L16, if_neg (show ¬ (60 : Int32) < nI j from nI_nlt (b := j) (a := 60) (by omega) (by omega)), r_of h h6 (i := i) hi 3 (cc := 3) rfl (by omega), til]
    simp only [Option.bind_some, show (1 + 3 : Nat) = 4 from rfl]
    by_cases e : L 4 i = 2
    · have e' : lv_home i L = true := decide_eq_true e
      rw [if_pos (by rw [e]; rfl), if_pos e']
      refine ⟨R, ?_, r_s_rf R⟩
      rw [nN, if_neg (by omega)]
    · have e' : ¬ lv_home i L = true := fun q => e (of_decide_eq_true q)
      have hne : ¬ nI (L 4 i) = 2 := fun q => e ((nI_eq (b := 2) (by omega) (by omega)).mp q)
      rw [if_neg hne, if_neg e']
      obtain ⟨R1, p1, p2, p3, p4, p5⟩ := r_go_L 1 (by omega) (fun M => some M) 1 0 mm_fu R L h hw (by omega) (by omega) (by have := mm_fu_ge; omega)
      rw [show fn_X8_daysGo 1 R = some R1 from p1]
      simp only [Option.bind_some]
      rw [nI_1]
      have k1 := lv_next_k L
      obtain ⟨R', q1, q2⟩ := ih (j + 1) f R1 (lv_next L) p2 (lv_next_w hw) (by omega) (by omega) (by omega) (by omega)
      exact ⟨R', q1, r_s_tr (r_s_of p5) q2⟩
theorem pn_or {t : Nat} (M : mm_M) (ht : t ≤ 61) : fn_X7_orNone (nI t) M = some (nN t, M) := by
  unfold fn_X7_orNone nN
  simp only [show (nI t = (61 : Int32)) = (t = 61) from pu_eq (b := 61) (by omega) (by omega)]
  split <;> rfl
/-! sums -/
theorem c_sum_L {C : mm_M} {r0 n0 n : Nat} {f : Nat → Nat} (hf : ∀ i, i < n → C r0 i = nI (f i)) (hn : n ≤ n0) (h0 : n0 < 1000) (k : Int32 → mm_M → Option (Int32 × mm_M)) : ∀ m i fuel, i + m = n → m < fuel →
    fn_X2_sumOf_L4 r0 n0 (nI n) k fuel (nI (lv_sum f i)) (nI i) C = k (nI (lv_sum f n)) C := by
  intro m
  induction m with
  | zero =>
    intro i fuel hi hfu
    obtain ⟨fu, rfl⟩ : ∃ f, fuel = f + 1 := ⟨fuel - 1, by omega⟩
    have : i = n := by omega
    subst this
    rw [fn_X2_sumOf_L4, if_pos (nI_le (Nat.le_refl _) (by omega))]
  | succ m ih =>
    intro i fuel hi hfu
    obtain ⟨fu, rfl⟩ : ∃ f, fuel = f + 1 := ⟨fuel - 1, by omega⟩
    rw [fn_X2_sumOf_L4, if_neg (nI_ge (by omega) (by omega)), if_neg (show ¬ Int32.ofNat n0 ≤ nI i from nI_ge (b := n0) (by omega) (by omega)), if_pos (pu_in (by omega) (by omega)), nI_clamp (by omega), hf i (by omega)]
    simp only [mm_let]
    rw [nI_add, nI_1]
    exact ih (i + 1) fu (by omega) (by omega)
theorem c_sum {C : mm_M} {r0 n0 n : Nat} {c : Int32} {f : Nat → Nat} (hc : c = nI n) (hf : ∀ i, i < n → C r0 i = nI (f i)) (hn : n ≤ n0) (h0 : n0 < 1000) : fn_X2_sumOf r0 n0 c C = some (nI (lv_sum f n), C) := by
  subst hc
  exact c_sum_L hf hn h0 (fun x M => some (x, M)) n 0 mm_fu (by omega) (by have := mm_fu_ge; omega)
theorem c_grey {C : mm_M} {o : Nat} {L : LV} (h : lC C o L) (hw : lw L) : fn_X2_greyOfAll o C = some (nI (lv_sum (L 2) (L 0 0)), C) := by
  unfold fn_X2_greyOfAll
  rw [c_sum h.1 (fun i hi => (h.2.2.2.2 i hi).2.1) hw.1 (by omega)]
  rfl
theorem c_wet {C : mm_M} {o : Nat} {L : LV} (h : lC C o L) (hw : lw L) : fn_X2_wetOfAll o C = some (nI (lv_sum (L 3) (L 0 0)), C) := by
  unfold fn_X2_wetOfAll
  rw [c_sum h.1 (fun i hi => (h.2.2.2.2 i hi).2.2.1) hw.1 (by omega)]
  rfl
theorem c_suns {C : mm_M} {o : Nat} {L : LV} (h : lC C o L) : fn_X2_sunOfAll o C = some (nI (lv_sum (L 6) 7), C) := by
  unfold fn_X2_sunOfAll
  rw [c_sum (n := 7) (c := 7) rfl h.2.2.2.1 (by omega) (by omega)]
  rfl
