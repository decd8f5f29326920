/-! a day of the class -/
/-- all but the laundry at o stands -/
def c_fr (o : Nat) (C C' : mm_M) : Prop := ∀ a, a < o ∨ o + 6 < a → C' a = C a
theorem c_fr_rf (o : Nat) (C : mm_M) : c_fr o C C := fun _ _ => rfl
theorem c_fr_tr {o : Nat} {A B C : mm_M} (h1 : c_fr o A B) (h2 : c_fr o B C) : c_fr o A C := fun a h => (h2 a h).trans (h1 a h)
theorem c_fr_up {o : Nat} (C : mm_M) {a : Nat} (j : Nat) (v : Int32) (h : o ≤ a ∧ a ≤ o + 6) : c_fr o C (mm_up C a j v) := fun b hb => pu_upr _ _ _ (by omega)
theorem lv_bo_stop (m : Nat) : ∀ (i : Nat) (x : LV × Nat), ¬ x.2 < x.1 5 1 → it lv_bo i m x = x := by
  induction m with
  | zero => intro i x _; rfl
  | succ m ih =>
    intro i x h
    have e : lv_bo i x = x := by
      unfold lv_bo
      rw [if_neg (fun q => h q.1)]
    rw [it, e]
    exact ih _ x h
theorem c_boil_L (o : Nat) (k : mm_M → Option mm_M) : ∀ m i fuel (C : mm_M) (L : LV) (b : Nat), lC C o L → lw L → i + m = L 0 0 → m < fuel → b ≤ i → C o 2 = nI b →
    ∃ C', fn_X2_boilBatch_L16 o k fuel (nI (lv_cnt (L 4) 1 (L 0 0))) (nI i) C = k C' ∧ lC C' o (it lv_bo i m (L, b)).1 ∧ C' o 2 = nI (it lv_bo i m (L, b)).2 ∧ c_fr o C C' := by
  intro m
  induction m with
  | zero =>
    intro i fuel C L b h hw hi hf hb h2
    have hn := hw.1
    obtain ⟨f, rfl⟩ : ∃ f, fuel = f + 1 := ⟨fuel - 1, by omega⟩
    have : i = L 0 0 := by omega
    subst this
    refine ⟨C, ?_, h, h2, c_fr_rf o C⟩
    rw [fn_X2_boilBatch_L16, h.1, if_pos (nI_le (Nat.le_refl _) (by omega))]
  | succ m ih =>
    intro i fuel C L b h hw hi hf hb h2
    have hn := hw.1
    obtain ⟨f, rfl⟩ : ∃ f, fuel = f + 1 := ⟨fuel - 1, by omega⟩
    obtain ⟨d1, d2, d3, d4⟩ := h.2.2.2.2 i (by omega)
    obtain ⟨w1, w2, w3, w4⟩ := hw.2.2.2 i (by omega)
    have hr := hw.2.1
    have e1 := h.2.2.1 1 (by omega)
    rw [fn_X2_boilBatch_L16, h.1, if_neg (nI_ge (by omega) (by omega)), e1, h2]
    by_cases hlt : b < L 5 1
    · rw [if_neg (nI_ge hlt (by omega)), if_pos (pu_in (by omega) (by omega)), nI_clamp (by omega), d4]
      rw [it]
      by_cases e0 : L 4 i = 0
      · rw [if_pos (by rw [e0]; rfl), nI_1]
        simp only [mm_let]
        have h9 := lC_up2 h (nI (b + 1))
        have e2 : (mm_up C o 2 (nI (b + 1))) (o + 2) i = nI (L 2 i) := by rw [pu_upr _ _ _ (by omega)]; exact d2
        have hsc : lv_scr L i ≤ 9 := by
          unfold lv_scr
          split
          · omega
          · split <;> omega
        rw [c_scrubs h9 hw (by omega)]
        simp only [Option.bind_some]
        rw [e2, pm_max0 (by omega) (by omega)]
        have h11 := lC_up h9 2 i (L 2 i - lv_scr L i) (by omega)
        have e4 : (mm_up (mm_up C o 2 (nI (b + 1))) (o + 2) i (nI (L 2 i - lv_scr L i))) (o + 5) 4 = nI (L 5 4) := by
          rw [pu_upr _ _ _ (by omega), pu_upr _ _ _ (by omega)]
          exact h.2.2.1 4 (by omega)
        rw [e4]
        have h12 := lC_up h11 3 i (L 5 4) (by omega)
        have e5 : (mm_up (mm_up (mm_up C o 2 (nI (b + 1))) (o + 2) i (nI (L 2 i - lv_scr L i))) (o + 3) i (nI (L 5 4))) (o + 5) 2 = nI (L 5 2) := by
          rw [pu_upr _ _ _ (by omega), pu_upr _ _ _ (by omega), pu_upr _ _ _ (by omega)]
          exact h.2.2.1 2 (by omega)
        have e6 : (mm_up (mm_up (mm_up C o 2 (nI (b + 1))) (o + 2) i (nI (L 2 i - lv_scr L i))) (o + 3) i (nI (L 5 4))) o 2 = nI (b + 1) := by
          rw [pu_upr _ _ _ (by omega), pu_upr _ _ _ (by omega), pu_up, if_pos ⟨rfl, rfl⟩]
        have f12 : c_fr o C (mm_up (mm_up (mm_up C o 2 (nI (b + 1))) (o + 2) i (nI (L 2 i - lv_scr L i))) (o + 3) i (nI (L 5 4))) :=
          c_fr_tr (c_fr_up C _ _ (by omega)) (c_fr_tr (c_fr_up _ _ _ (by omega)) (c_fr_up _ _ _ (by omega)))
        rw [e5]
        have hok : lv_ok L (lv_bo i (L, b)).1 := lv_bo_ok i (L, b) (show i < L 0 0 by omega)
        have hbo : lv_bo i (L, b) = (lu (lu (lu L 2 i (L 2 i - lv_scr L i)) 3 i (L 5 4)) 4 i (if lv_cnt (L 4) 1 (L 0 0) < L 5 2 then 1 else 0), b + 1) := by
          unfold lv_bo
          rw [if_pos ⟨hlt, e0⟩]
        rw [hbo] at hok ⊢
        simp only [] at hok
        have hcl := lv_cnt_le (L 4) 1 (L 0 0)
        have row4 : lu (lu L 2 i (L 2 i - lv_scr L i)) 3 i (L 5 4) 4 = L 4 := by
          rw [lu_ne _ _ _ (by omega : (4 : Nat) ≠ 3), lu_ne _ _ _ (by omega : (4 : Nat) ≠ 2)]
        by_cases hp : lv_cnt (L 4) 1 (L 0 0) < L 5 2
        · rw [if_neg (nI_ge hp (by omega)), nI_1, nI_1]
          rw [if_pos hp] at hok ⊢
          have h14 := lC_up h12 4 i 1 (by omega)
          have n14 : (lu (lu (lu L 2 i (L 2 i - lv_scr L i)) 3 i (L 5 4)) 4 i 1) 0 0 = L 0 0 := by rw [hok.1.1]
          have c14 : lv_cnt ((lu (lu (lu L 2 i (L 2 i - lv_scr L i)) 3 i (L 5 4)) 4 i 1) 4) 1 (L 0 0) = lv_cnt (L 4) 1 (L 0 0) + 1 := by
            have : (lu (lu (lu L 2 i (L 2 i - lv_scr L i)) 3 i (L 5 4)) 4 i 1) 4 = fun y => if y = i then 1 else L 4 y := by
              funext y
              have := congrFun row4 y
              simp only [lu] at this ⊢
              by_cases hy : y = i <;> simp [hy]
            rw [this]
            exact lv_cnt_up (by omega) (by omega)
          obtain ⟨C', q1, q2, q3, q4⟩ := ih (i + 1) f _ _ (b + 1) h14 (hok.2.1 hw) (by omega) (by omega) (by omega) (by rw [pu_upr _ _ _ (by omega)]; exact e6)
          rw [n14, c14] at q1
          exact ⟨C', q1, q2, q3, c_fr_tr f12 (c_fr_tr (c_fr_up _ _ _ (by omega)) q4)⟩
        · rw [if_pos (nI_le (by omega) (by omega)), nI_1]
          rw [if_neg hp, lu_same (by rw [row4]; exact e0)] at hok ⊢
          have n14 : (lu (lu L 2 i (L 2 i - lv_scr L i)) 3 i (L 5 4)) 0 0 = L 0 0 := by rw [hok.1.1]
          obtain ⟨C', q1, q2, q3, q4⟩ := ih (i + 1) f _ _ (b + 1) h12 (hok.2.1 hw) (by omega) (by omega) (by omega) e6
          rw [n14, row4] at q1
          exact ⟨C', q1, q2, q3, c_fr_tr f12 q4⟩
      · have hbo : lv_bo i (L, b) = (L, b) := by
          unfold lv_bo
          rw [if_neg (fun q => e0 q.2)]
        rw [if_neg (nI_ne0 (by omega) (by omega)), nI_1, hbo]
        exact ih (i + 1) f C L b h hw (by omega) (by omega) (by omega) h2
    · rw [if_pos (nI_le (by omega) (by omega))]
      refine ⟨C, rfl, ?_, ?_, c_fr_rf o C⟩
      · rw [lv_bo_stop _ _ _ hlt]
        exact h
      · rw [lv_bo_stop _ _ _ hlt]
        exact h2
theorem c_boil {C : mm_M} {o : Nat} {L : LV} (h : lC C o L) (hw : lw L) : ∃ C', fn_X2_boilBatch o C = some C' ∧ lC C' o (lv_B L).1 ∧ C' o 2 = nI (lv_B L).2 ∧ c_fr o C C' := by
  have hn := hw.1
  unfold fn_X2_boilBatch
  rw [c_who h hw (v := 1) (c1 := 1) rfl (by omega)]
  simp only [Option.bind_some]
  rw [c_many hn]
  simp only [Option.bind_some, mm_let]
  obtain ⟨C', q1, q2, q3, q4⟩ := c_boil_L o (fun M => some M) (L 0 0) 0 mm_fu _ L 0 (lC_up2 h 0) hw (by omega) (by have := mm_fu_ge; omega) (by omega) (by rw [pu_up, if_pos ⟨rfl, rfl⟩]; rfl)
  exact ⟨C', q1, q2, q3, c_fr_tr (c_fr_up _ _ _ (by omega)) q4⟩
theorem c_dry_L (o sky : Nat) (hs : sky ≤ 9) (c3 : Int32) (hc3 : c3 = nI (lv_bl sky)) (k : Int32 → mm_M → Option (Int32 × mm_M)) : ∀ m i fuel (C : mm_M) (L : LV) (b : Nat), lC C o L → lw L → i + m = L 0 0 → m < fuel →
    ∃ C', fn_X2_dryLine_L16 o (nI sky) c3 k fuel (nI b) (nI i) C = k (nI (it (lv_ha sky) i m (L, b)).2) C' ∧ lC C' o (it (lv_ha sky) i m (L, b)).1 ∧ C' o 2 = C o 2 ∧ c_fr o C C' := by
  subst hc3
  have hbl : lv_bl sky ≤ 1 := by
    unfold lv_bl
    split <;> omega
  intro m
  induction m with
  | zero =>
    intro i fuel C L b h hw hi hf
    have hn := hw.1
    obtain ⟨f, rfl⟩ : ∃ f, fuel = f + 1 := ⟨fuel - 1, by omega⟩
    have : i = L 0 0 := by omega
    subst this
    refine ⟨C, ?_, h, rfl, c_fr_rf o C⟩
    rw [fn_X2_dryLine_L16, h.1, if_pos (nI_le (Nat.le_refl _) (by omega))]
    rfl
  | succ m ih =>
    intro i fuel C L b h hw hi hf
    have hn := hw.1
    obtain ⟨f, rfl⟩ : ∃ f, fuel = f + 1 := ⟨fuel - 1, by omega⟩
    obtain ⟨d1, d2, d3, d4⟩ := h.2.2.2.2 i (by omega)
    obtain ⟨w1, w2, w3, w4⟩ := hw.2.2.2 i (by omega)
    have hr := hw.2.1
    rw [fn_X2_dryLine_L16, h.1, if_neg (nI_ge (by omega) (by omega)), if_pos (pu_in (by omega) (by omega)), nI_clamp (by omega), d4, it]
    have hok : lv_ok L (lv_ha sky i (L, b)).1 := lv_ha_ok sky i (L, b) (show i < L 0 0 by omega)
    by_cases e1 : L 4 i = 1
    · rw [if_pos (by rw [e1]; rfl), c_dries h hw (by omega) hs]
      simp only [Option.bind_some, mm_let]
      have hdr : lv_dry L i sky ≤ 18 := by
        unfold lv_dry
        split
        · omega
        · split <;> omega
      rw [d3, pm_max0 (by omega) (by omega)]
      have h6 := lC_up h 3 i (L 3 i - lv_dry L i sky) (by omega)
      have e2 : (mm_up C (o + 3) i (nI (L 3 i - lv_dry L i sky))) (o + 2) i = nI (L 2 i) := by rw [pu_upr _ _ _ (by omega)]; exact d2
      rw [e2, pm_max0 (by omega) (by omega)]
      have h7 := lC_up h6 2 i (L 2 i - lv_bl sky) (by omega)
      have e3 : (mm_up (mm_up C (o + 3) i (nI (L 3 i - lv_dry L i sky))) (o + 2) i (nI (L 2 i - lv_bl sky))) (o + 3) i = nI (L 3 i - lv_dry L i sky) := by
        rw [pu_upr _ _ _ (by omega), pu_up, if_pos ⟨rfl, rfl⟩]
      have e4 : (mm_up (mm_up C (o + 3) i (nI (L 3 i - lv_dry L i sky))) (o + 2) i (nI (L 2 i - lv_bl sky))) (o + 5) 3 = nI (L 5 3) := by
        rw [pu_upr _ _ _ (by omega), pu_upr _ _ _ (by omega)]
        exact h.2.2.1 3 (by omega)
      have e5 : (mm_up (mm_up C (o + 3) i (nI (L 3 i - lv_dry L i sky))) (o + 2) i (nI (L 2 i - lv_bl sky))) (o + 2) i = nI (L 2 i - lv_bl sky) := by
        rw [pu_up, if_pos ⟨rfl, rfl⟩]
      have e6 : (mm_up (mm_up C (o + 3) i (nI (L 3 i - lv_dry L i sky))) (o + 2) i (nI (L 2 i - lv_bl sky))) o 2 = C o 2 := by
        rw [pu_upr _ _ _ (by omega), pu_upr _ _ _ (by omega)]
      have f7 : c_fr o C (mm_up (mm_up C (o + 3) i (nI (L 3 i - lv_dry L i sky))) (o + 2) i (nI (L 2 i - lv_bl sky))) :=
        c_fr_tr (c_fr_up C _ _ (by omega)) (c_fr_up _ _ _ (by omega))
      rw [e3, e4, e5]
      have hin := pu_in (i := i) (n := 6) (by omega) (by omega)
      by_cases z : L 3 i - lv_dry L i sky = 0
      · rw [if_pos (by rw [z]; rfl)]
        by_cases y : L 2 i - lv_bl sky ≤ L 5 3
        · have hha : lv_ha sky i (L, b) = (lu (lu (lu L 3 i (L 3 i - lv_dry L i sky)) 2 i (L 2 i - lv_bl sky)) 4 i 2, b + 1) := by
            unfold lv_ha
            rw [if_pos e1, if_pos z, if_pos y]
          rw [hha] at hok ⊢
          simp only [] at hok
          rw [if_neg (nI_nlt y (by omega)), fn_X2_dryLine_B113, if_neg (by decide), if_pos hin, nI_clamp (by omega)]
          simp only [mm_let]
          rw [nI_1, nI_1]
          obtain ⟨C', q1, q2, q3, q4⟩ := ih (i + 1) f _ _ (b + 1) (lC_up h7 4 i 2 (by omega)) (hok.2.1 hw) (by rw [hok.1.1]; omega) (by omega)
          exact ⟨C', q1, q2, by rw [q3, pu_upr _ _ _ (by omega)]; exact e6, c_fr_tr f7 (c_fr_tr (c_fr_up _ _ _ (by omega)) q4)⟩
        · have hha : lv_ha sky i (L, b) = (lu (lu (lu L 3 i (L 3 i - lv_dry L i sky)) 2 i (L 2 i - lv_bl sky)) 4 i 0, b) := by
            unfold lv_ha
            rw [if_pos e1, if_pos z, if_neg y]
          rw [hha] at hok ⊢
          simp only [] at hok
          rw [if_pos (nI_lt (by omega) (by omega)), fn_X2_dryLine_B113, if_pos rfl, if_pos hin, nI_clamp (by omega)]
          simp only [mm_let]
          rw [nI_1, show nI b + 0 = nI b from nI_add b 0]
          obtain ⟨C', q1, q2, q3, q4⟩ := ih (i + 1) f _ _ b (lC_up h7 4 i 0 (by omega)) (hok.2.1 hw) (by rw [hok.1.1]; omega) (by omega)
          exact ⟨C', q1, q2, by rw [q3, pu_upr _ _ _ (by omega)]; exact e6, c_fr_tr f7 (c_fr_tr (c_fr_up _ _ _ (by omega)) q4)⟩
      · have hha : lv_ha sky i (L, b) = (lu (lu L 3 i (L 3 i - lv_dry L i sky)) 2 i (L 2 i - lv_bl sky), b) := by
          unfold lv_ha
          rw [if_pos e1, if_neg z]
        rw [hha] at hok ⊢
        simp only [] at hok
        rw [if_neg (nI_ne0 (by omega) (by omega)), nI_1]
        obtain ⟨C', q1, q2, q3, q4⟩ := ih (i + 1) f _ _ b h7 (hok.2.1 hw) (by rw [hok.1.1]; omega) (by omega)
        exact ⟨C', q1, q2, q3.trans e6, c_fr_tr f7 q4⟩
    · have hha : lv_ha sky i (L, b) = (L, b) := by
        unfold lv_ha
        rw [if_neg e1]
      have hne : ¬ nI (L 4 i) = 1 := fun q => e1 ((nI_eq (b := 1) (by omega) (by omega)).mp q)
      rw [hha, if_neg hne, nI_1]
      exact ih (i + 1) f C L b h hw (by omega) (by omega)
theorem c_day {C : mm_M} {o : Nat} {L : LV} (h : lC C o L) (hw : lw L) {sky : Nat} (hs : sky ≤ 9) : ∃ C', fn_X2_passDay o (nI sky) C = some (nI (lv_H sky L).2, C') ∧ lC C' o (lv_D sky L) ∧ C' o 2 = nI (lv_B L).2 ∧ c_fr o C C' := by
  have hn := hw.1
  obtain ⟨C1, p1, p2, p3, p4⟩ := c_boil h hw
  have hok := lv_B_ok L
  have hn1 : (lv_B L).1 0 0 = L 0 0 := by rw [hok.1.1]
  have hd : ∃ C2, fn_X2_dryLine o (nI sky) C1 = some (nI (lv_H sky L).2, C2) ∧ lC C2 o (lv_H sky L).1 ∧ C2 o 2 = C1 o 2 ∧ c_fr o C1 C2 := by
    unfold fn_X2_dryLine
    by_cases e : sky < 5
    · rw [if_pos (show nI sky < 5 from nI_lt (b := 5) e (by omega))]
      exact c_dry_L o sky hs 0 (by unfold lv_bl; rw [if_pos e]; rfl) (fun x M => some (x, M)) (L 0 0) 0 mm_fu C1 (lv_B L).1 0 p2 (hok.2.1 hw) (by omega) (by have := mm_fu_ge; omega)
    · rw [if_neg (show ¬ nI sky < 5 from nI_nlt (b := 5) (by omega) (by omega))]
      exact c_dry_L o sky hs 1 (by unfold lv_bl; rw [if_neg e]; rfl) (fun x M => some (x, M)) (L 0 0) 0 mm_fu C1 (lv_B L).1 0 p2 (hok.2.1 hw) (by omega) (by have := mm_fu_ge; omega)
  obtain ⟨C2, r1, r2, r3, r4⟩ := hd
  have hk := (lv_H_ok sky L).1
  refine ⟨mm_up C2 o 1 (nI (L 0 1 + 1)), ?_, ?_, ?_, c_fr_tr p4 (c_fr_tr r4 (c_fr_up _ _ _ (by omega)))⟩
  · unfold fn_X2_passDay
    rw [p1]
    simp only [Option.bind_some]
    rw [r1]
    simp only [Option.bind_some, mm_let]
    rw [r2.2.1, hk.1, nI_1]
  · exact lC_up (a := 0) r2 1 (L 0 1 + 1) (by omega)
  · rw [pu_up, if_neg (by omega), r3, p3]
/-! a laundry becomes another -/
theorem c_become {C : mm_M} (o q : Nat) {L : LV} (h : lC C q L) (hn : L 0 0 ≤ 6) (ho : o + 6 < q ∨ q + 6 < o) : ∃ C', fn_X2_become o q C = some C' ∧ lC C' o L ∧ c_fr o C C' := by
  obtain ⟨h1, h2, h3, h4, h5⟩ := h
  have hne : ∀ x y, x ≤ 6 → y ≤ 6 → q + x ≠ o + y := fun x y hx hy => by omega
  refine ⟨_, rfl, ⟨?_, ?_, ?_, ?_, ?_⟩, ?_⟩
  · simp only [pu_up, mm_row, mm_let]
    simp [pu_up]
    exact h1
  · simp only [pu_up, mm_row, mm_let]
    have e1 : q ≠ o := by omega
    simp [e1, pu_up]
    exact h2
  · intro j hj
    have e1 : q + 5 ≠ o := by omega
    have e2 : q + 5 ≠ o + 1 := by omega
    have e3 : q + 5 ≠ o + 2 := by omega
    have e4 : q + 5 ≠ o + 3 := by omega
    have e5 : q + 5 ≠ o + 4 := by omega
    simp only [pu_upr, mm_row]
    simp [e1, e2, e3, e4, e5, mm_up, mm_row]
    rw [pk_cpy_in (by omega) (by omega)]
    simpa using h3 j hj
  · intro j hj
    have e1 : q + 6 ≠ o := by omega
    have e2 : q + 6 ≠ o + 1 := by omega
    have e3 : q + 6 ≠ o + 2 := by omega
    have e4 : q + 6 ≠ o + 3 := by omega
    have e5 : q + 6 ≠ o + 4 := by omega
    have e6 : q + 6 ≠ o + 5 := by omega
    simp only [pu_upr, mm_row]
    simp [e1, e2, e3, e4, e5, e6, mm_up, mm_row]
    rw [pk_cpy_in (by omega) (by omega)]
    simpa using h4 j hj
  · intro j hj
    obtain ⟨a1, a2, a3, a4⟩ := h5 j hj
    have k1 : ∀ x, x ≤ 4 → q + x ≠ o := fun x hx => by omega
    have k2 : ∀ x y, x ≤ 4 → y ≤ 6 → q + x ≠ o + y := fun x y hx hy => by omega
    have hj6 : j < 6 := by omega
    refine ⟨?_, ?_, ?_, ?_⟩
    · simp [mm_up, mm_row, k1 1 (by omega)]
      rw [pk_cpy_in (by omega) (by omega)]
      simpa using a1
    · simp [mm_up, mm_row, k1 2 (by omega), k2 2 1 (by omega) (by omega)]
      rw [pk_cpy_in (by omega) (by omega)]
      simpa using a2
    · simp [mm_up, mm_row, k1 3 (by omega), k2 3 1 (by omega) (by omega), k2 3 2 (by omega) (by omega)]
      rw [pk_cpy_in (by omega) (by omega)]
      simpa using a3
    · simp [mm_up, mm_row, k1 4 (by omega), k2 4 1 (by omega) (by omega), k2 4 2 (by omega) (by omega), k2 4 3 (by omega) (by omega)]
      rw [pk_cpy_in (by omega) (by omega)]
      simpa using a4
  · intro a ha
    simp only [mm_up, mm_row, mm_let]
    have b0 : a ≠ o := by omega
    have b1 : a ≠ o + 1 := by omega
    have b2 : a ≠ o + 2 := by omega
    have b3 : a ≠ o + 3 := by omega
    have b4 : a ≠ o + 4 := by omega
    have b5 : a ≠ o + 5 := by omega
    have b6 : a ≠ o + 6 := by omega
    simp [b0, b1, b2, b3, b4, b5, b6]
