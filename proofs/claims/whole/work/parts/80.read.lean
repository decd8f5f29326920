/-! count, read -/
theorem r_suns_L {R : mm_M} {L : LV} (h : lR (R 2) L) (c1 : Int32) (k : Int32 → mm_M → Option (Int32 × mm_M)) : ∀ m i fuel, i + m = 7 → m < fuel → fn_X8_count_L8 c1 k fuel (nI (lv_sum (L 6) i)) (nI i) R = k (nI (lv_sum (L 6) 7)) R := by
  intro m
  induction m with
  | zero =>
    intro i fuel hi hf
    obtain ⟨f, rfl⟩ : ∃ f, fuel = f + 1 := ⟨fuel - 1, by omega⟩
    have : i = 7 := by omega
    subst this
    rw [fn_X8_count_L8, if_pos (by decide)]
  | succ m ih =>
    intro i fuel hi hf
    obtain ⟨f, rfl⟩ : ∃ f, fuel = f + 1 := ⟨fuel - 1, by omega⟩
    rw [fn_X8_count_L8, if_neg (show ¬ (7 : Int32) ≤ nI i from nI_ge (b := 7) (by omega) (by omega)), show (30 : Int32) + nI i = nI (30 + i) from nI_add 30 i, if_pos (pu_in (by omega) (by omega)), nI_clamp (by omega), h.2.2.2.1 i (by omega)]
    simp only [mm_let]
    rw [nI_add, nI_1]
    exact ih (i + 1) f (by omega) (by omega)
theorem c_kept (C : mm_M) {x y : Int32} (h0 : C 90 0 = x) (h1 : C 102 0 = y) (hx : x = 0 ∨ x = 1) (hy : y = 0 ∨ y = 1) : fn_X7_imagesKept C = some (x + y, C) := by
  unfold fn_X7_imagesKept
  obtain ⟨f, hf⟩ : ∃ f, mm_fu = f + 1 + 1 + 1 := ⟨mm_fu - 3, by have := mm_fu_ge; omega⟩
  have i0 : mm_in 0 2 = true := by decide
  have i1 : mm_in (0 + 1) 2 = true := by decide
  have c0 : (0 : Int32).toNatClampNeg = 0 := by decide
  have c1 : (0 + 1 : Int32).toNatClampNeg = 1 := by decide
  rw [hf, fn_X7_imagesKept_L4, if_neg (by decide), if_pos i0, c0]
  simp only [mm_let, Nat.mul_zero, Nat.add_zero, h0]
  have fin : ∀ z : Int32, fn_X7_imagesKept_L4 (fun x1_6 M_7 => some (x1_6, M_7)) (f + 1 + 1) z (0 + 1) C = some (z + y, C) := fun z => by
    rw [fn_X7_imagesKept_L4, if_neg (by decide), if_pos i1, c1]
    simp only [mm_let, Nat.mul_one, show (90 + 12 : Nat) = 102 from rfl, h1]
    rcases hy with rfl | rfl
    · rw [if_pos rfl, fn_X7_imagesKept_L4, if_pos (by decide)]
    · rw [if_neg (by decide), fn_X7_imagesKept_L4, if_pos (by decide)]
  rcases hx with rfl | rfl
  · rw [if_pos rfl, fin]
    rfl
  · rw [if_neg (by decide), fin]
    rfl
theorem r_flag01 (R : mm_M) {x : Int32} (hx : x = 0 ∨ x = 1) : fn_X8_flag x R = some (x, R) := by
  rcases hx with rfl | rfl <;> rfl
theorem so_count : sj_count sm_S := by
  intro C R h w
  obtain ⟨L, hw, hd, hc, hr, hsn⟩ := sm_L h
  obtain ⟨R1, b1, b2, b3, b4, b5, b6⟩ := r_begin hr hw
  have hS := sm_scr h (c_sc_rf C) (r_sc_of b6)
  have e1 := b6.1 1 (by omega) (by omega)
  have e3 := b6.1 3 (by omega) (by omega)
  have e8 := b6.1 8 (by omega) (by omega)
  have e9 := b6.1 9 (by omega) (by omega)
  have e07 := b6.2 7 (by omega) (by omega)
  obtain ⟨m, sa, sb, sc, hm, g1, g2, g3⟩ := hsn
  obtain ⟨t, tb, t1, t2, t3, t4⟩ := h.2.1
  have im : ∀ e, e < 2 → ∃ x : Int32, (x = 0 ∨ x = 1) ∧ C (90 + 12 * e) 0 = x ∧ R 3 e = x := fun e he => by
    rcases h.2.2.2.2.1 e he with ⟨f1, f2⟩ | ⟨f1, f2, -⟩
    · exact ⟨0, Or.inl rfl, f1, f2⟩
    · exact ⟨1, Or.inr rfl, f1, f2⟩
  obtain ⟨x0, hx0, x1, x2⟩ := im 0 (by omega)
  obtain ⟨y0, hy0, y1, y2⟩ := im 1 (by omega)
  obtain ⟨⟨len, hlen, l1, l2⟩, hlane, -⟩ := h.2.2.2.2.2 0 (by omega)
  have hsun : ∀ k, fn_X8_count_L8 w k mm_fu 0 0 R1 = k (nI (lv_sum (L 6) 7)) R1 := fun k => r_suns_L b2 w k 7 0 mm_fu (by omega) (by have := mm_fu_ge; omega)
  have hl1 : C 114 1 = nI len := l1
  have hl2 : R 9 0 = nI len := l2
  have hk := c_kept C x1 y1 hx0 hy0
  have go : ∀ r : Int32, ∃ r' C' R', some (r, C) = some (r', C') ∧ some (r, R1) = some (r', R') ∧ sm_S C' R' := fun r => ⟨r, C, R1, rfl, rfl, hS⟩
  unfold fn_X7_count fn_X8_count
  simp only [b1, Option.bind_some, hsun, e1, e3, e8, e9, e07, g1, g2, t2, t3, hk, r_flag01 R1 (x := R 3 0) (by rw [x2]; exact hx0), r_flag01 R1 (x := R 3 1) (by rw [y2]; exact hy0), c_wet hc hw, c_suns hc, r_sum b2 hw (v := 2) (c1 := 2) rfl (by omega)]
  by_cases n0 : w = 0
  · simp only [if_pos n0]
    exact go _
  · simp only [if_neg n0]
    by_cases n1 : w = 1
    · simp only [if_pos n1]
      rw [x2, y2]
      exact go _
    · simp only [if_neg n1]
      by_cases n2 : w = 2
      · simp only [if_pos n2]
        exact go _
      · simp only [if_neg n2]
        by_cases n3 : w = 3
        · simp only [if_pos n3, fn_X4_isNothing]
          rcases hlane with ⟨f1, f2⟩ | ⟨l, hl, f1, f2⟩
          · have f1' : C 114 0 = -1 := f1
            rw [f2, if_pos f1', if_pos rfl]
            exact go _
          · have f1' : C 114 0 = nI l := f1
            have q1 : ¬ nI l = (-1 : Int32) := fun q => by
              have := nI_pos (n := l) (by omega)
              rw [q] at this
              exact this (by decide)
            rw [f2, if_neg (by rw [f1']; exact q1), if_neg (nI_m4 (by omega)), hl2]
            simp only [Option.bind_some]
            rw [if_pos trivial, hl1]
            exact go _
        · simp only [if_neg n3]
          by_cases n4 : w = 4
          · simp only [if_pos n4]
            exact go _
          · simp only [if_neg n4]
            by_cases n5 : w = 5
            · simp only [if_pos n5]
              exact go _
            · simp only [if_neg n5]
              exact go _
