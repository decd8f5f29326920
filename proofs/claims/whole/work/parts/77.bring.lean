/-! one more is brought -/
def lv_ad (L : LV) (a b : Nat) : LV := lu (lu (lu (lu (lu L 1 (L 0 0) a) 2 (L 0 0) b) 3 (L 0 0) 0) 4 (L 0 0) 0) 0 0 (L 0 0 + 1)
theorem lC_grow {C : mm_M} {o : Nat} {M : LV} (h : lC C o M) (h1 : C (o + 1) (M 0 0) = nI (M 1 (M 0 0))) (h2 : C (o + 2) (M 0 0) = nI (M 2 (M 0 0))) (h3 : C (o + 3) (M 0 0) = nI (M 3 (M 0 0))) (h4 : C (o + 4) (M 0 0) = nI (M 4 (M 0 0))) : lC (mm_up C o 0 (nI (M 0 0 + 1))) o (lu M 0 0 (M 0 0 + 1)) := by
  obtain ⟨g1, g2, g3, g4, g5⟩ := h
  refine ⟨?_, ?_, fun j hj => ?_, fun j hj => ?_, fun i hi => ?_⟩
  · rw [pu_up, if_pos ⟨rfl, rfl⟩, lu_at]
  · rw [pu_up, if_neg (by omega), lu_nj _ _ _ (by omega : (1 : Nat) ≠ 0)]
    exact g2
  · rw [pu_upr _ _ _ (by omega), lu_ne _ _ _ (by omega : (5 : Nat) ≠ 0)]
    exact g3 j hj
  · rw [pu_upr _ _ _ (by omega), lu_ne _ _ _ (by omega : (6 : Nat) ≠ 0)]
    exact g4 j hj
  · rw [lu_at] at hi
    rw [pu_upr _ _ _ (by omega), pu_upr _ _ _ (by omega), pu_upr _ _ _ (by omega), pu_upr _ _ _ (by omega), lu_ne _ _ _ (by omega : (1 : Nat) ≠ 0), lu_ne _ _ _ (by omega : (2 : Nat) ≠ 0), lu_ne _ _ _ (by omega : (3 : Nat) ≠ 0), lu_ne _ _ _ (by omega : (4 : Nat) ≠ 0)]
    by_cases e : i = M 0 0
    · rw [e]
      exact ⟨h1, h2, h3, h4⟩
    · exact g5 i (by omega)
theorem lR_grow {f : Nat → Int32} {M : LV} (h : lR f M) (hn : M 0 0 < 6) (h1 : ∀ c, c < 4 → f (4 * M 0 0 + c) = nI (M (1 + c) (M 0 0))) : lR (upd f 24 (nI (M 0 0 + 1))) (lu M 0 0 (M 0 0 + 1)) := by
  obtain ⟨g1, g2, g3, g4, g5⟩ := h
  refine ⟨?_, ?_, fun j hj => ?_, fun j hj => ?_, fun i hi => ?_⟩
  · rw [upd, if_pos rfl, lu_at]
  · rw [upd, if_neg (by omega), lu_nj _ _ _ (by omega : (1 : Nat) ≠ 0)]
    exact g2
  · rw [upd, if_neg (by omega), lu_ne _ _ _ (by omega : (5 : Nat) ≠ 0)]
    exact g3 j hj
  · rw [upd, if_neg (by omega), lu_ne _ _ _ (by omega : (6 : Nat) ≠ 0)]
    exact g4 j hj
  · rw [lu_at] at hi
    rw [upd, upd, upd, upd, if_neg (by omega), if_neg (by omega), if_neg (by omega), if_neg (by omega), lu_ne _ _ _ (by omega : (1 : Nat) ≠ 0), lu_ne _ _ _ (by omega : (2 : Nat) ≠ 0), lu_ne _ _ _ (by omega : (3 : Nat) ≠ 0), lu_ne _ _ _ (by omega : (4 : Nat) ≠ 0)]
    by_cases e : i = M 0 0
    · rw [e]
      exact ⟨h1 0 (by omega), h1 1 (by omega), h1 2 (by omega), h1 3 (by omega)⟩
    · exact g5 i (by omega)
theorem lv_ad_k (L : LV) (a b : Nat) : (lv_ad L a b) 0 0 = L 0 0 + 1 ∧ (lv_ad L a b) 0 1 = L 0 1 ∧ (lv_ad L a b) 5 = L 5 ∧ (lv_ad L a b) 6 = L 6 := by
  unfold lv_ad
  refine ⟨lu_at _ _ _ _, ?_, ?_, ?_⟩
  · rw [lu_nj _ _ _ (by omega : (1 : Nat) ≠ 0), lu_ne _ _ _ (by omega : (0 : Nat) ≠ 4), lu_ne _ _ _ (by omega : (0 : Nat) ≠ 3), lu_ne _ _ _ (by omega : (0 : Nat) ≠ 2), lu_ne _ _ _ (by omega : (0 : Nat) ≠ 1)]
  · rw [lu_ne _ _ _ (by omega : (5 : Nat) ≠ 0), lu_ne _ _ _ (by omega : (5 : Nat) ≠ 4), lu_ne _ _ _ (by omega : (5 : Nat) ≠ 3), lu_ne _ _ _ (by omega : (5 : Nat) ≠ 2), lu_ne _ _ _ (by omega : (5 : Nat) ≠ 1)]
  · rw [lu_ne _ _ _ (by omega : (6 : Nat) ≠ 0), lu_ne _ _ _ (by omega : (6 : Nat) ≠ 4), lu_ne _ _ _ (by omega : (6 : Nat) ≠ 3), lu_ne _ _ _ (by omega : (6 : Nat) ≠ 2), lu_ne _ _ _ (by omega : (6 : Nat) ≠ 1)]
theorem lv_ad_w {L : LV} (hw : lw L) {a b : Nat} (ha : a ≤ 3) (hb : b ≤ 60) (hn : L 0 0 < 6) : lw (lv_ad L a b) := by
  obtain ⟨k1, k2, k3, k4⟩ := lv_ad_k L a b
  obtain ⟨h1, h2, h3, h4⟩ := hw
  unfold lw
  rw [k1, k3, k4]
  refine ⟨by omega, h2, h3, fun i hi => ?_⟩
  unfold lv_ad
  simp only [lu]
  by_cases e : i = L 0 0
  · simp [e]
    omega
  · have := h4 i (by omega)
    simp [e]
    exact this
def adC (C : mm_M) (o n : Nat) (a b : Int32) : mm_M := mm_up (mm_up (mm_up (mm_up (mm_up C (o + 1) n a) (o + 2) n b) (o + 3) n 0) (o + 4) n 0) o 0 (nI (n + 1))
theorem c_admit {C : mm_M} {o : Nat} {L : LV} (h : lC C o L) {a b : Nat} (ha : a ≤ 3) (hb : b ≤ 60) (hn : L 0 0 < 6) : fn_X2_admit o (nI a) (nI b) C = some (nI (L 0 0 + 1), adC C o (L 0 0) (nI a) (nI b)) ∧ lC (adC C o (L 0 0) (nI a) (nI b)) o (lv_ad L a b) := by
  have e3 : pw_b (nI a) 0 3 = 1 := by
    unfold pw_b
    rw [if_neg (nI_pos (by omega)), if_neg (show ¬ (3 : Int32) < nI a from nI_nlt (a := 3) (by omega) (by omega))]
  have e60 : pw_b (nI b) 0 60 = 1 := by
    unfold pw_b
    rw [if_neg (nI_pos (by omega)), if_neg (show ¬ (60 : Int32) < nI b from nI_nlt (a := 60) (by omega) (by omega))]
  have h0 : C o 0 = nI (L 0 0) := h.1
  have hin := pu_in (i := L 0 0) (n := 6) hn (by omega)
  have hcl : (nI (L 0 0)).toNatClampNeg = L 0 0 := nI_clamp (by omega)
  have z1 : ∀ x, (mm_up C (o + 1) (L 0 0) x) o 0 = nI (L 0 0) := fun x => by rw [pu_upr _ _ _ (by omega)]; exact h0
  have z2 : ∀ x y, (mm_up (mm_up C (o + 1) (L 0 0) x) (o + 2) (L 0 0) y) o 0 = nI (L 0 0) := fun x y => by rw [pu_upr _ _ _ (by omega)]; exact z1 x
  have z3 : ∀ x y z, (mm_up (mm_up (mm_up C (o + 1) (L 0 0) x) (o + 2) (L 0 0) y) (o + 3) (L 0 0) z) o 0 = nI (L 0 0) := fun x y z => by rw [pu_upr _ _ _ (by omega)]; exact z2 x y
  have z4 : ∀ x y z u, (mm_up (mm_up (mm_up (mm_up C (o + 1) (L 0 0) x) (o + 2) (L 0 0) y) (o + 3) (L 0 0) z) (o + 4) (L 0 0) u) o 0 = nI (L 0 0) := fun x y z u => by rw [pu_upr _ _ _ (by omega)]; exact z3 x y z
  refine ⟨?_, ?_⟩
  · simp only [fn_X2_admit, pw_C, Option.bind_some, e3, e60, h0, mm_let, hin, hcl, z1, z2, z3, z4, if_true, nI_1]
    rw [if_neg (by decide), if_neg (by decide), if_pos (show nI (L 0 0) < 6 from nI_lt (b := 6) hn (by omega)), pu_up, if_pos ⟨rfl, rfl⟩]
    rfl
  · have k := lC_up (lC_up (lC_up (lC_up h 1 (L 0 0) a (by omega)) 2 (L 0 0) b (by omega)) 3 (L 0 0) 0 (by omega)) 4 (L 0 0) 0 (by omega)
    have n0 : (lu (lu (lu (lu L 1 (L 0 0) a) 2 (L 0 0) b) 3 (L 0 0) 0) 4 (L 0 0) 0) 0 0 = L 0 0 := by
      rw [lu_ne _ _ _ (by omega : (0 : Nat) ≠ 4), lu_ne _ _ _ (by omega : (0 : Nat) ≠ 3), lu_ne _ _ _ (by omega : (0 : Nat) ≠ 2), lu_ne _ _ _ (by omega : (0 : Nat) ≠ 1)]
    have g := lC_grow k (by
        rw [n0]
        simp [pu_up, lu]) (by
        rw [n0]
        simp [pu_up, lu]) (by
        rw [n0]
        simp [pu_up, lu]) (by
        rw [n0]
        simp [pu_up, lu])
    rw [n0] at g
    exact g
def bC (n : Nat) (C C' : mm_M) : Prop := (∀ a, a = 0 ∨ 6 ≤ a → C' a = C a) ∧ C' 1 1 = C 1 1 ∧ ∀ r i, r < 4 → i < n → C' (2 + r) i = C (2 + r) i
def bR (R R' : mm_M) : Prop := (∀ a, a ≠ 1 → R' a = R a) ∧ ∀ j, 38 ≤ j → R' 1 j = R 1 j
theorem adC_b (C : mm_M) (n : Nat) (a b : Int32) : bC n C (adC C 1 n a b) := by
  unfold adC
  refine ⟨fun x hx => ?_, ?_, fun r i hr hi => ?_⟩
  · rw [pu_upr _ _ _ (by omega), pu_upr _ _ _ (by omega), pu_upr _ _ _ (by omega), pu_upr _ _ _ (by omega), pu_upr _ _ _ (by omega)]
  · rw [pu_up, if_neg (by omega), pu_upr _ _ _ (by omega), pu_upr _ _ _ (by omega), pu_upr _ _ _ (by omega), pu_upr _ _ _ (by omega)]
  · rw [pu_upr _ _ _ (by omega), pu_up, if_neg (by omega), pu_up, if_neg (by omega), pu_up, if_neg (by omega), pu_up, if_neg (by omega)]
theorem br_ok {C R : mm_M} {L : LV} (hc : lC C 1 L) (hr : lR (R 1) L) (hw : lw L) (c1 c2 : Int32) : ∃ (v : Int32) (C' R' : mm_M) (L' : LV), fn_X2_admit 1 c1 c2 C = some (v, C') ∧ fn_X8_bring c1 c2 R = some (v, R') ∧ lC C' 1 L' ∧ lR (R' 1) L' ∧ lw L' ∧ L' 0 1 = L 0 1 ∧ L 0 0 ≤ L' 0 0 ∧ bC (L 0 0) C C' ∧ bR R R' := by
  have h6 := hw.1
  have hc0 : C 1 0 = nI (L 0 0) := hc.1
  have hr0 : R 1 24 = nI (L 0 0) := hr.1
  have bCr : bC (L 0 0) C C := ⟨fun _ _ => rfl, rfl, fun _ _ _ _ => rfl⟩
  have bRr : bR R R := ⟨fun _ _ => rfl, fun _ _ => rfl⟩
  rcases pw_lit c1 3 (x := 3) rfl (by decide) with e | ⟨a, ha, rfl, e⟩
  · refine ⟨-1, C, R, L, ?_, ?_, hc, hr, hw, rfl, Nat.le_refl _, bCr, bRr⟩
    · simp [fn_X2_admit, pw_C, e]
    · simp [fn_X8_bring, pw_R3, e]
  · rcases pw_lit c2 60 (x := 60) rfl (by decide) with e2 | ⟨b, hb, rfl, e2⟩
    · refine ⟨-1, C, R, L, ?_, ?_, hc, hr, hw, rfl, Nat.le_refl _, bCr, bRr⟩
      · simp [fn_X2_admit, pw_C, e, e2]
      · simp [fn_X8_bring, pw_R3, e, pw_R60, e2]
    · by_cases hn : L 0 0 < 6
      · obtain ⟨p1, p2⟩ := c_admit hc ha hb hn
        obtain ⟨k1, k2, k3, k4⟩ := lv_ad_k L a b
        have e4 : ∀ c : Nat, nI (4 * L 0 0) + nI c = nI (4 * L 0 0 + c) := fun c => nI_add _ _
        have e40 : (4 : Int32) * nI (L 0 0) = nI (4 * L 0 0) := pk_mul 4 _
        refine ⟨_, _, mm_up (mm_up (mm_up (mm_up (mm_up R 1 (4 * L 0 0 + 0) (nI a)) 1 (4 * L 0 0 + 1) (nI b)) 1 (4 * L 0 0 + 2) 0) 1 (4 * L 0 0 + 3) 0) 1 24 (nI (L 0 0 + 1)), lv_ad L a b, p1, ?_, p2, ?_, lv_ad_w hw ha hb hn, k2, by omega, adC_b C _ _ _, ?_⟩
        · simp only [fn_X8_bring, pw_R3, pw_R60, Option.bind_some, e, e2, hr0, mm_let, e40]
          rw [if_neg (by decide), if_neg (by decide), if_neg (show ¬ nI (L 0 0) = 6 from fun q => by have := (nI_eq (b := 6) (by omega) (by omega)).mp q; omega)]
          rw [show nI (4 * L 0 0) + 0 = nI (4 * L 0 0 + 0) from e4 0, show nI (4 * L 0 0) + 1 = nI (4 * L 0 0 + 1) from e4 1, show nI (4 * L 0 0) + 2 = nI (4 * L 0 0 + 2) from e4 2, show nI (4 * L 0 0) + 3 = nI (4 * L 0 0 + 3) from e4 3]
          rw [if_pos (pu_in (by omega) (by omega)), if_pos (pu_in (by omega) (by omega)), if_pos (pu_in (by omega) (by omega)), if_pos (pu_in (by omega) (by omega)), nI_clamp (by omega), nI_clamp (by omega), nI_clamp (by omega), nI_clamp (by omega)]
          have z : (mm_up (mm_up (mm_up (mm_up R 1 (4 * L 0 0 + 0) (nI a)) 1 (4 * L 0 0 + 1) (nI b)) 1 (4 * L 0 0 + 2) 0) 1 (4 * L 0 0 + 3) 0) 1 24 = nI (L 0 0) := by
            rw [pu_up, if_neg (by omega), pu_up, if_neg (by omega), pu_up, if_neg (by omega), pu_up, if_neg (by omega)]
            exact hr0
          rw [z, nI_1, pu_up, if_pos ⟨rfl, rfl⟩]
        · have q := lR_one (lR_one (lR_one (lR_one hr 0 (L 0 0) a h6 hn (by omega)) 1 (L 0 0) b (by rw [lu_ne _ _ _ (by omega)]; exact h6) hn (by omega)) 2 (L 0 0) 0 (by rw [lu_ne _ _ _ (by omega), lu_ne _ _ _ (by omega)]; exact h6) hn (by omega)) 3 (L 0 0) 0 (by rw [lu_ne _ _ _ (by omega), lu_ne _ _ _ (by omega), lu_ne _ _ _ (by omega)]; exact h6) hn (by omega)
          have n0 : (lu (lu (lu (lu L (1 + 0) (L 0 0) a) (1 + 1) (L 0 0) b) (1 + 2) (L 0 0) 0) (1 + 3) (L 0 0) 0) 0 0 = L 0 0 := by
            rw [lu_ne _ _ _ (by omega), lu_ne _ _ _ (by omega), lu_ne _ _ _ (by omega), lu_ne _ _ _ (by omega)]
          have g := lR_grow q (by rw [n0]; exact hn) (fun c hc4 => by
            rw [n0]
            match c, hc4 with
            | 0, _ => simp [upd, lu]
            | 1, _ => simp [upd, lu]
            | 2, _ => simp [upd, lu]
            | 3, _ => simp [upd, lu])
          rw [n0] at g
          rw [pu_up_at, pu_up_at, pu_up_at, pu_up_at, pu_up_at]
          exact g
        · refine ⟨fun x hx => ?_, fun j hj => ?_⟩
          · rw [pu_upr _ _ _ hx, pu_upr _ _ _ hx, pu_upr _ _ _ hx, pu_upr _ _ _ hx, pu_upr _ _ _ hx]
          · rw [pu_up, if_neg (by omega), pu_up, if_neg (by omega), pu_up, if_neg (by omega), pu_up, if_neg (by omega), pu_up, if_neg (by omega)]
      · have hn6 : L 0 0 = 6 := by omega
        refine ⟨-3, C, R, L, ?_, ?_, hc, hr, hw, rfl, Nat.le_refl _, bCr, bRr⟩
        · simp only [fn_X2_admit, pw_C, Option.bind_some, e, e2, hc0, hn6]
          rw [if_neg (by decide), if_neg (by decide), if_neg (by decide)]
        · simp only [fn_X8_bring, pw_R3, pw_R60, Option.bind_some, e, e2, hr0, hn6]
          rw [if_neg (by decide), if_neg (by decide), if_pos (by decide)]
theorem sn_more {C C' : mm_M} {q n n' : Nat} {f f' : Nat → Int32} (h : sm_sn C q f n) (hn : n ≤ n') (hc : ∀ a, q ≤ a → a ≤ q + 3 → C' a = C a) (hf : ∀ j, 38 ≤ j → j < 57 → f' j = f j) : sm_sn C' q f' n' := by
  obtain ⟨m, a, b, c, h1, h2, h3, h4⟩ := sm_sn_eq hc (sn_f2 hf h)
  exact ⟨m, a, b, c, h1, h2, h3, fun x hx => by
    obtain ⟨⟨y1, y2, y3⟩, y4⟩ := h4 x hx
    exact ⟨⟨y1, by omega, y3⟩, y4⟩⟩
/-- laundry moved by a bring -/
theorem sm_brought {C R C' R' : mm_M} {L L' : LV} (h : sm_S C R) (hd : L 0 1 ≤ 999) (hsn : sm_sn C 19 (R 1) (L 0 0)) (h1 : lC C' 1 L') (h2 : lR (R' 1) L') (h3 : lw L') (h4 : L' 0 1 = L 0 1) (h5 : L 0 0 ≤ L' 0 0) (hb : ∀ a, a = 0 ∨ 8 ≤ a → C' a = C a) (hr : bR R R') : sm_S C' R' := by
  refine sm_move h ⟨by rw [hb 0 (by omega)], by rw [hb 16 (by omega)], hb 17 (by omega), by rw [hb 18 (by omega)], fun a ha _ => hb a (by omega)⟩ ⟨by rw [hr.1 0 (by omega)], by rw [hr.1 0 (by omega)], by rw [hr.1 0 (by omega)], fun j hj => hr.2 j (by omega), hr.1 3 (by omega), hr.1 5 (by omega), hr.1 8 (by omega), hr.1 9 (by omega), hr.1 10 (by omega)⟩ (sm_Lst h3 (by omega) h1 h2 ?_)
  exact sn_more hsn h5 (fun a ha _ => hb a (by omega)) (fun j hj _ => hr.2 j hj)
theorem so_bring : sj_bring sm_S := by
  intro C R h c1 c2
  obtain ⟨L, hw, hd, hc, hr, hsn⟩ := sm_L h
  obtain ⟨v, C', R', L', p1, p2, p3, p4, p5, p6, p7, p8, p9⟩ := br_ok hc hr hw c1 c2
  refine ⟨v, C', R', ?_, p2, sm_brought h hd hsn p3 p4 p5 p6 p7 (fun a ha => p8.1 a (by omega)) p9⟩
  unfold fn_X7_bring
  rw [p1]
  rfl
