/-! LINES -/
def tz_D (C R : mm_M) (L : LV) : Prop := lw L ∧ lC C 8 L ∧ lR (R 4) L ∧ L 0 1 = 0 ∧ R 4 38 = 0 ∧ ∀ i, L 0 0 ≤ i → i < 6 → R 4 (4 * i + 2) = 0 ∧ R 4 (4 * i + 3) = 0
def tz_bt (x : Int32) (k : Nat) : Int32 := (x >>> (nI k &&& 31)) &&& 1
def tz_B (C R : mm_M) : Prop := (∀ k, 4 ≤ k → k ≤ 9 → tz_bt (C 18 3) k = tz_bt (R 0 4) k) ∧ (tz_bt (R 0 4) 9 = 0 → R 0 5 = 0)
theorem tz_D_cg {C R C' R' : mm_M} {L : LV} (h : tz_D C R L) (h1 : ∀ a, 8 ≤ a → a ≤ 14 → C' a = C a) (h2 : R' 4 = R 4) : tz_D C' R' L := by
  obtain ⟨a1, a2, a3, a4, a5, a6⟩ := h
  exact ⟨a1, lC_eq (fun a p q => h1 a p (by omega)) a2, by rw [h2]; exact a3, a4, by rw [h2]; exact a5, fun i p q => by rw [h2]; exact a6 i p q⟩
theorem i_aod (x y z : Int32) : (x ||| y) &&& z = (x &&& z) ||| (y &&& z) := by
  apply Int32.toBitVec_inj.1
  simp only [Int32.toBitVec_and, Int32.toBitVec_or]
  ext i hi
  simp [Bool.and_or_distrib_right]
theorem tz_bt_or (x y : Int32) (k : Nat) : tz_bt (x ||| y) k = tz_bt x k ||| tz_bt y k := by
  unfold tz_bt
  rw [Int32.shiftRight_or, i_aod]
theorem tz_bt_1 : ∀ j k : Fin 10, tz_bt (1 <<< (nI j.1 &&& 31)) k.1 = if j = k then 1 else 0 := by decide
theorem tz_bt_01 (x : Int32) (k : Nat) : tz_bt x k = 0 ∨ tz_bt x k = 1 := by
  unfold tz_bt
  obtain ⟨j, hj, e⟩ := pk_andE (x >>> (nI k &&& 31)) (m := 1) 1 (by decide)
  rw [e]
  rcases (by omega : j = 0 ∨ j = 1) with rfl | rfl
  · exact Or.inl rfl
  · exact Or.inr rfl
/-- a word is marked on both sides, or a kind on one -/
theorem tz_B_both {C R C' R' : mm_M} (h : tz_B C R) (j : Nat) (hj : j < 9) (h1 : C' 18 3 = C 18 3 ||| (1 <<< (nI j &&& 31))) (h2 : R' 0 4 = R 0 4 ||| (1 <<< (nI j &&& 31))) (h3 : R' 0 5 = R 0 5) : tz_B C' R' := by
  refine ⟨fun k p q => ?_, fun q => ?_⟩
  · rw [h1, h2, tz_bt_or, tz_bt_or, h.1 k p q]
  · rw [h2, tz_bt_or, tz_bt_1 ⟨j, by omega⟩ ⟨9, by omega⟩, if_neg (fun e => by have := congrArg Fin.val e; simp only [] at this; omega), Int32.or_zero] at q
    rw [h3]
    exact h.2 q
theorem tz_B_sun {C R C' R' : mm_M} (h : tz_B C R) (h1 : C' 18 3 = C 18 3 ||| (1 <<< (nI 9 &&& 31))) (h2 : R' 0 4 = R 0 4 ||| (1 <<< (nI 9 &&& 31))) : tz_B C' R' := by
  refine ⟨fun k p q => ?_, fun q => ?_⟩
  · rw [h1, h2, tz_bt_or, tz_bt_or, h.1 k p q]
  · rw [h2, tz_bt_or, tz_bt_1 ⟨9, by omega⟩ ⟨9, by omega⟩, if_pos rfl] at q
    rcases tz_bt_01 (R 0 4) 9 with e | e
    · rw [e] at q
      exact absurd q (by decide)
    · rw [e] at q
      exact absurd q (by decide)
theorem tz_B_kind {C R C' R' : mm_M} (h : tz_B C R) (j : Nat) (hj : j < 4) (h1 : C' 18 3 = C 18 3) (h2 : R' 0 4 = R 0 4 ||| (1 <<< (nI j &&& 31))) (h3 : R' 0 5 = R 0 5) : tz_B C' R' := by
  have key : ∀ k, 4 ≤ k → k ≤ 9 → tz_bt (R' 0 4) k = tz_bt (R 0 4) k := fun k p q => by
    rw [h2, tz_bt_or, tz_bt_1 ⟨j, by omega⟩ ⟨k, by omega⟩, if_neg (fun e => by have := congrArg Fin.val e; simp only [] at this; omega), Int32.or_zero]
  refine ⟨fun k p q => ?_, fun q => ?_⟩
  · rw [h1, key k p q, h.1 k p q]
  · rw [key 9 (by omega) (by omega)] at q
    rw [h3]
    exact h.2 q
section
variable {t : Nat} {b : Nat → Nat}
/-! what a token that is not wanted does -/
theorem tR_n {C R : mm_M} {k s e v : Nat} (h : tz_K C R t b k s e v) (hk : k ≠ 3) : tz_tR R = some (tz_r 2 R) := by
  have hn := tz_F_n (tz_bF h 2 (by omega) (x := 2) rfl)
  obtain ⟨a1, a2, a3, a4, a5, a6, a7, a8, a9⟩ := h
  have h12 := a1.2.2.2.2.1
  have a3' : ¬ R 0 10 = 3 := by
    rw [a3]
    intro q
    have := (nI_eq (b := 3) (by split <;> omega) (by omega)).mp q
    split at this <;> omega
  unfold tz_tR
  rw [if_pos h12, if_neg a3', rq_0 2 h12]
  simp only [pb_some]
  rw [rd_f hn.2]
  rfl
theorem nu_n {C R : mm_M} {k s e v : Nat} (h : tz_K C R t b k s e v) (hk : k ≠ 2) (lo hi : Int32) : fn_X3_isNumber lo hi C = some (0, tz_b 2 C) := by
  obtain ⟨a1, a2, a3, a4, a5, a6, a7, a8, a9⟩ := h
  have a2' : ¬ C 16 3 = 2 := by
    rw [a2]
    exact fun q => hk ((nI_eq (b := 2) (by omega) (by omega)).mp q)
  unfold fn_X3_isNumber
  rw [if_neg a2', bl_ok]
  simp only [pb_some]
  rw [if_pos (Or.inl trivial)]
theorem K_C {C R : mm_M} {k s e v : Nat} (h : tz_K C R t b k s e v) (j : Nat) (hj : j ≤ 4) {x : Int32} (hx : x = nI j) : (C 16 3 = x) = (k = j) := by
  subst hx
  rw [h.2.1]
  exact pu_eq (by have := h.2.2.2.2.2.1; omega) (by omega)
theorem K_R {C R : mm_M} {k s e v : Nat} (h : tz_K C R t b k s e v) (j : Nat) (hj : 1 ≤ j ∧ j ≤ 3) {x : Int32} (hx : x = nI j) : (R 0 10 = x) = (k = j) := by
  subst hx
  have h1 := h.2.2.2.2.2.1
  rw [h.2.2.1, pu_eq (by split <;> omega) (by omega)]
  split
  · exact propext ⟨fun q => by omega, fun q => by omega⟩
  · rfl
/-! the suns -/
noncomputable def tz_su (f : Nat) (d : Int32) (C : mm_M) : Option (Int32 × mm_M) := fn_X3_tellSuns_L2 8 (fun M_10 => some (0, M_10)) (fun M_12 => some (1, M_12)) (fun M_14 => (if (M_14 16 3) = 2 then ((fn_X3_blame 5 M_14).bind fun z_18 => (if z_18.1 = 0 ∨ z_18.1 = 1 then some (z_18.1, z_18.2) else none)) else ((fn_X3_blame 2 M_14).bind fun z_17 => (if z_17.1 = 0 ∨ z_17.1 = 1 then some (z_17.1, z_17.2) else none)))) (fun M_19 => some (0, M_19)) (fun M_21 => some (0, M_21)) f d C
noncomputable def tz_sb (f : Nat) (d : Int32) (C : mm_M) : Option (Int32 × mm_M) := (if (C 16 3) = 3 then some (1, C) else (if d = 7 then (if (C 16 3) = 2 then some (0, tz_b 5 C) else some (0, tz_b 2 C)) else ((fn_X3_isNumber 0 9 C).bind fun z_6 => (if z_6.1 = 0 then some (0, z_6.2) else (if mm_in d 7 then tz_su f (d + 1) (mm_up z_6.2 14 d.toNatClampNeg (z_6.2 16 5)) else none)))))
theorem su_S (f d : Nat) (hd : d ≤ 7) (C : mm_M) : tz_su (f + 1) (nI d) C = (fn_X3_takeToken C).bind fun z_2 => (if z_2.1 = 0 then some (0, z_2.2) else tz_sb f (nI d) z_2.2) := by
  unfold tz_su
  rw [fn_X3_tellSuns_L2, if_neg (show ¬ (7 : Int32) < nI d from nI_nlt (a := 7) hd (by omega))]
  unfold tz_sb
  simp only [bl_ok, pb_some, mm_leq, true_or, if_true]
  rfl
theorem suns_K : ∀ m d f f' (C R : mm_M) (L : LV) (k s e v : Nat), d + m = 7 → m < f → m + 1 < f' → tz_K C R t b k s e v → tz_D C R L → R 0 5 = nI d →
    (∃ C' Rm R', tz_sb f (nI d) C = some (0, C') ∧ fn_X8_readSuns_L0 (fun M => some M) f' R = some Rm ∧ tz_tR Rm = some R' ∧ tz_F C' R' ∧ gC C C' ∧ gR R R') ∨
    (∃ C' R' L' p', tz_sb f (nI d) C = some (1, C') ∧ fn_X8_readSuns_L0 (fun M => some M) f' R = some R' ∧ tz_tR R' = fn_X8_reads R' ∧ tz_T C' R' t b p' ∧ e ≤ p' ∧ tz_D C' R' L' ∧ gC C C' ∧ gR R R' ∧ C' 18 3 = C 18 3 ∧ R' 0 4 = R 0 4) := by
  intro m
  induction m with
  | zero =>
    intro d f f' C R L k s e v hd hf hf' hK hD h5
    obtain ⟨g, rfl⟩ : ∃ g, f' = g + 1 + 1 := ⟨f' - 2, by omega⟩
    have h12 := hK.1.2.2.2.2.1
    have : d = 7 := by omega
    subst this
    by_cases k3 : k = 3
    · refine Or.inr ⟨C, R, L, e, ?_, ?_, ?_, hK.1, Nat.le_refl _, hD, fun _ _ _ _ => rfl, ⟨fun _ _ _ => rfl, fun _ _ => rfl⟩, rfl, rfl⟩
      · unfold tz_sb
        rw [if_pos (by rw [K_C hK 3 (by omega) (x := 3) rfl]; exact k3)]
      · rw [fn_X8_readSuns_L0, if_pos h12, if_neg (by rw [K_R hK 2 (by omega) (x := 2) rfl]; omega)]
      · rcases stop_ok hK with ⟨C', R', y1, y2, y3, -⟩ | ⟨-, -, y⟩
        · exfalso
          unfold tz_tC fn_X3_isStop at y1
          rw [if_pos (by rw [K_C hK 3 (by omega) (x := 3) rfl]; exact k3)] at y1
          simp only [pb_some] at y1
          rw [if_neg (by decide)] at y1
          exact absurd (congrArg (fun o => o.map Prod.fst) y1) (by simp)
        · exact y
    · by_cases k2 : k = 2
      · have F := tz_bF hK 5 (by omega) (x := 5) rfl
        have hn := tz_F_n F
        refine Or.inl ⟨tz_b 5 C, tz_r 5 R, tz_r 5 R, ?_, ?_, tR_f hn, F, gC_of (tz_bf _ _), gR_of (tz_rf _ _)⟩
        · unfold tz_sb
          rw [if_neg (by rw [K_C hK 3 (by omega) (x := 3) rfl]; exact k3), if_pos (show nI 7 = 7 from rfl), if_pos (by rw [K_C hK 2 (by omega) (x := 2) rfl]; exact k2)]
        · rw [fn_X8_readSuns_L0, if_pos h12, if_pos (by rw [K_R hK 2 (by omega) (x := 2) rfl]; exact k2), h5, if_pos (by decide), fn_X8_readSuns_B30, rq_0 5 h12]
          simp only [pb_some]
          rw [if_neg hn.1, fn_X8_readSuns_L0, if_neg hn.1]
      · refine Or.inl ⟨tz_b 2 C, R, tz_r 2 R, ?_, ?_, tR_n hK k3, tz_bF hK 2 (by omega) rfl, gC_of (tz_bf _ _), gR_of (tz_rf _ _)⟩
        · unfold tz_sb
          rw [if_neg (by rw [K_C hK 3 (by omega) (x := 3) rfl]; exact k3), if_pos (show nI 7 = 7 from rfl), if_neg (by rw [K_C hK 2 (by omega) (x := 2) rfl]; exact k2)]
        · rw [fn_X8_readSuns_L0, if_pos h12, if_neg (by rw [K_R hK 2 (by omega) (x := 2) rfl]; exact k2)]
  | succ m ih =>
    intro d f f' C R L k s e v hd hf hf' hK hD h5
    obtain ⟨g, rfl⟩ : ∃ g, f' = g + 1 + 1 := ⟨f' - 2, by omega⟩
    have h12 := hK.1.2.2.2.2.1
    have d7 : ¬ nI d = 7 := fun q => by
      have := (nI_eq (b := 7) (by omega) (by omega)).mp q
      omega
    by_cases k3 : k = 3
    · refine Or.inr ⟨C, R, L, e, ?_, ?_, ?_, hK.1, Nat.le_refl _, hD, fun _ _ _ _ => rfl, ⟨fun _ _ _ => rfl, fun _ _ => rfl⟩, rfl, rfl⟩
      · unfold tz_sb
        rw [if_pos (by rw [K_C hK 3 (by omega) (x := 3) rfl]; exact k3)]
      · rw [fn_X8_readSuns_L0, if_pos h12, if_neg (by rw [K_R hK 2 (by omega) (x := 2) rfl]; omega)]
      · rcases stop_ok hK with ⟨C', R', y1, y2, y3, -⟩ | ⟨-, -, y⟩
        · exfalso
          unfold tz_tC fn_X3_isStop at y1
          rw [if_pos (by rw [K_C hK 3 (by omega) (x := 3) rfl]; exact k3)] at y1
          simp only [pb_some] at y1
          rw [if_neg (by decide)] at y1
          exact absurd (congrArg (fun o => o.map Prod.fst) y1) (by simp)
        · exact y
    · by_cases k2 : k = 2
      · have cs : tz_sb f (nI d) C = ((fn_X3_isNumber 0 9 C).bind fun z_6 => (if z_6.1 = 0 then some (0, z_6.2) else tz_su f (nI (d + 1)) (mm_up z_6.2 14 d (z_6.2 16 5)))) := by
          unfold tz_sb
          rw [if_neg (by rw [K_C hK 3 (by omega) (x := 3) rfl]; exact k3), if_neg d7, nI_1, nI_clamp (by omega), pu_in (by omega) (by omega)]
          rfl
        have rs : fn_X8_readSuns_L0 (fun M => some M) (g + 1 + 1) R = ((fn_X8_readNumber 0 9 R).bind fun z_6 => fn_X8_readSuns_L0 (fun M => some M) (g + 1) (mm_up (mm_up z_6.2 4 (30 + d) z_6.1) 0 5 (z_6.2 0 5 + 1))) := by
          rw [fn_X8_readSuns_L0, if_pos h12, if_pos (by rw [K_R hK 2 (by omega) (x := 2) rfl]; exact k2), h5, if_neg (show ¬ (7 : Int32) ≤ nI d from nI_ge (b := 7) (by omega) (by omega)), fn_X8_readSuns_B30, req_1]
          simp only [pb_some]
          rw [if_pos h12, h5, show (30 : Int32) + nI d = nI (30 + d) from nI_add 30 d, pu_in (by omega) (by omega), nI_clamp (by omega)]
          simp only [mm_leq, if_true]
          congr 1
        rcases num_ok hK 0 9 (by omega) with ⟨C2, R2, n1, n2, nF, n3, n4⟩ | ⟨-, hv, n1, n2⟩
        · have F : tz_F C2 (mm_up (mm_up R2 4 (30 + d) 0) 0 5 (R2 0 5 + 1)) := by
            obtain ⟨c, s, f1, f2, f3, f4, f5, f6⟩ := nF
            exact ⟨c, s, f1, f2, f3, by rw [pu_nk _ _ (by omega), pu_upr _ _ _ (by omega)]; exact f4, f5, by rw [pu_nk _ _ (by omega), pu_upr _ _ _ (by omega)]; exact f6⟩
          have hn := tz_F_n F
          refine Or.inl ⟨C2, _, _, ?_, ?_, tR_f hn, F, gC_of n3, gR_tr (gR_of n4) ⟨fun a p q => by rw [pu_upr _ _ _ p, pu_upr _ _ _ q], fun j hj => by rw [pu_nk _ _ (by omega), pu_upr _ _ _ (by omega)]⟩⟩
          · rw [cs, show fn_X3_isNumber 0 9 C = _ from n1]
            simp only [pb_some]
            rw [if_pos trivial]
          · rw [rs, show fn_X8_readNumber 0 9 R = _ from n2]
            simp only [pb_some]
            rw [fn_X8_readSuns_L0, if_neg hn.1]
        · obtain ⟨f0, rfl⟩ : ∃ f0, f = f0 + 1 := ⟨f - 1, by omega⟩
          obtain ⟨v1, v2, v3⟩ := hK.2.2.2.2.2.2.2.2 k2
          have T2 : tz_T (mm_up C 14 d (nI v)) R t b e := tz_T_cg hK.1 (pu_upr _ _ _ (by omega)) (pu_upr _ _ _ (by omega)) (by rw [pu_upr _ _ _ (by omega)]) (fun _ _ => rfl) rfl
          obtain ⟨C3, R3, d1, d2, d3, d4⟩ := take_ok T2
          have gu : gC C (mm_up C 14 d (nI v)) := fun a p _ _ => pu_upr _ _ _ (by omega)
          have g3 : gR R (mm_up (mm_up R3 4 (30 + d) (nI v)) 0 5 (nI (d + 1))) := gR_tr (gR_of d3) ⟨fun a p q => by rw [pu_upr _ _ _ p, pu_upr _ _ _ q], fun j hj => by rw [pu_nk _ _ (by omega), pu_upr _ _ _ (by omega)]⟩
          have cs2 : tz_sb (f0 + 1) (nI d) C = (fn_X3_takeToken (mm_up C 14 d (nI v))).bind fun z_2 => (if z_2.1 = 0 then some (0, z_2.2) else tz_sb f0 (nI (d + 1)) z_2.2) := by
            rw [cs, show fn_X3_isNumber 0 9 C = _ from n1]
            simp only [pb_some]
            rw [if_neg (by decide), v2, su_S f0 (d + 1) (by omega)]
          have rs2 : fn_X8_readSuns_L0 (fun M => some M) (g + 1 + 1) R = fn_X8_readSuns_L0 (fun M => some M) (g + 1) (mm_up (mm_up R3 4 (30 + d) (nI v)) 0 5 (nI (d + 1))) := by
            rw [rs, show fn_X8_readNumber 0 9 R = _ from n2, d1]
            simp only [pb_some]
            rw [d3.2 5 (by omega), h5, nI_1]
          rcases d4 with ⟨d4, dF⟩ | ⟨d4, k', s', e', v', dK, ps'⟩
          · have F : tz_F C3 (mm_up (mm_up R3 4 (30 + d) (nI v)) 0 5 (nI (d + 1))) := by
              obtain ⟨c, s, f1, f2, f3, f4, f5, f6⟩ := dF
              exact ⟨c, s, f1, f2, f3, by rw [pu_nk _ _ (by omega), pu_upr _ _ _ (by omega)]; exact f4, f5, by rw [pu_nk _ _ (by omega), pu_upr _ _ _ (by omega)]; exact f6⟩
            have hn := tz_F_n F
            refine Or.inl ⟨C3, _, _, ?_, ?_, tR_f hn, F, gC_tr gu (gC_of d2), g3⟩
            · rw [cs2, d4]
              simp only [pb_some]
              rw [if_pos trivial]
            · rw [rs2, fn_X8_readSuns_L0, if_neg hn.1]
          · have dK' : tz_K C3 (mm_up (mm_up R3 4 (30 + d) (nI v)) 0 5 (nI (d + 1))) t b k' s' e' v' := tz_K_cg dK rfl rfl rfl (fun j _ => by rw [pu_nk _ _ (by omega), pu_upr _ _ _ (by omega)]) (by rw [pu_upr _ _ _ (by omega), pu_upr _ _ _ (by omega)])
            have D' : tz_D C3 (mm_up (mm_up R3 4 (30 + d) (nI v)) 0 5 (nI (d + 1))) (lu L 6 d v) := by
              obtain ⟨w1, w2, w3, w4, w5, w6⟩ := hD
              have r4 : (mm_up (mm_up R3 4 (30 + d) (nI v)) 0 5 (nI (d + 1))) 4 = upd (R 4) (30 + d) (nI v) := by
                rw [pu_upr _ _ _ (by omega), pu_up_at, d3.1 4 (by omega)]
              refine ⟨lw_sun w1 d v (by omega), lC_eq (fun a p q => d2.1 a (by omega) (by omega)) (lC_up w2 6 d v (by omega)), ?_, ?_, ?_, fun i p q => ?_⟩
              · rw [r4]
                exact lR_sun w3 d v w1.1 (by omega)
              · rw [lu_ne _ _ _ (by omega)]
                exact w4
              · rw [r4, pk_un (by omega)]
                exact w5
              · rw [lu_ne _ _ _ (by omega)] at p
                rw [r4, pk_un (by omega), pk_un (by omega)]
                exact w6 i p q
            have sd : s' ≤ e' := dK.2.2.2.2.2.2.1
            rcases ih (d + 1) f0 (g + 1) C3 _ _ k' s' e' v' (by omega) (by omega) (by omega) dK' D' (pu_at _ _ _ _) with ⟨C', Rm, R', x1, x2, x3, x4, x5, x6⟩ | ⟨C', R', L', p', x1, x2, x3, x4, x5, x6, x7, x8, x9, x10⟩
            · refine Or.inl ⟨C', Rm, R', ?_, ?_, x3, x4, gC_tr gu (gC_tr (gC_of d2) x5), gR_tr g3 x6⟩
              · rw [cs2, d4]
                simp only [pb_some]
                rw [if_neg (by decide)]
                exact x1
              · rw [rs2]
                exact x2
            · refine Or.inr ⟨C', R', L', p', ?_, ?_, x3, x4, by omega, x6, gC_tr gu (gC_tr (gC_of d2) x7), gR_tr g3 x8, ?_, ?_⟩
              · rw [cs2, d4]
                simp only [pb_some]
                rw [if_neg (by decide)]
                exact x1
              · rw [rs2]
                exact x2
              · rw [x9, d2.2, pu_upr _ _ _ (by omega)]
              · rw [x10, pu_nk _ _ (by omega), pu_upr _ _ _ (by omega), d3.2 4 (by omega)]
      · refine Or.inl ⟨tz_b 2 C, R, tz_r 2 R, ?_, ?_, tR_n hK k3, tz_bF hK 2 (by omega) rfl, gC_of (tz_bf _ _), gR_of (tz_rf _ _)⟩
        · unfold tz_sb
          rw [if_neg (by rw [K_C hK 3 (by omega) (x := 3) rfl]; exact k3), if_neg d7, nu_n hK k2]
          simp only [pb_some]
          rw [if_pos trivial]
        · rw [fn_X8_readSuns_L0, if_pos h12, if_neg (by rw [K_R hK 2 (by omega) (x := 2) rfl]; exact k2)]
end
