/-! A LINE -/
section
variable {t : Nat} {b : Nat → Nat}
/-- what a line comes to, on both sides -/
def tz_O (t : Nat) (b : Nat → Nat) (e : Nat) (C R : mm_M) (cl : Option (Int32 × mm_M)) (rl : Option mm_M) : Prop :=
  (∃ C' R', cl = some (0, C') ∧ rl = some R' ∧ tz_F C' R' ∧ gC C C' ∧ gR R R') ∨
  (∃ C' R' L' p', cl = some (1, C') ∧ rl = fn_X8_reads R' ∧ tz_T C' R' t b p' ∧ e < p' ∧ tz_D C' R' L' ∧ tz_B C' R' ∧ gC C C' ∧ gR R R')
theorem b83_f (x s0 : Int32) {R : mm_M} (h : ¬ R 0 12 = 0 ∧ ¬ R 0 12 ≤ 0) : fn_X8_readLine_B83 x s0 R = some R := by
  unfold fn_X8_readLine_B83
  rw [req_f _ _ h.1]
  simp only [pb_some]
  rw [rd_f h.2]
  simp only [pb_some]
  rw [if_neg h.2]
theorem b83_r (x : Int32) (R : mm_M) : fn_X8_readLine_B83 x 1 R = ((fn_X8_reads R).bind fun z_7 => (if (z_7 0 12) ≤ 0 then ((fn_X8_readLineOf x (mm_up z_7 0 4 ((z_7 0 4) ||| (1 <<< (x &&& 31))))).bind fun z_10 => tz_tR z_10) else some z_7)) := by
  unfold fn_X8_readLine_B83
  rw [req_1]
  rfl
/-! a rule's line -/
theorem rlo_rule (r : Nat) (hr : r < 5) (M : mm_M) : fn_X8_readLineOf (nI (4 + r)) M = ((fn_X8_readNumber (mm_sav 0 r) (mm_sav 1 r) M).bind fun z_5 => some (mm_up z_5.2 4 (25 + r) z_5.1)) := by
  unfold fn_X8_readLineOf
  rw [if_pos (show (4 : Int32) ≤ nI (4 + r) from nI_le (a := 4) (by omega) (by omega)), if_neg (show ¬ nI (4 + r) = 9 from fun q => by have := (nI_eq (b := 9) (by omega) (by omega)).mp q; omega), show nI (4 + r) - 4 = nI r from (pk_sub (a := 4 + r) (b := 4) (by omega)).trans (by rw [show 4 + r - 4 = r by omega]), pl_low r hr]
  simp only [pb_some]
  rw [pl_most r hr]
  simp only [pb_some]
  rw [show (25 : Int32) + nI (4 + r) - 4 = nI (25 + r) from by
    rw [show (25 : Int32) + nI (4 + r) = nI (25 + (4 + r)) from nI_add 25 _]
    exact (pk_sub (b := 4) (by omega)).trans (by rw [show 25 + (4 + r) - 4 = 25 + r by omega]), pu_in (by omega) (by omega), nI_clamp (by omega)]
  rfl
theorem rule_ok {C R : mm_M} {k s e v : Nat} {L : LV} (hK : tz_K C R t b k s e v) (hD : tz_D C R L) (hBt : tz_B C R) (r : Nat) (hr : r < 5) : tz_O t b e C R (fn_X3_tellRule 8 (nI r) (mm_up C 18 3 (C 18 3 ||| (1 <<< (nI (4 + r) &&& 31))))) (fn_X8_readLine_B83 (nI (4 + r)) 1 R) := by
  obtain ⟨m1, m2, m3⟩ := sm_most_eq r hr
  have hT : tz_T (mm_up C 18 3 (C 18 3 ||| (1 <<< (nI (4 + r) &&& 31)))) R t b e := tz_T_cg hK.1 (pu_upr _ _ _ (by omega)) (pu_upr _ _ _ (by omega)) (pu_nk _ _ (by omega)) (fun _ _ => rfl) rfl
  have gu : gC C (mm_up C 18 3 (C 18 3 ||| (1 <<< (nI (4 + r) &&& 31)))) := fun a _ _ q => pu_upr _ _ _ q
  have ec : fn_X3_tellRule 8 (nI r) (mm_up C 18 3 (C 18 3 ||| (1 <<< (nI (4 + r) &&& 31)))) = tz_cl (mm_sav 0 r) (nI (sm_most r)) (fun z => some (mm_up z 13 r (z 16 5))) (mm_up C 18 3 (C 18 3 ||| (1 <<< (nI (4 + r) &&& 31)))) := by
    rw [m1]
    unfold fn_X3_tellRule tz_cl tz_tC
    rw [pu_in hr (by omega), nI_clamp (by omega)]
    rfl
  have er : fn_X8_readLine_B83 (nI (4 + r)) 1 R = tz_rl (mm_sav 0 r) (nI (sm_most r)) (fun z => mm_up z 0 4 ((z 0 4) ||| (1 <<< (nI (4 + r) &&& 31)))) (fun _ x M => some (mm_up M 4 (25 + r) x)) R := by
    rw [m1, b83_r]
    unfold tz_rl
    simp only [rlo_rule r hr, Option.bind_assoc]
  rw [ec, er]
  rcases numl hT (mm_sav 0 r) (sm_most r) (by omega) (fun z => some (mm_up z 13 r (z 16 5))) (fun z => mm_up z 0 4 ((z 0 4) ||| (1 <<< (nI (4 + r) &&& 31)))) (fun _ x M => some (mm_up M 4 (25 + r) x))
    (fun M => ⟨fun a p _ => pu_upr _ _ _ p, fun j hj => pu_nk _ _ hj⟩) (fun z x M _ => ⟨_, rfl, fun a ha => pu_upr _ _ _ ha⟩) (fun M v _ _ _ => ⟨_, rfl, fun a ha => pu_upr _ _ _ (by omega)⟩) with ⟨C', R', x1, x2, x3, x4, x5⟩ | ⟨C', R', p', v', Ca, Cu, Ra, Rb, x1, x2, x3, x4, x5, x6, y1, y2, y3, y4, y5, y6, y7, y8, y9⟩
  · exact Or.inl ⟨C', R', x1, x2, x3, gC_tr gu x4, x5⟩
  · obtain ⟨w1, w2, w3, w4, w5, w6⟩ := hD
    have e8 : R' = mm_up Rb 4 (25 + r) (nI v') := (Option.some.inj y8).symm
    have e4 : Cu = mm_up Ca 13 r (Ca 16 5) := (Option.some.inj y4).symm
    have rb : Rb 4 = R 4 := by rw [y7.1 4 (by omega), pu_upr _ _ _ (by omega), y6.1 4 (by omega)]
    have r4 : R' 4 = upd (R 4) (25 + r) (nI v') := by rw [e8, pu_up_at, rb]
    have ca : lC Ca 8 L := lC_eq (fun a p q => by rw [y2.1 a (by omega) (by omega), pu_upr _ _ _ (by omega)]) w2
    refine Or.inr ⟨C', R', lu L 5 r v', p', x1, x2, x3, x4, ⟨lw_rule w1 r v' hr y1, ?_, ?_, ?_, ?_, fun i p q => ?_⟩, ?_, gC_tr gu x5, x6⟩
    · refine lC_eq (fun a p q => y5.1 a (by omega) (by omega)) ?_
      rw [e4, y3]
      exact lC_up ca 5 r v' (by omega)
    · rw [r4]
      exact lR_rule w3 r v' w1.1 hr
    · rw [lu_ne _ _ _ (by omega)]
      exact w4
    · rw [r4, pk_un (by omega)]
      exact w5
    · rw [lu_ne _ _ _ (by omega)] at p
      rw [r4, pk_un (by omega), pk_un (by omega)]
      exact w6 i p q
    · refine tz_B_both hBt (4 + r) (by omega) ?_ ?_ ?_
      · rw [y5.2, y9, pu_at]
      · rw [e8, pu_upr _ _ _ (by omega), y7.2 4 (by omega), pu_at, y6.2 4 (by omega)]
      · rw [e8, pu_upr _ _ _ (by omega), y7.2 5 (by omega), pu_nk _ _ (by omega), y6.2 5 (by omega)]
/-! a line of one -/
theorem upd_same {f : Nat → Int32} {k : Nat} {x : Int32} (h : f k = x) : upd f k x = f := by
  funext j
  unfold upd
  split
  · next e => rw [e, h]
  · rfl
theorem one_ok {C R : mm_M} {k s e v : Nat} {L : LV} (hK : tz_K C R t b k s e v) (hD : tz_D C R L) (hBt : tz_B C R) (w : Nat) (hw : w < 4) (h6 : L 0 0 < 6) : tz_O t b e C R (fn_X3_tellOne 8 (nI w) C) (fn_X8_readLine_B83 (nI w) 1 R) := by
  obtain ⟨w1, w2, w3, w4, w5, w6⟩ := hD
  have c0 : C 8 0 = nI (L 0 0) := w2.1
  have r0 : R 4 24 = nI (L 0 0) := w3.1
  have ec : fn_X3_tellOne 8 (nI w) C = tz_cl 0 (nI 60) (fun z => (fn_X2_admit 8 (nI w) (z 16 5) z).bind fun z_6 => some z_6.2) C := by
    rw [show nI 60 = 60 from rfl]
    unfold fn_X3_tellOne tz_cl tz_tC
    rw [c0, if_pos (show nI (L 0 0) < 6 from nI_lt (b := 6) h6 (by omega))]
    simp only [Option.bind_assoc, pb_some]
  obtain ⟨R1, a1, a3⟩ : ∃ R1, fn_X8_reads R = some R1 ∧ fR R R1 := by
    obtain ⟨_, R1, a1, -, a3, -⟩ := take_ok hK.1
    exact ⟨R1, a1, a3⟩
  have e40 : (4 : Int32) * nI (L 0 0) = nI (4 * L 0 0) := pk_mul 4 _
  have er : fn_X8_readLine_B83 (nI w) 1 R = tz_rl 0 (nI 60) (fun z => mm_up (mm_up z 0 4 ((z 0 4) ||| (1 <<< (nI w &&& 31)))) 4 (4 * L 0 0 + 0) (nI w)) (fun _ x M => some (mm_up (mm_up M 4 (4 * L 0 0 + 1) x) 4 24 ((mm_up M 4 (4 * L 0 0 + 1) x) 4 24 + 1))) R := by
    rw [show nI 60 = 60 from rfl, b83_r]
    unfold tz_rl
    rw [a1]
    simp only [pb_some]
    have g24 : (mm_up R1 0 4 ((R1 0 4) ||| (1 <<< (nI w &&& 31)))) 4 24 = nI (L 0 0) := by
      rw [pu_upr _ _ _ (by omega), a3.1 4 (by omega)]
      exact r0
    have hf : fn_X8_readLineOf (nI w) (mm_up R1 0 4 ((R1 0 4) ||| (1 <<< (nI w &&& 31)))) = ((fn_X8_readNumber 0 60 (mm_up (mm_up R1 0 4 ((R1 0 4) ||| (1 <<< (nI w &&& 31)))) 4 (4 * L 0 0 + 0) (nI w))).bind fun z_5 => some (mm_up (mm_up z_5.2 4 (4 * L 0 0 + 1) z_5.1) 4 24 ((mm_up z_5.2 4 (4 * L 0 0 + 1) z_5.1) 4 24 + 1))) := by
      generalize mm_up R1 0 4 ((R1 0 4) ||| (1 <<< (nI w &&& 31))) = Z at g24
      unfold fn_X8_readLineOf
      rw [if_neg (show ¬ (4 : Int32) ≤ nI w from nI_ge (b := 4) (by omega) (by omega)), g24, e40, show nI (4 * L 0 0) + 0 = nI (4 * L 0 0 + 0) from nI_add _ 0, pu_in (by omega) (by omega), nI_clamp (by omega), if_pos rfl, mm_leq, pu_nk _ _ (by omega : (24 : Nat) ≠ 4 * L 0 0 + 0), g24, e40, show nI (4 * L 0 0) + 1 = nI (4 * L 0 0 + 1) from nI_add _ 1, pu_in (by omega) (by omega), nI_clamp (by omega)]
      rfl
    rw [hf, Option.bind_assoc]
    simp only [pb_some]
  rw [ec, er]
  have hcC : ∀ M : mm_M, (∀ a, 8 ≤ a → a ≤ 14 → M a = C a) → lC M 8 L := fun M hM => lC_eq (fun a p q => hM a p (by omega)) w2
  rcases numl hK.1 0 60 (by omega) (fun z => (fn_X2_admit 8 (nI w) (z 16 5) z).bind fun z_6 => some z_6.2) (fun z => mm_up (mm_up z 0 4 ((z 0 4) ||| (1 <<< (nI w &&& 31)))) 4 (4 * L 0 0 + 0) (nI w)) (fun _ x M => some (mm_up (mm_up M 4 (4 * L 0 0 + 1) x) 4 24 ((mm_up M 4 (4 * L 0 0 + 1) x) 4 24 + 1)))
    (fun M => ⟨fun a p q => by rw [pu_upr _ _ _ q, pu_upr _ _ _ p], fun j hj => by rw [pu_upr _ _ _ (by omega), pu_nk _ _ hj]⟩) (fun z x M _ => ⟨_, rfl, fun a ha => by rw [pu_upr _ _ _ ha, pu_upr _ _ _ ha]⟩)
    (fun M u hu h5 hM => by
      obtain ⟨q1, -⟩ := c_admit (hcC M hM) (a := w) (b := u) (by omega) hu h6
      refine ⟨adC M 8 (L 0 0) (nI w) (nI u), ?_, fun a ha => ?_⟩
      · simp only [h5]
        rw [q1]
        rfl
      · unfold adC
        rw [pu_upr _ _ _ (by omega), pu_upr _ _ _ (by omega), pu_upr _ _ _ (by omega), pu_upr _ _ _ (by omega), pu_upr _ _ _ (by omega)]) with ⟨C', R', x1, x2, x3, x4, x5⟩ | ⟨C', R', p', v', Ca, Cu, Ra, Rb, x1, x2, x3, x4, x5, x6, y1, y2, y3, y4, y5, y6, y7, y8, y9⟩
  · exact Or.inl ⟨C', R', x1, x2, x3, x4, x5⟩
  · obtain ⟨q1, q2⟩ := c_admit (hcC Ca (fun a p q => y2.1 a (by omega) (by omega))) (a := w) (b := v') (by omega) y1 h6
    have e4 : Cu = adC Ca 8 (L 0 0) (nI w) (nI v') := by
      simp only [y3] at y4
      rw [q1] at y4
      exact (Option.some.inj y4).symm
    have e8 : R' = mm_up (mm_up Rb 4 (4 * L 0 0 + 1) (nI v')) 4 24 ((mm_up Rb 4 (4 * L 0 0 + 1) (nI v')) 4 24 + 1) := (Option.some.inj y8).symm
    have rb : Rb 4 = upd (R 4) (4 * L 0 0 + 0) (nI w) := by rw [y7.1 4 (by omega), pu_up_at, pu_upr _ _ _ (by omega), y6.1 4 (by omega)]
    obtain ⟨z2, z3⟩ := w6 (L 0 0) (Nat.le_refl _) h6
    have r4 : R' 4 = upd (upd (upd (upd (upd (R 4) (4 * L 0 0 + 0) (nI w)) (4 * L 0 0 + 1) (nI v')) (4 * L 0 0 + 2) (nI 0)) (4 * L 0 0 + 3) (nI 0)) 24 (nI (L 0 0 + 1)) := by
      have t2 : (upd (upd (R 4) (4 * L 0 0 + 0) (nI w)) (4 * L 0 0 + 1) (nI v')) (4 * L 0 0 + 2) = nI 0 := by
        rw [pk_un (by omega), pk_un (by omega), z2]
        rfl
      have t3 : (upd (upd (R 4) (4 * L 0 0 + 0) (nI w)) (4 * L 0 0 + 1) (nI v')) (4 * L 0 0 + 3) = nI 0 := by
        rw [pk_un (by omega), pk_un (by omega), z3]
        rfl
      rw [upd_same t2, upd_same t3, e8, pu_up_at, pu_up_at, rb]
      congr 1
      rw [pk_un (by omega), pk_un (by omega), r0, nI_1]
    have hlR : lR (R' 4) (lv_ad L w v') := by
      have q := lR_one (lR_one (lR_one (lR_one w3 0 (L 0 0) w w1.1 h6 (by omega)) 1 (L 0 0) v' (by rw [lu_ne _ _ _ (by omega)]; exact w1.1) h6 (by omega)) 2 (L 0 0) 0 (by rw [lu_ne _ _ _ (by omega), lu_ne _ _ _ (by omega)]; exact w1.1) h6 (by omega)) 3 (L 0 0) 0 (by rw [lu_ne _ _ _ (by omega), lu_ne _ _ _ (by omega), lu_ne _ _ _ (by omega)]; exact w1.1) h6 (by omega)
      have n0 : (lu (lu (lu (lu L (1 + 0) (L 0 0) w) (1 + 1) (L 0 0) v') (1 + 2) (L 0 0) 0) (1 + 3) (L 0 0) 0) 0 0 = L 0 0 := by
        rw [lu_ne _ _ _ (by omega), lu_ne _ _ _ (by omega), lu_ne _ _ _ (by omega), lu_ne _ _ _ (by omega)]
      have g := lR_grow q (by rw [n0]; exact h6) (fun c hc4 => by
        rw [n0]
        match c, hc4 with
        | 0, _ => simp [upd, lu]
        | 1, _ => simp [upd, lu]
        | 2, _ => simp [upd, lu]
        | 3, _ => simp [upd, lu])
      rw [n0] at g
      rw [r4]
      exact g
    obtain ⟨k1, k2, k3, k4⟩ := lv_ad_k L w v'
    refine Or.inr ⟨C', R', lv_ad L w v', p', x1, x2, x3, x4, ⟨lv_ad_w w1 (by omega) y1 h6, ?_, hlR, ?_, ?_, fun i p q => ?_⟩, ?_, x5, x6⟩
    · refine lC_eq (fun a p q => y5.1 a (by omega) (by omega)) ?_
      rw [e4]
      exact q2
    · rw [k2]
      exact w4
    · rw [r4, pk_un (by omega), pk_un (by omega), pk_un (by omega), pk_un (by omega), pk_un (by omega)]
      exact w5
    · rw [k1] at p
      rw [r4, pk_un (by omega), pk_un (by omega), pk_un (by omega), pk_un (by omega), pk_un (by omega), pk_un (by omega), pk_un (by omega), pk_un (by omega), pk_un (by omega), pk_un (by omega)]
      exact w6 i (by omega) q
    · refine tz_B_kind hBt w hw ?_ ?_ ?_
      · rw [y5.2, y9]
      · rw [e8, pu_upr _ _ _ (by omega), pu_upr _ _ _ (by omega), y7.2 4 (by omega), pu_upr _ _ _ (by omega), pu_at, y6.2 4 (by omega)]
      · rw [e8, pu_upr _ _ _ (by omega), pu_upr _ _ _ (by omega), y7.2 5 (by omega), pu_upr _ _ _ (by omega), pu_nk _ _ (by omega), y6.2 5 (by omega)]
/-! the suns' line -/
theorem sun_ok {C R : mm_M} {k s e v : Nat} {L : LV} (hK : tz_K C R t b k s e v) (hD : tz_D C R L) (hBt : tz_B C R) (h9 : tz_bt (R 0 4) 9 = 0) : tz_O t b e C R (fn_X3_tellSuns 8 (mm_up C 18 3 (C 18 3 ||| (1 <<< (nI 9 &&& 31))))) (fn_X8_readLine_B83 (nI 9) 1 R) := by
  have hfu := mm_fu_ge
  have hT : tz_T (mm_up C 18 3 (C 18 3 ||| (1 <<< (nI 9 &&& 31)))) R t b e := tz_T_cg hK.1 (pu_upr _ _ _ (by omega)) (pu_upr _ _ _ (by omega)) (pu_nk _ _ (by omega)) (fun _ _ => rfl) rfl
  have gu : gC C (mm_up C 18 3 (C 18 3 ||| (1 <<< (nI 9 &&& 31)))) := fun a _ _ q => pu_upr _ _ _ q
  have r5 := hBt.2 h9
  obtain ⟨f, hf⟩ : ∃ f, mm_fu = f + 1 := ⟨mm_fu - 1, by omega⟩
  have ec : fn_X3_tellSuns 8 (mm_up C 18 3 (C 18 3 ||| (1 <<< (nI 9 &&& 31)))) = (fn_X3_takeToken (mm_up C 18 3 (C 18 3 ||| (1 <<< (nI 9 &&& 31))))).bind fun z_2 => (if z_2.1 = 0 then some (0, z_2.2) else tz_sb f (nI 0) z_2.2) := by
    rw [← su_S f 0 (by omega), ← hf]
    rfl
  have er : fn_X8_readLine_B83 (nI 9) 1 R = ((fn_X8_reads R).bind fun z_7 => (if (z_7 0 12) ≤ 0 then ((fn_X8_readSuns_L0 (fun M => some M) mm_fu (mm_up z_7 0 4 ((z_7 0 4) ||| (1 <<< (nI 9 &&& 31))))).bind fun z_10 => tz_tR z_10) else some z_7)) := by
    rw [b83_r]
    have h9' : ∀ M, fn_X8_readLineOf (nI 9) M = fn_X8_readSuns_L0 (fun M => some M) mm_fu M := fun M => by
      unfold fn_X8_readLineOf fn_X8_readSuns
      rw [if_pos (by decide), if_pos (by decide)]
      exact bs _
    simp only [h9']
  rw [ec, er]
  obtain ⟨C1, R1, a1, a2, a3, a4⟩ := take_ok hT
  rw [a1]
  rcases a4 with ⟨a4, aF⟩ | ⟨a4, k', s', e', v', aK, ps⟩
  · rw [a4]
    simp only [pb_some]
    rw [if_pos trivial, if_neg (tz_F_n aF).2]
    exact Or.inl ⟨C1, R1, rfl, rfl, aF, gC_tr gu (gC_of a2), gR_of a3⟩
  · have h12 : R1 0 12 = 0 := aK.1.2.2.2.2.1
    rw [a4]
    simp only [pb_some]
    rw [if_neg (by decide), if_pos (by rw [h12]; decide)]
    have g3 : gR R (mm_up R1 0 4 ((R1 0 4) ||| (1 <<< (nI 9 &&& 31)))) := gR_tr (gR_of a3) ⟨fun a p _ => pu_upr _ _ _ p, fun j hj => pu_nk _ _ (by omega)⟩
    have aK' : tz_K C1 (mm_up R1 0 4 ((R1 0 4) ||| (1 <<< (nI 9 &&& 31)))) t b k' s' e' v' := tz_K_cg aK rfl rfl rfl (fun j hj => pu_nk _ _ (by omega)) (pu_upr _ _ _ (by omega))
    have D' : tz_D C1 (mm_up R1 0 4 ((R1 0 4) ||| (1 <<< (nI 9 &&& 31)))) L := tz_D_cg hD (fun a p q => by rw [a2.1 a (by omega) (by omega), pu_upr _ _ _ (by omega)]) (by rw [pu_upr _ _ _ (by omega), a3.1 4 (by omega)])
    have h5 : (mm_up R1 0 4 ((R1 0 4) ||| (1 <<< (nI 9 &&& 31)))) 0 5 = nI 0 := by
      rw [pu_nk _ _ (by omega), a3.2 5 (by omega), r5]
      rfl
    have es : k' ≠ 4 → s' < e' := aK.2.2.2.2.2.2.2.1
    have se : s' ≤ e' := aK.2.2.2.2.2.2.1
    rcases suns_K 7 0 f mm_fu C1 _ L k' s' e' v' (by omega) (by omega) (by omega) aK' D' h5 with ⟨C', Rm, R', x1, x2, x3, x4, x5, x6⟩ | ⟨C', R', L', p', x1, x2, x3, x4, x5, x6, x7, x8, x9, x10⟩
    · rw [x1, x2]
      simp only [pb_some]
      exact Or.inl ⟨C', R', rfl, x3, x4, gC_tr gu (gC_tr (gC_of a2) x5), gR_tr g3 x6⟩
    · by_cases k4 : k' = 4
      · exfalso
        subst k4
        have hb := tz_sb f (nI 0) C1
        unfold tz_sb at x1
        rw [if_neg (by rw [K_C aK 3 (by omega) (x := 3) rfl]; omega), if_neg (by decide), nu_n aK (by omega)] at x1
        simp only [pb_some] at x1
        rw [if_pos trivial] at x1
        exact absurd (congrArg (fun o => o.map Prod.fst) x1) (by simp)
      · have := es k4
        rw [x1, x2]
        simp only [pb_some]
        refine Or.inr ⟨C', R', L', p', rfl, x3, x4, by omega, x6, tz_B_sun hBt ?_ ?_, gC_tr gu (gC_tr (gC_of a2) x7), gR_tr g3 x8⟩
        · rw [x9, a2.2, pu_at]
        · rw [x10, pu_at, a3.2 4 (by omega)]
/-! any line -/
theorem or_01 {x : Option (Int32 × mm_M)} {t : Nat} {b : Nat → Nat} {e : Nat} {C R : mm_M} {rl : Option mm_M} (h : tz_O t b e C R x rl) : tz_O t b e C R (x.bind fun z => (if z.1 = 0 ∨ z.1 = 1 then some (z.1, z.2) else none)) rl := by
  rcases h with ⟨C', R', h1, h2⟩ | ⟨C', R', L', p', h1, h2⟩
  · refine Or.inl ⟨C', R', ?_, h2⟩
    rw [h1]
    simp only [pb_some]
    rw [if_pos (Or.inl trivial)]
  · refine Or.inr ⟨C', R', L', p', ?_, h2⟩
    rw [h1]
    simp only [pb_some]
    rw [if_pos (Or.inr trivial)]
theorem bad_ok {C R : mm_M} {k s e v : Nat} (hK : tz_K C R t b k s e v) : tz_O t b e C R (fn_X3_tellLine_B23 8 (-4) C) (fn_X8_readLine_B30 (-4) 0 R) := by
  have F := tz_bF hK 2 (by omega) (x := 2) rfl
  have hn := tz_F_n F
  have h12 := hK.1.2.2.2.2.1
  refine Or.inl ⟨tz_b 2 C, tz_r 2 R, ?_, ?_, F, gC_of (tz_bf _ _), gR_of (tz_rf _ _)⟩
  · unfold fn_X3_tellLine_B23
    rw [if_neg (by decide), bl_ok]
    simp only [pb_some]
    rw [if_pos (Or.inl trivial)]
  · unfold fn_X8_readLine_B30
    rw [rq_0 2 h12]
    simp only [pb_some]
    rw [if_neg (by decide), req_f 0 5 hn.1, req_1]
    simp only [pb_some]
    rw [if_pos (show (-4 : Int32) < 4 by decide), b83_f _ _ hn]
    split <;> rfl
theorem word_ok {C R : mm_M} {k s e v : Nat} {L : LV} (hK : tz_K C R t b k s e v) (hD : tz_D C R L) (hBt : tz_B C R) (j : Nat) (hj : j < 10) : tz_O t b e C R (fn_X3_tellLine_B23 8 (nI j) C) (fn_X8_readLine_B30 (nI j) 1 R) := by
  have h12 := hK.1.2.2.2.2.1
  have c0 : C 8 0 = nI (L 0 0) := hD.2.1.1
  have r0 : R 4 24 = nI (L 0 0) := hD.2.2.1.1
  have l6 := hD.1.1
  unfold fn_X3_tellLine_B23 fn_X8_readLine_B30
  rw [if_pos (nI_pos' (by omega)), req_1]
  simp only [pb_some]
  by_cases h4 : j < 4
  · rw [if_neg (show ¬ (4 : Int32) ≤ nI j from nI_ge (b := 4) h4 (by omega)), if_neg (show ¬ (4 : Int32) ≤ nI j from nI_ge (b := 4) h4 (by omega)), r0]
    refine or_01 ?_
    by_cases h6 : L 0 0 < 6
    · rw [if_neg (show ¬ (6 : Int32) ≤ nI (L 0 0) from nI_ge (b := 6) h6 (by omega)), req_1]
      simp only [pb_some]
      rw [if_pos (show nI j < 4 from nI_lt (b := 4) h4 (by omega))]
      exact one_ok hK hD hBt j h4 h6
    · have F := tz_bF hK 5 (by omega) (x := 5) rfl
      have hn := tz_F_n F
      rw [if_pos (show (6 : Int32) ≤ nI (L 0 0) from nI_le (a := 6) (by omega) (by omega)), rq_0 5 h12]
      simp only [pb_some]
      rw [if_pos (show nI j < 4 from nI_lt (b := 4) h4 (by omega)), b83_f _ _ hn]
      refine Or.inl ⟨tz_b 5 C, tz_r 5 R, ?_, rfl, F, gC_of (tz_bf _ _), gR_of (tz_rf _ _)⟩
      unfold fn_X3_tellOne
      rw [c0, if_neg (show ¬ nI (L 0 0) < 6 from nI_nlt (b := 6) (by omega) (by omega)), bl_ok]
      simp only [pb_some]
      rw [if_pos (Or.inl trivial)]
  · rw [if_pos (show (4 : Int32) ≤ nI j from nI_le (a := 4) (by omega) (by omega)), if_pos (show (4 : Int32) ≤ nI j from nI_le (a := 4) (by omega) (by omega)), req_1]
    simp only [pb_some]
    rw [if_neg (show ¬ nI j < 4 from nI_nlt (b := 4) (by omega) (by omega))]
    have eb : ((C 18 3) >>> (nI j &&& 31)) &&& 1 = ((R 0 4) >>> (nI j &&& 31)) &&& 1 := hBt.1 j (by omega) (by omega)
    rw [eb]
    by_cases hb : ((R 0 4) >>> (nI j &&& 31)) &&& 1 = 0
    · rw [if_pos hb, if_pos hb]
      simp only [mm_leq]
      by_cases h9 : j = 9
      · subst h9
        rw [if_pos (by decide)]
        exact or_01 (sun_ok hK hD hBt hb)
      · rw [if_neg (show ¬ nI j = 9 from fun q => h9 ((nI_eq (b := 9) (by omega) (by omega)).mp q))]
        obtain ⟨r, rfl⟩ : ∃ r, j = 4 + r := ⟨j - 4, by omega⟩
        rw [show nI (4 + r) - 4 = nI r from (pk_sub (a := 4 + r) (b := 4) (by omega)).trans (by rw [show 4 + r - 4 = r by omega])]
        exact or_01 (rule_ok hK hD hBt r (by omega))
    · have F := tz_bF hK 4 (by omega) (x := 4) rfl
      have hn := tz_F_n F
      rw [if_neg hb, if_neg hb, bl_ok]
      refine Or.inl ⟨tz_b 4 C, tz_r 4 R, ?_, ?_, F, gC_of (tz_bf _ _), gR_of (tz_rf _ _)⟩
      · simp only [pb_some]
        rw [if_pos (Or.inl trivial)]
      · unfold fn_X8_readLine_B83
        rw [rq_0 4 h12]
        simp only [pb_some]
        rw [rd_f hn.2]
        simp only [pb_some]
        rw [if_neg hn.2]
theorem line_ok {C R : mm_M} {k s e v : Nat} {L : LV} (hK : tz_K C R t b k s e v) (hD : tz_D C R L) (hBt : tz_B C R) : tz_O t b e C R (fn_X3_tellLine 8 C) (fn_X8_readLine R) := by
  unfold fn_X3_tellLine fn_X8_readLine
  by_cases k1 : k = 1
  · rw [if_pos (by rw [K_C hK 1 (by omega) (x := 1) rfl]; exact k1), if_pos (by rw [K_R hK 1 (by omega) (x := 1) rfl]; exact k1)]
    obtain ⟨⟨hB, hC, hR, h18, h12, h2, h8, hp⟩, a2, a3, a4, a5, a6, a7, a8, a9⟩ := id hK
    rw [wrd_C hB hC h2 a4 a7 hp, wrd_R hB hR h8 a5 a7 hp]
    simp only [pb_some, mm_leq]
    rcases fw_or (qw (bt t b) s e) 10 0 with q | ⟨j, -, q1, q⟩
    · rw [q, if_pos rfl]
      exact bad_ok hK
    · rw [q, if_neg (nI_m4 (by omega))]
      exact word_ok hK hD hBt j (by omega)
  · rw [if_neg (by rw [K_C hK 1 (by omega) (x := 1) rfl]; exact k1), if_neg (by rw [K_R hK 1 (by omega) (x := 1) rfl]; exact k1)]
    exact bad_ok hK
end
