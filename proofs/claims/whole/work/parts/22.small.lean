-- MangleLine$Choice.begin(I)V
noncomputable def fn_X0_begin (c1 : Int32) (M : mm_M) : Option mm_M :=
  mm_let (mm_up M 23 0 (-4)) fun M_1 => mm_let (mm_up M_1 23 1 c1) fun M_2 => some M_2
set_option maxRecDepth 20000 in
set_option maxHeartbeats 4000000 in
theorem ct_X0_begin {l : Launch} {G : mm_G} {sh : mm_S} {M : mm_M} (c1 : Int32) (h0 : mm_isCho G sh) : mm_K l G yX0_begin (cX0_begin, 2, RX0, none, 1) [.ref (mm_ad G 23), .int c1] (mm_fv sh) sh M (fn_X0_begin c1 M) := by
  refine mm_met (by decide +kernel) rfl (Nat.le_of_ble_eq_true rfl) (fun X hX => ?_)
  subst hX
  show mm_T X G (cX0_begin, 2, RX0, none, 1) (mm_fv sh) sh M 0 [(0, .ref (mm_ad G 23)), (1, .int c1)] [] (fn_X0_begin c1 M)
  unfold fn_X0_begin
  refine mm_aload_n 1 rfl dX0_begin_0 rfl 0 rfl ?_
  refine mm_bipush 3 rfl (v := (-4)) dX0_begin_1 (by decide) ?_
  refine pt_X0_9 6 rfl dX0_begin_3 h0 ?_
  refine mm_bM (fun M_1 => ?_)
  refine mm_aload_n 7 rfl dX0_begin_6 rfl 0 rfl ?_
  refine mm_iload_n 8 rfl dX0_begin_7 rfl 1 rfl ?_
  refine pt_X0_15 11 rfl dX0_begin_8 h0 ?_
  refine mm_bM (fun M_2 => ?_)
  exact mm_vret dX0_begin_11 rfl rfl

-- MangleLine$Choice.offer(II)V
noncomputable def fn_X0_offer (c1 : Int32) (c2 : Int32) (M : mm_M) : Option mm_M :=
  (if (M 23 1) ≤ c2 then some M else mm_let (mm_up M 23 0 c1) fun M_2 => mm_let (mm_up M_2 23 1 c2) fun M_3 => some M_3)
set_option maxRecDepth 20000 in
set_option maxHeartbeats 4000000 in
theorem ct_X0_offer {l : Launch} {G : mm_G} {sh : mm_S} {M : mm_M} (c1 : Int32) (c2 : Int32) (h0 : mm_isCho G sh) : mm_K l G yX0_offer (cX0_offer, 3, RX0, none, 1) [.ref (mm_ad G 23), .int c1, .int c2] (mm_fv sh) sh M (fn_X0_offer c1 c2 M) := by
  refine mm_met (by decide +kernel) rfl (Nat.le_of_ble_eq_true rfl) (fun X hX => ?_)
  subst hX
  show mm_T X G (cX0_offer, 3, RX0, none, 1) (mm_fv sh) sh M 0 [(0, .ref (mm_ad G 23)), (1, .int c1), (2, .int c2)] [] (fn_X0_offer c1 c2 M)
  unfold fn_X0_offer
  refine mm_iload_n 1 rfl dX0_offer_0 rfl 2 rfl ?_
  refine mm_aload_n 2 rfl dX0_offer_1 rfl 0 rfl ?_
  refine gt_X0_15 5 rfl dX0_offer_2 h0 ?_
  refine mm_icmp_ge 8 18 rfl dX0_offer_5 (by decide) (fun h_1 => ?_) (fun h_1 => ?_)
  · exact mm_vret dX0_offer_18 rfl rfl
  · refine mm_aload_n 9 rfl dX0_offer_8 rfl 0 rfl ?_
    refine mm_iload_n 10 rfl dX0_offer_9 rfl 1 rfl ?_
    refine pt_X0_9 13 rfl dX0_offer_10 h0 ?_
    refine mm_bM (fun M_2 => ?_)
    refine mm_aload_n 14 rfl dX0_offer_13 rfl 0 rfl ?_
    refine mm_iload_n 15 rfl dX0_offer_14 rfl 2 rfl ?_
    refine pt_X0_15 18 rfl dX0_offer_15 h0 ?_
    refine mm_bM (fun M_3 => ?_)
    exact mm_vret dX0_offer_18 rfl rfl

-- MangleLine$Choice.tell(I)I
noncomputable def fn_X0_tell (c1 : Int32) (M : mm_M) : Option (Int32 × mm_M) :=
  (if c1 = 0 then some ((M 23 0), M) else (if (M 23 0) = (-4) then some ((M 23 0), M) else some ((M 23 1), M)))
set_option maxRecDepth 20000 in
set_option maxHeartbeats 4000000 in
theorem ct_X0_tell {l : Launch} {G : mm_G} {sh : mm_S} {M : mm_M} (c1 : Int32) (h0 : mm_isCho G sh) : mm_K l G yX0_tell (cX0_tell, 2, RX0, (some .int), 1) [.ref (mm_ad G 23), .int c1] (mm_fi sh) sh M (fn_X0_tell c1 M) := by
  refine mm_met (by decide +kernel) rfl (Nat.le_of_ble_eq_true rfl) (fun X hX => ?_)
  subst hX
  show mm_T X G (cX0_tell, 2, RX0, (some .int), 1) (mm_fi sh) sh M 0 [(0, .ref (mm_ad G 23)), (1, .int c1)] [] (fn_X0_tell c1 M)
  unfold fn_X0_tell
  refine mm_iload_n 1 rfl dX0_tell_0 rfl 1 rfl ?_
  refine mm_if_eq 4 13 rfl dX0_tell_1 (by decide) (fun h_1 => ?_) (fun h_1 => ?_)
  · refine mm_aload_n 14 rfl dX0_tell_13 rfl 0 rfl ?_
    refine gt_X0_9 17 rfl dX0_tell_14 h0 ?_
    refine mm_goto 24 dX0_tell_17 (by decide) ?_
    exact mm_iret dX0_tell_24 rfl rfl
  · refine mm_aload_n 5 rfl dX0_tell_4 rfl 0 rfl ?_
    refine gt_X0_9 8 rfl dX0_tell_5 h0 ?_
    refine mm_bipush 10 rfl (v := (-4)) dX0_tell_8 (by decide) ?_
    refine mm_icmp_ne 13 20 rfl dX0_tell_10 (by decide) (fun h_2 => ?_) (fun h_2 => ?_)
    · refine mm_aload_n 21 rfl dX0_tell_20 rfl 0 rfl ?_
      refine gt_X0_15 24 rfl dX0_tell_21 h0 ?_
      exact mm_iret dX0_tell_24 rfl rfl
    · refine mm_aload_n 14 rfl dX0_tell_13 rfl 0 rfl ?_
      refine gt_X0_9 17 rfl dX0_tell_14 h0 ?_
      refine mm_goto 24 dX0_tell_17 (by decide) ?_
      exact mm_iret dX0_tell_24 rfl rfl

-- MangleLine$Sightings.note(III)Z
noncomputable def fn_X5_note (r0 : Nat) (c1 : Int32) (c2 : Int32) (c3 : Int32) (M : mm_M) : Option (Int32 × mm_M) :=
  (if (M r0 0) < 6 then (if mm_in (M r0 0) 6 then (mm_let (mm_up M (r0 + 1) (M r0 0).toNatClampNeg c1) fun M_2 => (if mm_in (M_2 r0 0) 6 then (mm_let (mm_up M_2 (r0 + 2) (M_2 r0 0).toNatClampNeg c2) fun M_4 => (if mm_in (M_4 r0 0) 6 then (mm_let (mm_up M_4 (r0 + 3) (M_4 r0 0).toNatClampNeg c3) fun M_6 => mm_let (mm_up M_6 r0 0 ((M_6 r0 0) + 1)) fun M_8 => some (1, M_8)) else none)) else none)) else none) else some (0, M))
set_option maxRecDepth 20000 in
set_option maxHeartbeats 4000000 in
theorem ct_X5_note {l : Launch} {G : mm_G} {sh : mm_S} {M : mm_M} (r0 : Nat) (c1 : Int32) (c2 : Int32) (c3 : Int32) (h0 : mm_isSee G sh r0) : mm_K l G yX5_note (cX5_note, 4, RX5, (some .boolean), 1) [.ref (mm_ad G r0), .int c1, .int c2, .int c3] (mm_fi sh) sh M (fn_X5_note r0 c1 c2 c3 M) := by
  refine mm_met (by decide +kernel) rfl (Nat.le_of_ble_eq_true rfl) (fun X hX => ?_)
  subst hX
  show mm_T X G (cX5_note, 4, RX5, (some .boolean), 1) (mm_fi sh) sh M 0 [(0, .ref (mm_ad G r0)), (1, .int c1), (2, .int c2), (3, .int c3)] [] (fn_X5_note r0 c1 c2 c3 M)
  unfold fn_X5_note
  refine mm_aload_n 1 rfl dX5_note_0 rfl 0 rfl ?_
  refine gt_X5_21 4 rfl dX5_note_1 h0.1 ?_
  refine mm_bipush 6 rfl (v := 6) dX5_note_4 (by decide) ?_
  refine mm_icmp_lt 9 11 rfl dX5_note_6 (by decide) (fun h_1 => ?_) (fun h_1 => ?_)
  · refine mm_aload_n 12 rfl dX5_note_11 rfl 0 rfl ?_
    refine gt_X5_9 15 rfl dX5_note_12 h0.1 ?_
    refine mm_aload_n 16 rfl dX5_note_15 rfl 0 rfl ?_
    refine gt_X5_21 19 rfl dX5_note_16 h0.1 ?_
    refine mm_iload_n 20 rfl dX5_note_19 rfl 1 rfl ?_
    refine mm_iast 21 rfl dX5_note_20 h0.2.1 (fun h_3 => ?_)
    refine mm_bM (fun M_2 => ?_)
    refine mm_aload_n 22 rfl dX5_note_21 rfl 0 rfl ?_
    refine gt_X5_15 25 rfl dX5_note_22 h0.1 ?_
    refine mm_aload_n 26 rfl dX5_note_25 rfl 0 rfl ?_
    refine gt_X5_21 29 rfl dX5_note_26 h0.1 ?_
    refine mm_iload_n 30 rfl dX5_note_29 rfl 2 rfl ?_
    refine mm_iast 31 rfl dX5_note_30 h0.2.2.1 (fun h_5 => ?_)
    refine mm_bM (fun M_4 => ?_)
    refine mm_aload_n 32 rfl dX5_note_31 rfl 0 rfl ?_
    refine gt_X5_18 35 rfl dX5_note_32 h0.1 ?_
    refine mm_aload_n 36 rfl dX5_note_35 rfl 0 rfl ?_
    refine gt_X5_21 39 rfl dX5_note_36 h0.1 ?_
    refine mm_iload_n 40 rfl dX5_note_39 rfl 3 rfl ?_
    refine mm_iast 41 rfl dX5_note_40 h0.2.2.2 (fun h_7 => ?_)
    refine mm_bM (fun M_6 => ?_)
    refine mm_aload_n 42 rfl dX5_note_41 rfl 0 rfl ?_
    refine mm_dup 43 rfl dX5_note_42 rfl ?_
    refine gt_X5_21 46 rfl dX5_note_43 h0.1 ?_
    refine mm_iconst 47 rfl (v := 1) dX5_note_46 (by decide) ?_
    refine mm_iadd 48 rfl dX5_note_47 ?_
    refine pt_X5_21 51 rfl dX5_note_48 h0.1 ?_
    refine mm_bM (fun M_8 => ?_)
    refine mm_iconst 52 rfl (v := 1) dX5_note_51 (by decide) ?_
    exact mm_zretK dX5_note_52 rfl rfl rfl
  · refine mm_iconst 10 rfl (v := 0) dX5_note_9 (by decide) ?_
    exact mm_zretK dX5_note_10 rfl rfl rfl

-- MangleLine$Sightings.become(LMangleLine$Sightings;)V
noncomputable def fn_X5_become (r0 : Nat) (r1 : Nat) (M : mm_M) : Option mm_M :=
  mm_let (mm_up M r0 0 (M r1 0)) fun M_1 => mm_let (mm_row M_1 (r0 + 1) (va_cpy (M_1 (r1 + 1)) (M_1 (r0 + 1)) 0 0 6)) fun M_2 => mm_let (mm_row M_2 (r0 + 2) (va_cpy (M_2 (r1 + 2)) (M_2 (r0 + 2)) 0 0 6)) fun M_3 => mm_let (mm_row M_3 (r0 + 3) (va_cpy (M_3 (r1 + 3)) (M_3 (r0 + 3)) 0 0 6)) fun M_4 => some M_4
set_option maxRecDepth 20000 in
set_option maxHeartbeats 4000000 in
theorem ct_X5_become {l : Launch} {G : mm_G} {sh : mm_S} {M : mm_M} (r0 : Nat) (r1 : Nat) (h0 : mm_isSee G sh r0) (h1 : mm_isSee G sh r1) : mm_K l G yX5_become (cX5_become, 2, RX5, none, 1) [.ref (mm_ad G r0), .ref (mm_ad G r1)] (mm_fv sh) sh M (fn_X5_become r0 r1 M) := by
  refine mm_met (by decide +kernel) rfl (Nat.le_of_ble_eq_true rfl) (fun X hX => ?_)
  subst hX
  show mm_T X G (cX5_become, 2, RX5, none, 1) (mm_fv sh) sh M 0 [(0, .ref (mm_ad G r0)), (1, .ref (mm_ad G r1))] [] (fn_X5_become r0 r1 M)
  unfold fn_X5_become
  refine mm_aload_n 1 rfl dX5_become_0 rfl 0 rfl ?_
  refine mm_aload_n 2 rfl dX5_become_1 rfl 1 rfl ?_
  refine gt_X5_21 5 rfl dX5_become_2 h1.1 ?_
  refine pt_X5_21 8 rfl dX5_become_5 h0.1 ?_
  refine mm_bM (fun M_1 => ?_)
  refine mm_aload_n 9 rfl dX5_become_8 rfl 1 rfl ?_
  refine gt_X5_9 12 rfl dX5_become_9 h1.1 ?_
  refine mm_iconst 13 rfl (v := 0) dX5_become_12 (by decide) ?_
  refine mm_aload_n 14 rfl dX5_become_13 rfl 0 rfl ?_
  refine gt_X5_9 17 rfl dX5_become_14 h0.1 ?_
  refine mm_iconst 18 rfl (v := 0) dX5_become_17 (by decide) ?_
  refine mm_bipush 20 rfl (v := 6) dX5_become_18 (by decide) ?_
  refine mm_copy 23 rfl dX5_become_20 h1.2.1 h0.2.1 (by decide) (by decide) (by decide) (by decide) (by decide) 0 0 6 (by decide) (by decide) (by decide) mw_3_226 mw_1_40 mw_1_39 mw_1_3 (by decide) (Nat.le_of_ble_eq_true rfl) ?_
  refine mm_bM (fun M_2 => ?_)
  refine mm_aload_n 24 rfl dX5_become_23 rfl 1 rfl ?_
  refine gt_X5_15 27 rfl dX5_become_24 h1.1 ?_
  refine mm_iconst 28 rfl (v := 0) dX5_become_27 (by decide) ?_
  refine mm_aload_n 29 rfl dX5_become_28 rfl 0 rfl ?_
  refine gt_X5_15 32 rfl dX5_become_29 h0.1 ?_
  refine mm_iconst 33 rfl (v := 0) dX5_become_32 (by decide) ?_
  refine mm_bipush 35 rfl (v := 6) dX5_become_33 (by decide) ?_
  refine mm_copy 38 rfl dX5_become_35 h1.2.2.1 h0.2.2.1 (by decide) (by decide) (by decide) (by decide) (by decide) 0 0 6 (by decide) (by decide) (by decide) mw_3_226 mw_1_40 mw_1_39 mw_1_3 (by decide) (Nat.le_of_ble_eq_true rfl) ?_
  refine mm_bM (fun M_3 => ?_)
  refine mm_aload_n 39 rfl dX5_become_38 rfl 1 rfl ?_
  refine gt_X5_18 42 rfl dX5_become_39 h1.1 ?_
  refine mm_iconst 43 rfl (v := 0) dX5_become_42 (by decide) ?_
  refine mm_aload_n 44 rfl dX5_become_43 rfl 0 rfl ?_
  refine gt_X5_18 47 rfl dX5_become_44 h0.1 ?_
  refine mm_iconst 48 rfl (v := 0) dX5_become_47 (by decide) ?_
  refine mm_bipush 50 rfl (v := 6) dX5_become_48 (by decide) ?_
  refine mm_copy 53 rfl dX5_become_50 h1.2.2.2 h0.2.2.2 (by decide) (by decide) (by decide) (by decide) (by decide) 0 0 6 (by decide) (by decide) (by decide) mw_3_226 mw_1_40 mw_1_39 mw_1_3 (by decide) (Nat.le_of_ble_eq_true rfl) ?_
  refine mm_bM (fun M_4 => ?_)
  exact mm_vret dX5_become_53 rfl rfl

-- MangleLine$Sightings.lastLook()I
noncomputable def fn_X5_lastLook_L4 (r0 : Nat) (k : Int32 → mm_M → Option (Int32 × mm_M)) : Nat → Int32 → Int32 → mm_M → Option (Int32 × mm_M)
  | 0, _, _, _ => none
  | n + 1, x1, x2, M => (if (M r0 0) ≤ x2 then k x1 M else (if mm_in x2 6 then mm_let (mm_max x1 (M (r0 + 1) x2.toNatClampNeg)) fun x1_3 => fn_X5_lastLook_L4 r0 k n x1_3 (x2 + 1) M else none))
set_option maxRecDepth 20000 in
set_option maxHeartbeats 4000000 in
theorem th_X5_lastLook_L4 {X : mm_X} {G : mm_G} {sh : mm_S} {r0 : Nat} {k : Int32 → mm_M → Option (Int32 × mm_M)} (h0 : mm_isSee G sh r0) (hk : ∀ (x1 : Int32) (M : mm_M), mm_T X G (cX5_lastLook, 3, RX5, (some .int), 1) (mm_fi sh) sh M 29 [(1, .int x1)] [] (k x1 M)) : ∀ (n : Nat) (x1 : Int32) (x2 : Int32) (M : mm_M), mm_T X G (cX5_lastLook, 3, RX5, (some .int), 1) (mm_fi sh) sh M 4 [(0, .ref (mm_ad G r0)), (1, .int x1), (2, .int x2)] [] (fn_X5_lastLook_L4 r0 k n x1 x2 M) := by
  intro n
  induction n with
  | zero => intro x1 x2 M; exact mm_none
  | succ n ih =>
    intro x1 x2 M
    rw [fn_X5_lastLook_L4]
    refine mm_iload_n 5 rfl dX5_lastLook_4 rfl 2 rfl ?_
    refine mm_aload_n 6 rfl dX5_lastLook_5 rfl 0 rfl ?_
    refine gt_X5_21 9 rfl dX5_lastLook_6 h0.1 ?_
    refine mm_icmp_ge 12 29 rfl dX5_lastLook_9 (by decide) (fun h_1 => ?_) (fun h_1 => ?_)
    · exact mm_lv [1] rfl (hk _ _)
    · refine mm_iload_n 13 rfl dX5_lastLook_12 rfl 1 rfl ?_
      refine mm_aload_n 14 rfl dX5_lastLook_13 rfl 0 rfl ?_
      refine gt_X5_9 17 rfl dX5_lastLook_14 h0.1 ?_
      refine mm_iload_n 18 rfl dX5_lastLook_17 rfl 2 rfl ?_
      refine mm_iald 19 rfl dX5_lastLook_18 h0.2.1 (fun h_2 => ?_)
      refine mm_mmax 22 rfl dX5_lastLook_19 mw_3_174 mw_3_22 mw_1_17 mw_3_23 (by decide) (Nat.le_of_ble_eq_true rfl) ?_
      refine mm_bI (fun x1_3 => ?_)
      refine mm_istore_n 23 rfl dX5_lastLook_22 rfl (lv' := [(1, .int x1_3), (0, .ref (mm_ad G r0)), (2, .int x2)]) (by decide) rfl ?_
      refine mm_iinc 26 rfl dX5_lastLook_23 2 rfl (v := (x2 + 1)) rfl (lv' := [(2, .int (x2 + 1)), (1, .int x1_3), (0, .ref (mm_ad G r0))]) (by decide) rfl ?_
      refine mm_goto 4 dX5_lastLook_26 (by decide) ?_
      exact mm_lv [2, 1, 0] rfl (ih _ _ _)
noncomputable def fn_X5_lastLook (r0 : Nat) (M : mm_M) : Option (Int32 × mm_M) :=
  fn_X5_lastLook_L4 r0 (fun x1_4 M_5 => some (x1_4, M_5)) mm_fu (-1) 0 M
set_option maxRecDepth 20000 in
set_option maxHeartbeats 4000000 in
theorem ct_X5_lastLook {l : Launch} {G : mm_G} {sh : mm_S} {M : mm_M} (r0 : Nat) (h0 : mm_isSee G sh r0) : mm_K l G yX5_lastLook (cX5_lastLook, 3, RX5, (some .int), 1) [.ref (mm_ad G r0)] (mm_fi sh) sh M (fn_X5_lastLook r0 M) := by
  refine mm_met (by decide +kernel) rfl (Nat.le_of_ble_eq_true rfl) (fun X hX => ?_)
  subst hX
  show mm_T X G (cX5_lastLook, 3, RX5, (some .int), 1) (mm_fi sh) sh M 0 [(0, .ref (mm_ad G r0))] [] (fn_X5_lastLook r0 M)
  unfold fn_X5_lastLook
  refine mm_iconst 1 rfl (v := (-1)) dX5_lastLook_0 (by decide) ?_
  refine mm_istore_n 2 rfl dX5_lastLook_1 rfl (lv' := [(1, .int (-1)), (0, .ref (mm_ad G r0))]) (by decide) rfl ?_
  refine mm_iconst 3 rfl (v := 0) dX5_lastLook_2 (by decide) ?_
  refine mm_istore_n 4 rfl dX5_lastLook_3 rfl (lv' := [(2, .int 0), (1, .int (-1)), (0, .ref (mm_ad G r0))]) (by decide) rfl ?_
  refine mm_lv [2, 1, 0] rfl (th_X5_lastLook_L4 h0 (fun x1_4 M_5 => ?_) mm_fu _ _ _)
  refine mm_iload_n 30 rfl dX5_lastLook_29 rfl 0 rfl ?_
  exact mm_iret dX5_lastLook_30 rfl rfl

-- MangleLine$Sightings.agreeOn(ILMangleLine$Laundry;)Z
noncomputable def fn_X5_agreeOn_L2 (r0 : Nat) (c1 : Int32) (r2 : Nat) (k0 : mm_M → Option (Int32 × mm_M)) (k1 : mm_M → Option (Int32 × mm_M)) : Nat → Int32 → mm_M → Option (Int32 × mm_M)
  | 0, _, _ => none
  | n + 1, x3, M => (if (M r0 0) ≤ x3 then k1  M else (if mm_in x3 6 then (if (M (r0 + 1) x3.toNatClampNeg) = c1 then (if mm_in (M (r0 + 2) x3.toNatClampNeg) 6 then (if (M (r2 + 4) (M (r0 + 2) x3.toNatClampNeg).toNatClampNeg) = (M (r0 + 3) x3.toNatClampNeg) then fn_X5_agreeOn_L2 r0 c1 r2 k0 k1 n (x3 + 1) M else k0  M) else none) else fn_X5_agreeOn_L2 r0 c1 r2 k0 k1 n (x3 + 1) M) else none))
set_option maxRecDepth 20000 in
set_option maxHeartbeats 4000000 in
theorem th_X5_agreeOn_L2 {X : mm_X} {G : mm_G} {sh : mm_S} {r0 : Nat} {c1 : Int32} {r2 : Nat} {k0 : mm_M → Option (Int32 × mm_M)} {k1 : mm_M → Option (Int32 × mm_M)} (h0 : mm_isSee G sh r0) (h2 : mm_isLau G sh r2) (hk0 : ∀ (M : mm_M), mm_T X G (cX5_agreeOn, 4, RX5, (some .boolean), 1) (mm_fi sh) sh M 40 [] [] (k0  M)) (hk1 : ∀ (M : mm_M), mm_T X G (cX5_agreeOn, 4, RX5, (some .boolean), 1) (mm_fi sh) sh M 48 [] [] (k1  M)) : ∀ (n : Nat) (x3 : Int32) (M : mm_M), mm_T X G (cX5_agreeOn, 4, RX5, (some .boolean), 1) (mm_fi sh) sh M 2 [(0, .ref (mm_ad G r0)), (1, .int c1), (2, .ref (mm_ad G r2)), (3, .int x3)] [] (fn_X5_agreeOn_L2 r0 c1 r2 k0 k1 n x3 M) := by
  intro n
  induction n with
  | zero => intro x3 M; exact mm_none
  | succ n ih =>
    intro x3 M
    rw [fn_X5_agreeOn_L2]
    refine mm_iload_n 3 rfl dX5_agreeOn_2 rfl 3 rfl ?_
    refine mm_aload_n 4 rfl dX5_agreeOn_3 rfl 0 rfl ?_
    refine gt_X5_21 7 rfl dX5_agreeOn_4 h0.1 ?_
    refine mm_icmp_ge 10 48 rfl dX5_agreeOn_7 (by decide) (fun h_1 => ?_) (fun h_1 => ?_)
    · exact mm_lv [] rfl (hk1 _)
    · refine mm_aload_n 11 rfl dX5_agreeOn_10 rfl 0 rfl ?_
      refine gt_X5_9 14 rfl dX5_agreeOn_11 h0.1 ?_
      refine mm_iload_n 15 rfl dX5_agreeOn_14 rfl 3 rfl ?_
      refine mm_iald 16 rfl dX5_agreeOn_15 h0.2.1 (fun h_2 => ?_)
      refine mm_iload_n 17 rfl dX5_agreeOn_16 rfl 1 rfl ?_
      refine mm_icmp_ne 20 42 rfl dX5_agreeOn_17 (by decide) (fun h_3 => ?_) (fun h_3 => ?_)
      · refine mm_iinc 45 rfl dX5_agreeOn_42 3 rfl (v := (x3 + 1)) rfl (lv' := [(3, .int (x3 + 1)), (0, .ref (mm_ad G r0)), (1, .int c1), (2, .ref (mm_ad G r2))]) (by decide) rfl ?_
        refine mm_goto 2 dX5_agreeOn_45 (by decide) ?_
        exact mm_lv [1, 2, 3, 0] rfl (ih _ _)
      · refine mm_aload_n 21 rfl dX5_agreeOn_20 rfl 2 rfl ?_
        refine gt_X5_54 24 rfl dX5_agreeOn_21 h2.1 ?_
        refine mm_aload_n 25 rfl dX5_agreeOn_24 rfl 0 rfl ?_
        refine gt_X5_15 28 rfl dX5_agreeOn_25 h0.1 ?_
        refine mm_iload_n 29 rfl dX5_agreeOn_28 rfl 3 rfl ?_
        refine mm_ialdK 30 rfl dX5_agreeOn_29 h0.2.2.1 h_2 _ rfl ?_
        refine mm_iald 31 rfl dX5_agreeOn_30 h2.2.2.2.2.1 (fun h_4 => ?_)
        refine mm_aload_n 32 rfl dX5_agreeOn_31 rfl 0 rfl ?_
        refine gt_X5_18 35 rfl dX5_agreeOn_32 h0.1 ?_
        refine mm_iload_n 36 rfl dX5_agreeOn_35 rfl 3 rfl ?_
        refine mm_ialdK 37 rfl dX5_agreeOn_36 h0.2.2.2 h_2 _ rfl ?_
        refine mm_icmp_eq 40 42 rfl dX5_agreeOn_37 (by decide) (fun h_5 => ?_) (fun h_5 => ?_)
        · refine mm_iinc 45 rfl dX5_agreeOn_42 3 rfl (v := (x3 + 1)) rfl (lv' := [(3, .int (x3 + 1)), (0, .ref (mm_ad G r0)), (1, .int c1), (2, .ref (mm_ad G r2))]) (by decide) rfl ?_
          refine mm_goto 2 dX5_agreeOn_45 (by decide) ?_
          exact mm_lv [1, 2, 3, 0] rfl (ih _ _)
        · exact mm_lv [] rfl (hk0 _)
noncomputable def fn_X5_agreeOn (r0 : Nat) (c1 : Int32) (r2 : Nat) (M : mm_M) : Option (Int32 × mm_M) :=
  fn_X5_agreeOn_L2 r0 c1 r2 (fun M_6 => some (0, M_6)) (fun M_8 => some (1, M_8)) mm_fu 0 M
set_option maxRecDepth 20000 in
set_option maxHeartbeats 4000000 in
theorem ct_X5_agreeOn {l : Launch} {G : mm_G} {sh : mm_S} {M : mm_M} (r0 : Nat) (c1 : Int32) (r2 : Nat) (h0 : mm_isSee G sh r0) (h2 : mm_isLau G sh r2) : mm_K l G yX5_agreeOn (cX5_agreeOn, 4, RX5, (some .boolean), 1) [.ref (mm_ad G r0), .int c1, .ref (mm_ad G r2)] (mm_fi sh) sh M (fn_X5_agreeOn r0 c1 r2 M) := by
  refine mm_met (by decide +kernel) rfl (Nat.le_of_ble_eq_true rfl) (fun X hX => ?_)
  subst hX
  show mm_T X G (cX5_agreeOn, 4, RX5, (some .boolean), 1) (mm_fi sh) sh M 0 [(0, .ref (mm_ad G r0)), (1, .int c1), (2, .ref (mm_ad G r2))] [] (fn_X5_agreeOn r0 c1 r2 M)
  unfold fn_X5_agreeOn
  refine mm_iconst 1 rfl (v := 0) dX5_agreeOn_0 (by decide) ?_
  refine mm_istore_n 2 rfl dX5_agreeOn_1 rfl (lv' := [(3, .int 0), (0, .ref (mm_ad G r0)), (1, .int c1), (2, .ref (mm_ad G r2))]) (by decide) rfl ?_
  refine mm_lv [1, 2, 3, 0] rfl (th_X5_agreeOn_L2 h0 h2 (fun M_6 => ?_) (fun M_8 => ?_) mm_fu _ _)
  · refine mm_iconst 41 rfl (v := 0) dX5_agreeOn_40 (by decide) ?_
    exact mm_zretK dX5_agreeOn_41 rfl rfl rfl
  · refine mm_iconst 49 rfl (v := 1) dX5_agreeOn_48 (by decide) ?_
    exact mm_zretK dX5_agreeOn_49 rfl rfl rfl

-- MangleLine$Sightings.agreeWith(LMangleLine$Laundry;)Z
noncomputable def fn_X5_agreeWith_L7 (r0 : Nat) (r1 : Nat) (c2 : Int32) (k0 : mm_M → Option (Int32 × mm_M)) (k1 : mm_M → Option (Int32 × mm_M)) : Nat → Int32 → mm_M → Option (Int32 × mm_M)
  | 0, _, _ => none
  | n + 1, x3, M => (if c2 < x3 then k1  M else ((fn_X5_agreeOn r0 x3 r1 M).bind fun z_4 => (if z_4.1 = 0 then k0  z_4.2 else ((fn_X2_sunToday r1 z_4.2).bind fun z_6 => ((fn_X2_passDay r1 z_6.1 z_6.2).bind fun z_7 => fn_X5_agreeWith_L7 r0 r1 c2 k0 k1 n (x3 + 1) z_7.2)))))
set_option maxRecDepth 20000 in
set_option maxHeartbeats 4000000 in
theorem th_X5_agreeWith_L7 {X : mm_X} {G : mm_G} {sh : mm_S} {r0 : Nat} {r1 : Nat} {c2 : Int32} {k0 : mm_M → Option (Int32 × mm_M)} {k1 : mm_M → Option (Int32 × mm_M)} (h0 : mm_isSee G sh r0) (h1 : mm_isLau G sh r1) (hk0 : ∀ (M : mm_M), mm_T X G (cX5_agreeWith, 4, RX5, (some .boolean), 4) (mm_fi sh) sh M 21 [] [] (k0  M)) (hk1 : ∀ (M : mm_M), mm_T X G (cX5_agreeWith, 4, RX5, (some .boolean), 4) (mm_fi sh) sh M 38 [] [] (k1  M)) : ∀ (n : Nat) (x3 : Int32) (M : mm_M), mm_T X G (cX5_agreeWith, 4, RX5, (some .boolean), 4) (mm_fi sh) sh M 7 [(0, .ref (mm_ad G r0)), (1, .ref (mm_ad G r1)), (2, .int c2), (3, .int x3)] [] (fn_X5_agreeWith_L7 r0 r1 c2 k0 k1 n x3 M) := by
  intro n
  induction n with
  | zero => intro x3 M; exact mm_none
  | succ n ih =>
    intro x3 M
    rw [fn_X5_agreeWith_L7]
    refine mm_iload_n 8 rfl dX5_agreeWith_7 rfl 3 rfl ?_
    refine mm_iload_n 9 rfl dX5_agreeWith_8 rfl 2 rfl ?_
    refine mm_icmp_gt 12 38 rfl dX5_agreeWith_9 (by decide) (fun h_3 => ?_) (fun h_3 => ?_)
    · exact mm_lv [] rfl (hk1 _)
    · refine mm_aload_n 13 rfl dX5_agreeWith_12 rfl 0 rfl ?_
      refine mm_iload_n 14 rfl dX5_agreeWith_13 rfl 3 rfl ?_
      refine mm_aload_n 15 rfl dX5_agreeWith_14 rfl 1 rfl ?_
      refine ca_X5_35 18 rfl dX5_agreeWith_15 h0.1 (ct_X5_agreeOn r0 x3 r1 h0 h1) (by decide) (Nat.le_of_ble_eq_true rfl) (fun z_4 => ?_)
      refine mm_if_ne 21 23 rfl dX5_agreeWith_18 (by decide) (fun h_5 => ?_) (fun h_5 => ?_)
      · refine mm_aload_n 24 rfl dX5_agreeWith_23 rfl 1 rfl ?_
        refine mm_aload_n 25 rfl dX5_agreeWith_24 rfl 1 rfl ?_
        refine ca_X5_39 28 rfl dX5_agreeWith_25 h1.1 (ct_X2_sunToday r1 h1) (by decide) (Nat.le_of_ble_eq_true rfl) (fun z_6 => ?_)
        refine ca_X5_44 31 rfl dX5_agreeWith_28 h1.1 (ct_X2_passDay r1 z_6.1 h1) (by decide) (Nat.le_of_ble_eq_true rfl) (fun z_7 => ?_)
        refine mm_pop 32 rfl dX5_agreeWith_31 rfl ?_
        refine mm_iinc 35 rfl dX5_agreeWith_32 3 rfl (v := (x3 + 1)) rfl (lv' := [(3, .int (x3 + 1)), (0, .ref (mm_ad G r0)), (1, .ref (mm_ad G r1)), (2, .int c2)]) (by decide) rfl ?_
        refine mm_goto 7 dX5_agreeWith_35 (by decide) ?_
        exact mm_lv [1, 2, 3, 0] rfl (ih _ _)
      · exact mm_lv [] rfl (hk0 _)
noncomputable def fn_X5_agreeWith (r0 : Nat) (r1 : Nat) (M : mm_M) : Option (Int32 × mm_M) :=
  ((fn_X5_lastLook r0 M).bind fun z_1 => mm_let z_1.1 fun x2_2 => fn_X5_agreeWith_L7 r0 r1 x2_2 (fun M_8 => some (0, M_8)) (fun M_10 => some (1, M_10)) mm_fu 0 z_1.2)
set_option maxRecDepth 20000 in
set_option maxHeartbeats 4000000 in
theorem ct_X5_agreeWith {l : Launch} {G : mm_G} {sh : mm_S} {M : mm_M} (r0 : Nat) (r1 : Nat) (h0 : mm_isSee G sh r0) (h1 : mm_isLau G sh r1) : mm_K l G yX5_agreeWith (cX5_agreeWith, 4, RX5, (some .boolean), 4) [.ref (mm_ad G r0), .ref (mm_ad G r1)] (mm_fi sh) sh M (fn_X5_agreeWith r0 r1 M) := by
  refine mm_met (by decide +kernel) rfl (Nat.le_of_ble_eq_true rfl) (fun X hX => ?_)
  subst hX
  show mm_T X G (cX5_agreeWith, 4, RX5, (some .boolean), 4) (mm_fi sh) sh M 0 [(0, .ref (mm_ad G r0)), (1, .ref (mm_ad G r1))] [] (fn_X5_agreeWith r0 r1 M)
  unfold fn_X5_agreeWith
  refine mm_aload_n 1 rfl dX5_agreeWith_0 rfl 0 rfl ?_
  refine ca_X5_31 4 rfl dX5_agreeWith_1 h0.1 (ct_X5_lastLook r0 h0) (by decide) (Nat.le_of_ble_eq_true rfl) (fun z_1 => ?_)
  refine mm_bI (fun x2_2 => ?_)
  refine mm_istore_n 5 rfl dX5_agreeWith_4 rfl (lv' := [(2, .int x2_2), (0, .ref (mm_ad G r0)), (1, .ref (mm_ad G r1))]) (by decide) rfl ?_
  refine mm_iconst 6 rfl (v := 0) dX5_agreeWith_5 (by decide) ?_
  refine mm_istore_n 7 rfl dX5_agreeWith_6 rfl (lv' := [(3, .int 0), (2, .int x2_2), (0, .ref (mm_ad G r0)), (1, .ref (mm_ad G r1))]) (by decide) rfl ?_
  refine mm_lv [2, 3, 1, 0] rfl (th_X5_agreeWith_L7 h0 h1 (fun M_8 => ?_) (fun M_10 => ?_) mm_fu _ _)
  · refine mm_iconst 22 rfl (v := 0) dX5_agreeWith_21 (by decide) ?_
    exact mm_zretK dX5_agreeWith_22 rfl rfl rfl
  · refine mm_iconst 39 rfl (v := 1) dX5_agreeWith_38 (by decide) ?_
    exact mm_zretK dX5_agreeWith_39 rfl rfl rfl

-- MangleLine$Sheet.renew(II)V
noncomputable def fn_X4_renew (r0 : Nat) (c1 : Int32) (c2 : Int32) (M : mm_M) : Option mm_M :=
  mm_let (mm_up M r0 0 c1) fun M_1 => mm_let (mm_up M_1 r0 1 c2) fun M_2 => ((fn_J7_fill_53178 (r0 + 1) 40 0 M_2).bind fun z_3 => some z_3)
set_option maxRecDepth 20000 in
set_option maxHeartbeats 4000000 in
theorem ct_X4_renew {l : Launch} {G : mm_G} {sh : mm_S} {M : mm_M} (r0 : Nat) (c1 : Int32) (c2 : Int32) (h0 : mm_isShe G sh r0) : mm_K l G yX4_renew (cX4_renew, 3, RX4, none, 2) [.ref (mm_ad G r0), .int c1, .int c2] (mm_fv sh) sh M (fn_X4_renew r0 c1 c2 M) := by
  refine mm_met (by decide +kernel) rfl (Nat.le_of_ble_eq_true rfl) (fun X hX => ?_)
  subst hX
  show mm_T X G (cX4_renew, 3, RX4, none, 2) (mm_fv sh) sh M 0 [(0, .ref (mm_ad G r0)), (1, .int c1), (2, .int c2)] [] (fn_X4_renew r0 c1 c2 M)
  unfold fn_X4_renew
  refine mm_aload_n 1 rfl dX4_renew_0 rfl 0 rfl ?_
  refine mm_iload_n 2 rfl dX4_renew_1 rfl 1 rfl ?_
  refine pt_X4_11 5 rfl dX4_renew_2 h0.1 ?_
  refine mm_bM (fun M_1 => ?_)
  refine mm_aload_n 6 rfl dX4_renew_5 rfl 0 rfl ?_
  refine mm_iload_n 7 rfl dX4_renew_6 rfl 2 rfl ?_
  refine pt_X4_19 10 rfl dX4_renew_7 h0.1 ?_
  refine mm_bM (fun M_2 => ?_)
  refine mm_aload_n 11 rfl dX4_renew_10 rfl 0 rfl ?_
  refine gt_X4_15 14 rfl dX4_renew_11 h0.1 ?_
  refine mm_iconst 15 rfl (v := 0) dX4_renew_14 (by decide) ?_
  refine ca_X4_22 18 rfl dX4_renew_15 (ct_J7_fill_53178 (r0 + 1) 40 0 h0.2) (by decide) (Nat.le_of_ble_eq_true rfl) (fun z_3 => ?_)
  exact mm_vret dX4_renew_18 rfl rfl

-- MangleLine$Sheet.isNothing()Z
noncomputable def fn_X4_isNothing (r0 : Nat) (M : mm_M) : Option (Int32 × mm_M) :=
  (if (M r0 0) = (-1) then some (1, M) else some (0, M))
set_option maxRecDepth 20000 in
set_option maxHeartbeats 4000000 in
theorem ct_X4_isNothing {l : Launch} {G : mm_G} {sh : mm_S} {M : mm_M} (r0 : Nat) (h0 : mm_isShe G sh r0) : mm_K l G yX4_isNothing (cX4_isNothing, 1, RX4, (some .boolean), 1) [.ref (mm_ad G r0)] (mm_fi sh) sh M (fn_X4_isNothing r0 M) := by
  refine mm_met (by decide +kernel) rfl (Nat.le_of_ble_eq_true rfl) (fun X hX => ?_)
  subst hX
  show mm_T X G (cX4_isNothing, 1, RX4, (some .boolean), 1) (mm_fi sh) sh M 0 [(0, .ref (mm_ad G r0))] [] (fn_X4_isNothing r0 M)
  unfold fn_X4_isNothing
  refine mm_aload_n 1 rfl dX4_isNothing_0 rfl 0 rfl ?_
  refine gt_X4_11 4 rfl dX4_isNothing_1 h0.1 ?_
  refine mm_iconst 5 rfl (v := (-1)) dX4_isNothing_4 (by decide) ?_
  refine mm_icmp_ne 8 12 rfl dX4_isNothing_5 (by decide) (fun h_1 => ?_) (fun h_1 => ?_)
  · refine mm_iconst 13 rfl (v := 0) dX4_isNothing_12 (by decide) ?_
    exact mm_zretK dX4_isNothing_13 rfl rfl rfl
  · refine mm_iconst 9 rfl (v := 1) dX4_isNothing_8 (by decide) ?_
    refine mm_goto 13 dX4_isNothing_9 (by decide) ?_
    exact mm_zretK dX4_isNothing_13 rfl rfl rfl

-- MangleLine$Sheet.hasCell(I)Z
noncomputable def fn_X4_hasCell (r0 : Nat) (c1 : Int32) (M : mm_M) : Option (Int32 × mm_M) :=
  ((fn_X7_within c1 0 ((M r0 1) - 1) M).bind fun z_1 => (if z_1.1 = 0 ∨ z_1.1 = 1 then some (z_1.1, z_1.2) else none))
set_option maxRecDepth 20000 in
set_option maxHeartbeats 4000000 in
theorem ct_X4_hasCell {l : Launch} {G : mm_G} {sh : mm_S} {M : mm_M} (r0 : Nat) (c1 : Int32) (h0 : mm_isShe G sh r0) : mm_K l G yX4_hasCell (cX4_hasCell, 2, RX4, (some .boolean), 2) [.ref (mm_ad G r0), .int c1] (mm_fi sh) sh M (fn_X4_hasCell r0 c1 M) := by
  refine mm_met (by decide +kernel) rfl (Nat.le_of_ble_eq_true rfl) (fun X hX => ?_)
  subst hX
  show mm_T X G (cX4_hasCell, 2, RX4, (some .boolean), 2) (mm_fi sh) sh M 0 [(0, .ref (mm_ad G r0)), (1, .int c1)] [] (fn_X4_hasCell r0 c1 M)
  unfold fn_X4_hasCell
  refine mm_iload_n 1 rfl dX4_hasCell_0 rfl 1 rfl ?_
  refine mm_iconst 2 rfl (v := 0) dX4_hasCell_1 (by decide) ?_
  refine mm_aload_n 3 rfl dX4_hasCell_2 rfl 0 rfl ?_
  refine gt_X4_19 6 rfl dX4_hasCell_3 h0.1 ?_
  refine mm_iconst 7 rfl (v := 1) dX4_hasCell_6 (by decide) ?_
  refine mm_isub 8 rfl dX4_hasCell_7 ?_
  refine ca_X4_28 11 rfl dX4_hasCell_8 (ct_X7_within c1 0 ((M r0 1) - 1) ) (by decide) (Nat.le_of_ble_eq_true rfl) (fun z_1 => ?_)
  exact mm_zret dX4_hasCell_11 rfl rfl

-- MangleLine$Sheet.write(II)V
noncomputable def fn_X4_write (r0 : Nat) (c1 : Int32) (c2 : Int32) (M : mm_M) : Option mm_M :=
  (if (M r0 0) = 0 then (if mm_in c1 40 then (mm_let (mm_up M (r0 + 1) c1.toNatClampNeg c2.toInt8.toInt32) fun M_2 => some M_2) else none) else (if (M r0 0) = 1 then (if mm_in c1 40 then (mm_let (mm_up M (r0 + 1) c1.toNatClampNeg c2.toInt16.toInt32) fun M_5 => some M_5) else none) else (if mm_in c1 40 then (mm_let (mm_up M (r0 + 1) c1.toNatClampNeg c2) fun M_7 => some M_7) else none)))
set_option maxRecDepth 20000 in
set_option maxHeartbeats 4000000 in
theorem ct_X4_write {l : Launch} {G : mm_G} {sh : mm_S} {M : mm_M} (r0 : Nat) (c1 : Int32) (c2 : Int32) (h0 : mm_isShe G sh r0) : mm_K l G yX4_write (cX4_write, 3, RX4, none, 1) [.ref (mm_ad G r0), .int c1, .int c2] (mm_fv sh) sh M (fn_X4_write r0 c1 c2 M) := by
  refine mm_met (by decide +kernel) rfl (Nat.le_of_ble_eq_true rfl) (fun X hX => ?_)
  subst hX
  show mm_T X G (cX4_write, 3, RX4, none, 1) (mm_fv sh) sh M 0 [(0, .ref (mm_ad G r0)), (1, .int c1), (2, .int c2)] [] (fn_X4_write r0 c1 c2 M)
  unfold fn_X4_write
  refine mm_aload_n 1 rfl dX4_write_0 rfl 0 rfl ?_
  refine gt_X4_11 4 rfl dX4_write_1 h0.1 ?_
  refine mm_ite (fun h_1 => ?_) (fun h_1 => ?_)
  · refine mm_lkup 32 (off := 28) dX4_write_4 (by decide) (by rw [h_1]; decide) (by decide) ?_
    refine mm_aload_n 33 rfl dX4_write_32 rfl 0 rfl ?_
    refine gt_X4_15 36 rfl dX4_write_33 h0.1 ?_
    refine mm_iload_n 37 rfl dX4_write_36 rfl 1 rfl ?_
    refine mm_iload_n 38 rfl dX4_write_37 rfl 2 rfl ?_
    refine mm_i2b 39 rfl dX4_write_38 ?_
    refine mm_iast 40 rfl dX4_write_39 h0.2 (fun h_3 => ?_)
    refine mm_bM (fun M_2 => ?_)
    refine mm_goto 61 dX4_write_40 (by decide) ?_
    exact mm_vret dX4_write_61 rfl rfl
  · refine mm_ite (fun h_4 => ?_) (fun h_4 => ?_)
    · refine mm_lkup 43 (off := 39) dX4_write_4 (by decide) (by rw [h_4]; decide) (by decide) ?_
      refine mm_aload_n 44 rfl dX4_write_43 rfl 0 rfl ?_
      refine gt_X4_15 47 rfl dX4_write_44 h0.1 ?_
      refine mm_iload_n 48 rfl dX4_write_47 rfl 1 rfl ?_
      refine mm_iload_n 49 rfl dX4_write_48 rfl 2 rfl ?_
      refine mm_i2s 50 rfl dX4_write_49 ?_
      refine mm_iast 51 rfl dX4_write_50 h0.2 (fun h_6 => ?_)
      refine mm_bM (fun M_5 => ?_)
      refine mm_goto 61 dX4_write_51 (by decide) ?_
      exact mm_vret dX4_write_61 rfl rfl
    · refine mm_lkup 54 dX4_write_4 (by decide) (mm_lkno (l := [((0 : Int), (28 : Int)), ((1 : Int), (39 : Int))]) (List.forall_mem_cons.mpr ⟨mm_toInt_ne h_1 (by decide), List.forall_mem_cons.mpr ⟨mm_toInt_ne h_4 (by decide), fun _ h => absurd h List.not_mem_nil⟩⟩)) (by decide) ?_
      refine mm_aload_n 55 rfl dX4_write_54 rfl 0 rfl ?_
      refine gt_X4_15 58 rfl dX4_write_55 h0.1 ?_
      refine mm_iload_n 59 rfl dX4_write_58 rfl 1 rfl ?_
      refine mm_iload_n 60 rfl dX4_write_59 rfl 2 rfl ?_
      refine mm_iast 61 rfl dX4_write_60 h0.2 (fun h_8 => ?_)
      refine mm_bM (fun M_7 => ?_)
      exact mm_vret dX4_write_61 rfl rfl

-- MangleLine$Sheet.isAnotherLane(I)Z
noncomputable def fn_X4_isAnotherLane (r0 : Nat) (c1 : Int32) (M : mm_M) : Option (Int32 × mm_M) :=
  ((fn_X4_isNothing r0 M).bind fun z_1 => (if z_1.1 = 0 then (if (z_1.2 r0 0) = c1 then some (0, z_1.2) else some (1, z_1.2)) else some (0, z_1.2)))
set_option maxRecDepth 20000 in
set_option maxHeartbeats 4000000 in
theorem ct_X4_isAnotherLane {l : Launch} {G : mm_G} {sh : mm_S} {M : mm_M} (r0 : Nat) (c1 : Int32) (h0 : mm_isShe G sh r0) : mm_K l G yX4_isAnotherLane (cX4_isAnotherLane, 2, RX4, (some .boolean), 2) [.ref (mm_ad G r0), .int c1] (mm_fi sh) sh M (fn_X4_isAnotherLane r0 c1 M) := by
  refine mm_met (by decide +kernel) rfl (Nat.le_of_ble_eq_true rfl) (fun X hX => ?_)
  subst hX
  show mm_T X G (cX4_isAnotherLane, 2, RX4, (some .boolean), 2) (mm_fi sh) sh M 0 [(0, .ref (mm_ad G r0)), (1, .int c1)] [] (fn_X4_isAnotherLane r0 c1 M)
  unfold fn_X4_isAnotherLane
  refine mm_aload_n 1 rfl dX4_isAnotherLane_0 rfl 0 rfl ?_
  refine ca_X4_32 4 rfl dX4_isAnotherLane_1 h0.1 (ct_X4_isNothing r0 h0) (by decide) (Nat.le_of_ble_eq_true rfl) (fun z_1 => ?_)
  refine mm_if_ne 7 19 rfl dX4_isAnotherLane_4 (by decide) (fun h_2 => ?_) (fun h_2 => ?_)
  · refine mm_iconst 20 rfl (v := 0) dX4_isAnotherLane_19 (by decide) ?_
    exact mm_zretK dX4_isAnotherLane_20 rfl rfl rfl
  · refine mm_aload_n 8 rfl dX4_isAnotherLane_7 rfl 0 rfl ?_
    refine gt_X4_11 11 rfl dX4_isAnotherLane_8 h0.1 ?_
    refine mm_iload_n 12 rfl dX4_isAnotherLane_11 rfl 1 rfl ?_
    refine mm_icmp_eq 15 19 rfl dX4_isAnotherLane_12 (by decide) (fun h_3 => ?_) (fun h_3 => ?_)
    · refine mm_iconst 20 rfl (v := 0) dX4_isAnotherLane_19 (by decide) ?_
      exact mm_zretK dX4_isAnotherLane_20 rfl rfl rfl
    · refine mm_iconst 16 rfl (v := 1) dX4_isAnotherLane_15 (by decide) ?_
      refine mm_goto 20 dX4_isAnotherLane_16 (by decide) ?_
      exact mm_zretK dX4_isAnotherLane_20 rfl rfl rfl

-- MangleLine$Sheet.wholePairs(III)I
noncomputable def fn_X4_wholePairs (r0 : Nat) (c1 : Int32) (c2 : Int32) (c3 : Int32) (M : mm_M) : Option (Int32 × mm_M) :=
  ((fn_X4_isNothing r0 M).bind fun z_1 => (if z_1.1 = 0 then ((fn_X4_isAnotherLane r0 c1 z_1.2).bind fun z_3 => (if z_3.1 = 0 then ((fn_X4_hasCell r0 c2 z_3.2).bind fun z_5 => (if z_5.1 = 0 then some (0, z_5.2) else some ((mm_min c3 (((z_5.2 r0 1) - c2) / 2)), z_5.2))) else some (0, z_3.2))) else some (0, z_1.2)))
set_option maxRecDepth 20000 in
set_option maxHeartbeats 4000000 in
theorem ct_X4_wholePairs {l : Launch} {G : mm_G} {sh : mm_S} {M : mm_M} (r0 : Nat) (c1 : Int32) (c2 : Int32) (c3 : Int32) (h0 : mm_isShe G sh r0) : mm_K l G yX4_wholePairs (cX4_wholePairs, 4, RX4, (some .int), 3) [.ref (mm_ad G r0), .int c1, .int c2, .int c3] (mm_fi sh) sh M (fn_X4_wholePairs r0 c1 c2 c3 M) := by
  refine mm_met (by decide +kernel) rfl (Nat.le_of_ble_eq_true rfl) (fun X hX => ?_)
  subst hX
  show mm_T X G (cX4_wholePairs, 4, RX4, (some .int), 3) (mm_fi sh) sh M 0 [(0, .ref (mm_ad G r0)), (1, .int c1), (2, .int c2), (3, .int c3)] [] (fn_X4_wholePairs r0 c1 c2 c3 M)
  unfold fn_X4_wholePairs
  refine mm_aload_n 1 rfl dX4_wholePairs_0 rfl 0 rfl ?_
  refine ca_X4_32 4 rfl dX4_wholePairs_1 h0.1 (ct_X4_isNothing r0 h0) (by decide) (Nat.le_of_ble_eq_true rfl) (fun z_1 => ?_)
  refine mm_if_ne 7 23 rfl dX4_wholePairs_4 (by decide) (fun h_2 => ?_) (fun h_2 => ?_)
  · refine mm_iconst 24 rfl (v := 0) dX4_wholePairs_23 (by decide) ?_
    exact mm_iret dX4_wholePairs_24 rfl rfl
  · refine mm_aload_n 8 rfl dX4_wholePairs_7 rfl 0 rfl ?_
    refine mm_iload_n 9 rfl dX4_wholePairs_8 rfl 1 rfl ?_
    refine ca_X4_36 12 rfl dX4_wholePairs_9 h0.1 (ct_X4_isAnotherLane r0 c1 h0) (by decide) (Nat.le_of_ble_eq_true rfl) (fun z_3 => ?_)
    refine mm_if_ne 15 23 rfl dX4_wholePairs_12 (by decide) (fun h_4 => ?_) (fun h_4 => ?_)
    · refine mm_iconst 24 rfl (v := 0) dX4_wholePairs_23 (by decide) ?_
      exact mm_iret dX4_wholePairs_24 rfl rfl
    · refine mm_aload_n 16 rfl dX4_wholePairs_15 rfl 0 rfl ?_
      refine mm_iload_n 17 rfl dX4_wholePairs_16 rfl 2 rfl ?_
      refine ca_X4_40 20 rfl dX4_wholePairs_17 h0.1 (ct_X4_hasCell r0 c2 h0) (by decide) (Nat.le_of_ble_eq_true rfl) (fun z_5 => ?_)
      refine mm_if_ne 23 25 rfl dX4_wholePairs_20 (by decide) (fun h_6 => ?_) (fun h_6 => ?_)
      · refine mm_iload_n 26 rfl dX4_wholePairs_25 rfl 3 rfl ?_
        refine mm_aload_n 27 rfl dX4_wholePairs_26 rfl 0 rfl ?_
        refine gt_X4_19 30 rfl dX4_wholePairs_27 h0.1 ?_
        refine mm_iload_n 31 rfl dX4_wholePairs_30 rfl 2 rfl ?_
        refine mm_isub 32 rfl dX4_wholePairs_31 ?_
        refine mm_iconst 33 rfl (v := 2) dX4_wholePairs_32 (by decide) ?_
        refine mm_idiv 34 rfl dX4_wholePairs_33 (by decide) ?_
        refine mm_mmin 37 rfl dX4_wholePairs_34 mw_4_37 mw_3_216 mw_1_17 mw_3_217 (by decide) (Nat.le_of_ble_eq_true rfl) ?_
        exact mm_iret dX4_wholePairs_37 rfl rfl
      · refine mm_iconst 24 rfl (v := 0) dX4_wholePairs_23 (by decide) ?_
        exact mm_iret dX4_wholePairs_24 rfl rfl

-- MangleLine$Sheet.faultOfReading(IZ)I
noncomputable def fn_X4_faultOfReading (r0 : Nat) (c1 : Int32) (c2 : Int32) (M : mm_M) : Option (Int32 × mm_M) :=
  (if c2 = 0 then some (0, M) else ((fn_X4_isNothing r0 M).bind fun z_2 => (if z_2.1 = 0 then ((fn_X4_isAnotherLane r0 c1 z_2.2).bind fun z_4 => (if z_4.1 = 0 then some (2, z_4.2) else some (3, z_4.2))) else some (1, z_2.2))))
set_option maxRecDepth 20000 in
set_option maxHeartbeats 4000000 in
theorem ct_X4_faultOfReading {l : Launch} {G : mm_G} {sh : mm_S} {M : mm_M} (r0 : Nat) (c1 : Int32) (c2 : Int32) (h0 : mm_isShe G sh r0) : mm_K l G yX4_faultOfReading (cX4_faultOfReading, 3, RX4, (some .int), 3) [.ref (mm_ad G r0), .int c1, .int c2] (mm_fi sh) sh M (fn_X4_faultOfReading r0 c1 c2 M) := by
  refine mm_met (by decide +kernel) rfl (Nat.le_of_ble_eq_true rfl) (fun X hX => ?_)
  subst hX
  show mm_T X G (cX4_faultOfReading, 3, RX4, (some .int), 3) (mm_fi sh) sh M 0 [(0, .ref (mm_ad G r0)), (1, .int c1), (2, .int c2)] [] (fn_X4_faultOfReading r0 c1 c2 M)
  unfold fn_X4_faultOfReading
  refine mm_iload_n 1 rfl dX4_faultOfReading_0 rfl 2 rfl ?_
  refine mm_if_ne 4 6 rfl dX4_faultOfReading_1 (by decide) (fun h_1 => ?_) (fun h_1 => ?_)
  · refine mm_aload_n 7 rfl dX4_faultOfReading_6 rfl 0 rfl ?_
    refine ca_X4_32 10 rfl dX4_faultOfReading_7 h0.1 (ct_X4_isNothing r0 h0) (by decide) (Nat.le_of_ble_eq_true rfl) (fun z_2 => ?_)
    refine mm_if_eq 13 15 rfl dX4_faultOfReading_10 (by decide) (fun h_3 => ?_) (fun h_3 => ?_)
    · refine mm_aload_n 16 rfl dX4_faultOfReading_15 rfl 0 rfl ?_
      refine mm_iload_n 17 rfl dX4_faultOfReading_16 rfl 1 rfl ?_
      refine ca_X4_36 20 rfl dX4_faultOfReading_17 h0.1 (ct_X4_isAnotherLane r0 c1 h0) (by decide) (Nat.le_of_ble_eq_true rfl) (fun z_4 => ?_)
      refine mm_if_eq 23 27 rfl dX4_faultOfReading_20 (by decide) (fun h_5 => ?_) (fun h_5 => ?_)
      · refine mm_iconst 28 rfl (v := 2) dX4_faultOfReading_27 (by decide) ?_
        exact mm_iret dX4_faultOfReading_28 rfl rfl
      · refine mm_iconst 24 rfl (v := 3) dX4_faultOfReading_23 (by decide) ?_
        refine mm_goto 28 dX4_faultOfReading_24 (by decide) ?_
        exact mm_iret dX4_faultOfReading_28 rfl rfl
    · refine mm_iconst 14 rfl (v := 1) dX4_faultOfReading_13 (by decide) ?_
      exact mm_iret dX4_faultOfReading_14 rfl rfl
  · refine mm_iconst 5 rfl (v := 0) dX4_faultOfReading_4 (by decide) ?_
    exact mm_iret dX4_faultOfReading_5 rfl rfl

-- MangleLine$Tape.append(I)Z
noncomputable def fn_X6_append (c1 : Int32) (M : mm_M) : Option (Int32 × mm_M) :=
  (if (M 16 1) < 160 then (if mm_in (M 16 1) 160 then (mm_let (mm_up M 17 (M 16 1).toNatClampNeg c1) fun M_2 => mm_let (mm_up M_2 16 1 ((M_2 16 1) + 1)) fun M_4 => some (1, M_4)) else none) else some (0, M))
set_option maxRecDepth 20000 in
set_option maxHeartbeats 4000000 in
theorem ct_X6_append {l : Launch} {G : mm_G} {sh : mm_S} {M : mm_M} (c1 : Int32) (h0 : mm_isTap G sh) : mm_K l G yX6_append (cX6_append, 2, RX6, (some .boolean), 1) [.ref (mm_ad G 16), .int c1] (mm_fi sh) sh M (fn_X6_append c1 M) := by
  refine mm_met (by decide +kernel) rfl (Nat.le_of_ble_eq_true rfl) (fun X hX => ?_)
  subst hX
  show mm_T X G (cX6_append, 2, RX6, (some .boolean), 1) (mm_fi sh) sh M 0 [(0, .ref (mm_ad G 16)), (1, .int c1)] [] (fn_X6_append c1 M)
  unfold fn_X6_append
  refine mm_aload_n 1 rfl dX6_append_0 rfl 0 rfl ?_
  refine gt_X6_15 4 rfl dX6_append_1 h0.1 ?_
  refine mm_sipush 7 rfl (v := 160) dX6_append_4 (by decide) ?_
  refine mm_icmp_lt 10 12 rfl dX6_append_7 (by decide) (fun h_1 => ?_) (fun h_1 => ?_)
  · refine mm_aload_n 13 rfl dX6_append_12 rfl 0 rfl ?_
    refine gt_X6_11 16 rfl dX6_append_13 h0.1 ?_
    refine mm_aload_n 17 rfl dX6_append_16 rfl 0 rfl ?_
    refine gt_X6_15 20 rfl dX6_append_17 h0.1 ?_
    refine mm_iload_n 21 rfl dX6_append_20 rfl 1 rfl ?_
    refine mm_iast 22 rfl dX6_append_21 h0.2 (fun h_3 => ?_)
    refine mm_bM (fun M_2 => ?_)
    refine mm_aload_n 23 rfl dX6_append_22 rfl 0 rfl ?_
    refine mm_dup 24 rfl dX6_append_23 rfl ?_
    refine gt_X6_15 27 rfl dX6_append_24 h0.1 ?_
    refine mm_iconst 28 rfl (v := 1) dX6_append_27 (by decide) ?_
    refine mm_iadd 29 rfl dX6_append_28 ?_
    refine pt_X6_15 32 rfl dX6_append_29 h0.1 ?_
    refine mm_bM (fun M_4 => ?_)
    refine mm_iconst 33 rfl (v := 1) dX6_append_32 (by decide) ?_
    exact mm_zretK dX6_append_33 rfl rfl rfl
  · refine mm_iconst 11 rfl (v := 0) dX6_append_10 (by decide) ?_
    exact mm_zretK dX6_append_11 rfl rfl rfl

-- MangleLine$Tape.rewind()V
noncomputable def fn_X6_rewind  (M : mm_M) : Option mm_M :=
  mm_let (mm_up M 16 2 0) fun M_1 => some M_1
set_option maxRecDepth 20000 in
set_option maxHeartbeats 4000000 in
theorem ct_X6_rewind {l : Launch} {G : mm_G} {sh : mm_S} {M : mm_M} (h0 : mm_isTap G sh) : mm_K l G yX6_rewind (cX6_rewind, 1, RX6, none, 1) [.ref (mm_ad G 16)] (mm_fv sh) sh M (fn_X6_rewind  M) := by
  refine mm_met (by decide +kernel) rfl (Nat.le_of_ble_eq_true rfl) (fun X hX => ?_)
  subst hX
  show mm_T X G (cX6_rewind, 1, RX6, none, 1) (mm_fv sh) sh M 0 [(0, .ref (mm_ad G 16))] [] (fn_X6_rewind  M)
  unfold fn_X6_rewind
  refine mm_aload_n 1 rfl dX6_rewind_0 rfl 0 rfl ?_
  refine mm_iconst 2 rfl (v := 0) dX6_rewind_1 (by decide) ?_
  refine pt_X6_19 5 rfl dX6_rewind_2 h0.1 ?_
  refine mm_bM (fun M_1 => ?_)
  exact mm_vret dX6_rewind_5 rfl rfl

-- MangleLine$Tape.tokenWith(I)I
noncomputable def fn_X6_tokenWith (c0 : Int32) (M : mm_M) : Option (Int32 × mm_M) :=
  (if c0 < 97 then (if c0 < 48 then (if c0 = 59 then some (3, M) else some (0, M)) else (if 57 < c0 then (if c0 = 59 then some (3, M) else some (0, M)) else some (2, M))) else (if 122 < c0 then (if c0 < 48 then (if c0 = 59 then some (3, M) else some (0, M)) else (if 57 < c0 then (if c0 = 59 then some (3, M) else some (0, M)) else some (2, M))) else some (1, M)))
set_option maxRecDepth 20000 in
set_option maxHeartbeats 4000000 in
theorem ct_X6_tokenWith {l : Launch} {G : mm_G} {sh : mm_S} {M : mm_M} (c0 : Int32) : mm_K l G yX6_tokenWith (cX6_tokenWith, 1, RX6, (some .int), 1) [.int c0] (mm_fi sh) sh M (fn_X6_tokenWith c0 M) := by
  refine mm_met (by decide +kernel) rfl (Nat.le_of_ble_eq_true rfl) (fun X hX => ?_)
  subst hX
  show mm_T X G (cX6_tokenWith, 1, RX6, (some .int), 1) (mm_fi sh) sh M 0 [(0, .int c0)] [] (fn_X6_tokenWith c0 M)
  unfold fn_X6_tokenWith
  refine mm_iload_n 1 rfl dX6_tokenWith_0 rfl 0 rfl ?_
  refine mm_bipush 3 rfl (v := 97) dX6_tokenWith_1 (by decide) ?_
  refine mm_icmp_lt 6 14 rfl dX6_tokenWith_3 (by decide) (fun h_1 => ?_) (fun h_1 => ?_)
  · refine mm_iload_n 15 rfl dX6_tokenWith_14 rfl 0 rfl ?_
    refine mm_bipush 17 rfl (v := 48) dX6_tokenWith_15 (by decide) ?_
    refine mm_icmp_lt 20 28 rfl dX6_tokenWith_17 (by decide) (fun h_2 => ?_) (fun h_2 => ?_)
    · refine mm_iload_n 29 rfl dX6_tokenWith_28 rfl 0 rfl ?_
      refine mm_bipush 31 rfl (v := 59) dX6_tokenWith_29 (by decide) ?_
      refine mm_icmp_ne 34 38 rfl dX6_tokenWith_31 (by decide) (fun h_3 => ?_) (fun h_3 => ?_)
      · refine mm_iconst 39 rfl (v := 0) dX6_tokenWith_38 (by decide) ?_
        exact mm_iret dX6_tokenWith_39 rfl rfl
      · refine mm_iconst 35 rfl (v := 3) dX6_tokenWith_34 (by decide) ?_
        refine mm_goto 39 dX6_tokenWith_35 (by decide) ?_
        exact mm_iret dX6_tokenWith_39 rfl rfl
    · refine mm_iload_n 21 rfl dX6_tokenWith_20 rfl 0 rfl ?_
      refine mm_bipush 23 rfl (v := 57) dX6_tokenWith_21 (by decide) ?_
      refine mm_icmp_gt 26 28 rfl dX6_tokenWith_23 (by decide) (fun h_4 => ?_) (fun h_4 => ?_)
      · refine mm_iload_n 29 rfl dX6_tokenWith_28 rfl 0 rfl ?_
        refine mm_bipush 31 rfl (v := 59) dX6_tokenWith_29 (by decide) ?_
        refine mm_icmp_ne 34 38 rfl dX6_tokenWith_31 (by decide) (fun h_5 => ?_) (fun h_5 => ?_)
        · refine mm_iconst 39 rfl (v := 0) dX6_tokenWith_38 (by decide) ?_
          exact mm_iret dX6_tokenWith_39 rfl rfl
        · refine mm_iconst 35 rfl (v := 3) dX6_tokenWith_34 (by decide) ?_
          refine mm_goto 39 dX6_tokenWith_35 (by decide) ?_
          exact mm_iret dX6_tokenWith_39 rfl rfl
      · refine mm_iconst 27 rfl (v := 2) dX6_tokenWith_26 (by decide) ?_
        exact mm_iret dX6_tokenWith_27 rfl rfl
  · refine mm_iload_n 7 rfl dX6_tokenWith_6 rfl 0 rfl ?_
    refine mm_bipush 9 rfl (v := 122) dX6_tokenWith_7 (by decide) ?_
    refine mm_icmp_gt 12 14 rfl dX6_tokenWith_9 (by decide) (fun h_6 => ?_) (fun h_6 => ?_)
    · refine mm_iload_n 15 rfl dX6_tokenWith_14 rfl 0 rfl ?_
      refine mm_bipush 17 rfl (v := 48) dX6_tokenWith_15 (by decide) ?_
      refine mm_icmp_lt 20 28 rfl dX6_tokenWith_17 (by decide) (fun h_7 => ?_) (fun h_7 => ?_)
      · refine mm_iload_n 29 rfl dX6_tokenWith_28 rfl 0 rfl ?_
        refine mm_bipush 31 rfl (v := 59) dX6_tokenWith_29 (by decide) ?_
        refine mm_icmp_ne 34 38 rfl dX6_tokenWith_31 (by decide) (fun h_8 => ?_) (fun h_8 => ?_)
        · refine mm_iconst 39 rfl (v := 0) dX6_tokenWith_38 (by decide) ?_
          exact mm_iret dX6_tokenWith_39 rfl rfl
        · refine mm_iconst 35 rfl (v := 3) dX6_tokenWith_34 (by decide) ?_
          refine mm_goto 39 dX6_tokenWith_35 (by decide) ?_
          exact mm_iret dX6_tokenWith_39 rfl rfl
      · refine mm_iload_n 21 rfl dX6_tokenWith_20 rfl 0 rfl ?_
        refine mm_bipush 23 rfl (v := 57) dX6_tokenWith_21 (by decide) ?_
        refine mm_icmp_gt 26 28 rfl dX6_tokenWith_23 (by decide) (fun h_9 => ?_) (fun h_9 => ?_)
        · refine mm_iload_n 29 rfl dX6_tokenWith_28 rfl 0 rfl ?_
          refine mm_bipush 31 rfl (v := 59) dX6_tokenWith_29 (by decide) ?_
          refine mm_icmp_ne 34 38 rfl dX6_tokenWith_31 (by decide) (fun h_10 => ?_) (fun h_10 => ?_)
          · refine mm_iconst 39 rfl (v := 0) dX6_tokenWith_38 (by decide) ?_
            exact mm_iret dX6_tokenWith_39 rfl rfl
          · refine mm_iconst 35 rfl (v := 3) dX6_tokenWith_34 (by decide) ?_
            refine mm_goto 39 dX6_tokenWith_35 (by decide) ?_
            exact mm_iret dX6_tokenWith_39 rfl rfl
        · refine mm_iconst 27 rfl (v := 2) dX6_tokenWith_26 (by decide) ?_
          exact mm_iret dX6_tokenWith_27 rfl rfl
    · refine mm_iconst 13 rfl (v := 1) dX6_tokenWith_12 (by decide) ?_
      exact mm_iret dX6_tokenWith_13 rfl rfl

-- MangleLine$Tape.readFigures()V
noncomputable def fn_X6_readFigures_L29  (k : mm_M → Option mm_M) : Nat → Int32 → mm_M → Option mm_M
  | 0, _, _ => none
  | n + 1, x1, M => (if (M 16 2) ≤ x1 then k  M else (if mm_in x1 160 then mm_let (mm_up M 16 5 ((((M 16 5) * 10) + (M 17 x1.toNatClampNeg)) - 48)) fun M_6 => fn_X6_readFigures_L29 k n (x1 + 1) M_6 else none))
set_option maxRecDepth 20000 in
set_option maxHeartbeats 4000000 in
theorem th_X6_readFigures_L29 {X : mm_X} {G : mm_G} {sh : mm_S} {k : mm_M → Option mm_M} (h0 : mm_isTap G sh) (hk : ∀ (M : mm_M), mm_T X G (cX6_readFigures, 2, RX6, none, 1) (mm_fv sh) sh M 64 [] [] (k  M)) : ∀ (n : Nat) (x1 : Int32) (M : mm_M), mm_T X G (cX6_readFigures, 2, RX6, none, 1) (mm_fv sh) sh M 29 [(0, .ref (mm_ad G 16)), (1, .int x1)] [] (fn_X6_readFigures_L29 k n x1 M) := by
  intro n
  induction n with
  | zero => intro x1 M; exact mm_none
  | succ n ih =>
    intro x1 M
    rw [fn_X6_readFigures_L29]
    refine mm_iload_n 30 rfl dX6_readFigures_29 rfl 1 rfl ?_
    refine mm_aload_n 31 rfl dX6_readFigures_30 rfl 0 rfl ?_
    refine gt_X6_19 34 rfl dX6_readFigures_31 h0.1 ?_
    refine mm_icmp_ge 37 64 rfl dX6_readFigures_34 (by decide) (fun h_4 => ?_) (fun h_4 => ?_)
    · exact mm_lv [] rfl (hk _)
    · refine mm_aload_n 38 rfl dX6_readFigures_37 rfl 0 rfl ?_
      refine mm_aload_n 39 rfl dX6_readFigures_38 rfl 0 rfl ?_
      refine gt_X6_35 42 rfl dX6_readFigures_39 h0.1 ?_
      refine mm_bipush 44 rfl (v := 10) dX6_readFigures_42 (by decide) ?_
      refine mm_imul 45 rfl dX6_readFigures_44 ?_
      refine mm_aload_n 46 rfl dX6_readFigures_45 rfl 0 rfl ?_
      refine gt_X6_11 49 rfl dX6_readFigures_46 h0.1 ?_
      refine mm_iload_n 50 rfl dX6_readFigures_49 rfl 1 rfl ?_
      refine mm_iald 51 rfl dX6_readFigures_50 h0.2 (fun h_5 => ?_)
      refine mm_iadd 52 rfl dX6_readFigures_51 ?_
      refine mm_bipush 54 rfl (v := 48) dX6_readFigures_52 (by decide) ?_
      refine mm_isub 55 rfl dX6_readFigures_54 ?_
      refine pt_X6_35 58 rfl dX6_readFigures_55 h0.1 ?_
      refine mm_bM (fun M_6 => ?_)
      refine mm_iinc 61 rfl dX6_readFigures_58 1 rfl (v := (x1 + 1)) rfl (lv' := [(1, .int (x1 + 1)), (0, .ref (mm_ad G 16))]) (by decide) rfl ?_
      refine mm_goto 29 dX6_readFigures_61 (by decide) ?_
      exact mm_lv [1, 0] rfl (ih _ _)
noncomputable def fn_X6_readFigures  (M : mm_M) : Option mm_M :=
  (if ((M 16 2) - (M 16 4)) ≤ 2 then mm_let (mm_up M 16 5 0) fun M_2 => mm_let (M_2 16 4) fun x1_3 => fn_X6_readFigures_L29  (fun M_7 => some M_7) mm_fu x1_3 M_2 else mm_let (mm_up M 16 3 0) fun M_9 => some M_9)
set_option maxRecDepth 20000 in
set_option maxHeartbeats 4000000 in
theorem ct_X6_readFigures {l : Launch} {G : mm_G} {sh : mm_S} {M : mm_M} (h0 : mm_isTap G sh) : mm_K l G yX6_readFigures (cX6_readFigures, 2, RX6, none, 1) [.ref (mm_ad G 16)] (mm_fv sh) sh M (fn_X6_readFigures  M) := by
  refine mm_met (by decide +kernel) rfl (Nat.le_of_ble_eq_true rfl) (fun X hX => ?_)
  subst hX
  show mm_T X G (cX6_readFigures, 2, RX6, none, 1) (mm_fv sh) sh M 0 [(0, .ref (mm_ad G 16))] [] (fn_X6_readFigures  M)
  unfold fn_X6_readFigures
  refine mm_aload_n 1 rfl dX6_readFigures_0 rfl 0 rfl ?_
  refine gt_X6_19 4 rfl dX6_readFigures_1 h0.1 ?_
  refine mm_aload_n 5 rfl dX6_readFigures_4 rfl 0 rfl ?_
  refine gt_X6_22 8 rfl dX6_readFigures_5 h0.1 ?_
  refine mm_isub 9 rfl dX6_readFigures_8 ?_
  refine mm_iconst 10 rfl (v := 2) dX6_readFigures_9 (by decide) ?_
  refine mm_icmp_le 13 19 rfl dX6_readFigures_10 (by decide) (fun h_1 => ?_) (fun h_1 => ?_)
  · refine mm_aload_n 20 rfl dX6_readFigures_19 rfl 0 rfl ?_
    refine mm_iconst 21 rfl (v := 0) dX6_readFigures_20 (by decide) ?_
    refine pt_X6_35 24 rfl dX6_readFigures_21 h0.1 ?_
    refine mm_bM (fun M_2 => ?_)
    refine mm_aload_n 25 rfl dX6_readFigures_24 rfl 0 rfl ?_
    refine gt_X6_22 28 rfl dX6_readFigures_25 h0.1 ?_
    refine mm_bI (fun x1_3 => ?_)
    refine mm_istore_n 29 rfl dX6_readFigures_28 rfl (lv' := [(1, .int x1_3), (0, .ref (mm_ad G 16))]) (by decide) rfl ?_
    refine mm_lv [1, 0] rfl (th_X6_readFigures_L29 h0 (fun M_7 => ?_) mm_fu _ _)
    exact mm_vret dX6_readFigures_64 rfl rfl
  · refine mm_aload_n 14 rfl dX6_readFigures_13 rfl 0 rfl ?_
    refine mm_iconst 15 rfl (v := 0) dX6_readFigures_14 (by decide) ?_
    refine pt_X6_29 18 rfl dX6_readFigures_15 h0.1 ?_
    refine mm_bM (fun M_9 => ?_)
    exact mm_vret dX6_readFigures_18 rfl rfl

-- MangleLine$Tape.readToken()V
noncomputable def fn_X6_readToken_L0  (k : mm_M → Option mm_M) : Nat → mm_M → Option mm_M
  | 0, _ => none
  | n + 1, M => (if (M 16 1) ≤ (M 16 2) then k  M else (if mm_in (M 16 2) 160 then (if (M 17 (M 16 2).toNatClampNeg) = 32 then mm_let (mm_up M 16 2 ((M 16 2) + 1)) fun M_4 => fn_X6_readToken_L0 k n  M_4 else k  M) else none))
set_option maxRecDepth 20000 in
set_option maxHeartbeats 4000000 in
theorem th_X6_readToken_L0 {X : mm_X} {G : mm_G} {sh : mm_S} {k : mm_M → Option mm_M} (h0 : mm_isTap G sh) (hk : ∀ (M : mm_M), mm_T X G (cX6_readToken, 1, RX6, none, 2) (mm_fv sh) sh M 38 [(0, .ref (mm_ad G 16))] [] (k  M)) : ∀ (n : Nat)  (M : mm_M), mm_T X G (cX6_readToken, 1, RX6, none, 2) (mm_fv sh) sh M 0 [(0, .ref (mm_ad G 16))] [] (fn_X6_readToken_L0 k n M) := by
  intro n
  induction n with
  | zero => intro M; exact mm_none
  | succ n ih =>
    intro M
    rw [fn_X6_readToken_L0]
    refine mm_aload_n 1 rfl dX6_readToken_0 rfl 0 rfl ?_
    refine gt_X6_19 4 rfl dX6_readToken_1 h0.1 ?_
    refine mm_aload_n 5 rfl dX6_readToken_4 rfl 0 rfl ?_
    refine gt_X6_15 8 rfl dX6_readToken_5 h0.1 ?_
    refine mm_icmp_ge 11 38 rfl dX6_readToken_8 (by decide) (fun h_1 => ?_) (fun h_1 => ?_)
    · exact mm_lv [0] rfl (hk _)
    · refine mm_aload_n 12 rfl dX6_readToken_11 rfl 0 rfl ?_
      refine gt_X6_11 15 rfl dX6_readToken_12 h0.1 ?_
      refine mm_aload_n 16 rfl dX6_readToken_15 rfl 0 rfl ?_
      refine gt_X6_19 19 rfl dX6_readToken_16 h0.1 ?_
      refine mm_iald 20 rfl dX6_readToken_19 h0.2 (fun h_2 => ?_)
      refine mm_bipush 22 rfl (v := 32) dX6_readToken_20 (by decide) ?_
      refine mm_icmp_ne 25 38 rfl dX6_readToken_22 (by decide) (fun h_3 => ?_) (fun h_3 => ?_)
      · exact mm_lv [0] rfl (hk _)
      · refine mm_aload_n 26 rfl dX6_readToken_25 rfl 0 rfl ?_
        refine mm_dup 27 rfl dX6_readToken_26 rfl ?_
        refine gt_X6_19 30 rfl dX6_readToken_27 h0.1 ?_
        refine mm_iconst 31 rfl (v := 1) dX6_readToken_30 (by decide) ?_
        refine mm_iadd 32 rfl dX6_readToken_31 ?_
        refine pt_X6_19 35 rfl dX6_readToken_32 h0.1 ?_
        refine mm_bM (fun M_4 => ?_)
        refine mm_goto 0 dX6_readToken_35 (by decide) ?_
        exact mm_lv [0] rfl (ih _)
noncomputable def fn_X6_readToken_L114  (k : mm_M → Option mm_M) : Nat → mm_M → Option mm_M
  | 0, _ => none
  | n + 1, M => (if (M 16 1) ≤ (M 16 2) then k  M else (if mm_in (M 16 2) 160 then ((fn_X6_tokenWith (M 17 (M 16 2).toNatClampNeg) M).bind fun z_14 => (if z_14.1 = (z_14.2 16 3) then mm_let (mm_up z_14.2 16 2 ((z_14.2 16 2) + 1)) fun M_16 => fn_X6_readToken_L114 k n  M_16 else k  z_14.2)) else none))
set_option maxRecDepth 20000 in
set_option maxHeartbeats 4000000 in
theorem th_X6_readToken_L114 {X : mm_X} {G : mm_G} {sh : mm_S} {k : mm_M → Option mm_M} (h0 : mm_isTap G sh) (hk : ∀ (M : mm_M), mm_T X G (cX6_readToken, 1, RX6, none, 2) (mm_fv sh) sh M 157 [(0, .ref (mm_ad G 16))] [] (k  M)) : ∀ (n : Nat)  (M : mm_M), mm_T X G (cX6_readToken, 1, RX6, none, 2) (mm_fv sh) sh M 114 [(0, .ref (mm_ad G 16))] [] (fn_X6_readToken_L114 k n M) := by
  intro n
  induction n with
  | zero => intro M; exact mm_none
  | succ n ih =>
    intro M
    rw [fn_X6_readToken_L114]
    refine mm_aload_n 115 rfl dX6_readToken_114 rfl 0 rfl ?_
    refine gt_X6_19 118 rfl dX6_readToken_115 h0.1 ?_
    refine mm_aload_n 119 rfl dX6_readToken_118 rfl 0 rfl ?_
    refine gt_X6_15 122 rfl dX6_readToken_119 h0.1 ?_
    refine mm_icmp_ge 125 157 rfl dX6_readToken_122 (by decide) (fun h_12 => ?_) (fun h_12 => ?_)
    · exact mm_lv [0] rfl (hk _)
    · refine mm_aload_n 126 rfl dX6_readToken_125 rfl 0 rfl ?_
      refine gt_X6_11 129 rfl dX6_readToken_126 h0.1 ?_
      refine mm_aload_n 130 rfl dX6_readToken_129 rfl 0 rfl ?_
      refine gt_X6_19 133 rfl dX6_readToken_130 h0.1 ?_
      refine mm_iald 134 rfl dX6_readToken_133 h0.2 (fun h_13 => ?_)
      refine ca_X6_25 137 rfl dX6_readToken_134 (ct_X6_tokenWith (M 17 (M 16 2).toNatClampNeg) ) (by decide) (Nat.le_of_ble_eq_true rfl) (fun z_14 => ?_)
      refine mm_aload_n 138 rfl dX6_readToken_137 rfl 0 rfl ?_
      refine gt_X6_29 141 rfl dX6_readToken_138 h0.1 ?_
      refine mm_icmp_ne 144 157 rfl dX6_readToken_141 (by decide) (fun h_15 => ?_) (fun h_15 => ?_)
      · exact mm_lv [0] rfl (hk _)
      · refine mm_aload_n 145 rfl dX6_readToken_144 rfl 0 rfl ?_
        refine mm_dup 146 rfl dX6_readToken_145 rfl ?_
        refine gt_X6_19 149 rfl dX6_readToken_146 h0.1 ?_
        refine mm_iconst 150 rfl (v := 1) dX6_readToken_149 (by decide) ?_
        refine mm_iadd 151 rfl dX6_readToken_150 ?_
        refine pt_X6_19 154 rfl dX6_readToken_151 h0.1 ?_
        refine mm_bM (fun M_16 => ?_)
        refine mm_goto 114 dX6_readToken_154 (by decide) ?_
        exact mm_lv [0] rfl (ih _)
noncomputable def fn_X6_readToken_B74    (s0 : Int32) (M : mm_M) : Option mm_M :=
  mm_let (mm_up M 16 3 s0) fun M_9 => (if (M_9 16 3) = 3 then mm_let (mm_up M_9 16 2 ((M_9 16 2) + 1)) fun M_26 => (if (M_26 16 3) = 2 then ((fn_X6_readFigures  M_26).bind fun z_28 => some z_28) else some M_26) else (if (M_9 16 3) = 1 then fn_X6_readToken_L114  (fun M_17 => (if (M_17 16 3) = 2 then ((fn_X6_readFigures  M_17).bind fun z_20 => some z_20) else some M_17)) mm_fu  M_9 else (if (M_9 16 3) = 2 then fn_X6_readToken_L114  (fun M_22 => (if (M_22 16 3) = 2 then ((fn_X6_readFigures  M_22).bind fun z_25 => some z_25) else some M_22)) mm_fu  M_9 else some M_9)))
set_option maxRecDepth 20000 in
set_option maxHeartbeats 4000000 in
theorem th_X6_readToken_B74 {X : mm_X} {G : mm_G} {sh : mm_S} (h0 : mm_isTap G sh) (s0 : Int32) (M : mm_M) : mm_T X G (cX6_readToken, 1, RX6, none, 2) (mm_fv sh) sh M 74 [(0, .ref (mm_ad G 16))] [.int s0, .ref (mm_ad G 16)] (fn_X6_readToken_B74  s0 M) := by
  unfold fn_X6_readToken_B74
  refine pt_X6_29 77 rfl dX6_readToken_74 h0.1 ?_
  refine mm_bM (fun M_9 => ?_)
  refine mm_aload_n 78 rfl dX6_readToken_77 rfl 0 rfl ?_
  refine gt_X6_29 81 rfl dX6_readToken_78 h0.1 ?_
  refine mm_iconst 82 rfl (v := 3) dX6_readToken_81 (by decide) ?_
  refine mm_icmp_ne 85 98 rfl dX6_readToken_82 (by decide) (fun h_10 => ?_) (fun h_10 => ?_)
  · refine mm_aload_n 99 rfl dX6_readToken_98 rfl 0 rfl ?_
    refine gt_X6_29 102 rfl dX6_readToken_99 h0.1 ?_
    refine mm_iconst 103 rfl (v := 1) dX6_readToken_102 (by decide) ?_
    refine mm_icmp_eq 106 114 rfl dX6_readToken_103 (by decide) (fun h_11 => ?_) (fun h_11 => ?_)
    · refine mm_lv [0] rfl (th_X6_readToken_L114 h0 (fun M_17 => ?_) mm_fu _)
      refine mm_aload_n 158 rfl dX6_readToken_157 rfl 0 rfl ?_
      refine gt_X6_29 161 rfl dX6_readToken_158 h0.1 ?_
      refine mm_iconst 162 rfl (v := 2) dX6_readToken_161 (by decide) ?_
      refine mm_icmp_ne 165 169 rfl dX6_readToken_162 (by decide) (fun h_19 => ?_) (fun h_19 => ?_)
      · exact mm_vret dX6_readToken_169 rfl rfl
      · refine mm_aload_n 166 rfl dX6_readToken_165 rfl 0 rfl ?_
        refine ca_X6_32 169 rfl dX6_readToken_166 h0.1 (ct_X6_readFigures  h0) (by decide) (Nat.le_of_ble_eq_true rfl) (fun z_20 => ?_)
        exact mm_vret dX6_readToken_169 rfl rfl
    · refine mm_aload_n 107 rfl dX6_readToken_106 rfl 0 rfl ?_
      refine gt_X6_29 110 rfl dX6_readToken_107 h0.1 ?_
      refine mm_iconst 111 rfl (v := 2) dX6_readToken_110 (by decide) ?_
      refine mm_icmp_ne 114 157 rfl dX6_readToken_111 (by decide) (fun h_21 => ?_) (fun h_21 => ?_)
      · refine mm_aload_n 158 rfl dX6_readToken_157 rfl 0 rfl ?_
        refine gt_X6_29 161 rfl dX6_readToken_158 h0.1 ?_
        refine mm_iconst 162 rfl (v := 2) dX6_readToken_161 (by decide) ?_
        refine mm_icmp_neY 169 dX6_readToken_162 (by decide) h_21 ?_
        exact mm_vret dX6_readToken_169 rfl rfl
      · refine mm_lv [0] rfl (th_X6_readToken_L114 h0 (fun M_22 => ?_) mm_fu _)
        refine mm_aload_n 158 rfl dX6_readToken_157 rfl 0 rfl ?_
        refine gt_X6_29 161 rfl dX6_readToken_158 h0.1 ?_
        refine mm_iconst 162 rfl (v := 2) dX6_readToken_161 (by decide) ?_
        refine mm_icmp_ne 165 169 rfl dX6_readToken_162 (by decide) (fun h_24 => ?_) (fun h_24 => ?_)
        · exact mm_vret dX6_readToken_169 rfl rfl
        · refine mm_aload_n 166 rfl dX6_readToken_165 rfl 0 rfl ?_
          refine ca_X6_32 169 rfl dX6_readToken_166 h0.1 (ct_X6_readFigures  h0) (by decide) (Nat.le_of_ble_eq_true rfl) (fun z_25 => ?_)
          exact mm_vret dX6_readToken_169 rfl rfl
  · refine mm_aload_n 86 rfl dX6_readToken_85 rfl 0 rfl ?_
    refine mm_dup 87 rfl dX6_readToken_86 rfl ?_
    refine gt_X6_19 90 rfl dX6_readToken_87 h0.1 ?_
    refine mm_iconst 91 rfl (v := 1) dX6_readToken_90 (by decide) ?_
    refine mm_iadd 92 rfl dX6_readToken_91 ?_
    refine pt_X6_19 95 rfl dX6_readToken_92 h0.1 ?_
    refine mm_bM (fun M_26 => ?_)
    refine mm_goto 157 dX6_readToken_95 (by decide) ?_
    refine mm_aload_n 158 rfl dX6_readToken_157 rfl 0 rfl ?_
    refine gt_X6_29 161 rfl dX6_readToken_158 h0.1 ?_
    refine mm_iconst 162 rfl (v := 2) dX6_readToken_161 (by decide) ?_
    refine mm_icmp_ne 165 169 rfl dX6_readToken_162 (by decide) (fun h_27 => ?_) (fun h_27 => ?_)
    · exact mm_vret dX6_readToken_169 rfl rfl
    · refine mm_aload_n 166 rfl dX6_readToken_165 rfl 0 rfl ?_
      refine ca_X6_32 169 rfl dX6_readToken_166 h0.1 (ct_X6_readFigures  h0) (by decide) (Nat.le_of_ble_eq_true rfl) (fun z_28 => ?_)
      exact mm_vret dX6_readToken_169 rfl rfl
noncomputable def fn_X6_readToken  (M : mm_M) : Option mm_M :=
  fn_X6_readToken_L0  (fun M_5 => mm_let (mm_up M_5 16 4 (M_5 16 2)) fun M_7 => (if (M_7 16 1) ≤ (M_7 16 2) then fn_X6_readToken_B74   4 M_7 else (if mm_in (M_7 16 2) 160 then ((fn_X6_tokenWith (M_7 17 (M_7 16 2).toNatClampNeg) M_7).bind fun z_30 => fn_X6_readToken_B74   z_30.1 z_30.2) else none))) mm_fu  M
set_option maxRecDepth 20000 in
set_option maxHeartbeats 4000000 in
theorem ct_X6_readToken {l : Launch} {G : mm_G} {sh : mm_S} {M : mm_M} (h0 : mm_isTap G sh) : mm_K l G yX6_readToken (cX6_readToken, 1, RX6, none, 2) [.ref (mm_ad G 16)] (mm_fv sh) sh M (fn_X6_readToken  M) := by
  refine mm_met (by decide +kernel) rfl (Nat.le_of_ble_eq_true rfl) (fun X hX => ?_)
  subst hX
  show mm_T X G (cX6_readToken, 1, RX6, none, 2) (mm_fv sh) sh M 0 [(0, .ref (mm_ad G 16))] [] (fn_X6_readToken  M)
  unfold fn_X6_readToken
  refine mm_lv [0] rfl (th_X6_readToken_L0 h0 (fun M_5 => ?_) mm_fu _)
  refine mm_aload_n 39 rfl dX6_readToken_38 rfl 0 rfl ?_
  refine mm_aload_n 40 rfl dX6_readToken_39 rfl 0 rfl ?_
  refine gt_X6_19 43 rfl dX6_readToken_40 h0.1 ?_
  refine pt_X6_22 46 rfl dX6_readToken_43 h0.1 ?_
  refine mm_bM (fun M_7 => ?_)
  refine mm_aload_n 47 rfl dX6_readToken_46 rfl 0 rfl ?_
  refine mm_aload_n 48 rfl dX6_readToken_47 rfl 0 rfl ?_
  refine gt_X6_19 51 rfl dX6_readToken_48 h0.1 ?_
  refine mm_aload_n 52 rfl dX6_readToken_51 rfl 0 rfl ?_
  refine gt_X6_15 55 rfl dX6_readToken_52 h0.1 ?_
  refine mm_icmp_ge 58 73 rfl dX6_readToken_55 (by decide) (fun h_8 => ?_) (fun h_8 => ?_)
  · refine mm_iconst 74 rfl (v := 4) dX6_readToken_73 (by decide) ?_
    exact mm_lv [0] rfl (th_X6_readToken_B74 h0  _ _)
  · refine mm_aload_n 59 rfl dX6_readToken_58 rfl 0 rfl ?_
    refine gt_X6_11 62 rfl dX6_readToken_59 h0.1 ?_
    refine mm_aload_n 63 rfl dX6_readToken_62 rfl 0 rfl ?_
    refine gt_X6_19 66 rfl dX6_readToken_63 h0.1 ?_
    refine mm_iald 67 rfl dX6_readToken_66 h0.2 (fun h_29 => ?_)
    refine ca_X6_25 70 rfl dX6_readToken_67 (ct_X6_tokenWith (M_7 17 (M_7 16 2).toNatClampNeg) ) (by decide) (Nat.le_of_ble_eq_true rfl) (fun z_30 => ?_)
    refine mm_goto 74 dX6_readToken_70 (by decide) ?_
    exact mm_lv [0] rfl (th_X6_readToken_B74 h0  _ _)
