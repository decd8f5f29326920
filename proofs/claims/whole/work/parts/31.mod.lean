-- MangleLineModel.alter(III)I
noncomputable def fn_X8_alter_B55    (x1 : Int32) (x2 : Int32) (x3 : Int32) (s0 : Int32) (M : mm_M) : Option (Int32 × mm_M) :=
  ((fn_X8_isOne x1 M).bind fun z_4 => (if z_4.1 = 0 then some ((-1), z_4.2) else (if s0 = 0 then some ((-1), z_4.2) else ((fn_X8_becomes ((4 * x1) + x2) x3 z_4.2).bind fun z_7 => some (z_7.1, z_7.2)))))
set_option maxRecDepth 20000 in
set_option maxHeartbeats 4000000 in
theorem th_X8_alter_B55 {X : mm_X} {G : mm_G} {sh : mm_S} (h0 : mm_isMod G sh) (x1 : Int32) (x2 : Int32) (x3 : Int32) (s0 : Int32) (M : mm_M) : mm_T X G (cX8_alter, 5, RX8, (some .int), 3) (mm_fi sh) sh M 55 [(0, .ref (mm_ad G 0)), (1, .int x1), (2, .int x2), (3, .int x3)] [.int s0] (fn_X8_alter_B55  x1 x2 x3 s0 M) := by
  unfold fn_X8_alter_B55
  obtain ⟨N, hN⟩ := h0.1
  refine mm_istore 57 rfl dX8_alter_55 (lv' := [(4, .int s0), (0, .ref (mm_ad G 0)), (1, .int x1), (2, .int x2), (3, .int x3)]) (by decide) rfl ?_
  refine mm_aload_n 58 rfl dX8_alter_57 rfl 1 rfl ?_
  refine mm_iload_n 59 rfl dX8_alter_58 rfl 2 rfl ?_
  refine ca_X8_191 62 rfl dX8_alter_59 hN (ct_X8_isOne x1 h0) (by decide) (Nat.le_of_ble_eq_true rfl) (fun z_4 => ?_)
  refine mm_if_eq 65 83 rfl dX8_alter_62 (by decide) (fun h_5 => ?_) (fun h_5 => ?_)
  · refine mm_iconst 84 rfl (v := (-1)) dX8_alter_83 (by decide) ?_
    exact mm_iret dX8_alter_84 rfl rfl
  · refine mm_iload 67 rfl dX8_alter_65 0 rfl ?_
    refine mm_if_eq 70 83 rfl dX8_alter_67 (by decide) (fun h_6 => ?_) (fun h_6 => ?_)
    · refine mm_iconst 84 rfl (v := (-1)) dX8_alter_83 (by decide) ?_
      exact mm_iret dX8_alter_84 rfl rfl
    · refine mm_aload_n 71 rfl dX8_alter_70 rfl 1 rfl ?_
      refine mm_iconst 72 rfl (v := 4) dX8_alter_71 (by decide) ?_
      refine mm_iload_n 73 rfl dX8_alter_72 rfl 2 rfl ?_
      refine mm_imul 74 rfl dX8_alter_73 ?_
      refine mm_iload_n 75 rfl dX8_alter_74 rfl 3 rfl ?_
      refine mm_iadd 76 rfl dX8_alter_75 ?_
      refine mm_iload_n 77 rfl dX8_alter_76 rfl 4 rfl ?_
      refine ca_X8_203 80 rfl dX8_alter_77 hN (ct_X8_becomes ((4 * x1) + x2) x3 h0) (by decide) (Nat.le_of_ble_eq_true rfl) (fun z_7 => ?_)
      refine mm_goto 84 dX8_alter_80 (by decide) ?_
      exact mm_iret dX8_alter_84 rfl rfl
noncomputable def fn_X8_alter (c1 : Int32) (c2 : Int32) (c3 : Int32) (M : mm_M) : Option (Int32 × mm_M) :=
  (if c2 = 0 then ((fn_X8_in c3.toInt64 0 3 M).bind fun z_11 => fn_X8_alter_B55   c1 c2 c3 z_11.1 z_11.2) else (if c2 = 1 then ((fn_X8_in c3.toInt64 0 60 M).bind fun z_10 => fn_X8_alter_B55   c1 c2 c3 z_10.1 z_10.2) else (if c2 = 2 then ((fn_X8_in c3.toInt64 0 20 M).bind fun z_8 => (if z_8.1 = 0 then fn_X8_alter_B55   c1 c2 c3 0 z_8.2 else fn_X8_alter_B55   c1 c2 c3 1 z_8.2)) else fn_X8_alter_B55   c1 c2 c3 0 M)))
set_option maxRecDepth 20000 in
set_option maxHeartbeats 4000000 in
theorem ct_X8_alter {l : Launch} {G : mm_G} {sh : mm_S} {M : mm_M} (c1 : Int32) (c2 : Int32) (c3 : Int32) (h0 : mm_isMod G sh) : mm_K l G yX8_alter (cX8_alter, 5, RX8, (some .int), 3) [.ref (mm_ad G 0), .int c1, .int c2, .int c3] (mm_fi sh) sh M (fn_X8_alter c1 c2 c3 M) := by
  refine mm_met (by decide +kernel) rfl (Nat.le_of_ble_eq_true rfl) (fun X hX => ?_)
  subst hX
  show mm_T X G (cX8_alter, 5, RX8, (some .int), 3) (mm_fi sh) sh M 0 [(0, .ref (mm_ad G 0)), (1, .int c1), (2, .int c2), (3, .int c3)] [] (fn_X8_alter c1 c2 c3 M)
  unfold fn_X8_alter
  obtain ⟨N, hN⟩ := h0.1
  refine mm_iload_n 1 rfl dX8_alter_0 rfl 2 rfl ?_
  refine mm_if_ne 4 16 rfl dX8_alter_1 (by decide) (fun h_1 => ?_) (fun h_1 => ?_)
  · refine mm_iload_n 17 rfl dX8_alter_16 rfl 2 rfl ?_
    refine mm_iconst 18 rfl (v := 1) dX8_alter_17 (by decide) ?_
    refine mm_icmp_ne 21 33 rfl dX8_alter_18 (by decide) (fun h_2 => ?_) (fun h_2 => ?_)
    · refine mm_iload_n 34 rfl dX8_alter_33 rfl 2 rfl ?_
      refine mm_iconst 35 rfl (v := 2) dX8_alter_34 (by decide) ?_
      refine mm_icmp_ne 38 54 rfl dX8_alter_35 (by decide) (fun h_3 => ?_) (fun h_3 => ?_)
      · refine mm_iconst 55 rfl (v := 0) dX8_alter_54 (by decide) ?_
        exact mm_lv [0, 1, 2, 3] rfl (th_X8_alter_B55 h0  _ _ _ _ _)
      · refine mm_iload_n 39 rfl dX8_alter_38 rfl 3 rfl ?_
        refine mm_i2l 40 rfl dX8_alter_39 ?_
        refine mm_lconst 41 rfl (v := 0) dX8_alter_40 (by decide) ?_
        refine mm_ldc2 44 rfl (v := 20) dX8_alter_41 mw_5_58 ?_
        refine ca_X8_59 47 rfl dX8_alter_44 (ct_X8_in c3.toInt64 0 20 ) (by decide) (Nat.le_of_ble_eq_true rfl) (fun z_8 => ?_)
        refine mm_if_eq 50 54 rfl dX8_alter_47 (by decide) (fun h_9 => ?_) (fun h_9 => ?_)
        · refine mm_iconst 55 rfl (v := 0) dX8_alter_54 (by decide) ?_
          exact mm_lv [0, 1, 2, 3] rfl (th_X8_alter_B55 h0  _ _ _ _ _)
        · refine mm_iconst 51 rfl (v := 1) dX8_alter_50 (by decide) ?_
          refine mm_goto 55 dX8_alter_51 (by decide) ?_
          exact mm_lv [0, 1, 2, 3] rfl (th_X8_alter_B55 h0  _ _ _ _ _)
    · refine mm_iload_n 22 rfl dX8_alter_21 rfl 3 rfl ?_
      refine mm_i2l 23 rfl dX8_alter_22 ?_
      refine mm_lconst 24 rfl (v := 0) dX8_alter_23 (by decide) ?_
      refine mm_ldc2 27 rfl (v := 60) dX8_alter_24 mw_5_57 ?_
      refine ca_X8_59 30 rfl dX8_alter_27 (ct_X8_in c3.toInt64 0 60 ) (by decide) (Nat.le_of_ble_eq_true rfl) (fun z_10 => ?_)
      refine mm_goto 55 dX8_alter_30 (by decide) ?_
      exact mm_lv [0, 1, 2, 3] rfl (th_X8_alter_B55 h0  _ _ _ _ _)
  · refine mm_iload_n 5 rfl dX8_alter_4 rfl 3 rfl ?_
    refine mm_i2l 6 rfl dX8_alter_5 ?_
    refine mm_lconst 7 rfl (v := 0) dX8_alter_6 (by decide) ?_
    refine mm_ldc2 10 rfl (v := 3) dX8_alter_7 mw_5_56 ?_
    refine ca_X8_59 13 rfl dX8_alter_10 (ct_X8_in c3.toInt64 0 3 ) (by decide) (Nat.le_of_ble_eq_true rfl) (fun z_11 => ?_)
    refine mm_goto 55 dX8_alter_13 (by decide) ?_
    exact mm_lv [0, 1, 2, 3] rfl (th_X8_alter_B55 h0  _ _ _ _ _)

-- MangleLineModel.set(II)I
noncomputable def fn_X8_set (c1 : Int32) (c2 : Int32) (M : mm_M) : Option (Int32 × mm_M) :=
  ((fn_X8_in c1.toInt64 0 4 M).bind fun z_1 => (if z_1.1 = 0 then some ((-1), z_1.2) else ((fn_X8_lowOf c1 z_1.2).bind fun z_3 => ((fn_X8_mostOf c1 z_3.2).bind fun z_4 => ((fn_X8_in c2.toInt64 z_3.1.toInt64 z_4.1.toInt64 z_4.2).bind fun z_5 => (if z_5.1 = 0 then some ((-1), z_5.2) else ((fn_X8_becomes (25 + c1) c2 z_5.2).bind fun z_7 => some (z_7.1, z_7.2))))))))
set_option maxRecDepth 20000 in
set_option maxHeartbeats 4000000 in
theorem ct_X8_set {l : Launch} {G : mm_G} {sh : mm_S} {M : mm_M} (c1 : Int32) (c2 : Int32) (h0 : mm_isMod G sh) : mm_K l G yX8_set (cX8_set, 3, RX8, (some .int), 2) [.ref (mm_ad G 0), .int c1, .int c2] (mm_fi sh) sh M (fn_X8_set c1 c2 M) := by
  refine mm_met (by decide +kernel) rfl (Nat.le_of_ble_eq_true rfl) (fun X hX => ?_)
  subst hX
  show mm_T X G (cX8_set, 3, RX8, (some .int), 2) (mm_fi sh) sh M 0 [(0, .ref (mm_ad G 0)), (1, .int c1), (2, .int c2)] [] (fn_X8_set c1 c2 M)
  unfold fn_X8_set
  obtain ⟨N, hN⟩ := h0.1
  refine mm_iload_n 1 rfl dX8_set_0 rfl 1 rfl ?_
  refine mm_i2l 2 rfl dX8_set_1 ?_
  refine mm_lconst 3 rfl (v := 0) dX8_set_2 (by decide) ?_
  refine mm_ldc2 6 rfl (v := 4) dX8_set_3 mw_5_27 ?_
  refine ca_X8_59 9 rfl dX8_set_6 (ct_X8_in c1.toInt64 0 4 ) (by decide) (Nat.le_of_ble_eq_true rfl) (fun z_1 => ?_)
  refine mm_if_eq 12 42 rfl dX8_set_9 (by decide) (fun h_2 => ?_) (fun h_2 => ?_)
  · refine mm_iconst 43 rfl (v := (-1)) dX8_set_42 (by decide) ?_
    exact mm_iret dX8_set_43 rfl rfl
  · refine mm_iload_n 13 rfl dX8_set_12 rfl 2 rfl ?_
    refine mm_i2l 14 rfl dX8_set_13 ?_
    refine mm_iload_n 15 rfl dX8_set_14 rfl 1 rfl ?_
    refine ca_X8_122 18 rfl dX8_set_15 (ct_X8_lowOf c1 ) (by decide) (Nat.le_of_ble_eq_true rfl) (fun z_3 => ?_)
    refine mm_i2l 19 rfl dX8_set_18 ?_
    refine mm_iload_n 20 rfl dX8_set_19 rfl 1 rfl ?_
    refine ca_X8_125 23 rfl dX8_set_20 (ct_X8_mostOf c1 ) (by decide) (Nat.le_of_ble_eq_true rfl) (fun z_4 => ?_)
    refine mm_i2l 24 rfl dX8_set_23 ?_
    refine ca_X8_59 27 rfl dX8_set_24 (ct_X8_in c2.toInt64 z_3.1.toInt64 z_4.1.toInt64 ) (by decide) (Nat.le_of_ble_eq_true rfl) (fun z_5 => ?_)
    refine mm_if_eq 30 42 rfl dX8_set_27 (by decide) (fun h_6 => ?_) (fun h_6 => ?_)
    · refine mm_iconst 43 rfl (v := (-1)) dX8_set_42 (by decide) ?_
      exact mm_iret dX8_set_43 rfl rfl
    · refine mm_aload_n 31 rfl dX8_set_30 rfl 0 rfl ?_
      refine mm_bipush 33 rfl (v := 25) dX8_set_31 (by decide) ?_
      refine mm_iload_n 34 rfl dX8_set_33 rfl 1 rfl ?_
      refine mm_iadd 35 rfl dX8_set_34 ?_
      refine mm_iload_n 36 rfl dX8_set_35 rfl 2 rfl ?_
      refine ca_X8_203 39 rfl dX8_set_36 hN (ct_X8_becomes (25 + c1) c2 h0) (by decide) (Nat.le_of_ble_eq_true rfl) (fun z_7 => ?_)
      refine mm_goto 43 dX8_set_39 (by decide) ?_
      exact mm_iret dX8_set_43 rfl rfl

-- MangleLineModel.shine(II)I
noncomputable def fn_X8_shine (c1 : Int32) (c2 : Int32) (M : mm_M) : Option (Int32 × mm_M) :=
  ((fn_X8_in c1.toInt64 0 6 M).bind fun z_1 => (if z_1.1 = 0 then some ((-1), z_1.2) else ((fn_X8_in c2.toInt64 0 9 z_1.2).bind fun z_3 => (if z_3.1 = 0 then some ((-1), z_3.2) else ((fn_X8_becomes (30 + c1) c2 z_3.2).bind fun z_5 => some (z_5.1, z_5.2))))))
set_option maxRecDepth 20000 in
set_option maxHeartbeats 4000000 in
theorem ct_X8_shine {l : Launch} {G : mm_G} {sh : mm_S} {M : mm_M} (c1 : Int32) (c2 : Int32) (h0 : mm_isMod G sh) : mm_K l G yX8_shine (cX8_shine, 3, RX8, (some .int), 2) [.ref (mm_ad G 0), .int c1, .int c2] (mm_fi sh) sh M (fn_X8_shine c1 c2 M) := by
  refine mm_met (by decide +kernel) rfl (Nat.le_of_ble_eq_true rfl) (fun X hX => ?_)
  subst hX
  show mm_T X G (cX8_shine, 3, RX8, (some .int), 2) (mm_fi sh) sh M 0 [(0, .ref (mm_ad G 0)), (1, .int c1), (2, .int c2)] [] (fn_X8_shine c1 c2 M)
  unfold fn_X8_shine
  obtain ⟨N, hN⟩ := h0.1
  refine mm_iload_n 1 rfl dX8_shine_0 rfl 1 rfl ?_
  refine mm_i2l 2 rfl dX8_shine_1 ?_
  refine mm_lconst 3 rfl (v := 0) dX8_shine_2 (by decide) ?_
  refine mm_ldc2 6 rfl (v := 6) dX8_shine_3 mw_5_51 ?_
  refine ca_X8_59 9 rfl dX8_shine_6 (ct_X8_in c1.toInt64 0 6 ) (by decide) (Nat.le_of_ble_eq_true rfl) (fun z_1 => ?_)
  refine mm_if_eq 12 36 rfl dX8_shine_9 (by decide) (fun h_2 => ?_) (fun h_2 => ?_)
  · refine mm_iconst 37 rfl (v := (-1)) dX8_shine_36 (by decide) ?_
    exact mm_iret dX8_shine_37 rfl rfl
  · refine mm_iload_n 13 rfl dX8_shine_12 rfl 2 rfl ?_
    refine mm_i2l 14 rfl dX8_shine_13 ?_
    refine mm_lconst 15 rfl (v := 0) dX8_shine_14 (by decide) ?_
    refine mm_ldc2 18 rfl (v := 9) dX8_shine_15 mw_5_71 ?_
    refine ca_X8_59 21 rfl dX8_shine_18 (ct_X8_in c2.toInt64 0 9 ) (by decide) (Nat.le_of_ble_eq_true rfl) (fun z_3 => ?_)
    refine mm_if_eq 24 36 rfl dX8_shine_21 (by decide) (fun h_4 => ?_) (fun h_4 => ?_)
    · refine mm_iconst 37 rfl (v := (-1)) dX8_shine_36 (by decide) ?_
      exact mm_iret dX8_shine_37 rfl rfl
    · refine mm_aload_n 25 rfl dX8_shine_24 rfl 0 rfl ?_
      refine mm_bipush 27 rfl (v := 30) dX8_shine_25 (by decide) ?_
      refine mm_iload_n 28 rfl dX8_shine_27 rfl 1 rfl ?_
      refine mm_iadd 29 rfl dX8_shine_28 ?_
      refine mm_iload_n 30 rfl dX8_shine_29 rfl 2 rfl ?_
      refine ca_X8_203 33 rfl dX8_shine_30 hN (ct_X8_becomes (30 + c1) c2 h0) (by decide) (Nat.le_of_ble_eq_true rfl) (fun z_5 => ?_)
      refine mm_goto 37 dX8_shine_33 (by decide) ?_
      exact mm_iret dX8_shine_37 rfl rfl

-- MangleLineModel.bring(II)I
noncomputable def fn_X8_bring (c1 : Int32) (c2 : Int32) (M : mm_M) : Option (Int32 × mm_M) :=
  ((fn_X8_in c1.toInt64 0 3 M).bind fun z_1 => (if z_1.1 = 0 then some ((-1), z_1.2) else ((fn_X8_in c2.toInt64 0 60 z_1.2).bind fun z_3 => (if z_3.1 = 0 then some ((-1), z_3.2) else (if (z_3.2 1 24) = 6 then some ((-3), z_3.2) else mm_let (4 * (z_3.2 1 24)) fun x3_6 => (if mm_in (x3_6 + 0) 171 then (mm_let (mm_up z_3.2 1 (x3_6 + 0).toNatClampNeg c1) fun M_7 => (if mm_in (x3_6 + 1) 171 then (mm_let (mm_up M_7 1 (x3_6 + 1).toNatClampNeg c2) fun M_9 => (if mm_in (x3_6 + 2) 171 then (mm_let (mm_up M_9 1 (x3_6 + 2).toNatClampNeg 0) fun M_11 => (if mm_in (x3_6 + 3) 171 then (mm_let (mm_up M_11 1 (x3_6 + 3).toNatClampNeg 0) fun M_13 => mm_let (mm_up M_13 1 24 ((M_13 1 24) + 1)) fun M_15 => some ((M_15 1 24), M_15)) else none)) else none)) else none)) else none))))))
set_option maxRecDepth 20000 in
set_option maxHeartbeats 4000000 in
theorem ct_X8_bring {l : Launch} {G : mm_G} {sh : mm_S} {M : mm_M} (c1 : Int32) (c2 : Int32) (h0 : mm_isMod G sh) : mm_K l G yX8_bring (cX8_bring, 4, RX8, (some .int), 2) [.ref (mm_ad G 0), .int c1, .int c2] (mm_fi sh) sh M (fn_X8_bring c1 c2 M) := by
  refine mm_met (by decide +kernel) rfl (Nat.le_of_ble_eq_true rfl) (fun X hX => ?_)
  subst hX
  show mm_T X G (cX8_bring, 4, RX8, (some .int), 2) (mm_fi sh) sh M 0 [(0, .ref (mm_ad G 0)), (1, .int c1), (2, .int c2)] [] (fn_X8_bring c1 c2 M)
  unfold fn_X8_bring
  obtain ⟨N, hN⟩ := h0.1
  refine mm_iload_n 1 rfl dX8_bring_0 rfl 1 rfl ?_
  refine mm_i2l 2 rfl dX8_bring_1 ?_
  refine mm_lconst 3 rfl (v := 0) dX8_bring_2 (by decide) ?_
  refine mm_ldc2 6 rfl (v := 3) dX8_bring_3 mw_5_56 ?_
  refine ca_X8_59 9 rfl dX8_bring_6 (ct_X8_in c1.toInt64 0 3 ) (by decide) (Nat.le_of_ble_eq_true rfl) (fun z_1 => ?_)
  refine mm_if_eq 12 24 rfl dX8_bring_9 (by decide) (fun h_2 => ?_) (fun h_2 => ?_)
  · refine mm_iconst 25 rfl (v := (-1)) dX8_bring_24 (by decide) ?_
    exact mm_iret dX8_bring_25 rfl rfl
  · refine mm_iload_n 13 rfl dX8_bring_12 rfl 2 rfl ?_
    refine mm_i2l 14 rfl dX8_bring_13 ?_
    refine mm_lconst 15 rfl (v := 0) dX8_bring_14 (by decide) ?_
    refine mm_ldc2 18 rfl (v := 60) dX8_bring_15 mw_5_57 ?_
    refine ca_X8_59 21 rfl dX8_bring_18 (ct_X8_in c2.toInt64 0 60 ) (by decide) (Nat.le_of_ble_eq_true rfl) (fun z_3 => ?_)
    refine mm_if_ne 24 26 rfl dX8_bring_21 (by decide) (fun h_4 => ?_) (fun h_4 => ?_)
    · refine mm_aload_n 27 rfl dX8_bring_26 rfl 0 rfl ?_
      refine gt_X8_7 30 rfl dX8_bring_27 hN ?_
      refine mm_bipush 32 rfl (v := 24) dX8_bring_30 (by decide) ?_
      refine mm_ialdK 33 rfl dX8_bring_32 h0.2.1 (by decide) 24 (by decide) ?_
      refine mm_bipush 35 rfl (v := 6) dX8_bring_33 (by decide) ?_
      refine mm_icmp_ne 38 41 rfl dX8_bring_35 (by decide) (fun h_5 => ?_) (fun h_5 => ?_)
      · refine mm_iconst 42 rfl (v := 4) dX8_bring_41 (by decide) ?_
        refine mm_aload_n 43 rfl dX8_bring_42 rfl 0 rfl ?_
        refine gt_X8_7 46 rfl dX8_bring_43 hN ?_
        refine mm_bipush 48 rfl (v := 24) dX8_bring_46 (by decide) ?_
        refine mm_ialdK 49 rfl dX8_bring_48 h0.2.1 (by decide) 24 (by decide) ?_
        refine mm_imul 50 rfl dX8_bring_49 ?_
        refine mm_bI (fun x3_6 => ?_)
        refine mm_istore_n 51 rfl dX8_bring_50 rfl (lv' := [(3, .int x3_6), (0, .ref (mm_ad G 0)), (1, .int c1), (2, .int c2)]) (by decide) rfl ?_
        refine mm_aload_n 52 rfl dX8_bring_51 rfl 1 rfl ?_
        refine gt_X8_7 55 rfl dX8_bring_52 hN ?_
        refine mm_iload_n 56 rfl dX8_bring_55 rfl 0 rfl ?_
        refine mm_iconst 57 rfl (v := 0) dX8_bring_56 (by decide) ?_
        refine mm_iadd 58 rfl dX8_bring_57 ?_
        refine mm_iload_n 59 rfl dX8_bring_58 rfl 2 rfl ?_
        refine mm_iast 60 rfl dX8_bring_59 h0.2.1 (fun h_8 => ?_)
        refine mm_bM (fun M_7 => ?_)
        refine mm_aload_n 61 rfl dX8_bring_60 rfl 1 rfl ?_
        refine gt_X8_7 64 rfl dX8_bring_61 hN ?_
        refine mm_iload_n 65 rfl dX8_bring_64 rfl 0 rfl ?_
        refine mm_iconst 66 rfl (v := 1) dX8_bring_65 (by decide) ?_
        refine mm_iadd 67 rfl dX8_bring_66 ?_
        refine mm_iload_n 68 rfl dX8_bring_67 rfl 3 rfl ?_
        refine mm_iast 69 rfl dX8_bring_68 h0.2.1 (fun h_10 => ?_)
        refine mm_bM (fun M_9 => ?_)
        refine mm_aload_n 70 rfl dX8_bring_69 rfl 1 rfl ?_
        refine gt_X8_7 73 rfl dX8_bring_70 hN ?_
        refine mm_iload_n 74 rfl dX8_bring_73 rfl 0 rfl ?_
        refine mm_iconst 75 rfl (v := 2) dX8_bring_74 (by decide) ?_
        refine mm_iadd 76 rfl dX8_bring_75 ?_
        refine mm_iconst 77 rfl (v := 0) dX8_bring_76 (by decide) ?_
        refine mm_iast 78 rfl dX8_bring_77 h0.2.1 (fun h_12 => ?_)
        refine mm_bM (fun M_11 => ?_)
        refine mm_aload_n 79 rfl dX8_bring_78 rfl 1 rfl ?_
        refine gt_X8_7 82 rfl dX8_bring_79 hN ?_
        refine mm_iload_n 83 rfl dX8_bring_82 rfl 0 rfl ?_
        refine mm_iconst 84 rfl (v := 3) dX8_bring_83 (by decide) ?_
        refine mm_iadd 85 rfl dX8_bring_84 ?_
        refine mm_iconst 86 rfl (v := 0) dX8_bring_85 (by decide) ?_
        refine mm_iast 87 rfl dX8_bring_86 h0.2.1 (fun h_14 => ?_)
        refine mm_bM (fun M_13 => ?_)
        refine mm_aload_n 88 rfl dX8_bring_87 rfl 1 rfl ?_
        refine gt_X8_7 91 rfl dX8_bring_88 hN ?_
        refine mm_bipush 93 rfl (v := 24) dX8_bring_91 (by decide) ?_
        refine mm_dup2 94 rfl dX8_bring_93 rfl rfl ?_
        refine mm_ialdK 95 rfl dX8_bring_94 h0.2.1 (by decide) 24 (by decide) ?_
        refine mm_iconst 96 rfl (v := 1) dX8_bring_95 (by decide) ?_
        refine mm_iadd 97 rfl dX8_bring_96 ?_
        refine mm_iastK 98 rfl dX8_bring_97 h0.2.1 (by decide) 24 (by decide) ?_
        refine mm_bM (fun M_15 => ?_)
        refine mm_aload_n 99 rfl dX8_bring_98 rfl 1 rfl ?_
        refine gt_X8_7 102 rfl dX8_bring_99 hN ?_
        refine mm_bipush 104 rfl (v := 24) dX8_bring_102 (by decide) ?_
        refine mm_ialdK 105 rfl dX8_bring_104 h0.2.1 (by decide) 24 (by decide) ?_
        exact mm_iret dX8_bring_105 rfl rfl
      · refine mm_bipush 40 rfl (v := (-3)) dX8_bring_38 (by decide) ?_
        exact mm_iret dX8_bring_40 rfl rfl
    · refine mm_iconst 25 rfl (v := (-1)) dX8_bring_24 (by decide) ?_
      exact mm_iret dX8_bring_25 rfl rfl

-- MangleLineModel.fetch(I)I
noncomputable def fn_X8_fetch (c1 : Int32) (M : mm_M) : Option (Int32 × mm_M) :=
  ((fn_X8_isOne c1 M).bind fun z_1 => (if z_1.1 = 0 then some ((-1), z_1.2) else ((fn_X8_becomes ((4 * c1) + 3) 0 z_1.2).bind fun z_3 => mm_let z_3.1 fun x2_4 => (if x2_4 = 0 then some ((-2), z_3.2) else some (x2_4, z_3.2)))))
set_option maxRecDepth 20000 in
set_option maxHeartbeats 4000000 in
theorem ct_X8_fetch {l : Launch} {G : mm_G} {sh : mm_S} {M : mm_M} (c1 : Int32) (h0 : mm_isMod G sh) : mm_K l G yX8_fetch (cX8_fetch, 3, RX8, (some .int), 3) [.ref (mm_ad G 0), .int c1] (mm_fi sh) sh M (fn_X8_fetch c1 M) := by
  refine mm_met (by decide +kernel) rfl (Nat.le_of_ble_eq_true rfl) (fun X hX => ?_)
  subst hX
  show mm_T X G (cX8_fetch, 3, RX8, (some .int), 3) (mm_fi sh) sh M 0 [(0, .ref (mm_ad G 0)), (1, .int c1)] [] (fn_X8_fetch c1 M)
  unfold fn_X8_fetch
  obtain ⟨N, hN⟩ := h0.1
  refine mm_aload_n 1 rfl dX8_fetch_0 rfl 0 rfl ?_
  refine mm_iload_n 2 rfl dX8_fetch_1 rfl 1 rfl ?_
  refine ca_X8_191 5 rfl dX8_fetch_2 hN (ct_X8_isOne c1 h0) (by decide) (Nat.le_of_ble_eq_true rfl) (fun z_1 => ?_)
  refine mm_if_ne 8 10 rfl dX8_fetch_5 (by decide) (fun h_2 => ?_) (fun h_2 => ?_)
  · refine mm_aload_n 11 rfl dX8_fetch_10 rfl 0 rfl ?_
    refine mm_iconst 12 rfl (v := 4) dX8_fetch_11 (by decide) ?_
    refine mm_iload_n 13 rfl dX8_fetch_12 rfl 1 rfl ?_
    refine mm_imul 14 rfl dX8_fetch_13 ?_
    refine mm_iconst 15 rfl (v := 3) dX8_fetch_14 (by decide) ?_
    refine mm_iadd 16 rfl dX8_fetch_15 ?_
    refine mm_iconst 17 rfl (v := 0) dX8_fetch_16 (by decide) ?_
    refine ca_X8_203 20 rfl dX8_fetch_17 hN (ct_X8_becomes ((4 * c1) + 3) 0 h0) (by decide) (Nat.le_of_ble_eq_true rfl) (fun z_3 => ?_)
    refine mm_bI (fun x2_4 => ?_)
    refine mm_istore_n 21 rfl dX8_fetch_20 rfl (lv' := [(2, .int x2_4), (0, .ref (mm_ad G 0)), (1, .int c1)]) (by decide) rfl ?_
    refine mm_iload_n 22 rfl dX8_fetch_21 rfl 0 rfl ?_
    refine mm_if_ne 25 30 rfl dX8_fetch_22 (by decide) (fun h_5 => ?_) (fun h_5 => ?_)
    · refine mm_iload_n 31 rfl dX8_fetch_30 rfl 0 rfl ?_
      exact mm_iret dX8_fetch_31 rfl rfl
    · refine mm_bipush 27 rfl (v := (-2)) dX8_fetch_25 (by decide) ?_
      refine mm_goto 31 dX8_fetch_27 (by decide) ?_
      exact mm_iret dX8_fetch_31 rfl rfl
  · refine mm_iconst 9 rfl (v := (-1)) dX8_fetch_8 (by decide) ?_
    exact mm_iret dX8_fetch_9 rfl rfl

-- MangleLineModel.days(I)I
noncomputable def fn_X8_days (c1 : Int32) (M : mm_M) : Option (Int32 × mm_M) :=
  ((fn_X8_in c1.toInt64 0 30 M).bind fun z_1 => (if z_1.1 = 0 then some ((-1), z_1.2) else (if ((z_1.2 1 37) + c1) ≤ 999 then ((fn_X8_starts  z_1.2).bind fun z_4 => ((fn_X8_daysGo c1 z_4).bind fun z_5 => ((fn_X8_settles  z_5).bind fun z_6 => some ((z_6 0 15), z_6)))) else some ((-3), z_1.2))))
set_option maxRecDepth 20000 in
set_option maxHeartbeats 4000000 in
theorem ct_X8_days {l : Launch} {G : mm_G} {sh : mm_S} {M : mm_M} (c1 : Int32) (h0 : mm_isMod G sh) : mm_K l G yX8_days (cX8_days, 2, RX8, (some .int), 6) [.ref (mm_ad G 0), .int c1] (mm_fi sh) sh M (fn_X8_days c1 M) := by
  refine mm_met (by decide +kernel) rfl (Nat.le_of_ble_eq_true rfl) (fun X hX => ?_)
  subst hX
  show mm_T X G (cX8_days, 2, RX8, (some .int), 6) (mm_fi sh) sh M 0 [(0, .ref (mm_ad G 0)), (1, .int c1)] [] (fn_X8_days c1 M)
  unfold fn_X8_days
  obtain ⟨N, hN⟩ := h0.1
  refine mm_iload_n 1 rfl dX8_days_0 rfl 1 rfl ?_
  refine mm_i2l 2 rfl dX8_days_1 ?_
  refine mm_lconst 3 rfl (v := 0) dX8_days_2 (by decide) ?_
  refine mm_ldc2 6 rfl (v := 30) dX8_days_3 mw_5_84 ?_
  refine ca_X8_59 9 rfl dX8_days_6 (ct_X8_in c1.toInt64 0 30 ) (by decide) (Nat.le_of_ble_eq_true rfl) (fun z_1 => ?_)
  refine mm_if_ne 12 14 rfl dX8_days_9 (by decide) (fun h_2 => ?_) (fun h_2 => ?_)
  · refine mm_aload_n 15 rfl dX8_days_14 rfl 0 rfl ?_
    refine gt_X8_7 18 rfl dX8_days_15 hN ?_
    refine mm_bipush 20 rfl (v := 37) dX8_days_18 (by decide) ?_
    refine mm_ialdK 21 rfl dX8_days_20 h0.2.1 (by decide) 37 (by decide) ?_
    refine mm_iload_n 22 rfl dX8_days_21 rfl 1 rfl ?_
    refine mm_iadd 23 rfl dX8_days_22 ?_
    refine mm_sipush 26 rfl (v := 999) dX8_days_23 (by decide) ?_
    refine mm_icmp_le 29 32 rfl dX8_days_26 (by decide) (fun h_3 => ?_) (fun h_3 => ?_)
    · refine mm_aload_n 33 rfl dX8_days_32 rfl 0 rfl ?_
      refine ca_X8_183 36 rfl dX8_days_33 hN (ct_X8_starts  h0) (by decide) (Nat.le_of_ble_eq_true rfl) (fun z_4 => ?_)
      refine mm_aload_n 37 rfl dX8_days_36 rfl 0 rfl ?_
      refine mm_iload_n 38 rfl dX8_days_37 rfl 1 rfl ?_
      refine ca_X8_210 41 rfl dX8_days_38 hN (ct_X8_daysGo c1 h0) (by decide) (Nat.le_of_ble_eq_true rfl) (fun z_5 => ?_)
      refine mm_aload_n 42 rfl dX8_days_41 rfl 0 rfl ?_
      refine ca_X8_213 45 rfl dX8_days_42 hN (ct_X8_settles  h0) (by decide) (Nat.le_of_ble_eq_true rfl) (fun z_6 => ?_)
      refine mm_aload_n 46 rfl dX8_days_45 rfl 0 rfl ?_
      refine gt_X8_141 49 rfl dX8_days_46 hN ?_
      exact mm_iret dX8_days_49 rfl rfl
    · refine mm_bipush 31 rfl (v := (-3)) dX8_days_29 (by decide) ?_
      exact mm_iret dX8_days_31 rfl rfl
  · refine mm_iconst 13 rfl (v := (-1)) dX8_days_12 (by decide) ?_
    exact mm_iret dX8_days_13 rfl rfl

-- MangleLineModel.isFar(I)Z
noncomputable def fn_X8_isFar (c0 : Int32) (M : mm_M) : Option (Int32 × mm_M) :=
  ((fn_X8_in c0.toInt64 0 60 M).bind fun z_1 => (if z_1.1 = 0 ∨ z_1.1 = 1 then some (z_1.1, z_1.2) else none))
set_option maxRecDepth 20000 in
set_option maxHeartbeats 4000000 in
theorem ct_X8_isFar {l : Launch} {G : mm_G} {sh : mm_S} {M : mm_M} (c0 : Int32) : mm_K l G yX8_isFar (cX8_isFar, 1, RX8, (some .boolean), 2) [.int c0] (mm_fi sh) sh M (fn_X8_isFar c0 M) := by
  refine mm_met (by decide +kernel) rfl (Nat.le_of_ble_eq_true rfl) (fun X hX => ?_)
  subst hX
  show mm_T X G (cX8_isFar, 1, RX8, (some .boolean), 2) (mm_fi sh) sh M 0 [(0, .int c0)] [] (fn_X8_isFar c0 M)
  unfold fn_X8_isFar
  refine mm_iload_n 1 rfl dX8_isFar_0 rfl 0 rfl ?_
  refine mm_i2l 2 rfl dX8_isFar_1 ?_
  refine mm_lconst 3 rfl (v := 0) dX8_isFar_2 (by decide) ?_
  refine mm_ldc2 6 rfl (v := 60) dX8_isFar_3 mw_5_57 ?_
  refine ca_X8_59 9 rfl dX8_isFar_6 (ct_X8_in c0.toInt64 0 60 ) (by decide) (Nat.le_of_ble_eq_true rfl) (fun z_1 => ?_)
  exact mm_zret dX8_isFar_9 rfl rfl

-- MangleLineModel.runs(II)I
noncomputable def fn_X8_runs_L30 (c1 : Int32) (c2 : Int32) (k : Int32 → mm_M → Option (Int32 × mm_M)) : Nat → Int32 → Int32 → mm_M → Option (Int32 × mm_M)
  | 0, _, _, _ => none
  | n + 1, x3, x4, M => (if c1 ≤ x4 then k x3 M else mm_let (M 0 14) fun x5_7 => ((fn_X8_daysGo 1 M).bind fun z_8 => (if (z_8 0 14) = x5_7 then ((fn_X8_flag 1 z_8).bind fun z_12 => mm_let (x3 + z_12.1) fun x3_13 => fn_X8_runs_L30 c1 c2 k n x3_13 (x4 + 1) z_12.2) else ((fn_X8_flag 0 z_8).bind fun z_10 => mm_let (x3 + z_10.1) fun x3_11 => fn_X8_runs_L30 c1 c2 k n x3_11 (x4 + 1) z_10.2))))
set_option maxRecDepth 20000 in
set_option maxHeartbeats 4000000 in
theorem th_X8_runs_L30 {X : mm_X} {G : mm_G} {sh : mm_S} {c1 : Int32} {c2 : Int32} {k : Int32 → mm_M → Option (Int32 × mm_M)} (h0 : mm_isMod G sh) (hk : ∀ (x3 : Int32) (M : mm_M), mm_T X G (cX8_runs, 6, RX8, (some .int), 6) (mm_fi sh) sh M 73 [(0, .ref (mm_ad G 0)), (2, .int c2), (3, .int x3)] [] (k x3 M)) : ∀ (n : Nat) (x3 : Int32) (x4 : Int32) (M : mm_M), mm_T X G (cX8_runs, 6, RX8, (some .int), 6) (mm_fi sh) sh M 30 [(0, .ref (mm_ad G 0)), (1, .int c1), (2, .int c2), (3, .int x3), (4, .int x4)] [] (fn_X8_runs_L30 c1 c2 k n x3 x4 M) := by
  intro n
  induction n with
  | zero => intro x3 x4 M; exact mm_none
  | succ n ih =>
    intro x3 x4 M
    rw [fn_X8_runs_L30]
    obtain ⟨N, hN⟩ := h0.1
    refine mm_iload 32 rfl dX8_runs_30 4 rfl ?_
    refine mm_iload_n 33 rfl dX8_runs_32 rfl 1 rfl ?_
    refine mm_icmp_ge 36 73 rfl dX8_runs_33 (by decide) (fun h_6 => ?_) (fun h_6 => ?_)
    · exact mm_lv [0, 2, 3] rfl (hk _ _)
    · refine mm_aload_n 37 rfl dX8_runs_36 rfl 0 rfl ?_
      refine gt_X8_138 40 rfl dX8_runs_37 hN ?_
      refine mm_bI (fun x5_7 => ?_)
      refine mm_istore 42 rfl dX8_runs_40 (lv' := [(5, .int x5_7), (0, .ref (mm_ad G 0)), (1, .int c1), (2, .int c2), (3, .int x3), (4, .int x4)]) (by decide) rfl ?_
      refine mm_aload_n 43 rfl dX8_runs_42 rfl 1 rfl ?_
      refine mm_iconst 44 rfl (v := 1) dX8_runs_43 (by decide) ?_
      refine ca_X8_210 47 rfl dX8_runs_44 hN (ct_X8_daysGo 1 h0) (by decide) (Nat.le_of_ble_eq_true rfl) (fun z_8 => ?_)
      refine mm_iload_n 48 rfl dX8_runs_47 rfl 4 rfl ?_
      refine mm_aload_n 49 rfl dX8_runs_48 rfl 1 rfl ?_
      refine gt_X8_138 52 rfl dX8_runs_49 hN ?_
      refine mm_iload 54 rfl dX8_runs_52 0 rfl ?_
      refine mm_icmp_ne 57 61 rfl dX8_runs_54 (by decide) (fun h_9 => ?_) (fun h_9 => ?_)
      · refine mm_iconst 62 rfl (v := 0) dX8_runs_61 (by decide) ?_
        refine ca_X8_147 65 rfl dX8_runs_62 (ct_X8_flag 0 ) (by decide) (Nat.le_of_ble_eq_true rfl) (fun z_10 => ?_)
        refine mm_iadd 66 rfl dX8_runs_65 ?_
        refine mm_bI (fun x3_11 => ?_)
        refine mm_istore_n 67 rfl dX8_runs_66 rfl (lv' := [(3, .int x3_11), (5, .int x5_7), (0, .ref (mm_ad G 0)), (1, .int c1), (2, .int c2), (4, .int x4)]) (by decide) rfl ?_
        refine mm_iinc 70 rfl dX8_runs_67 5 rfl (v := (x4 + 1)) rfl (lv' := [(4, .int (x4 + 1)), (3, .int x3_11), (5, .int x5_7), (0, .ref (mm_ad G 0)), (1, .int c1), (2, .int c2)]) (by decide) rfl ?_
        refine mm_goto 30 dX8_runs_70 (by decide) ?_
        exact mm_lv [3, 4, 5, 1, 0] rfl (ih _ _ _)
      · refine mm_iconst 58 rfl (v := 1) dX8_runs_57 (by decide) ?_
        refine mm_goto 62 dX8_runs_58 (by decide) ?_
        refine ca_X8_147 65 rfl dX8_runs_62 (ct_X8_flag 1 ) (by decide) (Nat.le_of_ble_eq_true rfl) (fun z_12 => ?_)
        refine mm_iadd 66 rfl dX8_runs_65 ?_
        refine mm_bI (fun x3_13 => ?_)
        refine mm_istore_n 67 rfl dX8_runs_66 rfl (lv' := [(3, .int x3_13), (5, .int x5_7), (0, .ref (mm_ad G 0)), (1, .int c1), (2, .int c2), (4, .int x4)]) (by decide) rfl ?_
        refine mm_iinc 70 rfl dX8_runs_67 5 rfl (v := (x4 + 1)) rfl (lv' := [(4, .int (x4 + 1)), (3, .int x3_13), (5, .int x5_7), (0, .ref (mm_ad G 0)), (1, .int c1), (2, .int c2)]) (by decide) rfl ?_
        refine mm_goto 30 dX8_runs_70 (by decide) ?_
        exact mm_lv [3, 4, 5, 1, 0] rfl (ih _ _ _)
noncomputable def fn_X8_runs (c1 : Int32) (c2 : Int32) (M : mm_M) : Option (Int32 × mm_M) :=
  ((fn_X8_isFar c1 M).bind fun z_1 => (if z_1.1 = 0 then some ((-1), z_1.2) else ((fn_X8_in c2.toInt64 0 4 z_1.2).bind fun z_3 => (if z_3.1 = 0 then some ((-1), z_3.2) else ((fn_X8_starts  z_3.2).bind fun z_5 => fn_X8_runs_L30 c1 c2 (fun x3_14 M_15 => (if c2 = 0 then ((fn_X8_manyAt 2 M_15).bind fun z_18 => some (z_18.1, z_18.2)) else (if c2 = 1 then ((fn_X8_sumOf 1 M_15).bind fun z_20 => some (z_20.1, z_20.2)) else (if c2 = 2 then ((fn_X8_those 1 M_15).bind fun z_22 => some (z_22.1, z_22.2)) else (if c2 = 3 then some ((M_15 0 14), M_15) else some (x3_14, M_15)))))) mm_fu 0 0 z_5)))))
set_option maxRecDepth 20000 in
set_option maxHeartbeats 4000000 in
theorem ct_X8_runs {l : Launch} {G : mm_G} {sh : mm_S} {M : mm_M} (c1 : Int32) (c2 : Int32) (h0 : mm_isMod G sh) : mm_K l G yX8_runs (cX8_runs, 6, RX8, (some .int), 6) [.ref (mm_ad G 0), .int c1, .int c2] (mm_fi sh) sh M (fn_X8_runs c1 c2 M) := by
  refine mm_met (by decide +kernel) rfl (Nat.le_of_ble_eq_true rfl) (fun X hX => ?_)
  subst hX
  show mm_T X G (cX8_runs, 6, RX8, (some .int), 6) (mm_fi sh) sh M 0 [(0, .ref (mm_ad G 0)), (1, .int c1), (2, .int c2)] [] (fn_X8_runs c1 c2 M)
  unfold fn_X8_runs
  obtain ⟨N, hN⟩ := h0.1
  refine mm_iload_n 1 rfl dX8_runs_0 rfl 1 rfl ?_
  refine ca_X8_216 4 rfl dX8_runs_1 (ct_X8_isFar c1 ) (by decide) (Nat.le_of_ble_eq_true rfl) (fun z_1 => ?_)
  refine mm_if_eq 7 19 rfl dX8_runs_4 (by decide) (fun h_2 => ?_) (fun h_2 => ?_)
  · refine mm_iconst 20 rfl (v := (-1)) dX8_runs_19 (by decide) ?_
    exact mm_iret dX8_runs_20 rfl rfl
  · refine mm_iload_n 8 rfl dX8_runs_7 rfl 2 rfl ?_
    refine mm_i2l 9 rfl dX8_runs_8 ?_
    refine mm_lconst 10 rfl (v := 0) dX8_runs_9 (by decide) ?_
    refine mm_ldc2 13 rfl (v := 4) dX8_runs_10 mw_5_27 ?_
    refine ca_X8_59 16 rfl dX8_runs_13 (ct_X8_in c2.toInt64 0 4 ) (by decide) (Nat.le_of_ble_eq_true rfl) (fun z_3 => ?_)
    refine mm_if_ne 19 21 rfl dX8_runs_16 (by decide) (fun h_4 => ?_) (fun h_4 => ?_)
    · refine mm_iconst 22 rfl (v := 0) dX8_runs_21 (by decide) ?_
      refine mm_istore_n 23 rfl dX8_runs_22 rfl (lv' := [(3, .int 0), (0, .ref (mm_ad G 0)), (1, .int c1), (2, .int c2)]) (by decide) rfl ?_
      refine mm_aload_n 24 rfl dX8_runs_23 rfl 1 rfl ?_
      refine ca_X8_183 27 rfl dX8_runs_24 hN (ct_X8_starts  h0) (by decide) (Nat.le_of_ble_eq_true rfl) (fun z_5 => ?_)
      refine mm_iconst 28 rfl (v := 0) dX8_runs_27 (by decide) ?_
      refine mm_istore 30 rfl dX8_runs_28 (lv' := [(4, .int 0), (3, .int 0), (0, .ref (mm_ad G 0)), (1, .int c1), (2, .int c2)]) (by decide) rfl ?_
      refine mm_lv [2, 3, 4, 1, 0] rfl (th_X8_runs_L30 h0 (fun x3_14 M_15 => ?_) mm_fu _ _ _)
      refine mm_iload_n 74 rfl dX8_runs_73 rfl 1 rfl ?_
      refine mm_ite (fun h_17 => ?_) (fun h_17 => ?_)
      · refine mm_tabIn 104 0 h_17 dX8_runs_74 (by decide) (by decide) rfl (by decide) ?_
        refine mm_aload_n 105 rfl dX8_runs_104 rfl 0 rfl ?_
        refine mm_iconst 106 rfl (v := 2) dX8_runs_105 (by decide) ?_
        refine ca_X8_164 109 rfl dX8_runs_106 hN (ct_X8_manyAt 2 h0) (by decide) (Nat.le_of_ble_eq_true rfl) (fun z_18 => ?_)
        exact mm_iret dX8_runs_109 rfl rfl
      · refine mm_ite (fun h_19 => ?_) (fun h_19 => ?_)
        · refine mm_tabIn 110 1 h_19 dX8_runs_74 (by decide) (by decide) rfl (by decide) ?_
          refine mm_aload_n 111 rfl dX8_runs_110 rfl 0 rfl ?_
          refine mm_iconst 112 rfl (v := 1) dX8_runs_111 (by decide) ?_
          refine ca_X8_186 115 rfl dX8_runs_112 hN (ct_X8_sumOf 1 h0) (by decide) (Nat.le_of_ble_eq_true rfl) (fun z_20 => ?_)
          exact mm_iret dX8_runs_115 rfl rfl
        · refine mm_ite (fun h_21 => ?_) (fun h_21 => ?_)
          · refine mm_tabIn 116 2 h_21 dX8_runs_74 (by decide) (by decide) rfl (by decide) ?_
            refine mm_aload_n 117 rfl dX8_runs_116 rfl 0 rfl ?_
            refine mm_iconst 118 rfl (v := 1) dX8_runs_117 (by decide) ?_
            refine ca_X8_154 121 rfl dX8_runs_118 hN (ct_X8_those 1 h0) (by decide) (Nat.le_of_ble_eq_true rfl) (fun z_22 => ?_)
            exact mm_iret dX8_runs_121 rfl rfl
          · refine mm_ite (fun h_23 => ?_) (fun h_23 => ?_)
            · refine mm_tabIn 122 3 h_23 dX8_runs_74 (by decide) (by decide) rfl (by decide) ?_
              refine mm_aload_n 123 rfl dX8_runs_122 rfl 0 rfl ?_
              refine gt_X8_138 126 rfl dX8_runs_123 hN ?_
              exact mm_iret dX8_runs_126 rfl rfl
            · refine mm_tabOut 127 dX8_runs_74 (mm_out 0 4 (by decide) (fun j hj => by match j, hj with | 0, _ => exact h_17 | 1, _ => exact h_19 | 2, _ => exact h_21 | 3, _ => exact h_23) rfl rfl) (by decide) ?_
              refine mm_iload_n 128 rfl dX8_runs_127 rfl 2 rfl ?_
              exact mm_iret dX8_runs_128 rfl rfl
    · refine mm_iconst 20 rfl (v := (-1)) dX8_runs_19 (by decide) ?_
      exact mm_iret dX8_runs_20 rfl rfl

-- MangleLineModel.ahead(III)I
noncomputable def fn_X8_ahead (c1 : Int32) (c2 : Int32) (c3 : Int32) (M : mm_M) : Option (Int32 × mm_M) :=
  ((fn_X8_isOne c1 M).bind fun z_1 => (if z_1.1 = 0 then some ((-1), z_1.2) else ((fn_X8_isFar c2 z_1.2).bind fun z_3 => (if z_3.1 = 0 then some ((-1), z_3.2) else ((fn_X8_in c3.toInt64 0 2 z_3.2).bind fun z_5 => (if z_5.1 = 0 then some ((-1), z_5.2) else ((fn_X8_starts  z_5.2).bind fun z_7 => ((fn_X8_daysGo c2 z_7).bind fun z_8 => ((fn_X8_of c1 (1 + c3) z_8).bind fun z_9 => some (z_9.1, z_9.2))))))))))
set_option maxRecDepth 20000 in
set_option maxHeartbeats 4000000 in
theorem ct_X8_ahead {l : Launch} {G : mm_G} {sh : mm_S} {M : mm_M} (c1 : Int32) (c2 : Int32) (c3 : Int32) (h0 : mm_isMod G sh) : mm_K l G yX8_ahead (cX8_ahead, 4, RX8, (some .int), 6) [.ref (mm_ad G 0), .int c1, .int c2, .int c3] (mm_fi sh) sh M (fn_X8_ahead c1 c2 c3 M) := by
  refine mm_met (by decide +kernel) rfl (Nat.le_of_ble_eq_true rfl) (fun X hX => ?_)
  subst hX
  show mm_T X G (cX8_ahead, 4, RX8, (some .int), 6) (mm_fi sh) sh M 0 [(0, .ref (mm_ad G 0)), (1, .int c1), (2, .int c2), (3, .int c3)] [] (fn_X8_ahead c1 c2 c3 M)
  unfold fn_X8_ahead
  obtain ⟨N, hN⟩ := h0.1
  refine mm_aload_n 1 rfl dX8_ahead_0 rfl 0 rfl ?_
  refine mm_iload_n 2 rfl dX8_ahead_1 rfl 1 rfl ?_
  refine ca_X8_191 5 rfl dX8_ahead_2 hN (ct_X8_isOne c1 h0) (by decide) (Nat.le_of_ble_eq_true rfl) (fun z_1 => ?_)
  refine mm_if_eq 8 27 rfl dX8_ahead_5 (by decide) (fun h_2 => ?_) (fun h_2 => ?_)
  · refine mm_iconst 28 rfl (v := (-1)) dX8_ahead_27 (by decide) ?_
    exact mm_iret dX8_ahead_28 rfl rfl
  · refine mm_iload_n 9 rfl dX8_ahead_8 rfl 2 rfl ?_
    refine ca_X8_216 12 rfl dX8_ahead_9 (ct_X8_isFar c2 ) (by decide) (Nat.le_of_ble_eq_true rfl) (fun z_3 => ?_)
    refine mm_if_eq 15 27 rfl dX8_ahead_12 (by decide) (fun h_4 => ?_) (fun h_4 => ?_)
    · refine mm_iconst 28 rfl (v := (-1)) dX8_ahead_27 (by decide) ?_
      exact mm_iret dX8_ahead_28 rfl rfl
    · refine mm_iload_n 16 rfl dX8_ahead_15 rfl 3 rfl ?_
      refine mm_i2l 17 rfl dX8_ahead_16 ?_
      refine mm_lconst 18 rfl (v := 0) dX8_ahead_17 (by decide) ?_
      refine mm_ldc2 21 rfl (v := 2) dX8_ahead_18 mw_5_124 ?_
      refine ca_X8_59 24 rfl dX8_ahead_21 (ct_X8_in c3.toInt64 0 2 ) (by decide) (Nat.le_of_ble_eq_true rfl) (fun z_5 => ?_)
      refine mm_if_ne 27 29 rfl dX8_ahead_24 (by decide) (fun h_6 => ?_) (fun h_6 => ?_)
      · refine mm_aload_n 30 rfl dX8_ahead_29 rfl 0 rfl ?_
        refine ca_X8_183 33 rfl dX8_ahead_30 hN (ct_X8_starts  h0) (by decide) (Nat.le_of_ble_eq_true rfl) (fun z_7 => ?_)
        refine mm_aload_n 34 rfl dX8_ahead_33 rfl 0 rfl ?_
        refine mm_iload_n 35 rfl dX8_ahead_34 rfl 2 rfl ?_
        refine ca_X8_210 38 rfl dX8_ahead_35 hN (ct_X8_daysGo c2 h0) (by decide) (Nat.le_of_ble_eq_true rfl) (fun z_8 => ?_)
        refine mm_aload_n 39 rfl dX8_ahead_38 rfl 0 rfl ?_
        refine mm_iload_n 40 rfl dX8_ahead_39 rfl 1 rfl ?_
        refine mm_iconst 41 rfl (v := 1) dX8_ahead_40 (by decide) ?_
        refine mm_iload_n 42 rfl dX8_ahead_41 rfl 3 rfl ?_
        refine mm_iadd 43 rfl dX8_ahead_42 ?_
        refine ca_X8_144 46 rfl dX8_ahead_43 hN (ct_X8_of c1 (1 + c3) h0) (by decide) (Nat.le_of_ble_eq_true rfl) (fun z_9 => ?_)
        exact mm_iret dX8_ahead_46 rfl rfl
      · refine mm_iconst 28 rfl (v := (-1)) dX8_ahead_27 (by decide) ?_
        exact mm_iret dX8_ahead_28 rfl rfl

-- MangleLineModel.home(I)I
noncomputable def fn_X8_home_L16 (c1 : Int32) (k0 : Int32 → mm_M → Option (Int32 × mm_M)) (k1 : mm_M → Option (Int32 × mm_M)) : Nat → Int32 → mm_M → Option (Int32 × mm_M)
  | 0, _, _ => none
  | n + 1, x2, M => (if 60 < x2 then k1  M else ((fn_X8_of c1 3 M).bind fun z_5 => (if z_5.1 = 2 then k0 x2 z_5.2 else ((fn_X8_daysGo 1 z_5.2).bind fun z_7 => fn_X8_home_L16 c1 k0 k1 n (x2 + 1) z_7))))
set_option maxRecDepth 20000 in
set_option maxHeartbeats 4000000 in
theorem th_X8_home_L16 {X : mm_X} {G : mm_G} {sh : mm_S} {c1 : Int32} {k0 : Int32 → mm_M → Option (Int32 × mm_M)} {k1 : mm_M → Option (Int32 × mm_M)} (h0 : mm_isMod G sh) (hk0 : ∀ (x2 : Int32) (M : mm_M), mm_T X G (cX8_home, 3, RX8, (some .int), 6) (mm_fi sh) sh M 32 [(2, .int x2)] [] (k0 x2 M)) (hk1 : ∀ (M : mm_M), mm_T X G (cX8_home, 3, RX8, (some .int), 6) (mm_fi sh) sh M 45 [] [] (k1  M)) : ∀ (n : Nat) (x2 : Int32) (M : mm_M), mm_T X G (cX8_home, 3, RX8, (some .int), 6) (mm_fi sh) sh M 16 [(0, .ref (mm_ad G 0)), (1, .int c1), (2, .int x2)] [] (fn_X8_home_L16 c1 k0 k1 n x2 M) := by
  intro n
  induction n with
  | zero => intro x2 M; exact mm_none
  | succ n ih =>
    intro x2 M
    rw [fn_X8_home_L16]
    obtain ⟨N, hN⟩ := h0.1
    refine mm_iload_n 17 rfl dX8_home_16 rfl 2 rfl ?_
    refine mm_bipush 19 rfl (v := 60) dX8_home_17 (by decide) ?_
    refine mm_icmp_gt 22 45 rfl dX8_home_19 (by decide) (fun h_4 => ?_) (fun h_4 => ?_)
    · exact mm_lv [] rfl (hk1 _)
    · refine mm_aload_n 23 rfl dX8_home_22 rfl 0 rfl ?_
      refine mm_iload_n 24 rfl dX8_home_23 rfl 1 rfl ?_
      refine mm_iconst 25 rfl (v := 3) dX8_home_24 (by decide) ?_
      refine ca_X8_144 28 rfl dX8_home_25 hN (ct_X8_of c1 3 h0) (by decide) (Nat.le_of_ble_eq_true rfl) (fun z_5 => ?_)
      refine mm_iconst 29 rfl (v := 2) dX8_home_28 (by decide) ?_
      refine mm_icmp_ne 32 34 rfl dX8_home_29 (by decide) (fun h_6 => ?_) (fun h_6 => ?_)
      · refine mm_aload_n 35 rfl dX8_home_34 rfl 0 rfl ?_
        refine mm_iconst 36 rfl (v := 1) dX8_home_35 (by decide) ?_
        refine ca_X8_210 39 rfl dX8_home_36 hN (ct_X8_daysGo 1 h0) (by decide) (Nat.le_of_ble_eq_true rfl) (fun z_7 => ?_)
        refine mm_iinc 42 rfl dX8_home_39 2 rfl (v := (x2 + 1)) rfl (lv' := [(2, .int (x2 + 1)), (0, .ref (mm_ad G 0)), (1, .int c1)]) (by decide) rfl ?_
        refine mm_goto 16 dX8_home_42 (by decide) ?_
        exact mm_lv [1, 2, 0] rfl (ih _ _)
      · exact mm_lv [2] rfl (hk0 _ _)
noncomputable def fn_X8_home (c1 : Int32) (M : mm_M) : Option (Int32 × mm_M) :=
  ((fn_X8_isOne c1 M).bind fun z_1 => (if z_1.1 = 0 then some ((-1), z_1.2) else ((fn_X8_starts  z_1.2).bind fun z_3 => fn_X8_home_L16 c1 (fun x2_8 M_9 => some (x2_8, M_9)) (fun M_11 => some ((-4), M_11)) mm_fu 0 z_3)))
set_option maxRecDepth 20000 in
set_option maxHeartbeats 4000000 in
theorem ct_X8_home {l : Launch} {G : mm_G} {sh : mm_S} {M : mm_M} (c1 : Int32) (h0 : mm_isMod G sh) : mm_K l G yX8_home (cX8_home, 3, RX8, (some .int), 6) [.ref (mm_ad G 0), .int c1] (mm_fi sh) sh M (fn_X8_home c1 M) := by
  refine mm_met (by decide +kernel) rfl (Nat.le_of_ble_eq_true rfl) (fun X hX => ?_)
  subst hX
  show mm_T X G (cX8_home, 3, RX8, (some .int), 6) (mm_fi sh) sh M 0 [(0, .ref (mm_ad G 0)), (1, .int c1)] [] (fn_X8_home c1 M)
  unfold fn_X8_home
  obtain ⟨N, hN⟩ := h0.1
  refine mm_aload_n 1 rfl dX8_home_0 rfl 0 rfl ?_
  refine mm_iload_n 2 rfl dX8_home_1 rfl 1 rfl ?_
  refine ca_X8_191 5 rfl dX8_home_2 hN (ct_X8_isOne c1 h0) (by decide) (Nat.le_of_ble_eq_true rfl) (fun z_1 => ?_)
  refine mm_if_ne 8 10 rfl dX8_home_5 (by decide) (fun h_2 => ?_) (fun h_2 => ?_)
  · refine mm_aload_n 11 rfl dX8_home_10 rfl 0 rfl ?_
    refine ca_X8_183 14 rfl dX8_home_11 hN (ct_X8_starts  h0) (by decide) (Nat.le_of_ble_eq_true rfl) (fun z_3 => ?_)
    refine mm_iconst 15 rfl (v := 0) dX8_home_14 (by decide) ?_
    refine mm_istore_n 16 rfl dX8_home_15 rfl (lv' := [(2, .int 0), (0, .ref (mm_ad G 0)), (1, .int c1)]) (by decide) rfl ?_
    refine mm_lv [1, 2, 0] rfl (th_X8_home_L16 h0 (fun x2_8 M_9 => ?_) (fun M_11 => ?_) mm_fu _ _)
    · refine mm_iload_n 33 rfl dX8_home_32 rfl 0 rfl ?_
      exact mm_iret dX8_home_33 rfl rfl
    · refine mm_bipush 47 rfl (v := (-4)) dX8_home_45 (by decide) ?_
      exact mm_iret dX8_home_47 rfl rfl
  · refine mm_iconst 9 rfl (v := (-1)) dX8_home_8 (by decide) ?_
    exact mm_iret dX8_home_9 rfl rfl

-- MangleLineModel.daysTo()I
noncomputable def fn_X8_daysTo_L2  (k0 : Int32 → mm_M → Option (Int32 × mm_M)) (k1 : mm_M → Option (Int32 × mm_M)) : Nat → Int32 → mm_M → Option (Int32 × mm_M)
  | 0, _, _ => none
  | n + 1, x1, M => (if 60 < x1 then k1  M else ((fn_X8_isDone  M).bind fun z_2 => (if z_2.1 = 0 then ((fn_X8_daysGo 1 z_2.2).bind fun z_4 => fn_X8_daysTo_L2 k0 k1 n (x1 + 1) z_4) else k0 x1 z_2.2)))
set_option maxRecDepth 20000 in
set_option maxHeartbeats 4000000 in
theorem th_X8_daysTo_L2 {X : mm_X} {G : mm_G} {sh : mm_S} {k0 : Int32 → mm_M → Option (Int32 × mm_M)} {k1 : mm_M → Option (Int32 × mm_M)} (h0 : mm_isMod G sh) (hk0 : ∀ (x1 : Int32) (M : mm_M), mm_T X G (cX8_daysTo, 2, RX8, (some .int), 6) (mm_fi sh) sh M 15 [(1, .int x1)] [] (k0 x1 M)) (hk1 : ∀ (M : mm_M), mm_T X G (cX8_daysTo, 2, RX8, (some .int), 6) (mm_fi sh) sh M 28 [] [] (k1  M)) : ∀ (n : Nat) (x1 : Int32) (M : mm_M), mm_T X G (cX8_daysTo, 2, RX8, (some .int), 6) (mm_fi sh) sh M 2 [(0, .ref (mm_ad G 0)), (1, .int x1)] [] (fn_X8_daysTo_L2 k0 k1 n x1 M) := by
  intro n
  induction n with
  | zero => intro x1 M; exact mm_none
  | succ n ih =>
    intro x1 M
    rw [fn_X8_daysTo_L2]
    obtain ⟨N, hN⟩ := h0.1
    refine mm_iload_n 3 rfl dX8_daysTo_2 rfl 1 rfl ?_
    refine mm_bipush 5 rfl (v := 60) dX8_daysTo_3 (by decide) ?_
    refine mm_icmp_gt 8 28 rfl dX8_daysTo_5 (by decide) (fun h_1 => ?_) (fun h_1 => ?_)
    · exact mm_lv [] rfl (hk1 _)
    · refine mm_aload_n 9 rfl dX8_daysTo_8 rfl 0 rfl ?_
      refine ca_X8_221 12 rfl dX8_daysTo_9 hN (ct_X8_isDone  h0) (by decide) (Nat.le_of_ble_eq_true rfl) (fun z_2 => ?_)
      refine mm_if_eq 15 17 rfl dX8_daysTo_12 (by decide) (fun h_3 => ?_) (fun h_3 => ?_)
      · refine mm_aload_n 18 rfl dX8_daysTo_17 rfl 0 rfl ?_
        refine mm_iconst 19 rfl (v := 1) dX8_daysTo_18 (by decide) ?_
        refine ca_X8_210 22 rfl dX8_daysTo_19 hN (ct_X8_daysGo 1 h0) (by decide) (Nat.le_of_ble_eq_true rfl) (fun z_4 => ?_)
        refine mm_iinc 25 rfl dX8_daysTo_22 1 rfl (v := (x1 + 1)) rfl (lv' := [(1, .int (x1 + 1)), (0, .ref (mm_ad G 0))]) (by decide) rfl ?_
        refine mm_goto 2 dX8_daysTo_25 (by decide) ?_
        exact mm_lv [1, 0] rfl (ih _ _)
      · exact mm_lv [1] rfl (hk0 _ _)
noncomputable def fn_X8_daysTo  (M : mm_M) : Option (Int32 × mm_M) :=
  fn_X8_daysTo_L2  (fun x1_5 M_6 => some (x1_5, M_6)) (fun M_8 => some ((-4), M_8)) mm_fu 0 M
set_option maxRecDepth 20000 in
set_option maxHeartbeats 4000000 in
theorem ct_X8_daysTo {l : Launch} {G : mm_G} {sh : mm_S} {M : mm_M} (h0 : mm_isMod G sh) : mm_K l G yX8_daysTo (cX8_daysTo, 2, RX8, (some .int), 6) [.ref (mm_ad G 0)] (mm_fi sh) sh M (fn_X8_daysTo  M) := by
  refine mm_met (by decide +kernel) rfl (Nat.le_of_ble_eq_true rfl) (fun X hX => ?_)
  subst hX
  show mm_T X G (cX8_daysTo, 2, RX8, (some .int), 6) (mm_fi sh) sh M 0 [(0, .ref (mm_ad G 0))] [] (fn_X8_daysTo  M)
  unfold fn_X8_daysTo
  obtain ⟨N, hN⟩ := h0.1
  refine mm_iconst 1 rfl (v := 0) dX8_daysTo_0 (by decide) ?_
  refine mm_istore_n 2 rfl dX8_daysTo_1 rfl (lv' := [(1, .int 0), (0, .ref (mm_ad G 0))]) (by decide) rfl ?_
  refine mm_lv [1, 0] rfl (th_X8_daysTo_L2 h0 (fun x1_5 M_6 => ?_) (fun M_8 => ?_) mm_fu _ _)
  · refine mm_iload_n 16 rfl dX8_daysTo_15 rfl 0 rfl ?_
    exact mm_iret dX8_daysTo_16 rfl rfl
  · refine mm_bipush 30 rfl (v := (-4)) dX8_daysTo_28 (by decide) ?_
    exact mm_iret dX8_daysTo_30 rfl rfl

-- MangleLineModel.done()I
noncomputable def fn_X8_done  (M : mm_M) : Option (Int32 × mm_M) :=
  ((fn_X8_starts  M).bind fun z_1 => ((fn_X8_daysTo  z_1).bind fun z_2 => some (z_2.1, z_2.2)))
set_option maxRecDepth 20000 in
set_option maxHeartbeats 4000000 in
theorem ct_X8_done {l : Launch} {G : mm_G} {sh : mm_S} {M : mm_M} (h0 : mm_isMod G sh) : mm_K l G yX8_done (cX8_done, 1, RX8, (some .int), 7) [.ref (mm_ad G 0)] (mm_fi sh) sh M (fn_X8_done  M) := by
  refine mm_met (by decide +kernel) rfl (Nat.le_of_ble_eq_true rfl) (fun X hX => ?_)
  subst hX
  show mm_T X G (cX8_done, 1, RX8, (some .int), 7) (mm_fi sh) sh M 0 [(0, .ref (mm_ad G 0))] [] (fn_X8_done  M)
  unfold fn_X8_done
  obtain ⟨N, hN⟩ := h0.1
  refine mm_aload_n 1 rfl dX8_done_0 rfl 0 rfl ?_
  refine ca_X8_183 4 rfl dX8_done_1 hN (ct_X8_starts  h0) (by decide) (Nat.le_of_ble_eq_true rfl) (fun z_1 => ?_)
  refine mm_aload_n 5 rfl dX8_done_4 rfl 0 rfl ?_
  refine ca_X8_225 8 rfl dX8_done_5 hN (ct_X8_daysTo  h0) (by decide) (Nat.le_of_ble_eq_true rfl) (fun z_2 => ?_)
  exact mm_iret dX8_done_8 rfl rfl

-- MangleLineModel.leastRule(II)I
noncomputable def fn_X8_leastRule_L2 (c1 : Int32) (c2 : Int32) (k0 : Int32 → mm_M → Option (Int32 × mm_M)) (k1 : mm_M → Option (Int32 × mm_M)) : Nat → Int32 → mm_M → Option (Int32 × mm_M)
  | 0, _, _ => none
  | n + 1, x3, M => ((fn_X8_mostOf c1 M).bind fun z_1 => (if z_1.1 < x3 then k1  z_1.2 else ((fn_X8_starts  z_1.2).bind fun z_3 => (if mm_in (25 + c1) 57 then (mm_let (mm_up z_3 2 (25 + c1).toNatClampNeg x3) fun M_4 => ((fn_X8_daysGo c2 M_4).bind fun z_6 => ((fn_X8_isDone  z_6).bind fun z_7 => (if z_7.1 = 0 then fn_X8_leastRule_L2 c1 c2 k0 k1 n (x3 + 1) z_7.2 else k0 x3 z_7.2)))) else none))))
set_option maxRecDepth 20000 in
set_option maxHeartbeats 4000000 in
theorem th_X8_leastRule_L2 {X : mm_X} {G : mm_G} {sh : mm_S} {c1 : Int32} {c2 : Int32} {k0 : Int32 → mm_M → Option (Int32 × mm_M)} {k1 : mm_M → Option (Int32 × mm_M)} (h0 : mm_isMod G sh) (hk0 : ∀ (x3 : Int32) (M : mm_M), mm_T X G (cX8_leastRule, 4, RX8, (some .int), 6) (mm_fi sh) sh M 36 [(3, .int x3)] [] (k0 x3 M)) (hk1 : ∀ (M : mm_M), mm_T X G (cX8_leastRule, 4, RX8, (some .int), 6) (mm_fi sh) sh M 44 [] [] (k1  M)) : ∀ (n : Nat) (x3 : Int32) (M : mm_M), mm_T X G (cX8_leastRule, 4, RX8, (some .int), 6) (mm_fi sh) sh M 2 [(0, .ref (mm_ad G 0)), (1, .int c1), (2, .int c2), (3, .int x3)] [] (fn_X8_leastRule_L2 c1 c2 k0 k1 n x3 M) := by
  intro n
  induction n with
  | zero => intro x3 M; exact mm_none
  | succ n ih =>
    intro x3 M
    rw [fn_X8_leastRule_L2]
    obtain ⟨N, hN⟩ := h0.1
    refine mm_iload_n 3 rfl dX8_leastRule_2 rfl 3 rfl ?_
    refine mm_iload_n 4 rfl dX8_leastRule_3 rfl 1 rfl ?_
    refine ca_X8_125 7 rfl dX8_leastRule_4 (ct_X8_mostOf c1 ) (by decide) (Nat.le_of_ble_eq_true rfl) (fun z_1 => ?_)
    refine mm_icmp_gt 10 44 rfl dX8_leastRule_7 (by decide) (fun h_2 => ?_) (fun h_2 => ?_)
    · exact mm_lv [] rfl (hk1 _)
    · refine mm_aload_n 11 rfl dX8_leastRule_10 rfl 0 rfl ?_
      refine ca_X8_183 14 rfl dX8_leastRule_11 hN (ct_X8_starts  h0) (by decide) (Nat.le_of_ble_eq_true rfl) (fun z_3 => ?_)
      refine mm_aload_n 15 rfl dX8_leastRule_14 rfl 0 rfl ?_
      refine gt_X8_13 18 rfl dX8_leastRule_15 hN ?_
      refine mm_bipush 20 rfl (v := 25) dX8_leastRule_18 (by decide) ?_
      refine mm_iload_n 21 rfl dX8_leastRule_20 rfl 1 rfl ?_
      refine mm_iadd 22 rfl dX8_leastRule_21 ?_
      refine mm_iload_n 23 rfl dX8_leastRule_22 rfl 3 rfl ?_
      refine mm_iast 24 rfl dX8_leastRule_23 h0.2.2.1 (fun h_5 => ?_)
      refine mm_bM (fun M_4 => ?_)
      refine mm_aload_n 25 rfl dX8_leastRule_24 rfl 0 rfl ?_
      refine mm_iload_n 26 rfl dX8_leastRule_25 rfl 2 rfl ?_
      refine ca_X8_210 29 rfl dX8_leastRule_26 hN (ct_X8_daysGo c2 h0) (by decide) (Nat.le_of_ble_eq_true rfl) (fun z_6 => ?_)
      refine mm_aload_n 30 rfl dX8_leastRule_29 rfl 0 rfl ?_
      refine ca_X8_221 33 rfl dX8_leastRule_30 hN (ct_X8_isDone  h0) (by decide) (Nat.le_of_ble_eq_true rfl) (fun z_7 => ?_)
      refine mm_if_eq 36 38 rfl dX8_leastRule_33 (by decide) (fun h_8 => ?_) (fun h_8 => ?_)
      · refine mm_iinc 41 rfl dX8_leastRule_38 3 rfl (v := (x3 + 1)) rfl (lv' := [(3, .int (x3 + 1)), (0, .ref (mm_ad G 0)), (1, .int c1), (2, .int c2)]) (by decide) rfl ?_
        refine mm_goto 2 dX8_leastRule_41 (by decide) ?_
        exact mm_lv [1, 2, 3, 0] rfl (ih _ _)
      · exact mm_lv [3] rfl (hk0 _ _)
noncomputable def fn_X8_leastRule (c1 : Int32) (c2 : Int32) (M : mm_M) : Option (Int32 × mm_M) :=
  fn_X8_leastRule_L2 c1 c2 (fun x3_9 M_10 => some (x3_9, M_10)) (fun M_12 => some ((-4), M_12)) mm_fu 0 M
set_option maxRecDepth 20000 in
set_option maxHeartbeats 4000000 in
theorem ct_X8_leastRule {l : Launch} {G : mm_G} {sh : mm_S} {M : mm_M} (c1 : Int32) (c2 : Int32) (h0 : mm_isMod G sh) : mm_K l G yX8_leastRule (cX8_leastRule, 4, RX8, (some .int), 6) [.ref (mm_ad G 0), .int c1, .int c2] (mm_fi sh) sh M (fn_X8_leastRule c1 c2 M) := by
  refine mm_met (by decide +kernel) rfl (Nat.le_of_ble_eq_true rfl) (fun X hX => ?_)
  subst hX
  show mm_T X G (cX8_leastRule, 4, RX8, (some .int), 6) (mm_fi sh) sh M 0 [(0, .ref (mm_ad G 0)), (1, .int c1), (2, .int c2)] [] (fn_X8_leastRule c1 c2 M)
  unfold fn_X8_leastRule
  obtain ⟨N, hN⟩ := h0.1
  refine mm_iconst 1 rfl (v := 0) dX8_leastRule_0 (by decide) ?_
  refine mm_istore_n 2 rfl dX8_leastRule_1 rfl (lv' := [(3, .int 0), (0, .ref (mm_ad G 0)), (1, .int c1), (2, .int c2)]) (by decide) rfl ?_
  refine mm_lv [1, 2, 3, 0] rfl (th_X8_leastRule_L2 h0 (fun x3_9 M_10 => ?_) (fun M_12 => ?_) mm_fu _ _)
  · refine mm_iload_n 37 rfl dX8_leastRule_36 rfl 0 rfl ?_
    exact mm_iret dX8_leastRule_37 rfl rfl
  · refine mm_bipush 46 rfl (v := (-4)) dX8_leastRule_44 (by decide) ?_
    exact mm_iret dX8_leastRule_46 rfl rfl

-- MangleLineModel.blue(I)I
noncomputable def fn_X8_blue (c1 : Int32) (M : mm_M) : Option (Int32 × mm_M) :=
  ((fn_X8_isFar c1 M).bind fun z_1 => (if z_1.1 = 0 then some ((-1), z_1.2) else ((fn_X8_leastRule 0 c1 z_1.2).bind fun z_3 => some (z_3.1, z_3.2))))
set_option maxRecDepth 20000 in
set_option maxHeartbeats 4000000 in
theorem ct_X8_blue {l : Launch} {G : mm_G} {sh : mm_S} {M : mm_M} (c1 : Int32) (h0 : mm_isMod G sh) : mm_K l G yX8_blue (cX8_blue, 2, RX8, (some .int), 7) [.ref (mm_ad G 0), .int c1] (mm_fi sh) sh M (fn_X8_blue c1 M) := by
  refine mm_met (by decide +kernel) rfl (Nat.le_of_ble_eq_true rfl) (fun X hX => ?_)
  subst hX
  show mm_T X G (cX8_blue, 2, RX8, (some .int), 7) (mm_fi sh) sh M 0 [(0, .ref (mm_ad G 0)), (1, .int c1)] [] (fn_X8_blue c1 M)
  unfold fn_X8_blue
  obtain ⟨N, hN⟩ := h0.1
  refine mm_iload_n 1 rfl dX8_blue_0 rfl 1 rfl ?_
  refine ca_X8_216 4 rfl dX8_blue_1 (ct_X8_isFar c1 ) (by decide) (Nat.le_of_ble_eq_true rfl) (fun z_1 => ?_)
  refine mm_if_eq 7 16 rfl dX8_blue_4 (by decide) (fun h_2 => ?_) (fun h_2 => ?_)
  · refine mm_iconst 17 rfl (v := (-1)) dX8_blue_16 (by decide) ?_
    exact mm_iret dX8_blue_17 rfl rfl
  · refine mm_aload_n 8 rfl dX8_blue_7 rfl 0 rfl ?_
    refine mm_iconst 9 rfl (v := 0) dX8_blue_8 (by decide) ?_
    refine mm_iload_n 10 rfl dX8_blue_9 rfl 1 rfl ?_
    refine ca_X8_228 13 rfl dX8_blue_10 hN (ct_X8_leastRule 0 c1 h0) (by decide) (Nat.le_of_ble_eq_true rfl) (fun z_3 => ?_)
    refine mm_goto 17 dX8_blue_13 (by decide) ?_
    exact mm_iret dX8_blue_17 rfl rfl

-- MangleLineModel.pegs(I)I
noncomputable def fn_X8_pegs (c1 : Int32) (M : mm_M) : Option (Int32 × mm_M) :=
  ((fn_X8_isFar c1 M).bind fun z_1 => (if z_1.1 = 0 then some ((-1), z_1.2) else ((fn_X8_leastRule 2 c1 z_1.2).bind fun z_3 => some (z_3.1, z_3.2))))
set_option maxRecDepth 20000 in
set_option maxHeartbeats 4000000 in
theorem ct_X8_pegs {l : Launch} {G : mm_G} {sh : mm_S} {M : mm_M} (c1 : Int32) (h0 : mm_isMod G sh) : mm_K l G yX8_pegs (cX8_pegs, 2, RX8, (some .int), 7) [.ref (mm_ad G 0), .int c1] (mm_fi sh) sh M (fn_X8_pegs c1 M) := by
  refine mm_met (by decide +kernel) rfl (Nat.le_of_ble_eq_true rfl) (fun X hX => ?_)
  subst hX
  show mm_T X G (cX8_pegs, 2, RX8, (some .int), 7) (mm_fi sh) sh M 0 [(0, .ref (mm_ad G 0)), (1, .int c1)] [] (fn_X8_pegs c1 M)
  unfold fn_X8_pegs
  obtain ⟨N, hN⟩ := h0.1
  refine mm_iload_n 1 rfl dX8_pegs_0 rfl 1 rfl ?_
  refine ca_X8_216 4 rfl dX8_pegs_1 (ct_X8_isFar c1 ) (by decide) (Nat.le_of_ble_eq_true rfl) (fun z_1 => ?_)
  refine mm_if_eq 7 16 rfl dX8_pegs_4 (by decide) (fun h_2 => ?_) (fun h_2 => ?_)
  · refine mm_iconst 17 rfl (v := (-1)) dX8_pegs_16 (by decide) ?_
    exact mm_iret dX8_pegs_17 rfl rfl
  · refine mm_aload_n 8 rfl dX8_pegs_7 rfl 0 rfl ?_
    refine mm_iconst 9 rfl (v := 2) dX8_pegs_8 (by decide) ?_
    refine mm_iload_n 10 rfl dX8_pegs_9 rfl 1 rfl ?_
    refine ca_X8_228 13 rfl dX8_pegs_10 hN (ct_X8_leastRule 2 c1 h0) (by decide) (Nat.le_of_ble_eq_true rfl) (fun z_3 => ?_)
    refine mm_goto 17 dX8_pegs_13 (by decide) ?_
    exact mm_iret dX8_pegs_17 rfl rfl

-- MangleLineModel.startsJudging(I)V
noncomputable def fn_X8_startsJudging (c1 : Int32) (M : mm_M) : Option mm_M :=
  mm_let (mm_up M 0 16 (-4)) fun M_1 => (if c1 = (-4) then mm_let (mm_up M_1 0 17 1000000) fun M_4 => some M_4 else mm_let (mm_up M_1 0 17 c1) fun M_3 => some M_3)
set_option maxRecDepth 20000 in
set_option maxHeartbeats 4000000 in
theorem ct_X8_startsJudging {l : Launch} {G : mm_G} {sh : mm_S} {M : mm_M} (c1 : Int32) (h0 : mm_isMod G sh) : mm_K l G yX8_startsJudging (cX8_startsJudging, 2, RX8, none, 1) [.ref (mm_ad G 0), .int c1] (mm_fv sh) sh M (fn_X8_startsJudging c1 M) := by
  refine mm_met (by decide +kernel) rfl (Nat.le_of_ble_eq_true rfl) (fun X hX => ?_)
  subst hX
  show mm_T X G (cX8_startsJudging, 2, RX8, none, 1) (mm_fv sh) sh M 0 [(0, .ref (mm_ad G 0)), (1, .int c1)] [] (fn_X8_startsJudging c1 M)
  unfold fn_X8_startsJudging
  obtain ⟨N, hN⟩ := h0.1
  refine mm_aload_n 1 rfl dX8_startsJudging_0 rfl 0 rfl ?_
  refine mm_bipush 3 rfl (v := (-4)) dX8_startsJudging_1 (by decide) ?_
  refine pt_X8_231 6 rfl dX8_startsJudging_3 hN ?_
  refine mm_bM (fun M_1 => ?_)
  refine mm_aload_n 7 rfl dX8_startsJudging_6 rfl 0 rfl ?_
  refine mm_iload_n 8 rfl dX8_startsJudging_7 rfl 1 rfl ?_
  refine mm_bipush 10 rfl (v := (-4)) dX8_startsJudging_8 (by decide) ?_
  refine mm_icmp_ne 13 18 rfl dX8_startsJudging_10 (by decide) (fun h_2 => ?_) (fun h_2 => ?_)
  · refine mm_iload_n 19 rfl dX8_startsJudging_18 rfl 1 rfl ?_
    refine pt_X8_235 22 rfl dX8_startsJudging_19 hN ?_
    refine mm_bM (fun M_3 => ?_)
    exact mm_vret dX8_startsJudging_22 rfl rfl
  · refine mm_ldc 15 rfl (v := 1000000) dX8_startsJudging_13 mw_5_164 ?_
    refine mm_goto 19 dX8_startsJudging_15 (by decide) ?_
    refine pt_X8_235 22 rfl dX8_startsJudging_19 hN ?_
    refine mm_bM (fun M_4 => ?_)
    exact mm_vret dX8_startsJudging_22 rfl rfl

-- MangleLineModel.judges(II)V
noncomputable def fn_X8_judges (c1 : Int32) (c2 : Int32) (M : mm_M) : Option mm_M :=
  (if c2 = (-4) then some M else (if (M 0 17) ≤ c2 then some M else mm_let (mm_up M 0 16 c1) fun M_3 => mm_let (mm_up M_3 0 17 c2) fun M_4 => some M_4))
set_option maxRecDepth 20000 in
set_option maxHeartbeats 4000000 in
theorem ct_X8_judges {l : Launch} {G : mm_G} {sh : mm_S} {M : mm_M} (c1 : Int32) (c2 : Int32) (h0 : mm_isMod G sh) : mm_K l G yX8_judges (cX8_judges, 3, RX8, none, 1) [.ref (mm_ad G 0), .int c1, .int c2] (mm_fv sh) sh M (fn_X8_judges c1 c2 M) := by
  refine mm_met (by decide +kernel) rfl (Nat.le_of_ble_eq_true rfl) (fun X hX => ?_)
  subst hX
  show mm_T X G (cX8_judges, 3, RX8, none, 1) (mm_fv sh) sh M 0 [(0, .ref (mm_ad G 0)), (1, .int c1), (2, .int c2)] [] (fn_X8_judges c1 c2 M)
  unfold fn_X8_judges
  obtain ⟨N, hN⟩ := h0.1
  refine mm_iload_n 1 rfl dX8_judges_0 rfl 2 rfl ?_
  refine mm_bipush 3 rfl (v := (-4)) dX8_judges_1 (by decide) ?_
  refine mm_icmp_eq 6 24 rfl dX8_judges_3 (by decide) (fun h_1 => ?_) (fun h_1 => ?_)
  · exact mm_vret dX8_judges_24 rfl rfl
  · refine mm_iload_n 7 rfl dX8_judges_6 rfl 2 rfl ?_
    refine mm_aload_n 8 rfl dX8_judges_7 rfl 0 rfl ?_
    refine gt_X8_235 11 rfl dX8_judges_8 hN ?_
    refine mm_icmp_ge 14 24 rfl dX8_judges_11 (by decide) (fun h_2 => ?_) (fun h_2 => ?_)
    · exact mm_vret dX8_judges_24 rfl rfl
    · refine mm_aload_n 15 rfl dX8_judges_14 rfl 0 rfl ?_
      refine mm_iload_n 16 rfl dX8_judges_15 rfl 1 rfl ?_
      refine pt_X8_231 19 rfl dX8_judges_16 hN ?_
      refine mm_bM (fun M_3 => ?_)
      refine mm_aload_n 20 rfl dX8_judges_19 rfl 0 rfl ?_
      refine mm_iload_n 21 rfl dX8_judges_20 rfl 2 rfl ?_
      refine pt_X8_235 24 rfl dX8_judges_21 hN ?_
      refine mm_bM (fun M_4 => ?_)
      exact mm_vret dX8_judges_24 rfl rfl

-- MangleLineModel.judged(I)I
noncomputable def fn_X8_judged (c1 : Int32) (M : mm_M) : Option (Int32 × mm_M) :=
  (if (M 0 16) = (-4) then some ((-4), M) else (if c1 = 0 then some ((M 0 16), M) else some ((M 0 17), M)))
set_option maxRecDepth 20000 in
set_option maxHeartbeats 4000000 in
theorem ct_X8_judged {l : Launch} {G : mm_G} {sh : mm_S} {M : mm_M} (c1 : Int32) (h0 : mm_isMod G sh) : mm_K l G yX8_judged (cX8_judged, 2, RX8, (some .int), 1) [.ref (mm_ad G 0), .int c1] (mm_fi sh) sh M (fn_X8_judged c1 M) := by
  refine mm_met (by decide +kernel) rfl (Nat.le_of_ble_eq_true rfl) (fun X hX => ?_)
  subst hX
  show mm_T X G (cX8_judged, 2, RX8, (some .int), 1) (mm_fi sh) sh M 0 [(0, .ref (mm_ad G 0)), (1, .int c1)] [] (fn_X8_judged c1 M)
  unfold fn_X8_judged
  obtain ⟨N, hN⟩ := h0.1
  refine mm_aload_n 1 rfl dX8_judged_0 rfl 0 rfl ?_
  refine gt_X8_231 4 rfl dX8_judged_1 hN ?_
  refine mm_bipush 6 rfl (v := (-4)) dX8_judged_4 (by decide) ?_
  refine mm_icmp_ne 9 14 rfl dX8_judged_6 (by decide) (fun h_1 => ?_) (fun h_1 => ?_)
  · refine mm_iload_n 15 rfl dX8_judged_14 rfl 1 rfl ?_
    refine mm_if_ne 18 25 rfl dX8_judged_15 (by decide) (fun h_2 => ?_) (fun h_2 => ?_)
    · refine mm_aload_n 26 rfl dX8_judged_25 rfl 0 rfl ?_
      refine gt_X8_235 29 rfl dX8_judged_26 hN ?_
      exact mm_iret dX8_judged_29 rfl rfl
    · refine mm_aload_n 19 rfl dX8_judged_18 rfl 0 rfl ?_
      refine gt_X8_231 22 rfl dX8_judged_19 hN ?_
      refine mm_goto 29 dX8_judged_22 (by decide) ?_
      exact mm_iret dX8_judged_29 rfl rfl
  · refine mm_bipush 11 rfl (v := (-4)) dX8_judged_9 (by decide) ?_
    refine mm_goto 29 dX8_judged_11 (by decide) ?_
    exact mm_iret dX8_judged_29 rfl rfl

-- MangleLineModel.batch(I)I
noncomputable def fn_X8_batch_L17 (c1 : Int32) (k : mm_M → Option (Int32 × mm_M)) : Nat → Int32 → mm_M → Option (Int32 × mm_M)
  | 0, _, _ => none
  | n + 1, x2, M => (if 6 < x2 then k  M else ((fn_X8_starts  M).bind fun z_5 => mm_let (mm_up z_5 2 26 x2) fun M_6 => ((fn_X8_daysTo  M_6).bind fun z_7 => ((fn_X8_judges x2 z_7.1 z_7.2).bind fun z_8 => fn_X8_batch_L17 c1 k n (x2 + 1) z_8))))
set_option maxRecDepth 20000 in
set_option maxHeartbeats 4000000 in
theorem th_X8_batch_L17 {X : mm_X} {G : mm_G} {sh : mm_S} {c1 : Int32} {k : mm_M → Option (Int32 × mm_M)} (h0 : mm_isMod G sh) (hk : ∀ (M : mm_M), mm_T X G (cX8_batch, 3, RX8, (some .int), 7) (mm_fi sh) sh M 50 [(0, .ref (mm_ad G 0)), (1, .int c1)] [] (k  M)) : ∀ (n : Nat) (x2 : Int32) (M : mm_M), mm_T X G (cX8_batch, 3, RX8, (some .int), 7) (mm_fi sh) sh M 17 [(0, .ref (mm_ad G 0)), (1, .int c1), (2, .int x2)] [] (fn_X8_batch_L17 c1 k n x2 M) := by
  intro n
  induction n with
  | zero => intro x2 M; exact mm_none
  | succ n ih =>
    intro x2 M
    rw [fn_X8_batch_L17]
    obtain ⟨N, hN⟩ := h0.1
    refine mm_iload_n 18 rfl dX8_batch_17 rfl 2 rfl ?_
    refine mm_bipush 20 rfl (v := 6) dX8_batch_18 (by decide) ?_
    refine mm_icmp_gt 23 50 rfl dX8_batch_20 (by decide) (fun h_4 => ?_) (fun h_4 => ?_)
    · exact mm_lv [0, 1] rfl (hk _)
    · refine mm_aload_n 24 rfl dX8_batch_23 rfl 0 rfl ?_
      refine ca_X8_183 27 rfl dX8_batch_24 hN (ct_X8_starts  h0) (by decide) (Nat.le_of_ble_eq_true rfl) (fun z_5 => ?_)
      refine mm_aload_n 28 rfl dX8_batch_27 rfl 0 rfl ?_
      refine gt_X8_13 31 rfl dX8_batch_28 hN ?_
      refine mm_bipush 33 rfl (v := 26) dX8_batch_31 (by decide) ?_
      refine mm_iload_n 34 rfl dX8_batch_33 rfl 2 rfl ?_
      refine mm_iastK 35 rfl dX8_batch_34 h0.2.2.1 (by decide) 26 (by decide) ?_
      refine mm_bM (fun M_6 => ?_)
      refine mm_aload_n 36 rfl dX8_batch_35 rfl 0 rfl ?_
      refine mm_iload_n 37 rfl dX8_batch_36 rfl 2 rfl ?_
      refine mm_aload_n 38 rfl dX8_batch_37 rfl 0 rfl ?_
      refine ca_X8_225 41 rfl dX8_batch_38 hN (ct_X8_daysTo  h0) (by decide) (Nat.le_of_ble_eq_true rfl) (fun z_7 => ?_)
      refine ca_X8_244 44 rfl dX8_batch_41 hN (ct_X8_judges x2 z_7.1 h0) (by decide) (Nat.le_of_ble_eq_true rfl) (fun z_8 => ?_)
      refine mm_iinc 47 rfl dX8_batch_44 2 rfl (v := (x2 + 1)) rfl (lv' := [(2, .int (x2 + 1)), (0, .ref (mm_ad G 0)), (1, .int c1)]) (by decide) rfl ?_
      refine mm_goto 17 dX8_batch_47 (by decide) ?_
      exact mm_lv [1, 2, 0] rfl (ih _ _)
noncomputable def fn_X8_batch (c1 : Int32) (M : mm_M) : Option (Int32 × mm_M) :=
  ((fn_X8_isPart c1 M).bind fun z_1 => (if z_1.1 = 0 then some ((-1), z_1.2) else ((fn_X8_startsJudging (-4) z_1.2).bind fun z_3 => fn_X8_batch_L17 c1 (fun M_9 => ((fn_X8_judged c1 M_9).bind fun z_11 => some (z_11.1, z_11.2))) mm_fu 1 z_3)))
set_option maxRecDepth 20000 in
set_option maxHeartbeats 4000000 in
theorem ct_X8_batch {l : Launch} {G : mm_G} {sh : mm_S} {M : mm_M} (c1 : Int32) (h0 : mm_isMod G sh) : mm_K l G yX8_batch (cX8_batch, 3, RX8, (some .int), 7) [.ref (mm_ad G 0), .int c1] (mm_fi sh) sh M (fn_X8_batch c1 M) := by
  refine mm_met (by decide +kernel) rfl (Nat.le_of_ble_eq_true rfl) (fun X hX => ?_)
  subst hX
  show mm_T X G (cX8_batch, 3, RX8, (some .int), 7) (mm_fi sh) sh M 0 [(0, .ref (mm_ad G 0)), (1, .int c1)] [] (fn_X8_batch c1 M)
  unfold fn_X8_batch
  obtain ⟨N, hN⟩ := h0.1
  refine mm_iload_n 1 rfl dX8_batch_0 rfl 1 rfl ?_
  refine ca_X8_238 4 rfl dX8_batch_1 (ct_X8_isPart c1 ) (by decide) (Nat.le_of_ble_eq_true rfl) (fun z_1 => ?_)
  refine mm_if_ne 7 9 rfl dX8_batch_4 (by decide) (fun h_2 => ?_) (fun h_2 => ?_)
  · refine mm_aload_n 10 rfl dX8_batch_9 rfl 0 rfl ?_
    refine mm_bipush 12 rfl (v := (-4)) dX8_batch_10 (by decide) ?_
    refine ca_X8_241 15 rfl dX8_batch_12 hN (ct_X8_startsJudging (-4) h0) (by decide) (Nat.le_of_ble_eq_true rfl) (fun z_3 => ?_)
    refine mm_iconst 16 rfl (v := 1) dX8_batch_15 (by decide) ?_
    refine mm_istore_n 17 rfl dX8_batch_16 rfl (lv' := [(2, .int 1), (0, .ref (mm_ad G 0)), (1, .int c1)]) (by decide) rfl ?_
    refine mm_lv [1, 2, 0] rfl (th_X8_batch_L17 h0 (fun M_9 => ?_) mm_fu _ _)
    refine mm_aload_n 51 rfl dX8_batch_50 rfl 0 rfl ?_
    refine mm_iload_n 52 rfl dX8_batch_51 rfl 1 rfl ?_
    refine ca_X8_247 55 rfl dX8_batch_52 hN (ct_X8_judged c1 h0) (by decide) (Nat.le_of_ble_eq_true rfl) (fun z_11 => ?_)
    exact mm_iret dX8_batch_55 rfl rfl
  · refine mm_iconst 8 rfl (v := (-1)) dX8_batch_7 (by decide) ?_
    exact mm_iret dX8_batch_8 rfl rfl

-- MangleLineModel.swap(I)I
noncomputable def fn_X8_swap_L56 (c1 : Int32) (c2 : Int32) (c3 : Int32) (k : mm_M → Option (Int32 × mm_M)) : Nat → Int32 → mm_M → Option (Int32 × mm_M)
  | 0, _, _ => none
  | n + 1, x4, M => (if 4 ≤ x4 then k  M else (if mm_in ((4 * c3) + x4) 171 then (if mm_in ((4 * c2) + x4) 57 then (mm_let (mm_up M 2 ((4 * c2) + x4).toNatClampNeg (M 1 ((4 * c3) + x4).toNatClampNeg)) fun M_12 => (if mm_in ((4 * c2) + x4) 171 then (if mm_in ((4 * c3) + x4) 57 then (mm_let (mm_up M_12 2 ((4 * c3) + x4).toNatClampNeg (M_12 1 ((4 * c2) + x4).toNatClampNeg)) fun M_15 => fn_X8_swap_L56 c1 c2 c3 k n (x4 + 1) M_15) else none) else none)) else none) else none))
set_option maxRecDepth 20000 in
set_option maxHeartbeats 4000000 in
theorem th_X8_swap_L56 {X : mm_X} {G : mm_G} {sh : mm_S} {c1 : Int32} {c2 : Int32} {c3 : Int32} {k : mm_M → Option (Int32 × mm_M)} (h0 : mm_isMod G sh) (hk : ∀ (M : mm_M), mm_T X G (cX8_swap, 5, RX8, (some .int), 7) (mm_fi sh) sh M 112 [(0, .ref (mm_ad G 0)), (1, .int c1), (2, .int c2), (3, .int c3)] [] (k  M)) : ∀ (n : Nat) (x4 : Int32) (M : mm_M), mm_T X G (cX8_swap, 5, RX8, (some .int), 7) (mm_fi sh) sh M 56 [(0, .ref (mm_ad G 0)), (1, .int c1), (2, .int c2), (3, .int c3), (4, .int x4)] [] (fn_X8_swap_L56 c1 c2 c3 k n x4 M) := by
  intro n
  induction n with
  | zero => intro x4 M; exact mm_none
  | succ n ih =>
    intro x4 M
    rw [fn_X8_swap_L56]
    obtain ⟨N, hN⟩ := h0.1
    refine mm_iload 58 rfl dX8_swap_56 4 rfl ?_
    refine mm_iconst 59 rfl (v := 4) dX8_swap_58 (by decide) ?_
    refine mm_icmp_ge 62 112 rfl dX8_swap_59 (by decide) (fun h_10 => ?_) (fun h_10 => ?_)
    · exact mm_lv [0, 1, 2, 3] rfl (hk _)
    · refine mm_aload_n 63 rfl dX8_swap_62 rfl 0 rfl ?_
      refine gt_X8_13 66 rfl dX8_swap_63 hN ?_
      refine mm_iconst 67 rfl (v := 4) dX8_swap_66 (by decide) ?_
      refine mm_iload_n 68 rfl dX8_swap_67 rfl 2 rfl ?_
      refine mm_imul 69 rfl dX8_swap_68 ?_
      refine mm_iload 71 rfl dX8_swap_69 4 rfl ?_
      refine mm_iadd 72 rfl dX8_swap_71 ?_
      refine mm_aload_n 73 rfl dX8_swap_72 rfl 0 rfl ?_
      refine gt_X8_7 76 rfl dX8_swap_73 hN ?_
      refine mm_iconst 77 rfl (v := 4) dX8_swap_76 (by decide) ?_
      refine mm_iload_n 78 rfl dX8_swap_77 rfl 3 rfl ?_
      refine mm_imul 79 rfl dX8_swap_78 ?_
      refine mm_iload 81 rfl dX8_swap_79 4 rfl ?_
      refine mm_iadd 82 rfl dX8_swap_81 ?_
      refine mm_iald 83 rfl dX8_swap_82 h0.2.1 (fun h_11 => ?_)
      refine mm_iast 84 rfl dX8_swap_83 h0.2.2.1 (fun h_13 => ?_)
      refine mm_bM (fun M_12 => ?_)
      refine mm_aload_n 85 rfl dX8_swap_84 rfl 0 rfl ?_
      refine gt_X8_13 88 rfl dX8_swap_85 hN ?_
      refine mm_iconst 89 rfl (v := 4) dX8_swap_88 (by decide) ?_
      refine mm_iload_n 90 rfl dX8_swap_89 rfl 3 rfl ?_
      refine mm_imul 91 rfl dX8_swap_90 ?_
      refine mm_iload 93 rfl dX8_swap_91 4 rfl ?_
      refine mm_iadd 94 rfl dX8_swap_93 ?_
      refine mm_aload_n 95 rfl dX8_swap_94 rfl 0 rfl ?_
      refine gt_X8_7 98 rfl dX8_swap_95 hN ?_
      refine mm_iconst 99 rfl (v := 4) dX8_swap_98 (by decide) ?_
      refine mm_iload_n 100 rfl dX8_swap_99 rfl 2 rfl ?_
      refine mm_imul 101 rfl dX8_swap_100 ?_
      refine mm_iload 103 rfl dX8_swap_101 4 rfl ?_
      refine mm_iadd 104 rfl dX8_swap_103 ?_
      refine mm_iald 105 rfl dX8_swap_104 h0.2.1 (fun h_14 => ?_)
      refine mm_iast 106 rfl dX8_swap_105 h0.2.2.1 (fun h_16 => ?_)
      refine mm_bM (fun M_15 => ?_)
      refine mm_iinc 109 rfl dX8_swap_106 4 rfl (v := (x4 + 1)) rfl (lv' := [(4, .int (x4 + 1)), (0, .ref (mm_ad G 0)), (1, .int c1), (2, .int c2), (3, .int c3)]) (by decide) rfl ?_
      refine mm_goto 56 dX8_swap_109 (by decide) ?_
      exact mm_lv [1, 2, 3, 4, 0] rfl (ih _ _)
noncomputable def fn_X8_swap_L38 (c1 : Int32) (c2 : Int32) (k : mm_M → Option (Int32 × mm_M)) : Nat → Int32 → mm_M → Option (Int32 × mm_M)
  | 0, _, _ => none
  | n + 1, x3, M => (if (M 1 24) ≤ x3 then k  M else ((fn_X8_starts  M).bind fun z_9 => fn_X8_swap_L56 c1 c2 x3 (fun M_17 => ((fn_X8_daysTo  M_17).bind fun z_19 => ((fn_X8_judges ((10 * c2) + x3) z_19.1 z_19.2).bind fun z_20 => fn_X8_swap_L38 c1 c2 k n (x3 + 1) z_20))) mm_fu 0 z_9))
set_option maxRecDepth 20000 in
set_option maxHeartbeats 4000000 in
theorem th_X8_swap_L38 {X : mm_X} {G : mm_G} {sh : mm_S} {c1 : Int32} {c2 : Int32} {k : mm_M → Option (Int32 × mm_M)} (h0 : mm_isMod G sh) (hk : ∀ (M : mm_M), mm_T X G (cX8_swap, 5, RX8, (some .int), 7) (mm_fi sh) sh M 132 [(0, .ref (mm_ad G 0)), (1, .int c1), (2, .int c2)] [] (k  M)) : ∀ (n : Nat) (x3 : Int32) (M : mm_M), mm_T X G (cX8_swap, 5, RX8, (some .int), 7) (mm_fi sh) sh M 38 [(0, .ref (mm_ad G 0)), (1, .int c1), (2, .int c2), (3, .int x3)] [] (fn_X8_swap_L38 c1 c2 k n x3 M) := by
  intro n
  induction n with
  | zero => intro x3 M; exact mm_none
  | succ n ih =>
    intro x3 M
    rw [fn_X8_swap_L38]
    obtain ⟨N, hN⟩ := h0.1
    refine mm_iload_n 39 rfl dX8_swap_38 rfl 3 rfl ?_
    refine mm_aload_n 40 rfl dX8_swap_39 rfl 0 rfl ?_
    refine gt_X8_7 43 rfl dX8_swap_40 hN ?_
    refine mm_bipush 45 rfl (v := 24) dX8_swap_43 (by decide) ?_
    refine mm_ialdK 46 rfl dX8_swap_45 h0.2.1 (by decide) 24 (by decide) ?_
    refine mm_icmp_ge 49 132 rfl dX8_swap_46 (by decide) (fun h_8 => ?_) (fun h_8 => ?_)
    · exact mm_lv [0, 1, 2] rfl (hk _)
    · refine mm_aload_n 50 rfl dX8_swap_49 rfl 0 rfl ?_
      refine ca_X8_183 53 rfl dX8_swap_50 hN (ct_X8_starts  h0) (by decide) (Nat.le_of_ble_eq_true rfl) (fun z_9 => ?_)
      refine mm_iconst 54 rfl (v := 0) dX8_swap_53 (by decide) ?_
      refine mm_istore 56 rfl dX8_swap_54 (lv' := [(4, .int 0), (0, .ref (mm_ad G 0)), (1, .int c1), (2, .int c2), (3, .int x3)]) (by decide) rfl ?_
      refine mm_lv [1, 2, 3, 4, 0] rfl (th_X8_swap_L56 h0 (fun M_17 => ?_) mm_fu _ _)
      refine mm_aload_n 113 rfl dX8_swap_112 rfl 0 rfl ?_
      refine mm_bipush 115 rfl (v := 10) dX8_swap_113 (by decide) ?_
      refine mm_iload_n 116 rfl dX8_swap_115 rfl 2 rfl ?_
      refine mm_imul 117 rfl dX8_swap_116 ?_
      refine mm_iload_n 118 rfl dX8_swap_117 rfl 3 rfl ?_
      refine mm_iadd 119 rfl dX8_swap_118 ?_
      refine mm_aload_n 120 rfl dX8_swap_119 rfl 0 rfl ?_
      refine ca_X8_225 123 rfl dX8_swap_120 hN (ct_X8_daysTo  h0) (by decide) (Nat.le_of_ble_eq_true rfl) (fun z_19 => ?_)
      refine ca_X8_244 126 rfl dX8_swap_123 hN (ct_X8_judges ((10 * c2) + x3) z_19.1 h0) (by decide) (Nat.le_of_ble_eq_true rfl) (fun z_20 => ?_)
      refine mm_iinc 129 rfl dX8_swap_126 3 rfl (v := (x3 + 1)) rfl (lv' := [(3, .int (x3 + 1)), (0, .ref (mm_ad G 0)), (1, .int c1), (2, .int c2)]) (by decide) rfl ?_
      refine mm_goto 38 dX8_swap_129 (by decide) ?_
      exact mm_lv [1, 2, 3, 0] rfl (ih _ _)
noncomputable def fn_X8_swap_L23 (c1 : Int32) (k : mm_M → Option (Int32 × mm_M)) : Nat → Int32 → mm_M → Option (Int32 × mm_M)
  | 0, _, _ => none
  | n + 1, x2, M => (if (M 1 24) ≤ x2 then k  M else mm_let (x2 + 1) fun x3_7 => fn_X8_swap_L38 c1 x2 (fun M_21 => fn_X8_swap_L23 c1 k n (x2 + 1) M_21) mm_fu x3_7 M)
set_option maxRecDepth 20000 in
set_option maxHeartbeats 4000000 in
theorem th_X8_swap_L23 {X : mm_X} {G : mm_G} {sh : mm_S} {c1 : Int32} {k : mm_M → Option (Int32 × mm_M)} (h0 : mm_isMod G sh) (hk : ∀ (M : mm_M), mm_T X G (cX8_swap, 5, RX8, (some .int), 7) (mm_fi sh) sh M 138 [(0, .ref (mm_ad G 0)), (1, .int c1)] [] (k  M)) : ∀ (n : Nat) (x2 : Int32) (M : mm_M), mm_T X G (cX8_swap, 5, RX8, (some .int), 7) (mm_fi sh) sh M 23 [(0, .ref (mm_ad G 0)), (1, .int c1), (2, .int x2)] [] (fn_X8_swap_L23 c1 k n x2 M) := by
  intro n
  induction n with
  | zero => intro x2 M; exact mm_none
  | succ n ih =>
    intro x2 M
    rw [fn_X8_swap_L23]
    obtain ⟨N, hN⟩ := h0.1
    refine mm_iload_n 24 rfl dX8_swap_23 rfl 2 rfl ?_
    refine mm_aload_n 25 rfl dX8_swap_24 rfl 0 rfl ?_
    refine gt_X8_7 28 rfl dX8_swap_25 hN ?_
    refine mm_bipush 30 rfl (v := 24) dX8_swap_28 (by decide) ?_
    refine mm_ialdK 31 rfl dX8_swap_30 h0.2.1 (by decide) 24 (by decide) ?_
    refine mm_icmp_ge 34 138 rfl dX8_swap_31 (by decide) (fun h_6 => ?_) (fun h_6 => ?_)
    · exact mm_lv [0, 1] rfl (hk _)
    · refine mm_iload_n 35 rfl dX8_swap_34 rfl 2 rfl ?_
      refine mm_iconst 36 rfl (v := 1) dX8_swap_35 (by decide) ?_
      refine mm_iadd 37 rfl dX8_swap_36 ?_
      refine mm_bI (fun x3_7 => ?_)
      refine mm_istore_n 38 rfl dX8_swap_37 rfl (lv' := [(3, .int x3_7), (0, .ref (mm_ad G 0)), (1, .int c1), (2, .int x2)]) (by decide) rfl ?_
      refine mm_lv [1, 2, 3, 0] rfl (th_X8_swap_L38 h0 (fun M_21 => ?_) mm_fu _ _)
      refine mm_iinc 135 rfl dX8_swap_132 2 rfl (v := (x2 + 1)) rfl (lv' := [(2, .int (x2 + 1)), (0, .ref (mm_ad G 0)), (1, .int c1)]) (by decide) rfl ?_
      refine mm_goto 23 dX8_swap_135 (by decide) ?_
      exact mm_lv [1, 2, 0] rfl (ih _ _)
noncomputable def fn_X8_swap (c1 : Int32) (M : mm_M) : Option (Int32 × mm_M) :=
  ((fn_X8_isPart c1 M).bind fun z_1 => (if z_1.1 = 0 then some ((-1), z_1.2) else ((fn_X8_starts  z_1.2).bind fun z_3 => ((fn_X8_daysTo  z_3).bind fun z_4 => ((fn_X8_startsJudging z_4.1 z_4.2).bind fun z_5 => fn_X8_swap_L23 c1 (fun M_23 => ((fn_X8_judged c1 M_23).bind fun z_25 => some (z_25.1, z_25.2))) mm_fu 0 z_5)))))
set_option maxRecDepth 20000 in
set_option maxHeartbeats 4000000 in
theorem ct_X8_swap {l : Launch} {G : mm_G} {sh : mm_S} {M : mm_M} (c1 : Int32) (h0 : mm_isMod G sh) : mm_K l G yX8_swap (cX8_swap, 5, RX8, (some .int), 7) [.ref (mm_ad G 0), .int c1] (mm_fi sh) sh M (fn_X8_swap c1 M) := by
  refine mm_met (by decide +kernel) rfl (Nat.le_of_ble_eq_true rfl) (fun X hX => ?_)
  subst hX
  show mm_T X G (cX8_swap, 5, RX8, (some .int), 7) (mm_fi sh) sh M 0 [(0, .ref (mm_ad G 0)), (1, .int c1)] [] (fn_X8_swap c1 M)
  unfold fn_X8_swap
  obtain ⟨N, hN⟩ := h0.1
  refine mm_iload_n 1 rfl dX8_swap_0 rfl 1 rfl ?_
  refine ca_X8_238 4 rfl dX8_swap_1 (ct_X8_isPart c1 ) (by decide) (Nat.le_of_ble_eq_true rfl) (fun z_1 => ?_)
  refine mm_if_ne 7 9 rfl dX8_swap_4 (by decide) (fun h_2 => ?_) (fun h_2 => ?_)
  · refine mm_aload_n 10 rfl dX8_swap_9 rfl 0 rfl ?_
    refine ca_X8_183 13 rfl dX8_swap_10 hN (ct_X8_starts  h0) (by decide) (Nat.le_of_ble_eq_true rfl) (fun z_3 => ?_)
    refine mm_aload_n 14 rfl dX8_swap_13 rfl 0 rfl ?_
    refine mm_aload_n 15 rfl dX8_swap_14 rfl 0 rfl ?_
    refine ca_X8_225 18 rfl dX8_swap_15 hN (ct_X8_daysTo  h0) (by decide) (Nat.le_of_ble_eq_true rfl) (fun z_4 => ?_)
    refine ca_X8_241 21 rfl dX8_swap_18 hN (ct_X8_startsJudging z_4.1 h0) (by decide) (Nat.le_of_ble_eq_true rfl) (fun z_5 => ?_)
    refine mm_iconst 22 rfl (v := 0) dX8_swap_21 (by decide) ?_
    refine mm_istore_n 23 rfl dX8_swap_22 rfl (lv' := [(2, .int 0), (0, .ref (mm_ad G 0)), (1, .int c1)]) (by decide) rfl ?_
    refine mm_lv [1, 2, 0] rfl (th_X8_swap_L23 h0 (fun M_23 => ?_) mm_fu _ _)
    refine mm_aload_n 139 rfl dX8_swap_138 rfl 0 rfl ?_
    refine mm_iload_n 140 rfl dX8_swap_139 rfl 1 rfl ?_
    refine ca_X8_247 143 rfl dX8_swap_140 hN (ct_X8_judged c1 h0) (by decide) (Nat.le_of_ble_eq_true rfl) (fun z_25 => ?_)
    exact mm_iret dX8_swap_143 rfl rfl
  · refine mm_iconst 8 rfl (v := (-1)) dX8_swap_7 (by decide) ?_
    exact mm_iret dX8_swap_8 rfl rfl

-- MangleLineModel.fair(I)I
noncomputable def fn_X8_fair_L23 (c1 : Int32) (k : mm_M → Option (Int32 × mm_M)) : Nat → Int32 → mm_M → Option (Int32 × mm_M)
  | 0, _, _ => none
  | n + 1, x2, M => (if 7 ≤ x2 then k  M else ((fn_X8_starts  M).bind fun z_7 => (if mm_in (30 + x2) 57 then (mm_let (mm_up z_7 2 (30 + x2).toNatClampNeg 9) fun M_8 => ((fn_X8_daysTo  M_8).bind fun z_10 => ((fn_X8_judges x2 z_10.1 z_10.2).bind fun z_11 => fn_X8_fair_L23 c1 k n (x2 + 1) z_11))) else none)))
set_option maxRecDepth 20000 in
set_option maxHeartbeats 4000000 in
theorem th_X8_fair_L23 {X : mm_X} {G : mm_G} {sh : mm_S} {c1 : Int32} {k : mm_M → Option (Int32 × mm_M)} (h0 : mm_isMod G sh) (hk : ∀ (M : mm_M), mm_T X G (cX8_fair, 3, RX8, (some .int), 7) (mm_fi sh) sh M 59 [(0, .ref (mm_ad G 0)), (1, .int c1)] [] (k  M)) : ∀ (n : Nat) (x2 : Int32) (M : mm_M), mm_T X G (cX8_fair, 3, RX8, (some .int), 7) (mm_fi sh) sh M 23 [(0, .ref (mm_ad G 0)), (1, .int c1), (2, .int x2)] [] (fn_X8_fair_L23 c1 k n x2 M) := by
  intro n
  induction n with
  | zero => intro x2 M; exact mm_none
  | succ n ih =>
    intro x2 M
    rw [fn_X8_fair_L23]
    obtain ⟨N, hN⟩ := h0.1
    refine mm_iload_n 24 rfl dX8_fair_23 rfl 2 rfl ?_
    refine mm_bipush 26 rfl (v := 7) dX8_fair_24 (by decide) ?_
    refine mm_icmp_ge 29 59 rfl dX8_fair_26 (by decide) (fun h_6 => ?_) (fun h_6 => ?_)
    · exact mm_lv [0, 1] rfl (hk _)
    · refine mm_aload_n 30 rfl dX8_fair_29 rfl 0 rfl ?_
      refine ca_X8_183 33 rfl dX8_fair_30 hN (ct_X8_starts  h0) (by decide) (Nat.le_of_ble_eq_true rfl) (fun z_7 => ?_)
      refine mm_aload_n 34 rfl dX8_fair_33 rfl 0 rfl ?_
      refine gt_X8_13 37 rfl dX8_fair_34 hN ?_
      refine mm_bipush 39 rfl (v := 30) dX8_fair_37 (by decide) ?_
      refine mm_iload_n 40 rfl dX8_fair_39 rfl 2 rfl ?_
      refine mm_iadd 41 rfl dX8_fair_40 ?_
      refine mm_bipush 43 rfl (v := 9) dX8_fair_41 (by decide) ?_
      refine mm_iast 44 rfl dX8_fair_43 h0.2.2.1 (fun h_9 => ?_)
      refine mm_bM (fun M_8 => ?_)
      refine mm_aload_n 45 rfl dX8_fair_44 rfl 0 rfl ?_
      refine mm_iload_n 46 rfl dX8_fair_45 rfl 2 rfl ?_
      refine mm_aload_n 47 rfl dX8_fair_46 rfl 0 rfl ?_
      refine ca_X8_225 50 rfl dX8_fair_47 hN (ct_X8_daysTo  h0) (by decide) (Nat.le_of_ble_eq_true rfl) (fun z_10 => ?_)
      refine ca_X8_244 53 rfl dX8_fair_50 hN (ct_X8_judges x2 z_10.1 h0) (by decide) (Nat.le_of_ble_eq_true rfl) (fun z_11 => ?_)
      refine mm_iinc 56 rfl dX8_fair_53 2 rfl (v := (x2 + 1)) rfl (lv' := [(2, .int (x2 + 1)), (0, .ref (mm_ad G 0)), (1, .int c1)]) (by decide) rfl ?_
      refine mm_goto 23 dX8_fair_56 (by decide) ?_
      exact mm_lv [1, 2, 0] rfl (ih _ _)
noncomputable def fn_X8_fair (c1 : Int32) (M : mm_M) : Option (Int32 × mm_M) :=
  ((fn_X8_isPart c1 M).bind fun z_1 => (if z_1.1 = 0 then some ((-1), z_1.2) else ((fn_X8_starts  z_1.2).bind fun z_3 => ((fn_X8_daysTo  z_3).bind fun z_4 => ((fn_X8_startsJudging z_4.1 z_4.2).bind fun z_5 => fn_X8_fair_L23 c1 (fun M_12 => ((fn_X8_judged c1 M_12).bind fun z_14 => some (z_14.1, z_14.2))) mm_fu 0 z_5)))))
set_option maxRecDepth 20000 in
set_option maxHeartbeats 4000000 in
theorem ct_X8_fair {l : Launch} {G : mm_G} {sh : mm_S} {M : mm_M} (c1 : Int32) (h0 : mm_isMod G sh) : mm_K l G yX8_fair (cX8_fair, 3, RX8, (some .int), 7) [.ref (mm_ad G 0), .int c1] (mm_fi sh) sh M (fn_X8_fair c1 M) := by
  refine mm_met (by decide +kernel) rfl (Nat.le_of_ble_eq_true rfl) (fun X hX => ?_)
  subst hX
  show mm_T X G (cX8_fair, 3, RX8, (some .int), 7) (mm_fi sh) sh M 0 [(0, .ref (mm_ad G 0)), (1, .int c1)] [] (fn_X8_fair c1 M)
  unfold fn_X8_fair
  obtain ⟨N, hN⟩ := h0.1
  refine mm_iload_n 1 rfl dX8_fair_0 rfl 1 rfl ?_
  refine ca_X8_238 4 rfl dX8_fair_1 (ct_X8_isPart c1 ) (by decide) (Nat.le_of_ble_eq_true rfl) (fun z_1 => ?_)
  refine mm_if_ne 7 9 rfl dX8_fair_4 (by decide) (fun h_2 => ?_) (fun h_2 => ?_)
  · refine mm_aload_n 10 rfl dX8_fair_9 rfl 0 rfl ?_
    refine ca_X8_183 13 rfl dX8_fair_10 hN (ct_X8_starts  h0) (by decide) (Nat.le_of_ble_eq_true rfl) (fun z_3 => ?_)
    refine mm_aload_n 14 rfl dX8_fair_13 rfl 0 rfl ?_
    refine mm_aload_n 15 rfl dX8_fair_14 rfl 0 rfl ?_
    refine ca_X8_225 18 rfl dX8_fair_15 hN (ct_X8_daysTo  h0) (by decide) (Nat.le_of_ble_eq_true rfl) (fun z_4 => ?_)
    refine ca_X8_241 21 rfl dX8_fair_18 hN (ct_X8_startsJudging z_4.1 h0) (by decide) (Nat.le_of_ble_eq_true rfl) (fun z_5 => ?_)
    refine mm_iconst 22 rfl (v := 0) dX8_fair_21 (by decide) ?_
    refine mm_istore_n 23 rfl dX8_fair_22 rfl (lv' := [(2, .int 0), (0, .ref (mm_ad G 0)), (1, .int c1)]) (by decide) rfl ?_
    refine mm_lv [1, 2, 0] rfl (th_X8_fair_L23 h0 (fun M_12 => ?_) mm_fu _ _)
    refine mm_aload_n 60 rfl dX8_fair_59 rfl 0 rfl ?_
    refine mm_iload_n 61 rfl dX8_fair_60 rfl 1 rfl ?_
    refine ca_X8_247 64 rfl dX8_fair_61 hN (ct_X8_judged c1 h0) (by decide) (Nat.le_of_ble_eq_true rfl) (fun z_14 => ?_)
    exact mm_iret dX8_fair_64 rfl rfl
  · refine mm_iconst 8 rfl (v := (-1)) dX8_fair_7 (by decide) ?_
    exact mm_iret dX8_fair_8 rfl rfl

-- MangleLineModel.stain(II)I
noncomputable def fn_X8_stain_L20 (c1 : Int32) (c2 : Int32) (k0 : Int32 → mm_M → Option (Int32 × mm_M)) (k1 : mm_M → Option (Int32 × mm_M)) : Nat → Int32 → mm_M → Option (Int32 × mm_M)
  | 0, _, _ => none
  | n + 1, x3, M => (if x3 < 0 then k1  M else ((fn_X8_starts  M).bind fun z_6 => ((fn_X8_becomesOf c1 1 x3 z_6).bind fun z_7 => ((fn_X8_daysGo c2 z_7).bind fun z_8 => ((fn_X8_of c1 3 z_8).bind fun z_9 => (if z_9.1 = 2 then k0 x3 z_9.2 else fn_X8_stain_L20 c1 c2 k0 k1 n (x3 + (-1)) z_9.2))))))
set_option maxRecDepth 20000 in
set_option maxHeartbeats 4000000 in
theorem th_X8_stain_L20 {X : mm_X} {G : mm_G} {sh : mm_S} {c1 : Int32} {c2 : Int32} {k0 : Int32 → mm_M → Option (Int32 × mm_M)} {k1 : mm_M → Option (Int32 × mm_M)} (h0 : mm_isMod G sh) (hk0 : ∀ (x3 : Int32) (M : mm_M), mm_T X G (cX8_stain, 4, RX8, (some .int), 6) (mm_fi sh) sh M 50 [(3, .int x3)] [] (k0 x3 M)) (hk1 : ∀ (M : mm_M), mm_T X G (cX8_stain, 4, RX8, (some .int), 6) (mm_fi sh) sh M 58 [] [] (k1  M)) : ∀ (n : Nat) (x3 : Int32) (M : mm_M), mm_T X G (cX8_stain, 4, RX8, (some .int), 6) (mm_fi sh) sh M 20 [(0, .ref (mm_ad G 0)), (1, .int c1), (2, .int c2), (3, .int x3)] [] (fn_X8_stain_L20 c1 c2 k0 k1 n x3 M) := by
  intro n
  induction n with
  | zero => intro x3 M; exact mm_none
  | succ n ih =>
    intro x3 M
    rw [fn_X8_stain_L20]
    obtain ⟨N, hN⟩ := h0.1
    refine mm_iload_n 21 rfl dX8_stain_20 rfl 3 rfl ?_
    refine mm_if_lt 24 58 rfl dX8_stain_21 (by decide) (fun h_5 => ?_) (fun h_5 => ?_)
    · exact mm_lv [] rfl (hk1 _)
    · refine mm_aload_n 25 rfl dX8_stain_24 rfl 0 rfl ?_
      refine ca_X8_183 28 rfl dX8_stain_25 hN (ct_X8_starts  h0) (by decide) (Nat.le_of_ble_eq_true rfl) (fun z_6 => ?_)
      refine mm_aload_n 29 rfl dX8_stain_28 rfl 0 rfl ?_
      refine mm_iload_n 30 rfl dX8_stain_29 rfl 1 rfl ?_
      refine mm_iconst 31 rfl (v := 1) dX8_stain_30 (by decide) ?_
      refine mm_iload_n 32 rfl dX8_stain_31 rfl 3 rfl ?_
      refine ca_X8_160 35 rfl dX8_stain_32 hN (ct_X8_becomesOf c1 1 x3 h0) (by decide) (Nat.le_of_ble_eq_true rfl) (fun z_7 => ?_)
      refine mm_aload_n 36 rfl dX8_stain_35 rfl 0 rfl ?_
      refine mm_iload_n 37 rfl dX8_stain_36 rfl 2 rfl ?_
      refine ca_X8_210 40 rfl dX8_stain_37 hN (ct_X8_daysGo c2 h0) (by decide) (Nat.le_of_ble_eq_true rfl) (fun z_8 => ?_)
      refine mm_aload_n 41 rfl dX8_stain_40 rfl 0 rfl ?_
      refine mm_iload_n 42 rfl dX8_stain_41 rfl 1 rfl ?_
      refine mm_iconst 43 rfl (v := 3) dX8_stain_42 (by decide) ?_
      refine ca_X8_144 46 rfl dX8_stain_43 hN (ct_X8_of c1 3 h0) (by decide) (Nat.le_of_ble_eq_true rfl) (fun z_9 => ?_)
      refine mm_iconst 47 rfl (v := 2) dX8_stain_46 (by decide) ?_
      refine mm_icmp_ne 50 52 rfl dX8_stain_47 (by decide) (fun h_10 => ?_) (fun h_10 => ?_)
      · refine mm_iinc 55 rfl dX8_stain_52 3 rfl (v := (x3 + (-1))) rfl (lv' := [(3, .int (x3 + (-1))), (0, .ref (mm_ad G 0)), (1, .int c1), (2, .int c2)]) (by decide) rfl ?_
        refine mm_goto 20 dX8_stain_55 (by decide) ?_
        exact mm_lv [1, 2, 3, 0] rfl (ih _ _)
      · exact mm_lv [3] rfl (hk0 _ _)
noncomputable def fn_X8_stain (c1 : Int32) (c2 : Int32) (M : mm_M) : Option (Int32 × mm_M) :=
  ((fn_X8_isOne c1 M).bind fun z_1 => (if z_1.1 = 0 then some ((-1), z_1.2) else ((fn_X8_isFar c2 z_1.2).bind fun z_3 => (if z_3.1 = 0 then some ((-1), z_3.2) else fn_X8_stain_L20 c1 c2 (fun x3_11 M_12 => some (x3_11, M_12)) (fun M_14 => some ((-4), M_14)) mm_fu 60 z_3.2))))
set_option maxRecDepth 20000 in
set_option maxHeartbeats 4000000 in
theorem ct_X8_stain {l : Launch} {G : mm_G} {sh : mm_S} {M : mm_M} (c1 : Int32) (c2 : Int32) (h0 : mm_isMod G sh) : mm_K l G yX8_stain (cX8_stain, 4, RX8, (some .int), 6) [.ref (mm_ad G 0), .int c1, .int c2] (mm_fi sh) sh M (fn_X8_stain c1 c2 M) := by
  refine mm_met (by decide +kernel) rfl (Nat.le_of_ble_eq_true rfl) (fun X hX => ?_)
  subst hX
  show mm_T X G (cX8_stain, 4, RX8, (some .int), 6) (mm_fi sh) sh M 0 [(0, .ref (mm_ad G 0)), (1, .int c1), (2, .int c2)] [] (fn_X8_stain c1 c2 M)
  unfold fn_X8_stain
  obtain ⟨N, hN⟩ := h0.1
  refine mm_aload_n 1 rfl dX8_stain_0 rfl 0 rfl ?_
  refine mm_iload_n 2 rfl dX8_stain_1 rfl 1 rfl ?_
  refine ca_X8_191 5 rfl dX8_stain_2 hN (ct_X8_isOne c1 h0) (by decide) (Nat.le_of_ble_eq_true rfl) (fun z_1 => ?_)
  refine mm_if_eq 8 15 rfl dX8_stain_5 (by decide) (fun h_2 => ?_) (fun h_2 => ?_)
  · refine mm_iconst 16 rfl (v := (-1)) dX8_stain_15 (by decide) ?_
    exact mm_iret dX8_stain_16 rfl rfl
  · refine mm_iload_n 9 rfl dX8_stain_8 rfl 2 rfl ?_
    refine ca_X8_216 12 rfl dX8_stain_9 (ct_X8_isFar c2 ) (by decide) (Nat.le_of_ble_eq_true rfl) (fun z_3 => ?_)
    refine mm_if_ne 15 17 rfl dX8_stain_12 (by decide) (fun h_4 => ?_) (fun h_4 => ?_)
    · refine mm_bipush 19 rfl (v := 60) dX8_stain_17 (by decide) ?_
      refine mm_istore_n 20 rfl dX8_stain_19 rfl (lv' := [(3, .int 60), (0, .ref (mm_ad G 0)), (1, .int c1), (2, .int c2)]) (by decide) rfl ?_
      refine mm_lv [1, 2, 3, 0] rfl (th_X8_stain_L20 h0 (fun x3_11 M_12 => ?_) (fun M_14 => ?_) mm_fu _ _)
      · refine mm_iload_n 51 rfl dX8_stain_50 rfl 0 rfl ?_
        exact mm_iret dX8_stain_51 rfl rfl
      · refine mm_bipush 60 rfl (v := (-4)) dX8_stain_58 (by decide) ?_
        exact mm_iret dX8_stain_60 rfl rfl
    · refine mm_iconst 16 rfl (v := (-1)) dX8_stain_15 (by decide) ?_
      exact mm_iret dX8_stain_16 rfl rfl

-- MangleLineModel.kind(II)I
noncomputable def fn_X8_kind_L25 (c1 : Int32) (c2 : Int32) (k : mm_M → Option (Int32 × mm_M)) : Nat → Int32 → mm_M → Option (Int32 × mm_M)
  | 0, _, _ => none
  | n + 1, x3, M => (if 4 ≤ x3 then k  M else ((fn_X8_starts  M).bind fun z_7 => ((fn_X8_becomesOf c1 0 x3 z_7).bind fun z_8 => ((fn_X8_daysTo  z_8).bind fun z_9 => ((fn_X8_judges x3 z_9.1 z_9.2).bind fun z_10 => fn_X8_kind_L25 c1 c2 k n (x3 + 1) z_10)))))
set_option maxRecDepth 20000 in
set_option maxHeartbeats 4000000 in
theorem th_X8_kind_L25 {X : mm_X} {G : mm_G} {sh : mm_S} {c1 : Int32} {c2 : Int32} {k : mm_M → Option (Int32 × mm_M)} (h0 : mm_isMod G sh) (hk : ∀ (M : mm_M), mm_T X G (cX8_kind, 4, RX8, (some .int), 7) (mm_fi sh) sh M 56 [(0, .ref (mm_ad G 0)), (2, .int c2)] [] (k  M)) : ∀ (n : Nat) (x3 : Int32) (M : mm_M), mm_T X G (cX8_kind, 4, RX8, (some .int), 7) (mm_fi sh) sh M 25 [(0, .ref (mm_ad G 0)), (1, .int c1), (2, .int c2), (3, .int x3)] [] (fn_X8_kind_L25 c1 c2 k n x3 M) := by
  intro n
  induction n with
  | zero => intro x3 M; exact mm_none
  | succ n ih =>
    intro x3 M
    rw [fn_X8_kind_L25]
    obtain ⟨N, hN⟩ := h0.1
    refine mm_iload_n 26 rfl dX8_kind_25 rfl 3 rfl ?_
    refine mm_iconst 27 rfl (v := 4) dX8_kind_26 (by decide) ?_
    refine mm_icmp_ge 30 56 rfl dX8_kind_27 (by decide) (fun h_6 => ?_) (fun h_6 => ?_)
    · exact mm_lv [0, 2] rfl (hk _)
    · refine mm_aload_n 31 rfl dX8_kind_30 rfl 0 rfl ?_
      refine ca_X8_183 34 rfl dX8_kind_31 hN (ct_X8_starts  h0) (by decide) (Nat.le_of_ble_eq_true rfl) (fun z_7 => ?_)
      refine mm_aload_n 35 rfl dX8_kind_34 rfl 0 rfl ?_
      refine mm_iload_n 36 rfl dX8_kind_35 rfl 1 rfl ?_
      refine mm_iconst 37 rfl (v := 0) dX8_kind_36 (by decide) ?_
      refine mm_iload_n 38 rfl dX8_kind_37 rfl 3 rfl ?_
      refine ca_X8_160 41 rfl dX8_kind_38 hN (ct_X8_becomesOf c1 0 x3 h0) (by decide) (Nat.le_of_ble_eq_true rfl) (fun z_8 => ?_)
      refine mm_aload_n 42 rfl dX8_kind_41 rfl 0 rfl ?_
      refine mm_iload_n 43 rfl dX8_kind_42 rfl 3 rfl ?_
      refine mm_aload_n 44 rfl dX8_kind_43 rfl 0 rfl ?_
      refine ca_X8_225 47 rfl dX8_kind_44 hN (ct_X8_daysTo  h0) (by decide) (Nat.le_of_ble_eq_true rfl) (fun z_9 => ?_)
      refine ca_X8_244 50 rfl dX8_kind_47 hN (ct_X8_judges x3 z_9.1 h0) (by decide) (Nat.le_of_ble_eq_true rfl) (fun z_10 => ?_)
      refine mm_iinc 53 rfl dX8_kind_50 3 rfl (v := (x3 + 1)) rfl (lv' := [(3, .int (x3 + 1)), (0, .ref (mm_ad G 0)), (1, .int c1), (2, .int c2)]) (by decide) rfl ?_
      refine mm_goto 25 dX8_kind_53 (by decide) ?_
      exact mm_lv [1, 2, 3, 0] rfl (ih _ _)
noncomputable def fn_X8_kind (c1 : Int32) (c2 : Int32) (M : mm_M) : Option (Int32 × mm_M) :=
  ((fn_X8_isOne c1 M).bind fun z_1 => (if z_1.1 = 0 then some ((-1), z_1.2) else ((fn_X8_isPart c2 z_1.2).bind fun z_3 => (if z_3.1 = 0 then some ((-1), z_3.2) else ((fn_X8_startsJudging (-4) z_3.2).bind fun z_5 => fn_X8_kind_L25 c1 c2 (fun M_11 => ((fn_X8_judged c2 M_11).bind fun z_13 => some (z_13.1, z_13.2))) mm_fu 0 z_5)))))
set_option maxRecDepth 20000 in
set_option maxHeartbeats 4000000 in
theorem ct_X8_kind {l : Launch} {G : mm_G} {sh : mm_S} {M : mm_M} (c1 : Int32) (c2 : Int32) (h0 : mm_isMod G sh) : mm_K l G yX8_kind (cX8_kind, 4, RX8, (some .int), 7) [.ref (mm_ad G 0), .int c1, .int c2] (mm_fi sh) sh M (fn_X8_kind c1 c2 M) := by
  refine mm_met (by decide +kernel) rfl (Nat.le_of_ble_eq_true rfl) (fun X hX => ?_)
  subst hX
  show mm_T X G (cX8_kind, 4, RX8, (some .int), 7) (mm_fi sh) sh M 0 [(0, .ref (mm_ad G 0)), (1, .int c1), (2, .int c2)] [] (fn_X8_kind c1 c2 M)
  unfold fn_X8_kind
  obtain ⟨N, hN⟩ := h0.1
  refine mm_aload_n 1 rfl dX8_kind_0 rfl 0 rfl ?_
  refine mm_iload_n 2 rfl dX8_kind_1 rfl 1 rfl ?_
  refine ca_X8_191 5 rfl dX8_kind_2 hN (ct_X8_isOne c1 h0) (by decide) (Nat.le_of_ble_eq_true rfl) (fun z_1 => ?_)
  refine mm_if_eq 8 15 rfl dX8_kind_5 (by decide) (fun h_2 => ?_) (fun h_2 => ?_)
  · refine mm_iconst 16 rfl (v := (-1)) dX8_kind_15 (by decide) ?_
    exact mm_iret dX8_kind_16 rfl rfl
  · refine mm_iload_n 9 rfl dX8_kind_8 rfl 2 rfl ?_
    refine ca_X8_238 12 rfl dX8_kind_9 (ct_X8_isPart c2 ) (by decide) (Nat.le_of_ble_eq_true rfl) (fun z_3 => ?_)
    refine mm_if_ne 15 17 rfl dX8_kind_12 (by decide) (fun h_4 => ?_) (fun h_4 => ?_)
    · refine mm_aload_n 18 rfl dX8_kind_17 rfl 0 rfl ?_
      refine mm_bipush 20 rfl (v := (-4)) dX8_kind_18 (by decide) ?_
      refine ca_X8_241 23 rfl dX8_kind_20 hN (ct_X8_startsJudging (-4) h0) (by decide) (Nat.le_of_ble_eq_true rfl) (fun z_5 => ?_)
      refine mm_iconst 24 rfl (v := 0) dX8_kind_23 (by decide) ?_
      refine mm_istore_n 25 rfl dX8_kind_24 rfl (lv' := [(3, .int 0), (0, .ref (mm_ad G 0)), (1, .int c1), (2, .int c2)]) (by decide) rfl ?_
      refine mm_lv [1, 2, 3, 0] rfl (th_X8_kind_L25 h0 (fun M_11 => ?_) mm_fu _ _)
      refine mm_aload_n 57 rfl dX8_kind_56 rfl 0 rfl ?_
      refine mm_iload_n 58 rfl dX8_kind_57 rfl 1 rfl ?_
      refine ca_X8_247 61 rfl dX8_kind_58 hN (ct_X8_judged c2 h0) (by decide) (Nat.le_of_ble_eq_true rfl) (fun z_13 => ?_)
      exact mm_iret dX8_kind_61 rfl rfl
    · refine mm_iconst 16 rfl (v := (-1)) dX8_kind_15 (by decide) ?_
      exact mm_iret dX8_kind_16 rfl rfl

-- MangleLineModel.common(JJ)J
noncomputable def fn_X8_common_L6  (k : Int64 → mm_M → Option (Int64 × mm_M)) : Nat → Int64 → Int64 → mm_M → Option (Int64 × mm_M)
  | 0, _, _, _ => none
  | n + 1, x4, x6, M => (if (lg_cmp x6 0) = 0 then k x4 M else (if x6 = 0 then none else mm_let (x4 - x4 / x6 * x6) fun x8_2 => fn_X8_common_L6 k n x6 x8_2 M))
set_option maxRecDepth 20000 in
set_option maxHeartbeats 4000000 in
theorem th_X8_common_L6 {X : mm_X} {G : mm_G} {sh : mm_S} {k : Int64 → mm_M → Option (Int64 × mm_M)} (hk : ∀ (x4 : Int64) (M : mm_M), mm_T X G (cX8_common, 10, RX8, (some .long), 1) (mm_fl sh) sh M 31 [(4, .long x4)] [] (k x4 M)) : ∀ (n : Nat) (x4 : Int64) (x6 : Int64) (M : mm_M), mm_T X G (cX8_common, 10, RX8, (some .long), 1) (mm_fl sh) sh M 6 [(4, .long x4), (6, .long x6)] [] (fn_X8_common_L6 k n x4 x6 M) := by
  intro n
  induction n with
  | zero => intro x4 x6 M; exact mm_none
  | succ n ih =>
    intro x4 x6 M
    rw [fn_X8_common_L6]
    refine mm_lload 8 rfl dX8_common_6 1 rfl ?_
    refine mm_lconst 9 rfl (v := 0) dX8_common_8 (by decide) ?_
    refine mm_lcmp 10 rfl dX8_common_9 ?_
    refine mm_if_eq 13 31 rfl dX8_common_10 (by decide) (fun h_1 => ?_) (fun h_1 => ?_)
    · exact mm_lv [0] rfl (hk _ _)
    · refine mm_lload 15 rfl dX8_common_13 0 rfl ?_
      refine mm_lload 17 rfl dX8_common_15 1 rfl ?_
      refine mm_lremU 18 rfl dX8_common_17 (fun _ => ?_)
      refine mm_bL (fun x8_2 => ?_)
      refine mm_lstore 20 rfl dX8_common_18 (lv' := [(8, .long x8_2), (4, .long x4), (6, .long x6)]) (by decide) rfl ?_
      refine mm_lload 22 rfl dX8_common_20 2 rfl ?_
      refine mm_lstore 24 rfl dX8_common_22 (lv' := [(4, .long x6), (8, .long x8_2), (6, .long x6)]) (by decide) rfl ?_
      refine mm_lload 26 rfl dX8_common_24 1 rfl ?_
      refine mm_lstore 28 rfl dX8_common_26 (lv' := [(6, .long x8_2), (4, .long x6), (8, .long x8_2)]) (by decide) rfl ?_
      refine mm_goto 6 dX8_common_28 (by decide) ?_
      exact mm_lv [1, 0] rfl (ih _ _ _)
noncomputable def fn_X8_common (c0 : Int64) (c2 : Int64) (M : mm_M) : Option (Int64 × mm_M) :=
  fn_X8_common_L6  (fun x4_3 M_4 => some (x4_3, M_4)) mm_fu c0 c2 M
set_option maxRecDepth 20000 in
set_option maxHeartbeats 4000000 in
theorem ct_X8_common {l : Launch} {G : mm_G} {sh : mm_S} {M : mm_M} (c0 : Int64) (c2 : Int64) : mm_K l G yX8_common (cX8_common, 10, RX8, (some .long), 1) [.long c0, .long c2] (mm_fl sh) sh M (fn_X8_common c0 c2 M) := by
  refine mm_met (by decide +kernel) rfl (Nat.le_of_ble_eq_true rfl) (fun X hX => ?_)
  subst hX
  show mm_T X G (cX8_common, 10, RX8, (some .long), 1) (mm_fl sh) sh M 0 [(0, .long c0), (2, .long c2)] [] (fn_X8_common c0 c2 M)
  unfold fn_X8_common
  refine mm_lload_n 1 rfl dX8_common_0 rfl 0 rfl ?_
  refine mm_lstore 3 rfl dX8_common_1 (lv' := [(4, .long c0), (0, .long c0), (2, .long c2)]) (by decide) rfl ?_
  refine mm_lload_n 4 rfl dX8_common_3 rfl 2 rfl ?_
  refine mm_lstore 6 rfl dX8_common_4 (lv' := [(6, .long c2), (4, .long c0), (0, .long c0), (2, .long c2)]) (by decide) rfl ?_
  refine mm_lv [1, 0] rfl (th_X8_common_L6  (fun x4_3 M_4 => ?_) mm_fu _ _ _)
  refine mm_lload 33 rfl dX8_common_31 0 rfl ?_
  exact mm_lret dX8_common_33 rfl rfl

-- MangleLineModel.lowest(JJI)J
noncomputable def fn_X8_lowest (c0 : Int64) (c2 : Int64) (c4 : Int32) (M : mm_M) : Option (Int64 × mm_M) :=
  ((fn_X8_common c2 c0 M).bind fun z_1 => mm_let z_1.1 fun x5_2 => (if c4 = 0 then (if x5_2 = 0 then none else some ((c0 / x5_2), z_1.2)) else (if x5_2 = 0 then none else some ((c2 / x5_2), z_1.2))))
set_option maxRecDepth 20000 in
set_option maxHeartbeats 4000000 in
theorem ct_X8_lowest {l : Launch} {G : mm_G} {sh : mm_S} {M : mm_M} (c0 : Int64) (c2 : Int64) (c4 : Int32) : mm_K l G yX8_lowest (cX8_lowest, 7, RX8, (some .long), 2) [.long c0, .long c2, .int c4] (mm_fl sh) sh M (fn_X8_lowest c0 c2 c4 M) := by
  refine mm_met (by decide +kernel) rfl (Nat.le_of_ble_eq_true rfl) (fun X hX => ?_)
  subst hX
  show mm_T X G (cX8_lowest, 7, RX8, (some .long), 2) (mm_fl sh) sh M 0 [(0, .long c0), (2, .long c2), (4, .int c4)] [] (fn_X8_lowest c0 c2 c4 M)
  unfold fn_X8_lowest
  refine mm_lload_n 1 rfl dX8_lowest_0 rfl 1 rfl ?_
  refine mm_lload_n 2 rfl dX8_lowest_1 rfl 0 rfl ?_
  refine ca_X8_250 5 rfl dX8_lowest_2 (ct_X8_common c2 c0 ) (by decide) (Nat.le_of_ble_eq_true rfl) (fun z_1 => ?_)
  refine mm_bL (fun x5_2 => ?_)
  refine mm_lstore 7 rfl dX8_lowest_5 (lv' := [(5, .long x5_2), (0, .long c0), (2, .long c2), (4, .int c4)]) (by decide) rfl ?_
  refine mm_iload 9 rfl dX8_lowest_7 3 rfl ?_
  refine mm_if_ne 12 19 rfl dX8_lowest_9 (by decide) (fun h_3 => ?_) (fun h_3 => ?_)
  · refine mm_lload_n 20 rfl dX8_lowest_19 rfl 2 rfl ?_
    refine mm_lload 22 rfl dX8_lowest_20 0 rfl ?_
    refine mm_ldivU 23 rfl dX8_lowest_22 (fun _ => ?_)
    exact mm_lret dX8_lowest_23 rfl rfl
  · refine mm_lload_n 13 rfl dX8_lowest_12 rfl 1 rfl ?_
    refine mm_lload 15 rfl dX8_lowest_13 0 rfl ?_
    refine mm_ldivU 16 rfl dX8_lowest_15 (fun _ => ?_)
    refine mm_goto 23 dX8_lowest_16 (by decide) ?_
    exact mm_lret dX8_lowest_23 rfl rfl

-- MangleLineModel.findOdds(III)V
noncomputable def fn_X8_findOdds_L18 (c1 : Int32) (c2 : Int32) (c3 : Int32) (k : mm_M → (Nat → Int64) → Option (mm_M × (Nat → Int64))) : Nat → Int32 → mm_M → (Nat → Int64) → Option (mm_M × (Nat → Int64))
  | 0, _, _, _ => none
  | n + 1, x4, M, N => (if c3 ≤ x4 then k  M N else mm_let (vp_updL N 20 ((N 20) * 10)) fun N_5 => fn_X8_findOdds_L18 c1 c2 c3 k n (x4 + 1) M N_5)
set_option maxRecDepth 20000 in
set_option maxHeartbeats 4000000 in
theorem th_X8_findOdds_L18 {X : mm_X} {G : mm_G} {sh : mm_S} {c1 : Int32} {c2 : Int32} {c3 : Int32} {k : mm_M → (Nat → Int64) → Option (mm_M × (Nat → Int64))} (h0 : mm_isMod G sh) (hk : ∀ (M : mm_M) (N : Nat → Int64), mm_T X G (cX8_findOdds, 9, RX8, none, 5) (mm_gv G sh) (mm_sN G sh N) M 42 [(0, .ref (mm_ad G 0)), (1, .int c1), (2, .int c2), (3, .int c3)] [] (k  M N)) : ∀ (n : Nat) (x4 : Int32) (M : mm_M) (N : Nat → Int64), mm_T X G (cX8_findOdds, 9, RX8, none, 5) (mm_gv G sh) (mm_sN G sh N) M 18 [(0, .ref (mm_ad G 0)), (1, .int c1), (2, .int c2), (3, .int c3), (4, .int x4)] [] (fn_X8_findOdds_L18 c1 c2 c3 k n x4 M N) := by
  intro n
  induction n with
  | zero => intro x4 M N; exact mm_none
  | succ n ih =>
    intro x4 M N
    rw [fn_X8_findOdds_L18]
    refine mm_iload 20 rfl dX8_findOdds_18 4 rfl ?_
    refine mm_iload_n 21 rfl dX8_findOdds_20 rfl 3 rfl ?_
    refine mm_icmp_ge 24 42 rfl dX8_findOdds_21 (by decide) (fun h_4 => ?_) (fun h_4 => ?_)
    · exact mm_lv [0, 1, 2, 3] rfl (hk _ _)
    · refine mm_aload_n 25 rfl dX8_findOdds_24 rfl 0 rfl ?_
      refine mm_dup 26 rfl dX8_findOdds_25 rfl ?_
      refine mm_getl 29 rfl dX8_findOdds_26 (mm_sN0 h0 N) 20 (by decide) mw_4_96 rfl ?_
      refine mm_ldc2 32 rfl (v := 10) dX8_findOdds_29 mw_5_193 ?_
      refine mm_lmul 33 rfl dX8_findOdds_32 ?_
      refine mm_putl 36 rfl dX8_findOdds_33 h0 20 (by decide) mw_4_96 rfl (by decide +kernel) rfl ?_
      refine mm_bN (fun N_5 => ?_)
      refine mm_iinc 39 rfl dX8_findOdds_36 4 rfl (v := (x4 + 1)) rfl (lv' := [(4, .int (x4 + 1)), (0, .ref (mm_ad G 0)), (1, .int c1), (2, .int c2), (3, .int c3)]) (by decide) rfl ?_
      refine mm_goto 18 dX8_findOdds_39 (by decide) ?_
      exact mm_lv [1, 2, 3, 4, 0] rfl (ih _ _ _)
noncomputable def fn_X8_findOdds_B85 (c1 : Int32) (c2 : Int32) (c3 : Int32) (c4 : Int32) (h : Int64 → Int32 → mm_M → (Nat → Int64) → Option (mm_M × (Nat → Int64))) (k : Int64 → mm_M → (Nat → Int64) → Option (mm_M × (Nat → Int64))) (x5 : Int64) (x7 : Int32) (s0 : Int32) (M : mm_M) (N : Nat → Int64) : Option (mm_M × (Nat → Int64)) :=
  (if s0 = 0 then mm_let (x5 * (10 - c1).toInt64) fun x5_13 => ((fn_X8_sunNow  M).bind fun z_14 => ((fn_X8_dayGoesBy z_14.1 z_14.2).bind fun z_15 => h x5_13 (x7 + 1) z_15 N)) else mm_let (x5 * c1.toInt64) fun x5_16 => ((fn_X8_dayGoesBy 0 M).bind fun z_17 => h x5_16 (x7 + 1) z_17 N))
set_option maxRecDepth 20000 in
set_option maxHeartbeats 4000000 in
theorem th_X8_findOdds_B85 {X : mm_X} {G : mm_G} {sh : mm_S} {c1 : Int32} {c2 : Int32} {c3 : Int32} {c4 : Int32} {h : Int64 → Int32 → mm_M → (Nat → Int64) → Option (mm_M × (Nat → Int64))} {k : Int64 → mm_M → (Nat → Int64) → Option (mm_M × (Nat → Int64))} (h0 : mm_isMod G sh) (hh : ∀ (y5 : Int64) (y7 : Int32) (M : mm_M) (N : Nat → Int64), mm_T X G (cX8_findOdds, 9, RX8, none, 5) (mm_gv G sh) (mm_sN G sh N) M 63 [(0, .ref (mm_ad G 0)), (1, .int c1), (2, .int c2), (3, .int c3), (4, .int c4), (5, .long y5), (7, .int y7)] [] (h y5 y7 M N)) (hk : ∀ (y5 : Int64) (M : mm_M) (N : Nat → Int64), mm_T X G (cX8_findOdds, 9, RX8, none, 5) (mm_gv G sh) (mm_sN G sh N) M 130 [(0, .ref (mm_ad G 0)), (1, .int c1), (2, .int c2), (3, .int c3), (4, .int c4), (5, .long y5)] [] (k y5 M N)) (x5 : Int64) (x7 : Int32) (s0 : Int32) (M : mm_M) (N : Nat → Int64) : mm_T X G (cX8_findOdds, 9, RX8, none, 5) (mm_gv G sh) (mm_sN G sh N) M 85 [(0, .ref (mm_ad G 0)), (1, .int c1), (2, .int c2), (3, .int c3), (4, .int c4), (5, .long x5), (7, .int x7)] [.int s0] (fn_X8_findOdds_B85 c1 c2 c3 c4 h k x5 x7 s0 M N) := by
  unfold fn_X8_findOdds_B85
  refine mm_istore 87 rfl dX8_findOdds_85 (lv' := [(8, .int s0), (0, .ref (mm_ad G 0)), (1, .int c1), (2, .int c2), (3, .int c3), (4, .int c4), (5, .long x5), (7, .int x7)]) (by decide) rfl ?_
  refine mm_lload 89 rfl dX8_findOdds_87 6 rfl ?_
  refine mm_iload 91 rfl dX8_findOdds_89 0 rfl ?_
  refine mm_if_eq 94 99 rfl dX8_findOdds_91 (by decide) (fun h_12 => ?_) (fun h_12 => ?_)
  · refine mm_bipush 101 rfl (v := 10) dX8_findOdds_99 (by decide) ?_
    refine mm_iload_n 102 rfl dX8_findOdds_101 rfl 2 rfl ?_
    refine mm_isub 103 rfl dX8_findOdds_102 ?_
    refine mm_i2l 104 rfl dX8_findOdds_103 ?_
    refine mm_lmul 105 rfl dX8_findOdds_104 ?_
    refine mm_bL (fun x5_13 => ?_)
    refine mm_lstore 107 rfl dX8_findOdds_105 (lv' := [(5, .long x5_13), (8, .int s0), (0, .ref (mm_ad G 0)), (1, .int c1), (2, .int c2), (3, .int c3), (4, .int c4), (7, .int x7)]) (by decide) rfl ?_
    refine mm_aload_n 108 rfl dX8_findOdds_107 rfl 2 rfl ?_
    refine mm_iload 110 rfl dX8_findOdds_108 1 rfl ?_
    refine mm_if_eqY 117 dX8_findOdds_110 (by decide) h_12 ?_
    refine mm_aload_n 118 rfl dX8_findOdds_117 rfl 2 rfl ?_
    refine ca_X8_177 121 rfl dX8_findOdds_118 (mm_sN0 h0 N) (ct_X8_sunNow  (mm_isMN h0 N)) (by decide) (Nat.le_of_ble_eq_true rfl) (fun z_14 => ?_)
    refine ca_X8_180 124 rfl dX8_findOdds_121 (mm_sN0 h0 N) (ct_X8_dayGoesBy z_14.1 (mm_isMN h0 N)) (by decide) (Nat.le_of_ble_eq_true rfl) (fun z_15 => ?_)
    refine mm_iinc 127 rfl dX8_findOdds_124 7 rfl (v := (x7 + 1)) rfl (lv' := [(7, .int (x7 + 1)), (5, .long x5_13), (8, .int s0), (0, .ref (mm_ad G 0)), (1, .int c1), (2, .int c2), (3, .int c3), (4, .int c4)]) (by decide) rfl ?_
    refine mm_goto 63 dX8_findOdds_127 (by decide) ?_
    exact mm_lv [3, 4, 5, 6, 7, 1, 0] rfl (hh _ _ _ _)
  · refine mm_iload_n 95 rfl dX8_findOdds_94 rfl 2 rfl ?_
    refine mm_i2l 96 rfl dX8_findOdds_95 ?_
    refine mm_goto 104 dX8_findOdds_96 (by decide) ?_
    refine mm_lmul 105 rfl dX8_findOdds_104 ?_
    refine mm_bL (fun x5_16 => ?_)
    refine mm_lstore 107 rfl dX8_findOdds_105 (lv' := [(5, .long x5_16), (8, .int s0), (0, .ref (mm_ad G 0)), (1, .int c1), (2, .int c2), (3, .int c3), (4, .int c4), (7, .int x7)]) (by decide) rfl ?_
    refine mm_aload_n 108 rfl dX8_findOdds_107 rfl 2 rfl ?_
    refine mm_iload 110 rfl dX8_findOdds_108 1 rfl ?_
    refine mm_if_eqN 113 rfl 117 dX8_findOdds_110 (by decide) h_12 ?_
    refine mm_iconst 114 rfl (v := 0) dX8_findOdds_113 (by decide) ?_
    refine mm_goto 121 dX8_findOdds_114 (by decide) ?_
    refine ca_X8_180 124 rfl dX8_findOdds_121 (mm_sN0 h0 N) (ct_X8_dayGoesBy 0 (mm_isMN h0 N)) (by decide) (Nat.le_of_ble_eq_true rfl) (fun z_17 => ?_)
    refine mm_iinc 127 rfl dX8_findOdds_124 7 rfl (v := (x7 + 1)) rfl (lv' := [(7, .int (x7 + 1)), (5, .long x5_16), (8, .int s0), (0, .ref (mm_ad G 0)), (1, .int c1), (2, .int c2), (3, .int c3), (4, .int c4)]) (by decide) rfl ?_
    refine mm_goto 63 dX8_findOdds_127 (by decide) ?_
    exact mm_lv [3, 4, 5, 6, 7, 1, 0] rfl (hh _ _ _ _)
noncomputable def fn_X8_findOdds_L63 (c1 : Int32) (c2 : Int32) (c3 : Int32) (c4 : Int32) (k : Int64 → mm_M → (Nat → Int64) → Option (mm_M × (Nat → Int64))) : Nat → Int64 → Int32 → mm_M → (Nat → Int64) → Option (mm_M × (Nat → Int64))
  | 0, _, _, _, _ => none
  | n + 1, x5, x7, M, N => (if c3 ≤ x7 then k x5 M N else (if ((c4 >>> (x7 &&& 31)) &&& 1) = 1 then fn_X8_findOdds_B85 c1 c2 c3 c4 (fun y5 y7 M N => fn_X8_findOdds_L63 c1 c2 c3 c4 k n y5 y7 M N) k x5 x7 1 M N else fn_X8_findOdds_B85 c1 c2 c3 c4 (fun y5 y7 M N => fn_X8_findOdds_L63 c1 c2 c3 c4 k n y5 y7 M N) k x5 x7 0 M N))
set_option maxRecDepth 20000 in
set_option maxHeartbeats 4000000 in
theorem th_X8_findOdds_L63 {X : mm_X} {G : mm_G} {sh : mm_S} {c1 : Int32} {c2 : Int32} {c3 : Int32} {c4 : Int32} {k : Int64 → mm_M → (Nat → Int64) → Option (mm_M × (Nat → Int64))} (h0 : mm_isMod G sh) (hk : ∀ (x5 : Int64) (M : mm_M) (N : Nat → Int64), mm_T X G (cX8_findOdds, 9, RX8, none, 5) (mm_gv G sh) (mm_sN G sh N) M 130 [(0, .ref (mm_ad G 0)), (1, .int c1), (2, .int c2), (3, .int c3), (4, .int c4), (5, .long x5)] [] (k x5 M N)) : ∀ (n : Nat) (x5 : Int64) (x7 : Int32) (M : mm_M) (N : Nat → Int64), mm_T X G (cX8_findOdds, 9, RX8, none, 5) (mm_gv G sh) (mm_sN G sh N) M 63 [(0, .ref (mm_ad G 0)), (1, .int c1), (2, .int c2), (3, .int c3), (4, .int c4), (5, .long x5), (7, .int x7)] [] (fn_X8_findOdds_L63 c1 c2 c3 c4 k n x5 x7 M N) := by
  intro n
  induction n with
  | zero => intro x5 x7 M N; exact mm_none
  | succ n ih =>
    intro x5 x7 M N
    rw [fn_X8_findOdds_L63]
    refine mm_iload 65 rfl dX8_findOdds_63 6 rfl ?_
    refine mm_iload_n 66 rfl dX8_findOdds_65 rfl 3 rfl ?_
    refine mm_icmp_ge 69 130 rfl dX8_findOdds_66 (by decide) (fun h_10 => ?_) (fun h_10 => ?_)
    · exact mm_lv [0, 1, 2, 3, 4, 5] rfl (hk _ _ _)
    · refine mm_iload 71 rfl dX8_findOdds_69 4 rfl ?_
      refine mm_iload 73 rfl dX8_findOdds_71 6 rfl ?_
      refine mm_ishr 74 rfl dX8_findOdds_73 ?_
      refine mm_iconst 75 rfl (v := 1) dX8_findOdds_74 (by decide) ?_
      refine mm_iand 76 rfl dX8_findOdds_75 ?_
      refine mm_iconst 77 rfl (v := 1) dX8_findOdds_76 (by decide) ?_
      refine mm_icmp_ne 80 84 rfl dX8_findOdds_77 (by decide) (fun h_11 => ?_) (fun h_11 => ?_)
      · refine mm_iconst 85 rfl (v := 0) dX8_findOdds_84 (by decide) ?_
        exact mm_lv [0, 1, 2, 3, 4, 5, 6] rfl (th_X8_findOdds_B85 h0 ih hk _ _ _ _ _)
      · refine mm_iconst 81 rfl (v := 1) dX8_findOdds_80 (by decide) ?_
        refine mm_goto 85 dX8_findOdds_81 (by decide) ?_
        exact mm_lv [0, 1, 2, 3, 4, 5, 6] rfl (th_X8_findOdds_B85 h0 ih hk _ _ _ _ _)
noncomputable def fn_X8_findOdds_L45 (c1 : Int32) (c2 : Int32) (c3 : Int32) (k : mm_M → (Nat → Int64) → Option (mm_M × (Nat → Int64))) : Nat → Int32 → mm_M → (Nat → Int64) → Option (mm_M × (Nat → Int64))
  | 0, _, _, _ => none
  | n + 1, x4, M, N => (if (1 <<< (c3 &&& 31)) ≤ x4 then k  M N else ((fn_X8_starts  M).bind fun z_9 => fn_X8_findOdds_L63 c1 c2 c3 x4 (fun x5_18 M_19 N_20 => (if c2 = (-4) then mm_let (vp_updL N_20 18 ((N_20 18) + 0)) fun N_22 => ((fn_X8_sumOf 1 M_19).bind fun z_23 => mm_let (vp_updL N_22 19 ((N_22 19) + (x5_18 * z_23.1.toInt64))) fun N_24 => fn_X8_findOdds_L45 c1 c2 c3 k n (x4 + 1) z_23.2 N_24) else ((fn_X8_of c2 3 M_19).bind fun z_25 => (if z_25.1 = 2 then mm_let (vp_updL N_20 18 ((N_20 18) + x5_18)) fun N_30 => ((fn_X8_sumOf 1 z_25.2).bind fun z_31 => mm_let (vp_updL N_30 19 ((N_30 19) + (x5_18 * z_31.1.toInt64))) fun N_32 => fn_X8_findOdds_L45 c1 c2 c3 k n (x4 + 1) z_31.2 N_32) else mm_let (vp_updL N_20 18 ((N_20 18) + 0)) fun N_27 => ((fn_X8_sumOf 1 z_25.2).bind fun z_28 => mm_let (vp_updL N_27 19 ((N_27 19) + (x5_18 * z_28.1.toInt64))) fun N_29 => fn_X8_findOdds_L45 c1 c2 c3 k n (x4 + 1) z_28.2 N_29))))) mm_fu 1 0 z_9 N))
set_option maxRecDepth 20000 in
set_option maxHeartbeats 4000000 in
theorem th_X8_findOdds_L45 {X : mm_X} {G : mm_G} {sh : mm_S} {c1 : Int32} {c2 : Int32} {c3 : Int32} {k : mm_M → (Nat → Int64) → Option (mm_M × (Nat → Int64))} (h0 : mm_isMod G sh) (hk : ∀ (M : mm_M) (N : Nat → Int64), mm_T X G (cX8_findOdds, 9, RX8, none, 5) (mm_gv G sh) (mm_sN G sh N) M 185 [] [] (k  M N)) : ∀ (n : Nat) (x4 : Int32) (M : mm_M) (N : Nat → Int64), mm_T X G (cX8_findOdds, 9, RX8, none, 5) (mm_gv G sh) (mm_sN G sh N) M 45 [(0, .ref (mm_ad G 0)), (1, .int c1), (2, .int c2), (3, .int c3), (4, .int x4)] [] (fn_X8_findOdds_L45 c1 c2 c3 k n x4 M N) := by
  intro n
  induction n with
  | zero => intro x4 M N; exact mm_none
  | succ n ih =>
    intro x4 M N
    rw [fn_X8_findOdds_L45]
    refine mm_iload 47 rfl dX8_findOdds_45 4 rfl ?_
    refine mm_iconst 48 rfl (v := 1) dX8_findOdds_47 (by decide) ?_
    refine mm_iload_n 49 rfl dX8_findOdds_48 rfl 3 rfl ?_
    refine mm_ishl 50 rfl dX8_findOdds_49 ?_
    refine mm_icmp_ge 53 185 rfl dX8_findOdds_50 (by decide) (fun h_8 => ?_) (fun h_8 => ?_)
    · exact mm_lv [] rfl (hk _ _)
    · refine mm_lconst 54 rfl (v := 1) dX8_findOdds_53 (by decide) ?_
      refine mm_lstore 56 rfl dX8_findOdds_54 (lv' := [(5, .long 1), (0, .ref (mm_ad G 0)), (1, .int c1), (2, .int c2), (3, .int c3), (4, .int x4)]) (by decide) rfl ?_
      refine mm_aload_n 57 rfl dX8_findOdds_56 rfl 1 rfl ?_
      refine ca_X8_183 60 rfl dX8_findOdds_57 (mm_sN0 h0 N) (ct_X8_starts  (mm_isMN h0 N)) (by decide) (Nat.le_of_ble_eq_true rfl) (fun z_9 => ?_)
      refine mm_iconst 61 rfl (v := 0) dX8_findOdds_60 (by decide) ?_
      refine mm_istore 63 rfl dX8_findOdds_61 (lv' := [(7, .int 0), (5, .long 1), (0, .ref (mm_ad G 0)), (1, .int c1), (2, .int c2), (3, .int c3), (4, .int x4)]) (by decide) rfl ?_
      refine mm_lv [2, 3, 4, 5, 6, 1, 0] rfl (th_X8_findOdds_L63 h0 (fun x5_18 M_19 N_20 => ?_) mm_fu _ _ _ _)
      refine mm_aload_n 131 rfl dX8_findOdds_130 rfl 0 rfl ?_
      refine mm_dup 132 rfl dX8_findOdds_131 rfl ?_
      refine mm_getl 135 rfl dX8_findOdds_132 (mm_sN0 h0 N_20) 18 (by decide) mw_4_94 rfl ?_
      refine mm_iload_n 136 rfl dX8_findOdds_135 rfl 2 rfl ?_
      refine mm_bipush 138 rfl (v := (-4)) dX8_findOdds_136 (by decide) ?_
      refine mm_icmp_eq 141 156 rfl dX8_findOdds_138 (by decide) (fun h_21 => ?_) (fun h_21 => ?_)
      · refine mm_lconst 157 rfl (v := 0) dX8_findOdds_156 (by decide) ?_
        refine mm_ladd 158 rfl dX8_findOdds_157 ?_
        refine mm_putl 161 rfl dX8_findOdds_158 h0 18 (by decide) mw_4_94 rfl (by decide +kernel) rfl ?_
        refine mm_bN (fun N_22 => ?_)
        refine mm_aload_n 162 rfl dX8_findOdds_161 rfl 0 rfl ?_
        refine mm_dup 163 rfl dX8_findOdds_162 rfl ?_
        refine mm_getl 166 rfl dX8_findOdds_163 (mm_sN0 h0 N_22) 19 (by decide) mw_4_95 rfl ?_
        refine mm_lload 168 rfl dX8_findOdds_166 5 rfl ?_
        refine mm_aload_n 169 rfl dX8_findOdds_168 rfl 0 rfl ?_
        refine mm_iconst 170 rfl (v := 1) dX8_findOdds_169 (by decide) ?_
        refine ca_X8_186 173 rfl dX8_findOdds_170 (mm_sN0 h0 N_22) (ct_X8_sumOf 1 (mm_isMN h0 N_22)) (by decide) (Nat.le_of_ble_eq_true rfl) (fun z_23 => ?_)
        refine mm_i2l 174 rfl dX8_findOdds_173 ?_
        refine mm_lmul 175 rfl dX8_findOdds_174 ?_
        refine mm_ladd 176 rfl dX8_findOdds_175 ?_
        refine mm_putl 179 rfl dX8_findOdds_176 h0 19 (by decide) mw_4_95 rfl (by decide +kernel) rfl ?_
        refine mm_bN (fun N_24 => ?_)
        refine mm_iinc 182 rfl dX8_findOdds_179 4 rfl (v := (x4 + 1)) rfl (lv' := [(4, .int (x4 + 1)), (0, .ref (mm_ad G 0)), (1, .int c1), (2, .int c2), (3, .int c3), (5, .long x5_18)]) (by decide) rfl ?_
        refine mm_goto 45 dX8_findOdds_182 (by decide) ?_
        exact mm_lv [1, 2, 3, 4, 0] rfl (ih _ _ _)
      · refine mm_aload_n 142 rfl dX8_findOdds_141 rfl 0 rfl ?_
        refine mm_iload_n 143 rfl dX8_findOdds_142 rfl 2 rfl ?_
        refine mm_iconst 144 rfl (v := 3) dX8_findOdds_143 (by decide) ?_
        refine ca_X8_144 147 rfl dX8_findOdds_144 (mm_sN0 h0 N_20) (ct_X8_of c2 3 (mm_isMN h0 N_20)) (by decide) (Nat.le_of_ble_eq_true rfl) (fun z_25 => ?_)
        refine mm_iconst 148 rfl (v := 2) dX8_findOdds_147 (by decide) ?_
        refine mm_icmp_ne 151 156 rfl dX8_findOdds_148 (by decide) (fun h_26 => ?_) (fun h_26 => ?_)
        · refine mm_lconst 157 rfl (v := 0) dX8_findOdds_156 (by decide) ?_
          refine mm_ladd 158 rfl dX8_findOdds_157 ?_
          refine mm_putl 161 rfl dX8_findOdds_158 h0 18 (by decide) mw_4_94 rfl (by decide +kernel) rfl ?_
          refine mm_bN (fun N_27 => ?_)
          refine mm_aload_n 162 rfl dX8_findOdds_161 rfl 0 rfl ?_
          refine mm_dup 163 rfl dX8_findOdds_162 rfl ?_
          refine mm_getl 166 rfl dX8_findOdds_163 (mm_sN0 h0 N_27) 19 (by decide) mw_4_95 rfl ?_
          refine mm_lload 168 rfl dX8_findOdds_166 5 rfl ?_
          refine mm_aload_n 169 rfl dX8_findOdds_168 rfl 0 rfl ?_
          refine mm_iconst 170 rfl (v := 1) dX8_findOdds_169 (by decide) ?_
          refine ca_X8_186 173 rfl dX8_findOdds_170 (mm_sN0 h0 N_27) (ct_X8_sumOf 1 (mm_isMN h0 N_27)) (by decide) (Nat.le_of_ble_eq_true rfl) (fun z_28 => ?_)
          refine mm_i2l 174 rfl dX8_findOdds_173 ?_
          refine mm_lmul 175 rfl dX8_findOdds_174 ?_
          refine mm_ladd 176 rfl dX8_findOdds_175 ?_
          refine mm_putl 179 rfl dX8_findOdds_176 h0 19 (by decide) mw_4_95 rfl (by decide +kernel) rfl ?_
          refine mm_bN (fun N_29 => ?_)
          refine mm_iinc 182 rfl dX8_findOdds_179 4 rfl (v := (x4 + 1)) rfl (lv' := [(4, .int (x4 + 1)), (0, .ref (mm_ad G 0)), (1, .int c1), (2, .int c2), (3, .int c3), (5, .long x5_18)]) (by decide) rfl ?_
          refine mm_goto 45 dX8_findOdds_182 (by decide) ?_
          exact mm_lv [1, 2, 3, 4, 0] rfl (ih _ _ _)
        · refine mm_lload 153 rfl dX8_findOdds_151 5 rfl ?_
          refine mm_goto 157 dX8_findOdds_153 (by decide) ?_
          refine mm_ladd 158 rfl dX8_findOdds_157 ?_
          refine mm_putl 161 rfl dX8_findOdds_158 h0 18 (by decide) mw_4_94 rfl (by decide +kernel) rfl ?_
          refine mm_bN (fun N_30 => ?_)
          refine mm_aload_n 162 rfl dX8_findOdds_161 rfl 0 rfl ?_
          refine mm_dup 163 rfl dX8_findOdds_162 rfl ?_
          refine mm_getl 166 rfl dX8_findOdds_163 (mm_sN0 h0 N_30) 19 (by decide) mw_4_95 rfl ?_
          refine mm_lload 168 rfl dX8_findOdds_166 5 rfl ?_
          refine mm_aload_n 169 rfl dX8_findOdds_168 rfl 0 rfl ?_
          refine mm_iconst 170 rfl (v := 1) dX8_findOdds_169 (by decide) ?_
          refine ca_X8_186 173 rfl dX8_findOdds_170 (mm_sN0 h0 N_30) (ct_X8_sumOf 1 (mm_isMN h0 N_30)) (by decide) (Nat.le_of_ble_eq_true rfl) (fun z_31 => ?_)
          refine mm_i2l 174 rfl dX8_findOdds_173 ?_
          refine mm_lmul 175 rfl dX8_findOdds_174 ?_
          refine mm_ladd 176 rfl dX8_findOdds_175 ?_
          refine mm_putl 179 rfl dX8_findOdds_176 h0 19 (by decide) mw_4_95 rfl (by decide +kernel) rfl ?_
          refine mm_bN (fun N_32 => ?_)
          refine mm_iinc 182 rfl dX8_findOdds_179 4 rfl (v := (x4 + 1)) rfl (lv' := [(4, .int (x4 + 1)), (0, .ref (mm_ad G 0)), (1, .int c1), (2, .int c2), (3, .int c3), (5, .long x5_18)]) (by decide) rfl ?_
          refine mm_goto 45 dX8_findOdds_182 (by decide) ?_
          exact mm_lv [1, 2, 3, 4, 0] rfl (ih _ _ _)
noncomputable def fn_X8_findOdds (c1 : Int32) (c2 : Int32) (c3 : Int32) (M : mm_M) (N : Nat → Int64) : Option (mm_M × (Nat → Int64)) :=
  mm_let (vp_updL N 18 0) fun N_1 => mm_let (vp_updL N_1 19 0) fun N_2 => mm_let (vp_updL N_2 20 1) fun N_3 => fn_X8_findOdds_L18 c1 c2 c3 (fun M_6 N_7 => fn_X8_findOdds_L45 c1 c2 c3 (fun M_33 N_34 => some (M_33, N_34)) mm_fu 0 M_6 N_7) mm_fu 0 M N_3
set_option maxRecDepth 20000 in
set_option maxHeartbeats 4000000 in
theorem ct_X8_findOdds {l : Launch} {G : mm_G} {sh : mm_S} {M : mm_M} {N : Nat → Int64} (c1 : Int32) (c2 : Int32) (c3 : Int32) (h0 : mm_isMod G sh) : mm_K l G yX8_findOdds (cX8_findOdds, 9, RX8, none, 5) [.ref (mm_ad G 0), .int c1, .int c2, .int c3] (mm_gv G sh) (mm_sN G sh N) M (fn_X8_findOdds c1 c2 c3 M N) := by
  refine mm_met (by decide +kernel) rfl (Nat.le_of_ble_eq_true rfl) (fun X hX => ?_)
  subst hX
  show mm_T X G (cX8_findOdds, 9, RX8, none, 5) (mm_gv G sh) (mm_sN G sh N) M 0 [(0, .ref (mm_ad G 0)), (1, .int c1), (2, .int c2), (3, .int c3)] [] (fn_X8_findOdds c1 c2 c3 M N)
  unfold fn_X8_findOdds
  refine mm_aload_n 1 rfl dX8_findOdds_0 rfl 0 rfl ?_
  refine mm_lconst 2 rfl (v := 0) dX8_findOdds_1 (by decide) ?_
  refine mm_putl 5 rfl dX8_findOdds_2 h0 18 (by decide) mw_4_94 rfl (by decide +kernel) rfl ?_
  refine mm_bN (fun N_1 => ?_)
  refine mm_aload_n 6 rfl dX8_findOdds_5 rfl 0 rfl ?_
  refine mm_lconst 7 rfl (v := 0) dX8_findOdds_6 (by decide) ?_
  refine mm_putl 10 rfl dX8_findOdds_7 h0 19 (by decide) mw_4_95 rfl (by decide +kernel) rfl ?_
  refine mm_bN (fun N_2 => ?_)
  refine mm_aload_n 11 rfl dX8_findOdds_10 rfl 0 rfl ?_
  refine mm_lconst 12 rfl (v := 1) dX8_findOdds_11 (by decide) ?_
  refine mm_putl 15 rfl dX8_findOdds_12 h0 20 (by decide) mw_4_96 rfl (by decide +kernel) rfl ?_
  refine mm_bN (fun N_3 => ?_)
  refine mm_iconst 16 rfl (v := 0) dX8_findOdds_15 (by decide) ?_
  refine mm_istore 18 rfl dX8_findOdds_16 (lv' := [(4, .int 0), (0, .ref (mm_ad G 0)), (1, .int c1), (2, .int c2), (3, .int c3)]) (by decide) rfl ?_
  refine mm_lv [1, 2, 3, 4, 0] rfl (th_X8_findOdds_L18 h0 (fun M_6 N_7 => ?_) mm_fu _ _ _)
  refine mm_iconst 43 rfl (v := 0) dX8_findOdds_42 (by decide) ?_
  refine mm_istore 45 rfl dX8_findOdds_43 (lv' := [(4, .int 0), (0, .ref (mm_ad G 0)), (1, .int c1), (2, .int c2), (3, .int c3)]) (by decide) rfl ?_
  refine mm_lv [1, 2, 3, 4, 0] rfl (th_X8_findOdds_L45 h0 (fun M_33 N_34 => ?_) mm_fu _ _ _)
  exact mm_vret dX8_findOdds_185 rfl rfl

-- MangleLineModel.luck(IIII)J
noncomputable def fn_X8_luck (c1 : Int32) (c2 : Int32) (c3 : Int32) (c4 : Int32) (M : mm_M) (N : Nat → Int64) : Option (Int64 × mm_M × (Nat → Int64)) :=
  ((fn_X8_in c1.toInt64 0 10 M).bind fun z_1 => (if z_1.1 = 0 then some ((-1), z_1.2, N) else ((fn_X8_isOne c2 z_1.2).bind fun z_3 => (if z_3.1 = 0 then some ((-1), z_3.2, N) else ((fn_X8_in c3.toInt64 0 8 z_3.2).bind fun z_5 => (if z_5.1 = 0 then some ((-1), z_5.2, N) else ((fn_X8_isPart c4 z_5.2).bind fun z_7 => (if z_7.1 = 0 then some ((-1), z_7.2, N) else ((fn_X8_findOdds c1 c2 c3 z_7.2 N).bind fun z_9 => ((fn_X8_lowest (z_9.2 18) (z_9.2 20) c4 z_9.1).bind fun z_10 => some (z_10.1, z_10.2, z_9.2)))))))))))
set_option maxRecDepth 20000 in
set_option maxHeartbeats 4000000 in
theorem ct_X8_luck {l : Launch} {G : mm_G} {sh : mm_S} {M : mm_M} {N : Nat → Int64} (c1 : Int32) (c2 : Int32) (c3 : Int32) (c4 : Int32) (h0 : mm_isMod G sh) : mm_K l G yX8_luck (cX8_luck, 5, RX8, (some .long), 6) [.ref (mm_ad G 0), .int c1, .int c2, .int c3, .int c4] (mm_gl G sh) (mm_sN G sh N) M (fn_X8_luck c1 c2 c3 c4 M N) := by
  refine mm_met (by decide +kernel) rfl (Nat.le_of_ble_eq_true rfl) (fun X hX => ?_)
  subst hX
  show mm_T X G (cX8_luck, 5, RX8, (some .long), 6) (mm_gl G sh) (mm_sN G sh N) M 0 [(0, .ref (mm_ad G 0)), (1, .int c1), (2, .int c2), (3, .int c3), (4, .int c4)] [] (fn_X8_luck c1 c2 c3 c4 M N)
  unfold fn_X8_luck
  refine mm_iload_n 1 rfl dX8_luck_0 rfl 1 rfl ?_
  refine mm_i2l 2 rfl dX8_luck_1 ?_
  refine mm_lconst 3 rfl (v := 0) dX8_luck_2 (by decide) ?_
  refine mm_ldc2 6 rfl (v := 10) dX8_luck_3 mw_5_193 ?_
  refine ca_X8_59 9 rfl dX8_luck_6 (ct_X8_in c1.toInt64 0 10 ) (by decide) (Nat.le_of_ble_eq_true rfl) (fun z_1 => ?_)
  refine mm_if_eq 12 40 rfl dX8_luck_9 (by decide) (fun h_2 => ?_) (fun h_2 => ?_)
  · refine mm_ldc2 43 rfl (v := (-1)) dX8_luck_40 mw_5_195 ?_
    exact mm_lret dX8_luck_43 rfl rfl
  · refine mm_aload_n 13 rfl dX8_luck_12 rfl 0 rfl ?_
    refine mm_iload_n 14 rfl dX8_luck_13 rfl 2 rfl ?_
    refine ca_X8_191 17 rfl dX8_luck_14 (mm_sN0 h0 N) (ct_X8_isOne c2 (mm_isMN h0 N)) (by decide) (Nat.le_of_ble_eq_true rfl) (fun z_3 => ?_)
    refine mm_if_eq 20 40 rfl dX8_luck_17 (by decide) (fun h_4 => ?_) (fun h_4 => ?_)
    · refine mm_ldc2 43 rfl (v := (-1)) dX8_luck_40 mw_5_195 ?_
      exact mm_lret dX8_luck_43 rfl rfl
    · refine mm_iload_n 21 rfl dX8_luck_20 rfl 3 rfl ?_
      refine mm_i2l 22 rfl dX8_luck_21 ?_
      refine mm_lconst 23 rfl (v := 0) dX8_luck_22 (by decide) ?_
      refine mm_ldc2 26 rfl (v := 8) dX8_luck_23 mw_5_194 ?_
      refine ca_X8_59 29 rfl dX8_luck_26 (ct_X8_in c3.toInt64 0 8 ) (by decide) (Nat.le_of_ble_eq_true rfl) (fun z_5 => ?_)
      refine mm_if_eq 32 40 rfl dX8_luck_29 (by decide) (fun h_6 => ?_) (fun h_6 => ?_)
      · refine mm_ldc2 43 rfl (v := (-1)) dX8_luck_40 mw_5_195 ?_
        exact mm_lret dX8_luck_43 rfl rfl
      · refine mm_iload 34 rfl dX8_luck_32 4 rfl ?_
        refine ca_X8_238 37 rfl dX8_luck_34 (ct_X8_isPart c4 ) (by decide) (Nat.le_of_ble_eq_true rfl) (fun z_7 => ?_)
        refine mm_if_ne 40 44 rfl dX8_luck_37 (by decide) (fun h_8 => ?_) (fun h_8 => ?_)
        · refine mm_aload_n 45 rfl dX8_luck_44 rfl 0 rfl ?_
          refine mm_iload_n 46 rfl dX8_luck_45 rfl 1 rfl ?_
          refine mm_iload_n 47 rfl dX8_luck_46 rfl 2 rfl ?_
          refine mm_iload_n 48 rfl dX8_luck_47 rfl 3 rfl ?_
          refine ca_X8_270 51 rfl dX8_luck_48 (mm_sN0 h0 N) (ct_X8_findOdds c1 c2 c3 h0) (by decide) (Nat.le_of_ble_eq_true rfl) (fun z_9 => ?_)
          refine mm_aload_n 52 rfl dX8_luck_51 rfl 0 rfl ?_
          refine mm_getl 55 rfl dX8_luck_52 (mm_sN0 h0 z_9.2) 18 (by decide) mw_4_94 rfl ?_
          refine mm_aload_n 56 rfl dX8_luck_55 rfl 0 rfl ?_
          refine mm_getl 59 rfl dX8_luck_56 (mm_sN0 h0 z_9.2) 20 (by decide) mw_4_96 rfl ?_
          refine mm_iload 61 rfl dX8_luck_59 4 rfl ?_
          refine ca_X8_273 64 rfl dX8_luck_61 (ct_X8_lowest (z_9.2 18) (z_9.2 20) c4 ) (by decide) (Nat.le_of_ble_eq_true rfl) (fun z_10 => ?_)
          exact mm_lret dX8_luck_64 rfl rfl
        · refine mm_ldc2 43 rfl (v := (-1)) dX8_luck_40 mw_5_195 ?_
          exact mm_lret dX8_luck_43 rfl rfl

-- MangleLineModel.mean(III)J
noncomputable def fn_X8_mean (c1 : Int32) (c2 : Int32) (c3 : Int32) (M : mm_M) (N : Nat → Int64) : Option (Int64 × mm_M × (Nat → Int64)) :=
  ((fn_X8_in c1.toInt64 0 10 M).bind fun z_1 => (if z_1.1 = 0 then some ((-1), z_1.2, N) else ((fn_X8_in c2.toInt64 0 8 z_1.2).bind fun z_3 => (if z_3.1 = 0 then some ((-1), z_3.2, N) else ((fn_X8_isPart c3 z_3.2).bind fun z_5 => (if z_5.1 = 0 then some ((-1), z_5.2, N) else ((fn_X8_findOdds c1 (-4) c2 z_5.2 N).bind fun z_7 => ((fn_X8_lowest (z_7.2 19) (z_7.2 20) c3 z_7.1).bind fun z_8 => some (z_8.1, z_8.2, z_7.2)))))))))
set_option maxRecDepth 20000 in
set_option maxHeartbeats 4000000 in
theorem ct_X8_mean {l : Launch} {G : mm_G} {sh : mm_S} {M : mm_M} {N : Nat → Int64} (c1 : Int32) (c2 : Int32) (c3 : Int32) (h0 : mm_isMod G sh) : mm_K l G yX8_mean (cX8_mean, 4, RX8, (some .long), 6) [.ref (mm_ad G 0), .int c1, .int c2, .int c3] (mm_gl G sh) (mm_sN G sh N) M (fn_X8_mean c1 c2 c3 M N) := by
  refine mm_met (by decide +kernel) rfl (Nat.le_of_ble_eq_true rfl) (fun X hX => ?_)
  subst hX
  show mm_T X G (cX8_mean, 4, RX8, (some .long), 6) (mm_gl G sh) (mm_sN G sh N) M 0 [(0, .ref (mm_ad G 0)), (1, .int c1), (2, .int c2), (3, .int c3)] [] (fn_X8_mean c1 c2 c3 M N)
  unfold fn_X8_mean
  refine mm_iload_n 1 rfl dX8_mean_0 rfl 1 rfl ?_
  refine mm_i2l 2 rfl dX8_mean_1 ?_
  refine mm_lconst 3 rfl (v := 0) dX8_mean_2 (by decide) ?_
  refine mm_ldc2 6 rfl (v := 10) dX8_mean_3 mw_5_193 ?_
  refine ca_X8_59 9 rfl dX8_mean_6 (ct_X8_in c1.toInt64 0 10 ) (by decide) (Nat.le_of_ble_eq_true rfl) (fun z_1 => ?_)
  refine mm_if_eq 12 31 rfl dX8_mean_9 (by decide) (fun h_2 => ?_) (fun h_2 => ?_)
  · refine mm_ldc2 34 rfl (v := (-1)) dX8_mean_31 mw_5_195 ?_
    exact mm_lret dX8_mean_34 rfl rfl
  · refine mm_iload_n 13 rfl dX8_mean_12 rfl 2 rfl ?_
    refine mm_i2l 14 rfl dX8_mean_13 ?_
    refine mm_lconst 15 rfl (v := 0) dX8_mean_14 (by decide) ?_
    refine mm_ldc2 18 rfl (v := 8) dX8_mean_15 mw_5_194 ?_
    refine ca_X8_59 21 rfl dX8_mean_18 (ct_X8_in c2.toInt64 0 8 ) (by decide) (Nat.le_of_ble_eq_true rfl) (fun z_3 => ?_)
    refine mm_if_eq 24 31 rfl dX8_mean_21 (by decide) (fun h_4 => ?_) (fun h_4 => ?_)
    · refine mm_ldc2 34 rfl (v := (-1)) dX8_mean_31 mw_5_195 ?_
      exact mm_lret dX8_mean_34 rfl rfl
    · refine mm_iload_n 25 rfl dX8_mean_24 rfl 3 rfl ?_
      refine ca_X8_238 28 rfl dX8_mean_25 (ct_X8_isPart c3 ) (by decide) (Nat.le_of_ble_eq_true rfl) (fun z_5 => ?_)
      refine mm_if_ne 31 35 rfl dX8_mean_28 (by decide) (fun h_6 => ?_) (fun h_6 => ?_)
      · refine mm_aload_n 36 rfl dX8_mean_35 rfl 0 rfl ?_
        refine mm_iload_n 37 rfl dX8_mean_36 rfl 1 rfl ?_
        refine mm_bipush 39 rfl (v := (-4)) dX8_mean_37 (by decide) ?_
        refine mm_iload_n 40 rfl dX8_mean_39 rfl 2 rfl ?_
        refine ca_X8_270 43 rfl dX8_mean_40 (mm_sN0 h0 N) (ct_X8_findOdds c1 (-4) c2 h0) (by decide) (Nat.le_of_ble_eq_true rfl) (fun z_7 => ?_)
        refine mm_aload_n 44 rfl dX8_mean_43 rfl 0 rfl ?_
        refine mm_getl 47 rfl dX8_mean_44 (mm_sN0 h0 z_7.2) 19 (by decide) mw_4_95 rfl ?_
        refine mm_aload_n 48 rfl dX8_mean_47 rfl 0 rfl ?_
        refine mm_getl 51 rfl dX8_mean_48 (mm_sN0 h0 z_7.2) 20 (by decide) mw_4_96 rfl ?_
        refine mm_iload_n 52 rfl dX8_mean_51 rfl 3 rfl ?_
        refine ca_X8_273 55 rfl dX8_mean_52 (ct_X8_lowest (z_7.2 19) (z_7.2 20) c3 ) (by decide) (Nat.le_of_ble_eq_true rfl) (fun z_8 => ?_)
        exact mm_lret dX8_mean_55 rfl rfl
      · refine mm_ldc2 34 rfl (v := (-1)) dX8_mean_31 mw_5_195 ?_
        exact mm_lret dX8_mean_34 rfl rfl

-- MangleLineModel.see(III)I
noncomputable def fn_X8_see (c1 : Int32) (c2 : Int32) (c3 : Int32) (M : mm_M) : Option (Int32 × mm_M) :=
  ((fn_X8_in c1.toInt64 0 20 M).bind fun z_1 => (if z_1.1 = 0 then some ((-1), z_1.2) else ((fn_X8_isOne c2 z_1.2).bind fun z_3 => (if z_3.1 = 0 then some ((-1), z_3.2) else ((fn_X8_in c3.toInt64 0 2 z_3.2).bind fun z_5 => (if z_5.1 = 0 then some ((-1), z_5.2) else (if (z_5.2 1 38) = 6 then some ((-3), z_5.2) else mm_let (39 + (3 * (z_5.2 1 38))) fun x4_8 => (if mm_in x4_8 171 then (mm_let (mm_up z_5.2 1 x4_8.toNatClampNeg c1) fun M_9 => (if mm_in (x4_8 + 1) 171 then (mm_let (mm_up M_9 1 (x4_8 + 1).toNatClampNeg c2) fun M_11 => (if mm_in (x4_8 + 2) 171 then (mm_let (mm_up M_11 1 (x4_8 + 2).toNatClampNeg c3) fun M_13 => mm_let (mm_up M_13 1 38 ((M_13 1 38) + 1)) fun M_15 => some ((M_15 1 38), M_15)) else none)) else none)) else none))))))))
set_option maxRecDepth 20000 in
set_option maxHeartbeats 4000000 in
theorem ct_X8_see {l : Launch} {G : mm_G} {sh : mm_S} {M : mm_M} (c1 : Int32) (c2 : Int32) (c3 : Int32) (h0 : mm_isMod G sh) : mm_K l G yX8_see (cX8_see, 5, RX8, (some .int), 3) [.ref (mm_ad G 0), .int c1, .int c2, .int c3] (mm_fi sh) sh M (fn_X8_see c1 c2 c3 M) := by
  refine mm_met (by decide +kernel) rfl (Nat.le_of_ble_eq_true rfl) (fun X hX => ?_)
  subst hX
  show mm_T X G (cX8_see, 5, RX8, (some .int), 3) (mm_fi sh) sh M 0 [(0, .ref (mm_ad G 0)), (1, .int c1), (2, .int c2), (3, .int c3)] [] (fn_X8_see c1 c2 c3 M)
  unfold fn_X8_see
  obtain ⟨N, hN⟩ := h0.1
  refine mm_iload_n 1 rfl dX8_see_0 rfl 1 rfl ?_
  refine mm_i2l 2 rfl dX8_see_1 ?_
  refine mm_lconst 3 rfl (v := 0) dX8_see_2 (by decide) ?_
  refine mm_ldc2 6 rfl (v := 20) dX8_see_3 mw_5_58 ?_
  refine ca_X8_59 9 rfl dX8_see_6 (ct_X8_in c1.toInt64 0 20 ) (by decide) (Nat.le_of_ble_eq_true rfl) (fun z_1 => ?_)
  refine mm_if_eq 12 32 rfl dX8_see_9 (by decide) (fun h_2 => ?_) (fun h_2 => ?_)
  · refine mm_iconst 33 rfl (v := (-1)) dX8_see_32 (by decide) ?_
    exact mm_iret dX8_see_33 rfl rfl
  · refine mm_aload_n 13 rfl dX8_see_12 rfl 0 rfl ?_
    refine mm_iload_n 14 rfl dX8_see_13 rfl 2 rfl ?_
    refine ca_X8_191 17 rfl dX8_see_14 hN (ct_X8_isOne c2 h0) (by decide) (Nat.le_of_ble_eq_true rfl) (fun z_3 => ?_)
    refine mm_if_eq 20 32 rfl dX8_see_17 (by decide) (fun h_4 => ?_) (fun h_4 => ?_)
    · refine mm_iconst 33 rfl (v := (-1)) dX8_see_32 (by decide) ?_
      exact mm_iret dX8_see_33 rfl rfl
    · refine mm_iload_n 21 rfl dX8_see_20 rfl 3 rfl ?_
      refine mm_i2l 22 rfl dX8_see_21 ?_
      refine mm_lconst 23 rfl (v := 0) dX8_see_22 (by decide) ?_
      refine mm_ldc2 26 rfl (v := 2) dX8_see_23 mw_5_124 ?_
      refine ca_X8_59 29 rfl dX8_see_26 (ct_X8_in c3.toInt64 0 2 ) (by decide) (Nat.le_of_ble_eq_true rfl) (fun z_5 => ?_)
      refine mm_if_ne 32 34 rfl dX8_see_29 (by decide) (fun h_6 => ?_) (fun h_6 => ?_)
      · refine mm_aload_n 35 rfl dX8_see_34 rfl 0 rfl ?_
        refine gt_X8_7 38 rfl dX8_see_35 hN ?_
        refine mm_bipush 40 rfl (v := 38) dX8_see_38 (by decide) ?_
        refine mm_ialdK 41 rfl dX8_see_40 h0.2.1 (by decide) 38 (by decide) ?_
        refine mm_bipush 43 rfl (v := 6) dX8_see_41 (by decide) ?_
        refine mm_icmp_ne 46 49 rfl dX8_see_43 (by decide) (fun h_7 => ?_) (fun h_7 => ?_)
        · refine mm_bipush 51 rfl (v := 39) dX8_see_49 (by decide) ?_
          refine mm_iconst 52 rfl (v := 3) dX8_see_51 (by decide) ?_
          refine mm_aload_n 53 rfl dX8_see_52 rfl 0 rfl ?_
          refine gt_X8_7 56 rfl dX8_see_53 hN ?_
          refine mm_bipush 58 rfl (v := 38) dX8_see_56 (by decide) ?_
          refine mm_ialdK 59 rfl dX8_see_58 h0.2.1 (by decide) 38 (by decide) ?_
          refine mm_imul 60 rfl dX8_see_59 ?_
          refine mm_iadd 61 rfl dX8_see_60 ?_
          refine mm_bI (fun x4_8 => ?_)
          refine mm_istore 63 rfl dX8_see_61 (lv' := [(4, .int x4_8), (0, .ref (mm_ad G 0)), (1, .int c1), (2, .int c2), (3, .int c3)]) (by decide) rfl ?_
          refine mm_aload_n 64 rfl dX8_see_63 rfl 1 rfl ?_
          refine gt_X8_7 67 rfl dX8_see_64 hN ?_
          refine mm_iload 69 rfl dX8_see_67 0 rfl ?_
          refine mm_iload_n 70 rfl dX8_see_69 rfl 2 rfl ?_
          refine mm_iast 71 rfl dX8_see_70 h0.2.1 (fun h_10 => ?_)
          refine mm_bM (fun M_9 => ?_)
          refine mm_aload_n 72 rfl dX8_see_71 rfl 1 rfl ?_
          refine gt_X8_7 75 rfl dX8_see_72 hN ?_
          refine mm_iload 77 rfl dX8_see_75 0 rfl ?_
          refine mm_iconst 78 rfl (v := 1) dX8_see_77 (by decide) ?_
          refine mm_iadd 79 rfl dX8_see_78 ?_
          refine mm_iload_n 80 rfl dX8_see_79 rfl 3 rfl ?_
          refine mm_iast 81 rfl dX8_see_80 h0.2.1 (fun h_12 => ?_)
          refine mm_bM (fun M_11 => ?_)
          refine mm_aload_n 82 rfl dX8_see_81 rfl 1 rfl ?_
          refine gt_X8_7 85 rfl dX8_see_82 hN ?_
          refine mm_iload 87 rfl dX8_see_85 0 rfl ?_
          refine mm_iconst 88 rfl (v := 2) dX8_see_87 (by decide) ?_
          refine mm_iadd 89 rfl dX8_see_88 ?_
          refine mm_iload_n 90 rfl dX8_see_89 rfl 4 rfl ?_
          refine mm_iast 91 rfl dX8_see_90 h0.2.1 (fun h_14 => ?_)
          refine mm_bM (fun M_13 => ?_)
          refine mm_aload_n 92 rfl dX8_see_91 rfl 1 rfl ?_
          refine gt_X8_7 95 rfl dX8_see_92 hN ?_
          refine mm_bipush 97 rfl (v := 38) dX8_see_95 (by decide) ?_
          refine mm_dup2 98 rfl dX8_see_97 rfl rfl ?_
          refine mm_ialdK 99 rfl dX8_see_98 h0.2.1 (by decide) 38 (by decide) ?_
          refine mm_iconst 100 rfl (v := 1) dX8_see_99 (by decide) ?_
          refine mm_iadd 101 rfl dX8_see_100 ?_
          refine mm_iastK 102 rfl dX8_see_101 h0.2.1 (by decide) 38 (by decide) ?_
          refine mm_bM (fun M_15 => ?_)
          refine mm_aload_n 103 rfl dX8_see_102 rfl 1 rfl ?_
          refine gt_X8_7 106 rfl dX8_see_103 hN ?_
          refine mm_bipush 108 rfl (v := 38) dX8_see_106 (by decide) ?_
          refine mm_ialdK 109 rfl dX8_see_108 h0.2.1 (by decide) 38 (by decide) ?_
          exact mm_iret dX8_see_109 rfl rfl
        · refine mm_bipush 48 rfl (v := (-3)) dX8_see_46 (by decide) ?_
          exact mm_iret dX8_see_48 rfl rfl
      · refine mm_iconst 33 rfl (v := (-1)) dX8_see_32 (by decide) ?_
        exact mm_iret dX8_see_33 rfl rfl

-- MangleLineModel.forget(I)I
noncomputable def fn_X8_forget (c1 : Int32) (M : mm_M) : Option (Int32 × mm_M) :=
  ((fn_X8_in c1.toInt64 0 ((M 1 38).toInt64) M).bind fun z_1 => (if z_1.1 = 0 then some ((-1), z_1.2) else ((fn_X8_becomes 38 c1 z_1.2).bind fun z_3 => some (z_3.1, z_3.2))))
set_option maxRecDepth 20000 in
set_option maxHeartbeats 4000000 in
theorem ct_X8_forget {l : Launch} {G : mm_G} {sh : mm_S} {M : mm_M} (c1 : Int32) (h0 : mm_isMod G sh) : mm_K l G yX8_forget (cX8_forget, 2, RX8, (some .int), 2) [.ref (mm_ad G 0), .int c1] (mm_fi sh) sh M (fn_X8_forget c1 M) := by
  refine mm_met (by decide +kernel) rfl (Nat.le_of_ble_eq_true rfl) (fun X hX => ?_)
  subst hX
  show mm_T X G (cX8_forget, 2, RX8, (some .int), 2) (mm_fi sh) sh M 0 [(0, .ref (mm_ad G 0)), (1, .int c1)] [] (fn_X8_forget c1 M)
  unfold fn_X8_forget
  obtain ⟨N, hN⟩ := h0.1
  refine mm_iload_n 1 rfl dX8_forget_0 rfl 1 rfl ?_
  refine mm_i2l 2 rfl dX8_forget_1 ?_
  refine mm_lconst 3 rfl (v := 0) dX8_forget_2 (by decide) ?_
  refine mm_aload_n 4 rfl dX8_forget_3 rfl 0 rfl ?_
  refine gt_X8_7 7 rfl dX8_forget_4 hN ?_
  refine mm_bipush 9 rfl (v := 38) dX8_forget_7 (by decide) ?_
  refine mm_ialdK 10 rfl dX8_forget_9 h0.2.1 (by decide) 38 (by decide) ?_
  refine mm_i2l 11 rfl dX8_forget_10 ?_
  refine ca_X8_59 14 rfl dX8_forget_11 (ct_X8_in c1.toInt64 0 ((M 1 38).toInt64) ) (by decide) (Nat.le_of_ble_eq_true rfl) (fun z_1 => ?_)
  refine mm_if_eq 17 27 rfl dX8_forget_14 (by decide) (fun h_2 => ?_) (fun h_2 => ?_)
  · refine mm_iconst 28 rfl (v := (-1)) dX8_forget_27 (by decide) ?_
    exact mm_iret dX8_forget_28 rfl rfl
  · refine mm_aload_n 18 rfl dX8_forget_17 rfl 0 rfl ?_
    refine mm_bipush 20 rfl (v := 38) dX8_forget_18 (by decide) ?_
    refine mm_iload_n 21 rfl dX8_forget_20 rfl 1 rfl ?_
    refine ca_X8_203 24 rfl dX8_forget_21 hN (ct_X8_becomes 38 c1 h0) (by decide) (Nat.le_of_ble_eq_true rfl) (fun z_3 => ?_)
    refine mm_goto 28 dX8_forget_24 (by decide) ?_
    exact mm_iret dX8_forget_28 rfl rfl

-- MangleLineModel.isSoWith(II)Z
noncomputable def fn_X8_isSoWith_L22 (c3 : Int32) (k : mm_M → Option (Int32 × mm_M)) : Nat → Int32 → mm_M → Option (Int32 × mm_M)
  | 0, _, _ => none
  | n + 1, x4, M => (if (M 2 24) ≤ x4 then k  M else ((fn_X8_of x4 3 M).bind fun z_6 => (if mm_in ((6 * c3) + x4) 126 then (mm_let (mm_up z_6.2 6 ((6 * c3) + x4).toNatClampNeg z_6.1) fun M_7 => fn_X8_isSoWith_L22 c3 k n (x4 + 1) M_7) else none)))
set_option maxRecDepth 20000 in
set_option maxHeartbeats 4000000 in
theorem th_X8_isSoWith_L22 {X : mm_X} {G : mm_G} {sh : mm_S} {c3 : Int32} {k : mm_M → Option (Int32 × mm_M)} (h0 : mm_isMod G sh) (hk : ∀ (M : mm_M), mm_T X G (cX8_isSoWith, 6, RX8, (some .boolean), 6) (mm_fi sh) sh M 59 [(0, .ref (mm_ad G 0)), (3, .int c3)] [] (k  M)) : ∀ (n : Nat) (x4 : Int32) (M : mm_M), mm_T X G (cX8_isSoWith, 6, RX8, (some .boolean), 6) (mm_fi sh) sh M 22 [(0, .ref (mm_ad G 0)), (3, .int c3), (4, .int x4)] [] (fn_X8_isSoWith_L22 c3 k n x4 M) := by
  intro n
  induction n with
  | zero => intro x4 M; exact mm_none
  | succ n ih =>
    intro x4 M
    rw [fn_X8_isSoWith_L22]
    obtain ⟨N, hN⟩ := h0.1
    refine mm_iload 24 rfl dX8_isSoWith_22 2 rfl ?_
    refine mm_aload_n 25 rfl dX8_isSoWith_24 rfl 0 rfl ?_
    refine gt_X8_13 28 rfl dX8_isSoWith_25 hN ?_
    refine mm_bipush 30 rfl (v := 24) dX8_isSoWith_28 (by decide) ?_
    refine mm_ialdK 31 rfl dX8_isSoWith_30 h0.2.2.1 (by decide) 24 (by decide) ?_
    refine mm_icmp_ge 34 59 rfl dX8_isSoWith_31 (by decide) (fun h_5 => ?_) (fun h_5 => ?_)
    · exact mm_lv [0, 1] rfl (hk _)
    · refine mm_aload_n 35 rfl dX8_isSoWith_34 rfl 0 rfl ?_
      refine gt_X8_26 38 rfl dX8_isSoWith_35 hN ?_
      refine mm_bipush 40 rfl (v := 6) dX8_isSoWith_38 (by decide) ?_
      refine mm_iload_n 41 rfl dX8_isSoWith_40 rfl 1 rfl ?_
      refine mm_imul 42 rfl dX8_isSoWith_41 ?_
      refine mm_iload 44 rfl dX8_isSoWith_42 2 rfl ?_
      refine mm_iadd 45 rfl dX8_isSoWith_44 ?_
      refine mm_aload_n 46 rfl dX8_isSoWith_45 rfl 0 rfl ?_
      refine mm_iload 48 rfl dX8_isSoWith_46 2 rfl ?_
      refine mm_iconst 49 rfl (v := 3) dX8_isSoWith_48 (by decide) ?_
      refine ca_X8_144 52 rfl dX8_isSoWith_49 hN (ct_X8_of x4 3 h0) (by decide) (Nat.le_of_ble_eq_true rfl) (fun z_6 => ?_)
      refine mm_iast 53 rfl dX8_isSoWith_52 h0.2.2.2.2.2.2.1 (fun h_8 => ?_)
      refine mm_bM (fun M_7 => ?_)
      refine mm_iinc 56 rfl dX8_isSoWith_53 2 rfl (v := (x4 + 1)) rfl (lv' := [(4, .int (x4 + 1)), (0, .ref (mm_ad G 0)), (3, .int c3)]) (by decide) rfl ?_
      refine mm_goto 22 dX8_isSoWith_56 (by decide) ?_
      exact mm_lv [1, 2, 0] rfl (ih _ _)
noncomputable def fn_X8_isSoWith_L13  (k : mm_M → Option (Int32 × mm_M)) : Nat → Int32 → mm_M → Option (Int32 × mm_M)
  | 0, _, _ => none
  | n + 1, x3, M => (if 20 < x3 then k  M else fn_X8_isSoWith_L22 x3 (fun M_9 => ((fn_X8_daysGo 1 M_9).bind fun z_11 => fn_X8_isSoWith_L13 k n (x3 + 1) z_11)) mm_fu 0 M)
set_option maxRecDepth 20000 in
set_option maxHeartbeats 4000000 in
theorem th_X8_isSoWith_L13 {X : mm_X} {G : mm_G} {sh : mm_S} {k : mm_M → Option (Int32 × mm_M)} (h0 : mm_isMod G sh) (hk : ∀ (M : mm_M), mm_T X G (cX8_isSoWith, 6, RX8, (some .boolean), 6) (mm_fi sh) sh M 70 [(0, .ref (mm_ad G 0))] [] (k  M)) : ∀ (n : Nat) (x3 : Int32) (M : mm_M), mm_T X G (cX8_isSoWith, 6, RX8, (some .boolean), 6) (mm_fi sh) sh M 13 [(0, .ref (mm_ad G 0)), (3, .int x3)] [] (fn_X8_isSoWith_L13 k n x3 M) := by
  intro n
  induction n with
  | zero => intro x3 M; exact mm_none
  | succ n ih =>
    intro x3 M
    rw [fn_X8_isSoWith_L13]
    obtain ⟨N, hN⟩ := h0.1
    refine mm_iload_n 14 rfl dX8_isSoWith_13 rfl 1 rfl ?_
    refine mm_bipush 16 rfl (v := 20) dX8_isSoWith_14 (by decide) ?_
    refine mm_icmp_gt 19 70 rfl dX8_isSoWith_16 (by decide) (fun h_4 => ?_) (fun h_4 => ?_)
    · exact mm_lv [0] rfl (hk _)
    · refine mm_iconst 20 rfl (v := 0) dX8_isSoWith_19 (by decide) ?_
      refine mm_istore 22 rfl dX8_isSoWith_20 (lv' := [(4, .int 0), (0, .ref (mm_ad G 0)), (3, .int x3)]) (by decide) rfl ?_
      refine mm_lv [1, 2, 0] rfl (th_X8_isSoWith_L22 h0 (fun M_9 => ?_) mm_fu _ _)
      refine mm_aload_n 60 rfl dX8_isSoWith_59 rfl 0 rfl ?_
      refine mm_iconst 61 rfl (v := 1) dX8_isSoWith_60 (by decide) ?_
      refine ca_X8_210 64 rfl dX8_isSoWith_61 hN (ct_X8_daysGo 1 h0) (by decide) (Nat.le_of_ble_eq_true rfl) (fun z_11 => ?_)
      refine mm_iinc 67 rfl dX8_isSoWith_64 1 rfl (v := (x3 + 1)) rfl (lv' := [(3, .int (x3 + 1)), (0, .ref (mm_ad G 0))]) (by decide) rfl ?_
      refine mm_goto 13 dX8_isSoWith_67 (by decide) ?_
      exact mm_lv [1, 0] rfl (ih _ _)
noncomputable def fn_X8_isSoWith_L75  (k : Int32 → mm_M → Option (Int32 × mm_M)) : Nat → Int32 → Int32 → mm_M → Option (Int32 × mm_M)
  | 0, _, _, _ => none
  | n + 1, x3, x4, M => (if (M 1 38) ≤ x4 then k x3 M else mm_let (39 + (3 * x4)) fun x5_15 => (if x3 = 0 then fn_X8_isSoWith_L75 k n 0 (x4 + 1) M else (if mm_in x5_15 171 then (if mm_in (x5_15 + 1) 171 then (if mm_in ((6 * (M 1 x5_15.toNatClampNeg)) + (M 1 (x5_15 + 1).toNatClampNeg)) 126 then (if mm_in (x5_15 + 2) 171 then (if (M 6 ((6 * (M 1 x5_15.toNatClampNeg)) + (M 1 (x5_15 + 1).toNatClampNeg)).toNatClampNeg) = (M 1 (x5_15 + 2).toNatClampNeg) then fn_X8_isSoWith_L75 k n 1 (x4 + 1) M else fn_X8_isSoWith_L75 k n 0 (x4 + 1) M) else none) else none) else none) else none)))
set_option maxRecDepth 20000 in
set_option maxHeartbeats 4000000 in
theorem th_X8_isSoWith_L75 {X : mm_X} {G : mm_G} {sh : mm_S} {k : Int32 → mm_M → Option (Int32 × mm_M)} (h0 : mm_isMod G sh) (hk : ∀ (x3 : Int32) (M : mm_M), mm_T X G (cX8_isSoWith, 6, RX8, (some .boolean), 6) (mm_fi sh) sh M 149 [(3, .int x3)] [] (k x3 M)) : ∀ (n : Nat) (x3 : Int32) (x4 : Int32) (M : mm_M), mm_T X G (cX8_isSoWith, 6, RX8, (some .boolean), 6) (mm_fi sh) sh M 75 [(0, .ref (mm_ad G 0)), (3, .int x3), (4, .int x4)] [] (fn_X8_isSoWith_L75 k n x3 x4 M) := by
  intro n
  induction n with
  | zero => intro x3 x4 M; exact mm_none
  | succ n ih =>
    intro x3 x4 M
    rw [fn_X8_isSoWith_L75]
    obtain ⟨N, hN⟩ := h0.1
    refine mm_iload 77 rfl dX8_isSoWith_75 2 rfl ?_
    refine mm_aload_n 78 rfl dX8_isSoWith_77 rfl 0 rfl ?_
    refine gt_X8_7 81 rfl dX8_isSoWith_78 hN ?_
    refine mm_bipush 83 rfl (v := 38) dX8_isSoWith_81 (by decide) ?_
    refine mm_ialdK 84 rfl dX8_isSoWith_83 h0.2.1 (by decide) 38 (by decide) ?_
    refine mm_icmp_ge 87 149 rfl dX8_isSoWith_84 (by decide) (fun h_14 => ?_) (fun h_14 => ?_)
    · exact mm_lv [1] rfl (hk _ _)
    · refine mm_bipush 89 rfl (v := 39) dX8_isSoWith_87 (by decide) ?_
      refine mm_iconst 90 rfl (v := 3) dX8_isSoWith_89 (by decide) ?_
      refine mm_iload 92 rfl dX8_isSoWith_90 2 rfl ?_
      refine mm_imul 93 rfl dX8_isSoWith_92 ?_
      refine mm_iadd 94 rfl dX8_isSoWith_93 ?_
      refine mm_bI (fun x5_15 => ?_)
      refine mm_istore 96 rfl dX8_isSoWith_94 (lv' := [(5, .int x5_15), (0, .ref (mm_ad G 0)), (3, .int x3), (4, .int x4)]) (by decide) rfl ?_
      refine mm_iload_n 97 rfl dX8_isSoWith_96 rfl 2 rfl ?_
      refine mm_if_eq 100 141 rfl dX8_isSoWith_97 (by decide) (fun h_16 => ?_) (fun h_16 => ?_)
      · refine mm_iconst 142 rfl (v := 0) dX8_isSoWith_141 (by decide) ?_
        refine mm_istore_n 143 rfl dX8_isSoWith_142 rfl (lv' := [(3, .int 0), (5, .int x5_15), (0, .ref (mm_ad G 0)), (4, .int x4)]) (by decide) rfl ?_
        refine mm_iinc 146 rfl dX8_isSoWith_143 3 rfl (v := (x4 + 1)) rfl (lv' := [(4, .int (x4 + 1)), (3, .int 0), (5, .int x5_15), (0, .ref (mm_ad G 0))]) (by decide) rfl ?_
        refine mm_goto 75 dX8_isSoWith_146 (by decide) ?_
        exact mm_lv [3, 1, 0] rfl (ih _ _ _)
      · refine mm_aload_n 101 rfl dX8_isSoWith_100 rfl 1 rfl ?_
        refine gt_X8_26 104 rfl dX8_isSoWith_101 hN ?_
        refine mm_bipush 106 rfl (v := 6) dX8_isSoWith_104 (by decide) ?_
        refine mm_aload_n 107 rfl dX8_isSoWith_106 rfl 1 rfl ?_
        refine gt_X8_7 110 rfl dX8_isSoWith_107 hN ?_
        refine mm_iload 112 rfl dX8_isSoWith_110 0 rfl ?_
        refine mm_iald 113 rfl dX8_isSoWith_112 h0.2.1 (fun h_17 => ?_)
        refine mm_imul 114 rfl dX8_isSoWith_113 ?_
        refine mm_aload_n 115 rfl dX8_isSoWith_114 rfl 1 rfl ?_
        refine gt_X8_7 118 rfl dX8_isSoWith_115 hN ?_
        refine mm_iload 120 rfl dX8_isSoWith_118 0 rfl ?_
        refine mm_iconst 121 rfl (v := 1) dX8_isSoWith_120 (by decide) ?_
        refine mm_iadd 122 rfl dX8_isSoWith_121 ?_
        refine mm_iald 123 rfl dX8_isSoWith_122 h0.2.1 (fun h_18 => ?_)
        refine mm_iadd 124 rfl dX8_isSoWith_123 ?_
        refine mm_iald 125 rfl dX8_isSoWith_124 h0.2.2.2.2.2.2.1 (fun h_19 => ?_)
        refine mm_aload_n 126 rfl dX8_isSoWith_125 rfl 1 rfl ?_
        refine gt_X8_7 129 rfl dX8_isSoWith_126 hN ?_
        refine mm_iload 131 rfl dX8_isSoWith_129 0 rfl ?_
        refine mm_iconst 132 rfl (v := 2) dX8_isSoWith_131 (by decide) ?_
        refine mm_iadd 133 rfl dX8_isSoWith_132 ?_
        refine mm_iald 134 rfl dX8_isSoWith_133 h0.2.1 (fun h_20 => ?_)
        refine mm_icmp_ne 137 141 rfl dX8_isSoWith_134 (by decide) (fun h_21 => ?_) (fun h_21 => ?_)
        · refine mm_iconst 142 rfl (v := 0) dX8_isSoWith_141 (by decide) ?_
          refine mm_istore_n 143 rfl dX8_isSoWith_142 rfl (lv' := [(3, .int 0), (5, .int x5_15), (0, .ref (mm_ad G 0)), (4, .int x4)]) (by decide) rfl ?_
          refine mm_iinc 146 rfl dX8_isSoWith_143 3 rfl (v := (x4 + 1)) rfl (lv' := [(4, .int (x4 + 1)), (3, .int 0), (5, .int x5_15), (0, .ref (mm_ad G 0))]) (by decide) rfl ?_
          refine mm_goto 75 dX8_isSoWith_146 (by decide) ?_
          exact mm_lv [3, 1, 0] rfl (ih _ _ _)
        · refine mm_iconst 138 rfl (v := 1) dX8_isSoWith_137 (by decide) ?_
          refine mm_goto 142 dX8_isSoWith_138 (by decide) ?_
          refine mm_istore_n 143 rfl dX8_isSoWith_142 rfl (lv' := [(3, .int 1), (5, .int x5_15), (0, .ref (mm_ad G 0)), (4, .int x4)]) (by decide) rfl ?_
          refine mm_iinc 146 rfl dX8_isSoWith_143 3 rfl (v := (x4 + 1)) rfl (lv' := [(4, .int (x4 + 1)), (3, .int 1), (5, .int x5_15), (0, .ref (mm_ad G 0))]) (by decide) rfl ?_
          refine mm_goto 75 dX8_isSoWith_146 (by decide) ?_
          exact mm_lv [3, 1, 0] rfl (ih _ _ _)
noncomputable def fn_X8_isSoWith (c1 : Int32) (c2 : Int32) (M : mm_M) : Option (Int32 × mm_M) :=
  ((fn_X8_starts  M).bind fun z_1 => (if mm_in c1 57 then (mm_let (mm_up z_1 2 c1.toNatClampNeg c2) fun M_2 => fn_X8_isSoWith_L13  (fun M_12 => fn_X8_isSoWith_L75  (fun x3_22 M_23 => (if x3_22 = 0 ∨ x3_22 = 1 then some (x3_22, M_23) else none)) mm_fu 1 0 M_12) mm_fu 0 M_2) else none))
set_option maxRecDepth 20000 in
set_option maxHeartbeats 4000000 in
theorem ct_X8_isSoWith {l : Launch} {G : mm_G} {sh : mm_S} {M : mm_M} (c1 : Int32) (c2 : Int32) (h0 : mm_isMod G sh) : mm_K l G yX8_isSoWith (cX8_isSoWith, 6, RX8, (some .boolean), 6) [.ref (mm_ad G 0), .int c1, .int c2] (mm_fi sh) sh M (fn_X8_isSoWith c1 c2 M) := by
  refine mm_met (by decide +kernel) rfl (Nat.le_of_ble_eq_true rfl) (fun X hX => ?_)
  subst hX
  show mm_T X G (cX8_isSoWith, 6, RX8, (some .boolean), 6) (mm_fi sh) sh M 0 [(0, .ref (mm_ad G 0)), (1, .int c1), (2, .int c2)] [] (fn_X8_isSoWith c1 c2 M)
  unfold fn_X8_isSoWith
  obtain ⟨N, hN⟩ := h0.1
  refine mm_aload_n 1 rfl dX8_isSoWith_0 rfl 0 rfl ?_
  refine ca_X8_183 4 rfl dX8_isSoWith_1 hN (ct_X8_starts  h0) (by decide) (Nat.le_of_ble_eq_true rfl) (fun z_1 => ?_)
  refine mm_aload_n 5 rfl dX8_isSoWith_4 rfl 0 rfl ?_
  refine gt_X8_13 8 rfl dX8_isSoWith_5 hN ?_
  refine mm_iload_n 9 rfl dX8_isSoWith_8 rfl 1 rfl ?_
  refine mm_iload_n 10 rfl dX8_isSoWith_9 rfl 2 rfl ?_
  refine mm_iast 11 rfl dX8_isSoWith_10 h0.2.2.1 (fun h_3 => ?_)
  refine mm_bM (fun M_2 => ?_)
  refine mm_iconst 12 rfl (v := 0) dX8_isSoWith_11 (by decide) ?_
  refine mm_istore_n 13 rfl dX8_isSoWith_12 rfl (lv' := [(3, .int 0), (0, .ref (mm_ad G 0)), (1, .int c1), (2, .int c2)]) (by decide) rfl ?_
  refine mm_lv [1, 0] rfl (th_X8_isSoWith_L13 h0 (fun M_12 => ?_) mm_fu _ _)
  refine mm_iconst 71 rfl (v := 1) dX8_isSoWith_70 (by decide) ?_
  refine mm_istore_n 72 rfl dX8_isSoWith_71 rfl (lv' := [(3, .int 1), (0, .ref (mm_ad G 0))]) (by decide) rfl ?_
  refine mm_iconst 73 rfl (v := 0) dX8_isSoWith_72 (by decide) ?_
  refine mm_istore 75 rfl dX8_isSoWith_73 (lv' := [(4, .int 0), (3, .int 1), (0, .ref (mm_ad G 0))]) (by decide) rfl ?_
  refine mm_lv [2, 1, 0] rfl (th_X8_isSoWith_L75 h0 (fun x3_22 M_23 => ?_) mm_fu _ _ _)
  refine mm_iload_n 150 rfl dX8_isSoWith_149 rfl 0 rfl ?_
  exact mm_zret dX8_isSoWith_150 rfl rfl

-- MangleLineModel.which(II)I
noncomputable def fn_X8_which_L5 (c1 : Int32) (c2 : Int32) (k : Int32 → mm_M → Option (Int32 × mm_M)) : Nat → Int32 → Int32 → mm_M → Option (Int32 × mm_M)
  | 0, _, _, _ => none
  | n + 1, x3, x4, M => (if c2 < x4 then k x3 M else ((fn_X8_isSoWith c1 x4 M).bind fun z_2 => ((fn_X8_flag z_2.1 z_2.2).bind fun z_3 => mm_let (x3 ||| (z_3.1 <<< (x4 &&& 31))) fun x3_4 => fn_X8_which_L5 c1 c2 k n x3_4 (x4 + 1) z_3.2)))
set_option maxRecDepth 20000 in
set_option maxHeartbeats 4000000 in
theorem th_X8_which_L5 {X : mm_X} {G : mm_G} {sh : mm_S} {c1 : Int32} {c2 : Int32} {k : Int32 → mm_M → Option (Int32 × mm_M)} (h0 : mm_isMod G sh) (hk : ∀ (x3 : Int32) (M : mm_M), mm_T X G (cX8_which, 5, RX8, (some .int), 7) (mm_fi sh) sh M 33 [(3, .int x3)] [] (k x3 M)) : ∀ (n : Nat) (x3 : Int32) (x4 : Int32) (M : mm_M), mm_T X G (cX8_which, 5, RX8, (some .int), 7) (mm_fi sh) sh M 5 [(0, .ref (mm_ad G 0)), (1, .int c1), (2, .int c2), (3, .int x3), (4, .int x4)] [] (fn_X8_which_L5 c1 c2 k n x3 x4 M) := by
  intro n
  induction n with
  | zero => intro x3 x4 M; exact mm_none
  | succ n ih =>
    intro x3 x4 M
    rw [fn_X8_which_L5]
    obtain ⟨N, hN⟩ := h0.1
    refine mm_iload 7 rfl dX8_which_5 4 rfl ?_
    refine mm_iload_n 8 rfl dX8_which_7 rfl 2 rfl ?_
    refine mm_icmp_gt 11 33 rfl dX8_which_8 (by decide) (fun h_1 => ?_) (fun h_1 => ?_)
    · exact mm_lv [3] rfl (hk _ _)
    · refine mm_iload_n 12 rfl dX8_which_11 rfl 3 rfl ?_
      refine mm_aload_n 13 rfl dX8_which_12 rfl 0 rfl ?_
      refine mm_iload_n 14 rfl dX8_which_13 rfl 1 rfl ?_
      refine mm_iload 16 rfl dX8_which_14 4 rfl ?_
      refine ca_X8_277 19 rfl dX8_which_16 hN (ct_X8_isSoWith c1 x4 h0) (by decide) (Nat.le_of_ble_eq_true rfl) (fun z_2 => ?_)
      refine ca_X8_147 22 rfl dX8_which_19 (ct_X8_flag z_2.1 ) (by decide) (Nat.le_of_ble_eq_true rfl) (fun z_3 => ?_)
      refine mm_iload 24 rfl dX8_which_22 4 rfl ?_
      refine mm_ishl 25 rfl dX8_which_24 ?_
      refine mm_ior 26 rfl dX8_which_25 ?_
      refine mm_bI (fun x3_4 => ?_)
      refine mm_istore_n 27 rfl dX8_which_26 rfl (lv' := [(3, .int x3_4), (0, .ref (mm_ad G 0)), (1, .int c1), (2, .int c2), (4, .int x4)]) (by decide) rfl ?_
      refine mm_iinc 30 rfl dX8_which_27 4 rfl (v := (x4 + 1)) rfl (lv' := [(4, .int (x4 + 1)), (3, .int x3_4), (0, .ref (mm_ad G 0)), (1, .int c1), (2, .int c2)]) (by decide) rfl ?_
      refine mm_goto 5 dX8_which_30 (by decide) ?_
      exact mm_lv [2, 3, 4, 1, 0] rfl (ih _ _ _)
noncomputable def fn_X8_which (c1 : Int32) (c2 : Int32) (M : mm_M) : Option (Int32 × mm_M) :=
  fn_X8_which_L5 c1 c2 (fun x3_5 M_6 => some (x3_5, M_6)) mm_fu 0 0 M
set_option maxRecDepth 20000 in
set_option maxHeartbeats 4000000 in
theorem ct_X8_which {l : Launch} {G : mm_G} {sh : mm_S} {M : mm_M} (c1 : Int32) (c2 : Int32) (h0 : mm_isMod G sh) : mm_K l G yX8_which (cX8_which, 5, RX8, (some .int), 7) [.ref (mm_ad G 0), .int c1, .int c2] (mm_fi sh) sh M (fn_X8_which c1 c2 M) := by
  refine mm_met (by decide +kernel) rfl (Nat.le_of_ble_eq_true rfl) (fun X hX => ?_)
  subst hX
  show mm_T X G (cX8_which, 5, RX8, (some .int), 7) (mm_fi sh) sh M 0 [(0, .ref (mm_ad G 0)), (1, .int c1), (2, .int c2)] [] (fn_X8_which c1 c2 M)
  unfold fn_X8_which
  obtain ⟨N, hN⟩ := h0.1
  refine mm_iconst 1 rfl (v := 0) dX8_which_0 (by decide) ?_
  refine mm_istore_n 2 rfl dX8_which_1 rfl (lv' := [(3, .int 0), (0, .ref (mm_ad G 0)), (1, .int c1), (2, .int c2)]) (by decide) rfl ?_
  refine mm_iconst 3 rfl (v := 0) dX8_which_2 (by decide) ?_
  refine mm_istore 5 rfl dX8_which_3 (lv' := [(4, .int 0), (3, .int 0), (0, .ref (mm_ad G 0)), (1, .int c1), (2, .int c2)]) (by decide) rfl ?_
  refine mm_lv [2, 3, 4, 1, 0] rfl (th_X8_which_L5 h0 (fun x3_5 M_6 => ?_) mm_fu _ _ _)
  refine mm_iload_n 34 rfl dX8_which_33 rfl 0 rfl ?_
  exact mm_iret dX8_which_34 rfl rfl

-- MangleLineModel.kinds(I)I
noncomputable def fn_X8_kinds (c1 : Int32) (M : mm_M) : Option (Int32 × mm_M) :=
  ((fn_X8_isOne c1 M).bind fun z_1 => (if z_1.1 = 0 then some ((-1), z_1.2) else ((fn_X8_which ((4 * c1) + 0) 3 z_1.2).bind fun z_3 => some (z_3.1, z_3.2))))
set_option maxRecDepth 20000 in
set_option maxHeartbeats 4000000 in
theorem ct_X8_kinds {l : Launch} {G : mm_G} {sh : mm_S} {M : mm_M} (c1 : Int32) (h0 : mm_isMod G sh) : mm_K l G yX8_kinds (cX8_kinds, 2, RX8, (some .int), 8) [.ref (mm_ad G 0), .int c1] (mm_fi sh) sh M (fn_X8_kinds c1 M) := by
  refine mm_met (by decide +kernel) rfl (Nat.le_of_ble_eq_true rfl) (fun X hX => ?_)
  subst hX
  show mm_T X G (cX8_kinds, 2, RX8, (some .int), 8) (mm_fi sh) sh M 0 [(0, .ref (mm_ad G 0)), (1, .int c1)] [] (fn_X8_kinds c1 M)
  unfold fn_X8_kinds
  obtain ⟨N, hN⟩ := h0.1
  refine mm_aload_n 1 rfl dX8_kinds_0 rfl 0 rfl ?_
  refine mm_iload_n 2 rfl dX8_kinds_1 rfl 1 rfl ?_
  refine ca_X8_191 5 rfl dX8_kinds_2 hN (ct_X8_isOne c1 h0) (by decide) (Nat.le_of_ble_eq_true rfl) (fun z_1 => ?_)
  refine mm_if_eq 8 21 rfl dX8_kinds_5 (by decide) (fun h_2 => ?_) (fun h_2 => ?_)
  · refine mm_iconst 22 rfl (v := (-1)) dX8_kinds_21 (by decide) ?_
    exact mm_iret dX8_kinds_22 rfl rfl
  · refine mm_aload_n 9 rfl dX8_kinds_8 rfl 0 rfl ?_
    refine mm_iconst 10 rfl (v := 4) dX8_kinds_9 (by decide) ?_
    refine mm_iload_n 11 rfl dX8_kinds_10 rfl 1 rfl ?_
    refine mm_imul 12 rfl dX8_kinds_11 ?_
    refine mm_iconst 13 rfl (v := 0) dX8_kinds_12 (by decide) ?_
    refine mm_iadd 14 rfl dX8_kinds_13 ?_
    refine mm_iconst 15 rfl (v := 3) dX8_kinds_14 (by decide) ?_
    refine ca_X8_281 18 rfl dX8_kinds_15 hN (ct_X8_which ((4 * c1) + 0) 3 h0) (by decide) (Nat.le_of_ble_eq_true rfl) (fun z_3 => ?_)
    refine mm_goto 22 dX8_kinds_18 (by decide) ?_
    exact mm_iret dX8_kinds_22 rfl rfl

-- MangleLineModel.greys(I)I
noncomputable def fn_X8_greys (c1 : Int32) (M : mm_M) : Option (Int32 × mm_M) :=
  ((fn_X8_isOne c1 M).bind fun z_1 => (if z_1.1 = 0 then some ((-1), z_1.2) else ((fn_X8_which ((4 * c1) + 1) 30 z_1.2).bind fun z_3 => some (z_3.1, z_3.2))))
set_option maxRecDepth 20000 in
set_option maxHeartbeats 4000000 in
theorem ct_X8_greys {l : Launch} {G : mm_G} {sh : mm_S} {M : mm_M} (c1 : Int32) (h0 : mm_isMod G sh) : mm_K l G yX8_greys (cX8_greys, 2, RX8, (some .int), 8) [.ref (mm_ad G 0), .int c1] (mm_fi sh) sh M (fn_X8_greys c1 M) := by
  refine mm_met (by decide +kernel) rfl (Nat.le_of_ble_eq_true rfl) (fun X hX => ?_)
  subst hX
  show mm_T X G (cX8_greys, 2, RX8, (some .int), 8) (mm_fi sh) sh M 0 [(0, .ref (mm_ad G 0)), (1, .int c1)] [] (fn_X8_greys c1 M)
  unfold fn_X8_greys
  obtain ⟨N, hN⟩ := h0.1
  refine mm_aload_n 1 rfl dX8_greys_0 rfl 0 rfl ?_
  refine mm_iload_n 2 rfl dX8_greys_1 rfl 1 rfl ?_
  refine ca_X8_191 5 rfl dX8_greys_2 hN (ct_X8_isOne c1 h0) (by decide) (Nat.le_of_ble_eq_true rfl) (fun z_1 => ?_)
  refine mm_if_eq 8 22 rfl dX8_greys_5 (by decide) (fun h_2 => ?_) (fun h_2 => ?_)
  · refine mm_iconst 23 rfl (v := (-1)) dX8_greys_22 (by decide) ?_
    exact mm_iret dX8_greys_23 rfl rfl
  · refine mm_aload_n 9 rfl dX8_greys_8 rfl 0 rfl ?_
    refine mm_iconst 10 rfl (v := 4) dX8_greys_9 (by decide) ?_
    refine mm_iload_n 11 rfl dX8_greys_10 rfl 1 rfl ?_
    refine mm_imul 12 rfl dX8_greys_11 ?_
    refine mm_iconst 13 rfl (v := 1) dX8_greys_12 (by decide) ?_
    refine mm_iadd 14 rfl dX8_greys_13 ?_
    refine mm_bipush 16 rfl (v := 30) dX8_greys_14 (by decide) ?_
    refine ca_X8_281 19 rfl dX8_greys_16 hN (ct_X8_which ((4 * c1) + 1) 30 h0) (by decide) (Nat.le_of_ble_eq_true rfl) (fun z_3 => ?_)
    refine mm_goto 23 dX8_greys_19 (by decide) ?_
    exact mm_iret dX8_greys_23 rfl rfl

-- MangleLineModel.ask(II)I
noncomputable def fn_X8_ask_L22 (c1 : Int32) (c2 : Int32) (c3 : Int32) (k : mm_M → Option (Int32 × mm_M)) : Nat → Int32 → mm_M → Option (Int32 × mm_M)
  | 0, _, _ => none
  | n + 1, x4, M => (if 378 ≤ x4 then k  M else (if mm_in x4 378 then (mm_let (mm_up M 7 x4.toNatClampNeg 0) fun M_6 => fn_X8_ask_L22 c1 c2 c3 k n (x4 + 1) M_6) else none))
set_option maxRecDepth 20000 in
set_option maxHeartbeats 4000000 in
theorem th_X8_ask_L22 {X : mm_X} {G : mm_G} {sh : mm_S} {c1 : Int32} {c2 : Int32} {c3 : Int32} {k : mm_M → Option (Int32 × mm_M)} (h0 : mm_isMod G sh) (hk : ∀ (M : mm_M), mm_T X G (cX8_ask, 7, RX8, (some .int), 7) (mm_fi sh) sh M 44 [(0, .ref (mm_ad G 0)), (1, .int c1), (2, .int c2), (3, .int c3)] [] (k  M)) : ∀ (n : Nat) (x4 : Int32) (M : mm_M), mm_T X G (cX8_ask, 7, RX8, (some .int), 7) (mm_fi sh) sh M 22 [(0, .ref (mm_ad G 0)), (1, .int c1), (2, .int c2), (3, .int c3), (4, .int x4)] [] (fn_X8_ask_L22 c1 c2 c3 k n x4 M) := by
  intro n
  induction n with
  | zero => intro x4 M; exact mm_none
  | succ n ih =>
    intro x4 M
    rw [fn_X8_ask_L22]
    obtain ⟨N, hN⟩ := h0.1
    refine mm_iload 24 rfl dX8_ask_22 4 rfl ?_
    refine mm_sipush 27 rfl (v := 378) dX8_ask_24 (by decide) ?_
    refine mm_icmp_ge 30 44 rfl dX8_ask_27 (by decide) (fun h_5 => ?_) (fun h_5 => ?_)
    · exact mm_lv [0, 1, 2, 3] rfl (hk _)
    · refine mm_aload_n 31 rfl dX8_ask_30 rfl 0 rfl ?_
      refine gt_X8_29 34 rfl dX8_ask_31 hN ?_
      refine mm_iload 36 rfl dX8_ask_34 4 rfl ?_
      refine mm_iconst 37 rfl (v := 0) dX8_ask_36 (by decide) ?_
      refine mm_iast 38 rfl dX8_ask_37 h0.2.2.2.2.2.2.2.1 (fun h_7 => ?_)
      refine mm_bM (fun M_6 => ?_)
      refine mm_iinc 41 rfl dX8_ask_38 4 rfl (v := (x4 + 1)) rfl (lv' := [(4, .int (x4 + 1)), (0, .ref (mm_ad G 0)), (1, .int c1), (2, .int c2), (3, .int c3)]) (by decide) rfl ?_
      refine mm_goto 22 dX8_ask_41 (by decide) ?_
      exact mm_lv [1, 2, 3, 4, 0] rfl (ih _ _)
noncomputable def fn_X8_ask_L71 (c1 : Int32) (c2 : Int32) (c3 : Int32) (c4 : Int32) (k : mm_M → Option (Int32 × mm_M)) : Nat → Int32 → mm_M → Option (Int32 × mm_M)
  | 0, _, _ => none
  | n + 1, x5, M => (if 126 ≤ x5 then k  M else (if (M 1 24) ≤ (x5 - x5 / 6 * 6) then (if mm_in ((3 * x5) + 0) 378 then mm_let (mm_up M 7 ((3 * x5) + 0).toNatClampNeg ((M 7 ((3 * x5) + 0).toNatClampNeg) + 1)) fun M_16 => fn_X8_ask_L71 c1 c2 c3 c4 k n (x5 + 1) M_16 else none) else (if mm_in x5 126 then (if mm_in ((3 * x5) + (M 6 x5.toNatClampNeg)) 378 then mm_let (mm_up M 7 ((3 * x5) + (M 6 x5.toNatClampNeg)).toNatClampNeg ((M 7 ((3 * x5) + (M 6 x5.toNatClampNeg)).toNatClampNeg) + 1)) fun M_19 => fn_X8_ask_L71 c1 c2 c3 c4 k n (x5 + 1) M_19 else none) else none)))
set_option maxRecDepth 20000 in
set_option maxHeartbeats 4000000 in
theorem th_X8_ask_L71 {X : mm_X} {G : mm_G} {sh : mm_S} {c1 : Int32} {c2 : Int32} {c3 : Int32} {c4 : Int32} {k : mm_M → Option (Int32 × mm_M)} (h0 : mm_isMod G sh) (hk : ∀ (M : mm_M), mm_T X G (cX8_ask, 7, RX8, (some .int), 7) (mm_fi sh) sh M 124 [(0, .ref (mm_ad G 0)), (1, .int c1), (2, .int c2), (3, .int c3), (4, .int c4)] [] (k  M)) : ∀ (n : Nat) (x5 : Int32) (M : mm_M), mm_T X G (cX8_ask, 7, RX8, (some .int), 7) (mm_fi sh) sh M 71 [(0, .ref (mm_ad G 0)), (1, .int c1), (2, .int c2), (3, .int c3), (4, .int c4), (5, .int x5)] [] (fn_X8_ask_L71 c1 c2 c3 c4 k n x5 M) := by
  intro n
  induction n with
  | zero => intro x5 M; exact mm_none
  | succ n ih =>
    intro x5 M
    rw [fn_X8_ask_L71]
    obtain ⟨N, hN⟩ := h0.1
    refine mm_iload 73 rfl dX8_ask_71 5 rfl ?_
    refine mm_bipush 75 rfl (v := 126) dX8_ask_73 (by decide) ?_
    refine mm_icmp_ge 78 124 rfl dX8_ask_75 (by decide) (fun h_13 => ?_) (fun h_13 => ?_)
    · exact mm_lv [0, 1, 2, 3, 4] rfl (hk _)
    · refine mm_aload_n 79 rfl dX8_ask_78 rfl 0 rfl ?_
      refine gt_X8_29 82 rfl dX8_ask_79 hN ?_
      refine mm_iconst 83 rfl (v := 3) dX8_ask_82 (by decide) ?_
      refine mm_iload 85 rfl dX8_ask_83 5 rfl ?_
      refine mm_imul 86 rfl dX8_ask_85 ?_
      refine mm_iload 88 rfl dX8_ask_86 5 rfl ?_
      refine mm_bipush 90 rfl (v := 6) dX8_ask_88 (by decide) ?_
      refine mm_irem 91 rfl dX8_ask_90 (by decide) ?_
      refine mm_aload_n 92 rfl dX8_ask_91 rfl 0 rfl ?_
      refine gt_X8_7 95 rfl dX8_ask_92 hN ?_
      refine mm_bipush 97 rfl (v := 24) dX8_ask_95 (by decide) ?_
      refine mm_ialdK 98 rfl dX8_ask_97 h0.2.1 (by decide) 24 (by decide) ?_
      refine mm_icmp_ge 101 111 rfl dX8_ask_98 (by decide) (fun h_14 => ?_) (fun h_14 => ?_)
      · refine mm_iconst 112 rfl (v := 0) dX8_ask_111 (by decide) ?_
        refine mm_iadd 113 rfl dX8_ask_112 ?_
        refine mm_dup2 114 rfl dX8_ask_113 rfl rfl ?_
        refine mm_iald 115 rfl dX8_ask_114 h0.2.2.2.2.2.2.2.1 (fun h_15 => ?_)
        refine mm_iconst 116 rfl (v := 1) dX8_ask_115 (by decide) ?_
        refine mm_iadd 117 rfl dX8_ask_116 ?_
        refine mm_iastK 118 rfl dX8_ask_117 h0.2.2.2.2.2.2.2.1 h_15 _ rfl ?_
        refine mm_bM (fun M_16 => ?_)
        refine mm_iinc 121 rfl dX8_ask_118 5 rfl (v := (x5 + 1)) rfl (lv' := [(5, .int (x5 + 1)), (0, .ref (mm_ad G 0)), (1, .int c1), (2, .int c2), (3, .int c3), (4, .int c4)]) (by decide) rfl ?_
        refine mm_goto 71 dX8_ask_121 (by decide) ?_
        exact mm_lv [1, 2, 3, 4, 5, 0] rfl (ih _ _)
      · refine mm_aload_n 102 rfl dX8_ask_101 rfl 0 rfl ?_
        refine gt_X8_26 105 rfl dX8_ask_102 hN ?_
        refine mm_iload 107 rfl dX8_ask_105 5 rfl ?_
        refine mm_iald 108 rfl dX8_ask_107 h0.2.2.2.2.2.2.1 (fun h_17 => ?_)
        refine mm_goto 112 dX8_ask_108 (by decide) ?_
        refine mm_iadd 113 rfl dX8_ask_112 ?_
        refine mm_dup2 114 rfl dX8_ask_113 rfl rfl ?_
        refine mm_iald 115 rfl dX8_ask_114 h0.2.2.2.2.2.2.2.1 (fun h_18 => ?_)
        refine mm_iconst 116 rfl (v := 1) dX8_ask_115 (by decide) ?_
        refine mm_iadd 117 rfl dX8_ask_116 ?_
        refine mm_iastK 118 rfl dX8_ask_117 h0.2.2.2.2.2.2.2.1 h_18 _ rfl ?_
        refine mm_bM (fun M_19 => ?_)
        refine mm_iinc 121 rfl dX8_ask_118 5 rfl (v := (x5 + 1)) rfl (lv' := [(5, .int (x5 + 1)), (0, .ref (mm_ad G 0)), (1, .int c1), (2, .int c2), (3, .int c3), (4, .int c4)]) (by decide) rfl ?_
        refine mm_goto 71 dX8_ask_121 (by decide) ?_
        exact mm_lv [1, 2, 3, 4, 5, 0] rfl (ih _ _)
noncomputable def fn_X8_ask_L47 (c1 : Int32) (c2 : Int32) (k : Int32 → mm_M → Option (Int32 × mm_M)) : Nat → Int32 → Int32 → mm_M → Option (Int32 × mm_M)
  | 0, _, _, _ => none
  | n + 1, x3, x4, M => (if 30 < x4 then k x3 M else ((fn_X8_isSoWith ((4 * c1) + 1) x4 M).bind fun z_11 => (if z_11.1 = 0 then fn_X8_ask_L47 c1 c2 k n x3 (x4 + 1) z_11.2 else fn_X8_ask_L71 c1 c2 x3 x4 (fun M_20 => fn_X8_ask_L47 c1 c2 k n (x3 + 1) (x4 + 1) M_20) mm_fu 0 z_11.2)))
set_option maxRecDepth 20000 in
set_option maxHeartbeats 4000000 in
theorem th_X8_ask_L47 {X : mm_X} {G : mm_G} {sh : mm_S} {c1 : Int32} {c2 : Int32} {k : Int32 → mm_M → Option (Int32 × mm_M)} (h0 : mm_isMod G sh) (hk : ∀ (x3 : Int32) (M : mm_M), mm_T X G (cX8_ask, 7, RX8, (some .int), 7) (mm_fi sh) sh M 133 [(0, .ref (mm_ad G 0)), (2, .int c2), (3, .int x3)] [] (k x3 M)) : ∀ (n : Nat) (x3 : Int32) (x4 : Int32) (M : mm_M), mm_T X G (cX8_ask, 7, RX8, (some .int), 7) (mm_fi sh) sh M 47 [(0, .ref (mm_ad G 0)), (1, .int c1), (2, .int c2), (3, .int x3), (4, .int x4)] [] (fn_X8_ask_L47 c1 c2 k n x3 x4 M) := by
  intro n
  induction n with
  | zero => intro x3 x4 M; exact mm_none
  | succ n ih =>
    intro x3 x4 M
    rw [fn_X8_ask_L47]
    obtain ⟨N, hN⟩ := h0.1
    refine mm_iload 49 rfl dX8_ask_47 4 rfl ?_
    refine mm_bipush 51 rfl (v := 30) dX8_ask_49 (by decide) ?_
    refine mm_icmp_gt 54 133 rfl dX8_ask_51 (by decide) (fun h_10 => ?_) (fun h_10 => ?_)
    · exact mm_lv [0, 2, 3] rfl (hk _ _)
    · refine mm_aload_n 55 rfl dX8_ask_54 rfl 0 rfl ?_
      refine mm_iconst 56 rfl (v := 4) dX8_ask_55 (by decide) ?_
      refine mm_iload_n 57 rfl dX8_ask_56 rfl 1 rfl ?_
      refine mm_imul 58 rfl dX8_ask_57 ?_
      refine mm_iconst 59 rfl (v := 1) dX8_ask_58 (by decide) ?_
      refine mm_iadd 60 rfl dX8_ask_59 ?_
      refine mm_iload 62 rfl dX8_ask_60 4 rfl ?_
      refine ca_X8_277 65 rfl dX8_ask_62 hN (ct_X8_isSoWith ((4 * c1) + 1) x4 h0) (by decide) (Nat.le_of_ble_eq_true rfl) (fun z_11 => ?_)
      refine mm_if_eq 68 127 rfl dX8_ask_65 (by decide) (fun h_12 => ?_) (fun h_12 => ?_)
      · refine mm_iinc 130 rfl dX8_ask_127 4 rfl (v := (x4 + 1)) rfl (lv' := [(4, .int (x4 + 1)), (0, .ref (mm_ad G 0)), (1, .int c1), (2, .int c2), (3, .int x3)]) (by decide) rfl ?_
        refine mm_goto 47 dX8_ask_130 (by decide) ?_
        exact mm_lv [1, 2, 3, 4, 0] rfl (ih _ _ _)
      · refine mm_iconst 69 rfl (v := 0) dX8_ask_68 (by decide) ?_
        refine mm_istore 71 rfl dX8_ask_69 (lv' := [(5, .int 0), (0, .ref (mm_ad G 0)), (1, .int c1), (2, .int c2), (3, .int x3), (4, .int x4)]) (by decide) rfl ?_
        refine mm_lv [1, 2, 3, 4, 5, 0] rfl (th_X8_ask_L71 h0 (fun M_20 => ?_) mm_fu _ _)
        refine mm_iinc 127 rfl dX8_ask_124 3 rfl (v := (x3 + 1)) rfl (lv' := [(3, .int (x3 + 1)), (0, .ref (mm_ad G 0)), (1, .int c1), (2, .int c2), (4, .int x4)]) (by decide) rfl ?_
        refine mm_iinc 130 rfl dX8_ask_127 4 rfl (v := (x4 + 1)) rfl (lv' := [(4, .int (x4 + 1)), (3, .int (x3 + 1)), (0, .ref (mm_ad G 0)), (1, .int c1), (2, .int c2)]) (by decide) rfl ?_
        refine mm_goto 47 dX8_ask_130 (by decide) ?_
        exact mm_lv [2, 3, 4, 1, 0] rfl (ih _ _ _)
noncomputable def fn_X8_ask_L154 (c2 : Int32) (c4 : Int32) (k : Int32 → mm_M → Option (Int32 × mm_M)) : Nat → Int32 → Int32 → mm_M → Option (Int32 × mm_M)
  | 0, _, _, _ => none
  | n + 1, x5, x6, M => (if 2 < x6 then k x5 M else (if mm_in ((3 * c4) + x6) 378 then (if (M 7 ((3 * c4) + x6).toNatClampNeg) ≤ x5 then fn_X8_ask_L154 c2 c4 k n x5 (x6 + 1) M else mm_let (M 7 ((3 * c4) + x6).toNatClampNeg) fun x5_30 => fn_X8_ask_L154 c2 c4 k n x5_30 (x6 + 1) M) else none))
set_option maxRecDepth 20000 in
set_option maxHeartbeats 4000000 in
theorem th_X8_ask_L154 {X : mm_X} {G : mm_G} {sh : mm_S} {c2 : Int32} {c4 : Int32} {k : Int32 → mm_M → Option (Int32 × mm_M)} (h0 : mm_isMod G sh) (hk : ∀ (x5 : Int32) (M : mm_M), mm_T X G (cX8_ask, 7, RX8, (some .int), 7) (mm_fi sh) sh M 202 [(0, .ref (mm_ad G 0)), (2, .int c2), (4, .int c4), (5, .int x5)] [] (k x5 M)) : ∀ (n : Nat) (x5 : Int32) (x6 : Int32) (M : mm_M), mm_T X G (cX8_ask, 7, RX8, (some .int), 7) (mm_fi sh) sh M 154 [(0, .ref (mm_ad G 0)), (2, .int c2), (4, .int c4), (5, .int x5), (6, .int x6)] [] (fn_X8_ask_L154 c2 c4 k n x5 x6 M) := by
  intro n
  induction n with
  | zero => intro x5 x6 M; exact mm_none
  | succ n ih =>
    intro x5 x6 M
    rw [fn_X8_ask_L154]
    obtain ⟨N, hN⟩ := h0.1
    refine mm_iload 156 rfl dX8_ask_154 4 rfl ?_
    refine mm_iconst 157 rfl (v := 2) dX8_ask_156 (by decide) ?_
    refine mm_icmp_gt 160 202 rfl dX8_ask_157 (by decide) (fun h_27 => ?_) (fun h_27 => ?_)
    · exact mm_lv [0, 1, 2, 3] rfl (hk _ _)
    · refine mm_aload_n 161 rfl dX8_ask_160 rfl 0 rfl ?_
      refine gt_X8_29 164 rfl dX8_ask_161 hN ?_
      refine mm_iconst 165 rfl (v := 3) dX8_ask_164 (by decide) ?_
      refine mm_iload 167 rfl dX8_ask_165 2 rfl ?_
      refine mm_imul 168 rfl dX8_ask_167 ?_
      refine mm_iload 170 rfl dX8_ask_168 4 rfl ?_
      refine mm_iadd 171 rfl dX8_ask_170 ?_
      refine mm_iald 172 rfl dX8_ask_171 h0.2.2.2.2.2.2.2.1 (fun h_28 => ?_)
      refine mm_iload 174 rfl dX8_ask_172 3 rfl ?_
      refine mm_icmp_le 177 192 rfl dX8_ask_174 (by decide) (fun h_29 => ?_) (fun h_29 => ?_)
      · refine mm_iload 194 rfl dX8_ask_192 3 rfl ?_
        refine mm_istore 196 rfl dX8_ask_194 (lv' := [(5, .int x5), (0, .ref (mm_ad G 0)), (2, .int c2), (4, .int c4), (6, .int x6)]) (by decide) rfl ?_
        refine mm_iinc 199 rfl dX8_ask_196 4 rfl (v := (x6 + 1)) rfl (lv' := [(6, .int (x6 + 1)), (5, .int x5), (0, .ref (mm_ad G 0)), (2, .int c2), (4, .int c4)]) (by decide) rfl ?_
        refine mm_goto 154 dX8_ask_199 (by decide) ?_
        exact mm_lv [2, 3, 4, 1, 0] rfl (ih _ _ _)
      · refine mm_aload_n 178 rfl dX8_ask_177 rfl 0 rfl ?_
        refine gt_X8_29 181 rfl dX8_ask_178 hN ?_
        refine mm_iconst 182 rfl (v := 3) dX8_ask_181 (by decide) ?_
        refine mm_iload 184 rfl dX8_ask_182 2 rfl ?_
        refine mm_imul 185 rfl dX8_ask_184 ?_
        refine mm_iload 187 rfl dX8_ask_185 4 rfl ?_
        refine mm_iadd 188 rfl dX8_ask_187 ?_
        refine mm_ialdK 189 rfl dX8_ask_188 h0.2.2.2.2.2.2.2.1 h_28 _ rfl ?_
        refine mm_goto 194 dX8_ask_189 (by decide) ?_
        refine mm_bI (fun x5_30 => ?_)
        refine mm_istore 196 rfl dX8_ask_194 (lv' := [(5, .int x5_30), (0, .ref (mm_ad G 0)), (2, .int c2), (4, .int c4), (6, .int x6)]) (by decide) rfl ?_
        refine mm_iinc 199 rfl dX8_ask_196 4 rfl (v := (x6 + 1)) rfl (lv' := [(6, .int (x6 + 1)), (5, .int x5_30), (0, .ref (mm_ad G 0)), (2, .int c2), (4, .int c4)]) (by decide) rfl ?_
        refine mm_goto 154 dX8_ask_199 (by decide) ?_
        exact mm_lv [2, 3, 4, 1, 0] rfl (ih _ _ _)
noncomputable def fn_X8_ask_L141 (c2 : Int32) (k : mm_M → Option (Int32 × mm_M)) : Nat → Int32 → mm_M → Option (Int32 × mm_M)
  | 0, _, _ => none
  | n + 1, x4, M => (if 126 ≤ x4 then k  M else fn_X8_ask_L154 c2 x4 (fun x5_31 M_32 => (if (M_32 1 24) ≤ (x4 - x4 / 6 * 6) then fn_X8_ask_L141 c2 k n (x4 + 1) M_32 else ((fn_X8_judges ((10 * (x4 / 6)) + (x4 - x4 / 6 * 6)) x5_31 M_32).bind fun z_35 => fn_X8_ask_L141 c2 k n (x4 + 1) z_35))) mm_fu 0 0 M)
set_option maxRecDepth 20000 in
set_option maxHeartbeats 4000000 in
theorem th_X8_ask_L141 {X : mm_X} {G : mm_G} {sh : mm_S} {c2 : Int32} {k : mm_M → Option (Int32 × mm_M)} (h0 : mm_isMod G sh) (hk : ∀ (M : mm_M), mm_T X G (cX8_ask, 7, RX8, (some .int), 7) (mm_fi sh) sh M 243 [(0, .ref (mm_ad G 0)), (2, .int c2)] [] (k  M)) : ∀ (n : Nat) (x4 : Int32) (M : mm_M), mm_T X G (cX8_ask, 7, RX8, (some .int), 7) (mm_fi sh) sh M 141 [(0, .ref (mm_ad G 0)), (2, .int c2), (4, .int x4)] [] (fn_X8_ask_L141 c2 k n x4 M) := by
  intro n
  induction n with
  | zero => intro x4 M; exact mm_none
  | succ n ih =>
    intro x4 M
    rw [fn_X8_ask_L141]
    obtain ⟨N, hN⟩ := h0.1
    refine mm_iload 143 rfl dX8_ask_141 2 rfl ?_
    refine mm_bipush 145 rfl (v := 126) dX8_ask_143 (by decide) ?_
    refine mm_icmp_ge 148 243 rfl dX8_ask_145 (by decide) (fun h_26 => ?_) (fun h_26 => ?_)
    · exact mm_lv [0, 1] rfl (hk _)
    · refine mm_iconst 149 rfl (v := 0) dX8_ask_148 (by decide) ?_
      refine mm_istore 151 rfl dX8_ask_149 (lv' := [(5, .int 0), (0, .ref (mm_ad G 0)), (2, .int c2), (4, .int x4)]) (by decide) rfl ?_
      refine mm_iconst 152 rfl (v := 0) dX8_ask_151 (by decide) ?_
      refine mm_istore 154 rfl dX8_ask_152 (lv' := [(6, .int 0), (5, .int 0), (0, .ref (mm_ad G 0)), (2, .int c2), (4, .int x4)]) (by decide) rfl ?_
      refine mm_lv [2, 3, 4, 1, 0] rfl (th_X8_ask_L154 h0 (fun x5_31 M_32 => ?_) mm_fu _ _ _)
      refine mm_iload 204 rfl dX8_ask_202 2 rfl ?_
      refine mm_bipush 206 rfl (v := 6) dX8_ask_204 (by decide) ?_
      refine mm_irem 207 rfl dX8_ask_206 (by decide) ?_
      refine mm_aload_n 208 rfl dX8_ask_207 rfl 0 rfl ?_
      refine gt_X8_7 211 rfl dX8_ask_208 hN ?_
      refine mm_bipush 213 rfl (v := 24) dX8_ask_211 (by decide) ?_
      refine mm_ialdK 214 rfl dX8_ask_213 h0.2.1 (by decide) 24 (by decide) ?_
      refine mm_icmp_ge 217 237 rfl dX8_ask_214 (by decide) (fun h_34 => ?_) (fun h_34 => ?_)
      · refine mm_iinc 240 rfl dX8_ask_237 2 rfl (v := (x4 + 1)) rfl (lv' := [(4, .int (x4 + 1)), (0, .ref (mm_ad G 0)), (2, .int c2), (5, .int x5_31)]) (by decide) rfl ?_
        refine mm_goto 141 dX8_ask_240 (by decide) ?_
        exact mm_lv [1, 2, 0] rfl (ih _ _)
      · refine mm_aload_n 218 rfl dX8_ask_217 rfl 0 rfl ?_
        refine mm_bipush 220 rfl (v := 10) dX8_ask_218 (by decide) ?_
        refine mm_iload 222 rfl dX8_ask_220 2 rfl ?_
        refine mm_bipush 224 rfl (v := 6) dX8_ask_222 (by decide) ?_
        refine mm_idiv 225 rfl dX8_ask_224 (by decide) ?_
        refine mm_imul 226 rfl dX8_ask_225 ?_
        refine mm_iload 228 rfl dX8_ask_226 2 rfl ?_
        refine mm_bipush 230 rfl (v := 6) dX8_ask_228 (by decide) ?_
        refine mm_irem 231 rfl dX8_ask_230 (by decide) ?_
        refine mm_iadd 232 rfl dX8_ask_231 ?_
        refine mm_iload 234 rfl dX8_ask_232 3 rfl ?_
        refine ca_X8_244 237 rfl dX8_ask_234 hN (ct_X8_judges ((10 * (x4 / 6)) + (x4 - x4 / 6 * 6)) x5_31 h0) (by decide) (Nat.le_of_ble_eq_true rfl) (fun z_35 => ?_)
        refine mm_iinc 240 rfl dX8_ask_237 2 rfl (v := (x4 + 1)) rfl (lv' := [(4, .int (x4 + 1)), (0, .ref (mm_ad G 0)), (2, .int c2), (5, .int x5_31)]) (by decide) rfl ?_
        refine mm_goto 141 dX8_ask_240 (by decide) ?_
        exact mm_lv [1, 2, 0] rfl (ih _ _)
noncomputable def fn_X8_ask (c1 : Int32) (c2 : Int32) (M : mm_M) : Option (Int32 × mm_M) :=
  ((fn_X8_isOne c1 M).bind fun z_1 => (if z_1.1 = 0 then some ((-1), z_1.2) else ((fn_X8_isPart c2 z_1.2).bind fun z_3 => (if z_3.1 = 0 then some ((-1), z_3.2) else fn_X8_ask_L22 c1 c2 0 (fun M_8 => fn_X8_ask_L47 c1 c2 (fun x3_22 M_23 => ((fn_X8_startsJudging x3_22 M_23).bind fun z_25 => fn_X8_ask_L141 c2 (fun M_36 => ((fn_X8_judged c2 M_36).bind fun z_38 => some (z_38.1, z_38.2))) mm_fu 0 z_25)) mm_fu 0 0 M_8) mm_fu 0 z_3.2))))
set_option maxRecDepth 20000 in
set_option maxHeartbeats 4000000 in
theorem ct_X8_ask {l : Launch} {G : mm_G} {sh : mm_S} {M : mm_M} (c1 : Int32) (c2 : Int32) (h0 : mm_isMod G sh) : mm_K l G yX8_ask (cX8_ask, 7, RX8, (some .int), 7) [.ref (mm_ad G 0), .int c1, .int c2] (mm_fi sh) sh M (fn_X8_ask c1 c2 M) := by
  refine mm_met (by decide +kernel) rfl (Nat.le_of_ble_eq_true rfl) (fun X hX => ?_)
  subst hX
  show mm_T X G (cX8_ask, 7, RX8, (some .int), 7) (mm_fi sh) sh M 0 [(0, .ref (mm_ad G 0)), (1, .int c1), (2, .int c2)] [] (fn_X8_ask c1 c2 M)
  unfold fn_X8_ask
  obtain ⟨N, hN⟩ := h0.1
  refine mm_aload_n 1 rfl dX8_ask_0 rfl 0 rfl ?_
  refine mm_iload_n 2 rfl dX8_ask_1 rfl 1 rfl ?_
  refine ca_X8_191 5 rfl dX8_ask_2 hN (ct_X8_isOne c1 h0) (by decide) (Nat.le_of_ble_eq_true rfl) (fun z_1 => ?_)
  refine mm_if_eq 8 15 rfl dX8_ask_5 (by decide) (fun h_2 => ?_) (fun h_2 => ?_)
  · refine mm_iconst 16 rfl (v := (-1)) dX8_ask_15 (by decide) ?_
    exact mm_iret dX8_ask_16 rfl rfl
  · refine mm_iload_n 9 rfl dX8_ask_8 rfl 2 rfl ?_
    refine ca_X8_238 12 rfl dX8_ask_9 (ct_X8_isPart c2 ) (by decide) (Nat.le_of_ble_eq_true rfl) (fun z_3 => ?_)
    refine mm_if_ne 15 17 rfl dX8_ask_12 (by decide) (fun h_4 => ?_) (fun h_4 => ?_)
    · refine mm_iconst 18 rfl (v := 0) dX8_ask_17 (by decide) ?_
      refine mm_istore_n 19 rfl dX8_ask_18 rfl (lv' := [(3, .int 0), (0, .ref (mm_ad G 0)), (1, .int c1), (2, .int c2)]) (by decide) rfl ?_
      refine mm_iconst 20 rfl (v := 0) dX8_ask_19 (by decide) ?_
      refine mm_istore 22 rfl dX8_ask_20 (lv' := [(4, .int 0), (3, .int 0), (0, .ref (mm_ad G 0)), (1, .int c1), (2, .int c2)]) (by decide) rfl ?_
      refine mm_lv [2, 3, 4, 1, 0] rfl (th_X8_ask_L22 h0 (fun M_8 => ?_) mm_fu _ _)
      refine mm_iconst 45 rfl (v := 0) dX8_ask_44 (by decide) ?_
      refine mm_istore 47 rfl dX8_ask_45 (lv' := [(4, .int 0), (0, .ref (mm_ad G 0)), (1, .int c1), (2, .int c2), (3, .int 0)]) (by decide) rfl ?_
      refine mm_lv [1, 2, 3, 4, 0] rfl (th_X8_ask_L47 h0 (fun x3_22 M_23 => ?_) mm_fu _ _ _)
      refine mm_aload_n 134 rfl dX8_ask_133 rfl 0 rfl ?_
      refine mm_iload_n 135 rfl dX8_ask_134 rfl 2 rfl ?_
      refine ca_X8_241 138 rfl dX8_ask_135 hN (ct_X8_startsJudging x3_22 h0) (by decide) (Nat.le_of_ble_eq_true rfl) (fun z_25 => ?_)
      refine mm_iconst 139 rfl (v := 0) dX8_ask_138 (by decide) ?_
      refine mm_istore 141 rfl dX8_ask_139 (lv' := [(4, .int 0), (0, .ref (mm_ad G 0)), (2, .int c2), (3, .int x3_22)]) (by decide) rfl ?_
      refine mm_lv [1, 2, 0] rfl (th_X8_ask_L141 h0 (fun M_36 => ?_) mm_fu _ _)
      refine mm_aload_n 244 rfl dX8_ask_243 rfl 0 rfl ?_
      refine mm_iload_n 245 rfl dX8_ask_244 rfl 1 rfl ?_
      refine ca_X8_247 248 rfl dX8_ask_245 hN (ct_X8_judged c2 h0) (by decide) (Nat.le_of_ble_eq_true rfl) (fun z_38 => ?_)
      exact mm_iret dX8_ask_248 rfl rfl
    · refine mm_iconst 16 rfl (v := (-1)) dX8_ask_15 (by decide) ?_
      exact mm_iret dX8_ask_16 rfl rfl

-- MangleLineModel.drift(III)I
noncomputable def fn_X8_drift_L44 (c2 : Int32) (c3 : Int32) (k : mm_M → Option (Int32 × mm_M)) : Nat → Int32 → Int32 → mm_M → Option (Int32 × mm_M)
  | 0, _, _, _ => none
  | n + 1, x4, x5, M => (if c2 ≤ x5 then k  M else mm_let ((x4 * 1103515245) + 12345) fun x4_8 => mm_let ((x4_8 >>> (16 &&& 31)) &&& 32767) fun x6_9 => (if (M 1 24) = 0 then none else mm_let ((x6_9 / 16) - (x6_9 / 16) / (M 1 24) * (M 1 24)) fun x7_10 => ((fn_X8_of x7_10 1 M).bind fun z_11 => ((fn_X8_lesser 60 (z_11.1 + ((x6_9 / 128) - (x6_9 / 128) / 3 * 3)) z_11.2).bind fun z_12 => ((fn_X8_becomesOf x7_10 1 z_12.1 z_12.2).bind fun z_13 => ((fn_X8_dayGoesBy (x6_9 - x6_9 / 10 * 10) z_13).bind fun z_14 => fn_X8_drift_L44 c2 c3 k n x4_8 (x5 + 1) z_14))))))
set_option maxRecDepth 20000 in
set_option maxHeartbeats 4000000 in
theorem th_X8_drift_L44 {X : mm_X} {G : mm_G} {sh : mm_S} {c2 : Int32} {c3 : Int32} {k : mm_M → Option (Int32 × mm_M)} (h0 : mm_isMod G sh) (hk : ∀ (M : mm_M), mm_T X G (cX8_drift, 8, RX8, (some .int), 5) (mm_fi sh) sh M 131 [(0, .ref (mm_ad G 0)), (3, .int c3)] [] (k  M)) : ∀ (n : Nat) (x4 : Int32) (x5 : Int32) (M : mm_M), mm_T X G (cX8_drift, 8, RX8, (some .int), 5) (mm_fi sh) sh M 44 [(0, .ref (mm_ad G 0)), (2, .int c2), (3, .int c3), (4, .int x4), (5, .int x5)] [] (fn_X8_drift_L44 c2 c3 k n x4 x5 M) := by
  intro n
  induction n with
  | zero => intro x4 x5 M; exact mm_none
  | succ n ih =>
    intro x4 x5 M
    rw [fn_X8_drift_L44]
    obtain ⟨N, hN⟩ := h0.1
    refine mm_iload 46 rfl dX8_drift_44 4 rfl ?_
    refine mm_iload_n 47 rfl dX8_drift_46 rfl 1 rfl ?_
    refine mm_icmp_ge 50 131 rfl dX8_drift_47 (by decide) (fun h_7 => ?_) (fun h_7 => ?_)
    · exact mm_lv [0, 2] rfl (hk _)
    · refine mm_iload 52 rfl dX8_drift_50 3 rfl ?_
      refine mm_ldcw 55 rfl (v := 1103515245) dX8_drift_52 mw_6_2 ?_
      refine mm_imul 56 rfl dX8_drift_55 ?_
      refine mm_sipush 59 rfl (v := 12345) dX8_drift_56 (by decide) ?_
      refine mm_iadd 60 rfl dX8_drift_59 ?_
      refine mm_bI (fun x4_8 => ?_)
      refine mm_istore 62 rfl dX8_drift_60 (lv' := [(4, .int x4_8), (0, .ref (mm_ad G 0)), (2, .int c2), (3, .int c3), (5, .int x5)]) (by decide) rfl ?_
      refine mm_iload 64 rfl dX8_drift_62 0 rfl ?_
      refine mm_bipush 66 rfl (v := 16) dX8_drift_64 (by decide) ?_
      refine mm_ishr 67 rfl dX8_drift_66 ?_
      refine mm_sipush 70 rfl (v := 32767) dX8_drift_67 (by decide) ?_
      refine mm_iand 71 rfl dX8_drift_70 ?_
      refine mm_bI (fun x6_9 => ?_)
      refine mm_istore 73 rfl dX8_drift_71 (lv' := [(6, .int x6_9), (4, .int x4_8), (0, .ref (mm_ad G 0)), (2, .int c2), (3, .int c3), (5, .int x5)]) (by decide) rfl ?_
      refine mm_iload 75 rfl dX8_drift_73 0 rfl ?_
      refine mm_bipush 77 rfl (v := 16) dX8_drift_75 (by decide) ?_
      refine mm_idiv 78 rfl dX8_drift_77 (by decide) ?_
      refine mm_aload_n 79 rfl dX8_drift_78 rfl 2 rfl ?_
      refine gt_X8_7 82 rfl dX8_drift_79 hN ?_
      refine mm_bipush 84 rfl (v := 24) dX8_drift_82 (by decide) ?_
      refine mm_ialdK 85 rfl dX8_drift_84 h0.2.1 (by decide) 24 (by decide) ?_
      refine mm_iremU 86 rfl dX8_drift_85 (fun _ => ?_)
      refine mm_bI (fun x7_10 => ?_)
      refine mm_istore 88 rfl dX8_drift_86 (lv' := [(7, .int x7_10), (6, .int x6_9), (4, .int x4_8), (0, .ref (mm_ad G 0)), (2, .int c2), (3, .int c3), (5, .int x5)]) (by decide) rfl ?_
      refine mm_aload_n 89 rfl dX8_drift_88 rfl 3 rfl ?_
      refine mm_iload 91 rfl dX8_drift_89 0 rfl ?_
      refine mm_iconst 92 rfl (v := 1) dX8_drift_91 (by decide) ?_
      refine mm_bipush 94 rfl (v := 60) dX8_drift_92 (by decide) ?_
      refine mm_aload_n 95 rfl dX8_drift_94 rfl 3 rfl ?_
      refine mm_iload 97 rfl dX8_drift_95 0 rfl ?_
      refine mm_iconst 98 rfl (v := 1) dX8_drift_97 (by decide) ?_
      refine ca_X8_144 101 rfl dX8_drift_98 hN (ct_X8_of x7_10 1 h0) (by decide) (Nat.le_of_ble_eq_true rfl) (fun z_11 => ?_)
      refine mm_iload 103 rfl dX8_drift_101 1 rfl ?_
      refine mm_sipush 106 rfl (v := 128) dX8_drift_103 (by decide) ?_
      refine mm_idiv 107 rfl dX8_drift_106 (by decide) ?_
      refine mm_iconst 108 rfl (v := 3) dX8_drift_107 (by decide) ?_
      refine mm_irem 109 rfl dX8_drift_108 (by decide) ?_
      refine mm_iadd 110 rfl dX8_drift_109 ?_
      refine ca_X8_285 113 rfl dX8_drift_110 (ct_X8_lesser 60 (z_11.1 + ((x6_9 / 128) - (x6_9 / 128) / 3 * 3)) ) (by decide) (Nat.le_of_ble_eq_true rfl) (fun z_12 => ?_)
      refine ca_X8_160 116 rfl dX8_drift_113 hN (ct_X8_becomesOf x7_10 1 z_12.1 h0) (by decide) (Nat.le_of_ble_eq_true rfl) (fun z_13 => ?_)
      refine mm_aload_n 117 rfl dX8_drift_116 rfl 3 rfl ?_
      refine mm_iload 119 rfl dX8_drift_117 1 rfl ?_
      refine mm_bipush 121 rfl (v := 10) dX8_drift_119 (by decide) ?_
      refine mm_irem 122 rfl dX8_drift_121 (by decide) ?_
      refine ca_X8_180 125 rfl dX8_drift_122 hN (ct_X8_dayGoesBy (x6_9 - x6_9 / 10 * 10) h0) (by decide) (Nat.le_of_ble_eq_true rfl) (fun z_14 => ?_)
      refine mm_iinc 128 rfl dX8_drift_125 6 rfl (v := (x5 + 1)) rfl (lv' := [(5, .int (x5 + 1)), (7, .int x7_10), (6, .int x6_9), (4, .int x4_8), (0, .ref (mm_ad G 0)), (2, .int c2), (3, .int c3)]) (by decide) rfl ?_
      refine mm_goto 44 dX8_drift_128 (by decide) ?_
      exact mm_lv [4, 5, 6, 3, 0] rfl (ih _ _ _)
noncomputable def fn_X8_drift (c1 : Int32) (c2 : Int32) (c3 : Int32) (M : mm_M) : Option (Int32 × mm_M) :=
  ((fn_X8_in c2.toInt64 1 60 M).bind fun z_1 => (if z_1.1 = 0 then some ((-1), z_1.2) else ((fn_X8_isPart c3 z_1.2).bind fun z_3 => (if z_3.1 = 0 then some ((-1), z_3.2) else (if (z_3.2 1 24) = 0 then some ((-2), z_3.2) else ((fn_X8_starts  z_3.2).bind fun z_6 => fn_X8_drift_L44 c2 c3 (fun M_15 => (if c3 = 0 then ((fn_X8_manyAt 2 M_15).bind fun z_19 => some (z_19.1, z_19.2)) else ((fn_X8_sumOf 1 M_15).bind fun z_18 => some (z_18.1, z_18.2)))) mm_fu c1 0 z_6))))))
set_option maxRecDepth 20000 in
set_option maxHeartbeats 4000000 in
theorem ct_X8_drift {l : Launch} {G : mm_G} {sh : mm_S} {M : mm_M} (c1 : Int32) (c2 : Int32) (c3 : Int32) (h0 : mm_isMod G sh) : mm_K l G yX8_drift (cX8_drift, 8, RX8, (some .int), 5) [.ref (mm_ad G 0), .int c1, .int c2, .int c3] (mm_fi sh) sh M (fn_X8_drift c1 c2 c3 M) := by
  refine mm_met (by decide +kernel) rfl (Nat.le_of_ble_eq_true rfl) (fun X hX => ?_)
  subst hX
  show mm_T X G (cX8_drift, 8, RX8, (some .int), 5) (mm_fi sh) sh M 0 [(0, .ref (mm_ad G 0)), (1, .int c1), (2, .int c2), (3, .int c3)] [] (fn_X8_drift c1 c2 c3 M)
  unfold fn_X8_drift
  obtain ⟨N, hN⟩ := h0.1
  refine mm_iload_n 1 rfl dX8_drift_0 rfl 2 rfl ?_
  refine mm_i2l 2 rfl dX8_drift_1 ?_
  refine mm_lconst 3 rfl (v := 1) dX8_drift_2 (by decide) ?_
  refine mm_ldc2 6 rfl (v := 60) dX8_drift_3 mw_5_57 ?_
  refine ca_X8_59 9 rfl dX8_drift_6 (ct_X8_in c2.toInt64 1 60 ) (by decide) (Nat.le_of_ble_eq_true rfl) (fun z_1 => ?_)
  refine mm_if_eq 12 19 rfl dX8_drift_9 (by decide) (fun h_2 => ?_) (fun h_2 => ?_)
  · refine mm_iconst 20 rfl (v := (-1)) dX8_drift_19 (by decide) ?_
    exact mm_iret dX8_drift_20 rfl rfl
  · refine mm_iload_n 13 rfl dX8_drift_12 rfl 3 rfl ?_
    refine ca_X8_238 16 rfl dX8_drift_13 (ct_X8_isPart c3 ) (by decide) (Nat.le_of_ble_eq_true rfl) (fun z_3 => ?_)
    refine mm_if_ne 19 21 rfl dX8_drift_16 (by decide) (fun h_4 => ?_) (fun h_4 => ?_)
    · refine mm_aload_n 22 rfl dX8_drift_21 rfl 0 rfl ?_
      refine gt_X8_7 25 rfl dX8_drift_22 hN ?_
      refine mm_bipush 27 rfl (v := 24) dX8_drift_25 (by decide) ?_
      refine mm_ialdK 28 rfl dX8_drift_27 h0.2.1 (by decide) 24 (by decide) ?_
      refine mm_if_ne 31 34 rfl dX8_drift_28 (by decide) (fun h_5 => ?_) (fun h_5 => ?_)
      · refine mm_iload_n 35 rfl dX8_drift_34 rfl 1 rfl ?_
        refine mm_istore 37 rfl dX8_drift_35 (lv' := [(4, .int c1), (0, .ref (mm_ad G 0)), (1, .int c1), (2, .int c2), (3, .int c3)]) (by decide) rfl ?_
        refine mm_aload_n 38 rfl dX8_drift_37 rfl 1 rfl ?_
        refine ca_X8_183 41 rfl dX8_drift_38 hN (ct_X8_starts  h0) (by decide) (Nat.le_of_ble_eq_true rfl) (fun z_6 => ?_)
        refine mm_iconst 42 rfl (v := 0) dX8_drift_41 (by decide) ?_
        refine mm_istore 44 rfl dX8_drift_42 (lv' := [(5, .int 0), (4, .int c1), (0, .ref (mm_ad G 0)), (1, .int c1), (2, .int c2), (3, .int c3)]) (by decide) rfl ?_
        refine mm_lv [2, 4, 5, 1, 0] rfl (th_X8_drift_L44 h0 (fun M_15 => ?_) mm_fu _ _ _)
        refine mm_iload_n 132 rfl dX8_drift_131 rfl 1 rfl ?_
        refine mm_if_ne 135 143 rfl dX8_drift_132 (by decide) (fun h_17 => ?_) (fun h_17 => ?_)
        · refine mm_aload_n 144 rfl dX8_drift_143 rfl 0 rfl ?_
          refine mm_iconst 145 rfl (v := 1) dX8_drift_144 (by decide) ?_
          refine ca_X8_186 148 rfl dX8_drift_145 hN (ct_X8_sumOf 1 h0) (by decide) (Nat.le_of_ble_eq_true rfl) (fun z_18 => ?_)
          exact mm_iret dX8_drift_148 rfl rfl
        · refine mm_aload_n 136 rfl dX8_drift_135 rfl 0 rfl ?_
          refine mm_iconst 137 rfl (v := 2) dX8_drift_136 (by decide) ?_
          refine ca_X8_164 140 rfl dX8_drift_137 hN (ct_X8_manyAt 2 h0) (by decide) (Nat.le_of_ble_eq_true rfl) (fun z_19 => ?_)
          refine mm_goto 148 dX8_drift_140 (by decide) ?_
          exact mm_iret dX8_drift_148 rfl rfl
      · refine mm_bipush 33 rfl (v := (-2)) dX8_drift_31 (by decide) ?_
        exact mm_iret dX8_drift_33 rfl rfl
    · refine mm_iconst 20 rfl (v := (-1)) dX8_drift_19 (by decide) ?_
      exact mm_iret dX8_drift_20 rfl rfl

-- MangleLineModel.copies(II)V
noncomputable def fn_X8_copies_L2 (c1 : Int32) (c2 : Int32) (k : mm_M → Option mm_M) : Nat → Int32 → mm_M → Option mm_M
  | 0, _, _ => none
  | n + 1, x3, M => (if 57 ≤ x3 then k  M else (if mm_in (c2 + x3) 171 then (if mm_in (c1 + x3) 171 then (mm_let (mm_up M 1 (c1 + x3).toNatClampNeg (M 1 (c2 + x3).toNatClampNeg)) fun M_3 => fn_X8_copies_L2 c1 c2 k n (x3 + 1) M_3) else none) else none))
set_option maxRecDepth 20000 in
set_option maxHeartbeats 4000000 in
theorem th_X8_copies_L2 {X : mm_X} {G : mm_G} {sh : mm_S} {c1 : Int32} {c2 : Int32} {k : mm_M → Option mm_M} (h0 : mm_isMod G sh) (hk : ∀ (M : mm_M), mm_T X G (cX8_copies, 4, RX8, none, 1) (mm_fv sh) sh M 30 [] [] (k  M)) : ∀ (n : Nat) (x3 : Int32) (M : mm_M), mm_T X G (cX8_copies, 4, RX8, none, 1) (mm_fv sh) sh M 2 [(0, .ref (mm_ad G 0)), (1, .int c1), (2, .int c2), (3, .int x3)] [] (fn_X8_copies_L2 c1 c2 k n x3 M) := by
  intro n
  induction n with
  | zero => intro x3 M; exact mm_none
  | succ n ih =>
    intro x3 M
    rw [fn_X8_copies_L2]
    obtain ⟨N, hN⟩ := h0.1
    refine mm_iload_n 3 rfl dX8_copies_2 rfl 3 rfl ?_
    refine mm_bipush 5 rfl (v := 57) dX8_copies_3 (by decide) ?_
    refine mm_icmp_ge 8 30 rfl dX8_copies_5 (by decide) (fun h_1 => ?_) (fun h_1 => ?_)
    · exact mm_lv [] rfl (hk _)
    · refine mm_aload_n 9 rfl dX8_copies_8 rfl 0 rfl ?_
      refine gt_X8_7 12 rfl dX8_copies_9 hN ?_
      refine mm_iload_n 13 rfl dX8_copies_12 rfl 1 rfl ?_
      refine mm_iload_n 14 rfl dX8_copies_13 rfl 3 rfl ?_
      refine mm_iadd 15 rfl dX8_copies_14 ?_
      refine mm_aload_n 16 rfl dX8_copies_15 rfl 0 rfl ?_
      refine gt_X8_7 19 rfl dX8_copies_16 hN ?_
      refine mm_iload_n 20 rfl dX8_copies_19 rfl 2 rfl ?_
      refine mm_iload_n 21 rfl dX8_copies_20 rfl 3 rfl ?_
      refine mm_iadd 22 rfl dX8_copies_21 ?_
      refine mm_iald 23 rfl dX8_copies_22 h0.2.1 (fun h_2 => ?_)
      refine mm_iast 24 rfl dX8_copies_23 h0.2.1 (fun h_4 => ?_)
      refine mm_bM (fun M_3 => ?_)
      refine mm_iinc 27 rfl dX8_copies_24 3 rfl (v := (x3 + 1)) rfl (lv' := [(3, .int (x3 + 1)), (0, .ref (mm_ad G 0)), (1, .int c1), (2, .int c2)]) (by decide) rfl ?_
      refine mm_goto 2 dX8_copies_27 (by decide) ?_
      exact mm_lv [1, 2, 3, 0] rfl (ih _ _)
noncomputable def fn_X8_copies (c1 : Int32) (c2 : Int32) (M : mm_M) : Option mm_M :=
  fn_X8_copies_L2 c1 c2 (fun M_5 => some M_5) mm_fu 0 M
set_option maxRecDepth 20000 in
set_option maxHeartbeats 4000000 in
theorem ct_X8_copies {l : Launch} {G : mm_G} {sh : mm_S} {M : mm_M} (c1 : Int32) (c2 : Int32) (h0 : mm_isMod G sh) : mm_K l G yX8_copies (cX8_copies, 4, RX8, none, 1) [.ref (mm_ad G 0), .int c1, .int c2] (mm_fv sh) sh M (fn_X8_copies c1 c2 M) := by
  refine mm_met (by decide +kernel) rfl (Nat.le_of_ble_eq_true rfl) (fun X hX => ?_)
  subst hX
  show mm_T X G (cX8_copies, 4, RX8, none, 1) (mm_fv sh) sh M 0 [(0, .ref (mm_ad G 0)), (1, .int c1), (2, .int c2)] [] (fn_X8_copies c1 c2 M)
  unfold fn_X8_copies
  obtain ⟨N, hN⟩ := h0.1
  refine mm_iconst 1 rfl (v := 0) dX8_copies_0 (by decide) ?_
  refine mm_istore_n 2 rfl dX8_copies_1 rfl (lv' := [(3, .int 0), (0, .ref (mm_ad G 0)), (1, .int c1), (2, .int c2)]) (by decide) rfl ?_
  refine mm_lv [1, 2, 3, 0] rfl (th_X8_copies_L2 h0 (fun M_5 => ?_) mm_fu _ _)
  exact mm_vret dX8_copies_30 rfl rfl

-- MangleLineModel.keep(I)I
noncomputable def fn_X8_keep (c1 : Int32) (M : mm_M) : Option (Int32 × mm_M) :=
  ((fn_X8_in c1.toInt64 0 1 M).bind fun z_1 => (if z_1.1 = 0 then some ((-1), z_1.2) else (if mm_in c1 2 then ((fn_X8_flag (z_1.2 3 c1.toNatClampNeg) z_1.2).bind fun z_4 => mm_let z_4.1 fun x2_5 => mm_let (mm_up z_4.2 3 c1.toNatClampNeg 1) fun M_6 => ((fn_X8_copies (57 * (c1 + 1)) 0 M_6).bind fun z_7 => some (x2_5, z_7))) else none)))
set_option maxRecDepth 20000 in
set_option maxHeartbeats 4000000 in
theorem ct_X8_keep {l : Launch} {G : mm_G} {sh : mm_S} {M : mm_M} (c1 : Int32) (h0 : mm_isMod G sh) : mm_K l G yX8_keep (cX8_keep, 3, RX8, (some .int), 2) [.ref (mm_ad G 0), .int c1] (mm_fi sh) sh M (fn_X8_keep c1 M) := by
  refine mm_met (by decide +kernel) rfl (Nat.le_of_ble_eq_true rfl) (fun X hX => ?_)
  subst hX
  show mm_T X G (cX8_keep, 3, RX8, (some .int), 2) (mm_fi sh) sh M 0 [(0, .ref (mm_ad G 0)), (1, .int c1)] [] (fn_X8_keep c1 M)
  unfold fn_X8_keep
  obtain ⟨N, hN⟩ := h0.1
  refine mm_iload_n 1 rfl dX8_keep_0 rfl 1 rfl ?_
  refine mm_i2l 2 rfl dX8_keep_1 ?_
  refine mm_lconst 3 rfl (v := 0) dX8_keep_2 (by decide) ?_
  refine mm_lconst 4 rfl (v := 1) dX8_keep_3 (by decide) ?_
  refine ca_X8_59 7 rfl dX8_keep_4 (ct_X8_in c1.toInt64 0 1 ) (by decide) (Nat.le_of_ble_eq_true rfl) (fun z_1 => ?_)
  refine mm_if_ne 10 12 rfl dX8_keep_7 (by decide) (fun h_2 => ?_) (fun h_2 => ?_)
  · refine mm_aload_n 13 rfl dX8_keep_12 rfl 0 rfl ?_
    refine gt_X8_16 16 rfl dX8_keep_13 hN ?_
    refine mm_iload_n 17 rfl dX8_keep_16 rfl 1 rfl ?_
    refine mm_zald 18 rfl dX8_keep_17 h0.2.2.2.1 (fun h_3 => ?_)
    refine ca_X8_147 21 rfl dX8_keep_18 (ct_X8_flag (z_1.2 3 c1.toNatClampNeg) ) (by decide) (Nat.le_of_ble_eq_true rfl) (fun z_4 => ?_)
    refine mm_bI (fun x2_5 => ?_)
    refine mm_istore_n 22 rfl dX8_keep_21 rfl (lv' := [(2, .int x2_5), (0, .ref (mm_ad G 0)), (1, .int c1)]) (by decide) rfl ?_
    refine mm_aload_n 23 rfl dX8_keep_22 rfl 1 rfl ?_
    refine gt_X8_16 26 rfl dX8_keep_23 hN ?_
    refine mm_iload_n 27 rfl dX8_keep_26 rfl 2 rfl ?_
    refine mm_iconst 28 rfl (v := 1) dX8_keep_27 (by decide) ?_
    refine mm_zastK 29 rfl dX8_keep_28 h0.2.2.2.1 (by decide) h_3 _ rfl ?_
    refine mm_bM (fun M_6 => ?_)
    refine mm_aload_n 30 rfl dX8_keep_29 rfl 1 rfl ?_
    refine mm_bipush 32 rfl (v := 57) dX8_keep_30 (by decide) ?_
    refine mm_iload_n 33 rfl dX8_keep_32 rfl 2 rfl ?_
    refine mm_iconst 34 rfl (v := 1) dX8_keep_33 (by decide) ?_
    refine mm_iadd 35 rfl dX8_keep_34 ?_
    refine mm_imul 36 rfl dX8_keep_35 ?_
    refine mm_iconst 37 rfl (v := 0) dX8_keep_36 (by decide) ?_
    refine ca_X8_288 40 rfl dX8_keep_37 hN (ct_X8_copies (57 * (c1 + 1)) 0 h0) (by decide) (Nat.le_of_ble_eq_true rfl) (fun z_7 => ?_)
    refine mm_iload_n 41 rfl dX8_keep_40 rfl 0 rfl ?_
    exact mm_iret dX8_keep_41 rfl rfl
  · refine mm_iconst 11 rfl (v := (-1)) dX8_keep_10 (by decide) ?_
    exact mm_iret dX8_keep_11 rfl rfl

-- MangleLineModel.back(I)I
noncomputable def fn_X8_back (c1 : Int32) (M : mm_M) : Option (Int32 × mm_M) :=
  ((fn_X8_in c1.toInt64 0 1 M).bind fun z_1 => (if z_1.1 = 0 then some ((-1), z_1.2) else (if mm_in c1 2 then (if (z_1.2 3 c1.toNatClampNeg) = 0 then some ((-2), z_1.2) else ((fn_X8_copies 0 (57 * (c1 + 1)) z_1.2).bind fun z_5 => some ((z_5 1 37), z_5))) else none)))
set_option maxRecDepth 20000 in
set_option maxHeartbeats 4000000 in
theorem ct_X8_back {l : Launch} {G : mm_G} {sh : mm_S} {M : mm_M} (c1 : Int32) (h0 : mm_isMod G sh) : mm_K l G yX8_back (cX8_back, 2, RX8, (some .int), 2) [.ref (mm_ad G 0), .int c1] (mm_fi sh) sh M (fn_X8_back c1 M) := by
  refine mm_met (by decide +kernel) rfl (Nat.le_of_ble_eq_true rfl) (fun X hX => ?_)
  subst hX
  show mm_T X G (cX8_back, 2, RX8, (some .int), 2) (mm_fi sh) sh M 0 [(0, .ref (mm_ad G 0)), (1, .int c1)] [] (fn_X8_back c1 M)
  unfold fn_X8_back
  obtain ⟨N, hN⟩ := h0.1
  refine mm_iload_n 1 rfl dX8_back_0 rfl 1 rfl ?_
  refine mm_i2l 2 rfl dX8_back_1 ?_
  refine mm_lconst 3 rfl (v := 0) dX8_back_2 (by decide) ?_
  refine mm_lconst 4 rfl (v := 1) dX8_back_3 (by decide) ?_
  refine ca_X8_59 7 rfl dX8_back_4 (ct_X8_in c1.toInt64 0 1 ) (by decide) (Nat.le_of_ble_eq_true rfl) (fun z_1 => ?_)
  refine mm_if_ne 10 12 rfl dX8_back_7 (by decide) (fun h_2 => ?_) (fun h_2 => ?_)
  · refine mm_aload_n 13 rfl dX8_back_12 rfl 0 rfl ?_
    refine gt_X8_16 16 rfl dX8_back_13 hN ?_
    refine mm_iload_n 17 rfl dX8_back_16 rfl 1 rfl ?_
    refine mm_zald 18 rfl dX8_back_17 h0.2.2.2.1 (fun h_3 => ?_)
    refine mm_if_ne 21 24 rfl dX8_back_18 (by decide) (fun h_4 => ?_) (fun h_4 => ?_)
    · refine mm_aload_n 25 rfl dX8_back_24 rfl 0 rfl ?_
      refine mm_iconst 26 rfl (v := 0) dX8_back_25 (by decide) ?_
      refine mm_bipush 28 rfl (v := 57) dX8_back_26 (by decide) ?_
      refine mm_iload_n 29 rfl dX8_back_28 rfl 1 rfl ?_
      refine mm_iconst 30 rfl (v := 1) dX8_back_29 (by decide) ?_
      refine mm_iadd 31 rfl dX8_back_30 ?_
      refine mm_imul 32 rfl dX8_back_31 ?_
      refine ca_X8_288 35 rfl dX8_back_32 hN (ct_X8_copies 0 (57 * (c1 + 1)) h0) (by decide) (Nat.le_of_ble_eq_true rfl) (fun z_5 => ?_)
      refine mm_aload_n 36 rfl dX8_back_35 rfl 0 rfl ?_
      refine gt_X8_7 39 rfl dX8_back_36 hN ?_
      refine mm_bipush 41 rfl (v := 37) dX8_back_39 (by decide) ?_
      refine mm_ialdK 42 rfl dX8_back_41 h0.2.1 (by decide) 37 (by decide) ?_
      exact mm_iret dX8_back_42 rfl rfl
    · refine mm_bipush 23 rfl (v := (-2)) dX8_back_21 (by decide) ?_
      exact mm_iret dX8_back_23 rfl rfl
  · refine mm_iconst 11 rfl (v := (-1)) dX8_back_10 (by decide) ?_
    exact mm_iret dX8_back_11 rfl rfl

-- MangleLineModel.isSheet(II)Z
noncomputable def fn_X8_isSheet (c0 : Int32) (c1 : Int32) (M : mm_M) : Option (Int32 × mm_M) :=
  ((fn_X8_in c0.toInt64 0 3 M).bind fun z_1 => (if z_1.1 = 0 then some (0, z_1.2) else ((fn_X8_in c1.toInt64 0 2 z_1.2).bind fun z_3 => (if z_3.1 = 0 then some (0, z_3.2) else some (1, z_3.2)))))
set_option maxRecDepth 20000 in
set_option maxHeartbeats 4000000 in
theorem ct_X8_isSheet {l : Launch} {G : mm_G} {sh : mm_S} {M : mm_M} (c0 : Int32) (c1 : Int32) : mm_K l G yX8_isSheet (cX8_isSheet, 2, RX8, (some .boolean), 2) [.int c0, .int c1] (mm_fi sh) sh M (fn_X8_isSheet c0 c1 M) := by
  refine mm_met (by decide +kernel) rfl (Nat.le_of_ble_eq_true rfl) (fun X hX => ?_)
  subst hX
  show mm_T X G (cX8_isSheet, 2, RX8, (some .boolean), 2) (mm_fi sh) sh M 0 [(0, .int c0), (1, .int c1)] [] (fn_X8_isSheet c0 c1 M)
  unfold fn_X8_isSheet
  refine mm_iload_n 1 rfl dX8_isSheet_0 rfl 0 rfl ?_
  refine mm_i2l 2 rfl dX8_isSheet_1 ?_
  refine mm_lconst 3 rfl (v := 0) dX8_isSheet_2 (by decide) ?_
  refine mm_ldc2 6 rfl (v := 3) dX8_isSheet_3 mw_5_56 ?_
  refine ca_X8_59 9 rfl dX8_isSheet_6 (ct_X8_in c0.toInt64 0 3 ) (by decide) (Nat.le_of_ble_eq_true rfl) (fun z_1 => ?_)
  refine mm_if_eq 12 28 rfl dX8_isSheet_9 (by decide) (fun h_2 => ?_) (fun h_2 => ?_)
  · refine mm_iconst 29 rfl (v := 0) dX8_isSheet_28 (by decide) ?_
    exact mm_zretK dX8_isSheet_29 rfl rfl rfl
  · refine mm_iload_n 13 rfl dX8_isSheet_12 rfl 1 rfl ?_
    refine mm_i2l 14 rfl dX8_isSheet_13 ?_
    refine mm_lconst 15 rfl (v := 0) dX8_isSheet_14 (by decide) ?_
    refine mm_ldc2 18 rfl (v := 2) dX8_isSheet_15 mw_5_124 ?_
    refine ca_X8_59 21 rfl dX8_isSheet_18 (ct_X8_in c1.toInt64 0 2 ) (by decide) (Nat.le_of_ble_eq_true rfl) (fun z_3 => ?_)
    refine mm_if_eq 24 28 rfl dX8_isSheet_21 (by decide) (fun h_4 => ?_) (fun h_4 => ?_)
    · refine mm_iconst 29 rfl (v := 0) dX8_isSheet_28 (by decide) ?_
      exact mm_zretK dX8_isSheet_29 rfl rfl rfl
    · refine mm_iconst 25 rfl (v := 1) dX8_isSheet_24 (by decide) ?_
      refine mm_goto 29 dX8_isSheet_25 (by decide) ?_
      exact mm_zretK dX8_isSheet_29 rfl rfl rfl

-- MangleLineModel.sheet(III)I
noncomputable def fn_X8_sheet_L40 (c1 : Int32) (k : mm_M → Option (Int32 × mm_M)) : Nat → Int32 → mm_M → Option (Int32 × mm_M)
  | 0, _, _ => none
  | n + 1, x4, M => (if 40 ≤ x4 then k  M else (if mm_in ((40 * c1) + x4) 160 then (mm_let (mm_up M 10 ((40 * c1) + x4).toNatClampNeg 0) fun M_9 => fn_X8_sheet_L40 c1 k n (x4 + 1) M_9) else none))
set_option maxRecDepth 20000 in
set_option maxHeartbeats 4000000 in
theorem th_X8_sheet_L40 {X : mm_X} {G : mm_G} {sh : mm_S} {c1 : Int32} {k : mm_M → Option (Int32 × mm_M)} (h0 : mm_isMod G sh) (hk : ∀ (M : mm_M), mm_T X G (cX8_sheet, 5, RX8, (some .int), 3) (mm_fi sh) sh M 66 [] [] (k  M)) : ∀ (n : Nat) (x4 : Int32) (M : mm_M), mm_T X G (cX8_sheet, 5, RX8, (some .int), 3) (mm_fi sh) sh M 40 [(0, .ref (mm_ad G 0)), (1, .int c1), (4, .int x4)] [] (fn_X8_sheet_L40 c1 k n x4 M) := by
  intro n
  induction n with
  | zero => intro x4 M; exact mm_none
  | succ n ih =>
    intro x4 M
    rw [fn_X8_sheet_L40]
    obtain ⟨N, hN⟩ := h0.1
    refine mm_iload 42 rfl dX8_sheet_40 2 rfl ?_
    refine mm_bipush 44 rfl (v := 40) dX8_sheet_42 (by decide) ?_
    refine mm_icmp_ge 47 66 rfl dX8_sheet_44 (by decide) (fun h_8 => ?_) (fun h_8 => ?_)
    · exact mm_lv [] rfl (hk _)
    · refine mm_aload_n 48 rfl dX8_sheet_47 rfl 0 rfl ?_
      refine gt_X8_38 51 rfl dX8_sheet_48 hN ?_
      refine mm_bipush 53 rfl (v := 40) dX8_sheet_51 (by decide) ?_
      refine mm_iload_n 54 rfl dX8_sheet_53 rfl 1 rfl ?_
      refine mm_imul 55 rfl dX8_sheet_54 ?_
      refine mm_iload 57 rfl dX8_sheet_55 2 rfl ?_
      refine mm_iadd 58 rfl dX8_sheet_57 ?_
      refine mm_iconst 59 rfl (v := 0) dX8_sheet_58 (by decide) ?_
      refine mm_iast 60 rfl dX8_sheet_59 h0.2.2.2.2.2.2.2.2.2.2.1 (fun h_10 => ?_)
      refine mm_bM (fun M_9 => ?_)
      refine mm_iinc 63 rfl dX8_sheet_60 2 rfl (v := (x4 + 1)) rfl (lv' := [(4, .int (x4 + 1)), (0, .ref (mm_ad G 0)), (1, .int c1)]) (by decide) rfl ?_
      refine mm_goto 40 dX8_sheet_63 (by decide) ?_
      exact mm_lv [1, 2, 0] rfl (ih _ _)
noncomputable def fn_X8_sheet (c1 : Int32) (c2 : Int32) (c3 : Int32) (M : mm_M) : Option (Int32 × mm_M) :=
  ((fn_X8_isSheet c1 c2 M).bind fun z_1 => (if z_1.1 = 0 then some ((-1), z_1.2) else (if c3 ≤ 40 then (if 0 ≤ c3 then (if mm_in c1 4 then (mm_let (mm_up z_1.2 8 c1.toNatClampNeg c2) fun M_5 => mm_let (mm_up M_5 9 c1.toNatClampNeg c3) fun M_7 => fn_X8_sheet_L40 c1 (fun M_11 => some (1, M_11)) mm_fu 0 M_7) else none) else some ((-14), z_1.2)) else some ((-1), z_1.2))))
set_option maxRecDepth 20000 in
set_option maxHeartbeats 4000000 in
theorem ct_X8_sheet {l : Launch} {G : mm_G} {sh : mm_S} {M : mm_M} (c1 : Int32) (c2 : Int32) (c3 : Int32) (h0 : mm_isMod G sh) : mm_K l G yX8_sheet (cX8_sheet, 5, RX8, (some .int), 3) [.ref (mm_ad G 0), .int c1, .int c2, .int c3] (mm_fi sh) sh M (fn_X8_sheet c1 c2 c3 M) := by
  refine mm_met (by decide +kernel) rfl (Nat.le_of_ble_eq_true rfl) (fun X hX => ?_)
  subst hX
  show mm_T X G (cX8_sheet, 5, RX8, (some .int), 3) (mm_fi sh) sh M 0 [(0, .ref (mm_ad G 0)), (1, .int c1), (2, .int c2), (3, .int c3)] [] (fn_X8_sheet c1 c2 c3 M)
  unfold fn_X8_sheet
  obtain ⟨N, hN⟩ := h0.1
  refine mm_iload_n 1 rfl dX8_sheet_0 rfl 1 rfl ?_
  refine mm_iload_n 2 rfl dX8_sheet_1 rfl 2 rfl ?_
  refine ca_X8_291 5 rfl dX8_sheet_2 (ct_X8_isSheet c1 c2 ) (by decide) (Nat.le_of_ble_eq_true rfl) (fun z_1 => ?_)
  refine mm_if_eq 8 14 rfl dX8_sheet_5 (by decide) (fun h_2 => ?_) (fun h_2 => ?_)
  · refine mm_iconst 15 rfl (v := (-1)) dX8_sheet_14 (by decide) ?_
    exact mm_iret dX8_sheet_15 rfl rfl
  · refine mm_iload_n 9 rfl dX8_sheet_8 rfl 3 rfl ?_
    refine mm_bipush 11 rfl (v := 40) dX8_sheet_9 (by decide) ?_
    refine mm_icmp_le 14 16 rfl dX8_sheet_11 (by decide) (fun h_3 => ?_) (fun h_3 => ?_)
    · refine mm_iload_n 17 rfl dX8_sheet_16 rfl 3 rfl ?_
      refine mm_if_ge 20 23 rfl dX8_sheet_17 (by decide) (fun h_4 => ?_) (fun h_4 => ?_)
      · refine mm_aload_n 24 rfl dX8_sheet_23 rfl 0 rfl ?_
        refine gt_X8_32 27 rfl dX8_sheet_24 hN ?_
        refine mm_iload_n 28 rfl dX8_sheet_27 rfl 1 rfl ?_
        refine mm_iload_n 29 rfl dX8_sheet_28 rfl 2 rfl ?_
        refine mm_iast 30 rfl dX8_sheet_29 h0.2.2.2.2.2.2.2.2.1 (fun h_6 => ?_)
        refine mm_bM (fun M_5 => ?_)
        refine mm_aload_n 31 rfl dX8_sheet_30 rfl 0 rfl ?_
        refine gt_X8_35 34 rfl dX8_sheet_31 hN ?_
        refine mm_iload_n 35 rfl dX8_sheet_34 rfl 1 rfl ?_
        refine mm_iload_n 36 rfl dX8_sheet_35 rfl 3 rfl ?_
        refine mm_iastK 37 rfl dX8_sheet_36 h0.2.2.2.2.2.2.2.2.2.1 h_6 _ rfl ?_
        refine mm_bM (fun M_7 => ?_)
        refine mm_iconst 38 rfl (v := 0) dX8_sheet_37 (by decide) ?_
        refine mm_istore 40 rfl dX8_sheet_38 (lv' := [(4, .int 0), (0, .ref (mm_ad G 0)), (1, .int c1), (2, .int c2), (3, .int c3)]) (by decide) rfl ?_
        refine mm_lv [1, 2, 0] rfl (th_X8_sheet_L40 h0 (fun M_11 => ?_) mm_fu _ _)
        refine mm_iconst 67 rfl (v := 1) dX8_sheet_66 (by decide) ?_
        exact mm_iret dX8_sheet_67 rfl rfl
      · refine mm_bipush 22 rfl (v := (-14)) dX8_sheet_20 (by decide) ?_
        exact mm_iret dX8_sheet_22 rfl rfl
    · refine mm_iconst 15 rfl (v := (-1)) dX8_sheet_14 (by decide) ?_
      exact mm_iret dX8_sheet_15 rfl rfl

-- MangleLineModel.lay(III)I
noncomputable def fn_X8_lay (c1 : Int32) (c2 : Int32) (c3 : Int32) (M : mm_M) : Option (Int32 × mm_M) :=
  ((fn_X8_isSheet c1 0 M).bind fun z_1 => (if z_1.1 = 0 then some ((-1), z_1.2) else (if mm_in c1 4 then (if (z_1.2 8 c1.toNatClampNeg) = (-4) then some ((-11), z_1.2) else ((fn_X8_in c2.toInt64 0 (((z_1.2 9 c1.toNatClampNeg) - 1).toInt64) z_1.2).bind fun z_5 => (if z_5.1 = 0 then some ((-12), z_5.2) else (if (z_5.2 8 c1.toNatClampNeg) = 0 then (if mm_in ((40 * c1) + c2) 160 then (mm_let (mm_up z_5.2 10 ((40 * c1) + c2).toNatClampNeg c3.toInt8.toInt32) fun M_13 => some (1, M_13)) else none) else (if (z_5.2 8 c1.toNatClampNeg) = 1 then (if mm_in ((40 * c1) + c2) 160 then (mm_let (mm_up z_5.2 10 ((40 * c1) + c2).toNatClampNeg c3.toInt16.toInt32) fun M_11 => some (1, M_11)) else none) else (if mm_in ((40 * c1) + c2) 160 then (mm_let (mm_up z_5.2 10 ((40 * c1) + c2).toNatClampNeg c3) fun M_9 => some (1, M_9)) else none)))))) else none)))
set_option maxRecDepth 20000 in
set_option maxHeartbeats 4000000 in
theorem ct_X8_lay {l : Launch} {G : mm_G} {sh : mm_S} {M : mm_M} (c1 : Int32) (c2 : Int32) (c3 : Int32) (h0 : mm_isMod G sh) : mm_K l G yX8_lay (cX8_lay, 4, RX8, (some .int), 3) [.ref (mm_ad G 0), .int c1, .int c2, .int c3] (mm_fi sh) sh M (fn_X8_lay c1 c2 c3 M) := by
  refine mm_met (by decide +kernel) rfl (Nat.le_of_ble_eq_true rfl) (fun X hX => ?_)
  subst hX
  show mm_T X G (cX8_lay, 4, RX8, (some .int), 3) (mm_fi sh) sh M 0 [(0, .ref (mm_ad G 0)), (1, .int c1), (2, .int c2), (3, .int c3)] [] (fn_X8_lay c1 c2 c3 M)
  unfold fn_X8_lay
  obtain ⟨N, hN⟩ := h0.1
  refine mm_iload_n 1 rfl dX8_lay_0 rfl 1 rfl ?_
  refine mm_iconst 2 rfl (v := 0) dX8_lay_1 (by decide) ?_
  refine ca_X8_291 5 rfl dX8_lay_2 (ct_X8_isSheet c1 0 ) (by decide) (Nat.le_of_ble_eq_true rfl) (fun z_1 => ?_)
  refine mm_if_ne 8 10 rfl dX8_lay_5 (by decide) (fun h_2 => ?_) (fun h_2 => ?_)
  · refine mm_aload_n 11 rfl dX8_lay_10 rfl 0 rfl ?_
    refine gt_X8_32 14 rfl dX8_lay_11 hN ?_
    refine mm_iload_n 15 rfl dX8_lay_14 rfl 1 rfl ?_
    refine mm_iald 16 rfl dX8_lay_15 h0.2.2.2.2.2.2.2.2.1 (fun h_3 => ?_)
    refine mm_bipush 18 rfl (v := (-4)) dX8_lay_16 (by decide) ?_
    refine mm_icmp_ne 21 24 rfl dX8_lay_18 (by decide) (fun h_4 => ?_) (fun h_4 => ?_)
    · refine mm_iload_n 25 rfl dX8_lay_24 rfl 2 rfl ?_
      refine mm_i2l 26 rfl dX8_lay_25 ?_
      refine mm_lconst 27 rfl (v := 0) dX8_lay_26 (by decide) ?_
      refine mm_aload_n 28 rfl dX8_lay_27 rfl 0 rfl ?_
      refine gt_X8_35 31 rfl dX8_lay_28 hN ?_
      refine mm_iload_n 32 rfl dX8_lay_31 rfl 1 rfl ?_
      refine mm_ialdK 33 rfl dX8_lay_32 h0.2.2.2.2.2.2.2.2.2.1 h_3 _ rfl ?_
      refine mm_iconst 34 rfl (v := 1) dX8_lay_33 (by decide) ?_
      refine mm_isub 35 rfl dX8_lay_34 ?_
      refine mm_i2l 36 rfl dX8_lay_35 ?_
      refine ca_X8_59 39 rfl dX8_lay_36 (ct_X8_in c2.toInt64 0 (((z_1.2 9 c1.toNatClampNeg) - 1).toInt64) ) (by decide) (Nat.le_of_ble_eq_true rfl) (fun z_5 => ?_)
      refine mm_if_ne 42 45 rfl dX8_lay_39 (by decide) (fun h_6 => ?_) (fun h_6 => ?_)
      · refine mm_aload_n 46 rfl dX8_lay_45 rfl 0 rfl ?_
        refine gt_X8_38 49 rfl dX8_lay_46 hN ?_
        refine mm_bipush 51 rfl (v := 40) dX8_lay_49 (by decide) ?_
        refine mm_iload_n 52 rfl dX8_lay_51 rfl 1 rfl ?_
        refine mm_imul 53 rfl dX8_lay_52 ?_
        refine mm_iload_n 54 rfl dX8_lay_53 rfl 2 rfl ?_
        refine mm_iadd 55 rfl dX8_lay_54 ?_
        refine mm_aload_n 56 rfl dX8_lay_55 rfl 0 rfl ?_
        refine gt_X8_32 59 rfl dX8_lay_56 hN ?_
        refine mm_iload_n 60 rfl dX8_lay_59 rfl 1 rfl ?_
        refine mm_ialdK 61 rfl dX8_lay_60 h0.2.2.2.2.2.2.2.2.1 h_3 _ rfl ?_
        refine mm_if_ne 64 69 rfl dX8_lay_61 (by decide) (fun h_7 => ?_) (fun h_7 => ?_)
        · refine mm_aload_n 70 rfl dX8_lay_69 rfl 0 rfl ?_
          refine gt_X8_32 73 rfl dX8_lay_70 hN ?_
          refine mm_iload_n 74 rfl dX8_lay_73 rfl 1 rfl ?_
          refine mm_ialdK 75 rfl dX8_lay_74 h0.2.2.2.2.2.2.2.2.1 h_3 _ rfl ?_
          refine mm_iconst 76 rfl (v := 1) dX8_lay_75 (by decide) ?_
          refine mm_icmp_ne 79 84 rfl dX8_lay_76 (by decide) (fun h_8 => ?_) (fun h_8 => ?_)
          · refine mm_iload_n 85 rfl dX8_lay_84 rfl 3 rfl ?_
            refine mm_iast 86 rfl dX8_lay_85 h0.2.2.2.2.2.2.2.2.2.2.1 (fun h_10 => ?_)
            refine mm_bM (fun M_9 => ?_)
            refine mm_iconst 87 rfl (v := 1) dX8_lay_86 (by decide) ?_
            exact mm_iret dX8_lay_87 rfl rfl
          · refine mm_iload_n 80 rfl dX8_lay_79 rfl 3 rfl ?_
            refine mm_i2s 81 rfl dX8_lay_80 ?_
            refine mm_goto 85 dX8_lay_81 (by decide) ?_
            refine mm_iast 86 rfl dX8_lay_85 h0.2.2.2.2.2.2.2.2.2.2.1 (fun h_12 => ?_)
            refine mm_bM (fun M_11 => ?_)
            refine mm_iconst 87 rfl (v := 1) dX8_lay_86 (by decide) ?_
            exact mm_iret dX8_lay_87 rfl rfl
        · refine mm_iload_n 65 rfl dX8_lay_64 rfl 3 rfl ?_
          refine mm_i2b 66 rfl dX8_lay_65 ?_
          refine mm_goto 85 dX8_lay_66 (by decide) ?_
          refine mm_iast 86 rfl dX8_lay_85 h0.2.2.2.2.2.2.2.2.2.2.1 (fun h_14 => ?_)
          refine mm_bM (fun M_13 => ?_)
          refine mm_iconst 87 rfl (v := 1) dX8_lay_86 (by decide) ?_
          exact mm_iret dX8_lay_87 rfl rfl
      · refine mm_bipush 44 rfl (v := (-12)) dX8_lay_42 (by decide) ?_
        exact mm_iret dX8_lay_44 rfl rfl
    · refine mm_bipush 23 rfl (v := (-11)) dX8_lay_21 (by decide) ?_
      exact mm_iret dX8_lay_23 rfl rfl
  · refine mm_iconst 9 rfl (v := (-1)) dX8_lay_8 (by decide) ?_
    exact mm_iret dX8_lay_9 rfl rfl

-- MangleLineModel.read(IIII)I
noncomputable def fn_X8_read_L26 (c1 : Int32) (c2 : Int32) (c3 : Int32) (c4 : Int32) (k : mm_M → Option (Int32 × mm_M)) : Nat → Int32 → mm_M → Option (Int32 × mm_M)
  | 0, _, _ => none
  | n + 1, x5, M => (if 57 ≤ x5 then k  M else (if mm_in x5 171 then (if mm_in x5 57 then (mm_let (mm_up M 11 x5.toNatClampNeg (M 1 x5.toNatClampNeg)) fun M_7 => fn_X8_read_L26 c1 c2 c3 c4 k n (x5 + 1) M_7) else none) else none))
set_option maxRecDepth 20000 in
set_option maxHeartbeats 4000000 in
theorem th_X8_read_L26 {X : mm_X} {G : mm_G} {sh : mm_S} {c1 : Int32} {c2 : Int32} {c3 : Int32} {c4 : Int32} {k : mm_M → Option (Int32 × mm_M)} (h0 : mm_isMod G sh) (hk : ∀ (M : mm_M), mm_T X G (cX8_read, 11, RX8, (some .int), 3) (mm_fi sh) sh M 53 [(0, .ref (mm_ad G 0)), (1, .int c1), (2, .int c2), (3, .int c3), (4, .int c4)] [] (k  M)) : ∀ (n : Nat) (x5 : Int32) (M : mm_M), mm_T X G (cX8_read, 11, RX8, (some .int), 3) (mm_fi sh) sh M 26 [(0, .ref (mm_ad G 0)), (1, .int c1), (2, .int c2), (3, .int c3), (4, .int c4), (5, .int x5)] [] (fn_X8_read_L26 c1 c2 c3 c4 k n x5 M) := by
  intro n
  induction n with
  | zero => intro x5 M; exact mm_none
  | succ n ih =>
    intro x5 M
    rw [fn_X8_read_L26]
    obtain ⟨N, hN⟩ := h0.1
    refine mm_iload 28 rfl dX8_read_26 5 rfl ?_
    refine mm_bipush 30 rfl (v := 57) dX8_read_28 (by decide) ?_
    refine mm_icmp_ge 33 53 rfl dX8_read_30 (by decide) (fun h_5 => ?_) (fun h_5 => ?_)
    · exact mm_lv [0, 1, 2, 3, 4] rfl (hk _)
    · refine mm_aload_n 34 rfl dX8_read_33 rfl 0 rfl ?_
      refine gt_X8_41 37 rfl dX8_read_34 hN ?_
      refine mm_iload 39 rfl dX8_read_37 5 rfl ?_
      refine mm_aload_n 40 rfl dX8_read_39 rfl 0 rfl ?_
      refine gt_X8_7 43 rfl dX8_read_40 hN ?_
      refine mm_iload 45 rfl dX8_read_43 5 rfl ?_
      refine mm_iald 46 rfl dX8_read_45 h0.2.1 (fun h_6 => ?_)
      refine mm_iast 47 rfl dX8_read_46 h0.2.2.2.2.2.2.2.2.2.2.2 (fun h_8 => ?_)
      refine mm_bM (fun M_7 => ?_)
      refine mm_iinc 50 rfl dX8_read_47 5 rfl (v := (x5 + 1)) rfl (lv' := [(5, .int (x5 + 1)), (0, .ref (mm_ad G 0)), (1, .int c1), (2, .int c2), (3, .int c3), (4, .int c4)]) (by decide) rfl ?_
      refine mm_goto 26 dX8_read_50 (by decide) ?_
      exact mm_lv [1, 2, 3, 4, 5, 0] rfl (ih _ _)
noncomputable def fn_X8_read_L77 (c1 : Int32) (c2 : Int32) (c3 : Int32) (c4 : Int32) (c6 : Int32) (c7 : Int32) (k : Int32 → mm_M → Option (Int32 × mm_M)) : Nat → Int32 → Int32 → mm_M → Option (Int32 × mm_M)
  | 0, _, _, _ => none
  | n + 1, x5, x8, M => (if 2 ≤ x8 then k x5 M else (if x5 = 0 then mm_let ((c3.toInt64 + (2 * c7).toInt64) + x8.toInt64) fun x9_15 => (if mm_in c1 4 then (if (M 8 c1.toNatClampNeg) = (-4) then fn_X8_read_L77 c1 c2 c3 c4 c6 c7 k n 1 (x8 + 1) M else (if (M 8 c1.toNatClampNeg) = c2 then (if (lg_cmp x9_15 0) < 0 then fn_X8_read_L77 c1 c2 c3 c4 c6 c7 k n 2 (x8 + 1) M else (if (lg_cmp x9_15 ((M 9 c1.toNatClampNeg).toInt64)) < 0 then fn_X8_read_L77 c1 c2 c3 c4 c6 c7 k n 0 (x8 + 1) M else fn_X8_read_L77 c1 c2 c3 c4 c6 c7 k n 2 (x8 + 1) M)) else fn_X8_read_L77 c1 c2 c3 c4 c6 c7 k n 3 (x8 + 1) M)) else none) else k x5 M))
set_option maxRecDepth 20000 in
set_option maxHeartbeats 4000000 in
theorem th_X8_read_L77 {X : mm_X} {G : mm_G} {sh : mm_S} {c1 : Int32} {c2 : Int32} {c3 : Int32} {c4 : Int32} {c6 : Int32} {c7 : Int32} {k : Int32 → mm_M → Option (Int32 × mm_M)} (h0 : mm_isMod G sh) (hk : ∀ (x5 : Int32) (M : mm_M), mm_T X G (cX8_read, 11, RX8, (some .int), 3) (mm_fi sh) sh M 164 [(0, .ref (mm_ad G 0)), (1, .int c1), (2, .int c2), (3, .int c3), (4, .int c4), (5, .int x5), (6, .int c6), (7, .int c7)] [] (k x5 M)) : ∀ (n : Nat) (x5 : Int32) (x8 : Int32) (M : mm_M), mm_T X G (cX8_read, 11, RX8, (some .int), 3) (mm_fi sh) sh M 77 [(0, .ref (mm_ad G 0)), (1, .int c1), (2, .int c2), (3, .int c3), (4, .int c4), (5, .int x5), (6, .int c6), (7, .int c7), (8, .int x8)] [] (fn_X8_read_L77 c1 c2 c3 c4 c6 c7 k n x5 x8 M) := by
  intro n
  induction n with
  | zero => intro x5 x8 M; exact mm_none
  | succ n ih =>
    intro x5 x8 M
    rw [fn_X8_read_L77]
    obtain ⟨N, hN⟩ := h0.1
    refine mm_iload 79 rfl dX8_read_77 8 rfl ?_
    refine mm_iconst 80 rfl (v := 2) dX8_read_79 (by decide) ?_
    refine mm_icmp_ge 83 164 rfl dX8_read_80 (by decide) (fun h_13 => ?_) (fun h_13 => ?_)
    · exact mm_lv [0, 1, 2, 3, 4, 5, 6, 7] rfl (hk _ _)
    · refine mm_iload 85 rfl dX8_read_83 5 rfl ?_
      refine mm_if_ne 88 164 rfl dX8_read_85 (by decide) (fun h_14 => ?_) (fun h_14 => ?_)
      · exact mm_lv [0, 1, 2, 3, 4, 5, 6, 7] rfl (hk _ _)
      · refine mm_iload_n 89 rfl dX8_read_88 rfl 3 rfl ?_
        refine mm_i2l 90 rfl dX8_read_89 ?_
        refine mm_iconst 91 rfl (v := 2) dX8_read_90 (by decide) ?_
        refine mm_iload 93 rfl dX8_read_91 7 rfl ?_
        refine mm_imul 94 rfl dX8_read_93 ?_
        refine mm_i2l 95 rfl dX8_read_94 ?_
        refine mm_ladd 96 rfl dX8_read_95 ?_
        refine mm_iload 98 rfl dX8_read_96 8 rfl ?_
        refine mm_i2l 99 rfl dX8_read_98 ?_
        refine mm_ladd 100 rfl dX8_read_99 ?_
        refine mm_bL (fun x9_15 => ?_)
        refine mm_lstore 102 rfl dX8_read_100 (lv' := [(9, .long x9_15), (0, .ref (mm_ad G 0)), (1, .int c1), (2, .int c2), (3, .int c3), (4, .int c4), (5, .int x5), (6, .int c6), (7, .int c7), (8, .int x8)]) (by decide) rfl ?_
        refine mm_aload_n 103 rfl dX8_read_102 rfl 1 rfl ?_
        refine gt_X8_32 106 rfl dX8_read_103 hN ?_
        refine mm_iload_n 107 rfl dX8_read_106 rfl 2 rfl ?_
        refine mm_iald 108 rfl dX8_read_107 h0.2.2.2.2.2.2.2.2.1 (fun h_16 => ?_)
        refine mm_bipush 110 rfl (v := (-4)) dX8_read_108 (by decide) ?_
        refine mm_icmp_ne 113 117 rfl dX8_read_110 (by decide) (fun h_17 => ?_) (fun h_17 => ?_)
        · refine mm_aload_n 118 rfl dX8_read_117 rfl 1 rfl ?_
          refine gt_X8_32 121 rfl dX8_read_118 hN ?_
          refine mm_iload_n 122 rfl dX8_read_121 rfl 2 rfl ?_
          refine mm_ialdK 123 rfl dX8_read_122 h0.2.2.2.2.2.2.2.2.1 h_16 _ rfl ?_
          refine mm_iload_n 124 rfl dX8_read_123 rfl 3 rfl ?_
          refine mm_icmp_eq 127 131 rfl dX8_read_124 (by decide) (fun h_18 => ?_) (fun h_18 => ?_)
          · refine mm_lload 133 rfl dX8_read_131 0 rfl ?_
            refine mm_lconst 134 rfl (v := 0) dX8_read_133 (by decide) ?_
            refine mm_lcmp 135 rfl dX8_read_134 ?_
            refine mm_if_lt 138 151 rfl dX8_read_135 (by decide) (fun h_19 => ?_) (fun h_19 => ?_)
            · refine mm_iconst 152 rfl (v := 2) dX8_read_151 (by decide) ?_
              refine mm_goto 156 dX8_read_152 (by decide) ?_
              refine mm_istore 158 rfl dX8_read_156 (lv' := [(5, .int 2), (9, .long x9_15), (0, .ref (mm_ad G 0)), (1, .int c1), (2, .int c2), (3, .int c3), (4, .int c4), (6, .int c6), (7, .int c7), (8, .int x8)]) (by decide) rfl ?_
              refine mm_iinc 161 rfl dX8_read_158 9 rfl (v := (x8 + 1)) rfl (lv' := [(8, .int (x8 + 1)), (5, .int 2), (9, .long x9_15), (0, .ref (mm_ad G 0)), (1, .int c1), (2, .int c2), (3, .int c3), (4, .int c4), (6, .int c6), (7, .int c7)]) (by decide) rfl ?_
              refine mm_goto 77 dX8_read_161 (by decide) ?_
              exact mm_lv [3, 4, 5, 6, 7, 1, 8, 9, 0] rfl (ih _ _ _)
            · refine mm_lload 140 rfl dX8_read_138 0 rfl ?_
              refine mm_aload_n 141 rfl dX8_read_140 rfl 1 rfl ?_
              refine gt_X8_35 144 rfl dX8_read_141 hN ?_
              refine mm_iload_n 145 rfl dX8_read_144 rfl 2 rfl ?_
              refine mm_ialdK 146 rfl dX8_read_145 h0.2.2.2.2.2.2.2.2.2.1 h_16 _ rfl ?_
              refine mm_i2l 147 rfl dX8_read_146 ?_
              refine mm_lcmp 148 rfl dX8_read_147 ?_
              refine mm_if_lt 151 155 rfl dX8_read_148 (by decide) (fun h_20 => ?_) (fun h_20 => ?_)
              · refine mm_iconst 156 rfl (v := 0) dX8_read_155 (by decide) ?_
                refine mm_istore 158 rfl dX8_read_156 (lv' := [(5, .int 0), (9, .long x9_15), (0, .ref (mm_ad G 0)), (1, .int c1), (2, .int c2), (3, .int c3), (4, .int c4), (6, .int c6), (7, .int c7), (8, .int x8)]) (by decide) rfl ?_
                refine mm_iinc 161 rfl dX8_read_158 9 rfl (v := (x8 + 1)) rfl (lv' := [(8, .int (x8 + 1)), (5, .int 0), (9, .long x9_15), (0, .ref (mm_ad G 0)), (1, .int c1), (2, .int c2), (3, .int c3), (4, .int c4), (6, .int c6), (7, .int c7)]) (by decide) rfl ?_
                refine mm_goto 77 dX8_read_161 (by decide) ?_
                exact mm_lv [3, 4, 5, 6, 7, 1, 8, 9, 0] rfl (ih _ _ _)
              · refine mm_iconst 152 rfl (v := 2) dX8_read_151 (by decide) ?_
                refine mm_goto 156 dX8_read_152 (by decide) ?_
                refine mm_istore 158 rfl dX8_read_156 (lv' := [(5, .int 2), (9, .long x9_15), (0, .ref (mm_ad G 0)), (1, .int c1), (2, .int c2), (3, .int c3), (4, .int c4), (6, .int c6), (7, .int c7), (8, .int x8)]) (by decide) rfl ?_
                refine mm_iinc 161 rfl dX8_read_158 9 rfl (v := (x8 + 1)) rfl (lv' := [(8, .int (x8 + 1)), (5, .int 2), (9, .long x9_15), (0, .ref (mm_ad G 0)), (1, .int c1), (2, .int c2), (3, .int c3), (4, .int c4), (6, .int c6), (7, .int c7)]) (by decide) rfl ?_
                refine mm_goto 77 dX8_read_161 (by decide) ?_
                exact mm_lv [3, 4, 5, 6, 7, 1, 8, 9, 0] rfl (ih _ _ _)
          · refine mm_iconst 128 rfl (v := 3) dX8_read_127 (by decide) ?_
            refine mm_goto 156 dX8_read_128 (by decide) ?_
            refine mm_istore 158 rfl dX8_read_156 (lv' := [(5, .int 3), (9, .long x9_15), (0, .ref (mm_ad G 0)), (1, .int c1), (2, .int c2), (3, .int c3), (4, .int c4), (6, .int c6), (7, .int c7), (8, .int x8)]) (by decide) rfl ?_
            refine mm_iinc 161 rfl dX8_read_158 9 rfl (v := (x8 + 1)) rfl (lv' := [(8, .int (x8 + 1)), (5, .int 3), (9, .long x9_15), (0, .ref (mm_ad G 0)), (1, .int c1), (2, .int c2), (3, .int c3), (4, .int c4), (6, .int c6), (7, .int c7)]) (by decide) rfl ?_
            refine mm_goto 77 dX8_read_161 (by decide) ?_
            exact mm_lv [3, 4, 5, 6, 7, 1, 8, 9, 0] rfl (ih _ _ _)
        · refine mm_iconst 114 rfl (v := 1) dX8_read_113 (by decide) ?_
          refine mm_goto 156 dX8_read_114 (by decide) ?_
          refine mm_istore 158 rfl dX8_read_156 (lv' := [(5, .int 1), (9, .long x9_15), (0, .ref (mm_ad G 0)), (1, .int c1), (2, .int c2), (3, .int c3), (4, .int c4), (6, .int c6), (7, .int c7), (8, .int x8)]) (by decide) rfl ?_
          refine mm_iinc 161 rfl dX8_read_158 9 rfl (v := (x8 + 1)) rfl (lv' := [(8, .int (x8 + 1)), (5, .int 1), (9, .long x9_15), (0, .ref (mm_ad G 0)), (1, .int c1), (2, .int c2), (3, .int c3), (4, .int c4), (6, .int c6), (7, .int c7)]) (by decide) rfl ?_
          refine mm_goto 77 dX8_read_161 (by decide) ?_
          exact mm_lv [3, 4, 5, 6, 7, 1, 8, 9, 0] rfl (ih _ _ _)
noncomputable def fn_X8_read_B164 (c1 : Int32) (c2 : Int32) (c3 : Int32) (c4 : Int32) (h : Int32 → Int32 → Int32 → mm_M → Option (Int32 × mm_M)) (k0 : Int32 → mm_M → Option (Int32 × mm_M)) (k1 : Int32 → Int32 → mm_M → Option (Int32 × mm_M)) (x5 : Int32) (x6 : Int32) (x7 : Int32) (M : mm_M) : Option (Int32 × mm_M) :=
  (if x5 = 0 then mm_let (((40 * c1) + c3) + (2 * x7)) fun x8_25 => (if mm_in x8_25 160 then (if mm_in (x8_25 + 1) 160 then ((fn_X8_bring (M 10 x8_25.toNatClampNeg) (M 10 (x8_25 + 1).toNatClampNeg) M).bind fun z_28 => (if 0 ≤ z_28.1 then h x5 (x6 + 1) (x7 + 1) z_28.2 else k0 x7 z_28.2)) else none) else none) else h x5 x6 (x7 + 1) M)
set_option maxRecDepth 20000 in
set_option maxHeartbeats 4000000 in
theorem th_X8_read_B164 {X : mm_X} {G : mm_G} {sh : mm_S} {c1 : Int32} {c2 : Int32} {c3 : Int32} {c4 : Int32} {h : Int32 → Int32 → Int32 → mm_M → Option (Int32 × mm_M)} {k0 : Int32 → mm_M → Option (Int32 × mm_M)} {k1 : Int32 → Int32 → mm_M → Option (Int32 × mm_M)} (h0 : mm_isMod G sh) (hh : ∀ (y5 : Int32) (y6 : Int32) (y7 : Int32) (M : mm_M), mm_T X G (cX8_read, 11, RX8, (some .int), 3) (mm_fi sh) sh M 62 [(0, .ref (mm_ad G 0)), (1, .int c1), (2, .int c2), (3, .int c3), (4, .int c4), (5, .int y5), (6, .int y6), (7, .int y7)] [] (h y5 y6 y7 M)) (hk0 : ∀ (y7 : Int32) (M : mm_M), mm_T X G (cX8_read, 11, RX8, (some .int), 3) (mm_fi sh) sh M 205 [(0, .ref (mm_ad G 0)), (7, .int y7)] [] (k0 y7 M)) (hk1 : ∀ (y5 : Int32) (y6 : Int32) (M : mm_M), mm_T X G (cX8_read, 11, RX8, (some .int), 3) (mm_fi sh) sh M 250 [(0, .ref (mm_ad G 0)), (5, .int y5), (6, .int y6)] [] (k1 y5 y6 M)) (x5 : Int32) (x6 : Int32) (x7 : Int32) (M : mm_M) : mm_T X G (cX8_read, 11, RX8, (some .int), 3) (mm_fi sh) sh M 164 [(0, .ref (mm_ad G 0)), (1, .int c1), (2, .int c2), (3, .int c3), (4, .int c4), (5, .int x5), (6, .int x6), (7, .int x7)] [] (fn_X8_read_B164 c1 c2 c3 c4 h k0 k1 x5 x6 x7 M) := by
  unfold fn_X8_read_B164
  obtain ⟨N, hN⟩ := h0.1
  refine mm_iload 166 rfl dX8_read_164 5 rfl ?_
  refine mm_if_ne 169 244 rfl dX8_read_166 (by decide) (fun h_24 => ?_) (fun h_24 => ?_)
  · refine mm_iinc 247 rfl dX8_read_244 7 rfl (v := (x7 + 1)) rfl (lv' := [(7, .int (x7 + 1)), (0, .ref (mm_ad G 0)), (1, .int c1), (2, .int c2), (3, .int c3), (4, .int c4), (5, .int x5), (6, .int x6)]) (by decide) rfl ?_
    refine mm_goto 62 dX8_read_247 (by decide) ?_
    exact mm_lv [1, 2, 3, 4, 5, 6, 7, 0] rfl (hh _ _ _ _)
  · refine mm_bipush 171 rfl (v := 40) dX8_read_169 (by decide) ?_
    refine mm_iload_n 172 rfl dX8_read_171 rfl 1 rfl ?_
    refine mm_imul 173 rfl dX8_read_172 ?_
    refine mm_iload_n 174 rfl dX8_read_173 rfl 3 rfl ?_
    refine mm_iadd 175 rfl dX8_read_174 ?_
    refine mm_iconst 176 rfl (v := 2) dX8_read_175 (by decide) ?_
    refine mm_iload 178 rfl dX8_read_176 7 rfl ?_
    refine mm_imul 179 rfl dX8_read_178 ?_
    refine mm_iadd 180 rfl dX8_read_179 ?_
    refine mm_bI (fun x8_25 => ?_)
    refine mm_istore 182 rfl dX8_read_180 (lv' := [(8, .int x8_25), (0, .ref (mm_ad G 0)), (1, .int c1), (2, .int c2), (3, .int c3), (4, .int c4), (5, .int x5), (6, .int x6), (7, .int x7)]) (by decide) rfl ?_
    refine mm_aload_n 183 rfl dX8_read_182 rfl 1 rfl ?_
    refine mm_aload_n 184 rfl dX8_read_183 rfl 1 rfl ?_
    refine gt_X8_38 187 rfl dX8_read_184 hN ?_
    refine mm_iload 189 rfl dX8_read_187 0 rfl ?_
    refine mm_iald 190 rfl dX8_read_189 h0.2.2.2.2.2.2.2.2.2.2.1 (fun h_26 => ?_)
    refine mm_aload_n 191 rfl dX8_read_190 rfl 1 rfl ?_
    refine gt_X8_38 194 rfl dX8_read_191 hN ?_
    refine mm_iload 196 rfl dX8_read_194 0 rfl ?_
    refine mm_iconst 197 rfl (v := 1) dX8_read_196 (by decide) ?_
    refine mm_iadd 198 rfl dX8_read_197 ?_
    refine mm_iald 199 rfl dX8_read_198 h0.2.2.2.2.2.2.2.2.2.2.1 (fun h_27 => ?_)
    refine ca_X8_294 202 rfl dX8_read_199 hN (ct_X8_bring (M 10 x8_25.toNatClampNeg) (M 10 (x8_25 + 1).toNatClampNeg) h0) (by decide) (Nat.le_of_ble_eq_true rfl) (fun z_28 => ?_)
    refine mm_if_ge 205 241 rfl dX8_read_202 (by decide) (fun h_29 => ?_) (fun h_29 => ?_)
    · refine mm_iinc 244 rfl dX8_read_241 7 rfl (v := (x6 + 1)) rfl (lv' := [(6, .int (x6 + 1)), (8, .int x8_25), (0, .ref (mm_ad G 0)), (1, .int c1), (2, .int c2), (3, .int c3), (4, .int c4), (5, .int x5), (7, .int x7)]) (by decide) rfl ?_
      refine mm_iinc 247 rfl dX8_read_244 8 rfl (v := (x7 + 1)) rfl (lv' := [(7, .int (x7 + 1)), (6, .int (x6 + 1)), (8, .int x8_25), (0, .ref (mm_ad G 0)), (1, .int c1), (2, .int c2), (3, .int c3), (4, .int c4), (5, .int x5)]) (by decide) rfl ?_
      refine mm_goto 62 dX8_read_247 (by decide) ?_
      exact mm_lv [3, 4, 5, 6, 7, 8, 1, 0] rfl (hh _ _ _ _)
    · exact mm_lv [1, 8] rfl (hk0 _ _)
noncomputable def fn_X8_read_L62 (c1 : Int32) (c2 : Int32) (c3 : Int32) (c4 : Int32) (k0 : Int32 → mm_M → Option (Int32 × mm_M)) (k1 : Int32 → Int32 → mm_M → Option (Int32 × mm_M)) : Nat → Int32 → Int32 → Int32 → mm_M → Option (Int32 × mm_M)
  | 0, _, _, _, _ => none
  | n + 1, x5, x6, x7, M => (if c4 ≤ x7 then k1 x5 x6 M else (if x5 = 0 then fn_X8_read_L77 c1 c2 c3 c4 x6 x7 (fun x5_21 M_22 => fn_X8_read_B164 c1 c2 c3 c4 (fun y5 y6 y7 M => fn_X8_read_L62 c1 c2 c3 c4 k0 k1 n y5 y6 y7 M) k0 k1 x5_21 x6 x7 M_22) mm_fu x5 0 M else k1 x5 x6 M))
set_option maxRecDepth 20000 in
set_option maxHeartbeats 4000000 in
theorem th_X8_read_L62 {X : mm_X} {G : mm_G} {sh : mm_S} {c1 : Int32} {c2 : Int32} {c3 : Int32} {c4 : Int32} {k0 : Int32 → mm_M → Option (Int32 × mm_M)} {k1 : Int32 → Int32 → mm_M → Option (Int32 × mm_M)} (h0 : mm_isMod G sh) (hk0 : ∀ (x7 : Int32) (M : mm_M), mm_T X G (cX8_read, 11, RX8, (some .int), 3) (mm_fi sh) sh M 205 [(0, .ref (mm_ad G 0)), (7, .int x7)] [] (k0 x7 M)) (hk1 : ∀ (x5 : Int32) (x6 : Int32) (M : mm_M), mm_T X G (cX8_read, 11, RX8, (some .int), 3) (mm_fi sh) sh M 250 [(0, .ref (mm_ad G 0)), (5, .int x5), (6, .int x6)] [] (k1 x5 x6 M)) : ∀ (n : Nat) (x5 : Int32) (x6 : Int32) (x7 : Int32) (M : mm_M), mm_T X G (cX8_read, 11, RX8, (some .int), 3) (mm_fi sh) sh M 62 [(0, .ref (mm_ad G 0)), (1, .int c1), (2, .int c2), (3, .int c3), (4, .int c4), (5, .int x5), (6, .int x6), (7, .int x7)] [] (fn_X8_read_L62 c1 c2 c3 c4 k0 k1 n x5 x6 x7 M) := by
  intro n
  induction n with
  | zero => intro x5 x6 x7 M; exact mm_none
  | succ n ih =>
    intro x5 x6 x7 M
    rw [fn_X8_read_L62]
    obtain ⟨N, hN⟩ := h0.1
    refine mm_iload 64 rfl dX8_read_62 7 rfl ?_
    refine mm_iload 66 rfl dX8_read_64 4 rfl ?_
    refine mm_icmp_ge 69 250 rfl dX8_read_66 (by decide) (fun h_11 => ?_) (fun h_11 => ?_)
    · exact mm_lv [0, 5, 6] rfl (hk1 _ _ _)
    · refine mm_iload 71 rfl dX8_read_69 5 rfl ?_
      refine mm_if_ne 74 250 rfl dX8_read_71 (by decide) (fun h_12 => ?_) (fun h_12 => ?_)
      · exact mm_lv [0, 5, 6] rfl (hk1 _ _ _)
      · refine mm_iconst 75 rfl (v := 0) dX8_read_74 (by decide) ?_
        refine mm_istore 77 rfl dX8_read_75 (lv' := [(8, .int 0), (0, .ref (mm_ad G 0)), (1, .int c1), (2, .int c2), (3, .int c3), (4, .int c4), (5, .int x5), (6, .int x6), (7, .int x7)]) (by decide) rfl ?_
        refine mm_lv [1, 2, 3, 4, 5, 6, 7, 8, 0] rfl (th_X8_read_L77 h0 (fun x5_21 M_22 => ?_) mm_fu _ _ _)
        exact mm_lv [0, 1, 2, 3, 4, 5, 6, 7] rfl (th_X8_read_B164 h0 ih hk0 hk1 _ _ _ _)
noncomputable def fn_X8_read_L208 (c7 : Int32) (k : mm_M → Option (Int32 × mm_M)) : Nat → Int32 → mm_M → Option (Int32 × mm_M)
  | 0, _, _ => none
  | n + 1, x9, M => (if 57 ≤ x9 then k  M else (if mm_in x9 57 then (if mm_in x9 171 then (mm_let (mm_up M 1 x9.toNatClampNeg (M 11 x9.toNatClampNeg)) fun M_35 => fn_X8_read_L208 c7 k n (x9 + 1) M_35) else none) else none))
set_option maxRecDepth 20000 in
set_option maxHeartbeats 4000000 in
theorem th_X8_read_L208 {X : mm_X} {G : mm_G} {sh : mm_S} {c7 : Int32} {k : mm_M → Option (Int32 × mm_M)} (h0 : mm_isMod G sh) (hk : ∀ (M : mm_M), mm_T X G (cX8_read, 11, RX8, (some .int), 3) (mm_fi sh) sh M 235 [(7, .int c7)] [] (k  M)) : ∀ (n : Nat) (x9 : Int32) (M : mm_M), mm_T X G (cX8_read, 11, RX8, (some .int), 3) (mm_fi sh) sh M 208 [(0, .ref (mm_ad G 0)), (7, .int c7), (9, .int x9)] [] (fn_X8_read_L208 c7 k n x9 M) := by
  intro n
  induction n with
  | zero => intro x9 M; exact mm_none
  | succ n ih =>
    intro x9 M
    rw [fn_X8_read_L208]
    obtain ⟨N, hN⟩ := h0.1
    refine mm_iload 210 rfl dX8_read_208 2 rfl ?_
    refine mm_bipush 212 rfl (v := 57) dX8_read_210 (by decide) ?_
    refine mm_icmp_ge 215 235 rfl dX8_read_212 (by decide) (fun h_33 => ?_) (fun h_33 => ?_)
    · exact mm_lv [1] rfl (hk _)
    · refine mm_aload_n 216 rfl dX8_read_215 rfl 0 rfl ?_
      refine gt_X8_7 219 rfl dX8_read_216 hN ?_
      refine mm_iload 221 rfl dX8_read_219 2 rfl ?_
      refine mm_aload_n 222 rfl dX8_read_221 rfl 0 rfl ?_
      refine gt_X8_41 225 rfl dX8_read_222 hN ?_
      refine mm_iload 227 rfl dX8_read_225 2 rfl ?_
      refine mm_iald 228 rfl dX8_read_227 h0.2.2.2.2.2.2.2.2.2.2.2 (fun h_34 => ?_)
      refine mm_iast 229 rfl dX8_read_228 h0.2.1 (fun h_36 => ?_)
      refine mm_bM (fun M_35 => ?_)
      refine mm_iinc 232 rfl dX8_read_229 2 rfl (v := (x9 + 1)) rfl (lv' := [(9, .int (x9 + 1)), (0, .ref (mm_ad G 0)), (7, .int c7)]) (by decide) rfl ?_
      refine mm_goto 208 dX8_read_232 (by decide) ?_
      exact mm_lv [1, 2, 0] rfl (ih _ _)
noncomputable def fn_X8_read (c1 : Int32) (c2 : Int32) (c3 : Int32) (c4 : Int32) (M : mm_M) : Option (Int32 × mm_M) :=
  ((fn_X8_isSheet c1 c2 M).bind fun z_1 => (if z_1.1 = 0 then some ((-1), z_1.2) else ((fn_X8_in c4.toInt64 0 20 z_1.2).bind fun z_3 => (if z_3.1 = 0 then some ((-1), z_3.2) else fn_X8_read_L26 c1 c2 c3 c4 (fun M_9 => fn_X8_read_L62 c1 c2 c3 c4 (fun x7_30 M_31 => fn_X8_read_L208 x7_30 (fun M_37 => some (((-20) - x7_30), M_37)) mm_fu 0 M_31) (fun x5_39 x6_40 M_41 => mm_let (mm_up M_41 0 26 x5_39) fun M_43 => some (x6_40, M_43)) mm_fu 0 0 0 M_9) mm_fu 0 z_3.2))))
set_option maxRecDepth 20000 in
set_option maxHeartbeats 4000000 in
theorem ct_X8_read {l : Launch} {G : mm_G} {sh : mm_S} {M : mm_M} (c1 : Int32) (c2 : Int32) (c3 : Int32) (c4 : Int32) (h0 : mm_isMod G sh) : mm_K l G yX8_read (cX8_read, 11, RX8, (some .int), 3) [.ref (mm_ad G 0), .int c1, .int c2, .int c3, .int c4] (mm_fi sh) sh M (fn_X8_read c1 c2 c3 c4 M) := by
  refine mm_met (by decide +kernel) rfl (Nat.le_of_ble_eq_true rfl) (fun X hX => ?_)
  subst hX
  show mm_T X G (cX8_read, 11, RX8, (some .int), 3) (mm_fi sh) sh M 0 [(0, .ref (mm_ad G 0)), (1, .int c1), (2, .int c2), (3, .int c3), (4, .int c4)] [] (fn_X8_read c1 c2 c3 c4 M)
  unfold fn_X8_read
  obtain ⟨N, hN⟩ := h0.1
  refine mm_iload_n 1 rfl dX8_read_0 rfl 1 rfl ?_
  refine mm_iload_n 2 rfl dX8_read_1 rfl 2 rfl ?_
  refine ca_X8_291 5 rfl dX8_read_2 (ct_X8_isSheet c1 c2 ) (by decide) (Nat.le_of_ble_eq_true rfl) (fun z_1 => ?_)
  refine mm_if_eq 8 21 rfl dX8_read_5 (by decide) (fun h_2 => ?_) (fun h_2 => ?_)
  · refine mm_iconst 22 rfl (v := (-1)) dX8_read_21 (by decide) ?_
    exact mm_iret dX8_read_22 rfl rfl
  · refine mm_iload 10 rfl dX8_read_8 4 rfl ?_
    refine mm_i2l 11 rfl dX8_read_10 ?_
    refine mm_lconst 12 rfl (v := 0) dX8_read_11 (by decide) ?_
    refine mm_ldc2 15 rfl (v := 20) dX8_read_12 mw_5_58 ?_
    refine ca_X8_59 18 rfl dX8_read_15 (ct_X8_in c4.toInt64 0 20 ) (by decide) (Nat.le_of_ble_eq_true rfl) (fun z_3 => ?_)
    refine mm_if_ne 21 23 rfl dX8_read_18 (by decide) (fun h_4 => ?_) (fun h_4 => ?_)
    · refine mm_iconst 24 rfl (v := 0) dX8_read_23 (by decide) ?_
      refine mm_istore 26 rfl dX8_read_24 (lv' := [(5, .int 0), (0, .ref (mm_ad G 0)), (1, .int c1), (2, .int c2), (3, .int c3), (4, .int c4)]) (by decide) rfl ?_
      refine mm_lv [1, 2, 3, 4, 5, 0] rfl (th_X8_read_L26 h0 (fun M_9 => ?_) mm_fu _ _)
      refine mm_iconst 54 rfl (v := 0) dX8_read_53 (by decide) ?_
      refine mm_istore 56 rfl dX8_read_54 (lv' := [(5, .int 0), (0, .ref (mm_ad G 0)), (1, .int c1), (2, .int c2), (3, .int c3), (4, .int c4)]) (by decide) rfl ?_
      refine mm_iconst 57 rfl (v := 0) dX8_read_56 (by decide) ?_
      refine mm_istore 59 rfl dX8_read_57 (lv' := [(6, .int 0), (5, .int 0), (0, .ref (mm_ad G 0)), (1, .int c1), (2, .int c2), (3, .int c3), (4, .int c4)]) (by decide) rfl ?_
      refine mm_iconst 60 rfl (v := 0) dX8_read_59 (by decide) ?_
      refine mm_istore 62 rfl dX8_read_60 (lv' := [(7, .int 0), (6, .int 0), (5, .int 0), (0, .ref (mm_ad G 0)), (1, .int c1), (2, .int c2), (3, .int c3), (4, .int c4)]) (by decide) rfl ?_
      refine mm_lv [3, 4, 5, 6, 7, 2, 1, 0] rfl (th_X8_read_L62 h0 (fun x7_30 M_31 => ?_) (fun x5_39 x6_40 M_41 => ?_) mm_fu _ _ _ _)
      · refine mm_iconst 206 rfl (v := 0) dX8_read_205 (by decide) ?_
        refine mm_istore 208 rfl dX8_read_206 (lv' := [(9, .int 0), (0, .ref (mm_ad G 0)), (7, .int x7_30)]) (by decide) rfl ?_
        refine mm_lv [1, 2, 0] rfl (th_X8_read_L208 h0 (fun M_37 => ?_) mm_fu _ _)
        refine mm_bipush 237 rfl (v := (-20)) dX8_read_235 (by decide) ?_
        refine mm_iload 239 rfl dX8_read_237 0 rfl ?_
        refine mm_isub 240 rfl dX8_read_239 ?_
        exact mm_iret dX8_read_240 rfl rfl
      · refine mm_aload_n 251 rfl dX8_read_250 rfl 0 rfl ?_
        refine mm_iload 253 rfl dX8_read_251 1 rfl ?_
        refine pt_X8_297 256 rfl dX8_read_253 hN ?_
        refine mm_bM (fun M_43 => ?_)
        refine mm_iload 258 rfl dX8_read_256 2 rfl ?_
        exact mm_iret dX8_read_258 rfl rfl
    · refine mm_iconst 22 rfl (v := (-1)) dX8_read_21 (by decide) ?_
      exact mm_iret dX8_read_22 rfl rfl

-- MangleLineModel.torn()I
noncomputable def fn_X8_torn  (M : mm_M) : Option (Int32 × mm_M) :=
  some ((M 0 26), M)
set_option maxRecDepth 20000 in
set_option maxHeartbeats 4000000 in
theorem ct_X8_torn {l : Launch} {G : mm_G} {sh : mm_S} {M : mm_M} (h0 : mm_isMod G sh) : mm_K l G yX8_torn (cX8_torn, 1, RX8, (some .int), 1) [.ref (mm_ad G 0)] (mm_fi sh) sh M (fn_X8_torn  M) := by
  refine mm_met (by decide +kernel) rfl (Nat.le_of_ble_eq_true rfl) (fun X hX => ?_)
  subst hX
  show mm_T X G (cX8_torn, 1, RX8, (some .int), 1) (mm_fi sh) sh M 0 [(0, .ref (mm_ad G 0))] [] (fn_X8_torn  M)
  unfold fn_X8_torn
  obtain ⟨N, hN⟩ := h0.1
  refine mm_aload_n 1 rfl dX8_torn_0 rfl 0 rfl ?_
  refine gt_X8_297 4 rfl dX8_torn_1 hN ?_
  exact mm_iret dX8_torn_4 rfl rfl

-- MangleLineModel.count(I)I
noncomputable def fn_X8_count_L8 (c1 : Int32) (k : Int32 → mm_M → Option (Int32 × mm_M)) : Nat → Int32 → Int32 → mm_M → Option (Int32 × mm_M)
  | 0, _, _, _ => none
  | n + 1, x2, x3, M => (if 7 ≤ x3 then k x2 M else (if mm_in (30 + x3) 57 then mm_let (x2 + (M 2 (30 + x3).toNatClampNeg)) fun x2_4 => fn_X8_count_L8 c1 k n x2_4 (x3 + 1) M else none))
set_option maxRecDepth 20000 in
set_option maxHeartbeats 4000000 in
theorem th_X8_count_L8 {X : mm_X} {G : mm_G} {sh : mm_S} {c1 : Int32} {k : Int32 → mm_M → Option (Int32 × mm_M)} (h0 : mm_isMod G sh) (hk : ∀ (x2 : Int32) (M : mm_M), mm_T X G (cX8_count, 4, RX8, (some .int), 3) (mm_fi sh) sh M 32 [(0, .ref (mm_ad G 0)), (1, .int c1), (2, .int x2)] [] (k x2 M)) : ∀ (n : Nat) (x2 : Int32) (x3 : Int32) (M : mm_M), mm_T X G (cX8_count, 4, RX8, (some .int), 3) (mm_fi sh) sh M 8 [(0, .ref (mm_ad G 0)), (1, .int c1), (2, .int x2), (3, .int x3)] [] (fn_X8_count_L8 c1 k n x2 x3 M) := by
  intro n
  induction n with
  | zero => intro x2 x3 M; exact mm_none
  | succ n ih =>
    intro x2 x3 M
    rw [fn_X8_count_L8]
    obtain ⟨N, hN⟩ := h0.1
    refine mm_iload_n 9 rfl dX8_count_8 rfl 3 rfl ?_
    refine mm_bipush 11 rfl (v := 7) dX8_count_9 (by decide) ?_
    refine mm_icmp_ge 14 32 rfl dX8_count_11 (by decide) (fun h_2 => ?_) (fun h_2 => ?_)
    · exact mm_lv [0, 1, 2] rfl (hk _ _)
    · refine mm_iload_n 15 rfl dX8_count_14 rfl 2 rfl ?_
      refine mm_aload_n 16 rfl dX8_count_15 rfl 0 rfl ?_
      refine gt_X8_13 19 rfl dX8_count_16 hN ?_
      refine mm_bipush 21 rfl (v := 30) dX8_count_19 (by decide) ?_
      refine mm_iload_n 22 rfl dX8_count_21 rfl 3 rfl ?_
      refine mm_iadd 23 rfl dX8_count_22 ?_
      refine mm_iald 24 rfl dX8_count_23 h0.2.2.1 (fun h_3 => ?_)
      refine mm_iadd 25 rfl dX8_count_24 ?_
      refine mm_bI (fun x2_4 => ?_)
      refine mm_istore_n 26 rfl dX8_count_25 rfl (lv' := [(2, .int x2_4), (0, .ref (mm_ad G 0)), (1, .int c1), (3, .int x3)]) (by decide) rfl ?_
      refine mm_iinc 29 rfl dX8_count_26 3 rfl (v := (x3 + 1)) rfl (lv' := [(3, .int (x3 + 1)), (2, .int x2_4), (0, .ref (mm_ad G 0)), (1, .int c1)]) (by decide) rfl ?_
      refine mm_goto 8 dX8_count_29 (by decide) ?_
      exact mm_lv [2, 3, 1, 0] rfl (ih _ _ _)
noncomputable def fn_X8_count (c1 : Int32) (M : mm_M) : Option (Int32 × mm_M) :=
  ((fn_X8_starts  M).bind fun z_1 => fn_X8_count_L8 c1 (fun x2_5 M_6 => (if c1 = 0 then some ((M_6 1 38), M_6) else (if c1 = 1 then ((fn_X8_flag (M_6 3 0) M_6).bind fun z_10 => ((fn_X8_flag (z_10.2 3 1) z_10.2).bind fun z_11 => some ((z_10.1 + z_11.1), z_11.2))) else (if c1 = 2 then some ((M_6 0 7), M_6) else (if c1 = 3 then (if (M_6 8 0) = (-4) then some ((-4), M_6) else some ((M_6 9 0), M_6)) else (if c1 = 4 then ((fn_X8_sumOf 2 M_6).bind fun z_16 => some (z_16.1, z_16.2)) else (if c1 = 5 then some (x2_5, M_6) else some ((-1), M_6)))))))) mm_fu 0 0 z_1)
set_option maxRecDepth 20000 in
set_option maxHeartbeats 4000000 in
theorem ct_X8_count {l : Launch} {G : mm_G} {sh : mm_S} {M : mm_M} (c1 : Int32) (h0 : mm_isMod G sh) : mm_K l G yX8_count (cX8_count, 4, RX8, (some .int), 3) [.ref (mm_ad G 0), .int c1] (mm_fi sh) sh M (fn_X8_count c1 M) := by
  refine mm_met (by decide +kernel) rfl (Nat.le_of_ble_eq_true rfl) (fun X hX => ?_)
  subst hX
  show mm_T X G (cX8_count, 4, RX8, (some .int), 3) (mm_fi sh) sh M 0 [(0, .ref (mm_ad G 0)), (1, .int c1)] [] (fn_X8_count c1 M)
  unfold fn_X8_count
  obtain ⟨N, hN⟩ := h0.1
  refine mm_aload_n 1 rfl dX8_count_0 rfl 0 rfl ?_
  refine ca_X8_183 4 rfl dX8_count_1 hN (ct_X8_starts  h0) (by decide) (Nat.le_of_ble_eq_true rfl) (fun z_1 => ?_)
  refine mm_iconst 5 rfl (v := 0) dX8_count_4 (by decide) ?_
  refine mm_istore_n 6 rfl dX8_count_5 rfl (lv' := [(2, .int 0), (0, .ref (mm_ad G 0)), (1, .int c1)]) (by decide) rfl ?_
  refine mm_iconst 7 rfl (v := 0) dX8_count_6 (by decide) ?_
  refine mm_istore_n 8 rfl dX8_count_7 rfl (lv' := [(3, .int 0), (2, .int 0), (0, .ref (mm_ad G 0)), (1, .int c1)]) (by decide) rfl ?_
  refine mm_lv [2, 3, 1, 0] rfl (th_X8_count_L8 h0 (fun x2_5 M_6 => ?_) mm_fu _ _ _)
  refine mm_iload_n 33 rfl dX8_count_32 rfl 1 rfl ?_
  refine mm_ite (fun h_8 => ?_) (fun h_8 => ?_)
  · refine mm_tabIn 72 0 h_8 dX8_count_33 (by decide) (by decide) rfl (by decide) ?_
    refine mm_aload_n 73 rfl dX8_count_72 rfl 0 rfl ?_
    refine gt_X8_7 76 rfl dX8_count_73 hN ?_
    refine mm_bipush 78 rfl (v := 38) dX8_count_76 (by decide) ?_
    refine mm_ialdK 79 rfl dX8_count_78 h0.2.1 (by decide) 38 (by decide) ?_
    exact mm_iret dX8_count_79 rfl rfl
  · refine mm_ite (fun h_9 => ?_) (fun h_9 => ?_)
    · refine mm_tabIn 80 1 h_9 dX8_count_33 (by decide) (by decide) rfl (by decide) ?_
      refine mm_aload_n 81 rfl dX8_count_80 rfl 0 rfl ?_
      refine gt_X8_16 84 rfl dX8_count_81 hN ?_
      refine mm_iconst 85 rfl (v := 0) dX8_count_84 (by decide) ?_
      refine mm_zaldK 86 rfl dX8_count_85 h0.2.2.2.1 (by decide) 0 (by decide) ?_
      refine ca_X8_147 89 rfl dX8_count_86 (ct_X8_flag (M_6 3 0) ) (by decide) (Nat.le_of_ble_eq_true rfl) (fun z_10 => ?_)
      refine mm_aload_n 90 rfl dX8_count_89 rfl 0 rfl ?_
      refine gt_X8_16 93 rfl dX8_count_90 hN ?_
      refine mm_iconst 94 rfl (v := 1) dX8_count_93 (by decide) ?_
      refine mm_zaldK 95 rfl dX8_count_94 h0.2.2.2.1 (by decide) 1 (by decide) ?_
      refine ca_X8_147 98 rfl dX8_count_95 (ct_X8_flag (z_10.2 3 1) ) (by decide) (Nat.le_of_ble_eq_true rfl) (fun z_11 => ?_)
      refine mm_iadd 99 rfl dX8_count_98 ?_
      exact mm_iret dX8_count_99 rfl rfl
    · refine mm_ite (fun h_12 => ?_) (fun h_12 => ?_)
      · refine mm_tabIn 100 2 h_12 dX8_count_33 (by decide) (by decide) rfl (by decide) ?_
        refine mm_aload_n 101 rfl dX8_count_100 rfl 0 rfl ?_
        refine gt_X8_63 104 rfl dX8_count_101 hN ?_
        exact mm_iret dX8_count_104 rfl rfl
      · refine mm_ite (fun h_13 => ?_) (fun h_13 => ?_)
        · refine mm_tabIn 105 3 h_13 dX8_count_33 (by decide) (by decide) rfl (by decide) ?_
          refine mm_aload_n 106 rfl dX8_count_105 rfl 0 rfl ?_
          refine gt_X8_32 109 rfl dX8_count_106 hN ?_
          refine mm_iconst 110 rfl (v := 0) dX8_count_109 (by decide) ?_
          refine mm_ialdK 111 rfl dX8_count_110 h0.2.2.2.2.2.2.2.2.1 (by decide) 0 (by decide) ?_
          refine mm_bipush 113 rfl (v := (-4)) dX8_count_111 (by decide) ?_
          refine mm_icmp_ne 116 121 rfl dX8_count_113 (by decide) (fun h_14 => ?_) (fun h_14 => ?_)
          · refine mm_aload_n 122 rfl dX8_count_121 rfl 0 rfl ?_
            refine gt_X8_35 125 rfl dX8_count_122 hN ?_
            refine mm_iconst 126 rfl (v := 0) dX8_count_125 (by decide) ?_
            refine mm_ialdK 127 rfl dX8_count_126 h0.2.2.2.2.2.2.2.2.2.1 (by decide) 0 (by decide) ?_
            exact mm_iret dX8_count_127 rfl rfl
          · refine mm_bipush 118 rfl (v := (-4)) dX8_count_116 (by decide) ?_
            refine mm_goto 127 dX8_count_118 (by decide) ?_
            exact mm_iret dX8_count_127 rfl rfl
        · refine mm_ite (fun h_15 => ?_) (fun h_15 => ?_)
          · refine mm_tabIn 128 4 h_15 dX8_count_33 (by decide) (by decide) rfl (by decide) ?_
            refine mm_aload_n 129 rfl dX8_count_128 rfl 0 rfl ?_
            refine mm_iconst 130 rfl (v := 2) dX8_count_129 (by decide) ?_
            refine ca_X8_186 133 rfl dX8_count_130 hN (ct_X8_sumOf 2 h0) (by decide) (Nat.le_of_ble_eq_true rfl) (fun z_16 => ?_)
            exact mm_iret dX8_count_133 rfl rfl
          · refine mm_ite (fun h_17 => ?_) (fun h_17 => ?_)
            · refine mm_tabIn 134 5 h_17 dX8_count_33 (by decide) (by decide) rfl (by decide) ?_
              refine mm_iload_n 135 rfl dX8_count_134 rfl 2 rfl ?_
              exact mm_iret dX8_count_135 rfl rfl
            · refine mm_tabOut 136 dX8_count_33 (mm_out 0 6 (by decide) (fun j hj => by match j, hj with | 0, _ => exact h_8 | 1, _ => exact h_9 | 2, _ => exact h_12 | 3, _ => exact h_13 | 4, _ => exact h_15 | 5, _ => exact h_17) rfl rfl) (by decide) ?_
              refine mm_iconst 137 rfl (v := (-1)) dX8_count_136 (by decide) ?_
              exact mm_iret dX8_count_137 rfl rfl
