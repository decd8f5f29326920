-- MangleLine.within(III)Z
noncomputable def fn_X7_within (c0 : Int32) (c1 : Int32) (c2 : Int32) (M : mm_M) : Option (Int32 × mm_M) :=
  (if c0 < c1 then some (0, M) else (if c2 < c0 then some (0, M) else some (1, M)))
set_option maxRecDepth 20000 in
set_option maxHeartbeats 4000000 in
theorem ct_X7_within {l : Launch} {G : mm_G} {sh : mm_S} {M : mm_M} (c0 : Int32) (c1 : Int32) (c2 : Int32) : mm_K l G yX7_within (cX7_within, 3, RX7, (some .boolean), 1) [.int c0, .int c1, .int c2] (mm_fi sh) sh M (fn_X7_within c0 c1 c2 M) := by
  refine mm_met (by decide +kernel) rfl (Nat.le_of_ble_eq_true rfl) (fun X hX => ?_)
  subst hX
  show mm_T X G (cX7_within, 3, RX7, (some .boolean), 1) (mm_fi sh) sh M 0 [(0, .int c0), (1, .int c1), (2, .int c2)] [] (fn_X7_within c0 c1 c2 M)
  unfold fn_X7_within
  refine mm_iload_n 1 rfl dX7_within_0 rfl 0 rfl ?_
  refine mm_iload_n 2 rfl dX7_within_1 rfl 1 rfl ?_
  refine mm_icmp_lt 5 14 rfl dX7_within_2 (by decide) (fun h_1 => ?_) (fun h_1 => ?_)
  · refine mm_iconst 15 rfl (v := 0) dX7_within_14 (by decide) ?_
    exact mm_zretK dX7_within_15 rfl rfl rfl
  · refine mm_iload_n 6 rfl dX7_within_5 rfl 0 rfl ?_
    refine mm_iload_n 7 rfl dX7_within_6 rfl 2 rfl ?_
    refine mm_icmp_gt 10 14 rfl dX7_within_7 (by decide) (fun h_2 => ?_) (fun h_2 => ?_)
    · refine mm_iconst 15 rfl (v := 0) dX7_within_14 (by decide) ?_
      exact mm_zretK dX7_within_15 rfl rfl rfl
    · refine mm_iconst 11 rfl (v := 1) dX7_within_10 (by decide) ?_
      refine mm_goto 15 dX7_within_11 (by decide) ?_
      exact mm_zretK dX7_within_15 rfl rfl rfl

-- MangleLine$Laundry.clear()V
noncomputable def fn_X2_clear (r0 : Nat) (M : mm_M) : Option mm_M :=
  mm_let (mm_up M r0 0 0) fun M_1 => mm_let (mm_up M_1 r0 1 0) fun M_2 => mm_let (mm_row M_2 (r0 + 5) (va_cpy (mm_sav 2) (M_2 (r0 + 5)) 0 0 5)) fun M_3 => ((fn_J7_fill_53178 (r0 + 6) 7 4 M_3).bind fun z_4 => some z_4)
set_option maxRecDepth 20000 in
set_option maxHeartbeats 4000000 in
theorem ct_X2_clear {l : Launch} {G : mm_G} {sh : mm_S} {M : mm_M} (r0 : Nat) (h0 : mm_isLau G sh r0) : mm_K l G yX2_clear (cX2_clear, 1, RX2, none, 2) [.ref (mm_ad G r0)] (mm_fv sh) sh M (fn_X2_clear r0 M) := by
  refine mm_met (by decide +kernel) rfl (Nat.le_of_ble_eq_true rfl) (fun X hX => ?_)
  subst hX
  show mm_T X G (cX2_clear, 1, RX2, none, 2) (mm_fv sh) sh M 0 [(0, .ref (mm_ad G r0))] [] (fn_X2_clear r0 M)
  unfold fn_X2_clear
  refine mm_aload_n 1 rfl dX2_clear_0 rfl 0 rfl ?_
  refine mm_iconst 2 rfl (v := 0) dX2_clear_1 (by decide) ?_
  refine pt_X2_33 5 rfl dX2_clear_2 h0.1 ?_
  refine mm_bM (fun M_1 => ?_)
  refine mm_aload_n 6 rfl dX2_clear_5 rfl 0 rfl ?_
  refine mm_iconst 7 rfl (v := 0) dX2_clear_6 (by decide) ?_
  refine pt_X2_37 10 rfl dX2_clear_7 h0.1 ?_
  refine mm_bM (fun M_2 => ?_)
  refine mm_getsN 13 rfl dX2_clear_10 2 (by decide) (List.mem_of_getElem? (i := 1) rfl) ?_
  refine mm_iconst 14 rfl (v := 0) dX2_clear_13 (by decide) ?_
  refine mm_aload_n 15 rfl dX2_clear_14 rfl 0 rfl ?_
  refine gt_X2_24 18 rfl dX2_clear_15 h0.1 ?_
  refine mm_iconst 19 rfl (v := 0) dX2_clear_18 (by decide) ?_
  refine mm_iconst 20 rfl (v := 5) dX2_clear_19 (by decide) ?_
  refine mm_copyS 23 rfl dX2_clear_20 (by decide) h0.2.2.2.2.2.1 (by decide) (by decide) (by decide) (by decide) (by decide) 0 0 5 (by decide) (by decide) (by decide) mw_1_38 mw_1_40 mw_1_39 mw_1_3 (by decide) (Nat.le_of_ble_eq_true rfl) ?_
  refine mm_bM (fun M_3 => ?_)
  refine mm_aload_n 24 rfl dX2_clear_23 rfl 0 rfl ?_
  refine gt_X2_27 27 rfl dX2_clear_24 h0.1 ?_
  refine mm_iconst 28 rfl (v := 4) dX2_clear_27 (by decide) ?_
  refine ca_X2_49 31 rfl dX2_clear_28 (ct_J7_fill_53178 (r0 + 6) 7 4 h0.2.2.2.2.2.2) (by decide) (Nat.le_of_ble_eq_true rfl) (fun z_4 => ?_)
  exact mm_vret dX2_clear_31 rfl rfl

-- MangleLine$Laundry.become(LMangleLine$Laundry;)V
noncomputable def fn_X2_become (r0 : Nat) (r1 : Nat) (M : mm_M) : Option mm_M :=
  mm_let (mm_up M r0 0 (M r1 0)) fun M_1 => mm_let (mm_up M_1 r0 1 (M_1 r1 1)) fun M_2 => mm_let (mm_row M_2 (r0 + 1) (va_cpy (M_2 (r1 + 1)) (M_2 (r0 + 1)) 0 0 6)) fun M_3 => mm_let (mm_row M_3 (r0 + 2) (va_cpy (M_3 (r1 + 2)) (M_3 (r0 + 2)) 0 0 6)) fun M_4 => mm_let (mm_row M_4 (r0 + 3) (va_cpy (M_4 (r1 + 3)) (M_4 (r0 + 3)) 0 0 6)) fun M_5 => mm_let (mm_row M_5 (r0 + 4) (va_cpy (M_5 (r1 + 4)) (M_5 (r0 + 4)) 0 0 6)) fun M_6 => mm_let (mm_row M_6 (r0 + 5) (va_cpy (M_6 (r1 + 5)) (M_6 (r0 + 5)) 0 0 5)) fun M_7 => mm_let (mm_row M_7 (r0 + 6) (va_cpy (M_7 (r1 + 6)) (M_7 (r0 + 6)) 0 0 7)) fun M_8 => some M_8
set_option maxRecDepth 20000 in
set_option maxHeartbeats 4000000 in
theorem ct_X2_become {l : Launch} {G : mm_G} {sh : mm_S} {M : mm_M} (r0 : Nat) (r1 : Nat) (h0 : mm_isLau G sh r0) (h1 : mm_isLau G sh r1) : mm_K l G yX2_become (cX2_become, 2, RX2, none, 1) [.ref (mm_ad G r0), .ref (mm_ad G r1)] (mm_fv sh) sh M (fn_X2_become r0 r1 M) := by
  refine mm_met (by decide +kernel) rfl (Nat.le_of_ble_eq_true rfl) (fun X hX => ?_)
  subst hX
  show mm_T X G (cX2_become, 2, RX2, none, 1) (mm_fv sh) sh M 0 [(0, .ref (mm_ad G r0)), (1, .ref (mm_ad G r1))] [] (fn_X2_become r0 r1 M)
  unfold fn_X2_become
  refine mm_aload_n 1 rfl dX2_become_0 rfl 0 rfl ?_
  refine mm_aload_n 2 rfl dX2_become_1 rfl 1 rfl ?_
  refine gt_X2_33 5 rfl dX2_become_2 h1.1 ?_
  refine pt_X2_33 8 rfl dX2_become_5 h0.1 ?_
  refine mm_bM (fun M_1 => ?_)
  refine mm_aload_n 9 rfl dX2_become_8 rfl 0 rfl ?_
  refine mm_aload_n 10 rfl dX2_become_9 rfl 1 rfl ?_
  refine gt_X2_37 13 rfl dX2_become_10 h1.1 ?_
  refine pt_X2_37 16 rfl dX2_become_13 h0.1 ?_
  refine mm_bM (fun M_2 => ?_)
  refine mm_aload_n 17 rfl dX2_become_16 rfl 1 rfl ?_
  refine gt_X2_9 20 rfl dX2_become_17 h1.1 ?_
  refine mm_iconst 21 rfl (v := 0) dX2_become_20 (by decide) ?_
  refine mm_aload_n 22 rfl dX2_become_21 rfl 0 rfl ?_
  refine gt_X2_9 25 rfl dX2_become_22 h0.1 ?_
  refine mm_iconst 26 rfl (v := 0) dX2_become_25 (by decide) ?_
  refine mm_bipush 28 rfl (v := 6) dX2_become_26 (by decide) ?_
  refine mm_copy 31 rfl dX2_become_28 h1.2.1 h0.2.1 (by decide) (by decide) (by decide) (by decide) (by decide) 0 0 6 (by decide) (by decide) (by decide) mw_1_38 mw_1_40 mw_1_39 mw_1_3 (by decide) (Nat.le_of_ble_eq_true rfl) ?_
  refine mm_bM (fun M_3 => ?_)
  refine mm_aload_n 32 rfl dX2_become_31 rfl 1 rfl ?_
  refine gt_X2_15 35 rfl dX2_become_32 h1.1 ?_
  refine mm_iconst 36 rfl (v := 0) dX2_become_35 (by decide) ?_
  refine mm_aload_n 37 rfl dX2_become_36 rfl 0 rfl ?_
  refine gt_X2_15 40 rfl dX2_become_37 h0.1 ?_
  refine mm_iconst 41 rfl (v := 0) dX2_become_40 (by decide) ?_
  refine mm_bipush 43 rfl (v := 6) dX2_become_41 (by decide) ?_
  refine mm_copy 46 rfl dX2_become_43 h1.2.2.1 h0.2.2.1 (by decide) (by decide) (by decide) (by decide) (by decide) 0 0 6 (by decide) (by decide) (by decide) mw_1_38 mw_1_40 mw_1_39 mw_1_3 (by decide) (Nat.le_of_ble_eq_true rfl) ?_
  refine mm_bM (fun M_4 => ?_)
  refine mm_aload_n 47 rfl dX2_become_46 rfl 1 rfl ?_
  refine gt_X2_18 50 rfl dX2_become_47 h1.1 ?_
  refine mm_iconst 51 rfl (v := 0) dX2_become_50 (by decide) ?_
  refine mm_aload_n 52 rfl dX2_become_51 rfl 0 rfl ?_
  refine gt_X2_18 55 rfl dX2_become_52 h0.1 ?_
  refine mm_iconst 56 rfl (v := 0) dX2_become_55 (by decide) ?_
  refine mm_bipush 58 rfl (v := 6) dX2_become_56 (by decide) ?_
  refine mm_copy 61 rfl dX2_become_58 h1.2.2.2.1 h0.2.2.2.1 (by decide) (by decide) (by decide) (by decide) (by decide) 0 0 6 (by decide) (by decide) (by decide) mw_1_38 mw_1_40 mw_1_39 mw_1_3 (by decide) (Nat.le_of_ble_eq_true rfl) ?_
  refine mm_bM (fun M_5 => ?_)
  refine mm_aload_n 62 rfl dX2_become_61 rfl 1 rfl ?_
  refine gt_X2_21 65 rfl dX2_become_62 h1.1 ?_
  refine mm_iconst 66 rfl (v := 0) dX2_become_65 (by decide) ?_
  refine mm_aload_n 67 rfl dX2_become_66 rfl 0 rfl ?_
  refine gt_X2_21 70 rfl dX2_become_67 h0.1 ?_
  refine mm_iconst 71 rfl (v := 0) dX2_become_70 (by decide) ?_
  refine mm_bipush 73 rfl (v := 6) dX2_become_71 (by decide) ?_
  refine mm_copy 76 rfl dX2_become_73 h1.2.2.2.2.1 h0.2.2.2.2.1 (by decide) (by decide) (by decide) (by decide) (by decide) 0 0 6 (by decide) (by decide) (by decide) mw_1_38 mw_1_40 mw_1_39 mw_1_3 (by decide) (Nat.le_of_ble_eq_true rfl) ?_
  refine mm_bM (fun M_6 => ?_)
  refine mm_aload_n 77 rfl dX2_become_76 rfl 1 rfl ?_
  refine gt_X2_24 80 rfl dX2_become_77 h1.1 ?_
  refine mm_iconst 81 rfl (v := 0) dX2_become_80 (by decide) ?_
  refine mm_aload_n 82 rfl dX2_become_81 rfl 0 rfl ?_
  refine gt_X2_24 85 rfl dX2_become_82 h0.1 ?_
  refine mm_iconst 86 rfl (v := 0) dX2_become_85 (by decide) ?_
  refine mm_iconst 87 rfl (v := 5) dX2_become_86 (by decide) ?_
  refine mm_copy 90 rfl dX2_become_87 h1.2.2.2.2.2.1 h0.2.2.2.2.2.1 (by decide) (by decide) (by decide) (by decide) (by decide) 0 0 5 (by decide) (by decide) (by decide) mw_1_38 mw_1_40 mw_1_39 mw_1_3 (by decide) (Nat.le_of_ble_eq_true rfl) ?_
  refine mm_bM (fun M_7 => ?_)
  refine mm_aload_n 91 rfl dX2_become_90 rfl 1 rfl ?_
  refine gt_X2_27 94 rfl dX2_become_91 h1.1 ?_
  refine mm_iconst 95 rfl (v := 0) dX2_become_94 (by decide) ?_
  refine mm_aload_n 96 rfl dX2_become_95 rfl 0 rfl ?_
  refine gt_X2_27 99 rfl dX2_become_96 h0.1 ?_
  refine mm_iconst 100 rfl (v := 0) dX2_become_99 (by decide) ?_
  refine mm_bipush 102 rfl (v := 7) dX2_become_100 (by decide) ?_
  refine mm_copy 105 rfl dX2_become_102 h1.2.2.2.2.2.2 h0.2.2.2.2.2.2 (by decide) (by decide) (by decide) (by decide) (by decide) 0 0 7 (by decide) (by decide) (by decide) mw_1_38 mw_1_40 mw_1_39 mw_1_3 (by decide) (Nat.le_of_ble_eq_true rfl) ?_
  refine mm_bM (fun M_8 => ?_)
  exact mm_vret dX2_become_105 rfl rfl

-- Laundry: one more is brought in (II)I
noncomputable def fn_X2_admit (r0 : Nat) (c1 : Int32) (c2 : Int32) (M : mm_M) : Option (Int32 × mm_M) :=
  ((fn_X7_within c1 0 3 M).bind fun z_1 => (if z_1.1 = 0 then some ((-1), z_1.2) else ((fn_X7_within c2 0 60 z_1.2).bind fun z_3 => (if z_3.1 = 0 then some ((-1), z_3.2) else (if (z_3.2 r0 0) < 6 then (if mm_in (z_3.2 r0 0) 6 then (mm_let (mm_up z_3.2 (r0 + 1) (z_3.2 r0 0).toNatClampNeg c1) fun M_6 => (if mm_in (M_6 r0 0) 6 then (mm_let (mm_up M_6 (r0 + 2) (M_6 r0 0).toNatClampNeg c2) fun M_8 => (if mm_in (M_8 r0 0) 6 then (mm_let (mm_up M_8 (r0 + 3) (M_8 r0 0).toNatClampNeg 0) fun M_10 => (if mm_in (M_10 r0 0) 6 then (mm_let (mm_up M_10 (r0 + 4) (M_10 r0 0).toNatClampNeg 0) fun M_12 => mm_let (mm_up M_12 r0 0 ((M_12 r0 0) + 1)) fun M_14 => some ((M_14 r0 0), M_14)) else none)) else none)) else none)) else none) else some ((-3), z_3.2))))))
set_option maxRecDepth 20000 in
set_option maxHeartbeats 4000000 in
theorem ct_X2_admit {l : Launch} {G : mm_G} {sh : mm_S} {M : mm_M} (r0 : Nat) (c1 : Int32) (c2 : Int32) (h0 : mm_isLau G sh r0) : mm_K l G yX2_admit (cX2_admit, 3, RX2, (some .int), 2) [.ref (mm_ad G r0), .int c1, .int c2] (mm_fi sh) sh M (fn_X2_admit r0 c1 c2 M) := by
  refine mm_met (by decide +kernel) rfl (Nat.le_of_ble_eq_true rfl) (fun X hX => ?_)
  subst hX
  show mm_T X G (cX2_admit, 3, RX2, (some .int), 2) (mm_fi sh) sh M 0 [(0, .ref (mm_ad G r0)), (1, .int c1), (2, .int c2)] [] (fn_X2_admit r0 c1 c2 M)
  unfold fn_X2_admit
  refine mm_iload_n 1 rfl dX2_admit_0 rfl 1 rfl ?_
  refine mm_iconst 2 rfl (v := 0) dX2_admit_1 (by decide) ?_
  refine mm_iconst 3 rfl (v := 3) dX2_admit_2 (by decide) ?_
  refine ca_X2_55 6 rfl dX2_admit_3 (ct_X7_within c1 0 3 ) (by decide) (Nat.le_of_ble_eq_true rfl) (fun z_1 => ?_)
  refine mm_if_eq 9 19 rfl dX2_admit_6 (by decide) (fun h_2 => ?_) (fun h_2 => ?_)
  · refine mm_iconst 20 rfl (v := (-1)) dX2_admit_19 (by decide) ?_
    exact mm_iret dX2_admit_20 rfl rfl
  · refine mm_iload_n 10 rfl dX2_admit_9 rfl 2 rfl ?_
    refine mm_iconst 11 rfl (v := 0) dX2_admit_10 (by decide) ?_
    refine mm_bipush 13 rfl (v := 60) dX2_admit_11 (by decide) ?_
    refine ca_X2_55 16 rfl dX2_admit_13 (ct_X7_within c2 0 60 ) (by decide) (Nat.le_of_ble_eq_true rfl) (fun z_3 => ?_)
    refine mm_if_ne 19 21 rfl dX2_admit_16 (by decide) (fun h_4 => ?_) (fun h_4 => ?_)
    · refine mm_aload_n 22 rfl dX2_admit_21 rfl 0 rfl ?_
      refine gt_X2_33 25 rfl dX2_admit_22 h0.1 ?_
      refine mm_bipush 27 rfl (v := 6) dX2_admit_25 (by decide) ?_
      refine mm_icmp_lt 30 33 rfl dX2_admit_27 (by decide) (fun h_5 => ?_) (fun h_5 => ?_)
      · refine mm_aload_n 34 rfl dX2_admit_33 rfl 0 rfl ?_
        refine gt_X2_9 37 rfl dX2_admit_34 h0.1 ?_
        refine mm_aload_n 38 rfl dX2_admit_37 rfl 0 rfl ?_
        refine gt_X2_33 41 rfl dX2_admit_38 h0.1 ?_
        refine mm_iload_n 42 rfl dX2_admit_41 rfl 1 rfl ?_
        refine mm_iast 43 rfl dX2_admit_42 h0.2.1 (fun h_7 => ?_)
        refine mm_bM (fun M_6 => ?_)
        refine mm_aload_n 44 rfl dX2_admit_43 rfl 0 rfl ?_
        refine gt_X2_15 47 rfl dX2_admit_44 h0.1 ?_
        refine mm_aload_n 48 rfl dX2_admit_47 rfl 0 rfl ?_
        refine gt_X2_33 51 rfl dX2_admit_48 h0.1 ?_
        refine mm_iload_n 52 rfl dX2_admit_51 rfl 2 rfl ?_
        refine mm_iast 53 rfl dX2_admit_52 h0.2.2.1 (fun h_9 => ?_)
        refine mm_bM (fun M_8 => ?_)
        refine mm_aload_n 54 rfl dX2_admit_53 rfl 0 rfl ?_
        refine gt_X2_18 57 rfl dX2_admit_54 h0.1 ?_
        refine mm_aload_n 58 rfl dX2_admit_57 rfl 0 rfl ?_
        refine gt_X2_33 61 rfl dX2_admit_58 h0.1 ?_
        refine mm_iconst 62 rfl (v := 0) dX2_admit_61 (by decide) ?_
        refine mm_iast 63 rfl dX2_admit_62 h0.2.2.2.1 (fun h_11 => ?_)
        refine mm_bM (fun M_10 => ?_)
        refine mm_aload_n 64 rfl dX2_admit_63 rfl 0 rfl ?_
        refine gt_X2_21 67 rfl dX2_admit_64 h0.1 ?_
        refine mm_aload_n 68 rfl dX2_admit_67 rfl 0 rfl ?_
        refine gt_X2_33 71 rfl dX2_admit_68 h0.1 ?_
        refine mm_iconst 72 rfl (v := 0) dX2_admit_71 (by decide) ?_
        refine mm_iast 73 rfl dX2_admit_72 h0.2.2.2.2.1 (fun h_13 => ?_)
        refine mm_bM (fun M_12 => ?_)
        refine mm_aload_n 74 rfl dX2_admit_73 rfl 0 rfl ?_
        refine mm_dup 75 rfl dX2_admit_74 rfl ?_
        refine gt_X2_33 78 rfl dX2_admit_75 h0.1 ?_
        refine mm_iconst 79 rfl (v := 1) dX2_admit_78 (by decide) ?_
        refine mm_iadd 80 rfl dX2_admit_79 ?_
        refine pt_X2_33 83 rfl dX2_admit_80 h0.1 ?_
        refine mm_bM (fun M_14 => ?_)
        refine mm_aload_n 84 rfl dX2_admit_83 rfl 0 rfl ?_
        refine gt_X2_33 87 rfl dX2_admit_84 h0.1 ?_
        exact mm_iret dX2_admit_87 rfl rfl
      · refine mm_bipush 32 rfl (v := (-3)) dX2_admit_30 (by decide) ?_
        exact mm_iret dX2_admit_32 rfl rfl
    · refine mm_iconst 20 rfl (v := (-1)) dX2_admit_19 (by decide) ?_
      exact mm_iret dX2_admit_20 rfl rfl

-- MangleLine$Laundry.exchangeIn([III)V
noncomputable def fn_X2_exchangeIn (r0 : Nat) (n0 : Nat) (c1 : Int32) (c2 : Int32) (M : mm_M) : Option mm_M :=
  (if mm_in c1 n0 then mm_let (M r0 c1.toNatClampNeg) fun x3_2 => (if mm_in c2 n0 then mm_let (mm_up M r0 c1.toNatClampNeg (M r0 c2.toNatClampNeg)) fun M_4 => mm_let (mm_up M_4 r0 c2.toNatClampNeg x3_2) fun M_5 => some M_5 else none) else none)
set_option maxRecDepth 20000 in
set_option maxHeartbeats 4000000 in
theorem ct_X2_exchangeIn {l : Launch} {G : mm_G} {sh : mm_S} {M : mm_M} (r0 : Nat) (n0 : Nat) (c1 : Int32) (c2 : Int32) (h0 : sh[r0]? = some (mm_ia G n0)) : mm_K l G yX2_exchangeIn (cX2_exchangeIn, 4, RX2, none, 1) [.ref (mm_ad G r0), .int c1, .int c2] (mm_fv sh) sh M (fn_X2_exchangeIn r0 n0 c1 c2 M) := by
  refine mm_met (by decide +kernel) rfl (Nat.le_of_ble_eq_true rfl) (fun X hX => ?_)
  subst hX
  show mm_T X G (cX2_exchangeIn, 4, RX2, none, 1) (mm_fv sh) sh M 0 [(0, .ref (mm_ad G r0)), (1, .int c1), (2, .int c2)] [] (fn_X2_exchangeIn r0 n0 c1 c2 M)
  unfold fn_X2_exchangeIn
  refine mm_aload_n 1 rfl dX2_exchangeIn_0 rfl 0 rfl ?_
  refine mm_iload_n 2 rfl dX2_exchangeIn_1 rfl 1 rfl ?_
  refine mm_iald 3 rfl dX2_exchangeIn_2 h0 (fun h_1 => ?_)
  refine mm_bI (fun x3_2 => ?_)
  refine mm_istore_n 4 rfl dX2_exchangeIn_3 rfl (lv' := [(3, .int x3_2), (0, .ref (mm_ad G r0)), (1, .int c1), (2, .int c2)]) (by decide) rfl ?_
  refine mm_aload_n 5 rfl dX2_exchangeIn_4 rfl 1 rfl ?_
  refine mm_iload_n 6 rfl dX2_exchangeIn_5 rfl 2 rfl ?_
  refine mm_aload_n 7 rfl dX2_exchangeIn_6 rfl 1 rfl ?_
  refine mm_iload_n 8 rfl dX2_exchangeIn_7 rfl 3 rfl ?_
  refine mm_iald 9 rfl dX2_exchangeIn_8 h0 (fun h_3 => ?_)
  refine mm_iastK 10 rfl dX2_exchangeIn_9 h0 h_1 _ rfl ?_
  refine mm_bM (fun M_4 => ?_)
  refine mm_aload_n 11 rfl dX2_exchangeIn_10 rfl 1 rfl ?_
  refine mm_iload_n 12 rfl dX2_exchangeIn_11 rfl 3 rfl ?_
  refine mm_iload_n 13 rfl dX2_exchangeIn_12 rfl 0 rfl ?_
  refine mm_iastK 14 rfl dX2_exchangeIn_13 h0 h_3 _ rfl ?_
  refine mm_bM (fun M_5 => ?_)
  exact mm_vret dX2_exchangeIn_14 rfl rfl

-- MangleLine$Laundry.exchange(II)V
noncomputable def fn_X2_exchange (r0 : Nat) (c1 : Int32) (c2 : Int32) (M : mm_M) : Option mm_M :=
  ((fn_X2_exchangeIn (r0 + 1) 6 c1 c2 M).bind fun z_1 => ((fn_X2_exchangeIn (r0 + 2) 6 c1 c2 z_1).bind fun z_2 => ((fn_X2_exchangeIn (r0 + 3) 6 c1 c2 z_2).bind fun z_3 => ((fn_X2_exchangeIn (r0 + 4) 6 c1 c2 z_3).bind fun z_4 => some z_4))))
set_option maxRecDepth 20000 in
set_option maxHeartbeats 4000000 in
theorem ct_X2_exchange {l : Launch} {G : mm_G} {sh : mm_S} {M : mm_M} (r0 : Nat) (c1 : Int32) (c2 : Int32) (h0 : mm_isLau G sh r0) : mm_K l G yX2_exchange (cX2_exchange, 3, RX2, none, 2) [.ref (mm_ad G r0), .int c1, .int c2] (mm_fv sh) sh M (fn_X2_exchange r0 c1 c2 M) := by
  refine mm_met (by decide +kernel) rfl (Nat.le_of_ble_eq_true rfl) (fun X hX => ?_)
  subst hX
  show mm_T X G (cX2_exchange, 3, RX2, none, 2) (mm_fv sh) sh M 0 [(0, .ref (mm_ad G r0)), (1, .int c1), (2, .int c2)] [] (fn_X2_exchange r0 c1 c2 M)
  unfold fn_X2_exchange
  refine mm_aload_n 1 rfl dX2_exchange_0 rfl 0 rfl ?_
  refine gt_X2_9 4 rfl dX2_exchange_1 h0.1 ?_
  refine mm_iload_n 5 rfl dX2_exchange_4 rfl 1 rfl ?_
  refine mm_iload_n 6 rfl dX2_exchange_5 rfl 2 rfl ?_
  refine ca_X2_59 9 rfl dX2_exchange_6 (ct_X2_exchangeIn (r0 + 1) 6 c1 c2 h0.2.1) (by decide) (Nat.le_of_ble_eq_true rfl) (fun z_1 => ?_)
  refine mm_aload_n 10 rfl dX2_exchange_9 rfl 0 rfl ?_
  refine gt_X2_15 13 rfl dX2_exchange_10 h0.1 ?_
  refine mm_iload_n 14 rfl dX2_exchange_13 rfl 1 rfl ?_
  refine mm_iload_n 15 rfl dX2_exchange_14 rfl 2 rfl ?_
  refine ca_X2_59 18 rfl dX2_exchange_15 (ct_X2_exchangeIn (r0 + 2) 6 c1 c2 h0.2.2.1) (by decide) (Nat.le_of_ble_eq_true rfl) (fun z_2 => ?_)
  refine mm_aload_n 19 rfl dX2_exchange_18 rfl 0 rfl ?_
  refine gt_X2_18 22 rfl dX2_exchange_19 h0.1 ?_
  refine mm_iload_n 23 rfl dX2_exchange_22 rfl 1 rfl ?_
  refine mm_iload_n 24 rfl dX2_exchange_23 rfl 2 rfl ?_
  refine ca_X2_59 27 rfl dX2_exchange_24 (ct_X2_exchangeIn (r0 + 3) 6 c1 c2 h0.2.2.2.1) (by decide) (Nat.le_of_ble_eq_true rfl) (fun z_3 => ?_)
  refine mm_aload_n 28 rfl dX2_exchange_27 rfl 0 rfl ?_
  refine gt_X2_21 31 rfl dX2_exchange_28 h0.1 ?_
  refine mm_iload_n 32 rfl dX2_exchange_31 rfl 1 rfl ?_
  refine mm_iload_n 33 rfl dX2_exchange_32 rfl 2 rfl ?_
  refine ca_X2_59 36 rfl dX2_exchange_33 (ct_X2_exchangeIn (r0 + 4) 6 c1 c2 h0.2.2.2.2.1) (by decide) (Nat.le_of_ble_eq_true rfl) (fun z_4 => ?_)
  exact mm_vret dX2_exchange_36 rfl rfl

-- MangleLine$Laundry.soil(II)V
noncomputable def fn_X2_soil (r0 : Nat) (c1 : Int32) (c2 : Int32) (M : mm_M) : Option mm_M :=
  (if mm_in c1 6 then mm_let (mm_up M (r0 + 2) c1.toNatClampNeg (mm_min 60 ((M (r0 + 2) c1.toNatClampNeg) + c2))) fun M_2 => some M_2 else none)
set_option maxRecDepth 20000 in
set_option maxHeartbeats 4000000 in
theorem ct_X2_soil {l : Launch} {G : mm_G} {sh : mm_S} {M : mm_M} (r0 : Nat) (c1 : Int32) (c2 : Int32) (h0 : mm_isLau G sh r0) : mm_K l G yX2_soil (cX2_soil, 3, RX2, none, 1) [.ref (mm_ad G r0), .int c1, .int c2] (mm_fv sh) sh M (fn_X2_soil r0 c1 c2 M) := by
  refine mm_met (by decide +kernel) rfl (Nat.le_of_ble_eq_true rfl) (fun X hX => ?_)
  subst hX
  show mm_T X G (cX2_soil, 3, RX2, none, 1) (mm_fv sh) sh M 0 [(0, .ref (mm_ad G r0)), (1, .int c1), (2, .int c2)] [] (fn_X2_soil r0 c1 c2 M)
  unfold fn_X2_soil
  refine mm_aload_n 1 rfl dX2_soil_0 rfl 0 rfl ?_
  refine gt_X2_15 4 rfl dX2_soil_1 h0.1 ?_
  refine mm_iload_n 5 rfl dX2_soil_4 rfl 1 rfl ?_
  refine mm_bipush 7 rfl (v := 60) dX2_soil_5 (by decide) ?_
  refine mm_aload_n 8 rfl dX2_soil_7 rfl 0 rfl ?_
  refine gt_X2_15 11 rfl dX2_soil_8 h0.1 ?_
  refine mm_iload_n 12 rfl dX2_soil_11 rfl 1 rfl ?_
  refine mm_iald 13 rfl dX2_soil_12 h0.2.2.1 (fun h_1 => ?_)
  refine mm_iload_n 14 rfl dX2_soil_13 rfl 2 rfl ?_
  refine mm_iadd 15 rfl dX2_soil_14 ?_
  refine mm_mmin 18 rfl dX2_soil_15 mw_3_215 mw_3_216 mw_1_17 mw_3_217 (by decide) (Nat.le_of_ble_eq_true rfl) ?_
  refine mm_iastK 19 rfl dX2_soil_18 h0.2.2.1 h_1 _ rfl ?_
  refine mm_bM (fun M_2 => ?_)
  exact mm_vret dX2_soil_19 rfl rfl

-- MangleLine$Laundry.scrubs(I)I
noncomputable def fn_X2_scrubs (r0 : Nat) (c1 : Int32) (M : mm_M) : Option (Int32 × mm_M) :=
  mm_let (M (r0 + 5) 0) fun x2_1 => (if mm_in c1 6 then (if (M (r0 + 1) c1.toNatClampNeg) = 1 then some ((x2_1 / 2), M) else (if (M (r0 + 1) c1.toNatClampNeg) = 3 then (if 2 ≤ x2_1 then some (((x2_1 / 2) - 1), M) else some (0, M)) else some (x2_1, M))) else none)
set_option maxRecDepth 20000 in
set_option maxHeartbeats 4000000 in
theorem ct_X2_scrubs {l : Launch} {G : mm_G} {sh : mm_S} {M : mm_M} (r0 : Nat) (c1 : Int32) (h0 : mm_isLau G sh r0) : mm_K l G yX2_scrubs (cX2_scrubs, 3, RX2, (some .int), 1) [.ref (mm_ad G r0), .int c1] (mm_fi sh) sh M (fn_X2_scrubs r0 c1 M) := by
  refine mm_met (by decide +kernel) rfl (Nat.le_of_ble_eq_true rfl) (fun X hX => ?_)
  subst hX
  show mm_T X G (cX2_scrubs, 3, RX2, (some .int), 1) (mm_fi sh) sh M 0 [(0, .ref (mm_ad G r0)), (1, .int c1)] [] (fn_X2_scrubs r0 c1 M)
  unfold fn_X2_scrubs
  refine mm_aload_n 1 rfl dX2_scrubs_0 rfl 0 rfl ?_
  refine gt_X2_24 4 rfl dX2_scrubs_1 h0.1 ?_
  refine mm_iconst 5 rfl (v := 0) dX2_scrubs_4 (by decide) ?_
  refine mm_ialdK 6 rfl dX2_scrubs_5 h0.2.2.2.2.2.1 (by decide) 0 (by decide) ?_
  refine mm_bI (fun x2_1 => ?_)
  refine mm_istore_n 7 rfl dX2_scrubs_6 rfl (lv' := [(2, .int x2_1), (0, .ref (mm_ad G r0)), (1, .int c1)]) (by decide) rfl ?_
  refine mm_aload_n 8 rfl dX2_scrubs_7 rfl 1 rfl ?_
  refine gt_X2_9 11 rfl dX2_scrubs_8 h0.1 ?_
  refine mm_iload_n 12 rfl dX2_scrubs_11 rfl 2 rfl ?_
  refine mm_iald 13 rfl dX2_scrubs_12 h0.2.1 (fun h_2 => ?_)
  refine mm_ite (fun h_3 => ?_) (fun h_3 => ?_)
  · refine mm_lkup 40 (off := 27) dX2_scrubs_13 (by decide) (by rw [h_3]; decide) (by decide) ?_
    refine mm_iload_n 41 rfl dX2_scrubs_40 rfl 0 rfl ?_
    refine mm_iconst 42 rfl (v := 2) dX2_scrubs_41 (by decide) ?_
    refine mm_idiv 43 rfl dX2_scrubs_42 (by decide) ?_
    exact mm_iret dX2_scrubs_43 rfl rfl
  · refine mm_ite (fun h_4 => ?_) (fun h_4 => ?_)
    · refine mm_lkup 44 (off := 31) dX2_scrubs_13 (by decide) (by rw [h_4]; decide) (by decide) ?_
      refine mm_iload_n 45 rfl dX2_scrubs_44 rfl 0 rfl ?_
      refine mm_iconst 46 rfl (v := 2) dX2_scrubs_45 (by decide) ?_
      refine mm_icmp_ge 49 53 rfl dX2_scrubs_46 (by decide) (fun h_5 => ?_) (fun h_5 => ?_)
      · refine mm_iload_n 54 rfl dX2_scrubs_53 rfl 0 rfl ?_
        refine mm_iconst 55 rfl (v := 2) dX2_scrubs_54 (by decide) ?_
        refine mm_idiv 56 rfl dX2_scrubs_55 (by decide) ?_
        refine mm_iconst 57 rfl (v := 1) dX2_scrubs_56 (by decide) ?_
        refine mm_isub 58 rfl dX2_scrubs_57 ?_
        exact mm_iret dX2_scrubs_58 rfl rfl
      · refine mm_iconst 50 rfl (v := 0) dX2_scrubs_49 (by decide) ?_
        refine mm_goto 58 dX2_scrubs_50 (by decide) ?_
        exact mm_iret dX2_scrubs_58 rfl rfl
    · refine mm_lkup 59 dX2_scrubs_13 (by decide) (mm_lkno (l := [((1 : Int), (27 : Int)), ((3 : Int), (31 : Int))]) (List.forall_mem_cons.mpr ⟨mm_toInt_ne h_3 (by decide), List.forall_mem_cons.mpr ⟨mm_toInt_ne h_4 (by decide), fun _ h => absurd h List.not_mem_nil⟩⟩)) (by decide) ?_
      refine mm_iload_n 60 rfl dX2_scrubs_59 rfl 0 rfl ?_
      exact mm_iret dX2_scrubs_60 rfl rfl

-- MangleLine$Laundry.dries(II)I
noncomputable def fn_X2_dries (r0 : Nat) (c1 : Int32) (c2 : Int32) (M : mm_M) : Option (Int32 × mm_M) :=
  (if mm_in c1 6 then (if (M (r0 + 1) c1.toNatClampNeg) = 2 then some ((c2 / 2), M) else (if (M (r0 + 1) c1.toNatClampNeg) = 3 then some ((2 * c2), M) else some (c2, M))) else none)
set_option maxRecDepth 20000 in
set_option maxHeartbeats 4000000 in
theorem ct_X2_dries {l : Launch} {G : mm_G} {sh : mm_S} {M : mm_M} (r0 : Nat) (c1 : Int32) (c2 : Int32) (h0 : mm_isLau G sh r0) : mm_K l G yX2_dries (cX2_dries, 3, RX2, (some .int), 1) [.ref (mm_ad G r0), .int c1, .int c2] (mm_fi sh) sh M (fn_X2_dries r0 c1 c2 M) := by
  refine mm_met (by decide +kernel) rfl (Nat.le_of_ble_eq_true rfl) (fun X hX => ?_)
  subst hX
  show mm_T X G (cX2_dries, 3, RX2, (some .int), 1) (mm_fi sh) sh M 0 [(0, .ref (mm_ad G r0)), (1, .int c1), (2, .int c2)] [] (fn_X2_dries r0 c1 c2 M)
  unfold fn_X2_dries
  refine mm_aload_n 1 rfl dX2_dries_0 rfl 0 rfl ?_
  refine gt_X2_9 4 rfl dX2_dries_1 h0.1 ?_
  refine mm_iload_n 5 rfl dX2_dries_4 rfl 1 rfl ?_
  refine mm_iald 6 rfl dX2_dries_5 h0.2.1 (fun h_1 => ?_)
  refine mm_ite (fun h_2 => ?_) (fun h_2 => ?_)
  · refine mm_lkup 32 (off := 26) dX2_dries_6 (by decide) (by rw [h_2]; decide) (by decide) ?_
    refine mm_iload_n 33 rfl dX2_dries_32 rfl 2 rfl ?_
    refine mm_iconst 34 rfl (v := 2) dX2_dries_33 (by decide) ?_
    refine mm_idiv 35 rfl dX2_dries_34 (by decide) ?_
    exact mm_iret dX2_dries_35 rfl rfl
  · refine mm_ite (fun h_3 => ?_) (fun h_3 => ?_)
    · refine mm_lkup 36 (off := 30) dX2_dries_6 (by decide) (by rw [h_3]; decide) (by decide) ?_
      refine mm_iconst 37 rfl (v := 2) dX2_dries_36 (by decide) ?_
      refine mm_iload_n 38 rfl dX2_dries_37 rfl 2 rfl ?_
      refine mm_imul 39 rfl dX2_dries_38 ?_
      exact mm_iret dX2_dries_39 rfl rfl
    · refine mm_lkup 40 dX2_dries_6 (by decide) (mm_lkno (l := [((2 : Int), (26 : Int)), ((3 : Int), (30 : Int))]) (List.forall_mem_cons.mpr ⟨mm_toInt_ne h_2 (by decide), List.forall_mem_cons.mpr ⟨mm_toInt_ne h_3 (by decide), fun _ h => absurd h List.not_mem_nil⟩⟩)) (by decide) ?_
      refine mm_iload_n 41 rfl dX2_dries_40 rfl 2 rfl ?_
      exact mm_iret dX2_dries_41 rfl rfl

-- MangleLine$Laundry.sunToday()I
noncomputable def fn_X2_sunToday (r0 : Nat) (M : mm_M) : Option (Int32 × mm_M) :=
  (if mm_in ((M r0 1) - (M r0 1) / 7 * 7) 7 then some ((M (r0 + 6) ((M r0 1) - (M r0 1) / 7 * 7).toNatClampNeg), M) else none)
set_option maxRecDepth 20000 in
set_option maxHeartbeats 4000000 in
theorem ct_X2_sunToday {l : Launch} {G : mm_G} {sh : mm_S} {M : mm_M} (r0 : Nat) (h0 : mm_isLau G sh r0) : mm_K l G yX2_sunToday (cX2_sunToday, 1, RX2, (some .int), 1) [.ref (mm_ad G r0)] (mm_fi sh) sh M (fn_X2_sunToday r0 M) := by
  refine mm_met (by decide +kernel) rfl (Nat.le_of_ble_eq_true rfl) (fun X hX => ?_)
  subst hX
  show mm_T X G (cX2_sunToday, 1, RX2, (some .int), 1) (mm_fi sh) sh M 0 [(0, .ref (mm_ad G r0))] [] (fn_X2_sunToday r0 M)
  unfold fn_X2_sunToday
  refine mm_aload_n 1 rfl dX2_sunToday_0 rfl 0 rfl ?_
  refine gt_X2_27 4 rfl dX2_sunToday_1 h0.1 ?_
  refine mm_aload_n 5 rfl dX2_sunToday_4 rfl 0 rfl ?_
  refine gt_X2_37 8 rfl dX2_sunToday_5 h0.1 ?_
  refine mm_bipush 10 rfl (v := 7) dX2_sunToday_8 (by decide) ?_
  refine mm_irem 11 rfl dX2_sunToday_10 (by decide) ?_
  refine mm_iald 12 rfl dX2_sunToday_11 h0.2.2.2.2.2.2 (fun h_1 => ?_)
  exact mm_iret dX2_sunToday_12 rfl rfl

-- MangleLine$Laundry.whoIsAt(I)I
noncomputable def fn_X2_whoIsAt_L4 (r0 : Nat) (c1 : Int32) (k : Int32 → mm_M → Option (Int32 × mm_M)) : Nat → Int32 → Int32 → mm_M → Option (Int32 × mm_M)
  | 0, _, _, _ => none
  | n + 1, x2, x3, M => (if (M r0 0) ≤ x3 then k x2 M else (if mm_in x3 6 then (if (M (r0 + 4) x3.toNatClampNeg) = c1 then mm_let (x2 ||| (1 <<< (x3 &&& 31))) fun x2_4 => fn_X2_whoIsAt_L4 r0 c1 k n x2_4 (x3 + 1) M else fn_X2_whoIsAt_L4 r0 c1 k n x2 (x3 + 1) M) else none))
set_option maxRecDepth 20000 in
set_option maxHeartbeats 4000000 in
theorem th_X2_whoIsAt_L4 {X : mm_X} {G : mm_G} {sh : mm_S} {r0 : Nat} {c1 : Int32} {k : Int32 → mm_M → Option (Int32 × mm_M)} (h0 : mm_isLau G sh r0) (hk : ∀ (x2 : Int32) (M : mm_M), mm_T X G (cX2_whoIsAt, 4, RX2, (some .int), 1) (mm_fi sh) sh M 34 [(2, .int x2)] [] (k x2 M)) : ∀ (n : Nat) (x2 : Int32) (x3 : Int32) (M : mm_M), mm_T X G (cX2_whoIsAt, 4, RX2, (some .int), 1) (mm_fi sh) sh M 4 [(0, .ref (mm_ad G r0)), (1, .int c1), (2, .int x2), (3, .int x3)] [] (fn_X2_whoIsAt_L4 r0 c1 k n x2 x3 M) := by
  intro n
  induction n with
  | zero => intro x2 x3 M; exact mm_none
  | succ n ih =>
    intro x2 x3 M
    rw [fn_X2_whoIsAt_L4]
    refine mm_iload_n 5 rfl dX2_whoIsAt_4 rfl 3 rfl ?_
    refine mm_aload_n 6 rfl dX2_whoIsAt_5 rfl 0 rfl ?_
    refine gt_X2_33 9 rfl dX2_whoIsAt_6 h0.1 ?_
    refine mm_icmp_ge 12 34 rfl dX2_whoIsAt_9 (by decide) (fun h_1 => ?_) (fun h_1 => ?_)
    · exact mm_lv [2] rfl (hk _ _)
    · refine mm_aload_n 13 rfl dX2_whoIsAt_12 rfl 0 rfl ?_
      refine gt_X2_21 16 rfl dX2_whoIsAt_13 h0.1 ?_
      refine mm_iload_n 17 rfl dX2_whoIsAt_16 rfl 3 rfl ?_
      refine mm_iald 18 rfl dX2_whoIsAt_17 h0.2.2.2.2.1 (fun h_2 => ?_)
      refine mm_iload_n 19 rfl dX2_whoIsAt_18 rfl 1 rfl ?_
      refine mm_icmp_ne 22 28 rfl dX2_whoIsAt_19 (by decide) (fun h_3 => ?_) (fun h_3 => ?_)
      · refine mm_iinc 31 rfl dX2_whoIsAt_28 3 rfl (v := (x3 + 1)) rfl (lv' := [(3, .int (x3 + 1)), (0, .ref (mm_ad G r0)), (1, .int c1), (2, .int x2)]) (by decide) rfl ?_
        refine mm_goto 4 dX2_whoIsAt_31 (by decide) ?_
        exact mm_lv [1, 2, 3, 0] rfl (ih _ _ _)
      · refine mm_iload_n 23 rfl dX2_whoIsAt_22 rfl 2 rfl ?_
        refine mm_iconst 24 rfl (v := 1) dX2_whoIsAt_23 (by decide) ?_
        refine mm_iload_n 25 rfl dX2_whoIsAt_24 rfl 3 rfl ?_
        refine mm_ishl 26 rfl dX2_whoIsAt_25 ?_
        refine mm_ior 27 rfl dX2_whoIsAt_26 ?_
        refine mm_bI (fun x2_4 => ?_)
        refine mm_istore_n 28 rfl dX2_whoIsAt_27 rfl (lv' := [(2, .int x2_4), (0, .ref (mm_ad G r0)), (1, .int c1), (3, .int x3)]) (by decide) rfl ?_
        refine mm_iinc 31 rfl dX2_whoIsAt_28 3 rfl (v := (x3 + 1)) rfl (lv' := [(3, .int (x3 + 1)), (2, .int x2_4), (0, .ref (mm_ad G r0)), (1, .int c1)]) (by decide) rfl ?_
        refine mm_goto 4 dX2_whoIsAt_31 (by decide) ?_
        exact mm_lv [2, 3, 1, 0] rfl (ih _ _ _)
noncomputable def fn_X2_whoIsAt (r0 : Nat) (c1 : Int32) (M : mm_M) : Option (Int32 × mm_M) :=
  fn_X2_whoIsAt_L4 r0 c1 (fun x2_5 M_6 => some (x2_5, M_6)) mm_fu 0 0 M
set_option maxRecDepth 20000 in
set_option maxHeartbeats 4000000 in
theorem ct_X2_whoIsAt {l : Launch} {G : mm_G} {sh : mm_S} {M : mm_M} (r0 : Nat) (c1 : Int32) (h0 : mm_isLau G sh r0) : mm_K l G yX2_whoIsAt (cX2_whoIsAt, 4, RX2, (some .int), 1) [.ref (mm_ad G r0), .int c1] (mm_fi sh) sh M (fn_X2_whoIsAt r0 c1 M) := by
  refine mm_met (by decide +kernel) rfl (Nat.le_of_ble_eq_true rfl) (fun X hX => ?_)
  subst hX
  show mm_T X G (cX2_whoIsAt, 4, RX2, (some .int), 1) (mm_fi sh) sh M 0 [(0, .ref (mm_ad G r0)), (1, .int c1)] [] (fn_X2_whoIsAt r0 c1 M)
  unfold fn_X2_whoIsAt
  refine mm_iconst 1 rfl (v := 0) dX2_whoIsAt_0 (by decide) ?_
  refine mm_istore_n 2 rfl dX2_whoIsAt_1 rfl (lv' := [(2, .int 0), (0, .ref (mm_ad G r0)), (1, .int c1)]) (by decide) rfl ?_
  refine mm_iconst 3 rfl (v := 0) dX2_whoIsAt_2 (by decide) ?_
  refine mm_istore_n 4 rfl dX2_whoIsAt_3 rfl (lv' := [(3, .int 0), (2, .int 0), (0, .ref (mm_ad G r0)), (1, .int c1)]) (by decide) rfl ?_
  refine mm_lv [2, 3, 1, 0] rfl (th_X2_whoIsAt_L4 h0 (fun x2_5 M_6 => ?_) mm_fu _ _ _)
  refine mm_iload_n 35 rfl dX2_whoIsAt_34 rfl 0 rfl ?_
  exact mm_iret dX2_whoIsAt_35 rfl rfl

-- MangleLine$Laundry.boilBatch()V
noncomputable def fn_X2_boilBatch_L16 (r0 : Nat) (k : mm_M → Option mm_M) : Nat → Int32 → Int32 → mm_M → Option mm_M
  | 0, _, _, _ => none
  | n + 1, x1, x2, M => (if (M r0 0) ≤ x2 then k  M else (if (M (r0 + 5) 1) ≤ (M r0 2) then k  M else (if mm_in x2 6 then (if (M (r0 + 4) x2.toNatClampNeg) = 0 then mm_let (mm_up M r0 2 ((M r0 2) + 1)) fun M_9 => ((fn_X2_scrubs r0 x2 M_9).bind fun z_10 => mm_let (mm_up z_10.2 (r0 + 2) x2.toNatClampNeg (mm_max 0 ((M_9 (r0 + 2) x2.toNatClampNeg) - z_10.1))) fun M_11 => mm_let (mm_up M_11 (r0 + 3) x2.toNatClampNeg (M_11 (r0 + 5) 4)) fun M_12 => (if (M_12 (r0 + 5) 2) ≤ x1 then fn_X2_boilBatch_L16 r0 k n x1 (x2 + 1) M_12 else mm_let (mm_up M_12 (r0 + 4) x2.toNatClampNeg 1) fun M_14 => fn_X2_boilBatch_L16 r0 k n (x1 + 1) (x2 + 1) M_14)) else fn_X2_boilBatch_L16 r0 k n x1 (x2 + 1) M) else none)))
set_option maxRecDepth 20000 in
set_option maxHeartbeats 4000000 in
theorem th_X2_boilBatch_L16 {X : mm_X} {G : mm_G} {sh : mm_S} {r0 : Nat} {k : mm_M → Option mm_M} (h0 : mm_isLau G sh r0) (hk : ∀ (M : mm_M), mm_T X G (cX2_boilBatch, 3, RX2, none, 2) (mm_fv sh) sh M 116 [] [] (k  M)) : ∀ (n : Nat) (x1 : Int32) (x2 : Int32) (M : mm_M), mm_T X G (cX2_boilBatch, 3, RX2, none, 2) (mm_fv sh) sh M 16 [(0, .ref (mm_ad G r0)), (1, .int x1), (2, .int x2)] [] (fn_X2_boilBatch_L16 r0 k n x1 x2 M) := by
  intro n
  induction n with
  | zero => intro x1 x2 M; exact mm_none
  | succ n ih =>
    intro x1 x2 M
    rw [fn_X2_boilBatch_L16]
    refine mm_iload_n 17 rfl dX2_boilBatch_16 rfl 2 rfl ?_
    refine mm_aload_n 18 rfl dX2_boilBatch_17 rfl 0 rfl ?_
    refine gt_X2_33 21 rfl dX2_boilBatch_18 h0.1 ?_
    refine mm_icmp_ge 24 116 rfl dX2_boilBatch_21 (by decide) (fun h_5 => ?_) (fun h_5 => ?_)
    · exact mm_lv [] rfl (hk _)
    · refine mm_aload_n 25 rfl dX2_boilBatch_24 rfl 0 rfl ?_
      refine gt_X2_95 28 rfl dX2_boilBatch_25 h0.1 ?_
      refine mm_aload_n 29 rfl dX2_boilBatch_28 rfl 0 rfl ?_
      refine gt_X2_24 32 rfl dX2_boilBatch_29 h0.1 ?_
      refine mm_iconst 33 rfl (v := 1) dX2_boilBatch_32 (by decide) ?_
      refine mm_ialdK 34 rfl dX2_boilBatch_33 h0.2.2.2.2.2.1 (by decide) 1 (by decide) ?_
      refine mm_icmp_ge 37 116 rfl dX2_boilBatch_34 (by decide) (fun h_6 => ?_) (fun h_6 => ?_)
      · exact mm_lv [] rfl (hk _)
      · refine mm_aload_n 38 rfl dX2_boilBatch_37 rfl 0 rfl ?_
        refine gt_X2_21 41 rfl dX2_boilBatch_38 h0.1 ?_
        refine mm_iload_n 42 rfl dX2_boilBatch_41 rfl 2 rfl ?_
        refine mm_iald 43 rfl dX2_boilBatch_42 h0.2.2.2.2.1 (fun h_7 => ?_)
        refine mm_if_ne 46 110 rfl dX2_boilBatch_43 (by decide) (fun h_8 => ?_) (fun h_8 => ?_)
        · refine mm_iinc 113 rfl dX2_boilBatch_110 2 rfl (v := (x2 + 1)) rfl (lv' := [(2, .int (x2 + 1)), (0, .ref (mm_ad G r0)), (1, .int x1)]) (by decide) rfl ?_
          refine mm_goto 16 dX2_boilBatch_113 (by decide) ?_
          exact mm_lv [1, 2, 0] rfl (ih _ _ _)
        · refine mm_aload_n 47 rfl dX2_boilBatch_46 rfl 0 rfl ?_
          refine mm_dup 48 rfl dX2_boilBatch_47 rfl ?_
          refine gt_X2_95 51 rfl dX2_boilBatch_48 h0.1 ?_
          refine mm_iconst 52 rfl (v := 1) dX2_boilBatch_51 (by decide) ?_
          refine mm_iadd 53 rfl dX2_boilBatch_52 ?_
          refine pt_X2_95 56 rfl dX2_boilBatch_53 h0.1 ?_
          refine mm_bM (fun M_9 => ?_)
          refine mm_aload_n 57 rfl dX2_boilBatch_56 rfl 0 rfl ?_
          refine gt_X2_15 60 rfl dX2_boilBatch_57 h0.1 ?_
          refine mm_iload_n 61 rfl dX2_boilBatch_60 rfl 2 rfl ?_
          refine mm_iconst 62 rfl (v := 0) dX2_boilBatch_61 (by decide) ?_
          refine mm_aload_n 63 rfl dX2_boilBatch_62 rfl 0 rfl ?_
          refine gt_X2_15 66 rfl dX2_boilBatch_63 h0.1 ?_
          refine mm_iload_n 67 rfl dX2_boilBatch_66 rfl 2 rfl ?_
          refine mm_ialdK 68 rfl dX2_boilBatch_67 h0.2.2.1 h_7 _ rfl ?_
          refine mm_aload_n 69 rfl dX2_boilBatch_68 rfl 0 rfl ?_
          refine mm_iload_n 70 rfl dX2_boilBatch_69 rfl 2 rfl ?_
          refine ca_X2_98 73 rfl dX2_boilBatch_70 h0.1 (ct_X2_scrubs r0 x2 h0) (by decide) (Nat.le_of_ble_eq_true rfl) (fun z_10 => ?_)
          refine mm_isub 74 rfl dX2_boilBatch_73 ?_
          refine mm_mmax 77 rfl dX2_boilBatch_74 mw_3_21 mw_3_22 mw_1_17 mw_3_23 (by decide) (Nat.le_of_ble_eq_true rfl) ?_
          refine mm_iastK 78 rfl dX2_boilBatch_77 h0.2.2.1 h_7 _ rfl ?_
          refine mm_bM (fun M_11 => ?_)
          refine mm_aload_n 79 rfl dX2_boilBatch_78 rfl 0 rfl ?_
          refine gt_X2_18 82 rfl dX2_boilBatch_79 h0.1 ?_
          refine mm_iload_n 83 rfl dX2_boilBatch_82 rfl 2 rfl ?_
          refine mm_aload_n 84 rfl dX2_boilBatch_83 rfl 0 rfl ?_
          refine gt_X2_24 87 rfl dX2_boilBatch_84 h0.1 ?_
          refine mm_iconst 88 rfl (v := 4) dX2_boilBatch_87 (by decide) ?_
          refine mm_ialdK 89 rfl dX2_boilBatch_88 h0.2.2.2.2.2.1 (by decide) 4 (by decide) ?_
          refine mm_iastK 90 rfl dX2_boilBatch_89 h0.2.2.2.1 h_7 _ rfl ?_
          refine mm_bM (fun M_12 => ?_)
          refine mm_iload_n 91 rfl dX2_boilBatch_90 rfl 1 rfl ?_
          refine mm_aload_n 92 rfl dX2_boilBatch_91 rfl 0 rfl ?_
          refine gt_X2_24 95 rfl dX2_boilBatch_92 h0.1 ?_
          refine mm_iconst 96 rfl (v := 2) dX2_boilBatch_95 (by decide) ?_
          refine mm_ialdK 97 rfl dX2_boilBatch_96 h0.2.2.2.2.2.1 (by decide) 2 (by decide) ?_
          refine mm_icmp_ge 100 110 rfl dX2_boilBatch_97 (by decide) (fun h_13 => ?_) (fun h_13 => ?_)
          · refine mm_iinc 113 rfl dX2_boilBatch_110 2 rfl (v := (x2 + 1)) rfl (lv' := [(2, .int (x2 + 1)), (0, .ref (mm_ad G r0)), (1, .int x1)]) (by decide) rfl ?_
            refine mm_goto 16 dX2_boilBatch_113 (by decide) ?_
            exact mm_lv [1, 2, 0] rfl (ih _ _ _)
          · refine mm_aload_n 101 rfl dX2_boilBatch_100 rfl 0 rfl ?_
            refine gt_X2_21 104 rfl dX2_boilBatch_101 h0.1 ?_
            refine mm_iload_n 105 rfl dX2_boilBatch_104 rfl 2 rfl ?_
            refine mm_iconst 106 rfl (v := 1) dX2_boilBatch_105 (by decide) ?_
            refine mm_iastK 107 rfl dX2_boilBatch_106 h0.2.2.2.2.1 h_7 _ rfl ?_
            refine mm_bM (fun M_14 => ?_)
            refine mm_iinc 110 rfl dX2_boilBatch_107 1 rfl (v := (x1 + 1)) rfl (lv' := [(1, .int (x1 + 1)), (0, .ref (mm_ad G r0)), (2, .int x2)]) (by decide) rfl ?_
            refine mm_iinc 113 rfl dX2_boilBatch_110 2 rfl (v := (x2 + 1)) rfl (lv' := [(2, .int (x2 + 1)), (1, .int (x1 + 1)), (0, .ref (mm_ad G r0))]) (by decide) rfl ?_
            refine mm_goto 16 dX2_boilBatch_113 (by decide) ?_
            exact mm_lv [2, 1, 0] rfl (ih _ _ _)
noncomputable def fn_X2_boilBatch (r0 : Nat) (M : mm_M) : Option mm_M :=
  ((fn_X2_whoIsAt r0 1 M).bind fun z_1 => ((fn_J6_bitCount_0f7a4 z_1.1 z_1.2).bind fun z_2 => mm_let z_2.1 fun x1_3 => mm_let (mm_up z_2.2 r0 2 0) fun M_4 => fn_X2_boilBatch_L16 r0 (fun M_15 => some M_15) mm_fu x1_3 0 M_4))
set_option maxRecDepth 20000 in
set_option maxHeartbeats 4000000 in
theorem ct_X2_boilBatch {l : Launch} {G : mm_G} {sh : mm_S} {M : mm_M} (r0 : Nat) (h0 : mm_isLau G sh r0) : mm_K l G yX2_boilBatch (cX2_boilBatch, 3, RX2, none, 2) [.ref (mm_ad G r0)] (mm_fv sh) sh M (fn_X2_boilBatch r0 M) := by
  refine mm_met (by decide +kernel) rfl (Nat.le_of_ble_eq_true rfl) (fun X hX => ?_)
  subst hX
  show mm_T X G (cX2_boilBatch, 3, RX2, none, 2) (mm_fv sh) sh M 0 [(0, .ref (mm_ad G r0))] [] (fn_X2_boilBatch r0 M)
  unfold fn_X2_boilBatch
  refine mm_aload_n 1 rfl dX2_boilBatch_0 rfl 0 rfl ?_
  refine mm_iconst 2 rfl (v := 1) dX2_boilBatch_1 (by decide) ?_
  refine ca_X2_87 5 rfl dX2_boilBatch_2 h0.1 (ct_X2_whoIsAt r0 1 h0) (by decide) (Nat.le_of_ble_eq_true rfl) (fun z_1 => ?_)
  refine ca_X2_90 8 rfl dX2_boilBatch_5 (ct_J6_bitCount_0f7a4 z_1.1 ) (by decide) (Nat.le_of_ble_eq_true rfl) (fun z_2 => ?_)
  refine mm_bI (fun x1_3 => ?_)
  refine mm_istore_n 9 rfl dX2_boilBatch_8 rfl (lv' := [(1, .int x1_3), (0, .ref (mm_ad G r0))]) (by decide) rfl ?_
  refine mm_aload_n 10 rfl dX2_boilBatch_9 rfl 1 rfl ?_
  refine mm_iconst 11 rfl (v := 0) dX2_boilBatch_10 (by decide) ?_
  refine pt_X2_95 14 rfl dX2_boilBatch_11 h0.1 ?_
  refine mm_bM (fun M_4 => ?_)
  refine mm_iconst 15 rfl (v := 0) dX2_boilBatch_14 (by decide) ?_
  refine mm_istore_n 16 rfl dX2_boilBatch_15 rfl (lv' := [(2, .int 0), (1, .int x1_3), (0, .ref (mm_ad G r0))]) (by decide) rfl ?_
  refine mm_lv [2, 1, 0] rfl (th_X2_boilBatch_L16 h0 (fun M_15 => ?_) mm_fu _ _ _)
  exact mm_vret dX2_boilBatch_116 rfl rfl

-- MangleLine$Laundry.dryLine(I)I
noncomputable def fn_X2_dryLine_B113 (r0 : Nat) (c1 : Int32) (c3 : Int32) (h : Int32 → Int32 → mm_M → Option (Int32 × mm_M)) (k : Int32 → mm_M → Option (Int32 × mm_M)) (x2 : Int32) (x4 : Int32) (s0 : Int32) (M : mm_M) : Option (Int32 × mm_M) :=
  (if s0 = 0 then (if mm_in x4 6 then (mm_let (mm_up M (r0 + 4) x4.toNatClampNeg 0) fun M_11 => mm_let (x2 + 0) fun x2_13 => h x2_13 (x4 + 1) M_11) else none) else (if mm_in x4 6 then (mm_let (mm_up M (r0 + 4) x4.toNatClampNeg 2) fun M_14 => mm_let (x2 + 1) fun x2_16 => h x2_16 (x4 + 1) M_14) else none))
set_option maxRecDepth 20000 in
set_option maxHeartbeats 4000000 in
theorem th_X2_dryLine_B113 {X : mm_X} {G : mm_G} {sh : mm_S} {r0 : Nat} {c1 : Int32} {c3 : Int32} {h : Int32 → Int32 → mm_M → Option (Int32 × mm_M)} {k : Int32 → mm_M → Option (Int32 × mm_M)} (h0 : mm_isLau G sh r0) (hh : ∀ (y2 : Int32) (y4 : Int32) (M : mm_M), mm_T X G (cX2_dryLine, 6, RX2, (some .int), 2) (mm_fi sh) sh M 16 [(0, .ref (mm_ad G r0)), (1, .int c1), (2, .int y2), (3, .int c3), (4, .int y4)] [] (h y2 y4 M)) (hk : ∀ (y2 : Int32) (M : mm_M), mm_T X G (cX2_dryLine, 6, RX2, (some .int), 2) (mm_fi sh) sh M 151 [(2, .int y2)] [] (k y2 M)) (x2 : Int32) (x4 : Int32) (s0 : Int32) (M : mm_M) : mm_T X G (cX2_dryLine, 6, RX2, (some .int), 2) (mm_fi sh) sh M 113 [(0, .ref (mm_ad G r0)), (1, .int c1), (2, .int x2), (3, .int c3), (4, .int x4)] [.int s0] (fn_X2_dryLine_B113 r0 c1 c3 h k x2 x4 s0 M) := by
  unfold fn_X2_dryLine_B113
  refine mm_istore 115 rfl dX2_dryLine_113 (lv' := [(5, .int s0), (0, .ref (mm_ad G r0)), (1, .int c1), (2, .int x2), (3, .int c3), (4, .int x4)]) (by decide) rfl ?_
  refine mm_aload_n 116 rfl dX2_dryLine_115 rfl 1 rfl ?_
  refine gt_X2_21 119 rfl dX2_dryLine_116 h0.1 ?_
  refine mm_iload 121 rfl dX2_dryLine_119 5 rfl ?_
  refine mm_iload 123 rfl dX2_dryLine_121 0 rfl ?_
  refine mm_if_eq 126 130 rfl dX2_dryLine_123 (by decide) (fun h_10 => ?_) (fun h_10 => ?_)
  · refine mm_iconst 131 rfl (v := 0) dX2_dryLine_130 (by decide) ?_
    refine mm_iast 132 rfl dX2_dryLine_131 h0.2.2.2.2.1 (fun h_12 => ?_)
    refine mm_bM (fun M_11 => ?_)
    refine mm_iload_n 133 rfl dX2_dryLine_132 rfl 3 rfl ?_
    refine mm_iload 135 rfl dX2_dryLine_133 0 rfl ?_
    refine mm_if_eqY 142 dX2_dryLine_135 (by decide) h_10 ?_
    refine mm_iconst 143 rfl (v := 0) dX2_dryLine_142 (by decide) ?_
    refine mm_iadd 144 rfl dX2_dryLine_143 ?_
    refine mm_bI (fun x2_13 => ?_)
    refine mm_istore_n 145 rfl dX2_dryLine_144 rfl (lv' := [(2, .int x2_13), (5, .int s0), (0, .ref (mm_ad G r0)), (1, .int c1), (3, .int c3), (4, .int x4)]) (by decide) rfl ?_
    refine mm_iinc 148 rfl dX2_dryLine_145 5 rfl (v := (x4 + 1)) rfl (lv' := [(4, .int (x4 + 1)), (2, .int x2_13), (5, .int s0), (0, .ref (mm_ad G r0)), (1, .int c1), (3, .int c3)]) (by decide) rfl ?_
    refine mm_goto 16 dX2_dryLine_148 (by decide) ?_
    exact mm_lv [3, 4, 1, 5, 0] rfl (hh _ _ _)
  · refine mm_iconst 127 rfl (v := 2) dX2_dryLine_126 (by decide) ?_
    refine mm_goto 131 dX2_dryLine_127 (by decide) ?_
    refine mm_iast 132 rfl dX2_dryLine_131 h0.2.2.2.2.1 (fun h_15 => ?_)
    refine mm_bM (fun M_14 => ?_)
    refine mm_iload_n 133 rfl dX2_dryLine_132 rfl 3 rfl ?_
    refine mm_iload 135 rfl dX2_dryLine_133 0 rfl ?_
    refine mm_if_eqN 138 rfl 142 dX2_dryLine_135 (by decide) h_10 ?_
    refine mm_iconst 139 rfl (v := 1) dX2_dryLine_138 (by decide) ?_
    refine mm_goto 143 dX2_dryLine_139 (by decide) ?_
    refine mm_iadd 144 rfl dX2_dryLine_143 ?_
    refine mm_bI (fun x2_16 => ?_)
    refine mm_istore_n 145 rfl dX2_dryLine_144 rfl (lv' := [(2, .int x2_16), (5, .int s0), (0, .ref (mm_ad G r0)), (1, .int c1), (3, .int c3), (4, .int x4)]) (by decide) rfl ?_
    refine mm_iinc 148 rfl dX2_dryLine_145 5 rfl (v := (x4 + 1)) rfl (lv' := [(4, .int (x4 + 1)), (2, .int x2_16), (5, .int s0), (0, .ref (mm_ad G r0)), (1, .int c1), (3, .int c3)]) (by decide) rfl ?_
    refine mm_goto 16 dX2_dryLine_148 (by decide) ?_
    exact mm_lv [3, 4, 1, 5, 0] rfl (hh _ _ _)
noncomputable def fn_X2_dryLine_L16 (r0 : Nat) (c1 : Int32) (c3 : Int32) (k : Int32 → mm_M → Option (Int32 × mm_M)) : Nat → Int32 → Int32 → mm_M → Option (Int32 × mm_M)
  | 0, _, _, _ => none
  | n + 1, x2, x4, M => (if (M r0 0) ≤ x4 then k x2 M else (if mm_in x4 6 then (if (M (r0 + 4) x4.toNatClampNeg) = 1 then ((fn_X2_dries r0 x4 c1 M).bind fun z_5 => mm_let (mm_up z_5.2 (r0 + 3) x4.toNatClampNeg (mm_max 0 ((M (r0 + 3) x4.toNatClampNeg) - z_5.1))) fun M_6 => mm_let (mm_up M_6 (r0 + 2) x4.toNatClampNeg (mm_max 0 ((M_6 (r0 + 2) x4.toNatClampNeg) - c3))) fun M_7 => (if (M_7 (r0 + 3) x4.toNatClampNeg) = 0 then (if (M_7 (r0 + 5) 3) < (M_7 (r0 + 2) x4.toNatClampNeg) then fn_X2_dryLine_B113 r0 c1 c3 (fun y2 y4 M => fn_X2_dryLine_L16 r0 c1 c3 k n y2 y4 M) k x2 x4 0 M_7 else fn_X2_dryLine_B113 r0 c1 c3 (fun y2 y4 M => fn_X2_dryLine_L16 r0 c1 c3 k n y2 y4 M) k x2 x4 1 M_7) else fn_X2_dryLine_L16 r0 c1 c3 k n x2 (x4 + 1) M_7)) else fn_X2_dryLine_L16 r0 c1 c3 k n x2 (x4 + 1) M) else none))
set_option maxRecDepth 20000 in
set_option maxHeartbeats 4000000 in
theorem th_X2_dryLine_L16 {X : mm_X} {G : mm_G} {sh : mm_S} {r0 : Nat} {c1 : Int32} {c3 : Int32} {k : Int32 → mm_M → Option (Int32 × mm_M)} (h0 : mm_isLau G sh r0) (hk : ∀ (x2 : Int32) (M : mm_M), mm_T X G (cX2_dryLine, 6, RX2, (some .int), 2) (mm_fi sh) sh M 151 [(2, .int x2)] [] (k x2 M)) : ∀ (n : Nat) (x2 : Int32) (x4 : Int32) (M : mm_M), mm_T X G (cX2_dryLine, 6, RX2, (some .int), 2) (mm_fi sh) sh M 16 [(0, .ref (mm_ad G r0)), (1, .int c1), (2, .int x2), (3, .int c3), (4, .int x4)] [] (fn_X2_dryLine_L16 r0 c1 c3 k n x2 x4 M) := by
  intro n
  induction n with
  | zero => intro x2 x4 M; exact mm_none
  | succ n ih =>
    intro x2 x4 M
    rw [fn_X2_dryLine_L16]
    refine mm_iload 18 rfl dX2_dryLine_16 4 rfl ?_
    refine mm_aload_n 19 rfl dX2_dryLine_18 rfl 0 rfl ?_
    refine gt_X2_33 22 rfl dX2_dryLine_19 h0.1 ?_
    refine mm_icmp_ge 25 151 rfl dX2_dryLine_22 (by decide) (fun h_2 => ?_) (fun h_2 => ?_)
    · exact mm_lv [2] rfl (hk _ _)
    · refine mm_aload_n 26 rfl dX2_dryLine_25 rfl 0 rfl ?_
      refine gt_X2_21 29 rfl dX2_dryLine_26 h0.1 ?_
      refine mm_iload 31 rfl dX2_dryLine_29 4 rfl ?_
      refine mm_iald 32 rfl dX2_dryLine_31 h0.2.2.2.2.1 (fun h_3 => ?_)
      refine mm_iconst 33 rfl (v := 1) dX2_dryLine_32 (by decide) ?_
      refine mm_icmp_ne 36 145 rfl dX2_dryLine_33 (by decide) (fun h_4 => ?_) (fun h_4 => ?_)
      · refine mm_iinc 148 rfl dX2_dryLine_145 4 rfl (v := (x4 + 1)) rfl (lv' := [(4, .int (x4 + 1)), (0, .ref (mm_ad G r0)), (1, .int c1), (2, .int x2), (3, .int c3)]) (by decide) rfl ?_
        refine mm_goto 16 dX2_dryLine_148 (by decide) ?_
        exact mm_lv [1, 2, 3, 4, 0] rfl (ih _ _ _)
      · refine mm_aload_n 37 rfl dX2_dryLine_36 rfl 0 rfl ?_
        refine gt_X2_18 40 rfl dX2_dryLine_37 h0.1 ?_
        refine mm_iload 42 rfl dX2_dryLine_40 4 rfl ?_
        refine mm_iconst 43 rfl (v := 0) dX2_dryLine_42 (by decide) ?_
        refine mm_aload_n 44 rfl dX2_dryLine_43 rfl 0 rfl ?_
        refine gt_X2_18 47 rfl dX2_dryLine_44 h0.1 ?_
        refine mm_iload 49 rfl dX2_dryLine_47 4 rfl ?_
        refine mm_ialdK 50 rfl dX2_dryLine_49 h0.2.2.2.1 h_3 _ rfl ?_
        refine mm_aload_n 51 rfl dX2_dryLine_50 rfl 0 rfl ?_
        refine mm_iload 53 rfl dX2_dryLine_51 4 rfl ?_
        refine mm_iload_n 54 rfl dX2_dryLine_53 rfl 1 rfl ?_
        refine ca_X2_104 57 rfl dX2_dryLine_54 h0.1 (ct_X2_dries r0 x4 c1 h0) (by decide) (Nat.le_of_ble_eq_true rfl) (fun z_5 => ?_)
        refine mm_isub 58 rfl dX2_dryLine_57 ?_
        refine mm_mmax 61 rfl dX2_dryLine_58 mw_3_21 mw_3_22 mw_1_17 mw_3_23 (by decide) (Nat.le_of_ble_eq_true rfl) ?_
        refine mm_iastK 62 rfl dX2_dryLine_61 h0.2.2.2.1 h_3 _ rfl ?_
        refine mm_bM (fun M_6 => ?_)
        refine mm_aload_n 63 rfl dX2_dryLine_62 rfl 0 rfl ?_
        refine gt_X2_15 66 rfl dX2_dryLine_63 h0.1 ?_
        refine mm_iload 68 rfl dX2_dryLine_66 4 rfl ?_
        refine mm_iconst 69 rfl (v := 0) dX2_dryLine_68 (by decide) ?_
        refine mm_aload_n 70 rfl dX2_dryLine_69 rfl 0 rfl ?_
        refine gt_X2_15 73 rfl dX2_dryLine_70 h0.1 ?_
        refine mm_iload 75 rfl dX2_dryLine_73 4 rfl ?_
        refine mm_ialdK 76 rfl dX2_dryLine_75 h0.2.2.1 h_3 _ rfl ?_
        refine mm_iload_n 77 rfl dX2_dryLine_76 rfl 3 rfl ?_
        refine mm_isub 78 rfl dX2_dryLine_77 ?_
        refine mm_mmax 81 rfl dX2_dryLine_78 mw_3_21 mw_3_22 mw_1_17 mw_3_23 (by decide) (Nat.le_of_ble_eq_true rfl) ?_
        refine mm_iastK 82 rfl dX2_dryLine_81 h0.2.2.1 h_3 _ rfl ?_
        refine mm_bM (fun M_7 => ?_)
        refine mm_aload_n 83 rfl dX2_dryLine_82 rfl 0 rfl ?_
        refine gt_X2_18 86 rfl dX2_dryLine_83 h0.1 ?_
        refine mm_iload 88 rfl dX2_dryLine_86 4 rfl ?_
        refine mm_ialdK 89 rfl dX2_dryLine_88 h0.2.2.2.1 h_3 _ rfl ?_
        refine mm_if_ne 92 145 rfl dX2_dryLine_89 (by decide) (fun h_8 => ?_) (fun h_8 => ?_)
        · refine mm_iinc 148 rfl dX2_dryLine_145 4 rfl (v := (x4 + 1)) rfl (lv' := [(4, .int (x4 + 1)), (0, .ref (mm_ad G r0)), (1, .int c1), (2, .int x2), (3, .int c3)]) (by decide) rfl ?_
          refine mm_goto 16 dX2_dryLine_148 (by decide) ?_
          exact mm_lv [1, 2, 3, 4, 0] rfl (ih _ _ _)
        · refine mm_aload_n 93 rfl dX2_dryLine_92 rfl 0 rfl ?_
          refine gt_X2_15 96 rfl dX2_dryLine_93 h0.1 ?_
          refine mm_iload 98 rfl dX2_dryLine_96 4 rfl ?_
          refine mm_ialdK 99 rfl dX2_dryLine_98 h0.2.2.1 h_3 _ rfl ?_
          refine mm_aload_n 100 rfl dX2_dryLine_99 rfl 0 rfl ?_
          refine gt_X2_24 103 rfl dX2_dryLine_100 h0.1 ?_
          refine mm_iconst 104 rfl (v := 3) dX2_dryLine_103 (by decide) ?_
          refine mm_ialdK 105 rfl dX2_dryLine_104 h0.2.2.2.2.2.1 (by decide) 3 (by decide) ?_
          refine mm_icmp_gt 108 112 rfl dX2_dryLine_105 (by decide) (fun h_9 => ?_) (fun h_9 => ?_)
          · refine mm_iconst 113 rfl (v := 0) dX2_dryLine_112 (by decide) ?_
            exact mm_lv [0, 1, 2, 3, 4] rfl (th_X2_dryLine_B113 h0 ih hk _ _ _ _)
          · refine mm_iconst 109 rfl (v := 1) dX2_dryLine_108 (by decide) ?_
            refine mm_goto 113 dX2_dryLine_109 (by decide) ?_
            exact mm_lv [0, 1, 2, 3, 4] rfl (th_X2_dryLine_B113 h0 ih hk _ _ _ _)
noncomputable def fn_X2_dryLine (r0 : Nat) (c1 : Int32) (M : mm_M) : Option (Int32 × mm_M) :=
  (if c1 < 5 then fn_X2_dryLine_L16 r0 c1 0 (fun x2_17 M_18 => some (x2_17, M_18)) mm_fu 0 0 M else fn_X2_dryLine_L16 r0 c1 1 (fun x2_20 M_21 => some (x2_20, M_21)) mm_fu 0 0 M)
set_option maxRecDepth 20000 in
set_option maxHeartbeats 4000000 in
theorem ct_X2_dryLine {l : Launch} {G : mm_G} {sh : mm_S} {M : mm_M} (r0 : Nat) (c1 : Int32) (h0 : mm_isLau G sh r0) : mm_K l G yX2_dryLine (cX2_dryLine, 6, RX2, (some .int), 2) [.ref (mm_ad G r0), .int c1] (mm_fi sh) sh M (fn_X2_dryLine r0 c1 M) := by
  refine mm_met (by decide +kernel) rfl (Nat.le_of_ble_eq_true rfl) (fun X hX => ?_)
  subst hX
  show mm_T X G (cX2_dryLine, 6, RX2, (some .int), 2) (mm_fi sh) sh M 0 [(0, .ref (mm_ad G r0)), (1, .int c1)] [] (fn_X2_dryLine r0 c1 M)
  unfold fn_X2_dryLine
  refine mm_iconst 1 rfl (v := 0) dX2_dryLine_0 (by decide) ?_
  refine mm_istore_n 2 rfl dX2_dryLine_1 rfl (lv' := [(2, .int 0), (0, .ref (mm_ad G r0)), (1, .int c1)]) (by decide) rfl ?_
  refine mm_iload_n 3 rfl dX2_dryLine_2 rfl 2 rfl ?_
  refine mm_iconst 4 rfl (v := 5) dX2_dryLine_3 (by decide) ?_
  refine mm_icmp_lt 7 11 rfl dX2_dryLine_4 (by decide) (fun h_1 => ?_) (fun h_1 => ?_)
  · refine mm_iconst 12 rfl (v := 0) dX2_dryLine_11 (by decide) ?_
    refine mm_istore_n 13 rfl dX2_dryLine_12 rfl (lv' := [(3, .int 0), (2, .int 0), (0, .ref (mm_ad G r0)), (1, .int c1)]) (by decide) rfl ?_
    refine mm_iconst 14 rfl (v := 0) dX2_dryLine_13 (by decide) ?_
    refine mm_istore 16 rfl dX2_dryLine_14 (lv' := [(4, .int 0), (3, .int 0), (2, .int 0), (0, .ref (mm_ad G r0)), (1, .int c1)]) (by decide) rfl ?_
    refine mm_lv [3, 4, 2, 1, 0] rfl (th_X2_dryLine_L16 h0 (fun x2_17 M_18 => ?_) mm_fu _ _ _)
    refine mm_iload_n 152 rfl dX2_dryLine_151 rfl 0 rfl ?_
    exact mm_iret dX2_dryLine_152 rfl rfl
  · refine mm_iconst 8 rfl (v := 1) dX2_dryLine_7 (by decide) ?_
    refine mm_goto 12 dX2_dryLine_8 (by decide) ?_
    refine mm_istore_n 13 rfl dX2_dryLine_12 rfl (lv' := [(3, .int 1), (2, .int 0), (0, .ref (mm_ad G r0)), (1, .int c1)]) (by decide) rfl ?_
    refine mm_iconst 14 rfl (v := 0) dX2_dryLine_13 (by decide) ?_
    refine mm_istore 16 rfl dX2_dryLine_14 (lv' := [(4, .int 0), (3, .int 1), (2, .int 0), (0, .ref (mm_ad G r0)), (1, .int c1)]) (by decide) rfl ?_
    refine mm_lv [3, 4, 2, 1, 0] rfl (th_X2_dryLine_L16 h0 (fun x2_20 M_21 => ?_) mm_fu _ _ _)
    refine mm_iload_n 152 rfl dX2_dryLine_151 rfl 0 rfl ?_
    exact mm_iret dX2_dryLine_152 rfl rfl

-- MangleLine$Laundry.passDay(I)I
noncomputable def fn_X2_passDay (r0 : Nat) (c1 : Int32) (M : mm_M) : Option (Int32 × mm_M) :=
  ((fn_X2_boilBatch r0 M).bind fun z_1 => ((fn_X2_dryLine r0 c1 z_1).bind fun z_2 => mm_let z_2.1 fun x2_3 => mm_let (mm_up z_2.2 r0 1 ((z_2.2 r0 1) + 1)) fun M_4 => some (x2_3, M_4)))
set_option maxRecDepth 20000 in
set_option maxHeartbeats 4000000 in
theorem ct_X2_passDay {l : Launch} {G : mm_G} {sh : mm_S} {M : mm_M} (r0 : Nat) (c1 : Int32) (h0 : mm_isLau G sh r0) : mm_K l G yX2_passDay (cX2_passDay, 3, RX2, (some .int), 3) [.ref (mm_ad G r0), .int c1] (mm_fi sh) sh M (fn_X2_passDay r0 c1 M) := by
  refine mm_met (by decide +kernel) rfl (Nat.le_of_ble_eq_true rfl) (fun X hX => ?_)
  subst hX
  show mm_T X G (cX2_passDay, 3, RX2, (some .int), 3) (mm_fi sh) sh M 0 [(0, .ref (mm_ad G r0)), (1, .int c1)] [] (fn_X2_passDay r0 c1 M)
  unfold fn_X2_passDay
  refine mm_aload_n 1 rfl dX2_passDay_0 rfl 0 rfl ?_
  refine ca_X2_81 4 rfl dX2_passDay_1 h0.1 (ct_X2_boilBatch r0 h0) (by decide) (Nat.le_of_ble_eq_true rfl) (fun z_1 => ?_)
  refine mm_aload_n 5 rfl dX2_passDay_4 rfl 0 rfl ?_
  refine mm_iload_n 6 rfl dX2_passDay_5 rfl 1 rfl ?_
  refine ca_X2_84 9 rfl dX2_passDay_6 h0.1 (ct_X2_dryLine r0 c1 h0) (by decide) (Nat.le_of_ble_eq_true rfl) (fun z_2 => ?_)
  refine mm_bI (fun x2_3 => ?_)
  refine mm_istore_n 10 rfl dX2_passDay_9 rfl (lv' := [(2, .int x2_3), (0, .ref (mm_ad G r0)), (1, .int c1)]) (by decide) rfl ?_
  refine mm_aload_n 11 rfl dX2_passDay_10 rfl 1 rfl ?_
  refine mm_dup 12 rfl dX2_passDay_11 rfl ?_
  refine gt_X2_37 15 rfl dX2_passDay_12 h0.1 ?_
  refine mm_iconst 16 rfl (v := 1) dX2_passDay_15 (by decide) ?_
  refine mm_iadd 17 rfl dX2_passDay_16 ?_
  refine pt_X2_37 20 rfl dX2_passDay_17 h0.1 ?_
  refine mm_bM (fun M_4 => ?_)
  refine mm_iload_n 21 rfl dX2_passDay_20 rfl 0 rfl ?_
  exact mm_iret dX2_passDay_21 rfl rfl

-- MangleLine$Laundry.passDays(I)I
noncomputable def fn_X2_passDays_L4 (r0 : Nat) (c1 : Int32) (k : Int32 → mm_M → Option (Int32 × mm_M)) : Nat → Int32 → Int32 → mm_M → Option (Int32 × mm_M)
  | 0, _, _, _ => none
  | n + 1, x2, x3, M => (if c1 ≤ x3 then k x2 M else ((fn_X2_sunToday r0 M).bind fun z_2 => ((fn_X2_passDay r0 z_2.1 z_2.2).bind fun z_3 => mm_let (x2 + z_3.1) fun x2_4 => fn_X2_passDays_L4 r0 c1 k n x2_4 (x3 + 1) z_3.2)))
set_option maxRecDepth 20000 in
set_option maxHeartbeats 4000000 in
theorem th_X2_passDays_L4 {X : mm_X} {G : mm_G} {sh : mm_S} {r0 : Nat} {c1 : Int32} {k : Int32 → mm_M → Option (Int32 × mm_M)} (h0 : mm_isLau G sh r0) (hk : ∀ (x2 : Int32) (M : mm_M), mm_T X G (cX2_passDays, 4, RX2, (some .int), 4) (mm_fi sh) sh M 26 [(2, .int x2)] [] (k x2 M)) : ∀ (n : Nat) (x2 : Int32) (x3 : Int32) (M : mm_M), mm_T X G (cX2_passDays, 4, RX2, (some .int), 4) (mm_fi sh) sh M 4 [(0, .ref (mm_ad G r0)), (1, .int c1), (2, .int x2), (3, .int x3)] [] (fn_X2_passDays_L4 r0 c1 k n x2 x3 M) := by
  intro n
  induction n with
  | zero => intro x2 x3 M; exact mm_none
  | succ n ih =>
    intro x2 x3 M
    rw [fn_X2_passDays_L4]
    refine mm_iload_n 5 rfl dX2_passDays_4 rfl 3 rfl ?_
    refine mm_iload_n 6 rfl dX2_passDays_5 rfl 1 rfl ?_
    refine mm_icmp_ge 9 26 rfl dX2_passDays_6 (by decide) (fun h_1 => ?_) (fun h_1 => ?_)
    · exact mm_lv [2] rfl (hk _ _)
    · refine mm_iload_n 10 rfl dX2_passDays_9 rfl 2 rfl ?_
      refine mm_aload_n 11 rfl dX2_passDays_10 rfl 0 rfl ?_
      refine mm_aload_n 12 rfl dX2_passDays_11 rfl 0 rfl ?_
      refine ca_X2_69 15 rfl dX2_passDays_12 h0.1 (ct_X2_sunToday r0 h0) (by decide) (Nat.le_of_ble_eq_true rfl) (fun z_2 => ?_)
      refine ca_X2_73 18 rfl dX2_passDays_15 h0.1 (ct_X2_passDay r0 z_2.1 h0) (by decide) (Nat.le_of_ble_eq_true rfl) (fun z_3 => ?_)
      refine mm_iadd 19 rfl dX2_passDays_18 ?_
      refine mm_bI (fun x2_4 => ?_)
      refine mm_istore_n 20 rfl dX2_passDays_19 rfl (lv' := [(2, .int x2_4), (0, .ref (mm_ad G r0)), (1, .int c1), (3, .int x3)]) (by decide) rfl ?_
      refine mm_iinc 23 rfl dX2_passDays_20 3 rfl (v := (x3 + 1)) rfl (lv' := [(3, .int (x3 + 1)), (2, .int x2_4), (0, .ref (mm_ad G r0)), (1, .int c1)]) (by decide) rfl ?_
      refine mm_goto 4 dX2_passDays_23 (by decide) ?_
      exact mm_lv [2, 3, 1, 0] rfl (ih _ _ _)
noncomputable def fn_X2_passDays (r0 : Nat) (c1 : Int32) (M : mm_M) : Option (Int32 × mm_M) :=
  fn_X2_passDays_L4 r0 c1 (fun x2_5 M_6 => some (x2_5, M_6)) mm_fu 0 0 M
set_option maxRecDepth 20000 in
set_option maxHeartbeats 4000000 in
theorem ct_X2_passDays {l : Launch} {G : mm_G} {sh : mm_S} {M : mm_M} (r0 : Nat) (c1 : Int32) (h0 : mm_isLau G sh r0) : mm_K l G yX2_passDays (cX2_passDays, 4, RX2, (some .int), 4) [.ref (mm_ad G r0), .int c1] (mm_fi sh) sh M (fn_X2_passDays r0 c1 M) := by
  refine mm_met (by decide +kernel) rfl (Nat.le_of_ble_eq_true rfl) (fun X hX => ?_)
  subst hX
  show mm_T X G (cX2_passDays, 4, RX2, (some .int), 4) (mm_fi sh) sh M 0 [(0, .ref (mm_ad G r0)), (1, .int c1)] [] (fn_X2_passDays r0 c1 M)
  unfold fn_X2_passDays
  refine mm_iconst 1 rfl (v := 0) dX2_passDays_0 (by decide) ?_
  refine mm_istore_n 2 rfl dX2_passDays_1 rfl (lv' := [(2, .int 0), (0, .ref (mm_ad G r0)), (1, .int c1)]) (by decide) rfl ?_
  refine mm_iconst 3 rfl (v := 0) dX2_passDays_2 (by decide) ?_
  refine mm_istore_n 4 rfl dX2_passDays_3 rfl (lv' := [(3, .int 0), (2, .int 0), (0, .ref (mm_ad G r0)), (1, .int c1)]) (by decide) rfl ?_
  refine mm_lv [2, 3, 1, 0] rfl (th_X2_passDays_L4 h0 (fun x2_5 M_6 => ?_) mm_fu _ _ _)
  refine mm_iload_n 27 rfl dX2_passDays_26 rfl 0 rfl ?_
  exact mm_iret dX2_passDays_27 rfl rfl

-- MangleLine$Laundry.daysTillHome(II)I
noncomputable def fn_X2_daysTillHome_L2 (r0 : Nat) (c1 : Int32) (c2 : Int32) (k0 : Int32 → mm_M → Option (Int32 × mm_M)) (k1 : mm_M → Option (Int32 × mm_M)) : Nat → Int32 → mm_M → Option (Int32 × mm_M)
  | 0, _, _ => none
  | n + 1, x3, M => (if c2 < x3 then k1  M else (if mm_in c1 6 then (if (M (r0 + 4) c1.toNatClampNeg) = 2 then k0 x3 M else ((fn_X2_sunToday r0 M).bind fun z_4 => ((fn_X2_passDay r0 z_4.1 z_4.2).bind fun z_5 => fn_X2_daysTillHome_L2 r0 c1 c2 k0 k1 n (x3 + 1) z_5.2))) else none))
set_option maxRecDepth 20000 in
set_option maxHeartbeats 4000000 in
theorem th_X2_daysTillHome_L2 {X : mm_X} {G : mm_G} {sh : mm_S} {r0 : Nat} {c1 : Int32} {c2 : Int32} {k0 : Int32 → mm_M → Option (Int32 × mm_M)} {k1 : mm_M → Option (Int32 × mm_M)} (h0 : mm_isLau G sh r0) (hk0 : ∀ (x3 : Int32) (M : mm_M), mm_T X G (cX2_daysTillHome, 4, RX2, (some .int), 4) (mm_fi sh) sh M 17 [(3, .int x3)] [] (k0 x3 M)) (hk1 : ∀ (M : mm_M), mm_T X G (cX2_daysTillHome, 4, RX2, (some .int), 4) (mm_fi sh) sh M 34 [] [] (k1  M)) : ∀ (n : Nat) (x3 : Int32) (M : mm_M), mm_T X G (cX2_daysTillHome, 4, RX2, (some .int), 4) (mm_fi sh) sh M 2 [(0, .ref (mm_ad G r0)), (1, .int c1), (2, .int c2), (3, .int x3)] [] (fn_X2_daysTillHome_L2 r0 c1 c2 k0 k1 n x3 M) := by
  intro n
  induction n with
  | zero => intro x3 M; exact mm_none
  | succ n ih =>
    intro x3 M
    rw [fn_X2_daysTillHome_L2]
    refine mm_iload_n 3 rfl dX2_daysTillHome_2 rfl 3 rfl ?_
    refine mm_iload_n 4 rfl dX2_daysTillHome_3 rfl 2 rfl ?_
    refine mm_icmp_gt 7 34 rfl dX2_daysTillHome_4 (by decide) (fun h_1 => ?_) (fun h_1 => ?_)
    · exact mm_lv [] rfl (hk1 _)
    · refine mm_aload_n 8 rfl dX2_daysTillHome_7 rfl 0 rfl ?_
      refine gt_X2_21 11 rfl dX2_daysTillHome_8 h0.1 ?_
      refine mm_iload_n 12 rfl dX2_daysTillHome_11 rfl 1 rfl ?_
      refine mm_iald 13 rfl dX2_daysTillHome_12 h0.2.2.2.2.1 (fun h_2 => ?_)
      refine mm_iconst 14 rfl (v := 2) dX2_daysTillHome_13 (by decide) ?_
      refine mm_icmp_ne 17 19 rfl dX2_daysTillHome_14 (by decide) (fun h_3 => ?_) (fun h_3 => ?_)
      · refine mm_aload_n 20 rfl dX2_daysTillHome_19 rfl 0 rfl ?_
        refine mm_aload_n 21 rfl dX2_daysTillHome_20 rfl 0 rfl ?_
        refine ca_X2_69 24 rfl dX2_daysTillHome_21 h0.1 (ct_X2_sunToday r0 h0) (by decide) (Nat.le_of_ble_eq_true rfl) (fun z_4 => ?_)
        refine ca_X2_73 27 rfl dX2_daysTillHome_24 h0.1 (ct_X2_passDay r0 z_4.1 h0) (by decide) (Nat.le_of_ble_eq_true rfl) (fun z_5 => ?_)
        refine mm_pop 28 rfl dX2_daysTillHome_27 rfl ?_
        refine mm_iinc 31 rfl dX2_daysTillHome_28 3 rfl (v := (x3 + 1)) rfl (lv' := [(3, .int (x3 + 1)), (0, .ref (mm_ad G r0)), (1, .int c1), (2, .int c2)]) (by decide) rfl ?_
        refine mm_goto 2 dX2_daysTillHome_31 (by decide) ?_
        exact mm_lv [1, 2, 3, 0] rfl (ih _ _)
      · exact mm_lv [3] rfl (hk0 _ _)
noncomputable def fn_X2_daysTillHome (r0 : Nat) (c1 : Int32) (c2 : Int32) (M : mm_M) : Option (Int32 × mm_M) :=
  fn_X2_daysTillHome_L2 r0 c1 c2 (fun x3_6 M_7 => some (x3_6, M_7)) (fun M_9 => some (61, M_9)) mm_fu 0 M
set_option maxRecDepth 20000 in
set_option maxHeartbeats 4000000 in
theorem ct_X2_daysTillHome {l : Launch} {G : mm_G} {sh : mm_S} {M : mm_M} (r0 : Nat) (c1 : Int32) (c2 : Int32) (h0 : mm_isLau G sh r0) : mm_K l G yX2_daysTillHome (cX2_daysTillHome, 4, RX2, (some .int), 4) [.ref (mm_ad G r0), .int c1, .int c2] (mm_fi sh) sh M (fn_X2_daysTillHome r0 c1 c2 M) := by
  refine mm_met (by decide +kernel) rfl (Nat.le_of_ble_eq_true rfl) (fun X hX => ?_)
  subst hX
  show mm_T X G (cX2_daysTillHome, 4, RX2, (some .int), 4) (mm_fi sh) sh M 0 [(0, .ref (mm_ad G r0)), (1, .int c1), (2, .int c2)] [] (fn_X2_daysTillHome r0 c1 c2 M)
  unfold fn_X2_daysTillHome
  refine mm_iconst 1 rfl (v := 0) dX2_daysTillHome_0 (by decide) ?_
  refine mm_istore_n 2 rfl dX2_daysTillHome_1 rfl (lv' := [(3, .int 0), (0, .ref (mm_ad G r0)), (1, .int c1), (2, .int c2)]) (by decide) rfl ?_
  refine mm_lv [1, 2, 3, 0] rfl (th_X2_daysTillHome_L2 h0 (fun x3_6 M_7 => ?_) (fun M_9 => ?_) mm_fu _ _)
  · refine mm_iload_n 18 rfl dX2_daysTillHome_17 rfl 0 rfl ?_
    exact mm_iret dX2_daysTillHome_18 rfl rfl
  · refine mm_bipush 36 rfl (v := 61) dX2_daysTillHome_34 (by decide) ?_
    exact mm_iret dX2_daysTillHome_36 rfl rfl

-- MangleLine$Laundry.allAreHome()Z
noncomputable def fn_X2_allAreHome_L2 (r0 : Nat) (k0 : mm_M → Option (Int32 × mm_M)) (k1 : mm_M → Option (Int32 × mm_M)) : Nat → Int32 → mm_M → Option (Int32 × mm_M)
  | 0, _, _ => none
  | n + 1, x1, M => (if (M r0 0) ≤ x1 then k1  M else (if mm_in x1 6 then (if (M (r0 + 4) x1.toNatClampNeg) = 2 then fn_X2_allAreHome_L2 r0 k0 k1 n (x1 + 1) M else k0  M) else none))
set_option maxRecDepth 20000 in
set_option maxHeartbeats 4000000 in
theorem th_X2_allAreHome_L2 {X : mm_X} {G : mm_G} {sh : mm_S} {r0 : Nat} {k0 : mm_M → Option (Int32 × mm_M)} {k1 : mm_M → Option (Int32 × mm_M)} (h0 : mm_isLau G sh r0) (hk0 : ∀ (M : mm_M), mm_T X G (cX2_allAreHome, 2, RX2, (some .boolean), 1) (mm_fi sh) sh M 20 [] [] (k0  M)) (hk1 : ∀ (M : mm_M), mm_T X G (cX2_allAreHome, 2, RX2, (some .boolean), 1) (mm_fi sh) sh M 28 [] [] (k1  M)) : ∀ (n : Nat) (x1 : Int32) (M : mm_M), mm_T X G (cX2_allAreHome, 2, RX2, (some .boolean), 1) (mm_fi sh) sh M 2 [(0, .ref (mm_ad G r0)), (1, .int x1)] [] (fn_X2_allAreHome_L2 r0 k0 k1 n x1 M) := by
  intro n
  induction n with
  | zero => intro x1 M; exact mm_none
  | succ n ih =>
    intro x1 M
    rw [fn_X2_allAreHome_L2]
    refine mm_iload_n 3 rfl dX2_allAreHome_2 rfl 1 rfl ?_
    refine mm_aload_n 4 rfl dX2_allAreHome_3 rfl 0 rfl ?_
    refine gt_X2_33 7 rfl dX2_allAreHome_4 h0.1 ?_
    refine mm_icmp_ge 10 28 rfl dX2_allAreHome_7 (by decide) (fun h_1 => ?_) (fun h_1 => ?_)
    · exact mm_lv [] rfl (hk1 _)
    · refine mm_aload_n 11 rfl dX2_allAreHome_10 rfl 0 rfl ?_
      refine gt_X2_21 14 rfl dX2_allAreHome_11 h0.1 ?_
      refine mm_iload_n 15 rfl dX2_allAreHome_14 rfl 1 rfl ?_
      refine mm_iald 16 rfl dX2_allAreHome_15 h0.2.2.2.2.1 (fun h_2 => ?_)
      refine mm_iconst 17 rfl (v := 2) dX2_allAreHome_16 (by decide) ?_
      refine mm_icmp_eq 20 22 rfl dX2_allAreHome_17 (by decide) (fun h_3 => ?_) (fun h_3 => ?_)
      · refine mm_iinc 25 rfl dX2_allAreHome_22 1 rfl (v := (x1 + 1)) rfl (lv' := [(1, .int (x1 + 1)), (0, .ref (mm_ad G r0))]) (by decide) rfl ?_
        refine mm_goto 2 dX2_allAreHome_25 (by decide) ?_
        exact mm_lv [1, 0] rfl (ih _ _)
      · exact mm_lv [] rfl (hk0 _)
noncomputable def fn_X2_allAreHome (r0 : Nat) (M : mm_M) : Option (Int32 × mm_M) :=
  fn_X2_allAreHome_L2 r0 (fun M_4 => some (0, M_4)) (fun M_6 => some (1, M_6)) mm_fu 0 M
set_option maxRecDepth 20000 in
set_option maxHeartbeats 4000000 in
theorem ct_X2_allAreHome {l : Launch} {G : mm_G} {sh : mm_S} {M : mm_M} (r0 : Nat) (h0 : mm_isLau G sh r0) : mm_K l G yX2_allAreHome (cX2_allAreHome, 2, RX2, (some .boolean), 1) [.ref (mm_ad G r0)] (mm_fi sh) sh M (fn_X2_allAreHome r0 M) := by
  refine mm_met (by decide +kernel) rfl (Nat.le_of_ble_eq_true rfl) (fun X hX => ?_)
  subst hX
  show mm_T X G (cX2_allAreHome, 2, RX2, (some .boolean), 1) (mm_fi sh) sh M 0 [(0, .ref (mm_ad G r0))] [] (fn_X2_allAreHome r0 M)
  unfold fn_X2_allAreHome
  refine mm_iconst 1 rfl (v := 0) dX2_allAreHome_0 (by decide) ?_
  refine mm_istore_n 2 rfl dX2_allAreHome_1 rfl (lv' := [(1, .int 0), (0, .ref (mm_ad G r0))]) (by decide) rfl ?_
  refine mm_lv [1, 0] rfl (th_X2_allAreHome_L2 h0 (fun M_4 => ?_) (fun M_6 => ?_) mm_fu _ _)
  · refine mm_iconst 21 rfl (v := 0) dX2_allAreHome_20 (by decide) ?_
    exact mm_zretK dX2_allAreHome_21 rfl rfl rfl
  · refine mm_iconst 29 rfl (v := 1) dX2_allAreHome_28 (by decide) ?_
    exact mm_zretK dX2_allAreHome_29 rfl rfl rfl

-- MangleLine$Laundry.daysTillDone(I)I
noncomputable def fn_X2_daysTillDone_L2 (r0 : Nat) (c1 : Int32) (k0 : Int32 → mm_M → Option (Int32 × mm_M)) (k1 : mm_M → Option (Int32 × mm_M)) : Nat → Int32 → mm_M → Option (Int32 × mm_M)
  | 0, _, _ => none
  | n + 1, x2, M => (if c1 < x2 then k1  M else ((fn_X2_allAreHome r0 M).bind fun z_2 => (if z_2.1 = 0 then ((fn_X2_sunToday r0 z_2.2).bind fun z_4 => ((fn_X2_passDay r0 z_4.1 z_4.2).bind fun z_5 => fn_X2_daysTillDone_L2 r0 c1 k0 k1 n (x2 + 1) z_5.2)) else k0 x2 z_2.2)))
set_option maxRecDepth 20000 in
set_option maxHeartbeats 4000000 in
theorem th_X2_daysTillDone_L2 {X : mm_X} {G : mm_G} {sh : mm_S} {r0 : Nat} {c1 : Int32} {k0 : Int32 → mm_M → Option (Int32 × mm_M)} {k1 : mm_M → Option (Int32 × mm_M)} (h0 : mm_isLau G sh r0) (hk0 : ∀ (x2 : Int32) (M : mm_M), mm_T X G (cX2_daysTillDone, 3, RX2, (some .int), 4) (mm_fi sh) sh M 14 [(2, .int x2)] [] (k0 x2 M)) (hk1 : ∀ (M : mm_M), mm_T X G (cX2_daysTillDone, 3, RX2, (some .int), 4) (mm_fi sh) sh M 31 [] [] (k1  M)) : ∀ (n : Nat) (x2 : Int32) (M : mm_M), mm_T X G (cX2_daysTillDone, 3, RX2, (some .int), 4) (mm_fi sh) sh M 2 [(0, .ref (mm_ad G r0)), (1, .int c1), (2, .int x2)] [] (fn_X2_daysTillDone_L2 r0 c1 k0 k1 n x2 M) := by
  intro n
  induction n with
  | zero => intro x2 M; exact mm_none
  | succ n ih =>
    intro x2 M
    rw [fn_X2_daysTillDone_L2]
    refine mm_iload_n 3 rfl dX2_daysTillDone_2 rfl 2 rfl ?_
    refine mm_iload_n 4 rfl dX2_daysTillDone_3 rfl 1 rfl ?_
    refine mm_icmp_gt 7 31 rfl dX2_daysTillDone_4 (by decide) (fun h_1 => ?_) (fun h_1 => ?_)
    · exact mm_lv [] rfl (hk1 _)
    · refine mm_aload_n 8 rfl dX2_daysTillDone_7 rfl 0 rfl ?_
      refine ca_X2_77 11 rfl dX2_daysTillDone_8 h0.1 (ct_X2_allAreHome r0 h0) (by decide) (Nat.le_of_ble_eq_true rfl) (fun z_2 => ?_)
      refine mm_if_eq 14 16 rfl dX2_daysTillDone_11 (by decide) (fun h_3 => ?_) (fun h_3 => ?_)
      · refine mm_aload_n 17 rfl dX2_daysTillDone_16 rfl 0 rfl ?_
        refine mm_aload_n 18 rfl dX2_daysTillDone_17 rfl 0 rfl ?_
        refine ca_X2_69 21 rfl dX2_daysTillDone_18 h0.1 (ct_X2_sunToday r0 h0) (by decide) (Nat.le_of_ble_eq_true rfl) (fun z_4 => ?_)
        refine ca_X2_73 24 rfl dX2_daysTillDone_21 h0.1 (ct_X2_passDay r0 z_4.1 h0) (by decide) (Nat.le_of_ble_eq_true rfl) (fun z_5 => ?_)
        refine mm_pop 25 rfl dX2_daysTillDone_24 rfl ?_
        refine mm_iinc 28 rfl dX2_daysTillDone_25 2 rfl (v := (x2 + 1)) rfl (lv' := [(2, .int (x2 + 1)), (0, .ref (mm_ad G r0)), (1, .int c1)]) (by decide) rfl ?_
        refine mm_goto 2 dX2_daysTillDone_28 (by decide) ?_
        exact mm_lv [1, 2, 0] rfl (ih _ _)
      · exact mm_lv [2] rfl (hk0 _ _)
noncomputable def fn_X2_daysTillDone (r0 : Nat) (c1 : Int32) (M : mm_M) : Option (Int32 × mm_M) :=
  fn_X2_daysTillDone_L2 r0 c1 (fun x2_6 M_7 => some (x2_6, M_7)) (fun M_9 => some (61, M_9)) mm_fu 0 M
set_option maxRecDepth 20000 in
set_option maxHeartbeats 4000000 in
theorem ct_X2_daysTillDone {l : Launch} {G : mm_G} {sh : mm_S} {M : mm_M} (r0 : Nat) (c1 : Int32) (h0 : mm_isLau G sh r0) : mm_K l G yX2_daysTillDone (cX2_daysTillDone, 3, RX2, (some .int), 4) [.ref (mm_ad G r0), .int c1] (mm_fi sh) sh M (fn_X2_daysTillDone r0 c1 M) := by
  refine mm_met (by decide +kernel) rfl (Nat.le_of_ble_eq_true rfl) (fun X hX => ?_)
  subst hX
  show mm_T X G (cX2_daysTillDone, 3, RX2, (some .int), 4) (mm_fi sh) sh M 0 [(0, .ref (mm_ad G r0)), (1, .int c1)] [] (fn_X2_daysTillDone r0 c1 M)
  unfold fn_X2_daysTillDone
  refine mm_iconst 1 rfl (v := 0) dX2_daysTillDone_0 (by decide) ?_
  refine mm_istore_n 2 rfl dX2_daysTillDone_1 rfl (lv' := [(2, .int 0), (0, .ref (mm_ad G r0)), (1, .int c1)]) (by decide) rfl ?_
  refine mm_lv [1, 2, 0] rfl (th_X2_daysTillDone_L2 h0 (fun x2_6 M_7 => ?_) (fun M_9 => ?_) mm_fu _ _)
  · refine mm_iload_n 15 rfl dX2_daysTillDone_14 rfl 0 rfl ?_
    exact mm_iret dX2_daysTillDone_15 rfl rfl
  · refine mm_bipush 33 rfl (v := 61) dX2_daysTillDone_31 (by decide) ?_
    exact mm_iret dX2_daysTillDone_33 rfl rfl

-- MangleLine$Laundry.sumOf([II)I
noncomputable def fn_X2_sumOf_L4 (r0 : Nat) (n0 : Nat) (c1 : Int32) (k : Int32 → mm_M → Option (Int32 × mm_M)) : Nat → Int32 → Int32 → mm_M → Option (Int32 × mm_M)
  | 0, _, _, _ => none
  | n + 1, x2, x3, M => (if c1 ≤ x3 then k x2 M else (if (Int32.ofNat n0) ≤ x3 then k x2 M else (if mm_in x3 n0 then mm_let (x2 + (M r0 x3.toNatClampNeg)) fun x2_4 => fn_X2_sumOf_L4 r0 n0 c1 k n x2_4 (x3 + 1) M else none)))
set_option maxRecDepth 20000 in
set_option maxHeartbeats 4000000 in
theorem th_X2_sumOf_L4 {X : mm_X} {G : mm_G} {sh : mm_S} {r0 : Nat} {n0 : Nat} {c1 : Int32} {k : Int32 → mm_M → Option (Int32 × mm_M)} (h0 : sh[r0]? = some (mm_ia G n0)) (hk : ∀ (x2 : Int32) (M : mm_M), mm_T X G (cX2_sumOf, 4, RX2, (some .int), 1) (mm_fi sh) sh M 27 [(2, .int x2)] [] (k x2 M)) : ∀ (n : Nat) (x2 : Int32) (x3 : Int32) (M : mm_M), mm_T X G (cX2_sumOf, 4, RX2, (some .int), 1) (mm_fi sh) sh M 4 [(0, .ref (mm_ad G r0)), (1, .int c1), (2, .int x2), (3, .int x3)] [] (fn_X2_sumOf_L4 r0 n0 c1 k n x2 x3 M) := by
  intro n
  induction n with
  | zero => intro x2 x3 M; exact mm_none
  | succ n ih =>
    intro x2 x3 M
    rw [fn_X2_sumOf_L4]
    refine mm_iload_n 5 rfl dX2_sumOf_4 rfl 3 rfl ?_
    refine mm_iload_n 6 rfl dX2_sumOf_5 rfl 1 rfl ?_
    refine mm_icmp_ge 9 27 rfl dX2_sumOf_6 (by decide) (fun h_1 => ?_) (fun h_1 => ?_)
    · exact mm_lv [2] rfl (hk _ _)
    · refine mm_iload_n 10 rfl dX2_sumOf_9 rfl 3 rfl ?_
      refine mm_aload_n 11 rfl dX2_sumOf_10 rfl 0 rfl ?_
      refine mm_alen 12 rfl dX2_sumOf_11 h0 (v := (Int32.ofNat n0)) rfl ?_
      refine mm_icmp_ge 15 27 rfl dX2_sumOf_12 (by decide) (fun h_2 => ?_) (fun h_2 => ?_)
      · exact mm_lv [2] rfl (hk _ _)
      · refine mm_iload_n 16 rfl dX2_sumOf_15 rfl 2 rfl ?_
        refine mm_aload_n 17 rfl dX2_sumOf_16 rfl 0 rfl ?_
        refine mm_iload_n 18 rfl dX2_sumOf_17 rfl 3 rfl ?_
        refine mm_iald 19 rfl dX2_sumOf_18 h0 (fun h_3 => ?_)
        refine mm_iadd 20 rfl dX2_sumOf_19 ?_
        refine mm_bI (fun x2_4 => ?_)
        refine mm_istore_n 21 rfl dX2_sumOf_20 rfl (lv' := [(2, .int x2_4), (0, .ref (mm_ad G r0)), (1, .int c1), (3, .int x3)]) (by decide) rfl ?_
        refine mm_iinc 24 rfl dX2_sumOf_21 3 rfl (v := (x3 + 1)) rfl (lv' := [(3, .int (x3 + 1)), (2, .int x2_4), (0, .ref (mm_ad G r0)), (1, .int c1)]) (by decide) rfl ?_
        refine mm_goto 4 dX2_sumOf_24 (by decide) ?_
        exact mm_lv [2, 3, 1, 0] rfl (ih _ _ _)
noncomputable def fn_X2_sumOf (r0 : Nat) (n0 : Nat) (c1 : Int32) (M : mm_M) : Option (Int32 × mm_M) :=
  fn_X2_sumOf_L4 r0 n0 c1 (fun x2_5 M_6 => some (x2_5, M_6)) mm_fu 0 0 M
set_option maxRecDepth 20000 in
set_option maxHeartbeats 4000000 in
theorem ct_X2_sumOf {l : Launch} {G : mm_G} {sh : mm_S} {M : mm_M} (r0 : Nat) (n0 : Nat) (c1 : Int32) (h0 : sh[r0]? = some (mm_ia G n0)) : mm_K l G yX2_sumOf (cX2_sumOf, 4, RX2, (some .int), 1) [.ref (mm_ad G r0), .int c1] (mm_fi sh) sh M (fn_X2_sumOf r0 n0 c1 M) := by
  refine mm_met (by decide +kernel) rfl (Nat.le_of_ble_eq_true rfl) (fun X hX => ?_)
  subst hX
  show mm_T X G (cX2_sumOf, 4, RX2, (some .int), 1) (mm_fi sh) sh M 0 [(0, .ref (mm_ad G r0)), (1, .int c1)] [] (fn_X2_sumOf r0 n0 c1 M)
  unfold fn_X2_sumOf
  refine mm_iconst 1 rfl (v := 0) dX2_sumOf_0 (by decide) ?_
  refine mm_istore_n 2 rfl dX2_sumOf_1 rfl (lv' := [(2, .int 0), (0, .ref (mm_ad G r0)), (1, .int c1)]) (by decide) rfl ?_
  refine mm_iconst 3 rfl (v := 0) dX2_sumOf_2 (by decide) ?_
  refine mm_istore_n 4 rfl dX2_sumOf_3 rfl (lv' := [(3, .int 0), (2, .int 0), (0, .ref (mm_ad G r0)), (1, .int c1)]) (by decide) rfl ?_
  refine mm_lv [2, 3, 1, 0] rfl (th_X2_sumOf_L4 h0 (fun x2_5 M_6 => ?_) mm_fu _ _ _)
  refine mm_iload_n 28 rfl dX2_sumOf_27 rfl 0 rfl ?_
  exact mm_iret dX2_sumOf_28 rfl rfl

-- MangleLine$Laundry.greyOfAll()I
noncomputable def fn_X2_greyOfAll (r0 : Nat) (M : mm_M) : Option (Int32 × mm_M) :=
  ((fn_X2_sumOf (r0 + 2) 6 (M r0 0) M).bind fun z_1 => some (z_1.1, z_1.2))
set_option maxRecDepth 20000 in
set_option maxHeartbeats 4000000 in
theorem ct_X2_greyOfAll {l : Launch} {G : mm_G} {sh : mm_S} {M : mm_M} (r0 : Nat) (h0 : mm_isLau G sh r0) : mm_K l G yX2_greyOfAll (cX2_greyOfAll, 1, RX2, (some .int), 2) [.ref (mm_ad G r0)] (mm_fi sh) sh M (fn_X2_greyOfAll r0 M) := by
  refine mm_met (by decide +kernel) rfl (Nat.le_of_ble_eq_true rfl) (fun X hX => ?_)
  subst hX
  show mm_T X G (cX2_greyOfAll, 1, RX2, (some .int), 2) (mm_fi sh) sh M 0 [(0, .ref (mm_ad G r0))] [] (fn_X2_greyOfAll r0 M)
  unfold fn_X2_greyOfAll
  refine mm_aload_n 1 rfl dX2_greyOfAll_0 rfl 0 rfl ?_
  refine gt_X2_15 4 rfl dX2_greyOfAll_1 h0.1 ?_
  refine mm_aload_n 5 rfl dX2_greyOfAll_4 rfl 0 rfl ?_
  refine gt_X2_33 8 rfl dX2_greyOfAll_5 h0.1 ?_
  refine ca_X2_107 11 rfl dX2_greyOfAll_8 (ct_X2_sumOf (r0 + 2) 6 (M r0 0) h0.2.2.1) (by decide) (Nat.le_of_ble_eq_true rfl) (fun z_1 => ?_)
  exact mm_iret dX2_greyOfAll_11 rfl rfl

-- MangleLine$Laundry.wetOfAll()I
noncomputable def fn_X2_wetOfAll (r0 : Nat) (M : mm_M) : Option (Int32 × mm_M) :=
  ((fn_X2_sumOf (r0 + 3) 6 (M r0 0) M).bind fun z_1 => some (z_1.1, z_1.2))
set_option maxRecDepth 20000 in
set_option maxHeartbeats 4000000 in
theorem ct_X2_wetOfAll {l : Launch} {G : mm_G} {sh : mm_S} {M : mm_M} (r0 : Nat) (h0 : mm_isLau G sh r0) : mm_K l G yX2_wetOfAll (cX2_wetOfAll, 1, RX2, (some .int), 2) [.ref (mm_ad G r0)] (mm_fi sh) sh M (fn_X2_wetOfAll r0 M) := by
  refine mm_met (by decide +kernel) rfl (Nat.le_of_ble_eq_true rfl) (fun X hX => ?_)
  subst hX
  show mm_T X G (cX2_wetOfAll, 1, RX2, (some .int), 2) (mm_fi sh) sh M 0 [(0, .ref (mm_ad G r0))] [] (fn_X2_wetOfAll r0 M)
  unfold fn_X2_wetOfAll
  refine mm_aload_n 1 rfl dX2_wetOfAll_0 rfl 0 rfl ?_
  refine gt_X2_18 4 rfl dX2_wetOfAll_1 h0.1 ?_
  refine mm_aload_n 5 rfl dX2_wetOfAll_4 rfl 0 rfl ?_
  refine gt_X2_33 8 rfl dX2_wetOfAll_5 h0.1 ?_
  refine ca_X2_107 11 rfl dX2_wetOfAll_8 (ct_X2_sumOf (r0 + 3) 6 (M r0 0) h0.2.2.2.1) (by decide) (Nat.le_of_ble_eq_true rfl) (fun z_1 => ?_)
  exact mm_iret dX2_wetOfAll_11 rfl rfl

-- MangleLine$Laundry.sunOfAll()I
noncomputable def fn_X2_sunOfAll (r0 : Nat) (M : mm_M) : Option (Int32 × mm_M) :=
  ((fn_X2_sumOf (r0 + 6) 7 7 M).bind fun z_1 => some (z_1.1, z_1.2))
set_option maxRecDepth 20000 in
set_option maxHeartbeats 4000000 in
theorem ct_X2_sunOfAll {l : Launch} {G : mm_G} {sh : mm_S} {M : mm_M} (r0 : Nat) (h0 : mm_isLau G sh r0) : mm_K l G yX2_sunOfAll (cX2_sunOfAll, 1, RX2, (some .int), 2) [.ref (mm_ad G r0)] (mm_fi sh) sh M (fn_X2_sunOfAll r0 M) := by
  refine mm_met (by decide +kernel) rfl (Nat.le_of_ble_eq_true rfl) (fun X hX => ?_)
  subst hX
  show mm_T X G (cX2_sunOfAll, 1, RX2, (some .int), 2) (mm_fi sh) sh M 0 [(0, .ref (mm_ad G r0))] [] (fn_X2_sunOfAll r0 M)
  unfold fn_X2_sunOfAll
  refine mm_aload_n 1 rfl dX2_sunOfAll_0 rfl 0 rfl ?_
  refine gt_X2_27 4 rfl dX2_sunOfAll_1 h0.1 ?_
  refine mm_bipush 6 rfl (v := 7) dX2_sunOfAll_4 (by decide) ?_
  refine ca_X2_107 9 rfl dX2_sunOfAll_6 (ct_X2_sumOf (r0 + 6) 7 7 h0.2.2.2.2.2.2) (by decide) (Nat.le_of_ble_eq_true rfl) (fun z_1 => ?_)
  exact mm_iret dX2_sunOfAll_9 rfl rfl
