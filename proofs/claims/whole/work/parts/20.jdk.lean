-- java/lang/Integer.bitCount(I)I
noncomputable def fn_J6_bitCount_0f7a4 (c0 : Int32) (M : mm_M) : Option (Int32 × mm_M) :=
  mm_let (c0 - ((c0.toUInt32 >>> ((1 : Int32).toUInt32 &&& Int32.toUInt32 31)).toInt32 &&& 1431655765)) fun x0_1 => mm_let ((x0_1 &&& 858993459) + ((x0_1.toUInt32 >>> ((2 : Int32).toUInt32 &&& Int32.toUInt32 31)).toInt32 &&& 858993459)) fun x0_2 => mm_let ((x0_2 + (x0_2.toUInt32 >>> ((4 : Int32).toUInt32 &&& Int32.toUInt32 31)).toInt32) &&& 252645135) fun x0_3 => mm_let (x0_3 + (x0_3.toUInt32 >>> ((8 : Int32).toUInt32 &&& Int32.toUInt32 31)).toInt32) fun x0_4 => mm_let (x0_4 + (x0_4.toUInt32 >>> ((16 : Int32).toUInt32 &&& Int32.toUInt32 31)).toInt32) fun x0_5 => some ((x0_5 &&& 63), M)
set_option maxRecDepth 20000 in
set_option maxHeartbeats 4000000 in
theorem ct_J6_bitCount_0f7a4 {l : Launch} {G : mm_G} {sh : mm_S} {M : mm_M} (c0 : Int32) : mm_K l G yJ6_bitCount_0f7a4 (cJ6_bitCount_0f7a4, 1, RJ6, (some .int), 1) [.int c0] (mm_fi sh) sh M (fn_J6_bitCount_0f7a4 c0 M) := by
  refine mm_met (by decide +kernel) rfl (Nat.le_of_ble_eq_true rfl) (fun X hX => ?_)
  subst hX
  show mm_T X G (cJ6_bitCount_0f7a4, 1, RJ6, (some .int), 1) (mm_fi sh) sh M 0 [(0, .int c0)] [] (fn_J6_bitCount_0f7a4 c0 M)
  unfold fn_J6_bitCount_0f7a4
  refine mm_iload_n 1 rfl dJ6_bitCount_0f7a4_0 rfl 0 rfl ?_
  refine mm_iload_n 2 rfl dJ6_bitCount_0f7a4_1 rfl 0 rfl ?_
  refine mm_iconst 3 rfl (v := 1) dJ6_bitCount_0f7a4_2 (by decide) ?_
  refine mm_iushr 4 rfl dJ6_bitCount_0f7a4_3 ?_
  refine mm_ldcw 7 rfl (v := 1431655765) dJ6_bitCount_0f7a4_4 mw_3_17 ?_
  refine mm_iand 8 rfl dJ6_bitCount_0f7a4_7 ?_
  refine mm_isub 9 rfl dJ6_bitCount_0f7a4_8 ?_
  refine mm_bI (fun x0_1 => ?_)
  refine mm_istore_n 10 rfl dJ6_bitCount_0f7a4_9 rfl (lv' := [(0, .int x0_1)]) (by decide) rfl ?_
  refine mm_iload_n 11 rfl dJ6_bitCount_0f7a4_10 rfl 0 rfl ?_
  refine mm_ldcw 14 rfl (v := 858993459) dJ6_bitCount_0f7a4_11 mw_3_18 ?_
  refine mm_iand 15 rfl dJ6_bitCount_0f7a4_14 ?_
  refine mm_iload_n 16 rfl dJ6_bitCount_0f7a4_15 rfl 0 rfl ?_
  refine mm_iconst 17 rfl (v := 2) dJ6_bitCount_0f7a4_16 (by decide) ?_
  refine mm_iushr 18 rfl dJ6_bitCount_0f7a4_17 ?_
  refine mm_ldcw 21 rfl (v := 858993459) dJ6_bitCount_0f7a4_18 mw_3_18 ?_
  refine mm_iand 22 rfl dJ6_bitCount_0f7a4_21 ?_
  refine mm_iadd 23 rfl dJ6_bitCount_0f7a4_22 ?_
  refine mm_bI (fun x0_2 => ?_)
  refine mm_istore_n 24 rfl dJ6_bitCount_0f7a4_23 rfl (lv' := [(0, .int x0_2)]) (by decide) rfl ?_
  refine mm_iload_n 25 rfl dJ6_bitCount_0f7a4_24 rfl 0 rfl ?_
  refine mm_iload_n 26 rfl dJ6_bitCount_0f7a4_25 rfl 0 rfl ?_
  refine mm_iconst 27 rfl (v := 4) dJ6_bitCount_0f7a4_26 (by decide) ?_
  refine mm_iushr 28 rfl dJ6_bitCount_0f7a4_27 ?_
  refine mm_iadd 29 rfl dJ6_bitCount_0f7a4_28 ?_
  refine mm_ldcw 32 rfl (v := 252645135) dJ6_bitCount_0f7a4_29 mw_3_19 ?_
  refine mm_iand 33 rfl dJ6_bitCount_0f7a4_32 ?_
  refine mm_bI (fun x0_3 => ?_)
  refine mm_istore_n 34 rfl dJ6_bitCount_0f7a4_33 rfl (lv' := [(0, .int x0_3)]) (by decide) rfl ?_
  refine mm_iload_n 35 rfl dJ6_bitCount_0f7a4_34 rfl 0 rfl ?_
  refine mm_iload_n 36 rfl dJ6_bitCount_0f7a4_35 rfl 0 rfl ?_
  refine mm_bipush 38 rfl (v := 8) dJ6_bitCount_0f7a4_36 (by decide) ?_
  refine mm_iushr 39 rfl dJ6_bitCount_0f7a4_38 ?_
  refine mm_iadd 40 rfl dJ6_bitCount_0f7a4_39 ?_
  refine mm_bI (fun x0_4 => ?_)
  refine mm_istore_n 41 rfl dJ6_bitCount_0f7a4_40 rfl (lv' := [(0, .int x0_4)]) (by decide) rfl ?_
  refine mm_iload_n 42 rfl dJ6_bitCount_0f7a4_41 rfl 0 rfl ?_
  refine mm_iload_n 43 rfl dJ6_bitCount_0f7a4_42 rfl 0 rfl ?_
  refine mm_bipush 45 rfl (v := 16) dJ6_bitCount_0f7a4_43 (by decide) ?_
  refine mm_iushr 46 rfl dJ6_bitCount_0f7a4_45 ?_
  refine mm_iadd 47 rfl dJ6_bitCount_0f7a4_46 ?_
  refine mm_bI (fun x0_5 => ?_)
  refine mm_istore_n 48 rfl dJ6_bitCount_0f7a4_47 rfl (lv' := [(0, .int x0_5)]) (by decide) rfl ?_
  refine mm_iload_n 49 rfl dJ6_bitCount_0f7a4_48 rfl 0 rfl ?_
  refine mm_bipush 51 rfl (v := 63) dJ6_bitCount_0f7a4_49 (by decide) ?_
  refine mm_iand 52 rfl dJ6_bitCount_0f7a4_51 ?_
  exact mm_iret dJ6_bitCount_0f7a4_52 rfl rfl

-- java/util/Arrays.fill([II)V
noncomputable def fn_J7_fill_53178_L5 (r0 : Nat) (n0 : Nat) (c1 : Int32) (c3 : Int32) (k : mm_M → Option mm_M) : Nat → Int32 → mm_M → Option mm_M
  | 0, _, _ => none
  | n + 1, x2, M => (if c3 ≤ x2 then k  M else (if mm_in x2 n0 then (mm_let (mm_up M r0 x2.toNatClampNeg c1) fun M_3 => fn_J7_fill_53178_L5 r0 n0 c1 c3 k n (x2 + 1) M_3) else none))
set_option maxRecDepth 20000 in
set_option maxHeartbeats 4000000 in
theorem th_J7_fill_53178_L5 {X : mm_X} {G : mm_G} {sh : mm_S} {r0 : Nat} {n0 : Nat} {c1 : Int32} {c3 : Int32} {k : mm_M → Option mm_M} (h0 : sh[r0]? = some (mm_ia G n0)) (hk : ∀ (M : mm_M), mm_T X G (cJ7_fill_53178, 4, RJ7, none, 1) (mm_fv sh) sh M 20 [] [] (k  M)) : ∀ (n : Nat) (x2 : Int32) (M : mm_M), mm_T X G (cJ7_fill_53178, 4, RJ7, none, 1) (mm_fv sh) sh M 5 [(0, .ref (mm_ad G r0)), (1, .int c1), (2, .int x2), (3, .int c3)] [] (fn_J7_fill_53178_L5 r0 n0 c1 c3 k n x2 M) := by
  intro n
  induction n with
  | zero => intro x2 M; exact mm_none
  | succ n ih =>
    intro x2 M
    rw [fn_J7_fill_53178_L5]
    refine mm_iload_n 6 rfl dJ7_fill_53178_5 rfl 2 rfl ?_
    refine mm_iload_n 7 rfl dJ7_fill_53178_6 rfl 3 rfl ?_
    refine mm_icmp_ge 10 20 rfl dJ7_fill_53178_7 (by decide) (fun h_2 => ?_) (fun h_2 => ?_)
    · exact mm_lv [] rfl (hk _)
    · refine mm_aload_n 11 rfl dJ7_fill_53178_10 rfl 0 rfl ?_
      refine mm_iload_n 12 rfl dJ7_fill_53178_11 rfl 2 rfl ?_
      refine mm_iload_n 13 rfl dJ7_fill_53178_12 rfl 1 rfl ?_
      refine mm_iast 14 rfl dJ7_fill_53178_13 h0 (fun h_4 => ?_)
      refine mm_bM (fun M_3 => ?_)
      refine mm_iinc 17 rfl dJ7_fill_53178_14 2 rfl (v := (x2 + 1)) rfl (lv' := [(2, .int (x2 + 1)), (0, .ref (mm_ad G r0)), (1, .int c1), (3, .int c3)]) (by decide) rfl ?_
      refine mm_goto 5 dJ7_fill_53178_17 (by decide) ?_
      exact mm_lv [1, 2, 0, 3] rfl (ih _ _)
noncomputable def fn_J7_fill_53178 (r0 : Nat) (n0 : Nat) (c1 : Int32) (M : mm_M) : Option mm_M :=
  mm_let (Int32.ofNat n0) fun x3_1 => fn_J7_fill_53178_L5 r0 n0 c1 x3_1 (fun M_5 => some M_5) mm_fu 0 M
set_option maxRecDepth 20000 in
set_option maxHeartbeats 4000000 in
theorem ct_J7_fill_53178 {l : Launch} {G : mm_G} {sh : mm_S} {M : mm_M} (r0 : Nat) (n0 : Nat) (c1 : Int32) (h0 : sh[r0]? = some (mm_ia G n0)) : mm_K l G yJ7_fill_53178 (cJ7_fill_53178, 4, RJ7, none, 1) [.ref (mm_ad G r0), .int c1] (mm_fv sh) sh M (fn_J7_fill_53178 r0 n0 c1 M) := by
  refine mm_met (by decide +kernel) rfl (Nat.le_of_ble_eq_true rfl) (fun X hX => ?_)
  subst hX
  show mm_T X G (cJ7_fill_53178, 4, RJ7, none, 1) (mm_fv sh) sh M 0 [(0, .ref (mm_ad G r0)), (1, .int c1)] [] (fn_J7_fill_53178 r0 n0 c1 M)
  unfold fn_J7_fill_53178
  refine mm_iconst 1 rfl (v := 0) dJ7_fill_53178_0 (by decide) ?_
  refine mm_istore_n 2 rfl dJ7_fill_53178_1 rfl (lv' := [(2, .int 0), (0, .ref (mm_ad G r0)), (1, .int c1)]) (by decide) rfl ?_
  refine mm_aload_n 3 rfl dJ7_fill_53178_2 rfl 1 rfl ?_
  refine mm_alen 4 rfl dJ7_fill_53178_3 h0 (v := (Int32.ofNat n0)) rfl ?_
  refine mm_bI (fun x3_1 => ?_)
  refine mm_istore_n 5 rfl dJ7_fill_53178_4 rfl (lv' := [(3, .int x3_1), (2, .int 0), (0, .ref (mm_ad G r0)), (1, .int c1)]) (by decide) rfl ?_
  refine mm_lv [2, 3, 1, 0] rfl (th_J7_fill_53178_L5 h0 (fun M_5 => ?_) mm_fu _ _)
  exact mm_vret dJ7_fill_53178_20 rfl rfl

-- java/lang/String.coder()B
noncomputable def fn_J0_coder_7d493 (r0 : Nat) (M : mm_M) : Option (Int32 × mm_M) :=
  some (0, M)
set_option maxRecDepth 20000 in
set_option maxHeartbeats 4000000 in
theorem ct_J0_coder_7d493 {l : Launch} {G : mm_G} {sh : mm_S} {M : mm_M} (r0 : Nat) (h0 : r0 < 10) : mm_K l G yJ0_coder_7d493 (cJ0_coder_7d493, 1, RJ0, (some .byte), 1) [.ref (mm_aK G r0)] (mm_fi sh) sh M (fn_J0_coder_7d493 r0 M) := by
  refine mm_met (by decide +kernel) rfl (Nat.le_of_ble_eq_true rfl) (fun X hX => ?_)
  subst hX
  show mm_T X G (cJ0_coder_7d493, 1, RJ0, (some .byte), 1) (mm_fi sh) sh M 0 [(0, .ref (mm_aK G r0))] [] (fn_J0_coder_7d493 r0 M)
  unfold fn_J0_coder_7d493
  refine mm_scs 3 rfl dJ0_coder_7d493_0 mw_2_85 ?_
  refine mm_if_eqN 6 rfl 13 dJ0_coder_7d493_3 (by decide) (by decide) ?_
  refine mm_aload_n 7 rfl dJ0_coder_7d493_6 rfl 0 rfl ?_
  refine mm_sgetC 10 rfl dJ0_coder_7d493_7 h0 mw_6_43 ?_
  refine mm_goto 14 dJ0_coder_7d493_10 (by decide) ?_
  exact mm_zretK dJ0_coder_7d493_14 rfl rfl rfl

-- java/lang/String.length()I
noncomputable def fn_J0_length_8abf5 (r0 : Nat) (M : mm_M) : Option (Int32 × mm_M) :=
  ((fn_J0_coder_7d493 r0 M).bind fun z_1 => some (((Int32.ofNat (mm_len.getD r0 0)) >>> (z_1.1 &&& 31)), z_1.2))
set_option maxRecDepth 20000 in
set_option maxHeartbeats 4000000 in
theorem ct_J0_length_8abf5 {l : Launch} {G : mm_G} {sh : mm_S} {M : mm_M} (r0 : Nat) (h0 : r0 < 10) : mm_K l G yJ0_length_8abf5 (cJ0_length_8abf5, 1, RJ0, (some .int), 2) [.ref (mm_aK G r0)] (mm_fi sh) sh M (fn_J0_length_8abf5 r0 M) := by
  refine mm_met (by decide +kernel) rfl (Nat.le_of_ble_eq_true rfl) (fun X hX => ?_)
  subst hX
  show mm_T X G (cJ0_length_8abf5, 1, RJ0, (some .int), 2) (mm_fi sh) sh M 0 [(0, .ref (mm_aK G r0))] [] (fn_J0_length_8abf5 r0 M)
  unfold fn_J0_length_8abf5
  refine mm_aload_n 1 rfl dJ0_length_8abf5_0 rfl 0 rfl ?_
  refine mm_sgetV 4 rfl dJ0_length_8abf5_1 h0 mw_6_42 ?_
  refine mm_slen 5 rfl dJ0_length_8abf5_4 h0 ?_
  refine mm_aload_n 6 rfl dJ0_length_8abf5_5 rfl 0 rfl ?_
  refine ca_J0_335 9 rfl dJ0_length_8abf5_6 h0 (ct_J0_coder_7d493 r0 h0) (by decide) (Nat.le_of_ble_eq_true rfl) (fun z_1 => ?_)
  refine mm_ishr 10 rfl dJ0_length_8abf5_9 ?_
  exact mm_iret dJ0_length_8abf5_10 rfl rfl

-- java/lang/String.isLatin1()Z
noncomputable def fn_J0_isLatin1_aae02 (r0 : Nat) (M : mm_M) : Option (Int32 × mm_M) :=
  some (1, M)
set_option maxRecDepth 20000 in
set_option maxHeartbeats 4000000 in
theorem ct_J0_isLatin1_aae02 {l : Launch} {G : mm_G} {sh : mm_S} {M : mm_M} (r0 : Nat) (h0 : r0 < 10) : mm_K l G yJ0_isLatin1_aae02 (cJ0_isLatin1_aae02, 1, RJ0, (some .boolean), 1) [.ref (mm_aK G r0)] (mm_fi sh) sh M (fn_J0_isLatin1_aae02 r0 M) := by
  refine mm_met (by decide +kernel) rfl (Nat.le_of_ble_eq_true rfl) (fun X hX => ?_)
  subst hX
  show mm_T X G (cJ0_isLatin1_aae02, 1, RJ0, (some .boolean), 1) (mm_fi sh) sh M 0 [(0, .ref (mm_aK G r0))] [] (fn_J0_isLatin1_aae02 r0 M)
  unfold fn_J0_isLatin1_aae02
  refine mm_scs 3 rfl dJ0_isLatin1_aae02_0 mw_2_85 ?_
  refine mm_if_eqN 6 rfl 17 dJ0_isLatin1_aae02_3 (by decide) (by decide) ?_
  refine mm_aload_n 7 rfl dJ0_isLatin1_aae02_6 rfl 0 rfl ?_
  refine mm_sgetC 10 rfl dJ0_isLatin1_aae02_7 h0 mw_6_43 ?_
  refine mm_if_neN 13 rfl 17 dJ0_isLatin1_aae02_10 (by decide) (by decide) ?_
  refine mm_iconst 14 rfl (v := 1) dJ0_isLatin1_aae02_13 (by decide) ?_
  refine mm_goto 18 dJ0_isLatin1_aae02_14 (by decide) ?_
  exact mm_zretK dJ0_isLatin1_aae02_18 rfl rfl rfl

-- jdk/internal/util/Preconditions.checkIndex(IILjava/util/function/BiFunction;)I
noncomputable def fn_J3_checkIndex_8e157 (c0 : Int32) (c1 : Int32) (M : mm_M) : Option (Int32 × mm_M) :=
  (if c0 < 0 then none else (if c0 < c1 then some (c0, M) else none))
set_option maxRecDepth 20000 in
set_option maxHeartbeats 4000000 in
theorem ct_J3_checkIndex_8e157 {l : Launch} {G : mm_G} {sh : mm_S} {M : mm_M} (c0 : Int32) (c1 : Int32) : mm_K l G yJ3_checkIndex_8e157 (cJ3_checkIndex_8e157, 3, RJ3, (some .int), 1) [.int c0, .int c1, va_rf (mm_fo G)] (mm_fi sh) sh M (fn_J3_checkIndex_8e157 c0 c1 M) := by
  refine mm_met (by decide +kernel) rfl (by cases h : mm_fo G <;> exact (Nat.le_of_ble_eq_true rfl)) (fun X hX => ?_)
  subst hX
  show mm_T X G (cJ3_checkIndex_8e157, 3, RJ3, (some .int), 1) (mm_fi sh) sh M 0 [(0, .int c0), (1, .int c1), (2, va_rf (mm_fo G))] [] (fn_J3_checkIndex_8e157 c0 c1 M)
  unfold fn_J3_checkIndex_8e157
  refine mm_iload_n 1 rfl dJ3_checkIndex_8e157_0 rfl 0 rfl ?_
  refine mm_if_lt 4 9 rfl dJ3_checkIndex_8e157_1 (by decide) (fun h_1 => ?_) (fun h_1 => ?_)
  · exact mm_none
  · refine mm_iload_n 5 rfl dJ3_checkIndex_8e157_4 rfl 0 rfl ?_
    refine mm_iload_n 6 rfl dJ3_checkIndex_8e157_5 rfl 1 rfl ?_
    refine mm_icmp_lt 9 16 rfl dJ3_checkIndex_8e157_6 (by decide) (fun h_2 => ?_) (fun h_2 => ?_)
    · refine mm_iload_n 17 rfl dJ3_checkIndex_8e157_16 rfl 0 rfl ?_
      exact mm_iret dJ3_checkIndex_8e157_17 rfl rfl
    · exact mm_none

-- java/lang/String.checkIndex(II)V
noncomputable def fn_J0_checkIndex_df160 (c0 : Int32) (c1 : Int32) (M : mm_M) : Option mm_M :=
  ((fn_J3_checkIndex_8e157 c0 c1 M).bind fun z_1 => some z_1.2)
set_option maxRecDepth 20000 in
set_option maxHeartbeats 4000000 in
theorem ct_J0_checkIndex_df160 {l : Launch} {G : mm_G} {sh : mm_S} {M : mm_M} (c0 : Int32) (c1 : Int32) : mm_K l G yJ0_checkIndex_df160 (cJ0_checkIndex_df160, 2, RJ0, none, 2) [.int c0, .int c1] (mm_fv sh) sh M (fn_J0_checkIndex_df160 c0 c1 M) := by
  refine mm_met (by decide +kernel) rfl (Nat.le_of_ble_eq_true rfl) (fun X hX => ?_)
  subst hX
  show mm_T X G (cJ0_checkIndex_df160, 2, RJ0, none, 2) (mm_fv sh) sh M 0 [(0, .int c0), (1, .int c1)] [] (fn_J0_checkIndex_df160 c0 c1 M)
  unfold fn_J0_checkIndex_df160
  refine mm_iload_n 1 rfl dJ0_checkIndex_df160_0 rfl 0 rfl ?_
  refine mm_iload_n 2 rfl dJ0_checkIndex_df160_1 rfl 1 rfl ?_
  refine mm_sfo 5 rfl dJ0_checkIndex_df160_2 mw_2_101 ?_
  refine ca_J0_1059 8 rfl dJ0_checkIndex_df160_5 (ct_J3_checkIndex_8e157 c0 c1 ) (by decide) (Nat.le_of_ble_eq_true rfl) (fun z_1 => ?_)
  refine mm_pop 9 rfl dJ0_checkIndex_df160_8 rfl ?_
  exact mm_vret dJ0_checkIndex_df160_9 rfl rfl

-- java/lang/StringLatin1.charAt([BI)C
noncomputable def fn_J1_charAt_3b067 (r0 : Nat) (c1 : Int32) (M : mm_M) : Option (Int32 × mm_M) :=
  ((fn_J0_checkIndex_df160 c1 (Int32.ofNat (mm_len.getD r0 0)) M).bind fun z_1 => (if mm_in c1 (mm_len.getD r0 0) then (if ((((((mm_byt.getD r0 []).getD c1.toNatClampNeg 0) &&& 255).toUInt32 % 65536).toInt32).toUInt32 % 65536).toInt32 = ((((mm_byt.getD r0 []).getD c1.toNatClampNeg 0) &&& 255).toUInt32 % 65536).toInt32 then some (((((mm_byt.getD r0 []).getD c1.toNatClampNeg 0) &&& 255).toUInt32 % 65536).toInt32, z_1) else none) else none))
set_option maxRecDepth 20000 in
set_option maxHeartbeats 4000000 in
theorem ct_J1_charAt_3b067 {l : Launch} {G : mm_G} {sh : mm_S} {M : mm_M} (r0 : Nat) (c1 : Int32) (h0 : r0 < 10) : mm_K l G yJ1_charAt_3b067 (cJ1_charAt_3b067, 2, RJ1, (some .char), 3) [.ref (mm_aV G r0), .int c1] (mm_fi sh) sh M (fn_J1_charAt_3b067 r0 c1 M) := by
  refine mm_met (by decide +kernel) rfl (Nat.le_of_ble_eq_true rfl) (fun X hX => ?_)
  subst hX
  show mm_T X G (cJ1_charAt_3b067, 2, RJ1, (some .char), 3) (mm_fi sh) sh M 0 [(0, .ref (mm_aV G r0)), (1, .int c1)] [] (fn_J1_charAt_3b067 r0 c1 M)
  unfold fn_J1_charAt_3b067
  refine mm_iload_n 1 rfl dJ1_charAt_3b067_0 rfl 1 rfl ?_
  refine mm_aload_n 2 rfl dJ1_charAt_3b067_1 rfl 0 rfl ?_
  refine mm_slen 3 rfl dJ1_charAt_3b067_2 h0 ?_
  refine ca_J1_9 6 rfl dJ1_charAt_3b067_3 (ct_J0_checkIndex_df160 c1 (Int32.ofNat (mm_len.getD r0 0)) ) (by decide) (Nat.le_of_ble_eq_true rfl) (fun z_1 => ?_)
  refine mm_aload_n 7 rfl dJ1_charAt_3b067_6 rfl 0 rfl ?_
  refine mm_iload_n 8 rfl dJ1_charAt_3b067_7 rfl 1 rfl ?_
  refine mm_sbld 9 rfl dJ1_charAt_3b067_8 h0 ?_
  refine mm_sipush 12 rfl (v := 255) dJ1_charAt_3b067_9 (by decide) ?_
  refine mm_iand 13 rfl dJ1_charAt_3b067_12 ?_
  refine mm_i2c 14 rfl dJ1_charAt_3b067_13 ?_
  exact mm_cret dJ1_charAt_3b067_14 rfl rfl

-- java/lang/String.charAt(I)C
noncomputable def fn_J0_charAt_5068e (r0 : Nat) (c1 : Int32) (M : mm_M) : Option (Int32 × mm_M) :=
  ((fn_J0_isLatin1_aae02 r0 M).bind fun z_1 => (if z_1.1 = 0 then none else ((fn_J1_charAt_3b067 r0 c1 z_1.2).bind fun z_3 => (if (z_3.1.toUInt32 % 65536).toInt32 = z_3.1 then some (z_3.1, z_3.2) else none))))
set_option maxRecDepth 20000 in
set_option maxHeartbeats 4000000 in
theorem ct_J0_charAt_5068e {l : Launch} {G : mm_G} {sh : mm_S} {M : mm_M} (r0 : Nat) (c1 : Int32) (h0 : r0 < 10) : mm_K l G yJ0_charAt_5068e (cJ0_charAt_5068e, 2, RJ0, (some .char), 4) [.ref (mm_aK G r0), .int c1] (mm_fi sh) sh M (fn_J0_charAt_5068e r0 c1 M) := by
  refine mm_met (by decide +kernel) rfl (Nat.le_of_ble_eq_true rfl) (fun X hX => ?_)
  subst hX
  show mm_T X G (cJ0_charAt_5068e, 2, RJ0, (some .char), 4) (mm_fi sh) sh M 0 [(0, .ref (mm_aK G r0)), (1, .int c1)] [] (fn_J0_charAt_5068e r0 c1 M)
  unfold fn_J0_charAt_5068e
  refine mm_aload_n 1 rfl dJ0_charAt_5068e_0 rfl 0 rfl ?_
  refine ca_J0_492 4 rfl dJ0_charAt_5068e_1 h0 (ct_J0_isLatin1_aae02 r0 h0) (by decide) (Nat.le_of_ble_eq_true rfl) (fun z_1 => ?_)
  refine mm_if_eq 7 16 rfl dJ0_charAt_5068e_4 (by decide) (fun h_2 => ?_) (fun h_2 => ?_)
  · exact mm_none
  · refine mm_aload_n 8 rfl dJ0_charAt_5068e_7 rfl 0 rfl ?_
    refine mm_sgetV 11 rfl dJ0_charAt_5068e_8 h0 mw_6_42 ?_
    refine mm_iload_n 12 rfl dJ0_charAt_5068e_11 rfl 1 rfl ?_
    refine ca_J0_495 15 rfl dJ0_charAt_5068e_12 (ct_J1_charAt_3b067 r0 c1 h0) (by decide) (Nat.le_of_ble_eq_true rfl) (fun z_3 => ?_)
    exact mm_cret dJ0_charAt_5068e_15 rfl rfl
