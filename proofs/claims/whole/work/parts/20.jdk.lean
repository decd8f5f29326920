-- java/lang/Integer.bitCount(I)I
def fn_J6_bitCount_0f7a4 (c0 : Int32) (M : mm_M) : Option (Int32 × mm_M) :=
  mm_let (c0 - ((c0.toUInt32 >>> ((1 : Int32).toUInt32 &&& Int32.toUInt32 31)).toInt32 &&& 1431655765)) fun x0_1 => mm_let ((x0_1 &&& 858993459) + ((x0_1.toUInt32 >>> ((2 : Int32).toUInt32 &&& Int32.toUInt32 31)).toInt32 &&& 858993459)) fun x0_2 => mm_let ((x0_2 + (x0_2.toUInt32 >>> ((4 : Int32).toUInt32 &&& Int32.toUInt32 31)).toInt32) &&& 252645135) fun x0_3 => mm_let (x0_3 + (x0_3.toUInt32 >>> ((8 : Int32).toUInt32 &&& Int32.toUInt32 31)).toInt32) fun x0_4 => mm_let (x0_4 + (x0_4.toUInt32 >>> ((16 : Int32).toUInt32 &&& Int32.toUInt32 31)).toInt32) fun x0_5 => some ((x0_5 &&& 63), M)
set_option maxRecDepth 20000 in
set_option maxHeartbeats 4000000 in
theorem ct_J6_bitCount_0f7a4 {l : Launch} {G : mm_G} {sh : mm_S} {M : mm_M} (c0 : Int32) : mm_K l G yJ6_bitCount_0f7a4 (cJ6_bitCount_0f7a4, 1, RJ6, (some .int), 1) [.int c0] (mm_fi sh) sh M (fn_J6_bitCount_0f7a4 c0 M) := by
  refine mm_met (by decide +kernel) rfl (Nat.le_of_ble_eq_true rfl) (fun X hX => ?_)
  subst hX
  show mm_T X G (cJ6_bitCount_0f7a4, 1, RJ6, (some .int), 1) (mm_fi sh) sh M 0 [(0, .int c0)] [] (fn_J6_bitCount_0f7a4 c0 M)
  unfold fn_J6_bitCount_0f7a4
  refine mm_iload_n 1 rfl dJ6_bitCount_0f7a4_0 rfl 0 rfl ?_
  refine mm_iload_n 2 rfl dJ6_bitCount_0f7a4_1 rfl 0 rfl ?_
  refine mm_iconst 3 rfl (v := 1) dJ6_bitCount_0f7a4_2 (by decide) ?_
  refine mm_iushr 4 rfl dJ6_bitCount_0f7a4_3 ?_
  refine mm_ldcw 7 rfl (v := 1431655765) dJ6_bitCount_0f7a4_4 mw_3_17 ?_
  refine mm_iand 8 rfl dJ6_bitCount_0f7a4_7 ?_
  refine mm_isub 9 rfl dJ6_bitCount_0f7a4_8 ?_
  refine mm_bI (fun x0_1 => ?_)
  refine mm_istore_n 10 rfl dJ6_bitCount_0f7a4_9 rfl (lv' := [(0, .int x0_1)]) (by decide) rfl ?_
  refine mm_iload_n 11 rfl dJ6_bitCount_0f7a4_10 rfl 0 rfl ?_
  refine mm_ldcw 14 rfl (v := 858993459) dJ6_bitCount_0f7a4_11 mw_3_18 ?_
  refine mm_iand 15 rfl dJ6_bitCount_0f7a4_14 ?_
  refine mm_iload_n 16 rfl dJ6_bitCount_0f7a4_15 rfl 0 rfl ?_
  refine mm_iconst 17 rfl (v := 2) dJ6_bitCount_0f7a4_16 (by decide) ?_
  refine mm_iushr 18 rfl dJ6_bitCount_0f7a4_17 ?_
  refine mm_ldcw 21 rfl (v := 858993459) dJ6_bitCount_0f7a4_18 mw_3_18 ?_
  refine mm_iand 22 rfl dJ6_bitCount_0f7a4_21 ?_
  refine mm_iadd 23 rfl dJ6_bitCount_0f7a4_22 ?_
  refine mm_bI (fun x0_2 => ?_)
  refine mm_istore_n 24 rfl dJ6_bitCount_0f7a4_23 rfl (lv' := [(0, .int x0_2)]) (by decide) rfl ?_
  refine mm_iload_n 25 rfl dJ6_bitCount_0f7a4_24 rfl 0 rfl ?_
  refine mm_iload_n 26 rfl dJ6_bitCount_0f7a4_25 rfl 0 rfl ?_
  refine mm_iconst 27 rfl (v := 4) dJ6_bitCount_0f7a4_26 (by decide) ?_
  refine mm_iushr 28 rfl dJ6_bitCount_0f7a4_27 ?_
  refine mm_iadd 29 rfl dJ6_bitCount_0f7a4_28 ?_
  refine mm_ldcw 32 rfl (v := 252645135) dJ6_bitCount_0f7a4_29 mw_3_19 ?_
  refine mm_iand 33 rfl dJ6_bitCount_0f7a4_32 ?_
  refine mm_bI (fun x0_3 => ?_)
  refine mm_istore_n 34 rfl dJ6_bitCount_0f7a4_33 rfl (lv' := [(0, .int x0_3)]) (by decide) rfl ?_
  refine mm_iload_n 35 rfl dJ6_bitCount_0f7a4_34 rfl 0 rfl ?_
  refine mm_iload_n 36 rfl dJ6_bitCount_0f7a4_35 rfl 0 rfl ?_
  refine mm_bipush 38 rfl (v := 8) dJ6_bitCount_0f7a4_36 (by decide) ?_
  refine mm_iushr 39 rfl dJ6_bitCount_0f7a4_38 ?_
  refine mm_iadd 40 rfl dJ6_bitCount_0f7a4_39 ?_
  refine mm_bI (fun x0_4 => ?_)
  refine mm_istore_n 41 rfl dJ6_bitCount_0f7a4_40 rfl (lv' := [(0, .int x0_4)]) (by decide) rfl ?_
  refine mm_iload_n 42 rfl dJ6_bitCount_0f7a4_41 rfl 0 rfl ?_
  refine mm_iload_n 43 rfl dJ6_bitCount_0f7a4_42 rfl 0 rfl ?_
  refine mm_bipush 45 rfl (v := 16) dJ6_bitCount_0f7a4_43 (by decide) ?_
  refine mm_iushr 46 rfl dJ6_bitCount_0f7a4_45 ?_
  refine mm_iadd 47 rfl dJ6_bitCount_0f7a4_46 ?_
  refine mm_bI (fun x0_5 => ?_)
  refine mm_istore_n 48 rfl dJ6_bitCount_0f7a4_47 rfl (lv' := [(0, .int x0_5)]) (by decide) rfl ?_
  refine mm_iload_n 49 rfl dJ6_bitCount_0f7a4_48 rfl 0 rfl ?_
  refine mm_bipush 51 rfl (v := 63) dJ6_bitCount_0f7a4_49 (by decide) ?_
  refine mm_iand 52 rfl dJ6_bitCount_0f7a4_51 ?_
  exact mm_iret dJ6_bitCount_0f7a4_52 rfl rfl

-- java/util/Arrays.fill([II)V
def fn_J7_fill_53178_L5 (r0 : Nat) (n0 : Nat) (c1 : Int32) (c3 : Int32) (k : mm_M → Option mm_M) : Nat → Int32 → mm_M → Option mm_M
  | 0, _, _ => none
  | n + 1, x2, M => (if c3 ≤ x2 then k  M else (if mm_in x2 n0 then (mm_let (mm_up M r0 x2.toNatClampNeg c1) fun M_3 => fn_J7_fill_53178_L5 r0 n0 c1 c3 k n (x2 + 1) M_3) else none))
set_option maxRecDepth 20000 in
set_option maxHeartbeats 4000000 in
theorem th_J7_fill_53178_L5 {X : mm_X} {G : mm_G} {sh : mm_S} {r0 : Nat} {n0 : Nat} {c1 : Int32} {c3 : Int32} {k : mm_M → Option mm_M} (h0 : sh[r0]? = some (mm_ia G n0)) (hk : ∀ (M : mm_M), mm_T X G (cJ7_fill_53178, 4, RJ7, none, 1) (mm_fv sh) sh M 20 [] [] (k  M)) : ∀ (n : Nat) (x2 : Int32) (M : mm_M), mm_T X G (cJ7_fill_53178, 4, RJ7, none, 1) (mm_fv sh) sh M 5 [(0, .ref (mm_ad G r0)), (1, .int c1), (2, .int x2), (3, .int c3)] [] (fn_J7_fill_53178_L5 r0 n0 c1 c3 k n x2 M) := by
  intro n
  induction n with
  | zero => intro x2 M; exact mm_none
  | succ n ih =>
    intro x2 M
    rw [fn_J7_fill_53178_L5]
    refine mm_iload_n 6 rfl dJ7_fill_53178_5 rfl 2 rfl ?_
    refine mm_iload_n 7 rfl dJ7_fill_53178_6 rfl 3 rfl ?_
    refine mm_icmp_ge 10 20 rfl dJ7_fill_53178_7 (by decide) (fun h_2 => ?_) (fun h_2 => ?_)
    · exact mm_lv [] rfl (hk _)
    · refine mm_aload_n 11 rfl dJ7_fill_53178_10 rfl 0 rfl ?_
      refine mm_iload_n 12 rfl dJ7_fill_53178_11 rfl 2 rfl ?_
      refine mm_iload_n 13 rfl dJ7_fill_53178_12 rfl 1 rfl ?_
      refine mm_iast 14 rfl dJ7_fill_53178_13 h0 (fun h_4 => ?_)
      refine mm_bM (fun M_3 => ?_)
      refine mm_iinc 17 rfl dJ7_fill_53178_14 2 rfl (v := (x2 + 1)) rfl (lv' := [(2, .int (x2 + 1)), (0, .ref (mm_ad G r0)), (1, .int c1), (3, .int c3)]) (by decide) rfl ?_
      refine mm_goto 5 dJ7_fill_53178_17 (by decide) ?_
      exact mm_lv [1, 2, 0, 3] rfl (ih _ _)
def fn_J7_fill_53178 (r0 : Nat) (n0 : Nat) (c1 : Int32) (M : mm_M) : Option mm_M :=
  mm_let (Int32.ofNat n0) fun x3_1 => fn_J7_fill_53178_L5 r0 n0 c1 x3_1 (fun M_5 => some M_5) 1000 0 M
set_option maxRecDepth 20000 in
set_option maxHeartbeats 4000000 in
theorem ct_J7_fill_53178 {l : Launch} {G : mm_G} {sh : mm_S} {M : mm_M} (r0 : Nat) (n0 : Nat) (c1 : Int32) (h0 : sh[r0]? = some (mm_ia G n0)) : mm_K l G yJ7_fill_53178 (cJ7_fill_53178, 4, RJ7, none, 1) [.ref (mm_ad G r0), .int c1] (mm_fv sh) sh M (fn_J7_fill_53178 r0 n0 c1 M) := by
  refine mm_met (by decide +kernel) rfl (Nat.le_of_ble_eq_true rfl) (fun X hX => ?_)
  subst hX
  show mm_T X G (cJ7_fill_53178, 4, RJ7, none, 1) (mm_fv sh) sh M 0 [(0, .ref (mm_ad G r0)), (1, .int c1)] [] (fn_J7_fill_53178 r0 n0 c1 M)
  unfold fn_J7_fill_53178
  refine mm_iconst 1 rfl (v := 0) dJ7_fill_53178_0 (by decide) ?_
  refine mm_istore_n 2 rfl dJ7_fill_53178_1 rfl (lv' := [(2, .int 0), (0, .ref (mm_ad G r0)), (1, .int c1)]) (by decide) rfl ?_
  refine mm_aload_n 3 rfl dJ7_fill_53178_2 rfl 1 rfl ?_
  refine mm_alen 4 rfl dJ7_fill_53178_3 h0 (v := (Int32.ofNat n0)) rfl ?_
  refine mm_bI (fun x3_1 => ?_)
  refine mm_istore_n 5 rfl dJ7_fill_53178_4 rfl (lv' := [(3, .int x3_1), (2, .int 0), (0, .ref (mm_ad G r0)), (1, .int c1)]) (by decide) rfl ?_
  refine mm_lv [2, 3, 1, 0] rfl (th_J7_fill_53178_L5 h0 (fun M_5 => ?_) 1000 _ _)
  exact mm_vret dJ7_fill_53178_20 rfl rfl
