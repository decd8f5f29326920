noncomputable def fn_X7_weighUnder (w : Int32 → Int32 → Int32 → Int32 → mm_M → Option (Int64 × mm_M)) (c1 : Int32) (c2 : Int32) (c3 : Int32) (c4 : Int32) (c5 : Int32) (M : mm_M) : Option (Int64 × mm_M) :=
  (if mm_in (c2 + 1) 9 then (if mm_in c2 9 then ((fn_X2_become (27 + 7 * (c2 + 1).toNatClampNeg) (27 + 7 * c2.toNatClampNeg) M).bind fun z_3 => ((fn_X2_passDay (27 + 7 * (c2 + 1).toNatClampNeg) c1 z_3).bind fun z_4 => ((w (c2 + 1) c3 c4 c5 z_4.2).bind fun z_5 => some (z_5.1, z_5.2)))) else none) else none)
set_option maxRecDepth 20000 in
set_option maxHeartbeats 4000000 in
theorem ct_X7_weighUnder {l : Launch} {G : mm_G} {sh : mm_S} {M : mm_M} {w : Int32 → Int32 → Int32 → Int32 → mm_M → Option (Int64 × mm_M)} {dw : Nat} (c1 : Int32) (c2 : Int32) (c3 : Int32) (c4 : Int32) (c5 : Int32) (h0 : mm_isMli G sh) (hw : ∀ (a b c d : Int32) {M : mm_M}, mm_isMli G sh → mm_K l G yX7_weigh (cX7_weigh, 7, RX7, (some .long), dw) [.ref (mm_ad G 0), .int a, .int b, .int c, .int d] (mm_fl sh) sh M (w a b c d M)) : mm_K l G yX7_weighUnder (cX7_weighUnder, 7, RX7, (some .long), (dw + 10)) [.ref (mm_ad G 0), .int c1, .int c2, .int c3, .int c4, .int c5] (mm_fl sh) sh M (fn_X7_weighUnder w c1 c2 c3 c4 c5 M) := by
  refine mm_met (by decide +kernel) rfl (Nat.le_of_ble_eq_true rfl) (fun X hX => ?_)
  subst hX
  show mm_T X G (cX7_weighUnder, 7, RX7, (some .long), (dw + 10)) (mm_fl sh) sh M 0 [(0, .ref (mm_ad G 0)), (1, .int c1), (2, .int c2), (3, .int c3), (4, .int c4), (5, .int c5)] [] (fn_X7_weighUnder w c1 c2 c3 c4 c5 M)
  unfold fn_X7_weighUnder
  refine mm_aload_n 1 rfl dX7_weighUnder_0 rfl 0 rfl ?_
  refine gt_X7_19 4 rfl dX7_weighUnder_1 h0.1 ?_
  refine mm_iload_n 5 rfl dX7_weighUnder_4 rfl 2 rfl ?_
  refine mm_iconst 6 rfl (v := 1) dX7_weighUnder_5 (by decide) ?_
  refine mm_iadd 7 rfl dX7_weighUnder_6 ?_
  refine mm_aald 8 rfl dX7_weighUnder_7 h0.2.2.2.1 rfl (fun h_1 => ?_)
  refine mm_astore 10 rfl dX7_weighUnder_8 (lv' := [(6, .ref (mm_ad G (27 + 7 * (c2 + 1).toNatClampNeg))), (0, .ref (mm_ad G 0)), (1, .int c1), (2, .int c2), (3, .int c3), (4, .int c4), (5, .int c5)]) (Nat.le_of_ble_eq_true rfl) rfl ?_
  refine mm_aload 12 rfl dX7_weighUnder_10 0 rfl ?_
  refine mm_aload_n 13 rfl dX7_weighUnder_12 rfl 1 rfl ?_
  refine gt_X7_19 16 rfl dX7_weighUnder_13 h0.1 ?_
  refine mm_iload_n 17 rfl dX7_weighUnder_16 rfl 3 rfl ?_
  refine mm_aald 18 rfl dX7_weighUnder_17 h0.2.2.2.1 rfl (fun h_2 => ?_)
  refine ca_X7_87 21 rfl dX7_weighUnder_18 ((h0.2.2.2.2.1 _ (mm_in_lt h_1)).1) (ct_X2_become (27 + 7 * (c2 + 1).toNatClampNeg) (27 + 7 * c2.toNatClampNeg) (h0.2.2.2.2.1 _ (mm_in_lt h_1)) (h0.2.2.2.2.1 _ (mm_in_lt h_2))) (by omega) (Nat.le_of_ble_eq_true rfl) (fun z_3 => ?_)
  refine mm_aload 23 rfl dX7_weighUnder_21 0 rfl ?_
  refine mm_iload_n 24 rfl dX7_weighUnder_23 rfl 2 rfl ?_
  refine ca_X7_163 27 rfl dX7_weighUnder_24 ((h0.2.2.2.2.1 _ (mm_in_lt h_1)).1) (ct_X2_passDay (27 + 7 * (c2 + 1).toNatClampNeg) c1 (h0.2.2.2.2.1 _ (mm_in_lt h_1))) (by omega) (Nat.le_of_ble_eq_true rfl) (fun z_4 => ?_)
  refine mm_pop 28 rfl dX7_weighUnder_27 rfl ?_
  refine mm_aload_n 29 rfl dX7_weighUnder_28 rfl 1 rfl ?_
  refine mm_iload_n 30 rfl dX7_weighUnder_29 rfl 3 rfl ?_
  refine mm_iconst 31 rfl (v := 1) dX7_weighUnder_30 (by decide) ?_
  refine mm_iadd 32 rfl dX7_weighUnder_31 ?_
  refine mm_iload_n 33 rfl dX7_weighUnder_32 rfl 4 rfl ?_
  refine mm_iload 35 rfl dX7_weighUnder_33 5 rfl ?_
  refine mm_iload 37 rfl dX7_weighUnder_35 6 rfl ?_
  refine ca_X7_281 40 rfl dX7_weighUnder_37 h0.1 (hw (c2 + 1) c3 c4 c5 h0) (by omega) (Nat.le_of_ble_eq_true rfl) (fun z_5 => ?_)
  exact mm_lret dX7_weighUnder_40 rfl rfl

noncomputable def fn_X7_weigh : Nat → Int32 → Int32 → Int32 → Int32 → mm_M → Option (Int64 × mm_M)
  | 0, _, _, _, _, _ => none
  | n + 1, c1, c2, c3, c4, M => (if c2 ≤ c1 then (if mm_in c1 9 then ((fn_X7_worth (27 + 7 * c1.toNatClampNeg) c4 M).bind fun z_3 => some (z_3.1, z_3.2)) else none) else (if c1 < 8 then (if c3 ≤ 0 then (if 10 ≤ c3 then some (0, M) else (if mm_in c1 9 then ((fn_X2_sunToday (27 + 7 * c1.toNatClampNeg) M).bind fun z_8 => ((fn_X7_weighUnder (fun a b c d M => fn_X7_weigh n a b c d M) z_8.1 c1 c2 c3 c4 z_8.2).bind fun z_9 => mm_let (0 + ((10 - c3).toInt64 * z_9.1)) fun x5_10 => some (x5_10, z_9.2))) else none)) else ((fn_X7_weighUnder (fun a b c d M => fn_X7_weigh n a b c d M) 0 c1 c2 c3 c4 M).bind fun z_11 => mm_let (0 + (c3.toInt64 * z_11.1)) fun x5_12 => (if 10 ≤ c3 then some (x5_12, z_11.2) else (if mm_in c1 9 then ((fn_X2_sunToday (27 + 7 * c1.toNatClampNeg) z_11.2).bind fun z_15 => ((fn_X7_weighUnder (fun a b c d M => fn_X7_weigh n a b c d M) z_15.1 c1 c2 c3 c4 z_15.2).bind fun z_16 => mm_let (x5_12 + ((10 - c3).toInt64 * z_16.1)) fun x5_17 => some (x5_17, z_16.2))) else none)))) else (if mm_in c1 9 then ((fn_X7_worth (27 + 7 * c1.toNatClampNeg) c4 M).bind fun z_19 => some (z_19.1, z_19.2)) else none)))
set_option maxRecDepth 20000 in
set_option maxHeartbeats 4000000 in
theorem ct_X7_weigh {l : Launch} {G : mm_G} {sh : mm_S} (n : Nat) : ∀ (c1 c2 c3 c4 : Int32) {M : mm_M} (h0 : mm_isMli G sh), mm_K l G yX7_weigh (cX7_weigh, 7, RX7, (some .long), 20 * n) [.ref (mm_ad G 0), .int c1, .int c2, .int c3, .int c4] (mm_fl sh) sh M (fn_X7_weigh n c1 c2 c3 c4 M) := by
  induction n with
  | zero => intro c1 c2 c3 c4 M h0 r hr; cases hr
  | succ n ih =>
    intro c1 c2 c3 c4 M h0
    refine mm_met (by decide +kernel) rfl (Nat.le_of_ble_eq_true rfl) (fun X hX => ?_)
    subst hX
    show mm_T X G (cX7_weigh, 7, RX7, (some .long), (20 * (n + 1))) (mm_fl sh) sh M 0 [(0, .ref (mm_ad G 0)), (1, .int c1), (2, .int c2), (3, .int c3), (4, .int c4)] [] (fn_X7_weigh (n + 1) c1 c2 c3 c4 M)
    rw [fn_X7_weigh]
    refine mm_iload_n 1 rfl dX7_weigh_0 rfl 1 rfl ?_
    refine mm_iload_n 2 rfl dX7_weigh_1 rfl 2 rfl ?_
    refine mm_icmp_ge 5 11 rfl dX7_weigh_2 (by decide) (fun h_1 => ?_) (fun h_1 => ?_)
    · refine mm_aload_n 12 rfl dX7_weigh_11 rfl 0 rfl ?_
      refine gt_X7_19 15 rfl dX7_weigh_12 h0.1 ?_
      refine mm_iload_n 16 rfl dX7_weigh_15 rfl 1 rfl ?_
      refine mm_aald 17 rfl dX7_weigh_16 h0.2.2.2.1 rfl (fun h_2 => ?_)
      refine mm_iload 19 rfl dX7_weigh_17 4 rfl ?_
      refine ca_X7_290 22 rfl dX7_weigh_19 (ct_X7_worth (27 + 7 * c1.toNatClampNeg) c4 (h0.2.2.2.2.1 _ (mm_in_lt h_2))) (by omega) (Nat.le_of_ble_eq_true rfl) (fun z_3 => ?_)
      exact mm_lret dX7_weigh_22 rfl rfl
    · refine mm_iload_n 6 rfl dX7_weigh_5 rfl 1 rfl ?_
      refine mm_bipush 8 rfl (v := 8) dX7_weigh_6 (by decide) ?_
      refine mm_icmp_lt 11 23 rfl dX7_weigh_8 (by decide) (fun h_4 => ?_) (fun h_4 => ?_)
      · refine mm_lconst 24 rfl (v := 0) dX7_weigh_23 (by decide) ?_
        refine mm_lstore 26 rfl dX7_weigh_24 (lv' := [(5, .long 0), (0, .ref (mm_ad G 0)), (1, .int c1), (2, .int c2), (3, .int c3), (4, .int c4)]) (Nat.le_of_ble_eq_true rfl) rfl ?_
        refine mm_iload_n 27 rfl dX7_weigh_26 rfl 4 rfl ?_
        refine mm_if_le 30 48 rfl dX7_weigh_27 (by decide) (fun h_5 => ?_) (fun h_5 => ?_)
        · refine mm_iload_n 49 rfl dX7_weigh_48 rfl 4 rfl ?_
          refine mm_bipush 51 rfl (v := 10) dX7_weigh_49 (by decide) ?_
          refine mm_icmp_ge 54 83 rfl dX7_weigh_51 (by decide) (fun h_6 => ?_) (fun h_6 => ?_)
          · refine mm_lload 85 rfl dX7_weigh_83 0 rfl ?_
            exact mm_lret dX7_weigh_85 rfl rfl
          · refine mm_lload 56 rfl dX7_weigh_54 0 rfl ?_
            refine mm_bipush 58 rfl (v := 10) dX7_weigh_56 (by decide) ?_
            refine mm_iload_n 59 rfl dX7_weigh_58 rfl 4 rfl ?_
            refine mm_isub 60 rfl dX7_weigh_59 ?_
            refine mm_i2l 61 rfl dX7_weigh_60 ?_
            refine mm_aload_n 62 rfl dX7_weigh_61 rfl 1 rfl ?_
            refine mm_aload_n 63 rfl dX7_weigh_62 rfl 1 rfl ?_
            refine gt_X7_19 66 rfl dX7_weigh_63 h0.1 ?_
            refine mm_iload_n 67 rfl dX7_weigh_66 rfl 2 rfl ?_
            refine mm_aald 68 rfl dX7_weigh_67 h0.2.2.2.1 rfl (fun h_7 => ?_)
            refine ca_X7_113 71 rfl dX7_weigh_68 ((h0.2.2.2.2.1 _ (mm_in_lt h_7)).1) (ct_X2_sunToday (27 + 7 * c1.toNatClampNeg) (h0.2.2.2.2.1 _ (mm_in_lt h_7))) (by omega) (Nat.le_of_ble_eq_true rfl) (fun z_8 => ?_)
            refine mm_iload_n 72 rfl dX7_weigh_71 rfl 2 rfl ?_
            refine mm_iload_n 73 rfl dX7_weigh_72 rfl 3 rfl ?_
            refine mm_iload_n 74 rfl dX7_weigh_73 rfl 4 rfl ?_
            refine mm_iload 76 rfl dX7_weigh_74 5 rfl ?_
            refine ca_X7_294 79 rfl dX7_weigh_76 h0.1 (ct_X7_weighUnder z_8.1 c1 c2 c3 c4 h0 (fun a b c d _ h => ih a b c d h)) (by omega) (Nat.le_of_ble_eq_true rfl) (fun z_9 => ?_)
            refine mm_lmul 80 rfl dX7_weigh_79 ?_
            refine mm_ladd 81 rfl dX7_weigh_80 ?_
            refine mm_bL (fun x5_10 => ?_)
            refine mm_lstore 83 rfl dX7_weigh_81 (lv' := [(5, .long x5_10), (0, .ref (mm_ad G 0)), (1, .int c1), (2, .int c2), (3, .int c3), (4, .int c4)]) (Nat.le_of_ble_eq_true rfl) rfl ?_
            refine mm_lload 85 rfl dX7_weigh_83 0 rfl ?_
            exact mm_lret dX7_weigh_85 rfl rfl
        · refine mm_lload 32 rfl dX7_weigh_30 0 rfl ?_
          refine mm_iload_n 33 rfl dX7_weigh_32 rfl 4 rfl ?_
          refine mm_i2l 34 rfl dX7_weigh_33 ?_
          refine mm_aload_n 35 rfl dX7_weigh_34 rfl 1 rfl ?_
          refine mm_iconst 36 rfl (v := 0) dX7_weigh_35 (by decide) ?_
          refine mm_iload_n 37 rfl dX7_weigh_36 rfl 2 rfl ?_
          refine mm_iload_n 38 rfl dX7_weigh_37 rfl 3 rfl ?_
          refine mm_iload_n 39 rfl dX7_weigh_38 rfl 4 rfl ?_
          refine mm_iload 41 rfl dX7_weigh_39 5 rfl ?_
          refine ca_X7_294 44 rfl dX7_weigh_41 h0.1 (ct_X7_weighUnder 0 c1 c2 c3 c4 h0 (fun a b c d _ h => ih a b c d h)) (by omega) (Nat.le_of_ble_eq_true rfl) (fun z_11 => ?_)
          refine mm_lmul 45 rfl dX7_weigh_44 ?_
          refine mm_ladd 46 rfl dX7_weigh_45 ?_
          refine mm_bL (fun x5_12 => ?_)
          refine mm_lstore 48 rfl dX7_weigh_46 (lv' := [(5, .long x5_12), (0, .ref (mm_ad G 0)), (1, .int c1), (2, .int c2), (3, .int c3), (4, .int c4)]) (Nat.le_of_ble_eq_true rfl) rfl ?_
          refine mm_iload_n 49 rfl dX7_weigh_48 rfl 4 rfl ?_
          refine mm_bipush 51 rfl (v := 10) dX7_weigh_49 (by decide) ?_
          refine mm_icmp_ge 54 83 rfl dX7_weigh_51 (by decide) (fun h_13 => ?_) (fun h_13 => ?_)
          · refine mm_lload 85 rfl dX7_weigh_83 0 rfl ?_
            exact mm_lret dX7_weigh_85 rfl rfl
          · refine mm_lload 56 rfl dX7_weigh_54 0 rfl ?_
            refine mm_bipush 58 rfl (v := 10) dX7_weigh_56 (by decide) ?_
            refine mm_iload_n 59 rfl dX7_weigh_58 rfl 4 rfl ?_
            refine mm_isub 60 rfl dX7_weigh_59 ?_
            refine mm_i2l 61 rfl dX7_weigh_60 ?_
            refine mm_aload_n 62 rfl dX7_weigh_61 rfl 1 rfl ?_
            refine mm_aload_n 63 rfl dX7_weigh_62 rfl 1 rfl ?_
            refine gt_X7_19 66 rfl dX7_weigh_63 h0.1 ?_
            refine mm_iload_n 67 rfl dX7_weigh_66 rfl 2 rfl ?_
            refine mm_aald 68 rfl dX7_weigh_67 h0.2.2.2.1 rfl (fun h_14 => ?_)
            refine ca_X7_113 71 rfl dX7_weigh_68 ((h0.2.2.2.2.1 _ (mm_in_lt h_14)).1) (ct_X2_sunToday (27 + 7 * c1.toNatClampNeg) (h0.2.2.2.2.1 _ (mm_in_lt h_14))) (by omega) (Nat.le_of_ble_eq_true rfl) (fun z_15 => ?_)
            refine mm_iload_n 72 rfl dX7_weigh_71 rfl 2 rfl ?_
            refine mm_iload_n 73 rfl dX7_weigh_72 rfl 3 rfl ?_
            refine mm_iload_n 74 rfl dX7_weigh_73 rfl 4 rfl ?_
            refine mm_iload 76 rfl dX7_weigh_74 5 rfl ?_
            refine ca_X7_294 79 rfl dX7_weigh_76 h0.1 (ct_X7_weighUnder z_15.1 c1 c2 c3 c4 h0 (fun a b c d _ h => ih a b c d h)) (by omega) (Nat.le_of_ble_eq_true rfl) (fun z_16 => ?_)
            refine mm_lmul 80 rfl dX7_weigh_79 ?_
            refine mm_ladd 81 rfl dX7_weigh_80 ?_
            refine mm_bL (fun x5_17 => ?_)
            refine mm_lstore 83 rfl dX7_weigh_81 (lv' := [(5, .long x5_17), (0, .ref (mm_ad G 0)), (1, .int c1), (2, .int c2), (3, .int c3), (4, .int c4)]) (Nat.le_of_ble_eq_true rfl) rfl ?_
            refine mm_lload 85 rfl dX7_weigh_83 0 rfl ?_
            exact mm_lret dX7_weigh_85 rfl rfl
      · refine mm_aload_n 12 rfl dX7_weigh_11 rfl 0 rfl ?_
        refine gt_X7_19 15 rfl dX7_weigh_12 h0.1 ?_
        refine mm_iload_n 16 rfl dX7_weigh_15 rfl 1 rfl ?_
        refine mm_aald 17 rfl dX7_weigh_16 h0.2.2.2.1 rfl (fun h_18 => ?_)
        refine mm_iload 19 rfl dX7_weigh_17 4 rfl ?_
        refine ca_X7_290 22 rfl dX7_weigh_19 (ct_X7_worth (27 + 7 * c1.toNatClampNeg) c4 (h0.2.2.2.2.1 _ (mm_in_lt h_18))) (by omega) (Nat.le_of_ble_eq_true rfl) (fun z_19 => ?_)
        exact mm_lret dX7_weigh_22 rfl rfl

noncomputable def fn_X7_rainFraction_L61 (c3 : Int32) (c4 : Int32) (c5 : Int64) (k : Int64 → mm_M → Option (Int64 × mm_M)) : Nat → Int64 → Int32 → mm_M → Option (Int64 × mm_M)
  | 0, _, _, _ => none
  | n + 1, x7, x9, M => (if c3 ≤ x9 then k x7 M else mm_let (x7 * 10) fun x7_11 => fn_X7_rainFraction_L61 c3 c4 c5 k n x7_11 (x9 + 1) M)
set_option maxRecDepth 20000 in
set_option maxHeartbeats 4000000 in
theorem th_X7_rainFraction_L61 {X : mm_X} {G : mm_G} {sh : mm_S} {c3 : Int32} {c4 : Int32} {c5 : Int64} {k : Int64 → mm_M → Option (Int64 × mm_M)} (hk : ∀ (x7 : Int64) (M : mm_M), mm_T X G (cX7_rainFraction, 10, RX7, (some .long), 201) (mm_fl sh) sh M 81 [(3, .int c3), (4, .int c4), (5, .long c5), (7, .long x7)] [] (k x7 M)) : ∀ (n : Nat) (x7 : Int64) (x9 : Int32) (M : mm_M), mm_T X G (cX7_rainFraction, 10, RX7, (some .long), 201) (mm_fl sh) sh M 61 [(3, .int c3), (4, .int c4), (5, .long c5), (7, .long x7), (9, .int x9)] [] (fn_X7_rainFraction_L61 c3 c4 c5 k n x7 x9 M) := by
  intro n
  induction n with
  | zero => intro x7 x9 M; exact mm_none
  | succ n ih =>
    intro x7 x9 M
    rw [fn_X7_rainFraction_L61]
    refine mm_iload 63 rfl dX7_rainFraction_61 4 rfl ?_
    refine mm_iload_n 64 rfl dX7_rainFraction_63 rfl 0 rfl ?_
    refine mm_icmp_ge 67 81 rfl dX7_rainFraction_64 (by decide) (fun h_10 => ?_) (fun h_10 => ?_)
    · exact mm_lv [0, 1, 2, 3] rfl (hk _ _)
    · refine mm_lload 69 rfl dX7_rainFraction_67 3 rfl ?_
      refine mm_ldc2 72 rfl (v := 10) dX7_rainFraction_69 mw_3_140 ?_
      refine mm_lmul 73 rfl dX7_rainFraction_72 ?_
      refine mm_bL (fun x7_11 => ?_)
      refine mm_lstore 75 rfl dX7_rainFraction_73 (lv' := [(7, .long x7_11), (3, .int c3), (4, .int c4), (5, .long c5), (9, .int x9)]) (Nat.le_of_ble_eq_true rfl) rfl ?_
      refine mm_iinc 78 rfl dX7_rainFraction_75 4 rfl (v := (x9 + 1)) rfl (lv' := [(9, .int (x9 + 1)), (7, .long x7_11), (3, .int c3), (4, .int c4), (5, .long c5)]) (Nat.le_of_ble_eq_true rfl) rfl ?_
      refine mm_goto 61 dX7_rainFraction_78 (by decide) ?_
      exact mm_lv [2, 3, 4, 1, 0] rfl (ih _ _ _)
noncomputable def fn_X7_rainFraction (c1 : Int32) (c2 : Int32) (c3 : Int32) (c4 : Int32) (M : mm_M) : Option (Int64 × mm_M) :=
  ((fn_X7_within c1 0 10 M).bind fun z_1 => (if z_1.1 = 0 then some ((-1), z_1.2) else ((fn_X7_within c3 0 8 z_1.2).bind fun z_3 => (if z_3.1 = 0 then some ((-1), z_3.2) else ((fn_X7_isHalf c4 z_3.2).bind fun z_5 => (if z_5.1 = 0 then some ((-1), z_5.2) else ((fn_X2_become 27 1 z_5.2).bind fun z_7 => ((fn_X7_weigh 10 0 c3 c1 c2 z_7).bind fun z_8 => mm_let z_8.1 fun x5_9 => fn_X7_rainFraction_L61 c3 c4 x5_9 (fun x7_12 M_13 => ((fn_X7_inLowestTerms x5_9 x7_12 c3 c4 M_13).bind fun z_15 => some (z_15.1, z_15.2))) mm_fu 1 0 z_8.2))))))))
set_option maxRecDepth 20000 in
set_option maxHeartbeats 4000000 in
theorem ct_X7_rainFraction {l : Launch} {G : mm_G} {sh : mm_S} {M : mm_M} (c1 : Int32) (c2 : Int32) (c3 : Int32) (c4 : Int32) (h0 : mm_isMli G sh) : mm_K l G yX7_rainFraction (cX7_rainFraction, 10, RX7, (some .long), 201) [.ref (mm_ad G 0), .int c1, .int c2, .int c3, .int c4] (mm_fl sh) sh M (fn_X7_rainFraction c1 c2 c3 c4 M) := by
  refine mm_met (by decide +kernel) rfl (Nat.le_of_ble_eq_true rfl) (fun X hX => ?_)
  subst hX
  show mm_T X G (cX7_rainFraction, 10, RX7, (some .long), 201) (mm_fl sh) sh M 0 [(0, .ref (mm_ad G 0)), (1, .int c1), (2, .int c2), (3, .int c3), (4, .int c4)] [] (fn_X7_rainFraction c1 c2 c3 c4 M)
  unfold fn_X7_rainFraction
  refine mm_iload_n 1 rfl dX7_rainFraction_0 rfl 1 rfl ?_
  refine mm_iconst 2 rfl (v := 0) dX7_rainFraction_1 (by decide) ?_
  refine mm_bipush 4 rfl (v := 10) dX7_rainFraction_2 (by decide) ?_
  refine ca_X7_71 7 rfl dX7_rainFraction_4 (ct_X7_within c1 0 10 ) (by decide) (Nat.le_of_ble_eq_true rfl) (fun z_1 => ?_)
  refine mm_if_eq 10 28 rfl dX7_rainFraction_7 (by decide) (fun h_2 => ?_) (fun h_2 => ?_)
  · refine mm_ldc2 31 rfl (v := (-1)) dX7_rainFraction_28 mw_3_124 ?_
    exact mm_lret dX7_rainFraction_31 rfl rfl
  · refine mm_iload_n 11 rfl dX7_rainFraction_10 rfl 3 rfl ?_
    refine mm_iconst 12 rfl (v := 0) dX7_rainFraction_11 (by decide) ?_
    refine mm_bipush 14 rfl (v := 8) dX7_rainFraction_12 (by decide) ?_
    refine ca_X7_71 17 rfl dX7_rainFraction_14 (ct_X7_within c3 0 8 ) (by decide) (Nat.le_of_ble_eq_true rfl) (fun z_3 => ?_)
    refine mm_if_eq 20 28 rfl dX7_rainFraction_17 (by decide) (fun h_4 => ?_) (fun h_4 => ?_)
    · refine mm_ldc2 31 rfl (v := (-1)) dX7_rainFraction_28 mw_3_124 ?_
      exact mm_lret dX7_rainFraction_31 rfl rfl
    · refine mm_iload 22 rfl dX7_rainFraction_20 4 rfl ?_
      refine ca_X7_186 25 rfl dX7_rainFraction_22 (ct_X7_isHalf c4 ) (by decide) (Nat.le_of_ble_eq_true rfl) (fun z_5 => ?_)
      refine mm_if_ne 28 32 rfl dX7_rainFraction_25 (by decide) (fun h_6 => ?_) (fun h_6 => ?_)
      · refine mm_aload_n 33 rfl dX7_rainFraction_32 rfl 0 rfl ?_
        refine gt_X7_19 36 rfl dX7_rainFraction_33 h0.1 ?_
        refine mm_iconst 37 rfl (v := 0) dX7_rainFraction_36 (by decide) ?_
        refine mm_aaldK 38 rfl dX7_rainFraction_37 h0.2.2.2.1 rfl (by decide) 27 (by decide) ?_
        refine mm_aload_n 39 rfl dX7_rainFraction_38 rfl 0 rfl ?_
        refine gt_X7_12 42 rfl dX7_rainFraction_39 h0.1 ?_
        refine ca_X7_87 45 rfl dX7_rainFraction_42 ((h0.2.2.2.2.1 0 (by decide)).1) (ct_X2_become 27 1 (h0.2.2.2.2.1 0 (by decide)) h0.2.1) (by decide) (Nat.le_of_ble_eq_true rfl) (fun z_7 => ?_)
        refine mm_aload_n 46 rfl dX7_rainFraction_45 rfl 0 rfl ?_
        refine mm_iconst 47 rfl (v := 0) dX7_rainFraction_46 (by decide) ?_
        refine mm_iload_n 48 rfl dX7_rainFraction_47 rfl 3 rfl ?_
        refine mm_iload_n 49 rfl dX7_rainFraction_48 rfl 1 rfl ?_
        refine mm_iload_n 50 rfl dX7_rainFraction_49 rfl 2 rfl ?_
        refine ca_X7_281 53 rfl dX7_rainFraction_50 h0.1 (ct_X7_weigh 10 0 c3 c1 c2 h0) (by decide) (Nat.le_of_ble_eq_true rfl) (fun z_8 => ?_)
        refine mm_bL (fun x5_9 => ?_)
        refine mm_lstore 55 rfl dX7_rainFraction_53 (lv' := [(5, .long x5_9), (0, .ref (mm_ad G 0)), (1, .int c1), (2, .int c2), (3, .int c3), (4, .int c4)]) (Nat.le_of_ble_eq_true rfl) rfl ?_
        refine mm_lconst 56 rfl (v := 1) dX7_rainFraction_55 (by decide) ?_
        refine mm_lstore 58 rfl dX7_rainFraction_56 (lv' := [(7, .long 1), (5, .long x5_9), (0, .ref (mm_ad G 0)), (1, .int c1), (2, .int c2), (3, .int c3), (4, .int c4)]) (Nat.le_of_ble_eq_true rfl) rfl ?_
        refine mm_iconst 59 rfl (v := 0) dX7_rainFraction_58 (by decide) ?_
        refine mm_istore 61 rfl dX7_rainFraction_59 (lv' := [(9, .int 0), (7, .long 1), (5, .long x5_9), (0, .ref (mm_ad G 0)), (1, .int c1), (2, .int c2), (3, .int c3), (4, .int c4)]) (Nat.le_of_ble_eq_true rfl) rfl ?_
        refine mm_lv [6, 7, 2, 1, 0] rfl (th_X7_rainFraction_L61  (fun x7_12 M_13 => ?_) mm_fu _ _ _)
        refine mm_lload 83 rfl dX7_rainFraction_81 2 rfl ?_
        refine mm_lload 85 rfl dX7_rainFraction_83 3 rfl ?_
        refine mm_iload_n 86 rfl dX7_rainFraction_85 rfl 0 rfl ?_
        refine mm_iload 88 rfl dX7_rainFraction_86 1 rfl ?_
        refine ca_X7_286 91 rfl dX7_rainFraction_88 (ct_X7_inLowestTerms x5_9 x7_12 c3 c4 ) (by decide) (Nat.le_of_ble_eq_true rfl) (fun z_15 => ?_)
        exact mm_lret dX7_rainFraction_91 rfl rfl
      · refine mm_ldc2 31 rfl (v := (-1)) dX7_rainFraction_28 mw_3_124 ?_
        exact mm_lret dX7_rainFraction_31 rfl rfl

noncomputable def fn_X7_luck (c1 : Int32) (c2 : Int32) (c3 : Int32) (c4 : Int32) (M : mm_M) : Option (Int64 × mm_M) :=
  ((fn_X7_isOne c2 M).bind fun z_1 => (if z_1.1 = 0 then some ((-1), z_1.2) else ((fn_X7_rainFraction c1 c2 c3 c4 z_1.2).bind fun z_3 => some (z_3.1, z_3.2))))
set_option maxRecDepth 20000 in
set_option maxHeartbeats 4000000 in
theorem ct_X7_luck {l : Launch} {G : mm_G} {sh : mm_S} {M : mm_M} (c1 : Int32) (c2 : Int32) (c3 : Int32) (c4 : Int32) (h0 : mm_isMli G sh) : mm_K l G yX7_luck (cX7_luck, 5, RX7, (some .long), 202) [.ref (mm_ad G 0), .int c1, .int c2, .int c3, .int c4] (mm_fl sh) sh M (fn_X7_luck c1 c2 c3 c4 M) := by
  refine mm_met (by decide +kernel) rfl (Nat.le_of_ble_eq_true rfl) (fun X hX => ?_)
  subst hX
  show mm_T X G (cX7_luck, 5, RX7, (some .long), 202) (mm_fl sh) sh M 0 [(0, .ref (mm_ad G 0)), (1, .int c1), (2, .int c2), (3, .int c3), (4, .int c4)] [] (fn_X7_luck c1 c2 c3 c4 M)
  unfold fn_X7_luck
  refine mm_aload_n 1 rfl dX7_luck_0 rfl 0 rfl ?_
  refine mm_iload_n 2 rfl dX7_luck_1 rfl 2 rfl ?_
  refine ca_X7_119 5 rfl dX7_luck_2 h0.1 (ct_X7_isOne c2 h0) (by decide) (Nat.le_of_ble_eq_true rfl) (fun z_1 => ?_)
  refine mm_if_ne 8 12 rfl dX7_luck_5 (by decide) (fun h_2 => ?_) (fun h_2 => ?_)
  · refine mm_aload_n 13 rfl dX7_luck_12 rfl 0 rfl ?_
    refine mm_iload_n 14 rfl dX7_luck_13 rfl 1 rfl ?_
    refine mm_iload_n 15 rfl dX7_luck_14 rfl 2 rfl ?_
    refine mm_iload_n 16 rfl dX7_luck_15 rfl 3 rfl ?_
    refine mm_iload 18 rfl dX7_luck_16 4 rfl ?_
    refine ca_X7_207 21 rfl dX7_luck_18 h0.1 (ct_X7_rainFraction c1 c2 c3 c4 h0) (by decide) (Nat.le_of_ble_eq_true rfl) (fun z_3 => ?_)
    exact mm_lret dX7_luck_21 rfl rfl
  · refine mm_ldc2 11 rfl (v := (-1)) dX7_luck_8 mw_3_124 ?_
    exact mm_lret dX7_luck_11 rfl rfl

noncomputable def fn_X7_mean (c1 : Int32) (c2 : Int32) (c3 : Int32) (M : mm_M) : Option (Int64 × mm_M) :=
  ((fn_X7_rainFraction c1 (-1) c2 c3 M).bind fun z_1 => some (z_1.1, z_1.2))
set_option maxRecDepth 20000 in
set_option maxHeartbeats 4000000 in
theorem ct_X7_mean {l : Launch} {G : mm_G} {sh : mm_S} {M : mm_M} (c1 : Int32) (c2 : Int32) (c3 : Int32) (h0 : mm_isMli G sh) : mm_K l G yX7_mean (cX7_mean, 4, RX7, (some .long), 202) [.ref (mm_ad G 0), .int c1, .int c2, .int c3] (mm_fl sh) sh M (fn_X7_mean c1 c2 c3 M) := by
  refine mm_met (by decide +kernel) rfl (Nat.le_of_ble_eq_true rfl) (fun X hX => ?_)
  subst hX
  show mm_T X G (cX7_mean, 4, RX7, (some .long), 202) (mm_fl sh) sh M 0 [(0, .ref (mm_ad G 0)), (1, .int c1), (2, .int c2), (3, .int c3)] [] (fn_X7_mean c1 c2 c3 M)
  unfold fn_X7_mean
  refine mm_aload_n 1 rfl dX7_mean_0 rfl 0 rfl ?_
  refine mm_iload_n 2 rfl dX7_mean_1 rfl 1 rfl ?_
  refine mm_iconst 3 rfl (v := (-1)) dX7_mean_2 (by decide) ?_
  refine mm_iload_n 4 rfl dX7_mean_3 rfl 2 rfl ?_
  refine mm_iload_n 5 rfl dX7_mean_4 rfl 3 rfl ?_
  refine ca_X7_207 8 rfl dX7_mean_5 h0.1 (ct_X7_rainFraction c1 (-1) c2 c3 h0) (by decide) (Nat.le_of_ble_eq_true rfl) (fun z_1 => ?_)
  exact mm_lret dX7_mean_8 rfl rfl
