-- MangleLine.feed(I)I
noncomputable def fn_X7_feed (c1 : Int32) (M : mm_M) : Option (Int32 × mm_M) :=
  ((fn_X7_within c1 0 127 M).bind fun z_1 => (if z_1.1 = 0 then some ((-1), z_1.2) else ((fn_X6_append c1 z_1.2).bind fun z_3 => (if z_3.1 = 0 then some ((-3), z_3.2) else some ((z_3.2 16 1), z_3.2)))))
set_option maxRecDepth 20000 in
set_option maxHeartbeats 4000000 in
theorem ct_X7_feed {l : Launch} {G : mm_G} {sh : mm_S} {M : mm_M} (c1 : Int32) (h0 : mm_isMli G sh) : mm_K l G yX7_feed (cX7_feed, 2, RX7, (some .int), 2) [.ref (mm_ad G 0), .int c1] (mm_fi sh) sh M (fn_X7_feed c1 M) := by
  refine mm_met (by decide +kernel) rfl (Nat.le_of_ble_eq_true rfl) (fun X hX => ?_)
  subst hX
  show mm_T X G (cX7_feed, 2, RX7, (some .int), 2) (mm_fi sh) sh M 0 [(0, .ref (mm_ad G 0)), (1, .int c1)] [] (fn_X7_feed c1 M)
  unfold fn_X7_feed
  refine mm_iload_n 1 rfl dX7_feed_0 rfl 1 rfl ?_
  refine mm_iconst 2 rfl (v := 0) dX7_feed_1 (by decide) ?_
  refine mm_bipush 4 rfl (v := 127) dX7_feed_2 (by decide) ?_
  refine ca_X7_71 7 rfl dX7_feed_4 (ct_X7_within c1 0 127 ) (by decide) (Nat.le_of_ble_eq_true rfl) (fun z_1 => ?_)
  refine mm_if_ne 10 12 rfl dX7_feed_7 (by decide) (fun h_2 => ?_) (fun h_2 => ?_)
  · refine mm_aload_n 13 rfl dX7_feed_12 rfl 0 rfl ?_
    refine gt_X7_26 16 rfl dX7_feed_13 h0.1 ?_
    refine mm_iload_n 17 rfl dX7_feed_16 rfl 1 rfl ?_
    refine ca_X7_75 20 rfl dX7_feed_17 h0.2.2.2.2.2.1.2.1 (ct_X6_append c1 h0.2.2.2.2.2.1.2) (by decide) (Nat.le_of_ble_eq_true rfl) (fun z_3 => ?_)
    refine mm_if_eq 23 33 rfl dX7_feed_20 (by decide) (fun h_4 => ?_) (fun h_4 => ?_)
    · refine mm_bipush 35 rfl (v := (-3)) dX7_feed_33 (by decide) ?_
      exact mm_iret dX7_feed_35 rfl rfl
    · refine mm_aload_n 24 rfl dX7_feed_23 rfl 0 rfl ?_
      refine gt_X7_26 27 rfl dX7_feed_24 h0.1 ?_
      refine gt_X7_79 30 rfl dX7_feed_27 h0.2.2.2.2.2.1.2.1 ?_
      refine mm_goto 35 dX7_feed_30 (by decide) ?_
      exact mm_iret dX7_feed_35 rfl rfl
  · refine mm_iconst 11 rfl (v := (-1)) dX7_feed_10 (by decide) ?_
    exact mm_iret dX7_feed_11 rfl rfl

-- MangleLine.end(I)I
noncomputable def fn_X7_end (c1 : Int32) (M : mm_M) : Option (Int32 × mm_M) :=
  mm_let (M 16 1) fun x2_1 => ((fn_X7_within c1 0 x2_1 M).bind fun z_2 => (if z_2.1 = 0 then some ((-1), z_2.2) else mm_let (mm_up z_2.2 16 1 c1) fun M_4 => some (x2_1, M_4)))
set_option maxRecDepth 20000 in
set_option maxHeartbeats 4000000 in
theorem ct_X7_end {l : Launch} {G : mm_G} {sh : mm_S} {M : mm_M} (c1 : Int32) (h0 : mm_isMli G sh) : mm_K l G yX7_end (cX7_end, 3, RX7, (some .int), 2) [.ref (mm_ad G 0), .int c1] (mm_fi sh) sh M (fn_X7_end c1 M) := by
  refine mm_met (by decide +kernel) rfl (Nat.le_of_ble_eq_true rfl) (fun X hX => ?_)
  subst hX
  show mm_T X G (cX7_end, 3, RX7, (some .int), 2) (mm_fi sh) sh M 0 [(0, .ref (mm_ad G 0)), (1, .int c1)] [] (fn_X7_end c1 M)
  unfold fn_X7_end
  refine mm_aload_n 1 rfl dX7_end_0 rfl 0 rfl ?_
  refine gt_X7_26 4 rfl dX7_end_1 h0.1 ?_
  refine gt_X7_79 7 rfl dX7_end_4 h0.2.2.2.2.2.1.2.1 ?_
  refine mm_bI (fun x2_1 => ?_)
  refine mm_istore_n 8 rfl dX7_end_7 rfl (lv' := [(2, .int x2_1), (0, .ref (mm_ad G 0)), (1, .int c1)]) (by decide) rfl ?_
  refine mm_iload_n 9 rfl dX7_end_8 rfl 2 rfl ?_
  refine mm_iconst 10 rfl (v := 0) dX7_end_9 (by decide) ?_
  refine mm_iload_n 11 rfl dX7_end_10 rfl 0 rfl ?_
  refine ca_X7_71 14 rfl dX7_end_11 (ct_X7_within c1 0 x2_1 ) (by decide) (Nat.le_of_ble_eq_true rfl) (fun z_2 => ?_)
  refine mm_if_ne 17 19 rfl dX7_end_14 (by decide) (fun h_3 => ?_) (fun h_3 => ?_)
  · refine mm_aload_n 20 rfl dX7_end_19 rfl 1 rfl ?_
    refine gt_X7_26 23 rfl dX7_end_20 h0.1 ?_
    refine mm_iload_n 24 rfl dX7_end_23 rfl 2 rfl ?_
    refine pt_X7_79 27 rfl dX7_end_24 h0.2.2.2.2.2.1.2.1 ?_
    refine mm_bM (fun M_4 => ?_)
    refine mm_iload_n 28 rfl dX7_end_27 rfl 0 rfl ?_
    exact mm_iret dX7_end_28 rfl rfl
  · refine mm_iconst 18 rfl (v := (-1)) dX7_end_17 (by decide) ?_
    exact mm_iret dX7_end_18 rfl rfl

-- MangleLine.text()I
noncomputable def fn_X7_text_L45 (c1 : Int32) (k : mm_M → Option (Int32 × mm_M)) : Nat → Int32 → mm_M → Option (Int32 × mm_M)
  | 0, _, _ => none
  | n + 1, x2, M => (if 2 ≤ x2 then k  M else (if mm_in x2 2 then mm_let (mm_up M (90 + 12 * x2.toNatClampNeg) 0 0) fun M_9 => fn_X7_text_L45 c1 k n (x2 + 1) M_9 else none))
set_option maxRecDepth 20000 in
set_option maxHeartbeats 4000000 in
theorem th_X7_text_L45 {X : mm_X} {G : mm_G} {sh : mm_S} {c1 : Int32} {k : mm_M → Option (Int32 × mm_M)} (h0 : mm_isMli G sh) (hk : ∀ (M : mm_M), mm_T X G (cX7_text, 3, RX7, (some .int), 9) (mm_fi sh) sh M 70 [(1, .int c1)] [] (k  M)) : ∀ (n : Nat) (x2 : Int32) (M : mm_M), mm_T X G (cX7_text, 3, RX7, (some .int), 9) (mm_fi sh) sh M 45 [(0, .ref (mm_ad G 0)), (1, .int c1), (2, .int x2)] [] (fn_X7_text_L45 c1 k n x2 M) := by
  intro n
  induction n with
  | zero => intro x2 M; exact mm_none
  | succ n ih =>
    intro x2 M
    rw [fn_X7_text_L45]
    refine mm_iload_n 46 rfl dX7_text_45 rfl 2 rfl ?_
    refine mm_aload_n 47 rfl dX7_text_46 rfl 0 rfl ?_
    refine gt_X7_59 50 rfl dX7_text_47 h0.1 ?_
    refine mm_alenR 51 rfl dX7_text_50 h0.2.2.2.2.2.2.2.2.2.1 rfl (v := 2) (by decide) ?_
    refine mm_icmp_ge 54 70 rfl dX7_text_51 (by decide) (fun h_7 => ?_) (fun h_7 => ?_)
    · exact mm_lv [1] rfl (hk _)
    · refine mm_aload_n 55 rfl dX7_text_54 rfl 0 rfl ?_
      refine gt_X7_59 58 rfl dX7_text_55 h0.1 ?_
      refine mm_iload_n 59 rfl dX7_text_58 rfl 2 rfl ?_
      refine mm_aald 60 rfl dX7_text_59 h0.2.2.2.2.2.2.2.2.2.1 rfl (fun h_8 => ?_)
      refine mm_iconst 61 rfl (v := 0) dX7_text_60 (by decide) ?_
      refine pt_X7_94 64 rfl dX7_text_61 ((h0.2.2.2.2.2.2.2.2.2.2.1 _ (mm_in_lt h_8)).1) rfl rfl ?_
      refine mm_bM (fun M_9 => ?_)
      refine mm_iinc 67 rfl dX7_text_64 2 rfl (v := (x2 + 1)) rfl (lv' := [(2, .int (x2 + 1)), (0, .ref (mm_ad G 0)), (1, .int c1)]) (by decide) rfl ?_
      refine mm_goto 45 dX7_text_67 (by decide) ?_
      exact mm_lv [1, 2, 0] rfl (ih _ _)
noncomputable def fn_X7_text  (M : mm_M) : Option (Int32 × mm_M) :=
  ((fn_X3_tell 8 M).bind fun z_1 => mm_let z_1.1 fun x1_2 => mm_let (mm_up z_1.2 16 1 0) fun M_3 => (if x1_2 < 0 then some (x1_2, M_3) else ((fn_X2_become 1 8 M_3).bind fun z_5 => mm_let (mm_up z_5 19 0 0) fun M_6 => fn_X7_text_L45 x1_2 (fun M_10 => some (x1_2, M_10)) mm_fu 0 M_6)))
set_option maxRecDepth 20000 in
set_option maxHeartbeats 4000000 in
theorem ct_X7_text {l : Launch} {G : mm_G} {sh : mm_S} {M : mm_M} (h0 : mm_isMli G sh) : mm_K l G yX7_text (cX7_text, 3, RX7, (some .int), 9) [.ref (mm_ad G 0)] (mm_fi sh) sh M (fn_X7_text  M) := by
  refine mm_met (by decide +kernel) rfl (Nat.le_of_ble_eq_true rfl) (fun X hX => ?_)
  subst hX
  show mm_T X G (cX7_text, 3, RX7, (some .int), 9) (mm_fi sh) sh M 0 [(0, .ref (mm_ad G 0))] [] (fn_X7_text  M)
  unfold fn_X7_text
  refine mm_aload_n 1 rfl dX7_text_0 rfl 0 rfl ?_
  refine gt_X7_35 4 rfl dX7_text_1 h0.1 ?_
  refine mm_aload_n 5 rfl dX7_text_4 rfl 0 rfl ?_
  refine gt_X7_16 8 rfl dX7_text_5 h0.1 ?_
  refine ca_X7_83 11 rfl dX7_text_8 h0.2.2.2.2.2.1.1 (ct_X3_tell 8 h0.2.2.2.2.2.1 h0.2.2.1) (by decide) (Nat.le_of_ble_eq_true rfl) (fun z_1 => ?_)
  refine mm_bI (fun x1_2 => ?_)
  refine mm_istore_n 12 rfl dX7_text_11 rfl (lv' := [(1, .int x1_2), (0, .ref (mm_ad G 0))]) (by decide) rfl ?_
  refine mm_aload_n 13 rfl dX7_text_12 rfl 1 rfl ?_
  refine gt_X7_26 16 rfl dX7_text_13 h0.1 ?_
  refine mm_iconst 17 rfl (v := 0) dX7_text_16 (by decide) ?_
  refine pt_X7_79 20 rfl dX7_text_17 h0.2.2.2.2.2.1.2.1 ?_
  refine mm_bM (fun M_3 => ?_)
  refine mm_iload_n 21 rfl dX7_text_20 rfl 0 rfl ?_
  refine mm_if_lt 24 70 rfl dX7_text_21 (by decide) (fun h_4 => ?_) (fun h_4 => ?_)
  · refine mm_iload_n 71 rfl dX7_text_70 rfl 0 rfl ?_
    exact mm_iret dX7_text_71 rfl rfl
  · refine mm_aload_n 25 rfl dX7_text_24 rfl 1 rfl ?_
    refine gt_X7_12 28 rfl dX7_text_25 h0.1 ?_
    refine mm_aload_n 29 rfl dX7_text_28 rfl 1 rfl ?_
    refine gt_X7_16 32 rfl dX7_text_29 h0.1 ?_
    refine ca_X7_87 35 rfl dX7_text_32 h0.2.1.1 (ct_X2_become 1 8 h0.2.1 h0.2.2.1) (by decide) (Nat.le_of_ble_eq_true rfl) (fun z_5 => ?_)
    refine mm_aload_n 36 rfl dX7_text_35 rfl 1 rfl ?_
    refine gt_X7_42 39 rfl dX7_text_36 h0.1 ?_
    refine mm_iconst 40 rfl (v := 0) dX7_text_39 (by decide) ?_
    refine pt_X7_91 43 rfl dX7_text_40 h0.2.2.2.2.2.2.1.1 ?_
    refine mm_bM (fun M_6 => ?_)
    refine mm_iconst 44 rfl (v := 0) dX7_text_43 (by decide) ?_
    refine mm_istore_n 45 rfl dX7_text_44 rfl (lv' := [(2, .int 0), (1, .int x1_2), (0, .ref (mm_ad G 0))]) (by decide) rfl ?_
    refine mm_lv [2, 1, 0] rfl (th_X7_text_L45 h0 (fun M_10 => ?_) mm_fu _ _)
    refine mm_iload_n 71 rfl dX7_text_70 rfl 0 rfl ?_
    exact mm_iret dX7_text_71 rfl rfl

-- MangleLine.fault()I
noncomputable def fn_X7_fault  (M : mm_M) : Option (Int32 × mm_M) :=
  some ((M 18 1), M)
set_option maxRecDepth 20000 in
set_option maxHeartbeats 4000000 in
theorem ct_X7_fault {l : Launch} {G : mm_G} {sh : mm_S} {M : mm_M} (h0 : mm_isMli G sh) : mm_K l G yX7_fault (cX7_fault, 1, RX7, (some .int), 1) [.ref (mm_ad G 0)] (mm_fi sh) sh M (fn_X7_fault  M) := by
  refine mm_met (by decide +kernel) rfl (Nat.le_of_ble_eq_true rfl) (fun X hX => ?_)
  subst hX
  show mm_T X G (cX7_fault, 1, RX7, (some .int), 1) (mm_fi sh) sh M 0 [(0, .ref (mm_ad G 0))] [] (fn_X7_fault  M)
  unfold fn_X7_fault
  refine mm_aload_n 1 rfl dX7_fault_0 rfl 0 rfl ?_
  refine gt_X7_35 4 rfl dX7_fault_1 h0.1 ?_
  refine gt_X7_98 7 rfl dX7_fault_4 h0.2.2.2.2.2.1.1 ?_
  exact mm_iret dX7_fault_7 rfl rfl

-- MangleLine.rule(I)I
noncomputable def fn_X7_rule (c1 : Int32) (M : mm_M) : Option (Int32 × mm_M) :=
  (if c1 = 0 then some ((M 1 0), M) else (if c1 = 1 then some ((M 1 1), M) else (if c1 = 2 then ((fn_X2_whoIsAt 1 0 M).bind fun z_4 => some (z_4.1, z_4.2)) else (if c1 = 3 then ((fn_X2_whoIsAt 1 1 M).bind fun z_6 => some (z_6.1, z_6.2)) else (if c1 = 4 then ((fn_X2_whoIsAt 1 2 M).bind fun z_8 => some (z_8.1, z_8.2)) else (if c1 = 5 then ((fn_X2_greyOfAll 1 M).bind fun z_10 => some (z_10.1, z_10.2)) else (if c1 = 6 then ((fn_X2_sunToday 1 M).bind fun z_12 => some (z_12.1, z_12.2)) else some ((-1), M))))))))
set_option maxRecDepth 20000 in
set_option maxHeartbeats 4000000 in
theorem ct_X7_rule {l : Launch} {G : mm_G} {sh : mm_S} {M : mm_M} (c1 : Int32) (h0 : mm_isMli G sh) : mm_K l G yX7_rule (cX7_rule, 2, RX7, (some .int), 3) [.ref (mm_ad G 0), .int c1] (mm_fi sh) sh M (fn_X7_rule c1 M) := by
  refine mm_met (by decide +kernel) rfl (Nat.le_of_ble_eq_true rfl) (fun X hX => ?_)
  subst hX
  show mm_T X G (cX7_rule, 2, RX7, (some .int), 3) (mm_fi sh) sh M 0 [(0, .ref (mm_ad G 0)), (1, .int c1)] [] (fn_X7_rule c1 M)
  unfold fn_X7_rule
  refine mm_iload_n 1 rfl dX7_rule_0 rfl 1 rfl ?_
  refine mm_ite (fun h_1 => ?_) (fun h_1 => ?_)
  · refine mm_tabIn 44 0 h_1 dX7_rule_1 (by decide) (by decide) rfl (by decide) ?_
    refine mm_aload_n 45 rfl dX7_rule_44 rfl 0 rfl ?_
    refine gt_X7_12 48 rfl dX7_rule_45 h0.1 ?_
    refine gt_X7_101 51 rfl dX7_rule_48 h0.2.1.1 ?_
    exact mm_iret dX7_rule_51 rfl rfl
  · refine mm_ite (fun h_2 => ?_) (fun h_2 => ?_)
    · refine mm_tabIn 52 1 h_2 dX7_rule_1 (by decide) (by decide) rfl (by decide) ?_
      refine mm_aload_n 53 rfl dX7_rule_52 rfl 0 rfl ?_
      refine gt_X7_12 56 rfl dX7_rule_53 h0.1 ?_
      refine gt_X7_102 59 rfl dX7_rule_56 h0.2.1.1 ?_
      exact mm_iret dX7_rule_59 rfl rfl
    · refine mm_ite (fun h_3 => ?_) (fun h_3 => ?_)
      · refine mm_tabIn 60 2 h_3 dX7_rule_1 (by decide) (by decide) rfl (by decide) ?_
        refine mm_aload_n 61 rfl dX7_rule_60 rfl 0 rfl ?_
        refine gt_X7_12 64 rfl dX7_rule_61 h0.1 ?_
        refine mm_iconst 65 rfl (v := 0) dX7_rule_64 (by decide) ?_
        refine ca_X7_105 68 rfl dX7_rule_65 h0.2.1.1 (ct_X2_whoIsAt 1 0 h0.2.1) (by decide) (Nat.le_of_ble_eq_true rfl) (fun z_4 => ?_)
        exact mm_iret dX7_rule_68 rfl rfl
      · refine mm_ite (fun h_5 => ?_) (fun h_5 => ?_)
        · refine mm_tabIn 69 3 h_5 dX7_rule_1 (by decide) (by decide) rfl (by decide) ?_
          refine mm_aload_n 70 rfl dX7_rule_69 rfl 0 rfl ?_
          refine gt_X7_12 73 rfl dX7_rule_70 h0.1 ?_
          refine mm_iconst 74 rfl (v := 1) dX7_rule_73 (by decide) ?_
          refine ca_X7_105 77 rfl dX7_rule_74 h0.2.1.1 (ct_X2_whoIsAt 1 1 h0.2.1) (by decide) (Nat.le_of_ble_eq_true rfl) (fun z_6 => ?_)
          exact mm_iret dX7_rule_77 rfl rfl
        · refine mm_ite (fun h_7 => ?_) (fun h_7 => ?_)
          · refine mm_tabIn 78 4 h_7 dX7_rule_1 (by decide) (by decide) rfl (by decide) ?_
            refine mm_aload_n 79 rfl dX7_rule_78 rfl 0 rfl ?_
            refine gt_X7_12 82 rfl dX7_rule_79 h0.1 ?_
            refine mm_iconst 83 rfl (v := 2) dX7_rule_82 (by decide) ?_
            refine ca_X7_105 86 rfl dX7_rule_83 h0.2.1.1 (ct_X2_whoIsAt 1 2 h0.2.1) (by decide) (Nat.le_of_ble_eq_true rfl) (fun z_8 => ?_)
            exact mm_iret dX7_rule_86 rfl rfl
          · refine mm_ite (fun h_9 => ?_) (fun h_9 => ?_)
            · refine mm_tabIn 87 5 h_9 dX7_rule_1 (by decide) (by decide) rfl (by decide) ?_
              refine mm_aload_n 88 rfl dX7_rule_87 rfl 0 rfl ?_
              refine gt_X7_12 91 rfl dX7_rule_88 h0.1 ?_
              refine ca_X7_109 94 rfl dX7_rule_91 h0.2.1.1 (ct_X2_greyOfAll 1 h0.2.1) (by decide) (Nat.le_of_ble_eq_true rfl) (fun z_10 => ?_)
              exact mm_iret dX7_rule_94 rfl rfl
            · refine mm_ite (fun h_11 => ?_) (fun h_11 => ?_)
              · refine mm_tabIn 95 6 h_11 dX7_rule_1 (by decide) (by decide) rfl (by decide) ?_
                refine mm_aload_n 96 rfl dX7_rule_95 rfl 0 rfl ?_
                refine gt_X7_12 99 rfl dX7_rule_96 h0.1 ?_
                refine ca_X7_113 102 rfl dX7_rule_99 h0.2.1.1 (ct_X2_sunToday 1 h0.2.1) (by decide) (Nat.le_of_ble_eq_true rfl) (fun z_12 => ?_)
                exact mm_iret dX7_rule_102 rfl rfl
              · refine mm_tabOut 103 dX7_rule_1 (mm_out 0 7 (by decide) (fun j hj => by match j, hj with | 0, _ => exact h_1 | 1, _ => exact h_2 | 2, _ => exact h_3 | 3, _ => exact h_5 | 4, _ => exact h_7 | 5, _ => exact h_9 | 6, _ => exact h_11) rfl rfl) (by decide) ?_
                refine mm_iconst 104 rfl (v := (-1)) dX7_rule_103 (by decide) ?_
                exact mm_iret dX7_rule_104 rfl rfl

-- MangleLine.told(I)I
noncomputable def fn_X7_told (c1 : Int32) (M : mm_M) : Option (Int32 × mm_M) :=
  ((fn_X7_within c1 0 4 M).bind fun z_1 => (if z_1.1 = 0 then some ((-1), z_1.2) else (if mm_in c1 5 then some ((z_1.2 6 c1.toNatClampNeg), z_1.2) else none)))
set_option maxRecDepth 20000 in
set_option maxHeartbeats 4000000 in
theorem ct_X7_told {l : Launch} {G : mm_G} {sh : mm_S} {M : mm_M} (c1 : Int32) (h0 : mm_isMli G sh) : mm_K l G yX7_told (cX7_told, 2, RX7, (some .int), 2) [.ref (mm_ad G 0), .int c1] (mm_fi sh) sh M (fn_X7_told c1 M) := by
  refine mm_met (by decide +kernel) rfl (Nat.le_of_ble_eq_true rfl) (fun X hX => ?_)
  subst hX
  show mm_T X G (cX7_told, 2, RX7, (some .int), 2) (mm_fi sh) sh M 0 [(0, .ref (mm_ad G 0)), (1, .int c1)] [] (fn_X7_told c1 M)
  unfold fn_X7_told
  refine mm_iload_n 1 rfl dX7_told_0 rfl 1 rfl ?_
  refine mm_iconst 2 rfl (v := 0) dX7_told_1 (by decide) ?_
  refine mm_iconst 3 rfl (v := 4) dX7_told_2 (by decide) ?_
  refine ca_X7_71 6 rfl dX7_told_3 (ct_X7_within c1 0 4 ) (by decide) (Nat.le_of_ble_eq_true rfl) (fun z_1 => ?_)
  refine mm_if_eq 9 21 rfl dX7_told_6 (by decide) (fun h_2 => ?_) (fun h_2 => ?_)
  · refine mm_iconst 22 rfl (v := (-1)) dX7_told_21 (by decide) ?_
    exact mm_iret dX7_told_22 rfl rfl
  · refine mm_aload_n 10 rfl dX7_told_9 rfl 0 rfl ?_
    refine gt_X7_12 13 rfl dX7_told_10 h0.1 ?_
    refine gt_X7_116 16 rfl dX7_told_13 h0.2.1.1 ?_
    refine mm_iload_n 17 rfl dX7_told_16 rfl 1 rfl ?_
    refine mm_iald 18 rfl dX7_told_17 h0.2.1.2.2.2.2.2.1 (fun h_3 => ?_)
    refine mm_goto 22 dX7_told_18 (by decide) ?_
    exact mm_iret dX7_told_22 rfl rfl

-- MangleLine.isOne(I)Z
noncomputable def fn_X7_isOne (c1 : Int32) (M : mm_M) : Option (Int32 × mm_M) :=
  ((fn_X7_within c1 0 ((M 1 0) - 1) M).bind fun z_1 => (if z_1.1 = 0 ∨ z_1.1 = 1 then some (z_1.1, z_1.2) else none))
set_option maxRecDepth 20000 in
set_option maxHeartbeats 4000000 in
theorem ct_X7_isOne {l : Launch} {G : mm_G} {sh : mm_S} {M : mm_M} (c1 : Int32) (h0 : mm_isMli G sh) : mm_K l G yX7_isOne (cX7_isOne, 2, RX7, (some .boolean), 2) [.ref (mm_ad G 0), .int c1] (mm_fi sh) sh M (fn_X7_isOne c1 M) := by
  refine mm_met (by decide +kernel) rfl (Nat.le_of_ble_eq_true rfl) (fun X hX => ?_)
  subst hX
  show mm_T X G (cX7_isOne, 2, RX7, (some .boolean), 2) (mm_fi sh) sh M 0 [(0, .ref (mm_ad G 0)), (1, .int c1)] [] (fn_X7_isOne c1 M)
  unfold fn_X7_isOne
  refine mm_iload_n 1 rfl dX7_isOne_0 rfl 1 rfl ?_
  refine mm_iconst 2 rfl (v := 0) dX7_isOne_1 (by decide) ?_
  refine mm_aload_n 3 rfl dX7_isOne_2 rfl 0 rfl ?_
  refine gt_X7_12 6 rfl dX7_isOne_3 h0.1 ?_
  refine gt_X7_101 9 rfl dX7_isOne_6 h0.2.1.1 ?_
  refine mm_iconst 10 rfl (v := 1) dX7_isOne_9 (by decide) ?_
  refine mm_isub 11 rfl dX7_isOne_10 ?_
  refine ca_X7_71 14 rfl dX7_isOne_11 (ct_X7_within c1 0 ((M 1 0) - 1) ) (by decide) (Nat.le_of_ble_eq_true rfl) (fun z_1 => ?_)
  exact mm_zret dX7_isOne_14 rfl rfl

-- MangleLine.one(II)I
noncomputable def fn_X7_one (c1 : Int32) (c2 : Int32) (M : mm_M) : Option (Int32 × mm_M) :=
  ((fn_X7_isOne c1 M).bind fun z_1 => (if z_1.1 = 0 then some ((-1), z_1.2) else (if c2 = 0 then (if mm_in c1 6 then some ((z_1.2 2 c1.toNatClampNeg), z_1.2) else none) else (if c2 = 1 then (if mm_in c1 6 then some ((z_1.2 3 c1.toNatClampNeg), z_1.2) else none) else (if c2 = 2 then (if mm_in c1 6 then some ((z_1.2 4 c1.toNatClampNeg), z_1.2) else none) else (if c2 = 3 then (if mm_in c1 6 then some ((z_1.2 5 c1.toNatClampNeg), z_1.2) else none) else (if c2 = 4 then ((fn_X2_scrubs 1 c1 z_1.2).bind fun z_12 => some (z_12.1, z_12.2)) else (if c2 = 5 then ((fn_X2_sunToday 1 z_1.2).bind fun z_14 => ((fn_X2_dries 1 c1 z_14.1 z_14.2).bind fun z_15 => some (z_15.1, z_15.2))) else some ((-1), z_1.2)))))))))
set_option maxRecDepth 20000 in
set_option maxHeartbeats 4000000 in
theorem ct_X7_one {l : Launch} {G : mm_G} {sh : mm_S} {M : mm_M} (c1 : Int32) (c2 : Int32) (h0 : mm_isMli G sh) : mm_K l G yX7_one (cX7_one, 3, RX7, (some .int), 3) [.ref (mm_ad G 0), .int c1, .int c2] (mm_fi sh) sh M (fn_X7_one c1 c2 M) := by
  refine mm_met (by decide +kernel) rfl (Nat.le_of_ble_eq_true rfl) (fun X hX => ?_)
  subst hX
  show mm_T X G (cX7_one, 3, RX7, (some .int), 3) (mm_fi sh) sh M 0 [(0, .ref (mm_ad G 0)), (1, .int c1), (2, .int c2)] [] (fn_X7_one c1 c2 M)
  unfold fn_X7_one
  refine mm_aload_n 1 rfl dX7_one_0 rfl 0 rfl ?_
  refine mm_iload_n 2 rfl dX7_one_1 rfl 1 rfl ?_
  refine ca_X7_119 5 rfl dX7_one_2 h0.1 (ct_X7_isOne c1 h0) (by decide) (Nat.le_of_ble_eq_true rfl) (fun z_1 => ?_)
  refine mm_if_ne 8 10 rfl dX7_one_5 (by decide) (fun h_2 => ?_) (fun h_2 => ?_)
  · refine mm_iload_n 11 rfl dX7_one_10 rfl 2 rfl ?_
    refine mm_ite (fun h_3 => ?_) (fun h_3 => ?_)
    · refine mm_tabIn 48 0 h_3 dX7_one_11 (by decide) (by decide) rfl (by decide) ?_
      refine mm_aload_n 49 rfl dX7_one_48 rfl 0 rfl ?_
      refine gt_X7_12 52 rfl dX7_one_49 h0.1 ?_
      refine gt_X7_122 55 rfl dX7_one_52 h0.2.1.1 ?_
      refine mm_iload_n 56 rfl dX7_one_55 rfl 1 rfl ?_
      refine mm_iald 57 rfl dX7_one_56 h0.2.1.2.1 (fun h_4 => ?_)
      exact mm_iret dX7_one_57 rfl rfl
    · refine mm_ite (fun h_5 => ?_) (fun h_5 => ?_)
      · refine mm_tabIn 58 1 h_5 dX7_one_11 (by decide) (by decide) rfl (by decide) ?_
        refine mm_aload_n 59 rfl dX7_one_58 rfl 0 rfl ?_
        refine gt_X7_12 62 rfl dX7_one_59 h0.1 ?_
        refine gt_X7_125 65 rfl dX7_one_62 h0.2.1.1 ?_
        refine mm_iload_n 66 rfl dX7_one_65 rfl 1 rfl ?_
        refine mm_iald 67 rfl dX7_one_66 h0.2.1.2.2.1 (fun h_6 => ?_)
        exact mm_iret dX7_one_67 rfl rfl
      · refine mm_ite (fun h_7 => ?_) (fun h_7 => ?_)
        · refine mm_tabIn 68 2 h_7 dX7_one_11 (by decide) (by decide) rfl (by decide) ?_
          refine mm_aload_n 69 rfl dX7_one_68 rfl 0 rfl ?_
          refine gt_X7_12 72 rfl dX7_one_69 h0.1 ?_
          refine gt_X7_128 75 rfl dX7_one_72 h0.2.1.1 ?_
          refine mm_iload_n 76 rfl dX7_one_75 rfl 1 rfl ?_
          refine mm_iald 77 rfl dX7_one_76 h0.2.1.2.2.2.1 (fun h_8 => ?_)
          exact mm_iret dX7_one_77 rfl rfl
        · refine mm_ite (fun h_9 => ?_) (fun h_9 => ?_)
          · refine mm_tabIn 78 3 h_9 dX7_one_11 (by decide) (by decide) rfl (by decide) ?_
            refine mm_aload_n 79 rfl dX7_one_78 rfl 0 rfl ?_
            refine gt_X7_12 82 rfl dX7_one_79 h0.1 ?_
            refine gt_X7_131 85 rfl dX7_one_82 h0.2.1.1 ?_
            refine mm_iload_n 86 rfl dX7_one_85 rfl 1 rfl ?_
            refine mm_iald 87 rfl dX7_one_86 h0.2.1.2.2.2.2.1 (fun h_10 => ?_)
            exact mm_iret dX7_one_87 rfl rfl
          · refine mm_ite (fun h_11 => ?_) (fun h_11 => ?_)
            · refine mm_tabIn 88 4 h_11 dX7_one_11 (by decide) (by decide) rfl (by decide) ?_
              refine mm_aload_n 89 rfl dX7_one_88 rfl 0 rfl ?_
              refine gt_X7_12 92 rfl dX7_one_89 h0.1 ?_
              refine mm_iload_n 93 rfl dX7_one_92 rfl 1 rfl ?_
              refine ca_X7_134 96 rfl dX7_one_93 h0.2.1.1 (ct_X2_scrubs 1 c1 h0.2.1) (by decide) (Nat.le_of_ble_eq_true rfl) (fun z_12 => ?_)
              exact mm_iret dX7_one_96 rfl rfl
            · refine mm_ite (fun h_13 => ?_) (fun h_13 => ?_)
              · refine mm_tabIn 97 5 h_13 dX7_one_11 (by decide) (by decide) rfl (by decide) ?_
                refine mm_aload_n 98 rfl dX7_one_97 rfl 0 rfl ?_
                refine gt_X7_12 101 rfl dX7_one_98 h0.1 ?_
                refine mm_iload_n 102 rfl dX7_one_101 rfl 1 rfl ?_
                refine mm_aload_n 103 rfl dX7_one_102 rfl 0 rfl ?_
                refine gt_X7_12 106 rfl dX7_one_103 h0.1 ?_
                refine ca_X7_113 109 rfl dX7_one_106 h0.2.1.1 (ct_X2_sunToday 1 h0.2.1) (by decide) (Nat.le_of_ble_eq_true rfl) (fun z_14 => ?_)
                refine ca_X7_137 112 rfl dX7_one_109 h0.2.1.1 (ct_X2_dries 1 c1 z_14.1 h0.2.1) (by decide) (Nat.le_of_ble_eq_true rfl) (fun z_15 => ?_)
                exact mm_iret dX7_one_112 rfl rfl
              · refine mm_tabOut 113 dX7_one_11 (mm_out 0 6 (by decide) (fun j hj => by match j, hj with | 0, _ => exact h_3 | 1, _ => exact h_5 | 2, _ => exact h_7 | 3, _ => exact h_9 | 4, _ => exact h_11 | 5, _ => exact h_13) rfl rfl) (by decide) ?_
                refine mm_iconst 114 rfl (v := (-1)) dX7_one_113 (by decide) ?_
                exact mm_iret dX7_one_114 rfl rfl
  · refine mm_iconst 9 rfl (v := (-1)) dX7_one_8 (by decide) ?_
    exact mm_iret dX7_one_9 rfl rfl

-- MangleLine.isWeekday(I)Z
noncomputable def fn_X7_isWeekday (c0 : Int32) (M : mm_M) : Option (Int32 × mm_M) :=
  ((fn_X7_within c0 0 6 M).bind fun z_1 => (if z_1.1 = 0 ∨ z_1.1 = 1 then some (z_1.1, z_1.2) else none))
set_option maxRecDepth 20000 in
set_option maxHeartbeats 4000000 in
theorem ct_X7_isWeekday {l : Launch} {G : mm_G} {sh : mm_S} {M : mm_M} (c0 : Int32) : mm_K l G yX7_isWeekday (cX7_isWeekday, 1, RX7, (some .boolean), 2) [.int c0] (mm_fi sh) sh M (fn_X7_isWeekday c0 M) := by
  refine mm_met (by decide +kernel) rfl (Nat.le_of_ble_eq_true rfl) (fun X hX => ?_)
  subst hX
  show mm_T X G (cX7_isWeekday, 1, RX7, (some .boolean), 2) (mm_fi sh) sh M 0 [(0, .int c0)] [] (fn_X7_isWeekday c0 M)
  unfold fn_X7_isWeekday
  refine mm_iload_n 1 rfl dX7_isWeekday_0 rfl 0 rfl ?_
  refine mm_iconst 2 rfl (v := 0) dX7_isWeekday_1 (by decide) ?_
  refine mm_bipush 4 rfl (v := 6) dX7_isWeekday_2 (by decide) ?_
  refine ca_X7_71 7 rfl dX7_isWeekday_4 (ct_X7_within c0 0 6 ) (by decide) (Nat.le_of_ble_eq_true rfl) (fun z_1 => ?_)
  exact mm_zret dX7_isWeekday_7 rfl rfl

-- MangleLine.sun(I)I
noncomputable def fn_X7_sun (c1 : Int32) (M : mm_M) : Option (Int32 × mm_M) :=
  ((fn_X7_isWeekday c1 M).bind fun z_1 => (if z_1.1 = 0 then some ((-1), z_1.2) else (if mm_in c1 7 then some ((z_1.2 7 c1.toNatClampNeg), z_1.2) else none)))
set_option maxRecDepth 20000 in
set_option maxHeartbeats 4000000 in
theorem ct_X7_sun {l : Launch} {G : mm_G} {sh : mm_S} {M : mm_M} (c1 : Int32) (h0 : mm_isMli G sh) : mm_K l G yX7_sun (cX7_sun, 2, RX7, (some .int), 3) [.ref (mm_ad G 0), .int c1] (mm_fi sh) sh M (fn_X7_sun c1 M) := by
  refine mm_met (by decide +kernel) rfl (Nat.le_of_ble_eq_true rfl) (fun X hX => ?_)
  subst hX
  show mm_T X G (cX7_sun, 2, RX7, (some .int), 3) (mm_fi sh) sh M 0 [(0, .ref (mm_ad G 0)), (1, .int c1)] [] (fn_X7_sun c1 M)
  unfold fn_X7_sun
  refine mm_iload_n 1 rfl dX7_sun_0 rfl 1 rfl ?_
  refine ca_X7_141 4 rfl dX7_sun_1 (ct_X7_isWeekday c1 ) (by decide) (Nat.le_of_ble_eq_true rfl) (fun z_1 => ?_)
  refine mm_if_eq 7 19 rfl dX7_sun_4 (by decide) (fun h_2 => ?_) (fun h_2 => ?_)
  · refine mm_iconst 20 rfl (v := (-1)) dX7_sun_19 (by decide) ?_
    exact mm_iret dX7_sun_20 rfl rfl
  · refine mm_aload_n 8 rfl dX7_sun_7 rfl 0 rfl ?_
    refine gt_X7_12 11 rfl dX7_sun_8 h0.1 ?_
    refine gt_X7_144 14 rfl dX7_sun_11 h0.2.1.1 ?_
    refine mm_iload_n 15 rfl dX7_sun_14 rfl 1 rfl ?_
    refine mm_iald 16 rfl dX7_sun_15 h0.2.1.2.2.2.2.2.2 (fun h_3 => ?_)
    refine mm_goto 20 dX7_sun_16 (by decide) ?_
    exact mm_iret dX7_sun_20 rfl rfl

-- MangleLine.replace([IIII)I
noncomputable def fn_X7_replace (r0 : Nat) (n0 : Nat) (c1 : Int32) (c2 : Int32) (c3 : Int32) (M : mm_M) : Option (Int32 × mm_M) :=
  ((fn_X7_within c1 0 ((Int32.ofNat n0) - 1) M).bind fun z_1 => (if z_1.1 = 0 then some ((-1), z_1.2) else ((fn_X7_within c2 0 c3 z_1.2).bind fun z_3 => (if z_3.1 = 0 then some ((-1), z_3.2) else (if mm_in c1 n0 then mm_let (z_3.2 r0 c1.toNatClampNeg) fun x4_6 => mm_let (mm_up z_3.2 r0 c1.toNatClampNeg c2) fun M_7 => some (x4_6, M_7) else none)))))
set_option maxRecDepth 20000 in
set_option maxHeartbeats 4000000 in
theorem ct_X7_replace {l : Launch} {G : mm_G} {sh : mm_S} {M : mm_M} (r0 : Nat) (n0 : Nat) (c1 : Int32) (c2 : Int32) (c3 : Int32) (h0 : sh[r0]? = some (mm_ia G n0)) : mm_K l G yX7_replace (cX7_replace, 5, RX7, (some .int), 2) [.ref (mm_ad G r0), .int c1, .int c2, .int c3] (mm_fi sh) sh M (fn_X7_replace r0 n0 c1 c2 c3 M) := by
  refine mm_met (by decide +kernel) rfl (Nat.le_of_ble_eq_true rfl) (fun X hX => ?_)
  subst hX
  show mm_T X G (cX7_replace, 5, RX7, (some .int), 2) (mm_fi sh) sh M 0 [(0, .ref (mm_ad G r0)), (1, .int c1), (2, .int c2), (3, .int c3)] [] (fn_X7_replace r0 n0 c1 c2 c3 M)
  unfold fn_X7_replace
  refine mm_iload_n 1 rfl dX7_replace_0 rfl 1 rfl ?_
  refine mm_iconst 2 rfl (v := 0) dX7_replace_1 (by decide) ?_
  refine mm_aload_n 3 rfl dX7_replace_2 rfl 0 rfl ?_
  refine mm_alen 4 rfl dX7_replace_3 h0 (v := (Int32.ofNat n0)) rfl ?_
  refine mm_iconst 5 rfl (v := 1) dX7_replace_4 (by decide) ?_
  refine mm_isub 6 rfl dX7_replace_5 ?_
  refine ca_X7_71 9 rfl dX7_replace_6 (ct_X7_within c1 0 ((Int32.ofNat n0) - 1) ) (by decide) (Nat.le_of_ble_eq_true rfl) (fun z_1 => ?_)
  refine mm_if_eq 12 21 rfl dX7_replace_9 (by decide) (fun h_2 => ?_) (fun h_2 => ?_)
  · refine mm_iconst 22 rfl (v := (-1)) dX7_replace_21 (by decide) ?_
    exact mm_iret dX7_replace_22 rfl rfl
  · refine mm_iload_n 13 rfl dX7_replace_12 rfl 2 rfl ?_
    refine mm_iconst 14 rfl (v := 0) dX7_replace_13 (by decide) ?_
    refine mm_iload_n 15 rfl dX7_replace_14 rfl 3 rfl ?_
    refine ca_X7_71 18 rfl dX7_replace_15 (ct_X7_within c2 0 c3 ) (by decide) (Nat.le_of_ble_eq_true rfl) (fun z_3 => ?_)
    refine mm_if_ne 21 23 rfl dX7_replace_18 (by decide) (fun h_4 => ?_) (fun h_4 => ?_)
    · refine mm_aload_n 24 rfl dX7_replace_23 rfl 0 rfl ?_
      refine mm_iload_n 25 rfl dX7_replace_24 rfl 1 rfl ?_
      refine mm_iald 26 rfl dX7_replace_25 h0 (fun h_5 => ?_)
      refine mm_bI (fun x4_6 => ?_)
      refine mm_istore 28 rfl dX7_replace_26 (lv' := [(4, .int x4_6), (0, .ref (mm_ad G r0)), (1, .int c1), (2, .int c2), (3, .int c3)]) (by decide) rfl ?_
      refine mm_aload_n 29 rfl dX7_replace_28 rfl 1 rfl ?_
      refine mm_iload_n 30 rfl dX7_replace_29 rfl 2 rfl ?_
      refine mm_iload_n 31 rfl dX7_replace_30 rfl 3 rfl ?_
      refine mm_iastK 32 rfl dX7_replace_31 h0 h_5 _ rfl ?_
      refine mm_bM (fun M_7 => ?_)
      refine mm_iload 34 rfl dX7_replace_32 0 rfl ?_
      exact mm_iret dX7_replace_34 rfl rfl
    · refine mm_iconst 22 rfl (v := (-1)) dX7_replace_21 (by decide) ?_
      exact mm_iret dX7_replace_22 rfl rfl

-- MangleLine.alter(III)I
noncomputable def fn_X7_alter (c1 : Int32) (c2 : Int32) (c3 : Int32) (M : mm_M) : Option (Int32 × mm_M) :=
  ((fn_X7_isOne c1 M).bind fun z_1 => (if z_1.1 = 0 then some ((-1), z_1.2) else (if c2 = 0 then ((fn_X7_replace 2 6 c1 c3 3 z_1.2).bind fun z_4 => some (z_4.1, z_4.2)) else (if c2 = 1 then ((fn_X7_replace 3 6 c1 c3 60 z_1.2).bind fun z_6 => some (z_6.1, z_6.2)) else (if c2 = 2 then ((fn_X7_replace 4 6 c1 c3 20 z_1.2).bind fun z_8 => some (z_8.1, z_8.2)) else some ((-1), z_1.2))))))
set_option maxRecDepth 20000 in
set_option maxHeartbeats 4000000 in
theorem ct_X7_alter {l : Launch} {G : mm_G} {sh : mm_S} {M : mm_M} (c1 : Int32) (c2 : Int32) (c3 : Int32) (h0 : mm_isMli G sh) : mm_K l G yX7_alter (cX7_alter, 4, RX7, (some .int), 3) [.ref (mm_ad G 0), .int c1, .int c2, .int c3] (mm_fi sh) sh M (fn_X7_alter c1 c2 c3 M) := by
  refine mm_met (by decide +kernel) rfl (Nat.le_of_ble_eq_true rfl) (fun X hX => ?_)
  subst hX
  show mm_T X G (cX7_alter, 4, RX7, (some .int), 3) (mm_fi sh) sh M 0 [(0, .ref (mm_ad G 0)), (1, .int c1), (2, .int c2), (3, .int c3)] [] (fn_X7_alter c1 c2 c3 M)
  unfold fn_X7_alter
  refine mm_aload_n 1 rfl dX7_alter_0 rfl 0 rfl ?_
  refine mm_iload_n 2 rfl dX7_alter_1 rfl 1 rfl ?_
  refine ca_X7_119 5 rfl dX7_alter_2 h0.1 (ct_X7_isOne c1 h0) (by decide) (Nat.le_of_ble_eq_true rfl) (fun z_1 => ?_)
  refine mm_if_ne 8 10 rfl dX7_alter_5 (by decide) (fun h_2 => ?_) (fun h_2 => ?_)
  · refine mm_iload_n 11 rfl dX7_alter_10 rfl 2 rfl ?_
    refine mm_ite (fun h_3 => ?_) (fun h_3 => ?_)
    · refine mm_tabIn 36 0 h_3 dX7_alter_11 (by decide) (by decide) rfl (by decide) ?_
      refine mm_aload_n 37 rfl dX7_alter_36 rfl 0 rfl ?_
      refine gt_X7_12 40 rfl dX7_alter_37 h0.1 ?_
      refine gt_X7_122 43 rfl dX7_alter_40 h0.2.1.1 ?_
      refine mm_iload_n 44 rfl dX7_alter_43 rfl 1 rfl ?_
      refine mm_iload_n 45 rfl dX7_alter_44 rfl 3 rfl ?_
      refine mm_iconst 46 rfl (v := 3) dX7_alter_45 (by decide) ?_
      refine ca_X7_147 49 rfl dX7_alter_46 (ct_X7_replace 2 6 c1 c3 3 h0.2.1.2.1) (by decide) (Nat.le_of_ble_eq_true rfl) (fun z_4 => ?_)
      exact mm_iret dX7_alter_49 rfl rfl
    · refine mm_ite (fun h_5 => ?_) (fun h_5 => ?_)
      · refine mm_tabIn 50 1 h_5 dX7_alter_11 (by decide) (by decide) rfl (by decide) ?_
        refine mm_aload_n 51 rfl dX7_alter_50 rfl 0 rfl ?_
        refine gt_X7_12 54 rfl dX7_alter_51 h0.1 ?_
        refine gt_X7_125 57 rfl dX7_alter_54 h0.2.1.1 ?_
        refine mm_iload_n 58 rfl dX7_alter_57 rfl 1 rfl ?_
        refine mm_iload_n 59 rfl dX7_alter_58 rfl 3 rfl ?_
        refine mm_bipush 61 rfl (v := 60) dX7_alter_59 (by decide) ?_
        refine ca_X7_147 64 rfl dX7_alter_61 (ct_X7_replace 3 6 c1 c3 60 h0.2.1.2.2.1) (by decide) (Nat.le_of_ble_eq_true rfl) (fun z_6 => ?_)
        exact mm_iret dX7_alter_64 rfl rfl
      · refine mm_ite (fun h_7 => ?_) (fun h_7 => ?_)
        · refine mm_tabIn 65 2 h_7 dX7_alter_11 (by decide) (by decide) rfl (by decide) ?_
          refine mm_aload_n 66 rfl dX7_alter_65 rfl 0 rfl ?_
          refine gt_X7_12 69 rfl dX7_alter_66 h0.1 ?_
          refine gt_X7_128 72 rfl dX7_alter_69 h0.2.1.1 ?_
          refine mm_iload_n 73 rfl dX7_alter_72 rfl 1 rfl ?_
          refine mm_iload_n 74 rfl dX7_alter_73 rfl 3 rfl ?_
          refine mm_bipush 76 rfl (v := 20) dX7_alter_74 (by decide) ?_
          refine ca_X7_147 79 rfl dX7_alter_76 (ct_X7_replace 4 6 c1 c3 20 h0.2.1.2.2.2.1) (by decide) (Nat.le_of_ble_eq_true rfl) (fun z_8 => ?_)
          exact mm_iret dX7_alter_79 rfl rfl
        · refine mm_tabOut 80 dX7_alter_11 (mm_out 0 3 (by decide) (fun j hj => by match j, hj with | 0, _ => exact h_3 | 1, _ => exact h_5 | 2, _ => exact h_7) rfl rfl) (by decide) ?_
          refine mm_iconst 81 rfl (v := (-1)) dX7_alter_80 (by decide) ?_
          exact mm_iret dX7_alter_81 rfl rfl
  · refine mm_iconst 9 rfl (v := (-1)) dX7_alter_8 (by decide) ?_
    exact mm_iret dX7_alter_9 rfl rfl

-- MangleLine.set(II)I
noncomputable def fn_X7_set (c1 : Int32) (c2 : Int32) (M : mm_M) : Option (Int32 × mm_M) :=
  ((fn_X7_within c1 0 4 M).bind fun z_1 => (if z_1.1 = 0 then some ((-1), z_1.2) else (if mm_in c1 5 then (if (mm_sav 0 c1.toNatClampNeg) ≤ c2 then ((fn_X7_replace 6 5 c1 c2 (mm_sav 1 c1.toNatClampNeg) z_1.2).bind fun z_5 => some (z_5.1, z_5.2)) else some ((-1), z_1.2)) else none)))
set_option maxRecDepth 20000 in
set_option maxHeartbeats 4000000 in
theorem ct_X7_set {l : Launch} {G : mm_G} {sh : mm_S} {M : mm_M} (c1 : Int32) (c2 : Int32) (h0 : mm_isMli G sh) : mm_K l G yX7_set (cX7_set, 3, RX7, (some .int), 3) [.ref (mm_ad G 0), .int c1, .int c2] (mm_fi sh) sh M (fn_X7_set c1 c2 M) := by
  refine mm_met (by decide +kernel) rfl (Nat.le_of_ble_eq_true rfl) (fun X hX => ?_)
  subst hX
  show mm_T X G (cX7_set, 3, RX7, (some .int), 3) (mm_fi sh) sh M 0 [(0, .ref (mm_ad G 0)), (1, .int c1), (2, .int c2)] [] (fn_X7_set c1 c2 M)
  unfold fn_X7_set
  refine mm_iload_n 1 rfl dX7_set_0 rfl 1 rfl ?_
  refine mm_iconst 2 rfl (v := 0) dX7_set_1 (by decide) ?_
  refine mm_iconst 3 rfl (v := 4) dX7_set_2 (by decide) ?_
  refine ca_X7_71 6 rfl dX7_set_3 (ct_X7_within c1 0 4 ) (by decide) (Nat.le_of_ble_eq_true rfl) (fun z_1 => ?_)
  refine mm_if_eq 9 18 rfl dX7_set_6 (by decide) (fun h_2 => ?_) (fun h_2 => ?_)
  · refine mm_iconst 19 rfl (v := (-1)) dX7_set_18 (by decide) ?_
    exact mm_iret dX7_set_19 rfl rfl
  · refine mm_iload_n 10 rfl dX7_set_9 rfl 2 rfl ?_
    refine mm_gets 13 rfl dX7_set_10 0 (by decide) mw_2_221 ?_
    refine mm_iload_n 14 rfl dX7_set_13 rfl 1 rfl ?_
    refine mm_sald 15 rfl dX7_set_14 (by decide) (fun h_3 => ?_)
    refine mm_icmp_ge 18 20 rfl dX7_set_15 (by decide) (fun h_4 => ?_) (fun h_4 => ?_)
    · refine mm_aload_n 21 rfl dX7_set_20 rfl 0 rfl ?_
      refine gt_X7_12 24 rfl dX7_set_21 h0.1 ?_
      refine gt_X7_116 27 rfl dX7_set_24 h0.2.1.1 ?_
      refine mm_iload_n 28 rfl dX7_set_27 rfl 1 rfl ?_
      refine mm_iload_n 29 rfl dX7_set_28 rfl 2 rfl ?_
      refine mm_gets 32 rfl dX7_set_29 1 (by decide) mw_2_222 ?_
      refine mm_iload_n 33 rfl dX7_set_32 rfl 1 rfl ?_
      refine mm_saldK 34 rfl dX7_set_33 (by decide) h_3 _ rfl ?_
      refine ca_X7_147 37 rfl dX7_set_34 (ct_X7_replace 6 5 c1 c2 (mm_sav 1 c1.toNatClampNeg) h0.2.1.2.2.2.2.2.1) (by decide) (Nat.le_of_ble_eq_true rfl) (fun z_5 => ?_)
      exact mm_iret dX7_set_37 rfl rfl
    · refine mm_iconst 19 rfl (v := (-1)) dX7_set_18 (by decide) ?_
      exact mm_iret dX7_set_19 rfl rfl

-- MangleLine.shine(II)I
noncomputable def fn_X7_shine (c1 : Int32) (c2 : Int32) (M : mm_M) : Option (Int32 × mm_M) :=
  ((fn_X7_isWeekday c1 M).bind fun z_1 => (if z_1.1 = 0 then some ((-1), z_1.2) else ((fn_X7_replace 7 7 c1 c2 9 z_1.2).bind fun z_3 => some (z_3.1, z_3.2))))
set_option maxRecDepth 20000 in
set_option maxHeartbeats 4000000 in
theorem ct_X7_shine {l : Launch} {G : mm_G} {sh : mm_S} {M : mm_M} (c1 : Int32) (c2 : Int32) (h0 : mm_isMli G sh) : mm_K l G yX7_shine (cX7_shine, 3, RX7, (some .int), 3) [.ref (mm_ad G 0), .int c1, .int c2] (mm_fi sh) sh M (fn_X7_shine c1 c2 M) := by
  refine mm_met (by decide +kernel) rfl (Nat.le_of_ble_eq_true rfl) (fun X hX => ?_)
  subst hX
  show mm_T X G (cX7_shine, 3, RX7, (some .int), 3) (mm_fi sh) sh M 0 [(0, .ref (mm_ad G 0)), (1, .int c1), (2, .int c2)] [] (fn_X7_shine c1 c2 M)
  unfold fn_X7_shine
  refine mm_iload_n 1 rfl dX7_shine_0 rfl 1 rfl ?_
  refine ca_X7_141 4 rfl dX7_shine_1 (ct_X7_isWeekday c1 ) (by decide) (Nat.le_of_ble_eq_true rfl) (fun z_1 => ?_)
  refine mm_if_eq 7 24 rfl dX7_shine_4 (by decide) (fun h_2 => ?_) (fun h_2 => ?_)
  · refine mm_iconst 25 rfl (v := (-1)) dX7_shine_24 (by decide) ?_
    exact mm_iret dX7_shine_25 rfl rfl
  · refine mm_aload_n 8 rfl dX7_shine_7 rfl 0 rfl ?_
    refine gt_X7_12 11 rfl dX7_shine_8 h0.1 ?_
    refine gt_X7_144 14 rfl dX7_shine_11 h0.2.1.1 ?_
    refine mm_iload_n 15 rfl dX7_shine_14 rfl 1 rfl ?_
    refine mm_iload_n 16 rfl dX7_shine_15 rfl 2 rfl ?_
    refine mm_bipush 18 rfl (v := 9) dX7_shine_16 (by decide) ?_
    refine ca_X7_147 21 rfl dX7_shine_18 (ct_X7_replace 7 7 c1 c2 9 h0.2.1.2.2.2.2.2.2) (by decide) (Nat.le_of_ble_eq_true rfl) (fun z_3 => ?_)
    refine mm_goto 25 dX7_shine_21 (by decide) ?_
    exact mm_iret dX7_shine_25 rfl rfl

-- MangleLine.bring(II)I
noncomputable def fn_X7_bring (c1 : Int32) (c2 : Int32) (M : mm_M) : Option (Int32 × mm_M) :=
  ((fn_X2_admit 1 c1 c2 M).bind fun z_1 => some (z_1.1, z_1.2))
set_option maxRecDepth 20000 in
set_option maxHeartbeats 4000000 in
theorem ct_X7_bring {l : Launch} {G : mm_G} {sh : mm_S} {M : mm_M} (c1 : Int32) (c2 : Int32) (h0 : mm_isMli G sh) : mm_K l G yX7_bring (cX7_bring, 3, RX7, (some .int), 3) [.ref (mm_ad G 0), .int c1, .int c2] (mm_fi sh) sh M (fn_X7_bring c1 c2 M) := by
  refine mm_met (by decide +kernel) rfl (Nat.le_of_ble_eq_true rfl) (fun X hX => ?_)
  subst hX
  show mm_T X G (cX7_bring, 3, RX7, (some .int), 3) (mm_fi sh) sh M 0 [(0, .ref (mm_ad G 0)), (1, .int c1), (2, .int c2)] [] (fn_X7_bring c1 c2 M)
  unfold fn_X7_bring
  refine mm_aload_n 1 rfl dX7_bring_0 rfl 0 rfl ?_
  refine gt_X7_12 4 rfl dX7_bring_1 h0.1 ?_
  refine mm_iload_n 5 rfl dX7_bring_4 rfl 1 rfl ?_
  refine mm_iload_n 6 rfl dX7_bring_5 rfl 2 rfl ?_
  refine ca_X7_157 9 rfl dX7_bring_6 h0.2.1.1 (ct_X2_admit 1 c1 c2 h0.2.1) (by decide) (Nat.le_of_ble_eq_true rfl) (fun z_1 => ?_)
  exact mm_iret dX7_bring_9 rfl rfl

-- MangleLine.fetch(I)I
noncomputable def fn_X7_fetch (c1 : Int32) (M : mm_M) : Option (Int32 × mm_M) :=
  ((fn_X7_isOne c1 M).bind fun z_1 => (if z_1.1 = 0 then some ((-1), z_1.2) else (if mm_in c1 6 then mm_let (z_1.2 5 c1.toNatClampNeg) fun x2_4 => (if x2_4 = 0 then some ((-2), z_1.2) else mm_let (mm_up z_1.2 5 c1.toNatClampNeg 0) fun M_6 => some (x2_4, M_6)) else none)))
set_option maxRecDepth 20000 in
set_option maxHeartbeats 4000000 in
theorem ct_X7_fetch {l : Launch} {G : mm_G} {sh : mm_S} {M : mm_M} (c1 : Int32) (h0 : mm_isMli G sh) : mm_K l G yX7_fetch (cX7_fetch, 3, RX7, (some .int), 3) [.ref (mm_ad G 0), .int c1] (mm_fi sh) sh M (fn_X7_fetch c1 M) := by
  refine mm_met (by decide +kernel) rfl (Nat.le_of_ble_eq_true rfl) (fun X hX => ?_)
  subst hX
  show mm_T X G (cX7_fetch, 3, RX7, (some .int), 3) (mm_fi sh) sh M 0 [(0, .ref (mm_ad G 0)), (1, .int c1)] [] (fn_X7_fetch c1 M)
  unfold fn_X7_fetch
  refine mm_aload_n 1 rfl dX7_fetch_0 rfl 0 rfl ?_
  refine mm_iload_n 2 rfl dX7_fetch_1 rfl 1 rfl ?_
  refine ca_X7_119 5 rfl dX7_fetch_2 h0.1 (ct_X7_isOne c1 h0) (by decide) (Nat.le_of_ble_eq_true rfl) (fun z_1 => ?_)
  refine mm_if_ne 8 10 rfl dX7_fetch_5 (by decide) (fun h_2 => ?_) (fun h_2 => ?_)
  · refine mm_aload_n 11 rfl dX7_fetch_10 rfl 0 rfl ?_
    refine gt_X7_12 14 rfl dX7_fetch_11 h0.1 ?_
    refine gt_X7_131 17 rfl dX7_fetch_14 h0.2.1.1 ?_
    refine mm_iload_n 18 rfl dX7_fetch_17 rfl 1 rfl ?_
    refine mm_iald 19 rfl dX7_fetch_18 h0.2.1.2.2.2.2.1 (fun h_3 => ?_)
    refine mm_bI (fun x2_4 => ?_)
    refine mm_istore_n 20 rfl dX7_fetch_19 rfl (lv' := [(2, .int x2_4), (0, .ref (mm_ad G 0)), (1, .int c1)]) (by decide) rfl ?_
    refine mm_iload_n 21 rfl dX7_fetch_20 rfl 0 rfl ?_
    refine mm_if_ne 24 27 rfl dX7_fetch_21 (by decide) (fun h_5 => ?_) (fun h_5 => ?_)
    · refine mm_aload_n 28 rfl dX7_fetch_27 rfl 1 rfl ?_
      refine gt_X7_12 31 rfl dX7_fetch_28 h0.1 ?_
      refine gt_X7_131 34 rfl dX7_fetch_31 h0.2.1.1 ?_
      refine mm_iload_n 35 rfl dX7_fetch_34 rfl 2 rfl ?_
      refine mm_iconst 36 rfl (v := 0) dX7_fetch_35 (by decide) ?_
      refine mm_iastK 37 rfl dX7_fetch_36 h0.2.1.2.2.2.2.1 h_3 _ rfl ?_
      refine mm_bM (fun M_6 => ?_)
      refine mm_iload_n 38 rfl dX7_fetch_37 rfl 0 rfl ?_
      exact mm_iret dX7_fetch_38 rfl rfl
    · refine mm_bipush 26 rfl (v := (-2)) dX7_fetch_24 (by decide) ?_
      exact mm_iret dX7_fetch_26 rfl rfl
  · refine mm_iconst 9 rfl (v := (-1)) dX7_fetch_8 (by decide) ?_
    exact mm_iret dX7_fetch_9 rfl rfl

-- MangleLine.days(I)I
noncomputable def fn_X7_days (c1 : Int32) (M : mm_M) : Option (Int32 × mm_M) :=
  ((fn_X7_within c1 0 30 M).bind fun z_1 => (if z_1.1 = 0 then some ((-1), z_1.2) else (if ((z_1.2 1 1) + c1) ≤ 999 then ((fn_X2_passDays 1 c1 z_1.2).bind fun z_4 => some (z_4.1, z_4.2)) else some ((-3), z_1.2))))
set_option maxRecDepth 20000 in
set_option maxHeartbeats 4000000 in
theorem ct_X7_days {l : Launch} {G : mm_G} {sh : mm_S} {M : mm_M} (c1 : Int32) (h0 : mm_isMli G sh) : mm_K l G yX7_days (cX7_days, 2, RX7, (some .int), 5) [.ref (mm_ad G 0), .int c1] (mm_fi sh) sh M (fn_X7_days c1 M) := by
  refine mm_met (by decide +kernel) rfl (Nat.le_of_ble_eq_true rfl) (fun X hX => ?_)
  subst hX
  show mm_T X G (cX7_days, 2, RX7, (some .int), 5) (mm_fi sh) sh M 0 [(0, .ref (mm_ad G 0)), (1, .int c1)] [] (fn_X7_days c1 M)
  unfold fn_X7_days
  refine mm_iload_n 1 rfl dX7_days_0 rfl 1 rfl ?_
  refine mm_iconst 2 rfl (v := 0) dX7_days_1 (by decide) ?_
  refine mm_bipush 4 rfl (v := 30) dX7_days_2 (by decide) ?_
  refine ca_X7_71 7 rfl dX7_days_4 (ct_X7_within c1 0 30 ) (by decide) (Nat.le_of_ble_eq_true rfl) (fun z_1 => ?_)
  refine mm_if_ne 10 12 rfl dX7_days_7 (by decide) (fun h_2 => ?_) (fun h_2 => ?_)
  · refine mm_aload_n 13 rfl dX7_days_12 rfl 0 rfl ?_
    refine gt_X7_12 16 rfl dX7_days_13 h0.1 ?_
    refine gt_X7_102 19 rfl dX7_days_16 h0.2.1.1 ?_
    refine mm_iload_n 20 rfl dX7_days_19 rfl 1 rfl ?_
    refine mm_iadd 21 rfl dX7_days_20 ?_
    refine mm_sipush 24 rfl (v := 999) dX7_days_21 (by decide) ?_
    refine mm_icmp_le 27 30 rfl dX7_days_24 (by decide) (fun h_3 => ?_) (fun h_3 => ?_)
    · refine mm_aload_n 31 rfl dX7_days_30 rfl 0 rfl ?_
      refine gt_X7_12 34 rfl dX7_days_31 h0.1 ?_
      refine mm_iload_n 35 rfl dX7_days_34 rfl 1 rfl ?_
      refine ca_X7_160 38 rfl dX7_days_35 h0.2.1.1 (ct_X2_passDays 1 c1 h0.2.1) (by decide) (Nat.le_of_ble_eq_true rfl) (fun z_4 => ?_)
      exact mm_iret dX7_days_38 rfl rfl
    · refine mm_bipush 29 rfl (v := (-3)) dX7_days_27 (by decide) ?_
      exact mm_iret dX7_days_29 rfl rfl
  · refine mm_iconst 11 rfl (v := (-1)) dX7_days_10 (by decide) ?_
    exact mm_iret dX7_days_11 rfl rfl

-- MangleLine.runs(II)I
noncomputable def fn_X7_runs_L31 (c1 : Int32) (c2 : Int32) (k : Int32 → Int32 → mm_M → Option (Int32 × mm_M)) : Nat → Int32 → Int32 → Int32 → mm_M → Option (Int32 × mm_M)
  | 0, _, _, _, _ => none
  | n + 1, x3, x4, x5, M => (if c1 ≤ x5 then k x3 x4 M else ((fn_X2_sunToday 8 M).bind fun z_5 => ((fn_X2_passDay 8 z_5.1 z_5.2).bind fun z_6 => mm_let (x3 + (z_6.2 8 2)) fun x3_7 => (if (z_6.2 8 2) = 0 then mm_let (x4 + 1) fun x4_10 => fn_X7_runs_L31 c1 c2 k n x3_7 x4_10 (x5 + 1) z_6.2 else mm_let (x4 + 0) fun x4_9 => fn_X7_runs_L31 c1 c2 k n x3_7 x4_9 (x5 + 1) z_6.2))))
set_option maxRecDepth 20000 in
set_option maxHeartbeats 4000000 in
theorem th_X7_runs_L31 {X : mm_X} {G : mm_G} {sh : mm_S} {c1 : Int32} {c2 : Int32} {k : Int32 → Int32 → mm_M → Option (Int32 × mm_M)} (h0 : mm_isMli G sh) (hk : ∀ (x3 : Int32) (x4 : Int32) (M : mm_M), mm_T X G (cX7_runs, 6, RX7, (some .int), 4) (mm_fi sh) sh M 88 [(0, .ref (mm_ad G 0)), (2, .int c2), (3, .int x3), (4, .int x4)] [] (k x3 x4 M)) : ∀ (n : Nat) (x3 : Int32) (x4 : Int32) (x5 : Int32) (M : mm_M), mm_T X G (cX7_runs, 6, RX7, (some .int), 4) (mm_fi sh) sh M 31 [(0, .ref (mm_ad G 0)), (1, .int c1), (2, .int c2), (3, .int x3), (4, .int x4), (5, .int x5)] [] (fn_X7_runs_L31 c1 c2 k n x3 x4 x5 M) := by
  intro n
  induction n with
  | zero => intro x3 x4 x5 M; exact mm_none
  | succ n ih =>
    intro x3 x4 x5 M
    rw [fn_X7_runs_L31]
    refine mm_iload 33 rfl dX7_runs_31 5 rfl ?_
    refine mm_iload_n 34 rfl dX7_runs_33 rfl 1 rfl ?_
    refine mm_icmp_ge 37 88 rfl dX7_runs_34 (by decide) (fun h_4 => ?_) (fun h_4 => ?_)
    · exact mm_lv [0, 2, 3, 4] rfl (hk _ _ _)
    · refine mm_aload_n 38 rfl dX7_runs_37 rfl 0 rfl ?_
      refine gt_X7_16 41 rfl dX7_runs_38 h0.1 ?_
      refine mm_aload_n 42 rfl dX7_runs_41 rfl 0 rfl ?_
      refine gt_X7_16 45 rfl dX7_runs_42 h0.1 ?_
      refine ca_X7_113 48 rfl dX7_runs_45 h0.2.2.1.1 (ct_X2_sunToday 8 h0.2.2.1) (by decide) (Nat.le_of_ble_eq_true rfl) (fun z_5 => ?_)
      refine ca_X7_163 51 rfl dX7_runs_48 h0.2.2.1.1 (ct_X2_passDay 8 z_5.1 h0.2.2.1) (by decide) (Nat.le_of_ble_eq_true rfl) (fun z_6 => ?_)
      refine mm_pop 52 rfl dX7_runs_51 rfl ?_
      refine mm_iload_n 53 rfl dX7_runs_52 rfl 3 rfl ?_
      refine mm_aload_n 54 rfl dX7_runs_53 rfl 0 rfl ?_
      refine gt_X7_16 57 rfl dX7_runs_54 h0.1 ?_
      refine gt_X7_166 60 rfl dX7_runs_57 h0.2.2.1.1 ?_
      refine mm_iadd 61 rfl dX7_runs_60 ?_
      refine mm_bI (fun x3_7 => ?_)
      refine mm_istore_n 62 rfl dX7_runs_61 rfl (lv' := [(3, .int x3_7), (0, .ref (mm_ad G 0)), (1, .int c1), (2, .int c2), (4, .int x4), (5, .int x5)]) (by decide) rfl ?_
      refine mm_iload 64 rfl dX7_runs_62 4 rfl ?_
      refine mm_aload_n 65 rfl dX7_runs_64 rfl 1 rfl ?_
      refine gt_X7_16 68 rfl dX7_runs_65 h0.1 ?_
      refine gt_X7_166 71 rfl dX7_runs_68 h0.2.2.1.1 ?_
      refine mm_if_ne 74 78 rfl dX7_runs_71 (by decide) (fun h_8 => ?_) (fun h_8 => ?_)
      · refine mm_iconst 79 rfl (v := 0) dX7_runs_78 (by decide) ?_
        refine mm_iadd 80 rfl dX7_runs_79 ?_
        refine mm_bI (fun x4_9 => ?_)
        refine mm_istore 82 rfl dX7_runs_80 (lv' := [(4, .int x4_9), (3, .int x3_7), (0, .ref (mm_ad G 0)), (1, .int c1), (2, .int c2), (5, .int x5)]) (by decide) rfl ?_
        refine mm_iinc 85 rfl dX7_runs_82 5 rfl (v := (x5 + 1)) rfl (lv' := [(5, .int (x5 + 1)), (4, .int x4_9), (3, .int x3_7), (0, .ref (mm_ad G 0)), (1, .int c1), (2, .int c2)]) (by decide) rfl ?_
        refine mm_goto 31 dX7_runs_85 (by decide) ?_
        exact mm_lv [3, 4, 5, 2, 1, 0] rfl (ih _ _ _ _)
      · refine mm_iconst 75 rfl (v := 1) dX7_runs_74 (by decide) ?_
        refine mm_goto 79 dX7_runs_75 (by decide) ?_
        refine mm_iadd 80 rfl dX7_runs_79 ?_
        refine mm_bI (fun x4_10 => ?_)
        refine mm_istore 82 rfl dX7_runs_80 (lv' := [(4, .int x4_10), (3, .int x3_7), (0, .ref (mm_ad G 0)), (1, .int c1), (2, .int c2), (5, .int x5)]) (by decide) rfl ?_
        refine mm_iinc 85 rfl dX7_runs_82 5 rfl (v := (x5 + 1)) rfl (lv' := [(5, .int (x5 + 1)), (4, .int x4_10), (3, .int x3_7), (0, .ref (mm_ad G 0)), (1, .int c1), (2, .int c2)]) (by decide) rfl ?_
        refine mm_goto 31 dX7_runs_85 (by decide) ?_
        exact mm_lv [3, 4, 5, 2, 1, 0] rfl (ih _ _ _ _)
noncomputable def fn_X7_runs (c1 : Int32) (c2 : Int32) (M : mm_M) : Option (Int32 × mm_M) :=
  ((fn_X7_within c1 0 60 M).bind fun z_1 => (if z_1.1 = 0 then some ((-1), z_1.2) else ((fn_X2_become 8 1 z_1.2).bind fun z_3 => fn_X7_runs_L31 c1 c2 (fun x3_11 x4_12 M_13 => (if c2 = 0 then ((fn_X2_whoIsAt 8 2 M_13).bind fun z_16 => ((fn_J6_bitCount_0f7a4 z_16.1 z_16.2).bind fun z_17 => some (z_17.1, z_17.2))) else (if c2 = 1 then ((fn_X2_greyOfAll 8 M_13).bind fun z_19 => some (z_19.1, z_19.2)) else (if c2 = 2 then ((fn_X2_whoIsAt 8 1 M_13).bind fun z_21 => some (z_21.1, z_21.2)) else (if c2 = 3 then some (x3_11, M_13) else (if c2 = 4 then some (x4_12, M_13) else some ((-1), M_13))))))) mm_fu 0 0 0 z_3)))
set_option maxRecDepth 20000 in
set_option maxHeartbeats 4000000 in
theorem ct_X7_runs {l : Launch} {G : mm_G} {sh : mm_S} {M : mm_M} (c1 : Int32) (c2 : Int32) (h0 : mm_isMli G sh) : mm_K l G yX7_runs (cX7_runs, 6, RX7, (some .int), 4) [.ref (mm_ad G 0), .int c1, .int c2] (mm_fi sh) sh M (fn_X7_runs c1 c2 M) := by
  refine mm_met (by decide +kernel) rfl (Nat.le_of_ble_eq_true rfl) (fun X hX => ?_)
  subst hX
  show mm_T X G (cX7_runs, 6, RX7, (some .int), 4) (mm_fi sh) sh M 0 [(0, .ref (mm_ad G 0)), (1, .int c1), (2, .int c2)] [] (fn_X7_runs c1 c2 M)
  unfold fn_X7_runs
  refine mm_iload_n 1 rfl dX7_runs_0 rfl 1 rfl ?_
  refine mm_iconst 2 rfl (v := 0) dX7_runs_1 (by decide) ?_
  refine mm_bipush 4 rfl (v := 60) dX7_runs_2 (by decide) ?_
  refine ca_X7_71 7 rfl dX7_runs_4 (ct_X7_within c1 0 60 ) (by decide) (Nat.le_of_ble_eq_true rfl) (fun z_1 => ?_)
  refine mm_if_ne 10 12 rfl dX7_runs_7 (by decide) (fun h_2 => ?_) (fun h_2 => ?_)
  · refine mm_aload_n 13 rfl dX7_runs_12 rfl 0 rfl ?_
    refine gt_X7_16 16 rfl dX7_runs_13 h0.1 ?_
    refine mm_aload_n 17 rfl dX7_runs_16 rfl 0 rfl ?_
    refine gt_X7_12 20 rfl dX7_runs_17 h0.1 ?_
    refine ca_X7_87 23 rfl dX7_runs_20 h0.2.2.1.1 (ct_X2_become 8 1 h0.2.2.1 h0.2.1) (by decide) (Nat.le_of_ble_eq_true rfl) (fun z_3 => ?_)
    refine mm_iconst 24 rfl (v := 0) dX7_runs_23 (by decide) ?_
    refine mm_istore_n 25 rfl dX7_runs_24 rfl (lv' := [(3, .int 0), (0, .ref (mm_ad G 0)), (1, .int c1), (2, .int c2)]) (by decide) rfl ?_
    refine mm_iconst 26 rfl (v := 0) dX7_runs_25 (by decide) ?_
    refine mm_istore 28 rfl dX7_runs_26 (lv' := [(4, .int 0), (3, .int 0), (0, .ref (mm_ad G 0)), (1, .int c1), (2, .int c2)]) (by decide) rfl ?_
    refine mm_iconst 29 rfl (v := 0) dX7_runs_28 (by decide) ?_
    refine mm_istore 31 rfl dX7_runs_29 (lv' := [(5, .int 0), (4, .int 0), (3, .int 0), (0, .ref (mm_ad G 0)), (1, .int c1), (2, .int c2)]) (by decide) rfl ?_
    refine mm_lv [3, 4, 5, 2, 1, 0] rfl (th_X7_runs_L31 h0 (fun x3_11 x4_12 M_13 => ?_) mm_fu _ _ _ _)
    refine mm_iload_n 89 rfl dX7_runs_88 rfl 1 rfl ?_
    refine mm_ite (fun h_15 => ?_) (fun h_15 => ?_)
    · refine mm_tabIn 124 0 h_15 dX7_runs_89 (by decide) (by decide) rfl (by decide) ?_
      refine mm_aload_n 125 rfl dX7_runs_124 rfl 0 rfl ?_
      refine gt_X7_16 128 rfl dX7_runs_125 h0.1 ?_
      refine mm_iconst 129 rfl (v := 2) dX7_runs_128 (by decide) ?_
      refine ca_X7_105 132 rfl dX7_runs_129 h0.2.2.1.1 (ct_X2_whoIsAt 8 2 h0.2.2.1) (by decide) (Nat.le_of_ble_eq_true rfl) (fun z_16 => ?_)
      refine ca_X7_169 135 rfl dX7_runs_132 (ct_J6_bitCount_0f7a4 z_16.1 ) (by decide) (Nat.le_of_ble_eq_true rfl) (fun z_17 => ?_)
      exact mm_iret dX7_runs_135 rfl rfl
    · refine mm_ite (fun h_18 => ?_) (fun h_18 => ?_)
      · refine mm_tabIn 136 1 h_18 dX7_runs_89 (by decide) (by decide) rfl (by decide) ?_
        refine mm_aload_n 137 rfl dX7_runs_136 rfl 0 rfl ?_
        refine gt_X7_16 140 rfl dX7_runs_137 h0.1 ?_
        refine ca_X7_109 143 rfl dX7_runs_140 h0.2.2.1.1 (ct_X2_greyOfAll 8 h0.2.2.1) (by decide) (Nat.le_of_ble_eq_true rfl) (fun z_19 => ?_)
        exact mm_iret dX7_runs_143 rfl rfl
      · refine mm_ite (fun h_20 => ?_) (fun h_20 => ?_)
        · refine mm_tabIn 144 2 h_20 dX7_runs_89 (by decide) (by decide) rfl (by decide) ?_
          refine mm_aload_n 145 rfl dX7_runs_144 rfl 0 rfl ?_
          refine gt_X7_16 148 rfl dX7_runs_145 h0.1 ?_
          refine mm_iconst 149 rfl (v := 1) dX7_runs_148 (by decide) ?_
          refine ca_X7_105 152 rfl dX7_runs_149 h0.2.2.1.1 (ct_X2_whoIsAt 8 1 h0.2.2.1) (by decide) (Nat.le_of_ble_eq_true rfl) (fun z_21 => ?_)
          exact mm_iret dX7_runs_152 rfl rfl
        · refine mm_ite (fun h_22 => ?_) (fun h_22 => ?_)
          · refine mm_tabIn 153 3 h_22 dX7_runs_89 (by decide) (by decide) rfl (by decide) ?_
            refine mm_iload_n 154 rfl dX7_runs_153 rfl 2 rfl ?_
            exact mm_iret dX7_runs_154 rfl rfl
          · refine mm_ite (fun h_23 => ?_) (fun h_23 => ?_)
            · refine mm_tabIn 155 4 h_23 dX7_runs_89 (by decide) (by decide) rfl (by decide) ?_
              refine mm_iload 157 rfl dX7_runs_155 3 rfl ?_
              exact mm_iret dX7_runs_157 rfl rfl
            · refine mm_tabOut 158 dX7_runs_89 (mm_out 0 5 (by decide) (fun j hj => by match j, hj with | 0, _ => exact h_15 | 1, _ => exact h_18 | 2, _ => exact h_20 | 3, _ => exact h_22 | 4, _ => exact h_23) rfl rfl) (by decide) ?_
              refine mm_iconst 159 rfl (v := (-1)) dX7_runs_158 (by decide) ?_
              exact mm_iret dX7_runs_159 rfl rfl
  · refine mm_iconst 11 rfl (v := (-1)) dX7_runs_10 (by decide) ?_
    exact mm_iret dX7_runs_11 rfl rfl

-- MangleLine.ahead(III)I
noncomputable def fn_X7_ahead (c1 : Int32) (c2 : Int32) (c3 : Int32) (M : mm_M) : Option (Int32 × mm_M) :=
  ((fn_X7_isOne c1 M).bind fun z_1 => (if z_1.1 = 0 then some ((-1), z_1.2) else ((fn_X7_within c2 0 60 z_1.2).bind fun z_3 => (if z_3.1 = 0 then some ((-1), z_3.2) else ((fn_X2_become 8 1 z_3.2).bind fun z_5 => ((fn_X2_passDays 8 c2 z_5).bind fun z_6 => (if c3 = 0 then (if mm_in c1 6 then some ((z_6.2 10 c1.toNatClampNeg), z_6.2) else none) else (if c3 = 1 then (if mm_in c1 6 then some ((z_6.2 11 c1.toNatClampNeg), z_6.2) else none) else (if c3 = 2 then (if mm_in c1 6 then some ((z_6.2 12 c1.toNatClampNeg), z_6.2) else none) else some ((-1), z_6.2))))))))))
set_option maxRecDepth 20000 in
set_option maxHeartbeats 4000000 in
theorem ct_X7_ahead {l : Launch} {G : mm_G} {sh : mm_S} {M : mm_M} (c1 : Int32) (c2 : Int32) (c3 : Int32) (h0 : mm_isMli G sh) : mm_K l G yX7_ahead (cX7_ahead, 4, RX7, (some .int), 5) [.ref (mm_ad G 0), .int c1, .int c2, .int c3] (mm_fi sh) sh M (fn_X7_ahead c1 c2 c3 M) := by
  refine mm_met (by decide +kernel) rfl (Nat.le_of_ble_eq_true rfl) (fun X hX => ?_)
  subst hX
  show mm_T X G (cX7_ahead, 4, RX7, (some .int), 5) (mm_fi sh) sh M 0 [(0, .ref (mm_ad G 0)), (1, .int c1), (2, .int c2), (3, .int c3)] [] (fn_X7_ahead c1 c2 c3 M)
  unfold fn_X7_ahead
  refine mm_aload_n 1 rfl dX7_ahead_0 rfl 0 rfl ?_
  refine mm_iload_n 2 rfl dX7_ahead_1 rfl 1 rfl ?_
  refine ca_X7_119 5 rfl dX7_ahead_2 h0.1 (ct_X7_isOne c1 h0) (by decide) (Nat.le_of_ble_eq_true rfl) (fun z_1 => ?_)
  refine mm_if_eq 8 18 rfl dX7_ahead_5 (by decide) (fun h_2 => ?_) (fun h_2 => ?_)
  · refine mm_iconst 19 rfl (v := (-1)) dX7_ahead_18 (by decide) ?_
    exact mm_iret dX7_ahead_19 rfl rfl
  · refine mm_iload_n 9 rfl dX7_ahead_8 rfl 2 rfl ?_
    refine mm_iconst 10 rfl (v := 0) dX7_ahead_9 (by decide) ?_
    refine mm_bipush 12 rfl (v := 60) dX7_ahead_10 (by decide) ?_
    refine ca_X7_71 15 rfl dX7_ahead_12 (ct_X7_within c2 0 60 ) (by decide) (Nat.le_of_ble_eq_true rfl) (fun z_3 => ?_)
    refine mm_if_ne 18 20 rfl dX7_ahead_15 (by decide) (fun h_4 => ?_) (fun h_4 => ?_)
    · refine mm_aload_n 21 rfl dX7_ahead_20 rfl 0 rfl ?_
      refine gt_X7_16 24 rfl dX7_ahead_21 h0.1 ?_
      refine mm_aload_n 25 rfl dX7_ahead_24 rfl 0 rfl ?_
      refine gt_X7_12 28 rfl dX7_ahead_25 h0.1 ?_
      refine ca_X7_87 31 rfl dX7_ahead_28 h0.2.2.1.1 (ct_X2_become 8 1 h0.2.2.1 h0.2.1) (by decide) (Nat.le_of_ble_eq_true rfl) (fun z_5 => ?_)
      refine mm_aload_n 32 rfl dX7_ahead_31 rfl 0 rfl ?_
      refine gt_X7_16 35 rfl dX7_ahead_32 h0.1 ?_
      refine mm_iload_n 36 rfl dX7_ahead_35 rfl 2 rfl ?_
      refine ca_X7_160 39 rfl dX7_ahead_36 h0.2.2.1.1 (ct_X2_passDays 8 c2 h0.2.2.1) (by decide) (Nat.le_of_ble_eq_true rfl) (fun z_6 => ?_)
      refine mm_pop 40 rfl dX7_ahead_39 rfl ?_
      refine mm_iload_n 41 rfl dX7_ahead_40 rfl 3 rfl ?_
      refine mm_ite (fun h_7 => ?_) (fun h_7 => ?_)
      · refine mm_tabIn 68 0 h_7 dX7_ahead_41 (by decide) (by decide) rfl (by decide) ?_
        refine mm_aload_n 69 rfl dX7_ahead_68 rfl 0 rfl ?_
        refine gt_X7_16 72 rfl dX7_ahead_69 h0.1 ?_
        refine gt_X7_125 75 rfl dX7_ahead_72 h0.2.2.1.1 ?_
        refine mm_iload_n 76 rfl dX7_ahead_75 rfl 1 rfl ?_
        refine mm_iald 77 rfl dX7_ahead_76 h0.2.2.1.2.2.1 (fun h_8 => ?_)
        exact mm_iret dX7_ahead_77 rfl rfl
      · refine mm_ite (fun h_9 => ?_) (fun h_9 => ?_)
        · refine mm_tabIn 78 1 h_9 dX7_ahead_41 (by decide) (by decide) rfl (by decide) ?_
          refine mm_aload_n 79 rfl dX7_ahead_78 rfl 0 rfl ?_
          refine gt_X7_16 82 rfl dX7_ahead_79 h0.1 ?_
          refine gt_X7_128 85 rfl dX7_ahead_82 h0.2.2.1.1 ?_
          refine mm_iload_n 86 rfl dX7_ahead_85 rfl 1 rfl ?_
          refine mm_iald 87 rfl dX7_ahead_86 h0.2.2.1.2.2.2.1 (fun h_10 => ?_)
          exact mm_iret dX7_ahead_87 rfl rfl
        · refine mm_ite (fun h_11 => ?_) (fun h_11 => ?_)
          · refine mm_tabIn 88 2 h_11 dX7_ahead_41 (by decide) (by decide) rfl (by decide) ?_
            refine mm_aload_n 89 rfl dX7_ahead_88 rfl 0 rfl ?_
            refine gt_X7_16 92 rfl dX7_ahead_89 h0.1 ?_
            refine gt_X7_131 95 rfl dX7_ahead_92 h0.2.2.1.1 ?_
            refine mm_iload_n 96 rfl dX7_ahead_95 rfl 1 rfl ?_
            refine mm_iald 97 rfl dX7_ahead_96 h0.2.2.1.2.2.2.2.1 (fun h_12 => ?_)
            exact mm_iret dX7_ahead_97 rfl rfl
          · refine mm_tabOut 98 dX7_ahead_41 (mm_out 0 3 (by decide) (fun j hj => by match j, hj with | 0, _ => exact h_7 | 1, _ => exact h_9 | 2, _ => exact h_11) rfl rfl) (by decide) ?_
            refine mm_iconst 99 rfl (v := (-1)) dX7_ahead_98 (by decide) ?_
            exact mm_iret dX7_ahead_99 rfl rfl
    · refine mm_iconst 19 rfl (v := (-1)) dX7_ahead_18 (by decide) ?_
      exact mm_iret dX7_ahead_19 rfl rfl

-- MangleLine.orNone(I)I
noncomputable def fn_X7_orNone (c0 : Int32) (M : mm_M) : Option (Int32 × mm_M) :=
  (if c0 = 61 then some ((-4), M) else some (c0, M))
set_option maxRecDepth 20000 in
set_option maxHeartbeats 4000000 in
theorem ct_X7_orNone {l : Launch} {G : mm_G} {sh : mm_S} {M : mm_M} (c0 : Int32) : mm_K l G yX7_orNone (cX7_orNone, 1, RX7, (some .int), 1) [.int c0] (mm_fi sh) sh M (fn_X7_orNone c0 M) := by
  refine mm_met (by decide +kernel) rfl (Nat.le_of_ble_eq_true rfl) (fun X hX => ?_)
  subst hX
  show mm_T X G (cX7_orNone, 1, RX7, (some .int), 1) (mm_fi sh) sh M 0 [(0, .int c0)] [] (fn_X7_orNone c0 M)
  unfold fn_X7_orNone
  refine mm_iload_n 1 rfl dX7_orNone_0 rfl 0 rfl ?_
  refine mm_bipush 3 rfl (v := 61) dX7_orNone_1 (by decide) ?_
  refine mm_icmp_ne 6 11 rfl dX7_orNone_3 (by decide) (fun h_1 => ?_) (fun h_1 => ?_)
  · refine mm_iload_n 12 rfl dX7_orNone_11 rfl 0 rfl ?_
    exact mm_iret dX7_orNone_12 rfl rfl
  · refine mm_bipush 8 rfl (v := (-4)) dX7_orNone_6 (by decide) ?_
    refine mm_goto 12 dX7_orNone_8 (by decide) ?_
    exact mm_iret dX7_orNone_12 rfl rfl

-- MangleLine.home(I)I
noncomputable def fn_X7_home (c1 : Int32) (M : mm_M) : Option (Int32 × mm_M) :=
  ((fn_X7_isOne c1 M).bind fun z_1 => (if z_1.1 = 0 then some ((-1), z_1.2) else ((fn_X2_become 8 1 z_1.2).bind fun z_3 => ((fn_X2_daysTillHome 8 c1 60 z_3).bind fun z_4 => ((fn_X7_orNone z_4.1 z_4.2).bind fun z_5 => some (z_5.1, z_5.2))))))
set_option maxRecDepth 20000 in
set_option maxHeartbeats 4000000 in
theorem ct_X7_home {l : Launch} {G : mm_G} {sh : mm_S} {M : mm_M} (c1 : Int32) (h0 : mm_isMli G sh) : mm_K l G yX7_home (cX7_home, 2, RX7, (some .int), 5) [.ref (mm_ad G 0), .int c1] (mm_fi sh) sh M (fn_X7_home c1 M) := by
  refine mm_met (by decide +kernel) rfl (Nat.le_of_ble_eq_true rfl) (fun X hX => ?_)
  subst hX
  show mm_T X G (cX7_home, 2, RX7, (some .int), 5) (mm_fi sh) sh M 0 [(0, .ref (mm_ad G 0)), (1, .int c1)] [] (fn_X7_home c1 M)
  unfold fn_X7_home
  refine mm_aload_n 1 rfl dX7_home_0 rfl 0 rfl ?_
  refine mm_iload_n 2 rfl dX7_home_1 rfl 1 rfl ?_
  refine ca_X7_119 5 rfl dX7_home_2 h0.1 (ct_X7_isOne c1 h0) (by decide) (Nat.le_of_ble_eq_true rfl) (fun z_1 => ?_)
  refine mm_if_ne 8 10 rfl dX7_home_5 (by decide) (fun h_2 => ?_) (fun h_2 => ?_)
  · refine mm_aload_n 11 rfl dX7_home_10 rfl 0 rfl ?_
    refine gt_X7_16 14 rfl dX7_home_11 h0.1 ?_
    refine mm_aload_n 15 rfl dX7_home_14 rfl 0 rfl ?_
    refine gt_X7_12 18 rfl dX7_home_15 h0.1 ?_
    refine ca_X7_87 21 rfl dX7_home_18 h0.2.2.1.1 (ct_X2_become 8 1 h0.2.2.1 h0.2.1) (by decide) (Nat.le_of_ble_eq_true rfl) (fun z_3 => ?_)
    refine mm_aload_n 22 rfl dX7_home_21 rfl 0 rfl ?_
    refine gt_X7_16 25 rfl dX7_home_22 h0.1 ?_
    refine mm_iload_n 26 rfl dX7_home_25 rfl 1 rfl ?_
    refine mm_bipush 28 rfl (v := 60) dX7_home_26 (by decide) ?_
    refine ca_X7_174 31 rfl dX7_home_28 h0.2.2.1.1 (ct_X2_daysTillHome 8 c1 60 h0.2.2.1) (by decide) (Nat.le_of_ble_eq_true rfl) (fun z_4 => ?_)
    refine ca_X7_177 34 rfl dX7_home_31 (ct_X7_orNone z_4.1 ) (by decide) (Nat.le_of_ble_eq_true rfl) (fun z_5 => ?_)
    exact mm_iret dX7_home_34 rfl rfl
  · refine mm_iconst 9 rfl (v := (-1)) dX7_home_8 (by decide) ?_
    exact mm_iret dX7_home_9 rfl rfl

-- MangleLine.daysAsItIs()I
noncomputable def fn_X7_daysAsItIs  (M : mm_M) : Option (Int32 × mm_M) :=
  ((fn_X2_become 8 1 M).bind fun z_1 => ((fn_X2_daysTillDone 8 60 z_1).bind fun z_2 => some (z_2.1, z_2.2)))
set_option maxRecDepth 20000 in
set_option maxHeartbeats 4000000 in
theorem ct_X7_daysAsItIs {l : Launch} {G : mm_G} {sh : mm_S} {M : mm_M} (h0 : mm_isMli G sh) : mm_K l G yX7_daysAsItIs (cX7_daysAsItIs, 1, RX7, (some .int), 5) [.ref (mm_ad G 0)] (mm_fi sh) sh M (fn_X7_daysAsItIs  M) := by
  refine mm_met (by decide +kernel) rfl (Nat.le_of_ble_eq_true rfl) (fun X hX => ?_)
  subst hX
  show mm_T X G (cX7_daysAsItIs, 1, RX7, (some .int), 5) (mm_fi sh) sh M 0 [(0, .ref (mm_ad G 0))] [] (fn_X7_daysAsItIs  M)
  unfold fn_X7_daysAsItIs
  refine mm_aload_n 1 rfl dX7_daysAsItIs_0 rfl 0 rfl ?_
  refine gt_X7_16 4 rfl dX7_daysAsItIs_1 h0.1 ?_
  refine mm_aload_n 5 rfl dX7_daysAsItIs_4 rfl 0 rfl ?_
  refine gt_X7_12 8 rfl dX7_daysAsItIs_5 h0.1 ?_
  refine ca_X7_87 11 rfl dX7_daysAsItIs_8 h0.2.2.1.1 (ct_X2_become 8 1 h0.2.2.1 h0.2.1) (by decide) (Nat.le_of_ble_eq_true rfl) (fun z_1 => ?_)
  refine mm_aload_n 12 rfl dX7_daysAsItIs_11 rfl 0 rfl ?_
  refine gt_X7_16 15 rfl dX7_daysAsItIs_12 h0.1 ?_
  refine mm_bipush 17 rfl (v := 60) dX7_daysAsItIs_15 (by decide) ?_
  refine ca_X7_193 20 rfl dX7_daysAsItIs_17 h0.2.2.1.1 (ct_X2_daysTillDone 8 60 h0.2.2.1) (by decide) (Nat.le_of_ble_eq_true rfl) (fun z_2 => ?_)
  exact mm_iret dX7_daysAsItIs_20 rfl rfl

-- MangleLine.done()I
noncomputable def fn_X7_done  (M : mm_M) : Option (Int32 × mm_M) :=
  ((fn_X7_daysAsItIs  M).bind fun z_1 => ((fn_X7_orNone z_1.1 z_1.2).bind fun z_2 => some (z_2.1, z_2.2)))
set_option maxRecDepth 20000 in
set_option maxHeartbeats 4000000 in
theorem ct_X7_done {l : Launch} {G : mm_G} {sh : mm_S} {M : mm_M} (h0 : mm_isMli G sh) : mm_K l G yX7_done (cX7_done, 1, RX7, (some .int), 6) [.ref (mm_ad G 0)] (mm_fi sh) sh M (fn_X7_done  M) := by
  refine mm_met (by decide +kernel) rfl (Nat.le_of_ble_eq_true rfl) (fun X hX => ?_)
  subst hX
  show mm_T X G (cX7_done, 1, RX7, (some .int), 6) (mm_fi sh) sh M 0 [(0, .ref (mm_ad G 0))] [] (fn_X7_done  M)
  unfold fn_X7_done
  refine mm_aload_n 1 rfl dX7_done_0 rfl 0 rfl ?_
  refine ca_X7_180 4 rfl dX7_done_1 h0.1 (ct_X7_daysAsItIs  h0) (by decide) (Nat.le_of_ble_eq_true rfl) (fun z_1 => ?_)
  refine ca_X7_177 7 rfl dX7_done_4 (ct_X7_orNone z_1.1 ) (by decide) (Nat.le_of_ble_eq_true rfl) (fun z_2 => ?_)
  exact mm_iret dX7_done_7 rfl rfl

-- MangleLine.leastOfRule(II)I
noncomputable def fn_X7_leastOfRule_L18 (c1 : Int32) (c2 : Int32) (k0 : Int32 → mm_M → Option (Int32 × mm_M)) (k1 : mm_M → Option (Int32 × mm_M)) : Nat → Int32 → mm_M → Option (Int32 × mm_M)
  | 0, _, _ => none
  | n + 1, x3, M => (if mm_in c1 5 then (if (mm_sav 1 c1.toNatClampNeg) < x3 then k1  M else ((fn_X2_become 8 1 M).bind fun z_7 => mm_let (mm_up z_7 13 c1.toNatClampNeg x3) fun M_8 => ((fn_X2_daysTillDone 8 c2 M_8).bind fun z_9 => (if z_9.1 = 61 then fn_X7_leastOfRule_L18 c1 c2 k0 k1 n (x3 + 1) z_9.2 else k0 x3 z_9.2)))) else none)
set_option maxRecDepth 20000 in
set_option maxHeartbeats 4000000 in
theorem th_X7_leastOfRule_L18 {X : mm_X} {G : mm_G} {sh : mm_S} {c1 : Int32} {c2 : Int32} {k0 : Int32 → mm_M → Option (Int32 × mm_M)} {k1 : mm_M → Option (Int32 × mm_M)} (h0 : mm_isMli G sh) (hk0 : ∀ (x3 : Int32) (M : mm_M), mm_T X G (cX7_leastOfRule, 4, RX7, (some .int), 5) (mm_fi sh) sh M 61 [(3, .int x3)] [] (k0 x3 M)) (hk1 : ∀ (M : mm_M), mm_T X G (cX7_leastOfRule, 4, RX7, (some .int), 5) (mm_fi sh) sh M 69 [] [] (k1  M)) : ∀ (n : Nat) (x3 : Int32) (M : mm_M), mm_T X G (cX7_leastOfRule, 4, RX7, (some .int), 5) (mm_fi sh) sh M 18 [(0, .ref (mm_ad G 0)), (1, .int c1), (2, .int c2), (3, .int x3)] [] (fn_X7_leastOfRule_L18 c1 c2 k0 k1 n x3 M) := by
  intro n
  induction n with
  | zero => intro x3 M; exact mm_none
  | succ n ih =>
    intro x3 M
    rw [fn_X7_leastOfRule_L18]
    refine mm_iload_n 19 rfl dX7_leastOfRule_18 rfl 3 rfl ?_
    refine mm_gets 22 rfl dX7_leastOfRule_19 1 (by decide) mw_2_222 ?_
    refine mm_iload_n 23 rfl dX7_leastOfRule_22 rfl 1 rfl ?_
    refine mm_sald 24 rfl dX7_leastOfRule_23 (by decide) (fun h_5 => ?_)
    refine mm_icmp_gt 27 69 rfl dX7_leastOfRule_24 (by decide) (fun h_6 => ?_) (fun h_6 => ?_)
    · exact mm_lv [] rfl (hk1 _)
    · refine mm_aload_n 28 rfl dX7_leastOfRule_27 rfl 0 rfl ?_
      refine gt_X7_16 31 rfl dX7_leastOfRule_28 h0.1 ?_
      refine mm_aload_n 32 rfl dX7_leastOfRule_31 rfl 0 rfl ?_
      refine gt_X7_12 35 rfl dX7_leastOfRule_32 h0.1 ?_
      refine ca_X7_87 38 rfl dX7_leastOfRule_35 h0.2.2.1.1 (ct_X2_become 8 1 h0.2.2.1 h0.2.1) (by decide) (Nat.le_of_ble_eq_true rfl) (fun z_7 => ?_)
      refine mm_aload_n 39 rfl dX7_leastOfRule_38 rfl 0 rfl ?_
      refine gt_X7_16 42 rfl dX7_leastOfRule_39 h0.1 ?_
      refine gt_X7_116 45 rfl dX7_leastOfRule_42 h0.2.2.1.1 ?_
      refine mm_iload_n 46 rfl dX7_leastOfRule_45 rfl 1 rfl ?_
      refine mm_iload_n 47 rfl dX7_leastOfRule_46 rfl 3 rfl ?_
      refine mm_iastK 48 rfl dX7_leastOfRule_47 h0.2.2.1.2.2.2.2.2.1 h_5 _ rfl ?_
      refine mm_bM (fun M_8 => ?_)
      refine mm_aload_n 49 rfl dX7_leastOfRule_48 rfl 0 rfl ?_
      refine gt_X7_16 52 rfl dX7_leastOfRule_49 h0.1 ?_
      refine mm_iload_n 53 rfl dX7_leastOfRule_52 rfl 2 rfl ?_
      refine ca_X7_193 56 rfl dX7_leastOfRule_53 h0.2.2.1.1 (ct_X2_daysTillDone 8 c2 h0.2.2.1) (by decide) (Nat.le_of_ble_eq_true rfl) (fun z_9 => ?_)
      refine mm_bipush 58 rfl (v := 61) dX7_leastOfRule_56 (by decide) ?_
      refine mm_icmp_eq 61 63 rfl dX7_leastOfRule_58 (by decide) (fun h_10 => ?_) (fun h_10 => ?_)
      · refine mm_iinc 66 rfl dX7_leastOfRule_63 3 rfl (v := (x3 + 1)) rfl (lv' := [(3, .int (x3 + 1)), (0, .ref (mm_ad G 0)), (1, .int c1), (2, .int c2)]) (by decide) rfl ?_
        refine mm_goto 18 dX7_leastOfRule_66 (by decide) ?_
        exact mm_lv [1, 2, 3, 0] rfl (ih _ _)
      · exact mm_lv [3] rfl (hk0 _ _)
noncomputable def fn_X7_leastOfRule (c1 : Int32) (c2 : Int32) (M : mm_M) : Option (Int32 × mm_M) :=
  ((fn_X7_within c2 0 60 M).bind fun z_1 => (if z_1.1 = 0 then some ((-1), z_1.2) else (if mm_in c1 5 then mm_let (mm_sav 0 c1.toNatClampNeg) fun x3_4 => fn_X7_leastOfRule_L18 c1 c2 (fun x3_11 M_12 => some (x3_11, M_12)) (fun M_14 => some ((-4), M_14)) mm_fu x3_4 z_1.2 else none)))
set_option maxRecDepth 20000 in
set_option maxHeartbeats 4000000 in
theorem ct_X7_leastOfRule {l : Launch} {G : mm_G} {sh : mm_S} {M : mm_M} (c1 : Int32) (c2 : Int32) (h0 : mm_isMli G sh) : mm_K l G yX7_leastOfRule (cX7_leastOfRule, 4, RX7, (some .int), 5) [.ref (mm_ad G 0), .int c1, .int c2] (mm_fi sh) sh M (fn_X7_leastOfRule c1 c2 M) := by
  refine mm_met (by decide +kernel) rfl (Nat.le_of_ble_eq_true rfl) (fun X hX => ?_)
  subst hX
  show mm_T X G (cX7_leastOfRule, 4, RX7, (some .int), 5) (mm_fi sh) sh M 0 [(0, .ref (mm_ad G 0)), (1, .int c1), (2, .int c2)] [] (fn_X7_leastOfRule c1 c2 M)
  unfold fn_X7_leastOfRule
  refine mm_iload_n 1 rfl dX7_leastOfRule_0 rfl 2 rfl ?_
  refine mm_iconst 2 rfl (v := 0) dX7_leastOfRule_1 (by decide) ?_
  refine mm_bipush 4 rfl (v := 60) dX7_leastOfRule_2 (by decide) ?_
  refine ca_X7_71 7 rfl dX7_leastOfRule_4 (ct_X7_within c2 0 60 ) (by decide) (Nat.le_of_ble_eq_true rfl) (fun z_1 => ?_)
  refine mm_if_ne 10 12 rfl dX7_leastOfRule_7 (by decide) (fun h_2 => ?_) (fun h_2 => ?_)
  · refine mm_gets 15 rfl dX7_leastOfRule_12 0 (by decide) mw_2_221 ?_
    refine mm_iload_n 16 rfl dX7_leastOfRule_15 rfl 1 rfl ?_
    refine mm_sald 17 rfl dX7_leastOfRule_16 (by decide) (fun h_3 => ?_)
    refine mm_bI (fun x3_4 => ?_)
    refine mm_istore_n 18 rfl dX7_leastOfRule_17 rfl (lv' := [(3, .int x3_4), (0, .ref (mm_ad G 0)), (1, .int c1), (2, .int c2)]) (by decide) rfl ?_
    refine mm_lv [1, 2, 3, 0] rfl (th_X7_leastOfRule_L18 h0 (fun x3_11 M_12 => ?_) (fun M_14 => ?_) mm_fu _ _)
    · refine mm_iload_n 62 rfl dX7_leastOfRule_61 rfl 0 rfl ?_
      exact mm_iret dX7_leastOfRule_62 rfl rfl
    · refine mm_bipush 71 rfl (v := (-4)) dX7_leastOfRule_69 (by decide) ?_
      exact mm_iret dX7_leastOfRule_71 rfl rfl
  · refine mm_iconst 11 rfl (v := (-1)) dX7_leastOfRule_10 (by decide) ?_
    exact mm_iret dX7_leastOfRule_11 rfl rfl

-- MangleLine.blue(I)I
noncomputable def fn_X7_blue (c1 : Int32) (M : mm_M) : Option (Int32 × mm_M) :=
  ((fn_X7_leastOfRule 0 c1 M).bind fun z_1 => some (z_1.1, z_1.2))
set_option maxRecDepth 20000 in
set_option maxHeartbeats 4000000 in
theorem ct_X7_blue {l : Launch} {G : mm_G} {sh : mm_S} {M : mm_M} (c1 : Int32) (h0 : mm_isMli G sh) : mm_K l G yX7_blue (cX7_blue, 2, RX7, (some .int), 6) [.ref (mm_ad G 0), .int c1] (mm_fi sh) sh M (fn_X7_blue c1 M) := by
  refine mm_met (by decide +kernel) rfl (Nat.le_of_ble_eq_true rfl) (fun X hX => ?_)
  subst hX
  show mm_T X G (cX7_blue, 2, RX7, (some .int), 6) (mm_fi sh) sh M 0 [(0, .ref (mm_ad G 0)), (1, .int c1)] [] (fn_X7_blue c1 M)
  unfold fn_X7_blue
  refine mm_aload_n 1 rfl dX7_blue_0 rfl 0 rfl ?_
  refine mm_iconst 2 rfl (v := 0) dX7_blue_1 (by decide) ?_
  refine mm_iload_n 3 rfl dX7_blue_2 rfl 1 rfl ?_
  refine ca_X7_183 6 rfl dX7_blue_3 h0.1 (ct_X7_leastOfRule 0 c1 h0) (by decide) (Nat.le_of_ble_eq_true rfl) (fun z_1 => ?_)
  exact mm_iret dX7_blue_6 rfl rfl

-- MangleLine.pegs(I)I
noncomputable def fn_X7_pegs (c1 : Int32) (M : mm_M) : Option (Int32 × mm_M) :=
  ((fn_X7_leastOfRule 2 c1 M).bind fun z_1 => some (z_1.1, z_1.2))
set_option maxRecDepth 20000 in
set_option maxHeartbeats 4000000 in
theorem ct_X7_pegs {l : Launch} {G : mm_G} {sh : mm_S} {M : mm_M} (c1 : Int32) (h0 : mm_isMli G sh) : mm_K l G yX7_pegs (cX7_pegs, 2, RX7, (some .int), 6) [.ref (mm_ad G 0), .int c1] (mm_fi sh) sh M (fn_X7_pegs c1 M) := by
  refine mm_met (by decide +kernel) rfl (Nat.le_of_ble_eq_true rfl) (fun X hX => ?_)
  subst hX
  show mm_T X G (cX7_pegs, 2, RX7, (some .int), 6) (mm_fi sh) sh M 0 [(0, .ref (mm_ad G 0)), (1, .int c1)] [] (fn_X7_pegs c1 M)
  unfold fn_X7_pegs
  refine mm_aload_n 1 rfl dX7_pegs_0 rfl 0 rfl ?_
  refine mm_iconst 2 rfl (v := 2) dX7_pegs_1 (by decide) ?_
  refine mm_iload_n 3 rfl dX7_pegs_2 rfl 1 rfl ?_
  refine ca_X7_183 6 rfl dX7_pegs_3 h0.1 (ct_X7_leastOfRule 2 c1 h0) (by decide) (Nat.le_of_ble_eq_true rfl) (fun z_1 => ?_)
  exact mm_iret dX7_pegs_6 rfl rfl

-- MangleLine.isHalf(I)Z
noncomputable def fn_X7_isHalf (c0 : Int32) (M : mm_M) : Option (Int32 × mm_M) :=
  ((fn_X7_within c0 0 1 M).bind fun z_1 => (if z_1.1 = 0 ∨ z_1.1 = 1 then some (z_1.1, z_1.2) else none))
set_option maxRecDepth 20000 in
set_option maxHeartbeats 4000000 in
theorem ct_X7_isHalf {l : Launch} {G : mm_G} {sh : mm_S} {M : mm_M} (c0 : Int32) : mm_K l G yX7_isHalf (cX7_isHalf, 1, RX7, (some .boolean), 2) [.int c0] (mm_fi sh) sh M (fn_X7_isHalf c0 M) := by
  refine mm_met (by decide +kernel) rfl (Nat.le_of_ble_eq_true rfl) (fun X hX => ?_)
  subst hX
  show mm_T X G (cX7_isHalf, 1, RX7, (some .boolean), 2) (mm_fi sh) sh M 0 [(0, .int c0)] [] (fn_X7_isHalf c0 M)
  unfold fn_X7_isHalf
  refine mm_iload_n 1 rfl dX7_isHalf_0 rfl 0 rfl ?_
  refine mm_iconst 2 rfl (v := 0) dX7_isHalf_1 (by decide) ?_
  refine mm_iconst 3 rfl (v := 1) dX7_isHalf_2 (by decide) ?_
  refine ca_X7_71 6 rfl dX7_isHalf_3 (ct_X7_within c0 0 1 ) (by decide) (Nat.le_of_ble_eq_true rfl) (fun z_1 => ?_)
  exact mm_zret dX7_isHalf_6 rfl rfl

-- MangleLine.batch(I)I
noncomputable def fn_X7_batch_L24 (c1 : Int32) (k : mm_M → Option (Int32 × mm_M)) : Nat → Int32 → mm_M → Option (Int32 × mm_M)
  | 0, _, _ => none
  | n + 1, x2, M => (if (mm_sav 1 1) < x2 then k  M else ((fn_X2_become 8 1 M).bind fun z_6 => mm_let (mm_up z_6 13 1 x2) fun M_7 => ((fn_X2_daysTillDone 8 60 M_7).bind fun z_8 => ((fn_X0_offer x2 z_8.1 z_8.2).bind fun z_9 => fn_X7_batch_L24 c1 k n (x2 + 1) z_9))))
set_option maxRecDepth 20000 in
set_option maxHeartbeats 4000000 in
theorem th_X7_batch_L24 {X : mm_X} {G : mm_G} {sh : mm_S} {c1 : Int32} {k : mm_M → Option (Int32 × mm_M)} (h0 : mm_isMli G sh) (hk : ∀ (M : mm_M), mm_T X G (cX7_batch, 3, RX7, (some .int), 5) (mm_fi sh) sh M 77 [(0, .ref (mm_ad G 0)), (1, .int c1)] [] (k  M)) : ∀ (n : Nat) (x2 : Int32) (M : mm_M), mm_T X G (cX7_batch, 3, RX7, (some .int), 5) (mm_fi sh) sh M 24 [(0, .ref (mm_ad G 0)), (1, .int c1), (2, .int x2)] [] (fn_X7_batch_L24 c1 k n x2 M) := by
  intro n
  induction n with
  | zero => intro x2 M; exact mm_none
  | succ n ih =>
    intro x2 M
    rw [fn_X7_batch_L24]
    refine mm_iload_n 25 rfl dX7_batch_24 rfl 2 rfl ?_
    refine mm_gets 28 rfl dX7_batch_25 1 (by decide) mw_2_222 ?_
    refine mm_iconst 29 rfl (v := 1) dX7_batch_28 (by decide) ?_
    refine mm_saldK 30 rfl dX7_batch_29 (by decide) (by decide) 1 (by decide) ?_
    refine mm_icmp_gt 33 77 rfl dX7_batch_30 (by decide) (fun h_5 => ?_) (fun h_5 => ?_)
    · exact mm_lv [0, 1] rfl (hk _)
    · refine mm_aload_n 34 rfl dX7_batch_33 rfl 0 rfl ?_
      refine gt_X7_16 37 rfl dX7_batch_34 h0.1 ?_
      refine mm_aload_n 38 rfl dX7_batch_37 rfl 0 rfl ?_
      refine gt_X7_12 41 rfl dX7_batch_38 h0.1 ?_
      refine ca_X7_87 44 rfl dX7_batch_41 h0.2.2.1.1 (ct_X2_become 8 1 h0.2.2.1 h0.2.1) (by decide) (Nat.le_of_ble_eq_true rfl) (fun z_6 => ?_)
      refine mm_aload_n 45 rfl dX7_batch_44 rfl 0 rfl ?_
      refine gt_X7_16 48 rfl dX7_batch_45 h0.1 ?_
      refine gt_X7_116 51 rfl dX7_batch_48 h0.2.2.1.1 ?_
      refine mm_iconst 52 rfl (v := 1) dX7_batch_51 (by decide) ?_
      refine mm_iload_n 53 rfl dX7_batch_52 rfl 2 rfl ?_
      refine mm_iastK 54 rfl dX7_batch_53 h0.2.2.1.2.2.2.2.2.1 (by decide) 1 (by decide) ?_
      refine mm_bM (fun M_7 => ?_)
      refine mm_aload_n 55 rfl dX7_batch_54 rfl 0 rfl ?_
      refine gt_X7_49 58 rfl dX7_batch_55 h0.1 ?_
      refine mm_iload_n 59 rfl dX7_batch_58 rfl 2 rfl ?_
      refine mm_aload_n 60 rfl dX7_batch_59 rfl 0 rfl ?_
      refine gt_X7_16 63 rfl dX7_batch_60 h0.1 ?_
      refine mm_bipush 65 rfl (v := 60) dX7_batch_63 (by decide) ?_
      refine ca_X7_193 68 rfl dX7_batch_65 h0.2.2.1.1 (ct_X2_daysTillDone 8 60 h0.2.2.1) (by decide) (Nat.le_of_ble_eq_true rfl) (fun z_8 => ?_)
      refine ca_X7_196 71 rfl dX7_batch_68 h0.2.2.2.2.2.2.2.1 (ct_X0_offer x2 z_8.1 h0.2.2.2.2.2.2.2.1) (by decide) (Nat.le_of_ble_eq_true rfl) (fun z_9 => ?_)
      refine mm_iinc 74 rfl dX7_batch_71 2 rfl (v := (x2 + 1)) rfl (lv' := [(2, .int (x2 + 1)), (0, .ref (mm_ad G 0)), (1, .int c1)]) (by decide) rfl ?_
      refine mm_goto 24 dX7_batch_74 (by decide) ?_
      exact mm_lv [1, 2, 0] rfl (ih _ _)
noncomputable def fn_X7_batch (c1 : Int32) (M : mm_M) : Option (Int32 × mm_M) :=
  ((fn_X7_isHalf c1 M).bind fun z_1 => (if z_1.1 = 0 then some ((-1), z_1.2) else ((fn_X0_begin 61 z_1.2).bind fun z_3 => mm_let (mm_sav 0 1) fun x2_4 => fn_X7_batch_L24 c1 (fun M_10 => ((fn_X0_tell c1 M_10).bind fun z_12 => some (z_12.1, z_12.2))) mm_fu x2_4 z_3)))
set_option maxRecDepth 20000 in
set_option maxHeartbeats 4000000 in
theorem ct_X7_batch {l : Launch} {G : mm_G} {sh : mm_S} {M : mm_M} (c1 : Int32) (h0 : mm_isMli G sh) : mm_K l G yX7_batch (cX7_batch, 3, RX7, (some .int), 5) [.ref (mm_ad G 0), .int c1] (mm_fi sh) sh M (fn_X7_batch c1 M) := by
  refine mm_met (by decide +kernel) rfl (Nat.le_of_ble_eq_true rfl) (fun X hX => ?_)
  subst hX
  show mm_T X G (cX7_batch, 3, RX7, (some .int), 5) (mm_fi sh) sh M 0 [(0, .ref (mm_ad G 0)), (1, .int c1)] [] (fn_X7_batch c1 M)
  unfold fn_X7_batch
  refine mm_iload_n 1 rfl dX7_batch_0 rfl 1 rfl ?_
  refine ca_X7_186 4 rfl dX7_batch_1 (ct_X7_isHalf c1 ) (by decide) (Nat.le_of_ble_eq_true rfl) (fun z_1 => ?_)
  refine mm_if_ne 7 9 rfl dX7_batch_4 (by decide) (fun h_2 => ?_) (fun h_2 => ?_)
  · refine mm_aload_n 10 rfl dX7_batch_9 rfl 0 rfl ?_
    refine gt_X7_49 13 rfl dX7_batch_10 h0.1 ?_
    refine mm_bipush 15 rfl (v := 61) dX7_batch_13 (by decide) ?_
    refine ca_X7_189 18 rfl dX7_batch_15 h0.2.2.2.2.2.2.2.1 (ct_X0_begin 61 h0.2.2.2.2.2.2.2.1) (by decide) (Nat.le_of_ble_eq_true rfl) (fun z_3 => ?_)
    refine mm_gets 21 rfl dX7_batch_18 0 (by decide) mw_2_221 ?_
    refine mm_iconst 22 rfl (v := 1) dX7_batch_21 (by decide) ?_
    refine mm_saldK 23 rfl dX7_batch_22 (by decide) (by decide) 1 (by decide) ?_
    refine mm_bI (fun x2_4 => ?_)
    refine mm_istore_n 24 rfl dX7_batch_23 rfl (lv' := [(2, .int x2_4), (0, .ref (mm_ad G 0)), (1, .int c1)]) (by decide) rfl ?_
    refine mm_lv [1, 2, 0] rfl (th_X7_batch_L24 h0 (fun M_10 => ?_) mm_fu _ _)
    refine mm_aload_n 78 rfl dX7_batch_77 rfl 0 rfl ?_
    refine gt_X7_49 81 rfl dX7_batch_78 h0.1 ?_
    refine mm_iload_n 82 rfl dX7_batch_81 rfl 1 rfl ?_
    refine ca_X7_200 85 rfl dX7_batch_82 h0.2.2.2.2.2.2.2.1 (ct_X0_tell c1 h0.2.2.2.2.2.2.2.1) (by decide) (Nat.le_of_ble_eq_true rfl) (fun z_12 => ?_)
    exact mm_iret dX7_batch_85 rfl rfl
  · refine mm_iconst 8 rfl (v := (-1)) dX7_batch_7 (by decide) ?_
    exact mm_iret dX7_batch_8 rfl rfl

-- MangleLine.swap(I)I
noncomputable def fn_X7_swap_L37 (c1 : Int32) (c2 : Int32) (k : mm_M → Option (Int32 × mm_M)) : Nat → Int32 → mm_M → Option (Int32 × mm_M)
  | 0, _, _ => none
  | n + 1, x3, M => (if (M 1 0) ≤ x3 then k  M else ((fn_X2_become 8 1 M).bind fun z_8 => ((fn_X2_exchange 8 c2 x3 z_8).bind fun z_9 => ((fn_X2_daysTillDone 8 60 z_9).bind fun z_10 => ((fn_X0_offer ((10 * c2) + x3) z_10.1 z_10.2).bind fun z_11 => fn_X7_swap_L37 c1 c2 k n (x3 + 1) z_11)))))
set_option maxRecDepth 20000 in
set_option maxHeartbeats 4000000 in
theorem th_X7_swap_L37 {X : mm_X} {G : mm_G} {sh : mm_S} {c1 : Int32} {c2 : Int32} {k : mm_M → Option (Int32 × mm_M)} (h0 : mm_isMli G sh) (hk : ∀ (M : mm_M), mm_T X G (cX7_swap, 4, RX7, (some .int), 6) (mm_fi sh) sh M 96 [(0, .ref (mm_ad G 0)), (1, .int c1), (2, .int c2)] [] (k  M)) : ∀ (n : Nat) (x3 : Int32) (M : mm_M), mm_T X G (cX7_swap, 4, RX7, (some .int), 6) (mm_fi sh) sh M 37 [(0, .ref (mm_ad G 0)), (1, .int c1), (2, .int c2), (3, .int x3)] [] (fn_X7_swap_L37 c1 c2 k n x3 M) := by
  intro n
  induction n with
  | zero => intro x3 M; exact mm_none
  | succ n ih =>
    intro x3 M
    rw [fn_X7_swap_L37]
    refine mm_iload_n 38 rfl dX7_swap_37 rfl 3 rfl ?_
    refine mm_aload_n 39 rfl dX7_swap_38 rfl 0 rfl ?_
    refine gt_X7_12 42 rfl dX7_swap_39 h0.1 ?_
    refine gt_X7_101 45 rfl dX7_swap_42 h0.2.1.1 ?_
    refine mm_icmp_ge 48 96 rfl dX7_swap_45 (by decide) (fun h_7 => ?_) (fun h_7 => ?_)
    · exact mm_lv [0, 1, 2] rfl (hk _)
    · refine mm_aload_n 49 rfl dX7_swap_48 rfl 0 rfl ?_
      refine gt_X7_16 52 rfl dX7_swap_49 h0.1 ?_
      refine mm_aload_n 53 rfl dX7_swap_52 rfl 0 rfl ?_
      refine gt_X7_12 56 rfl dX7_swap_53 h0.1 ?_
      refine ca_X7_87 59 rfl dX7_swap_56 h0.2.2.1.1 (ct_X2_become 8 1 h0.2.2.1 h0.2.1) (by decide) (Nat.le_of_ble_eq_true rfl) (fun z_8 => ?_)
      refine mm_aload_n 60 rfl dX7_swap_59 rfl 0 rfl ?_
      refine gt_X7_16 63 rfl dX7_swap_60 h0.1 ?_
      refine mm_iload_n 64 rfl dX7_swap_63 rfl 2 rfl ?_
      refine mm_iload_n 65 rfl dX7_swap_64 rfl 3 rfl ?_
      refine ca_X7_202 68 rfl dX7_swap_65 h0.2.2.1.1 (ct_X2_exchange 8 c2 x3 h0.2.2.1) (by decide) (Nat.le_of_ble_eq_true rfl) (fun z_9 => ?_)
      refine mm_aload_n 69 rfl dX7_swap_68 rfl 0 rfl ?_
      refine gt_X7_49 72 rfl dX7_swap_69 h0.1 ?_
      refine mm_bipush 74 rfl (v := 10) dX7_swap_72 (by decide) ?_
      refine mm_iload_n 75 rfl dX7_swap_74 rfl 2 rfl ?_
      refine mm_imul 76 rfl dX7_swap_75 ?_
      refine mm_iload_n 77 rfl dX7_swap_76 rfl 3 rfl ?_
      refine mm_iadd 78 rfl dX7_swap_77 ?_
      refine mm_aload_n 79 rfl dX7_swap_78 rfl 0 rfl ?_
      refine gt_X7_16 82 rfl dX7_swap_79 h0.1 ?_
      refine mm_bipush 84 rfl (v := 60) dX7_swap_82 (by decide) ?_
      refine ca_X7_193 87 rfl dX7_swap_84 h0.2.2.1.1 (ct_X2_daysTillDone 8 60 h0.2.2.1) (by decide) (Nat.le_of_ble_eq_true rfl) (fun z_10 => ?_)
      refine ca_X7_196 90 rfl dX7_swap_87 h0.2.2.2.2.2.2.2.1 (ct_X0_offer ((10 * c2) + x3) z_10.1 h0.2.2.2.2.2.2.2.1) (by decide) (Nat.le_of_ble_eq_true rfl) (fun z_11 => ?_)
      refine mm_iinc 93 rfl dX7_swap_90 3 rfl (v := (x3 + 1)) rfl (lv' := [(3, .int (x3 + 1)), (0, .ref (mm_ad G 0)), (1, .int c1), (2, .int c2)]) (by decide) rfl ?_
      refine mm_goto 37 dX7_swap_93 (by decide) ?_
      exact mm_lv [1, 2, 3, 0] rfl (ih _ _)
noncomputable def fn_X7_swap_L22 (c1 : Int32) (k : mm_M → Option (Int32 × mm_M)) : Nat → Int32 → mm_M → Option (Int32 × mm_M)
  | 0, _, _ => none
  | n + 1, x2, M => (if (M 1 0) ≤ x2 then k  M else mm_let (x2 + 1) fun x3_6 => fn_X7_swap_L37 c1 x2 (fun M_12 => fn_X7_swap_L22 c1 k n (x2 + 1) M_12) mm_fu x3_6 M)
set_option maxRecDepth 20000 in
set_option maxHeartbeats 4000000 in
theorem th_X7_swap_L22 {X : mm_X} {G : mm_G} {sh : mm_S} {c1 : Int32} {k : mm_M → Option (Int32 × mm_M)} (h0 : mm_isMli G sh) (hk : ∀ (M : mm_M), mm_T X G (cX7_swap, 4, RX7, (some .int), 6) (mm_fi sh) sh M 102 [(0, .ref (mm_ad G 0)), (1, .int c1)] [] (k  M)) : ∀ (n : Nat) (x2 : Int32) (M : mm_M), mm_T X G (cX7_swap, 4, RX7, (some .int), 6) (mm_fi sh) sh M 22 [(0, .ref (mm_ad G 0)), (1, .int c1), (2, .int x2)] [] (fn_X7_swap_L22 c1 k n x2 M) := by
  intro n
  induction n with
  | zero => intro x2 M; exact mm_none
  | succ n ih =>
    intro x2 M
    rw [fn_X7_swap_L22]
    refine mm_iload_n 23 rfl dX7_swap_22 rfl 2 rfl ?_
    refine mm_aload_n 24 rfl dX7_swap_23 rfl 0 rfl ?_
    refine gt_X7_12 27 rfl dX7_swap_24 h0.1 ?_
    refine gt_X7_101 30 rfl dX7_swap_27 h0.2.1.1 ?_
    refine mm_icmp_ge 33 102 rfl dX7_swap_30 (by decide) (fun h_5 => ?_) (fun h_5 => ?_)
    · exact mm_lv [0, 1] rfl (hk _)
    · refine mm_iload_n 34 rfl dX7_swap_33 rfl 2 rfl ?_
      refine mm_iconst 35 rfl (v := 1) dX7_swap_34 (by decide) ?_
      refine mm_iadd 36 rfl dX7_swap_35 ?_
      refine mm_bI (fun x3_6 => ?_)
      refine mm_istore_n 37 rfl dX7_swap_36 rfl (lv' := [(3, .int x3_6), (0, .ref (mm_ad G 0)), (1, .int c1), (2, .int x2)]) (by decide) rfl ?_
      refine mm_lv [1, 2, 3, 0] rfl (th_X7_swap_L37 h0 (fun M_12 => ?_) mm_fu _ _)
      refine mm_iinc 99 rfl dX7_swap_96 2 rfl (v := (x2 + 1)) rfl (lv' := [(2, .int (x2 + 1)), (0, .ref (mm_ad G 0)), (1, .int c1)]) (by decide) rfl ?_
      refine mm_goto 22 dX7_swap_99 (by decide) ?_
      exact mm_lv [1, 2, 0] rfl (ih _ _)
noncomputable def fn_X7_swap (c1 : Int32) (M : mm_M) : Option (Int32 × mm_M) :=
  ((fn_X7_isHalf c1 M).bind fun z_1 => (if z_1.1 = 0 then some ((-1), z_1.2) else ((fn_X7_daysAsItIs  z_1.2).bind fun z_3 => ((fn_X0_begin z_3.1 z_3.2).bind fun z_4 => fn_X7_swap_L22 c1 (fun M_14 => ((fn_X0_tell c1 M_14).bind fun z_16 => some (z_16.1, z_16.2))) mm_fu 0 z_4))))
set_option maxRecDepth 20000 in
set_option maxHeartbeats 4000000 in
theorem ct_X7_swap {l : Launch} {G : mm_G} {sh : mm_S} {M : mm_M} (c1 : Int32) (h0 : mm_isMli G sh) : mm_K l G yX7_swap (cX7_swap, 4, RX7, (some .int), 6) [.ref (mm_ad G 0), .int c1] (mm_fi sh) sh M (fn_X7_swap c1 M) := by
  refine mm_met (by decide +kernel) rfl (Nat.le_of_ble_eq_true rfl) (fun X hX => ?_)
  subst hX
  show mm_T X G (cX7_swap, 4, RX7, (some .int), 6) (mm_fi sh) sh M 0 [(0, .ref (mm_ad G 0)), (1, .int c1)] [] (fn_X7_swap c1 M)
  unfold fn_X7_swap
  refine mm_iload_n 1 rfl dX7_swap_0 rfl 1 rfl ?_
  refine ca_X7_186 4 rfl dX7_swap_1 (ct_X7_isHalf c1 ) (by decide) (Nat.le_of_ble_eq_true rfl) (fun z_1 => ?_)
  refine mm_if_ne 7 9 rfl dX7_swap_4 (by decide) (fun h_2 => ?_) (fun h_2 => ?_)
  · refine mm_aload_n 10 rfl dX7_swap_9 rfl 0 rfl ?_
    refine gt_X7_49 13 rfl dX7_swap_10 h0.1 ?_
    refine mm_aload_n 14 rfl dX7_swap_13 rfl 0 rfl ?_
    refine ca_X7_180 17 rfl dX7_swap_14 h0.1 (ct_X7_daysAsItIs  h0) (by decide) (Nat.le_of_ble_eq_true rfl) (fun z_3 => ?_)
    refine ca_X7_189 20 rfl dX7_swap_17 h0.2.2.2.2.2.2.2.1 (ct_X0_begin z_3.1 h0.2.2.2.2.2.2.2.1) (by decide) (Nat.le_of_ble_eq_true rfl) (fun z_4 => ?_)
    refine mm_iconst 21 rfl (v := 0) dX7_swap_20 (by decide) ?_
    refine mm_istore_n 22 rfl dX7_swap_21 rfl (lv' := [(2, .int 0), (0, .ref (mm_ad G 0)), (1, .int c1)]) (by decide) rfl ?_
    refine mm_lv [1, 2, 0] rfl (th_X7_swap_L22 h0 (fun M_14 => ?_) mm_fu _ _)
    refine mm_aload_n 103 rfl dX7_swap_102 rfl 0 rfl ?_
    refine gt_X7_49 106 rfl dX7_swap_103 h0.1 ?_
    refine mm_iload_n 107 rfl dX7_swap_106 rfl 1 rfl ?_
    refine ca_X7_200 110 rfl dX7_swap_107 h0.2.2.2.2.2.2.2.1 (ct_X0_tell c1 h0.2.2.2.2.2.2.2.1) (by decide) (Nat.le_of_ble_eq_true rfl) (fun z_16 => ?_)
    exact mm_iret dX7_swap_110 rfl rfl
  · refine mm_iconst 8 rfl (v := (-1)) dX7_swap_7 (by decide) ?_
    exact mm_iret dX7_swap_8 rfl rfl

-- MangleLine.fair(I)I
noncomputable def fn_X7_fair_L22 (c1 : Int32) (k : mm_M → Option (Int32 × mm_M)) : Nat → Int32 → mm_M → Option (Int32 × mm_M)
  | 0, _, _ => none
  | n + 1, x2, M => (if 7 ≤ x2 then k  M else ((fn_X2_become 8 1 M).bind fun z_6 => (if mm_in x2 7 then (mm_let (mm_up z_6 14 x2.toNatClampNeg 9) fun M_7 => ((fn_X2_daysTillDone 8 60 M_7).bind fun z_9 => ((fn_X0_offer x2 z_9.1 z_9.2).bind fun z_10 => fn_X7_fair_L22 c1 k n (x2 + 1) z_10))) else none)))
set_option maxRecDepth 20000 in
set_option maxHeartbeats 4000000 in
theorem th_X7_fair_L22 {X : mm_X} {G : mm_G} {sh : mm_S} {c1 : Int32} {k : mm_M → Option (Int32 × mm_M)} (h0 : mm_isMli G sh) (hk : ∀ (M : mm_M), mm_T X G (cX7_fair, 3, RX7, (some .int), 6) (mm_fi sh) sh M 73 [(0, .ref (mm_ad G 0)), (1, .int c1)] [] (k  M)) : ∀ (n : Nat) (x2 : Int32) (M : mm_M), mm_T X G (cX7_fair, 3, RX7, (some .int), 6) (mm_fi sh) sh M 22 [(0, .ref (mm_ad G 0)), (1, .int c1), (2, .int x2)] [] (fn_X7_fair_L22 c1 k n x2 M) := by
  intro n
  induction n with
  | zero => intro x2 M; exact mm_none
  | succ n ih =>
    intro x2 M
    rw [fn_X7_fair_L22]
    refine mm_iload_n 23 rfl dX7_fair_22 rfl 2 rfl ?_
    refine mm_bipush 25 rfl (v := 7) dX7_fair_23 (by decide) ?_
    refine mm_icmp_ge 28 73 rfl dX7_fair_25 (by decide) (fun h_5 => ?_) (fun h_5 => ?_)
    · exact mm_lv [0, 1] rfl (hk _)
    · refine mm_aload_n 29 rfl dX7_fair_28 rfl 0 rfl ?_
      refine gt_X7_16 32 rfl dX7_fair_29 h0.1 ?_
      refine mm_aload_n 33 rfl dX7_fair_32 rfl 0 rfl ?_
      refine gt_X7_12 36 rfl dX7_fair_33 h0.1 ?_
      refine ca_X7_87 39 rfl dX7_fair_36 h0.2.2.1.1 (ct_X2_become 8 1 h0.2.2.1 h0.2.1) (by decide) (Nat.le_of_ble_eq_true rfl) (fun z_6 => ?_)
      refine mm_aload_n 40 rfl dX7_fair_39 rfl 0 rfl ?_
      refine gt_X7_16 43 rfl dX7_fair_40 h0.1 ?_
      refine gt_X7_144 46 rfl dX7_fair_43 h0.2.2.1.1 ?_
      refine mm_iload_n 47 rfl dX7_fair_46 rfl 2 rfl ?_
      refine mm_bipush 49 rfl (v := 9) dX7_fair_47 (by decide) ?_
      refine mm_iast 50 rfl dX7_fair_49 h0.2.2.1.2.2.2.2.2.2 (fun h_8 => ?_)
      refine mm_bM (fun M_7 => ?_)
      refine mm_aload_n 51 rfl dX7_fair_50 rfl 0 rfl ?_
      refine gt_X7_49 54 rfl dX7_fair_51 h0.1 ?_
      refine mm_iload_n 55 rfl dX7_fair_54 rfl 2 rfl ?_
      refine mm_aload_n 56 rfl dX7_fair_55 rfl 0 rfl ?_
      refine gt_X7_16 59 rfl dX7_fair_56 h0.1 ?_
      refine mm_bipush 61 rfl (v := 60) dX7_fair_59 (by decide) ?_
      refine ca_X7_193 64 rfl dX7_fair_61 h0.2.2.1.1 (ct_X2_daysTillDone 8 60 h0.2.2.1) (by decide) (Nat.le_of_ble_eq_true rfl) (fun z_9 => ?_)
      refine ca_X7_196 67 rfl dX7_fair_64 h0.2.2.2.2.2.2.2.1 (ct_X0_offer x2 z_9.1 h0.2.2.2.2.2.2.2.1) (by decide) (Nat.le_of_ble_eq_true rfl) (fun z_10 => ?_)
      refine mm_iinc 70 rfl dX7_fair_67 2 rfl (v := (x2 + 1)) rfl (lv' := [(2, .int (x2 + 1)), (0, .ref (mm_ad G 0)), (1, .int c1)]) (by decide) rfl ?_
      refine mm_goto 22 dX7_fair_70 (by decide) ?_
      exact mm_lv [1, 2, 0] rfl (ih _ _)
noncomputable def fn_X7_fair (c1 : Int32) (M : mm_M) : Option (Int32 × mm_M) :=
  ((fn_X7_isHalf c1 M).bind fun z_1 => (if z_1.1 = 0 then some ((-1), z_1.2) else ((fn_X7_daysAsItIs  z_1.2).bind fun z_3 => ((fn_X0_begin z_3.1 z_3.2).bind fun z_4 => fn_X7_fair_L22 c1 (fun M_11 => ((fn_X0_tell c1 M_11).bind fun z_13 => some (z_13.1, z_13.2))) mm_fu 0 z_4))))
set_option maxRecDepth 20000 in
set_option maxHeartbeats 4000000 in
theorem ct_X7_fair {l : Launch} {G : mm_G} {sh : mm_S} {M : mm_M} (c1 : Int32) (h0 : mm_isMli G sh) : mm_K l G yX7_fair (cX7_fair, 3, RX7, (some .int), 6) [.ref (mm_ad G 0), .int c1] (mm_fi sh) sh M (fn_X7_fair c1 M) := by
  refine mm_met (by decide +kernel) rfl (Nat.le_of_ble_eq_true rfl) (fun X hX => ?_)
  subst hX
  show mm_T X G (cX7_fair, 3, RX7, (some .int), 6) (mm_fi sh) sh M 0 [(0, .ref (mm_ad G 0)), (1, .int c1)] [] (fn_X7_fair c1 M)
  unfold fn_X7_fair
  refine mm_iload_n 1 rfl dX7_fair_0 rfl 1 rfl ?_
  refine ca_X7_186 4 rfl dX7_fair_1 (ct_X7_isHalf c1 ) (by decide) (Nat.le_of_ble_eq_true rfl) (fun z_1 => ?_)
  refine mm_if_ne 7 9 rfl dX7_fair_4 (by decide) (fun h_2 => ?_) (fun h_2 => ?_)
  · refine mm_aload_n 10 rfl dX7_fair_9 rfl 0 rfl ?_
    refine gt_X7_49 13 rfl dX7_fair_10 h0.1 ?_
    refine mm_aload_n 14 rfl dX7_fair_13 rfl 0 rfl ?_
    refine ca_X7_180 17 rfl dX7_fair_14 h0.1 (ct_X7_daysAsItIs  h0) (by decide) (Nat.le_of_ble_eq_true rfl) (fun z_3 => ?_)
    refine ca_X7_189 20 rfl dX7_fair_17 h0.2.2.2.2.2.2.2.1 (ct_X0_begin z_3.1 h0.2.2.2.2.2.2.2.1) (by decide) (Nat.le_of_ble_eq_true rfl) (fun z_4 => ?_)
    refine mm_iconst 21 rfl (v := 0) dX7_fair_20 (by decide) ?_
    refine mm_istore_n 22 rfl dX7_fair_21 rfl (lv' := [(2, .int 0), (0, .ref (mm_ad G 0)), (1, .int c1)]) (by decide) rfl ?_
    refine mm_lv [1, 2, 0] rfl (th_X7_fair_L22 h0 (fun M_11 => ?_) mm_fu _ _)
    refine mm_aload_n 74 rfl dX7_fair_73 rfl 0 rfl ?_
    refine gt_X7_49 77 rfl dX7_fair_74 h0.1 ?_
    refine mm_iload_n 78 rfl dX7_fair_77 rfl 1 rfl ?_
    refine ca_X7_200 81 rfl dX7_fair_78 h0.2.2.2.2.2.2.2.1 (ct_X0_tell c1 h0.2.2.2.2.2.2.2.1) (by decide) (Nat.le_of_ble_eq_true rfl) (fun z_13 => ?_)
    exact mm_iret dX7_fair_81 rfl rfl
  · refine mm_iconst 8 rfl (v := (-1)) dX7_fair_7 (by decide) ?_
    exact mm_iret dX7_fair_8 rfl rfl

-- MangleLine.stain(II)I
noncomputable def fn_X7_stain_L23 (c1 : Int32) (c2 : Int32) (k0 : Int32 → mm_M → Option (Int32 × mm_M)) (k1 : mm_M → Option (Int32 × mm_M)) : Nat → Int32 → mm_M → Option (Int32 × mm_M)
  | 0, _, _ => none
  | n + 1, x3, M => (if x3 < 0 then k1  M else ((fn_X2_become 8 1 M).bind fun z_6 => (if mm_in c1 6 then (mm_let (mm_up z_6 10 c1.toNatClampNeg x3) fun M_7 => ((fn_X2_daysTillHome 8 c1 c2 M_7).bind fun z_9 => (if z_9.1 = 61 then fn_X7_stain_L23 c1 c2 k0 k1 n (x3 + (-1)) z_9.2 else k0 x3 z_9.2))) else none)))
set_option maxRecDepth 20000 in
set_option maxHeartbeats 4000000 in
theorem th_X7_stain_L23 {X : mm_X} {G : mm_G} {sh : mm_S} {c1 : Int32} {c2 : Int32} {k0 : Int32 → mm_M → Option (Int32 × mm_M)} {k1 : mm_M → Option (Int32 × mm_M)} (h0 : mm_isMli G sh) (hk0 : ∀ (x3 : Int32) (M : mm_M), mm_T X G (cX7_stain, 4, RX7, (some .int), 5) (mm_fi sh) sh M 62 [(3, .int x3)] [] (k0 x3 M)) (hk1 : ∀ (M : mm_M), mm_T X G (cX7_stain, 4, RX7, (some .int), 5) (mm_fi sh) sh M 70 [] [] (k1  M)) : ∀ (n : Nat) (x3 : Int32) (M : mm_M), mm_T X G (cX7_stain, 4, RX7, (some .int), 5) (mm_fi sh) sh M 23 [(0, .ref (mm_ad G 0)), (1, .int c1), (2, .int c2), (3, .int x3)] [] (fn_X7_stain_L23 c1 c2 k0 k1 n x3 M) := by
  intro n
  induction n with
  | zero => intro x3 M; exact mm_none
  | succ n ih =>
    intro x3 M
    rw [fn_X7_stain_L23]
    refine mm_iload_n 24 rfl dX7_stain_23 rfl 3 rfl ?_
    refine mm_if_lt 27 70 rfl dX7_stain_24 (by decide) (fun h_5 => ?_) (fun h_5 => ?_)
    · exact mm_lv [] rfl (hk1 _)
    · refine mm_aload_n 28 rfl dX7_stain_27 rfl 0 rfl ?_
      refine gt_X7_16 31 rfl dX7_stain_28 h0.1 ?_
      refine mm_aload_n 32 rfl dX7_stain_31 rfl 0 rfl ?_
      refine gt_X7_12 35 rfl dX7_stain_32 h0.1 ?_
      refine ca_X7_87 38 rfl dX7_stain_35 h0.2.2.1.1 (ct_X2_become 8 1 h0.2.2.1 h0.2.1) (by decide) (Nat.le_of_ble_eq_true rfl) (fun z_6 => ?_)
      refine mm_aload_n 39 rfl dX7_stain_38 rfl 0 rfl ?_
      refine gt_X7_16 42 rfl dX7_stain_39 h0.1 ?_
      refine gt_X7_125 45 rfl dX7_stain_42 h0.2.2.1.1 ?_
      refine mm_iload_n 46 rfl dX7_stain_45 rfl 1 rfl ?_
      refine mm_iload_n 47 rfl dX7_stain_46 rfl 3 rfl ?_
      refine mm_iast 48 rfl dX7_stain_47 h0.2.2.1.2.2.1 (fun h_8 => ?_)
      refine mm_bM (fun M_7 => ?_)
      refine mm_aload_n 49 rfl dX7_stain_48 rfl 0 rfl ?_
      refine gt_X7_16 52 rfl dX7_stain_49 h0.1 ?_
      refine mm_iload_n 53 rfl dX7_stain_52 rfl 1 rfl ?_
      refine mm_iload_n 54 rfl dX7_stain_53 rfl 2 rfl ?_
      refine ca_X7_174 57 rfl dX7_stain_54 h0.2.2.1.1 (ct_X2_daysTillHome 8 c1 c2 h0.2.2.1) (by decide) (Nat.le_of_ble_eq_true rfl) (fun z_9 => ?_)
      refine mm_bipush 59 rfl (v := 61) dX7_stain_57 (by decide) ?_
      refine mm_icmp_eq 62 64 rfl dX7_stain_59 (by decide) (fun h_10 => ?_) (fun h_10 => ?_)
      · refine mm_iinc 67 rfl dX7_stain_64 3 rfl (v := (x3 + (-1))) rfl (lv' := [(3, .int (x3 + (-1))), (0, .ref (mm_ad G 0)), (1, .int c1), (2, .int c2)]) (by decide) rfl ?_
        refine mm_goto 23 dX7_stain_67 (by decide) ?_
        exact mm_lv [1, 2, 3, 0] rfl (ih _ _)
      · exact mm_lv [3] rfl (hk0 _ _)
noncomputable def fn_X7_stain (c1 : Int32) (c2 : Int32) (M : mm_M) : Option (Int32 × mm_M) :=
  ((fn_X7_isOne c1 M).bind fun z_1 => (if z_1.1 = 0 then some ((-1), z_1.2) else ((fn_X7_within c2 0 60 z_1.2).bind fun z_3 => (if z_3.1 = 0 then some ((-1), z_3.2) else fn_X7_stain_L23 c1 c2 (fun x3_11 M_12 => some (x3_11, M_12)) (fun M_14 => some ((-4), M_14)) mm_fu 60 z_3.2))))
set_option maxRecDepth 20000 in
set_option maxHeartbeats 4000000 in
theorem ct_X7_stain {l : Launch} {G : mm_G} {sh : mm_S} {M : mm_M} (c1 : Int32) (c2 : Int32) (h0 : mm_isMli G sh) : mm_K l G yX7_stain (cX7_stain, 4, RX7, (some .int), 5) [.ref (mm_ad G 0), .int c1, .int c2] (mm_fi sh) sh M (fn_X7_stain c1 c2 M) := by
  refine mm_met (by decide +kernel) rfl (Nat.le_of_ble_eq_true rfl) (fun X hX => ?_)
  subst hX
  show mm_T X G (cX7_stain, 4, RX7, (some .int), 5) (mm_fi sh) sh M 0 [(0, .ref (mm_ad G 0)), (1, .int c1), (2, .int c2)] [] (fn_X7_stain c1 c2 M)
  unfold fn_X7_stain
  refine mm_aload_n 1 rfl dX7_stain_0 rfl 0 rfl ?_
  refine mm_iload_n 2 rfl dX7_stain_1 rfl 1 rfl ?_
  refine ca_X7_119 5 rfl dX7_stain_2 h0.1 (ct_X7_isOne c1 h0) (by decide) (Nat.le_of_ble_eq_true rfl) (fun z_1 => ?_)
  refine mm_if_eq 8 18 rfl dX7_stain_5 (by decide) (fun h_2 => ?_) (fun h_2 => ?_)
  · refine mm_iconst 19 rfl (v := (-1)) dX7_stain_18 (by decide) ?_
    exact mm_iret dX7_stain_19 rfl rfl
  · refine mm_iload_n 9 rfl dX7_stain_8 rfl 2 rfl ?_
    refine mm_iconst 10 rfl (v := 0) dX7_stain_9 (by decide) ?_
    refine mm_bipush 12 rfl (v := 60) dX7_stain_10 (by decide) ?_
    refine ca_X7_71 15 rfl dX7_stain_12 (ct_X7_within c2 0 60 ) (by decide) (Nat.le_of_ble_eq_true rfl) (fun z_3 => ?_)
    refine mm_if_ne 18 20 rfl dX7_stain_15 (by decide) (fun h_4 => ?_) (fun h_4 => ?_)
    · refine mm_bipush 22 rfl (v := 60) dX7_stain_20 (by decide) ?_
      refine mm_istore_n 23 rfl dX7_stain_22 rfl (lv' := [(3, .int 60), (0, .ref (mm_ad G 0)), (1, .int c1), (2, .int c2)]) (by decide) rfl ?_
      refine mm_lv [1, 2, 3, 0] rfl (th_X7_stain_L23 h0 (fun x3_11 M_12 => ?_) (fun M_14 => ?_) mm_fu _ _)
      · refine mm_iload_n 63 rfl dX7_stain_62 rfl 0 rfl ?_
        exact mm_iret dX7_stain_63 rfl rfl
      · refine mm_bipush 72 rfl (v := (-4)) dX7_stain_70 (by decide) ?_
        exact mm_iret dX7_stain_72 rfl rfl
    · refine mm_iconst 19 rfl (v := (-1)) dX7_stain_18 (by decide) ?_
      exact mm_iret dX7_stain_19 rfl rfl

-- MangleLine.kind(II)I
noncomputable def fn_X7_kind_L28 (c1 : Int32) (c2 : Int32) (k : mm_M → Option (Int32 × mm_M)) : Nat → Int32 → mm_M → Option (Int32 × mm_M)
  | 0, _, _ => none
  | n + 1, x3, M => (if 4 ≤ x3 then k  M else ((fn_X2_become 8 1 M).bind fun z_7 => (if mm_in c1 6 then (mm_let (mm_up z_7 9 c1.toNatClampNeg x3) fun M_8 => ((fn_X2_daysTillDone 8 60 M_8).bind fun z_10 => ((fn_X0_offer x3 z_10.1 z_10.2).bind fun z_11 => fn_X7_kind_L28 c1 c2 k n (x3 + 1) z_11))) else none)))
set_option maxRecDepth 20000 in
set_option maxHeartbeats 4000000 in
theorem th_X7_kind_L28 {X : mm_X} {G : mm_G} {sh : mm_S} {c1 : Int32} {c2 : Int32} {k : mm_M → Option (Int32 × mm_M)} (h0 : mm_isMli G sh) (hk : ∀ (M : mm_M), mm_T X G (cX7_kind, 4, RX7, (some .int), 5) (mm_fi sh) sh M 77 [(0, .ref (mm_ad G 0)), (2, .int c2)] [] (k  M)) : ∀ (n : Nat) (x3 : Int32) (M : mm_M), mm_T X G (cX7_kind, 4, RX7, (some .int), 5) (mm_fi sh) sh M 28 [(0, .ref (mm_ad G 0)), (1, .int c1), (2, .int c2), (3, .int x3)] [] (fn_X7_kind_L28 c1 c2 k n x3 M) := by
  intro n
  induction n with
  | zero => intro x3 M; exact mm_none
  | succ n ih =>
    intro x3 M
    rw [fn_X7_kind_L28]
    refine mm_iload_n 29 rfl dX7_kind_28 rfl 3 rfl ?_
    refine mm_iconst 30 rfl (v := 4) dX7_kind_29 (by decide) ?_
    refine mm_icmp_ge 33 77 rfl dX7_kind_30 (by decide) (fun h_6 => ?_) (fun h_6 => ?_)
    · exact mm_lv [0, 2] rfl (hk _)
    · refine mm_aload_n 34 rfl dX7_kind_33 rfl 0 rfl ?_
      refine gt_X7_16 37 rfl dX7_kind_34 h0.1 ?_
      refine mm_aload_n 38 rfl dX7_kind_37 rfl 0 rfl ?_
      refine gt_X7_12 41 rfl dX7_kind_38 h0.1 ?_
      refine ca_X7_87 44 rfl dX7_kind_41 h0.2.2.1.1 (ct_X2_become 8 1 h0.2.2.1 h0.2.1) (by decide) (Nat.le_of_ble_eq_true rfl) (fun z_7 => ?_)
      refine mm_aload_n 45 rfl dX7_kind_44 rfl 0 rfl ?_
      refine gt_X7_16 48 rfl dX7_kind_45 h0.1 ?_
      refine gt_X7_122 51 rfl dX7_kind_48 h0.2.2.1.1 ?_
      refine mm_iload_n 52 rfl dX7_kind_51 rfl 1 rfl ?_
      refine mm_iload_n 53 rfl dX7_kind_52 rfl 3 rfl ?_
      refine mm_iast 54 rfl dX7_kind_53 h0.2.2.1.2.1 (fun h_9 => ?_)
      refine mm_bM (fun M_8 => ?_)
      refine mm_aload_n 55 rfl dX7_kind_54 rfl 0 rfl ?_
      refine gt_X7_49 58 rfl dX7_kind_55 h0.1 ?_
      refine mm_iload_n 59 rfl dX7_kind_58 rfl 3 rfl ?_
      refine mm_aload_n 60 rfl dX7_kind_59 rfl 0 rfl ?_
      refine gt_X7_16 63 rfl dX7_kind_60 h0.1 ?_
      refine mm_bipush 65 rfl (v := 60) dX7_kind_63 (by decide) ?_
      refine ca_X7_193 68 rfl dX7_kind_65 h0.2.2.1.1 (ct_X2_daysTillDone 8 60 h0.2.2.1) (by decide) (Nat.le_of_ble_eq_true rfl) (fun z_10 => ?_)
      refine ca_X7_196 71 rfl dX7_kind_68 h0.2.2.2.2.2.2.2.1 (ct_X0_offer x3 z_10.1 h0.2.2.2.2.2.2.2.1) (by decide) (Nat.le_of_ble_eq_true rfl) (fun z_11 => ?_)
      refine mm_iinc 74 rfl dX7_kind_71 3 rfl (v := (x3 + 1)) rfl (lv' := [(3, .int (x3 + 1)), (0, .ref (mm_ad G 0)), (1, .int c1), (2, .int c2)]) (by decide) rfl ?_
      refine mm_goto 28 dX7_kind_74 (by decide) ?_
      exact mm_lv [1, 2, 3, 0] rfl (ih _ _)
noncomputable def fn_X7_kind (c1 : Int32) (c2 : Int32) (M : mm_M) : Option (Int32 × mm_M) :=
  ((fn_X7_isOne c1 M).bind fun z_1 => (if z_1.1 = 0 then some ((-1), z_1.2) else ((fn_X7_isHalf c2 z_1.2).bind fun z_3 => (if z_3.1 = 0 then some ((-1), z_3.2) else ((fn_X0_begin 61 z_3.2).bind fun z_5 => fn_X7_kind_L28 c1 c2 (fun M_12 => ((fn_X0_tell c2 M_12).bind fun z_14 => some (z_14.1, z_14.2))) mm_fu 0 z_5)))))
set_option maxRecDepth 20000 in
set_option maxHeartbeats 4000000 in
theorem ct_X7_kind {l : Launch} {G : mm_G} {sh : mm_S} {M : mm_M} (c1 : Int32) (c2 : Int32) (h0 : mm_isMli G sh) : mm_K l G yX7_kind (cX7_kind, 4, RX7, (some .int), 5) [.ref (mm_ad G 0), .int c1, .int c2] (mm_fi sh) sh M (fn_X7_kind c1 c2 M) := by
  refine mm_met (by decide +kernel) rfl (Nat.le_of_ble_eq_true rfl) (fun X hX => ?_)
  subst hX
  show mm_T X G (cX7_kind, 4, RX7, (some .int), 5) (mm_fi sh) sh M 0 [(0, .ref (mm_ad G 0)), (1, .int c1), (2, .int c2)] [] (fn_X7_kind c1 c2 M)
  unfold fn_X7_kind
  refine mm_aload_n 1 rfl dX7_kind_0 rfl 0 rfl ?_
  refine mm_iload_n 2 rfl dX7_kind_1 rfl 1 rfl ?_
  refine ca_X7_119 5 rfl dX7_kind_2 h0.1 (ct_X7_isOne c1 h0) (by decide) (Nat.le_of_ble_eq_true rfl) (fun z_1 => ?_)
  refine mm_if_eq 8 15 rfl dX7_kind_5 (by decide) (fun h_2 => ?_) (fun h_2 => ?_)
  · refine mm_iconst 16 rfl (v := (-1)) dX7_kind_15 (by decide) ?_
    exact mm_iret dX7_kind_16 rfl rfl
  · refine mm_iload_n 9 rfl dX7_kind_8 rfl 2 rfl ?_
    refine ca_X7_186 12 rfl dX7_kind_9 (ct_X7_isHalf c2 ) (by decide) (Nat.le_of_ble_eq_true rfl) (fun z_3 => ?_)
    refine mm_if_ne 15 17 rfl dX7_kind_12 (by decide) (fun h_4 => ?_) (fun h_4 => ?_)
    · refine mm_aload_n 18 rfl dX7_kind_17 rfl 0 rfl ?_
      refine gt_X7_49 21 rfl dX7_kind_18 h0.1 ?_
      refine mm_bipush 23 rfl (v := 61) dX7_kind_21 (by decide) ?_
      refine ca_X7_189 26 rfl dX7_kind_23 h0.2.2.2.2.2.2.2.1 (ct_X0_begin 61 h0.2.2.2.2.2.2.2.1) (by decide) (Nat.le_of_ble_eq_true rfl) (fun z_5 => ?_)
      refine mm_iconst 27 rfl (v := 0) dX7_kind_26 (by decide) ?_
      refine mm_istore_n 28 rfl dX7_kind_27 rfl (lv' := [(3, .int 0), (0, .ref (mm_ad G 0)), (1, .int c1), (2, .int c2)]) (by decide) rfl ?_
      refine mm_lv [1, 2, 3, 0] rfl (th_X7_kind_L28 h0 (fun M_12 => ?_) mm_fu _ _)
      refine mm_aload_n 78 rfl dX7_kind_77 rfl 0 rfl ?_
      refine gt_X7_49 81 rfl dX7_kind_78 h0.1 ?_
      refine mm_iload_n 82 rfl dX7_kind_81 rfl 1 rfl ?_
      refine ca_X7_200 85 rfl dX7_kind_82 h0.2.2.2.2.2.2.2.1 (ct_X0_tell c2 h0.2.2.2.2.2.2.2.1) (by decide) (Nat.le_of_ble_eq_true rfl) (fun z_14 => ?_)
      exact mm_iret dX7_kind_85 rfl rfl
    · refine mm_iconst 16 rfl (v := (-1)) dX7_kind_15 (by decide) ?_
      exact mm_iret dX7_kind_16 rfl rfl

-- MangleLine.see(III)I
noncomputable def fn_X7_see (c1 : Int32) (c2 : Int32) (c3 : Int32) (M : mm_M) : Option (Int32 × mm_M) :=
  ((fn_X7_within c1 0 20 M).bind fun z_1 => (if z_1.1 = 0 then some ((-1), z_1.2) else ((fn_X7_isOne c2 z_1.2).bind fun z_3 => (if z_3.1 = 0 then some ((-1), z_3.2) else ((fn_X7_within c3 0 2 z_3.2).bind fun z_5 => (if z_5.1 = 0 then some ((-1), z_5.2) else ((fn_X5_note 19 c1 c2 c3 z_5.2).bind fun z_7 => (if z_7.1 = 0 then some ((-3), z_7.2) else some ((z_7.2 19 0), z_7.2)))))))))
set_option maxRecDepth 20000 in
set_option maxHeartbeats 4000000 in
theorem ct_X7_see {l : Launch} {G : mm_G} {sh : mm_S} {M : mm_M} (c1 : Int32) (c2 : Int32) (c3 : Int32) (h0 : mm_isMli G sh) : mm_K l G yX7_see (cX7_see, 4, RX7, (some .int), 3) [.ref (mm_ad G 0), .int c1, .int c2, .int c3] (mm_fi sh) sh M (fn_X7_see c1 c2 c3 M) := by
  refine mm_met (by decide +kernel) rfl (Nat.le_of_ble_eq_true rfl) (fun X hX => ?_)
  subst hX
  show mm_T X G (cX7_see, 4, RX7, (some .int), 3) (mm_fi sh) sh M 0 [(0, .ref (mm_ad G 0)), (1, .int c1), (2, .int c2), (3, .int c3)] [] (fn_X7_see c1 c2 c3 M)
  unfold fn_X7_see
  refine mm_iload_n 1 rfl dX7_see_0 rfl 1 rfl ?_
  refine mm_iconst 2 rfl (v := 0) dX7_see_1 (by decide) ?_
  refine mm_bipush 4 rfl (v := 20) dX7_see_2 (by decide) ?_
  refine ca_X7_71 7 rfl dX7_see_4 (ct_X7_within c1 0 20 ) (by decide) (Nat.le_of_ble_eq_true rfl) (fun z_1 => ?_)
  refine mm_if_eq 10 27 rfl dX7_see_7 (by decide) (fun h_2 => ?_) (fun h_2 => ?_)
  · refine mm_iconst 28 rfl (v := (-1)) dX7_see_27 (by decide) ?_
    exact mm_iret dX7_see_28 rfl rfl
  · refine mm_aload_n 11 rfl dX7_see_10 rfl 0 rfl ?_
    refine mm_iload_n 12 rfl dX7_see_11 rfl 2 rfl ?_
    refine ca_X7_119 15 rfl dX7_see_12 h0.1 (ct_X7_isOne c2 h0) (by decide) (Nat.le_of_ble_eq_true rfl) (fun z_3 => ?_)
    refine mm_if_eq 18 27 rfl dX7_see_15 (by decide) (fun h_4 => ?_) (fun h_4 => ?_)
    · refine mm_iconst 28 rfl (v := (-1)) dX7_see_27 (by decide) ?_
      exact mm_iret dX7_see_28 rfl rfl
    · refine mm_iload_n 19 rfl dX7_see_18 rfl 3 rfl ?_
      refine mm_iconst 20 rfl (v := 0) dX7_see_19 (by decide) ?_
      refine mm_iconst 21 rfl (v := 2) dX7_see_20 (by decide) ?_
      refine ca_X7_71 24 rfl dX7_see_21 (ct_X7_within c3 0 2 ) (by decide) (Nat.le_of_ble_eq_true rfl) (fun z_5 => ?_)
      refine mm_if_ne 27 29 rfl dX7_see_24 (by decide) (fun h_6 => ?_) (fun h_6 => ?_)
      · refine mm_aload_n 30 rfl dX7_see_29 rfl 0 rfl ?_
        refine gt_X7_42 33 rfl dX7_see_30 h0.1 ?_
        refine mm_iload_n 34 rfl dX7_see_33 rfl 1 rfl ?_
        refine mm_iload_n 35 rfl dX7_see_34 rfl 2 rfl ?_
        refine mm_iload_n 36 rfl dX7_see_35 rfl 3 rfl ?_
        refine ca_X7_211 39 rfl dX7_see_36 h0.2.2.2.2.2.2.1.1 (ct_X5_note 19 c1 c2 c3 h0.2.2.2.2.2.2.1) (by decide) (Nat.le_of_ble_eq_true rfl) (fun z_7 => ?_)
        refine mm_if_eq 42 52 rfl dX7_see_39 (by decide) (fun h_8 => ?_) (fun h_8 => ?_)
        · refine mm_bipush 54 rfl (v := (-3)) dX7_see_52 (by decide) ?_
          exact mm_iret dX7_see_54 rfl rfl
        · refine mm_aload_n 43 rfl dX7_see_42 rfl 0 rfl ?_
          refine gt_X7_42 46 rfl dX7_see_43 h0.1 ?_
          refine gt_X7_91 49 rfl dX7_see_46 h0.2.2.2.2.2.2.1.1 ?_
          refine mm_goto 54 dX7_see_49 (by decide) ?_
          exact mm_iret dX7_see_54 rfl rfl
      · refine mm_iconst 28 rfl (v := (-1)) dX7_see_27 (by decide) ?_
        exact mm_iret dX7_see_28 rfl rfl

-- MangleLine.forget(I)I
noncomputable def fn_X7_forget (c1 : Int32) (M : mm_M) : Option (Int32 × mm_M) :=
  mm_let (M 19 0) fun x2_1 => ((fn_X7_within c1 0 x2_1 M).bind fun z_2 => (if z_2.1 = 0 then some ((-1), z_2.2) else mm_let (mm_up z_2.2 19 0 c1) fun M_4 => some (x2_1, M_4)))
set_option maxRecDepth 20000 in
set_option maxHeartbeats 4000000 in
theorem ct_X7_forget {l : Launch} {G : mm_G} {sh : mm_S} {M : mm_M} (c1 : Int32) (h0 : mm_isMli G sh) : mm_K l G yX7_forget (cX7_forget, 3, RX7, (some .int), 2) [.ref (mm_ad G 0), .int c1] (mm_fi sh) sh M (fn_X7_forget c1 M) := by
  refine mm_met (by decide +kernel) rfl (Nat.le_of_ble_eq_true rfl) (fun X hX => ?_)
  subst hX
  show mm_T X G (cX7_forget, 3, RX7, (some .int), 2) (mm_fi sh) sh M 0 [(0, .ref (mm_ad G 0)), (1, .int c1)] [] (fn_X7_forget c1 M)
  unfold fn_X7_forget
  refine mm_aload_n 1 rfl dX7_forget_0 rfl 0 rfl ?_
  refine gt_X7_42 4 rfl dX7_forget_1 h0.1 ?_
  refine gt_X7_91 7 rfl dX7_forget_4 h0.2.2.2.2.2.2.1.1 ?_
  refine mm_bI (fun x2_1 => ?_)
  refine mm_istore_n 8 rfl dX7_forget_7 rfl (lv' := [(2, .int x2_1), (0, .ref (mm_ad G 0)), (1, .int c1)]) (by decide) rfl ?_
  refine mm_iload_n 9 rfl dX7_forget_8 rfl 2 rfl ?_
  refine mm_iconst 10 rfl (v := 0) dX7_forget_9 (by decide) ?_
  refine mm_iload_n 11 rfl dX7_forget_10 rfl 0 rfl ?_
  refine ca_X7_71 14 rfl dX7_forget_11 (ct_X7_within c1 0 x2_1 ) (by decide) (Nat.le_of_ble_eq_true rfl) (fun z_2 => ?_)
  refine mm_if_ne 17 19 rfl dX7_forget_14 (by decide) (fun h_3 => ?_) (fun h_3 => ?_)
  · refine mm_aload_n 20 rfl dX7_forget_19 rfl 1 rfl ?_
    refine gt_X7_42 23 rfl dX7_forget_20 h0.1 ?_
    refine mm_iload_n 24 rfl dX7_forget_23 rfl 2 rfl ?_
    refine pt_X7_91 27 rfl dX7_forget_24 h0.2.2.2.2.2.2.1.1 ?_
    refine mm_bM (fun M_4 => ?_)
    refine mm_iload_n 28 rfl dX7_forget_27 rfl 0 rfl ?_
    exact mm_iret dX7_forget_28 rfl rfl
  · refine mm_iconst 18 rfl (v := (-1)) dX7_forget_17 (by decide) ?_
    exact mm_iret dX7_forget_18 rfl rfl

-- MangleLine.kinds(I)I
noncomputable def fn_X7_kinds_L14 (c1 : Int32) (k : Int32 → mm_M → Option (Int32 × mm_M)) : Nat → Int32 → Int32 → mm_M → Option (Int32 × mm_M)
  | 0, _, _, _ => none
  | n + 1, x2, x3, M => (if 4 ≤ x3 then k x2 M else ((fn_X2_become 8 1 M).bind fun z_4 => (if mm_in c1 6 then (mm_let (mm_up z_4 9 c1.toNatClampNeg x3) fun M_5 => ((fn_X5_agreeWith 19 8 M_5).bind fun z_7 => (if z_7.1 = 0 then fn_X7_kinds_L14 c1 k n x2 (x3 + 1) z_7.2 else mm_let (x2 ||| (1 <<< (x3 &&& 31))) fun x2_9 => fn_X7_kinds_L14 c1 k n x2_9 (x3 + 1) z_7.2))) else none)))
set_option maxRecDepth 20000 in
set_option maxHeartbeats 4000000 in
theorem th_X7_kinds_L14 {X : mm_X} {G : mm_G} {sh : mm_S} {c1 : Int32} {k : Int32 → mm_M → Option (Int32 × mm_M)} (h0 : mm_isMli G sh) (hk : ∀ (x2 : Int32) (M : mm_M), mm_T X G (cX7_kinds, 4, RX7, (some .int), 5) (mm_fi sh) sh M 66 [(2, .int x2)] [] (k x2 M)) : ∀ (n : Nat) (x2 : Int32) (x3 : Int32) (M : mm_M), mm_T X G (cX7_kinds, 4, RX7, (some .int), 5) (mm_fi sh) sh M 14 [(0, .ref (mm_ad G 0)), (1, .int c1), (2, .int x2), (3, .int x3)] [] (fn_X7_kinds_L14 c1 k n x2 x3 M) := by
  intro n
  induction n with
  | zero => intro x2 x3 M; exact mm_none
  | succ n ih =>
    intro x2 x3 M
    rw [fn_X7_kinds_L14]
    refine mm_iload_n 15 rfl dX7_kinds_14 rfl 3 rfl ?_
    refine mm_iconst 16 rfl (v := 4) dX7_kinds_15 (by decide) ?_
    refine mm_icmp_ge 19 66 rfl dX7_kinds_16 (by decide) (fun h_3 => ?_) (fun h_3 => ?_)
    · exact mm_lv [2] rfl (hk _ _)
    · refine mm_aload_n 20 rfl dX7_kinds_19 rfl 0 rfl ?_
      refine gt_X7_16 23 rfl dX7_kinds_20 h0.1 ?_
      refine mm_aload_n 24 rfl dX7_kinds_23 rfl 0 rfl ?_
      refine gt_X7_12 27 rfl dX7_kinds_24 h0.1 ?_
      refine ca_X7_87 30 rfl dX7_kinds_27 h0.2.2.1.1 (ct_X2_become 8 1 h0.2.2.1 h0.2.1) (by decide) (Nat.le_of_ble_eq_true rfl) (fun z_4 => ?_)
      refine mm_aload_n 31 rfl dX7_kinds_30 rfl 0 rfl ?_
      refine gt_X7_16 34 rfl dX7_kinds_31 h0.1 ?_
      refine gt_X7_122 37 rfl dX7_kinds_34 h0.2.2.1.1 ?_
      refine mm_iload_n 38 rfl dX7_kinds_37 rfl 1 rfl ?_
      refine mm_iload_n 39 rfl dX7_kinds_38 rfl 3 rfl ?_
      refine mm_iast 40 rfl dX7_kinds_39 h0.2.2.1.2.1 (fun h_6 => ?_)
      refine mm_bM (fun M_5 => ?_)
      refine mm_aload_n 41 rfl dX7_kinds_40 rfl 0 rfl ?_
      refine gt_X7_42 44 rfl dX7_kinds_41 h0.1 ?_
      refine mm_aload_n 45 rfl dX7_kinds_44 rfl 0 rfl ?_
      refine gt_X7_16 48 rfl dX7_kinds_45 h0.1 ?_
      refine ca_X7_214 51 rfl dX7_kinds_48 h0.2.2.2.2.2.2.1.1 (ct_X5_agreeWith 19 8 h0.2.2.2.2.2.2.1 h0.2.2.1) (by decide) (Nat.le_of_ble_eq_true rfl) (fun z_7 => ?_)
      refine mm_if_eq 54 60 rfl dX7_kinds_51 (by decide) (fun h_8 => ?_) (fun h_8 => ?_)
      · refine mm_iinc 63 rfl dX7_kinds_60 3 rfl (v := (x3 + 1)) rfl (lv' := [(3, .int (x3 + 1)), (0, .ref (mm_ad G 0)), (1, .int c1), (2, .int x2)]) (by decide) rfl ?_
        refine mm_goto 14 dX7_kinds_63 (by decide) ?_
        exact mm_lv [1, 2, 3, 0] rfl (ih _ _ _)
      · refine mm_iload_n 55 rfl dX7_kinds_54 rfl 2 rfl ?_
        refine mm_iconst 56 rfl (v := 1) dX7_kinds_55 (by decide) ?_
        refine mm_iload_n 57 rfl dX7_kinds_56 rfl 3 rfl ?_
        refine mm_ishl 58 rfl dX7_kinds_57 ?_
        refine mm_ior 59 rfl dX7_kinds_58 ?_
        refine mm_bI (fun x2_9 => ?_)
        refine mm_istore_n 60 rfl dX7_kinds_59 rfl (lv' := [(2, .int x2_9), (0, .ref (mm_ad G 0)), (1, .int c1), (3, .int x3)]) (by decide) rfl ?_
        refine mm_iinc 63 rfl dX7_kinds_60 3 rfl (v := (x3 + 1)) rfl (lv' := [(3, .int (x3 + 1)), (2, .int x2_9), (0, .ref (mm_ad G 0)), (1, .int c1)]) (by decide) rfl ?_
        refine mm_goto 14 dX7_kinds_63 (by decide) ?_
        exact mm_lv [2, 3, 1, 0] rfl (ih _ _ _)
noncomputable def fn_X7_kinds (c1 : Int32) (M : mm_M) : Option (Int32 × mm_M) :=
  ((fn_X7_isOne c1 M).bind fun z_1 => (if z_1.1 = 0 then some ((-1), z_1.2) else fn_X7_kinds_L14 c1 (fun x2_10 M_11 => some (x2_10, M_11)) mm_fu 0 0 z_1.2))
set_option maxRecDepth 20000 in
set_option maxHeartbeats 4000000 in
theorem ct_X7_kinds {l : Launch} {G : mm_G} {sh : mm_S} {M : mm_M} (c1 : Int32) (h0 : mm_isMli G sh) : mm_K l G yX7_kinds (cX7_kinds, 4, RX7, (some .int), 5) [.ref (mm_ad G 0), .int c1] (mm_fi sh) sh M (fn_X7_kinds c1 M) := by
  refine mm_met (by decide +kernel) rfl (Nat.le_of_ble_eq_true rfl) (fun X hX => ?_)
  subst hX
  show mm_T X G (cX7_kinds, 4, RX7, (some .int), 5) (mm_fi sh) sh M 0 [(0, .ref (mm_ad G 0)), (1, .int c1)] [] (fn_X7_kinds c1 M)
  unfold fn_X7_kinds
  refine mm_aload_n 1 rfl dX7_kinds_0 rfl 0 rfl ?_
  refine mm_iload_n 2 rfl dX7_kinds_1 rfl 1 rfl ?_
  refine ca_X7_119 5 rfl dX7_kinds_2 h0.1 (ct_X7_isOne c1 h0) (by decide) (Nat.le_of_ble_eq_true rfl) (fun z_1 => ?_)
  refine mm_if_ne 8 10 rfl dX7_kinds_5 (by decide) (fun h_2 => ?_) (fun h_2 => ?_)
  · refine mm_iconst 11 rfl (v := 0) dX7_kinds_10 (by decide) ?_
    refine mm_istore_n 12 rfl dX7_kinds_11 rfl (lv' := [(2, .int 0), (0, .ref (mm_ad G 0)), (1, .int c1)]) (by decide) rfl ?_
    refine mm_iconst 13 rfl (v := 0) dX7_kinds_12 (by decide) ?_
    refine mm_istore_n 14 rfl dX7_kinds_13 rfl (lv' := [(3, .int 0), (2, .int 0), (0, .ref (mm_ad G 0)), (1, .int c1)]) (by decide) rfl ?_
    refine mm_lv [2, 3, 1, 0] rfl (th_X7_kinds_L14 h0 (fun x2_10 M_11 => ?_) mm_fu _ _ _)
    refine mm_iload_n 67 rfl dX7_kinds_66 rfl 0 rfl ?_
    exact mm_iret dX7_kinds_67 rfl rfl
  · refine mm_iconst 9 rfl (v := (-1)) dX7_kinds_8 (by decide) ?_
    exact mm_iret dX7_kinds_9 rfl rfl

-- MangleLine.greysAsSeen(I)I
noncomputable def fn_X7_greysAsSeen_L4 (c1 : Int32) (k : Int32 → mm_M → Option (Int32 × mm_M)) : Nat → Int32 → Int32 → mm_M → Option (Int32 × mm_M)
  | 0, _, _, _ => none
  | n + 1, x2, x3, M => (if 31 ≤ x3 then k x2 M else ((fn_X2_become 8 1 M).bind fun z_2 => (if mm_in c1 6 then (mm_let (mm_up z_2 10 c1.toNatClampNeg x3) fun M_3 => ((fn_X5_agreeWith 19 8 M_3).bind fun z_5 => (if z_5.1 = 0 then fn_X7_greysAsSeen_L4 c1 k n x2 (x3 + 1) z_5.2 else mm_let (x2 ||| (1 <<< (x3 &&& 31))) fun x2_7 => fn_X7_greysAsSeen_L4 c1 k n x2_7 (x3 + 1) z_5.2))) else none)))
set_option maxRecDepth 20000 in
set_option maxHeartbeats 4000000 in
theorem th_X7_greysAsSeen_L4 {X : mm_X} {G : mm_G} {sh : mm_S} {c1 : Int32} {k : Int32 → mm_M → Option (Int32 × mm_M)} (h0 : mm_isMli G sh) (hk : ∀ (x2 : Int32) (M : mm_M), mm_T X G (cX7_greysAsSeen, 4, RX7, (some .int), 5) (mm_fi sh) sh M 57 [(2, .int x2)] [] (k x2 M)) : ∀ (n : Nat) (x2 : Int32) (x3 : Int32) (M : mm_M), mm_T X G (cX7_greysAsSeen, 4, RX7, (some .int), 5) (mm_fi sh) sh M 4 [(0, .ref (mm_ad G 0)), (1, .int c1), (2, .int x2), (3, .int x3)] [] (fn_X7_greysAsSeen_L4 c1 k n x2 x3 M) := by
  intro n
  induction n with
  | zero => intro x2 x3 M; exact mm_none
  | succ n ih =>
    intro x2 x3 M
    rw [fn_X7_greysAsSeen_L4]
    refine mm_iload_n 5 rfl dX7_greysAsSeen_4 rfl 3 rfl ?_
    refine mm_bipush 7 rfl (v := 31) dX7_greysAsSeen_5 (by decide) ?_
    refine mm_icmp_ge 10 57 rfl dX7_greysAsSeen_7 (by decide) (fun h_1 => ?_) (fun h_1 => ?_)
    · exact mm_lv [2] rfl (hk _ _)
    · refine mm_aload_n 11 rfl dX7_greysAsSeen_10 rfl 0 rfl ?_
      refine gt_X7_16 14 rfl dX7_greysAsSeen_11 h0.1 ?_
      refine mm_aload_n 15 rfl dX7_greysAsSeen_14 rfl 0 rfl ?_
      refine gt_X7_12 18 rfl dX7_greysAsSeen_15 h0.1 ?_
      refine ca_X7_87 21 rfl dX7_greysAsSeen_18 h0.2.2.1.1 (ct_X2_become 8 1 h0.2.2.1 h0.2.1) (by decide) (Nat.le_of_ble_eq_true rfl) (fun z_2 => ?_)
      refine mm_aload_n 22 rfl dX7_greysAsSeen_21 rfl 0 rfl ?_
      refine gt_X7_16 25 rfl dX7_greysAsSeen_22 h0.1 ?_
      refine gt_X7_125 28 rfl dX7_greysAsSeen_25 h0.2.2.1.1 ?_
      refine mm_iload_n 29 rfl dX7_greysAsSeen_28 rfl 1 rfl ?_
      refine mm_iload_n 30 rfl dX7_greysAsSeen_29 rfl 3 rfl ?_
      refine mm_iast 31 rfl dX7_greysAsSeen_30 h0.2.2.1.2.2.1 (fun h_4 => ?_)
      refine mm_bM (fun M_3 => ?_)
      refine mm_aload_n 32 rfl dX7_greysAsSeen_31 rfl 0 rfl ?_
      refine gt_X7_42 35 rfl dX7_greysAsSeen_32 h0.1 ?_
      refine mm_aload_n 36 rfl dX7_greysAsSeen_35 rfl 0 rfl ?_
      refine gt_X7_16 39 rfl dX7_greysAsSeen_36 h0.1 ?_
      refine ca_X7_214 42 rfl dX7_greysAsSeen_39 h0.2.2.2.2.2.2.1.1 (ct_X5_agreeWith 19 8 h0.2.2.2.2.2.2.1 h0.2.2.1) (by decide) (Nat.le_of_ble_eq_true rfl) (fun z_5 => ?_)
      refine mm_if_eq 45 51 rfl dX7_greysAsSeen_42 (by decide) (fun h_6 => ?_) (fun h_6 => ?_)
      · refine mm_iinc 54 rfl dX7_greysAsSeen_51 3 rfl (v := (x3 + 1)) rfl (lv' := [(3, .int (x3 + 1)), (0, .ref (mm_ad G 0)), (1, .int c1), (2, .int x2)]) (by decide) rfl ?_
        refine mm_goto 4 dX7_greysAsSeen_54 (by decide) ?_
        exact mm_lv [1, 2, 3, 0] rfl (ih _ _ _)
      · refine mm_iload_n 46 rfl dX7_greysAsSeen_45 rfl 2 rfl ?_
        refine mm_iconst 47 rfl (v := 1) dX7_greysAsSeen_46 (by decide) ?_
        refine mm_iload_n 48 rfl dX7_greysAsSeen_47 rfl 3 rfl ?_
        refine mm_ishl 49 rfl dX7_greysAsSeen_48 ?_
        refine mm_ior 50 rfl dX7_greysAsSeen_49 ?_
        refine mm_bI (fun x2_7 => ?_)
        refine mm_istore_n 51 rfl dX7_greysAsSeen_50 rfl (lv' := [(2, .int x2_7), (0, .ref (mm_ad G 0)), (1, .int c1), (3, .int x3)]) (by decide) rfl ?_
        refine mm_iinc 54 rfl dX7_greysAsSeen_51 3 rfl (v := (x3 + 1)) rfl (lv' := [(3, .int (x3 + 1)), (2, .int x2_7), (0, .ref (mm_ad G 0)), (1, .int c1)]) (by decide) rfl ?_
        refine mm_goto 4 dX7_greysAsSeen_54 (by decide) ?_
        exact mm_lv [2, 3, 1, 0] rfl (ih _ _ _)
noncomputable def fn_X7_greysAsSeen (c1 : Int32) (M : mm_M) : Option (Int32 × mm_M) :=
  fn_X7_greysAsSeen_L4 c1 (fun x2_8 M_9 => some (x2_8, M_9)) mm_fu 0 0 M
set_option maxRecDepth 20000 in
set_option maxHeartbeats 4000000 in
theorem ct_X7_greysAsSeen {l : Launch} {G : mm_G} {sh : mm_S} {M : mm_M} (c1 : Int32) (h0 : mm_isMli G sh) : mm_K l G yX7_greysAsSeen (cX7_greysAsSeen, 4, RX7, (some .int), 5) [.ref (mm_ad G 0), .int c1] (mm_fi sh) sh M (fn_X7_greysAsSeen c1 M) := by
  refine mm_met (by decide +kernel) rfl (Nat.le_of_ble_eq_true rfl) (fun X hX => ?_)
  subst hX
  show mm_T X G (cX7_greysAsSeen, 4, RX7, (some .int), 5) (mm_fi sh) sh M 0 [(0, .ref (mm_ad G 0)), (1, .int c1)] [] (fn_X7_greysAsSeen c1 M)
  unfold fn_X7_greysAsSeen
  refine mm_iconst 1 rfl (v := 0) dX7_greysAsSeen_0 (by decide) ?_
  refine mm_istore_n 2 rfl dX7_greysAsSeen_1 rfl (lv' := [(2, .int 0), (0, .ref (mm_ad G 0)), (1, .int c1)]) (by decide) rfl ?_
  refine mm_iconst 3 rfl (v := 0) dX7_greysAsSeen_2 (by decide) ?_
  refine mm_istore_n 4 rfl dX7_greysAsSeen_3 rfl (lv' := [(3, .int 0), (2, .int 0), (0, .ref (mm_ad G 0)), (1, .int c1)]) (by decide) rfl ?_
  refine mm_lv [2, 3, 1, 0] rfl (th_X7_greysAsSeen_L4 h0 (fun x2_8 M_9 => ?_) mm_fu _ _ _)
  refine mm_iload_n 58 rfl dX7_greysAsSeen_57 rfl 0 rfl ?_
  exact mm_iret dX7_greysAsSeen_58 rfl rfl

-- MangleLine.greys(I)I
noncomputable def fn_X7_greys (c1 : Int32) (M : mm_M) : Option (Int32 × mm_M) :=
  ((fn_X7_isOne c1 M).bind fun z_1 => (if z_1.1 = 0 then some ((-1), z_1.2) else ((fn_X7_greysAsSeen c1 z_1.2).bind fun z_3 => some (z_3.1, z_3.2))))
set_option maxRecDepth 20000 in
set_option maxHeartbeats 4000000 in
theorem ct_X7_greys {l : Launch} {G : mm_G} {sh : mm_S} {M : mm_M} (c1 : Int32) (h0 : mm_isMli G sh) : mm_K l G yX7_greys (cX7_greys, 2, RX7, (some .int), 6) [.ref (mm_ad G 0), .int c1] (mm_fi sh) sh M (fn_X7_greys c1 M) := by
  refine mm_met (by decide +kernel) rfl (Nat.le_of_ble_eq_true rfl) (fun X hX => ?_)
  subst hX
  show mm_T X G (cX7_greys, 2, RX7, (some .int), 6) (mm_fi sh) sh M 0 [(0, .ref (mm_ad G 0)), (1, .int c1)] [] (fn_X7_greys c1 M)
  unfold fn_X7_greys
  refine mm_aload_n 1 rfl dX7_greys_0 rfl 0 rfl ?_
  refine mm_iload_n 2 rfl dX7_greys_1 rfl 1 rfl ?_
  refine ca_X7_119 5 rfl dX7_greys_2 h0.1 (ct_X7_isOne c1 h0) (by decide) (Nat.le_of_ble_eq_true rfl) (fun z_1 => ?_)
  refine mm_if_eq 8 16 rfl dX7_greys_5 (by decide) (fun h_2 => ?_) (fun h_2 => ?_)
  · refine mm_iconst 17 rfl (v := (-1)) dX7_greys_16 (by decide) ?_
    exact mm_iret dX7_greys_17 rfl rfl
  · refine mm_aload_n 9 rfl dX7_greys_8 rfl 0 rfl ?_
    refine mm_iload_n 10 rfl dX7_greys_9 rfl 1 rfl ?_
    refine ca_X7_218 13 rfl dX7_greys_10 h0.1 (ct_X7_greysAsSeen c1 h0) (by decide) (Nat.le_of_ble_eq_true rfl) (fun z_3 => ?_)
    refine mm_goto 17 dX7_greys_13 (by decide) ?_
    exact mm_iret dX7_greys_17 rfl rfl

-- MangleLine.tallyAt(II)I
noncomputable def fn_X7_tallyAt (c0 : Int32) (c1 : Int32) (M : mm_M) : Option (Int32 × mm_M) :=
  some ((((c0 * 6) + c1) * 3), M)
set_option maxRecDepth 20000 in
set_option maxHeartbeats 4000000 in
theorem ct_X7_tallyAt {l : Launch} {G : mm_G} {sh : mm_S} {M : mm_M} (c0 : Int32) (c1 : Int32) : mm_K l G yX7_tallyAt (cX7_tallyAt, 2, RX7, (some .int), 1) [.int c0, .int c1] (mm_fi sh) sh M (fn_X7_tallyAt c0 c1 M) := by
  refine mm_met (by decide +kernel) rfl (Nat.le_of_ble_eq_true rfl) (fun X hX => ?_)
  subst hX
  show mm_T X G (cX7_tallyAt, 2, RX7, (some .int), 1) (mm_fi sh) sh M 0 [(0, .int c0), (1, .int c1)] [] (fn_X7_tallyAt c0 c1 M)
  unfold fn_X7_tallyAt
  refine mm_iload_n 1 rfl dX7_tallyAt_0 rfl 0 rfl ?_
  refine mm_bipush 3 rfl (v := 6) dX7_tallyAt_1 (by decide) ?_
  refine mm_imul 4 rfl dX7_tallyAt_3 ?_
  refine mm_iload_n 5 rfl dX7_tallyAt_4 rfl 1 rfl ?_
  refine mm_iadd 6 rfl dX7_tallyAt_5 ?_
  refine mm_iconst 7 rfl (v := 3) dX7_tallyAt_6 (by decide) ?_
  refine mm_imul 8 rfl dX7_tallyAt_7 ?_
  exact mm_iret dX7_tallyAt_8 rfl rfl

-- MangleLine.tallyPlaces(II)V
noncomputable def fn_X7_tallyPlaces_L61 (c1 : Int32) (c2 : Int32) (c3 : Int32) (c4 : Int32) (k : mm_M → Option mm_M) : Nat → Int32 → mm_M → Option mm_M
  | 0, _, _ => none
  | n + 1, x5, M => (if (M 8 0) ≤ x5 then k  M else ((fn_X7_tallyAt c4 x5 M).bind fun z_9 => (if mm_in x5 6 then (if mm_in (z_9.1 + (z_9.2 12 x5.toNatClampNeg)) 378 then mm_let (mm_up z_9.2 24 (z_9.1 + (z_9.2 12 x5.toNatClampNeg)).toNatClampNeg ((z_9.2 24 (z_9.1 + (z_9.2 12 x5.toNatClampNeg)).toNatClampNeg) + 1)) fun M_12 => fn_X7_tallyPlaces_L61 c1 c2 c3 c4 k n (x5 + 1) M_12 else none) else none)))
set_option maxRecDepth 20000 in
set_option maxHeartbeats 4000000 in
theorem th_X7_tallyPlaces_L61 {X : mm_X} {G : mm_G} {sh : mm_S} {c1 : Int32} {c2 : Int32} {c3 : Int32} {c4 : Int32} {k : mm_M → Option mm_M} (h0 : mm_isMli G sh) (hk : ∀ (M : mm_M), mm_T X G (cX7_tallyPlaces, 6, RX7, none, 4) (mm_fv sh) sh M 106 [(0, .ref (mm_ad G 0)), (1, .int c1), (2, .int c2), (3, .int c3), (4, .int c4)] [] (k  M)) : ∀ (n : Nat) (x5 : Int32) (M : mm_M), mm_T X G (cX7_tallyPlaces, 6, RX7, none, 4) (mm_fv sh) sh M 61 [(0, .ref (mm_ad G 0)), (1, .int c1), (2, .int c2), (3, .int c3), (4, .int c4), (5, .int x5)] [] (fn_X7_tallyPlaces_L61 c1 c2 c3 c4 k n x5 M) := by
  intro n
  induction n with
  | zero => intro x5 M; exact mm_none
  | succ n ih =>
    intro x5 M
    rw [fn_X7_tallyPlaces_L61]
    refine mm_iload 63 rfl dX7_tallyPlaces_61 5 rfl ?_
    refine mm_aload_n 64 rfl dX7_tallyPlaces_63 rfl 0 rfl ?_
    refine gt_X7_16 67 rfl dX7_tallyPlaces_64 h0.1 ?_
    refine gt_X7_101 70 rfl dX7_tallyPlaces_67 h0.2.2.1.1 ?_
    refine mm_icmp_ge 73 106 rfl dX7_tallyPlaces_70 (by decide) (fun h_8 => ?_) (fun h_8 => ?_)
    · exact mm_lv [0, 1, 2, 3, 4] rfl (hk _)
    · refine mm_aload_n 74 rfl dX7_tallyPlaces_73 rfl 0 rfl ?_
      refine gt_X7_53 77 rfl dX7_tallyPlaces_74 h0.1 ?_
      refine mm_iload 79 rfl dX7_tallyPlaces_77 4 rfl ?_
      refine mm_iload 81 rfl dX7_tallyPlaces_79 5 rfl ?_
      refine ca_X7_308 84 rfl dX7_tallyPlaces_81 (ct_X7_tallyAt c4 x5 ) (by decide) (Nat.le_of_ble_eq_true rfl) (fun z_9 => ?_)
      refine mm_aload_n 85 rfl dX7_tallyPlaces_84 rfl 0 rfl ?_
      refine gt_X7_16 88 rfl dX7_tallyPlaces_85 h0.1 ?_
      refine gt_X7_131 91 rfl dX7_tallyPlaces_88 h0.2.2.1.1 ?_
      refine mm_iload 93 rfl dX7_tallyPlaces_91 5 rfl ?_
      refine mm_iald 94 rfl dX7_tallyPlaces_93 h0.2.2.1.2.2.2.2.1 (fun h_10 => ?_)
      refine mm_iadd 95 rfl dX7_tallyPlaces_94 ?_
      refine mm_dup2 96 rfl dX7_tallyPlaces_95 rfl rfl ?_
      refine mm_iald 97 rfl dX7_tallyPlaces_96 h0.2.2.2.2.2.2.2.2.1 (fun h_11 => ?_)
      refine mm_iconst 98 rfl (v := 1) dX7_tallyPlaces_97 (by decide) ?_
      refine mm_iadd 99 rfl dX7_tallyPlaces_98 ?_
      refine mm_iastK 100 rfl dX7_tallyPlaces_99 h0.2.2.2.2.2.2.2.2.1 h_11 _ rfl ?_
      refine mm_bM (fun M_12 => ?_)
      refine mm_iinc 103 rfl dX7_tallyPlaces_100 5 rfl (v := (x5 + 1)) rfl (lv' := [(5, .int (x5 + 1)), (0, .ref (mm_ad G 0)), (1, .int c1), (2, .int c2), (3, .int c3), (4, .int c4)]) (by decide) rfl ?_
      refine mm_goto 61 dX7_tallyPlaces_103 (by decide) ?_
      exact mm_lv [1, 2, 3, 4, 5, 0] rfl (ih _ _)
noncomputable def fn_X7_tallyPlaces_L51 (c1 : Int32) (c2 : Int32) (c3 : Int32) (k : mm_M → Option mm_M) : Nat → Int32 → mm_M → Option mm_M
  | 0, _, _ => none
  | n + 1, x4, M => (if 20 < x4 then k  M else fn_X7_tallyPlaces_L61 c1 c2 c3 x4 (fun M_13 => ((fn_X2_sunToday 8 M_13).bind fun z_15 => ((fn_X2_passDay 8 z_15.1 z_15.2).bind fun z_16 => fn_X7_tallyPlaces_L51 c1 c2 c3 k n (x4 + 1) z_16.2))) mm_fu 0 M)
set_option maxRecDepth 20000 in
set_option maxHeartbeats 4000000 in
theorem th_X7_tallyPlaces_L51 {X : mm_X} {G : mm_G} {sh : mm_S} {c1 : Int32} {c2 : Int32} {c3 : Int32} {k : mm_M → Option mm_M} (h0 : mm_isMli G sh) (hk : ∀ (M : mm_M), mm_T X G (cX7_tallyPlaces, 6, RX7, none, 4) (mm_fv sh) sh M 127 [(0, .ref (mm_ad G 0)), (1, .int c1), (2, .int c2), (3, .int c3)] [] (k  M)) : ∀ (n : Nat) (x4 : Int32) (M : mm_M), mm_T X G (cX7_tallyPlaces, 6, RX7, none, 4) (mm_fv sh) sh M 51 [(0, .ref (mm_ad G 0)), (1, .int c1), (2, .int c2), (3, .int c3), (4, .int x4)] [] (fn_X7_tallyPlaces_L51 c1 c2 c3 k n x4 M) := by
  intro n
  induction n with
  | zero => intro x4 M; exact mm_none
  | succ n ih =>
    intro x4 M
    rw [fn_X7_tallyPlaces_L51]
    refine mm_iload 53 rfl dX7_tallyPlaces_51 4 rfl ?_
    refine mm_bipush 55 rfl (v := 20) dX7_tallyPlaces_53 (by decide) ?_
    refine mm_icmp_gt 58 127 rfl dX7_tallyPlaces_55 (by decide) (fun h_7 => ?_) (fun h_7 => ?_)
    · exact mm_lv [0, 1, 2, 3] rfl (hk _)
    · refine mm_iconst 59 rfl (v := 0) dX7_tallyPlaces_58 (by decide) ?_
      refine mm_istore 61 rfl dX7_tallyPlaces_59 (lv' := [(5, .int 0), (0, .ref (mm_ad G 0)), (1, .int c1), (2, .int c2), (3, .int c3), (4, .int x4)]) (by decide) rfl ?_
      refine mm_lv [1, 2, 3, 4, 5, 0] rfl (th_X7_tallyPlaces_L61 h0 (fun M_13 => ?_) mm_fu _ _)
      refine mm_aload_n 107 rfl dX7_tallyPlaces_106 rfl 0 rfl ?_
      refine gt_X7_16 110 rfl dX7_tallyPlaces_107 h0.1 ?_
      refine mm_aload_n 111 rfl dX7_tallyPlaces_110 rfl 0 rfl ?_
      refine gt_X7_16 114 rfl dX7_tallyPlaces_111 h0.1 ?_
      refine ca_X7_113 117 rfl dX7_tallyPlaces_114 h0.2.2.1.1 (ct_X2_sunToday 8 h0.2.2.1) (by decide) (Nat.le_of_ble_eq_true rfl) (fun z_15 => ?_)
      refine ca_X7_163 120 rfl dX7_tallyPlaces_117 h0.2.2.1.1 (ct_X2_passDay 8 z_15.1 h0.2.2.1) (by decide) (Nat.le_of_ble_eq_true rfl) (fun z_16 => ?_)
      refine mm_pop 121 rfl dX7_tallyPlaces_120 rfl ?_
      refine mm_iinc 124 rfl dX7_tallyPlaces_121 4 rfl (v := (x4 + 1)) rfl (lv' := [(4, .int (x4 + 1)), (0, .ref (mm_ad G 0)), (1, .int c1), (2, .int c2), (3, .int c3)]) (by decide) rfl ?_
      refine mm_goto 51 dX7_tallyPlaces_124 (by decide) ?_
      exact mm_lv [1, 2, 3, 4, 0] rfl (ih _ _)
noncomputable def fn_X7_tallyPlaces_L10 (c1 : Int32) (c2 : Int32) (k : mm_M → Option mm_M) : Nat → Int32 → mm_M → Option mm_M
  | 0, _, _ => none
  | n + 1, x3, M => (if 31 ≤ x3 then k  M else (if ((c2 >>> (x3 &&& 31)) &&& 1) = 0 then fn_X7_tallyPlaces_L10 c1 c2 k n (x3 + 1) M else ((fn_X2_become 8 1 M).bind fun z_4 => (if mm_in c1 6 then (mm_let (mm_up z_4 10 c1.toNatClampNeg x3) fun M_5 => fn_X7_tallyPlaces_L51 c1 c2 x3 (fun M_17 => fn_X7_tallyPlaces_L10 c1 c2 k n (x3 + 1) M_17) mm_fu 0 M_5) else none))))
set_option maxRecDepth 20000 in
set_option maxHeartbeats 4000000 in
theorem th_X7_tallyPlaces_L10 {X : mm_X} {G : mm_G} {sh : mm_S} {c1 : Int32} {c2 : Int32} {k : mm_M → Option mm_M} (h0 : mm_isMli G sh) (hk : ∀ (M : mm_M), mm_T X G (cX7_tallyPlaces, 6, RX7, none, 4) (mm_fv sh) sh M 133 [] [] (k  M)) : ∀ (n : Nat) (x3 : Int32) (M : mm_M), mm_T X G (cX7_tallyPlaces, 6, RX7, none, 4) (mm_fv sh) sh M 10 [(0, .ref (mm_ad G 0)), (1, .int c1), (2, .int c2), (3, .int x3)] [] (fn_X7_tallyPlaces_L10 c1 c2 k n x3 M) := by
  intro n
  induction n with
  | zero => intro x3 M; exact mm_none
  | succ n ih =>
    intro x3 M
    rw [fn_X7_tallyPlaces_L10]
    refine mm_iload_n 11 rfl dX7_tallyPlaces_10 rfl 3 rfl ?_
    refine mm_bipush 13 rfl (v := 31) dX7_tallyPlaces_11 (by decide) ?_
    refine mm_icmp_ge 16 133 rfl dX7_tallyPlaces_13 (by decide) (fun h_2 => ?_) (fun h_2 => ?_)
    · exact mm_lv [] rfl (hk _)
    · refine mm_iload_n 17 rfl dX7_tallyPlaces_16 rfl 2 rfl ?_
      refine mm_iload_n 18 rfl dX7_tallyPlaces_17 rfl 3 rfl ?_
      refine mm_ishr 19 rfl dX7_tallyPlaces_18 ?_
      refine mm_iconst 20 rfl (v := 1) dX7_tallyPlaces_19 (by decide) ?_
      refine mm_iand 21 rfl dX7_tallyPlaces_20 ?_
      refine mm_if_ne 24 27 rfl dX7_tallyPlaces_21 (by decide) (fun h_3 => ?_) (fun h_3 => ?_)
      · refine mm_aload_n 28 rfl dX7_tallyPlaces_27 rfl 0 rfl ?_
        refine gt_X7_16 31 rfl dX7_tallyPlaces_28 h0.1 ?_
        refine mm_aload_n 32 rfl dX7_tallyPlaces_31 rfl 0 rfl ?_
        refine gt_X7_12 35 rfl dX7_tallyPlaces_32 h0.1 ?_
        refine ca_X7_87 38 rfl dX7_tallyPlaces_35 h0.2.2.1.1 (ct_X2_become 8 1 h0.2.2.1 h0.2.1) (by decide) (Nat.le_of_ble_eq_true rfl) (fun z_4 => ?_)
        refine mm_aload_n 39 rfl dX7_tallyPlaces_38 rfl 0 rfl ?_
        refine gt_X7_16 42 rfl dX7_tallyPlaces_39 h0.1 ?_
        refine gt_X7_125 45 rfl dX7_tallyPlaces_42 h0.2.2.1.1 ?_
        refine mm_iload_n 46 rfl dX7_tallyPlaces_45 rfl 1 rfl ?_
        refine mm_iload_n 47 rfl dX7_tallyPlaces_46 rfl 3 rfl ?_
        refine mm_iast 48 rfl dX7_tallyPlaces_47 h0.2.2.1.2.2.1 (fun h_6 => ?_)
        refine mm_bM (fun M_5 => ?_)
        refine mm_iconst 49 rfl (v := 0) dX7_tallyPlaces_48 (by decide) ?_
        refine mm_istore 51 rfl dX7_tallyPlaces_49 (lv' := [(4, .int 0), (0, .ref (mm_ad G 0)), (1, .int c1), (2, .int c2), (3, .int x3)]) (by decide) rfl ?_
        refine mm_lv [1, 2, 3, 4, 0] rfl (th_X7_tallyPlaces_L51 h0 (fun M_17 => ?_) mm_fu _ _)
        refine mm_iinc 130 rfl dX7_tallyPlaces_127 3 rfl (v := (x3 + 1)) rfl (lv' := [(3, .int (x3 + 1)), (0, .ref (mm_ad G 0)), (1, .int c1), (2, .int c2)]) (by decide) rfl ?_
        refine mm_goto 10 dX7_tallyPlaces_130 (by decide) ?_
        exact mm_lv [1, 2, 3, 0] rfl (ih _ _)
      · refine mm_goto 127 dX7_tallyPlaces_24 (by decide) ?_
        refine mm_iinc 130 rfl dX7_tallyPlaces_127 3 rfl (v := (x3 + 1)) rfl (lv' := [(3, .int (x3 + 1)), (0, .ref (mm_ad G 0)), (1, .int c1), (2, .int c2)]) (by decide) rfl ?_
        refine mm_goto 10 dX7_tallyPlaces_130 (by decide) ?_
        exact mm_lv [1, 2, 3, 0] rfl (ih _ _)
noncomputable def fn_X7_tallyPlaces (c1 : Int32) (c2 : Int32) (M : mm_M) : Option mm_M :=
  ((fn_J7_fill_53178 24 378 0 M).bind fun z_1 => fn_X7_tallyPlaces_L10 c1 c2 (fun M_19 => some M_19) mm_fu 0 z_1)
set_option maxRecDepth 20000 in
set_option maxHeartbeats 4000000 in
theorem ct_X7_tallyPlaces {l : Launch} {G : mm_G} {sh : mm_S} {M : mm_M} (c1 : Int32) (c2 : Int32) (h0 : mm_isMli G sh) : mm_K l G yX7_tallyPlaces (cX7_tallyPlaces, 6, RX7, none, 4) [.ref (mm_ad G 0), .int c1, .int c2] (mm_fv sh) sh M (fn_X7_tallyPlaces c1 c2 M) := by
  refine mm_met (by decide +kernel) rfl (Nat.le_of_ble_eq_true rfl) (fun X hX => ?_)
  subst hX
  show mm_T X G (cX7_tallyPlaces, 6, RX7, none, 4) (mm_fv sh) sh M 0 [(0, .ref (mm_ad G 0)), (1, .int c1), (2, .int c2)] [] (fn_X7_tallyPlaces c1 c2 M)
  unfold fn_X7_tallyPlaces
  refine mm_aload_n 1 rfl dX7_tallyPlaces_0 rfl 0 rfl ?_
  refine gt_X7_53 4 rfl dX7_tallyPlaces_1 h0.1 ?_
  refine mm_iconst 5 rfl (v := 0) dX7_tallyPlaces_4 (by decide) ?_
  refine ca_X7_302 8 rfl dX7_tallyPlaces_5 (ct_J7_fill_53178 24 378 0 h0.2.2.2.2.2.2.2.2.1) (by decide) (Nat.le_of_ble_eq_true rfl) (fun z_1 => ?_)
  refine mm_iconst 9 rfl (v := 0) dX7_tallyPlaces_8 (by decide) ?_
  refine mm_istore_n 10 rfl dX7_tallyPlaces_9 rfl (lv' := [(3, .int 0), (0, .ref (mm_ad G 0)), (1, .int c1), (2, .int c2)]) (by decide) rfl ?_
  refine mm_lv [1, 2, 3, 0] rfl (th_X7_tallyPlaces_L10 h0 (fun M_19 => ?_) mm_fu _ _)
  exact mm_vret dX7_tallyPlaces_133 rfl rfl

-- MangleLine.mostLeft(II)I
noncomputable def fn_X7_mostLeft (c1 : Int32) (c2 : Int32) (M : mm_M) : Option (Int32 × mm_M) :=
  ((fn_X7_tallyAt c1 c2 M).bind fun z_1 => mm_let z_1.1 fun x3_2 => (if mm_in (x3_2 + 0) 378 then (if mm_in (x3_2 + 1) 378 then (if mm_in (x3_2 + 2) 378 then some ((mm_max (z_1.2 24 (x3_2 + 0).toNatClampNeg) (mm_max (z_1.2 24 (x3_2 + 1).toNatClampNeg) (z_1.2 24 (x3_2 + 2).toNatClampNeg))), z_1.2) else none) else none) else none))
set_option maxRecDepth 20000 in
set_option maxHeartbeats 4000000 in
theorem ct_X7_mostLeft {l : Launch} {G : mm_G} {sh : mm_S} {M : mm_M} (c1 : Int32) (c2 : Int32) (h0 : mm_isMli G sh) : mm_K l G yX7_mostLeft (cX7_mostLeft, 4, RX7, (some .int), 2) [.ref (mm_ad G 0), .int c1, .int c2] (mm_fi sh) sh M (fn_X7_mostLeft c1 c2 M) := by
  refine mm_met (by decide +kernel) rfl (Nat.le_of_ble_eq_true rfl) (fun X hX => ?_)
  subst hX
  show mm_T X G (cX7_mostLeft, 4, RX7, (some .int), 2) (mm_fi sh) sh M 0 [(0, .ref (mm_ad G 0)), (1, .int c1), (2, .int c2)] [] (fn_X7_mostLeft c1 c2 M)
  unfold fn_X7_mostLeft
  refine mm_iload_n 1 rfl dX7_mostLeft_0 rfl 1 rfl ?_
  refine mm_iload_n 2 rfl dX7_mostLeft_1 rfl 2 rfl ?_
  refine ca_X7_308 5 rfl dX7_mostLeft_2 (ct_X7_tallyAt c1 c2 ) (by decide) (Nat.le_of_ble_eq_true rfl) (fun z_1 => ?_)
  refine mm_bI (fun x3_2 => ?_)
  refine mm_istore_n 6 rfl dX7_mostLeft_5 rfl (lv' := [(3, .int x3_2), (0, .ref (mm_ad G 0)), (1, .int c1), (2, .int c2)]) (by decide) rfl ?_
  refine mm_aload_n 7 rfl dX7_mostLeft_6 rfl 1 rfl ?_
  refine gt_X7_53 10 rfl dX7_mostLeft_7 h0.1 ?_
  refine mm_iload_n 11 rfl dX7_mostLeft_10 rfl 0 rfl ?_
  refine mm_iconst 12 rfl (v := 0) dX7_mostLeft_11 (by decide) ?_
  refine mm_iadd 13 rfl dX7_mostLeft_12 ?_
  refine mm_iald 14 rfl dX7_mostLeft_13 h0.2.2.2.2.2.2.2.2.1 (fun h_3 => ?_)
  refine mm_aload_n 15 rfl dX7_mostLeft_14 rfl 1 rfl ?_
  refine gt_X7_53 18 rfl dX7_mostLeft_15 h0.1 ?_
  refine mm_iload_n 19 rfl dX7_mostLeft_18 rfl 0 rfl ?_
  refine mm_iconst 20 rfl (v := 1) dX7_mostLeft_19 (by decide) ?_
  refine mm_iadd 21 rfl dX7_mostLeft_20 ?_
  refine mm_iald 22 rfl dX7_mostLeft_21 h0.2.2.2.2.2.2.2.2.1 (fun h_4 => ?_)
  refine mm_aload_n 23 rfl dX7_mostLeft_22 rfl 1 rfl ?_
  refine gt_X7_53 26 rfl dX7_mostLeft_23 h0.1 ?_
  refine mm_iload_n 27 rfl dX7_mostLeft_26 rfl 0 rfl ?_
  refine mm_iconst 28 rfl (v := 2) dX7_mostLeft_27 (by decide) ?_
  refine mm_iadd 29 rfl dX7_mostLeft_28 ?_
  refine mm_iald 30 rfl dX7_mostLeft_29 h0.2.2.2.2.2.2.2.2.1 (fun h_5 => ?_)
  refine mm_mmax 33 rfl dX7_mostLeft_30 mw_3_205 mw_3_22 mw_1_17 mw_3_23 (by decide) (Nat.le_of_ble_eq_true rfl) ?_
  refine mm_mmax 36 rfl dX7_mostLeft_33 mw_3_205 mw_3_22 mw_1_17 mw_3_23 (by decide) (Nat.le_of_ble_eq_true rfl) ?_
  exact mm_iret dX7_mostLeft_36 rfl rfl

-- MangleLine.ask(II)I
noncomputable def fn_X7_ask_L53 (c2 : Int32) (c4 : Int32) (k : mm_M → Option (Int32 × mm_M)) : Nat → Int32 → mm_M → Option (Int32 × mm_M)
  | 0, _, _ => none
  | n + 1, x5, M => (if (M 1 0) ≤ x5 then k  M else ((fn_X7_mostLeft c4 x5 M).bind fun z_12 => ((fn_X0_offer ((10 * c4) + x5) z_12.1 z_12.2).bind fun z_13 => fn_X7_ask_L53 c2 c4 k n (x5 + 1) z_13)))
set_option maxRecDepth 20000 in
set_option maxHeartbeats 4000000 in
theorem th_X7_ask_L53 {X : mm_X} {G : mm_G} {sh : mm_S} {c2 : Int32} {c4 : Int32} {k : mm_M → Option (Int32 × mm_M)} (h0 : mm_isMli G sh) (hk : ∀ (M : mm_M), mm_T X G (cX7_ask, 6, RX7, (some .int), 6) (mm_fi sh) sh M 94 [(0, .ref (mm_ad G 0)), (2, .int c2), (4, .int c4)] [] (k  M)) : ∀ (n : Nat) (x5 : Int32) (M : mm_M), mm_T X G (cX7_ask, 6, RX7, (some .int), 6) (mm_fi sh) sh M 53 [(0, .ref (mm_ad G 0)), (2, .int c2), (4, .int c4), (5, .int x5)] [] (fn_X7_ask_L53 c2 c4 k n x5 M) := by
  intro n
  induction n with
  | zero => intro x5 M; exact mm_none
  | succ n ih =>
    intro x5 M
    rw [fn_X7_ask_L53]
    refine mm_iload 55 rfl dX7_ask_53 3 rfl ?_
    refine mm_aload_n 56 rfl dX7_ask_55 rfl 0 rfl ?_
    refine gt_X7_12 59 rfl dX7_ask_56 h0.1 ?_
    refine gt_X7_101 62 rfl dX7_ask_59 h0.2.1.1 ?_
    refine mm_icmp_ge 65 94 rfl dX7_ask_62 (by decide) (fun h_11 => ?_) (fun h_11 => ?_)
    · exact mm_lv [0, 1, 2] rfl (hk _)
    · refine mm_aload_n 66 rfl dX7_ask_65 rfl 0 rfl ?_
      refine gt_X7_49 69 rfl dX7_ask_66 h0.1 ?_
      refine mm_bipush 71 rfl (v := 10) dX7_ask_69 (by decide) ?_
      refine mm_iload 73 rfl dX7_ask_71 2 rfl ?_
      refine mm_imul 74 rfl dX7_ask_73 ?_
      refine mm_iload 76 rfl dX7_ask_74 3 rfl ?_
      refine mm_iadd 77 rfl dX7_ask_76 ?_
      refine mm_aload_n 78 rfl dX7_ask_77 rfl 0 rfl ?_
      refine mm_iload 80 rfl dX7_ask_78 2 rfl ?_
      refine mm_iload 82 rfl dX7_ask_80 3 rfl ?_
      refine ca_X7_224 85 rfl dX7_ask_82 h0.1 (ct_X7_mostLeft c4 x5 h0) (by decide) (Nat.le_of_ble_eq_true rfl) (fun z_12 => ?_)
      refine ca_X7_196 88 rfl dX7_ask_85 h0.2.2.2.2.2.2.2.1 (ct_X0_offer ((10 * c4) + x5) z_12.1 h0.2.2.2.2.2.2.2.1) (by decide) (Nat.le_of_ble_eq_true rfl) (fun z_13 => ?_)
      refine mm_iinc 91 rfl dX7_ask_88 3 rfl (v := (x5 + 1)) rfl (lv' := [(5, .int (x5 + 1)), (0, .ref (mm_ad G 0)), (2, .int c2), (4, .int c4)]) (by decide) rfl ?_
      refine mm_goto 53 dX7_ask_91 (by decide) ?_
      exact mm_lv [1, 2, 3, 0] rfl (ih _ _)
noncomputable def fn_X7_ask_L43 (c2 : Int32) (k : mm_M → Option (Int32 × mm_M)) : Nat → Int32 → mm_M → Option (Int32 × mm_M)
  | 0, _, _ => none
  | n + 1, x4, M => (if 20 < x4 then k  M else fn_X7_ask_L53 c2 x4 (fun M_14 => fn_X7_ask_L43 c2 k n (x4 + 1) M_14) mm_fu 0 M)
set_option maxRecDepth 20000 in
set_option maxHeartbeats 4000000 in
theorem th_X7_ask_L43 {X : mm_X} {G : mm_G} {sh : mm_S} {c2 : Int32} {k : mm_M → Option (Int32 × mm_M)} (h0 : mm_isMli G sh) (hk : ∀ (M : mm_M), mm_T X G (cX7_ask, 6, RX7, (some .int), 6) (mm_fi sh) sh M 100 [(0, .ref (mm_ad G 0)), (2, .int c2)] [] (k  M)) : ∀ (n : Nat) (x4 : Int32) (M : mm_M), mm_T X G (cX7_ask, 6, RX7, (some .int), 6) (mm_fi sh) sh M 43 [(0, .ref (mm_ad G 0)), (2, .int c2), (4, .int x4)] [] (fn_X7_ask_L43 c2 k n x4 M) := by
  intro n
  induction n with
  | zero => intro x4 M; exact mm_none
  | succ n ih =>
    intro x4 M
    rw [fn_X7_ask_L43]
    refine mm_iload 45 rfl dX7_ask_43 2 rfl ?_
    refine mm_bipush 47 rfl (v := 20) dX7_ask_45 (by decide) ?_
    refine mm_icmp_gt 50 100 rfl dX7_ask_47 (by decide) (fun h_10 => ?_) (fun h_10 => ?_)
    · exact mm_lv [0, 1] rfl (hk _)
    · refine mm_iconst 51 rfl (v := 0) dX7_ask_50 (by decide) ?_
      refine mm_istore 53 rfl dX7_ask_51 (lv' := [(5, .int 0), (0, .ref (mm_ad G 0)), (2, .int c2), (4, .int x4)]) (by decide) rfl ?_
      refine mm_lv [1, 2, 3, 0] rfl (th_X7_ask_L53 h0 (fun M_14 => ?_) mm_fu _ _)
      refine mm_iinc 97 rfl dX7_ask_94 2 rfl (v := (x4 + 1)) rfl (lv' := [(4, .int (x4 + 1)), (0, .ref (mm_ad G 0)), (2, .int c2)]) (by decide) rfl ?_
      refine mm_goto 43 dX7_ask_97 (by decide) ?_
      exact mm_lv [1, 2, 0] rfl (ih _ _)
noncomputable def fn_X7_ask (c1 : Int32) (c2 : Int32) (M : mm_M) : Option (Int32 × mm_M) :=
  ((fn_X7_isOne c1 M).bind fun z_1 => (if z_1.1 = 0 then some ((-1), z_1.2) else ((fn_X7_isHalf c2 z_1.2).bind fun z_3 => (if z_3.1 = 0 then some ((-1), z_3.2) else ((fn_X7_greysAsSeen c1 z_3.2).bind fun z_5 => mm_let z_5.1 fun x3_6 => ((fn_X7_tallyPlaces c1 x3_6 z_5.2).bind fun z_7 => ((fn_J6_bitCount_0f7a4 x3_6 z_7).bind fun z_8 => ((fn_X0_begin z_8.1 z_8.2).bind fun z_9 => fn_X7_ask_L43 c2 (fun M_16 => ((fn_X0_tell c2 M_16).bind fun z_18 => some (z_18.1, z_18.2))) mm_fu 0 z_9))))))))
set_option maxRecDepth 20000 in
set_option maxHeartbeats 4000000 in
theorem ct_X7_ask {l : Launch} {G : mm_G} {sh : mm_S} {M : mm_M} (c1 : Int32) (c2 : Int32) (h0 : mm_isMli G sh) : mm_K l G yX7_ask (cX7_ask, 6, RX7, (some .int), 6) [.ref (mm_ad G 0), .int c1, .int c2] (mm_fi sh) sh M (fn_X7_ask c1 c2 M) := by
  refine mm_met (by decide +kernel) rfl (Nat.le_of_ble_eq_true rfl) (fun X hX => ?_)
  subst hX
  show mm_T X G (cX7_ask, 6, RX7, (some .int), 6) (mm_fi sh) sh M 0 [(0, .ref (mm_ad G 0)), (1, .int c1), (2, .int c2)] [] (fn_X7_ask c1 c2 M)
  unfold fn_X7_ask
  refine mm_aload_n 1 rfl dX7_ask_0 rfl 0 rfl ?_
  refine mm_iload_n 2 rfl dX7_ask_1 rfl 1 rfl ?_
  refine ca_X7_119 5 rfl dX7_ask_2 h0.1 (ct_X7_isOne c1 h0) (by decide) (Nat.le_of_ble_eq_true rfl) (fun z_1 => ?_)
  refine mm_if_eq 8 15 rfl dX7_ask_5 (by decide) (fun h_2 => ?_) (fun h_2 => ?_)
  · refine mm_iconst 16 rfl (v := (-1)) dX7_ask_15 (by decide) ?_
    exact mm_iret dX7_ask_16 rfl rfl
  · refine mm_iload_n 9 rfl dX7_ask_8 rfl 2 rfl ?_
    refine ca_X7_186 12 rfl dX7_ask_9 (ct_X7_isHalf c2 ) (by decide) (Nat.le_of_ble_eq_true rfl) (fun z_3 => ?_)
    refine mm_if_ne 15 17 rfl dX7_ask_12 (by decide) (fun h_4 => ?_) (fun h_4 => ?_)
    · refine mm_aload_n 18 rfl dX7_ask_17 rfl 0 rfl ?_
      refine mm_iload_n 19 rfl dX7_ask_18 rfl 1 rfl ?_
      refine ca_X7_218 22 rfl dX7_ask_19 h0.1 (ct_X7_greysAsSeen c1 h0) (by decide) (Nat.le_of_ble_eq_true rfl) (fun z_5 => ?_)
      refine mm_bI (fun x3_6 => ?_)
      refine mm_istore_n 23 rfl dX7_ask_22 rfl (lv' := [(3, .int x3_6), (0, .ref (mm_ad G 0)), (1, .int c1), (2, .int c2)]) (by decide) rfl ?_
      refine mm_aload_n 24 rfl dX7_ask_23 rfl 1 rfl ?_
      refine mm_iload_n 25 rfl dX7_ask_24 rfl 2 rfl ?_
      refine mm_iload_n 26 rfl dX7_ask_25 rfl 0 rfl ?_
      refine ca_X7_221 29 rfl dX7_ask_26 h0.1 (ct_X7_tallyPlaces c1 x3_6 h0) (by decide) (Nat.le_of_ble_eq_true rfl) (fun z_7 => ?_)
      refine mm_aload_n 30 rfl dX7_ask_29 rfl 1 rfl ?_
      refine gt_X7_49 33 rfl dX7_ask_30 h0.1 ?_
      refine mm_iload_n 34 rfl dX7_ask_33 rfl 0 rfl ?_
      refine ca_X7_169 37 rfl dX7_ask_34 (ct_J6_bitCount_0f7a4 x3_6 ) (by decide) (Nat.le_of_ble_eq_true rfl) (fun z_8 => ?_)
      refine ca_X7_189 40 rfl dX7_ask_37 h0.2.2.2.2.2.2.2.1 (ct_X0_begin z_8.1 h0.2.2.2.2.2.2.2.1) (by decide) (Nat.le_of_ble_eq_true rfl) (fun z_9 => ?_)
      refine mm_iconst 41 rfl (v := 0) dX7_ask_40 (by decide) ?_
      refine mm_istore 43 rfl dX7_ask_41 (lv' := [(4, .int 0), (3, .int x3_6), (0, .ref (mm_ad G 0)), (1, .int c1), (2, .int c2)]) (by decide) rfl ?_
      refine mm_lv [2, 4, 0] rfl (th_X7_ask_L43 h0 (fun M_16 => ?_) mm_fu _ _)
      refine mm_aload_n 101 rfl dX7_ask_100 rfl 0 rfl ?_
      refine gt_X7_49 104 rfl dX7_ask_101 h0.1 ?_
      refine mm_iload_n 105 rfl dX7_ask_104 rfl 1 rfl ?_
      refine ca_X7_200 108 rfl dX7_ask_105 h0.2.2.2.2.2.2.2.1 (ct_X0_tell c2 h0.2.2.2.2.2.2.2.1) (by decide) (Nat.le_of_ble_eq_true rfl) (fun z_18 => ?_)
      exact mm_iret dX7_ask_108 rfl rfl
    · refine mm_iconst 16 rfl (v := (-1)) dX7_ask_15 (by decide) ?_
      exact mm_iret dX7_ask_16 rfl rfl

-- MangleLine.drift(III)I
noncomputable def fn_X7_drift_L50 (c2 : Int32) (c3 : Int32) (k : mm_M → Option (Int32 × mm_M)) : Nat → Int32 → Int32 → mm_M → Option (Int32 × mm_M)
  | 0, _, _, _ => none
  | n + 1, x4, x5, M => (if c2 ≤ x5 then k  M else mm_let ((x4 * 1103515245) + 12345) fun x4_8 => mm_let ((x4_8.toUInt32 >>> ((16 : Int32).toUInt32 &&& Int32.toUInt32 31)).toInt32 &&& 32767) fun x6_9 => (if (M 1 0) = 0 then none else ((fn_X2_soil 8 ((x6_9 / 16) - (x6_9 / 16) / (M 1 0) * (M 1 0)) ((x6_9 / 128) - (x6_9 / 128) / 3 * 3) M).bind fun z_10 => ((fn_X2_passDay 8 (x6_9 - x6_9 / 10 * 10) z_10).bind fun z_11 => fn_X7_drift_L50 c2 c3 k n x4_8 (x5 + 1) z_11.2))))
set_option maxRecDepth 20000 in
set_option maxHeartbeats 4000000 in
theorem th_X7_drift_L50 {X : mm_X} {G : mm_G} {sh : mm_S} {c2 : Int32} {c3 : Int32} {k : mm_M → Option (Int32 × mm_M)} (h0 : mm_isMli G sh) (hk : ∀ (M : mm_M), mm_T X G (cX7_drift, 7, RX7, (some .int), 4) (mm_fi sh) sh M 125 [(0, .ref (mm_ad G 0)), (3, .int c3)] [] (k  M)) : ∀ (n : Nat) (x4 : Int32) (x5 : Int32) (M : mm_M), mm_T X G (cX7_drift, 7, RX7, (some .int), 4) (mm_fi sh) sh M 50 [(0, .ref (mm_ad G 0)), (2, .int c2), (3, .int c3), (4, .int x4), (5, .int x5)] [] (fn_X7_drift_L50 c2 c3 k n x4 x5 M) := by
  intro n
  induction n with
  | zero => intro x4 x5 M; exact mm_none
  | succ n ih =>
    intro x4 x5 M
    rw [fn_X7_drift_L50]
    refine mm_iload 52 rfl dX7_drift_50 4 rfl ?_
    refine mm_iload_n 53 rfl dX7_drift_52 rfl 1 rfl ?_
    refine mm_icmp_ge 56 125 rfl dX7_drift_53 (by decide) (fun h_7 => ?_) (fun h_7 => ?_)
    · exact mm_lv [0, 2] rfl (hk _)
    · refine mm_iload 58 rfl dX7_drift_56 3 rfl ?_
      refine mm_ldc 60 rfl (v := 1103515245) dX7_drift_58 mw_3_210 ?_
      refine mm_imul 61 rfl dX7_drift_60 ?_
      refine mm_sipush 64 rfl (v := 12345) dX7_drift_61 (by decide) ?_
      refine mm_iadd 65 rfl dX7_drift_64 ?_
      refine mm_bI (fun x4_8 => ?_)
      refine mm_istore 67 rfl dX7_drift_65 (lv' := [(4, .int x4_8), (0, .ref (mm_ad G 0)), (2, .int c2), (3, .int c3), (5, .int x5)]) (by decide) rfl ?_
      refine mm_iload 69 rfl dX7_drift_67 0 rfl ?_
      refine mm_bipush 71 rfl (v := 16) dX7_drift_69 (by decide) ?_
      refine mm_iushr 72 rfl dX7_drift_71 ?_
      refine mm_sipush 75 rfl (v := 32767) dX7_drift_72 (by decide) ?_
      refine mm_iand 76 rfl dX7_drift_75 ?_
      refine mm_bI (fun x6_9 => ?_)
      refine mm_istore 78 rfl dX7_drift_76 (lv' := [(6, .int x6_9), (4, .int x4_8), (0, .ref (mm_ad G 0)), (2, .int c2), (3, .int c3), (5, .int x5)]) (by decide) rfl ?_
      refine mm_aload_n 79 rfl dX7_drift_78 rfl 2 rfl ?_
      refine gt_X7_16 82 rfl dX7_drift_79 h0.1 ?_
      refine mm_iload 84 rfl dX7_drift_82 0 rfl ?_
      refine mm_bipush 86 rfl (v := 16) dX7_drift_84 (by decide) ?_
      refine mm_idiv 87 rfl dX7_drift_86 (by decide) ?_
      refine mm_aload_n 88 rfl dX7_drift_87 rfl 2 rfl ?_
      refine gt_X7_12 91 rfl dX7_drift_88 h0.1 ?_
      refine gt_X7_101 94 rfl dX7_drift_91 h0.2.1.1 ?_
      refine mm_iremU 95 rfl dX7_drift_94 (fun _ => ?_)
      refine mm_iload 97 rfl dX7_drift_95 0 rfl ?_
      refine mm_sipush 100 rfl (v := 128) dX7_drift_97 (by decide) ?_
      refine mm_idiv 101 rfl dX7_drift_100 (by decide) ?_
      refine mm_iconst 102 rfl (v := 3) dX7_drift_101 (by decide) ?_
      refine mm_irem 103 rfl dX7_drift_102 (by decide) ?_
      refine ca_X7_228 106 rfl dX7_drift_103 h0.2.2.1.1 (ct_X2_soil 8 ((x6_9 / 16) - (x6_9 / 16) / (M 1 0) * (M 1 0)) ((x6_9 / 128) - (x6_9 / 128) / 3 * 3) h0.2.2.1) (by decide) (Nat.le_of_ble_eq_true rfl) (fun z_10 => ?_)
      refine mm_aload_n 107 rfl dX7_drift_106 rfl 2 rfl ?_
      refine gt_X7_16 110 rfl dX7_drift_107 h0.1 ?_
      refine mm_iload 112 rfl dX7_drift_110 0 rfl ?_
      refine mm_bipush 114 rfl (v := 10) dX7_drift_112 (by decide) ?_
      refine mm_irem 115 rfl dX7_drift_114 (by decide) ?_
      refine ca_X7_163 118 rfl dX7_drift_115 h0.2.2.1.1 (ct_X2_passDay 8 (x6_9 - x6_9 / 10 * 10) h0.2.2.1) (by decide) (Nat.le_of_ble_eq_true rfl) (fun z_11 => ?_)
      refine mm_pop 119 rfl dX7_drift_118 rfl ?_
      refine mm_iinc 122 rfl dX7_drift_119 5 rfl (v := (x5 + 1)) rfl (lv' := [(5, .int (x5 + 1)), (6, .int x6_9), (4, .int x4_8), (0, .ref (mm_ad G 0)), (2, .int c2), (3, .int c3)]) (by decide) rfl ?_
      refine mm_goto 50 dX7_drift_122 (by decide) ?_
      exact mm_lv [3, 4, 5, 2, 0] rfl (ih _ _ _)
noncomputable def fn_X7_drift (c1 : Int32) (c2 : Int32) (c3 : Int32) (M : mm_M) : Option (Int32 × mm_M) :=
  ((fn_X7_within c2 1 60 M).bind fun z_1 => (if z_1.1 = 0 then some ((-1), z_1.2) else ((fn_X7_isHalf c3 z_1.2).bind fun z_3 => (if z_3.1 = 0 then some ((-1), z_3.2) else (if 1 ≤ (z_3.2 1 0) then ((fn_X2_become 8 1 z_3.2).bind fun z_6 => fn_X7_drift_L50 c2 c3 (fun M_12 => (if c3 = 0 then ((fn_X2_whoIsAt 8 2 M_12).bind fun z_16 => ((fn_J6_bitCount_0f7a4 z_16.1 z_16.2).bind fun z_17 => some (z_17.1, z_17.2))) else ((fn_X2_greyOfAll 8 M_12).bind fun z_15 => some (z_15.1, z_15.2)))) mm_fu c1 0 z_6) else some ((-2), z_3.2))))))
set_option maxRecDepth 20000 in
set_option maxHeartbeats 4000000 in
theorem ct_X7_drift {l : Launch} {G : mm_G} {sh : mm_S} {M : mm_M} (c1 : Int32) (c2 : Int32) (c3 : Int32) (h0 : mm_isMli G sh) : mm_K l G yX7_drift (cX7_drift, 7, RX7, (some .int), 4) [.ref (mm_ad G 0), .int c1, .int c2, .int c3] (mm_fi sh) sh M (fn_X7_drift c1 c2 c3 M) := by
  refine mm_met (by decide +kernel) rfl (Nat.le_of_ble_eq_true rfl) (fun X hX => ?_)
  subst hX
  show mm_T X G (cX7_drift, 7, RX7, (some .int), 4) (mm_fi sh) sh M 0 [(0, .ref (mm_ad G 0)), (1, .int c1), (2, .int c2), (3, .int c3)] [] (fn_X7_drift c1 c2 c3 M)
  unfold fn_X7_drift
  refine mm_iload_n 1 rfl dX7_drift_0 rfl 2 rfl ?_
  refine mm_iconst 2 rfl (v := 1) dX7_drift_1 (by decide) ?_
  refine mm_bipush 4 rfl (v := 60) dX7_drift_2 (by decide) ?_
  refine ca_X7_71 7 rfl dX7_drift_4 (ct_X7_within c2 1 60 ) (by decide) (Nat.le_of_ble_eq_true rfl) (fun z_1 => ?_)
  refine mm_if_eq 10 17 rfl dX7_drift_7 (by decide) (fun h_2 => ?_) (fun h_2 => ?_)
  · refine mm_iconst 18 rfl (v := (-1)) dX7_drift_17 (by decide) ?_
    exact mm_iret dX7_drift_18 rfl rfl
  · refine mm_iload_n 11 rfl dX7_drift_10 rfl 3 rfl ?_
    refine ca_X7_186 14 rfl dX7_drift_11 (ct_X7_isHalf c3 ) (by decide) (Nat.le_of_ble_eq_true rfl) (fun z_3 => ?_)
    refine mm_if_ne 17 19 rfl dX7_drift_14 (by decide) (fun h_4 => ?_) (fun h_4 => ?_)
    · refine mm_aload_n 20 rfl dX7_drift_19 rfl 0 rfl ?_
      refine gt_X7_12 23 rfl dX7_drift_20 h0.1 ?_
      refine gt_X7_101 26 rfl dX7_drift_23 h0.2.1.1 ?_
      refine mm_iconst 27 rfl (v := 1) dX7_drift_26 (by decide) ?_
      refine mm_icmp_ge 30 33 rfl dX7_drift_27 (by decide) (fun h_5 => ?_) (fun h_5 => ?_)
      · refine mm_aload_n 34 rfl dX7_drift_33 rfl 0 rfl ?_
        refine gt_X7_16 37 rfl dX7_drift_34 h0.1 ?_
        refine mm_aload_n 38 rfl dX7_drift_37 rfl 0 rfl ?_
        refine gt_X7_12 41 rfl dX7_drift_38 h0.1 ?_
        refine ca_X7_87 44 rfl dX7_drift_41 h0.2.2.1.1 (ct_X2_become 8 1 h0.2.2.1 h0.2.1) (by decide) (Nat.le_of_ble_eq_true rfl) (fun z_6 => ?_)
        refine mm_iload_n 45 rfl dX7_drift_44 rfl 1 rfl ?_
        refine mm_istore 47 rfl dX7_drift_45 (lv' := [(4, .int c1), (0, .ref (mm_ad G 0)), (1, .int c1), (2, .int c2), (3, .int c3)]) (by decide) rfl ?_
        refine mm_iconst 48 rfl (v := 0) dX7_drift_47 (by decide) ?_
        refine mm_istore 50 rfl dX7_drift_48 (lv' := [(5, .int 0), (4, .int c1), (0, .ref (mm_ad G 0)), (1, .int c1), (2, .int c2), (3, .int c3)]) (by decide) rfl ?_
        refine mm_lv [2, 4, 5, 1, 0] rfl (th_X7_drift_L50 h0 (fun M_12 => ?_) mm_fu _ _ _)
        refine mm_iload_n 126 rfl dX7_drift_125 rfl 1 rfl ?_
        refine mm_if_ne 129 143 rfl dX7_drift_126 (by decide) (fun h_14 => ?_) (fun h_14 => ?_)
        · refine mm_aload_n 144 rfl dX7_drift_143 rfl 0 rfl ?_
          refine gt_X7_16 147 rfl dX7_drift_144 h0.1 ?_
          refine ca_X7_109 150 rfl dX7_drift_147 h0.2.2.1.1 (ct_X2_greyOfAll 8 h0.2.2.1) (by decide) (Nat.le_of_ble_eq_true rfl) (fun z_15 => ?_)
          exact mm_iret dX7_drift_150 rfl rfl
        · refine mm_aload_n 130 rfl dX7_drift_129 rfl 0 rfl ?_
          refine gt_X7_16 133 rfl dX7_drift_130 h0.1 ?_
          refine mm_iconst 134 rfl (v := 2) dX7_drift_133 (by decide) ?_
          refine ca_X7_105 137 rfl dX7_drift_134 h0.2.2.1.1 (ct_X2_whoIsAt 8 2 h0.2.2.1) (by decide) (Nat.le_of_ble_eq_true rfl) (fun z_16 => ?_)
          refine ca_X7_169 140 rfl dX7_drift_137 (ct_J6_bitCount_0f7a4 z_16.1 ) (by decide) (Nat.le_of_ble_eq_true rfl) (fun z_17 => ?_)
          refine mm_goto 150 dX7_drift_140 (by decide) ?_
          exact mm_iret dX7_drift_150 rfl rfl
      · refine mm_bipush 32 rfl (v := (-2)) dX7_drift_30 (by decide) ?_
        exact mm_iret dX7_drift_32 rfl rfl
    · refine mm_iconst 18 rfl (v := (-1)) dX7_drift_17 (by decide) ?_
      exact mm_iret dX7_drift_18 rfl rfl

-- MangleLine.keep(I)I
noncomputable def fn_X7_keep (c1 : Int32) (M : mm_M) : Option (Int32 × mm_M) :=
  ((fn_X7_within c1 0 1 M).bind fun z_1 => (if z_1.1 = 0 then some ((-1), z_1.2) else (if mm_in c1 2 then (if (z_1.2 (90 + 12 * c1.toNatClampNeg) 0) = 0 then mm_let (mm_up z_1.2 (90 + 12 * c1.toNatClampNeg) 0 1) fun M_5 => ((fn_X2_become ((90 + 12 * c1.toNatClampNeg) + 1) 1 M_5).bind fun z_6 => ((fn_X5_become ((90 + 12 * c1.toNatClampNeg) + 8) 19 z_6).bind fun z_7 => some (0, z_7))) else mm_let (mm_up z_1.2 (90 + 12 * c1.toNatClampNeg) 0 1) fun M_8 => ((fn_X2_become ((90 + 12 * c1.toNatClampNeg) + 1) 1 M_8).bind fun z_9 => ((fn_X5_become ((90 + 12 * c1.toNatClampNeg) + 8) 19 z_9).bind fun z_10 => some (1, z_10)))) else none)))
set_option maxRecDepth 20000 in
set_option maxHeartbeats 4000000 in
theorem ct_X7_keep {l : Launch} {G : mm_G} {sh : mm_S} {M : mm_M} (c1 : Int32) (h0 : mm_isMli G sh) : mm_K l G yX7_keep (cX7_keep, 4, RX7, (some .int), 2) [.ref (mm_ad G 0), .int c1] (mm_fi sh) sh M (fn_X7_keep c1 M) := by
  refine mm_met (by decide +kernel) rfl (Nat.le_of_ble_eq_true rfl) (fun X hX => ?_)
  subst hX
  show mm_T X G (cX7_keep, 4, RX7, (some .int), 2) (mm_fi sh) sh M 0 [(0, .ref (mm_ad G 0)), (1, .int c1)] [] (fn_X7_keep c1 M)
  unfold fn_X7_keep
  refine mm_iload_n 1 rfl dX7_keep_0 rfl 1 rfl ?_
  refine mm_iconst 2 rfl (v := 0) dX7_keep_1 (by decide) ?_
  refine mm_iconst 3 rfl (v := 1) dX7_keep_2 (by decide) ?_
  refine ca_X7_71 6 rfl dX7_keep_3 (ct_X7_within c1 0 1 ) (by decide) (Nat.le_of_ble_eq_true rfl) (fun z_1 => ?_)
  refine mm_if_ne 9 11 rfl dX7_keep_6 (by decide) (fun h_2 => ?_) (fun h_2 => ?_)
  · refine mm_aload_n 12 rfl dX7_keep_11 rfl 0 rfl ?_
    refine gt_X7_59 15 rfl dX7_keep_12 h0.1 ?_
    refine mm_iload_n 16 rfl dX7_keep_15 rfl 1 rfl ?_
    refine mm_aald 17 rfl dX7_keep_16 h0.2.2.2.2.2.2.2.2.2.1 rfl (fun h_3 => ?_)
    refine mm_astore_n 18 rfl dX7_keep_17 rfl (lv' := [(2, .ref (mm_ad G (90 + 12 * c1.toNatClampNeg))), (0, .ref (mm_ad G 0)), (1, .int c1)]) (by decide) rfl ?_
    refine mm_aload_n 19 rfl dX7_keep_18 rfl 0 rfl ?_
    refine gt_X7_94 22 rfl dX7_keep_19 ((h0.2.2.2.2.2.2.2.2.2.2.1 _ (mm_in_lt h_3)).1) ?_
    refine mm_if_eq 25 29 rfl dX7_keep_22 (by decide) (fun h_4 => ?_) (fun h_4 => ?_)
    · refine mm_iconst 30 rfl (v := 0) dX7_keep_29 (by decide) ?_
      refine mm_istore_n 31 rfl dX7_keep_30 rfl (lv' := [(3, .int 0), (2, .ref (mm_ad G (90 + 12 * c1.toNatClampNeg))), (0, .ref (mm_ad G 0)), (1, .int c1)]) (by decide) rfl ?_
      refine mm_aload_n 32 rfl dX7_keep_31 rfl 1 rfl ?_
      refine mm_iconst 33 rfl (v := 1) dX7_keep_32 (by decide) ?_
      refine pt_X7_94 36 rfl dX7_keep_33 ((h0.2.2.2.2.2.2.2.2.2.2.1 _ (mm_in_lt h_3)).1) rfl rfl ?_
      refine mm_bM (fun M_5 => ?_)
      refine mm_aload_n 37 rfl dX7_keep_36 rfl 1 rfl ?_
      refine gt_X7_231 40 rfl dX7_keep_37 ((h0.2.2.2.2.2.2.2.2.2.2.1 _ (mm_in_lt h_3)).1) ?_
      refine mm_aload_n 41 rfl dX7_keep_40 rfl 2 rfl ?_
      refine gt_X7_12 44 rfl dX7_keep_41 h0.1 ?_
      refine ca_X7_87 47 rfl dX7_keep_44 ((h0.2.2.2.2.2.2.2.2.2.2.1 _ (mm_in_lt h_3)).2.1.1) (ct_X2_become ((90 + 12 * c1.toNatClampNeg) + 1) 1 ((h0.2.2.2.2.2.2.2.2.2.2.1 _ (mm_in_lt h_3)).2.1) h0.2.1) (by decide) (Nat.le_of_ble_eq_true rfl) (fun z_6 => ?_)
      refine mm_aload_n 48 rfl dX7_keep_47 rfl 1 rfl ?_
      refine gt_X7_234 51 rfl dX7_keep_48 ((h0.2.2.2.2.2.2.2.2.2.2.1 _ (mm_in_lt h_3)).1) ?_
      refine mm_aload_n 52 rfl dX7_keep_51 rfl 2 rfl ?_
      refine gt_X7_42 55 rfl dX7_keep_52 h0.1 ?_
      refine ca_X7_235 58 rfl dX7_keep_55 ((h0.2.2.2.2.2.2.2.2.2.2.1 _ (mm_in_lt h_3)).2.2.1) (ct_X5_become ((90 + 12 * c1.toNatClampNeg) + 8) 19 ((h0.2.2.2.2.2.2.2.2.2.2.1 _ (mm_in_lt h_3)).2.2) h0.2.2.2.2.2.2.1) (by decide) (Nat.le_of_ble_eq_true rfl) (fun z_7 => ?_)
      refine mm_iload_n 59 rfl dX7_keep_58 rfl 0 rfl ?_
      exact mm_iret dX7_keep_59 rfl rfl
    · refine mm_iconst 26 rfl (v := 1) dX7_keep_25 (by decide) ?_
      refine mm_goto 30 dX7_keep_26 (by decide) ?_
      refine mm_istore_n 31 rfl dX7_keep_30 rfl (lv' := [(3, .int 1), (2, .ref (mm_ad G (90 + 12 * c1.toNatClampNeg))), (0, .ref (mm_ad G 0)), (1, .int c1)]) (by decide) rfl ?_
      refine mm_aload_n 32 rfl dX7_keep_31 rfl 1 rfl ?_
      refine mm_iconst 33 rfl (v := 1) dX7_keep_32 (by decide) ?_
      refine pt_X7_94 36 rfl dX7_keep_33 ((h0.2.2.2.2.2.2.2.2.2.2.1 _ (mm_in_lt h_3)).1) rfl rfl ?_
      refine mm_bM (fun M_8 => ?_)
      refine mm_aload_n 37 rfl dX7_keep_36 rfl 1 rfl ?_
      refine gt_X7_231 40 rfl dX7_keep_37 ((h0.2.2.2.2.2.2.2.2.2.2.1 _ (mm_in_lt h_3)).1) ?_
      refine mm_aload_n 41 rfl dX7_keep_40 rfl 2 rfl ?_
      refine gt_X7_12 44 rfl dX7_keep_41 h0.1 ?_
      refine ca_X7_87 47 rfl dX7_keep_44 ((h0.2.2.2.2.2.2.2.2.2.2.1 _ (mm_in_lt h_3)).2.1.1) (ct_X2_become ((90 + 12 * c1.toNatClampNeg) + 1) 1 ((h0.2.2.2.2.2.2.2.2.2.2.1 _ (mm_in_lt h_3)).2.1) h0.2.1) (by decide) (Nat.le_of_ble_eq_true rfl) (fun z_9 => ?_)
      refine mm_aload_n 48 rfl dX7_keep_47 rfl 1 rfl ?_
      refine gt_X7_234 51 rfl dX7_keep_48 ((h0.2.2.2.2.2.2.2.2.2.2.1 _ (mm_in_lt h_3)).1) ?_
      refine mm_aload_n 52 rfl dX7_keep_51 rfl 2 rfl ?_
      refine gt_X7_42 55 rfl dX7_keep_52 h0.1 ?_
      refine ca_X7_235 58 rfl dX7_keep_55 ((h0.2.2.2.2.2.2.2.2.2.2.1 _ (mm_in_lt h_3)).2.2.1) (ct_X5_become ((90 + 12 * c1.toNatClampNeg) + 8) 19 ((h0.2.2.2.2.2.2.2.2.2.2.1 _ (mm_in_lt h_3)).2.2) h0.2.2.2.2.2.2.1) (by decide) (Nat.le_of_ble_eq_true rfl) (fun z_10 => ?_)
      refine mm_iload_n 59 rfl dX7_keep_58 rfl 0 rfl ?_
      exact mm_iret dX7_keep_59 rfl rfl
  · refine mm_iconst 10 rfl (v := (-1)) dX7_keep_9 (by decide) ?_
    exact mm_iret dX7_keep_10 rfl rfl

-- MangleLine.back(I)I
noncomputable def fn_X7_back (c1 : Int32) (M : mm_M) : Option (Int32 × mm_M) :=
  ((fn_X7_within c1 0 1 M).bind fun z_1 => (if z_1.1 = 0 then some ((-1), z_1.2) else (if mm_in c1 2 then (if (z_1.2 (90 + 12 * c1.toNatClampNeg) 0) = 0 then some ((-2), z_1.2) else ((fn_X2_become 1 ((90 + 12 * c1.toNatClampNeg) + 1) z_1.2).bind fun z_5 => ((fn_X5_become 19 ((90 + 12 * c1.toNatClampNeg) + 8) z_5).bind fun z_6 => some ((z_6 1 1), z_6)))) else none)))
set_option maxRecDepth 20000 in
set_option maxHeartbeats 4000000 in
theorem ct_X7_back {l : Launch} {G : mm_G} {sh : mm_S} {M : mm_M} (c1 : Int32) (h0 : mm_isMli G sh) : mm_K l G yX7_back (cX7_back, 3, RX7, (some .int), 2) [.ref (mm_ad G 0), .int c1] (mm_fi sh) sh M (fn_X7_back c1 M) := by
  refine mm_met (by decide +kernel) rfl (Nat.le_of_ble_eq_true rfl) (fun X hX => ?_)
  subst hX
  show mm_T X G (cX7_back, 3, RX7, (some .int), 2) (mm_fi sh) sh M 0 [(0, .ref (mm_ad G 0)), (1, .int c1)] [] (fn_X7_back c1 M)
  unfold fn_X7_back
  refine mm_iload_n 1 rfl dX7_back_0 rfl 1 rfl ?_
  refine mm_iconst 2 rfl (v := 0) dX7_back_1 (by decide) ?_
  refine mm_iconst 3 rfl (v := 1) dX7_back_2 (by decide) ?_
  refine ca_X7_71 6 rfl dX7_back_3 (ct_X7_within c1 0 1 ) (by decide) (Nat.le_of_ble_eq_true rfl) (fun z_1 => ?_)
  refine mm_if_ne 9 11 rfl dX7_back_6 (by decide) (fun h_2 => ?_) (fun h_2 => ?_)
  · refine mm_aload_n 12 rfl dX7_back_11 rfl 0 rfl ?_
    refine gt_X7_59 15 rfl dX7_back_12 h0.1 ?_
    refine mm_iload_n 16 rfl dX7_back_15 rfl 1 rfl ?_
    refine mm_aald 17 rfl dX7_back_16 h0.2.2.2.2.2.2.2.2.2.1 rfl (fun h_3 => ?_)
    refine mm_astore_n 18 rfl dX7_back_17 rfl (lv' := [(2, .ref (mm_ad G (90 + 12 * c1.toNatClampNeg))), (0, .ref (mm_ad G 0)), (1, .int c1)]) (by decide) rfl ?_
    refine mm_aload_n 19 rfl dX7_back_18 rfl 0 rfl ?_
    refine gt_X7_94 22 rfl dX7_back_19 ((h0.2.2.2.2.2.2.2.2.2.2.1 _ (mm_in_lt h_3)).1) ?_
    refine mm_if_ne 25 28 rfl dX7_back_22 (by decide) (fun h_4 => ?_) (fun h_4 => ?_)
    · refine mm_aload_n 29 rfl dX7_back_28 rfl 1 rfl ?_
      refine gt_X7_12 32 rfl dX7_back_29 h0.1 ?_
      refine mm_aload_n 33 rfl dX7_back_32 rfl 0 rfl ?_
      refine gt_X7_231 36 rfl dX7_back_33 ((h0.2.2.2.2.2.2.2.2.2.2.1 _ (mm_in_lt h_3)).1) ?_
      refine ca_X7_87 39 rfl dX7_back_36 h0.2.1.1 (ct_X2_become 1 ((90 + 12 * c1.toNatClampNeg) + 1) h0.2.1 ((h0.2.2.2.2.2.2.2.2.2.2.1 _ (mm_in_lt h_3)).2.1)) (by decide) (Nat.le_of_ble_eq_true rfl) (fun z_5 => ?_)
      refine mm_aload_n 40 rfl dX7_back_39 rfl 1 rfl ?_
      refine gt_X7_42 43 rfl dX7_back_40 h0.1 ?_
      refine mm_aload_n 44 rfl dX7_back_43 rfl 0 rfl ?_
      refine gt_X7_234 47 rfl dX7_back_44 ((h0.2.2.2.2.2.2.2.2.2.2.1 _ (mm_in_lt h_3)).1) ?_
      refine ca_X7_235 50 rfl dX7_back_47 h0.2.2.2.2.2.2.1.1 (ct_X5_become 19 ((90 + 12 * c1.toNatClampNeg) + 8) h0.2.2.2.2.2.2.1 ((h0.2.2.2.2.2.2.2.2.2.2.1 _ (mm_in_lt h_3)).2.2)) (by decide) (Nat.le_of_ble_eq_true rfl) (fun z_6 => ?_)
      refine mm_aload_n 51 rfl dX7_back_50 rfl 1 rfl ?_
      refine gt_X7_12 54 rfl dX7_back_51 h0.1 ?_
      refine gt_X7_102 57 rfl dX7_back_54 h0.2.1.1 ?_
      exact mm_iret dX7_back_57 rfl rfl
    · refine mm_bipush 27 rfl (v := (-2)) dX7_back_25 (by decide) ?_
      exact mm_iret dX7_back_27 rfl rfl
  · refine mm_iconst 10 rfl (v := (-1)) dX7_back_9 (by decide) ?_
    exact mm_iret dX7_back_10 rfl rfl

-- MangleLine.isSheet(I)Z
noncomputable def fn_X7_isSheet (c0 : Int32) (M : mm_M) : Option (Int32 × mm_M) :=
  ((fn_X7_within c0 0 3 M).bind fun z_1 => (if z_1.1 = 0 ∨ z_1.1 = 1 then some (z_1.1, z_1.2) else none))
set_option maxRecDepth 20000 in
set_option maxHeartbeats 4000000 in
theorem ct_X7_isSheet {l : Launch} {G : mm_G} {sh : mm_S} {M : mm_M} (c0 : Int32) : mm_K l G yX7_isSheet (cX7_isSheet, 1, RX7, (some .boolean), 2) [.int c0] (mm_fi sh) sh M (fn_X7_isSheet c0 M) := by
  refine mm_met (by decide +kernel) rfl (Nat.le_of_ble_eq_true rfl) (fun X hX => ?_)
  subst hX
  show mm_T X G (cX7_isSheet, 1, RX7, (some .boolean), 2) (mm_fi sh) sh M 0 [(0, .int c0)] [] (fn_X7_isSheet c0 M)
  unfold fn_X7_isSheet
  refine mm_iload_n 1 rfl dX7_isSheet_0 rfl 0 rfl ?_
  refine mm_iconst 2 rfl (v := 0) dX7_isSheet_1 (by decide) ?_
  refine mm_iconst 3 rfl (v := 3) dX7_isSheet_2 (by decide) ?_
  refine ca_X7_71 6 rfl dX7_isSheet_3 (ct_X7_within c0 0 3 ) (by decide) (Nat.le_of_ble_eq_true rfl) (fun z_1 => ?_)
  exact mm_zret dX7_isSheet_6 rfl rfl

-- MangleLine.isLane(I)Z
noncomputable def fn_X7_isLane (c0 : Int32) (M : mm_M) : Option (Int32 × mm_M) :=
  ((fn_X7_within c0 0 2 M).bind fun z_1 => (if z_1.1 = 0 ∨ z_1.1 = 1 then some (z_1.1, z_1.2) else none))
set_option maxRecDepth 20000 in
set_option maxHeartbeats 4000000 in
theorem ct_X7_isLane {l : Launch} {G : mm_G} {sh : mm_S} {M : mm_M} (c0 : Int32) : mm_K l G yX7_isLane (cX7_isLane, 1, RX7, (some .boolean), 2) [.int c0] (mm_fi sh) sh M (fn_X7_isLane c0 M) := by
  refine mm_met (by decide +kernel) rfl (Nat.le_of_ble_eq_true rfl) (fun X hX => ?_)
  subst hX
  show mm_T X G (cX7_isLane, 1, RX7, (some .boolean), 2) (mm_fi sh) sh M 0 [(0, .int c0)] [] (fn_X7_isLane c0 M)
  unfold fn_X7_isLane
  refine mm_iload_n 1 rfl dX7_isLane_0 rfl 0 rfl ?_
  refine mm_iconst 2 rfl (v := 0) dX7_isLane_1 (by decide) ?_
  refine mm_iconst 3 rfl (v := 2) dX7_isLane_2 (by decide) ?_
  refine ca_X7_71 6 rfl dX7_isLane_3 (ct_X7_within c0 0 2 ) (by decide) (Nat.le_of_ble_eq_true rfl) (fun z_1 => ?_)
  exact mm_zret dX7_isLane_6 rfl rfl

-- MangleLine.sheet(III)I
noncomputable def fn_X7_sheet (c1 : Int32) (c2 : Int32) (c3 : Int32) (M : mm_M) : Option (Int32 × mm_M) :=
  ((fn_X7_isSheet c1 M).bind fun z_1 => (if z_1.1 = 0 then some ((-1), z_1.2) else ((fn_X7_isLane c2 z_1.2).bind fun z_3 => (if z_3.1 = 0 then some ((-1), z_3.2) else (if c3 ≤ 40 then (if 0 ≤ c3 then (if mm_in c1 4 then ((fn_X4_renew (114 + 2 * c1.toNatClampNeg) c2 c3 z_3.2).bind fun z_8 => some (1, z_8)) else none) else some ((-14), z_3.2)) else some ((-1), z_3.2))))))
set_option maxRecDepth 20000 in
set_option maxHeartbeats 4000000 in
theorem ct_X7_sheet {l : Launch} {G : mm_G} {sh : mm_S} {M : mm_M} (c1 : Int32) (c2 : Int32) (c3 : Int32) (h0 : mm_isMli G sh) : mm_K l G yX7_sheet (cX7_sheet, 4, RX7, (some .int), 3) [.ref (mm_ad G 0), .int c1, .int c2, .int c3] (mm_fi sh) sh M (fn_X7_sheet c1 c2 c3 M) := by
  refine mm_met (by decide +kernel) rfl (Nat.le_of_ble_eq_true rfl) (fun X hX => ?_)
  subst hX
  show mm_T X G (cX7_sheet, 4, RX7, (some .int), 3) (mm_fi sh) sh M 0 [(0, .ref (mm_ad G 0)), (1, .int c1), (2, .int c2), (3, .int c3)] [] (fn_X7_sheet c1 c2 c3 M)
  unfold fn_X7_sheet
  refine mm_iload_n 1 rfl dX7_sheet_0 rfl 1 rfl ?_
  refine ca_X7_238 4 rfl dX7_sheet_1 (ct_X7_isSheet c1 ) (by decide) (Nat.le_of_ble_eq_true rfl) (fun z_1 => ?_)
  refine mm_if_eq 7 20 rfl dX7_sheet_4 (by decide) (fun h_2 => ?_) (fun h_2 => ?_)
  · refine mm_iconst 21 rfl (v := (-1)) dX7_sheet_20 (by decide) ?_
    exact mm_iret dX7_sheet_21 rfl rfl
  · refine mm_iload_n 8 rfl dX7_sheet_7 rfl 2 rfl ?_
    refine ca_X7_241 11 rfl dX7_sheet_8 (ct_X7_isLane c2 ) (by decide) (Nat.le_of_ble_eq_true rfl) (fun z_3 => ?_)
    refine mm_if_eq 14 20 rfl dX7_sheet_11 (by decide) (fun h_4 => ?_) (fun h_4 => ?_)
    · refine mm_iconst 21 rfl (v := (-1)) dX7_sheet_20 (by decide) ?_
      exact mm_iret dX7_sheet_21 rfl rfl
    · refine mm_iload_n 15 rfl dX7_sheet_14 rfl 3 rfl ?_
      refine mm_bipush 17 rfl (v := 40) dX7_sheet_15 (by decide) ?_
      refine mm_icmp_le 20 22 rfl dX7_sheet_17 (by decide) (fun h_5 => ?_) (fun h_5 => ?_)
      · refine mm_iload_n 23 rfl dX7_sheet_22 rfl 3 rfl ?_
        refine mm_if_ge 26 29 rfl dX7_sheet_23 (by decide) (fun h_6 => ?_) (fun h_6 => ?_)
        · refine mm_aload_n 30 rfl dX7_sheet_29 rfl 0 rfl ?_
          refine gt_X7_65 33 rfl dX7_sheet_30 h0.1 ?_
          refine mm_iload_n 34 rfl dX7_sheet_33 rfl 1 rfl ?_
          refine mm_aald 35 rfl dX7_sheet_34 h0.2.2.2.2.2.2.2.2.2.2.2.1 rfl (fun h_7 => ?_)
          refine mm_iload_n 36 rfl dX7_sheet_35 rfl 2 rfl ?_
          refine mm_iload_n 37 rfl dX7_sheet_36 rfl 3 rfl ?_
          refine ca_X7_244 40 rfl dX7_sheet_37 ((h0.2.2.2.2.2.2.2.2.2.2.2.2 _ (mm_in_lt h_7)).1) (ct_X4_renew (114 + 2 * c1.toNatClampNeg) c2 c3 (h0.2.2.2.2.2.2.2.2.2.2.2.2 _ (mm_in_lt h_7))) (by decide) (Nat.le_of_ble_eq_true rfl) (fun z_8 => ?_)
          refine mm_iconst 41 rfl (v := 1) dX7_sheet_40 (by decide) ?_
          exact mm_iret dX7_sheet_41 rfl rfl
        · refine mm_bipush 28 rfl (v := (-14)) dX7_sheet_26 (by decide) ?_
          exact mm_iret dX7_sheet_28 rfl rfl
      · refine mm_iconst 21 rfl (v := (-1)) dX7_sheet_20 (by decide) ?_
        exact mm_iret dX7_sheet_21 rfl rfl

-- MangleLine.lay(III)I
noncomputable def fn_X7_lay (c1 : Int32) (c2 : Int32) (c3 : Int32) (M : mm_M) : Option (Int32 × mm_M) :=
  ((fn_X7_isSheet c1 M).bind fun z_1 => (if z_1.1 = 0 then some ((-1), z_1.2) else (if mm_in c1 4 then ((fn_X4_isNothing (114 + 2 * c1.toNatClampNeg) z_1.2).bind fun z_4 => (if z_4.1 = 0 then ((fn_X4_hasCell (114 + 2 * c1.toNatClampNeg) c2 z_4.2).bind fun z_6 => (if z_6.1 = 0 then some ((-12), z_6.2) else ((fn_X4_write (114 + 2 * c1.toNatClampNeg) c2 c3 z_6.2).bind fun z_8 => some (1, z_8)))) else some ((-11), z_4.2))) else none)))
set_option maxRecDepth 20000 in
set_option maxHeartbeats 4000000 in
theorem ct_X7_lay {l : Launch} {G : mm_G} {sh : mm_S} {M : mm_M} (c1 : Int32) (c2 : Int32) (c3 : Int32) (h0 : mm_isMli G sh) : mm_K l G yX7_lay (cX7_lay, 5, RX7, (some .int), 3) [.ref (mm_ad G 0), .int c1, .int c2, .int c3] (mm_fi sh) sh M (fn_X7_lay c1 c2 c3 M) := by
  refine mm_met (by decide +kernel) rfl (Nat.le_of_ble_eq_true rfl) (fun X hX => ?_)
  subst hX
  show mm_T X G (cX7_lay, 5, RX7, (some .int), 3) (mm_fi sh) sh M 0 [(0, .ref (mm_ad G 0)), (1, .int c1), (2, .int c2), (3, .int c3)] [] (fn_X7_lay c1 c2 c3 M)
  unfold fn_X7_lay
  refine mm_iload_n 1 rfl dX7_lay_0 rfl 1 rfl ?_
  refine ca_X7_238 4 rfl dX7_lay_1 (ct_X7_isSheet c1 ) (by decide) (Nat.le_of_ble_eq_true rfl) (fun z_1 => ?_)
  refine mm_if_ne 7 9 rfl dX7_lay_4 (by decide) (fun h_2 => ?_) (fun h_2 => ?_)
  · refine mm_aload_n 10 rfl dX7_lay_9 rfl 0 rfl ?_
    refine gt_X7_65 13 rfl dX7_lay_10 h0.1 ?_
    refine mm_iload_n 14 rfl dX7_lay_13 rfl 1 rfl ?_
    refine mm_aald 15 rfl dX7_lay_14 h0.2.2.2.2.2.2.2.2.2.2.2.1 rfl (fun h_3 => ?_)
    refine mm_astore 17 rfl dX7_lay_15 (lv' := [(4, .ref (mm_ad G (114 + 2 * c1.toNatClampNeg))), (0, .ref (mm_ad G 0)), (1, .int c1), (2, .int c2), (3, .int c3)]) (by decide) rfl ?_
    refine mm_aload 19 rfl dX7_lay_17 0 rfl ?_
    refine ca_X7_247 22 rfl dX7_lay_19 ((h0.2.2.2.2.2.2.2.2.2.2.2.2 _ (mm_in_lt h_3)).1) (ct_X4_isNothing (114 + 2 * c1.toNatClampNeg) (h0.2.2.2.2.2.2.2.2.2.2.2.2 _ (mm_in_lt h_3))) (by decide) (Nat.le_of_ble_eq_true rfl) (fun z_4 => ?_)
    refine mm_if_eq 25 28 rfl dX7_lay_22 (by decide) (fun h_5 => ?_) (fun h_5 => ?_)
    · refine mm_aload 30 rfl dX7_lay_28 0 rfl ?_
      refine mm_iload_n 31 rfl dX7_lay_30 rfl 3 rfl ?_
      refine ca_X7_251 34 rfl dX7_lay_31 ((h0.2.2.2.2.2.2.2.2.2.2.2.2 _ (mm_in_lt h_3)).1) (ct_X4_hasCell (114 + 2 * c1.toNatClampNeg) c2 (h0.2.2.2.2.2.2.2.2.2.2.2.2 _ (mm_in_lt h_3))) (by decide) (Nat.le_of_ble_eq_true rfl) (fun z_6 => ?_)
      refine mm_if_ne 37 40 rfl dX7_lay_34 (by decide) (fun h_7 => ?_) (fun h_7 => ?_)
      · refine mm_aload 42 rfl dX7_lay_40 0 rfl ?_
        refine mm_iload_n 43 rfl dX7_lay_42 rfl 3 rfl ?_
        refine mm_iload_n 44 rfl dX7_lay_43 rfl 4 rfl ?_
        refine ca_X7_254 47 rfl dX7_lay_44 ((h0.2.2.2.2.2.2.2.2.2.2.2.2 _ (mm_in_lt h_3)).1) (ct_X4_write (114 + 2 * c1.toNatClampNeg) c2 c3 (h0.2.2.2.2.2.2.2.2.2.2.2.2 _ (mm_in_lt h_3))) (by decide) (Nat.le_of_ble_eq_true rfl) (fun z_8 => ?_)
        refine mm_iconst 48 rfl (v := 1) dX7_lay_47 (by decide) ?_
        exact mm_iret dX7_lay_48 rfl rfl
      · refine mm_bipush 39 rfl (v := (-12)) dX7_lay_37 (by decide) ?_
        exact mm_iret dX7_lay_39 rfl rfl
    · refine mm_bipush 27 rfl (v := (-11)) dX7_lay_25 (by decide) ?_
      exact mm_iret dX7_lay_27 rfl rfl
  · refine mm_iconst 8 rfl (v := (-1)) dX7_lay_7 (by decide) ?_
    exact mm_iret dX7_lay_8 rfl rfl

-- MangleLine.read(IIII)I
noncomputable def fn_X7_read_L58 (c2 : Int32) (c3 : Int32) (c4 : Int32) (r5 : Nat) (c6 : Int32) (c7 : Int32) (k0 : Int32 → mm_M → Option (Int32 × mm_M)) (k1 : mm_M → Option (Int32 × mm_M)) : Nat → Int32 → mm_M → Option (Int32 × mm_M)
  | 0, _, _ => none
  | n + 1, x8, M => (if c6 ≤ x8 then k1  M else mm_let (c3 + (2 * x8)) fun x9_12 => (if mm_in x9_12 40 then (if mm_in (x9_12 + 1) 40 then ((fn_X2_admit 1 (M (r5 + 1) x9_12.toNatClampNeg) (M (r5 + 1) (x9_12 + 1).toNatClampNeg) M).bind fun z_15 => (if 0 ≤ z_15.1 then fn_X7_read_L58 c2 c3 c4 r5 c6 c7 k0 k1 n (x8 + 1) z_15.2 else k0 x8 z_15.2)) else none) else none))
set_option maxRecDepth 20000 in
set_option maxHeartbeats 4000000 in
theorem th_X7_read_L58 {X : mm_X} {G : mm_G} {sh : mm_S} {c2 : Int32} {c3 : Int32} {c4 : Int32} {r5 : Nat} {c6 : Int32} {c7 : Int32} {k0 : Int32 → mm_M → Option (Int32 × mm_M)} {k1 : mm_M → Option (Int32 × mm_M)} (h0 : mm_isMli G sh) (h5 : mm_isShe G sh r5) (hk0 : ∀ (x8 : Int32) (M : mm_M), mm_T X G (cX7_read, 10, RX7, (some .int), 4) (mm_fi sh) sh M 101 [(0, .ref (mm_ad G 0)), (7, .int c7), (8, .int x8)] [] (k0 x8 M)) (hk1 : ∀ (M : mm_M), mm_T X G (cX7_read, 10, RX7, (some .int), 4) (mm_fi sh) sh M 122 [(0, .ref (mm_ad G 0)), (2, .int c2), (4, .int c4), (5, .ref (mm_ad G r5)), (6, .int c6)] [] (k1  M)) : ∀ (n : Nat) (x8 : Int32) (M : mm_M), mm_T X G (cX7_read, 10, RX7, (some .int), 4) (mm_fi sh) sh M 58 [(0, .ref (mm_ad G 0)), (2, .int c2), (3, .int c3), (4, .int c4), (5, .ref (mm_ad G r5)), (6, .int c6), (7, .int c7), (8, .int x8)] [] (fn_X7_read_L58 c2 c3 c4 r5 c6 c7 k0 k1 n x8 M) := by
  intro n
  induction n with
  | zero => intro x8 M; exact mm_none
  | succ n ih =>
    intro x8 M
    rw [fn_X7_read_L58]
    refine mm_iload 60 rfl dX7_read_58 7 rfl ?_
    refine mm_iload 62 rfl dX7_read_60 5 rfl ?_
    refine mm_icmp_ge 65 122 rfl dX7_read_62 (by decide) (fun h_11 => ?_) (fun h_11 => ?_)
    · exact mm_lv [0, 1, 3, 4, 5] rfl (hk1 _)
    · refine mm_iload_n 66 rfl dX7_read_65 rfl 2 rfl ?_
      refine mm_iconst 67 rfl (v := 2) dX7_read_66 (by decide) ?_
      refine mm_iload 69 rfl dX7_read_67 7 rfl ?_
      refine mm_imul 70 rfl dX7_read_69 ?_
      refine mm_iadd 71 rfl dX7_read_70 ?_
      refine mm_bI (fun x9_12 => ?_)
      refine mm_istore 73 rfl dX7_read_71 (lv' := [(9, .int x9_12), (0, .ref (mm_ad G 0)), (2, .int c2), (3, .int c3), (4, .int c4), (5, .ref (mm_ad G r5)), (6, .int c6), (7, .int c7), (8, .int x8)]) (by decide) rfl ?_
      refine mm_aload_n 74 rfl dX7_read_73 rfl 1 rfl ?_
      refine gt_X7_12 77 rfl dX7_read_74 h0.1 ?_
      refine mm_aload 79 rfl dX7_read_77 5 rfl ?_
      refine gt_X7_261 82 rfl dX7_read_79 h5.1 ?_
      refine mm_iload 84 rfl dX7_read_82 0 rfl ?_
      refine mm_iald 85 rfl dX7_read_84 h5.2 (fun h_13 => ?_)
      refine mm_aload 87 rfl dX7_read_85 5 rfl ?_
      refine gt_X7_261 90 rfl dX7_read_87 h5.1 ?_
      refine mm_iload 92 rfl dX7_read_90 0 rfl ?_
      refine mm_iconst 93 rfl (v := 1) dX7_read_92 (by decide) ?_
      refine mm_iadd 94 rfl dX7_read_93 ?_
      refine mm_iald 95 rfl dX7_read_94 h5.2 (fun h_14 => ?_)
      refine ca_X7_157 98 rfl dX7_read_95 h0.2.1.1 (ct_X2_admit 1 (M (r5 + 1) x9_12.toNatClampNeg) (M (r5 + 1) (x9_12 + 1).toNatClampNeg) h0.2.1) (by decide) (Nat.le_of_ble_eq_true rfl) (fun z_15 => ?_)
      refine mm_if_ge 101 116 rfl dX7_read_98 (by decide) (fun h_16 => ?_) (fun h_16 => ?_)
      · refine mm_iinc 119 rfl dX7_read_116 8 rfl (v := (x8 + 1)) rfl (lv' := [(8, .int (x8 + 1)), (9, .int x9_12), (0, .ref (mm_ad G 0)), (2, .int c2), (3, .int c3), (4, .int c4), (5, .ref (mm_ad G r5)), (6, .int c6), (7, .int c7)]) (by decide) rfl ?_
        refine mm_goto 58 dX7_read_119 (by decide) ?_
        exact mm_lv [2, 3, 4, 5, 6, 7, 8, 0] rfl (ih _ _)
      · exact mm_lv [1, 7, 8] rfl (hk0 _ _)
noncomputable def fn_X7_read (c1 : Int32) (c2 : Int32) (c3 : Int32) (c4 : Int32) (M : mm_M) : Option (Int32 × mm_M) :=
  ((fn_X7_isSheet c1 M).bind fun z_1 => (if z_1.1 = 0 then some ((-1), z_1.2) else ((fn_X7_isLane c2 z_1.2).bind fun z_3 => (if z_3.1 = 0 then some ((-1), z_3.2) else ((fn_X7_within c4 0 20 z_3.2).bind fun z_5 => (if z_5.1 = 0 then some ((-1), z_5.2) else (if mm_in c1 4 then ((fn_X4_wholePairs (114 + 2 * c1.toNatClampNeg) c2 c3 c4 z_5.2).bind fun z_8 => mm_let z_8.1 fun x6_9 => mm_let (z_8.2 1 0) fun x7_10 => fn_X7_read_L58 c2 c3 c4 (114 + 2 * c1.toNatClampNeg) x6_9 x7_10 (fun x8_17 M_18 => mm_let (mm_up M_18 1 0 x7_10) fun M_20 => some (((-20) - x8_17), M_20)) (fun M_21 => (if c4 ≤ x6_9 then ((fn_X4_faultOfReading (114 + 2 * c1.toNatClampNeg) c2 0 M_21).bind fun z_24 => mm_let (mm_up z_24.2 0 10 z_24.1) fun M_25 => some (x6_9, M_25)) else ((fn_X4_faultOfReading (114 + 2 * c1.toNatClampNeg) c2 1 M_21).bind fun z_26 => mm_let (mm_up z_26.2 0 10 z_26.1) fun M_27 => some (x6_9, M_27)))) mm_fu 0 z_8.2) else none)))))))
set_option maxRecDepth 20000 in
set_option maxHeartbeats 4000000 in
theorem ct_X7_read {l : Launch} {G : mm_G} {sh : mm_S} {M : mm_M} (c1 : Int32) (c2 : Int32) (c3 : Int32) (c4 : Int32) (h0 : mm_isMli G sh) : mm_K l G yX7_read (cX7_read, 10, RX7, (some .int), 4) [.ref (mm_ad G 0), .int c1, .int c2, .int c3, .int c4] (mm_fi sh) sh M (fn_X7_read c1 c2 c3 c4 M) := by
  refine mm_met (by decide +kernel) rfl (Nat.le_of_ble_eq_true rfl) (fun X hX => ?_)
  subst hX
  show mm_T X G (cX7_read, 10, RX7, (some .int), 4) (mm_fi sh) sh M 0 [(0, .ref (mm_ad G 0)), (1, .int c1), (2, .int c2), (3, .int c3), (4, .int c4)] [] (fn_X7_read c1 c2 c3 c4 M)
  unfold fn_X7_read
  refine mm_iload_n 1 rfl dX7_read_0 rfl 1 rfl ?_
  refine ca_X7_238 4 rfl dX7_read_1 (ct_X7_isSheet c1 ) (by decide) (Nat.le_of_ble_eq_true rfl) (fun z_1 => ?_)
  refine mm_if_eq 7 25 rfl dX7_read_4 (by decide) (fun h_2 => ?_) (fun h_2 => ?_)
  · refine mm_iconst 26 rfl (v := (-1)) dX7_read_25 (by decide) ?_
    exact mm_iret dX7_read_26 rfl rfl
  · refine mm_iload_n 8 rfl dX7_read_7 rfl 2 rfl ?_
    refine ca_X7_241 11 rfl dX7_read_8 (ct_X7_isLane c2 ) (by decide) (Nat.le_of_ble_eq_true rfl) (fun z_3 => ?_)
    refine mm_if_eq 14 25 rfl dX7_read_11 (by decide) (fun h_4 => ?_) (fun h_4 => ?_)
    · refine mm_iconst 26 rfl (v := (-1)) dX7_read_25 (by decide) ?_
      exact mm_iret dX7_read_26 rfl rfl
    · refine mm_iload 16 rfl dX7_read_14 4 rfl ?_
      refine mm_iconst 17 rfl (v := 0) dX7_read_16 (by decide) ?_
      refine mm_bipush 19 rfl (v := 20) dX7_read_17 (by decide) ?_
      refine ca_X7_71 22 rfl dX7_read_19 (ct_X7_within c4 0 20 ) (by decide) (Nat.le_of_ble_eq_true rfl) (fun z_5 => ?_)
      refine mm_if_ne 25 27 rfl dX7_read_22 (by decide) (fun h_6 => ?_) (fun h_6 => ?_)
      · refine mm_aload_n 28 rfl dX7_read_27 rfl 0 rfl ?_
        refine gt_X7_65 31 rfl dX7_read_28 h0.1 ?_
        refine mm_iload_n 32 rfl dX7_read_31 rfl 1 rfl ?_
        refine mm_aald 33 rfl dX7_read_32 h0.2.2.2.2.2.2.2.2.2.2.2.1 rfl (fun h_7 => ?_)
        refine mm_astore 35 rfl dX7_read_33 (lv' := [(5, .ref (mm_ad G (114 + 2 * c1.toNatClampNeg))), (0, .ref (mm_ad G 0)), (1, .int c1), (2, .int c2), (3, .int c3), (4, .int c4)]) (by decide) rfl ?_
        refine mm_aload 37 rfl dX7_read_35 0 rfl ?_
        refine mm_iload_n 38 rfl dX7_read_37 rfl 3 rfl ?_
        refine mm_iload_n 39 rfl dX7_read_38 rfl 4 rfl ?_
        refine mm_iload 41 rfl dX7_read_39 5 rfl ?_
        refine ca_X7_257 44 rfl dX7_read_41 ((h0.2.2.2.2.2.2.2.2.2.2.2.2 _ (mm_in_lt h_7)).1) (ct_X4_wholePairs (114 + 2 * c1.toNatClampNeg) c2 c3 c4 (h0.2.2.2.2.2.2.2.2.2.2.2.2 _ (mm_in_lt h_7))) (by decide) (Nat.le_of_ble_eq_true rfl) (fun z_8 => ?_)
        refine mm_bI (fun x6_9 => ?_)
        refine mm_istore 46 rfl dX7_read_44 (lv' := [(6, .int x6_9), (5, .ref (mm_ad G (114 + 2 * c1.toNatClampNeg))), (0, .ref (mm_ad G 0)), (1, .int c1), (2, .int c2), (3, .int c3), (4, .int c4)]) (by decide) rfl ?_
        refine mm_aload_n 47 rfl dX7_read_46 rfl 2 rfl ?_
        refine gt_X7_12 50 rfl dX7_read_47 h0.1 ?_
        refine gt_X7_101 53 rfl dX7_read_50 h0.2.1.1 ?_
        refine mm_bI (fun x7_10 => ?_)
        refine mm_istore 55 rfl dX7_read_53 (lv' := [(7, .int x7_10), (6, .int x6_9), (5, .ref (mm_ad G (114 + 2 * c1.toNatClampNeg))), (0, .ref (mm_ad G 0)), (1, .int c1), (2, .int c2), (3, .int c3), (4, .int c4)]) (by decide) rfl ?_
        refine mm_iconst 56 rfl (v := 0) dX7_read_55 (by decide) ?_
        refine mm_istore 58 rfl dX7_read_56 (lv' := [(8, .int 0), (7, .int x7_10), (6, .int x6_9), (5, .ref (mm_ad G (114 + 2 * c1.toNatClampNeg))), (0, .ref (mm_ad G 0)), (1, .int c1), (2, .int c2), (3, .int c3), (4, .int c4)]) (by decide) rfl ?_
        refine mm_lv [4, 6, 7, 8, 3, 2, 1, 0] rfl (th_X7_read_L58 h0 (h0.2.2.2.2.2.2.2.2.2.2.2.2 _ (mm_in_lt h_7)) (fun x8_17 M_18 => ?_) (fun M_21 => ?_) mm_fu _ _)
        · refine mm_aload_n 102 rfl dX7_read_101 rfl 0 rfl ?_
          refine gt_X7_12 105 rfl dX7_read_102 h0.1 ?_
          refine mm_iload 107 rfl dX7_read_105 1 rfl ?_
          refine pt_X7_101 110 rfl dX7_read_107 h0.2.1.1 ?_
          refine mm_bM (fun M_20 => ?_)
          refine mm_bipush 112 rfl (v := (-20)) dX7_read_110 (by decide) ?_
          refine mm_iload 114 rfl dX7_read_112 2 rfl ?_
          refine mm_isub 115 rfl dX7_read_114 ?_
          exact mm_iret dX7_read_115 rfl rfl
        · refine mm_aload_n 123 rfl dX7_read_122 rfl 0 rfl ?_
          refine mm_aload 125 rfl dX7_read_123 3 rfl ?_
          refine mm_iload_n 126 rfl dX7_read_125 rfl 1 rfl ?_
          refine mm_iload 128 rfl dX7_read_126 4 rfl ?_
          refine mm_iload 130 rfl dX7_read_128 2 rfl ?_
          refine mm_icmp_ge 133 137 rfl dX7_read_130 (by decide) (fun h_23 => ?_) (fun h_23 => ?_)
          · refine mm_iconst 138 rfl (v := 0) dX7_read_137 (by decide) ?_
            refine ca_X7_264 141 rfl dX7_read_138 ((h0.2.2.2.2.2.2.2.2.2.2.2.2 _ (mm_in_lt h_7)).1) (ct_X4_faultOfReading (114 + 2 * c1.toNatClampNeg) c2 0 (h0.2.2.2.2.2.2.2.2.2.2.2.2 _ (mm_in_lt h_7))) (by decide) (Nat.le_of_ble_eq_true rfl) (fun z_24 => ?_)
            refine pt_X7_268 144 rfl dX7_read_141 h0.1 ?_
            refine mm_bM (fun M_25 => ?_)
            refine mm_iload 146 rfl dX7_read_144 4 rfl ?_
            exact mm_iret dX7_read_146 rfl rfl
          · refine mm_iconst 134 rfl (v := 1) dX7_read_133 (by decide) ?_
            refine mm_goto 138 dX7_read_134 (by decide) ?_
            refine ca_X7_264 141 rfl dX7_read_138 ((h0.2.2.2.2.2.2.2.2.2.2.2.2 _ (mm_in_lt h_7)).1) (ct_X4_faultOfReading (114 + 2 * c1.toNatClampNeg) c2 1 (h0.2.2.2.2.2.2.2.2.2.2.2.2 _ (mm_in_lt h_7))) (by decide) (Nat.le_of_ble_eq_true rfl) (fun z_26 => ?_)
            refine pt_X7_268 144 rfl dX7_read_141 h0.1 ?_
            refine mm_bM (fun M_27 => ?_)
            refine mm_iload 146 rfl dX7_read_144 4 rfl ?_
            exact mm_iret dX7_read_146 rfl rfl
      · refine mm_iconst 26 rfl (v := (-1)) dX7_read_25 (by decide) ?_
        exact mm_iret dX7_read_26 rfl rfl

-- MangleLine.torn()I
noncomputable def fn_X7_torn  (M : mm_M) : Option (Int32 × mm_M) :=
  some ((M 0 10), M)
set_option maxRecDepth 20000 in
set_option maxHeartbeats 4000000 in
theorem ct_X7_torn {l : Launch} {G : mm_G} {sh : mm_S} {M : mm_M} (h0 : mm_isMli G sh) : mm_K l G yX7_torn (cX7_torn, 1, RX7, (some .int), 1) [.ref (mm_ad G 0)] (mm_fi sh) sh M (fn_X7_torn  M) := by
  refine mm_met (by decide +kernel) rfl (Nat.le_of_ble_eq_true rfl) (fun X hX => ?_)
  subst hX
  show mm_T X G (cX7_torn, 1, RX7, (some .int), 1) (mm_fi sh) sh M 0 [(0, .ref (mm_ad G 0))] [] (fn_X7_torn  M)
  unfold fn_X7_torn
  refine mm_aload_n 1 rfl dX7_torn_0 rfl 0 rfl ?_
  refine gt_X7_268 4 rfl dX7_torn_1 h0.1 ?_
  exact mm_iret dX7_torn_4 rfl rfl

-- MangleLine.imagesKept()I
noncomputable def fn_X7_imagesKept_L4  (k : Int32 → mm_M → Option (Int32 × mm_M)) : Nat → Int32 → Int32 → mm_M → Option (Int32 × mm_M)
  | 0, _, _, _ => none
  | n + 1, x1, x2, M => (if 2 ≤ x2 then k x1 M else (if mm_in x2 2 then (if (M (90 + 12 * x2.toNatClampNeg) 0) = 0 then mm_let (x1 + 0) fun x1_4 => fn_X7_imagesKept_L4 k n x1_4 (x2 + 1) M else mm_let (x1 + 1) fun x1_5 => fn_X7_imagesKept_L4 k n x1_5 (x2 + 1) M) else none))
set_option maxRecDepth 20000 in
set_option maxHeartbeats 4000000 in
theorem th_X7_imagesKept_L4 {X : mm_X} {G : mm_G} {sh : mm_S} {k : Int32 → mm_M → Option (Int32 × mm_M)} (h0 : mm_isMli G sh) (hk : ∀ (x1 : Int32) (M : mm_M), mm_T X G (cX7_imagesKept, 3, RX7, (some .int), 1) (mm_fi sh) sh M 39 [(1, .int x1)] [] (k x1 M)) : ∀ (n : Nat) (x1 : Int32) (x2 : Int32) (M : mm_M), mm_T X G (cX7_imagesKept, 3, RX7, (some .int), 1) (mm_fi sh) sh M 4 [(0, .ref (mm_ad G 0)), (1, .int x1), (2, .int x2)] [] (fn_X7_imagesKept_L4 k n x1 x2 M) := by
  intro n
  induction n with
  | zero => intro x1 x2 M; exact mm_none
  | succ n ih =>
    intro x1 x2 M
    rw [fn_X7_imagesKept_L4]
    refine mm_iload_n 5 rfl dX7_imagesKept_4 rfl 2 rfl ?_
    refine mm_aload_n 6 rfl dX7_imagesKept_5 rfl 0 rfl ?_
    refine gt_X7_59 9 rfl dX7_imagesKept_6 h0.1 ?_
    refine mm_alenR 10 rfl dX7_imagesKept_9 h0.2.2.2.2.2.2.2.2.2.1 rfl (v := 2) (by decide) ?_
    refine mm_icmp_ge 13 39 rfl dX7_imagesKept_10 (by decide) (fun h_1 => ?_) (fun h_1 => ?_)
    · exact mm_lv [1] rfl (hk _ _)
    · refine mm_iload_n 14 rfl dX7_imagesKept_13 rfl 1 rfl ?_
      refine mm_aload_n 15 rfl dX7_imagesKept_14 rfl 0 rfl ?_
      refine gt_X7_59 18 rfl dX7_imagesKept_15 h0.1 ?_
      refine mm_iload_n 19 rfl dX7_imagesKept_18 rfl 2 rfl ?_
      refine mm_aald 20 rfl dX7_imagesKept_19 h0.2.2.2.2.2.2.2.2.2.1 rfl (fun h_2 => ?_)
      refine gt_X7_94 23 rfl dX7_imagesKept_20 ((h0.2.2.2.2.2.2.2.2.2.2.1 _ (mm_in_lt h_2)).1) ?_
      refine mm_if_eq 26 30 rfl dX7_imagesKept_23 (by decide) (fun h_3 => ?_) (fun h_3 => ?_)
      · refine mm_iconst 31 rfl (v := 0) dX7_imagesKept_30 (by decide) ?_
        refine mm_iadd 32 rfl dX7_imagesKept_31 ?_
        refine mm_bI (fun x1_4 => ?_)
        refine mm_istore_n 33 rfl dX7_imagesKept_32 rfl (lv' := [(1, .int x1_4), (0, .ref (mm_ad G 0)), (2, .int x2)]) (by decide) rfl ?_
        refine mm_iinc 36 rfl dX7_imagesKept_33 2 rfl (v := (x2 + 1)) rfl (lv' := [(2, .int (x2 + 1)), (1, .int x1_4), (0, .ref (mm_ad G 0))]) (by decide) rfl ?_
        refine mm_goto 4 dX7_imagesKept_36 (by decide) ?_
        exact mm_lv [2, 1, 0] rfl (ih _ _ _)
      · refine mm_iconst 27 rfl (v := 1) dX7_imagesKept_26 (by decide) ?_
        refine mm_goto 31 dX7_imagesKept_27 (by decide) ?_
        refine mm_iadd 32 rfl dX7_imagesKept_31 ?_
        refine mm_bI (fun x1_5 => ?_)
        refine mm_istore_n 33 rfl dX7_imagesKept_32 rfl (lv' := [(1, .int x1_5), (0, .ref (mm_ad G 0)), (2, .int x2)]) (by decide) rfl ?_
        refine mm_iinc 36 rfl dX7_imagesKept_33 2 rfl (v := (x2 + 1)) rfl (lv' := [(2, .int (x2 + 1)), (1, .int x1_5), (0, .ref (mm_ad G 0))]) (by decide) rfl ?_
        refine mm_goto 4 dX7_imagesKept_36 (by decide) ?_
        exact mm_lv [2, 1, 0] rfl (ih _ _ _)
noncomputable def fn_X7_imagesKept  (M : mm_M) : Option (Int32 × mm_M) :=
  fn_X7_imagesKept_L4  (fun x1_6 M_7 => some (x1_6, M_7)) mm_fu 0 0 M
set_option maxRecDepth 20000 in
set_option maxHeartbeats 4000000 in
theorem ct_X7_imagesKept {l : Launch} {G : mm_G} {sh : mm_S} {M : mm_M} (h0 : mm_isMli G sh) : mm_K l G yX7_imagesKept (cX7_imagesKept, 3, RX7, (some .int), 1) [.ref (mm_ad G 0)] (mm_fi sh) sh M (fn_X7_imagesKept  M) := by
  refine mm_met (by decide +kernel) rfl (Nat.le_of_ble_eq_true rfl) (fun X hX => ?_)
  subst hX
  show mm_T X G (cX7_imagesKept, 3, RX7, (some .int), 1) (mm_fi sh) sh M 0 [(0, .ref (mm_ad G 0))] [] (fn_X7_imagesKept  M)
  unfold fn_X7_imagesKept
  refine mm_iconst 1 rfl (v := 0) dX7_imagesKept_0 (by decide) ?_
  refine mm_istore_n 2 rfl dX7_imagesKept_1 rfl (lv' := [(1, .int 0), (0, .ref (mm_ad G 0))]) (by decide) rfl ?_
  refine mm_iconst 3 rfl (v := 0) dX7_imagesKept_2 (by decide) ?_
  refine mm_istore_n 4 rfl dX7_imagesKept_3 rfl (lv' := [(2, .int 0), (1, .int 0), (0, .ref (mm_ad G 0))]) (by decide) rfl ?_
  refine mm_lv [2, 1, 0] rfl (th_X7_imagesKept_L4 h0 (fun x1_6 M_7 => ?_) mm_fu _ _ _)
  refine mm_iload_n 40 rfl dX7_imagesKept_39 rfl 0 rfl ?_
  exact mm_iret dX7_imagesKept_40 rfl rfl

-- MangleLine.count(I)I
noncomputable def fn_X7_count (c1 : Int32) (M : mm_M) : Option (Int32 × mm_M) :=
  (if c1 = 0 then some ((M 19 0), M) else (if c1 = 1 then ((fn_X7_imagesKept  M).bind fun z_3 => some (z_3.1, z_3.2)) else (if c1 = 2 then some ((M 16 1), M) else (if c1 = 3 then ((fn_X4_isNothing 114 M).bind fun z_6 => (if z_6.1 = 0 then some ((z_6.2 114 1), z_6.2) else some ((-4), z_6.2))) else (if c1 = 4 then ((fn_X2_wetOfAll 1 M).bind fun z_9 => some (z_9.1, z_9.2)) else (if c1 = 5 then ((fn_X2_sunOfAll 1 M).bind fun z_11 => some (z_11.1, z_11.2)) else some ((-1), M)))))))
set_option maxRecDepth 20000 in
set_option maxHeartbeats 4000000 in
theorem ct_X7_count {l : Launch} {G : mm_G} {sh : mm_S} {M : mm_M} (c1 : Int32) (h0 : mm_isMli G sh) : mm_K l G yX7_count (cX7_count, 2, RX7, (some .int), 3) [.ref (mm_ad G 0), .int c1] (mm_fi sh) sh M (fn_X7_count c1 M) := by
  refine mm_met (by decide +kernel) rfl (Nat.le_of_ble_eq_true rfl) (fun X hX => ?_)
  subst hX
  show mm_T X G (cX7_count, 2, RX7, (some .int), 3) (mm_fi sh) sh M 0 [(0, .ref (mm_ad G 0)), (1, .int c1)] [] (fn_X7_count c1 M)
  unfold fn_X7_count
  refine mm_iload_n 1 rfl dX7_count_0 rfl 1 rfl ?_
  refine mm_ite (fun h_1 => ?_) (fun h_1 => ?_)
  · refine mm_tabIn 40 0 h_1 dX7_count_1 (by decide) (by decide) rfl (by decide) ?_
    refine mm_aload_n 41 rfl dX7_count_40 rfl 0 rfl ?_
    refine gt_X7_42 44 rfl dX7_count_41 h0.1 ?_
    refine gt_X7_91 47 rfl dX7_count_44 h0.2.2.2.2.2.2.1.1 ?_
    exact mm_iret dX7_count_47 rfl rfl
  · refine mm_ite (fun h_2 => ?_) (fun h_2 => ?_)
    · refine mm_tabIn 48 1 h_2 dX7_count_1 (by decide) (by decide) rfl (by decide) ?_
      refine mm_aload_n 49 rfl dX7_count_48 rfl 0 rfl ?_
      refine ca_X7_271 52 rfl dX7_count_49 h0.1 (ct_X7_imagesKept  h0) (by decide) (Nat.le_of_ble_eq_true rfl) (fun z_3 => ?_)
      exact mm_iret dX7_count_52 rfl rfl
    · refine mm_ite (fun h_4 => ?_) (fun h_4 => ?_)
      · refine mm_tabIn 53 2 h_4 dX7_count_1 (by decide) (by decide) rfl (by decide) ?_
        refine mm_aload_n 54 rfl dX7_count_53 rfl 0 rfl ?_
        refine gt_X7_26 57 rfl dX7_count_54 h0.1 ?_
        refine gt_X7_79 60 rfl dX7_count_57 h0.2.2.2.2.2.1.2.1 ?_
        exact mm_iret dX7_count_60 rfl rfl
      · refine mm_ite (fun h_5 => ?_) (fun h_5 => ?_)
        · refine mm_tabIn 61 3 h_5 dX7_count_1 (by decide) (by decide) rfl (by decide) ?_
          refine mm_aload_n 62 rfl dX7_count_61 rfl 0 rfl ?_
          refine gt_X7_65 65 rfl dX7_count_62 h0.1 ?_
          refine mm_iconst 66 rfl (v := 0) dX7_count_65 (by decide) ?_
          refine mm_aaldK 67 rfl dX7_count_66 h0.2.2.2.2.2.2.2.2.2.2.2.1 rfl (by decide) 114 (by decide) ?_
          refine ca_X7_247 70 rfl dX7_count_67 ((h0.2.2.2.2.2.2.2.2.2.2.2.2 0 (by decide)).1) (ct_X4_isNothing 114 (h0.2.2.2.2.2.2.2.2.2.2.2.2 0 (by decide))) (by decide) (Nat.le_of_ble_eq_true rfl) (fun z_6 => ?_)
          refine mm_if_eq 73 78 rfl dX7_count_70 (by decide) (fun h_7 => ?_) (fun h_7 => ?_)
          · refine mm_aload_n 79 rfl dX7_count_78 rfl 0 rfl ?_
            refine gt_X7_65 82 rfl dX7_count_79 h0.1 ?_
            refine mm_iconst 83 rfl (v := 0) dX7_count_82 (by decide) ?_
            refine mm_aaldK 84 rfl dX7_count_83 h0.2.2.2.2.2.2.2.2.2.2.2.1 rfl (by decide) 114 (by decide) ?_
            refine gt_X7_274 87 rfl dX7_count_84 ((h0.2.2.2.2.2.2.2.2.2.2.2.2 0 (by decide)).1) ?_
            exact mm_iret dX7_count_87 rfl rfl
          · refine mm_bipush 75 rfl (v := (-4)) dX7_count_73 (by decide) ?_
            refine mm_goto 87 dX7_count_75 (by decide) ?_
            exact mm_iret dX7_count_87 rfl rfl
        · refine mm_ite (fun h_8 => ?_) (fun h_8 => ?_)
          · refine mm_tabIn 88 4 h_8 dX7_count_1 (by decide) (by decide) rfl (by decide) ?_
            refine mm_aload_n 89 rfl dX7_count_88 rfl 0 rfl ?_
            refine gt_X7_12 92 rfl dX7_count_89 h0.1 ?_
            refine ca_X7_275 95 rfl dX7_count_92 h0.2.1.1 (ct_X2_wetOfAll 1 h0.2.1) (by decide) (Nat.le_of_ble_eq_true rfl) (fun z_9 => ?_)
            exact mm_iret dX7_count_95 rfl rfl
          · refine mm_ite (fun h_10 => ?_) (fun h_10 => ?_)
            · refine mm_tabIn 96 5 h_10 dX7_count_1 (by decide) (by decide) rfl (by decide) ?_
              refine mm_aload_n 97 rfl dX7_count_96 rfl 0 rfl ?_
              refine gt_X7_12 100 rfl dX7_count_97 h0.1 ?_
              refine ca_X7_278 103 rfl dX7_count_100 h0.2.1.1 (ct_X2_sunOfAll 1 h0.2.1) (by decide) (Nat.le_of_ble_eq_true rfl) (fun z_11 => ?_)
              exact mm_iret dX7_count_103 rfl rfl
            · refine mm_tabOut 104 dX7_count_1 (mm_out 0 6 (by decide) (fun j hj => by match j, hj with | 0, _ => exact h_1 | 1, _ => exact h_2 | 2, _ => exact h_4 | 3, _ => exact h_5 | 4, _ => exact h_8 | 5, _ => exact h_10) rfl rfl) (by decide) ?_
              refine mm_iconst 105 rfl (v := (-1)) dX7_count_104 (by decide) ?_
              exact mm_iret dX7_count_105 rfl rfl

-- MangleLine.worth(LMangleLine$Laundry;I)J
noncomputable def fn_X7_worth (r0 : Nat) (c1 : Int32) (M : mm_M) : Option (Int64 × mm_M) :=
  (if c1 = (-1) then ((fn_X2_greyOfAll r0 M).bind fun z_4 => some (z_4.1.toInt64, z_4.2)) else (if mm_in c1 6 then (if (M (r0 + 4) c1.toNatClampNeg) = 2 then some (1, M) else some (0, M)) else none))
set_option maxRecDepth 20000 in
set_option maxHeartbeats 4000000 in
theorem ct_X7_worth {l : Launch} {G : mm_G} {sh : mm_S} {M : mm_M} (r0 : Nat) (c1 : Int32) (h0 : mm_isLau G sh r0) : mm_K l G yX7_worth (cX7_worth, 2, RX7, (some .long), 3) [.ref (mm_ad G r0), .int c1] (mm_fl sh) sh M (fn_X7_worth r0 c1 M) := by
  refine mm_met (by decide +kernel) rfl (Nat.le_of_ble_eq_true rfl) (fun X hX => ?_)
  subst hX
  show mm_T X G (cX7_worth, 2, RX7, (some .long), 3) (mm_fl sh) sh M 0 [(0, .ref (mm_ad G r0)), (1, .int c1)] [] (fn_X7_worth r0 c1 M)
  unfold fn_X7_worth
  refine mm_iload_n 1 rfl dX7_worth_0 rfl 1 rfl ?_
  refine mm_iconst 2 rfl (v := (-1)) dX7_worth_1 (by decide) ?_
  refine mm_icmp_ne 5 11 rfl dX7_worth_2 (by decide) (fun h_1 => ?_) (fun h_1 => ?_)
  · refine mm_aload_n 12 rfl dX7_worth_11 rfl 0 rfl ?_
    refine gt_X7_131 15 rfl dX7_worth_12 h0.1 ?_
    refine mm_iload_n 16 rfl dX7_worth_15 rfl 1 rfl ?_
    refine mm_iald 17 rfl dX7_worth_16 h0.2.2.2.2.1 (fun h_2 => ?_)
    refine mm_iconst 18 rfl (v := 2) dX7_worth_17 (by decide) ?_
    refine mm_icmp_ne 21 25 rfl dX7_worth_18 (by decide) (fun h_3 => ?_) (fun h_3 => ?_)
    · refine mm_lconst 26 rfl (v := 0) dX7_worth_25 (by decide) ?_
      exact mm_lret dX7_worth_26 rfl rfl
    · refine mm_lconst 22 rfl (v := 1) dX7_worth_21 (by decide) ?_
      refine mm_goto 26 dX7_worth_22 (by decide) ?_
      exact mm_lret dX7_worth_26 rfl rfl
  · refine mm_aload_n 6 rfl dX7_worth_5 rfl 0 rfl ?_
    refine ca_X7_109 9 rfl dX7_worth_6 h0.1 (ct_X2_greyOfAll r0 h0) (by decide) (Nat.le_of_ble_eq_true rfl) (fun z_4 => ?_)
    refine mm_i2l 10 rfl dX7_worth_9 ?_
    exact mm_lret dX7_worth_10 rfl rfl

-- MangleLine.inLowestTerms(JJII)J
noncomputable def fn_X7_inLowestTerms_B42 (c4 : Int32) (c5 : Int32) (h : Int64 → Int64 → Int32 → mm_M → Option (Int64 × mm_M)) (k : Int64 → Int64 → mm_M → Option (Int64 × mm_M)) (x0 : Int64) (x2 : Int64) (x6 : Int32) (M : mm_M) : Option (Int64 × mm_M) :=
  (if (lg_cmp (x0 - x0 / 5 * 5) 0) = 0 then (if (lg_cmp (x2 - x2 / 5 * 5) 0) = 0 then mm_let (x0 / 5) fun x0_5 => mm_let (x2 / 5) fun x2_6 => h x0_5 x2_6 (x6 + 1) M else h x0 x2 (x6 + 1) M) else h x0 x2 (x6 + 1) M)
set_option maxRecDepth 20000 in
set_option maxHeartbeats 4000000 in
theorem th_X7_inLowestTerms_B42 {X : mm_X} {G : mm_G} {sh : mm_S} {c4 : Int32} {c5 : Int32} {h : Int64 → Int64 → Int32 → mm_M → Option (Int64 × mm_M)} {k : Int64 → Int64 → mm_M → Option (Int64 × mm_M)} (hh : ∀ (y0 : Int64) (y2 : Int64) (y6 : Int32) (M : mm_M), mm_T X G (cX7_inLowestTerms, 7, RX7, (some .long), 1) (mm_fl sh) sh M 3 [(0, .long y0), (2, .long y2), (4, .int c4), (5, .int c5), (6, .int y6)] [] (h y0 y2 y6 M)) (hk : ∀ (y0 : Int64) (y2 : Int64) (M : mm_M), mm_T X G (cX7_inLowestTerms, 7, RX7, (some .long), 1) (mm_fl sh) sh M 80 [(0, .long y0), (2, .long y2), (5, .int c5)] [] (k y0 y2 M)) (x0 : Int64) (x2 : Int64) (x6 : Int32) (M : mm_M) : mm_T X G (cX7_inLowestTerms, 7, RX7, (some .long), 1) (mm_fl sh) sh M 42 [(0, .long x0), (2, .long x2), (4, .int c4), (5, .int c5), (6, .int x6)] [] (fn_X7_inLowestTerms_B42 c4 c5 h k x0 x2 x6 M) := by
  unfold fn_X7_inLowestTerms_B42
  refine mm_lload_n 43 rfl dX7_inLowestTerms_42 rfl 0 rfl ?_
  refine mm_ldc2 46 rfl (v := 5) dX7_inLowestTerms_43 mw_3_145 ?_
  refine mm_lrem 47 rfl dX7_inLowestTerms_46 (by decide) ?_
  refine mm_lconst 48 rfl (v := 0) dX7_inLowestTerms_47 (by decide) ?_
  refine mm_lcmp 49 rfl dX7_inLowestTerms_48 ?_
  refine mm_if_ne 52 74 rfl dX7_inLowestTerms_49 (by decide) (fun h_3 => ?_) (fun h_3 => ?_)
  · refine mm_iinc 77 rfl dX7_inLowestTerms_74 4 rfl (v := (x6 + 1)) rfl (lv' := [(6, .int (x6 + 1)), (0, .long x0), (2, .long x2), (4, .int c4), (5, .int c5)]) (by decide) rfl ?_
    refine mm_goto 3 dX7_inLowestTerms_77 (by decide) ?_
    exact mm_lv [1, 2, 3, 4, 0] rfl (hh _ _ _ _)
  · refine mm_lload_n 53 rfl dX7_inLowestTerms_52 rfl 1 rfl ?_
    refine mm_ldc2 56 rfl (v := 5) dX7_inLowestTerms_53 mw_3_145 ?_
    refine mm_lrem 57 rfl dX7_inLowestTerms_56 (by decide) ?_
    refine mm_lconst 58 rfl (v := 0) dX7_inLowestTerms_57 (by decide) ?_
    refine mm_lcmp 59 rfl dX7_inLowestTerms_58 ?_
    refine mm_if_ne 62 74 rfl dX7_inLowestTerms_59 (by decide) (fun h_4 => ?_) (fun h_4 => ?_)
    · refine mm_iinc 77 rfl dX7_inLowestTerms_74 4 rfl (v := (x6 + 1)) rfl (lv' := [(6, .int (x6 + 1)), (0, .long x0), (2, .long x2), (4, .int c4), (5, .int c5)]) (by decide) rfl ?_
      refine mm_goto 3 dX7_inLowestTerms_77 (by decide) ?_
      exact mm_lv [1, 2, 3, 4, 0] rfl (hh _ _ _ _)
    · refine mm_lload_n 63 rfl dX7_inLowestTerms_62 rfl 0 rfl ?_
      refine mm_ldc2 66 rfl (v := 5) dX7_inLowestTerms_63 mw_3_145 ?_
      refine mm_ldiv 67 rfl dX7_inLowestTerms_66 (by decide) ?_
      refine mm_bL (fun x0_5 => ?_)
      refine mm_lstore_n 68 rfl dX7_inLowestTerms_67 rfl (lv' := [(0, .long x0_5), (2, .long x2), (4, .int c4), (5, .int c5), (6, .int x6)]) (by decide) rfl ?_
      refine mm_lload_n 69 rfl dX7_inLowestTerms_68 rfl 1 rfl ?_
      refine mm_ldc2 72 rfl (v := 5) dX7_inLowestTerms_69 mw_3_145 ?_
      refine mm_ldiv 73 rfl dX7_inLowestTerms_72 (by decide) ?_
      refine mm_bL (fun x2_6 => ?_)
      refine mm_lstore_n 74 rfl dX7_inLowestTerms_73 rfl (lv' := [(2, .long x2_6), (0, .long x0_5), (4, .int c4), (5, .int c5), (6, .int x6)]) (by decide) rfl ?_
      refine mm_iinc 77 rfl dX7_inLowestTerms_74 4 rfl (v := (x6 + 1)) rfl (lv' := [(6, .int (x6 + 1)), (2, .long x2_6), (0, .long x0_5), (4, .int c4), (5, .int c5)]) (by decide) rfl ?_
      refine mm_goto 3 dX7_inLowestTerms_77 (by decide) ?_
      exact mm_lv [2, 1, 3, 4, 0] rfl (hh _ _ _ _)
noncomputable def fn_X7_inLowestTerms_L3 (c4 : Int32) (c5 : Int32) (k : Int64 → Int64 → mm_M → Option (Int64 × mm_M)) : Nat → Int64 → Int64 → Int32 → mm_M → Option (Int64 × mm_M)
  | 0, _, _, _, _ => none
  | n + 1, x0, x2, x6, M => (if c4 ≤ x6 then k x0 x2 M else (if (lg_cmp (x0 - x0 / 2 * 2) 0) = 0 then (if (lg_cmp (x2 - x2 / 2 * 2) 0) = 0 then mm_let (x0 / 2) fun x0_8 => mm_let (x2 / 2) fun x2_9 => fn_X7_inLowestTerms_B42 c4 c5 (fun y0 y2 y6 M => fn_X7_inLowestTerms_L3 c4 c5 k n y0 y2 y6 M) k x0_8 x2_9 x6 M else fn_X7_inLowestTerms_B42 c4 c5 (fun y0 y2 y6 M => fn_X7_inLowestTerms_L3 c4 c5 k n y0 y2 y6 M) k x0 x2 x6 M) else fn_X7_inLowestTerms_B42 c4 c5 (fun y0 y2 y6 M => fn_X7_inLowestTerms_L3 c4 c5 k n y0 y2 y6 M) k x0 x2 x6 M))
set_option maxRecDepth 20000 in
set_option maxHeartbeats 4000000 in
theorem th_X7_inLowestTerms_L3 {X : mm_X} {G : mm_G} {sh : mm_S} {c4 : Int32} {c5 : Int32} {k : Int64 → Int64 → mm_M → Option (Int64 × mm_M)} (hk : ∀ (x0 : Int64) (x2 : Int64) (M : mm_M), mm_T X G (cX7_inLowestTerms, 7, RX7, (some .long), 1) (mm_fl sh) sh M 80 [(0, .long x0), (2, .long x2), (5, .int c5)] [] (k x0 x2 M)) : ∀ (n : Nat) (x0 : Int64) (x2 : Int64) (x6 : Int32) (M : mm_M), mm_T X G (cX7_inLowestTerms, 7, RX7, (some .long), 1) (mm_fl sh) sh M 3 [(0, .long x0), (2, .long x2), (4, .int c4), (5, .int c5), (6, .int x6)] [] (fn_X7_inLowestTerms_L3 c4 c5 k n x0 x2 x6 M) := by
  intro n
  induction n with
  | zero => intro x0 x2 x6 M; exact mm_none
  | succ n ih =>
    intro x0 x2 x6 M
    rw [fn_X7_inLowestTerms_L3]
    refine mm_iload 5 rfl dX7_inLowestTerms_3 4 rfl ?_
    refine mm_iload 7 rfl dX7_inLowestTerms_5 2 rfl ?_
    refine mm_icmp_ge 10 80 rfl dX7_inLowestTerms_7 (by decide) (fun h_1 => ?_) (fun h_1 => ?_)
    · exact mm_lv [0, 1, 3] rfl (hk _ _ _)
    · refine mm_lload_n 11 rfl dX7_inLowestTerms_10 rfl 0 rfl ?_
      refine mm_ldc2 14 rfl (v := 2) dX7_inLowestTerms_11 mw_3_144 ?_
      refine mm_lrem 15 rfl dX7_inLowestTerms_14 (by decide) ?_
      refine mm_lconst 16 rfl (v := 0) dX7_inLowestTerms_15 (by decide) ?_
      refine mm_lcmp 17 rfl dX7_inLowestTerms_16 ?_
      refine mm_if_ne 20 42 rfl dX7_inLowestTerms_17 (by decide) (fun h_2 => ?_) (fun h_2 => ?_)
      · exact mm_lv [0, 1, 2, 3, 4] rfl (th_X7_inLowestTerms_B42  ih hk _ _ _ _)
      · refine mm_lload_n 21 rfl dX7_inLowestTerms_20 rfl 1 rfl ?_
        refine mm_ldc2 24 rfl (v := 2) dX7_inLowestTerms_21 mw_3_144 ?_
        refine mm_lrem 25 rfl dX7_inLowestTerms_24 (by decide) ?_
        refine mm_lconst 26 rfl (v := 0) dX7_inLowestTerms_25 (by decide) ?_
        refine mm_lcmp 27 rfl dX7_inLowestTerms_26 ?_
        refine mm_if_ne 30 42 rfl dX7_inLowestTerms_27 (by decide) (fun h_7 => ?_) (fun h_7 => ?_)
        · exact mm_lv [0, 1, 2, 3, 4] rfl (th_X7_inLowestTerms_B42  ih hk _ _ _ _)
        · refine mm_lload_n 31 rfl dX7_inLowestTerms_30 rfl 0 rfl ?_
          refine mm_ldc2 34 rfl (v := 2) dX7_inLowestTerms_31 mw_3_144 ?_
          refine mm_ldiv 35 rfl dX7_inLowestTerms_34 (by decide) ?_
          refine mm_bL (fun x0_8 => ?_)
          refine mm_lstore_n 36 rfl dX7_inLowestTerms_35 rfl (lv' := [(0, .long x0_8), (2, .long x2), (4, .int c4), (5, .int c5), (6, .int x6)]) (by decide) rfl ?_
          refine mm_lload_n 37 rfl dX7_inLowestTerms_36 rfl 1 rfl ?_
          refine mm_ldc2 40 rfl (v := 2) dX7_inLowestTerms_37 mw_3_144 ?_
          refine mm_ldiv 41 rfl dX7_inLowestTerms_40 (by decide) ?_
          refine mm_bL (fun x2_9 => ?_)
          refine mm_lstore_n 42 rfl dX7_inLowestTerms_41 rfl (lv' := [(2, .long x2_9), (0, .long x0_8), (4, .int c4), (5, .int c5), (6, .int x6)]) (by decide) rfl ?_
          exact mm_lv [1, 0, 2, 3, 4] rfl (th_X7_inLowestTerms_B42  ih hk _ _ _ _)
noncomputable def fn_X7_inLowestTerms (c0 : Int64) (c2 : Int64) (c4 : Int32) (c5 : Int32) (M : mm_M) : Option (Int64 × mm_M) :=
  fn_X7_inLowestTerms_L3 c4 c5 (fun x0_10 x2_11 M_12 => (if c5 = 0 then some (x0_10, M_12) else some (x2_11, M_12))) mm_fu c0 c2 0 M
set_option maxRecDepth 20000 in
set_option maxHeartbeats 4000000 in
theorem ct_X7_inLowestTerms {l : Launch} {G : mm_G} {sh : mm_S} {M : mm_M} (c0 : Int64) (c2 : Int64) (c4 : Int32) (c5 : Int32) : mm_K l G yX7_inLowestTerms (cX7_inLowestTerms, 7, RX7, (some .long), 1) [.long c0, .long c2, .int c4, .int c5] (mm_fl sh) sh M (fn_X7_inLowestTerms c0 c2 c4 c5 M) := by
  refine mm_met (by decide +kernel) rfl (Nat.le_of_ble_eq_true rfl) (fun X hX => ?_)
  subst hX
  show mm_T X G (cX7_inLowestTerms, 7, RX7, (some .long), 1) (mm_fl sh) sh M 0 [(0, .long c0), (2, .long c2), (4, .int c4), (5, .int c5)] [] (fn_X7_inLowestTerms c0 c2 c4 c5 M)
  unfold fn_X7_inLowestTerms
  refine mm_iconst 1 rfl (v := 0) dX7_inLowestTerms_0 (by decide) ?_
  refine mm_istore 3 rfl dX7_inLowestTerms_1 (lv' := [(6, .int 0), (0, .long c0), (2, .long c2), (4, .int c4), (5, .int c5)]) (by decide) rfl ?_
  refine mm_lv [1, 2, 3, 4, 0] rfl (th_X7_inLowestTerms_L3  (fun x0_10 x2_11 M_12 => ?_) mm_fu _ _ _ _)
  refine mm_iload 82 rfl dX7_inLowestTerms_80 2 rfl ?_
  refine mm_if_ne 85 89 rfl dX7_inLowestTerms_82 (by decide) (fun h_14 => ?_) (fun h_14 => ?_)
  · refine mm_lload_n 90 rfl dX7_inLowestTerms_89 rfl 1 rfl ?_
    exact mm_lret dX7_inLowestTerms_90 rfl rfl
  · refine mm_lload_n 86 rfl dX7_inLowestTerms_85 rfl 0 rfl ?_
    refine mm_goto 90 dX7_inLowestTerms_86 (by decide) ?_
    exact mm_lret dX7_inLowestTerms_90 rfl rfl
