-- MangleLineModel.in(JJJ)Z
noncomputable def fn_X8_in (c0 : Int64) (c2 : Int64) (c4 : Int64) (M : mm_M) : Option (Int32 × mm_M) :=
  (if (lg_cmp c0 c2) < 0 then some (0, M) else (if 0 < (lg_cmp c0 c4) then some (0, M) else some (1, M)))
set_option maxRecDepth 20000 in
set_option maxHeartbeats 4000000 in
theorem ct_X8_in {l : Launch} {G : mm_G} {sh : mm_S} {M : mm_M} (c0 : Int64) (c2 : Int64) (c4 : Int64) : mm_K l G yX8_in (cX8_in, 6, RX8, (some .boolean), 1) [.long c0, .long c2, .long c4] (mm_fi sh) sh M (fn_X8_in c0 c2 c4 M) := by
  refine mm_met (by decide +kernel) rfl (Nat.le_of_ble_eq_true rfl) (fun X hX => ?_)
  subst hX
  show mm_T X G (cX8_in, 6, RX8, (some .boolean), 1) (mm_fi sh) sh M 0 [(0, .long c0), (2, .long c2), (4, .long c4)] [] (fn_X8_in c0 c2 c4 M)
  unfold fn_X8_in
  refine mm_lload_n 1 rfl dX8_in_0 rfl 0 rfl ?_
  refine mm_lload_n 2 rfl dX8_in_1 rfl 1 rfl ?_
  refine mm_lcmp 3 rfl dX8_in_2 ?_
  refine mm_if_lt 6 17 rfl dX8_in_3 (by decide) (fun h_1 => ?_) (fun h_1 => ?_)
  · refine mm_iconst 18 rfl (v := 0) dX8_in_17 (by decide) ?_
    exact mm_zretK dX8_in_18 rfl rfl rfl
  · refine mm_lload_n 7 rfl dX8_in_6 rfl 0 rfl ?_
    refine mm_lload 9 rfl dX8_in_7 2 rfl ?_
    refine mm_lcmp 10 rfl dX8_in_9 ?_
    refine mm_if_gt 13 17 rfl dX8_in_10 (by decide) (fun h_2 => ?_) (fun h_2 => ?_)
    · refine mm_iconst 18 rfl (v := 0) dX8_in_17 (by decide) ?_
      exact mm_zretK dX8_in_18 rfl rfl rfl
    · refine mm_iconst 14 rfl (v := 1) dX8_in_13 (by decide) ?_
      refine mm_goto 18 dX8_in_14 (by decide) ?_
      exact mm_zretK dX8_in_18 rfl rfl rfl

-- MangleLineModel.flag(Z)I
noncomputable def fn_X8_flag (c0 : Int32) (M : mm_M) : Option (Int32 × mm_M) :=
  (if c0 = 0 then some (0, M) else some (1, M))
set_option maxRecDepth 20000 in
set_option maxHeartbeats 4000000 in
theorem ct_X8_flag {l : Launch} {G : mm_G} {sh : mm_S} {M : mm_M} (c0 : Int32) : mm_K l G yX8_flag (cX8_flag, 1, RX8, (some .int), 1) [.int c0] (mm_fi sh) sh M (fn_X8_flag c0 M) := by
  refine mm_met (by decide +kernel) rfl (Nat.le_of_ble_eq_true rfl) (fun X hX => ?_)
  subst hX
  show mm_T X G (cX8_flag, 1, RX8, (some .int), 1) (mm_fi sh) sh M 0 [(0, .int c0)] [] (fn_X8_flag c0 M)
  unfold fn_X8_flag
  refine mm_iload_n 1 rfl dX8_flag_0 rfl 0 rfl ?_
  refine mm_if_eq 4 8 rfl dX8_flag_1 (by decide) (fun h_1 => ?_) (fun h_1 => ?_)
  · refine mm_iconst 9 rfl (v := 0) dX8_flag_8 (by decide) ?_
    exact mm_iret dX8_flag_9 rfl rfl
  · refine mm_iconst 5 rfl (v := 1) dX8_flag_4 (by decide) ?_
    refine mm_goto 9 dX8_flag_5 (by decide) ?_
    exact mm_iret dX8_flag_9 rfl rfl

-- MangleLineModel.lesser(II)I
noncomputable def fn_X8_lesser (c0 : Int32) (c1 : Int32) (M : mm_M) : Option (Int32 × mm_M) :=
  (if c1 ≤ c0 then some (c1, M) else some (c0, M))
set_option maxRecDepth 20000 in
set_option maxHeartbeats 4000000 in
theorem ct_X8_lesser {l : Launch} {G : mm_G} {sh : mm_S} {M : mm_M} (c0 : Int32) (c1 : Int32) : mm_K l G yX8_lesser (cX8_lesser, 2, RX8, (some .int), 1) [.int c0, .int c1] (mm_fi sh) sh M (fn_X8_lesser c0 c1 M) := by
  refine mm_met (by decide +kernel) rfl (Nat.le_of_ble_eq_true rfl) (fun X hX => ?_)
  subst hX
  show mm_T X G (cX8_lesser, 2, RX8, (some .int), 1) (mm_fi sh) sh M 0 [(0, .int c0), (1, .int c1)] [] (fn_X8_lesser c0 c1 M)
  unfold fn_X8_lesser
  refine mm_iload_n 1 rfl dX8_lesser_0 rfl 0 rfl ?_
  refine mm_iload_n 2 rfl dX8_lesser_1 rfl 1 rfl ?_
  refine mm_icmp_ge 5 9 rfl dX8_lesser_2 (by decide) (fun h_1 => ?_) (fun h_1 => ?_)
  · refine mm_iload_n 10 rfl dX8_lesser_9 rfl 1 rfl ?_
    exact mm_iret dX8_lesser_10 rfl rfl
  · refine mm_iload_n 6 rfl dX8_lesser_5 rfl 0 rfl ?_
    refine mm_goto 10 dX8_lesser_6 (by decide) ?_
    exact mm_iret dX8_lesser_10 rfl rfl

-- MangleLineModel.less(II)I
noncomputable def fn_X8_less (c0 : Int32) (c1 : Int32) (M : mm_M) : Option (Int32 × mm_M) :=
  (if c0 ≤ c1 then some (0, M) else some ((c0 - c1), M))
set_option maxRecDepth 20000 in
set_option maxHeartbeats 4000000 in
theorem ct_X8_less {l : Launch} {G : mm_G} {sh : mm_S} {M : mm_M} (c0 : Int32) (c1 : Int32) : mm_K l G yX8_less (cX8_less, 2, RX8, (some .int), 1) [.int c0, .int c1] (mm_fi sh) sh M (fn_X8_less c0 c1 M) := by
  refine mm_met (by decide +kernel) rfl (Nat.le_of_ble_eq_true rfl) (fun X hX => ?_)
  subst hX
  show mm_T X G (cX8_less, 2, RX8, (some .int), 1) (mm_fi sh) sh M 0 [(0, .int c0), (1, .int c1)] [] (fn_X8_less c0 c1 M)
  unfold fn_X8_less
  refine mm_iload_n 1 rfl dX8_less_0 rfl 0 rfl ?_
  refine mm_iload_n 2 rfl dX8_less_1 rfl 1 rfl ?_
  refine mm_icmp_le 5 11 rfl dX8_less_2 (by decide) (fun h_1 => ?_) (fun h_1 => ?_)
  · refine mm_iconst 12 rfl (v := 0) dX8_less_11 (by decide) ?_
    exact mm_iret dX8_less_12 rfl rfl
  · refine mm_iload_n 6 rfl dX8_less_5 rfl 0 rfl ?_
    refine mm_iload_n 7 rfl dX8_less_6 rfl 1 rfl ?_
    refine mm_isub 8 rfl dX8_less_7 ?_
    refine mm_goto 12 dX8_less_8 (by decide) ?_
    exact mm_iret dX8_less_12 rfl rfl

-- MangleLineModel.firstDraft()V
noncomputable def fn_X8_firstDraft_L2  (k : mm_M → Option mm_M) : Nat → Int32 → mm_M → Option mm_M
  | 0, _, _ => none
  | n + 1, x1, M => (if 57 ≤ x1 then k  M else (if mm_in x1 57 then (mm_let (mm_up M 4 x1.toNatClampNeg 0) fun M_2 => fn_X8_firstDraft_L2 k n (x1 + 1) M_2) else none))
set_option maxRecDepth 20000 in
set_option maxHeartbeats 4000000 in
theorem th_X8_firstDraft_L2 {X : mm_X} {G : mm_G} {sh : mm_S} {k : mm_M → Option mm_M} (h0 : mm_isMod G sh) (hk : ∀ (M : mm_M), mm_T X G (cX8_firstDraft, 2, RX8, none, 1) (mm_fv sh) sh M 21 [(0, .ref (mm_ad G 0))] [] (k  M)) : ∀ (n : Nat) (x1 : Int32) (M : mm_M), mm_T X G (cX8_firstDraft, 2, RX8, none, 1) (mm_fv sh) sh M 2 [(0, .ref (mm_ad G 0)), (1, .int x1)] [] (fn_X8_firstDraft_L2 k n x1 M) := by
  intro n
  induction n with
  | zero => intro x1 M; exact mm_none
  | succ n ih =>
    intro x1 M
    rw [fn_X8_firstDraft_L2]
    obtain ⟨N, hN⟩ := h0.1
    refine mm_iload_n 3 rfl dX8_firstDraft_2 rfl 1 rfl ?_
    refine mm_bipush 5 rfl (v := 57) dX8_firstDraft_3 (by decide) ?_
    refine mm_icmp_ge 8 21 rfl dX8_firstDraft_5 (by decide) (fun h_1 => ?_) (fun h_1 => ?_)
    · exact mm_lv [0] rfl (hk _)
    · refine mm_aload_n 9 rfl dX8_firstDraft_8 rfl 0 rfl ?_
      refine gt_X8_20 12 rfl dX8_firstDraft_9 hN ?_
      refine mm_iload_n 13 rfl dX8_firstDraft_12 rfl 1 rfl ?_
      refine mm_iconst 14 rfl (v := 0) dX8_firstDraft_13 (by decide) ?_
      refine mm_iast 15 rfl dX8_firstDraft_14 h0.2.2.2.2.1 (fun h_3 => ?_)
      refine mm_bM (fun M_2 => ?_)
      refine mm_iinc 18 rfl dX8_firstDraft_15 1 rfl (v := (x1 + 1)) rfl (lv' := [(1, .int (x1 + 1)), (0, .ref (mm_ad G 0))]) (by decide) rfl ?_
      refine mm_goto 2 dX8_firstDraft_18 (by decide) ?_
      exact mm_lv [1, 0] rfl (ih _ _)
noncomputable def fn_X8_firstDraft_L56  (k : mm_M → Option mm_M) : Nat → Int32 → mm_M → Option mm_M
  | 0, _, _ => none
  | n + 1, x1, M => (if 7 ≤ x1 then k  M else (if mm_in (30 + x1) 57 then (mm_let (mm_up M 4 (30 + x1).toNatClampNeg 4) fun M_11 => fn_X8_firstDraft_L56 k n (x1 + 1) M_11) else none))
set_option maxRecDepth 20000 in
set_option maxHeartbeats 4000000 in
theorem th_X8_firstDraft_L56 {X : mm_X} {G : mm_G} {sh : mm_S} {k : mm_M → Option mm_M} (h0 : mm_isMod G sh) (hk : ∀ (M : mm_M), mm_T X G (cX8_firstDraft, 2, RX8, none, 1) (mm_fv sh) sh M 78 [(0, .ref (mm_ad G 0))] [] (k  M)) : ∀ (n : Nat) (x1 : Int32) (M : mm_M), mm_T X G (cX8_firstDraft, 2, RX8, none, 1) (mm_fv sh) sh M 56 [(0, .ref (mm_ad G 0)), (1, .int x1)] [] (fn_X8_firstDraft_L56 k n x1 M) := by
  intro n
  induction n with
  | zero => intro x1 M; exact mm_none
  | succ n ih =>
    intro x1 M
    rw [fn_X8_firstDraft_L56]
    obtain ⟨N, hN⟩ := h0.1
    refine mm_iload_n 57 rfl dX8_firstDraft_56 rfl 1 rfl ?_
    refine mm_bipush 59 rfl (v := 7) dX8_firstDraft_57 (by decide) ?_
    refine mm_icmp_ge 62 78 rfl dX8_firstDraft_59 (by decide) (fun h_10 => ?_) (fun h_10 => ?_)
    · exact mm_lv [0] rfl (hk _)
    · refine mm_aload_n 63 rfl dX8_firstDraft_62 rfl 0 rfl ?_
      refine gt_X8_20 66 rfl dX8_firstDraft_63 hN ?_
      refine mm_bipush 68 rfl (v := 30) dX8_firstDraft_66 (by decide) ?_
      refine mm_iload_n 69 rfl dX8_firstDraft_68 rfl 1 rfl ?_
      refine mm_iadd 70 rfl dX8_firstDraft_69 ?_
      refine mm_iconst 71 rfl (v := 4) dX8_firstDraft_70 (by decide) ?_
      refine mm_iast 72 rfl dX8_firstDraft_71 h0.2.2.2.2.1 (fun h_12 => ?_)
      refine mm_bM (fun M_11 => ?_)
      refine mm_iinc 75 rfl dX8_firstDraft_72 1 rfl (v := (x1 + 1)) rfl (lv' := [(1, .int (x1 + 1)), (0, .ref (mm_ad G 0))]) (by decide) rfl ?_
      refine mm_goto 56 dX8_firstDraft_75 (by decide) ?_
      exact mm_lv [1, 0] rfl (ih _ _)
noncomputable def fn_X8_firstDraft  (M : mm_M) : Option mm_M :=
  fn_X8_firstDraft_L2  (fun M_4 => mm_let (mm_up M_4 4 25 3) fun M_6 => mm_let (mm_up M_6 4 26 2) fun M_7 => mm_let (mm_up M_7 4 27 3) fun M_8 => mm_let (mm_up M_8 4 29 8) fun M_9 => fn_X8_firstDraft_L56  (fun M_13 => mm_let (mm_up M_13 0 4 0) fun M_15 => mm_let (mm_up M_15 0 5 0) fun M_16 => some M_16) mm_fu 0 M_9) mm_fu 0 M
set_option maxRecDepth 20000 in
set_option maxHeartbeats 4000000 in
theorem ct_X8_firstDraft {l : Launch} {G : mm_G} {sh : mm_S} {M : mm_M} (h0 : mm_isMod G sh) : mm_K l G yX8_firstDraft (cX8_firstDraft, 2, RX8, none, 1) [.ref (mm_ad G 0)] (mm_fv sh) sh M (fn_X8_firstDraft  M) := by
  refine mm_met (by decide +kernel) rfl (Nat.le_of_ble_eq_true rfl) (fun X hX => ?_)
  subst hX
  show mm_T X G (cX8_firstDraft, 2, RX8, none, 1) (mm_fv sh) sh M 0 [(0, .ref (mm_ad G 0))] [] (fn_X8_firstDraft  M)
  unfold fn_X8_firstDraft
  obtain ⟨N, hN⟩ := h0.1
  refine mm_iconst 1 rfl (v := 0) dX8_firstDraft_0 (by decide) ?_
  refine mm_istore_n 2 rfl dX8_firstDraft_1 rfl (lv' := [(1, .int 0), (0, .ref (mm_ad G 0))]) (by decide) rfl ?_
  refine mm_lv [1, 0] rfl (th_X8_firstDraft_L2 h0 (fun M_4 => ?_) mm_fu _ _)
  refine mm_aload_n 22 rfl dX8_firstDraft_21 rfl 0 rfl ?_
  refine gt_X8_20 25 rfl dX8_firstDraft_22 hN ?_
  refine mm_bipush 27 rfl (v := 25) dX8_firstDraft_25 (by decide) ?_
  refine mm_iconst 28 rfl (v := 3) dX8_firstDraft_27 (by decide) ?_
  refine mm_iastK 29 rfl dX8_firstDraft_28 h0.2.2.2.2.1 (by decide) 25 (by decide) ?_
  refine mm_bM (fun M_6 => ?_)
  refine mm_aload_n 30 rfl dX8_firstDraft_29 rfl 0 rfl ?_
  refine gt_X8_20 33 rfl dX8_firstDraft_30 hN ?_
  refine mm_bipush 35 rfl (v := 26) dX8_firstDraft_33 (by decide) ?_
  refine mm_iconst 36 rfl (v := 2) dX8_firstDraft_35 (by decide) ?_
  refine mm_iastK 37 rfl dX8_firstDraft_36 h0.2.2.2.2.1 (by decide) 26 (by decide) ?_
  refine mm_bM (fun M_7 => ?_)
  refine mm_aload_n 38 rfl dX8_firstDraft_37 rfl 0 rfl ?_
  refine gt_X8_20 41 rfl dX8_firstDraft_38 hN ?_
  refine mm_bipush 43 rfl (v := 27) dX8_firstDraft_41 (by decide) ?_
  refine mm_iconst 44 rfl (v := 3) dX8_firstDraft_43 (by decide) ?_
  refine mm_iastK 45 rfl dX8_firstDraft_44 h0.2.2.2.2.1 (by decide) 27 (by decide) ?_
  refine mm_bM (fun M_8 => ?_)
  refine mm_aload_n 46 rfl dX8_firstDraft_45 rfl 0 rfl ?_
  refine gt_X8_20 49 rfl dX8_firstDraft_46 hN ?_
  refine mm_bipush 51 rfl (v := 29) dX8_firstDraft_49 (by decide) ?_
  refine mm_bipush 53 rfl (v := 8) dX8_firstDraft_51 (by decide) ?_
  refine mm_iastK 54 rfl dX8_firstDraft_53 h0.2.2.2.2.1 (by decide) 29 (by decide) ?_
  refine mm_bM (fun M_9 => ?_)
  refine mm_iconst 55 rfl (v := 0) dX8_firstDraft_54 (by decide) ?_
  refine mm_istore_n 56 rfl dX8_firstDraft_55 rfl (lv' := [(1, .int 0), (0, .ref (mm_ad G 0))]) (by decide) rfl ?_
  refine mm_lv [1, 0] rfl (th_X8_firstDraft_L56 h0 (fun M_13 => ?_) mm_fu _ _)
  refine mm_aload_n 79 rfl dX8_firstDraft_78 rfl 0 rfl ?_
  refine mm_iconst 80 rfl (v := 0) dX8_firstDraft_79 (by decide) ?_
  refine pt_X8_50 83 rfl dX8_firstDraft_80 hN ?_
  refine mm_bM (fun M_15 => ?_)
  refine mm_aload_n 84 rfl dX8_firstDraft_83 rfl 0 rfl ?_
  refine mm_iconst 85 rfl (v := 0) dX8_firstDraft_84 (by decide) ?_
  refine pt_X8_54 88 rfl dX8_firstDraft_85 hN ?_
  refine mm_bM (fun M_16 => ?_)
  exact mm_vret dX8_firstDraft_88 rfl rfl

-- MangleLineModel.keepDraft()V
noncomputable def fn_X8_keepDraft_L2  (k : mm_M → Option mm_M) : Nat → Int32 → mm_M → Option mm_M
  | 0, _, _ => none
  | n + 1, x1, M => (if 57 ≤ x1 then k  M else (if mm_in x1 57 then (if mm_in x1 171 then (mm_let (mm_up M 1 x1.toNatClampNeg (M 4 x1.toNatClampNeg)) fun M_3 => fn_X8_keepDraft_L2 k n (x1 + 1) M_3) else none) else none))
set_option maxRecDepth 20000 in
set_option maxHeartbeats 4000000 in
theorem th_X8_keepDraft_L2 {X : mm_X} {G : mm_G} {sh : mm_S} {k : mm_M → Option mm_M} (h0 : mm_isMod G sh) (hk : ∀ (M : mm_M), mm_T X G (cX8_keepDraft, 2, RX8, none, 1) (mm_fv sh) sh M 26 [(0, .ref (mm_ad G 0))] [] (k  M)) : ∀ (n : Nat) (x1 : Int32) (M : mm_M), mm_T X G (cX8_keepDraft, 2, RX8, none, 1) (mm_fv sh) sh M 2 [(0, .ref (mm_ad G 0)), (1, .int x1)] [] (fn_X8_keepDraft_L2 k n x1 M) := by
  intro n
  induction n with
  | zero => intro x1 M; exact mm_none
  | succ n ih =>
    intro x1 M
    rw [fn_X8_keepDraft_L2]
    obtain ⟨N, hN⟩ := h0.1
    refine mm_iload_n 3 rfl dX8_keepDraft_2 rfl 1 rfl ?_
    refine mm_bipush 5 rfl (v := 57) dX8_keepDraft_3 (by decide) ?_
    refine mm_icmp_ge 8 26 rfl dX8_keepDraft_5 (by decide) (fun h_1 => ?_) (fun h_1 => ?_)
    · exact mm_lv [0] rfl (hk _)
    · refine mm_aload_n 9 rfl dX8_keepDraft_8 rfl 0 rfl ?_
      refine gt_X8_7 12 rfl dX8_keepDraft_9 hN ?_
      refine mm_iload_n 13 rfl dX8_keepDraft_12 rfl 1 rfl ?_
      refine mm_aload_n 14 rfl dX8_keepDraft_13 rfl 0 rfl ?_
      refine gt_X8_20 17 rfl dX8_keepDraft_14 hN ?_
      refine mm_iload_n 18 rfl dX8_keepDraft_17 rfl 1 rfl ?_
      refine mm_iald 19 rfl dX8_keepDraft_18 h0.2.2.2.2.1 (fun h_2 => ?_)
      refine mm_iast 20 rfl dX8_keepDraft_19 h0.2.1 (fun h_4 => ?_)
      refine mm_bM (fun M_3 => ?_)
      refine mm_iinc 23 rfl dX8_keepDraft_20 1 rfl (v := (x1 + 1)) rfl (lv' := [(1, .int (x1 + 1)), (0, .ref (mm_ad G 0))]) (by decide) rfl ?_
      refine mm_goto 2 dX8_keepDraft_23 (by decide) ?_
      exact mm_lv [1, 0] rfl (ih _ _)
noncomputable def fn_X8_keepDraft  (M : mm_M) : Option mm_M :=
  fn_X8_keepDraft_L2  (fun M_5 => mm_let (mm_up M_5 3 0 0) fun M_7 => mm_let (mm_up M_7 3 1 0) fun M_8 => some M_8) mm_fu 0 M
set_option maxRecDepth 20000 in
set_option maxHeartbeats 4000000 in
theorem ct_X8_keepDraft {l : Launch} {G : mm_G} {sh : mm_S} {M : mm_M} (h0 : mm_isMod G sh) : mm_K l G yX8_keepDraft (cX8_keepDraft, 2, RX8, none, 1) [.ref (mm_ad G 0)] (mm_fv sh) sh M (fn_X8_keepDraft  M) := by
  refine mm_met (by decide +kernel) rfl (Nat.le_of_ble_eq_true rfl) (fun X hX => ?_)
  subst hX
  show mm_T X G (cX8_keepDraft, 2, RX8, none, 1) (mm_fv sh) sh M 0 [(0, .ref (mm_ad G 0))] [] (fn_X8_keepDraft  M)
  unfold fn_X8_keepDraft
  obtain ⟨N, hN⟩ := h0.1
  refine mm_iconst 1 rfl (v := 0) dX8_keepDraft_0 (by decide) ?_
  refine mm_istore_n 2 rfl dX8_keepDraft_1 rfl (lv' := [(1, .int 0), (0, .ref (mm_ad G 0))]) (by decide) rfl ?_
  refine mm_lv [1, 0] rfl (th_X8_keepDraft_L2 h0 (fun M_5 => ?_) mm_fu _ _)
  refine mm_aload_n 27 rfl dX8_keepDraft_26 rfl 0 rfl ?_
  refine gt_X8_16 30 rfl dX8_keepDraft_27 hN ?_
  refine mm_iconst 31 rfl (v := 0) dX8_keepDraft_30 (by decide) ?_
  refine mm_iconst 32 rfl (v := 0) dX8_keepDraft_31 (by decide) ?_
  refine mm_zastK 33 rfl dX8_keepDraft_32 h0.2.2.2.1 (by decide) (by decide) 0 (by decide) ?_
  refine mm_bM (fun M_7 => ?_)
  refine mm_aload_n 34 rfl dX8_keepDraft_33 rfl 0 rfl ?_
  refine gt_X8_16 37 rfl dX8_keepDraft_34 hN ?_
  refine mm_iconst 38 rfl (v := 1) dX8_keepDraft_37 (by decide) ?_
  refine mm_iconst 39 rfl (v := 0) dX8_keepDraft_38 (by decide) ?_
  refine mm_zastK 40 rfl dX8_keepDraft_39 h0.2.2.2.1 (by decide) (by decide) 1 (by decide) ?_
  refine mm_bM (fun M_8 => ?_)
  exact mm_vret dX8_keepDraft_40 rfl rfl

-- MangleLineModel.feed(I)I
noncomputable def fn_X8_feed (c1 : Int32) (M : mm_M) : Option (Int32 × mm_M) :=
  ((fn_X8_in c1.toInt64 0 127 M).bind fun z_1 => (if z_1.1 = 0 then some ((-1), z_1.2) else (if (z_1.2 0 7) = 160 then some ((-3), z_1.2) else (if mm_in (z_1.2 0 7) 160 then (mm_let (mm_up z_1.2 5 (z_1.2 0 7).toNatClampNeg c1) fun M_4 => mm_let (mm_up M_4 0 7 ((M_4 0 7) + 1)) fun M_6 => some ((M_6 0 7), M_6)) else none))))
set_option maxRecDepth 20000 in
set_option maxHeartbeats 4000000 in
theorem ct_X8_feed {l : Launch} {G : mm_G} {sh : mm_S} {M : mm_M} (c1 : Int32) (h0 : mm_isMod G sh) : mm_K l G yX8_feed (cX8_feed, 2, RX8, (some .int), 2) [.ref (mm_ad G 0), .int c1] (mm_fi sh) sh M (fn_X8_feed c1 M) := by
  refine mm_met (by decide +kernel) rfl (Nat.le_of_ble_eq_true rfl) (fun X hX => ?_)
  subst hX
  show mm_T X G (cX8_feed, 2, RX8, (some .int), 2) (mm_fi sh) sh M 0 [(0, .ref (mm_ad G 0)), (1, .int c1)] [] (fn_X8_feed c1 M)
  unfold fn_X8_feed
  obtain ⟨N, hN⟩ := h0.1
  refine mm_iload_n 1 rfl dX8_feed_0 rfl 1 rfl ?_
  refine mm_i2l 2 rfl dX8_feed_1 ?_
  refine mm_lconst 3 rfl (v := 0) dX8_feed_2 (by decide) ?_
  refine mm_ldc2 6 rfl (v := 127) dX8_feed_3 mw_4_166 ?_
  refine ca_X8_59 9 rfl dX8_feed_6 (ct_X8_in c1.toInt64 0 127 ) (by decide) (Nat.le_of_ble_eq_true rfl) (fun z_1 => ?_)
  refine mm_if_ne 12 14 rfl dX8_feed_9 (by decide) (fun h_2 => ?_) (fun h_2 => ?_)
  · refine mm_aload_n 15 rfl dX8_feed_14 rfl 0 rfl ?_
    refine gt_X8_63 18 rfl dX8_feed_15 hN ?_
    refine mm_sipush 21 rfl (v := 160) dX8_feed_18 (by decide) ?_
    refine mm_icmp_ne 24 27 rfl dX8_feed_21 (by decide) (fun h_3 => ?_) (fun h_3 => ?_)
    · refine mm_aload_n 28 rfl dX8_feed_27 rfl 0 rfl ?_
      refine gt_X8_23 31 rfl dX8_feed_28 hN ?_
      refine mm_aload_n 32 rfl dX8_feed_31 rfl 0 rfl ?_
      refine gt_X8_63 35 rfl dX8_feed_32 hN ?_
      refine mm_iload_n 36 rfl dX8_feed_35 rfl 1 rfl ?_
      refine mm_iast 37 rfl dX8_feed_36 h0.2.2.2.2.2.1 (fun h_5 => ?_)
      refine mm_bM (fun M_4 => ?_)
      refine mm_aload_n 38 rfl dX8_feed_37 rfl 0 rfl ?_
      refine mm_dup 39 rfl dX8_feed_38 rfl ?_
      refine gt_X8_63 42 rfl dX8_feed_39 hN ?_
      refine mm_iconst 43 rfl (v := 1) dX8_feed_42 (by decide) ?_
      refine mm_iadd 44 rfl dX8_feed_43 ?_
      refine pt_X8_63 47 rfl dX8_feed_44 hN ?_
      refine mm_bM (fun M_6 => ?_)
      refine mm_aload_n 48 rfl dX8_feed_47 rfl 0 rfl ?_
      refine gt_X8_63 51 rfl dX8_feed_48 hN ?_
      exact mm_iret dX8_feed_51 rfl rfl
    · refine mm_bipush 26 rfl (v := (-3)) dX8_feed_24 (by decide) ?_
      exact mm_iret dX8_feed_26 rfl rfl
  · refine mm_iconst 13 rfl (v := (-1)) dX8_feed_12 (by decide) ?_
    exact mm_iret dX8_feed_13 rfl rfl

-- MangleLineModel.end(I)I
noncomputable def fn_X8_end (c1 : Int32) (M : mm_M) : Option (Int32 × mm_M) :=
  ((fn_X8_in c1.toInt64 0 ((M 0 7).toInt64) M).bind fun z_1 => (if z_1.1 = 0 then some ((-1), z_1.2) else mm_let (z_1.2 0 7) fun x2_3 => mm_let (mm_up z_1.2 0 7 c1) fun M_4 => some (x2_3, M_4)))
set_option maxRecDepth 20000 in
set_option maxHeartbeats 4000000 in
theorem ct_X8_end {l : Launch} {G : mm_G} {sh : mm_S} {M : mm_M} (c1 : Int32) (h0 : mm_isMod G sh) : mm_K l G yX8_end (cX8_end, 3, RX8, (some .int), 2) [.ref (mm_ad G 0), .int c1] (mm_fi sh) sh M (fn_X8_end c1 M) := by
  refine mm_met (by decide +kernel) rfl (Nat.le_of_ble_eq_true rfl) (fun X hX => ?_)
  subst hX
  show mm_T X G (cX8_end, 3, RX8, (some .int), 2) (mm_fi sh) sh M 0 [(0, .ref (mm_ad G 0)), (1, .int c1)] [] (fn_X8_end c1 M)
  unfold fn_X8_end
  obtain ⟨N, hN⟩ := h0.1
  refine mm_iload_n 1 rfl dX8_end_0 rfl 1 rfl ?_
  refine mm_i2l 2 rfl dX8_end_1 ?_
  refine mm_lconst 3 rfl (v := 0) dX8_end_2 (by decide) ?_
  refine mm_aload_n 4 rfl dX8_end_3 rfl 0 rfl ?_
  refine gt_X8_63 7 rfl dX8_end_4 hN ?_
  refine mm_i2l 8 rfl dX8_end_7 ?_
  refine ca_X8_59 11 rfl dX8_end_8 (ct_X8_in c1.toInt64 0 ((M 0 7).toInt64) ) (by decide) (Nat.le_of_ble_eq_true rfl) (fun z_1 => ?_)
  refine mm_if_ne 14 16 rfl dX8_end_11 (by decide) (fun h_2 => ?_) (fun h_2 => ?_)
  · refine mm_aload_n 17 rfl dX8_end_16 rfl 0 rfl ?_
    refine gt_X8_63 20 rfl dX8_end_17 hN ?_
    refine mm_bI (fun x2_3 => ?_)
    refine mm_istore_n 21 rfl dX8_end_20 rfl (lv' := [(2, .int x2_3), (0, .ref (mm_ad G 0)), (1, .int c1)]) (by decide) rfl ?_
    refine mm_aload_n 22 rfl dX8_end_21 rfl 1 rfl ?_
    refine mm_iload_n 23 rfl dX8_end_22 rfl 2 rfl ?_
    refine pt_X8_63 26 rfl dX8_end_23 hN ?_
    refine mm_bM (fun M_4 => ?_)
    refine mm_iload_n 27 rfl dX8_end_26 rfl 0 rfl ?_
    exact mm_iret dX8_end_27 rfl rfl
  · refine mm_iconst 15 rfl (v := (-1)) dX8_end_14 (by decide) ?_
    exact mm_iret dX8_end_15 rfl rfl

-- MangleLineModel.requires(ZI)V
noncomputable def fn_X8_requires (c1 : Int32) (c2 : Int32) (M : mm_M) : Option mm_M :=
  (if c1 = 0 then (if (M 0 12) = 0 then mm_let (mm_up M 0 12 c2) fun M_3 => mm_let (mm_up M_3 0 13 (M_3 0 9)) fun M_4 => some M_4 else some M) else some M)
set_option maxRecDepth 20000 in
set_option maxHeartbeats 4000000 in
theorem ct_X8_requires {l : Launch} {G : mm_G} {sh : mm_S} {M : mm_M} (c1 : Int32) (c2 : Int32) (h0 : mm_isMod G sh) : mm_K l G yX8_requires (cX8_requires, 3, RX8, none, 1) [.ref (mm_ad G 0), .int c1, .int c2] (mm_fv sh) sh M (fn_X8_requires c1 c2 M) := by
  refine mm_met (by decide +kernel) rfl (Nat.le_of_ble_eq_true rfl) (fun X hX => ?_)
  subst hX
  show mm_T X G (cX8_requires, 3, RX8, none, 1) (mm_fv sh) sh M 0 [(0, .ref (mm_ad G 0)), (1, .int c1), (2, .int c2)] [] (fn_X8_requires c1 c2 M)
  unfold fn_X8_requires
  obtain ⟨N, hN⟩ := h0.1
  refine mm_iload_n 1 rfl dX8_requires_0 rfl 1 rfl ?_
  refine mm_if_ne 4 24 rfl dX8_requires_1 (by decide) (fun h_1 => ?_) (fun h_1 => ?_)
  · exact mm_vret dX8_requires_24 rfl rfl
  · refine mm_aload_n 5 rfl dX8_requires_4 rfl 0 rfl ?_
    refine gt_X8_66 8 rfl dX8_requires_5 hN ?_
    refine mm_if_ne 11 24 rfl dX8_requires_8 (by decide) (fun h_2 => ?_) (fun h_2 => ?_)
    · exact mm_vret dX8_requires_24 rfl rfl
    · refine mm_aload_n 12 rfl dX8_requires_11 rfl 0 rfl ?_
      refine mm_iload_n 13 rfl dX8_requires_12 rfl 2 rfl ?_
      refine pt_X8_66 16 rfl dX8_requires_13 hN ?_
      refine mm_bM (fun M_3 => ?_)
      refine mm_aload_n 17 rfl dX8_requires_16 rfl 0 rfl ?_
      refine mm_aload_n 18 rfl dX8_requires_17 rfl 0 rfl ?_
      refine gt_X8_69 21 rfl dX8_requires_18 hN ?_
      refine pt_X8_72 24 rfl dX8_requires_21 hN ?_
      refine mm_bM (fun M_4 => ?_)
      exact mm_vret dX8_requires_24 rfl rfl

-- MangleLineModel.byteAt(I)I
noncomputable def fn_X8_byteAt (c1 : Int32) (M : mm_M) : Option (Int32 × mm_M) :=
  (if (M 0 7) ≤ c1 then some ((-1), M) else (if mm_in c1 160 then some ((M 5 c1.toNatClampNeg), M) else none))
set_option maxRecDepth 20000 in
set_option maxHeartbeats 4000000 in
theorem ct_X8_byteAt {l : Launch} {G : mm_G} {sh : mm_S} {M : mm_M} (c1 : Int32) (h0 : mm_isMod G sh) : mm_K l G yX8_byteAt (cX8_byteAt, 2, RX8, (some .int), 1) [.ref (mm_ad G 0), .int c1] (mm_fi sh) sh M (fn_X8_byteAt c1 M) := by
  refine mm_met (by decide +kernel) rfl (Nat.le_of_ble_eq_true rfl) (fun X hX => ?_)
  subst hX
  show mm_T X G (cX8_byteAt, 2, RX8, (some .int), 1) (mm_fi sh) sh M 0 [(0, .ref (mm_ad G 0)), (1, .int c1)] [] (fn_X8_byteAt c1 M)
  unfold fn_X8_byteAt
  obtain ⟨N, hN⟩ := h0.1
  refine mm_iload_n 1 rfl dX8_byteAt_0 rfl 1 rfl ?_
  refine mm_aload_n 2 rfl dX8_byteAt_1 rfl 0 rfl ?_
  refine gt_X8_63 5 rfl dX8_byteAt_2 hN ?_
  refine mm_icmp_ge 8 17 rfl dX8_byteAt_5 (by decide) (fun h_1 => ?_) (fun h_1 => ?_)
  · refine mm_iconst 18 rfl (v := (-1)) dX8_byteAt_17 (by decide) ?_
    exact mm_iret dX8_byteAt_18 rfl rfl
  · refine mm_aload_n 9 rfl dX8_byteAt_8 rfl 0 rfl ?_
    refine gt_X8_23 12 rfl dX8_byteAt_9 hN ?_
    refine mm_iload_n 13 rfl dX8_byteAt_12 rfl 1 rfl ?_
    refine mm_iald 14 rfl dX8_byteAt_13 h0.2.2.2.2.2.1 (fun h_2 => ?_)
    refine mm_goto 18 dX8_byteAt_14 (by decide) ?_
    exact mm_iret dX8_byteAt_18 rfl rfl

-- MangleLineModel.is(IIII)Z
noncomputable def fn_X8_is (c1 : Int32) (c2 : Int32) (c3 : Int32) (c4 : Int32) (M : mm_M) : Option (Int32 × mm_M) :=
  (if ((M 0 8) - (M 0 9)) = c1 then ((fn_X8_byteAt (M 0 9) M).bind fun z_2 => (if z_2.1 = c2 then ((fn_X8_byteAt ((z_2.2 0 9) + 1) z_2.2).bind fun z_4 => (if z_4.1 = c3 then ((fn_X8_byteAt ((z_4.2 0 9) + 2) z_4.2).bind fun z_6 => (if z_6.1 = c4 then some (1, z_6.2) else some (0, z_6.2))) else some (0, z_4.2))) else some (0, z_2.2))) else some (0, M))
set_option maxRecDepth 20000 in
set_option maxHeartbeats 4000000 in
theorem ct_X8_is {l : Launch} {G : mm_G} {sh : mm_S} {M : mm_M} (c1 : Int32) (c2 : Int32) (c3 : Int32) (c4 : Int32) (h0 : mm_isMod G sh) : mm_K l G yX8_is (cX8_is, 5, RX8, (some .boolean), 2) [.ref (mm_ad G 0), .int c1, .int c2, .int c3, .int c4] (mm_fi sh) sh M (fn_X8_is c1 c2 c3 c4 M) := by
  refine mm_met (by decide +kernel) rfl (Nat.le_of_ble_eq_true rfl) (fun X hX => ?_)
  subst hX
  show mm_T X G (cX8_is, 5, RX8, (some .boolean), 2) (mm_fi sh) sh M 0 [(0, .ref (mm_ad G 0)), (1, .int c1), (2, .int c2), (3, .int c3), (4, .int c4)] [] (fn_X8_is c1 c2 c3 c4 M)
  unfold fn_X8_is
  obtain ⟨N, hN⟩ := h0.1
  refine mm_aload_n 1 rfl dX8_is_0 rfl 0 rfl ?_
  refine gt_X8_75 4 rfl dX8_is_1 hN ?_
  refine mm_aload_n 5 rfl dX8_is_4 rfl 0 rfl ?_
  refine gt_X8_69 8 rfl dX8_is_5 hN ?_
  refine mm_isub 9 rfl dX8_is_8 ?_
  refine mm_iload_n 10 rfl dX8_is_9 rfl 1 rfl ?_
  refine mm_icmp_ne 13 58 rfl dX8_is_10 (by decide) (fun h_1 => ?_) (fun h_1 => ?_)
  · refine mm_iconst 59 rfl (v := 0) dX8_is_58 (by decide) ?_
    exact mm_zretK dX8_is_59 rfl rfl rfl
  · refine mm_aload_n 14 rfl dX8_is_13 rfl 0 rfl ?_
    refine mm_aload_n 15 rfl dX8_is_14 rfl 0 rfl ?_
    refine gt_X8_69 18 rfl dX8_is_15 hN ?_
    refine ca_X8_78 21 rfl dX8_is_18 hN (ct_X8_byteAt (M 0 9) h0) (by decide) (Nat.le_of_ble_eq_true rfl) (fun z_2 => ?_)
    refine mm_iload_n 22 rfl dX8_is_21 rfl 2 rfl ?_
    refine mm_icmp_ne 25 58 rfl dX8_is_22 (by decide) (fun h_3 => ?_) (fun h_3 => ?_)
    · refine mm_iconst 59 rfl (v := 0) dX8_is_58 (by decide) ?_
      exact mm_zretK dX8_is_59 rfl rfl rfl
    · refine mm_aload_n 26 rfl dX8_is_25 rfl 0 rfl ?_
      refine mm_aload_n 27 rfl dX8_is_26 rfl 0 rfl ?_
      refine gt_X8_69 30 rfl dX8_is_27 hN ?_
      refine mm_iconst 31 rfl (v := 1) dX8_is_30 (by decide) ?_
      refine mm_iadd 32 rfl dX8_is_31 ?_
      refine ca_X8_78 35 rfl dX8_is_32 hN (ct_X8_byteAt ((z_2.2 0 9) + 1) h0) (by decide) (Nat.le_of_ble_eq_true rfl) (fun z_4 => ?_)
      refine mm_iload_n 36 rfl dX8_is_35 rfl 3 rfl ?_
      refine mm_icmp_ne 39 58 rfl dX8_is_36 (by decide) (fun h_5 => ?_) (fun h_5 => ?_)
      · refine mm_iconst 59 rfl (v := 0) dX8_is_58 (by decide) ?_
        exact mm_zretK dX8_is_59 rfl rfl rfl
      · refine mm_aload_n 40 rfl dX8_is_39 rfl 0 rfl ?_
        refine mm_aload_n 41 rfl dX8_is_40 rfl 0 rfl ?_
        refine gt_X8_69 44 rfl dX8_is_41 hN ?_
        refine mm_iconst 45 rfl (v := 2) dX8_is_44 (by decide) ?_
        refine mm_iadd 46 rfl dX8_is_45 ?_
        refine ca_X8_78 49 rfl dX8_is_46 hN (ct_X8_byteAt ((z_4.2 0 9) + 2) h0) (by decide) (Nat.le_of_ble_eq_true rfl) (fun z_6 => ?_)
        refine mm_iload 51 rfl dX8_is_49 4 rfl ?_
        refine mm_icmp_ne 54 58 rfl dX8_is_51 (by decide) (fun h_7 => ?_) (fun h_7 => ?_)
        · refine mm_iconst 59 rfl (v := 0) dX8_is_58 (by decide) ?_
          exact mm_zretK dX8_is_59 rfl rfl rfl
        · refine mm_iconst 55 rfl (v := 1) dX8_is_54 (by decide) ?_
          refine mm_goto 59 dX8_is_55 (by decide) ?_
          exact mm_zretK dX8_is_59 rfl rfl rfl

-- MangleLineModel.endsIn(III)Z
noncomputable def fn_X8_endsIn (c1 : Int32) (c2 : Int32) (c3 : Int32) (M : mm_M) : Option (Int32 × mm_M) :=
  ((fn_X8_byteAt ((M 0 9) + 3) M).bind fun z_1 => (if z_1.1 = c1 then (if c2 = 0 then (if c3 = 0 then some (1, z_1.2) else ((fn_X8_byteAt ((z_1.2 0 9) + 5) z_1.2).bind fun z_5 => (if z_5.1 = c3 then some (1, z_5.2) else some (0, z_5.2)))) else ((fn_X8_byteAt ((z_1.2 0 9) + 4) z_1.2).bind fun z_7 => (if z_7.1 = c2 then (if c3 = 0 then some (1, z_7.2) else ((fn_X8_byteAt ((z_7.2 0 9) + 5) z_7.2).bind fun z_10 => (if z_10.1 = c3 then some (1, z_10.2) else some (0, z_10.2)))) else some (0, z_7.2)))) else some (0, z_1.2)))
set_option maxRecDepth 20000 in
set_option maxHeartbeats 4000000 in
theorem ct_X8_endsIn {l : Launch} {G : mm_G} {sh : mm_S} {M : mm_M} (c1 : Int32) (c2 : Int32) (c3 : Int32) (h0 : mm_isMod G sh) : mm_K l G yX8_endsIn (cX8_endsIn, 4, RX8, (some .boolean), 2) [.ref (mm_ad G 0), .int c1, .int c2, .int c3] (mm_fi sh) sh M (fn_X8_endsIn c1 c2 c3 M) := by
  refine mm_met (by decide +kernel) rfl (Nat.le_of_ble_eq_true rfl) (fun X hX => ?_)
  subst hX
  show mm_T X G (cX8_endsIn, 4, RX8, (some .boolean), 2) (mm_fi sh) sh M 0 [(0, .ref (mm_ad G 0)), (1, .int c1), (2, .int c2), (3, .int c3)] [] (fn_X8_endsIn c1 c2 c3 M)
  unfold fn_X8_endsIn
  obtain ⟨N, hN⟩ := h0.1
  refine mm_aload_n 1 rfl dX8_endsIn_0 rfl 0 rfl ?_
  refine mm_aload_n 2 rfl dX8_endsIn_1 rfl 0 rfl ?_
  refine gt_X8_69 5 rfl dX8_endsIn_2 hN ?_
  refine mm_iconst 6 rfl (v := 3) dX8_endsIn_5 (by decide) ?_
  refine mm_iadd 7 rfl dX8_endsIn_6 ?_
  refine ca_X8_78 10 rfl dX8_endsIn_7 hN (ct_X8_byteAt ((M 0 9) + 3) h0) (by decide) (Nat.le_of_ble_eq_true rfl) (fun z_1 => ?_)
  refine mm_iload_n 11 rfl dX8_endsIn_10 rfl 1 rfl ?_
  refine mm_icmp_ne 14 54 rfl dX8_endsIn_11 (by decide) (fun h_2 => ?_) (fun h_2 => ?_)
  · refine mm_iconst 55 rfl (v := 0) dX8_endsIn_54 (by decide) ?_
    exact mm_zretK dX8_endsIn_55 rfl rfl rfl
  · refine mm_iload_n 15 rfl dX8_endsIn_14 rfl 2 rfl ?_
    refine mm_if_eq 18 32 rfl dX8_endsIn_15 (by decide) (fun h_3 => ?_) (fun h_3 => ?_)
    · refine mm_iload_n 33 rfl dX8_endsIn_32 rfl 3 rfl ?_
      refine mm_if_eq 36 50 rfl dX8_endsIn_33 (by decide) (fun h_4 => ?_) (fun h_4 => ?_)
      · refine mm_iconst 51 rfl (v := 1) dX8_endsIn_50 (by decide) ?_
        refine mm_goto 55 dX8_endsIn_51 (by decide) ?_
        exact mm_zretK dX8_endsIn_55 rfl rfl rfl
      · refine mm_aload_n 37 rfl dX8_endsIn_36 rfl 0 rfl ?_
        refine mm_aload_n 38 rfl dX8_endsIn_37 rfl 0 rfl ?_
        refine gt_X8_69 41 rfl dX8_endsIn_38 hN ?_
        refine mm_iconst 42 rfl (v := 5) dX8_endsIn_41 (by decide) ?_
        refine mm_iadd 43 rfl dX8_endsIn_42 ?_
        refine ca_X8_78 46 rfl dX8_endsIn_43 hN (ct_X8_byteAt ((z_1.2 0 9) + 5) h0) (by decide) (Nat.le_of_ble_eq_true rfl) (fun z_5 => ?_)
        refine mm_iload_n 47 rfl dX8_endsIn_46 rfl 3 rfl ?_
        refine mm_icmp_ne 50 54 rfl dX8_endsIn_47 (by decide) (fun h_6 => ?_) (fun h_6 => ?_)
        · refine mm_iconst 55 rfl (v := 0) dX8_endsIn_54 (by decide) ?_
          exact mm_zretK dX8_endsIn_55 rfl rfl rfl
        · refine mm_iconst 51 rfl (v := 1) dX8_endsIn_50 (by decide) ?_
          refine mm_goto 55 dX8_endsIn_51 (by decide) ?_
          exact mm_zretK dX8_endsIn_55 rfl rfl rfl
    · refine mm_aload_n 19 rfl dX8_endsIn_18 rfl 0 rfl ?_
      refine mm_aload_n 20 rfl dX8_endsIn_19 rfl 0 rfl ?_
      refine gt_X8_69 23 rfl dX8_endsIn_20 hN ?_
      refine mm_iconst 24 rfl (v := 4) dX8_endsIn_23 (by decide) ?_
      refine mm_iadd 25 rfl dX8_endsIn_24 ?_
      refine ca_X8_78 28 rfl dX8_endsIn_25 hN (ct_X8_byteAt ((z_1.2 0 9) + 4) h0) (by decide) (Nat.le_of_ble_eq_true rfl) (fun z_7 => ?_)
      refine mm_iload_n 29 rfl dX8_endsIn_28 rfl 2 rfl ?_
      refine mm_icmp_ne 32 54 rfl dX8_endsIn_29 (by decide) (fun h_8 => ?_) (fun h_8 => ?_)
      · refine mm_iconst 55 rfl (v := 0) dX8_endsIn_54 (by decide) ?_
        exact mm_zretK dX8_endsIn_55 rfl rfl rfl
      · refine mm_iload_n 33 rfl dX8_endsIn_32 rfl 3 rfl ?_
        refine mm_if_eq 36 50 rfl dX8_endsIn_33 (by decide) (fun h_9 => ?_) (fun h_9 => ?_)
        · refine mm_iconst 51 rfl (v := 1) dX8_endsIn_50 (by decide) ?_
          refine mm_goto 55 dX8_endsIn_51 (by decide) ?_
          exact mm_zretK dX8_endsIn_55 rfl rfl rfl
        · refine mm_aload_n 37 rfl dX8_endsIn_36 rfl 0 rfl ?_
          refine mm_aload_n 38 rfl dX8_endsIn_37 rfl 0 rfl ?_
          refine gt_X8_69 41 rfl dX8_endsIn_38 hN ?_
          refine mm_iconst 42 rfl (v := 5) dX8_endsIn_41 (by decide) ?_
          refine mm_iadd 43 rfl dX8_endsIn_42 ?_
          refine ca_X8_78 46 rfl dX8_endsIn_43 hN (ct_X8_byteAt ((z_7.2 0 9) + 5) h0) (by decide) (Nat.le_of_ble_eq_true rfl) (fun z_10 => ?_)
          refine mm_iload_n 47 rfl dX8_endsIn_46 rfl 3 rfl ?_
          refine mm_icmp_ne 50 54 rfl dX8_endsIn_47 (by decide) (fun h_11 => ?_) (fun h_11 => ?_)
          · refine mm_iconst 55 rfl (v := 0) dX8_endsIn_54 (by decide) ?_
            exact mm_zretK dX8_endsIn_55 rfl rfl rfl
          · refine mm_iconst 51 rfl (v := 1) dX8_endsIn_50 (by decide) ?_
            refine mm_goto 55 dX8_endsIn_51 (by decide) ?_
            exact mm_zretK dX8_endsIn_55 rfl rfl rfl

-- MangleLineModel.ruleNow()I
noncomputable def fn_X8_ruleNow_B111     (M : mm_M) : Option (Int32 × mm_M) :=
  ((fn_X8_is 4 115 111 97 M).bind fun z_9 => (if z_9.1 = 0 then ((fn_X8_is 3 115 117 110 z_9.2).bind fun z_11 => (if z_11.1 = 0 then some ((-4), z_11.2) else some (9, z_11.2))) else ((fn_X8_endsIn 107 0 0 z_9.2).bind fun z_13 => (if z_13.1 = 0 then ((fn_X8_is 3 115 117 110 z_13.2).bind fun z_15 => (if z_15.1 = 0 then some ((-4), z_15.2) else some (9, z_15.2))) else some (8, z_13.2)))))
set_option maxRecDepth 20000 in
set_option maxHeartbeats 4000000 in
theorem th_X8_ruleNow_B111 {X : mm_X} {G : mm_G} {sh : mm_S} (h0 : mm_isMod G sh) (M : mm_M) : mm_T X G (cX8_ruleNow, 1, RX8, (some .int), 3) (mm_fi sh) sh M 111 [(0, .ref (mm_ad G 0))] [] (fn_X8_ruleNow_B111  M) := by
  unfold fn_X8_ruleNow_B111
  obtain ⟨N, hN⟩ := h0.1
  refine mm_aload_n 112 rfl dX8_ruleNow_111 rfl 0 rfl ?_
  refine mm_iconst 113 rfl (v := 4) dX8_ruleNow_112 (by decide) ?_
  refine mm_bipush 115 rfl (v := 115) dX8_ruleNow_113 (by decide) ?_
  refine mm_bipush 117 rfl (v := 111) dX8_ruleNow_115 (by decide) ?_
  refine mm_bipush 119 rfl (v := 97) dX8_ruleNow_117 (by decide) ?_
  refine ca_X8_82 122 rfl dX8_ruleNow_119 hN (ct_X8_is 4 115 111 97 h0) (by decide) (Nat.le_of_ble_eq_true rfl) (fun z_9 => ?_)
  refine mm_if_eq 125 141 rfl dX8_ruleNow_122 (by decide) (fun h_10 => ?_) (fun h_10 => ?_)
  · refine mm_aload_n 142 rfl dX8_ruleNow_141 rfl 0 rfl ?_
    refine mm_iconst 143 rfl (v := 3) dX8_ruleNow_142 (by decide) ?_
    refine mm_bipush 145 rfl (v := 115) dX8_ruleNow_143 (by decide) ?_
    refine mm_bipush 147 rfl (v := 117) dX8_ruleNow_145 (by decide) ?_
    refine mm_bipush 149 rfl (v := 110) dX8_ruleNow_147 (by decide) ?_
    refine ca_X8_82 152 rfl dX8_ruleNow_149 hN (ct_X8_is 3 115 117 110 h0) (by decide) (Nat.le_of_ble_eq_true rfl) (fun z_11 => ?_)
    refine mm_if_eq 155 160 rfl dX8_ruleNow_152 (by decide) (fun h_12 => ?_) (fun h_12 => ?_)
    · refine mm_bipush 162 rfl (v := (-4)) dX8_ruleNow_160 (by decide) ?_
      exact mm_iret dX8_ruleNow_162 rfl rfl
    · refine mm_bipush 157 rfl (v := 9) dX8_ruleNow_155 (by decide) ?_
      refine mm_goto 162 dX8_ruleNow_157 (by decide) ?_
      exact mm_iret dX8_ruleNow_162 rfl rfl
  · refine mm_aload_n 126 rfl dX8_ruleNow_125 rfl 0 rfl ?_
    refine mm_bipush 128 rfl (v := 107) dX8_ruleNow_126 (by decide) ?_
    refine mm_iconst 129 rfl (v := 0) dX8_ruleNow_128 (by decide) ?_
    refine mm_iconst 130 rfl (v := 0) dX8_ruleNow_129 (by decide) ?_
    refine ca_X8_86 133 rfl dX8_ruleNow_130 hN (ct_X8_endsIn 107 0 0 h0) (by decide) (Nat.le_of_ble_eq_true rfl) (fun z_13 => ?_)
    refine mm_if_eq 136 141 rfl dX8_ruleNow_133 (by decide) (fun h_14 => ?_) (fun h_14 => ?_)
    · refine mm_aload_n 142 rfl dX8_ruleNow_141 rfl 0 rfl ?_
      refine mm_iconst 143 rfl (v := 3) dX8_ruleNow_142 (by decide) ?_
      refine mm_bipush 145 rfl (v := 115) dX8_ruleNow_143 (by decide) ?_
      refine mm_bipush 147 rfl (v := 117) dX8_ruleNow_145 (by decide) ?_
      refine mm_bipush 149 rfl (v := 110) dX8_ruleNow_147 (by decide) ?_
      refine ca_X8_82 152 rfl dX8_ruleNow_149 hN (ct_X8_is 3 115 117 110 h0) (by decide) (Nat.le_of_ble_eq_true rfl) (fun z_15 => ?_)
      refine mm_if_eq 155 160 rfl dX8_ruleNow_152 (by decide) (fun h_16 => ?_) (fun h_16 => ?_)
      · refine mm_bipush 162 rfl (v := (-4)) dX8_ruleNow_160 (by decide) ?_
        exact mm_iret dX8_ruleNow_162 rfl rfl
      · refine mm_bipush 157 rfl (v := 9) dX8_ruleNow_155 (by decide) ?_
        refine mm_goto 162 dX8_ruleNow_157 (by decide) ?_
        exact mm_iret dX8_ruleNow_162 rfl rfl
    · refine mm_bipush 138 rfl (v := 8) dX8_ruleNow_136 (by decide) ?_
      refine mm_goto 162 dX8_ruleNow_138 (by decide) ?_
      exact mm_iret dX8_ruleNow_162 rfl rfl
noncomputable def fn_X8_ruleNow_B55     (M : mm_M) : Option (Int32 × mm_M) :=
  ((fn_X8_is 4 112 101 103 M).bind fun z_5 => (if z_5.1 = 0 then ((fn_X8_is 4 112 97 115 z_5.2).bind fun z_7 => (if z_7.1 = 0 then fn_X8_ruleNow_B111    z_7.2 else ((fn_X8_endsIn 115 0 0 z_7.2).bind fun z_17 => (if z_17.1 = 0 then fn_X8_ruleNow_B111    z_17.2 else some (7, z_17.2))))) else ((fn_X8_endsIn 115 0 0 z_5.2).bind fun z_19 => (if z_19.1 = 0 then ((fn_X8_is 4 112 97 115 z_19.2).bind fun z_21 => (if z_21.1 = 0 then fn_X8_ruleNow_B111    z_21.2 else ((fn_X8_endsIn 115 0 0 z_21.2).bind fun z_23 => (if z_23.1 = 0 then fn_X8_ruleNow_B111    z_23.2 else some (7, z_23.2))))) else some (6, z_19.2)))))
set_option maxRecDepth 20000 in
set_option maxHeartbeats 4000000 in
theorem th_X8_ruleNow_B55 {X : mm_X} {G : mm_G} {sh : mm_S} (h0 : mm_isMod G sh) (M : mm_M) : mm_T X G (cX8_ruleNow, 1, RX8, (some .int), 3) (mm_fi sh) sh M 55 [(0, .ref (mm_ad G 0))] [] (fn_X8_ruleNow_B55  M) := by
  unfold fn_X8_ruleNow_B55
  obtain ⟨N, hN⟩ := h0.1
  refine mm_aload_n 56 rfl dX8_ruleNow_55 rfl 0 rfl ?_
  refine mm_iconst 57 rfl (v := 4) dX8_ruleNow_56 (by decide) ?_
  refine mm_bipush 59 rfl (v := 112) dX8_ruleNow_57 (by decide) ?_
  refine mm_bipush 61 rfl (v := 101) dX8_ruleNow_59 (by decide) ?_
  refine mm_bipush 63 rfl (v := 103) dX8_ruleNow_61 (by decide) ?_
  refine ca_X8_82 66 rfl dX8_ruleNow_63 hN (ct_X8_is 4 112 101 103 h0) (by decide) (Nat.le_of_ble_eq_true rfl) (fun z_5 => ?_)
  refine mm_if_eq 69 83 rfl dX8_ruleNow_66 (by decide) (fun h_6 => ?_) (fun h_6 => ?_)
  · refine mm_aload_n 84 rfl dX8_ruleNow_83 rfl 0 rfl ?_
    refine mm_iconst 85 rfl (v := 4) dX8_ruleNow_84 (by decide) ?_
    refine mm_bipush 87 rfl (v := 112) dX8_ruleNow_85 (by decide) ?_
    refine mm_bipush 89 rfl (v := 97) dX8_ruleNow_87 (by decide) ?_
    refine mm_bipush 91 rfl (v := 115) dX8_ruleNow_89 (by decide) ?_
    refine ca_X8_82 94 rfl dX8_ruleNow_91 hN (ct_X8_is 4 112 97 115 h0) (by decide) (Nat.le_of_ble_eq_true rfl) (fun z_7 => ?_)
    refine mm_if_eq 97 111 rfl dX8_ruleNow_94 (by decide) (fun h_8 => ?_) (fun h_8 => ?_)
    · exact mm_lv [0] rfl (th_X8_ruleNow_B111 h0  _)
    · refine mm_aload_n 98 rfl dX8_ruleNow_97 rfl 0 rfl ?_
      refine mm_bipush 100 rfl (v := 115) dX8_ruleNow_98 (by decide) ?_
      refine mm_iconst 101 rfl (v := 0) dX8_ruleNow_100 (by decide) ?_
      refine mm_iconst 102 rfl (v := 0) dX8_ruleNow_101 (by decide) ?_
      refine ca_X8_86 105 rfl dX8_ruleNow_102 hN (ct_X8_endsIn 115 0 0 h0) (by decide) (Nat.le_of_ble_eq_true rfl) (fun z_17 => ?_)
      refine mm_if_eq 108 111 rfl dX8_ruleNow_105 (by decide) (fun h_18 => ?_) (fun h_18 => ?_)
      · exact mm_lv [0] rfl (th_X8_ruleNow_B111 h0  _)
      · refine mm_bipush 110 rfl (v := 7) dX8_ruleNow_108 (by decide) ?_
        exact mm_iret dX8_ruleNow_110 rfl rfl
  · refine mm_aload_n 70 rfl dX8_ruleNow_69 rfl 0 rfl ?_
    refine mm_bipush 72 rfl (v := 115) dX8_ruleNow_70 (by decide) ?_
    refine mm_iconst 73 rfl (v := 0) dX8_ruleNow_72 (by decide) ?_
    refine mm_iconst 74 rfl (v := 0) dX8_ruleNow_73 (by decide) ?_
    refine ca_X8_86 77 rfl dX8_ruleNow_74 hN (ct_X8_endsIn 115 0 0 h0) (by decide) (Nat.le_of_ble_eq_true rfl) (fun z_19 => ?_)
    refine mm_if_eq 80 83 rfl dX8_ruleNow_77 (by decide) (fun h_20 => ?_) (fun h_20 => ?_)
    · refine mm_aload_n 84 rfl dX8_ruleNow_83 rfl 0 rfl ?_
      refine mm_iconst 85 rfl (v := 4) dX8_ruleNow_84 (by decide) ?_
      refine mm_bipush 87 rfl (v := 112) dX8_ruleNow_85 (by decide) ?_
      refine mm_bipush 89 rfl (v := 97) dX8_ruleNow_87 (by decide) ?_
      refine mm_bipush 91 rfl (v := 115) dX8_ruleNow_89 (by decide) ?_
      refine ca_X8_82 94 rfl dX8_ruleNow_91 hN (ct_X8_is 4 112 97 115 h0) (by decide) (Nat.le_of_ble_eq_true rfl) (fun z_21 => ?_)
      refine mm_if_eq 97 111 rfl dX8_ruleNow_94 (by decide) (fun h_22 => ?_) (fun h_22 => ?_)
      · exact mm_lv [0] rfl (th_X8_ruleNow_B111 h0  _)
      · refine mm_aload_n 98 rfl dX8_ruleNow_97 rfl 0 rfl ?_
        refine mm_bipush 100 rfl (v := 115) dX8_ruleNow_98 (by decide) ?_
        refine mm_iconst 101 rfl (v := 0) dX8_ruleNow_100 (by decide) ?_
        refine mm_iconst 102 rfl (v := 0) dX8_ruleNow_101 (by decide) ?_
        refine ca_X8_86 105 rfl dX8_ruleNow_102 hN (ct_X8_endsIn 115 0 0 h0) (by decide) (Nat.le_of_ble_eq_true rfl) (fun z_23 => ?_)
        refine mm_if_eq 108 111 rfl dX8_ruleNow_105 (by decide) (fun h_24 => ?_) (fun h_24 => ?_)
        · exact mm_lv [0] rfl (th_X8_ruleNow_B111 h0  _)
        · refine mm_bipush 110 rfl (v := 7) dX8_ruleNow_108 (by decide) ?_
          exact mm_iret dX8_ruleNow_110 rfl rfl
    · refine mm_bipush 82 rfl (v := 6) dX8_ruleNow_80 (by decide) ?_
      exact mm_iret dX8_ruleNow_82 rfl rfl
noncomputable def fn_X8_ruleNow  (M : mm_M) : Option (Int32 × mm_M) :=
  ((fn_X8_is 4 98 108 117 M).bind fun z_1 => (if z_1.1 = 0 then ((fn_X8_is 5 98 97 116 z_1.2).bind fun z_3 => (if z_3.1 = 0 then fn_X8_ruleNow_B55    z_3.2 else ((fn_X8_endsIn 99 104 0 z_3.2).bind fun z_25 => (if z_25.1 = 0 then fn_X8_ruleNow_B55    z_25.2 else some (5, z_25.2))))) else ((fn_X8_endsIn 101 0 0 z_1.2).bind fun z_27 => (if z_27.1 = 0 then ((fn_X8_is 5 98 97 116 z_27.2).bind fun z_29 => (if z_29.1 = 0 then fn_X8_ruleNow_B55    z_29.2 else ((fn_X8_endsIn 99 104 0 z_29.2).bind fun z_31 => (if z_31.1 = 0 then fn_X8_ruleNow_B55    z_31.2 else some (5, z_31.2))))) else some (4, z_27.2)))))
set_option maxRecDepth 20000 in
set_option maxHeartbeats 4000000 in
theorem ct_X8_ruleNow {l : Launch} {G : mm_G} {sh : mm_S} {M : mm_M} (h0 : mm_isMod G sh) : mm_K l G yX8_ruleNow (cX8_ruleNow, 1, RX8, (some .int), 3) [.ref (mm_ad G 0)] (mm_fi sh) sh M (fn_X8_ruleNow  M) := by
  refine mm_met (by decide +kernel) rfl (Nat.le_of_ble_eq_true rfl) (fun X hX => ?_)
  subst hX
  show mm_T X G (cX8_ruleNow, 1, RX8, (some .int), 3) (mm_fi sh) sh M 0 [(0, .ref (mm_ad G 0))] [] (fn_X8_ruleNow  M)
  unfold fn_X8_ruleNow
  obtain ⟨N, hN⟩ := h0.1
  refine mm_aload_n 1 rfl dX8_ruleNow_0 rfl 0 rfl ?_
  refine mm_iconst 2 rfl (v := 4) dX8_ruleNow_1 (by decide) ?_
  refine mm_bipush 4 rfl (v := 98) dX8_ruleNow_2 (by decide) ?_
  refine mm_bipush 6 rfl (v := 108) dX8_ruleNow_4 (by decide) ?_
  refine mm_bipush 8 rfl (v := 117) dX8_ruleNow_6 (by decide) ?_
  refine ca_X8_82 11 rfl dX8_ruleNow_8 hN (ct_X8_is 4 98 108 117 h0) (by decide) (Nat.le_of_ble_eq_true rfl) (fun z_1 => ?_)
  refine mm_if_eq 14 27 rfl dX8_ruleNow_11 (by decide) (fun h_2 => ?_) (fun h_2 => ?_)
  · refine mm_aload_n 28 rfl dX8_ruleNow_27 rfl 0 rfl ?_
    refine mm_iconst 29 rfl (v := 5) dX8_ruleNow_28 (by decide) ?_
    refine mm_bipush 31 rfl (v := 98) dX8_ruleNow_29 (by decide) ?_
    refine mm_bipush 33 rfl (v := 97) dX8_ruleNow_31 (by decide) ?_
    refine mm_bipush 35 rfl (v := 116) dX8_ruleNow_33 (by decide) ?_
    refine ca_X8_82 38 rfl dX8_ruleNow_35 hN (ct_X8_is 5 98 97 116 h0) (by decide) (Nat.le_of_ble_eq_true rfl) (fun z_3 => ?_)
    refine mm_if_eq 41 55 rfl dX8_ruleNow_38 (by decide) (fun h_4 => ?_) (fun h_4 => ?_)
    · exact mm_lv [0] rfl (th_X8_ruleNow_B55 h0  _)
    · refine mm_aload_n 42 rfl dX8_ruleNow_41 rfl 0 rfl ?_
      refine mm_bipush 44 rfl (v := 99) dX8_ruleNow_42 (by decide) ?_
      refine mm_bipush 46 rfl (v := 104) dX8_ruleNow_44 (by decide) ?_
      refine mm_iconst 47 rfl (v := 0) dX8_ruleNow_46 (by decide) ?_
      refine ca_X8_86 50 rfl dX8_ruleNow_47 hN (ct_X8_endsIn 99 104 0 h0) (by decide) (Nat.le_of_ble_eq_true rfl) (fun z_25 => ?_)
      refine mm_if_eq 53 55 rfl dX8_ruleNow_50 (by decide) (fun h_26 => ?_) (fun h_26 => ?_)
      · exact mm_lv [0] rfl (th_X8_ruleNow_B55 h0  _)
      · refine mm_iconst 54 rfl (v := 5) dX8_ruleNow_53 (by decide) ?_
        exact mm_iret dX8_ruleNow_54 rfl rfl
  · refine mm_aload_n 15 rfl dX8_ruleNow_14 rfl 0 rfl ?_
    refine mm_bipush 17 rfl (v := 101) dX8_ruleNow_15 (by decide) ?_
    refine mm_iconst 18 rfl (v := 0) dX8_ruleNow_17 (by decide) ?_
    refine mm_iconst 19 rfl (v := 0) dX8_ruleNow_18 (by decide) ?_
    refine ca_X8_86 22 rfl dX8_ruleNow_19 hN (ct_X8_endsIn 101 0 0 h0) (by decide) (Nat.le_of_ble_eq_true rfl) (fun z_27 => ?_)
    refine mm_if_eq 25 27 rfl dX8_ruleNow_22 (by decide) (fun h_28 => ?_) (fun h_28 => ?_)
    · refine mm_aload_n 28 rfl dX8_ruleNow_27 rfl 0 rfl ?_
      refine mm_iconst 29 rfl (v := 5) dX8_ruleNow_28 (by decide) ?_
      refine mm_bipush 31 rfl (v := 98) dX8_ruleNow_29 (by decide) ?_
      refine mm_bipush 33 rfl (v := 97) dX8_ruleNow_31 (by decide) ?_
      refine mm_bipush 35 rfl (v := 116) dX8_ruleNow_33 (by decide) ?_
      refine ca_X8_82 38 rfl dX8_ruleNow_35 hN (ct_X8_is 5 98 97 116 h0) (by decide) (Nat.le_of_ble_eq_true rfl) (fun z_29 => ?_)
      refine mm_if_eq 41 55 rfl dX8_ruleNow_38 (by decide) (fun h_30 => ?_) (fun h_30 => ?_)
      · exact mm_lv [0] rfl (th_X8_ruleNow_B55 h0  _)
      · refine mm_aload_n 42 rfl dX8_ruleNow_41 rfl 0 rfl ?_
        refine mm_bipush 44 rfl (v := 99) dX8_ruleNow_42 (by decide) ?_
        refine mm_bipush 46 rfl (v := 104) dX8_ruleNow_44 (by decide) ?_
        refine mm_iconst 47 rfl (v := 0) dX8_ruleNow_46 (by decide) ?_
        refine ca_X8_86 50 rfl dX8_ruleNow_47 hN (ct_X8_endsIn 99 104 0 h0) (by decide) (Nat.le_of_ble_eq_true rfl) (fun z_31 => ?_)
        refine mm_if_eq 53 55 rfl dX8_ruleNow_50 (by decide) (fun h_32 => ?_) (fun h_32 => ?_)
        · exact mm_lv [0] rfl (th_X8_ruleNow_B55 h0  _)
        · refine mm_iconst 54 rfl (v := 5) dX8_ruleNow_53 (by decide) ?_
          exact mm_iret dX8_ruleNow_54 rfl rfl
    · refine mm_iconst 26 rfl (v := 4) dX8_ruleNow_25 (by decide) ?_
      exact mm_iret dX8_ruleNow_26 rfl rfl

-- MangleLineModel.lineNow()I
noncomputable def fn_X8_lineNow_B104     (M : mm_M) : Option (Int32 × mm_M) :=
  ((fn_X8_is 6 110 97 112 M).bind fun z_7 => (if z_7.1 = 0 then ((fn_X8_ruleNow  z_7.2).bind fun z_9 => some (z_9.1, z_9.2)) else ((fn_X8_endsIn 107 105 110 z_7.2).bind fun z_10 => (if z_10.1 = 0 then ((fn_X8_ruleNow  z_10.2).bind fun z_12 => some (z_12.1, z_12.2)) else some (3, z_10.2)))))
set_option maxRecDepth 20000 in
set_option maxHeartbeats 4000000 in
theorem th_X8_lineNow_B104 {X : mm_X} {G : mm_G} {sh : mm_S} (h0 : mm_isMod G sh) (M : mm_M) : mm_T X G (cX8_lineNow, 1, RX8, (some .int), 4) (mm_fi sh) sh M 104 [(0, .ref (mm_ad G 0))] [] (fn_X8_lineNow_B104  M) := by
  unfold fn_X8_lineNow_B104
  obtain ⟨N, hN⟩ := h0.1
  refine mm_aload_n 105 rfl dX8_lineNow_104 rfl 0 rfl ?_
  refine mm_bipush 107 rfl (v := 6) dX8_lineNow_105 (by decide) ?_
  refine mm_bipush 109 rfl (v := 110) dX8_lineNow_107 (by decide) ?_
  refine mm_bipush 111 rfl (v := 97) dX8_lineNow_109 (by decide) ?_
  refine mm_bipush 113 rfl (v := 112) dX8_lineNow_111 (by decide) ?_
  refine ca_X8_82 116 rfl dX8_lineNow_113 hN (ct_X8_is 6 110 97 112 h0) (by decide) (Nat.le_of_ble_eq_true rfl) (fun z_7 => ?_)
  refine mm_if_eq 119 136 rfl dX8_lineNow_116 (by decide) (fun h_8 => ?_) (fun h_8 => ?_)
  · refine mm_aload_n 137 rfl dX8_lineNow_136 rfl 0 rfl ?_
    refine ca_X8_90 140 rfl dX8_lineNow_137 hN (ct_X8_ruleNow  h0) (by decide) (Nat.le_of_ble_eq_true rfl) (fun z_9 => ?_)
    exact mm_iret dX8_lineNow_140 rfl rfl
  · refine mm_aload_n 120 rfl dX8_lineNow_119 rfl 0 rfl ?_
    refine mm_bipush 122 rfl (v := 107) dX8_lineNow_120 (by decide) ?_
    refine mm_bipush 124 rfl (v := 105) dX8_lineNow_122 (by decide) ?_
    refine mm_bipush 126 rfl (v := 110) dX8_lineNow_124 (by decide) ?_
    refine ca_X8_86 129 rfl dX8_lineNow_126 hN (ct_X8_endsIn 107 105 110 h0) (by decide) (Nat.le_of_ble_eq_true rfl) (fun z_10 => ?_)
    refine mm_if_eq 132 136 rfl dX8_lineNow_129 (by decide) (fun h_11 => ?_) (fun h_11 => ?_)
    · refine mm_aload_n 137 rfl dX8_lineNow_136 rfl 0 rfl ?_
      refine ca_X8_90 140 rfl dX8_lineNow_137 hN (ct_X8_ruleNow  h0) (by decide) (Nat.le_of_ble_eq_true rfl) (fun z_12 => ?_)
      exact mm_iret dX8_lineNow_140 rfl rfl
    · refine mm_iconst 133 rfl (v := 3) dX8_lineNow_132 (by decide) ?_
      refine mm_goto 140 dX8_lineNow_133 (by decide) ?_
      exact mm_iret dX8_lineNow_140 rfl rfl
noncomputable def fn_X8_lineNow_B58     (M : mm_M) : Option (Int32 × mm_M) :=
  ((fn_X8_is 7 99 114 101 M).bind fun z_5 => (if z_5.1 = 0 then fn_X8_lineNow_B104    z_5.2 else ((fn_X8_endsIn 97 115 101 z_5.2).bind fun z_13 => (if z_13.1 = 0 then fn_X8_lineNow_B104    z_13.2 else ((fn_X8_byteAt ((z_13.2 0 9) + 6) z_13.2).bind fun z_15 => (if z_15.1 = 100 then some (2, z_15.2) else fn_X8_lineNow_B104    z_15.2))))))
set_option maxRecDepth 20000 in
set_option maxHeartbeats 4000000 in
theorem th_X8_lineNow_B58 {X : mm_X} {G : mm_G} {sh : mm_S} (h0 : mm_isMod G sh) (M : mm_M) : mm_T X G (cX8_lineNow, 1, RX8, (some .int), 4) (mm_fi sh) sh M 58 [(0, .ref (mm_ad G 0))] [] (fn_X8_lineNow_B58  M) := by
  unfold fn_X8_lineNow_B58
  obtain ⟨N, hN⟩ := h0.1
  refine mm_aload_n 59 rfl dX8_lineNow_58 rfl 0 rfl ?_
  refine mm_bipush 61 rfl (v := 7) dX8_lineNow_59 (by decide) ?_
  refine mm_bipush 63 rfl (v := 99) dX8_lineNow_61 (by decide) ?_
  refine mm_bipush 65 rfl (v := 114) dX8_lineNow_63 (by decide) ?_
  refine mm_bipush 67 rfl (v := 101) dX8_lineNow_65 (by decide) ?_
  refine ca_X8_82 70 rfl dX8_lineNow_67 hN (ct_X8_is 7 99 114 101 h0) (by decide) (Nat.le_of_ble_eq_true rfl) (fun z_5 => ?_)
  refine mm_if_eq 73 104 rfl dX8_lineNow_70 (by decide) (fun h_6 => ?_) (fun h_6 => ?_)
  · exact mm_lv [0] rfl (th_X8_lineNow_B104 h0  _)
  · refine mm_aload_n 74 rfl dX8_lineNow_73 rfl 0 rfl ?_
    refine mm_bipush 76 rfl (v := 97) dX8_lineNow_74 (by decide) ?_
    refine mm_bipush 78 rfl (v := 115) dX8_lineNow_76 (by decide) ?_
    refine mm_bipush 80 rfl (v := 101) dX8_lineNow_78 (by decide) ?_
    refine ca_X8_86 83 rfl dX8_lineNow_80 hN (ct_X8_endsIn 97 115 101 h0) (by decide) (Nat.le_of_ble_eq_true rfl) (fun z_13 => ?_)
    refine mm_if_eq 86 104 rfl dX8_lineNow_83 (by decide) (fun h_14 => ?_) (fun h_14 => ?_)
    · exact mm_lv [0] rfl (th_X8_lineNow_B104 h0  _)
    · refine mm_aload_n 87 rfl dX8_lineNow_86 rfl 0 rfl ?_
      refine mm_aload_n 88 rfl dX8_lineNow_87 rfl 0 rfl ?_
      refine gt_X8_69 91 rfl dX8_lineNow_88 hN ?_
      refine mm_bipush 93 rfl (v := 6) dX8_lineNow_91 (by decide) ?_
      refine mm_iadd 94 rfl dX8_lineNow_93 ?_
      refine ca_X8_78 97 rfl dX8_lineNow_94 hN (ct_X8_byteAt ((z_13.2 0 9) + 6) h0) (by decide) (Nat.le_of_ble_eq_true rfl) (fun z_15 => ?_)
      refine mm_bipush 99 rfl (v := 100) dX8_lineNow_97 (by decide) ?_
      refine mm_icmp_ne 102 104 rfl dX8_lineNow_99 (by decide) (fun h_16 => ?_) (fun h_16 => ?_)
      · exact mm_lv [0] rfl (th_X8_lineNow_B104 h0  _)
      · refine mm_iconst 103 rfl (v := 2) dX8_lineNow_102 (by decide) ?_
        exact mm_iret dX8_lineNow_103 rfl rfl
noncomputable def fn_X8_lineNow  (M : mm_M) : Option (Int32 × mm_M) :=
  ((fn_X8_is 5 112 108 97 M).bind fun z_1 => (if z_1.1 = 0 then ((fn_X8_is 6 119 105 99 z_1.2).bind fun z_3 => (if z_3.1 = 0 then fn_X8_lineNow_B58    z_3.2 else ((fn_X8_endsIn 107 101 100 z_3.2).bind fun z_17 => (if z_17.1 = 0 then fn_X8_lineNow_B58    z_17.2 else some (1, z_17.2))))) else ((fn_X8_endsIn 105 110 0 z_1.2).bind fun z_19 => (if z_19.1 = 0 then ((fn_X8_is 6 119 105 99 z_19.2).bind fun z_21 => (if z_21.1 = 0 then fn_X8_lineNow_B58    z_21.2 else ((fn_X8_endsIn 107 101 100 z_21.2).bind fun z_23 => (if z_23.1 = 0 then fn_X8_lineNow_B58    z_23.2 else some (1, z_23.2))))) else some (0, z_19.2)))))
set_option maxRecDepth 20000 in
set_option maxHeartbeats 4000000 in
theorem ct_X8_lineNow {l : Launch} {G : mm_G} {sh : mm_S} {M : mm_M} (h0 : mm_isMod G sh) : mm_K l G yX8_lineNow (cX8_lineNow, 1, RX8, (some .int), 4) [.ref (mm_ad G 0)] (mm_fi sh) sh M (fn_X8_lineNow  M) := by
  refine mm_met (by decide +kernel) rfl (Nat.le_of_ble_eq_true rfl) (fun X hX => ?_)
  subst hX
  show mm_T X G (cX8_lineNow, 1, RX8, (some .int), 4) (mm_fi sh) sh M 0 [(0, .ref (mm_ad G 0))] [] (fn_X8_lineNow  M)
  unfold fn_X8_lineNow
  obtain ⟨N, hN⟩ := h0.1
  refine mm_aload_n 1 rfl dX8_lineNow_0 rfl 0 rfl ?_
  refine mm_iconst 2 rfl (v := 5) dX8_lineNow_1 (by decide) ?_
  refine mm_bipush 4 rfl (v := 112) dX8_lineNow_2 (by decide) ?_
  refine mm_bipush 6 rfl (v := 108) dX8_lineNow_4 (by decide) ?_
  refine mm_bipush 8 rfl (v := 97) dX8_lineNow_6 (by decide) ?_
  refine ca_X8_82 11 rfl dX8_lineNow_8 hN (ct_X8_is 5 112 108 97 h0) (by decide) (Nat.le_of_ble_eq_true rfl) (fun z_1 => ?_)
  refine mm_if_eq 14 28 rfl dX8_lineNow_11 (by decide) (fun h_2 => ?_) (fun h_2 => ?_)
  · refine mm_aload_n 29 rfl dX8_lineNow_28 rfl 0 rfl ?_
    refine mm_bipush 31 rfl (v := 6) dX8_lineNow_29 (by decide) ?_
    refine mm_bipush 33 rfl (v := 119) dX8_lineNow_31 (by decide) ?_
    refine mm_bipush 35 rfl (v := 105) dX8_lineNow_33 (by decide) ?_
    refine mm_bipush 37 rfl (v := 99) dX8_lineNow_35 (by decide) ?_
    refine ca_X8_82 40 rfl dX8_lineNow_37 hN (ct_X8_is 6 119 105 99 h0) (by decide) (Nat.le_of_ble_eq_true rfl) (fun z_3 => ?_)
    refine mm_if_eq 43 58 rfl dX8_lineNow_40 (by decide) (fun h_4 => ?_) (fun h_4 => ?_)
    · exact mm_lv [0] rfl (th_X8_lineNow_B58 h0  _)
    · refine mm_aload_n 44 rfl dX8_lineNow_43 rfl 0 rfl ?_
      refine mm_bipush 46 rfl (v := 107) dX8_lineNow_44 (by decide) ?_
      refine mm_bipush 48 rfl (v := 101) dX8_lineNow_46 (by decide) ?_
      refine mm_bipush 50 rfl (v := 100) dX8_lineNow_48 (by decide) ?_
      refine ca_X8_86 53 rfl dX8_lineNow_50 hN (ct_X8_endsIn 107 101 100 h0) (by decide) (Nat.le_of_ble_eq_true rfl) (fun z_17 => ?_)
      refine mm_if_eq 56 58 rfl dX8_lineNow_53 (by decide) (fun h_18 => ?_) (fun h_18 => ?_)
      · exact mm_lv [0] rfl (th_X8_lineNow_B58 h0  _)
      · refine mm_iconst 57 rfl (v := 1) dX8_lineNow_56 (by decide) ?_
        exact mm_iret dX8_lineNow_57 rfl rfl
  · refine mm_aload_n 15 rfl dX8_lineNow_14 rfl 0 rfl ?_
    refine mm_bipush 17 rfl (v := 105) dX8_lineNow_15 (by decide) ?_
    refine mm_bipush 19 rfl (v := 110) dX8_lineNow_17 (by decide) ?_
    refine mm_iconst 20 rfl (v := 0) dX8_lineNow_19 (by decide) ?_
    refine ca_X8_86 23 rfl dX8_lineNow_20 hN (ct_X8_endsIn 105 110 0 h0) (by decide) (Nat.le_of_ble_eq_true rfl) (fun z_19 => ?_)
    refine mm_if_eq 26 28 rfl dX8_lineNow_23 (by decide) (fun h_20 => ?_) (fun h_20 => ?_)
    · refine mm_aload_n 29 rfl dX8_lineNow_28 rfl 0 rfl ?_
      refine mm_bipush 31 rfl (v := 6) dX8_lineNow_29 (by decide) ?_
      refine mm_bipush 33 rfl (v := 119) dX8_lineNow_31 (by decide) ?_
      refine mm_bipush 35 rfl (v := 105) dX8_lineNow_33 (by decide) ?_
      refine mm_bipush 37 rfl (v := 99) dX8_lineNow_35 (by decide) ?_
      refine ca_X8_82 40 rfl dX8_lineNow_37 hN (ct_X8_is 6 119 105 99 h0) (by decide) (Nat.le_of_ble_eq_true rfl) (fun z_21 => ?_)
      refine mm_if_eq 43 58 rfl dX8_lineNow_40 (by decide) (fun h_22 => ?_) (fun h_22 => ?_)
      · exact mm_lv [0] rfl (th_X8_lineNow_B58 h0  _)
      · refine mm_aload_n 44 rfl dX8_lineNow_43 rfl 0 rfl ?_
        refine mm_bipush 46 rfl (v := 107) dX8_lineNow_44 (by decide) ?_
        refine mm_bipush 48 rfl (v := 101) dX8_lineNow_46 (by decide) ?_
        refine mm_bipush 50 rfl (v := 100) dX8_lineNow_48 (by decide) ?_
        refine ca_X8_86 53 rfl dX8_lineNow_50 hN (ct_X8_endsIn 107 101 100 h0) (by decide) (Nat.le_of_ble_eq_true rfl) (fun z_23 => ?_)
        refine mm_if_eq 56 58 rfl dX8_lineNow_53 (by decide) (fun h_24 => ?_) (fun h_24 => ?_)
        · exact mm_lv [0] rfl (th_X8_lineNow_B58 h0  _)
        · refine mm_iconst 57 rfl (v := 1) dX8_lineNow_56 (by decide) ?_
          exact mm_iret dX8_lineNow_57 rfl rfl
    · refine mm_iconst 27 rfl (v := 0) dX8_lineNow_26 (by decide) ?_
      exact mm_iret dX8_lineNow_27 rfl rfl

-- MangleLineModel.reads()V
noncomputable def fn_X8_reads_L8  (k : mm_M → Option mm_M) : Nat → mm_M → Option mm_M
  | 0, _ => none
  | n + 1, M => ((fn_X8_byteAt (M 0 8) M).bind fun z_2 => (if z_2.1 = 32 then mm_let (mm_up z_2.2 0 8 ((z_2.2 0 8) + 1)) fun M_4 => fn_X8_reads_L8 k n  M_4 else k  z_2.2))
set_option maxRecDepth 20000 in
set_option maxHeartbeats 4000000 in
theorem th_X8_reads_L8 {X : mm_X} {G : mm_G} {sh : mm_S} {k : mm_M → Option mm_M} (h0 : mm_isMod G sh) (hk : ∀ (M : mm_M), mm_T X G (cX8_reads, 2, RX8, none, 2) (mm_fv sh) sh M 34 [(0, .ref (mm_ad G 0))] [] (k  M)) : ∀ (n : Nat)  (M : mm_M), mm_T X G (cX8_reads, 2, RX8, none, 2) (mm_fv sh) sh M 8 [(0, .ref (mm_ad G 0))] [] (fn_X8_reads_L8 k n M) := by
  intro n
  induction n with
  | zero => intro M; exact mm_none
  | succ n ih =>
    intro M
    rw [fn_X8_reads_L8]
    obtain ⟨N, hN⟩ := h0.1
    refine mm_aload_n 9 rfl dX8_reads_8 rfl 0 rfl ?_
    refine mm_aload_n 10 rfl dX8_reads_9 rfl 0 rfl ?_
    refine gt_X8_75 13 rfl dX8_reads_10 hN ?_
    refine ca_X8_78 16 rfl dX8_reads_13 hN (ct_X8_byteAt (M 0 8) h0) (by decide) (Nat.le_of_ble_eq_true rfl) (fun z_2 => ?_)
    refine mm_bipush 18 rfl (v := 32) dX8_reads_16 (by decide) ?_
    refine mm_icmp_ne 21 34 rfl dX8_reads_18 (by decide) (fun h_3 => ?_) (fun h_3 => ?_)
    · exact mm_lv [0] rfl (hk _)
    · refine mm_aload_n 22 rfl dX8_reads_21 rfl 0 rfl ?_
      refine mm_dup 23 rfl dX8_reads_22 rfl ?_
      refine gt_X8_75 26 rfl dX8_reads_23 hN ?_
      refine mm_iconst 27 rfl (v := 1) dX8_reads_26 (by decide) ?_
      refine mm_iadd 28 rfl dX8_reads_27 ?_
      refine pt_X8_75 31 rfl dX8_reads_28 hN ?_
      refine mm_bM (fun M_4 => ?_)
      refine mm_goto 8 dX8_reads_31 (by decide) ?_
      exact mm_lv [0] rfl (ih _)
noncomputable def fn_X8_reads_L140  (k : mm_M → Option mm_M) : Nat → mm_M → Option mm_M
  | 0, _ => none
  | n + 1, M => ((fn_X8_byteAt (M 0 8) M).bind fun z_23 => ((fn_X8_in z_23.1.toInt64 48 57 z_23.2).bind fun z_24 => (if z_24.1 = 0 then k  z_24.2 else (if 2 ≤ ((z_24.2 0 8) - (z_24.2 0 9)) then mm_let (mm_up z_24.2 0 11 (z_24.2 0 11)) fun M_27 => mm_let (mm_up M_27 0 8 ((M_27 0 8) + 1)) fun M_28 => fn_X8_reads_L140 k n  M_28 else ((fn_X8_byteAt (z_24.2 0 8) z_24.2).bind fun z_29 => mm_let (mm_up z_29.2 0 11 (((10 * (z_24.2 0 11)) + z_29.1) - 48)) fun M_30 => mm_let (mm_up M_30 0 8 ((M_30 0 8) + 1)) fun M_31 => fn_X8_reads_L140 k n  M_31)))))
set_option maxRecDepth 20000 in
set_option maxHeartbeats 4000000 in
theorem th_X8_reads_L140 {X : mm_X} {G : mm_G} {sh : mm_S} {k : mm_M → Option mm_M} (h0 : mm_isMod G sh) (hk : ∀ (M : mm_M), mm_T X G (cX8_reads, 2, RX8, none, 2) (mm_fv sh) sh M 217 [(0, .ref (mm_ad G 0))] [] (k  M)) : ∀ (n : Nat)  (M : mm_M), mm_T X G (cX8_reads, 2, RX8, none, 2) (mm_fv sh) sh M 140 [(0, .ref (mm_ad G 0))] [] (fn_X8_reads_L140 k n M) := by
  intro n
  induction n with
  | zero => intro M; exact mm_none
  | succ n ih =>
    intro M
    rw [fn_X8_reads_L140]
    obtain ⟨N, hN⟩ := h0.1
    refine mm_aload_n 141 rfl dX8_reads_140 rfl 0 rfl ?_
    refine mm_aload_n 142 rfl dX8_reads_141 rfl 0 rfl ?_
    refine gt_X8_75 145 rfl dX8_reads_142 hN ?_
    refine ca_X8_78 148 rfl dX8_reads_145 hN (ct_X8_byteAt (M 0 8) h0) (by decide) (Nat.le_of_ble_eq_true rfl) (fun z_23 => ?_)
    refine mm_i2l 149 rfl dX8_reads_148 ?_
    refine mm_ldc2 152 rfl (v := 48) dX8_reads_149 mw_4_188 ?_
    refine mm_ldc2 155 rfl (v := 57) dX8_reads_152 mw_4_189 ?_
    refine ca_X8_59 158 rfl dX8_reads_155 (ct_X8_in z_23.1.toInt64 48 57 ) (by decide) (Nat.le_of_ble_eq_true rfl) (fun z_24 => ?_)
    refine mm_if_eq 161 217 rfl dX8_reads_158 (by decide) (fun h_25 => ?_) (fun h_25 => ?_)
    · exact mm_lv [0] rfl (hk _)
    · refine mm_aload_n 162 rfl dX8_reads_161 rfl 0 rfl ?_
      refine mm_aload_n 163 rfl dX8_reads_162 rfl 0 rfl ?_
      refine gt_X8_75 166 rfl dX8_reads_163 hN ?_
      refine mm_aload_n 167 rfl dX8_reads_166 rfl 0 rfl ?_
      refine gt_X8_69 170 rfl dX8_reads_167 hN ?_
      refine mm_isub 171 rfl dX8_reads_170 ?_
      refine mm_iconst 172 rfl (v := 2) dX8_reads_171 (by decide) ?_
      refine mm_icmp_ge 175 197 rfl dX8_reads_172 (by decide) (fun h_26 => ?_) (fun h_26 => ?_)
      · refine mm_aload_n 198 rfl dX8_reads_197 rfl 0 rfl ?_
        refine gt_X8_105 201 rfl dX8_reads_198 hN ?_
        refine pt_X8_105 204 rfl dX8_reads_201 hN ?_
        refine mm_bM (fun M_27 => ?_)
        refine mm_aload_n 205 rfl dX8_reads_204 rfl 0 rfl ?_
        refine mm_dup 206 rfl dX8_reads_205 rfl ?_
        refine gt_X8_75 209 rfl dX8_reads_206 hN ?_
        refine mm_iconst 210 rfl (v := 1) dX8_reads_209 (by decide) ?_
        refine mm_iadd 211 rfl dX8_reads_210 ?_
        refine pt_X8_75 214 rfl dX8_reads_211 hN ?_
        refine mm_bM (fun M_28 => ?_)
        refine mm_goto 140 dX8_reads_214 (by decide) ?_
        exact mm_lv [0] rfl (ih _)
      · refine mm_bipush 177 rfl (v := 10) dX8_reads_175 (by decide) ?_
        refine mm_aload_n 178 rfl dX8_reads_177 rfl 0 rfl ?_
        refine gt_X8_105 181 rfl dX8_reads_178 hN ?_
        refine mm_imul 182 rfl dX8_reads_181 ?_
        refine mm_aload_n 183 rfl dX8_reads_182 rfl 0 rfl ?_
        refine mm_aload_n 184 rfl dX8_reads_183 rfl 0 rfl ?_
        refine gt_X8_75 187 rfl dX8_reads_184 hN ?_
        refine ca_X8_78 190 rfl dX8_reads_187 hN (ct_X8_byteAt (z_24.2 0 8) h0) (by decide) (Nat.le_of_ble_eq_true rfl) (fun z_29 => ?_)
        refine mm_iadd 191 rfl dX8_reads_190 ?_
        refine mm_bipush 193 rfl (v := 48) dX8_reads_191 (by decide) ?_
        refine mm_isub 194 rfl dX8_reads_193 ?_
        refine mm_goto 201 dX8_reads_194 (by decide) ?_
        refine pt_X8_105 204 rfl dX8_reads_201 hN ?_
        refine mm_bM (fun M_30 => ?_)
        refine mm_aload_n 205 rfl dX8_reads_204 rfl 0 rfl ?_
        refine mm_dup 206 rfl dX8_reads_205 rfl ?_
        refine gt_X8_75 209 rfl dX8_reads_206 hN ?_
        refine mm_iconst 210 rfl (v := 1) dX8_reads_209 (by decide) ?_
        refine mm_iadd 211 rfl dX8_reads_210 ?_
        refine pt_X8_75 214 rfl dX8_reads_211 hN ?_
        refine mm_bM (fun M_31 => ?_)
        refine mm_goto 140 dX8_reads_214 (by decide) ?_
        exact mm_lv [0] rfl (ih _)
noncomputable def fn_X8_reads_L82  (k : mm_M → Option mm_M) : Nat → mm_M → Option mm_M
  | 0, _ => none
  | n + 1, M => ((fn_X8_byteAt (M 0 8) M).bind fun z_38 => ((fn_X8_in z_38.1.toInt64 97 122 z_38.2).bind fun z_39 => (if z_39.1 = 0 then k  z_39.2 else mm_let (mm_up z_39.2 0 8 ((z_39.2 0 8) + 1)) fun M_41 => fn_X8_reads_L82 k n  M_41)))
set_option maxRecDepth 20000 in
set_option maxHeartbeats 4000000 in
theorem th_X8_reads_L82 {X : mm_X} {G : mm_G} {sh : mm_S} {k : mm_M → Option mm_M} (h0 : mm_isMod G sh) (hk : ∀ (M : mm_M), mm_T X G (cX8_reads, 2, RX8, none, 2) (mm_fv sh) sh M 274 [] [] (k  M)) : ∀ (n : Nat)  (M : mm_M), mm_T X G (cX8_reads, 2, RX8, none, 2) (mm_fv sh) sh M 82 [(0, .ref (mm_ad G 0))] [] (fn_X8_reads_L82 k n M) := by
  intro n
  induction n with
  | zero => intro M; exact mm_none
  | succ n ih =>
    intro M
    rw [fn_X8_reads_L82]
    obtain ⟨N, hN⟩ := h0.1
    refine mm_aload_n 83 rfl dX8_reads_82 rfl 0 rfl ?_
    refine mm_aload_n 84 rfl dX8_reads_83 rfl 0 rfl ?_
    refine gt_X8_75 87 rfl dX8_reads_84 hN ?_
    refine ca_X8_78 90 rfl dX8_reads_87 hN (ct_X8_byteAt (M 0 8) h0) (by decide) (Nat.le_of_ble_eq_true rfl) (fun z_38 => ?_)
    refine mm_i2l 91 rfl dX8_reads_90 ?_
    refine mm_ldc2 94 rfl (v := 97) dX8_reads_91 mw_4_186 ?_
    refine mm_ldc2 97 rfl (v := 122) dX8_reads_94 mw_4_187 ?_
    refine ca_X8_59 100 rfl dX8_reads_97 (ct_X8_in z_38.1.toInt64 97 122 ) (by decide) (Nat.le_of_ble_eq_true rfl) (fun z_39 => ?_)
    refine mm_if_eq 103 274 rfl dX8_reads_100 (by decide) (fun h_40 => ?_) (fun h_40 => ?_)
    · exact mm_lv [] rfl (hk _)
    · refine mm_aload_n 104 rfl dX8_reads_103 rfl 0 rfl ?_
      refine mm_dup 105 rfl dX8_reads_104 rfl ?_
      refine gt_X8_75 108 rfl dX8_reads_105 hN ?_
      refine mm_iconst 109 rfl (v := 1) dX8_reads_108 (by decide) ?_
      refine mm_iadd 110 rfl dX8_reads_109 ?_
      refine pt_X8_75 113 rfl dX8_reads_110 hN ?_
      refine mm_bM (fun M_41 => ?_)
      refine mm_goto 82 dX8_reads_113 (by decide) ?_
      exact mm_lv [0] rfl (ih _)
noncomputable def fn_X8_reads  (M : mm_M) : Option mm_M :=
  (if (M 0 12) ≤ 0 then fn_X8_reads_L8  (fun M_5 => mm_let (mm_up M_5 0 9 (M_5 0 8)) fun M_7 => ((fn_X8_byteAt (M_7 0 8) M_7).bind fun z_8 => mm_let z_8.1 fun x1_9 => (if 0 ≤ x1_9 then ((fn_X8_in x1_9.toInt64 97 122 z_8.2).bind fun z_11 => (if z_11.1 = 0 then ((fn_X8_in x1_9.toInt64 48 57 z_11.2).bind fun z_13 => (if z_13.1 = 0 then mm_let (mm_up z_13.2 0 10 3) fun M_15 => (if x1_9 = 59 then ((fn_X8_requires 1 1 M_15).bind fun z_19 => mm_let (mm_up z_19 0 8 ((z_19 0 8) + 1)) fun M_20 => some M_20) else ((fn_X8_requires 0 1 M_15).bind fun z_17 => mm_let (mm_up z_17 0 8 ((z_17 0 8) + 1)) fun M_18 => some M_18)) else mm_let (mm_up z_13.2 0 10 2) fun M_21 => mm_let (mm_up M_21 0 11 0) fun M_22 => fn_X8_reads_L140  (fun M_32 => (if 2 < ((M_32 0 8) - (M_32 0 9)) then ((fn_X8_requires 0 1 M_32).bind fun z_35 => some z_35) else ((fn_X8_requires 1 1 M_32).bind fun z_36 => some z_36))) mm_fu  M_22)) else mm_let (mm_up z_11.2 0 10 1) fun M_37 => fn_X8_reads_L82  (fun M_42 => some M_42) mm_fu  M_37)) else mm_let (mm_up z_8.2 0 10 0) fun M_44 => some M_44))) mm_fu  M else some M)
set_option maxRecDepth 20000 in
set_option maxHeartbeats 4000000 in
theorem ct_X8_reads {l : Launch} {G : mm_G} {sh : mm_S} {M : mm_M} (h0 : mm_isMod G sh) : mm_K l G yX8_reads (cX8_reads, 2, RX8, none, 2) [.ref (mm_ad G 0)] (mm_fv sh) sh M (fn_X8_reads  M) := by
  refine mm_met (by decide +kernel) rfl (Nat.le_of_ble_eq_true rfl) (fun X hX => ?_)
  subst hX
  show mm_T X G (cX8_reads, 2, RX8, none, 2) (mm_fv sh) sh M 0 [(0, .ref (mm_ad G 0))] [] (fn_X8_reads  M)
  unfold fn_X8_reads
  obtain ⟨N, hN⟩ := h0.1
  refine mm_aload_n 1 rfl dX8_reads_0 rfl 0 rfl ?_
  refine gt_X8_66 4 rfl dX8_reads_1 hN ?_
  refine mm_if_le 7 8 rfl dX8_reads_4 (by decide) (fun h_1 => ?_) (fun h_1 => ?_)
  · refine mm_lv [0] rfl (th_X8_reads_L8 h0 (fun M_5 => ?_) mm_fu _)
    refine mm_aload_n 35 rfl dX8_reads_34 rfl 0 rfl ?_
    refine mm_aload_n 36 rfl dX8_reads_35 rfl 0 rfl ?_
    refine gt_X8_75 39 rfl dX8_reads_36 hN ?_
    refine pt_X8_69 42 rfl dX8_reads_39 hN ?_
    refine mm_bM (fun M_7 => ?_)
    refine mm_aload_n 43 rfl dX8_reads_42 rfl 0 rfl ?_
    refine mm_aload_n 44 rfl dX8_reads_43 rfl 0 rfl ?_
    refine gt_X8_75 47 rfl dX8_reads_44 hN ?_
    refine ca_X8_78 50 rfl dX8_reads_47 hN (ct_X8_byteAt (M_7 0 8) h0) (by decide) (Nat.le_of_ble_eq_true rfl) (fun z_8 => ?_)
    refine mm_bI (fun x1_9 => ?_)
    refine mm_istore_n 51 rfl dX8_reads_50 rfl (lv' := [(1, .int x1_9), (0, .ref (mm_ad G 0))]) (by decide) rfl ?_
    refine mm_iload_n 52 rfl dX8_reads_51 rfl 0 rfl ?_
    refine mm_if_ge 55 63 rfl dX8_reads_52 (by decide) (fun h_10 => ?_) (fun h_10 => ?_)
    · refine mm_iload_n 64 rfl dX8_reads_63 rfl 0 rfl ?_
      refine mm_i2l 65 rfl dX8_reads_64 ?_
      refine mm_ldc2 68 rfl (v := 97) dX8_reads_65 mw_4_186 ?_
      refine mm_ldc2 71 rfl (v := 122) dX8_reads_68 mw_4_187 ?_
      refine ca_X8_59 74 rfl dX8_reads_71 (ct_X8_in x1_9.toInt64 97 122 ) (by decide) (Nat.le_of_ble_eq_true rfl) (fun z_11 => ?_)
      refine mm_if_eq 77 116 rfl dX8_reads_74 (by decide) (fun h_12 => ?_) (fun h_12 => ?_)
      · refine mm_iload_n 117 rfl dX8_reads_116 rfl 0 rfl ?_
        refine mm_i2l 118 rfl dX8_reads_117 ?_
        refine mm_ldc2 121 rfl (v := 48) dX8_reads_118 mw_4_188 ?_
        refine mm_ldc2 124 rfl (v := 57) dX8_reads_121 mw_4_189 ?_
        refine ca_X8_59 127 rfl dX8_reads_124 (ct_X8_in x1_9.toInt64 48 57 ) (by decide) (Nat.le_of_ble_eq_true rfl) (fun z_13 => ?_)
        refine mm_if_eq 130 243 rfl dX8_reads_127 (by decide) (fun h_14 => ?_) (fun h_14 => ?_)
        · refine mm_aload_n 244 rfl dX8_reads_243 rfl 1 rfl ?_
          refine mm_iconst 245 rfl (v := 3) dX8_reads_244 (by decide) ?_
          refine pt_X8_94 248 rfl dX8_reads_245 hN ?_
          refine mm_bM (fun M_15 => ?_)
          refine mm_aload_n 249 rfl dX8_reads_248 rfl 1 rfl ?_
          refine mm_iload_n 250 rfl dX8_reads_249 rfl 0 rfl ?_
          refine mm_bipush 252 rfl (v := 59) dX8_reads_250 (by decide) ?_
          refine mm_icmp_ne 255 259 rfl dX8_reads_252 (by decide) (fun h_16 => ?_) (fun h_16 => ?_)
          · refine mm_iconst 260 rfl (v := 0) dX8_reads_259 (by decide) ?_
            refine mm_iconst 261 rfl (v := 1) dX8_reads_260 (by decide) ?_
            refine ca_X8_108 264 rfl dX8_reads_261 hN (ct_X8_requires 0 1 h0) (by decide) (Nat.le_of_ble_eq_true rfl) (fun z_17 => ?_)
            refine mm_aload_n 265 rfl dX8_reads_264 rfl 1 rfl ?_
            refine mm_dup 266 rfl dX8_reads_265 rfl ?_
            refine gt_X8_75 269 rfl dX8_reads_266 hN ?_
            refine mm_iconst 270 rfl (v := 1) dX8_reads_269 (by decide) ?_
            refine mm_iadd 271 rfl dX8_reads_270 ?_
            refine pt_X8_75 274 rfl dX8_reads_271 hN ?_
            refine mm_bM (fun M_18 => ?_)
            exact mm_vret dX8_reads_274 rfl rfl
          · refine mm_iconst 256 rfl (v := 1) dX8_reads_255 (by decide) ?_
            refine mm_goto 260 dX8_reads_256 (by decide) ?_
            refine mm_iconst 261 rfl (v := 1) dX8_reads_260 (by decide) ?_
            refine ca_X8_108 264 rfl dX8_reads_261 hN (ct_X8_requires 1 1 h0) (by decide) (Nat.le_of_ble_eq_true rfl) (fun z_19 => ?_)
            refine mm_aload_n 265 rfl dX8_reads_264 rfl 1 rfl ?_
            refine mm_dup 266 rfl dX8_reads_265 rfl ?_
            refine gt_X8_75 269 rfl dX8_reads_266 hN ?_
            refine mm_iconst 270 rfl (v := 1) dX8_reads_269 (by decide) ?_
            refine mm_iadd 271 rfl dX8_reads_270 ?_
            refine pt_X8_75 274 rfl dX8_reads_271 hN ?_
            refine mm_bM (fun M_20 => ?_)
            exact mm_vret dX8_reads_274 rfl rfl
        · refine mm_aload_n 131 rfl dX8_reads_130 rfl 1 rfl ?_
          refine mm_iconst 132 rfl (v := 2) dX8_reads_131 (by decide) ?_
          refine pt_X8_94 135 rfl dX8_reads_132 hN ?_
          refine mm_bM (fun M_21 => ?_)
          refine mm_aload_n 136 rfl dX8_reads_135 rfl 1 rfl ?_
          refine mm_iconst 137 rfl (v := 0) dX8_reads_136 (by decide) ?_
          refine pt_X8_105 140 rfl dX8_reads_137 hN ?_
          refine mm_bM (fun M_22 => ?_)
          refine mm_lv [1] rfl (th_X8_reads_L140 h0 (fun M_32 => ?_) mm_fu _)
          refine mm_aload_n 218 rfl dX8_reads_217 rfl 0 rfl ?_
          refine mm_aload_n 219 rfl dX8_reads_218 rfl 0 rfl ?_
          refine gt_X8_75 222 rfl dX8_reads_219 hN ?_
          refine mm_aload_n 223 rfl dX8_reads_222 rfl 0 rfl ?_
          refine gt_X8_69 226 rfl dX8_reads_223 hN ?_
          refine mm_isub 227 rfl dX8_reads_226 ?_
          refine mm_iconst 228 rfl (v := 2) dX8_reads_227 (by decide) ?_
          refine mm_icmp_gt 231 235 rfl dX8_reads_228 (by decide) (fun h_34 => ?_) (fun h_34 => ?_)
          · refine mm_iconst 236 rfl (v := 0) dX8_reads_235 (by decide) ?_
            refine mm_iconst 237 rfl (v := 1) dX8_reads_236 (by decide) ?_
            refine ca_X8_108 240 rfl dX8_reads_237 hN (ct_X8_requires 0 1 h0) (by decide) (Nat.le_of_ble_eq_true rfl) (fun z_35 => ?_)
            refine mm_goto 274 dX8_reads_240 (by decide) ?_
            exact mm_vret dX8_reads_274 rfl rfl
          · refine mm_iconst 232 rfl (v := 1) dX8_reads_231 (by decide) ?_
            refine mm_goto 236 dX8_reads_232 (by decide) ?_
            refine mm_iconst 237 rfl (v := 1) dX8_reads_236 (by decide) ?_
            refine ca_X8_108 240 rfl dX8_reads_237 hN (ct_X8_requires 1 1 h0) (by decide) (Nat.le_of_ble_eq_true rfl) (fun z_36 => ?_)
            refine mm_goto 274 dX8_reads_240 (by decide) ?_
            exact mm_vret dX8_reads_274 rfl rfl
      · refine mm_aload_n 78 rfl dX8_reads_77 rfl 1 rfl ?_
        refine mm_iconst 79 rfl (v := 1) dX8_reads_78 (by decide) ?_
        refine pt_X8_94 82 rfl dX8_reads_79 hN ?_
        refine mm_bM (fun M_37 => ?_)
        refine mm_lv [1] rfl (th_X8_reads_L82 h0 (fun M_42 => ?_) mm_fu _)
        exact mm_vret dX8_reads_274 rfl rfl
    · refine mm_aload_n 56 rfl dX8_reads_55 rfl 1 rfl ?_
      refine mm_iconst 57 rfl (v := 0) dX8_reads_56 (by decide) ?_
      refine pt_X8_94 60 rfl dX8_reads_57 hN ?_
      refine mm_bM (fun M_44 => ?_)
      refine mm_goto 274 dX8_reads_60 (by decide) ?_
      exact mm_vret dX8_reads_274 rfl rfl
  · exact mm_vret dX8_reads_7 rfl rfl

-- MangleLineModel.readNumber(II)I
noncomputable def fn_X8_readNumber_B25    (x1 : Int32) (x2 : Int32) (M : mm_M) : Option (Int32 × mm_M) :=
  (if (M 0 12) = 0 then ((fn_X8_in ((M 0 11).toInt64) x1.toInt64 x2.toInt64 M).bind fun z_4 => ((fn_X8_requires z_4.1 3 z_4.2).bind fun z_5 => (if (z_5 0 12) = 0 then mm_let (z_5 0 11) fun x3_8 => ((fn_X8_reads  z_5).bind fun z_9 => some (x3_8, z_9)) else ((fn_X8_reads  z_5).bind fun z_7 => some (0, z_7))))) else ((fn_X8_reads  M).bind fun z_3 => some (0, z_3)))
set_option maxRecDepth 20000 in
set_option maxHeartbeats 4000000 in
theorem th_X8_readNumber_B25 {X : mm_X} {G : mm_G} {sh : mm_S} (h0 : mm_isMod G sh) (x1 : Int32) (x2 : Int32) (M : mm_M) : mm_T X G (cX8_readNumber, 4, RX8, (some .int), 3) (mm_fi sh) sh M 25 [(0, .ref (mm_ad G 0)), (1, .int x1), (2, .int x2)] [] (fn_X8_readNumber_B25  x1 x2 M) := by
  unfold fn_X8_readNumber_B25
  obtain ⟨N, hN⟩ := h0.1
  refine mm_aload_n 26 rfl dX8_readNumber_25 rfl 0 rfl ?_
  refine gt_X8_66 29 rfl dX8_readNumber_26 hN ?_
  refine mm_if_ne 32 49 rfl dX8_readNumber_29 (by decide) (fun h_2 => ?_) (fun h_2 => ?_)
  · refine mm_aload_n 50 rfl dX8_readNumber_49 rfl 0 rfl ?_
    refine gt_X8_66 53 rfl dX8_readNumber_50 hN ?_
    refine mm_if_neY 63 dX8_readNumber_53 (by decide) h_2 ?_
    refine mm_iconst 64 rfl (v := 0) dX8_readNumber_63 (by decide) ?_
    refine mm_istore_n 65 rfl dX8_readNumber_64 rfl (lv' := [(3, .int 0), (0, .ref (mm_ad G 0)), (1, .int x1), (2, .int x2)]) (by decide) rfl ?_
    refine mm_aload_n 66 rfl dX8_readNumber_65 rfl 1 rfl ?_
    refine ca_X8_112 69 rfl dX8_readNumber_66 hN (ct_X8_reads  h0) (by decide) (Nat.le_of_ble_eq_true rfl) (fun z_3 => ?_)
    refine mm_iload_n 70 rfl dX8_readNumber_69 rfl 0 rfl ?_
    exact mm_iret dX8_readNumber_70 rfl rfl
  · refine mm_aload_n 33 rfl dX8_readNumber_32 rfl 0 rfl ?_
    refine mm_aload_n 34 rfl dX8_readNumber_33 rfl 0 rfl ?_
    refine gt_X8_105 37 rfl dX8_readNumber_34 hN ?_
    refine mm_i2l 38 rfl dX8_readNumber_37 ?_
    refine mm_iload_n 39 rfl dX8_readNumber_38 rfl 1 rfl ?_
    refine mm_i2l 40 rfl dX8_readNumber_39 ?_
    refine mm_iload_n 41 rfl dX8_readNumber_40 rfl 2 rfl ?_
    refine mm_i2l 42 rfl dX8_readNumber_41 ?_
    refine ca_X8_59 45 rfl dX8_readNumber_42 (ct_X8_in ((M 0 11).toInt64) x1.toInt64 x2.toInt64 ) (by decide) (Nat.le_of_ble_eq_true rfl) (fun z_4 => ?_)
    refine mm_iconst 46 rfl (v := 3) dX8_readNumber_45 (by decide) ?_
    refine ca_X8_108 49 rfl dX8_readNumber_46 hN (ct_X8_requires z_4.1 3 h0) (by decide) (Nat.le_of_ble_eq_true rfl) (fun z_5 => ?_)
    refine mm_aload_n 50 rfl dX8_readNumber_49 rfl 0 rfl ?_
    refine gt_X8_66 53 rfl dX8_readNumber_50 hN ?_
    refine mm_if_ne 56 63 rfl dX8_readNumber_53 (by decide) (fun h_6 => ?_) (fun h_6 => ?_)
    · refine mm_iconst 64 rfl (v := 0) dX8_readNumber_63 (by decide) ?_
      refine mm_istore_n 65 rfl dX8_readNumber_64 rfl (lv' := [(3, .int 0), (0, .ref (mm_ad G 0)), (1, .int x1), (2, .int x2)]) (by decide) rfl ?_
      refine mm_aload_n 66 rfl dX8_readNumber_65 rfl 1 rfl ?_
      refine ca_X8_112 69 rfl dX8_readNumber_66 hN (ct_X8_reads  h0) (by decide) (Nat.le_of_ble_eq_true rfl) (fun z_7 => ?_)
      refine mm_iload_n 70 rfl dX8_readNumber_69 rfl 0 rfl ?_
      exact mm_iret dX8_readNumber_70 rfl rfl
    · refine mm_aload_n 57 rfl dX8_readNumber_56 rfl 0 rfl ?_
      refine gt_X8_105 60 rfl dX8_readNumber_57 hN ?_
      refine mm_goto 64 dX8_readNumber_60 (by decide) ?_
      refine mm_bI (fun x3_8 => ?_)
      refine mm_istore_n 65 rfl dX8_readNumber_64 rfl (lv' := [(3, .int x3_8), (0, .ref (mm_ad G 0)), (1, .int x1), (2, .int x2)]) (by decide) rfl ?_
      refine mm_aload_n 66 rfl dX8_readNumber_65 rfl 1 rfl ?_
      refine ca_X8_112 69 rfl dX8_readNumber_66 hN (ct_X8_reads  h0) (by decide) (Nat.le_of_ble_eq_true rfl) (fun z_9 => ?_)
      refine mm_iload_n 70 rfl dX8_readNumber_69 rfl 0 rfl ?_
      exact mm_iret dX8_readNumber_70 rfl rfl
noncomputable def fn_X8_readNumber (c1 : Int32) (c2 : Int32) (M : mm_M) : Option (Int32 × mm_M) :=
  (if (M 0 12) = 0 then (if (M 0 10) = 2 then ((fn_X8_requires 1 2 M).bind fun z_12 => fn_X8_readNumber_B25   c1 c2 z_12) else ((fn_X8_requires 0 2 M).bind fun z_11 => fn_X8_readNumber_B25   c1 c2 z_11)) else fn_X8_readNumber_B25   c1 c2 M)
set_option maxRecDepth 20000 in
set_option maxHeartbeats 4000000 in
theorem ct_X8_readNumber {l : Launch} {G : mm_G} {sh : mm_S} {M : mm_M} (c1 : Int32) (c2 : Int32) (h0 : mm_isMod G sh) : mm_K l G yX8_readNumber (cX8_readNumber, 4, RX8, (some .int), 3) [.ref (mm_ad G 0), .int c1, .int c2] (mm_fi sh) sh M (fn_X8_readNumber c1 c2 M) := by
  refine mm_met (by decide +kernel) rfl (Nat.le_of_ble_eq_true rfl) (fun X hX => ?_)
  subst hX
  show mm_T X G (cX8_readNumber, 4, RX8, (some .int), 3) (mm_fi sh) sh M 0 [(0, .ref (mm_ad G 0)), (1, .int c1), (2, .int c2)] [] (fn_X8_readNumber c1 c2 M)
  unfold fn_X8_readNumber
  obtain ⟨N, hN⟩ := h0.1
  refine mm_aload_n 1 rfl dX8_readNumber_0 rfl 0 rfl ?_
  refine gt_X8_66 4 rfl dX8_readNumber_1 hN ?_
  refine mm_if_ne 7 25 rfl dX8_readNumber_4 (by decide) (fun h_1 => ?_) (fun h_1 => ?_)
  · exact mm_lv [0, 1, 2] rfl (th_X8_readNumber_B25 h0  _ _ _)
  · refine mm_aload_n 8 rfl dX8_readNumber_7 rfl 0 rfl ?_
    refine mm_aload_n 9 rfl dX8_readNumber_8 rfl 0 rfl ?_
    refine gt_X8_94 12 rfl dX8_readNumber_9 hN ?_
    refine mm_iconst 13 rfl (v := 2) dX8_readNumber_12 (by decide) ?_
    refine mm_icmp_ne 16 20 rfl dX8_readNumber_13 (by decide) (fun h_10 => ?_) (fun h_10 => ?_)
    · refine mm_iconst 21 rfl (v := 0) dX8_readNumber_20 (by decide) ?_
      refine mm_iconst 22 rfl (v := 2) dX8_readNumber_21 (by decide) ?_
      refine ca_X8_108 25 rfl dX8_readNumber_22 hN (ct_X8_requires 0 2 h0) (by decide) (Nat.le_of_ble_eq_true rfl) (fun z_11 => ?_)
      exact mm_lv [0, 1, 2] rfl (th_X8_readNumber_B25 h0  _ _ _)
    · refine mm_iconst 17 rfl (v := 1) dX8_readNumber_16 (by decide) ?_
      refine mm_goto 21 dX8_readNumber_17 (by decide) ?_
      refine mm_iconst 22 rfl (v := 2) dX8_readNumber_21 (by decide) ?_
      refine ca_X8_108 25 rfl dX8_readNumber_22 hN (ct_X8_requires 1 2 h0) (by decide) (Nat.le_of_ble_eq_true rfl) (fun z_12 => ?_)
      exact mm_lv [0, 1, 2] rfl (th_X8_readNumber_B25 h0  _ _ _)

-- MangleLineModel.lowOf(I)I
noncomputable def fn_X8_lowOf (c0 : Int32) (M : mm_M) : Option (Int32 × mm_M) :=
  (if c0 = 1 then some (1, M) else (if c0 = 4 then some (1, M) else some (0, M)))
set_option maxRecDepth 20000 in
set_option maxHeartbeats 4000000 in
theorem ct_X8_lowOf {l : Launch} {G : mm_G} {sh : mm_S} {M : mm_M} (c0 : Int32) : mm_K l G yX8_lowOf (cX8_lowOf, 1, RX8, (some .int), 1) [.int c0] (mm_fi sh) sh M (fn_X8_lowOf c0 M) := by
  refine mm_met (by decide +kernel) rfl (Nat.le_of_ble_eq_true rfl) (fun X hX => ?_)
  subst hX
  show mm_T X G (cX8_lowOf, 1, RX8, (some .int), 1) (mm_fi sh) sh M 0 [(0, .int c0)] [] (fn_X8_lowOf c0 M)
  unfold fn_X8_lowOf
  refine mm_iload_n 1 rfl dX8_lowOf_0 rfl 0 rfl ?_
  refine mm_iconst 2 rfl (v := 1) dX8_lowOf_1 (by decide) ?_
  refine mm_icmp_eq 5 10 rfl dX8_lowOf_2 (by decide) (fun h_1 => ?_) (fun h_1 => ?_)
  · refine mm_iconst 11 rfl (v := 1) dX8_lowOf_10 (by decide) ?_
    refine mm_goto 15 dX8_lowOf_11 (by decide) ?_
    exact mm_iret dX8_lowOf_15 rfl rfl
  · refine mm_iload_n 6 rfl dX8_lowOf_5 rfl 0 rfl ?_
    refine mm_iconst 7 rfl (v := 4) dX8_lowOf_6 (by decide) ?_
    refine mm_icmp_ne 10 14 rfl dX8_lowOf_7 (by decide) (fun h_2 => ?_) (fun h_2 => ?_)
    · refine mm_iconst 15 rfl (v := 0) dX8_lowOf_14 (by decide) ?_
      exact mm_iret dX8_lowOf_15 rfl rfl
    · refine mm_iconst 11 rfl (v := 1) dX8_lowOf_10 (by decide) ?_
      refine mm_goto 15 dX8_lowOf_11 (by decide) ?_
      exact mm_iret dX8_lowOf_15 rfl rfl

-- MangleLineModel.mostOf(I)I
noncomputable def fn_X8_mostOf (c0 : Int32) (M : mm_M) : Option (Int32 × mm_M) :=
  (if c0 = 0 then some (9, M) else (if c0 = 1 then some (6, M) else (if c0 = 2 then some (6, M) else (if c0 = 3 then some (30, M) else (if c0 = 4 then some (20, M) else some (6, M))))))
set_option maxRecDepth 20000 in
set_option maxHeartbeats 4000000 in
theorem ct_X8_mostOf {l : Launch} {G : mm_G} {sh : mm_S} {M : mm_M} (c0 : Int32) : mm_K l G yX8_mostOf (cX8_mostOf, 1, RX8, (some .int), 1) [.int c0] (mm_fi sh) sh M (fn_X8_mostOf c0 M) := by
  refine mm_met (by decide +kernel) rfl (Nat.le_of_ble_eq_true rfl) (fun X hX => ?_)
  subst hX
  show mm_T X G (cX8_mostOf, 1, RX8, (some .int), 1) (mm_fi sh) sh M 0 [(0, .int c0)] [] (fn_X8_mostOf c0 M)
  unfold fn_X8_mostOf
  refine mm_iload_n 1 rfl dX8_mostOf_0 rfl 0 rfl ?_
  refine mm_ite (fun h_1 => ?_) (fun h_1 => ?_)
  · refine mm_tabIn 36 0 h_1 dX8_mostOf_1 (by decide) (by decide) rfl (by decide) ?_
    refine mm_bipush 38 rfl (v := 9) dX8_mostOf_36 (by decide) ?_
    exact mm_iret dX8_mostOf_38 rfl rfl
  · refine mm_ite (fun h_2 => ?_) (fun h_2 => ?_)
    · refine mm_tabIn 45 1 h_2 dX8_mostOf_1 (by decide) (by decide) rfl (by decide) ?_
      refine mm_bipush 47 rfl (v := 6) dX8_mostOf_45 (by decide) ?_
      exact mm_iret dX8_mostOf_47 rfl rfl
    · refine mm_ite (fun h_3 => ?_) (fun h_3 => ?_)
      · refine mm_tabIn 45 2 h_3 dX8_mostOf_1 (by decide) (by decide) rfl (by decide) ?_
        refine mm_bipush 47 rfl (v := 6) dX8_mostOf_45 (by decide) ?_
        exact mm_iret dX8_mostOf_47 rfl rfl
      · refine mm_ite (fun h_4 => ?_) (fun h_4 => ?_)
        · refine mm_tabIn 39 3 h_4 dX8_mostOf_1 (by decide) (by decide) rfl (by decide) ?_
          refine mm_bipush 41 rfl (v := 30) dX8_mostOf_39 (by decide) ?_
          exact mm_iret dX8_mostOf_41 rfl rfl
        · refine mm_ite (fun h_5 => ?_) (fun h_5 => ?_)
          · refine mm_tabIn 42 4 h_5 dX8_mostOf_1 (by decide) (by decide) rfl (by decide) ?_
            refine mm_bipush 44 rfl (v := 20) dX8_mostOf_42 (by decide) ?_
            exact mm_iret dX8_mostOf_44 rfl rfl
          · refine mm_tabOut 45 dX8_mostOf_1 (mm_out 0 5 (by decide) (fun j hj => by match j, hj with | 0, _ => exact h_1 | 1, _ => exact h_2 | 2, _ => exact h_3 | 3, _ => exact h_4 | 4, _ => exact h_5) rfl rfl) (by decide) ?_
            refine mm_bipush 47 rfl (v := 6) dX8_mostOf_45 (by decide) ?_
            exact mm_iret dX8_mostOf_47 rfl rfl

-- MangleLineModel.readSuns()V
noncomputable def fn_X8_readSuns_B30  (h : mm_M → Option mm_M) (k : mm_M → Option mm_M) (s0 : Int32) (M : mm_M) : Option mm_M :=
  ((fn_X8_requires s0 5 M).bind fun z_4 => (if (z_4 0 12) = 0 then ((fn_X8_readNumber 0 9 z_4).bind fun z_6 => (if mm_in (30 + (z_4 0 5)) 57 then (mm_let (mm_up z_6.2 4 (30 + (z_4 0 5)).toNatClampNeg z_6.1) fun M_7 => mm_let (mm_up M_7 0 5 ((M_7 0 5) + 1)) fun M_9 => h  M_9) else none)) else h  z_4))
set_option maxRecDepth 20000 in
set_option maxHeartbeats 4000000 in
theorem th_X8_readSuns_B30 {X : mm_X} {G : mm_G} {sh : mm_S} {h : mm_M → Option mm_M} {k : mm_M → Option mm_M} (h0 : mm_isMod G sh) (hh : ∀ (M : mm_M), mm_T X G (cX8_readSuns, 1, RX8, none, 4) (mm_fv sh) sh M 0 [(0, .ref (mm_ad G 0))] [] (h  M)) (hk : ∀ (M : mm_M), mm_T X G (cX8_readSuns, 1, RX8, none, 4) (mm_fv sh) sh M 73 [] [] (k  M)) (s0 : Int32) (M : mm_M) : mm_T X G (cX8_readSuns, 1, RX8, none, 4) (mm_fv sh) sh M 30 [(0, .ref (mm_ad G 0))] [.int s0, .ref (mm_ad G 0)] (fn_X8_readSuns_B30 h k s0 M) := by
  unfold fn_X8_readSuns_B30
  obtain ⟨N, hN⟩ := h0.1
  refine mm_iconst 31 rfl (v := 5) dX8_readSuns_30 (by decide) ?_
  refine ca_X8_108 34 rfl dX8_readSuns_31 hN (ct_X8_requires s0 5 h0) (by decide) (Nat.le_of_ble_eq_true rfl) (fun z_4 => ?_)
  refine mm_aload_n 35 rfl dX8_readSuns_34 rfl 0 rfl ?_
  refine gt_X8_66 38 rfl dX8_readSuns_35 hN ?_
  refine mm_if_ne 41 0 rfl dX8_readSuns_38 (by decide) (fun h_5 => ?_) (fun h_5 => ?_)
  · exact mm_lv [0] rfl (hh _)
  · refine mm_aload_n 42 rfl dX8_readSuns_41 rfl 0 rfl ?_
    refine gt_X8_20 45 rfl dX8_readSuns_42 hN ?_
    refine mm_bipush 47 rfl (v := 30) dX8_readSuns_45 (by decide) ?_
    refine mm_aload_n 48 rfl dX8_readSuns_47 rfl 0 rfl ?_
    refine gt_X8_54 51 rfl dX8_readSuns_48 hN ?_
    refine mm_iadd 52 rfl dX8_readSuns_51 ?_
    refine mm_aload_n 53 rfl dX8_readSuns_52 rfl 0 rfl ?_
    refine mm_iconst 54 rfl (v := 0) dX8_readSuns_53 (by decide) ?_
    refine mm_bipush 56 rfl (v := 9) dX8_readSuns_54 (by decide) ?_
    refine ca_X8_115 59 rfl dX8_readSuns_56 hN (ct_X8_readNumber 0 9 h0) (by decide) (Nat.le_of_ble_eq_true rfl) (fun z_6 => ?_)
    refine mm_iast 60 rfl dX8_readSuns_59 h0.2.2.2.2.1 (fun h_8 => ?_)
    refine mm_bM (fun M_7 => ?_)
    refine mm_aload_n 61 rfl dX8_readSuns_60 rfl 0 rfl ?_
    refine mm_dup 62 rfl dX8_readSuns_61 rfl ?_
    refine gt_X8_54 65 rfl dX8_readSuns_62 hN ?_
    refine mm_iconst 66 rfl (v := 1) dX8_readSuns_65 (by decide) ?_
    refine mm_iadd 67 rfl dX8_readSuns_66 ?_
    refine pt_X8_54 70 rfl dX8_readSuns_67 hN ?_
    refine mm_bM (fun M_9 => ?_)
    refine mm_goto 0 dX8_readSuns_70 (by decide) ?_
    exact mm_lv [0] rfl (hh _)
noncomputable def fn_X8_readSuns_L0  (k : mm_M → Option mm_M) : Nat → mm_M → Option mm_M
  | 0, _ => none
  | n + 1, M => (if (M 0 12) = 0 then (if (M 0 10) = 2 then (if 7 ≤ (M 0 5) then fn_X8_readSuns_B30  (fun  M => fn_X8_readSuns_L0 k n  M) k 0 M else fn_X8_readSuns_B30  (fun  M => fn_X8_readSuns_L0 k n  M) k 1 M) else k  M) else k  M)
set_option maxRecDepth 20000 in
set_option maxHeartbeats 4000000 in
theorem th_X8_readSuns_L0 {X : mm_X} {G : mm_G} {sh : mm_S} {k : mm_M → Option mm_M} (h0 : mm_isMod G sh) (hk : ∀ (M : mm_M), mm_T X G (cX8_readSuns, 1, RX8, none, 4) (mm_fv sh) sh M 73 [] [] (k  M)) : ∀ (n : Nat)  (M : mm_M), mm_T X G (cX8_readSuns, 1, RX8, none, 4) (mm_fv sh) sh M 0 [(0, .ref (mm_ad G 0))] [] (fn_X8_readSuns_L0 k n M) := by
  intro n
  induction n with
  | zero => intro M; exact mm_none
  | succ n ih =>
    intro M
    rw [fn_X8_readSuns_L0]
    obtain ⟨N, hN⟩ := h0.1
    refine mm_aload_n 1 rfl dX8_readSuns_0 rfl 0 rfl ?_
    refine gt_X8_66 4 rfl dX8_readSuns_1 hN ?_
    refine mm_if_ne 7 73 rfl dX8_readSuns_4 (by decide) (fun h_1 => ?_) (fun h_1 => ?_)
    · exact mm_lv [] rfl (hk _)
    · refine mm_aload_n 8 rfl dX8_readSuns_7 rfl 0 rfl ?_
      refine gt_X8_94 11 rfl dX8_readSuns_8 hN ?_
      refine mm_iconst 12 rfl (v := 2) dX8_readSuns_11 (by decide) ?_
      refine mm_icmp_ne 15 73 rfl dX8_readSuns_12 (by decide) (fun h_2 => ?_) (fun h_2 => ?_)
      · exact mm_lv [] rfl (hk _)
      · refine mm_aload_n 16 rfl dX8_readSuns_15 rfl 0 rfl ?_
        refine mm_aload_n 17 rfl dX8_readSuns_16 rfl 0 rfl ?_
        refine gt_X8_54 20 rfl dX8_readSuns_17 hN ?_
        refine mm_bipush 22 rfl (v := 7) dX8_readSuns_20 (by decide) ?_
        refine mm_icmp_ge 25 29 rfl dX8_readSuns_22 (by decide) (fun h_3 => ?_) (fun h_3 => ?_)
        · refine mm_iconst 30 rfl (v := 0) dX8_readSuns_29 (by decide) ?_
          exact mm_lv [0] rfl (th_X8_readSuns_B30 h0 ih hk _ _)
        · refine mm_iconst 26 rfl (v := 1) dX8_readSuns_25 (by decide) ?_
          refine mm_goto 30 dX8_readSuns_26 (by decide) ?_
          exact mm_lv [0] rfl (th_X8_readSuns_B30 h0 ih hk _ _)
noncomputable def fn_X8_readSuns  (M : mm_M) : Option mm_M :=
  fn_X8_readSuns_L0  (fun M_10 => some M_10) mm_fu  M
set_option maxRecDepth 20000 in
set_option maxHeartbeats 4000000 in
theorem ct_X8_readSuns {l : Launch} {G : mm_G} {sh : mm_S} {M : mm_M} (h0 : mm_isMod G sh) : mm_K l G yX8_readSuns (cX8_readSuns, 1, RX8, none, 4) [.ref (mm_ad G 0)] (mm_fv sh) sh M (fn_X8_readSuns  M) := by
  refine mm_met (by decide +kernel) rfl (Nat.le_of_ble_eq_true rfl) (fun X hX => ?_)
  subst hX
  show mm_T X G (cX8_readSuns, 1, RX8, none, 4) (mm_fv sh) sh M 0 [(0, .ref (mm_ad G 0))] [] (fn_X8_readSuns  M)
  unfold fn_X8_readSuns
  obtain ⟨N, hN⟩ := h0.1
  refine mm_lv [0] rfl (th_X8_readSuns_L0 h0 (fun M_10 => ?_) mm_fu _)
  exact mm_vret dX8_readSuns_73 rfl rfl

-- MangleLineModel.readLineOf(I)V
noncomputable def fn_X8_readLineOf (c1 : Int32) (M : mm_M) : Option mm_M :=
  (if 4 ≤ c1 then (if c1 = 9 then ((fn_X8_readSuns  M).bind fun z_8 => some z_8) else ((fn_X8_lowOf (c1 - 4) M).bind fun z_3 => ((fn_X8_mostOf (c1 - 4) z_3.2).bind fun z_4 => ((fn_X8_readNumber z_3.1 z_4.1 z_4.2).bind fun z_5 => (if mm_in ((25 + c1) - 4) 57 then (mm_let (mm_up z_5.2 4 ((25 + c1) - 4).toNatClampNeg z_5.1) fun M_6 => some M_6) else none))))) else (if mm_in ((4 * (M 4 24)) + 0) 57 then (mm_let (mm_up M 4 ((4 * (M 4 24)) + 0).toNatClampNeg c1) fun M_9 => ((fn_X8_readNumber 0 60 M_9).bind fun z_11 => (if mm_in ((4 * (M_9 4 24)) + 1) 57 then (mm_let (mm_up z_11.2 4 ((4 * (M_9 4 24)) + 1).toNatClampNeg z_11.1) fun M_12 => mm_let (mm_up M_12 4 24 ((M_12 4 24) + 1)) fun M_14 => some M_14) else none))) else none))
set_option maxRecDepth 20000 in
set_option maxHeartbeats 4000000 in
theorem ct_X8_readLineOf {l : Launch} {G : mm_G} {sh : mm_S} {M : mm_M} (c1 : Int32) (h0 : mm_isMod G sh) : mm_K l G yX8_readLineOf (cX8_readLineOf, 2, RX8, none, 5) [.ref (mm_ad G 0), .int c1] (mm_fv sh) sh M (fn_X8_readLineOf c1 M) := by
  refine mm_met (by decide +kernel) rfl (Nat.le_of_ble_eq_true rfl) (fun X hX => ?_)
  subst hX
  show mm_T X G (cX8_readLineOf, 2, RX8, none, 5) (mm_fv sh) sh M 0 [(0, .ref (mm_ad G 0)), (1, .int c1)] [] (fn_X8_readLineOf c1 M)
  unfold fn_X8_readLineOf
  obtain ⟨N, hN⟩ := h0.1
  refine mm_iload_n 1 rfl dX8_readLineOf_0 rfl 1 rfl ?_
  refine mm_iconst 2 rfl (v := 4) dX8_readLineOf_1 (by decide) ?_
  refine mm_icmp_ge 5 59 rfl dX8_readLineOf_2 (by decide) (fun h_1 => ?_) (fun h_1 => ?_)
  · refine mm_iload_n 60 rfl dX8_readLineOf_59 rfl 1 rfl ?_
    refine mm_bipush 62 rfl (v := 9) dX8_readLineOf_60 (by decide) ?_
    refine mm_icmp_ne 65 72 rfl dX8_readLineOf_62 (by decide) (fun h_2 => ?_) (fun h_2 => ?_)
    · refine mm_aload_n 73 rfl dX8_readLineOf_72 rfl 0 rfl ?_
      refine gt_X8_20 76 rfl dX8_readLineOf_73 hN ?_
      refine mm_bipush 78 rfl (v := 25) dX8_readLineOf_76 (by decide) ?_
      refine mm_iload_n 79 rfl dX8_readLineOf_78 rfl 1 rfl ?_
      refine mm_iadd 80 rfl dX8_readLineOf_79 ?_
      refine mm_iconst 81 rfl (v := 4) dX8_readLineOf_80 (by decide) ?_
      refine mm_isub 82 rfl dX8_readLineOf_81 ?_
      refine mm_aload_n 83 rfl dX8_readLineOf_82 rfl 0 rfl ?_
      refine mm_iload_n 84 rfl dX8_readLineOf_83 rfl 1 rfl ?_
      refine mm_iconst 85 rfl (v := 4) dX8_readLineOf_84 (by decide) ?_
      refine mm_isub 86 rfl dX8_readLineOf_85 ?_
      refine ca_X8_122 89 rfl dX8_readLineOf_86 (ct_X8_lowOf (c1 - 4) ) (by decide) (Nat.le_of_ble_eq_true rfl) (fun z_3 => ?_)
      refine mm_iload_n 90 rfl dX8_readLineOf_89 rfl 1 rfl ?_
      refine mm_iconst 91 rfl (v := 4) dX8_readLineOf_90 (by decide) ?_
      refine mm_isub 92 rfl dX8_readLineOf_91 ?_
      refine ca_X8_125 95 rfl dX8_readLineOf_92 (ct_X8_mostOf (c1 - 4) ) (by decide) (Nat.le_of_ble_eq_true rfl) (fun z_4 => ?_)
      refine ca_X8_115 98 rfl dX8_readLineOf_95 hN (ct_X8_readNumber z_3.1 z_4.1 h0) (by decide) (Nat.le_of_ble_eq_true rfl) (fun z_5 => ?_)
      refine mm_iast 99 rfl dX8_readLineOf_98 h0.2.2.2.2.1 (fun h_7 => ?_)
      refine mm_bM (fun M_6 => ?_)
      exact mm_vret dX8_readLineOf_99 rfl rfl
    · refine mm_aload_n 66 rfl dX8_readLineOf_65 rfl 0 rfl ?_
      refine ca_X8_119 69 rfl dX8_readLineOf_66 hN (ct_X8_readSuns  h0) (by decide) (Nat.le_of_ble_eq_true rfl) (fun z_8 => ?_)
      refine mm_goto 99 dX8_readLineOf_69 (by decide) ?_
      exact mm_vret dX8_readLineOf_99 rfl rfl
  · refine mm_aload_n 6 rfl dX8_readLineOf_5 rfl 0 rfl ?_
    refine gt_X8_20 9 rfl dX8_readLineOf_6 hN ?_
    refine mm_iconst 10 rfl (v := 4) dX8_readLineOf_9 (by decide) ?_
    refine mm_aload_n 11 rfl dX8_readLineOf_10 rfl 0 rfl ?_
    refine gt_X8_20 14 rfl dX8_readLineOf_11 hN ?_
    refine mm_bipush 16 rfl (v := 24) dX8_readLineOf_14 (by decide) ?_
    refine mm_ialdK 17 rfl dX8_readLineOf_16 h0.2.2.2.2.1 (by decide) 24 (by decide) ?_
    refine mm_imul 18 rfl dX8_readLineOf_17 ?_
    refine mm_iconst 19 rfl (v := 0) dX8_readLineOf_18 (by decide) ?_
    refine mm_iadd 20 rfl dX8_readLineOf_19 ?_
    refine mm_iload_n 21 rfl dX8_readLineOf_20 rfl 1 rfl ?_
    refine mm_iast 22 rfl dX8_readLineOf_21 h0.2.2.2.2.1 (fun h_10 => ?_)
    refine mm_bM (fun M_9 => ?_)
    refine mm_aload_n 23 rfl dX8_readLineOf_22 rfl 0 rfl ?_
    refine gt_X8_20 26 rfl dX8_readLineOf_23 hN ?_
    refine mm_iconst 27 rfl (v := 4) dX8_readLineOf_26 (by decide) ?_
    refine mm_aload_n 28 rfl dX8_readLineOf_27 rfl 0 rfl ?_
    refine gt_X8_20 31 rfl dX8_readLineOf_28 hN ?_
    refine mm_bipush 33 rfl (v := 24) dX8_readLineOf_31 (by decide) ?_
    refine mm_ialdK 34 rfl dX8_readLineOf_33 h0.2.2.2.2.1 (by decide) 24 (by decide) ?_
    refine mm_imul 35 rfl dX8_readLineOf_34 ?_
    refine mm_iconst 36 rfl (v := 1) dX8_readLineOf_35 (by decide) ?_
    refine mm_iadd 37 rfl dX8_readLineOf_36 ?_
    refine mm_aload_n 38 rfl dX8_readLineOf_37 rfl 0 rfl ?_
    refine mm_iconst 39 rfl (v := 0) dX8_readLineOf_38 (by decide) ?_
    refine mm_bipush 41 rfl (v := 60) dX8_readLineOf_39 (by decide) ?_
    refine ca_X8_115 44 rfl dX8_readLineOf_41 hN (ct_X8_readNumber 0 60 h0) (by decide) (Nat.le_of_ble_eq_true rfl) (fun z_11 => ?_)
    refine mm_iast 45 rfl dX8_readLineOf_44 h0.2.2.2.2.1 (fun h_13 => ?_)
    refine mm_bM (fun M_12 => ?_)
    refine mm_aload_n 46 rfl dX8_readLineOf_45 rfl 0 rfl ?_
    refine gt_X8_20 49 rfl dX8_readLineOf_46 hN ?_
    refine mm_bipush 51 rfl (v := 24) dX8_readLineOf_49 (by decide) ?_
    refine mm_dup2 52 rfl dX8_readLineOf_51 rfl rfl ?_
    refine mm_ialdK 53 rfl dX8_readLineOf_52 h0.2.2.2.2.1 (by decide) 24 (by decide) ?_
    refine mm_iconst 54 rfl (v := 1) dX8_readLineOf_53 (by decide) ?_
    refine mm_iadd 55 rfl dX8_readLineOf_54 ?_
    refine mm_iastK 56 rfl dX8_readLineOf_55 h0.2.2.2.2.1 (by decide) 24 (by decide) ?_
    refine mm_bM (fun M_14 => ?_)
    refine mm_goto 99 dX8_readLineOf_56 (by decide) ?_
    exact mm_vret dX8_readLineOf_99 rfl rfl

-- MangleLineModel.readLine()V
noncomputable def fn_X8_readLine_B83    (x1 : Int32) (s0 : Int32) (M : mm_M) : Option mm_M :=
  ((fn_X8_requires s0 4 M).bind fun z_6 => ((fn_X8_reads  z_6).bind fun z_7 => (if (z_7 0 12) ≤ 0 then mm_let (mm_up z_7 0 4 ((z_7 0 4) ||| (1 <<< (x1 &&& 31)))) fun M_9 => ((fn_X8_readLineOf x1 M_9).bind fun z_10 => (if (z_10 0 12) = 0 then (if (z_10 0 10) = 3 then ((fn_X8_requires 1 2 z_10).bind fun z_16 => ((fn_X8_reads  z_16).bind fun z_17 => some z_17)) else ((fn_X8_requires 0 2 z_10).bind fun z_14 => ((fn_X8_reads  z_14).bind fun z_15 => some z_15))) else ((fn_X8_reads  z_10).bind fun z_12 => some z_12))) else some z_7)))
set_option maxRecDepth 20000 in
set_option maxHeartbeats 4000000 in
theorem th_X8_readLine_B83 {X : mm_X} {G : mm_G} {sh : mm_S} (h0 : mm_isMod G sh) (x1 : Int32) (s0 : Int32) (M : mm_M) : mm_T X G (cX8_readLine, 2, RX8, none, 6) (mm_fv sh) sh M 83 [(0, .ref (mm_ad G 0)), (1, .int x1)] [.int s0, .ref (mm_ad G 0)] (fn_X8_readLine_B83  x1 s0 M) := by
  unfold fn_X8_readLine_B83
  obtain ⟨N, hN⟩ := h0.1
  refine mm_iconst 84 rfl (v := 4) dX8_readLine_83 (by decide) ?_
  refine ca_X8_108 87 rfl dX8_readLine_84 hN (ct_X8_requires s0 4 h0) (by decide) (Nat.le_of_ble_eq_true rfl) (fun z_6 => ?_)
  refine mm_aload_n 88 rfl dX8_readLine_87 rfl 0 rfl ?_
  refine ca_X8_112 91 rfl dX8_readLine_88 hN (ct_X8_reads  h0) (by decide) (Nat.le_of_ble_eq_true rfl) (fun z_7 => ?_)
  refine mm_aload_n 92 rfl dX8_readLine_91 rfl 0 rfl ?_
  refine gt_X8_66 95 rfl dX8_readLine_92 hN ?_
  refine mm_if_le 98 99 rfl dX8_readLine_95 (by decide) (fun h_8 => ?_) (fun h_8 => ?_)
  · refine mm_aload_n 100 rfl dX8_readLine_99 rfl 0 rfl ?_
    refine mm_dup 101 rfl dX8_readLine_100 rfl ?_
    refine gt_X8_50 104 rfl dX8_readLine_101 hN ?_
    refine mm_iconst 105 rfl (v := 1) dX8_readLine_104 (by decide) ?_
    refine mm_iload_n 106 rfl dX8_readLine_105 rfl 1 rfl ?_
    refine mm_ishl 107 rfl dX8_readLine_106 ?_
    refine mm_ior 108 rfl dX8_readLine_107 ?_
    refine pt_X8_50 111 rfl dX8_readLine_108 hN ?_
    refine mm_bM (fun M_9 => ?_)
    refine mm_aload_n 112 rfl dX8_readLine_111 rfl 0 rfl ?_
    refine mm_iload_n 113 rfl dX8_readLine_112 rfl 1 rfl ?_
    refine ca_X8_131 116 rfl dX8_readLine_113 hN (ct_X8_readLineOf x1 h0) (by decide) (Nat.le_of_ble_eq_true rfl) (fun z_10 => ?_)
    refine mm_aload_n 117 rfl dX8_readLine_116 rfl 0 rfl ?_
    refine gt_X8_66 120 rfl dX8_readLine_117 hN ?_
    refine mm_if_ne 123 141 rfl dX8_readLine_120 (by decide) (fun h_11 => ?_) (fun h_11 => ?_)
    · refine mm_aload_n 142 rfl dX8_readLine_141 rfl 0 rfl ?_
      refine ca_X8_112 145 rfl dX8_readLine_142 hN (ct_X8_reads  h0) (by decide) (Nat.le_of_ble_eq_true rfl) (fun z_12 => ?_)
      exact mm_vret dX8_readLine_145 rfl rfl
    · refine mm_aload_n 124 rfl dX8_readLine_123 rfl 0 rfl ?_
      refine mm_aload_n 125 rfl dX8_readLine_124 rfl 0 rfl ?_
      refine gt_X8_94 128 rfl dX8_readLine_125 hN ?_
      refine mm_iconst 129 rfl (v := 3) dX8_readLine_128 (by decide) ?_
      refine mm_icmp_ne 132 136 rfl dX8_readLine_129 (by decide) (fun h_13 => ?_) (fun h_13 => ?_)
      · refine mm_iconst 137 rfl (v := 0) dX8_readLine_136 (by decide) ?_
        refine mm_iconst 138 rfl (v := 2) dX8_readLine_137 (by decide) ?_
        refine ca_X8_108 141 rfl dX8_readLine_138 hN (ct_X8_requires 0 2 h0) (by decide) (Nat.le_of_ble_eq_true rfl) (fun z_14 => ?_)
        refine mm_aload_n 142 rfl dX8_readLine_141 rfl 0 rfl ?_
        refine ca_X8_112 145 rfl dX8_readLine_142 hN (ct_X8_reads  h0) (by decide) (Nat.le_of_ble_eq_true rfl) (fun z_15 => ?_)
        exact mm_vret dX8_readLine_145 rfl rfl
      · refine mm_iconst 133 rfl (v := 1) dX8_readLine_132 (by decide) ?_
        refine mm_goto 137 dX8_readLine_133 (by decide) ?_
        refine mm_iconst 138 rfl (v := 2) dX8_readLine_137 (by decide) ?_
        refine ca_X8_108 141 rfl dX8_readLine_138 hN (ct_X8_requires 1 2 h0) (by decide) (Nat.le_of_ble_eq_true rfl) (fun z_16 => ?_)
        refine mm_aload_n 142 rfl dX8_readLine_141 rfl 0 rfl ?_
        refine ca_X8_112 145 rfl dX8_readLine_142 hN (ct_X8_reads  h0) (by decide) (Nat.le_of_ble_eq_true rfl) (fun z_17 => ?_)
        exact mm_vret dX8_readLine_145 rfl rfl
  · exact mm_vret dX8_readLine_98 rfl rfl
noncomputable def fn_X8_readLine_B30    (x1 : Int32) (s0 : Int32) (M : mm_M) : Option mm_M :=
  ((fn_X8_requires s0 2 M).bind fun z_2 => (if 4 ≤ x1 then ((fn_X8_requires 1 5 z_2).bind fun z_4 => (if x1 < 4 then fn_X8_readLine_B83   x1 1 z_4 else (if (((z_4 0 4) >>> (x1 &&& 31)) &&& 1) = 0 then fn_X8_readLine_B83   x1 1 z_4 else fn_X8_readLine_B83   x1 0 z_4))) else (if 6 ≤ (z_2 4 24) then ((fn_X8_requires 0 5 z_2).bind fun z_20 => (if x1 < 4 then fn_X8_readLine_B83   x1 1 z_20 else (if (((z_20 0 4) >>> (x1 &&& 31)) &&& 1) = 0 then fn_X8_readLine_B83   x1 1 z_20 else fn_X8_readLine_B83   x1 0 z_20))) else ((fn_X8_requires 1 5 z_2).bind fun z_23 => (if x1 < 4 then fn_X8_readLine_B83   x1 1 z_23 else (if (((z_23 0 4) >>> (x1 &&& 31)) &&& 1) = 0 then fn_X8_readLine_B83   x1 1 z_23 else fn_X8_readLine_B83   x1 0 z_23))))))
set_option maxRecDepth 20000 in
set_option maxHeartbeats 4000000 in
theorem th_X8_readLine_B30 {X : mm_X} {G : mm_G} {sh : mm_S} (h0 : mm_isMod G sh) (x1 : Int32) (s0 : Int32) (M : mm_M) : mm_T X G (cX8_readLine, 2, RX8, none, 6) (mm_fv sh) sh M 30 [(0, .ref (mm_ad G 0)), (1, .int x1)] [.int s0, .ref (mm_ad G 0)] (fn_X8_readLine_B30  x1 s0 M) := by
  unfold fn_X8_readLine_B30
  obtain ⟨N, hN⟩ := h0.1
  refine mm_iconst 31 rfl (v := 2) dX8_readLine_30 (by decide) ?_
  refine ca_X8_108 34 rfl dX8_readLine_31 hN (ct_X8_requires s0 2 h0) (by decide) (Nat.le_of_ble_eq_true rfl) (fun z_2 => ?_)
  refine mm_aload_n 35 rfl dX8_readLine_34 rfl 0 rfl ?_
  refine mm_iload_n 36 rfl dX8_readLine_35 rfl 1 rfl ?_
  refine mm_iconst 37 rfl (v := 4) dX8_readLine_36 (by decide) ?_
  refine mm_icmp_ge 40 52 rfl dX8_readLine_37 (by decide) (fun h_3 => ?_) (fun h_3 => ?_)
  · refine mm_iconst 53 rfl (v := 1) dX8_readLine_52 (by decide) ?_
    refine mm_goto 57 dX8_readLine_53 (by decide) ?_
    refine mm_iconst 58 rfl (v := 5) dX8_readLine_57 (by decide) ?_
    refine ca_X8_108 61 rfl dX8_readLine_58 hN (ct_X8_requires 1 5 h0) (by decide) (Nat.le_of_ble_eq_true rfl) (fun z_4 => ?_)
    refine mm_aload_n 62 rfl dX8_readLine_61 rfl 0 rfl ?_
    refine mm_iload_n 63 rfl dX8_readLine_62 rfl 1 rfl ?_
    refine mm_iconst 64 rfl (v := 4) dX8_readLine_63 (by decide) ?_
    refine mm_icmp_lt 67 78 rfl dX8_readLine_64 (by decide) (fun h_5 => ?_) (fun h_5 => ?_)
    · refine mm_iconst 79 rfl (v := 1) dX8_readLine_78 (by decide) ?_
      refine mm_goto 83 dX8_readLine_79 (by decide) ?_
      exact mm_lv [0, 1] rfl (th_X8_readLine_B83 h0  _ _ _)
    · refine mm_aload_n 68 rfl dX8_readLine_67 rfl 0 rfl ?_
      refine gt_X8_50 71 rfl dX8_readLine_68 hN ?_
      refine mm_iload_n 72 rfl dX8_readLine_71 rfl 1 rfl ?_
      refine mm_ishr 73 rfl dX8_readLine_72 ?_
      refine mm_iconst 74 rfl (v := 1) dX8_readLine_73 (by decide) ?_
      refine mm_iand 75 rfl dX8_readLine_74 ?_
      refine mm_if_ne 78 82 rfl dX8_readLine_75 (by decide) (fun h_18 => ?_) (fun h_18 => ?_)
      · refine mm_iconst 83 rfl (v := 0) dX8_readLine_82 (by decide) ?_
        exact mm_lv [0, 1] rfl (th_X8_readLine_B83 h0  _ _ _)
      · refine mm_iconst 79 rfl (v := 1) dX8_readLine_78 (by decide) ?_
        refine mm_goto 83 dX8_readLine_79 (by decide) ?_
        exact mm_lv [0, 1] rfl (th_X8_readLine_B83 h0  _ _ _)
  · refine mm_aload_n 41 rfl dX8_readLine_40 rfl 0 rfl ?_
    refine gt_X8_20 44 rfl dX8_readLine_41 hN ?_
    refine mm_bipush 46 rfl (v := 24) dX8_readLine_44 (by decide) ?_
    refine mm_ialdK 47 rfl dX8_readLine_46 h0.2.2.2.2.1 (by decide) 24 (by decide) ?_
    refine mm_bipush 49 rfl (v := 6) dX8_readLine_47 (by decide) ?_
    refine mm_icmp_ge 52 56 rfl dX8_readLine_49 (by decide) (fun h_19 => ?_) (fun h_19 => ?_)
    · refine mm_iconst 57 rfl (v := 0) dX8_readLine_56 (by decide) ?_
      refine mm_iconst 58 rfl (v := 5) dX8_readLine_57 (by decide) ?_
      refine ca_X8_108 61 rfl dX8_readLine_58 hN (ct_X8_requires 0 5 h0) (by decide) (Nat.le_of_ble_eq_true rfl) (fun z_20 => ?_)
      refine mm_aload_n 62 rfl dX8_readLine_61 rfl 0 rfl ?_
      refine mm_iload_n 63 rfl dX8_readLine_62 rfl 1 rfl ?_
      refine mm_iconst 64 rfl (v := 4) dX8_readLine_63 (by decide) ?_
      refine mm_icmp_lt 67 78 rfl dX8_readLine_64 (by decide) (fun h_21 => ?_) (fun h_21 => ?_)
      · refine mm_iconst 79 rfl (v := 1) dX8_readLine_78 (by decide) ?_
        refine mm_goto 83 dX8_readLine_79 (by decide) ?_
        exact mm_lv [0, 1] rfl (th_X8_readLine_B83 h0  _ _ _)
      · refine mm_aload_n 68 rfl dX8_readLine_67 rfl 0 rfl ?_
        refine gt_X8_50 71 rfl dX8_readLine_68 hN ?_
        refine mm_iload_n 72 rfl dX8_readLine_71 rfl 1 rfl ?_
        refine mm_ishr 73 rfl dX8_readLine_72 ?_
        refine mm_iconst 74 rfl (v := 1) dX8_readLine_73 (by decide) ?_
        refine mm_iand 75 rfl dX8_readLine_74 ?_
        refine mm_if_ne 78 82 rfl dX8_readLine_75 (by decide) (fun h_22 => ?_) (fun h_22 => ?_)
        · refine mm_iconst 83 rfl (v := 0) dX8_readLine_82 (by decide) ?_
          exact mm_lv [0, 1] rfl (th_X8_readLine_B83 h0  _ _ _)
        · refine mm_iconst 79 rfl (v := 1) dX8_readLine_78 (by decide) ?_
          refine mm_goto 83 dX8_readLine_79 (by decide) ?_
          exact mm_lv [0, 1] rfl (th_X8_readLine_B83 h0  _ _ _)
    · refine mm_iconst 53 rfl (v := 1) dX8_readLine_52 (by decide) ?_
      refine mm_goto 57 dX8_readLine_53 (by decide) ?_
      refine mm_iconst 58 rfl (v := 5) dX8_readLine_57 (by decide) ?_
      refine ca_X8_108 61 rfl dX8_readLine_58 hN (ct_X8_requires 1 5 h0) (by decide) (Nat.le_of_ble_eq_true rfl) (fun z_23 => ?_)
      refine mm_aload_n 62 rfl dX8_readLine_61 rfl 0 rfl ?_
      refine mm_iload_n 63 rfl dX8_readLine_62 rfl 1 rfl ?_
      refine mm_iconst 64 rfl (v := 4) dX8_readLine_63 (by decide) ?_
      refine mm_icmp_lt 67 78 rfl dX8_readLine_64 (by decide) (fun h_24 => ?_) (fun h_24 => ?_)
      · refine mm_iconst 79 rfl (v := 1) dX8_readLine_78 (by decide) ?_
        refine mm_goto 83 dX8_readLine_79 (by decide) ?_
        exact mm_lv [0, 1] rfl (th_X8_readLine_B83 h0  _ _ _)
      · refine mm_aload_n 68 rfl dX8_readLine_67 rfl 0 rfl ?_
        refine gt_X8_50 71 rfl dX8_readLine_68 hN ?_
        refine mm_iload_n 72 rfl dX8_readLine_71 rfl 1 rfl ?_
        refine mm_ishr 73 rfl dX8_readLine_72 ?_
        refine mm_iconst 74 rfl (v := 1) dX8_readLine_73 (by decide) ?_
        refine mm_iand 75 rfl dX8_readLine_74 ?_
        refine mm_if_ne 78 82 rfl dX8_readLine_75 (by decide) (fun h_25 => ?_) (fun h_25 => ?_)
        · refine mm_iconst 83 rfl (v := 0) dX8_readLine_82 (by decide) ?_
          exact mm_lv [0, 1] rfl (th_X8_readLine_B83 h0  _ _ _)
        · refine mm_iconst 79 rfl (v := 1) dX8_readLine_78 (by decide) ?_
          refine mm_goto 83 dX8_readLine_79 (by decide) ?_
          exact mm_lv [0, 1] rfl (th_X8_readLine_B83 h0  _ _ _)
noncomputable def fn_X8_readLine  (M : mm_M) : Option mm_M :=
  (if (M 0 10) = 1 then ((fn_X8_lineNow  M).bind fun z_26 => mm_let z_26.1 fun x1_27 => (if x1_27 = (-4) then fn_X8_readLine_B30   x1_27 0 z_26.2 else fn_X8_readLine_B30   x1_27 1 z_26.2)) else fn_X8_readLine_B30   (-4) 0 M)
set_option maxRecDepth 20000 in
set_option maxHeartbeats 4000000 in
theorem ct_X8_readLine {l : Launch} {G : mm_G} {sh : mm_S} {M : mm_M} (h0 : mm_isMod G sh) : mm_K l G yX8_readLine (cX8_readLine, 2, RX8, none, 6) [.ref (mm_ad G 0)] (mm_fv sh) sh M (fn_X8_readLine  M) := by
  refine mm_met (by decide +kernel) rfl (Nat.le_of_ble_eq_true rfl) (fun X hX => ?_)
  subst hX
  show mm_T X G (cX8_readLine, 2, RX8, none, 6) (mm_fv sh) sh M 0 [(0, .ref (mm_ad G 0))] [] (fn_X8_readLine  M)
  unfold fn_X8_readLine
  obtain ⟨N, hN⟩ := h0.1
  refine mm_aload_n 1 rfl dX8_readLine_0 rfl 0 rfl ?_
  refine gt_X8_94 4 rfl dX8_readLine_1 hN ?_
  refine mm_iconst 5 rfl (v := 1) dX8_readLine_4 (by decide) ?_
  refine mm_icmp_ne 8 15 rfl dX8_readLine_5 (by decide) (fun h_1 => ?_) (fun h_1 => ?_)
  · refine mm_bipush 17 rfl (v := (-4)) dX8_readLine_15 (by decide) ?_
    refine mm_istore_n 18 rfl dX8_readLine_17 rfl (lv' := [(1, .int (-4)), (0, .ref (mm_ad G 0))]) (by decide) rfl ?_
    refine mm_aload_n 19 rfl dX8_readLine_18 rfl 1 rfl ?_
    refine mm_iload_n 20 rfl dX8_readLine_19 rfl 0 rfl ?_
    refine mm_bipush 22 rfl (v := (-4)) dX8_readLine_20 (by decide) ?_
    refine mm_icmp_eqY 29 dX8_readLine_22 (by decide) (by decide) ?_
    refine mm_iconst 30 rfl (v := 0) dX8_readLine_29 (by decide) ?_
    exact mm_lv [1, 0] rfl (th_X8_readLine_B30 h0  _ _ _)
  · refine mm_aload_n 9 rfl dX8_readLine_8 rfl 0 rfl ?_
    refine ca_X8_128 12 rfl dX8_readLine_9 hN (ct_X8_lineNow  h0) (by decide) (Nat.le_of_ble_eq_true rfl) (fun z_26 => ?_)
    refine mm_goto 17 dX8_readLine_12 (by decide) ?_
    refine mm_bI (fun x1_27 => ?_)
    refine mm_istore_n 18 rfl dX8_readLine_17 rfl (lv' := [(1, .int x1_27), (0, .ref (mm_ad G 0))]) (by decide) rfl ?_
    refine mm_aload_n 19 rfl dX8_readLine_18 rfl 1 rfl ?_
    refine mm_iload_n 20 rfl dX8_readLine_19 rfl 0 rfl ?_
    refine mm_bipush 22 rfl (v := (-4)) dX8_readLine_20 (by decide) ?_
    refine mm_icmp_eq 25 29 rfl dX8_readLine_22 (by decide) (fun h_28 => ?_) (fun h_28 => ?_)
    · refine mm_iconst 30 rfl (v := 0) dX8_readLine_29 (by decide) ?_
      exact mm_lv [1, 0] rfl (th_X8_readLine_B30 h0  _ _ _)
    · refine mm_iconst 26 rfl (v := 1) dX8_readLine_25 (by decide) ?_
      refine mm_goto 30 dX8_readLine_26 (by decide) ?_
      exact mm_lv [1, 0] rfl (th_X8_readLine_B30 h0  _ _ _)

-- MangleLineModel.text()I
noncomputable def fn_X8_text_L20  (k : Int32 → mm_M → Option (Int32 × mm_M)) : Nat → Int32 → mm_M → Option (Int32 × mm_M)
  | 0, _, _ => none
  | n + 1, x1, M => (if (M 0 12) = 0 then (if (M 0 10) = 0 then k x1 M else ((fn_X8_readLine  M).bind fun z_7 => fn_X8_text_L20 k n (x1 + 1) z_7)) else k x1 M)
set_option maxRecDepth 20000 in
set_option maxHeartbeats 4000000 in
theorem th_X8_text_L20 {X : mm_X} {G : mm_G} {sh : mm_S} {k : Int32 → mm_M → Option (Int32 × mm_M)} (h0 : mm_isMod G sh) (hk : ∀ (x1 : Int32) (M : mm_M), mm_T X G (cX8_text, 2, RX8, (some .int), 7) (mm_fi sh) sh M 44 [(0, .ref (mm_ad G 0)), (1, .int x1)] [] (k x1 M)) : ∀ (n : Nat) (x1 : Int32) (M : mm_M), mm_T X G (cX8_text, 2, RX8, (some .int), 7) (mm_fi sh) sh M 20 [(0, .ref (mm_ad G 0)), (1, .int x1)] [] (fn_X8_text_L20 k n x1 M) := by
  intro n
  induction n with
  | zero => intro x1 M; exact mm_none
  | succ n ih =>
    intro x1 M
    rw [fn_X8_text_L20]
    obtain ⟨N, hN⟩ := h0.1
    refine mm_aload_n 21 rfl dX8_text_20 rfl 0 rfl ?_
    refine gt_X8_66 24 rfl dX8_text_21 hN ?_
    refine mm_if_ne 27 44 rfl dX8_text_24 (by decide) (fun h_5 => ?_) (fun h_5 => ?_)
    · exact mm_lv [0, 1] rfl (hk _ _)
    · refine mm_aload_n 28 rfl dX8_text_27 rfl 0 rfl ?_
      refine gt_X8_94 31 rfl dX8_text_28 hN ?_
      refine mm_if_eq 34 44 rfl dX8_text_31 (by decide) (fun h_6 => ?_) (fun h_6 => ?_)
      · exact mm_lv [0, 1] rfl (hk _ _)
      · refine mm_aload_n 35 rfl dX8_text_34 rfl 0 rfl ?_
        refine ca_X8_135 38 rfl dX8_text_35 hN (ct_X8_readLine  h0) (by decide) (Nat.le_of_ble_eq_true rfl) (fun z_7 => ?_)
        refine mm_iinc 41 rfl dX8_text_38 1 rfl (v := (x1 + 1)) rfl (lv' := [(1, .int (x1 + 1)), (0, .ref (mm_ad G 0))]) (by decide) rfl ?_
        refine mm_goto 20 dX8_text_41 (by decide) ?_
        exact mm_lv [1, 0] rfl (ih _ _)
noncomputable def fn_X8_text  (M : mm_M) : Option (Int32 × mm_M) :=
  mm_let (mm_up M 0 12 0) fun M_1 => mm_let (mm_up M_1 0 8 0) fun M_2 => ((fn_X8_firstDraft  M_2).bind fun z_3 => ((fn_X8_reads  z_3).bind fun z_4 => fn_X8_text_L20  (fun x1_8 M_9 => mm_let (mm_up M_9 0 7 0) fun M_11 => (if (M_11 0 12) ≤ 0 then ((fn_X8_keepDraft  M_11).bind fun z_13 => some (x1_8, z_13)) else some (((-10) - (M_11 0 13)), M_11))) mm_fu 0 z_4))
set_option maxRecDepth 20000 in
set_option maxHeartbeats 4000000 in
theorem ct_X8_text {l : Launch} {G : mm_G} {sh : mm_S} {M : mm_M} (h0 : mm_isMod G sh) : mm_K l G yX8_text (cX8_text, 2, RX8, (some .int), 7) [.ref (mm_ad G 0)] (mm_fi sh) sh M (fn_X8_text  M) := by
  refine mm_met (by decide +kernel) rfl (Nat.le_of_ble_eq_true rfl) (fun X hX => ?_)
  subst hX
  show mm_T X G (cX8_text, 2, RX8, (some .int), 7) (mm_fi sh) sh M 0 [(0, .ref (mm_ad G 0))] [] (fn_X8_text  M)
  unfold fn_X8_text
  obtain ⟨N, hN⟩ := h0.1
  refine mm_iconst 1 rfl (v := 0) dX8_text_0 (by decide) ?_
  refine mm_istore_n 2 rfl dX8_text_1 rfl (lv' := [(1, .int 0), (0, .ref (mm_ad G 0))]) (by decide) rfl ?_
  refine mm_aload_n 3 rfl dX8_text_2 rfl 1 rfl ?_
  refine mm_iconst 4 rfl (v := 0) dX8_text_3 (by decide) ?_
  refine pt_X8_66 7 rfl dX8_text_4 hN ?_
  refine mm_bM (fun M_1 => ?_)
  refine mm_aload_n 8 rfl dX8_text_7 rfl 1 rfl ?_
  refine mm_iconst 9 rfl (v := 0) dX8_text_8 (by decide) ?_
  refine pt_X8_75 12 rfl dX8_text_9 hN ?_
  refine mm_bM (fun M_2 => ?_)
  refine mm_aload_n 13 rfl dX8_text_12 rfl 1 rfl ?_
  refine ca_X8_44 16 rfl dX8_text_13 hN (ct_X8_firstDraft  h0) (by decide) (Nat.le_of_ble_eq_true rfl) (fun z_3 => ?_)
  refine mm_aload_n 17 rfl dX8_text_16 rfl 1 rfl ?_
  refine ca_X8_112 20 rfl dX8_text_17 hN (ct_X8_reads  h0) (by decide) (Nat.le_of_ble_eq_true rfl) (fun z_4 => ?_)
  refine mm_lv [1, 0] rfl (th_X8_text_L20 h0 (fun x1_8 M_9 => ?_) mm_fu _ _)
  refine mm_aload_n 45 rfl dX8_text_44 rfl 0 rfl ?_
  refine mm_iconst 46 rfl (v := 0) dX8_text_45 (by decide) ?_
  refine pt_X8_63 49 rfl dX8_text_46 hN ?_
  refine mm_bM (fun M_11 => ?_)
  refine mm_aload_n 50 rfl dX8_text_49 rfl 0 rfl ?_
  refine gt_X8_66 53 rfl dX8_text_50 hN ?_
  refine mm_if_le 56 64 rfl dX8_text_53 (by decide) (fun h_12 => ?_) (fun h_12 => ?_)
  · refine mm_aload_n 65 rfl dX8_text_64 rfl 0 rfl ?_
    refine ca_X8_47 68 rfl dX8_text_65 hN (ct_X8_keepDraft  h0) (by decide) (Nat.le_of_ble_eq_true rfl) (fun z_13 => ?_)
    refine mm_iload_n 69 rfl dX8_text_68 rfl 1 rfl ?_
    exact mm_iret dX8_text_69 rfl rfl
  · refine mm_bipush 58 rfl (v := (-10)) dX8_text_56 (by decide) ?_
    refine mm_aload_n 59 rfl dX8_text_58 rfl 0 rfl ?_
    refine gt_X8_72 62 rfl dX8_text_59 hN ?_
    refine mm_isub 63 rfl dX8_text_62 ?_
    exact mm_iret dX8_text_63 rfl rfl

-- MangleLineModel.fault()I
noncomputable def fn_X8_fault  (M : mm_M) : Option (Int32 × mm_M) :=
  some ((M 0 12), M)
set_option maxRecDepth 20000 in
set_option maxHeartbeats 4000000 in
theorem ct_X8_fault {l : Launch} {G : mm_G} {sh : mm_S} {M : mm_M} (h0 : mm_isMod G sh) : mm_K l G yX8_fault (cX8_fault, 1, RX8, (some .int), 1) [.ref (mm_ad G 0)] (mm_fi sh) sh M (fn_X8_fault  M) := by
  refine mm_met (by decide +kernel) rfl (Nat.le_of_ble_eq_true rfl) (fun X hX => ?_)
  subst hX
  show mm_T X G (cX8_fault, 1, RX8, (some .int), 1) (mm_fi sh) sh M 0 [(0, .ref (mm_ad G 0))] [] (fn_X8_fault  M)
  unfold fn_X8_fault
  obtain ⟨N, hN⟩ := h0.1
  refine mm_aload_n 1 rfl dX8_fault_0 rfl 0 rfl ?_
  refine gt_X8_66 4 rfl dX8_fault_1 hN ?_
  exact mm_iret dX8_fault_4 rfl rfl

-- MangleLineModel.isOne(I)Z
noncomputable def fn_X8_isOne (c1 : Int32) (M : mm_M) : Option (Int32 × mm_M) :=
  ((fn_X8_in c1.toInt64 0 (((M 1 24) - 1).toInt64) M).bind fun z_1 => (if z_1.1 = 0 ∨ z_1.1 = 1 then some (z_1.1, z_1.2) else none))
set_option maxRecDepth 20000 in
set_option maxHeartbeats 4000000 in
theorem ct_X8_isOne {l : Launch} {G : mm_G} {sh : mm_S} {M : mm_M} (c1 : Int32) (h0 : mm_isMod G sh) : mm_K l G yX8_isOne (cX8_isOne, 2, RX8, (some .boolean), 2) [.ref (mm_ad G 0), .int c1] (mm_fi sh) sh M (fn_X8_isOne c1 M) := by
  refine mm_met (by decide +kernel) rfl (Nat.le_of_ble_eq_true rfl) (fun X hX => ?_)
  subst hX
  show mm_T X G (cX8_isOne, 2, RX8, (some .boolean), 2) (mm_fi sh) sh M 0 [(0, .ref (mm_ad G 0)), (1, .int c1)] [] (fn_X8_isOne c1 M)
  unfold fn_X8_isOne
  obtain ⟨N, hN⟩ := h0.1
  refine mm_iload_n 1 rfl dX8_isOne_0 rfl 1 rfl ?_
  refine mm_i2l 2 rfl dX8_isOne_1 ?_
  refine mm_lconst 3 rfl (v := 0) dX8_isOne_2 (by decide) ?_
  refine mm_aload_n 4 rfl dX8_isOne_3 rfl 0 rfl ?_
  refine gt_X8_7 7 rfl dX8_isOne_4 hN ?_
  refine mm_bipush 9 rfl (v := 24) dX8_isOne_7 (by decide) ?_
  refine mm_ialdK 10 rfl dX8_isOne_9 h0.2.1 (by decide) 24 (by decide) ?_
  refine mm_iconst 11 rfl (v := 1) dX8_isOne_10 (by decide) ?_
  refine mm_isub 12 rfl dX8_isOne_11 ?_
  refine mm_i2l 13 rfl dX8_isOne_12 ?_
  refine ca_X8_59 16 rfl dX8_isOne_13 (ct_X8_in c1.toInt64 0 (((M 1 24) - 1).toInt64) ) (by decide) (Nat.le_of_ble_eq_true rfl) (fun z_1 => ?_)
  exact mm_zret dX8_isOne_16 rfl rfl

-- MangleLineModel.isPart(I)Z
noncomputable def fn_X8_isPart (c0 : Int32) (M : mm_M) : Option (Int32 × mm_M) :=
  ((fn_X8_in c0.toInt64 0 1 M).bind fun z_1 => (if z_1.1 = 0 ∨ z_1.1 = 1 then some (z_1.1, z_1.2) else none))
set_option maxRecDepth 20000 in
set_option maxHeartbeats 4000000 in
theorem ct_X8_isPart {l : Launch} {G : mm_G} {sh : mm_S} {M : mm_M} (c0 : Int32) : mm_K l G yX8_isPart (cX8_isPart, 1, RX8, (some .boolean), 2) [.int c0] (mm_fi sh) sh M (fn_X8_isPart c0 M) := by
  refine mm_met (by decide +kernel) rfl (Nat.le_of_ble_eq_true rfl) (fun X hX => ?_)
  subst hX
  show mm_T X G (cX8_isPart, 1, RX8, (some .boolean), 2) (mm_fi sh) sh M 0 [(0, .int c0)] [] (fn_X8_isPart c0 M)
  unfold fn_X8_isPart
  refine mm_iload_n 1 rfl dX8_isPart_0 rfl 0 rfl ?_
  refine mm_i2l 2 rfl dX8_isPart_1 ?_
  refine mm_lconst 3 rfl (v := 0) dX8_isPart_2 (by decide) ?_
  refine mm_lconst 4 rfl (v := 1) dX8_isPart_3 (by decide) ?_
  refine ca_X8_59 7 rfl dX8_isPart_4 (ct_X8_in c0.toInt64 0 1 ) (by decide) (Nat.le_of_ble_eq_true rfl) (fun z_1 => ?_)
  exact mm_zret dX8_isPart_7 rfl rfl

-- MangleLineModel.starts()V
noncomputable def fn_X8_starts_L2  (k : mm_M → Option mm_M) : Nat → Int32 → mm_M → Option mm_M
  | 0, _, _ => none
  | n + 1, x1, M => (if 57 ≤ x1 then k  M else (if mm_in x1 171 then (if mm_in x1 57 then (mm_let (mm_up M 2 x1.toNatClampNeg (M 1 x1.toNatClampNeg)) fun M_3 => fn_X8_starts_L2 k n (x1 + 1) M_3) else none) else none))
set_option maxRecDepth 20000 in
set_option maxHeartbeats 4000000 in
theorem th_X8_starts_L2 {X : mm_X} {G : mm_G} {sh : mm_S} {k : mm_M → Option mm_M} (h0 : mm_isMod G sh) (hk : ∀ (M : mm_M), mm_T X G (cX8_starts, 2, RX8, none, 1) (mm_fv sh) sh M 26 [(0, .ref (mm_ad G 0))] [] (k  M)) : ∀ (n : Nat) (x1 : Int32) (M : mm_M), mm_T X G (cX8_starts, 2, RX8, none, 1) (mm_fv sh) sh M 2 [(0, .ref (mm_ad G 0)), (1, .int x1)] [] (fn_X8_starts_L2 k n x1 M) := by
  intro n
  induction n with
  | zero => intro x1 M; exact mm_none
  | succ n ih =>
    intro x1 M
    rw [fn_X8_starts_L2]
    obtain ⟨N, hN⟩ := h0.1
    refine mm_iload_n 3 rfl dX8_starts_2 rfl 1 rfl ?_
    refine mm_bipush 5 rfl (v := 57) dX8_starts_3 (by decide) ?_
    refine mm_icmp_ge 8 26 rfl dX8_starts_5 (by decide) (fun h_1 => ?_) (fun h_1 => ?_)
    · exact mm_lv [0] rfl (hk _)
    · refine mm_aload_n 9 rfl dX8_starts_8 rfl 0 rfl ?_
      refine gt_X8_13 12 rfl dX8_starts_9 hN ?_
      refine mm_iload_n 13 rfl dX8_starts_12 rfl 1 rfl ?_
      refine mm_aload_n 14 rfl dX8_starts_13 rfl 0 rfl ?_
      refine gt_X8_7 17 rfl dX8_starts_14 hN ?_
      refine mm_iload_n 18 rfl dX8_starts_17 rfl 1 rfl ?_
      refine mm_iald 19 rfl dX8_starts_18 h0.2.1 (fun h_2 => ?_)
      refine mm_iast 20 rfl dX8_starts_19 h0.2.2.1 (fun h_4 => ?_)
      refine mm_bM (fun M_3 => ?_)
      refine mm_iinc 23 rfl dX8_starts_20 1 rfl (v := (x1 + 1)) rfl (lv' := [(1, .int (x1 + 1)), (0, .ref (mm_ad G 0))]) (by decide) rfl ?_
      refine mm_goto 2 dX8_starts_23 (by decide) ?_
      exact mm_lv [1, 0] rfl (ih _ _)
noncomputable def fn_X8_starts  (M : mm_M) : Option mm_M :=
  fn_X8_starts_L2  (fun M_5 => mm_let (mm_up M_5 0 14 0) fun M_7 => mm_let (mm_up M_7 0 15 0) fun M_8 => some M_8) mm_fu 0 M
set_option maxRecDepth 20000 in
set_option maxHeartbeats 4000000 in
theorem ct_X8_starts {l : Launch} {G : mm_G} {sh : mm_S} {M : mm_M} (h0 : mm_isMod G sh) : mm_K l G yX8_starts (cX8_starts, 2, RX8, none, 1) [.ref (mm_ad G 0)] (mm_fv sh) sh M (fn_X8_starts  M) := by
  refine mm_met (by decide +kernel) rfl (Nat.le_of_ble_eq_true rfl) (fun X hX => ?_)
  subst hX
  show mm_T X G (cX8_starts, 2, RX8, none, 1) (mm_fv sh) sh M 0 [(0, .ref (mm_ad G 0))] [] (fn_X8_starts  M)
  unfold fn_X8_starts
  obtain ⟨N, hN⟩ := h0.1
  refine mm_iconst 1 rfl (v := 0) dX8_starts_0 (by decide) ?_
  refine mm_istore_n 2 rfl dX8_starts_1 rfl (lv' := [(1, .int 0), (0, .ref (mm_ad G 0))]) (by decide) rfl ?_
  refine mm_lv [1, 0] rfl (th_X8_starts_L2 h0 (fun M_5 => ?_) mm_fu _ _)
  refine mm_aload_n 27 rfl dX8_starts_26 rfl 0 rfl ?_
  refine mm_iconst 28 rfl (v := 0) dX8_starts_27 (by decide) ?_
  refine pt_X8_138 31 rfl dX8_starts_28 hN ?_
  refine mm_bM (fun M_7 => ?_)
  refine mm_aload_n 32 rfl dX8_starts_31 rfl 0 rfl ?_
  refine mm_iconst 33 rfl (v := 0) dX8_starts_32 (by decide) ?_
  refine pt_X8_141 36 rfl dX8_starts_33 hN ?_
  refine mm_bM (fun M_8 => ?_)
  exact mm_vret dX8_starts_36 rfl rfl

-- MangleLineModel.settles()V
noncomputable def fn_X8_settles_L2  (k : mm_M → Option mm_M) : Nat → Int32 → mm_M → Option mm_M
  | 0, _, _ => none
  | n + 1, x1, M => (if 57 ≤ x1 then k  M else (if mm_in x1 57 then (if mm_in x1 171 then (mm_let (mm_up M 1 x1.toNatClampNeg (M 2 x1.toNatClampNeg)) fun M_3 => fn_X8_settles_L2 k n (x1 + 1) M_3) else none) else none))
set_option maxRecDepth 20000 in
set_option maxHeartbeats 4000000 in
theorem th_X8_settles_L2 {X : mm_X} {G : mm_G} {sh : mm_S} {k : mm_M → Option mm_M} (h0 : mm_isMod G sh) (hk : ∀ (M : mm_M), mm_T X G (cX8_settles, 2, RX8, none, 1) (mm_fv sh) sh M 26 [] [] (k  M)) : ∀ (n : Nat) (x1 : Int32) (M : mm_M), mm_T X G (cX8_settles, 2, RX8, none, 1) (mm_fv sh) sh M 2 [(0, .ref (mm_ad G 0)), (1, .int x1)] [] (fn_X8_settles_L2 k n x1 M) := by
  intro n
  induction n with
  | zero => intro x1 M; exact mm_none
  | succ n ih =>
    intro x1 M
    rw [fn_X8_settles_L2]
    obtain ⟨N, hN⟩ := h0.1
    refine mm_iload_n 3 rfl dX8_settles_2 rfl 1 rfl ?_
    refine mm_bipush 5 rfl (v := 57) dX8_settles_3 (by decide) ?_
    refine mm_icmp_ge 8 26 rfl dX8_settles_5 (by decide) (fun h_1 => ?_) (fun h_1 => ?_)
    · exact mm_lv [] rfl (hk _)
    · refine mm_aload_n 9 rfl dX8_settles_8 rfl 0 rfl ?_
      refine gt_X8_7 12 rfl dX8_settles_9 hN ?_
      refine mm_iload_n 13 rfl dX8_settles_12 rfl 1 rfl ?_
      refine mm_aload_n 14 rfl dX8_settles_13 rfl 0 rfl ?_
      refine gt_X8_13 17 rfl dX8_settles_14 hN ?_
      refine mm_iload_n 18 rfl dX8_settles_17 rfl 1 rfl ?_
      refine mm_iald 19 rfl dX8_settles_18 h0.2.2.1 (fun h_2 => ?_)
      refine mm_iast 20 rfl dX8_settles_19 h0.2.1 (fun h_4 => ?_)
      refine mm_bM (fun M_3 => ?_)
      refine mm_iinc 23 rfl dX8_settles_20 1 rfl (v := (x1 + 1)) rfl (lv' := [(1, .int (x1 + 1)), (0, .ref (mm_ad G 0))]) (by decide) rfl ?_
      refine mm_goto 2 dX8_settles_23 (by decide) ?_
      exact mm_lv [1, 0] rfl (ih _ _)
noncomputable def fn_X8_settles  (M : mm_M) : Option mm_M :=
  fn_X8_settles_L2  (fun M_5 => some M_5) mm_fu 0 M
set_option maxRecDepth 20000 in
set_option maxHeartbeats 4000000 in
theorem ct_X8_settles {l : Launch} {G : mm_G} {sh : mm_S} {M : mm_M} (h0 : mm_isMod G sh) : mm_K l G yX8_settles (cX8_settles, 2, RX8, none, 1) [.ref (mm_ad G 0)] (mm_fv sh) sh M (fn_X8_settles  M) := by
  refine mm_met (by decide +kernel) rfl (Nat.le_of_ble_eq_true rfl) (fun X hX => ?_)
  subst hX
  show mm_T X G (cX8_settles, 2, RX8, none, 1) (mm_fv sh) sh M 0 [(0, .ref (mm_ad G 0))] [] (fn_X8_settles  M)
  unfold fn_X8_settles
  obtain ⟨N, hN⟩ := h0.1
  refine mm_iconst 1 rfl (v := 0) dX8_settles_0 (by decide) ?_
  refine mm_istore_n 2 rfl dX8_settles_1 rfl (lv' := [(1, .int 0), (0, .ref (mm_ad G 0))]) (by decide) rfl ?_
  refine mm_lv [1, 0] rfl (th_X8_settles_L2 h0 (fun M_5 => ?_) mm_fu _ _)
  exact mm_vret dX8_settles_26 rfl rfl

-- MangleLineModel.of(II)I
noncomputable def fn_X8_of (c1 : Int32) (c2 : Int32) (M : mm_M) : Option (Int32 × mm_M) :=
  (if mm_in ((4 * c1) + c2) 57 then some ((M 2 ((4 * c1) + c2).toNatClampNeg), M) else none)
set_option maxRecDepth 20000 in
set_option maxHeartbeats 4000000 in
theorem ct_X8_of {l : Launch} {G : mm_G} {sh : mm_S} {M : mm_M} (c1 : Int32) (c2 : Int32) (h0 : mm_isMod G sh) : mm_K l G yX8_of (cX8_of, 3, RX8, (some .int), 1) [.ref (mm_ad G 0), .int c1, .int c2] (mm_fi sh) sh M (fn_X8_of c1 c2 M) := by
  refine mm_met (by decide +kernel) rfl (Nat.le_of_ble_eq_true rfl) (fun X hX => ?_)
  subst hX
  show mm_T X G (cX8_of, 3, RX8, (some .int), 1) (mm_fi sh) sh M 0 [(0, .ref (mm_ad G 0)), (1, .int c1), (2, .int c2)] [] (fn_X8_of c1 c2 M)
  unfold fn_X8_of
  obtain ⟨N, hN⟩ := h0.1
  refine mm_aload_n 1 rfl dX8_of_0 rfl 0 rfl ?_
  refine gt_X8_13 4 rfl dX8_of_1 hN ?_
  refine mm_iconst 5 rfl (v := 4) dX8_of_4 (by decide) ?_
  refine mm_iload_n 6 rfl dX8_of_5 rfl 1 rfl ?_
  refine mm_imul 7 rfl dX8_of_6 ?_
  refine mm_iload_n 8 rfl dX8_of_7 rfl 2 rfl ?_
  refine mm_iadd 9 rfl dX8_of_8 ?_
  refine mm_iald 10 rfl dX8_of_9 h0.2.2.1 (fun h_1 => ?_)
  exact mm_iret dX8_of_10 rfl rfl

-- MangleLineModel.becomesOf(III)V
noncomputable def fn_X8_becomesOf (c1 : Int32) (c2 : Int32) (c3 : Int32) (M : mm_M) : Option mm_M :=
  (if mm_in ((4 * c1) + c2) 57 then (mm_let (mm_up M 2 ((4 * c1) + c2).toNatClampNeg c3) fun M_1 => some M_1) else none)
set_option maxRecDepth 20000 in
set_option maxHeartbeats 4000000 in
theorem ct_X8_becomesOf {l : Launch} {G : mm_G} {sh : mm_S} {M : mm_M} (c1 : Int32) (c2 : Int32) (c3 : Int32) (h0 : mm_isMod G sh) : mm_K l G yX8_becomesOf (cX8_becomesOf, 4, RX8, none, 1) [.ref (mm_ad G 0), .int c1, .int c2, .int c3] (mm_fv sh) sh M (fn_X8_becomesOf c1 c2 c3 M) := by
  refine mm_met (by decide +kernel) rfl (Nat.le_of_ble_eq_true rfl) (fun X hX => ?_)
  subst hX
  show mm_T X G (cX8_becomesOf, 4, RX8, none, 1) (mm_fv sh) sh M 0 [(0, .ref (mm_ad G 0)), (1, .int c1), (2, .int c2), (3, .int c3)] [] (fn_X8_becomesOf c1 c2 c3 M)
  unfold fn_X8_becomesOf
  obtain ⟨N, hN⟩ := h0.1
  refine mm_aload_n 1 rfl dX8_becomesOf_0 rfl 0 rfl ?_
  refine gt_X8_13 4 rfl dX8_becomesOf_1 hN ?_
  refine mm_iconst 5 rfl (v := 4) dX8_becomesOf_4 (by decide) ?_
  refine mm_iload_n 6 rfl dX8_becomesOf_5 rfl 1 rfl ?_
  refine mm_imul 7 rfl dX8_becomesOf_6 ?_
  refine mm_iload_n 8 rfl dX8_becomesOf_7 rfl 2 rfl ?_
  refine mm_iadd 9 rfl dX8_becomesOf_8 ?_
  refine mm_iload_n 10 rfl dX8_becomesOf_9 rfl 3 rfl ?_
  refine mm_iast 11 rfl dX8_becomesOf_10 h0.2.2.1 (fun h_2 => ?_)
  refine mm_bM (fun M_1 => ?_)
  exact mm_vret dX8_becomesOf_11 rfl rfl

-- MangleLineModel.those(I)I
noncomputable def fn_X8_those_L4 (c1 : Int32) (k : Int32 → mm_M → Option (Int32 × mm_M)) : Nat → Int32 → Int32 → mm_M → Option (Int32 × mm_M)
  | 0, _, _, _ => none
  | n + 1, x2, x3, M => (if (M 2 24) ≤ x3 then k x2 M else ((fn_X8_of x3 3 M).bind fun z_2 => (if z_2.1 = c1 then ((fn_X8_flag 1 z_2.2).bind fun z_6 => mm_let (x2 ||| (z_6.1 <<< (x3 &&& 31))) fun x2_7 => fn_X8_those_L4 c1 k n x2_7 (x3 + 1) z_6.2) else ((fn_X8_flag 0 z_2.2).bind fun z_4 => mm_let (x2 ||| (z_4.1 <<< (x3 &&& 31))) fun x2_5 => fn_X8_those_L4 c1 k n x2_5 (x3 + 1) z_4.2))))
set_option maxRecDepth 20000 in
set_option maxHeartbeats 4000000 in
theorem th_X8_those_L4 {X : mm_X} {G : mm_G} {sh : mm_S} {c1 : Int32} {k : Int32 → mm_M → Option (Int32 × mm_M)} (h0 : mm_isMod G sh) (hk : ∀ (x2 : Int32) (M : mm_M), mm_T X G (cX8_those, 4, RX8, (some .int), 2) (mm_fi sh) sh M 44 [(2, .int x2)] [] (k x2 M)) : ∀ (n : Nat) (x2 : Int32) (x3 : Int32) (M : mm_M), mm_T X G (cX8_those, 4, RX8, (some .int), 2) (mm_fi sh) sh M 4 [(0, .ref (mm_ad G 0)), (1, .int c1), (2, .int x2), (3, .int x3)] [] (fn_X8_those_L4 c1 k n x2 x3 M) := by
  intro n
  induction n with
  | zero => intro x2 x3 M; exact mm_none
  | succ n ih =>
    intro x2 x3 M
    rw [fn_X8_those_L4]
    obtain ⟨N, hN⟩ := h0.1
    refine mm_iload_n 5 rfl dX8_those_4 rfl 3 rfl ?_
    refine mm_aload_n 6 rfl dX8_those_5 rfl 0 rfl ?_
    refine gt_X8_13 9 rfl dX8_those_6 hN ?_
    refine mm_bipush 11 rfl (v := 24) dX8_those_9 (by decide) ?_
    refine mm_ialdK 12 rfl dX8_those_11 h0.2.2.1 (by decide) 24 (by decide) ?_
    refine mm_icmp_ge 15 44 rfl dX8_those_12 (by decide) (fun h_1 => ?_) (fun h_1 => ?_)
    · exact mm_lv [2] rfl (hk _ _)
    · refine mm_iload_n 16 rfl dX8_those_15 rfl 2 rfl ?_
      refine mm_aload_n 17 rfl dX8_those_16 rfl 0 rfl ?_
      refine mm_iload_n 18 rfl dX8_those_17 rfl 3 rfl ?_
      refine mm_iconst 19 rfl (v := 3) dX8_those_18 (by decide) ?_
      refine ca_X8_144 22 rfl dX8_those_19 hN (ct_X8_of x3 3 h0) (by decide) (Nat.le_of_ble_eq_true rfl) (fun z_2 => ?_)
      refine mm_iload_n 23 rfl dX8_those_22 rfl 1 rfl ?_
      refine mm_icmp_ne 26 30 rfl dX8_those_23 (by decide) (fun h_3 => ?_) (fun h_3 => ?_)
      · refine mm_iconst 31 rfl (v := 0) dX8_those_30 (by decide) ?_
        refine ca_X8_147 34 rfl dX8_those_31 (ct_X8_flag 0 ) (by decide) (Nat.le_of_ble_eq_true rfl) (fun z_4 => ?_)
        refine mm_iload_n 35 rfl dX8_those_34 rfl 3 rfl ?_
        refine mm_ishl 36 rfl dX8_those_35 ?_
        refine mm_ior 37 rfl dX8_those_36 ?_
        refine mm_bI (fun x2_5 => ?_)
        refine mm_istore_n 38 rfl dX8_those_37 rfl (lv' := [(2, .int x2_5), (0, .ref (mm_ad G 0)), (1, .int c1), (3, .int x3)]) (by decide) rfl ?_
        refine mm_iinc 41 rfl dX8_those_38 3 rfl (v := (x3 + 1)) rfl (lv' := [(3, .int (x3 + 1)), (2, .int x2_5), (0, .ref (mm_ad G 0)), (1, .int c1)]) (by decide) rfl ?_
        refine mm_goto 4 dX8_those_41 (by decide) ?_
        exact mm_lv [2, 3, 1, 0] rfl (ih _ _ _)
      · refine mm_iconst 27 rfl (v := 1) dX8_those_26 (by decide) ?_
        refine mm_goto 31 dX8_those_27 (by decide) ?_
        refine ca_X8_147 34 rfl dX8_those_31 (ct_X8_flag 1 ) (by decide) (Nat.le_of_ble_eq_true rfl) (fun z_6 => ?_)
        refine mm_iload_n 35 rfl dX8_those_34 rfl 3 rfl ?_
        refine mm_ishl 36 rfl dX8_those_35 ?_
        refine mm_ior 37 rfl dX8_those_36 ?_
        refine mm_bI (fun x2_7 => ?_)
        refine mm_istore_n 38 rfl dX8_those_37 rfl (lv' := [(2, .int x2_7), (0, .ref (mm_ad G 0)), (1, .int c1), (3, .int x3)]) (by decide) rfl ?_
        refine mm_iinc 41 rfl dX8_those_38 3 rfl (v := (x3 + 1)) rfl (lv' := [(3, .int (x3 + 1)), (2, .int x2_7), (0, .ref (mm_ad G 0)), (1, .int c1)]) (by decide) rfl ?_
        refine mm_goto 4 dX8_those_41 (by decide) ?_
        exact mm_lv [2, 3, 1, 0] rfl (ih _ _ _)
noncomputable def fn_X8_those (c1 : Int32) (M : mm_M) : Option (Int32 × mm_M) :=
  fn_X8_those_L4 c1 (fun x2_8 M_9 => some (x2_8, M_9)) mm_fu 0 0 M
set_option maxRecDepth 20000 in
set_option maxHeartbeats 4000000 in
theorem ct_X8_those {l : Launch} {G : mm_G} {sh : mm_S} {M : mm_M} (c1 : Int32) (h0 : mm_isMod G sh) : mm_K l G yX8_those (cX8_those, 4, RX8, (some .int), 2) [.ref (mm_ad G 0), .int c1] (mm_fi sh) sh M (fn_X8_those c1 M) := by
  refine mm_met (by decide +kernel) rfl (Nat.le_of_ble_eq_true rfl) (fun X hX => ?_)
  subst hX
  show mm_T X G (cX8_those, 4, RX8, (some .int), 2) (mm_fi sh) sh M 0 [(0, .ref (mm_ad G 0)), (1, .int c1)] [] (fn_X8_those c1 M)
  unfold fn_X8_those
  obtain ⟨N, hN⟩ := h0.1
  refine mm_iconst 1 rfl (v := 0) dX8_those_0 (by decide) ?_
  refine mm_istore_n 2 rfl dX8_those_1 rfl (lv' := [(2, .int 0), (0, .ref (mm_ad G 0)), (1, .int c1)]) (by decide) rfl ?_
  refine mm_iconst 3 rfl (v := 0) dX8_those_2 (by decide) ?_
  refine mm_istore_n 4 rfl dX8_those_3 rfl (lv' := [(3, .int 0), (2, .int 0), (0, .ref (mm_ad G 0)), (1, .int c1)]) (by decide) rfl ?_
  refine mm_lv [2, 3, 1, 0] rfl (th_X8_those_L4 h0 (fun x2_8 M_9 => ?_) mm_fu _ _ _)
  refine mm_iload_n 45 rfl dX8_those_44 rfl 0 rfl ?_
  exact mm_iret dX8_those_45 rfl rfl

-- MangleLineModel.manyAt(I)I
noncomputable def fn_X8_manyAt_L4 (c1 : Int32) (k : Int32 → mm_M → Option (Int32 × mm_M)) : Nat → Int32 → Int32 → mm_M → Option (Int32 × mm_M)
  | 0, _, _, _ => none
  | n + 1, x2, x3, M => (if (M 2 24) ≤ x3 then k x2 M else ((fn_X8_of x3 3 M).bind fun z_2 => (if z_2.1 = c1 then ((fn_X8_flag 1 z_2.2).bind fun z_6 => mm_let (x2 + z_6.1) fun x2_7 => fn_X8_manyAt_L4 c1 k n x2_7 (x3 + 1) z_6.2) else ((fn_X8_flag 0 z_2.2).bind fun z_4 => mm_let (x2 + z_4.1) fun x2_5 => fn_X8_manyAt_L4 c1 k n x2_5 (x3 + 1) z_4.2))))
set_option maxRecDepth 20000 in
set_option maxHeartbeats 4000000 in
theorem th_X8_manyAt_L4 {X : mm_X} {G : mm_G} {sh : mm_S} {c1 : Int32} {k : Int32 → mm_M → Option (Int32 × mm_M)} (h0 : mm_isMod G sh) (hk : ∀ (x2 : Int32) (M : mm_M), mm_T X G (cX8_manyAt, 4, RX8, (some .int), 2) (mm_fi sh) sh M 42 [(2, .int x2)] [] (k x2 M)) : ∀ (n : Nat) (x2 : Int32) (x3 : Int32) (M : mm_M), mm_T X G (cX8_manyAt, 4, RX8, (some .int), 2) (mm_fi sh) sh M 4 [(0, .ref (mm_ad G 0)), (1, .int c1), (2, .int x2), (3, .int x3)] [] (fn_X8_manyAt_L4 c1 k n x2 x3 M) := by
  intro n
  induction n with
  | zero => intro x2 x3 M; exact mm_none
  | succ n ih =>
    intro x2 x3 M
    rw [fn_X8_manyAt_L4]
    obtain ⟨N, hN⟩ := h0.1
    refine mm_iload_n 5 rfl dX8_manyAt_4 rfl 3 rfl ?_
    refine mm_aload_n 6 rfl dX8_manyAt_5 rfl 0 rfl ?_
    refine gt_X8_13 9 rfl dX8_manyAt_6 hN ?_
    refine mm_bipush 11 rfl (v := 24) dX8_manyAt_9 (by decide) ?_
    refine mm_ialdK 12 rfl dX8_manyAt_11 h0.2.2.1 (by decide) 24 (by decide) ?_
    refine mm_icmp_ge 15 42 rfl dX8_manyAt_12 (by decide) (fun h_1 => ?_) (fun h_1 => ?_)
    · exact mm_lv [2] rfl (hk _ _)
    · refine mm_iload_n 16 rfl dX8_manyAt_15 rfl 2 rfl ?_
      refine mm_aload_n 17 rfl dX8_manyAt_16 rfl 0 rfl ?_
      refine mm_iload_n 18 rfl dX8_manyAt_17 rfl 3 rfl ?_
      refine mm_iconst 19 rfl (v := 3) dX8_manyAt_18 (by decide) ?_
      refine ca_X8_144 22 rfl dX8_manyAt_19 hN (ct_X8_of x3 3 h0) (by decide) (Nat.le_of_ble_eq_true rfl) (fun z_2 => ?_)
      refine mm_iload_n 23 rfl dX8_manyAt_22 rfl 1 rfl ?_
      refine mm_icmp_ne 26 30 rfl dX8_manyAt_23 (by decide) (fun h_3 => ?_) (fun h_3 => ?_)
      · refine mm_iconst 31 rfl (v := 0) dX8_manyAt_30 (by decide) ?_
        refine ca_X8_147 34 rfl dX8_manyAt_31 (ct_X8_flag 0 ) (by decide) (Nat.le_of_ble_eq_true rfl) (fun z_4 => ?_)
        refine mm_iadd 35 rfl dX8_manyAt_34 ?_
        refine mm_bI (fun x2_5 => ?_)
        refine mm_istore_n 36 rfl dX8_manyAt_35 rfl (lv' := [(2, .int x2_5), (0, .ref (mm_ad G 0)), (1, .int c1), (3, .int x3)]) (by decide) rfl ?_
        refine mm_iinc 39 rfl dX8_manyAt_36 3 rfl (v := (x3 + 1)) rfl (lv' := [(3, .int (x3 + 1)), (2, .int x2_5), (0, .ref (mm_ad G 0)), (1, .int c1)]) (by decide) rfl ?_
        refine mm_goto 4 dX8_manyAt_39 (by decide) ?_
        exact mm_lv [2, 3, 1, 0] rfl (ih _ _ _)
      · refine mm_iconst 27 rfl (v := 1) dX8_manyAt_26 (by decide) ?_
        refine mm_goto 31 dX8_manyAt_27 (by decide) ?_
        refine ca_X8_147 34 rfl dX8_manyAt_31 (ct_X8_flag 1 ) (by decide) (Nat.le_of_ble_eq_true rfl) (fun z_6 => ?_)
        refine mm_iadd 35 rfl dX8_manyAt_34 ?_
        refine mm_bI (fun x2_7 => ?_)
        refine mm_istore_n 36 rfl dX8_manyAt_35 rfl (lv' := [(2, .int x2_7), (0, .ref (mm_ad G 0)), (1, .int c1), (3, .int x3)]) (by decide) rfl ?_
        refine mm_iinc 39 rfl dX8_manyAt_36 3 rfl (v := (x3 + 1)) rfl (lv' := [(3, .int (x3 + 1)), (2, .int x2_7), (0, .ref (mm_ad G 0)), (1, .int c1)]) (by decide) rfl ?_
        refine mm_goto 4 dX8_manyAt_39 (by decide) ?_
        exact mm_lv [2, 3, 1, 0] rfl (ih _ _ _)
noncomputable def fn_X8_manyAt (c1 : Int32) (M : mm_M) : Option (Int32 × mm_M) :=
  fn_X8_manyAt_L4 c1 (fun x2_8 M_9 => some (x2_8, M_9)) mm_fu 0 0 M
set_option maxRecDepth 20000 in
set_option maxHeartbeats 4000000 in
theorem ct_X8_manyAt {l : Launch} {G : mm_G} {sh : mm_S} {M : mm_M} (c1 : Int32) (h0 : mm_isMod G sh) : mm_K l G yX8_manyAt (cX8_manyAt, 4, RX8, (some .int), 2) [.ref (mm_ad G 0), .int c1] (mm_fi sh) sh M (fn_X8_manyAt c1 M) := by
  refine mm_met (by decide +kernel) rfl (Nat.le_of_ble_eq_true rfl) (fun X hX => ?_)
  subst hX
  show mm_T X G (cX8_manyAt, 4, RX8, (some .int), 2) (mm_fi sh) sh M 0 [(0, .ref (mm_ad G 0)), (1, .int c1)] [] (fn_X8_manyAt c1 M)
  unfold fn_X8_manyAt
  obtain ⟨N, hN⟩ := h0.1
  refine mm_iconst 1 rfl (v := 0) dX8_manyAt_0 (by decide) ?_
  refine mm_istore_n 2 rfl dX8_manyAt_1 rfl (lv' := [(2, .int 0), (0, .ref (mm_ad G 0)), (1, .int c1)]) (by decide) rfl ?_
  refine mm_iconst 3 rfl (v := 0) dX8_manyAt_2 (by decide) ?_
  refine mm_istore_n 4 rfl dX8_manyAt_3 rfl (lv' := [(3, .int 0), (2, .int 0), (0, .ref (mm_ad G 0)), (1, .int c1)]) (by decide) rfl ?_
  refine mm_lv [2, 3, 1, 0] rfl (th_X8_manyAt_L4 h0 (fun x2_8 M_9 => ?_) mm_fu _ _ _)
  refine mm_iload_n 43 rfl dX8_manyAt_42 rfl 0 rfl ?_
  exact mm_iret dX8_manyAt_43 rfl rfl

-- MangleLineModel.sumOf(I)I
noncomputable def fn_X8_sumOf_L4 (c1 : Int32) (k : Int32 → mm_M → Option (Int32 × mm_M)) : Nat → Int32 → Int32 → mm_M → Option (Int32 × mm_M)
  | 0, _, _, _ => none
  | n + 1, x2, x3, M => (if (M 2 24) ≤ x3 then k x2 M else ((fn_X8_of x3 c1 M).bind fun z_2 => mm_let (x2 + z_2.1) fun x2_3 => fn_X8_sumOf_L4 c1 k n x2_3 (x3 + 1) z_2.2))
set_option maxRecDepth 20000 in
set_option maxHeartbeats 4000000 in
theorem th_X8_sumOf_L4 {X : mm_X} {G : mm_G} {sh : mm_S} {c1 : Int32} {k : Int32 → mm_M → Option (Int32 × mm_M)} (h0 : mm_isMod G sh) (hk : ∀ (x2 : Int32) (M : mm_M), mm_T X G (cX8_sumOf, 4, RX8, (some .int), 2) (mm_fi sh) sh M 30 [(2, .int x2)] [] (k x2 M)) : ∀ (n : Nat) (x2 : Int32) (x3 : Int32) (M : mm_M), mm_T X G (cX8_sumOf, 4, RX8, (some .int), 2) (mm_fi sh) sh M 4 [(0, .ref (mm_ad G 0)), (1, .int c1), (2, .int x2), (3, .int x3)] [] (fn_X8_sumOf_L4 c1 k n x2 x3 M) := by
  intro n
  induction n with
  | zero => intro x2 x3 M; exact mm_none
  | succ n ih =>
    intro x2 x3 M
    rw [fn_X8_sumOf_L4]
    obtain ⟨N, hN⟩ := h0.1
    refine mm_iload_n 5 rfl dX8_sumOf_4 rfl 3 rfl ?_
    refine mm_aload_n 6 rfl dX8_sumOf_5 rfl 0 rfl ?_
    refine gt_X8_13 9 rfl dX8_sumOf_6 hN ?_
    refine mm_bipush 11 rfl (v := 24) dX8_sumOf_9 (by decide) ?_
    refine mm_ialdK 12 rfl dX8_sumOf_11 h0.2.2.1 (by decide) 24 (by decide) ?_
    refine mm_icmp_ge 15 30 rfl dX8_sumOf_12 (by decide) (fun h_1 => ?_) (fun h_1 => ?_)
    · exact mm_lv [2] rfl (hk _ _)
    · refine mm_iload_n 16 rfl dX8_sumOf_15 rfl 2 rfl ?_
      refine mm_aload_n 17 rfl dX8_sumOf_16 rfl 0 rfl ?_
      refine mm_iload_n 18 rfl dX8_sumOf_17 rfl 3 rfl ?_
      refine mm_iload_n 19 rfl dX8_sumOf_18 rfl 1 rfl ?_
      refine ca_X8_144 22 rfl dX8_sumOf_19 hN (ct_X8_of x3 c1 h0) (by decide) (Nat.le_of_ble_eq_true rfl) (fun z_2 => ?_)
      refine mm_iadd 23 rfl dX8_sumOf_22 ?_
      refine mm_bI (fun x2_3 => ?_)
      refine mm_istore_n 24 rfl dX8_sumOf_23 rfl (lv' := [(2, .int x2_3), (0, .ref (mm_ad G 0)), (1, .int c1), (3, .int x3)]) (by decide) rfl ?_
      refine mm_iinc 27 rfl dX8_sumOf_24 3 rfl (v := (x3 + 1)) rfl (lv' := [(3, .int (x3 + 1)), (2, .int x2_3), (0, .ref (mm_ad G 0)), (1, .int c1)]) (by decide) rfl ?_
      refine mm_goto 4 dX8_sumOf_27 (by decide) ?_
      exact mm_lv [2, 3, 1, 0] rfl (ih _ _ _)
noncomputable def fn_X8_sumOf (c1 : Int32) (M : mm_M) : Option (Int32 × mm_M) :=
  fn_X8_sumOf_L4 c1 (fun x2_4 M_5 => some (x2_4, M_5)) mm_fu 0 0 M
set_option maxRecDepth 20000 in
set_option maxHeartbeats 4000000 in
theorem ct_X8_sumOf {l : Launch} {G : mm_G} {sh : mm_S} {M : mm_M} (c1 : Int32) (h0 : mm_isMod G sh) : mm_K l G yX8_sumOf (cX8_sumOf, 4, RX8, (some .int), 2) [.ref (mm_ad G 0), .int c1] (mm_fi sh) sh M (fn_X8_sumOf c1 M) := by
  refine mm_met (by decide +kernel) rfl (Nat.le_of_ble_eq_true rfl) (fun X hX => ?_)
  subst hX
  show mm_T X G (cX8_sumOf, 4, RX8, (some .int), 2) (mm_fi sh) sh M 0 [(0, .ref (mm_ad G 0)), (1, .int c1)] [] (fn_X8_sumOf c1 M)
  unfold fn_X8_sumOf
  obtain ⟨N, hN⟩ := h0.1
  refine mm_iconst 1 rfl (v := 0) dX8_sumOf_0 (by decide) ?_
  refine mm_istore_n 2 rfl dX8_sumOf_1 rfl (lv' := [(2, .int 0), (0, .ref (mm_ad G 0)), (1, .int c1)]) (by decide) rfl ?_
  refine mm_iconst 3 rfl (v := 0) dX8_sumOf_2 (by decide) ?_
  refine mm_istore_n 4 rfl dX8_sumOf_3 rfl (lv' := [(3, .int 0), (2, .int 0), (0, .ref (mm_ad G 0)), (1, .int c1)]) (by decide) rfl ?_
  refine mm_lv [2, 3, 1, 0] rfl (th_X8_sumOf_L4 h0 (fun x2_4 M_5 => ?_) mm_fu _ _ _)
  refine mm_iload_n 31 rfl dX8_sumOf_30 rfl 0 rfl ?_
  exact mm_iret dX8_sumOf_31 rfl rfl

-- MangleLineModel.scrubs(I)I
noncomputable def fn_X8_scrubs (c1 : Int32) (M : mm_M) : Option (Int32 × mm_M) :=
  mm_let (M 2 25) fun x2_1 => ((fn_X8_of c1 0 M).bind fun z_2 => mm_let z_2.1 fun x3_3 => (if x3_3 = 1 then some ((x2_1 / 2), z_2.2) else (if x3_3 = 3 then ((fn_X8_less (x2_1 / 2) 1 z_2.2).bind fun z_6 => some (z_6.1, z_6.2)) else some (x2_1, z_2.2))))
set_option maxRecDepth 20000 in
set_option maxHeartbeats 4000000 in
theorem ct_X8_scrubs {l : Launch} {G : mm_G} {sh : mm_S} {M : mm_M} (c1 : Int32) (h0 : mm_isMod G sh) : mm_K l G yX8_scrubs (cX8_scrubs, 4, RX8, (some .int), 2) [.ref (mm_ad G 0), .int c1] (mm_fi sh) sh M (fn_X8_scrubs c1 M) := by
  refine mm_met (by decide +kernel) rfl (Nat.le_of_ble_eq_true rfl) (fun X hX => ?_)
  subst hX
  show mm_T X G (cX8_scrubs, 4, RX8, (some .int), 2) (mm_fi sh) sh M 0 [(0, .ref (mm_ad G 0)), (1, .int c1)] [] (fn_X8_scrubs c1 M)
  unfold fn_X8_scrubs
  obtain ⟨N, hN⟩ := h0.1
  refine mm_aload_n 1 rfl dX8_scrubs_0 rfl 0 rfl ?_
  refine gt_X8_13 4 rfl dX8_scrubs_1 hN ?_
  refine mm_bipush 6 rfl (v := 25) dX8_scrubs_4 (by decide) ?_
  refine mm_ialdK 7 rfl dX8_scrubs_6 h0.2.2.1 (by decide) 25 (by decide) ?_
  refine mm_bI (fun x2_1 => ?_)
  refine mm_istore_n 8 rfl dX8_scrubs_7 rfl (lv' := [(2, .int x2_1), (0, .ref (mm_ad G 0)), (1, .int c1)]) (by decide) rfl ?_
  refine mm_aload_n 9 rfl dX8_scrubs_8 rfl 1 rfl ?_
  refine mm_iload_n 10 rfl dX8_scrubs_9 rfl 2 rfl ?_
  refine mm_iconst 11 rfl (v := 0) dX8_scrubs_10 (by decide) ?_
  refine ca_X8_144 14 rfl dX8_scrubs_11 hN (ct_X8_of c1 0 h0) (by decide) (Nat.le_of_ble_eq_true rfl) (fun z_2 => ?_)
  refine mm_bI (fun x3_3 => ?_)
  refine mm_istore_n 15 rfl dX8_scrubs_14 rfl (lv' := [(3, .int x3_3), (2, .int x2_1), (0, .ref (mm_ad G 0)), (1, .int c1)]) (by decide) rfl ?_
  refine mm_iload_n 16 rfl dX8_scrubs_15 rfl 0 rfl ?_
  refine mm_iconst 17 rfl (v := 1) dX8_scrubs_16 (by decide) ?_
  refine mm_icmp_ne 20 26 rfl dX8_scrubs_17 (by decide) (fun h_4 => ?_) (fun h_4 => ?_)
  · refine mm_iload_n 27 rfl dX8_scrubs_26 rfl 0 rfl ?_
    refine mm_iconst 28 rfl (v := 3) dX8_scrubs_27 (by decide) ?_
    refine mm_icmp_ne 31 41 rfl dX8_scrubs_28 (by decide) (fun h_5 => ?_) (fun h_5 => ?_)
    · refine mm_iload_n 42 rfl dX8_scrubs_41 rfl 1 rfl ?_
      exact mm_iret dX8_scrubs_42 rfl rfl
    · refine mm_iload_n 32 rfl dX8_scrubs_31 rfl 1 rfl ?_
      refine mm_iconst 33 rfl (v := 2) dX8_scrubs_32 (by decide) ?_
      refine mm_idiv 34 rfl dX8_scrubs_33 (by decide) ?_
      refine mm_iconst 35 rfl (v := 1) dX8_scrubs_34 (by decide) ?_
      refine ca_X8_151 38 rfl dX8_scrubs_35 (ct_X8_less (x2_1 / 2) 1 ) (by decide) (Nat.le_of_ble_eq_true rfl) (fun z_6 => ?_)
      refine mm_goto 42 dX8_scrubs_38 (by decide) ?_
      exact mm_iret dX8_scrubs_42 rfl rfl
  · refine mm_iload_n 21 rfl dX8_scrubs_20 rfl 1 rfl ?_
    refine mm_iconst 22 rfl (v := 2) dX8_scrubs_21 (by decide) ?_
    refine mm_idiv 23 rfl dX8_scrubs_22 (by decide) ?_
    refine mm_goto 42 dX8_scrubs_23 (by decide) ?_
    exact mm_iret dX8_scrubs_42 rfl rfl

-- MangleLineModel.dries(II)I
noncomputable def fn_X8_dries (c1 : Int32) (c2 : Int32) (M : mm_M) : Option (Int32 × mm_M) :=
  ((fn_X8_of c1 0 M).bind fun z_1 => mm_let z_1.1 fun x3_2 => (if x3_2 = 2 then some ((c2 / 2), z_1.2) else (if x3_2 = 3 then some ((2 * c2), z_1.2) else some (c2, z_1.2))))
set_option maxRecDepth 20000 in
set_option maxHeartbeats 4000000 in
theorem ct_X8_dries {l : Launch} {G : mm_G} {sh : mm_S} {M : mm_M} (c1 : Int32) (c2 : Int32) (h0 : mm_isMod G sh) : mm_K l G yX8_dries (cX8_dries, 4, RX8, (some .int), 2) [.ref (mm_ad G 0), .int c1, .int c2] (mm_fi sh) sh M (fn_X8_dries c1 c2 M) := by
  refine mm_met (by decide +kernel) rfl (Nat.le_of_ble_eq_true rfl) (fun X hX => ?_)
  subst hX
  show mm_T X G (cX8_dries, 4, RX8, (some .int), 2) (mm_fi sh) sh M 0 [(0, .ref (mm_ad G 0)), (1, .int c1), (2, .int c2)] [] (fn_X8_dries c1 c2 M)
  unfold fn_X8_dries
  obtain ⟨N, hN⟩ := h0.1
  refine mm_aload_n 1 rfl dX8_dries_0 rfl 0 rfl ?_
  refine mm_iload_n 2 rfl dX8_dries_1 rfl 1 rfl ?_
  refine mm_iconst 3 rfl (v := 0) dX8_dries_2 (by decide) ?_
  refine ca_X8_144 6 rfl dX8_dries_3 hN (ct_X8_of c1 0 h0) (by decide) (Nat.le_of_ble_eq_true rfl) (fun z_1 => ?_)
  refine mm_bI (fun x3_2 => ?_)
  refine mm_istore_n 7 rfl dX8_dries_6 rfl (lv' := [(3, .int x3_2), (0, .ref (mm_ad G 0)), (1, .int c1), (2, .int c2)]) (by decide) rfl ?_
  refine mm_iload_n 8 rfl dX8_dries_7 rfl 0 rfl ?_
  refine mm_iconst 9 rfl (v := 2) dX8_dries_8 (by decide) ?_
  refine mm_icmp_ne 12 18 rfl dX8_dries_9 (by decide) (fun h_3 => ?_) (fun h_3 => ?_)
  · refine mm_iload_n 19 rfl dX8_dries_18 rfl 0 rfl ?_
    refine mm_iconst 20 rfl (v := 3) dX8_dries_19 (by decide) ?_
    refine mm_icmp_ne 23 29 rfl dX8_dries_20 (by decide) (fun h_4 => ?_) (fun h_4 => ?_)
    · refine mm_iload_n 30 rfl dX8_dries_29 rfl 3 rfl ?_
      exact mm_iret dX8_dries_30 rfl rfl
    · refine mm_iconst 24 rfl (v := 2) dX8_dries_23 (by decide) ?_
      refine mm_iload_n 25 rfl dX8_dries_24 rfl 3 rfl ?_
      refine mm_imul 26 rfl dX8_dries_25 ?_
      refine mm_goto 30 dX8_dries_26 (by decide) ?_
      exact mm_iret dX8_dries_30 rfl rfl
  · refine mm_iload_n 13 rfl dX8_dries_12 rfl 3 rfl ?_
    refine mm_iconst 14 rfl (v := 2) dX8_dries_13 (by decide) ?_
    refine mm_idiv 15 rfl dX8_dries_14 (by decide) ?_
    refine mm_goto 30 dX8_dries_15 (by decide) ?_
    exact mm_iret dX8_dries_30 rfl rfl

-- MangleLineModel.boils()V
noncomputable def fn_X8_boils_L10 (c1 : Int32) (k : Int32 → mm_M → Option mm_M) : Nat → Int32 → Int32 → mm_M → Option mm_M
  | 0, _, _, _ => none
  | n + 1, x2, x3, M => (if (M 2 24) ≤ x3 then k x2 M else (if ((c1 >>> (x3 &&& 31)) &&& 1) = 1 then (if (M 2 26) ≤ x2 then fn_X8_boils_L10 c1 k n x2 (x3 + 1) M else ((fn_X8_of x3 1 M).bind fun z_6 => ((fn_X8_scrubs x3 z_6.2).bind fun z_7 => ((fn_X8_less z_6.1 z_7.1 z_7.2).bind fun z_8 => ((fn_X8_becomesOf x3 1 z_8.1 z_8.2).bind fun z_9 => ((fn_X8_becomesOf x3 2 (z_9 2 29) z_9).bind fun z_10 => ((fn_X8_manyAt 1 z_10).bind fun z_11 => (if (z_11.2 2 27) ≤ z_11.1 then ((fn_X8_becomesOf x3 3 0 z_11.2).bind fun z_13 => fn_X8_boils_L10 c1 k n (x2 + 1) (x3 + 1) z_13) else ((fn_X8_becomesOf x3 3 1 z_11.2).bind fun z_14 => fn_X8_boils_L10 c1 k n (x2 + 1) (x3 + 1) z_14))))))))) else fn_X8_boils_L10 c1 k n x2 (x3 + 1) M))
set_option maxRecDepth 20000 in
set_option maxHeartbeats 4000000 in
theorem th_X8_boils_L10 {X : mm_X} {G : mm_G} {sh : mm_S} {c1 : Int32} {k : Int32 → mm_M → Option mm_M} (h0 : mm_isMod G sh) (hk : ∀ (x2 : Int32) (M : mm_M), mm_T X G (cX8_boils, 4, RX8, none, 3) (mm_fv sh) sh M 109 [(0, .ref (mm_ad G 0)), (2, .int x2)] [] (k x2 M)) : ∀ (n : Nat) (x2 : Int32) (x3 : Int32) (M : mm_M), mm_T X G (cX8_boils, 4, RX8, none, 3) (mm_fv sh) sh M 10 [(0, .ref (mm_ad G 0)), (1, .int c1), (2, .int x2), (3, .int x3)] [] (fn_X8_boils_L10 c1 k n x2 x3 M) := by
  intro n
  induction n with
  | zero => intro x2 x3 M; exact mm_none
  | succ n ih =>
    intro x2 x3 M
    rw [fn_X8_boils_L10]
    obtain ⟨N, hN⟩ := h0.1
    refine mm_iload_n 11 rfl dX8_boils_10 rfl 3 rfl ?_
    refine mm_aload_n 12 rfl dX8_boils_11 rfl 0 rfl ?_
    refine gt_X8_13 15 rfl dX8_boils_12 hN ?_
    refine mm_bipush 17 rfl (v := 24) dX8_boils_15 (by decide) ?_
    refine mm_ialdK 18 rfl dX8_boils_17 h0.2.2.1 (by decide) 24 (by decide) ?_
    refine mm_icmp_ge 21 109 rfl dX8_boils_18 (by decide) (fun h_3 => ?_) (fun h_3 => ?_)
    · exact mm_lv [0, 2] rfl (hk _ _)
    · refine mm_iload_n 22 rfl dX8_boils_21 rfl 1 rfl ?_
      refine mm_iload_n 23 rfl dX8_boils_22 rfl 3 rfl ?_
      refine mm_ishr 24 rfl dX8_boils_23 ?_
      refine mm_iconst 25 rfl (v := 1) dX8_boils_24 (by decide) ?_
      refine mm_iand 26 rfl dX8_boils_25 ?_
      refine mm_iconst 27 rfl (v := 1) dX8_boils_26 (by decide) ?_
      refine mm_icmp_ne 30 103 rfl dX8_boils_27 (by decide) (fun h_4 => ?_) (fun h_4 => ?_)
      · refine mm_iinc 106 rfl dX8_boils_103 3 rfl (v := (x3 + 1)) rfl (lv' := [(3, .int (x3 + 1)), (0, .ref (mm_ad G 0)), (1, .int c1), (2, .int x2)]) (by decide) rfl ?_
        refine mm_goto 10 dX8_boils_106 (by decide) ?_
        exact mm_lv [1, 2, 3, 0] rfl (ih _ _ _)
      · refine mm_iload_n 31 rfl dX8_boils_30 rfl 2 rfl ?_
        refine mm_aload_n 32 rfl dX8_boils_31 rfl 0 rfl ?_
        refine gt_X8_13 35 rfl dX8_boils_32 hN ?_
        refine mm_bipush 37 rfl (v := 26) dX8_boils_35 (by decide) ?_
        refine mm_ialdK 38 rfl dX8_boils_37 h0.2.2.1 (by decide) 26 (by decide) ?_
        refine mm_icmp_ge 41 103 rfl dX8_boils_38 (by decide) (fun h_5 => ?_) (fun h_5 => ?_)
        · refine mm_iinc 106 rfl dX8_boils_103 3 rfl (v := (x3 + 1)) rfl (lv' := [(3, .int (x3 + 1)), (0, .ref (mm_ad G 0)), (1, .int c1), (2, .int x2)]) (by decide) rfl ?_
          refine mm_goto 10 dX8_boils_106 (by decide) ?_
          exact mm_lv [1, 2, 3, 0] rfl (ih _ _ _)
        · refine mm_iinc 44 rfl dX8_boils_41 2 rfl (v := (x2 + 1)) rfl (lv' := [(2, .int (x2 + 1)), (0, .ref (mm_ad G 0)), (1, .int c1), (3, .int x3)]) (by decide) rfl ?_
          refine mm_aload_n 45 rfl dX8_boils_44 rfl 1 rfl ?_
          refine mm_iload_n 46 rfl dX8_boils_45 rfl 3 rfl ?_
          refine mm_iconst 47 rfl (v := 1) dX8_boils_46 (by decide) ?_
          refine mm_aload_n 48 rfl dX8_boils_47 rfl 1 rfl ?_
          refine mm_iload_n 49 rfl dX8_boils_48 rfl 3 rfl ?_
          refine mm_iconst 50 rfl (v := 1) dX8_boils_49 (by decide) ?_
          refine ca_X8_144 53 rfl dX8_boils_50 hN (ct_X8_of x3 1 h0) (by decide) (Nat.le_of_ble_eq_true rfl) (fun z_6 => ?_)
          refine mm_aload_n 54 rfl dX8_boils_53 rfl 1 rfl ?_
          refine mm_iload_n 55 rfl dX8_boils_54 rfl 3 rfl ?_
          refine ca_X8_157 58 rfl dX8_boils_55 hN (ct_X8_scrubs x3 h0) (by decide) (Nat.le_of_ble_eq_true rfl) (fun z_7 => ?_)
          refine ca_X8_151 61 rfl dX8_boils_58 (ct_X8_less z_6.1 z_7.1 ) (by decide) (Nat.le_of_ble_eq_true rfl) (fun z_8 => ?_)
          refine ca_X8_160 64 rfl dX8_boils_61 hN (ct_X8_becomesOf x3 1 z_8.1 h0) (by decide) (Nat.le_of_ble_eq_true rfl) (fun z_9 => ?_)
          refine mm_aload_n 65 rfl dX8_boils_64 rfl 1 rfl ?_
          refine mm_iload_n 66 rfl dX8_boils_65 rfl 3 rfl ?_
          refine mm_iconst 67 rfl (v := 2) dX8_boils_66 (by decide) ?_
          refine mm_aload_n 68 rfl dX8_boils_67 rfl 1 rfl ?_
          refine gt_X8_13 71 rfl dX8_boils_68 hN ?_
          refine mm_bipush 73 rfl (v := 29) dX8_boils_71 (by decide) ?_
          refine mm_ialdK 74 rfl dX8_boils_73 h0.2.2.1 (by decide) 29 (by decide) ?_
          refine ca_X8_160 77 rfl dX8_boils_74 hN (ct_X8_becomesOf x3 2 (z_9 2 29) h0) (by decide) (Nat.le_of_ble_eq_true rfl) (fun z_10 => ?_)
          refine mm_aload_n 78 rfl dX8_boils_77 rfl 1 rfl ?_
          refine mm_iload_n 79 rfl dX8_boils_78 rfl 3 rfl ?_
          refine mm_iconst 80 rfl (v := 3) dX8_boils_79 (by decide) ?_
          refine mm_aload_n 81 rfl dX8_boils_80 rfl 1 rfl ?_
          refine mm_iconst 82 rfl (v := 1) dX8_boils_81 (by decide) ?_
          refine ca_X8_164 85 rfl dX8_boils_82 hN (ct_X8_manyAt 1 h0) (by decide) (Nat.le_of_ble_eq_true rfl) (fun z_11 => ?_)
          refine mm_aload_n 86 rfl dX8_boils_85 rfl 1 rfl ?_
          refine gt_X8_13 89 rfl dX8_boils_86 hN ?_
          refine mm_bipush 91 rfl (v := 27) dX8_boils_89 (by decide) ?_
          refine mm_ialdK 92 rfl dX8_boils_91 h0.2.2.1 (by decide) 27 (by decide) ?_
          refine mm_icmp_ge 95 99 rfl dX8_boils_92 (by decide) (fun h_12 => ?_) (fun h_12 => ?_)
          · refine mm_iconst 100 rfl (v := 0) dX8_boils_99 (by decide) ?_
            refine ca_X8_160 103 rfl dX8_boils_100 hN (ct_X8_becomesOf x3 3 0 h0) (by decide) (Nat.le_of_ble_eq_true rfl) (fun z_13 => ?_)
            refine mm_iinc 106 rfl dX8_boils_103 3 rfl (v := (x3 + 1)) rfl (lv' := [(3, .int (x3 + 1)), (2, .int (x2 + 1)), (0, .ref (mm_ad G 0)), (1, .int c1)]) (by decide) rfl ?_
            refine mm_goto 10 dX8_boils_106 (by decide) ?_
            exact mm_lv [2, 3, 1, 0] rfl (ih _ _ _)
          · refine mm_iconst 96 rfl (v := 1) dX8_boils_95 (by decide) ?_
            refine mm_goto 100 dX8_boils_96 (by decide) ?_
            refine ca_X8_160 103 rfl dX8_boils_100 hN (ct_X8_becomesOf x3 3 1 h0) (by decide) (Nat.le_of_ble_eq_true rfl) (fun z_14 => ?_)
            refine mm_iinc 106 rfl dX8_boils_103 3 rfl (v := (x3 + 1)) rfl (lv' := [(3, .int (x3 + 1)), (2, .int (x2 + 1)), (0, .ref (mm_ad G 0)), (1, .int c1)]) (by decide) rfl ?_
            refine mm_goto 10 dX8_boils_106 (by decide) ?_
            exact mm_lv [2, 3, 1, 0] rfl (ih _ _ _)
noncomputable def fn_X8_boils  (M : mm_M) : Option mm_M :=
  ((fn_X8_those 0 M).bind fun z_1 => mm_let z_1.1 fun x1_2 => fn_X8_boils_L10 x1_2 (fun x2_15 M_16 => mm_let (mm_up M_16 0 14 ((M_16 0 14) + x2_15)) fun M_18 => some M_18) mm_fu 0 0 z_1.2)
set_option maxRecDepth 20000 in
set_option maxHeartbeats 4000000 in
theorem ct_X8_boils {l : Launch} {G : mm_G} {sh : mm_S} {M : mm_M} (h0 : mm_isMod G sh) : mm_K l G yX8_boils (cX8_boils, 4, RX8, none, 3) [.ref (mm_ad G 0)] (mm_fv sh) sh M (fn_X8_boils  M) := by
  refine mm_met (by decide +kernel) rfl (Nat.le_of_ble_eq_true rfl) (fun X hX => ?_)
  subst hX
  show mm_T X G (cX8_boils, 4, RX8, none, 3) (mm_fv sh) sh M 0 [(0, .ref (mm_ad G 0))] [] (fn_X8_boils  M)
  unfold fn_X8_boils
  obtain ⟨N, hN⟩ := h0.1
  refine mm_aload_n 1 rfl dX8_boils_0 rfl 0 rfl ?_
  refine mm_iconst 2 rfl (v := 0) dX8_boils_1 (by decide) ?_
  refine ca_X8_154 5 rfl dX8_boils_2 hN (ct_X8_those 0 h0) (by decide) (Nat.le_of_ble_eq_true rfl) (fun z_1 => ?_)
  refine mm_bI (fun x1_2 => ?_)
  refine mm_istore_n 6 rfl dX8_boils_5 rfl (lv' := [(1, .int x1_2), (0, .ref (mm_ad G 0))]) (by decide) rfl ?_
  refine mm_iconst 7 rfl (v := 0) dX8_boils_6 (by decide) ?_
  refine mm_istore_n 8 rfl dX8_boils_7 rfl (lv' := [(2, .int 0), (1, .int x1_2), (0, .ref (mm_ad G 0))]) (by decide) rfl ?_
  refine mm_iconst 9 rfl (v := 0) dX8_boils_8 (by decide) ?_
  refine mm_istore_n 10 rfl dX8_boils_9 rfl (lv' := [(3, .int 0), (2, .int 0), (1, .int x1_2), (0, .ref (mm_ad G 0))]) (by decide) rfl ?_
  refine mm_lv [3, 2, 1, 0] rfl (th_X8_boils_L10 h0 (fun x2_15 M_16 => ?_) mm_fu _ _ _)
  refine mm_aload_n 110 rfl dX8_boils_109 rfl 0 rfl ?_
  refine mm_dup 111 rfl dX8_boils_110 rfl ?_
  refine gt_X8_138 114 rfl dX8_boils_111 hN ?_
  refine mm_iload_n 115 rfl dX8_boils_114 rfl 1 rfl ?_
  refine mm_iadd 116 rfl dX8_boils_115 ?_
  refine pt_X8_138 119 rfl dX8_boils_116 hN ?_
  refine mm_bM (fun M_18 => ?_)
  exact mm_vret dX8_boils_119 rfl rfl

-- MangleLineModel.hangs(II)V
noncomputable def fn_X8_hangs_B79    (x1 : Int32) (s0 : Int32) (M : mm_M) : Option mm_M :=
  (if s0 = 0 then ((fn_X8_becomesOf x1 3 0 M).bind fun z_15 => ((fn_X8_flag s0 z_15).bind fun z_16 => mm_let (mm_up z_16.2 0 15 ((z_15 0 15) + z_16.1)) fun M_17 => some M_17)) else ((fn_X8_becomesOf x1 3 2 M).bind fun z_18 => ((fn_X8_flag s0 z_18).bind fun z_19 => mm_let (mm_up z_19.2 0 15 ((z_18 0 15) + z_19.1)) fun M_20 => some M_20)))
set_option maxRecDepth 20000 in
set_option maxHeartbeats 4000000 in
theorem th_X8_hangs_B79 {X : mm_X} {G : mm_G} {sh : mm_S} (h0 : mm_isMod G sh) (x1 : Int32) (s0 : Int32) (M : mm_M) : mm_T X G (cX8_hangs, 4, RX8, none, 3) (mm_fv sh) sh M 79 [(0, .ref (mm_ad G 0)), (1, .int x1)] [.int s0] (fn_X8_hangs_B79  x1 s0 M) := by
  unfold fn_X8_hangs_B79
  obtain ⟨N, hN⟩ := h0.1
  refine mm_istore_n 80 rfl dX8_hangs_79 rfl (lv' := [(3, .int s0), (0, .ref (mm_ad G 0)), (1, .int x1)]) (by decide) rfl ?_
  refine mm_aload_n 81 rfl dX8_hangs_80 rfl 1 rfl ?_
  refine mm_iload_n 82 rfl dX8_hangs_81 rfl 2 rfl ?_
  refine mm_iconst 83 rfl (v := 3) dX8_hangs_82 (by decide) ?_
  refine mm_iload_n 84 rfl dX8_hangs_83 rfl 0 rfl ?_
  refine mm_if_eq 87 91 rfl dX8_hangs_84 (by decide) (fun h_14 => ?_) (fun h_14 => ?_)
  · refine mm_iconst 92 rfl (v := 0) dX8_hangs_91 (by decide) ?_
    refine ca_X8_160 95 rfl dX8_hangs_92 hN (ct_X8_becomesOf x1 3 0 h0) (by decide) (Nat.le_of_ble_eq_true rfl) (fun z_15 => ?_)
    refine mm_aload_n 96 rfl dX8_hangs_95 rfl 1 rfl ?_
    refine mm_dup 97 rfl dX8_hangs_96 rfl ?_
    refine gt_X8_141 100 rfl dX8_hangs_97 hN ?_
    refine mm_iload_n 101 rfl dX8_hangs_100 rfl 0 rfl ?_
    refine ca_X8_147 104 rfl dX8_hangs_101 (ct_X8_flag s0 ) (by decide) (Nat.le_of_ble_eq_true rfl) (fun z_16 => ?_)
    refine mm_iadd 105 rfl dX8_hangs_104 ?_
    refine pt_X8_141 108 rfl dX8_hangs_105 hN ?_
    refine mm_bM (fun M_17 => ?_)
    exact mm_vret dX8_hangs_108 rfl rfl
  · refine mm_iconst 88 rfl (v := 2) dX8_hangs_87 (by decide) ?_
    refine mm_goto 92 dX8_hangs_88 (by decide) ?_
    refine ca_X8_160 95 rfl dX8_hangs_92 hN (ct_X8_becomesOf x1 3 2 h0) (by decide) (Nat.le_of_ble_eq_true rfl) (fun z_18 => ?_)
    refine mm_aload_n 96 rfl dX8_hangs_95 rfl 1 rfl ?_
    refine mm_dup 97 rfl dX8_hangs_96 rfl ?_
    refine gt_X8_141 100 rfl dX8_hangs_97 hN ?_
    refine mm_iload_n 101 rfl dX8_hangs_100 rfl 0 rfl ?_
    refine ca_X8_147 104 rfl dX8_hangs_101 (ct_X8_flag s0 ) (by decide) (Nat.le_of_ble_eq_true rfl) (fun z_19 => ?_)
    refine mm_iadd 105 rfl dX8_hangs_104 ?_
    refine pt_X8_141 108 rfl dX8_hangs_105 hN ?_
    refine mm_bM (fun M_20 => ?_)
    exact mm_vret dX8_hangs_108 rfl rfl
noncomputable def fn_X8_hangs (c1 : Int32) (c2 : Int32) (M : mm_M) : Option mm_M :=
  ((fn_X8_of c1 2 M).bind fun z_1 => ((fn_X8_dries c1 c2 z_1.2).bind fun z_2 => ((fn_X8_less z_1.1 z_2.1 z_2.2).bind fun z_3 => ((fn_X8_becomesOf c1 2 z_3.1 z_3.2).bind fun z_4 => ((fn_X8_of c1 1 z_4).bind fun z_5 => (if c2 < 5 then ((fn_X8_flag 0 z_5.2).bind fun z_7 => ((fn_X8_less z_5.1 z_7.1 z_7.2).bind fun z_8 => ((fn_X8_becomesOf c1 1 z_8.1 z_8.2).bind fun z_9 => ((fn_X8_of c1 2 z_9).bind fun z_10 => (if z_10.1 = 0 then ((fn_X8_of c1 1 z_10.2).bind fun z_12 => (if (z_12.2 2 28) < z_12.1 then fn_X8_hangs_B79   c1 0 z_12.2 else fn_X8_hangs_B79   c1 1 z_12.2)) else some z_10.2))))) else ((fn_X8_flag 1 z_5.2).bind fun z_21 => ((fn_X8_less z_5.1 z_21.1 z_21.2).bind fun z_22 => ((fn_X8_becomesOf c1 1 z_22.1 z_22.2).bind fun z_23 => ((fn_X8_of c1 2 z_23).bind fun z_24 => (if z_24.1 = 0 then ((fn_X8_of c1 1 z_24.2).bind fun z_26 => (if (z_26.2 2 28) < z_26.1 then fn_X8_hangs_B79   c1 0 z_26.2 else fn_X8_hangs_B79   c1 1 z_26.2)) else some z_24.2)))))))))))
set_option maxRecDepth 20000 in
set_option maxHeartbeats 4000000 in
theorem ct_X8_hangs {l : Launch} {G : mm_G} {sh : mm_S} {M : mm_M} (c1 : Int32) (c2 : Int32) (h0 : mm_isMod G sh) : mm_K l G yX8_hangs (cX8_hangs, 4, RX8, none, 3) [.ref (mm_ad G 0), .int c1, .int c2] (mm_fv sh) sh M (fn_X8_hangs c1 c2 M) := by
  refine mm_met (by decide +kernel) rfl (Nat.le_of_ble_eq_true rfl) (fun X hX => ?_)
  subst hX
  show mm_T X G (cX8_hangs, 4, RX8, none, 3) (mm_fv sh) sh M 0 [(0, .ref (mm_ad G 0)), (1, .int c1), (2, .int c2)] [] (fn_X8_hangs c1 c2 M)
  unfold fn_X8_hangs
  obtain ⟨N, hN⟩ := h0.1
  refine mm_aload_n 1 rfl dX8_hangs_0 rfl 0 rfl ?_
  refine mm_iload_n 2 rfl dX8_hangs_1 rfl 1 rfl ?_
  refine mm_iconst 3 rfl (v := 2) dX8_hangs_2 (by decide) ?_
  refine mm_aload_n 4 rfl dX8_hangs_3 rfl 0 rfl ?_
  refine mm_iload_n 5 rfl dX8_hangs_4 rfl 1 rfl ?_
  refine mm_iconst 6 rfl (v := 2) dX8_hangs_5 (by decide) ?_
  refine ca_X8_144 9 rfl dX8_hangs_6 hN (ct_X8_of c1 2 h0) (by decide) (Nat.le_of_ble_eq_true rfl) (fun z_1 => ?_)
  refine mm_aload_n 10 rfl dX8_hangs_9 rfl 0 rfl ?_
  refine mm_iload_n 11 rfl dX8_hangs_10 rfl 1 rfl ?_
  refine mm_iload_n 12 rfl dX8_hangs_11 rfl 2 rfl ?_
  refine ca_X8_167 15 rfl dX8_hangs_12 hN (ct_X8_dries c1 c2 h0) (by decide) (Nat.le_of_ble_eq_true rfl) (fun z_2 => ?_)
  refine ca_X8_151 18 rfl dX8_hangs_15 (ct_X8_less z_1.1 z_2.1 ) (by decide) (Nat.le_of_ble_eq_true rfl) (fun z_3 => ?_)
  refine ca_X8_160 21 rfl dX8_hangs_18 hN (ct_X8_becomesOf c1 2 z_3.1 h0) (by decide) (Nat.le_of_ble_eq_true rfl) (fun z_4 => ?_)
  refine mm_aload_n 22 rfl dX8_hangs_21 rfl 0 rfl ?_
  refine mm_iload_n 23 rfl dX8_hangs_22 rfl 1 rfl ?_
  refine mm_iconst 24 rfl (v := 1) dX8_hangs_23 (by decide) ?_
  refine mm_aload_n 25 rfl dX8_hangs_24 rfl 0 rfl ?_
  refine mm_iload_n 26 rfl dX8_hangs_25 rfl 1 rfl ?_
  refine mm_iconst 27 rfl (v := 1) dX8_hangs_26 (by decide) ?_
  refine ca_X8_144 30 rfl dX8_hangs_27 hN (ct_X8_of c1 1 h0) (by decide) (Nat.le_of_ble_eq_true rfl) (fun z_5 => ?_)
  refine mm_iload_n 31 rfl dX8_hangs_30 rfl 2 rfl ?_
  refine mm_iconst 32 rfl (v := 5) dX8_hangs_31 (by decide) ?_
  refine mm_icmp_lt 35 39 rfl dX8_hangs_32 (by decide) (fun h_6 => ?_) (fun h_6 => ?_)
  · refine mm_iconst 40 rfl (v := 0) dX8_hangs_39 (by decide) ?_
    refine ca_X8_147 43 rfl dX8_hangs_40 (ct_X8_flag 0 ) (by decide) (Nat.le_of_ble_eq_true rfl) (fun z_7 => ?_)
    refine ca_X8_151 46 rfl dX8_hangs_43 (ct_X8_less z_5.1 z_7.1 ) (by decide) (Nat.le_of_ble_eq_true rfl) (fun z_8 => ?_)
    refine ca_X8_160 49 rfl dX8_hangs_46 hN (ct_X8_becomesOf c1 1 z_8.1 h0) (by decide) (Nat.le_of_ble_eq_true rfl) (fun z_9 => ?_)
    refine mm_aload_n 50 rfl dX8_hangs_49 rfl 0 rfl ?_
    refine mm_iload_n 51 rfl dX8_hangs_50 rfl 1 rfl ?_
    refine mm_iconst 52 rfl (v := 2) dX8_hangs_51 (by decide) ?_
    refine ca_X8_144 55 rfl dX8_hangs_52 hN (ct_X8_of c1 2 h0) (by decide) (Nat.le_of_ble_eq_true rfl) (fun z_10 => ?_)
    refine mm_if_ne 58 108 rfl dX8_hangs_55 (by decide) (fun h_11 => ?_) (fun h_11 => ?_)
    · exact mm_vret dX8_hangs_108 rfl rfl
    · refine mm_aload_n 59 rfl dX8_hangs_58 rfl 0 rfl ?_
      refine mm_iload_n 60 rfl dX8_hangs_59 rfl 1 rfl ?_
      refine mm_iconst 61 rfl (v := 1) dX8_hangs_60 (by decide) ?_
      refine ca_X8_144 64 rfl dX8_hangs_61 hN (ct_X8_of c1 1 h0) (by decide) (Nat.le_of_ble_eq_true rfl) (fun z_12 => ?_)
      refine mm_aload_n 65 rfl dX8_hangs_64 rfl 0 rfl ?_
      refine gt_X8_13 68 rfl dX8_hangs_65 hN ?_
      refine mm_bipush 70 rfl (v := 28) dX8_hangs_68 (by decide) ?_
      refine mm_ialdK 71 rfl dX8_hangs_70 h0.2.2.1 (by decide) 28 (by decide) ?_
      refine mm_icmp_gt 74 78 rfl dX8_hangs_71 (by decide) (fun h_13 => ?_) (fun h_13 => ?_)
      · refine mm_iconst 79 rfl (v := 0) dX8_hangs_78 (by decide) ?_
        exact mm_lv [0, 1] rfl (th_X8_hangs_B79 h0  _ _ _)
      · refine mm_iconst 75 rfl (v := 1) dX8_hangs_74 (by decide) ?_
        refine mm_goto 79 dX8_hangs_75 (by decide) ?_
        exact mm_lv [0, 1] rfl (th_X8_hangs_B79 h0  _ _ _)
  · refine mm_iconst 36 rfl (v := 1) dX8_hangs_35 (by decide) ?_
    refine mm_goto 40 dX8_hangs_36 (by decide) ?_
    refine ca_X8_147 43 rfl dX8_hangs_40 (ct_X8_flag 1 ) (by decide) (Nat.le_of_ble_eq_true rfl) (fun z_21 => ?_)
    refine ca_X8_151 46 rfl dX8_hangs_43 (ct_X8_less z_5.1 z_21.1 ) (by decide) (Nat.le_of_ble_eq_true rfl) (fun z_22 => ?_)
    refine ca_X8_160 49 rfl dX8_hangs_46 hN (ct_X8_becomesOf c1 1 z_22.1 h0) (by decide) (Nat.le_of_ble_eq_true rfl) (fun z_23 => ?_)
    refine mm_aload_n 50 rfl dX8_hangs_49 rfl 0 rfl ?_
    refine mm_iload_n 51 rfl dX8_hangs_50 rfl 1 rfl ?_
    refine mm_iconst 52 rfl (v := 2) dX8_hangs_51 (by decide) ?_
    refine ca_X8_144 55 rfl dX8_hangs_52 hN (ct_X8_of c1 2 h0) (by decide) (Nat.le_of_ble_eq_true rfl) (fun z_24 => ?_)
    refine mm_if_ne 58 108 rfl dX8_hangs_55 (by decide) (fun h_25 => ?_) (fun h_25 => ?_)
    · exact mm_vret dX8_hangs_108 rfl rfl
    · refine mm_aload_n 59 rfl dX8_hangs_58 rfl 0 rfl ?_
      refine mm_iload_n 60 rfl dX8_hangs_59 rfl 1 rfl ?_
      refine mm_iconst 61 rfl (v := 1) dX8_hangs_60 (by decide) ?_
      refine ca_X8_144 64 rfl dX8_hangs_61 hN (ct_X8_of c1 1 h0) (by decide) (Nat.le_of_ble_eq_true rfl) (fun z_26 => ?_)
      refine mm_aload_n 65 rfl dX8_hangs_64 rfl 0 rfl ?_
      refine gt_X8_13 68 rfl dX8_hangs_65 hN ?_
      refine mm_bipush 70 rfl (v := 28) dX8_hangs_68 (by decide) ?_
      refine mm_ialdK 71 rfl dX8_hangs_70 h0.2.2.1 (by decide) 28 (by decide) ?_
      refine mm_icmp_gt 74 78 rfl dX8_hangs_71 (by decide) (fun h_27 => ?_) (fun h_27 => ?_)
      · refine mm_iconst 79 rfl (v := 0) dX8_hangs_78 (by decide) ?_
        exact mm_lv [0, 1] rfl (th_X8_hangs_B79 h0  _ _ _)
      · refine mm_iconst 75 rfl (v := 1) dX8_hangs_74 (by decide) ?_
        refine mm_goto 79 dX8_hangs_75 (by decide) ?_
        exact mm_lv [0, 1] rfl (th_X8_hangs_B79 h0  _ _ _)

-- MangleLineModel.dayGoesBy(I)V
noncomputable def fn_X8_dayGoesBy_L6 (c1 : Int32) (k : mm_M → Option mm_M) : Nat → Int32 → mm_M → Option mm_M
  | 0, _, _ => none
  | n + 1, x2, M => (if (M 2 24) ≤ x2 then k  M else ((fn_X8_of x2 3 M).bind fun z_3 => (if z_3.1 = 1 then ((fn_X8_hangs x2 c1 z_3.2).bind fun z_5 => fn_X8_dayGoesBy_L6 c1 k n (x2 + 1) z_5) else fn_X8_dayGoesBy_L6 c1 k n (x2 + 1) z_3.2)))
set_option maxRecDepth 20000 in
set_option maxHeartbeats 4000000 in
theorem th_X8_dayGoesBy_L6 {X : mm_X} {G : mm_G} {sh : mm_S} {c1 : Int32} {k : mm_M → Option mm_M} (h0 : mm_isMod G sh) (hk : ∀ (M : mm_M), mm_T X G (cX8_dayGoesBy, 3, RX8, none, 4) (mm_fv sh) sh M 39 [(0, .ref (mm_ad G 0))] [] (k  M)) : ∀ (n : Nat) (x2 : Int32) (M : mm_M), mm_T X G (cX8_dayGoesBy, 3, RX8, none, 4) (mm_fv sh) sh M 6 [(0, .ref (mm_ad G 0)), (1, .int c1), (2, .int x2)] [] (fn_X8_dayGoesBy_L6 c1 k n x2 M) := by
  intro n
  induction n with
  | zero => intro x2 M; exact mm_none
  | succ n ih =>
    intro x2 M
    rw [fn_X8_dayGoesBy_L6]
    obtain ⟨N, hN⟩ := h0.1
    refine mm_iload_n 7 rfl dX8_dayGoesBy_6 rfl 2 rfl ?_
    refine mm_aload_n 8 rfl dX8_dayGoesBy_7 rfl 0 rfl ?_
    refine gt_X8_13 11 rfl dX8_dayGoesBy_8 hN ?_
    refine mm_bipush 13 rfl (v := 24) dX8_dayGoesBy_11 (by decide) ?_
    refine mm_ialdK 14 rfl dX8_dayGoesBy_13 h0.2.2.1 (by decide) 24 (by decide) ?_
    refine mm_icmp_ge 17 39 rfl dX8_dayGoesBy_14 (by decide) (fun h_2 => ?_) (fun h_2 => ?_)
    · exact mm_lv [0] rfl (hk _)
    · refine mm_aload_n 18 rfl dX8_dayGoesBy_17 rfl 0 rfl ?_
      refine mm_iload_n 19 rfl dX8_dayGoesBy_18 rfl 2 rfl ?_
      refine mm_iconst 20 rfl (v := 3) dX8_dayGoesBy_19 (by decide) ?_
      refine ca_X8_144 23 rfl dX8_dayGoesBy_20 hN (ct_X8_of x2 3 h0) (by decide) (Nat.le_of_ble_eq_true rfl) (fun z_3 => ?_)
      refine mm_iconst 24 rfl (v := 1) dX8_dayGoesBy_23 (by decide) ?_
      refine mm_icmp_ne 27 33 rfl dX8_dayGoesBy_24 (by decide) (fun h_4 => ?_) (fun h_4 => ?_)
      · refine mm_iinc 36 rfl dX8_dayGoesBy_33 2 rfl (v := (x2 + 1)) rfl (lv' := [(2, .int (x2 + 1)), (0, .ref (mm_ad G 0)), (1, .int c1)]) (by decide) rfl ?_
        refine mm_goto 6 dX8_dayGoesBy_36 (by decide) ?_
        exact mm_lv [1, 2, 0] rfl (ih _ _)
      · refine mm_aload_n 28 rfl dX8_dayGoesBy_27 rfl 0 rfl ?_
        refine mm_iload_n 29 rfl dX8_dayGoesBy_28 rfl 2 rfl ?_
        refine mm_iload_n 30 rfl dX8_dayGoesBy_29 rfl 1 rfl ?_
        refine ca_X8_173 33 rfl dX8_dayGoesBy_30 hN (ct_X8_hangs x2 c1 h0) (by decide) (Nat.le_of_ble_eq_true rfl) (fun z_5 => ?_)
        refine mm_iinc 36 rfl dX8_dayGoesBy_33 2 rfl (v := (x2 + 1)) rfl (lv' := [(2, .int (x2 + 1)), (0, .ref (mm_ad G 0)), (1, .int c1)]) (by decide) rfl ?_
        refine mm_goto 6 dX8_dayGoesBy_36 (by decide) ?_
        exact mm_lv [1, 2, 0] rfl (ih _ _)
noncomputable def fn_X8_dayGoesBy (c1 : Int32) (M : mm_M) : Option mm_M :=
  ((fn_X8_boils  M).bind fun z_1 => fn_X8_dayGoesBy_L6 c1 (fun M_6 => mm_let (mm_up M_6 2 37 ((M_6 2 37) + 1)) fun M_8 => some M_8) mm_fu 0 z_1)
set_option maxRecDepth 20000 in
set_option maxHeartbeats 4000000 in
theorem ct_X8_dayGoesBy {l : Launch} {G : mm_G} {sh : mm_S} {M : mm_M} (c1 : Int32) (h0 : mm_isMod G sh) : mm_K l G yX8_dayGoesBy (cX8_dayGoesBy, 3, RX8, none, 4) [.ref (mm_ad G 0), .int c1] (mm_fv sh) sh M (fn_X8_dayGoesBy c1 M) := by
  refine mm_met (by decide +kernel) rfl (Nat.le_of_ble_eq_true rfl) (fun X hX => ?_)
  subst hX
  show mm_T X G (cX8_dayGoesBy, 3, RX8, none, 4) (mm_fv sh) sh M 0 [(0, .ref (mm_ad G 0)), (1, .int c1)] [] (fn_X8_dayGoesBy c1 M)
  unfold fn_X8_dayGoesBy
  obtain ⟨N, hN⟩ := h0.1
  refine mm_aload_n 1 rfl dX8_dayGoesBy_0 rfl 0 rfl ?_
  refine ca_X8_170 4 rfl dX8_dayGoesBy_1 hN (ct_X8_boils  h0) (by decide) (Nat.le_of_ble_eq_true rfl) (fun z_1 => ?_)
  refine mm_iconst 5 rfl (v := 0) dX8_dayGoesBy_4 (by decide) ?_
  refine mm_istore_n 6 rfl dX8_dayGoesBy_5 rfl (lv' := [(2, .int 0), (0, .ref (mm_ad G 0)), (1, .int c1)]) (by decide) rfl ?_
  refine mm_lv [1, 2, 0] rfl (th_X8_dayGoesBy_L6 h0 (fun M_6 => ?_) mm_fu _ _)
  refine mm_aload_n 40 rfl dX8_dayGoesBy_39 rfl 0 rfl ?_
  refine gt_X8_13 43 rfl dX8_dayGoesBy_40 hN ?_
  refine mm_bipush 45 rfl (v := 37) dX8_dayGoesBy_43 (by decide) ?_
  refine mm_dup2 46 rfl dX8_dayGoesBy_45 rfl rfl ?_
  refine mm_ialdK 47 rfl dX8_dayGoesBy_46 h0.2.2.1 (by decide) 37 (by decide) ?_
  refine mm_iconst 48 rfl (v := 1) dX8_dayGoesBy_47 (by decide) ?_
  refine mm_iadd 49 rfl dX8_dayGoesBy_48 ?_
  refine mm_iastK 50 rfl dX8_dayGoesBy_49 h0.2.2.1 (by decide) 37 (by decide) ?_
  refine mm_bM (fun M_8 => ?_)
  exact mm_vret dX8_dayGoesBy_50 rfl rfl

-- MangleLineModel.sunNow()I
noncomputable def fn_X8_sunNow  (M : mm_M) : Option (Int32 × mm_M) :=
  (if mm_in (30 + ((M 2 37) - (M 2 37) / 7 * 7)) 57 then some ((M 2 (30 + ((M 2 37) - (M 2 37) / 7 * 7)).toNatClampNeg), M) else none)
set_option maxRecDepth 20000 in
set_option maxHeartbeats 4000000 in
theorem ct_X8_sunNow {l : Launch} {G : mm_G} {sh : mm_S} {M : mm_M} (h0 : mm_isMod G sh) : mm_K l G yX8_sunNow (cX8_sunNow, 1, RX8, (some .int), 1) [.ref (mm_ad G 0)] (mm_fi sh) sh M (fn_X8_sunNow  M) := by
  refine mm_met (by decide +kernel) rfl (Nat.le_of_ble_eq_true rfl) (fun X hX => ?_)
  subst hX
  show mm_T X G (cX8_sunNow, 1, RX8, (some .int), 1) (mm_fi sh) sh M 0 [(0, .ref (mm_ad G 0))] [] (fn_X8_sunNow  M)
  unfold fn_X8_sunNow
  obtain ⟨N, hN⟩ := h0.1
  refine mm_aload_n 1 rfl dX8_sunNow_0 rfl 0 rfl ?_
  refine gt_X8_13 4 rfl dX8_sunNow_1 hN ?_
  refine mm_bipush 6 rfl (v := 30) dX8_sunNow_4 (by decide) ?_
  refine mm_aload_n 7 rfl dX8_sunNow_6 rfl 0 rfl ?_
  refine gt_X8_13 10 rfl dX8_sunNow_7 hN ?_
  refine mm_bipush 12 rfl (v := 37) dX8_sunNow_10 (by decide) ?_
  refine mm_ialdK 13 rfl dX8_sunNow_12 h0.2.2.1 (by decide) 37 (by decide) ?_
  refine mm_bipush 15 rfl (v := 7) dX8_sunNow_13 (by decide) ?_
  refine mm_irem 16 rfl dX8_sunNow_15 (by decide) ?_
  refine mm_iadd 17 rfl dX8_sunNow_16 ?_
  refine mm_iald 18 rfl dX8_sunNow_17 h0.2.2.1 (fun h_1 => ?_)
  exact mm_iret dX8_sunNow_18 rfl rfl

-- MangleLineModel.daysGo(I)V
noncomputable def fn_X8_daysGo_L2 (c1 : Int32) (k : mm_M → Option mm_M) : Nat → Int32 → mm_M → Option mm_M
  | 0, _, _ => none
  | n + 1, x2, M => (if c1 ≤ x2 then k  M else ((fn_X8_sunNow  M).bind fun z_2 => ((fn_X8_dayGoesBy z_2.1 z_2.2).bind fun z_3 => fn_X8_daysGo_L2 c1 k n (x2 + 1) z_3)))
set_option maxRecDepth 20000 in
set_option maxHeartbeats 4000000 in
theorem th_X8_daysGo_L2 {X : mm_X} {G : mm_G} {sh : mm_S} {c1 : Int32} {k : mm_M → Option mm_M} (h0 : mm_isMod G sh) (hk : ∀ (M : mm_M), mm_T X G (cX8_daysGo, 3, RX8, none, 5) (mm_fv sh) sh M 21 [] [] (k  M)) : ∀ (n : Nat) (x2 : Int32) (M : mm_M), mm_T X G (cX8_daysGo, 3, RX8, none, 5) (mm_fv sh) sh M 2 [(0, .ref (mm_ad G 0)), (1, .int c1), (2, .int x2)] [] (fn_X8_daysGo_L2 c1 k n x2 M) := by
  intro n
  induction n with
  | zero => intro x2 M; exact mm_none
  | succ n ih =>
    intro x2 M
    rw [fn_X8_daysGo_L2]
    obtain ⟨N, hN⟩ := h0.1
    refine mm_iload_n 3 rfl dX8_daysGo_2 rfl 2 rfl ?_
    refine mm_iload_n 4 rfl dX8_daysGo_3 rfl 1 rfl ?_
    refine mm_icmp_ge 7 21 rfl dX8_daysGo_4 (by decide) (fun h_1 => ?_) (fun h_1 => ?_)
    · exact mm_lv [] rfl (hk _)
    · refine mm_aload_n 8 rfl dX8_daysGo_7 rfl 0 rfl ?_
      refine mm_aload_n 9 rfl dX8_daysGo_8 rfl 0 rfl ?_
      refine ca_X8_177 12 rfl dX8_daysGo_9 hN (ct_X8_sunNow  h0) (by decide) (Nat.le_of_ble_eq_true rfl) (fun z_2 => ?_)
      refine ca_X8_180 15 rfl dX8_daysGo_12 hN (ct_X8_dayGoesBy z_2.1 h0) (by decide) (Nat.le_of_ble_eq_true rfl) (fun z_3 => ?_)
      refine mm_iinc 18 rfl dX8_daysGo_15 2 rfl (v := (x2 + 1)) rfl (lv' := [(2, .int (x2 + 1)), (0, .ref (mm_ad G 0)), (1, .int c1)]) (by decide) rfl ?_
      refine mm_goto 2 dX8_daysGo_18 (by decide) ?_
      exact mm_lv [1, 2, 0] rfl (ih _ _)
noncomputable def fn_X8_daysGo (c1 : Int32) (M : mm_M) : Option mm_M :=
  fn_X8_daysGo_L2 c1 (fun M_4 => some M_4) mm_fu 0 M
set_option maxRecDepth 20000 in
set_option maxHeartbeats 4000000 in
theorem ct_X8_daysGo {l : Launch} {G : mm_G} {sh : mm_S} {M : mm_M} (c1 : Int32) (h0 : mm_isMod G sh) : mm_K l G yX8_daysGo (cX8_daysGo, 3, RX8, none, 5) [.ref (mm_ad G 0), .int c1] (mm_fv sh) sh M (fn_X8_daysGo c1 M) := by
  refine mm_met (by decide +kernel) rfl (Nat.le_of_ble_eq_true rfl) (fun X hX => ?_)
  subst hX
  show mm_T X G (cX8_daysGo, 3, RX8, none, 5) (mm_fv sh) sh M 0 [(0, .ref (mm_ad G 0)), (1, .int c1)] [] (fn_X8_daysGo c1 M)
  unfold fn_X8_daysGo
  obtain ⟨N, hN⟩ := h0.1
  refine mm_iconst 1 rfl (v := 0) dX8_daysGo_0 (by decide) ?_
  refine mm_istore_n 2 rfl dX8_daysGo_1 rfl (lv' := [(2, .int 0), (0, .ref (mm_ad G 0)), (1, .int c1)]) (by decide) rfl ?_
  refine mm_lv [1, 2, 0] rfl (th_X8_daysGo_L2 h0 (fun M_4 => ?_) mm_fu _ _)
  exact mm_vret dX8_daysGo_21 rfl rfl

-- MangleLineModel.isDone()Z
noncomputable def fn_X8_isDone  (M : mm_M) : Option (Int32 × mm_M) :=
  ((fn_X8_manyAt 2 M).bind fun z_1 => (if z_1.1 = (z_1.2 2 24) then some (1, z_1.2) else some (0, z_1.2)))
set_option maxRecDepth 20000 in
set_option maxHeartbeats 4000000 in
theorem ct_X8_isDone {l : Launch} {G : mm_G} {sh : mm_S} {M : mm_M} (h0 : mm_isMod G sh) : mm_K l G yX8_isDone (cX8_isDone, 1, RX8, (some .boolean), 3) [.ref (mm_ad G 0)] (mm_fi sh) sh M (fn_X8_isDone  M) := by
  refine mm_met (by decide +kernel) rfl (Nat.le_of_ble_eq_true rfl) (fun X hX => ?_)
  subst hX
  show mm_T X G (cX8_isDone, 1, RX8, (some .boolean), 3) (mm_fi sh) sh M 0 [(0, .ref (mm_ad G 0))] [] (fn_X8_isDone  M)
  unfold fn_X8_isDone
  obtain ⟨N, hN⟩ := h0.1
  refine mm_aload_n 1 rfl dX8_isDone_0 rfl 0 rfl ?_
  refine mm_iconst 2 rfl (v := 2) dX8_isDone_1 (by decide) ?_
  refine ca_X8_164 5 rfl dX8_isDone_2 hN (ct_X8_manyAt 2 h0) (by decide) (Nat.le_of_ble_eq_true rfl) (fun z_1 => ?_)
  refine mm_aload_n 6 rfl dX8_isDone_5 rfl 0 rfl ?_
  refine gt_X8_13 9 rfl dX8_isDone_6 hN ?_
  refine mm_bipush 11 rfl (v := 24) dX8_isDone_9 (by decide) ?_
  refine mm_ialdK 12 rfl dX8_isDone_11 h0.2.2.1 (by decide) 24 (by decide) ?_
  refine mm_icmp_ne 15 19 rfl dX8_isDone_12 (by decide) (fun h_2 => ?_) (fun h_2 => ?_)
  · refine mm_iconst 20 rfl (v := 0) dX8_isDone_19 (by decide) ?_
    exact mm_zretK dX8_isDone_20 rfl rfl rfl
  · refine mm_iconst 16 rfl (v := 1) dX8_isDone_15 (by decide) ?_
    refine mm_goto 20 dX8_isDone_16 (by decide) ?_
    exact mm_zretK dX8_isDone_20 rfl rfl rfl

-- MangleLineModel.rule(I)I
noncomputable def fn_X8_rule (c1 : Int32) (M : mm_M) : Option (Int32 × mm_M) :=
  ((fn_X8_starts  M).bind fun z_1 => (if c1 = 0 then some ((z_1 1 24), z_1) else (if c1 = 1 then some ((z_1 1 37), z_1) else (if c1 = 2 then ((fn_X8_those 0 z_1).bind fun z_5 => some (z_5.1, z_5.2)) else (if c1 = 3 then ((fn_X8_those 1 z_1).bind fun z_7 => some (z_7.1, z_7.2)) else (if c1 = 4 then ((fn_X8_those 2 z_1).bind fun z_9 => some (z_9.1, z_9.2)) else (if c1 = 5 then ((fn_X8_sumOf 1 z_1).bind fun z_11 => some (z_11.1, z_11.2)) else (if c1 = 6 then ((fn_X8_sunNow  z_1).bind fun z_13 => some (z_13.1, z_13.2)) else some ((-1), z_1)))))))))
set_option maxRecDepth 20000 in
set_option maxHeartbeats 4000000 in
theorem ct_X8_rule {l : Launch} {G : mm_G} {sh : mm_S} {M : mm_M} (c1 : Int32) (h0 : mm_isMod G sh) : mm_K l G yX8_rule (cX8_rule, 2, RX8, (some .int), 3) [.ref (mm_ad G 0), .int c1] (mm_fi sh) sh M (fn_X8_rule c1 M) := by
  refine mm_met (by decide +kernel) rfl (Nat.le_of_ble_eq_true rfl) (fun X hX => ?_)
  subst hX
  show mm_T X G (cX8_rule, 2, RX8, (some .int), 3) (mm_fi sh) sh M 0 [(0, .ref (mm_ad G 0)), (1, .int c1)] [] (fn_X8_rule c1 M)
  unfold fn_X8_rule
  obtain ⟨N, hN⟩ := h0.1
  refine mm_aload_n 1 rfl dX8_rule_0 rfl 0 rfl ?_
  refine ca_X8_183 4 rfl dX8_rule_1 hN (ct_X8_starts  h0) (by decide) (Nat.le_of_ble_eq_true rfl) (fun z_1 => ?_)
  refine mm_iload_n 5 rfl dX8_rule_4 rfl 1 rfl ?_
  refine mm_ite (fun h_2 => ?_) (fun h_2 => ?_)
  · refine mm_tabIn 48 0 h_2 dX8_rule_5 (by decide) (by decide) rfl (by decide) ?_
    refine mm_aload_n 49 rfl dX8_rule_48 rfl 0 rfl ?_
    refine gt_X8_7 52 rfl dX8_rule_49 hN ?_
    refine mm_bipush 54 rfl (v := 24) dX8_rule_52 (by decide) ?_
    refine mm_ialdK 55 rfl dX8_rule_54 h0.2.1 (by decide) 24 (by decide) ?_
    exact mm_iret dX8_rule_55 rfl rfl
  · refine mm_ite (fun h_3 => ?_) (fun h_3 => ?_)
    · refine mm_tabIn 56 1 h_3 dX8_rule_5 (by decide) (by decide) rfl (by decide) ?_
      refine mm_aload_n 57 rfl dX8_rule_56 rfl 0 rfl ?_
      refine gt_X8_7 60 rfl dX8_rule_57 hN ?_
      refine mm_bipush 62 rfl (v := 37) dX8_rule_60 (by decide) ?_
      refine mm_ialdK 63 rfl dX8_rule_62 h0.2.1 (by decide) 37 (by decide) ?_
      exact mm_iret dX8_rule_63 rfl rfl
    · refine mm_ite (fun h_4 => ?_) (fun h_4 => ?_)
      · refine mm_tabIn 64 2 h_4 dX8_rule_5 (by decide) (by decide) rfl (by decide) ?_
        refine mm_aload_n 65 rfl dX8_rule_64 rfl 0 rfl ?_
        refine mm_iconst 66 rfl (v := 0) dX8_rule_65 (by decide) ?_
        refine ca_X8_154 69 rfl dX8_rule_66 hN (ct_X8_those 0 h0) (by decide) (Nat.le_of_ble_eq_true rfl) (fun z_5 => ?_)
        exact mm_iret dX8_rule_69 rfl rfl
      · refine mm_ite (fun h_6 => ?_) (fun h_6 => ?_)
        · refine mm_tabIn 70 3 h_6 dX8_rule_5 (by decide) (by decide) rfl (by decide) ?_
          refine mm_aload_n 71 rfl dX8_rule_70 rfl 0 rfl ?_
          refine mm_iconst 72 rfl (v := 1) dX8_rule_71 (by decide) ?_
          refine ca_X8_154 75 rfl dX8_rule_72 hN (ct_X8_those 1 h0) (by decide) (Nat.le_of_ble_eq_true rfl) (fun z_7 => ?_)
          exact mm_iret dX8_rule_75 rfl rfl
        · refine mm_ite (fun h_8 => ?_) (fun h_8 => ?_)
          · refine mm_tabIn 76 4 h_8 dX8_rule_5 (by decide) (by decide) rfl (by decide) ?_
            refine mm_aload_n 77 rfl dX8_rule_76 rfl 0 rfl ?_
            refine mm_iconst 78 rfl (v := 2) dX8_rule_77 (by decide) ?_
            refine ca_X8_154 81 rfl dX8_rule_78 hN (ct_X8_those 2 h0) (by decide) (Nat.le_of_ble_eq_true rfl) (fun z_9 => ?_)
            exact mm_iret dX8_rule_81 rfl rfl
          · refine mm_ite (fun h_10 => ?_) (fun h_10 => ?_)
            · refine mm_tabIn 82 5 h_10 dX8_rule_5 (by decide) (by decide) rfl (by decide) ?_
              refine mm_aload_n 83 rfl dX8_rule_82 rfl 0 rfl ?_
              refine mm_iconst 84 rfl (v := 1) dX8_rule_83 (by decide) ?_
              refine ca_X8_186 87 rfl dX8_rule_84 hN (ct_X8_sumOf 1 h0) (by decide) (Nat.le_of_ble_eq_true rfl) (fun z_11 => ?_)
              exact mm_iret dX8_rule_87 rfl rfl
            · refine mm_ite (fun h_12 => ?_) (fun h_12 => ?_)
              · refine mm_tabIn 88 6 h_12 dX8_rule_5 (by decide) (by decide) rfl (by decide) ?_
                refine mm_aload_n 89 rfl dX8_rule_88 rfl 0 rfl ?_
                refine ca_X8_177 92 rfl dX8_rule_89 hN (ct_X8_sunNow  h0) (by decide) (Nat.le_of_ble_eq_true rfl) (fun z_13 => ?_)
                exact mm_iret dX8_rule_92 rfl rfl
              · refine mm_tabOut 93 dX8_rule_5 (mm_out 0 7 (by decide) (fun j hj => by match j, hj with | 0, _ => exact h_2 | 1, _ => exact h_3 | 2, _ => exact h_4 | 3, _ => exact h_6 | 4, _ => exact h_8 | 5, _ => exact h_10 | 6, _ => exact h_12) rfl rfl) (by decide) ?_
                refine mm_iconst 94 rfl (v := (-1)) dX8_rule_93 (by decide) ?_
                exact mm_iret dX8_rule_94 rfl rfl

-- MangleLineModel.told(I)I
noncomputable def fn_X8_told (c1 : Int32) (M : mm_M) : Option (Int32 × mm_M) :=
  ((fn_X8_in c1.toInt64 0 4 M).bind fun z_1 => (if z_1.1 = 0 then some ((-1), z_1.2) else (if mm_in (25 + c1) 171 then some ((z_1.2 1 (25 + c1).toNatClampNeg), z_1.2) else none)))
set_option maxRecDepth 20000 in
set_option maxHeartbeats 4000000 in
theorem ct_X8_told {l : Launch} {G : mm_G} {sh : mm_S} {M : mm_M} (c1 : Int32) (h0 : mm_isMod G sh) : mm_K l G yX8_told (cX8_told, 2, RX8, (some .int), 2) [.ref (mm_ad G 0), .int c1] (mm_fi sh) sh M (fn_X8_told c1 M) := by
  refine mm_met (by decide +kernel) rfl (Nat.le_of_ble_eq_true rfl) (fun X hX => ?_)
  subst hX
  show mm_T X G (cX8_told, 2, RX8, (some .int), 2) (mm_fi sh) sh M 0 [(0, .ref (mm_ad G 0)), (1, .int c1)] [] (fn_X8_told c1 M)
  unfold fn_X8_told
  obtain ⟨N, hN⟩ := h0.1
  refine mm_iload_n 1 rfl dX8_told_0 rfl 1 rfl ?_
  refine mm_i2l 2 rfl dX8_told_1 ?_
  refine mm_lconst 3 rfl (v := 0) dX8_told_2 (by decide) ?_
  refine mm_ldc2 6 rfl (v := 4) dX8_told_3 mw_5_27 ?_
  refine ca_X8_59 9 rfl dX8_told_6 (ct_X8_in c1.toInt64 0 4 ) (by decide) (Nat.le_of_ble_eq_true rfl) (fun z_1 => ?_)
  refine mm_if_eq 12 24 rfl dX8_told_9 (by decide) (fun h_2 => ?_) (fun h_2 => ?_)
  · refine mm_iconst 25 rfl (v := (-1)) dX8_told_24 (by decide) ?_
    exact mm_iret dX8_told_25 rfl rfl
  · refine mm_aload_n 13 rfl dX8_told_12 rfl 0 rfl ?_
    refine gt_X8_7 16 rfl dX8_told_13 hN ?_
    refine mm_bipush 18 rfl (v := 25) dX8_told_16 (by decide) ?_
    refine mm_iload_n 19 rfl dX8_told_18 rfl 1 rfl ?_
    refine mm_iadd 20 rfl dX8_told_19 ?_
    refine mm_iald 21 rfl dX8_told_20 h0.2.1 (fun h_3 => ?_)
    refine mm_goto 25 dX8_told_21 (by decide) ?_
    exact mm_iret dX8_told_25 rfl rfl

-- MangleLineModel.one(II)I
noncomputable def fn_X8_one (c1 : Int32) (c2 : Int32) (M : mm_M) : Option (Int32 × mm_M) :=
  ((fn_X8_isOne c1 M).bind fun z_1 => (if z_1.1 = 0 then some ((-1), z_1.2) else ((fn_X8_starts  z_1.2).bind fun z_3 => (if c2 = 0 then ((fn_X8_of c1 c2 z_3).bind fun z_5 => some (z_5.1, z_5.2)) else (if c2 = 1 then ((fn_X8_of c1 c2 z_3).bind fun z_7 => some (z_7.1, z_7.2)) else (if c2 = 2 then ((fn_X8_of c1 c2 z_3).bind fun z_9 => some (z_9.1, z_9.2)) else (if c2 = 3 then ((fn_X8_of c1 c2 z_3).bind fun z_11 => some (z_11.1, z_11.2)) else (if c2 = 4 then ((fn_X8_scrubs c1 z_3).bind fun z_13 => some (z_13.1, z_13.2)) else (if c2 = 5 then ((fn_X8_sunNow  z_3).bind fun z_15 => ((fn_X8_dries c1 z_15.1 z_15.2).bind fun z_16 => some (z_16.1, z_16.2))) else some ((-1), z_3))))))))))
set_option maxRecDepth 20000 in
set_option maxHeartbeats 4000000 in
theorem ct_X8_one {l : Launch} {G : mm_G} {sh : mm_S} {M : mm_M} (c1 : Int32) (c2 : Int32) (h0 : mm_isMod G sh) : mm_K l G yX8_one (cX8_one, 3, RX8, (some .int), 3) [.ref (mm_ad G 0), .int c1, .int c2] (mm_fi sh) sh M (fn_X8_one c1 c2 M) := by
  refine mm_met (by decide +kernel) rfl (Nat.le_of_ble_eq_true rfl) (fun X hX => ?_)
  subst hX
  show mm_T X G (cX8_one, 3, RX8, (some .int), 3) (mm_fi sh) sh M 0 [(0, .ref (mm_ad G 0)), (1, .int c1), (2, .int c2)] [] (fn_X8_one c1 c2 M)
  unfold fn_X8_one
  obtain ⟨N, hN⟩ := h0.1
  refine mm_aload_n 1 rfl dX8_one_0 rfl 0 rfl ?_
  refine mm_iload_n 2 rfl dX8_one_1 rfl 1 rfl ?_
  refine ca_X8_191 5 rfl dX8_one_2 hN (ct_X8_isOne c1 h0) (by decide) (Nat.le_of_ble_eq_true rfl) (fun z_1 => ?_)
  refine mm_if_ne 8 10 rfl dX8_one_5 (by decide) (fun h_2 => ?_) (fun h_2 => ?_)
  · refine mm_aload_n 11 rfl dX8_one_10 rfl 0 rfl ?_
    refine ca_X8_183 14 rfl dX8_one_11 hN (ct_X8_starts  h0) (by decide) (Nat.le_of_ble_eq_true rfl) (fun z_3 => ?_)
    refine mm_iload_n 15 rfl dX8_one_14 rfl 2 rfl ?_
    refine mm_ite (fun h_4 => ?_) (fun h_4 => ?_)
    · refine mm_tabIn 52 0 h_4 dX8_one_15 (by decide) (by decide) rfl (by decide) ?_
      refine mm_aload_n 53 rfl dX8_one_52 rfl 0 rfl ?_
      refine mm_iload_n 54 rfl dX8_one_53 rfl 1 rfl ?_
      refine mm_iload_n 55 rfl dX8_one_54 rfl 2 rfl ?_
      refine ca_X8_144 58 rfl dX8_one_55 hN (ct_X8_of c1 c2 h0) (by decide) (Nat.le_of_ble_eq_true rfl) (fun z_5 => ?_)
      exact mm_iret dX8_one_58 rfl rfl
    · refine mm_ite (fun h_6 => ?_) (fun h_6 => ?_)
      · refine mm_tabIn 52 1 h_6 dX8_one_15 (by decide) (by decide) rfl (by decide) ?_
        refine mm_aload_n 53 rfl dX8_one_52 rfl 0 rfl ?_
        refine mm_iload_n 54 rfl dX8_one_53 rfl 1 rfl ?_
        refine mm_iload_n 55 rfl dX8_one_54 rfl 2 rfl ?_
        refine ca_X8_144 58 rfl dX8_one_55 hN (ct_X8_of c1 c2 h0) (by decide) (Nat.le_of_ble_eq_true rfl) (fun z_7 => ?_)
        exact mm_iret dX8_one_58 rfl rfl
      · refine mm_ite (fun h_8 => ?_) (fun h_8 => ?_)
        · refine mm_tabIn 52 2 h_8 dX8_one_15 (by decide) (by decide) rfl (by decide) ?_
          refine mm_aload_n 53 rfl dX8_one_52 rfl 0 rfl ?_
          refine mm_iload_n 54 rfl dX8_one_53 rfl 1 rfl ?_
          refine mm_iload_n 55 rfl dX8_one_54 rfl 2 rfl ?_
          refine ca_X8_144 58 rfl dX8_one_55 hN (ct_X8_of c1 c2 h0) (by decide) (Nat.le_of_ble_eq_true rfl) (fun z_9 => ?_)
          exact mm_iret dX8_one_58 rfl rfl
        · refine mm_ite (fun h_10 => ?_) (fun h_10 => ?_)
          · refine mm_tabIn 52 3 h_10 dX8_one_15 (by decide) (by decide) rfl (by decide) ?_
            refine mm_aload_n 53 rfl dX8_one_52 rfl 0 rfl ?_
            refine mm_iload_n 54 rfl dX8_one_53 rfl 1 rfl ?_
            refine mm_iload_n 55 rfl dX8_one_54 rfl 2 rfl ?_
            refine ca_X8_144 58 rfl dX8_one_55 hN (ct_X8_of c1 c2 h0) (by decide) (Nat.le_of_ble_eq_true rfl) (fun z_11 => ?_)
            exact mm_iret dX8_one_58 rfl rfl
          · refine mm_ite (fun h_12 => ?_) (fun h_12 => ?_)
            · refine mm_tabIn 59 4 h_12 dX8_one_15 (by decide) (by decide) rfl (by decide) ?_
              refine mm_aload_n 60 rfl dX8_one_59 rfl 0 rfl ?_
              refine mm_iload_n 61 rfl dX8_one_60 rfl 1 rfl ?_
              refine ca_X8_157 64 rfl dX8_one_61 hN (ct_X8_scrubs c1 h0) (by decide) (Nat.le_of_ble_eq_true rfl) (fun z_13 => ?_)
              exact mm_iret dX8_one_64 rfl rfl
            · refine mm_ite (fun h_14 => ?_) (fun h_14 => ?_)
              · refine mm_tabIn 65 5 h_14 dX8_one_15 (by decide) (by decide) rfl (by decide) ?_
                refine mm_aload_n 66 rfl dX8_one_65 rfl 0 rfl ?_
                refine mm_iload_n 67 rfl dX8_one_66 rfl 1 rfl ?_
                refine mm_aload_n 68 rfl dX8_one_67 rfl 0 rfl ?_
                refine ca_X8_177 71 rfl dX8_one_68 hN (ct_X8_sunNow  h0) (by decide) (Nat.le_of_ble_eq_true rfl) (fun z_15 => ?_)
                refine ca_X8_167 74 rfl dX8_one_71 hN (ct_X8_dries c1 z_15.1 h0) (by decide) (Nat.le_of_ble_eq_true rfl) (fun z_16 => ?_)
                exact mm_iret dX8_one_74 rfl rfl
              · refine mm_tabOut 75 dX8_one_15 (mm_out 0 6 (by decide) (fun j hj => by match j, hj with | 0, _ => exact h_4 | 1, _ => exact h_6 | 2, _ => exact h_8 | 3, _ => exact h_10 | 4, _ => exact h_12 | 5, _ => exact h_14) rfl rfl) (by decide) ?_
                refine mm_iconst 76 rfl (v := (-1)) dX8_one_75 (by decide) ?_
                exact mm_iret dX8_one_76 rfl rfl
  · refine mm_iconst 9 rfl (v := (-1)) dX8_one_8 (by decide) ?_
    exact mm_iret dX8_one_9 rfl rfl

-- MangleLineModel.sun(I)I
noncomputable def fn_X8_sun (c1 : Int32) (M : mm_M) : Option (Int32 × mm_M) :=
  ((fn_X8_in c1.toInt64 0 6 M).bind fun z_1 => (if z_1.1 = 0 then some ((-1), z_1.2) else (if mm_in (30 + c1) 171 then some ((z_1.2 1 (30 + c1).toNatClampNeg), z_1.2) else none)))
set_option maxRecDepth 20000 in
set_option maxHeartbeats 4000000 in
theorem ct_X8_sun {l : Launch} {G : mm_G} {sh : mm_S} {M : mm_M} (c1 : Int32) (h0 : mm_isMod G sh) : mm_K l G yX8_sun (cX8_sun, 2, RX8, (some .int), 2) [.ref (mm_ad G 0), .int c1] (mm_fi sh) sh M (fn_X8_sun c1 M) := by
  refine mm_met (by decide +kernel) rfl (Nat.le_of_ble_eq_true rfl) (fun X hX => ?_)
  subst hX
  show mm_T X G (cX8_sun, 2, RX8, (some .int), 2) (mm_fi sh) sh M 0 [(0, .ref (mm_ad G 0)), (1, .int c1)] [] (fn_X8_sun c1 M)
  unfold fn_X8_sun
  obtain ⟨N, hN⟩ := h0.1
  refine mm_iload_n 1 rfl dX8_sun_0 rfl 1 rfl ?_
  refine mm_i2l 2 rfl dX8_sun_1 ?_
  refine mm_lconst 3 rfl (v := 0) dX8_sun_2 (by decide) ?_
  refine mm_ldc2 6 rfl (v := 6) dX8_sun_3 mw_5_51 ?_
  refine ca_X8_59 9 rfl dX8_sun_6 (ct_X8_in c1.toInt64 0 6 ) (by decide) (Nat.le_of_ble_eq_true rfl) (fun z_1 => ?_)
  refine mm_if_eq 12 24 rfl dX8_sun_9 (by decide) (fun h_2 => ?_) (fun h_2 => ?_)
  · refine mm_iconst 25 rfl (v := (-1)) dX8_sun_24 (by decide) ?_
    exact mm_iret dX8_sun_25 rfl rfl
  · refine mm_aload_n 13 rfl dX8_sun_12 rfl 0 rfl ?_
    refine gt_X8_7 16 rfl dX8_sun_13 hN ?_
    refine mm_bipush 18 rfl (v := 30) dX8_sun_16 (by decide) ?_
    refine mm_iload_n 19 rfl dX8_sun_18 rfl 1 rfl ?_
    refine mm_iadd 20 rfl dX8_sun_19 ?_
    refine mm_iald 21 rfl dX8_sun_20 h0.2.1 (fun h_3 => ?_)
    refine mm_goto 25 dX8_sun_21 (by decide) ?_
    exact mm_iret dX8_sun_25 rfl rfl

-- MangleLineModel.becomes(II)I
noncomputable def fn_X8_becomes (c1 : Int32) (c2 : Int32) (M : mm_M) : Option (Int32 × mm_M) :=
  (if mm_in c1 171 then mm_let (M 1 c1.toNatClampNeg) fun x3_2 => mm_let (mm_up M 1 c1.toNatClampNeg c2) fun M_3 => some (x3_2, M_3) else none)
set_option maxRecDepth 20000 in
set_option maxHeartbeats 4000000 in
theorem ct_X8_becomes {l : Launch} {G : mm_G} {sh : mm_S} {M : mm_M} (c1 : Int32) (c2 : Int32) (h0 : mm_isMod G sh) : mm_K l G yX8_becomes (cX8_becomes, 4, RX8, (some .int), 1) [.ref (mm_ad G 0), .int c1, .int c2] (mm_fi sh) sh M (fn_X8_becomes c1 c2 M) := by
  refine mm_met (by decide +kernel) rfl (Nat.le_of_ble_eq_true rfl) (fun X hX => ?_)
  subst hX
  show mm_T X G (cX8_becomes, 4, RX8, (some .int), 1) (mm_fi sh) sh M 0 [(0, .ref (mm_ad G 0)), (1, .int c1), (2, .int c2)] [] (fn_X8_becomes c1 c2 M)
  unfold fn_X8_becomes
  obtain ⟨N, hN⟩ := h0.1
  refine mm_aload_n 1 rfl dX8_becomes_0 rfl 0 rfl ?_
  refine gt_X8_7 4 rfl dX8_becomes_1 hN ?_
  refine mm_iload_n 5 rfl dX8_becomes_4 rfl 1 rfl ?_
  refine mm_iald 6 rfl dX8_becomes_5 h0.2.1 (fun h_1 => ?_)
  refine mm_bI (fun x3_2 => ?_)
  refine mm_istore_n 7 rfl dX8_becomes_6 rfl (lv' := [(3, .int x3_2), (0, .ref (mm_ad G 0)), (1, .int c1), (2, .int c2)]) (by decide) rfl ?_
  refine mm_aload_n 8 rfl dX8_becomes_7 rfl 1 rfl ?_
  refine gt_X8_7 11 rfl dX8_becomes_8 hN ?_
  refine mm_iload_n 12 rfl dX8_becomes_11 rfl 2 rfl ?_
  refine mm_iload_n 13 rfl dX8_becomes_12 rfl 3 rfl ?_
  refine mm_iastK 14 rfl dX8_becomes_13 h0.2.1 h_1 _ rfl ?_
  refine mm_bM (fun M_3 => ?_)
  refine mm_iload_n 15 rfl dX8_becomes_14 rfl 0 rfl ?_
  exact mm_iret dX8_becomes_15 rfl rfl
