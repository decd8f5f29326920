-- MangleLine$Tape.wordOf(I)Ljava/lang/String;
noncomputable def fn_X6_wordOf (c0 : Int32) (M : mm_M) : Option (Nat × mm_M) :=
  (if c0 = 0 then some (0, M) else (if c0 = 1 then some (1, M) else (if c0 = 2 then some (2, M) else (if c0 = 3 then some (3, M) else (if c0 = 4 then some (4, M) else (if c0 = 5 then some (5, M) else (if c0 = 6 then some (6, M) else (if c0 = 7 then some (7, M) else (if c0 = 8 then some (8, M) else some (9, M))))))))))
set_option maxRecDepth 20000 in
set_option maxHeartbeats 4000000 in
theorem ct_X6_wordOf {l : Launch} {G : mm_G} {sh : mm_S} {M : mm_M} (c0 : Int32) : mm_K l G yX6_wordOf (cX6_wordOf, 1, RX6, (some (.object "java/lang/String")), 1) [.int c0] (mm_fr (mm_aK G) sh) sh M (fn_X6_wordOf c0 M) := by
  refine mm_met (by decide +kernel) rfl (Nat.le_of_ble_eq_true rfl) (fun X hX => ?_)
  subst hX
  show mm_T X G (cX6_wordOf, 1, RX6, (some (.object "java/lang/String")), 1) (mm_fr (mm_aK G) sh) sh M 0 [(0, .int c0)] [] (fn_X6_wordOf c0 M)
  unfold fn_X6_wordOf
  refine mm_iload_n 1 rfl dX6_wordOf_0 rfl 0 rfl ?_
  refine mm_ite (fun h_1 => ?_) (fun h_1 => ?_)
  · refine mm_tabIn 52 0 h_1 dX6_wordOf_1 (by decide) (by decide) rfl (by decide) ?_
    refine mm_ldcS 54 rfl dX6_wordOf_52 0 (by decide) rfl rfl ?_
    exact mm_aretS dX6_wordOf_54 rfl ⟨_, rfl⟩ rfl
  · refine mm_ite (fun h_2 => ?_) (fun h_2 => ?_)
    · refine mm_tabIn 55 1 h_2 dX6_wordOf_1 (by decide) (by decide) rfl (by decide) ?_
      refine mm_ldcS 57 rfl dX6_wordOf_55 1 (by decide) rfl rfl ?_
      exact mm_aretS dX6_wordOf_57 rfl ⟨_, rfl⟩ rfl
    · refine mm_ite (fun h_3 => ?_) (fun h_3 => ?_)
      · refine mm_tabIn 58 2 h_3 dX6_wordOf_1 (by decide) (by decide) rfl (by decide) ?_
        refine mm_ldcS 60 rfl dX6_wordOf_58 2 (by decide) rfl rfl ?_
        exact mm_aretS dX6_wordOf_60 rfl ⟨_, rfl⟩ rfl
      · refine mm_ite (fun h_4 => ?_) (fun h_4 => ?_)
        · refine mm_tabIn 61 3 h_4 dX6_wordOf_1 (by decide) (by decide) rfl (by decide) ?_
          refine mm_ldcS 63 rfl dX6_wordOf_61 3 (by decide) rfl rfl ?_
          exact mm_aretS dX6_wordOf_63 rfl ⟨_, rfl⟩ rfl
        · refine mm_ite (fun h_5 => ?_) (fun h_5 => ?_)
          · refine mm_tabIn 64 4 h_5 dX6_wordOf_1 (by decide) (by decide) rfl (by decide) ?_
            refine mm_ldcS 66 rfl dX6_wordOf_64 4 (by decide) rfl rfl ?_
            exact mm_aretS dX6_wordOf_66 rfl ⟨_, rfl⟩ rfl
          · refine mm_ite (fun h_6 => ?_) (fun h_6 => ?_)
            · refine mm_tabIn 67 5 h_6 dX6_wordOf_1 (by decide) (by decide) rfl (by decide) ?_
              refine mm_ldcS 69 rfl dX6_wordOf_67 5 (by decide) rfl rfl ?_
              exact mm_aretS dX6_wordOf_69 rfl ⟨_, rfl⟩ rfl
            · refine mm_ite (fun h_7 => ?_) (fun h_7 => ?_)
              · refine mm_tabIn 70 6 h_7 dX6_wordOf_1 (by decide) (by decide) rfl (by decide) ?_
                refine mm_ldcS 72 rfl dX6_wordOf_70 6 (by decide) rfl rfl ?_
                exact mm_aretS dX6_wordOf_72 rfl ⟨_, rfl⟩ rfl
              · refine mm_ite (fun h_8 => ?_) (fun h_8 => ?_)
                · refine mm_tabIn 73 7 h_8 dX6_wordOf_1 (by decide) (by decide) rfl (by decide) ?_
                  refine mm_ldcS 75 rfl dX6_wordOf_73 7 (by decide) rfl rfl ?_
                  exact mm_aretS dX6_wordOf_75 rfl ⟨_, rfl⟩ rfl
                · refine mm_ite (fun h_9 => ?_) (fun h_9 => ?_)
                  · refine mm_tabIn 76 8 h_9 dX6_wordOf_1 (by decide) (by decide) rfl (by decide) ?_
                    refine mm_ldcS 78 rfl dX6_wordOf_76 8 (by decide) rfl rfl ?_
                    exact mm_aretS dX6_wordOf_78 rfl ⟨_, rfl⟩ rfl
                  · refine mm_tabOut 79 dX6_wordOf_1 (mm_out 0 9 (by decide) (fun j hj => by match j, hj with | 0, _ => exact h_1 | 1, _ => exact h_2 | 2, _ => exact h_3 | 3, _ => exact h_4 | 4, _ => exact h_5 | 5, _ => exact h_6 | 6, _ => exact h_7 | 7, _ => exact h_8 | 8, _ => exact h_9) rfl rfl) (by decide) ?_
                    refine mm_ldcS 81 rfl dX6_wordOf_79 9 (by decide) rfl rfl ?_
                    exact mm_aretS dX6_wordOf_81 rfl ⟨_, rfl⟩ rfl

theorem mm_wordOf_lt {c : Int32} {M : mm_M} {z : Nat × mm_M} (h : fn_X6_wordOf c M = some z) : z.1 < 10 := by
  unfold fn_X6_wordOf at h
  repeat' split at h
  all_goals (cases h; exact Nat.le_of_ble_eq_true rfl)

-- MangleLine$Tape.isSpelt(Ljava/lang/String;)Z
noncomputable def fn_X6_isSpelt_L20 (r1 : Nat) (k0 : mm_M → Option (Int32 × mm_M)) (k1 : mm_M → Option (Int32 × mm_M)) : Nat → Int32 → mm_M → Option (Int32 × mm_M)
  | 0, _, _ => none
  | n + 1, x2, M => ((fn_J0_length_8abf5 r1 M).bind fun z_3 => (if z_3.1 ≤ x2 then k1  z_3.2 else (if mm_in ((z_3.2 16 4) + x2) 160 then ((fn_J0_charAt_5068e r1 x2 z_3.2).bind fun z_6 => (if (z_3.2 17 ((z_3.2 16 4) + x2).toNatClampNeg) = z_6.1 then fn_X6_isSpelt_L20 r1 k0 k1 n (x2 + 1) z_6.2 else k0  z_6.2)) else none)))
set_option maxRecDepth 20000 in
set_option maxHeartbeats 4000000 in
theorem th_X6_isSpelt_L20 {X : mm_X} {G : mm_G} {sh : mm_S} {r1 : Nat} {k0 : mm_M → Option (Int32 × mm_M)} {k1 : mm_M → Option (Int32 × mm_M)} (h0 : mm_isTap G sh) (h1 : r1 < 10) (hk0 : ∀ (M : mm_M), mm_T X G (cX6_isSpelt, 3, RX6, (some .boolean), 5) (mm_fi sh) sh M 47 [] [] (k0  M)) (hk1 : ∀ (M : mm_M), mm_T X G (cX6_isSpelt, 3, RX6, (some .boolean), 5) (mm_fi sh) sh M 55 [] [] (k1  M)) : ∀ (n : Nat) (x2 : Int32) (M : mm_M), mm_T X G (cX6_isSpelt, 3, RX6, (some .boolean), 5) (mm_fi sh) sh M 20 [(0, .ref (mm_ad G 16)), (1, .ref (mm_aK G r1)), (2, .int x2)] [] (fn_X6_isSpelt_L20 r1 k0 k1 n x2 M) := by
  intro n
  induction n with
  | zero => intro x2 M; exact mm_none
  | succ n ih =>
    intro x2 M
    rw [fn_X6_isSpelt_L20]
    refine mm_iload_n 21 rfl dX6_isSpelt_20 rfl 2 rfl ?_
    refine mm_aload_n 22 rfl dX6_isSpelt_21 rfl 1 rfl ?_
    refine ca_X6_66 25 rfl dX6_isSpelt_22 h1 (ct_J0_length_8abf5 r1 h1) (by decide) (Nat.le_of_ble_eq_true rfl) (fun z_3 => ?_)
    refine mm_icmp_ge 28 55 rfl dX6_isSpelt_25 (by decide) (fun h_4 => ?_) (fun h_4 => ?_)
    · exact mm_lv [] rfl (hk1 _)
    · refine mm_aload_n 29 rfl dX6_isSpelt_28 rfl 0 rfl ?_
      refine gt_X6_11 32 rfl dX6_isSpelt_29 h0.1 ?_
      refine mm_aload_n 33 rfl dX6_isSpelt_32 rfl 0 rfl ?_
      refine gt_X6_22 36 rfl dX6_isSpelt_33 h0.1 ?_
      refine mm_iload_n 37 rfl dX6_isSpelt_36 rfl 2 rfl ?_
      refine mm_iadd 38 rfl dX6_isSpelt_37 ?_
      refine mm_iald 39 rfl dX6_isSpelt_38 h0.2 (fun h_5 => ?_)
      refine mm_aload_n 40 rfl dX6_isSpelt_39 rfl 1 rfl ?_
      refine mm_iload_n 41 rfl dX6_isSpelt_40 rfl 2 rfl ?_
      refine ca_X6_71 44 rfl dX6_isSpelt_41 h1 (ct_J0_charAt_5068e r1 x2 h1) (by decide) (Nat.le_of_ble_eq_true rfl) (fun z_6 => ?_)
      refine mm_icmp_eq 47 49 rfl dX6_isSpelt_44 (by decide) (fun h_7 => ?_) (fun h_7 => ?_)
      · refine mm_iinc 52 rfl dX6_isSpelt_49 2 rfl (v := (x2 + 1)) rfl (lv' := [(2, .int (x2 + 1)), (0, .ref (mm_ad G 16)), (1, .ref (mm_aK G r1))]) (by decide) rfl ?_
        refine mm_goto 20 dX6_isSpelt_52 (by decide) ?_
        exact mm_lv [1, 2, 0] rfl (ih _ _)
      · exact mm_lv [] rfl (hk0 _)
noncomputable def fn_X6_isSpelt (r1 : Nat) (M : mm_M) : Option (Int32 × mm_M) :=
  ((fn_J0_length_8abf5 r1 M).bind fun z_1 => (if z_1.1 = ((z_1.2 16 2) - (z_1.2 16 4)) then fn_X6_isSpelt_L20 r1 (fun M_8 => some (0, M_8)) (fun M_10 => some (1, M_10)) mm_fu 0 z_1.2 else some (0, z_1.2)))
set_option maxRecDepth 20000 in
set_option maxHeartbeats 4000000 in
theorem ct_X6_isSpelt {l : Launch} {G : mm_G} {sh : mm_S} {M : mm_M} (r1 : Nat) (h0 : mm_isTap G sh) (h1 : r1 < 10) : mm_K l G yX6_isSpelt (cX6_isSpelt, 3, RX6, (some .boolean), 5) [.ref (mm_ad G 16), .ref (mm_aK G r1)] (mm_fi sh) sh M (fn_X6_isSpelt r1 M) := by
  refine mm_met (by decide +kernel) rfl (Nat.le_of_ble_eq_true rfl) (fun X hX => ?_)
  subst hX
  show mm_T X G (cX6_isSpelt, 3, RX6, (some .boolean), 5) (mm_fi sh) sh M 0 [(0, .ref (mm_ad G 16)), (1, .ref (mm_aK G r1))] [] (fn_X6_isSpelt r1 M)
  unfold fn_X6_isSpelt
  refine mm_aload_n 1 rfl dX6_isSpelt_0 rfl 1 rfl ?_
  refine ca_X6_66 4 rfl dX6_isSpelt_1 h1 (ct_J0_length_8abf5 r1 h1) (by decide) (Nat.le_of_ble_eq_true rfl) (fun z_1 => ?_)
  refine mm_aload_n 5 rfl dX6_isSpelt_4 rfl 0 rfl ?_
  refine gt_X6_19 8 rfl dX6_isSpelt_5 h0.1 ?_
  refine mm_aload_n 9 rfl dX6_isSpelt_8 rfl 0 rfl ?_
  refine gt_X6_22 12 rfl dX6_isSpelt_9 h0.1 ?_
  refine mm_isub 13 rfl dX6_isSpelt_12 ?_
  refine mm_icmp_eq 16 18 rfl dX6_isSpelt_13 (by decide) (fun h_2 => ?_) (fun h_2 => ?_)
  · refine mm_iconst 19 rfl (v := 0) dX6_isSpelt_18 (by decide) ?_
    refine mm_istore_n 20 rfl dX6_isSpelt_19 rfl (lv' := [(2, .int 0), (0, .ref (mm_ad G 16)), (1, .ref (mm_aK G r1))]) (by decide) rfl ?_
    refine mm_lv [1, 2, 0] rfl (th_X6_isSpelt_L20 h0 h1 (fun M_8 => ?_) (fun M_10 => ?_) mm_fu _ _)
    · refine mm_iconst 48 rfl (v := 0) dX6_isSpelt_47 (by decide) ?_
      exact mm_zretK dX6_isSpelt_48 rfl rfl rfl
    · refine mm_iconst 56 rfl (v := 1) dX6_isSpelt_55 (by decide) ?_
      exact mm_zretK dX6_isSpelt_56 rfl rfl rfl
  · refine mm_iconst 17 rfl (v := 0) dX6_isSpelt_16 (by decide) ?_
    exact mm_zretK dX6_isSpelt_17 rfl rfl rfl

-- MangleLine$Tape.word()I
noncomputable def fn_X6_word_L2  (k0 : Int32 → mm_M → Option (Int32 × mm_M)) (k1 : mm_M → Option (Int32 × mm_M)) : Nat → Int32 → mm_M → Option (Int32 × mm_M)
  | 0, _, _ => none
  | n + 1, x1, M => (if 10 ≤ x1 then k1  M else ((fn_X6_wordOf x1 M).bind fun z_2 => ((fn_X6_isSpelt z_2.1 z_2.2).bind fun z_3 => (if z_3.1 = 0 then fn_X6_word_L2 k0 k1 n (x1 + 1) z_3.2 else k0 x1 z_3.2))))
set_option maxRecDepth 20000 in
set_option maxHeartbeats 4000000 in
theorem th_X6_word_L2 {X : mm_X} {G : mm_G} {sh : mm_S} {k0 : Int32 → mm_M → Option (Int32 × mm_M)} {k1 : mm_M → Option (Int32 × mm_M)} (h0 : mm_isTap G sh) (hk0 : ∀ (x1 : Int32) (M : mm_M), mm_T X G (cX6_word, 2, RX6, (some .int), 6) (mm_fi sh) sh M 19 [(1, .int x1)] [] (k0 x1 M)) (hk1 : ∀ (M : mm_M), mm_T X G (cX6_word, 2, RX6, (some .int), 6) (mm_fi sh) sh M 27 [] [] (k1  M)) : ∀ (n : Nat) (x1 : Int32) (M : mm_M), mm_T X G (cX6_word, 2, RX6, (some .int), 6) (mm_fi sh) sh M 2 [(0, .ref (mm_ad G 16)), (1, .int x1)] [] (fn_X6_word_L2 k0 k1 n x1 M) := by
  intro n
  induction n with
  | zero => intro x1 M; exact mm_none
  | succ n ih =>
    intro x1 M
    rw [fn_X6_word_L2]
    refine mm_iload_n 3 rfl dX6_word_2 rfl 1 rfl ?_
    refine mm_bipush 5 rfl (v := 10) dX6_word_3 (by decide) ?_
    refine mm_icmp_ge 8 27 rfl dX6_word_5 (by decide) (fun h_1 => ?_) (fun h_1 => ?_)
    · exact mm_lv [] rfl (hk1 _)
    · refine mm_aload_n 9 rfl dX6_word_8 rfl 0 rfl ?_
      refine mm_iload_n 10 rfl dX6_word_9 rfl 1 rfl ?_
      refine ca_X6_38 13 rfl dX6_word_10 (ct_X6_wordOf x1 ) (by decide) (Nat.le_of_ble_eq_true rfl) (fun z_2 ez_2 => ?_)
      refine ca_X6_42 16 rfl dX6_word_13 h0.1 (ct_X6_isSpelt z_2.1 h0 (mm_wordOf_lt ez_2)) (by decide) (Nat.le_of_ble_eq_true rfl) (fun z_3 => ?_)
      refine mm_if_eq 19 21 rfl dX6_word_16 (by decide) (fun h_4 => ?_) (fun h_4 => ?_)
      · refine mm_iinc 24 rfl dX6_word_21 1 rfl (v := (x1 + 1)) rfl (lv' := [(1, .int (x1 + 1)), (0, .ref (mm_ad G 16))]) (by decide) rfl ?_
        refine mm_goto 2 dX6_word_24 (by decide) ?_
        exact mm_lv [1, 0] rfl (ih _ _)
      · exact mm_lv [1] rfl (hk0 _ _)
noncomputable def fn_X6_word  (M : mm_M) : Option (Int32 × mm_M) :=
  fn_X6_word_L2  (fun x1_5 M_6 => some (x1_5, M_6)) (fun M_8 => some ((-4), M_8)) mm_fu 0 M
set_option maxRecDepth 20000 in
set_option maxHeartbeats 4000000 in
theorem ct_X6_word {l : Launch} {G : mm_G} {sh : mm_S} {M : mm_M} (h0 : mm_isTap G sh) : mm_K l G yX6_word (cX6_word, 2, RX6, (some .int), 6) [.ref (mm_ad G 16)] (mm_fi sh) sh M (fn_X6_word  M) := by
  refine mm_met (by decide +kernel) rfl (Nat.le_of_ble_eq_true rfl) (fun X hX => ?_)
  subst hX
  show mm_T X G (cX6_word, 2, RX6, (some .int), 6) (mm_fi sh) sh M 0 [(0, .ref (mm_ad G 16))] [] (fn_X6_word  M)
  unfold fn_X6_word
  refine mm_iconst 1 rfl (v := 0) dX6_word_0 (by decide) ?_
  refine mm_istore_n 2 rfl dX6_word_1 rfl (lv' := [(1, .int 0), (0, .ref (mm_ad G 16))]) (by decide) rfl ?_
  refine mm_lv [1, 0] rfl (th_X6_word_L2 h0 (fun x1_5 M_6 => ?_) (fun M_8 => ?_) mm_fu _ _)
  · refine mm_iload_n 20 rfl dX6_word_19 rfl 0 rfl ?_
    exact mm_iret dX6_word_20 rfl rfl
  · refine mm_bipush 29 rfl (v := (-4)) dX6_word_27 (by decide) ?_
    exact mm_iret dX6_word_29 rfl rfl

-- MangleLine$Script.blame(I)Z
noncomputable def fn_X3_blame (c1 : Int32) (M : mm_M) : Option (Int32 × mm_M) :=
  mm_let (mm_up M 18 1 c1) fun M_1 => mm_let (mm_up M_1 18 2 (M_1 16 4)) fun M_2 => some (0, M_2)
set_option maxRecDepth 20000 in
set_option maxHeartbeats 4000000 in
theorem ct_X3_blame {l : Launch} {G : mm_G} {sh : mm_S} {M : mm_M} (c1 : Int32) (h0 : mm_isScr G sh) : mm_K l G yX3_blame (cX3_blame, 2, RX3, (some .boolean), 1) [.ref (mm_ad G 18), .int c1] (mm_fi sh) sh M (fn_X3_blame c1 M) := by
  refine mm_met (by decide +kernel) rfl (Nat.le_of_ble_eq_true rfl) (fun X hX => ?_)
  subst hX
  show mm_T X G (cX3_blame, 2, RX3, (some .boolean), 1) (mm_fi sh) sh M 0 [(0, .ref (mm_ad G 18)), (1, .int c1)] [] (fn_X3_blame c1 M)
  unfold fn_X3_blame
  refine mm_aload_n 1 rfl dX3_blame_0 rfl 0 rfl ?_
  refine mm_iload_n 2 rfl dX3_blame_1 rfl 1 rfl ?_
  refine pt_X3_15 5 rfl dX3_blame_2 h0.1 ?_
  refine mm_bM (fun M_1 => ?_)
  refine mm_aload_n 6 rfl dX3_blame_5 rfl 0 rfl ?_
  refine mm_aload_n 7 rfl dX3_blame_6 rfl 0 rfl ?_
  refine gt_X3_9 10 rfl dX3_blame_7 h0.1 ?_
  refine gt_X3_46 13 rfl dX3_blame_10 h0.2.1 ?_
  refine pt_X3_43 16 rfl dX3_blame_13 h0.1 ?_
  refine mm_bM (fun M_2 => ?_)
  refine mm_iconst 17 rfl (v := 0) dX3_blame_16 (by decide) ?_
  exact mm_zretK dX3_blame_17 rfl rfl rfl

-- MangleLine$Script.takeToken()Z
noncomputable def fn_X3_takeToken  (M : mm_M) : Option (Int32 × mm_M) :=
  ((fn_X6_readToken  M).bind fun z_1 => (if (z_1 16 3) = 0 then ((fn_X3_blame 1 z_1).bind fun z_3 => (if z_3.1 = 0 then some (0, z_3.2) else some (1, z_3.2))) else some (1, z_1)))
set_option maxRecDepth 20000 in
set_option maxHeartbeats 4000000 in
theorem ct_X3_takeToken {l : Launch} {G : mm_G} {sh : mm_S} {M : mm_M} (h0 : mm_isScr G sh) : mm_K l G yX3_takeToken (cX3_takeToken, 1, RX3, (some .boolean), 3) [.ref (mm_ad G 18)] (mm_fi sh) sh M (fn_X3_takeToken  M) := by
  refine mm_met (by decide +kernel) rfl (Nat.le_of_ble_eq_true rfl) (fun X hX => ?_)
  subst hX
  show mm_T X G (cX3_takeToken, 1, RX3, (some .boolean), 3) (mm_fi sh) sh M 0 [(0, .ref (mm_ad G 18))] [] (fn_X3_takeToken  M)
  unfold fn_X3_takeToken
  refine mm_aload_n 1 rfl dX3_takeToken_0 rfl 0 rfl ?_
  refine gt_X3_9 4 rfl dX3_takeToken_1 h0.1 ?_
  refine ca_X3_49 7 rfl dX3_takeToken_4 h0.2.1 (ct_X6_readToken  h0.2) (by decide) (Nat.le_of_ble_eq_true rfl) (fun z_1 => ?_)
  refine mm_aload_n 8 rfl dX3_takeToken_7 rfl 0 rfl ?_
  refine gt_X3_9 11 rfl dX3_takeToken_8 h0.1 ?_
  refine gt_X3_36 14 rfl dX3_takeToken_11 h0.2.1 ?_
  refine mm_if_ne 17 25 rfl dX3_takeToken_14 (by decide) (fun h_2 => ?_) (fun h_2 => ?_)
  · refine mm_iconst 26 rfl (v := 1) dX3_takeToken_25 (by decide) ?_
    refine mm_goto 30 dX3_takeToken_26 (by decide) ?_
    exact mm_zretK dX3_takeToken_30 rfl rfl rfl
  · refine mm_aload_n 18 rfl dX3_takeToken_17 rfl 0 rfl ?_
    refine mm_iconst 19 rfl (v := 1) dX3_takeToken_18 (by decide) ?_
    refine ca_X3_52 22 rfl dX3_takeToken_19 h0.1 (ct_X3_blame 1 h0) (by decide) (Nat.le_of_ble_eq_true rfl) (fun z_3 => ?_)
    refine mm_if_eq 25 29 rfl dX3_takeToken_22 (by decide) (fun h_4 => ?_) (fun h_4 => ?_)
    · refine mm_iconst 30 rfl (v := 0) dX3_takeToken_29 (by decide) ?_
      exact mm_zretK dX3_takeToken_30 rfl rfl rfl
    · refine mm_iconst 26 rfl (v := 1) dX3_takeToken_25 (by decide) ?_
      refine mm_goto 30 dX3_takeToken_26 (by decide) ?_
      exact mm_zretK dX3_takeToken_30 rfl rfl rfl

-- MangleLine$Script.isNumber(II)Z
noncomputable def fn_X3_isNumber (c1 : Int32) (c2 : Int32) (M : mm_M) : Option (Int32 × mm_M) :=
  (if (M 16 3) = 2 then ((fn_X7_within (M 16 5) c1 c2 M).bind fun z_2 => (if z_2.1 = 0 then ((fn_X3_blame 3 z_2.2).bind fun z_4 => (if z_4.1 = 0 then some (0, z_4.2) else some (1, z_4.2))) else some (1, z_2.2))) else ((fn_X3_blame 2 M).bind fun z_6 => (if z_6.1 = 0 ∨ z_6.1 = 1 then some (z_6.1, z_6.2) else none)))
set_option maxRecDepth 20000 in
set_option maxHeartbeats 4000000 in
theorem ct_X3_isNumber {l : Launch} {G : mm_G} {sh : mm_S} {M : mm_M} (c1 : Int32) (c2 : Int32) (h0 : mm_isScr G sh) : mm_K l G yX3_isNumber (cX3_isNumber, 3, RX3, (some .boolean), 2) [.ref (mm_ad G 18), .int c1, .int c2] (mm_fi sh) sh M (fn_X3_isNumber c1 c2 M) := by
  refine mm_met (by decide +kernel) rfl (Nat.le_of_ble_eq_true rfl) (fun X hX => ?_)
  subst hX
  show mm_T X G (cX3_isNumber, 3, RX3, (some .boolean), 2) (mm_fi sh) sh M 0 [(0, .ref (mm_ad G 18)), (1, .int c1), (2, .int c2)] [] (fn_X3_isNumber c1 c2 M)
  unfold fn_X3_isNumber
  refine mm_aload_n 1 rfl dX3_isNumber_0 rfl 0 rfl ?_
  refine gt_X3_9 4 rfl dX3_isNumber_1 h0.1 ?_
  refine gt_X3_36 7 rfl dX3_isNumber_4 h0.2.1 ?_
  refine mm_iconst 8 rfl (v := 2) dX3_isNumber_7 (by decide) ?_
  refine mm_icmp_eq 11 17 rfl dX3_isNumber_8 (by decide) (fun h_1 => ?_) (fun h_1 => ?_)
  · refine mm_aload_n 18 rfl dX3_isNumber_17 rfl 0 rfl ?_
    refine gt_X3_9 21 rfl dX3_isNumber_18 h0.1 ?_
    refine gt_X3_77 24 rfl dX3_isNumber_21 h0.2.1 ?_
    refine mm_iload_n 25 rfl dX3_isNumber_24 rfl 1 rfl ?_
    refine mm_iload_n 26 rfl dX3_isNumber_25 rfl 2 rfl ?_
    refine ca_X3_100 29 rfl dX3_isNumber_26 (ct_X7_within (M 16 5) c1 c2 ) (by decide) (Nat.le_of_ble_eq_true rfl) (fun z_2 => ?_)
    refine mm_if_ne 32 40 rfl dX3_isNumber_29 (by decide) (fun h_3 => ?_) (fun h_3 => ?_)
    · refine mm_iconst 41 rfl (v := 1) dX3_isNumber_40 (by decide) ?_
      refine mm_goto 45 dX3_isNumber_41 (by decide) ?_
      exact mm_zretK dX3_isNumber_45 rfl rfl rfl
    · refine mm_aload_n 33 rfl dX3_isNumber_32 rfl 0 rfl ?_
      refine mm_iconst 34 rfl (v := 3) dX3_isNumber_33 (by decide) ?_
      refine ca_X3_52 37 rfl dX3_isNumber_34 h0.1 (ct_X3_blame 3 h0) (by decide) (Nat.le_of_ble_eq_true rfl) (fun z_4 => ?_)
      refine mm_if_eq 40 44 rfl dX3_isNumber_37 (by decide) (fun h_5 => ?_) (fun h_5 => ?_)
      · refine mm_iconst 45 rfl (v := 0) dX3_isNumber_44 (by decide) ?_
        exact mm_zretK dX3_isNumber_45 rfl rfl rfl
      · refine mm_iconst 41 rfl (v := 1) dX3_isNumber_40 (by decide) ?_
        refine mm_goto 45 dX3_isNumber_41 (by decide) ?_
        exact mm_zretK dX3_isNumber_45 rfl rfl rfl
  · refine mm_aload_n 12 rfl dX3_isNumber_11 rfl 0 rfl ?_
    refine mm_iconst 13 rfl (v := 2) dX3_isNumber_12 (by decide) ?_
    refine ca_X3_52 16 rfl dX3_isNumber_13 h0.1 (ct_X3_blame 2 h0) (by decide) (Nat.le_of_ble_eq_true rfl) (fun z_6 => ?_)
    exact mm_zret dX3_isNumber_16 rfl rfl

-- MangleLine$Script.isStop()Z
noncomputable def fn_X3_isStop  (M : mm_M) : Option (Int32 × mm_M) :=
  (if (M 16 3) = 3 then some (1, M) else ((fn_X3_blame 2 M).bind fun z_2 => (if z_2.1 = 0 then some (0, z_2.2) else some (1, z_2.2))))
set_option maxRecDepth 20000 in
set_option maxHeartbeats 4000000 in
theorem ct_X3_isStop {l : Launch} {G : mm_G} {sh : mm_S} {M : mm_M} (h0 : mm_isScr G sh) : mm_K l G yX3_isStop (cX3_isStop, 1, RX3, (some .boolean), 2) [.ref (mm_ad G 18)] (mm_fi sh) sh M (fn_X3_isStop  M) := by
  refine mm_met (by decide +kernel) rfl (Nat.le_of_ble_eq_true rfl) (fun X hX => ?_)
  subst hX
  show mm_T X G (cX3_isStop, 1, RX3, (some .boolean), 2) (mm_fi sh) sh M 0 [(0, .ref (mm_ad G 18))] [] (fn_X3_isStop  M)
  unfold fn_X3_isStop
  refine mm_aload_n 1 rfl dX3_isStop_0 rfl 0 rfl ?_
  refine gt_X3_9 4 rfl dX3_isStop_1 h0.1 ?_
  refine gt_X3_36 7 rfl dX3_isStop_4 h0.2.1 ?_
  refine mm_iconst 8 rfl (v := 3) dX3_isStop_7 (by decide) ?_
  refine mm_icmp_eq 11 19 rfl dX3_isStop_8 (by decide) (fun h_1 => ?_) (fun h_1 => ?_)
  · refine mm_iconst 20 rfl (v := 1) dX3_isStop_19 (by decide) ?_
    refine mm_goto 24 dX3_isStop_20 (by decide) ?_
    exact mm_zretK dX3_isStop_24 rfl rfl rfl
  · refine mm_aload_n 12 rfl dX3_isStop_11 rfl 0 rfl ?_
    refine mm_iconst 13 rfl (v := 2) dX3_isStop_12 (by decide) ?_
    refine ca_X3_52 16 rfl dX3_isStop_13 h0.1 (ct_X3_blame 2 h0) (by decide) (Nat.le_of_ble_eq_true rfl) (fun z_2 => ?_)
    refine mm_if_eq 19 23 rfl dX3_isStop_16 (by decide) (fun h_3 => ?_) (fun h_3 => ?_)
    · refine mm_iconst 24 rfl (v := 0) dX3_isStop_23 (by decide) ?_
      exact mm_zretK dX3_isStop_24 rfl rfl rfl
    · refine mm_iconst 20 rfl (v := 1) dX3_isStop_19 (by decide) ?_
      refine mm_goto 24 dX3_isStop_20 (by decide) ?_
      exact mm_zretK dX3_isStop_24 rfl rfl rfl

-- MangleLine$Script.tellOne(LMangleLine$Laundry;I)Z
noncomputable def fn_X3_tellOne (r1 : Nat) (c2 : Int32) (M : mm_M) : Option (Int32 × mm_M) :=
  (if (M r1 0) < 6 then ((fn_X3_takeToken  M).bind fun z_2 => (if z_2.1 = 0 then some (0, z_2.2) else ((fn_X3_isNumber 0 60 z_2.2).bind fun z_4 => (if z_4.1 = 0 then some (0, z_4.2) else ((fn_X2_admit r1 c2 (z_4.2 16 5) z_4.2).bind fun z_6 => ((fn_X3_takeToken  z_6.2).bind fun z_7 => (if z_7.1 = 0 then some (0, z_7.2) else ((fn_X3_isStop  z_7.2).bind fun z_9 => (if z_9.1 = 0 then some (0, z_9.2) else some (1, z_9.2)))))))))) else ((fn_X3_blame 5 M).bind fun z_11 => (if z_11.1 = 0 ∨ z_11.1 = 1 then some (z_11.1, z_11.2) else none)))
set_option maxRecDepth 20000 in
set_option maxHeartbeats 4000000 in
theorem ct_X3_tellOne {l : Launch} {G : mm_G} {sh : mm_S} {M : mm_M} (r1 : Nat) (c2 : Int32) (h0 : mm_isScr G sh) (h1 : mm_isLau G sh r1) : mm_K l G yX3_tellOne (cX3_tellOne, 3, RX3, (some .boolean), 4) [.ref (mm_ad G 18), .ref (mm_ad G r1), .int c2] (mm_fi sh) sh M (fn_X3_tellOne r1 c2 M) := by
  refine mm_met (by decide +kernel) rfl (Nat.le_of_ble_eq_true rfl) (fun X hX => ?_)
  subst hX
  show mm_T X G (cX3_tellOne, 3, RX3, (some .boolean), 4) (mm_fi sh) sh M 0 [(0, .ref (mm_ad G 18)), (1, .ref (mm_ad G r1)), (2, .int c2)] [] (fn_X3_tellOne r1 c2 M)
  unfold fn_X3_tellOne
  refine mm_aload_n 1 rfl dX3_tellOne_0 rfl 1 rfl ?_
  refine gt_X3_70 4 rfl dX3_tellOne_1 h1.1 ?_
  refine mm_bipush 6 rfl (v := 6) dX3_tellOne_4 (by decide) ?_
  refine mm_icmp_lt 9 15 rfl dX3_tellOne_6 (by decide) (fun h_1 => ?_) (fun h_1 => ?_)
  · refine mm_aload_n 16 rfl dX3_tellOne_15 rfl 0 rfl ?_
    refine ca_X3_32 19 rfl dX3_tellOne_16 h0.1 (ct_X3_takeToken  h0) (by decide) (Nat.le_of_ble_eq_true rfl) (fun z_2 => ?_)
    refine mm_if_eq 22 32 rfl dX3_tellOne_19 (by decide) (fun h_3 => ?_) (fun h_3 => ?_)
    · refine mm_iconst 33 rfl (v := 0) dX3_tellOne_32 (by decide) ?_
      exact mm_zretK dX3_tellOne_33 rfl rfl rfl
    · refine mm_aload_n 23 rfl dX3_tellOne_22 rfl 0 rfl ?_
      refine mm_iconst 24 rfl (v := 0) dX3_tellOne_23 (by decide) ?_
      refine mm_bipush 26 rfl (v := 60) dX3_tellOne_24 (by decide) ?_
      refine ca_X3_73 29 rfl dX3_tellOne_26 h0.1 (ct_X3_isNumber 0 60 h0) (by decide) (Nat.le_of_ble_eq_true rfl) (fun z_4 => ?_)
      refine mm_if_ne 32 34 rfl dX3_tellOne_29 (by decide) (fun h_5 => ?_) (fun h_5 => ?_)
      · refine mm_aload_n 35 rfl dX3_tellOne_34 rfl 1 rfl ?_
        refine mm_iload_n 36 rfl dX3_tellOne_35 rfl 2 rfl ?_
        refine mm_aload_n 37 rfl dX3_tellOne_36 rfl 0 rfl ?_
        refine gt_X3_9 40 rfl dX3_tellOne_37 h0.1 ?_
        refine gt_X3_77 43 rfl dX3_tellOne_40 h0.2.1 ?_
        refine ca_X3_80 46 rfl dX3_tellOne_43 h1.1 (ct_X2_admit r1 c2 (z_4.2 16 5) h1) (by decide) (Nat.le_of_ble_eq_true rfl) (fun z_6 => ?_)
        refine mm_pop 47 rfl dX3_tellOne_46 rfl ?_
        refine mm_aload_n 48 rfl dX3_tellOne_47 rfl 0 rfl ?_
        refine ca_X3_32 51 rfl dX3_tellOne_48 h0.1 (ct_X3_takeToken  h0) (by decide) (Nat.le_of_ble_eq_true rfl) (fun z_7 => ?_)
        refine mm_if_eq 54 65 rfl dX3_tellOne_51 (by decide) (fun h_8 => ?_) (fun h_8 => ?_)
        · refine mm_iconst 66 rfl (v := 0) dX3_tellOne_65 (by decide) ?_
          exact mm_zretK dX3_tellOne_66 rfl rfl rfl
        · refine mm_aload_n 55 rfl dX3_tellOne_54 rfl 0 rfl ?_
          refine ca_X3_84 58 rfl dX3_tellOne_55 h0.1 (ct_X3_isStop  h0) (by decide) (Nat.le_of_ble_eq_true rfl) (fun z_9 => ?_)
          refine mm_if_eq 61 65 rfl dX3_tellOne_58 (by decide) (fun h_10 => ?_) (fun h_10 => ?_)
          · refine mm_iconst 66 rfl (v := 0) dX3_tellOne_65 (by decide) ?_
            exact mm_zretK dX3_tellOne_66 rfl rfl rfl
          · refine mm_iconst 62 rfl (v := 1) dX3_tellOne_61 (by decide) ?_
            refine mm_goto 66 dX3_tellOne_62 (by decide) ?_
            exact mm_zretK dX3_tellOne_66 rfl rfl rfl
      · refine mm_iconst 33 rfl (v := 0) dX3_tellOne_32 (by decide) ?_
        exact mm_zretK dX3_tellOne_33 rfl rfl rfl
  · refine mm_aload_n 10 rfl dX3_tellOne_9 rfl 0 rfl ?_
    refine mm_iconst 11 rfl (v := 5) dX3_tellOne_10 (by decide) ?_
    refine ca_X3_52 14 rfl dX3_tellOne_11 h0.1 (ct_X3_blame 5 h0) (by decide) (Nat.le_of_ble_eq_true rfl) (fun z_11 => ?_)
    exact mm_zret dX3_tellOne_14 rfl rfl

-- MangleLine$Script.tellSuns(LMangleLine$Laundry;)Z
noncomputable def fn_X3_tellSuns_L2 (r1 : Nat) (k0 : mm_M → Option (Int32 × mm_M)) (k1 : mm_M → Option (Int32 × mm_M)) (k2 : mm_M → Option (Int32 × mm_M)) (k3 : mm_M → Option (Int32 × mm_M)) (k4 : mm_M → Option (Int32 × mm_M)) : Nat → Int32 → mm_M → Option (Int32 × mm_M)
  | 0, _, _ => none
  | n + 1, x2, M => (if 7 < x2 then k4  M else ((fn_X3_takeToken  M).bind fun z_2 => (if z_2.1 = 0 then k0  z_2.2 else (if (z_2.2 16 3) = 3 then k1  z_2.2 else (if x2 = 7 then k2  z_2.2 else ((fn_X3_isNumber 0 9 z_2.2).bind fun z_6 => (if z_6.1 = 0 then k3  z_6.2 else (if mm_in x2 7 then (mm_let (mm_up z_6.2 (r1 + 6) x2.toNatClampNeg (z_6.2 16 5)) fun M_8 => fn_X3_tellSuns_L2 r1 k0 k1 k2 k3 k4 n (x2 + 1) M_8) else none))))))))
set_option maxRecDepth 20000 in
set_option maxHeartbeats 4000000 in
theorem th_X3_tellSuns_L2 {X : mm_X} {G : mm_G} {sh : mm_S} {r1 : Nat} {k0 : mm_M → Option (Int32 × mm_M)} {k1 : mm_M → Option (Int32 × mm_M)} {k2 : mm_M → Option (Int32 × mm_M)} {k3 : mm_M → Option (Int32 × mm_M)} {k4 : mm_M → Option (Int32 × mm_M)} (h0 : mm_isScr G sh) (h1 : mm_isLau G sh r1) (hk0 : ∀ (M : mm_M), mm_T X G (cX3_tellSuns, 3, RX3, (some .boolean), 4) (mm_fi sh) sh M 15 [] [] (k0  M)) (hk1 : ∀ (M : mm_M), mm_T X G (cX3_tellSuns, 3, RX3, (some .boolean), 4) (mm_fi sh) sh M 28 [] [] (k1  M)) (hk2 : ∀ (M : mm_M), mm_T X G (cX3_tellSuns, 3, RX3, (some .boolean), 4) (mm_fi sh) sh M 36 [(0, .ref (mm_ad G 18))] [] (k2  M)) (hk3 : ∀ (M : mm_M), mm_T X G (cX3_tellSuns, 3, RX3, (some .boolean), 4) (mm_fi sh) sh M 67 [] [] (k3  M)) (hk4 : ∀ (M : mm_M), mm_T X G (cX3_tellSuns, 3, RX3, (some .boolean), 4) (mm_fi sh) sh M 88 [] [] (k4  M)) : ∀ (n : Nat) (x2 : Int32) (M : mm_M), mm_T X G (cX3_tellSuns, 3, RX3, (some .boolean), 4) (mm_fi sh) sh M 2 [(0, .ref (mm_ad G 18)), (1, .ref (mm_ad G r1)), (2, .int x2)] [] (fn_X3_tellSuns_L2 r1 k0 k1 k2 k3 k4 n x2 M) := by
  intro n
  induction n with
  | zero => intro x2 M; exact mm_none
  | succ n ih =>
    intro x2 M
    rw [fn_X3_tellSuns_L2]
    refine mm_iload_n 3 rfl dX3_tellSuns_2 rfl 2 rfl ?_
    refine mm_bipush 5 rfl (v := 7) dX3_tellSuns_3 (by decide) ?_
    refine mm_icmp_gt 8 88 rfl dX3_tellSuns_5 (by decide) (fun h_1 => ?_) (fun h_1 => ?_)
    · exact mm_lv [] rfl (hk4 _)
    · refine mm_aload_n 9 rfl dX3_tellSuns_8 rfl 0 rfl ?_
      refine ca_X3_32 12 rfl dX3_tellSuns_9 h0.1 (ct_X3_takeToken  h0) (by decide) (Nat.le_of_ble_eq_true rfl) (fun z_2 => ?_)
      refine mm_if_ne 15 17 rfl dX3_tellSuns_12 (by decide) (fun h_3 => ?_) (fun h_3 => ?_)
      · refine mm_aload_n 18 rfl dX3_tellSuns_17 rfl 0 rfl ?_
        refine gt_X3_9 21 rfl dX3_tellSuns_18 h0.1 ?_
        refine gt_X3_36 24 rfl dX3_tellSuns_21 h0.2.1 ?_
        refine mm_iconst 25 rfl (v := 3) dX3_tellSuns_24 (by decide) ?_
        refine mm_icmp_ne 28 30 rfl dX3_tellSuns_25 (by decide) (fun h_4 => ?_) (fun h_4 => ?_)
        · refine mm_iload_n 31 rfl dX3_tellSuns_30 rfl 2 rfl ?_
          refine mm_bipush 33 rfl (v := 7) dX3_tellSuns_31 (by decide) ?_
          refine mm_icmp_ne 36 57 rfl dX3_tellSuns_33 (by decide) (fun h_5 => ?_) (fun h_5 => ?_)
          · refine mm_aload_n 58 rfl dX3_tellSuns_57 rfl 0 rfl ?_
            refine mm_iconst 59 rfl (v := 0) dX3_tellSuns_58 (by decide) ?_
            refine mm_bipush 61 rfl (v := 9) dX3_tellSuns_59 (by decide) ?_
            refine ca_X3_73 64 rfl dX3_tellSuns_61 h0.1 (ct_X3_isNumber 0 9 h0) (by decide) (Nat.le_of_ble_eq_true rfl) (fun z_6 => ?_)
            refine mm_if_ne 67 69 rfl dX3_tellSuns_64 (by decide) (fun h_7 => ?_) (fun h_7 => ?_)
            · refine mm_aload_n 70 rfl dX3_tellSuns_69 rfl 1 rfl ?_
              refine gt_X3_97 73 rfl dX3_tellSuns_70 h1.1 ?_
              refine mm_iload_n 74 rfl dX3_tellSuns_73 rfl 2 rfl ?_
              refine mm_aload_n 75 rfl dX3_tellSuns_74 rfl 0 rfl ?_
              refine gt_X3_9 78 rfl dX3_tellSuns_75 h0.1 ?_
              refine gt_X3_77 81 rfl dX3_tellSuns_78 h0.2.1 ?_
              refine mm_iast 82 rfl dX3_tellSuns_81 h1.2.2.2.2.2.2 (fun h_9 => ?_)
              refine mm_bM (fun M_8 => ?_)
              refine mm_iinc 85 rfl dX3_tellSuns_82 2 rfl (v := (x2 + 1)) rfl (lv' := [(2, .int (x2 + 1)), (0, .ref (mm_ad G 18)), (1, .ref (mm_ad G r1))]) (by decide) rfl ?_
              refine mm_goto 2 dX3_tellSuns_85 (by decide) ?_
              exact mm_lv [1, 2, 0] rfl (ih _ _)
            · exact mm_lv [] rfl (hk3 _)
          · exact mm_lv [0] rfl (hk2 _)
        · exact mm_lv [] rfl (hk1 _)
      · exact mm_lv [] rfl (hk0 _)
noncomputable def fn_X3_tellSuns (r1 : Nat) (M : mm_M) : Option (Int32 × mm_M) :=
  fn_X3_tellSuns_L2 r1 (fun M_10 => some (0, M_10)) (fun M_12 => some (1, M_12)) (fun M_14 => (if (M_14 16 3) = 2 then ((fn_X3_blame 5 M_14).bind fun z_18 => (if z_18.1 = 0 ∨ z_18.1 = 1 then some (z_18.1, z_18.2) else none)) else ((fn_X3_blame 2 M_14).bind fun z_17 => (if z_17.1 = 0 ∨ z_17.1 = 1 then some (z_17.1, z_17.2) else none)))) (fun M_19 => some (0, M_19)) (fun M_21 => some (0, M_21)) mm_fu 0 M
set_option maxRecDepth 20000 in
set_option maxHeartbeats 4000000 in
theorem ct_X3_tellSuns {l : Launch} {G : mm_G} {sh : mm_S} {M : mm_M} (r1 : Nat) (h0 : mm_isScr G sh) (h1 : mm_isLau G sh r1) : mm_K l G yX3_tellSuns (cX3_tellSuns, 3, RX3, (some .boolean), 4) [.ref (mm_ad G 18), .ref (mm_ad G r1)] (mm_fi sh) sh M (fn_X3_tellSuns r1 M) := by
  refine mm_met (by decide +kernel) rfl (Nat.le_of_ble_eq_true rfl) (fun X hX => ?_)
  subst hX
  show mm_T X G (cX3_tellSuns, 3, RX3, (some .boolean), 4) (mm_fi sh) sh M 0 [(0, .ref (mm_ad G 18)), (1, .ref (mm_ad G r1))] [] (fn_X3_tellSuns r1 M)
  unfold fn_X3_tellSuns
  refine mm_iconst 1 rfl (v := 0) dX3_tellSuns_0 (by decide) ?_
  refine mm_istore_n 2 rfl dX3_tellSuns_1 rfl (lv' := [(2, .int 0), (0, .ref (mm_ad G 18)), (1, .ref (mm_ad G r1))]) (by decide) rfl ?_
  refine mm_lv [1, 2, 0] rfl (th_X3_tellSuns_L2 h0 h1 (fun M_10 => ?_) (fun M_12 => ?_) (fun M_14 => ?_) (fun M_19 => ?_) (fun M_21 => ?_) mm_fu _ _)
  · refine mm_iconst 16 rfl (v := 0) dX3_tellSuns_15 (by decide) ?_
    exact mm_zretK dX3_tellSuns_16 rfl rfl rfl
  · refine mm_iconst 29 rfl (v := 1) dX3_tellSuns_28 (by decide) ?_
    exact mm_zretK dX3_tellSuns_29 rfl rfl rfl
  · refine mm_aload_n 37 rfl dX3_tellSuns_36 rfl 0 rfl ?_
    refine mm_aload_n 38 rfl dX3_tellSuns_37 rfl 0 rfl ?_
    refine gt_X3_9 41 rfl dX3_tellSuns_38 h0.1 ?_
    refine gt_X3_36 44 rfl dX3_tellSuns_41 h0.2.1 ?_
    refine mm_iconst 45 rfl (v := 2) dX3_tellSuns_44 (by decide) ?_
    refine mm_icmp_ne 48 52 rfl dX3_tellSuns_45 (by decide) (fun h_16 => ?_) (fun h_16 => ?_)
    · refine mm_iconst 53 rfl (v := 2) dX3_tellSuns_52 (by decide) ?_
      refine ca_X3_52 56 rfl dX3_tellSuns_53 h0.1 (ct_X3_blame 2 h0) (by decide) (Nat.le_of_ble_eq_true rfl) (fun z_17 => ?_)
      exact mm_zret dX3_tellSuns_56 rfl rfl
    · refine mm_iconst 49 rfl (v := 5) dX3_tellSuns_48 (by decide) ?_
      refine mm_goto 53 dX3_tellSuns_49 (by decide) ?_
      refine ca_X3_52 56 rfl dX3_tellSuns_53 h0.1 (ct_X3_blame 5 h0) (by decide) (Nat.le_of_ble_eq_true rfl) (fun z_18 => ?_)
      exact mm_zret dX3_tellSuns_56 rfl rfl
  · refine mm_iconst 68 rfl (v := 0) dX3_tellSuns_67 (by decide) ?_
    exact mm_zretK dX3_tellSuns_68 rfl rfl rfl
  · refine mm_iconst 89 rfl (v := 0) dX3_tellSuns_88 (by decide) ?_
    exact mm_zretK dX3_tellSuns_89 rfl rfl rfl

-- MangleLine$Script.tellRule(LMangleLine$Laundry;I)Z
noncomputable def fn_X3_tellRule (r1 : Nat) (c2 : Int32) (M : mm_M) : Option (Int32 × mm_M) :=
  ((fn_X3_takeToken  M).bind fun z_1 => (if z_1.1 = 0 then some (0, z_1.2) else (if mm_in c2 5 then ((fn_X3_isNumber (mm_sav 0 c2.toNatClampNeg) (mm_sav 1 c2.toNatClampNeg) z_1.2).bind fun z_4 => (if z_4.1 = 0 then some (0, z_4.2) else mm_let (mm_up z_4.2 (r1 + 5) c2.toNatClampNeg (z_4.2 16 5)) fun M_6 => ((fn_X3_takeToken  M_6).bind fun z_7 => (if z_7.1 = 0 then some (0, z_7.2) else ((fn_X3_isStop  z_7.2).bind fun z_9 => (if z_9.1 = 0 then some (0, z_9.2) else some (1, z_9.2))))))) else none)))
set_option maxRecDepth 20000 in
set_option maxHeartbeats 4000000 in
theorem ct_X3_tellRule {l : Launch} {G : mm_G} {sh : mm_S} {M : mm_M} (r1 : Nat) (c2 : Int32) (h0 : mm_isScr G sh) (h1 : mm_isLau G sh r1) : mm_K l G yX3_tellRule (cX3_tellRule, 3, RX3, (some .boolean), 4) [.ref (mm_ad G 18), .ref (mm_ad G r1), .int c2] (mm_fi sh) sh M (fn_X3_tellRule r1 c2 M) := by
  refine mm_met (by decide +kernel) rfl (Nat.le_of_ble_eq_true rfl) (fun X hX => ?_)
  subst hX
  show mm_T X G (cX3_tellRule, 3, RX3, (some .boolean), 4) (mm_fi sh) sh M 0 [(0, .ref (mm_ad G 18)), (1, .ref (mm_ad G r1)), (2, .int c2)] [] (fn_X3_tellRule r1 c2 M)
  unfold fn_X3_tellRule
  refine mm_aload_n 1 rfl dX3_tellRule_0 rfl 0 rfl ?_
  refine ca_X3_32 4 rfl dX3_tellRule_1 h0.1 (ct_X3_takeToken  h0) (by decide) (Nat.le_of_ble_eq_true rfl) (fun z_1 => ?_)
  refine mm_if_eq 7 24 rfl dX3_tellRule_4 (by decide) (fun h_2 => ?_) (fun h_2 => ?_)
  · refine mm_iconst 25 rfl (v := 0) dX3_tellRule_24 (by decide) ?_
    exact mm_zretK dX3_tellRule_25 rfl rfl rfl
  · refine mm_aload_n 8 rfl dX3_tellRule_7 rfl 0 rfl ?_
    refine mm_getsN 11 rfl dX3_tellRule_8 0 (by decide) (List.mem_of_getElem? (i := 43) rfl) ?_
    refine mm_iload_n 12 rfl dX3_tellRule_11 rfl 2 rfl ?_
    refine mm_sald 13 rfl dX3_tellRule_12 (by decide) (fun h_3 => ?_)
    refine mm_getsN 16 rfl dX3_tellRule_13 1 (by decide) (List.mem_of_getElem? (i := 44) rfl) ?_
    refine mm_iload_n 17 rfl dX3_tellRule_16 rfl 2 rfl ?_
    refine mm_saldK 18 rfl dX3_tellRule_17 (by decide) h_3 _ rfl ?_
    refine ca_X3_73 21 rfl dX3_tellRule_18 h0.1 (ct_X3_isNumber (mm_sav 0 c2.toNatClampNeg) (mm_sav 1 c2.toNatClampNeg) h0) (by decide) (Nat.le_of_ble_eq_true rfl) (fun z_4 => ?_)
    refine mm_if_ne 24 26 rfl dX3_tellRule_21 (by decide) (fun h_5 => ?_) (fun h_5 => ?_)
    · refine mm_aload_n 27 rfl dX3_tellRule_26 rfl 1 rfl ?_
      refine gt_X3_94 30 rfl dX3_tellRule_27 h1.1 ?_
      refine mm_iload_n 31 rfl dX3_tellRule_30 rfl 2 rfl ?_
      refine mm_aload_n 32 rfl dX3_tellRule_31 rfl 0 rfl ?_
      refine gt_X3_9 35 rfl dX3_tellRule_32 h0.1 ?_
      refine gt_X3_77 38 rfl dX3_tellRule_35 h0.2.1 ?_
      refine mm_iastK 39 rfl dX3_tellRule_38 h1.2.2.2.2.2.1 h_3 _ rfl ?_
      refine mm_bM (fun M_6 => ?_)
      refine mm_aload_n 40 rfl dX3_tellRule_39 rfl 0 rfl ?_
      refine ca_X3_32 43 rfl dX3_tellRule_40 h0.1 (ct_X3_takeToken  h0) (by decide) (Nat.le_of_ble_eq_true rfl) (fun z_7 => ?_)
      refine mm_if_eq 46 57 rfl dX3_tellRule_43 (by decide) (fun h_8 => ?_) (fun h_8 => ?_)
      · refine mm_iconst 58 rfl (v := 0) dX3_tellRule_57 (by decide) ?_
        exact mm_zretK dX3_tellRule_58 rfl rfl rfl
      · refine mm_aload_n 47 rfl dX3_tellRule_46 rfl 0 rfl ?_
        refine ca_X3_84 50 rfl dX3_tellRule_47 h0.1 (ct_X3_isStop  h0) (by decide) (Nat.le_of_ble_eq_true rfl) (fun z_9 => ?_)
        refine mm_if_eq 53 57 rfl dX3_tellRule_50 (by decide) (fun h_10 => ?_) (fun h_10 => ?_)
        · refine mm_iconst 58 rfl (v := 0) dX3_tellRule_57 (by decide) ?_
          exact mm_zretK dX3_tellRule_58 rfl rfl rfl
        · refine mm_iconst 54 rfl (v := 1) dX3_tellRule_53 (by decide) ?_
          refine mm_goto 58 dX3_tellRule_54 (by decide) ?_
          exact mm_zretK dX3_tellRule_58 rfl rfl rfl
    · refine mm_iconst 25 rfl (v := 0) dX3_tellRule_24 (by decide) ?_
      exact mm_zretK dX3_tellRule_25 rfl rfl rfl

-- MangleLine$Script.tellLine(LMangleLine$Laundry;)Z
noncomputable def fn_X3_tellLine_B23 (r1 : Nat)   (s0 : Int32) (M : mm_M) : Option (Int32 × mm_M) :=
  (if 0 ≤ s0 then (if 4 ≤ s0 then (if (((M 18 3) >>> (s0 &&& 31)) &&& 1) = 0 then mm_let (mm_up M 18 3 ((M 18 3) ||| (1 <<< (s0 &&& 31)))) fun M_5 => (if s0 = 9 then ((fn_X3_tellSuns r1 M_5).bind fun z_8 => (if z_8.1 = 0 ∨ z_8.1 = 1 then some (z_8.1, z_8.2) else none)) else ((fn_X3_tellRule r1 (s0 - 4) M_5).bind fun z_7 => (if z_7.1 = 0 ∨ z_7.1 = 1 then some (z_7.1, z_7.2) else none))) else ((fn_X3_blame 4 M).bind fun z_9 => (if z_9.1 = 0 ∨ z_9.1 = 1 then some (z_9.1, z_9.2) else none))) else ((fn_X3_tellOne r1 s0 M).bind fun z_10 => (if z_10.1 = 0 ∨ z_10.1 = 1 then some (z_10.1, z_10.2) else none))) else ((fn_X3_blame 2 M).bind fun z_11 => (if z_11.1 = 0 ∨ z_11.1 = 1 then some (z_11.1, z_11.2) else none)))
set_option maxRecDepth 20000 in
set_option maxHeartbeats 4000000 in
theorem th_X3_tellLine_B23 {X : mm_X} {G : mm_G} {sh : mm_S} {r1 : Nat} (h0 : mm_isScr G sh) (h1 : mm_isLau G sh r1) (s0 : Int32) (M : mm_M) : mm_T X G (cX3_tellLine, 3, RX3, (some .boolean), 7) (mm_fi sh) sh M 23 [(0, .ref (mm_ad G 18)), (1, .ref (mm_ad G r1))] [.int s0] (fn_X3_tellLine_B23 r1 s0 M) := by
  unfold fn_X3_tellLine_B23
  refine mm_istore_n 24 rfl dX3_tellLine_23 rfl (lv' := [(2, .int s0), (0, .ref (mm_ad G 18)), (1, .ref (mm_ad G r1))]) (by decide) rfl ?_
  refine mm_iload_n 25 rfl dX3_tellLine_24 rfl 0 rfl ?_
  refine mm_if_ge 28 34 rfl dX3_tellLine_25 (by decide) (fun h_2 => ?_) (fun h_2 => ?_)
  · refine mm_iload_n 35 rfl dX3_tellLine_34 rfl 0 rfl ?_
    refine mm_iconst 36 rfl (v := 4) dX3_tellLine_35 (by decide) ?_
    refine mm_icmp_ge 39 46 rfl dX3_tellLine_36 (by decide) (fun h_3 => ?_) (fun h_3 => ?_)
    · refine mm_aload_n 47 rfl dX3_tellLine_46 rfl 1 rfl ?_
      refine gt_X3_19 50 rfl dX3_tellLine_47 h0.1 ?_
      refine mm_iload_n 51 rfl dX3_tellLine_50 rfl 0 rfl ?_
      refine mm_ishr 52 rfl dX3_tellLine_51 ?_
      refine mm_iconst 53 rfl (v := 1) dX3_tellLine_52 (by decide) ?_
      refine mm_iand 54 rfl dX3_tellLine_53 ?_
      refine mm_if_eq 57 63 rfl dX3_tellLine_54 (by decide) (fun h_4 => ?_) (fun h_4 => ?_)
      · refine mm_aload_n 64 rfl dX3_tellLine_63 rfl 1 rfl ?_
        refine mm_dup 65 rfl dX3_tellLine_64 rfl ?_
        refine gt_X3_19 68 rfl dX3_tellLine_65 h0.1 ?_
        refine mm_iconst 69 rfl (v := 1) dX3_tellLine_68 (by decide) ?_
        refine mm_iload_n 70 rfl dX3_tellLine_69 rfl 0 rfl ?_
        refine mm_ishl 71 rfl dX3_tellLine_70 ?_
        refine mm_ior 72 rfl dX3_tellLine_71 ?_
        refine pt_X3_19 75 rfl dX3_tellLine_72 h0.1 ?_
        refine mm_bM (fun M_5 => ?_)
        refine mm_iload_n 76 rfl dX3_tellLine_75 rfl 0 rfl ?_
        refine mm_bipush 78 rfl (v := 9) dX3_tellLine_76 (by decide) ?_
        refine mm_icmp_ne 81 89 rfl dX3_tellLine_78 (by decide) (fun h_6 => ?_) (fun h_6 => ?_)
        · refine mm_aload_n 90 rfl dX3_tellLine_89 rfl 1 rfl ?_
          refine mm_aload_n 91 rfl dX3_tellLine_90 rfl 2 rfl ?_
          refine mm_iload_n 92 rfl dX3_tellLine_91 rfl 0 rfl ?_
          refine mm_iconst 93 rfl (v := 4) dX3_tellLine_92 (by decide) ?_
          refine mm_isub 94 rfl dX3_tellLine_93 ?_
          refine ca_X3_67 97 rfl dX3_tellLine_94 h0.1 (ct_X3_tellRule r1 (s0 - 4) h0 h1) (by decide) (Nat.le_of_ble_eq_true rfl) (fun z_7 => ?_)
          exact mm_zret dX3_tellLine_97 rfl rfl
        · refine mm_aload_n 82 rfl dX3_tellLine_81 rfl 1 rfl ?_
          refine mm_aload_n 83 rfl dX3_tellLine_82 rfl 2 rfl ?_
          refine ca_X3_64 86 rfl dX3_tellLine_83 h0.1 (ct_X3_tellSuns r1 h0 h1) (by decide) (Nat.le_of_ble_eq_true rfl) (fun z_8 => ?_)
          refine mm_goto 97 dX3_tellLine_86 (by decide) ?_
          exact mm_zret dX3_tellLine_97 rfl rfl
      · refine mm_aload_n 58 rfl dX3_tellLine_57 rfl 1 rfl ?_
        refine mm_iconst 59 rfl (v := 4) dX3_tellLine_58 (by decide) ?_
        refine ca_X3_52 62 rfl dX3_tellLine_59 h0.1 (ct_X3_blame 4 h0) (by decide) (Nat.le_of_ble_eq_true rfl) (fun z_9 => ?_)
        exact mm_zret dX3_tellLine_62 rfl rfl
    · refine mm_aload_n 40 rfl dX3_tellLine_39 rfl 1 rfl ?_
      refine mm_aload_n 41 rfl dX3_tellLine_40 rfl 2 rfl ?_
      refine mm_iload_n 42 rfl dX3_tellLine_41 rfl 0 rfl ?_
      refine ca_X3_60 45 rfl dX3_tellLine_42 h0.1 (ct_X3_tellOne r1 s0 h0 h1) (by decide) (Nat.le_of_ble_eq_true rfl) (fun z_10 => ?_)
      exact mm_zret dX3_tellLine_45 rfl rfl
  · refine mm_aload_n 29 rfl dX3_tellLine_28 rfl 1 rfl ?_
    refine mm_iconst 30 rfl (v := 2) dX3_tellLine_29 (by decide) ?_
    refine ca_X3_52 33 rfl dX3_tellLine_30 h0.1 (ct_X3_blame 2 h0) (by decide) (Nat.le_of_ble_eq_true rfl) (fun z_11 => ?_)
    exact mm_zret dX3_tellLine_33 rfl rfl
noncomputable def fn_X3_tellLine (r1 : Nat) (M : mm_M) : Option (Int32 × mm_M) :=
  (if (M 16 3) = 1 then ((fn_X6_word  M).bind fun z_12 => fn_X3_tellLine_B23 r1  z_12.1 z_12.2) else fn_X3_tellLine_B23 r1  (-4) M)
set_option maxRecDepth 20000 in
set_option maxHeartbeats 4000000 in
theorem ct_X3_tellLine {l : Launch} {G : mm_G} {sh : mm_S} {M : mm_M} (r1 : Nat) (h0 : mm_isScr G sh) (h1 : mm_isLau G sh r1) : mm_K l G yX3_tellLine (cX3_tellLine, 3, RX3, (some .boolean), 7) [.ref (mm_ad G 18), .ref (mm_ad G r1)] (mm_fi sh) sh M (fn_X3_tellLine r1 M) := by
  refine mm_met (by decide +kernel) rfl (Nat.le_of_ble_eq_true rfl) (fun X hX => ?_)
  subst hX
  show mm_T X G (cX3_tellLine, 3, RX3, (some .boolean), 7) (mm_fi sh) sh M 0 [(0, .ref (mm_ad G 18)), (1, .ref (mm_ad G r1))] [] (fn_X3_tellLine r1 M)
  unfold fn_X3_tellLine
  refine mm_aload_n 1 rfl dX3_tellLine_0 rfl 0 rfl ?_
  refine gt_X3_9 4 rfl dX3_tellLine_1 h0.1 ?_
  refine gt_X3_36 7 rfl dX3_tellLine_4 h0.2.1 ?_
  refine mm_iconst 8 rfl (v := 1) dX3_tellLine_7 (by decide) ?_
  refine mm_icmp_ne 11 21 rfl dX3_tellLine_8 (by decide) (fun h_1 => ?_) (fun h_1 => ?_)
  · refine mm_bipush 23 rfl (v := (-4)) dX3_tellLine_21 (by decide) ?_
    exact mm_lv [0, 1] rfl (th_X3_tellLine_B23 h0 h1  _ _)
  · refine mm_aload_n 12 rfl dX3_tellLine_11 rfl 0 rfl ?_
    refine gt_X3_9 15 rfl dX3_tellLine_12 h0.1 ?_
    refine ca_X3_56 18 rfl dX3_tellLine_15 h0.2.1 (ct_X6_word  h0.2) (by decide) (Nat.le_of_ble_eq_true rfl) (fun z_12 => ?_)
    refine mm_goto 23 dX3_tellLine_18 (by decide) ?_
    exact mm_lv [0, 1] rfl (th_X3_tellLine_B23 h0 h1  _ _)

-- MangleLine$Script.tell(LMangleLine$Laundry;)I
noncomputable def fn_X3_tell_L23 (r1 : Nat) (k0 : Int32 → mm_M → Option (Int32 × mm_M)) (k1 : mm_M → Option (Int32 × mm_M)) (k2 : mm_M → Option (Int32 × mm_M)) : Nat → Int32 → mm_M → Option (Int32 × mm_M)
  | 0, _, _ => none
  | n + 1, x2, M => (if 160 < x2 then k2  M else ((fn_X3_takeToken  M).bind fun z_6 => mm_let z_6.1 fun x3_7 => (if x3_7 = 0 then k2  z_6.2 else (if (z_6.2 16 3) = 4 then k0 x2 z_6.2 else ((fn_X3_tellLine r1 z_6.2).bind fun z_10 => (if z_10.1 = 0 then k1  z_10.2 else fn_X3_tell_L23 r1 k0 k1 k2 n (x2 + 1) z_10.2))))))
set_option maxRecDepth 20000 in
set_option maxHeartbeats 4000000 in
theorem th_X3_tell_L23 {X : mm_X} {G : mm_G} {sh : mm_S} {r1 : Nat} {k0 : Int32 → mm_M → Option (Int32 × mm_M)} {k1 : mm_M → Option (Int32 × mm_M)} {k2 : mm_M → Option (Int32 × mm_M)} (h0 : mm_isScr G sh) (h1 : mm_isLau G sh r1) (hk0 : ∀ (x2 : Int32) (M : mm_M), mm_T X G (cX3_tell, 4, RX3, (some .int), 8) (mm_fi sh) sh M 50 [(2, .int x2)] [] (k0 x2 M)) (hk1 : ∀ (M : mm_M), mm_T X G (cX3_tell, 4, RX3, (some .int), 8) (mm_fi sh) sh M 64 [(0, .ref (mm_ad G 18))] [] (k1  M)) (hk2 : ∀ (M : mm_M), mm_T X G (cX3_tell, 4, RX3, (some .int), 8) (mm_fi sh) sh M 73 [(0, .ref (mm_ad G 18))] [] (k2  M)) : ∀ (n : Nat) (x2 : Int32) (M : mm_M), mm_T X G (cX3_tell, 4, RX3, (some .int), 8) (mm_fi sh) sh M 23 [(0, .ref (mm_ad G 18)), (1, .ref (mm_ad G r1)), (2, .int x2)] [] (fn_X3_tell_L23 r1 k0 k1 k2 n x2 M) := by
  intro n
  induction n with
  | zero => intro x2 M; exact mm_none
  | succ n ih =>
    intro x2 M
    rw [fn_X3_tell_L23]
    refine mm_iload_n 24 rfl dX3_tell_23 rfl 2 rfl ?_
    refine mm_sipush 27 rfl (v := 160) dX3_tell_24 (by decide) ?_
    refine mm_icmp_gt 30 73 rfl dX3_tell_27 (by decide) (fun h_5 => ?_) (fun h_5 => ?_)
    · exact mm_lv [0] rfl (hk2 _)
    · refine mm_aload_n 31 rfl dX3_tell_30 rfl 0 rfl ?_
      refine ca_X3_32 34 rfl dX3_tell_31 h0.1 (ct_X3_takeToken  h0) (by decide) (Nat.le_of_ble_eq_true rfl) (fun z_6 => ?_)
      refine mm_bI (fun x3_7 => ?_)
      refine mm_istore_n 35 rfl dX3_tell_34 rfl (lv' := [(3, .int x3_7), (0, .ref (mm_ad G 18)), (1, .ref (mm_ad G r1)), (2, .int x2)]) (by decide) rfl ?_
      refine mm_iload_n 36 rfl dX3_tell_35 rfl 0 rfl ?_
      refine mm_if_eq 39 52 rfl dX3_tell_36 (by decide) (fun h_8 => ?_) (fun h_8 => ?_)
      · refine mm_iload_n 53 rfl dX3_tell_52 rfl 0 rfl ?_
        refine mm_if_eqY 73 dX3_tell_53 (by decide) h_8 ?_
        exact mm_lv [1] rfl (hk2 _)
      · refine mm_aload_n 40 rfl dX3_tell_39 rfl 1 rfl ?_
        refine gt_X3_9 43 rfl dX3_tell_40 h0.1 ?_
        refine gt_X3_36 46 rfl dX3_tell_43 h0.2.1 ?_
        refine mm_iconst 47 rfl (v := 4) dX3_tell_46 (by decide) ?_
        refine mm_icmp_ne 50 52 rfl dX3_tell_47 (by decide) (fun h_9 => ?_) (fun h_9 => ?_)
        · refine mm_iload_n 53 rfl dX3_tell_52 rfl 0 rfl ?_
          refine mm_if_eqN 56 rfl 73 dX3_tell_53 (by decide) h_8 ?_
          refine mm_aload_n 57 rfl dX3_tell_56 rfl 1 rfl ?_
          refine mm_aload_n 58 rfl dX3_tell_57 rfl 2 rfl ?_
          refine ca_X3_39 61 rfl dX3_tell_58 h0.1 (ct_X3_tellLine r1 h0 h1) (by decide) (Nat.le_of_ble_eq_true rfl) (fun z_10 => ?_)
          refine mm_if_ne 64 67 rfl dX3_tell_61 (by decide) (fun h_11 => ?_) (fun h_11 => ?_)
          · refine mm_iinc 70 rfl dX3_tell_67 3 rfl (v := (x2 + 1)) rfl (lv' := [(2, .int (x2 + 1)), (3, .int x3_7), (0, .ref (mm_ad G 18)), (1, .ref (mm_ad G r1))]) (by decide) rfl ?_
            refine mm_goto 23 dX3_tell_70 (by decide) ?_
            exact mm_lv [2, 3, 0] rfl (ih _ _)
          · exact mm_lv [1] rfl (hk1 _)
        · exact mm_lv [3] rfl (hk0 _ _)
noncomputable def fn_X3_tell (r1 : Nat) (M : mm_M) : Option (Int32 × mm_M) :=
  mm_let (mm_up M 18 1 0) fun M_1 => mm_let (mm_up M_1 18 3 0) fun M_2 => ((fn_X2_clear r1 M_2).bind fun z_3 => ((fn_X6_rewind  z_3).bind fun z_4 => fn_X3_tell_L23 r1 (fun x2_12 M_13 => some (x2_12, M_13)) (fun M_15 => some (((-10) - (M_15 18 2)), M_15)) (fun M_17 => some (((-10) - (M_17 18 2)), M_17)) mm_fu 0 z_4))
set_option maxRecDepth 20000 in
set_option maxHeartbeats 4000000 in
theorem ct_X3_tell {l : Launch} {G : mm_G} {sh : mm_S} {M : mm_M} (r1 : Nat) (h0 : mm_isScr G sh) (h1 : mm_isLau G sh r1) : mm_K l G yX3_tell (cX3_tell, 4, RX3, (some .int), 8) [.ref (mm_ad G 18), .ref (mm_ad G r1)] (mm_fi sh) sh M (fn_X3_tell r1 M) := by
  refine mm_met (by decide +kernel) rfl (Nat.le_of_ble_eq_true rfl) (fun X hX => ?_)
  subst hX
  show mm_T X G (cX3_tell, 4, RX3, (some .int), 8) (mm_fi sh) sh M 0 [(0, .ref (mm_ad G 18)), (1, .ref (mm_ad G r1))] [] (fn_X3_tell r1 M)
  unfold fn_X3_tell
  refine mm_aload_n 1 rfl dX3_tell_0 rfl 0 rfl ?_
  refine mm_iconst 2 rfl (v := 0) dX3_tell_1 (by decide) ?_
  refine pt_X3_15 5 rfl dX3_tell_2 h0.1 ?_
  refine mm_bM (fun M_1 => ?_)
  refine mm_aload_n 6 rfl dX3_tell_5 rfl 0 rfl ?_
  refine mm_iconst 7 rfl (v := 0) dX3_tell_6 (by decide) ?_
  refine pt_X3_19 10 rfl dX3_tell_7 h0.1 ?_
  refine mm_bM (fun M_2 => ?_)
  refine mm_aload_n 11 rfl dX3_tell_10 rfl 1 rfl ?_
  refine ca_X3_22 14 rfl dX3_tell_11 h1.1 (ct_X2_clear r1 h1) (by decide) (Nat.le_of_ble_eq_true rfl) (fun z_3 => ?_)
  refine mm_aload_n 15 rfl dX3_tell_14 rfl 0 rfl ?_
  refine gt_X3_9 18 rfl dX3_tell_15 h0.1 ?_
  refine ca_X3_27 21 rfl dX3_tell_18 h0.2.1 (ct_X6_rewind  h0.2) (by decide) (Nat.le_of_ble_eq_true rfl) (fun z_4 => ?_)
  refine mm_iconst 22 rfl (v := 0) dX3_tell_21 (by decide) ?_
  refine mm_istore_n 23 rfl dX3_tell_22 rfl (lv' := [(2, .int 0), (0, .ref (mm_ad G 18)), (1, .ref (mm_ad G r1))]) (by decide) rfl ?_
  refine mm_lv [1, 2, 0] rfl (th_X3_tell_L23 h0 h1 (fun x2_12 M_13 => ?_) (fun M_15 => ?_) (fun M_17 => ?_) mm_fu _ _)
  · refine mm_iload_n 51 rfl dX3_tell_50 rfl 0 rfl ?_
    exact mm_iret dX3_tell_51 rfl rfl
  · refine mm_goto 73 dX3_tell_64 (by decide) ?_
    refine mm_bipush 75 rfl (v := (-10)) dX3_tell_73 (by decide) ?_
    refine mm_aload_n 76 rfl dX3_tell_75 rfl 0 rfl ?_
    refine gt_X3_43 79 rfl dX3_tell_76 h0.1 ?_
    refine mm_isub 80 rfl dX3_tell_79 ?_
    exact mm_iret dX3_tell_80 rfl rfl
  · refine mm_bipush 75 rfl (v := (-10)) dX3_tell_73 (by decide) ?_
    refine mm_aload_n 76 rfl dX3_tell_75 rfl 0 rfl ?_
    refine gt_X3_43 79 rfl dX3_tell_76 h0.1 ?_
    refine mm_isub 80 rfl dX3_tell_79 ?_
    exact mm_iret dX3_tell_80 rfl rfl
