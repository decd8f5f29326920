def px_clear (r : Nat) (M : mm_M) : mm_M := mm_row (mm_row (mm_up (mm_up M r 0 0) r 1 0) (r + 5) (va_cpy (mm_sav 2) (M (r + 5)) 0 0 5)) (r + 6) (fun j => if j < 7 then 4 else M (r + 6) j)
theorem pl_clear (r : Nat) (M : mm_M) : fn_X2_clear r M = some (px_clear r M) := by
  simp only [fn_X2_clear, mm_let]
  rw [pu_fillarr _ _ _ _ (by decide)]
  simp only [Option.bind_some, px_clear]
  have h5 : (mm_up (mm_up M r 0 0) r 1 0) (r + 5) = M (r + 5) := by simp [mm_up, mm_row]
  have h6 : ∀ f, (mm_row (mm_up (mm_up M r 0 0) r 1 0) (r + 5) f) (r + 6) = M (r + 6) := by intro f; simp [mm_up, mm_row]
  rw [h5, h6]
def px_first (M : mm_M) : mm_M := mm_up (mm_up (mm_row M 4 (fun j => if j < 57 then (if j = 25 then 3 else if j = 26 then 2 else if j = 27 then 3 else if j = 29 then 8 else if 30 ≤ j ∧ j < 37 then 4 else 0) else M 4 j)) 0 4 0) 0 5 0
theorem pl_first (M : mm_M) : fn_X8_firstDraft M = some (px_first M) := by
  simp only [fn_X8_firstDraft, mm_let]
  have h1 := fun k : mm_M → Option mm_M => pu_fill (fn_X8_firstDraft_L2 k) k 4 0 57 (fun _ _ => 0)
    (fun m M => by rw [fn_X8_firstDraft_L2, if_pos (by decide)])
    (fun m i M hi => by
      rw [fn_X8_firstDraft_L2, if_neg (show ¬ (57 : Int32) ≤ nI i from nI_ge (b := 57) hi (by decide)), if_pos (pu_in hi (by decide))]
      simp only [mm_let]
      rw [nI_clamp (by omega), nI_1, Nat.zero_add])
    (fun _ _ _ _ => rfl) mm_fu 0 M (Nat.zero_le _) (by have := mm_fu_ge; omega)
  have h2 := fun (k : mm_M → Option mm_M) (M : mm_M) => pu_fill (fn_X8_firstDraft_L56 k) k 4 30 7 (fun _ _ => 4)
    (fun m M => by rw [fn_X8_firstDraft_L56, if_pos (by decide)])
    (fun m i M hi => by
      have e : (30 : Int32) + nI i = nI (30 + i) := nI_add 30 i
      rw [fn_X8_firstDraft_L56, if_neg (show ¬ (7 : Int32) ≤ nI i from nI_ge (b := 7) hi (by decide)), e, if_pos (pu_in (by omega) (by decide))]
      simp only [mm_let]
      rw [nI_clamp (by omega), nI_1])
    (fun _ _ _ _ => rfl) mm_fu 0 M (Nat.zero_le _) (by have := mm_fu_ge; omega)
  rw [nI_0] at h1 h2
  rw [h1, h2]
  refine congrArg some (congrArg (fun Z => mm_up (mm_up Z 0 4 0) 0 5 0) ?_)
  simp only [mm_up, pu_row_row, pu_row_at]
  refine congrArg (mm_row M 4) (funext fun j => ?_)
  simp only [upd]
  by_cases h : 30 + 0 ≤ j ∧ j < 30 + 7
  · rw [if_pos h, if_pos (by omega), if_neg (by omega), if_neg (by omega), if_neg (by omega), if_neg (by omega), if_pos (by omega)]
  · rw [if_neg h]
    by_cases h57 : j < 57
    · rw [if_pos h57]
      by_cases a29 : j = 29
      · subst a29; rfl
      · rw [if_neg a29]
        by_cases a27 : j = 27
        · subst a27; rfl
        · rw [if_neg a27]
          by_cases a26 : j = 26
          · subst a26; rfl
          · rw [if_neg a26]
            by_cases a25 : j = 25
            · subst a25; rfl
            · rw [if_neg a25, if_pos (by omega), if_neg a25, if_neg a26, if_neg a27, if_neg a29, if_neg (by omega)]
    · rw [if_neg h57, if_neg (by omega), if_neg (by omega), if_neg (by omega), if_neg (by omega), if_neg (by omega)]
def px_keep (M : mm_M) : mm_M := mm_up (mm_up (mm_row M 1 (fun j => if j < 57 then M 4 j else M 1 j)) 3 0 0) 3 1 0
theorem pl_keep (M : mm_M) : fn_X8_keepDraft M = some (px_keep M) := by
  simp only [fn_X8_keepDraft, mm_let]
  have h1 := fun k : mm_M → Option mm_M => pu_fill (fn_X8_keepDraft_L2 k) k 1 0 57 (fun M i => M 4 i)
    (fun m M => by rw [fn_X8_keepDraft_L2, if_pos (by decide)])
    (fun m i M hi => by
      rw [fn_X8_keepDraft_L2, if_neg (show ¬ (57 : Int32) ≤ nI i from nI_ge (b := 57) hi (by decide)), if_pos (pu_in hi (by decide)), if_pos (pu_in (by omega) (by decide))]
      simp only [mm_let]
      rw [nI_clamp (by omega), nI_1, Nat.zero_add])
    (fun M f i _ => by simp [mm_row]) mm_fu 0 M (Nat.zero_le _) (by have := mm_fu_ge; omega)
  rw [nI_0] at h1
  rw [h1]
  refine congrArg some (congrArg (fun Z => mm_up (mm_up Z 3 0 0) 3 1 0) ?_)
  refine congrArg (mm_row M 1) (funext fun j => ?_)
  by_cases h : j < 57
  · rw [if_pos h, if_pos (by omega)]; rfl
  · rw [if_neg h, if_neg (by omega)]
def mb_Z : mm_M := fun _ _ => 0
def mb_ML : mm_M := px_clear 0 mb_Z
def mb_shL (G : mm_G) : mm_S := [mm_lau G 0, mm_ia G 6, mm_ia G 6, mm_ia G 6, mm_ia G 6, mm_ia G 5, mm_ia G 7]
def mb_shS (G : mm_G) : mm_S := [mm_see G 0, mm_ia G 6, mm_ia G 6, mm_ia G 6]
def mb_shT (G : mm_G) : mm_S := [fun row => .inr (6, [.ref (mm_ad G 1), .int (row 1), .int (row 2), .int (row 3), .int (row 4), .int (row 5)]), mm_ia G 160]
def mb_shH (G : mm_G) : mm_S := [mm_she G 0, mm_ia G 40]
def mb_MH : mm_M := mm_up mb_Z 0 0 (-1)
def mb_shI (G : mm_G) : mm_S := [mm_ima G 0, mm_lau G 1, mm_ia G 6, mm_ia G 6, mm_ia G 6, mm_ia G 6, mm_ia G 5, mm_ia G 7, mm_see G 8, mm_ia G 6, mm_ia G 6, mm_ia G 6]
def mb_MI : mm_M := fun a => if a < 1 then mb_Z 0 else if a < 8 then mb_ML (a - 1) else mb_Z 0
set_option maxRecDepth 100000 in
set_option maxHeartbeats 8000000 in
theorem cb_X0_init {l : Launch} {G : mm_G} (h : Nat) : mb_K l G yX0_init (cX0_init, 1, RX0, none, 1) [.ref h] 0 0 [(h, .inr (0, [.int 0, .int 0]))] (fun w1 => w1 = [(h, .inr (0, [.int (-4), .int 0]))]) := by
  refine mb_met (by decide +kernel) rfl rfl (Nat.le_of_ble_eq_true rfl) (fun X sz hX hm => ?_)
  subst hX
  show mb_T X (mm_gA G (va_A [(h, .inr (0, [.int 0, .int 0]))] sz)) (cX0_init, 1, RX0, none, 1) (mb_rm 1 0 0) _ [(h, .inr (0, [.int 0, .int 0]))] 0 0 0 [(0, .ref h)] []
  refine mb_aload_n 1 rfl dX0_init_0 rfl 0 rfl ?_
  refine mb_objInit 4 rfl dX0_init_1 mw_1_161 mw_1_24 mw_1_25 (Nat.le_of_ble_eq_true rfl) (Nat.le_of_ble_eq_true rfl) ?_
  refine mb_aload_n 5 rfl dX0_init_4 rfl 0 rfl ?_
  refine mb_bipush 7 rfl (v := (-4)) dX0_init_5 (by decide) ?_
  refine mb_put (ty := .int) 10 rfl dX0_init_7 0 rfl rfl in_X0 tyX0 tyX0_ok nmX0 0 (by decide) mw_1_162 rfl (by decide +kernel) rfl rfl (Nat.le_of_ble_eq_true rfl) (ws' := [(h, .inr (0, [.int (-4), .int 0]))]) rfl ?_
  exact mb_vret dX0_init_10 rfl rfl rfl

set_option maxRecDepth 100000 in
set_option maxHeartbeats 8000000 in
theorem cb_X3_init {l : Launch} {G : mm_G} (h : Nat) (t : Nat) : mb_K l G yX3_init (cX3_init, 2, RX3, none, 1) [.ref h, .ref t] 0 0 [(h, .inr (3, [.null, .int 0, .int 0, .int 0]))] (fun w1 => w1 = [(h, .inr (3, [.ref t, .int 0, .int 0, .int 0]))]) := by
  refine mb_met (by decide +kernel) rfl rfl (Nat.le_of_ble_eq_true rfl) (fun X sz hX hm => ?_)
  subst hX
  show mb_T X (mm_gA G (va_A [(h, .inr (3, [.null, .int 0, .int 0, .int 0]))] sz)) (cX3_init, 2, RX3, none, 1) (mb_rm 1 0 0) _ [(h, .inr (3, [.null, .int 0, .int 0, .int 0]))] 0 0 0 [(0, .ref h), (1, .ref t)] []
  refine mb_aload_n 1 rfl dX3_init_0 rfl 0 rfl ?_
  refine mb_objInit 4 rfl dX3_init_1 mw_1_121 mw_1_24 mw_1_25 (Nat.le_of_ble_eq_true rfl) (Nat.le_of_ble_eq_true rfl) ?_
  refine mb_aload_n 5 rfl dX3_init_4 rfl 0 rfl ?_
  refine mb_aload_n 6 rfl dX3_init_5 rfl 1 rfl ?_
  refine mb_putF (ty := (.object "MangleLine$Tape")) 9 rfl dX3_init_6 hm 0 rfl rfl in_X3 tyX3 tyX3_ok nmX3 0 (by decide) mw_1_122 rfl rfl (by decide +kernel) rfl rfl (Nat.le_of_ble_eq_true rfl) (ws' := [(h, .inr (3, [.ref t, .int 0, .int 0, .int 0]))]) rfl ?_
  exact mb_vret dX3_init_9 rfl rfl rfl

set_option maxRecDepth 100000 in
set_option maxHeartbeats 8000000 in
theorem cb_X5_init {l : Launch} {G : mm_G} (h : Nat) : mb_K l G yX5_init (cX5_init, 1, RX5, none, 1) [.ref h] 3 18 [(h, .inr (5, [.int 0, .null, .null, .null]))] (fun w1 => ∃ ad : Nat → Nat, ad 0 = h ∧ w1 = mm_w ad (mb_shS (mm_gd G ad)) mb_Z) := by
  refine mb_met (by decide +kernel) rfl rfl (Nat.le_of_ble_eq_true rfl) (fun X sz hX hm => ?_)
  subst hX
  show mb_T X (mm_gA G (va_A [(h, .inr (5, [.int 0, .null, .null, .null]))] sz)) (cX5_init, 1, RX5, none, 1) (mb_rm 1 3 18) _ [(h, .inr (5, [.int 0, .null, .null, .null]))] 0 0 0 [(0, .ref h)] []
  refine mb_aload_n 1 rfl dX5_init_0 rfl 0 rfl ?_
  refine mb_objInit 4 rfl dX5_init_1 mw_1_141 mw_1_24 mw_1_25 (Nat.le_of_ble_eq_true rfl) (Nat.le_of_ble_eq_true rfl) ?_
  refine mb_aload_n 5 rfl dX5_init_4 rfl 0 rfl ?_
  refine mb_bipush 7 rfl (v := 6) dX5_init_5 (by decide) ?_
  refine mb_newi 9 rfl dX5_init_7 6 (by decide) (by decide) (by decide) mw_1_85 (Nat.le_of_ble_eq_true rfl) (Nat.le_of_ble_eq_true rfl) (fun q1 => ?_)
  refine mb_putF (ty := (.array .int)) 12 rfl dX5_init_9 hm 0 rfl rfl in_X5 tyX5 tyX5_ok nmX5 1 (by decide) mw_1_144 rfl rfl (by decide +kernel) rfl rfl (Nat.le_of_ble_eq_true rfl) (ws' := ([(h, .inr (5, [.int 0, .ref q1, .null, .null]))] ++ [(q1, .inl (mm_cy G 0, 6, .inl (fun _ => 0)))])) rfl ?_
  refine mb_aload_n 13 rfl dX5_init_12 rfl 0 rfl ?_
  refine mb_bipush 15 rfl (v := 6) dX5_init_13 (by decide) ?_
  refine mb_newi 17 rfl dX5_init_15 6 (by decide) (by decide) (by decide) mw_1_85 (Nat.le_of_ble_eq_true rfl) (Nat.le_of_ble_eq_true rfl) (fun q2 => ?_)
  refine mb_putF (ty := (.array .int)) 20 rfl dX5_init_17 hm 0 rfl rfl in_X5 tyX5 tyX5_ok nmX5 2 (by decide) mw_1_145 rfl rfl (by decide +kernel) rfl rfl (Nat.le_of_ble_eq_true rfl) (ws' := (([(h, .inr (5, [.int 0, .ref q1, .ref q2, .null]))] ++ [(q1, .inl (mm_cy G 0, 6, .inl (fun _ => 0)))]) ++ [(q2, .inl (mm_cy G 0, 6, .inl (fun _ => 0)))])) rfl ?_
  refine mb_aload_n 21 rfl dX5_init_20 rfl 0 rfl ?_
  refine mb_bipush 23 rfl (v := 6) dX5_init_21 (by decide) ?_
  refine mb_newi 25 rfl dX5_init_23 6 (by decide) (by decide) (by decide) mw_1_85 (Nat.le_of_ble_eq_true rfl) (Nat.le_of_ble_eq_true rfl) (fun q3 => ?_)
  refine mb_putF (ty := (.array .int)) 28 rfl dX5_init_25 hm 0 rfl rfl in_X5 tyX5 tyX5_ok nmX5 3 (by decide) mw_1_146 rfl rfl (by decide +kernel) rfl rfl (Nat.le_of_ble_eq_true rfl) (ws' := ((([(h, .inr (5, [.int 0, .ref q1, .ref q2, .ref q3]))] ++ [(q1, .inl (mm_cy G 0, 6, .inl (fun _ => 0)))]) ++ [(q2, .inl (mm_cy G 0, 6, .inl (fun _ => 0)))]) ++ [(q3, .inl (mm_cy G 0, 6, .inl (fun _ => 0)))])) rfl ?_
  exact mb_vret dX5_init_28 rfl rfl ⟨fun j => [h, q1, q2, q3].getD j 0, rfl, rfl⟩

set_option maxRecDepth 100000 in
set_option maxHeartbeats 8000000 in
theorem cb_X6_init {l : Launch} {G : mm_G} (h : Nat) : mb_K l G yX6_init (cX6_init, 1, RX6, none, 1) [.ref h] 1 160 [(h, .inr (6, [.null, .int 0, .int 0, .int 0, .int 0, .int 0]))] (fun w1 => ∃ ad : Nat → Nat, ad 0 = h ∧ w1 = mm_w ad (mb_shT (mm_gd G ad)) mb_Z) := by
  refine mb_met (by decide +kernel) rfl rfl (Nat.le_of_ble_eq_true rfl) (fun X sz hX hm => ?_)
  subst hX
  show mb_T X (mm_gA G (va_A [(h, .inr (6, [.null, .int 0, .int 0, .int 0, .int 0, .int 0]))] sz)) (cX6_init, 1, RX6, none, 1) (mb_rm 1 1 160) _ [(h, .inr (6, [.null, .int 0, .int 0, .int 0, .int 0, .int 0]))] 0 0 0 [(0, .ref h)] []
  refine mb_aload_n 1 rfl dX6_init_0 rfl 0 rfl ?_
  refine mb_objInit 4 rfl dX6_init_1 mw_1_92 mw_1_24 mw_1_25 (Nat.le_of_ble_eq_true rfl) (Nat.le_of_ble_eq_true rfl) ?_
  refine mb_aload_n 5 rfl dX6_init_4 rfl 0 rfl ?_
  refine mb_sipush 8 rfl (v := 160) dX6_init_5 (by decide) ?_
  refine mb_newi 10 rfl dX6_init_8 160 (by decide) (by decide) (by decide) mw_1_85 (Nat.le_of_ble_eq_true rfl) (Nat.le_of_ble_eq_true rfl) (fun q1 => ?_)
  refine mb_putF (ty := (.array .int)) 13 rfl dX6_init_10 hm 0 rfl rfl in_X6 tyX6 tyX6_ok nmX6 0 (by decide) mw_1_93 rfl rfl (by decide +kernel) rfl rfl (Nat.le_of_ble_eq_true rfl) (ws' := ([(h, .inr (6, [.ref q1, .int 0, .int 0, .int 0, .int 0, .int 0]))] ++ [(q1, .inl (mm_cy G 0, 160, .inl (fun _ => 0)))])) rfl ?_
  exact mb_vret dX6_init_13 rfl rfl ⟨fun j => [h, q1].getD j 0, rfl, rfl⟩

set_option maxRecDepth 100000 in
set_option maxHeartbeats 8000000 in
theorem cb_X4_init {l : Launch} {G : mm_G} (h : Nat) : mb_K l G yX4_init (cX4_init, 1, RX4, none, 1) [.ref h] 1 40 [(h, .inr (4, [.int 0, .int 0, .null]))] (fun w1 => ∃ ad : Nat → Nat, ad 0 = h ∧ w1 = mm_w ad (mb_shH (mm_gd G ad)) mb_MH) := by
  refine mb_met (by decide +kernel) rfl rfl (Nat.le_of_ble_eq_true rfl) (fun X sz hX hm => ?_)
  subst hX
  show mb_T X (mm_gA G (va_A [(h, .inr (4, [.int 0, .int 0, .null]))] sz)) (cX4_init, 1, RX4, none, 1) (mb_rm 1 1 40) _ [(h, .inr (4, [.int 0, .int 0, .null]))] 0 0 0 [(0, .ref h)] []
  refine mb_aload_n 1 rfl dX4_init_0 rfl 0 rfl ?_
  refine mb_objInit 4 rfl dX4_init_1 mw_1_198 mw_1_24 mw_1_25 (Nat.le_of_ble_eq_true rfl) (Nat.le_of_ble_eq_true rfl) ?_
  refine mb_aload_n 5 rfl dX4_init_4 rfl 0 rfl ?_
  refine mb_iconst 6 rfl (v := (-1)) dX4_init_5 (by decide) ?_
  refine mb_put (ty := .int) 9 rfl dX4_init_6 0 rfl rfl in_X4 tyX4 tyX4_ok nmX4 0 (by decide) mw_1_199 rfl (by decide +kernel) rfl rfl (Nat.le_of_ble_eq_true rfl) (ws' := [(h, .inr (4, [.int (-1), .int 0, .null]))]) rfl ?_
  refine mb_aload_n 10 rfl dX4_init_9 rfl 0 rfl ?_
  refine mb_bipush 12 rfl (v := 40) dX4_init_10 (by decide) ?_
  refine mb_newi 14 rfl dX4_init_12 40 (by decide) (by decide) (by decide) mw_1_85 (Nat.le_of_ble_eq_true rfl) (Nat.le_of_ble_eq_true rfl) (fun q1 => ?_)
  refine mb_putF (ty := (.array .int)) 17 rfl dX4_init_14 hm 0 rfl rfl in_X4 tyX4 tyX4_ok nmX4 2 (by decide) mw_1_202 rfl rfl (by decide +kernel) rfl rfl (Nat.le_of_ble_eq_true rfl) (ws' := ([(h, .inr (4, [.int (-1), .int 0, .ref q1]))] ++ [(q1, .inl (mm_cy G 0, 40, .inl (fun _ => 0)))])) rfl ?_
  exact mb_vret dX4_init_17 rfl rfl ⟨fun j => [h, q1].getD j 0, rfl, rfl⟩

set_option maxRecDepth 100000 in
set_option maxHeartbeats 8000000 in
theorem cb_X2_init {l : Launch} {G : mm_G} (h : Nat) : mb_K l G yX2_init (cX2_init, 1, RX2, none, 3) [.ref h] 6 36 [(h, .inr (2, [.int 0, .int 0, .int 0, .null, .null, .null, .null, .null, .null]))] (fun w1 => ∃ ad : Nat → Nat, ad 0 = h ∧ w1 = mm_w ad (mb_shL (mm_gd G ad)) mb_ML) := by
  refine mb_met (by decide +kernel) rfl rfl (Nat.le_of_ble_eq_true rfl) (fun X sz hX hm => ?_)
  subst hX
  show mb_T X (mm_gA G (va_A [(h, .inr (2, [.int 0, .int 0, .int 0, .null, .null, .null, .null, .null, .null]))] sz)) (cX2_init, 1, RX2, none, 3) (mb_rm 3 6 36) _ [(h, .inr (2, [.int 0, .int 0, .int 0, .null, .null, .null, .null, .null, .null]))] 0 0 0 [(0, .ref h)] []
  refine mb_aload_n 1 rfl dX2_init_0 rfl 0 rfl ?_
  refine mb_objInit 4 rfl dX2_init_1 mw_1_31 mw_1_24 mw_1_25 (Nat.le_of_ble_eq_true rfl) (Nat.le_of_ble_eq_true rfl) ?_
  refine mb_aload_n 5 rfl dX2_init_4 rfl 0 rfl ?_
  refine mb_bipush 7 rfl (v := 6) dX2_init_5 (by decide) ?_
  refine mb_newi 9 rfl dX2_init_7 6 (by decide) (by decide) (by decide) mw_1_85 (Nat.le_of_ble_eq_true rfl) (Nat.le_of_ble_eq_true rfl) (fun q1 => ?_)
  refine mb_putF (ty := (.array .int)) 12 rfl dX2_init_9 hm 0 rfl rfl in_X2 tyX2 tyX2_ok nmX2 3 (by decide) mw_1_51 rfl rfl (by decide +kernel) rfl rfl (Nat.le_of_ble_eq_true rfl) (ws' := ([(h, .inr (2, [.int 0, .int 0, .int 0, .ref q1, .null, .null, .null, .null, .null]))] ++ [(q1, .inl (mm_cy G 0, 6, .inl (fun _ => 0)))])) rfl ?_
  refine mb_aload_n 13 rfl dX2_init_12 rfl 0 rfl ?_
  refine mb_bipush 15 rfl (v := 6) dX2_init_13 (by decide) ?_
  refine mb_newi 17 rfl dX2_init_15 6 (by decide) (by decide) (by decide) mw_1_85 (Nat.le_of_ble_eq_true rfl) (Nat.le_of_ble_eq_true rfl) (fun q2 => ?_)
  refine mb_putF (ty := (.array .int)) 20 rfl dX2_init_17 hm 0 rfl rfl in_X2 tyX2 tyX2_ok nmX2 4 (by decide) mw_1_53 rfl rfl (by decide +kernel) rfl rfl (Nat.le_of_ble_eq_true rfl) (ws' := (([(h, .inr (2, [.int 0, .int 0, .int 0, .ref q1, .ref q2, .null, .null, .null, .null]))] ++ [(q1, .inl (mm_cy G 0, 6, .inl (fun _ => 0)))]) ++ [(q2, .inl (mm_cy G 0, 6, .inl (fun _ => 0)))])) rfl ?_
  refine mb_aload_n 21 rfl dX2_init_20 rfl 0 rfl ?_
  refine mb_bipush 23 rfl (v := 6) dX2_init_21 (by decide) ?_
  refine mb_newi 25 rfl dX2_init_23 6 (by decide) (by decide) (by decide) mw_1_85 (Nat.le_of_ble_eq_true rfl) (Nat.le_of_ble_eq_true rfl) (fun q3 => ?_)
  refine mb_putF (ty := (.array .int)) 28 rfl dX2_init_25 hm 0 rfl rfl in_X2 tyX2 tyX2_ok nmX2 5 (by decide) mw_1_55 rfl rfl (by decide +kernel) rfl rfl (Nat.le_of_ble_eq_true rfl) (ws' := ((([(h, .inr (2, [.int 0, .int 0, .int 0, .ref q1, .ref q2, .ref q3, .null, .null, .null]))] ++ [(q1, .inl (mm_cy G 0, 6, .inl (fun _ => 0)))]) ++ [(q2, .inl (mm_cy G 0, 6, .inl (fun _ => 0)))]) ++ [(q3, .inl (mm_cy G 0, 6, .inl (fun _ => 0)))])) rfl ?_
  refine mb_aload_n 29 rfl dX2_init_28 rfl 0 rfl ?_
  refine mb_bipush 31 rfl (v := 6) dX2_init_29 (by decide) ?_
  refine mb_newi 33 rfl dX2_init_31 6 (by decide) (by decide) (by decide) mw_1_85 (Nat.le_of_ble_eq_true rfl) (Nat.le_of_ble_eq_true rfl) (fun q4 => ?_)
  refine mb_putF (ty := (.array .int)) 36 rfl dX2_init_33 hm 0 rfl rfl in_X2 tyX2 tyX2_ok nmX2 6 (by decide) mw_1_57 rfl rfl (by decide +kernel) rfl rfl (Nat.le_of_ble_eq_true rfl) (ws' := (((([(h, .inr (2, [.int 0, .int 0, .int 0, .ref q1, .ref q2, .ref q3, .ref q4, .null, .null]))] ++ [(q1, .inl (mm_cy G 0, 6, .inl (fun _ => 0)))]) ++ [(q2, .inl (mm_cy G 0, 6, .inl (fun _ => 0)))]) ++ [(q3, .inl (mm_cy G 0, 6, .inl (fun _ => 0)))]) ++ [(q4, .inl (mm_cy G 0, 6, .inl (fun _ => 0)))])) rfl ?_
  refine mb_aload_n 37 rfl dX2_init_36 rfl 0 rfl ?_
  refine mb_iconst 38 rfl (v := 5) dX2_init_37 (by decide) ?_
  refine mb_newi 40 rfl dX2_init_38 5 (by decide) (by decide) (by decide) mw_1_85 (Nat.le_of_ble_eq_true rfl) (Nat.le_of_ble_eq_true rfl) (fun q5 => ?_)
  refine mb_putF (ty := (.array .int)) 43 rfl dX2_init_40 hm 0 rfl rfl in_X2 tyX2 tyX2_ok nmX2 7 (by decide) mw_1_60 rfl rfl (by decide +kernel) rfl rfl (Nat.le_of_ble_eq_true rfl) (ws' := ((((([(h, .inr (2, [.int 0, .int 0, .int 0, .ref q1, .ref q2, .ref q3, .ref q4, .ref q5, .null]))] ++ [(q1, .inl (mm_cy G 0, 6, .inl (fun _ => 0)))]) ++ [(q2, .inl (mm_cy G 0, 6, .inl (fun _ => 0)))]) ++ [(q3, .inl (mm_cy G 0, 6, .inl (fun _ => 0)))]) ++ [(q4, .inl (mm_cy G 0, 6, .inl (fun _ => 0)))]) ++ [(q5, .inl (mm_cy G 0, 5, .inl (fun _ => 0)))])) rfl ?_
  refine mb_aload_n 44 rfl dX2_init_43 rfl 0 rfl ?_
  refine mb_bipush 46 rfl (v := 7) dX2_init_44 (by decide) ?_
  refine mb_newi 48 rfl dX2_init_46 7 (by decide) (by decide) (by decide) mw_1_85 (Nat.le_of_ble_eq_true rfl) (Nat.le_of_ble_eq_true rfl) (fun q6 => ?_)
  refine mb_putF (ty := (.array .int)) 51 rfl dX2_init_48 hm 0 rfl rfl in_X2 tyX2 tyX2_ok nmX2 8 (by decide) mw_1_63 rfl rfl (by decide +kernel) rfl rfl (Nat.le_of_ble_eq_true rfl) (ws' := (((((([(h, .inr (2, [.int 0, .int 0, .int 0, .ref q1, .ref q2, .ref q3, .ref q4, .ref q5, .ref q6]))] ++ [(q1, .inl (mm_cy G 0, 6, .inl (fun _ => 0)))]) ++ [(q2, .inl (mm_cy G 0, 6, .inl (fun _ => 0)))]) ++ [(q3, .inl (mm_cy G 0, 6, .inl (fun _ => 0)))]) ++ [(q4, .inl (mm_cy G 0, 6, .inl (fun _ => 0)))]) ++ [(q5, .inl (mm_cy G 0, 5, .inl (fun _ => 0)))]) ++ [(q6, .inl (mm_cy G 0, 7, .inl (fun _ => 0)))])) rfl ?_
  refine mb_aload_n 52 rfl dX2_init_51 rfl 0 rfl ?_
  have hL : mm_isLau (mm_gd (mm_gA G (va_A [(h, .inr (2, [.int 0, .int 0, .int 0, .null, .null, .null, .null, .null, .null]))] sz)) (fun j => [h, q1, q2, q3, q4, q5, q6].getD j 0)) (mb_shL (mm_gd (mm_gA G (va_A [(h, .inr (2, [.int 0, .int 0, .int 0, .null, .null, .null, .null, .null, .null]))] sz)) (fun j => [h, q1, q2, q3, q4, q5, q6].getD j 0))) 0 := ⟨rfl, rfl, rfl, rfl, rfl, rfl, rfl⟩
  show mb_T X (mm_gd (mm_gA G (va_A [(h, .inr (2, [.int 0, .int 0, .int 0, .null, .null, .null, .null, .null, .null]))] sz)) (fun j => [h, q1, q2, q3, q4, q5, q6].getD j 0)) (cX2_init, 1, RX2, none, 3) _ _ _ _ _ 52 _ [.ref (mm_ad (mm_gd (mm_gA G (va_A [(h, .inr (2, [.int 0, .int 0, .int 0, .null, .null, .null, .null, .null, .null]))] sz)) (fun j => [h, q1, q2, q3, q4, q5, q6].getD j 0)) 0)]
  refine mb_callT (o := 0) (sh := mb_shL (mm_gd (mm_gA G (va_A [(h, .inr (2, [.int 0, .int 0, .int 0, .null, .null, .null, .null, .null, .null]))] sz)) (fun j => [h, q1, q2, q3, q4, q5, q6].getD j 0))) (M := mb_Z) 55 rfl dX2_init_52 hL.1 rfl rfl (ct_X2_clear 0 hL) (pl_clear 0 mb_Z) ⟨(Nat.le_of_ble_eq_true rfl), (Nat.le_of_ble_eq_true rfl)⟩ ⟨(Nat.le_of_ble_eq_true rfl), (Nat.le_of_ble_eq_true rfl)⟩ rfl (by decide +kernel) mw_1_32 mw_1_34 mw_0_0 mw_1_2 mw_1_35 (Nat.le_of_ble_eq_true rfl) rfl ?_
  show mb_T X (mm_gA G (va_A [(h, .inr (2, [.int 0, .int 0, .int 0, .null, .null, .null, .null, .null, .null]))] sz)) (cX2_init, 1, RX2, none, 3) _ _ (mm_w (fun j => [h, q1, q2, q3, q4, q5, q6].getD j 0) (mb_shL (mm_gd (mm_gA G (va_A [(h, .inr (2, [.int 0, .int 0, .int 0, .null, .null, .null, .null, .null, .null]))] sz)) (fun j => [h, q1, q2, q3, q4, q5, q6].getD j 0))) mb_ML) _ _ 55 _ []
  exact mb_vret dX2_init_55 rfl rfl ⟨(fun j => [h, q1, q2, q3, q4, q5, q6].getD j 0), rfl, rfl⟩

set_option maxRecDepth 100000 in
set_option maxHeartbeats 8000000 in
theorem cb_X1_init {l : Launch} {G : mm_G} (h : Nat) : mb_K l G yX1_init (cX1_init, 1, RX1, none, 4) [.ref h] 11 67 [(h, .inr (1, [.int 0, .null, .null]))] (fun w1 => ∃ ad : Nat → Nat, ad 0 = h ∧ w1 = mm_w ad (mb_shI (mm_gd G ad)) mb_MI) := by
  refine mb_met (by decide +kernel) rfl rfl (Nat.le_of_ble_eq_true rfl) (fun X sz hX hm => ?_)
  subst hX
  show mb_T X (mm_gA G (va_A [(h, .inr (1, [.int 0, .null, .null]))] sz)) (cX1_init, 1, RX1, none, 4) (mb_rm 4 11 67) _ [(h, .inr (1, [.int 0, .null, .null]))] 0 0 0 [(0, .ref h)] []
  refine mb_aload_n 1 rfl dX1_init_0 rfl 0 rfl ?_
  refine mb_objInit 4 rfl dX1_init_1 mw_1_177 mw_1_24 mw_1_25 (Nat.le_of_ble_eq_true rfl) (Nat.le_of_ble_eq_true rfl) ?_
  refine mb_aload_n 5 rfl dX1_init_4 rfl 0 rfl ?_
  refine mb_new (ci := 2) (fs := [.int 0, .int 0, .int 0, .null, .null, .null, .null, .null, .null]) 8 rfl dX1_init_5 rfl in_X2 tyX2 tyX2_ok mw_1_178 mw_1_27 mw_1_2 (fun j hj => by match j, hj with | 0, _ => rfl | 1, _ => rfl | 2, _ => rfl | 3, _ => rfl | 4, _ => rfl | 5, _ => rfl | 6, _ => rfl | 7, _ => rfl | 8, _ => rfl) (Nat.le_of_ble_eq_true rfl) (Nat.le_of_ble_eq_true rfl) (fun q1 => ?_)
  refine mb_dup 9 rfl dX1_init_8 rfl ?_
  refine mb_callIN (as := []) (n := 0) 12 rfl dX1_init_9 (cb_X2_init q1) rfl (by decide +kernel) (List.mem_of_getElem? (i := 26) rfl) mw_1_29 mw_1_2 mw_1_30 ⟨(Nat.le_of_ble_eq_true rfl), (Nat.le_of_ble_eq_true rfl)⟩ ⟨(Nat.le_of_ble_eq_true rfl), (Nat.le_of_ble_eq_true rfl)⟩ rfl rfl (Nat.le_of_ble_eq_true rfl) rfl (fun w3 p4 => ?_)
  obtain ⟨a2, ea2, rfl⟩ := p4
  subst ea2
  refine mb_putF (ty := (.object "MangleLine$Laundry")) 15 rfl dX1_init_12 hm 0 rfl rfl in_X1 tyX1 tyX1_ok nmX1 1 (by decide) mw_1_183 rfl rfl (by decide +kernel) rfl rfl (Nat.le_of_ble_eq_true rfl) (ws' := ([(h, .inr (1, [.int 0, .ref (a2 0), .null]))] ++ mm_w a2 (mb_shL (mm_gd G a2)) mb_ML)) rfl ?_
  refine mb_aload_n 16 rfl dX1_init_15 rfl 0 rfl ?_
  refine mb_new (ci := 5) (fs := [.int 0, .null, .null, .null]) 19 rfl dX1_init_16 rfl in_X5 tyX5 tyX5_ok mw_1_180 mw_1_137 mw_1_7 (fun j hj => by match j, hj with | 0, _ => rfl | 1, _ => rfl | 2, _ => rfl | 3, _ => rfl) (Nat.le_of_ble_eq_true rfl) (Nat.le_of_ble_eq_true rfl) (fun q5 => ?_)
  refine mb_dup 20 rfl dX1_init_19 rfl ?_
  refine mb_callIN (as := []) (n := 0) 23 rfl dX1_init_20 (cb_X5_init q5) rfl (by decide +kernel) (List.mem_of_getElem? (i := 27) rfl) mw_1_139 mw_1_7 mw_1_140 ⟨(Nat.le_of_ble_eq_true rfl), (Nat.le_of_ble_eq_true rfl)⟩ ⟨(Nat.le_of_ble_eq_true rfl), (Nat.le_of_ble_eq_true rfl)⟩ rfl rfl (Nat.le_of_ble_eq_true rfl) rfl (fun w7 p8 => ?_)
  obtain ⟨a6, ea6, rfl⟩ := p8
  subst ea6
  refine mb_putF (ty := (.object "MangleLine$Sightings")) 26 rfl dX1_init_23 hm 0 rfl rfl in_X1 tyX1 tyX1_ok nmX1 2 (by decide) mw_1_185 rfl rfl (by decide +kernel) rfl rfl (Nat.le_of_ble_eq_true rfl) (ws' := (([(h, .inr (1, [.int 0, .ref (a2 0), .ref (a6 0)]))] ++ mm_w a2 (mb_shL (mm_gd G a2)) mb_ML) ++ mm_w a6 (mb_shS (mm_gd G a6)) mb_Z)) rfl ?_
  exact mb_vret dX1_init_26 rfl rfl ⟨fun j => if j < 1 then h else if j < 8 then a2 (j - 1) else a6 (j - 8), rfl, rfl⟩

