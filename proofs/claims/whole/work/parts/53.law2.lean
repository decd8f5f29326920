set_option maxRecDepth 100000 in
set_option maxHeartbeats 4000000 in
theorem lc_batch {p : Program} {l : Launch} {e : Env} {s : State} {m : MethodId} {below : List Frame} {meth : Method} {c : Code} {G : mm_G} {b L : Nat} {xs : Nat → Int32} {aC aR : Nat → Nat} {S : mm_M → mm_M → Prop} (hA0 : sm_All S) (hX : va_X b L xs s s.heap) (hbl : b < s.heap.size) (hbA : ¬ mm_A G b) {n i : Nat} (hi : i + 5 ≤ L) (hL : L ≤ 320) (hn : L - i < n + 1) (ih : ∀ (i : Nat) (N : Nat → Int64) (C R : mm_M), i ≤ L → L - i < n → S C R → mb_T (p, l, e, s, m, #[Value.ref b], below, meth, c) G (cL_law, 4, RL, ret, 300) room_1 (lw_Z below #[Value.ref b] s) (mm_w aC (mb_shC (mm_gd G aC)) C ++ mm_w aR (mb_shM N (mm_gd G aR)) R) 600000 7302250 18 [(0, .ref b), (1, .ref (aC 0)), (2, .ref (aR 0)), (3, .int (nI i))] []) {N : Nat → Int64} {C R : mm_M} (hSim : S C R) {op : Int32} (hop : op = 20) (hi1 : vp_in (nI i + 1) L) (hi2 : vp_in (nI i + 2) L) (hi3 : vp_in (nI i + 3) L) (hi4 : vp_in (nI i + 4) L) : mb_T (p, l, e, s, m, #[Value.ref b], below, meth, c) G (cL_law, 4, RL, ret, 300) room_1 (lw_Z below #[Value.ref b] s) (mm_w aC (mb_shC (mm_gd G aC)) C ++ mm_w aR (mb_shM N (mm_gd G aR)) R) 600000 7302250 32 [(0, .ref b), (1, .ref (aC 0)), (2, .ref (aR 0)), (3, .int (nI i))] [.int op] := by
  refine mb_tabIn 728 20 hop dL_law_32 (by decide) (by decide) rfl (by decide) ?_
  have hsim := hA0.2.2.2.2.2.2.2.2.2.2.2.2.2.2.2.2.2.2.2.2.1 C R hSim (xs (nI i + 1).toNatClampNeg)
  obtain ⟨r, C', R', e1, e2, hSim'⟩ := hsim
  refine mb_swap ?_
  refine mb_aload_n 729 rfl dL_law_728 rfl 1 rfl ?_
  refine mb_aload_n 730 rfl dL_law_729 rfl 0 rfl ?_
  refine mb_iload_n 731 rfl dL_law_730 rfl 3 rfl ?_
  refine mb_iconst 732 rfl (v := 1) dL_law_731 (by decide) ?_
  refine mb_iadd 733 rfl dL_law_732 ?_
  refine mb_sld 734 rfl dL_law_733 hX hbl hbA hi1 ?_
  refine lj_call (n := 1) (o := 0) (as := [.int (xs (nI i + 1).toNatClampNeg)]) (ad := aC) (M := C) (sh := (mb_shC (mm_gd G aC))) (g := mm_mli (mm_gd G aC) 0) (W0 := (mm_w aR (mb_shM N (mm_gd G aR)) R)) 737 rfl dL_law_734 rfl rfl rfl (ct_X7_batch (xs (nI i + 1).toNatClampNeg) (lj_isMli (mm_gd G aC) _)) e1 ⟨(Nat.le_of_ble_eq_true rfl), (Nat.le_of_ble_eq_true rfl)⟩ ⟨(Nat.le_of_ble_eq_true rfl), (Nat.le_of_ble_eq_true rfl)⟩ rfl (by decide +kernel) mw_3_78 mw_3_79 mw_3_80 mw_1_1 mw_3_81 rfl rfl (Nat.le_of_ble_eq_true rfl) rfl ?_
  show mb_T (p, l, e, s, m, #[Value.ref b], below, meth, c) G (cL_law, 4, RL, ret, 300) room_1 (lw_Z below #[Value.ref b] s) (mm_w aR (mb_shM N (mm_gd G aR)) R ++ mm_w aC (mb_shC (mm_gd G aC)) C') 600000 7302250 737 [(0, .ref b), (1, .ref (aC 0)), (2, .ref (aR 0)), (3, .int (nI i))] [.int r]
  refine mb_swap ?_
  refine mb_aload_n 738 rfl dL_law_737 rfl 2 rfl ?_
  refine mb_aload_n 739 rfl dL_law_738 rfl 0 rfl ?_
  refine mb_iload_n 740 rfl dL_law_739 rfl 3 rfl ?_
  refine mb_iconst 741 rfl (v := 1) dL_law_740 (by decide) ?_
  refine mb_iadd 742 rfl dL_law_741 ?_
  refine mb_sld 743 rfl dL_law_742 hX hbl hbA hi1 ?_
  refine lj_call (n := 1) (o := 0) (as := [.int (xs (nI i + 1).toNatClampNeg)]) (ad := aR) (M := R) (sh := (mb_shM N (mm_gd G aR))) (g := mm_mod N (mm_gd G aR) 0) (W0 := (mm_w aC (mb_shC (mm_gd G aC)) C')) 746 rfl dL_law_743 rfl rfl rfl (ct_X8_batch (xs (nI i + 1).toNatClampNeg) (lj_isMod N (mm_gd G aR) _)) e2 ⟨(Nat.le_of_ble_eq_true rfl), (Nat.le_of_ble_eq_true rfl)⟩ ⟨(Nat.le_of_ble_eq_true rfl), (Nat.le_of_ble_eq_true rfl)⟩ rfl (by decide +kernel) mw_5_153 mw_5_154 mw_5_155 mw_1_11 mw_5_156 rfl rfl (Nat.le_of_ble_eq_true rfl) rfl ?_
  show mb_T (p, l, e, s, m, #[Value.ref b], below, meth, c) G (cL_law, 4, RL, ret, 300) room_1 (lw_Z below #[Value.ref b] s) (mm_w aC (mb_shC (mm_gd G aC)) C' ++ mm_w aR (mb_shM N (mm_gd G aR)) R') 600000 7302250 746 [(0, .ref b), (1, .ref (aC 0)), (2, .ref (aR 0)), (3, .int (nI i))] [.int r, .int r]
  refine mb_icmp_eqY 1370 dL_law_746 (by decide) rfl ?_
  refine mb_iinc 1373 rfl dL_law_1370 3 rfl (v := nI (i + 5)) (nI_add i 5) (lv' := [(3, .int (nI (i + 5))), (0, .ref b), (1, .ref (aC 0)), (2, .ref (aR 0))]) (by decide) rfl ?_
  refine mb_goto 18 dL_law_1373 (by decide) ?_
  exact mb_lv [1, 2, 3, 0] rfl (ih (i + 5) N C' R' (by omega) (by omega) hSim')

set_option maxRecDepth 100000 in
set_option maxHeartbeats 4000000 in
theorem lc_swap {p : Program} {l : Launch} {e : Env} {s : State} {m : MethodId} {below : List Frame} {meth : Method} {c : Code} {G : mm_G} {b L : Nat} {xs : Nat → Int32} {aC aR : Nat → Nat} {S : mm_M → mm_M → Prop} (hA0 : sm_All S) (hX : va_X b L xs s s.heap) (hbl : b < s.heap.size) (hbA : ¬ mm_A G b) {n i : Nat} (hi : i + 5 ≤ L) (hL : L ≤ 320) (hn : L - i < n + 1) (ih : ∀ (i : Nat) (N : Nat → Int64) (C R : mm_M), i ≤ L → L - i < n → S C R → mb_T (p, l, e, s, m, #[Value.ref b], below, meth, c) G (cL_law, 4, RL, ret, 300) room_1 (lw_Z below #[Value.ref b] s) (mm_w aC (mb_shC (mm_gd G aC)) C ++ mm_w aR (mb_shM N (mm_gd G aR)) R) 600000 7302250 18 [(0, .ref b), (1, .ref (aC 0)), (2, .ref (aR 0)), (3, .int (nI i))] []) {N : Nat → Int64} {C R : mm_M} (hSim : S C R) {op : Int32} (hop : op = 21) (hi1 : vp_in (nI i + 1) L) (hi2 : vp_in (nI i + 2) L) (hi3 : vp_in (nI i + 3) L) (hi4 : vp_in (nI i + 4) L) : mb_T (p, l, e, s, m, #[Value.ref b], below, meth, c) G (cL_law, 4, RL, ret, 300) room_1 (lw_Z below #[Value.ref b] s) (mm_w aC (mb_shC (mm_gd G aC)) C ++ mm_w aR (mb_shM N (mm_gd G aR)) R) 600000 7302250 32 [(0, .ref b), (1, .ref (aC 0)), (2, .ref (aR 0)), (3, .int (nI i))] [.int op] := by
  refine mb_tabIn 751 21 hop dL_law_32 (by decide) (by decide) rfl (by decide) ?_
  have hsim := hA0.2.2.2.2.2.2.2.2.2.2.2.2.2.2.2.2.2.2.2.2.2.1 C R hSim (xs (nI i + 1).toNatClampNeg)
  obtain ⟨r, C', R', e1, e2, hSim'⟩ := hsim
  refine mb_swap ?_
  refine mb_aload_n 752 rfl dL_law_751 rfl 1 rfl ?_
  refine mb_aload_n 753 rfl dL_law_752 rfl 0 rfl ?_
  refine mb_iload_n 754 rfl dL_law_753 rfl 3 rfl ?_
  refine mb_iconst 755 rfl (v := 1) dL_law_754 (by decide) ?_
  refine mb_iadd 756 rfl dL_law_755 ?_
  refine mb_sld 757 rfl dL_law_756 hX hbl hbA hi1 ?_
  refine lj_call (n := 1) (o := 0) (as := [.int (xs (nI i + 1).toNatClampNeg)]) (ad := aC) (M := C) (sh := (mb_shC (mm_gd G aC))) (g := mm_mli (mm_gd G aC) 0) (W0 := (mm_w aR (mb_shM N (mm_gd G aR)) R)) 760 rfl dL_law_757 rfl rfl rfl (ct_X7_swap (xs (nI i + 1).toNatClampNeg) (lj_isMli (mm_gd G aC) _)) e1 ⟨(Nat.le_of_ble_eq_true rfl), (Nat.le_of_ble_eq_true rfl)⟩ ⟨(Nat.le_of_ble_eq_true rfl), (Nat.le_of_ble_eq_true rfl)⟩ rfl (by decide +kernel) mw_3_97 mw_3_98 mw_3_99 mw_1_1 mw_3_100 rfl rfl (Nat.le_of_ble_eq_true rfl) rfl ?_
  show mb_T (p, l, e, s, m, #[Value.ref b], below, meth, c) G (cL_law, 4, RL, ret, 300) room_1 (lw_Z below #[Value.ref b] s) (mm_w aR (mb_shM N (mm_gd G aR)) R ++ mm_w aC (mb_shC (mm_gd G aC)) C') 600000 7302250 760 [(0, .ref b), (1, .ref (aC 0)), (2, .ref (aR 0)), (3, .int (nI i))] [.int r]
  refine mb_swap ?_
  refine mb_aload_n 761 rfl dL_law_760 rfl 2 rfl ?_
  refine mb_aload_n 762 rfl dL_law_761 rfl 0 rfl ?_
  refine mb_iload_n 763 rfl dL_law_762 rfl 3 rfl ?_
  refine mb_iconst 764 rfl (v := 1) dL_law_763 (by decide) ?_
  refine mb_iadd 765 rfl dL_law_764 ?_
  refine mb_sld 766 rfl dL_law_765 hX hbl hbA hi1 ?_
  refine lj_call (n := 1) (o := 0) (as := [.int (xs (nI i + 1).toNatClampNeg)]) (ad := aR) (M := R) (sh := (mb_shM N (mm_gd G aR))) (g := mm_mod N (mm_gd G aR) 0) (W0 := (mm_w aC (mb_shC (mm_gd G aC)) C')) 769 rfl dL_law_766 rfl rfl rfl (ct_X8_swap (xs (nI i + 1).toNatClampNeg) (lj_isMod N (mm_gd G aR) _)) e2 ⟨(Nat.le_of_ble_eq_true rfl), (Nat.le_of_ble_eq_true rfl)⟩ ⟨(Nat.le_of_ble_eq_true rfl), (Nat.le_of_ble_eq_true rfl)⟩ rfl (by decide +kernel) mw_5_173 mw_5_174 mw_5_175 mw_1_11 mw_5_176 rfl rfl (Nat.le_of_ble_eq_true rfl) rfl ?_
  show mb_T (p, l, e, s, m, #[Value.ref b], below, meth, c) G (cL_law, 4, RL, ret, 300) room_1 (lw_Z below #[Value.ref b] s) (mm_w aC (mb_shC (mm_gd G aC)) C' ++ mm_w aR (mb_shM N (mm_gd G aR)) R') 600000 7302250 769 [(0, .ref b), (1, .ref (aC 0)), (2, .ref (aR 0)), (3, .int (nI i))] [.int r, .int r]
  refine mb_icmp_eqY 1370 dL_law_769 (by decide) rfl ?_
  refine mb_iinc 1373 rfl dL_law_1370 3 rfl (v := nI (i + 5)) (nI_add i 5) (lv' := [(3, .int (nI (i + 5))), (0, .ref b), (1, .ref (aC 0)), (2, .ref (aR 0))]) (by decide) rfl ?_
  refine mb_goto 18 dL_law_1373 (by decide) ?_
  exact mb_lv [1, 2, 3, 0] rfl (ih (i + 5) N C' R' (by omega) (by omega) hSim')

set_option maxRecDepth 100000 in
set_option maxHeartbeats 4000000 in
theorem lc_fair {p : Program} {l : Launch} {e : Env} {s : State} {m : MethodId} {below : List Frame} {meth : Method} {c : Code} {G : mm_G} {b L : Nat} {xs : Nat → Int32} {aC aR : Nat → Nat} {S : mm_M → mm_M → Prop} (hA0 : sm_All S) (hX : va_X b L xs s s.heap) (hbl : b < s.heap.size) (hbA : ¬ mm_A G b) {n i : Nat} (hi : i + 5 ≤ L) (hL : L ≤ 320) (hn : L - i < n + 1) (ih : ∀ (i : Nat) (N : Nat → Int64) (C R : mm_M), i ≤ L → L - i < n → S C R → mb_T (p, l, e, s, m, #[Value.ref b], below, meth, c) G (cL_law, 4, RL, ret, 300) room_1 (lw_Z below #[Value.ref b] s) (mm_w aC (mb_shC (mm_gd G aC)) C ++ mm_w aR (mb_shM N (mm_gd G aR)) R) 600000 7302250 18 [(0, .ref b), (1, .ref (aC 0)), (2, .ref (aR 0)), (3, .int (nI i))] []) {N : Nat → Int64} {C R : mm_M} (hSim : S C R) {op : Int32} (hop : op = 22) (hi1 : vp_in (nI i + 1) L) (hi2 : vp_in (nI i + 2) L) (hi3 : vp_in (nI i + 3) L) (hi4 : vp_in (nI i + 4) L) : mb_T (p, l, e, s, m, #[Value.ref b], below, meth, c) G (cL_law, 4, RL, ret, 300) room_1 (lw_Z below #[Value.ref b] s) (mm_w aC (mb_shC (mm_gd G aC)) C ++ mm_w aR (mb_shM N (mm_gd G aR)) R) 600000 7302250 32 [(0, .ref b), (1, .ref (aC 0)), (2, .ref (aR 0)), (3, .int (nI i))] [.int op] := by
  refine mb_tabIn 774 22 hop dL_law_32 (by decide) (by decide) rfl (by decide) ?_
  have hsim := hA0.2.2.2.2.2.2.2.2.2.2.2.2.2.2.2.2.2.2.2.2.2.2.1 C R hSim (xs (nI i + 1).toNatClampNeg)
  obtain ⟨r, C', R', e1, e2, hSim'⟩ := hsim
  refine mb_swap ?_
  refine mb_aload_n 775 rfl dL_law_774 rfl 1 rfl ?_
  refine mb_aload_n 776 rfl dL_law_775 rfl 0 rfl ?_
  refine mb_iload_n 777 rfl dL_law_776 rfl 3 rfl ?_
  refine mb_iconst 778 rfl (v := 1) dL_law_777 (by decide) ?_
  refine mb_iadd 779 rfl dL_law_778 ?_
  refine mb_sld 780 rfl dL_law_779 hX hbl hbA hi1 ?_
  refine lj_call (n := 1) (o := 0) (as := [.int (xs (nI i + 1).toNatClampNeg)]) (ad := aC) (M := C) (sh := (mb_shC (mm_gd G aC))) (g := mm_mli (mm_gd G aC) 0) (W0 := (mm_w aR (mb_shM N (mm_gd G aR)) R)) 783 rfl dL_law_780 rfl rfl rfl (ct_X7_fair (xs (nI i + 1).toNatClampNeg) (lj_isMli (mm_gd G aC) _)) e1 ⟨(Nat.le_of_ble_eq_true rfl), (Nat.le_of_ble_eq_true rfl)⟩ ⟨(Nat.le_of_ble_eq_true rfl), (Nat.le_of_ble_eq_true rfl)⟩ rfl (by decide +kernel) mw_3_108 mw_3_109 mw_3_110 mw_1_1 mw_3_111 rfl rfl (Nat.le_of_ble_eq_true rfl) rfl ?_
  show mb_T (p, l, e, s, m, #[Value.ref b], below, meth, c) G (cL_law, 4, RL, ret, 300) room_1 (lw_Z below #[Value.ref b] s) (mm_w aR (mb_shM N (mm_gd G aR)) R ++ mm_w aC (mb_shC (mm_gd G aC)) C') 600000 7302250 783 [(0, .ref b), (1, .ref (aC 0)), (2, .ref (aR 0)), (3, .int (nI i))] [.int r]
  refine mb_swap ?_
  refine mb_aload_n 784 rfl dL_law_783 rfl 2 rfl ?_
  refine mb_aload_n 785 rfl dL_law_784 rfl 0 rfl ?_
  refine mb_iload_n 786 rfl dL_law_785 rfl 3 rfl ?_
  refine mb_iconst 787 rfl (v := 1) dL_law_786 (by decide) ?_
  refine mb_iadd 788 rfl dL_law_787 ?_
  refine mb_sld 789 rfl dL_law_788 hX hbl hbA hi1 ?_
  refine lj_call (n := 1) (o := 0) (as := [.int (xs (nI i + 1).toNatClampNeg)]) (ad := aR) (M := R) (sh := (mb_shM N (mm_gd G aR))) (g := mm_mod N (mm_gd G aR) 0) (W0 := (mm_w aC (mb_shC (mm_gd G aC)) C')) 792 rfl dL_law_789 rfl rfl rfl (ct_X8_fair (xs (nI i + 1).toNatClampNeg) (lj_isMod N (mm_gd G aR) _)) e2 ⟨(Nat.le_of_ble_eq_true rfl), (Nat.le_of_ble_eq_true rfl)⟩ ⟨(Nat.le_of_ble_eq_true rfl), (Nat.le_of_ble_eq_true rfl)⟩ rfl (by decide +kernel) mw_5_177 mw_5_178 mw_5_179 mw_1_11 mw_5_180 rfl rfl (Nat.le_of_ble_eq_true rfl) rfl ?_
  show mb_T (p, l, e, s, m, #[Value.ref b], below, meth, c) G (cL_law, 4, RL, ret, 300) room_1 (lw_Z below #[Value.ref b] s) (mm_w aC (mb_shC (mm_gd G aC)) C' ++ mm_w aR (mb_shM N (mm_gd G aR)) R') 600000 7302250 792 [(0, .ref b), (1, .ref (aC 0)), (2, .ref (aR 0)), (3, .int (nI i))] [.int r, .int r]
  refine mb_icmp_eqY 1370 dL_law_792 (by decide) rfl ?_
  refine mb_iinc 1373 rfl dL_law_1370 3 rfl (v := nI (i + 5)) (nI_add i 5) (lv' := [(3, .int (nI (i + 5))), (0, .ref b), (1, .ref (aC 0)), (2, .ref (aR 0))]) (by decide) rfl ?_
  refine mb_goto 18 dL_law_1373 (by decide) ?_
  exact mb_lv [1, 2, 3, 0] rfl (ih (i + 5) N C' R' (by omega) (by omega) hSim')

set_option maxRecDepth 100000 in
set_option maxHeartbeats 4000000 in
theorem lc_stain {p : Program} {l : Launch} {e : Env} {s : State} {m : MethodId} {below : List Frame} {meth : Method} {c : Code} {G : mm_G} {b L : Nat} {xs : Nat → Int32} {aC aR : Nat → Nat} {S : mm_M → mm_M → Prop} (hA0 : sm_All S) (hX : va_X b L xs s s.heap) (hbl : b < s.heap.size) (hbA : ¬ mm_A G b) {n i : Nat} (hi : i + 5 ≤ L) (hL : L ≤ 320) (hn : L - i < n + 1) (ih : ∀ (i : Nat) (N : Nat → Int64) (C R : mm_M), i ≤ L → L - i < n → S C R → mb_T (p, l, e, s, m, #[Value.ref b], below, meth, c) G (cL_law, 4, RL, ret, 300) room_1 (lw_Z below #[Value.ref b] s) (mm_w aC (mb_shC (mm_gd G aC)) C ++ mm_w aR (mb_shM N (mm_gd G aR)) R) 600000 7302250 18 [(0, .ref b), (1, .ref (aC 0)), (2, .ref (aR 0)), (3, .int (nI i))] []) {N : Nat → Int64} {C R : mm_M} (hSim : S C R) {op : Int32} (hop : op = 23) (hi1 : vp_in (nI i + 1) L) (hi2 : vp_in (nI i + 2) L) (hi3 : vp_in (nI i + 3) L) (hi4 : vp_in (nI i + 4) L) : mb_T (p, l, e, s, m, #[Value.ref b], below, meth, c) G (cL_law, 4, RL, ret, 300) room_1 (lw_Z below #[Value.ref b] s) (mm_w aC (mb_shC (mm_gd G aC)) C ++ mm_w aR (mb_shM N (mm_gd G aR)) R) 600000 7302250 32 [(0, .ref b), (1, .ref (aC 0)), (2, .ref (aR 0)), (3, .int (nI i))] [.int op] := by
  refine mb_tabIn 797 23 hop dL_law_32 (by decide) (by decide) rfl (by decide) ?_
  have hsim := hA0.2.2.2.2.2.2.2.2.2.2.2.2.2.2.2.2.2.2.2.2.2.2.2.1 C R hSim (xs (nI i + 1).toNatClampNeg) (xs (nI i + 2).toNatClampNeg)
  obtain ⟨r, C', R', e1, e2, hSim'⟩ := hsim
  refine mb_swap ?_
  refine mb_aload_n 798 rfl dL_law_797 rfl 1 rfl ?_
  refine mb_aload_n 799 rfl dL_law_798 rfl 0 rfl ?_
  refine mb_iload_n 800 rfl dL_law_799 rfl 3 rfl ?_
  refine mb_iconst 801 rfl (v := 1) dL_law_800 (by decide) ?_
  refine mb_iadd 802 rfl dL_law_801 ?_
  refine mb_sld 803 rfl dL_law_802 hX hbl hbA hi1 ?_
  refine mb_aload_n 804 rfl dL_law_803 rfl 0 rfl ?_
  refine mb_iload_n 805 rfl dL_law_804 rfl 3 rfl ?_
  refine mb_iconst 806 rfl (v := 2) dL_law_805 (by decide) ?_
  refine mb_iadd 807 rfl dL_law_806 ?_
  refine mb_sld 808 rfl dL_law_807 hX hbl hbA hi2 ?_
  refine lj_call (n := 2) (o := 0) (as := [.int (xs (nI i + 1).toNatClampNeg), .int (xs (nI i + 2).toNatClampNeg)]) (ad := aC) (M := C) (sh := (mb_shC (mm_gd G aC))) (g := mm_mli (mm_gd G aC) 0) (W0 := (mm_w aR (mb_shM N (mm_gd G aR)) R)) 811 rfl dL_law_808 rfl rfl rfl (ct_X7_stain (xs (nI i + 1).toNatClampNeg) (xs (nI i + 2).toNatClampNeg) (lj_isMli (mm_gd G aC) _)) e1 ⟨(Nat.le_of_ble_eq_true rfl), (Nat.le_of_ble_eq_true rfl)⟩ ⟨(Nat.le_of_ble_eq_true rfl), (Nat.le_of_ble_eq_true rfl)⟩ rfl (by decide +kernel) mw_3_112 mw_3_113 mw_3_114 mw_1_1 mw_3_115 rfl rfl (Nat.le_of_ble_eq_true rfl) rfl ?_
  show mb_T (p, l, e, s, m, #[Value.ref b], below, meth, c) G (cL_law, 4, RL, ret, 300) room_1 (lw_Z below #[Value.ref b] s) (mm_w aR (mb_shM N (mm_gd G aR)) R ++ mm_w aC (mb_shC (mm_gd G aC)) C') 600000 7302250 811 [(0, .ref b), (1, .ref (aC 0)), (2, .ref (aR 0)), (3, .int (nI i))] [.int r]
  refine mb_swap ?_
  refine mb_aload_n 812 rfl dL_law_811 rfl 2 rfl ?_
  refine mb_aload_n 813 rfl dL_law_812 rfl 0 rfl ?_
  refine mb_iload_n 814 rfl dL_law_813 rfl 3 rfl ?_
  refine mb_iconst 815 rfl (v := 1) dL_law_814 (by decide) ?_
  refine mb_iadd 816 rfl dL_law_815 ?_
  refine mb_sld 817 rfl dL_law_816 hX hbl hbA hi1 ?_
  refine mb_aload_n 818 rfl dL_law_817 rfl 0 rfl ?_
  refine mb_iload_n 819 rfl dL_law_818 rfl 3 rfl ?_
  refine mb_iconst 820 rfl (v := 2) dL_law_819 (by decide) ?_
  refine mb_iadd 821 rfl dL_law_820 ?_
  refine mb_sld 822 rfl dL_law_821 hX hbl hbA hi2 ?_
  refine lj_call (n := 2) (o := 0) (as := [.int (xs (nI i + 1).toNatClampNeg), .int (xs (nI i + 2).toNatClampNeg)]) (ad := aR) (M := R) (sh := (mb_shM N (mm_gd G aR))) (g := mm_mod N (mm_gd G aR) 0) (W0 := (mm_w aC (mb_shC (mm_gd G aC)) C')) 825 rfl dL_law_822 rfl rfl rfl (ct_X8_stain (xs (nI i + 1).toNatClampNeg) (xs (nI i + 2).toNatClampNeg) (lj_isMod N (mm_gd G aR) _)) e2 ⟨(Nat.le_of_ble_eq_true rfl), (Nat.le_of_ble_eq_true rfl)⟩ ⟨(Nat.le_of_ble_eq_true rfl), (Nat.le_of_ble_eq_true rfl)⟩ rfl (by decide +kernel) mw_5_181 mw_5_182 mw_5_183 mw_1_11 mw_5_184 rfl rfl (Nat.le_of_ble_eq_true rfl) rfl ?_
  show mb_T (p, l, e, s, m, #[Value.ref b], below, meth, c) G (cL_law, 4, RL, ret, 300) room_1 (lw_Z below #[Value.ref b] s) (mm_w aC (mb_shC (mm_gd G aC)) C' ++ mm_w aR (mb_shM N (mm_gd G aR)) R') 600000 7302250 825 [(0, .ref b), (1, .ref (aC 0)), (2, .ref (aR 0)), (3, .int (nI i))] [.int r, .int r]
  refine mb_icmp_eqY 1370 dL_law_825 (by decide) rfl ?_
  refine mb_iinc 1373 rfl dL_law_1370 3 rfl (v := nI (i + 5)) (nI_add i 5) (lv' := [(3, .int (nI (i + 5))), (0, .ref b), (1, .ref (aC 0)), (2, .ref (aR 0))]) (by decide) rfl ?_
  refine mb_goto 18 dL_law_1373 (by decide) ?_
  exact mb_lv [1, 2, 3, 0] rfl (ih (i + 5) N C' R' (by omega) (by omega) hSim')

set_option maxRecDepth 100000 in
set_option maxHeartbeats 4000000 in
theorem lc_kind {p : Program} {l : Launch} {e : Env} {s : State} {m : MethodId} {below : List Frame} {meth : Method} {c : Code} {G : mm_G} {b L : Nat} {xs : Nat → Int32} {aC aR : Nat → Nat} {S : mm_M → mm_M → Prop} (hA0 : sm_All S) (hX : va_X b L xs s s.heap) (hbl : b < s.heap.size) (hbA : ¬ mm_A G b) {n i : Nat} (hi : i + 5 ≤ L) (hL : L ≤ 320) (hn : L - i < n + 1) (ih : ∀ (i : Nat) (N : Nat → Int64) (C R : mm_M), i ≤ L → L - i < n → S C R → mb_T (p, l, e, s, m, #[Value.ref b], below, meth, c) G (cL_law, 4, RL, ret, 300) room_1 (lw_Z below #[Value.ref b] s) (mm_w aC (mb_shC (mm_gd G aC)) C ++ mm_w aR (mb_shM N (mm_gd G aR)) R) 600000 7302250 18 [(0, .ref b), (1, .ref (aC 0)), (2, .ref (aR 0)), (3, .int (nI i))] []) {N : Nat → Int64} {C R : mm_M} (hSim : S C R) {op : Int32} (hop : op = 24) (hi1 : vp_in (nI i + 1) L) (hi2 : vp_in (nI i + 2) L) (hi3 : vp_in (nI i + 3) L) (hi4 : vp_in (nI i + 4) L) : mb_T (p, l, e, s, m, #[Value.ref b], below, meth, c) G (cL_law, 4, RL, ret, 300) room_1 (lw_Z below #[Value.ref b] s) (mm_w aC (mb_shC (mm_gd G aC)) C ++ mm_w aR (mb_shM N (mm_gd G aR)) R) 600000 7302250 32 [(0, .ref b), (1, .ref (aC 0)), (2, .ref (aR 0)), (3, .int (nI i))] [.int op] := by
  refine mb_tabIn 830 24 hop dL_law_32 (by decide) (by decide) rfl (by decide) ?_
  have hsim := hA0.2.2.2.2.2.2.2.2.2.2.2.2.2.2.2.2.2.2.2.2.2.2.2.2.1 C R hSim (xs (nI i + 1).toNatClampNeg) (xs (nI i + 2).toNatClampNeg)
  obtain ⟨r, C', R', e1, e2, hSim'⟩ := hsim
  refine mb_swap ?_
  refine mb_aload_n 831 rfl dL_law_830 rfl 1 rfl ?_
  refine mb_aload_n 832 rfl dL_law_831 rfl 0 rfl ?_
  refine mb_iload_n 833 rfl dL_law_832 rfl 3 rfl ?_
  refine mb_iconst 834 rfl (v := 1) dL_law_833 (by decide) ?_
  refine mb_iadd 835 rfl dL_law_834 ?_
  refine mb_sld 836 rfl dL_law_835 hX hbl hbA hi1 ?_
  refine mb_aload_n 837 rfl dL_law_836 rfl 0 rfl ?_
  refine mb_iload_n 838 rfl dL_law_837 rfl 3 rfl ?_
  refine mb_iconst 839 rfl (v := 2) dL_law_838 (by decide) ?_
  refine mb_iadd 840 rfl dL_law_839 ?_
  refine mb_sld 841 rfl dL_law_840 hX hbl hbA hi2 ?_
  refine lj_call (n := 2) (o := 0) (as := [.int (xs (nI i + 1).toNatClampNeg), .int (xs (nI i + 2).toNatClampNeg)]) (ad := aC) (M := C) (sh := (mb_shC (mm_gd G aC))) (g := mm_mli (mm_gd G aC) 0) (W0 := (mm_w aR (mb_shM N (mm_gd G aR)) R)) 844 rfl dL_law_841 rfl rfl rfl (ct_X7_kind (xs (nI i + 1).toNatClampNeg) (xs (nI i + 2).toNatClampNeg) (lj_isMli (mm_gd G aC) _)) e1 ⟨(Nat.le_of_ble_eq_true rfl), (Nat.le_of_ble_eq_true rfl)⟩ ⟨(Nat.le_of_ble_eq_true rfl), (Nat.le_of_ble_eq_true rfl)⟩ rfl (by decide +kernel) mw_3_116 mw_3_117 mw_3_118 mw_1_1 mw_3_119 rfl rfl (Nat.le_of_ble_eq_true rfl) rfl ?_
  show mb_T (p, l, e, s, m, #[Value.ref b], below, meth, c) G (cL_law, 4, RL, ret, 300) room_1 (lw_Z below #[Value.ref b] s) (mm_w aR (mb_shM N (mm_gd G aR)) R ++ mm_w aC (mb_shC (mm_gd G aC)) C') 600000 7302250 844 [(0, .ref b), (1, .ref (aC 0)), (2, .ref (aR 0)), (3, .int (nI i))] [.int r]
  refine mb_swap ?_
  refine mb_aload_n 845 rfl dL_law_844 rfl 2 rfl ?_
  refine mb_aload_n 846 rfl dL_law_845 rfl 0 rfl ?_
  refine mb_iload_n 847 rfl dL_law_846 rfl 3 rfl ?_
  refine mb_iconst 848 rfl (v := 1) dL_law_847 (by decide) ?_
  refine mb_iadd 849 rfl dL_law_848 ?_
  refine mb_sld 850 rfl dL_law_849 hX hbl hbA hi1 ?_
  refine mb_aload_n 851 rfl dL_law_850 rfl 0 rfl ?_
  refine mb_iload_n 852 rfl dL_law_851 rfl 3 rfl ?_
  refine mb_iconst 853 rfl (v := 2) dL_law_852 (by decide) ?_
  refine mb_iadd 854 rfl dL_law_853 ?_
  refine mb_sld 855 rfl dL_law_854 hX hbl hbA hi2 ?_
  refine lj_call (n := 2) (o := 0) (as := [.int (xs (nI i + 1).toNatClampNeg), .int (xs (nI i + 2).toNatClampNeg)]) (ad := aR) (M := R) (sh := (mb_shM N (mm_gd G aR))) (g := mm_mod N (mm_gd G aR) 0) (W0 := (mm_w aC (mb_shC (mm_gd G aC)) C')) 858 rfl dL_law_855 rfl rfl rfl (ct_X8_kind (xs (nI i + 1).toNatClampNeg) (xs (nI i + 2).toNatClampNeg) (lj_isMod N (mm_gd G aR) _)) e2 ⟨(Nat.le_of_ble_eq_true rfl), (Nat.le_of_ble_eq_true rfl)⟩ ⟨(Nat.le_of_ble_eq_true rfl), (Nat.le_of_ble_eq_true rfl)⟩ rfl (by decide +kernel) mw_5_185 mw_5_186 mw_5_187 mw_1_11 mw_5_188 rfl rfl (Nat.le_of_ble_eq_true rfl) rfl ?_
  show mb_T (p, l, e, s, m, #[Value.ref b], below, meth, c) G (cL_law, 4, RL, ret, 300) room_1 (lw_Z below #[Value.ref b] s) (mm_w aC (mb_shC (mm_gd G aC)) C' ++ mm_w aR (mb_shM N (mm_gd G aR)) R') 600000 7302250 858 [(0, .ref b), (1, .ref (aC 0)), (2, .ref (aR 0)), (3, .int (nI i))] [.int r, .int r]
  refine mb_icmp_eqY 1370 dL_law_858 (by decide) rfl ?_
  refine mb_iinc 1373 rfl dL_law_1370 3 rfl (v := nI (i + 5)) (nI_add i 5) (lv' := [(3, .int (nI (i + 5))), (0, .ref b), (1, .ref (aC 0)), (2, .ref (aR 0))]) (by decide) rfl ?_
  refine mb_goto 18 dL_law_1373 (by decide) ?_
  exact mb_lv [1, 2, 3, 0] rfl (ih (i + 5) N C' R' (by omega) (by omega) hSim')

set_option maxRecDepth 100000 in
set_option maxHeartbeats 4000000 in
theorem lc_luck {p : Program} {l : Launch} {e : Env} {s : State} {m : MethodId} {below : List Frame} {meth : Method} {c : Code} {G : mm_G} {b L : Nat} {xs : Nat → Int32} {aC aR : Nat → Nat} {S : mm_M → mm_M → Prop} (hA0 : sm_All S) (hX : va_X b L xs s s.heap) (hbl : b < s.heap.size) (hbA : ¬ mm_A G b) {n i : Nat} (hi : i + 5 ≤ L) (hL : L ≤ 320) (hn : L - i < n + 1) (ih : ∀ (i : Nat) (N : Nat → Int64) (C R : mm_M), i ≤ L → L - i < n → S C R → mb_T (p, l, e, s, m, #[Value.ref b], below, meth, c) G (cL_law, 4, RL, ret, 300) room_1 (lw_Z below #[Value.ref b] s) (mm_w aC (mb_shC (mm_gd G aC)) C ++ mm_w aR (mb_shM N (mm_gd G aR)) R) 600000 7302250 18 [(0, .ref b), (1, .ref (aC 0)), (2, .ref (aR 0)), (3, .int (nI i))] []) {N : Nat → Int64} {C R : mm_M} (hSim : S C R) {op : Int32} (hop : op = 25) (hi1 : vp_in (nI i + 1) L) (hi2 : vp_in (nI i + 2) L) (hi3 : vp_in (nI i + 3) L) (hi4 : vp_in (nI i + 4) L) : mb_T (p, l, e, s, m, #[Value.ref b], below, meth, c) G (cL_law, 4, RL, ret, 300) room_1 (lw_Z below #[Value.ref b] s) (mm_w aC (mb_shC (mm_gd G aC)) C ++ mm_w aR (mb_shM N (mm_gd G aR)) R) 600000 7302250 32 [(0, .ref b), (1, .ref (aC 0)), (2, .ref (aR 0)), (3, .int (nI i))] [.int op] := by
  refine mb_tabIn 863 25 hop dL_law_32 (by decide) (by decide) rfl (by decide) ?_
  have hsim := hA0.2.2.2.2.2.2.2.2.2.2.2.2.2.2.2.2.2.2.2.2.2.2.2.2.2.1 C R hSim N (xs (nI i + 1).toNatClampNeg) (xs (nI i + 2).toNatClampNeg) (xs (nI i + 3).toNatClampNeg) (xs (nI i + 4).toNatClampNeg)
  obtain ⟨r, C', R', N', e1, e2, hSim'⟩ := hsim
  refine mb_swap ?_
  refine mb_aload_n 864 rfl dL_law_863 rfl 1 rfl ?_
  refine mb_aload_n 865 rfl dL_law_864 rfl 0 rfl ?_
  refine mb_iload_n 866 rfl dL_law_865 rfl 3 rfl ?_
  refine mb_iconst 867 rfl (v := 1) dL_law_866 (by decide) ?_
  refine mb_iadd 868 rfl dL_law_867 ?_
  refine mb_sld 869 rfl dL_law_868 hX hbl hbA hi1 ?_
  refine mb_aload_n 870 rfl dL_law_869 rfl 0 rfl ?_
  refine mb_iload_n 871 rfl dL_law_870 rfl 3 rfl ?_
  refine mb_iconst 872 rfl (v := 2) dL_law_871 (by decide) ?_
  refine mb_iadd 873 rfl dL_law_872 ?_
  refine mb_sld 874 rfl dL_law_873 hX hbl hbA hi2 ?_
  refine mb_aload_n 875 rfl dL_law_874 rfl 0 rfl ?_
  refine mb_iload_n 876 rfl dL_law_875 rfl 3 rfl ?_
  refine mb_iconst 877 rfl (v := 3) dL_law_876 (by decide) ?_
  refine mb_iadd 878 rfl dL_law_877 ?_
  refine mb_sld 879 rfl dL_law_878 hX hbl hbA hi3 ?_
  refine mb_aload_n 880 rfl dL_law_879 rfl 0 rfl ?_
  refine mb_iload_n 881 rfl dL_law_880 rfl 3 rfl ?_
  refine mb_iconst 882 rfl (v := 4) dL_law_881 (by decide) ?_
  refine mb_iadd 883 rfl dL_law_882 ?_
  refine mb_sld 884 rfl dL_law_883 hX hbl hbA hi4 ?_
  refine lj_call (n := 4) (o := 0) (as := [.int (xs (nI i + 1).toNatClampNeg), .int (xs (nI i + 2).toNatClampNeg), .int (xs (nI i + 3).toNatClampNeg), .int (xs (nI i + 4).toNatClampNeg)]) (ad := aC) (M := C) (sh := (mb_shC (mm_gd G aC))) (g := mm_mli (mm_gd G aC) 0) (W0 := (mm_w aR (mb_shM N (mm_gd G aR)) R)) 887 rfl dL_law_884 rfl rfl rfl (ct_X7_luck (xs (nI i + 1).toNatClampNeg) (xs (nI i + 2).toNatClampNeg) (xs (nI i + 3).toNatClampNeg) (xs (nI i + 4).toNatClampNeg) (lj_isMli (mm_gd G aC) _)) e1 ⟨(Nat.le_of_ble_eq_true rfl), (Nat.le_of_ble_eq_true rfl)⟩ ⟨(Nat.le_of_ble_eq_true rfl), (Nat.le_of_ble_eq_true rfl)⟩ rfl (by decide +kernel) mw_3_120 mw_3_121 mw_3_122 mw_1_1 mw_3_123 rfl rfl (Nat.le_of_ble_eq_true rfl) rfl ?_
  show mb_T (p, l, e, s, m, #[Value.ref b], below, meth, c) G (cL_law, 4, RL, ret, 300) room_1 (lw_Z below #[Value.ref b] s) (mm_w aR (mb_shM N (mm_gd G aR)) R ++ mm_w aC (mb_shC (mm_gd G aC)) C') 600000 7302250 887 [(0, .ref b), (1, .ref (aC 0)), (2, .ref (aR 0)), (3, .int (nI i))] [.long r]
  refine mb_swap ?_
  refine mb_aload_n 888 rfl dL_law_887 rfl 2 rfl ?_
  refine mb_aload_n 889 rfl dL_law_888 rfl 0 rfl ?_
  refine mb_iload_n 890 rfl dL_law_889 rfl 3 rfl ?_
  refine mb_iconst 891 rfl (v := 1) dL_law_890 (by decide) ?_
  refine mb_iadd 892 rfl dL_law_891 ?_
  refine mb_sld 893 rfl dL_law_892 hX hbl hbA hi1 ?_
  refine mb_aload_n 894 rfl dL_law_893 rfl 0 rfl ?_
  refine mb_iload_n 895 rfl dL_law_894 rfl 3 rfl ?_
  refine mb_iconst 896 rfl (v := 2) dL_law_895 (by decide) ?_
  refine mb_iadd 897 rfl dL_law_896 ?_
  refine mb_sld 898 rfl dL_law_897 hX hbl hbA hi2 ?_
  refine mb_aload_n 899 rfl dL_law_898 rfl 0 rfl ?_
  refine mb_iload_n 900 rfl dL_law_899 rfl 3 rfl ?_
  refine mb_iconst 901 rfl (v := 3) dL_law_900 (by decide) ?_
  refine mb_iadd 902 rfl dL_law_901 ?_
  refine mb_sld 903 rfl dL_law_902 hX hbl hbA hi3 ?_
  refine mb_aload_n 904 rfl dL_law_903 rfl 0 rfl ?_
  refine mb_iload_n 905 rfl dL_law_904 rfl 3 rfl ?_
  refine mb_iconst 906 rfl (v := 4) dL_law_905 (by decide) ?_
  refine mb_iadd 907 rfl dL_law_906 ?_
  refine mb_sld 908 rfl dL_law_907 hX hbl hbA hi4 ?_
  refine lj_call (n := 4) (o := 0) (as := [.int (xs (nI i + 1).toNatClampNeg), .int (xs (nI i + 2).toNatClampNeg), .int (xs (nI i + 3).toNatClampNeg), .int (xs (nI i + 4).toNatClampNeg)]) (ad := aR) (M := R) (sh := (mb_shM N (mm_gd G aR))) (g := mm_mod N (mm_gd G aR) 0) (W0 := (mm_w aC (mb_shC (mm_gd G aC)) C')) 911 rfl dL_law_908 rfl rfl rfl (ct_X8_luck (N := N) (xs (nI i + 1).toNatClampNeg) (xs (nI i + 2).toNatClampNeg) (xs (nI i + 3).toNatClampNeg) (xs (nI i + 4).toNatClampNeg) (lj_isMod N (mm_gd G aR) _)) e2 ⟨(Nat.le_of_ble_eq_true rfl), (Nat.le_of_ble_eq_true rfl)⟩ ⟨(Nat.le_of_ble_eq_true rfl), (Nat.le_of_ble_eq_true rfl)⟩ rfl (by decide +kernel) mw_5_189 mw_5_190 mw_5_191 mw_1_11 mw_5_192 rfl rfl (Nat.le_of_ble_eq_true rfl) rfl ?_
  show mb_T (p, l, e, s, m, #[Value.ref b], below, meth, c) G (cL_law, 4, RL, ret, 300) room_1 (lw_Z below #[Value.ref b] s) (mm_w aC (mb_shC (mm_gd G aC)) C' ++ mm_w aR (mb_shM N' (mm_gd G aR)) R') 600000 7302250 911 [(0, .ref b), (1, .ref (aC 0)), (2, .ref (aR 0)), (3, .int (nI i))] [.long r, .long r]
  refine mb_lcmp 912 rfl dL_law_911 ?_
  refine mb_if_eqY 1370 dL_law_912 (by decide) (by simp [lg_cmp]) ?_
  refine mb_iinc 1373 rfl dL_law_1370 3 rfl (v := nI (i + 5)) (nI_add i 5) (lv' := [(3, .int (nI (i + 5))), (0, .ref b), (1, .ref (aC 0)), (2, .ref (aR 0))]) (by decide) rfl ?_
  refine mb_goto 18 dL_law_1373 (by decide) ?_
  exact mb_lv [1, 2, 3, 0] rfl (ih (i + 5) N' C' R' (by omega) (by omega) hSim')

set_option maxRecDepth 100000 in
set_option maxHeartbeats 4000000 in
theorem lc_mean {p : Program} {l : Launch} {e : Env} {s : State} {m : MethodId} {below : List Frame} {meth : Method} {c : Code} {G : mm_G} {b L : Nat} {xs : Nat → Int32} {aC aR : Nat → Nat} {S : mm_M → mm_M → Prop} (hA0 : sm_All S) (hX : va_X b L xs s s.heap) (hbl : b < s.heap.size) (hbA : ¬ mm_A G b) {n i : Nat} (hi : i + 5 ≤ L) (hL : L ≤ 320) (hn : L - i < n + 1) (ih : ∀ (i : Nat) (N : Nat → Int64) (C R : mm_M), i ≤ L → L - i < n → S C R → mb_T (p, l, e, s, m, #[Value.ref b], below, meth, c) G (cL_law, 4, RL, ret, 300) room_1 (lw_Z below #[Value.ref b] s) (mm_w aC (mb_shC (mm_gd G aC)) C ++ mm_w aR (mb_shM N (mm_gd G aR)) R) 600000 7302250 18 [(0, .ref b), (1, .ref (aC 0)), (2, .ref (aR 0)), (3, .int (nI i))] []) {N : Nat → Int64} {C R : mm_M} (hSim : S C R) {op : Int32} (hop : op = 26) (hi1 : vp_in (nI i + 1) L) (hi2 : vp_in (nI i + 2) L) (hi3 : vp_in (nI i + 3) L) (hi4 : vp_in (nI i + 4) L) : mb_T (p, l, e, s, m, #[Value.ref b], below, meth, c) G (cL_law, 4, RL, ret, 300) room_1 (lw_Z below #[Value.ref b] s) (mm_w aC (mb_shC (mm_gd G aC)) C ++ mm_w aR (mb_shM N (mm_gd G aR)) R) 600000 7302250 32 [(0, .ref b), (1, .ref (aC 0)), (2, .ref (aR 0)), (3, .int (nI i))] [.int op] := by
  refine mb_tabIn 917 26 hop dL_law_32 (by decide) (by decide) rfl (by decide) ?_
  have hsim := hA0.2.2.2.2.2.2.2.2.2.2.2.2.2.2.2.2.2.2.2.2.2.2.2.2.2.2.1 C R hSim N (xs (nI i + 1).toNatClampNeg) (xs (nI i + 2).toNatClampNeg) (xs (nI i + 3).toNatClampNeg)
  obtain ⟨r, C', R', N', e1, e2, hSim'⟩ := hsim
  refine mb_swap ?_
  refine mb_aload_n 918 rfl dL_law_917 rfl 1 rfl ?_
  refine mb_aload_n 919 rfl dL_law_918 rfl 0 rfl ?_
  refine mb_iload_n 920 rfl dL_law_919 rfl 3 rfl ?_
  refine mb_iconst 921 rfl (v := 1) dL_law_920 (by decide) ?_
  refine mb_iadd 922 rfl dL_law_921 ?_
  refine mb_sld 923 rfl dL_law_922 hX hbl hbA hi1 ?_
  refine mb_aload_n 924 rfl dL_law_923 rfl 0 rfl ?_
  refine mb_iload_n 925 rfl dL_law_924 rfl 3 rfl ?_
  refine mb_iconst 926 rfl (v := 2) dL_law_925 (by decide) ?_
  refine mb_iadd 927 rfl dL_law_926 ?_
  refine mb_sld 928 rfl dL_law_927 hX hbl hbA hi2 ?_
  refine mb_aload_n 929 rfl dL_law_928 rfl 0 rfl ?_
  refine mb_iload_n 930 rfl dL_law_929 rfl 3 rfl ?_
  refine mb_iconst 931 rfl (v := 3) dL_law_930 (by decide) ?_
  refine mb_iadd 932 rfl dL_law_931 ?_
  refine mb_sld 933 rfl dL_law_932 hX hbl hbA hi3 ?_
  refine lj_call (n := 3) (o := 0) (as := [.int (xs (nI i + 1).toNatClampNeg), .int (xs (nI i + 2).toNatClampNeg), .int (xs (nI i + 3).toNatClampNeg)]) (ad := aC) (M := C) (sh := (mb_shC (mm_gd G aC))) (g := mm_mli (mm_gd G aC) 0) (W0 := (mm_w aR (mb_shM N (mm_gd G aR)) R)) 936 rfl dL_law_933 rfl rfl rfl (ct_X7_mean (xs (nI i + 1).toNatClampNeg) (xs (nI i + 2).toNatClampNeg) (xs (nI i + 3).toNatClampNeg) (lj_isMli (mm_gd G aC) _)) e1 ⟨(Nat.le_of_ble_eq_true rfl), (Nat.le_of_ble_eq_true rfl)⟩ ⟨(Nat.le_of_ble_eq_true rfl), (Nat.le_of_ble_eq_true rfl)⟩ rfl (by decide +kernel) mw_3_146 mw_3_147 mw_3_148 mw_1_1 mw_3_149 rfl rfl (Nat.le_of_ble_eq_true rfl) rfl ?_
  show mb_T (p, l, e, s, m, #[Value.ref b], below, meth, c) G (cL_law, 4, RL, ret, 300) room_1 (lw_Z below #[Value.ref b] s) (mm_w aR (mb_shM N (mm_gd G aR)) R ++ mm_w aC (mb_shC (mm_gd G aC)) C') 600000 7302250 936 [(0, .ref b), (1, .ref (aC 0)), (2, .ref (aR 0)), (3, .int (nI i))] [.long r]
  refine mb_swap ?_
  refine mb_aload_n 937 rfl dL_law_936 rfl 2 rfl ?_
  refine mb_aload_n 938 rfl dL_law_937 rfl 0 rfl ?_
  refine mb_iload_n 939 rfl dL_law_938 rfl 3 rfl ?_
  refine mb_iconst 940 rfl (v := 1) dL_law_939 (by decide) ?_
  refine mb_iadd 941 rfl dL_law_940 ?_
  refine mb_sld 942 rfl dL_law_941 hX hbl hbA hi1 ?_
  refine mb_aload_n 943 rfl dL_law_942 rfl 0 rfl ?_
  refine mb_iload_n 944 rfl dL_law_943 rfl 3 rfl ?_
  refine mb_iconst 945 rfl (v := 2) dL_law_944 (by decide) ?_
  refine mb_iadd 946 rfl dL_law_945 ?_
  refine mb_sld 947 rfl dL_law_946 hX hbl hbA hi2 ?_
  refine mb_aload_n 948 rfl dL_law_947 rfl 0 rfl ?_
  refine mb_iload_n 949 rfl dL_law_948 rfl 3 rfl ?_
  refine mb_iconst 950 rfl (v := 3) dL_law_949 (by decide) ?_
  refine mb_iadd 951 rfl dL_law_950 ?_
  refine mb_sld 952 rfl dL_law_951 hX hbl hbA hi3 ?_
  refine lj_call (n := 3) (o := 0) (as := [.int (xs (nI i + 1).toNatClampNeg), .int (xs (nI i + 2).toNatClampNeg), .int (xs (nI i + 3).toNatClampNeg)]) (ad := aR) (M := R) (sh := (mb_shM N (mm_gd G aR))) (g := mm_mod N (mm_gd G aR) 0) (W0 := (mm_w aC (mb_shC (mm_gd G aC)) C')) 955 rfl dL_law_952 rfl rfl rfl (ct_X8_mean (N := N) (xs (nI i + 1).toNatClampNeg) (xs (nI i + 2).toNatClampNeg) (xs (nI i + 3).toNatClampNeg) (lj_isMod N (mm_gd G aR) _)) e2 ⟨(Nat.le_of_ble_eq_true rfl), (Nat.le_of_ble_eq_true rfl)⟩ ⟨(Nat.le_of_ble_eq_true rfl), (Nat.le_of_ble_eq_true rfl)⟩ rfl (by decide +kernel) mw_5_206 mw_5_207 mw_5_208 mw_1_11 mw_5_209 rfl rfl (Nat.le_of_ble_eq_true rfl) rfl ?_
  show mb_T (p, l, e, s, m, #[Value.ref b], below, meth, c) G (cL_law, 4, RL, ret, 300) room_1 (lw_Z below #[Value.ref b] s) (mm_w aC (mb_shC (mm_gd G aC)) C' ++ mm_w aR (mb_shM N' (mm_gd G aR)) R') 600000 7302250 955 [(0, .ref b), (1, .ref (aC 0)), (2, .ref (aR 0)), (3, .int (nI i))] [.long r, .long r]
  refine mb_lcmp 956 rfl dL_law_955 ?_
  refine mb_if_eqY 1370 dL_law_956 (by decide) (by simp [lg_cmp]) ?_
  refine mb_iinc 1373 rfl dL_law_1370 3 rfl (v := nI (i + 5)) (nI_add i 5) (lv' := [(3, .int (nI (i + 5))), (0, .ref b), (1, .ref (aC 0)), (2, .ref (aR 0))]) (by decide) rfl ?_
  refine mb_goto 18 dL_law_1373 (by decide) ?_
  exact mb_lv [1, 2, 3, 0] rfl (ih (i + 5) N' C' R' (by omega) (by omega) hSim')

set_option maxRecDepth 100000 in
set_option maxHeartbeats 4000000 in
theorem lc_see {p : Program} {l : Launch} {e : Env} {s : State} {m : MethodId} {below : List Frame} {meth : Method} {c : Code} {G : mm_G} {b L : Nat} {xs : Nat → Int32} {aC aR : Nat → Nat} {S : mm_M → mm_M → Prop} (hA0 : sm_All S) (hX : va_X b L xs s s.heap) (hbl : b < s.heap.size) (hbA : ¬ mm_A G b) {n i : Nat} (hi : i + 5 ≤ L) (hL : L ≤ 320) (hn : L - i < n + 1) (ih : ∀ (i : Nat) (N : Nat → Int64) (C R : mm_M), i ≤ L → L - i < n → S C R → mb_T (p, l, e, s, m, #[Value.ref b], below, meth, c) G (cL_law, 4, RL, ret, 300) room_1 (lw_Z below #[Value.ref b] s) (mm_w aC (mb_shC (mm_gd G aC)) C ++ mm_w aR (mb_shM N (mm_gd G aR)) R) 600000 7302250 18 [(0, .ref b), (1, .ref (aC 0)), (2, .ref (aR 0)), (3, .int (nI i))] []) {N : Nat → Int64} {C R : mm_M} (hSim : S C R) {op : Int32} (hop : op = 27) (hi1 : vp_in (nI i + 1) L) (hi2 : vp_in (nI i + 2) L) (hi3 : vp_in (nI i + 3) L) (hi4 : vp_in (nI i + 4) L) : mb_T (p, l, e, s, m, #[Value.ref b], below, meth, c) G (cL_law, 4, RL, ret, 300) room_1 (lw_Z below #[Value.ref b] s) (mm_w aC (mb_shC (mm_gd G aC)) C ++ mm_w aR (mb_shM N (mm_gd G aR)) R) 600000 7302250 32 [(0, .ref b), (1, .ref (aC 0)), (2, .ref (aR 0)), (3, .int (nI i))] [.int op] := by
  refine mb_tabIn 961 27 hop dL_law_32 (by decide) (by decide) rfl (by decide) ?_
  have hsim := hA0.2.2.2.2.2.2.2.2.2.2.2.2.2.2.2.2.2.2.2.2.2.2.2.2.2.2.2.1 C R hSim (xs (nI i + 1).toNatClampNeg) (xs (nI i + 2).toNatClampNeg) (xs (nI i + 3).toNatClampNeg)
  obtain ⟨r, C', R', e1, e2, hSim'⟩ := hsim
  refine mb_swap ?_
  refine mb_aload_n 962 rfl dL_law_961 rfl 1 rfl ?_
  refine mb_aload_n 963 rfl dL_law_962 rfl 0 rfl ?_
  refine mb_iload_n 964 rfl dL_law_963 rfl 3 rfl ?_
  refine mb_iconst 965 rfl (v := 1) dL_law_964 (by decide) ?_
  refine mb_iadd 966 rfl dL_law_965 ?_
  refine mb_sld 967 rfl dL_law_966 hX hbl hbA hi1 ?_
  refine mb_aload_n 968 rfl dL_law_967 rfl 0 rfl ?_
  refine mb_iload_n 969 rfl dL_law_968 rfl 3 rfl ?_
  refine mb_iconst 970 rfl (v := 2) dL_law_969 (by decide) ?_
  refine mb_iadd 971 rfl dL_law_970 ?_
  refine mb_sld 972 rfl dL_law_971 hX hbl hbA hi2 ?_
  refine mb_aload_n 973 rfl dL_law_972 rfl 0 rfl ?_
  refine mb_iload_n 974 rfl dL_law_973 rfl 3 rfl ?_
  refine mb_iconst 975 rfl (v := 3) dL_law_974 (by decide) ?_
  refine mb_iadd 976 rfl dL_law_975 ?_
  refine mb_sld 977 rfl dL_law_976 hX hbl hbA hi3 ?_
  refine lj_call (n := 3) (o := 0) (as := [.int (xs (nI i + 1).toNatClampNeg), .int (xs (nI i + 2).toNatClampNeg), .int (xs (nI i + 3).toNatClampNeg)]) (ad := aC) (M := C) (sh := (mb_shC (mm_gd G aC))) (g := mm_mli (mm_gd G aC) 0) (W0 := (mm_w aR (mb_shM N (mm_gd G aR)) R)) 980 rfl dL_law_977 rfl rfl rfl (ct_X7_see (xs (nI i + 1).toNatClampNeg) (xs (nI i + 2).toNatClampNeg) (xs (nI i + 3).toNatClampNeg) (lj_isMli (mm_gd G aC) _)) e1 ⟨(Nat.le_of_ble_eq_true rfl), (Nat.le_of_ble_eq_true rfl)⟩ ⟨(Nat.le_of_ble_eq_true rfl), (Nat.le_of_ble_eq_true rfl)⟩ rfl (by decide +kernel) mw_3_150 mw_3_151 mw_3_152 mw_1_1 mw_3_153 rfl rfl (Nat.le_of_ble_eq_true rfl) rfl ?_
  show mb_T (p, l, e, s, m, #[Value.ref b], below, meth, c) G (cL_law, 4, RL, ret, 300) room_1 (lw_Z below #[Value.ref b] s) (mm_w aR (mb_shM N (mm_gd G aR)) R ++ mm_w aC (mb_shC (mm_gd G aC)) C') 600000 7302250 980 [(0, .ref b), (1, .ref (aC 0)), (2, .ref (aR 0)), (3, .int (nI i))] [.int r]
  refine mb_swap ?_
  refine mb_aload_n 981 rfl dL_law_980 rfl 2 rfl ?_
  refine mb_aload_n 982 rfl dL_law_981 rfl 0 rfl ?_
  refine mb_iload_n 983 rfl dL_law_982 rfl 3 rfl ?_
  refine mb_iconst 984 rfl (v := 1) dL_law_983 (by decide) ?_
  refine mb_iadd 985 rfl dL_law_984 ?_
  refine mb_sld 986 rfl dL_law_985 hX hbl hbA hi1 ?_
  refine mb_aload_n 987 rfl dL_law_986 rfl 0 rfl ?_
  refine mb_iload_n 988 rfl dL_law_987 rfl 3 rfl ?_
  refine mb_iconst 989 rfl (v := 2) dL_law_988 (by decide) ?_
  refine mb_iadd 990 rfl dL_law_989 ?_
  refine mb_sld 991 rfl dL_law_990 hX hbl hbA hi2 ?_
  refine mb_aload_n 992 rfl dL_law_991 rfl 0 rfl ?_
  refine mb_iload_n 993 rfl dL_law_992 rfl 3 rfl ?_
  refine mb_iconst 994 rfl (v := 3) dL_law_993 (by decide) ?_
  refine mb_iadd 995 rfl dL_law_994 ?_
  refine mb_sld 996 rfl dL_law_995 hX hbl hbA hi3 ?_
  refine lj_call (n := 3) (o := 0) (as := [.int (xs (nI i + 1).toNatClampNeg), .int (xs (nI i + 2).toNatClampNeg), .int (xs (nI i + 3).toNatClampNeg)]) (ad := aR) (M := R) (sh := (mb_shM N (mm_gd G aR))) (g := mm_mod N (mm_gd G aR) 0) (W0 := (mm_w aC (mb_shC (mm_gd G aC)) C')) 999 rfl dL_law_996 rfl rfl rfl (ct_X8_see (xs (nI i + 1).toNatClampNeg) (xs (nI i + 2).toNatClampNeg) (xs (nI i + 3).toNatClampNeg) (lj_isMod N (mm_gd G aR) _)) e2 ⟨(Nat.le_of_ble_eq_true rfl), (Nat.le_of_ble_eq_true rfl)⟩ ⟨(Nat.le_of_ble_eq_true rfl), (Nat.le_of_ble_eq_true rfl)⟩ rfl (by decide +kernel) mw_5_210 mw_5_211 mw_5_212 mw_1_11 mw_5_213 rfl rfl (Nat.le_of_ble_eq_true rfl) rfl ?_
  show mb_T (p, l, e, s, m, #[Value.ref b], below, meth, c) G (cL_law, 4, RL, ret, 300) room_1 (lw_Z below #[Value.ref b] s) (mm_w aC (mb_shC (mm_gd G aC)) C' ++ mm_w aR (mb_shM N (mm_gd G aR)) R') 600000 7302250 999 [(0, .ref b), (1, .ref (aC 0)), (2, .ref (aR 0)), (3, .int (nI i))] [.int r, .int r]
  refine mb_icmp_eqY 1370 dL_law_999 (by decide) rfl ?_
  refine mb_iinc 1373 rfl dL_law_1370 3 rfl (v := nI (i + 5)) (nI_add i 5) (lv' := [(3, .int (nI (i + 5))), (0, .ref b), (1, .ref (aC 0)), (2, .ref (aR 0))]) (by decide) rfl ?_
  refine mb_goto 18 dL_law_1373 (by decide) ?_
  exact mb_lv [1, 2, 3, 0] rfl (ih (i + 5) N C' R' (by omega) (by omega) hSim')

set_option maxRecDepth 100000 in
set_option maxHeartbeats 4000000 in
theorem lc_forget {p : Program} {l : Launch} {e : Env} {s : State} {m : MethodId} {below : List Frame} {meth : Method} {c : Code} {G : mm_G} {b L : Nat} {xs : Nat → Int32} {aC aR : Nat → Nat} {S : mm_M → mm_M → Prop} (hA0 : sm_All S) (hX : va_X b L xs s s.heap) (hbl : b < s.heap.size) (hbA : ¬ mm_A G b) {n i : Nat} (hi : i + 5 ≤ L) (hL : L ≤ 320) (hn : L - i < n + 1) (ih : ∀ (i : Nat) (N : Nat → Int64) (C R : mm_M), i ≤ L → L - i < n → S C R → mb_T (p, l, e, s, m, #[Value.ref b], below, meth, c) G (cL_law, 4, RL, ret, 300) room_1 (lw_Z below #[Value.ref b] s) (mm_w aC (mb_shC (mm_gd G aC)) C ++ mm_w aR (mb_shM N (mm_gd G aR)) R) 600000 7302250 18 [(0, .ref b), (1, .ref (aC 0)), (2, .ref (aR 0)), (3, .int (nI i))] []) {N : Nat → Int64} {C R : mm_M} (hSim : S C R) {op : Int32} (hop : op = 28) (hi1 : vp_in (nI i + 1) L) (hi2 : vp_in (nI i + 2) L) (hi3 : vp_in (nI i + 3) L) (hi4 : vp_in (nI i + 4) L) : mb_T (p, l, e, s, m, #[Value.ref b], below, meth, c) G (cL_law, 4, RL, ret, 300) room_1 (lw_Z below #[Value.ref b] s) (mm_w aC (mb_shC (mm_gd G aC)) C ++ mm_w aR (mb_shM N (mm_gd G aR)) R) 600000 7302250 32 [(0, .ref b), (1, .ref (aC 0)), (2, .ref (aR 0)), (3, .int (nI i))] [.int op] := by
  refine mb_tabIn 1004 28 hop dL_law_32 (by decide) (by decide) rfl (by decide) ?_
  have hsim := hA0.2.2.2.2.2.2.2.2.2.2.2.2.2.2.2.2.2.2.2.2.2.2.2.2.2.2.2.2.1 C R hSim (xs (nI i + 1).toNatClampNeg)
  obtain ⟨r, C', R', e1, e2, hSim'⟩ := hsim
  refine mb_swap ?_
  refine mb_aload_n 1005 rfl dL_law_1004 rfl 1 rfl ?_
  refine mb_aload_n 1006 rfl dL_law_1005 rfl 0 rfl ?_
  refine mb_iload_n 1007 rfl dL_law_1006 rfl 3 rfl ?_
  refine mb_iconst 1008 rfl (v := 1) dL_law_1007 (by decide) ?_
  refine mb_iadd 1009 rfl dL_law_1008 ?_
  refine mb_sld 1010 rfl dL_law_1009 hX hbl hbA hi1 ?_
  refine lj_call (n := 1) (o := 0) (as := [.int (xs (nI i + 1).toNatClampNeg)]) (ad := aC) (M := C) (sh := (mb_shC (mm_gd G aC))) (g := mm_mli (mm_gd G aC) 0) (W0 := (mm_w aR (mb_shM N (mm_gd G aR)) R)) 1013 rfl dL_law_1010 rfl rfl rfl (ct_X7_forget (xs (nI i + 1).toNatClampNeg) (lj_isMli (mm_gd G aC) _)) e1 ⟨(Nat.le_of_ble_eq_true rfl), (Nat.le_of_ble_eq_true rfl)⟩ ⟨(Nat.le_of_ble_eq_true rfl), (Nat.le_of_ble_eq_true rfl)⟩ rfl (by decide +kernel) mw_3_158 mw_3_159 mw_3_160 mw_1_1 mw_3_161 rfl rfl (Nat.le_of_ble_eq_true rfl) rfl ?_
  show mb_T (p, l, e, s, m, #[Value.ref b], below, meth, c) G (cL_law, 4, RL, ret, 300) room_1 (lw_Z below #[Value.ref b] s) (mm_w aR (mb_shM N (mm_gd G aR)) R ++ mm_w aC (mb_shC (mm_gd G aC)) C') 600000 7302250 1013 [(0, .ref b), (1, .ref (aC 0)), (2, .ref (aR 0)), (3, .int (nI i))] [.int r]
  refine mb_swap ?_
  refine mb_aload_n 1014 rfl dL_law_1013 rfl 2 rfl ?_
  refine mb_aload_n 1015 rfl dL_law_1014 rfl 0 rfl ?_
  refine mb_iload_n 1016 rfl dL_law_1015 rfl 3 rfl ?_
  refine mb_iconst 1017 rfl (v := 1) dL_law_1016 (by decide) ?_
  refine mb_iadd 1018 rfl dL_law_1017 ?_
  refine mb_sld 1019 rfl dL_law_1018 hX hbl hbA hi1 ?_
  refine lj_call (n := 1) (o := 0) (as := [.int (xs (nI i + 1).toNatClampNeg)]) (ad := aR) (M := R) (sh := (mb_shM N (mm_gd G aR))) (g := mm_mod N (mm_gd G aR) 0) (W0 := (mm_w aC (mb_shC (mm_gd G aC)) C')) 1022 rfl dL_law_1019 rfl rfl rfl (ct_X8_forget (xs (nI i + 1).toNatClampNeg) (lj_isMod N (mm_gd G aR) _)) e2 ⟨(Nat.le_of_ble_eq_true rfl), (Nat.le_of_ble_eq_true rfl)⟩ ⟨(Nat.le_of_ble_eq_true rfl), (Nat.le_of_ble_eq_true rfl)⟩ rfl (by decide +kernel) mw_5_214 mw_5_215 mw_5_216 mw_1_11 mw_5_217 rfl rfl (Nat.le_of_ble_eq_true rfl) rfl ?_
  show mb_T (p, l, e, s, m, #[Value.ref b], below, meth, c) G (cL_law, 4, RL, ret, 300) room_1 (lw_Z below #[Value.ref b] s) (mm_w aC (mb_shC (mm_gd G aC)) C' ++ mm_w aR (mb_shM N (mm_gd G aR)) R') 600000 7302250 1022 [(0, .ref b), (1, .ref (aC 0)), (2, .ref (aR 0)), (3, .int (nI i))] [.int r, .int r]
  refine mb_icmp_eqY 1370 dL_law_1022 (by decide) rfl ?_
  refine mb_iinc 1373 rfl dL_law_1370 3 rfl (v := nI (i + 5)) (nI_add i 5) (lv' := [(3, .int (nI (i + 5))), (0, .ref b), (1, .ref (aC 0)), (2, .ref (aR 0))]) (by decide) rfl ?_
  refine mb_goto 18 dL_law_1373 (by decide) ?_
  exact mb_lv [1, 2, 3, 0] rfl (ih (i + 5) N C' R' (by omega) (by omega) hSim')

set_option maxRecDepth 100000 in
set_option maxHeartbeats 4000000 in
theorem lc_kinds {p : Program} {l : Launch} {e : Env} {s : State} {m : MethodId} {below : List Frame} {meth : Method} {c : Code} {G : mm_G} {b L : Nat} {xs : Nat → Int32} {aC aR : Nat → Nat} {S : mm_M → mm_M → Prop} (hA0 : sm_All S) (hX : va_X b L xs s s.heap) (hbl : b < s.heap.size) (hbA : ¬ mm_A G b) {n i : Nat} (hi : i + 5 ≤ L) (hL : L ≤ 320) (hn : L - i < n + 1) (ih : ∀ (i : Nat) (N : Nat → Int64) (C R : mm_M), i ≤ L → L - i < n → S C R → mb_T (p, l, e, s, m, #[Value.ref b], below, meth, c) G (cL_law, 4, RL, ret, 300) room_1 (lw_Z below #[Value.ref b] s) (mm_w aC (mb_shC (mm_gd G aC)) C ++ mm_w aR (mb_shM N (mm_gd G aR)) R) 600000 7302250 18 [(0, .ref b), (1, .ref (aC 0)), (2, .ref (aR 0)), (3, .int (nI i))] []) {N : Nat → Int64} {C R : mm_M} (hSim : S C R) {op : Int32} (hop : op = 29) (hi1 : vp_in (nI i + 1) L) (hi2 : vp_in (nI i + 2) L) (hi3 : vp_in (nI i + 3) L) (hi4 : vp_in (nI i + 4) L) : mb_T (p, l, e, s, m, #[Value.ref b], below, meth, c) G (cL_law, 4, RL, ret, 300) room_1 (lw_Z below #[Value.ref b] s) (mm_w aC (mb_shC (mm_gd G aC)) C ++ mm_w aR (mb_shM N (mm_gd G aR)) R) 600000 7302250 32 [(0, .ref b), (1, .ref (aC 0)), (2, .ref (aR 0)), (3, .int (nI i))] [.int op] := by
  refine mb_tabIn 1027 29 hop dL_law_32 (by decide) (by decide) rfl (by decide) ?_
  have hsim := hA0.2.2.2.2.2.2.2.2.2.2.2.2.2.2.2.2.2.2.2.2.2.2.2.2.2.2.2.2.2.1 C R hSim (xs (nI i + 1).toNatClampNeg)
  obtain ⟨r, C', R', e1, e2, hSim'⟩ := hsim
  refine mb_swap ?_
  refine mb_aload_n 1028 rfl dL_law_1027 rfl 1 rfl ?_
  refine mb_aload_n 1029 rfl dL_law_1028 rfl 0 rfl ?_
  refine mb_iload_n 1030 rfl dL_law_1029 rfl 3 rfl ?_
  refine mb_iconst 1031 rfl (v := 1) dL_law_1030 (by decide) ?_
  refine mb_iadd 1032 rfl dL_law_1031 ?_
  refine mb_sld 1033 rfl dL_law_1032 hX hbl hbA hi1 ?_
  refine lj_call (n := 1) (o := 0) (as := [.int (xs (nI i + 1).toNatClampNeg)]) (ad := aC) (M := C) (sh := (mb_shC (mm_gd G aC))) (g := mm_mli (mm_gd G aC) 0) (W0 := (mm_w aR (mb_shM N (mm_gd G aR)) R)) 1036 rfl dL_law_1033 rfl rfl rfl (ct_X7_kinds (xs (nI i + 1).toNatClampNeg) (lj_isMli (mm_gd G aC) _)) e1 ⟨(Nat.le_of_ble_eq_true rfl), (Nat.le_of_ble_eq_true rfl)⟩ ⟨(Nat.le_of_ble_eq_true rfl), (Nat.le_of_ble_eq_true rfl)⟩ rfl (by decide +kernel) mw_3_162 mw_3_163 mw_3_164 mw_1_1 mw_3_165 rfl rfl (Nat.le_of_ble_eq_true rfl) rfl ?_
  show mb_T (p, l, e, s, m, #[Value.ref b], below, meth, c) G (cL_law, 4, RL, ret, 300) room_1 (lw_Z below #[Value.ref b] s) (mm_w aR (mb_shM N (mm_gd G aR)) R ++ mm_w aC (mb_shC (mm_gd G aC)) C') 600000 7302250 1036 [(0, .ref b), (1, .ref (aC 0)), (2, .ref (aR 0)), (3, .int (nI i))] [.int r]
  refine mb_swap ?_
  refine mb_aload_n 1037 rfl dL_law_1036 rfl 2 rfl ?_
  refine mb_aload_n 1038 rfl dL_law_1037 rfl 0 rfl ?_
  refine mb_iload_n 1039 rfl dL_law_1038 rfl 3 rfl ?_
  refine mb_iconst 1040 rfl (v := 1) dL_law_1039 (by decide) ?_
  refine mb_iadd 1041 rfl dL_law_1040 ?_
  refine mb_sld 1042 rfl dL_law_1041 hX hbl hbA hi1 ?_
  refine lj_call (n := 1) (o := 0) (as := [.int (xs (nI i + 1).toNatClampNeg)]) (ad := aR) (M := R) (sh := (mb_shM N (mm_gd G aR))) (g := mm_mod N (mm_gd G aR) 0) (W0 := (mm_w aC (mb_shC (mm_gd G aC)) C')) 1045 rfl dL_law_1042 rfl rfl rfl (ct_X8_kinds (xs (nI i + 1).toNatClampNeg) (lj_isMod N (mm_gd G aR) _)) e2 ⟨(Nat.le_of_ble_eq_true rfl), (Nat.le_of_ble_eq_true rfl)⟩ ⟨(Nat.le_of_ble_eq_true rfl), (Nat.le_of_ble_eq_true rfl)⟩ rfl (by decide +kernel) mw_5_218 mw_5_219 mw_5_220 mw_1_11 mw_5_221 rfl rfl (Nat.le_of_ble_eq_true rfl) rfl ?_
  show mb_T (p, l, e, s, m, #[Value.ref b], below, meth, c) G (cL_law, 4, RL, ret, 300) room_1 (lw_Z below #[Value.ref b] s) (mm_w aC (mb_shC (mm_gd G aC)) C' ++ mm_w aR (mb_shM N (mm_gd G aR)) R') 600000 7302250 1045 [(0, .ref b), (1, .ref (aC 0)), (2, .ref (aR 0)), (3, .int (nI i))] [.int r, .int r]
  refine mb_icmp_eqY 1370 dL_law_1045 (by decide) rfl ?_
  refine mb_iinc 1373 rfl dL_law_1370 3 rfl (v := nI (i + 5)) (nI_add i 5) (lv' := [(3, .int (nI (i + 5))), (0, .ref b), (1, .ref (aC 0)), (2, .ref (aR 0))]) (by decide) rfl ?_
  refine mb_goto 18 dL_law_1373 (by decide) ?_
  exact mb_lv [1, 2, 3, 0] rfl (ih (i + 5) N C' R' (by omega) (by omega) hSim')

set_option maxRecDepth 100000 in
set_option maxHeartbeats 4000000 in
theorem lc_greys {p : Program} {l : Launch} {e : Env} {s : State} {m : MethodId} {below : List Frame} {meth : Method} {c : Code} {G : mm_G} {b L : Nat} {xs : Nat → Int32} {aC aR : Nat → Nat} {S : mm_M → mm_M → Prop} (hA0 : sm_All S) (hX : va_X b L xs s s.heap) (hbl : b < s.heap.size) (hbA : ¬ mm_A G b) {n i : Nat} (hi : i + 5 ≤ L) (hL : L ≤ 320) (hn : L - i < n + 1) (ih : ∀ (i : Nat) (N : Nat → Int64) (C R : mm_M), i ≤ L → L - i < n → S C R → mb_T (p, l, e, s, m, #[Value.ref b], below, meth, c) G (cL_law, 4, RL, ret, 300) room_1 (lw_Z below #[Value.ref b] s) (mm_w aC (mb_shC (mm_gd G aC)) C ++ mm_w aR (mb_shM N (mm_gd G aR)) R) 600000 7302250 18 [(0, .ref b), (1, .ref (aC 0)), (2, .ref (aR 0)), (3, .int (nI i))] []) {N : Nat → Int64} {C R : mm_M} (hSim : S C R) {op : Int32} (hop : op = 30) (hi1 : vp_in (nI i + 1) L) (hi2 : vp_in (nI i + 2) L) (hi3 : vp_in (nI i + 3) L) (hi4 : vp_in (nI i + 4) L) : mb_T (p, l, e, s, m, #[Value.ref b], below, meth, c) G (cL_law, 4, RL, ret, 300) room_1 (lw_Z below #[Value.ref b] s) (mm_w aC (mb_shC (mm_gd G aC)) C ++ mm_w aR (mb_shM N (mm_gd G aR)) R) 600000 7302250 32 [(0, .ref b), (1, .ref (aC 0)), (2, .ref (aR 0)), (3, .int (nI i))] [.int op] := by
  refine mb_tabIn 1050 30 hop dL_law_32 (by decide) (by decide) rfl (by decide) ?_
  have hsim := hA0.2.2.2.2.2.2.2.2.2.2.2.2.2.2.2.2.2.2.2.2.2.2.2.2.2.2.2.2.2.2.1 C R hSim (xs (nI i + 1).toNatClampNeg)
  obtain ⟨r, C', R', e1, e2, hSim'⟩ := hsim
  refine mb_swap ?_
  refine mb_aload_n 1051 rfl dL_law_1050 rfl 1 rfl ?_
  refine mb_aload_n 1052 rfl dL_law_1051 rfl 0 rfl ?_
  refine mb_iload_n 1053 rfl dL_law_1052 rfl 3 rfl ?_
  refine mb_iconst 1054 rfl (v := 1) dL_law_1053 (by decide) ?_
  refine mb_iadd 1055 rfl dL_law_1054 ?_
  refine mb_sld 1056 rfl dL_law_1055 hX hbl hbA hi1 ?_
  refine lj_call (n := 1) (o := 0) (as := [.int (xs (nI i + 1).toNatClampNeg)]) (ad := aC) (M := C) (sh := (mb_shC (mm_gd G aC))) (g := mm_mli (mm_gd G aC) 0) (W0 := (mm_w aR (mb_shM N (mm_gd G aR)) R)) 1059 rfl dL_law_1056 rfl rfl rfl (ct_X7_greys (xs (nI i + 1).toNatClampNeg) (lj_isMli (mm_gd G aC) _)) e1 ⟨(Nat.le_of_ble_eq_true rfl), (Nat.le_of_ble_eq_true rfl)⟩ ⟨(Nat.le_of_ble_eq_true rfl), (Nat.le_of_ble_eq_true rfl)⟩ rfl (by decide +kernel) mw_3_181 mw_3_182 mw_3_183 mw_1_1 mw_3_184 rfl rfl (Nat.le_of_ble_eq_true rfl) rfl ?_
  show mb_T (p, l, e, s, m, #[Value.ref b], below, meth, c) G (cL_law, 4, RL, ret, 300) room_1 (lw_Z below #[Value.ref b] s) (mm_w aR (mb_shM N (mm_gd G aR)) R ++ mm_w aC (mb_shC (mm_gd G aC)) C') 600000 7302250 1059 [(0, .ref b), (1, .ref (aC 0)), (2, .ref (aR 0)), (3, .int (nI i))] [.int r]
  refine mb_swap ?_
  refine mb_aload_n 1060 rfl dL_law_1059 rfl 2 rfl ?_
  refine mb_aload_n 1061 rfl dL_law_1060 rfl 0 rfl ?_
  refine mb_iload_n 1062 rfl dL_law_1061 rfl 3 rfl ?_
  refine mb_iconst 1063 rfl (v := 1) dL_law_1062 (by decide) ?_
  refine mb_iadd 1064 rfl dL_law_1063 ?_
  refine mb_sld 1065 rfl dL_law_1064 hX hbl hbA hi1 ?_
  refine lj_call (n := 1) (o := 0) (as := [.int (xs (nI i + 1).toNatClampNeg)]) (ad := aR) (M := R) (sh := (mb_shM N (mm_gd G aR))) (g := mm_mod N (mm_gd G aR) 0) (W0 := (mm_w aC (mb_shC (mm_gd G aC)) C')) 1068 rfl dL_law_1065 rfl rfl rfl (ct_X8_greys (xs (nI i + 1).toNatClampNeg) (lj_isMod N (mm_gd G aR) _)) e2 ⟨(Nat.le_of_ble_eq_true rfl), (Nat.le_of_ble_eq_true rfl)⟩ ⟨(Nat.le_of_ble_eq_true rfl), (Nat.le_of_ble_eq_true rfl)⟩ rfl (by decide +kernel) mw_5_230 mw_5_231 mw_5_232 mw_1_11 mw_5_233 rfl rfl (Nat.le_of_ble_eq_true rfl) rfl ?_
  show mb_T (p, l, e, s, m, #[Value.ref b], below, meth, c) G (cL_law, 4, RL, ret, 300) room_1 (lw_Z below #[Value.ref b] s) (mm_w aC (mb_shC (mm_gd G aC)) C' ++ mm_w aR (mb_shM N (mm_gd G aR)) R') 600000 7302250 1068 [(0, .ref b), (1, .ref (aC 0)), (2, .ref (aR 0)), (3, .int (nI i))] [.int r, .int r]
  refine mb_icmp_eqY 1370 dL_law_1068 (by decide) rfl ?_
  refine mb_iinc 1373 rfl dL_law_1370 3 rfl (v := nI (i + 5)) (nI_add i 5) (lv' := [(3, .int (nI (i + 5))), (0, .ref b), (1, .ref (aC 0)), (2, .ref (aR 0))]) (by decide) rfl ?_
  refine mb_goto 18 dL_law_1373 (by decide) ?_
  exact mb_lv [1, 2, 3, 0] rfl (ih (i + 5) N C' R' (by omega) (by omega) hSim')

set_option maxRecDepth 100000 in
set_option maxHeartbeats 4000000 in
theorem lc_ask {p : Program} {l : Launch} {e : Env} {s : State} {m : MethodId} {below : List Frame} {meth : Method} {c : Code} {G : mm_G} {b L : Nat} {xs : Nat → Int32} {aC aR : Nat → Nat} {S : mm_M → mm_M → Prop} (hA0 : sm_All S) (hX : va_X b L xs s s.heap) (hbl : b < s.heap.size) (hbA : ¬ mm_A G b) {n i : Nat} (hi : i + 5 ≤ L) (hL : L ≤ 320) (hn : L - i < n + 1) (ih : ∀ (i : Nat) (N : Nat → Int64) (C R : mm_M), i ≤ L → L - i < n → S C R → mb_T (p, l, e, s, m, #[Value.ref b], below, meth, c) G (cL_law, 4, RL, ret, 300) room_1 (lw_Z below #[Value.ref b] s) (mm_w aC (mb_shC (mm_gd G aC)) C ++ mm_w aR (mb_shM N (mm_gd G aR)) R) 600000 7302250 18 [(0, .ref b), (1, .ref (aC 0)), (2, .ref (aR 0)), (3, .int (nI i))] []) {N : Nat → Int64} {C R : mm_M} (hSim : S C R) {op : Int32} (hop : op = 31) (hi1 : vp_in (nI i + 1) L) (hi2 : vp_in (nI i + 2) L) (hi3 : vp_in (nI i + 3) L) (hi4 : vp_in (nI i + 4) L) : mb_T (p, l, e, s, m, #[Value.ref b], below, meth, c) G (cL_law, 4, RL, ret, 300) room_1 (lw_Z below #[Value.ref b] s) (mm_w aC (mb_shC (mm_gd G aC)) C ++ mm_w aR (mb_shM N (mm_gd G aR)) R) 600000 7302250 32 [(0, .ref b), (1, .ref (aC 0)), (2, .ref (aR 0)), (3, .int (nI i))] [.int op] := by
  refine mb_tabIn 1073 31 hop dL_law_32 (by decide) (by decide) rfl (by decide) ?_
  have hsim := hA0.2.2.2.2.2.2.2.2.2.2.2.2.2.2.2.2.2.2.2.2.2.2.2.2.2.2.2.2.2.2.2.1 C R hSim (xs (nI i + 1).toNatClampNeg) (xs (nI i + 2).toNatClampNeg)
  obtain ⟨r, C', R', e1, e2, hSim'⟩ := hsim
  refine mb_swap ?_
  refine mb_aload_n 1074 rfl dL_law_1073 rfl 1 rfl ?_
  refine mb_aload_n 1075 rfl dL_law_1074 rfl 0 rfl ?_
  refine mb_iload_n 1076 rfl dL_law_1075 rfl 3 rfl ?_
  refine mb_iconst 1077 rfl (v := 1) dL_law_1076 (by decide) ?_
  refine mb_iadd 1078 rfl dL_law_1077 ?_
  refine mb_sld 1079 rfl dL_law_1078 hX hbl hbA hi1 ?_
  refine mb_aload_n 1080 rfl dL_law_1079 rfl 0 rfl ?_
  refine mb_iload_n 1081 rfl dL_law_1080 rfl 3 rfl ?_
  refine mb_iconst 1082 rfl (v := 2) dL_law_1081 (by decide) ?_
  refine mb_iadd 1083 rfl dL_law_1082 ?_
  refine mb_sld 1084 rfl dL_law_1083 hX hbl hbA hi2 ?_
  refine lj_call (n := 2) (o := 0) (as := [.int (xs (nI i + 1).toNatClampNeg), .int (xs (nI i + 2).toNatClampNeg)]) (ad := aC) (M := C) (sh := (mb_shC (mm_gd G aC))) (g := mm_mli (mm_gd G aC) 0) (W0 := (mm_w aR (mb_shM N (mm_gd G aR)) R)) 1087 rfl dL_law_1084 rfl rfl rfl (ct_X7_ask (xs (nI i + 1).toNatClampNeg) (xs (nI i + 2).toNatClampNeg) (lj_isMli (mm_gd G aC) _)) e1 ⟨(Nat.le_of_ble_eq_true rfl), (Nat.le_of_ble_eq_true rfl)⟩ ⟨(Nat.le_of_ble_eq_true rfl), (Nat.le_of_ble_eq_true rfl)⟩ rfl (by decide +kernel) mw_3_189 mw_3_190 mw_3_191 mw_1_1 mw_3_192 rfl rfl (Nat.le_of_ble_eq_true rfl) rfl ?_
  show mb_T (p, l, e, s, m, #[Value.ref b], below, meth, c) G (cL_law, 4, RL, ret, 300) room_1 (lw_Z below #[Value.ref b] s) (mm_w aR (mb_shM N (mm_gd G aR)) R ++ mm_w aC (mb_shC (mm_gd G aC)) C') 600000 7302250 1087 [(0, .ref b), (1, .ref (aC 0)), (2, .ref (aR 0)), (3, .int (nI i))] [.int r]
  refine mb_swap ?_
  refine mb_aload_n 1088 rfl dL_law_1087 rfl 2 rfl ?_
  refine mb_aload_n 1089 rfl dL_law_1088 rfl 0 rfl ?_
  refine mb_iload_n 1090 rfl dL_law_1089 rfl 3 rfl ?_
  refine mb_iconst 1091 rfl (v := 1) dL_law_1090 (by decide) ?_
  refine mb_iadd 1092 rfl dL_law_1091 ?_
  refine mb_sld 1093 rfl dL_law_1092 hX hbl hbA hi1 ?_
  refine mb_aload_n 1094 rfl dL_law_1093 rfl 0 rfl ?_
  refine mb_iload_n 1095 rfl dL_law_1094 rfl 3 rfl ?_
  refine mb_iconst 1096 rfl (v := 2) dL_law_1095 (by decide) ?_
  refine mb_iadd 1097 rfl dL_law_1096 ?_
  refine mb_sld 1098 rfl dL_law_1097 hX hbl hbA hi2 ?_
  refine lj_call (n := 2) (o := 0) (as := [.int (xs (nI i + 1).toNatClampNeg), .int (xs (nI i + 2).toNatClampNeg)]) (ad := aR) (M := R) (sh := (mb_shM N (mm_gd G aR))) (g := mm_mod N (mm_gd G aR) 0) (W0 := (mm_w aC (mb_shC (mm_gd G aC)) C')) 1101 rfl dL_law_1098 rfl rfl rfl (ct_X8_ask (xs (nI i + 1).toNatClampNeg) (xs (nI i + 2).toNatClampNeg) (lj_isMod N (mm_gd G aR) _)) e2 ⟨(Nat.le_of_ble_eq_true rfl), (Nat.le_of_ble_eq_true rfl)⟩ ⟨(Nat.le_of_ble_eq_true rfl), (Nat.le_of_ble_eq_true rfl)⟩ rfl (by decide +kernel) mw_5_234 mw_5_235 mw_5_236 mw_1_11 mw_5_237 rfl rfl (Nat.le_of_ble_eq_true rfl) rfl ?_
  show mb_T (p, l, e, s, m, #[Value.ref b], below, meth, c) G (cL_law, 4, RL, ret, 300) room_1 (lw_Z below #[Value.ref b] s) (mm_w aC (mb_shC (mm_gd G aC)) C' ++ mm_w aR (mb_shM N (mm_gd G aR)) R') 600000 7302250 1101 [(0, .ref b), (1, .ref (aC 0)), (2, .ref (aR 0)), (3, .int (nI i))] [.int r, .int r]
  refine mb_icmp_eqY 1370 dL_law_1101 (by decide) rfl ?_
  refine mb_iinc 1373 rfl dL_law_1370 3 rfl (v := nI (i + 5)) (nI_add i 5) (lv' := [(3, .int (nI (i + 5))), (0, .ref b), (1, .ref (aC 0)), (2, .ref (aR 0))]) (by decide) rfl ?_
  refine mb_goto 18 dL_law_1373 (by decide) ?_
  exact mb_lv [1, 2, 3, 0] rfl (ih (i + 5) N C' R' (by omega) (by omega) hSim')

set_option maxRecDepth 100000 in
set_option maxHeartbeats 4000000 in
theorem lc_drift {p : Program} {l : Launch} {e : Env} {s : State} {m : MethodId} {below : List Frame} {meth : Method} {c : Code} {G : mm_G} {b L : Nat} {xs : Nat → Int32} {aC aR : Nat → Nat} {S : mm_M → mm_M → Prop} (hA0 : sm_All S) (hX : va_X b L xs s s.heap) (hbl : b < s.heap.size) (hbA : ¬ mm_A G b) {n i : Nat} (hi : i + 5 ≤ L) (hL : L ≤ 320) (hn : L - i < n + 1) (ih : ∀ (i : Nat) (N : Nat → Int64) (C R : mm_M), i ≤ L → L - i < n → S C R → mb_T (p, l, e, s, m, #[Value.ref b], below, meth, c) G (cL_law, 4, RL, ret, 300) room_1 (lw_Z below #[Value.ref b] s) (mm_w aC (mb_shC (mm_gd G aC)) C ++ mm_w aR (mb_shM N (mm_gd G aR)) R) 600000 7302250 18 [(0, .ref b), (1, .ref (aC 0)), (2, .ref (aR 0)), (3, .int (nI i))] []) {N : Nat → Int64} {C R : mm_M} (hSim : S C R) {op : Int32} (hop : op = 32) (hi1 : vp_in (nI i + 1) L) (hi2 : vp_in (nI i + 2) L) (hi3 : vp_in (nI i + 3) L) (hi4 : vp_in (nI i + 4) L) : mb_T (p, l, e, s, m, #[Value.ref b], below, meth, c) G (cL_law, 4, RL, ret, 300) room_1 (lw_Z below #[Value.ref b] s) (mm_w aC (mb_shC (mm_gd G aC)) C ++ mm_w aR (mb_shM N (mm_gd G aR)) R) 600000 7302250 32 [(0, .ref b), (1, .ref (aC 0)), (2, .ref (aR 0)), (3, .int (nI i))] [.int op] := by
  refine mb_tabIn 1106 32 hop dL_law_32 (by decide) (by decide) rfl (by decide) ?_
  have hsim := hA0.2.2.2.2.2.2.2.2.2.2.2.2.2.2.2.2.2.2.2.2.2.2.2.2.2.2.2.2.2.2.2.2.1 C R hSim (xs (nI i + 1).toNatClampNeg) (xs (nI i + 2).toNatClampNeg) (xs (nI i + 3).toNatClampNeg)
  obtain ⟨r, C', R', e1, e2, hSim'⟩ := hsim
  refine mb_swap ?_
  refine mb_aload_n 1107 rfl dL_law_1106 rfl 1 rfl ?_
  refine mb_aload_n 1108 rfl dL_law_1107 rfl 0 rfl ?_
  refine mb_iload_n 1109 rfl dL_law_1108 rfl 3 rfl ?_
  refine mb_iconst 1110 rfl (v := 1) dL_law_1109 (by decide) ?_
  refine mb_iadd 1111 rfl dL_law_1110 ?_
  refine mb_sld 1112 rfl dL_law_1111 hX hbl hbA hi1 ?_
  refine mb_aload_n 1113 rfl dL_law_1112 rfl 0 rfl ?_
  refine mb_iload_n 1114 rfl dL_law_1113 rfl 3 rfl ?_
  refine mb_iconst 1115 rfl (v := 2) dL_law_1114 (by decide) ?_
  refine mb_iadd 1116 rfl dL_law_1115 ?_
  refine mb_sld 1117 rfl dL_law_1116 hX hbl hbA hi2 ?_
  refine mb_aload_n 1118 rfl dL_law_1117 rfl 0 rfl ?_
  refine mb_iload_n 1119 rfl dL_law_1118 rfl 3 rfl ?_
  refine mb_iconst 1120 rfl (v := 3) dL_law_1119 (by decide) ?_
  refine mb_iadd 1121 rfl dL_law_1120 ?_
  refine mb_sld 1122 rfl dL_law_1121 hX hbl hbA hi3 ?_
  refine lj_call (n := 3) (o := 0) (as := [.int (xs (nI i + 1).toNatClampNeg), .int (xs (nI i + 2).toNatClampNeg), .int (xs (nI i + 3).toNatClampNeg)]) (ad := aC) (M := C) (sh := (mb_shC (mm_gd G aC))) (g := mm_mli (mm_gd G aC) 0) (W0 := (mm_w aR (mb_shM N (mm_gd G aR)) R)) 1125 rfl dL_law_1122 rfl rfl rfl (ct_X7_drift (xs (nI i + 1).toNatClampNeg) (xs (nI i + 2).toNatClampNeg) (xs (nI i + 3).toNatClampNeg) (lj_isMli (mm_gd G aC) _)) e1 ⟨(Nat.le_of_ble_eq_true rfl), (Nat.le_of_ble_eq_true rfl)⟩ ⟨(Nat.le_of_ble_eq_true rfl), (Nat.le_of_ble_eq_true rfl)⟩ rfl (by decide +kernel) mw_3_206 mw_3_207 mw_3_208 mw_1_1 mw_3_209 rfl rfl (Nat.le_of_ble_eq_true rfl) rfl ?_
  show mb_T (p, l, e, s, m, #[Value.ref b], below, meth, c) G (cL_law, 4, RL, ret, 300) room_1 (lw_Z below #[Value.ref b] s) (mm_w aR (mb_shM N (mm_gd G aR)) R ++ mm_w aC (mb_shC (mm_gd G aC)) C') 600000 7302250 1125 [(0, .ref b), (1, .ref (aC 0)), (2, .ref (aR 0)), (3, .int (nI i))] [.int r]
  refine mb_swap ?_
  refine mb_aload_n 1126 rfl dL_law_1125 rfl 2 rfl ?_
  refine mb_aload_n 1127 rfl dL_law_1126 rfl 0 rfl ?_
  refine mb_iload_n 1128 rfl dL_law_1127 rfl 3 rfl ?_
  refine mb_iconst 1129 rfl (v := 1) dL_law_1128 (by decide) ?_
  refine mb_iadd 1130 rfl dL_law_1129 ?_
  refine mb_sld 1131 rfl dL_law_1130 hX hbl hbA hi1 ?_
  refine mb_aload_n 1132 rfl dL_law_1131 rfl 0 rfl ?_
  refine mb_iload_n 1133 rfl dL_law_1132 rfl 3 rfl ?_
  refine mb_iconst 1134 rfl (v := 2) dL_law_1133 (by decide) ?_
  refine mb_iadd 1135 rfl dL_law_1134 ?_
  refine mb_sld 1136 rfl dL_law_1135 hX hbl hbA hi2 ?_
  refine mb_aload_n 1137 rfl dL_law_1136 rfl 0 rfl ?_
  refine mb_iload_n 1138 rfl dL_law_1137 rfl 3 rfl ?_
  refine mb_iconst 1139 rfl (v := 3) dL_law_1138 (by decide) ?_
  refine mb_iadd 1140 rfl dL_law_1139 ?_
  refine mb_sld 1141 rfl dL_law_1140 hX hbl hbA hi3 ?_
  refine lj_call (n := 3) (o := 0) (as := [.int (xs (nI i + 1).toNatClampNeg), .int (xs (nI i + 2).toNatClampNeg), .int (xs (nI i + 3).toNatClampNeg)]) (ad := aR) (M := R) (sh := (mb_shM N (mm_gd G aR))) (g := mm_mod N (mm_gd G aR) 0) (W0 := (mm_w aC (mb_shC (mm_gd G aC)) C')) 1144 rfl dL_law_1141 rfl rfl rfl (ct_X8_drift (xs (nI i + 1).toNatClampNeg) (xs (nI i + 2).toNatClampNeg) (xs (nI i + 3).toNatClampNeg) (lj_isMod N (mm_gd G aR) _)) e2 ⟨(Nat.le_of_ble_eq_true rfl), (Nat.le_of_ble_eq_true rfl)⟩ ⟨(Nat.le_of_ble_eq_true rfl), (Nat.le_of_ble_eq_true rfl)⟩ rfl (by decide +kernel) mw_5_238 mw_5_239 mw_6_0 mw_1_11 mw_6_1 rfl rfl (Nat.le_of_ble_eq_true rfl) rfl ?_
  show mb_T (p, l, e, s, m, #[Value.ref b], below, meth, c) G (cL_law, 4, RL, ret, 300) room_1 (lw_Z below #[Value.ref b] s) (mm_w aC (mb_shC (mm_gd G aC)) C' ++ mm_w aR (mb_shM N (mm_gd G aR)) R') 600000 7302250 1144 [(0, .ref b), (1, .ref (aC 0)), (2, .ref (aR 0)), (3, .int (nI i))] [.int r, .int r]
  refine mb_icmp_eqY 1370 dL_law_1144 (by decide) rfl ?_
  refine mb_iinc 1373 rfl dL_law_1370 3 rfl (v := nI (i + 5)) (nI_add i 5) (lv' := [(3, .int (nI (i + 5))), (0, .ref b), (1, .ref (aC 0)), (2, .ref (aR 0))]) (by decide) rfl ?_
  refine mb_goto 18 dL_law_1373 (by decide) ?_
  exact mb_lv [1, 2, 3, 0] rfl (ih (i + 5) N C' R' (by omega) (by omega) hSim')

set_option maxRecDepth 100000 in
set_option maxHeartbeats 4000000 in
theorem lc_keep {p : Program} {l : Launch} {e : Env} {s : State} {m : MethodId} {below : List Frame} {meth : Method} {c : Code} {G : mm_G} {b L : Nat} {xs : Nat → Int32} {aC aR : Nat → Nat} {S : mm_M → mm_M → Prop} (hA0 : sm_All S) (hX : va_X b L xs s s.heap) (hbl : b < s.heap.size) (hbA : ¬ mm_A G b) {n i : Nat} (hi : i + 5 ≤ L) (hL : L ≤ 320) (hn : L - i < n + 1) (ih : ∀ (i : Nat) (N : Nat → Int64) (C R : mm_M), i ≤ L → L - i < n → S C R → mb_T (p, l, e, s, m, #[Value.ref b], below, meth, c) G (cL_law, 4, RL, ret, 300) room_1 (lw_Z below #[Value.ref b] s) (mm_w aC (mb_shC (mm_gd G aC)) C ++ mm_w aR (mb_shM N (mm_gd G aR)) R) 600000 7302250 18 [(0, .ref b), (1, .ref (aC 0)), (2, .ref (aR 0)), (3, .int (nI i))] []) {N : Nat → Int64} {C R : mm_M} (hSim : S C R) {op : Int32} (hop : op = 33) (hi1 : vp_in (nI i + 1) L) (hi2 : vp_in (nI i + 2) L) (hi3 : vp_in (nI i + 3) L) (hi4 : vp_in (nI i + 4) L) : mb_T (p, l, e, s, m, #[Value.ref b], below, meth, c) G (cL_law, 4, RL, ret, 300) room_1 (lw_Z below #[Value.ref b] s) (mm_w aC (mb_shC (mm_gd G aC)) C ++ mm_w aR (mb_shM N (mm_gd G aR)) R) 600000 7302250 32 [(0, .ref b), (1, .ref (aC 0)), (2, .ref (aR 0)), (3, .int (nI i))] [.int op] := by
  refine mb_tabIn 1149 33 hop dL_law_32 (by decide) (by decide) rfl (by decide) ?_
  have hsim := hA0.2.2.2.2.2.2.2.2.2.2.2.2.2.2.2.2.2.2.2.2.2.2.2.2.2.2.2.2.2.2.2.2.2.1 C R hSim (xs (nI i + 1).toNatClampNeg)
  obtain ⟨r, C', R', e1, e2, hSim'⟩ := hsim
  refine mb_swap ?_
  refine mb_aload_n 1150 rfl dL_law_1149 rfl 1 rfl ?_
  refine mb_aload_n 1151 rfl dL_law_1150 rfl 0 rfl ?_
  refine mb_iload_n 1152 rfl dL_law_1151 rfl 3 rfl ?_
  refine mb_iconst 1153 rfl (v := 1) dL_law_1152 (by decide) ?_
  refine mb_iadd 1154 rfl dL_law_1153 ?_
  refine mb_sld 1155 rfl dL_law_1154 hX hbl hbA hi1 ?_
  refine lj_call (n := 1) (o := 0) (as := [.int (xs (nI i + 1).toNatClampNeg)]) (ad := aC) (M := C) (sh := (mb_shC (mm_gd G aC))) (g := mm_mli (mm_gd G aC) 0) (W0 := (mm_w aR (mb_shM N (mm_gd G aR)) R)) 1158 rfl dL_law_1155 rfl rfl rfl (ct_X7_keep (xs (nI i + 1).toNatClampNeg) (lj_isMli (mm_gd G aC) _)) e1 ⟨(Nat.le_of_ble_eq_true rfl), (Nat.le_of_ble_eq_true rfl)⟩ ⟨(Nat.le_of_ble_eq_true rfl), (Nat.le_of_ble_eq_true rfl)⟩ rfl (by decide +kernel) mw_3_218 mw_3_219 mw_3_220 mw_1_1 mw_3_221 rfl rfl (Nat.le_of_ble_eq_true rfl) rfl ?_
  show mb_T (p, l, e, s, m, #[Value.ref b], below, meth, c) G (cL_law, 4, RL, ret, 300) room_1 (lw_Z below #[Value.ref b] s) (mm_w aR (mb_shM N (mm_gd G aR)) R ++ mm_w aC (mb_shC (mm_gd G aC)) C') 600000 7302250 1158 [(0, .ref b), (1, .ref (aC 0)), (2, .ref (aR 0)), (3, .int (nI i))] [.int r]
  refine mb_swap ?_
  refine mb_aload_n 1159 rfl dL_law_1158 rfl 2 rfl ?_
  refine mb_aload_n 1160 rfl dL_law_1159 rfl 0 rfl ?_
  refine mb_iload_n 1161 rfl dL_law_1160 rfl 3 rfl ?_
  refine mb_iconst 1162 rfl (v := 1) dL_law_1161 (by decide) ?_
  refine mb_iadd 1163 rfl dL_law_1162 ?_
  refine mb_sld 1164 rfl dL_law_1163 hX hbl hbA hi1 ?_
  refine lj_call (n := 1) (o := 0) (as := [.int (xs (nI i + 1).toNatClampNeg)]) (ad := aR) (M := R) (sh := (mb_shM N (mm_gd G aR))) (g := mm_mod N (mm_gd G aR) 0) (W0 := (mm_w aC (mb_shC (mm_gd G aC)) C')) 1167 rfl dL_law_1164 rfl rfl rfl (ct_X8_keep (xs (nI i + 1).toNatClampNeg) (lj_isMod N (mm_gd G aR) _)) e2 ⟨(Nat.le_of_ble_eq_true rfl), (Nat.le_of_ble_eq_true rfl)⟩ ⟨(Nat.le_of_ble_eq_true rfl), (Nat.le_of_ble_eq_true rfl)⟩ rfl (by decide +kernel) mw_6_6 mw_6_7 mw_6_8 mw_1_11 mw_6_9 rfl rfl (Nat.le_of_ble_eq_true rfl) rfl ?_
  show mb_T (p, l, e, s, m, #[Value.ref b], below, meth, c) G (cL_law, 4, RL, ret, 300) room_1 (lw_Z below #[Value.ref b] s) (mm_w aC (mb_shC (mm_gd G aC)) C' ++ mm_w aR (mb_shM N (mm_gd G aR)) R') 600000 7302250 1167 [(0, .ref b), (1, .ref (aC 0)), (2, .ref (aR 0)), (3, .int (nI i))] [.int r, .int r]
  refine mb_icmp_eqY 1370 dL_law_1167 (by decide) rfl ?_
  refine mb_iinc 1373 rfl dL_law_1370 3 rfl (v := nI (i + 5)) (nI_add i 5) (lv' := [(3, .int (nI (i + 5))), (0, .ref b), (1, .ref (aC 0)), (2, .ref (aR 0))]) (by decide) rfl ?_
  refine mb_goto 18 dL_law_1373 (by decide) ?_
  exact mb_lv [1, 2, 3, 0] rfl (ih (i + 5) N C' R' (by omega) (by omega) hSim')

set_option maxRecDepth 100000 in
set_option maxHeartbeats 4000000 in
theorem lc_back {p : Program} {l : Launch} {e : Env} {s : State} {m : MethodId} {below : List Frame} {meth : Method} {c : Code} {G : mm_G} {b L : Nat} {xs : Nat → Int32} {aC aR : Nat → Nat} {S : mm_M → mm_M → Prop} (hA0 : sm_All S) (hX : va_X b L xs s s.heap) (hbl : b < s.heap.size) (hbA : ¬ mm_A G b) {n i : Nat} (hi : i + 5 ≤ L) (hL : L ≤ 320) (hn : L - i < n + 1) (ih : ∀ (i : Nat) (N : Nat → Int64) (C R : mm_M), i ≤ L → L - i < n → S C R → mb_T (p, l, e, s, m, #[Value.ref b], below, meth, c) G (cL_law, 4, RL, ret, 300) room_1 (lw_Z below #[Value.ref b] s) (mm_w aC (mb_shC (mm_gd G aC)) C ++ mm_w aR (mb_shM N (mm_gd G aR)) R) 600000 7302250 18 [(0, .ref b), (1, .ref (aC 0)), (2, .ref (aR 0)), (3, .int (nI i))] []) {N : Nat → Int64} {C R : mm_M} (hSim : S C R) {op : Int32} (hop : op = 34) (hi1 : vp_in (nI i + 1) L) (hi2 : vp_in (nI i + 2) L) (hi3 : vp_in (nI i + 3) L) (hi4 : vp_in (nI i + 4) L) : mb_T (p, l, e, s, m, #[Value.ref b], below, meth, c) G (cL_law, 4, RL, ret, 300) room_1 (lw_Z below #[Value.ref b] s) (mm_w aC (mb_shC (mm_gd G aC)) C ++ mm_w aR (mb_shM N (mm_gd G aR)) R) 600000 7302250 32 [(0, .ref b), (1, .ref (aC 0)), (2, .ref (aR 0)), (3, .int (nI i))] [.int op] := by
  refine mb_tabIn 1172 34 hop dL_law_32 (by decide) (by decide) rfl (by decide) ?_
  have hsim := hA0.2.2.2.2.2.2.2.2.2.2.2.2.2.2.2.2.2.2.2.2.2.2.2.2.2.2.2.2.2.2.2.2.2.2.1 C R hSim (xs (nI i + 1).toNatClampNeg)
  obtain ⟨r, C', R', e1, e2, hSim'⟩ := hsim
  refine mb_swap ?_
  refine mb_aload_n 1173 rfl dL_law_1172 rfl 1 rfl ?_
  refine mb_aload_n 1174 rfl dL_law_1173 rfl 0 rfl ?_
  refine mb_iload_n 1175 rfl dL_law_1174 rfl 3 rfl ?_
  refine mb_iconst 1176 rfl (v := 1) dL_law_1175 (by decide) ?_
  refine mb_iadd 1177 rfl dL_law_1176 ?_
  refine mb_sld 1178 rfl dL_law_1177 hX hbl hbA hi1 ?_
  refine lj_call (n := 1) (o := 0) (as := [.int (xs (nI i + 1).toNatClampNeg)]) (ad := aC) (M := C) (sh := (mb_shC (mm_gd G aC))) (g := mm_mli (mm_gd G aC) 0) (W0 := (mm_w aR (mb_shM N (mm_gd G aR)) R)) 1181 rfl dL_law_1178 rfl rfl rfl (ct_X7_back (xs (nI i + 1).toNatClampNeg) (lj_isMli (mm_gd G aC) _)) e1 ⟨(Nat.le_of_ble_eq_true rfl), (Nat.le_of_ble_eq_true rfl)⟩ ⟨(Nat.le_of_ble_eq_true rfl), (Nat.le_of_ble_eq_true rfl)⟩ rfl (by decide +kernel) mw_3_227 mw_3_228 mw_3_229 mw_1_1 mw_3_230 rfl rfl (Nat.le_of_ble_eq_true rfl) rfl ?_
  show mb_T (p, l, e, s, m, #[Value.ref b], below, meth, c) G (cL_law, 4, RL, ret, 300) room_1 (lw_Z below #[Value.ref b] s) (mm_w aR (mb_shM N (mm_gd G aR)) R ++ mm_w aC (mb_shC (mm_gd G aC)) C') 600000 7302250 1181 [(0, .ref b), (1, .ref (aC 0)), (2, .ref (aR 0)), (3, .int (nI i))] [.int r]
  refine mb_swap ?_
  refine mb_aload_n 1182 rfl dL_law_1181 rfl 2 rfl ?_
  refine mb_aload_n 1183 rfl dL_law_1182 rfl 0 rfl ?_
  refine mb_iload_n 1184 rfl dL_law_1183 rfl 3 rfl ?_
  refine mb_iconst 1185 rfl (v := 1) dL_law_1184 (by decide) ?_
  refine mb_iadd 1186 rfl dL_law_1185 ?_
  refine mb_sld 1187 rfl dL_law_1186 hX hbl hbA hi1 ?_
  refine lj_call (n := 1) (o := 0) (as := [.int (xs (nI i + 1).toNatClampNeg)]) (ad := aR) (M := R) (sh := (mb_shM N (mm_gd G aR))) (g := mm_mod N (mm_gd G aR) 0) (W0 := (mm_w aC (mb_shC (mm_gd G aC)) C')) 1190 rfl dL_law_1187 rfl rfl rfl (ct_X8_back (xs (nI i + 1).toNatClampNeg) (lj_isMod N (mm_gd G aR) _)) e2 ⟨(Nat.le_of_ble_eq_true rfl), (Nat.le_of_ble_eq_true rfl)⟩ ⟨(Nat.le_of_ble_eq_true rfl), (Nat.le_of_ble_eq_true rfl)⟩ rfl (by decide +kernel) mw_6_14 mw_6_15 mw_6_16 mw_1_11 mw_6_17 rfl rfl (Nat.le_of_ble_eq_true rfl) rfl ?_
  show mb_T (p, l, e, s, m, #[Value.ref b], below, meth, c) G (cL_law, 4, RL, ret, 300) room_1 (lw_Z below #[Value.ref b] s) (mm_w aC (mb_shC (mm_gd G aC)) C' ++ mm_w aR (mb_shM N (mm_gd G aR)) R') 600000 7302250 1190 [(0, .ref b), (1, .ref (aC 0)), (2, .ref (aR 0)), (3, .int (nI i))] [.int r, .int r]
  refine mb_icmp_eqY 1370 dL_law_1190 (by decide) rfl ?_
  refine mb_iinc 1373 rfl dL_law_1370 3 rfl (v := nI (i + 5)) (nI_add i 5) (lv' := [(3, .int (nI (i + 5))), (0, .ref b), (1, .ref (aC 0)), (2, .ref (aR 0))]) (by decide) rfl ?_
  refine mb_goto 18 dL_law_1373 (by decide) ?_
  exact mb_lv [1, 2, 3, 0] rfl (ih (i + 5) N C' R' (by omega) (by omega) hSim')

set_option maxRecDepth 100000 in
set_option maxHeartbeats 4000000 in
theorem lc_sheet {p : Program} {l : Launch} {e : Env} {s : State} {m : MethodId} {below : List Frame} {meth : Method} {c : Code} {G : mm_G} {b L : Nat} {xs : Nat → Int32} {aC aR : Nat → Nat} {S : mm_M → mm_M → Prop} (hA0 : sm_All S) (hX : va_X b L xs s s.heap) (hbl : b < s.heap.size) (hbA : ¬ mm_A G b) {n i : Nat} (hi : i + 5 ≤ L) (hL : L ≤ 320) (hn : L - i < n + 1) (ih : ∀ (i : Nat) (N : Nat → Int64) (C R : mm_M), i ≤ L → L - i < n → S C R → mb_T (p, l, e, s, m, #[Value.ref b], below, meth, c) G (cL_law, 4, RL, ret, 300) room_1 (lw_Z below #[Value.ref b] s) (mm_w aC (mb_shC (mm_gd G aC)) C ++ mm_w aR (mb_shM N (mm_gd G aR)) R) 600000 7302250 18 [(0, .ref b), (1, .ref (aC 0)), (2, .ref (aR 0)), (3, .int (nI i))] []) {N : Nat → Int64} {C R : mm_M} (hSim : S C R) {op : Int32} (hop : op = 35) (hi1 : vp_in (nI i + 1) L) (hi2 : vp_in (nI i + 2) L) (hi3 : vp_in (nI i + 3) L) (hi4 : vp_in (nI i + 4) L) : mb_T (p, l, e, s, m, #[Value.ref b], below, meth, c) G (cL_law, 4, RL, ret, 300) room_1 (lw_Z below #[Value.ref b] s) (mm_w aC (mb_shC (mm_gd G aC)) C ++ mm_w aR (mb_shM N (mm_gd G aR)) R) 600000 7302250 32 [(0, .ref b), (1, .ref (aC 0)), (2, .ref (aR 0)), (3, .int (nI i))] [.int op] := by
  refine mb_tabIn 1195 35 hop dL_law_32 (by decide) (by decide) rfl (by decide) ?_
  have hsim := hA0.2.2.2.2.2.2.2.2.2.2.2.2.2.2.2.2.2.2.2.2.2.2.2.2.2.2.2.2.2.2.2.2.2.2.2.1 C R hSim (xs (nI i + 1).toNatClampNeg) (xs (nI i + 2).toNatClampNeg) (xs (nI i + 3).toNatClampNeg)
  obtain ⟨r, C', R', e1, e2, hSim'⟩ := hsim
  refine mb_swap ?_
  refine mb_aload_n 1196 rfl dL_law_1195 rfl 1 rfl ?_
  refine mb_aload_n 1197 rfl dL_law_1196 rfl 0 rfl ?_
  refine mb_iload_n 1198 rfl dL_law_1197 rfl 3 rfl ?_
  refine mb_iconst 1199 rfl (v := 1) dL_law_1198 (by decide) ?_
  refine mb_iadd 1200 rfl dL_law_1199 ?_
  refine mb_sld 1201 rfl dL_law_1200 hX hbl hbA hi1 ?_
  refine mb_aload_n 1202 rfl dL_law_1201 rfl 0 rfl ?_
  refine mb_iload_n 1203 rfl dL_law_1202 rfl 3 rfl ?_
  refine mb_iconst 1204 rfl (v := 2) dL_law_1203 (by decide) ?_
  refine mb_iadd 1205 rfl dL_law_1204 ?_
  refine mb_sld 1206 rfl dL_law_1205 hX hbl hbA hi2 ?_
  refine mb_aload_n 1207 rfl dL_law_1206 rfl 0 rfl ?_
  refine mb_iload_n 1208 rfl dL_law_1207 rfl 3 rfl ?_
  refine mb_iconst 1209 rfl (v := 3) dL_law_1208 (by decide) ?_
  refine mb_iadd 1210 rfl dL_law_1209 ?_
  refine mb_sld 1211 rfl dL_law_1210 hX hbl hbA hi3 ?_
  refine lj_call (n := 3) (o := 0) (as := [.int (xs (nI i + 1).toNatClampNeg), .int (xs (nI i + 2).toNatClampNeg), .int (xs (nI i + 3).toNatClampNeg)]) (ad := aC) (M := C) (sh := (mb_shC (mm_gd G aC))) (g := mm_mli (mm_gd G aC) 0) (W0 := (mm_w aR (mb_shM N (mm_gd G aR)) R)) 1214 rfl dL_law_1211 rfl rfl rfl (ct_X7_sheet (xs (nI i + 1).toNatClampNeg) (xs (nI i + 2).toNatClampNeg) (xs (nI i + 3).toNatClampNeg) (lj_isMli (mm_gd G aC) _)) e1 ⟨(Nat.le_of_ble_eq_true rfl), (Nat.le_of_ble_eq_true rfl)⟩ ⟨(Nat.le_of_ble_eq_true rfl), (Nat.le_of_ble_eq_true rfl)⟩ rfl (by decide +kernel) mw_3_231 mw_3_232 mw_3_233 mw_1_1 mw_3_234 rfl rfl (Nat.le_of_ble_eq_true rfl) rfl ?_
  show mb_T (p, l, e, s, m, #[Value.ref b], below, meth, c) G (cL_law, 4, RL, ret, 300) room_1 (lw_Z below #[Value.ref b] s) (mm_w aR (mb_shM N (mm_gd G aR)) R ++ mm_w aC (mb_shC (mm_gd G aC)) C') 600000 7302250 1214 [(0, .ref b), (1, .ref (aC 0)), (2, .ref (aR 0)), (3, .int (nI i))] [.int r]
  refine mb_swap ?_
  refine mb_aload_n 1215 rfl dL_law_1214 rfl 2 rfl ?_
  refine mb_aload_n 1216 rfl dL_law_1215 rfl 0 rfl ?_
  refine mb_iload_n 1217 rfl dL_law_1216 rfl 3 rfl ?_
  refine mb_iconst 1218 rfl (v := 1) dL_law_1217 (by decide) ?_
  refine mb_iadd 1219 rfl dL_law_1218 ?_
  refine mb_sld 1220 rfl dL_law_1219 hX hbl hbA hi1 ?_
  refine mb_aload_n 1221 rfl dL_law_1220 rfl 0 rfl ?_
  refine mb_iload_n 1222 rfl dL_law_1221 rfl 3 rfl ?_
  refine mb_iconst 1223 rfl (v := 2) dL_law_1222 (by decide) ?_
  refine mb_iadd 1224 rfl dL_law_1223 ?_
  refine mb_sld 1225 rfl dL_law_1224 hX hbl hbA hi2 ?_
  refine mb_aload_n 1226 rfl dL_law_1225 rfl 0 rfl ?_
  refine mb_iload_n 1227 rfl dL_law_1226 rfl 3 rfl ?_
  refine mb_iconst 1228 rfl (v := 3) dL_law_1227 (by decide) ?_
  refine mb_iadd 1229 rfl dL_law_1228 ?_
  refine mb_sld 1230 rfl dL_law_1229 hX hbl hbA hi3 ?_
  refine lj_call (n := 3) (o := 0) (as := [.int (xs (nI i + 1).toNatClampNeg), .int (xs (nI i + 2).toNatClampNeg), .int (xs (nI i + 3).toNatClampNeg)]) (ad := aR) (M := R) (sh := (mb_shM N (mm_gd G aR))) (g := mm_mod N (mm_gd G aR) 0) (W0 := (mm_w aC (mb_shC (mm_gd G aC)) C')) 1233 rfl dL_law_1230 rfl rfl rfl (ct_X8_sheet (xs (nI i + 1).toNatClampNeg) (xs (nI i + 2).toNatClampNeg) (xs (nI i + 3).toNatClampNeg) (lj_isMod N (mm_gd G aR) _)) e2 ⟨(Nat.le_of_ble_eq_true rfl), (Nat.le_of_ble_eq_true rfl)⟩ ⟨(Nat.le_of_ble_eq_true rfl), (Nat.le_of_ble_eq_true rfl)⟩ rfl (by decide +kernel) mw_6_18 mw_6_19 mw_6_20 mw_1_11 mw_6_21 rfl rfl (Nat.le_of_ble_eq_true rfl) rfl ?_
  show mb_T (p, l, e, s, m, #[Value.ref b], below, meth, c) G (cL_law, 4, RL, ret, 300) room_1 (lw_Z below #[Value.ref b] s) (mm_w aC (mb_shC (mm_gd G aC)) C' ++ mm_w aR (mb_shM N (mm_gd G aR)) R') 600000 7302250 1233 [(0, .ref b), (1, .ref (aC 0)), (2, .ref (aR 0)), (3, .int (nI i))] [.int r, .int r]
  refine mb_icmp_eqY 1370 dL_law_1233 (by decide) rfl ?_
  refine mb_iinc 1373 rfl dL_law_1370 3 rfl (v := nI (i + 5)) (nI_add i 5) (lv' := [(3, .int (nI (i + 5))), (0, .ref b), (1, .ref (aC 0)), (2, .ref (aR 0))]) (by decide) rfl ?_
  refine mb_goto 18 dL_law_1373 (by decide) ?_
  exact mb_lv [1, 2, 3, 0] rfl (ih (i + 5) N C' R' (by omega) (by omega) hSim')

set_option maxRecDepth 100000 in
set_option maxHeartbeats 4000000 in
theorem lc_lay {p : Program} {l : Launch} {e : Env} {s : State} {m : MethodId} {below : List Frame} {meth : Method} {c : Code} {G : mm_G} {b L : Nat} {xs : Nat → Int32} {aC aR : Nat → Nat} {S : mm_M → mm_M → Prop} (hA0 : sm_All S) (hX : va_X b L xs s s.heap) (hbl : b < s.heap.size) (hbA : ¬ mm_A G b) {n i : Nat} (hi : i + 5 ≤ L) (hL : L ≤ 320) (hn : L - i < n + 1) (ih : ∀ (i : Nat) (N : Nat → Int64) (C R : mm_M), i ≤ L → L - i < n → S C R → mb_T (p, l, e, s, m, #[Value.ref b], below, meth, c) G (cL_law, 4, RL, ret, 300) room_1 (lw_Z below #[Value.ref b] s) (mm_w aC (mb_shC (mm_gd G aC)) C ++ mm_w aR (mb_shM N (mm_gd G aR)) R) 600000 7302250 18 [(0, .ref b), (1, .ref (aC 0)), (2, .ref (aR 0)), (3, .int (nI i))] []) {N : Nat → Int64} {C R : mm_M} (hSim : S C R) {op : Int32} (hop : op = 36) (hi1 : vp_in (nI i + 1) L) (hi2 : vp_in (nI i + 2) L) (hi3 : vp_in (nI i + 3) L) (hi4 : vp_in (nI i + 4) L) : mb_T (p, l, e, s, m, #[Value.ref b], below, meth, c) G (cL_law, 4, RL, ret, 300) room_1 (lw_Z below #[Value.ref b] s) (mm_w aC (mb_shC (mm_gd G aC)) C ++ mm_w aR (mb_shM N (mm_gd G aR)) R) 600000 7302250 32 [(0, .ref b), (1, .ref (aC 0)), (2, .ref (aR 0)), (3, .int (nI i))] [.int op] := by
  refine mb_tabIn 1238 36 hop dL_law_32 (by decide) (by decide) rfl (by decide) ?_
  have hsim := hA0.2.2.2.2.2.2.2.2.2.2.2.2.2.2.2.2.2.2.2.2.2.2.2.2.2.2.2.2.2.2.2.2.2.2.2.2.1 C R hSim (xs (nI i + 1).toNatClampNeg) (xs (nI i + 2).toNatClampNeg) (xs (nI i + 3).toNatClampNeg)
  obtain ⟨r, C', R', e1, e2, hSim'⟩ := hsim
  refine mb_swap ?_
  refine mb_aload_n 1239 rfl dL_law_1238 rfl 1 rfl ?_
  refine mb_aload_n 1240 rfl dL_law_1239 rfl 0 rfl ?_
  refine mb_iload_n 1241 rfl dL_law_1240 rfl 3 rfl ?_
  refine mb_iconst 1242 rfl (v := 1) dL_law_1241 (by decide) ?_
  refine mb_iadd 1243 rfl dL_law_1242 ?_
  refine mb_sld 1244 rfl dL_law_1243 hX hbl hbA hi1 ?_
  refine mb_aload_n 1245 rfl dL_law_1244 rfl 0 rfl ?_
  refine mb_iload_n 1246 rfl dL_law_1245 rfl 3 rfl ?_
  refine mb_iconst 1247 rfl (v := 2) dL_law_1246 (by decide) ?_
  refine mb_iadd 1248 rfl dL_law_1247 ?_
  refine mb_sld 1249 rfl dL_law_1248 hX hbl hbA hi2 ?_
  refine mb_aload_n 1250 rfl dL_law_1249 rfl 0 rfl ?_
  refine mb_iload_n 1251 rfl dL_law_1250 rfl 3 rfl ?_
  refine mb_iconst 1252 rfl (v := 3) dL_law_1251 (by decide) ?_
  refine mb_iadd 1253 rfl dL_law_1252 ?_
  refine mb_sld 1254 rfl dL_law_1253 hX hbl hbA hi3 ?_
  refine lj_call (n := 3) (o := 0) (as := [.int (xs (nI i + 1).toNatClampNeg), .int (xs (nI i + 2).toNatClampNeg), .int (xs (nI i + 3).toNatClampNeg)]) (ad := aC) (M := C) (sh := (mb_shC (mm_gd G aC))) (g := mm_mli (mm_gd G aC) 0) (W0 := (mm_w aR (mb_shM N (mm_gd G aR)) R)) 1257 rfl dL_law_1254 rfl rfl rfl (ct_X7_lay (xs (nI i + 1).toNatClampNeg) (xs (nI i + 2).toNatClampNeg) (xs (nI i + 3).toNatClampNeg) (lj_isMli (mm_gd G aC) _)) e1 ⟨(Nat.le_of_ble_eq_true rfl), (Nat.le_of_ble_eq_true rfl)⟩ ⟨(Nat.le_of_ble_eq_true rfl), (Nat.le_of_ble_eq_true rfl)⟩ rfl (by decide +kernel) mw_4_6 mw_4_7 mw_4_8 mw_1_1 mw_4_9 rfl rfl (Nat.le_of_ble_eq_true rfl) rfl ?_
  show mb_T (p, l, e, s, m, #[Value.ref b], below, meth, c) G (cL_law, 4, RL, ret, 300) room_1 (lw_Z below #[Value.ref b] s) (mm_w aR (mb_shM N (mm_gd G aR)) R ++ mm_w aC (mb_shC (mm_gd G aC)) C') 600000 7302250 1257 [(0, .ref b), (1, .ref (aC 0)), (2, .ref (aR 0)), (3, .int (nI i))] [.int r]
  refine mb_swap ?_
  refine mb_aload_n 1258 rfl dL_law_1257 rfl 2 rfl ?_
  refine mb_aload_n 1259 rfl dL_law_1258 rfl 0 rfl ?_
  refine mb_iload_n 1260 rfl dL_law_1259 rfl 3 rfl ?_
  refine mb_iconst 1261 rfl (v := 1) dL_law_1260 (by decide) ?_
  refine mb_iadd 1262 rfl dL_law_1261 ?_
  refine mb_sld 1263 rfl dL_law_1262 hX hbl hbA hi1 ?_
  refine mb_aload_n 1264 rfl dL_law_1263 rfl 0 rfl ?_
  refine mb_iload_n 1265 rfl dL_law_1264 rfl 3 rfl ?_
  refine mb_iconst 1266 rfl (v := 2) dL_law_1265 (by decide) ?_
  refine mb_iadd 1267 rfl dL_law_1266 ?_
  refine mb_sld 1268 rfl dL_law_1267 hX hbl hbA hi2 ?_
  refine mb_aload_n 1269 rfl dL_law_1268 rfl 0 rfl ?_
  refine mb_iload_n 1270 rfl dL_law_1269 rfl 3 rfl ?_
  refine mb_iconst 1271 rfl (v := 3) dL_law_1270 (by decide) ?_
  refine mb_iadd 1272 rfl dL_law_1271 ?_
  refine mb_sld 1273 rfl dL_law_1272 hX hbl hbA hi3 ?_
  refine lj_call (n := 3) (o := 0) (as := [.int (xs (nI i + 1).toNatClampNeg), .int (xs (nI i + 2).toNatClampNeg), .int (xs (nI i + 3).toNatClampNeg)]) (ad := aR) (M := R) (sh := (mb_shM N (mm_gd G aR))) (g := mm_mod N (mm_gd G aR) 0) (W0 := (mm_w aC (mb_shC (mm_gd G aC)) C')) 1276 rfl dL_law_1273 rfl rfl rfl (ct_X8_lay (xs (nI i + 1).toNatClampNeg) (xs (nI i + 2).toNatClampNeg) (xs (nI i + 3).toNatClampNeg) (lj_isMod N (mm_gd G aR) _)) e2 ⟨(Nat.le_of_ble_eq_true rfl), (Nat.le_of_ble_eq_true rfl)⟩ ⟨(Nat.le_of_ble_eq_true rfl), (Nat.le_of_ble_eq_true rfl)⟩ rfl (by decide +kernel) mw_6_25 mw_6_26 mw_6_27 mw_1_11 mw_6_28 rfl rfl (Nat.le_of_ble_eq_true rfl) rfl ?_
  show mb_T (p, l, e, s, m, #[Value.ref b], below, meth, c) G (cL_law, 4, RL, ret, 300) room_1 (lw_Z below #[Value.ref b] s) (mm_w aC (mb_shC (mm_gd G aC)) C' ++ mm_w aR (mb_shM N (mm_gd G aR)) R') 600000 7302250 1276 [(0, .ref b), (1, .ref (aC 0)), (2, .ref (aR 0)), (3, .int (nI i))] [.int r, .int r]
  refine mb_icmp_eqY 1370 dL_law_1276 (by decide) rfl ?_
  refine mb_iinc 1373 rfl dL_law_1370 3 rfl (v := nI (i + 5)) (nI_add i 5) (lv' := [(3, .int (nI (i + 5))), (0, .ref b), (1, .ref (aC 0)), (2, .ref (aR 0))]) (by decide) rfl ?_
  refine mb_goto 18 dL_law_1373 (by decide) ?_
  exact mb_lv [1, 2, 3, 0] rfl (ih (i + 5) N C' R' (by omega) (by omega) hSim')

set_option maxRecDepth 100000 in
set_option maxHeartbeats 4000000 in
theorem lc_read {p : Program} {l : Launch} {e : Env} {s : State} {m : MethodId} {below : List Frame} {meth : Method} {c : Code} {G : mm_G} {b L : Nat} {xs : Nat → Int32} {aC aR : Nat → Nat} {S : mm_M → mm_M → Prop} (hA0 : sm_All S) (hX : va_X b L xs s s.heap) (hbl : b < s.heap.size) (hbA : ¬ mm_A G b) {n i : Nat} (hi : i + 5 ≤ L) (hL : L ≤ 320) (hn : L - i < n + 1) (ih : ∀ (i : Nat) (N : Nat → Int64) (C R : mm_M), i ≤ L → L - i < n → S C R → mb_T (p, l, e, s, m, #[Value.ref b], below, meth, c) G (cL_law, 4, RL, ret, 300) room_1 (lw_Z below #[Value.ref b] s) (mm_w aC (mb_shC (mm_gd G aC)) C ++ mm_w aR (mb_shM N (mm_gd G aR)) R) 600000 7302250 18 [(0, .ref b), (1, .ref (aC 0)), (2, .ref (aR 0)), (3, .int (nI i))] []) {N : Nat → Int64} {C R : mm_M} (hSim : S C R) {op : Int32} (hop : op = 37) (hi1 : vp_in (nI i + 1) L) (hi2 : vp_in (nI i + 2) L) (hi3 : vp_in (nI i + 3) L) (hi4 : vp_in (nI i + 4) L) : mb_T (p, l, e, s, m, #[Value.ref b], below, meth, c) G (cL_law, 4, RL, ret, 300) room_1 (lw_Z below #[Value.ref b] s) (mm_w aC (mb_shC (mm_gd G aC)) C ++ mm_w aR (mb_shM N (mm_gd G aR)) R) 600000 7302250 32 [(0, .ref b), (1, .ref (aC 0)), (2, .ref (aR 0)), (3, .int (nI i))] [.int op] := by
  refine mb_tabIn 1281 37 hop dL_law_32 (by decide) (by decide) rfl (by decide) ?_
  have hsim := hA0.2.2.2.2.2.2.2.2.2.2.2.2.2.2.2.2.2.2.2.2.2.2.2.2.2.2.2.2.2.2.2.2.2.2.2.2.2.1 C R hSim (xs (nI i + 1).toNatClampNeg) (xs (nI i + 2).toNatClampNeg) (xs (nI i + 3).toNatClampNeg) (xs (nI i + 4).toNatClampNeg)
  obtain ⟨r, C', R', e1, e2, hSim'⟩ := hsim
  refine mb_swap ?_
  refine mb_aload_n 1282 rfl dL_law_1281 rfl 1 rfl ?_
  refine mb_aload_n 1283 rfl dL_law_1282 rfl 0 rfl ?_
  refine mb_iload_n 1284 rfl dL_law_1283 rfl 3 rfl ?_
  refine mb_iconst 1285 rfl (v := 1) dL_law_1284 (by decide) ?_
  refine mb_iadd 1286 rfl dL_law_1285 ?_
  refine mb_sld 1287 rfl dL_law_1286 hX hbl hbA hi1 ?_
  refine mb_aload_n 1288 rfl dL_law_1287 rfl 0 rfl ?_
  refine mb_iload_n 1289 rfl dL_law_1288 rfl 3 rfl ?_
  refine mb_iconst 1290 rfl (v := 2) dL_law_1289 (by decide) ?_
  refine mb_iadd 1291 rfl dL_law_1290 ?_
  refine mb_sld 1292 rfl dL_law_1291 hX hbl hbA hi2 ?_
  refine mb_aload_n 1293 rfl dL_law_1292 rfl 0 rfl ?_
  refine mb_iload_n 1294 rfl dL_law_1293 rfl 3 rfl ?_
  refine mb_iconst 1295 rfl (v := 3) dL_law_1294 (by decide) ?_
  refine mb_iadd 1296 rfl dL_law_1295 ?_
  refine mb_sld 1297 rfl dL_law_1296 hX hbl hbA hi3 ?_
  refine mb_aload_n 1298 rfl dL_law_1297 rfl 0 rfl ?_
  refine mb_iload_n 1299 rfl dL_law_1298 rfl 3 rfl ?_
  refine mb_iconst 1300 rfl (v := 4) dL_law_1299 (by decide) ?_
  refine mb_iadd 1301 rfl dL_law_1300 ?_
  refine mb_sld 1302 rfl dL_law_1301 hX hbl hbA hi4 ?_
  refine lj_call (n := 4) (o := 0) (as := [.int (xs (nI i + 1).toNatClampNeg), .int (xs (nI i + 2).toNatClampNeg), .int (xs (nI i + 3).toNatClampNeg), .int (xs (nI i + 4).toNatClampNeg)]) (ad := aC) (M := C) (sh := (mb_shC (mm_gd G aC))) (g := mm_mli (mm_gd G aC) 0) (W0 := (mm_w aR (mb_shM N (mm_gd G aR)) R)) 1305 rfl dL_law_1302 rfl rfl rfl (ct_X7_read (xs (nI i + 1).toNatClampNeg) (xs (nI i + 2).toNatClampNeg) (xs (nI i + 3).toNatClampNeg) (xs (nI i + 4).toNatClampNeg) (lj_isMli (mm_gd G aC) _)) e1 ⟨(Nat.le_of_ble_eq_true rfl), (Nat.le_of_ble_eq_true rfl)⟩ ⟨(Nat.le_of_ble_eq_true rfl), (Nat.le_of_ble_eq_true rfl)⟩ rfl (by decide +kernel) mw_4_23 mw_4_24 mw_4_25 mw_1_1 mw_4_26 rfl rfl (Nat.le_of_ble_eq_true rfl) rfl ?_
  show mb_T (p, l, e, s, m, #[Value.ref b], below, meth, c) G (cL_law, 4, RL, ret, 300) room_1 (lw_Z below #[Value.ref b] s) (mm_w aR (mb_shM N (mm_gd G aR)) R ++ mm_w aC (mb_shC (mm_gd G aC)) C') 600000 7302250 1305 [(0, .ref b), (1, .ref (aC 0)), (2, .ref (aR 0)), (3, .int (nI i))] [.int r]
  refine mb_swap ?_
  refine mb_aload_n 1306 rfl dL_law_1305 rfl 2 rfl ?_
  refine mb_aload_n 1307 rfl dL_law_1306 rfl 0 rfl ?_
  refine mb_iload_n 1308 rfl dL_law_1307 rfl 3 rfl ?_
  refine mb_iconst 1309 rfl (v := 1) dL_law_1308 (by decide) ?_
  refine mb_iadd 1310 rfl dL_law_1309 ?_
  refine mb_sld 1311 rfl dL_law_1310 hX hbl hbA hi1 ?_
  refine mb_aload_n 1312 rfl dL_law_1311 rfl 0 rfl ?_
  refine mb_iload_n 1313 rfl dL_law_1312 rfl 3 rfl ?_
  refine mb_iconst 1314 rfl (v := 2) dL_law_1313 (by decide) ?_
  refine mb_iadd 1315 rfl dL_law_1314 ?_
  refine mb_sld 1316 rfl dL_law_1315 hX hbl hbA hi2 ?_
  refine mb_aload_n 1317 rfl dL_law_1316 rfl 0 rfl ?_
  refine mb_iload_n 1318 rfl dL_law_1317 rfl 3 rfl ?_
  refine mb_iconst 1319 rfl (v := 3) dL_law_1318 (by decide) ?_
  refine mb_iadd 1320 rfl dL_law_1319 ?_
  refine mb_sld 1321 rfl dL_law_1320 hX hbl hbA hi3 ?_
  refine mb_aload_n 1322 rfl dL_law_1321 rfl 0 rfl ?_
  refine mb_iload_n 1323 rfl dL_law_1322 rfl 3 rfl ?_
  refine mb_iconst 1324 rfl (v := 4) dL_law_1323 (by decide) ?_
  refine mb_iadd 1325 rfl dL_law_1324 ?_
  refine mb_sld 1326 rfl dL_law_1325 hX hbl hbA hi4 ?_
  refine lj_call (n := 4) (o := 0) (as := [.int (xs (nI i + 1).toNatClampNeg), .int (xs (nI i + 2).toNatClampNeg), .int (xs (nI i + 3).toNatClampNeg), .int (xs (nI i + 4).toNatClampNeg)]) (ad := aR) (M := R) (sh := (mb_shM N (mm_gd G aR))) (g := mm_mod N (mm_gd G aR) 0) (W0 := (mm_w aC (mb_shC (mm_gd G aC)) C')) 1329 rfl dL_law_1326 rfl rfl rfl (ct_X8_read (xs (nI i + 1).toNatClampNeg) (xs (nI i + 2).toNatClampNeg) (xs (nI i + 3).toNatClampNeg) (xs (nI i + 4).toNatClampNeg) (lj_isMod N (mm_gd G aR) _)) e2 ⟨(Nat.le_of_ble_eq_true rfl), (Nat.le_of_ble_eq_true rfl)⟩ ⟨(Nat.le_of_ble_eq_true rfl), (Nat.le_of_ble_eq_true rfl)⟩ rfl (by decide +kernel) mw_6_29 mw_6_30 mw_6_31 mw_1_11 mw_6_32 rfl rfl (Nat.le_of_ble_eq_true rfl) rfl ?_
  show mb_T (p, l, e, s, m, #[Value.ref b], below, meth, c) G (cL_law, 4, RL, ret, 300) room_1 (lw_Z below #[Value.ref b] s) (mm_w aC (mb_shC (mm_gd G aC)) C' ++ mm_w aR (mb_shM N (mm_gd G aR)) R') 600000 7302250 1329 [(0, .ref b), (1, .ref (aC 0)), (2, .ref (aR 0)), (3, .int (nI i))] [.int r, .int r]
  refine mb_icmp_eqY 1370 dL_law_1329 (by decide) rfl ?_
  refine mb_iinc 1373 rfl dL_law_1370 3 rfl (v := nI (i + 5)) (nI_add i 5) (lv' := [(3, .int (nI (i + 5))), (0, .ref b), (1, .ref (aC 0)), (2, .ref (aR 0))]) (by decide) rfl ?_
  refine mb_goto 18 dL_law_1373 (by decide) ?_
  exact mb_lv [1, 2, 3, 0] rfl (ih (i + 5) N C' R' (by omega) (by omega) hSim')

set_option maxRecDepth 100000 in
set_option maxHeartbeats 4000000 in
theorem lc_torn {p : Program} {l : Launch} {e : Env} {s : State} {m : MethodId} {below : List Frame} {meth : Method} {c : Code} {G : mm_G} {b L : Nat} {xs : Nat → Int32} {aC aR : Nat → Nat} {S : mm_M → mm_M → Prop} (hA0 : sm_All S) (hX : va_X b L xs s s.heap) (hbl : b < s.heap.size) (hbA : ¬ mm_A G b) {n i : Nat} (hi : i + 5 ≤ L) (hL : L ≤ 320) (hn : L - i < n + 1) (ih : ∀ (i : Nat) (N : Nat → Int64) (C R : mm_M), i ≤ L → L - i < n → S C R → mb_T (p, l, e, s, m, #[Value.ref b], below, meth, c) G (cL_law, 4, RL, ret, 300) room_1 (lw_Z below #[Value.ref b] s) (mm_w aC (mb_shC (mm_gd G aC)) C ++ mm_w aR (mb_shM N (mm_gd G aR)) R) 600000 7302250 18 [(0, .ref b), (1, .ref (aC 0)), (2, .ref (aR 0)), (3, .int (nI i))] []) {N : Nat → Int64} {C R : mm_M} (hSim : S C R) {op : Int32} (hop : op = 38) (hi1 : vp_in (nI i + 1) L) (hi2 : vp_in (nI i + 2) L) (hi3 : vp_in (nI i + 3) L) (hi4 : vp_in (nI i + 4) L) : mb_T (p, l, e, s, m, #[Value.ref b], below, meth, c) G (cL_law, 4, RL, ret, 300) room_1 (lw_Z below #[Value.ref b] s) (mm_w aC (mb_shC (mm_gd G aC)) C ++ mm_w aR (mb_shM N (mm_gd G aR)) R) 600000 7302250 32 [(0, .ref b), (1, .ref (aC 0)), (2, .ref (aR 0)), (3, .int (nI i))] [.int op] := by
  refine mb_tabIn 1334 38 hop dL_law_32 (by decide) (by decide) rfl (by decide) ?_
  have hsim := hA0.2.2.2.2.2.2.2.2.2.2.2.2.2.2.2.2.2.2.2.2.2.2.2.2.2.2.2.2.2.2.2.2.2.2.2.2.2.2.1 C R hSim 
  obtain ⟨r, C', R', e1, e2, hSim'⟩ := hsim
  refine mb_swap ?_
  refine mb_aload_n 1335 rfl dL_law_1334 rfl 1 rfl ?_
  refine lj_call (n := 0) (o := 0) (as := []) (ad := aC) (M := C) (sh := (mb_shC (mm_gd G aC))) (g := mm_mli (mm_gd G aC) 0) (W0 := (mm_w aR (mb_shM N (mm_gd G aR)) R)) 1338 rfl dL_law_1335 rfl rfl rfl (ct_X7_torn  (lj_isMli (mm_gd G aC) _)) e1 ⟨(Nat.le_of_ble_eq_true rfl), (Nat.le_of_ble_eq_true rfl)⟩ ⟨(Nat.le_of_ble_eq_true rfl), (Nat.le_of_ble_eq_true rfl)⟩ rfl (by decide +kernel) mw_4_42 mw_4_43 mw_4_44 mw_1_1 mw_4_45 rfl rfl (Nat.le_of_ble_eq_true rfl) rfl ?_
  show mb_T (p, l, e, s, m, #[Value.ref b], below, meth, c) G (cL_law, 4, RL, ret, 300) room_1 (lw_Z below #[Value.ref b] s) (mm_w aR (mb_shM N (mm_gd G aR)) R ++ mm_w aC (mb_shC (mm_gd G aC)) C') 600000 7302250 1338 [(0, .ref b), (1, .ref (aC 0)), (2, .ref (aR 0)), (3, .int (nI i))] [.int r]
  refine mb_swap ?_
  refine mb_aload_n 1339 rfl dL_law_1338 rfl 2 rfl ?_
  refine lj_call (n := 0) (o := 0) (as := []) (ad := aR) (M := R) (sh := (mb_shM N (mm_gd G aR))) (g := mm_mod N (mm_gd G aR) 0) (W0 := (mm_w aC (mb_shC (mm_gd G aC)) C')) 1342 rfl dL_law_1339 rfl rfl rfl (ct_X8_torn  (lj_isMod N (mm_gd G aR) _)) e2 ⟨(Nat.le_of_ble_eq_true rfl), (Nat.le_of_ble_eq_true rfl)⟩ ⟨(Nat.le_of_ble_eq_true rfl), (Nat.le_of_ble_eq_true rfl)⟩ rfl (by decide +kernel) mw_6_34 mw_6_35 mw_6_36 mw_1_11 mw_6_37 rfl rfl (Nat.le_of_ble_eq_true rfl) rfl ?_
  show mb_T (p, l, e, s, m, #[Value.ref b], below, meth, c) G (cL_law, 4, RL, ret, 300) room_1 (lw_Z below #[Value.ref b] s) (mm_w aC (mb_shC (mm_gd G aC)) C' ++ mm_w aR (mb_shM N (mm_gd G aR)) R') 600000 7302250 1342 [(0, .ref b), (1, .ref (aC 0)), (2, .ref (aR 0)), (3, .int (nI i))] [.int r, .int r]
  refine mb_icmp_eqY 1370 dL_law_1342 (by decide) rfl ?_
  refine mb_iinc 1373 rfl dL_law_1370 3 rfl (v := nI (i + 5)) (nI_add i 5) (lv' := [(3, .int (nI (i + 5))), (0, .ref b), (1, .ref (aC 0)), (2, .ref (aR 0))]) (by decide) rfl ?_
  refine mb_goto 18 dL_law_1373 (by decide) ?_
  exact mb_lv [1, 2, 3, 0] rfl (ih (i + 5) N C' R' (by omega) (by omega) hSim')

set_option maxRecDepth 100000 in
set_option maxHeartbeats 4000000 in
theorem lc_count {p : Program} {l : Launch} {e : Env} {s : State} {m : MethodId} {below : List Frame} {meth : Method} {c : Code} {G : mm_G} {b L : Nat} {xs : Nat → Int32} {aC aR : Nat → Nat} {S : mm_M → mm_M → Prop} (hA0 : sm_All S) (hX : va_X b L xs s s.heap) (hbl : b < s.heap.size) (hbA : ¬ mm_A G b) {n i : Nat} (hi : i + 5 ≤ L) (hL : L ≤ 320) (hn : L - i < n + 1) (ih : ∀ (i : Nat) (N : Nat → Int64) (C R : mm_M), i ≤ L → L - i < n → S C R → mb_T (p, l, e, s, m, #[Value.ref b], below, meth, c) G (cL_law, 4, RL, ret, 300) room_1 (lw_Z below #[Value.ref b] s) (mm_w aC (mb_shC (mm_gd G aC)) C ++ mm_w aR (mb_shM N (mm_gd G aR)) R) 600000 7302250 18 [(0, .ref b), (1, .ref (aC 0)), (2, .ref (aR 0)), (3, .int (nI i))] []) {N : Nat → Int64} {C R : mm_M} (hSim : S C R) {op : Int32} (hop : op = 39) (hi1 : vp_in (nI i + 1) L) (hi2 : vp_in (nI i + 2) L) (hi3 : vp_in (nI i + 3) L) (hi4 : vp_in (nI i + 4) L) : mb_T (p, l, e, s, m, #[Value.ref b], below, meth, c) G (cL_law, 4, RL, ret, 300) room_1 (lw_Z below #[Value.ref b] s) (mm_w aC (mb_shC (mm_gd G aC)) C ++ mm_w aR (mb_shM N (mm_gd G aR)) R) 600000 7302250 32 [(0, .ref b), (1, .ref (aC 0)), (2, .ref (aR 0)), (3, .int (nI i))] [.int op] := by
  refine mb_tabIn 1347 39 hop dL_law_32 (by decide) (by decide) rfl (by decide) ?_
  have hsim := hA0.2.2.2.2.2.2.2.2.2.2.2.2.2.2.2.2.2.2.2.2.2.2.2.2.2.2.2.2.2.2.2.2.2.2.2.2.2.2.2 C R hSim (xs (nI i + 1).toNatClampNeg)
  obtain ⟨r, C', R', e1, e2, hSim'⟩ := hsim
  refine mb_swap ?_
  refine mb_aload_n 1348 rfl dL_law_1347 rfl 1 rfl ?_
  refine mb_aload_n 1349 rfl dL_law_1348 rfl 0 rfl ?_
  refine mb_iload_n 1350 rfl dL_law_1349 rfl 3 rfl ?_
  refine mb_iconst 1351 rfl (v := 1) dL_law_1350 (by decide) ?_
  refine mb_iadd 1352 rfl dL_law_1351 ?_
  refine mb_sld 1353 rfl dL_law_1352 hX hbl hbA hi1 ?_
  refine lj_call (n := 1) (o := 0) (as := [.int (xs (nI i + 1).toNatClampNeg)]) (ad := aC) (M := C) (sh := (mb_shC (mm_gd G aC))) (g := mm_mli (mm_gd G aC) 0) (W0 := (mm_w aR (mb_shM N (mm_gd G aR)) R)) 1356 rfl dL_law_1353 rfl rfl rfl (ct_X7_count (xs (nI i + 1).toNatClampNeg) (lj_isMli (mm_gd G aC) _)) e1 ⟨(Nat.le_of_ble_eq_true rfl), (Nat.le_of_ble_eq_true rfl)⟩ ⟨(Nat.le_of_ble_eq_true rfl), (Nat.le_of_ble_eq_true rfl)⟩ rfl (by decide +kernel) mw_4_46 mw_4_47 mw_4_48 mw_1_1 mw_4_49 rfl rfl (Nat.le_of_ble_eq_true rfl) rfl ?_
  show mb_T (p, l, e, s, m, #[Value.ref b], below, meth, c) G (cL_law, 4, RL, ret, 300) room_1 (lw_Z below #[Value.ref b] s) (mm_w aR (mb_shM N (mm_gd G aR)) R ++ mm_w aC (mb_shC (mm_gd G aC)) C') 600000 7302250 1356 [(0, .ref b), (1, .ref (aC 0)), (2, .ref (aR 0)), (3, .int (nI i))] [.int r]
  refine mb_swap ?_
  refine mb_aload_n 1357 rfl dL_law_1356 rfl 2 rfl ?_
  refine mb_aload_n 1358 rfl dL_law_1357 rfl 0 rfl ?_
  refine mb_iload_n 1359 rfl dL_law_1358 rfl 3 rfl ?_
  refine mb_iconst 1360 rfl (v := 1) dL_law_1359 (by decide) ?_
  refine mb_iadd 1361 rfl dL_law_1360 ?_
  refine mb_sld 1362 rfl dL_law_1361 hX hbl hbA hi1 ?_
  refine lj_call (n := 1) (o := 0) (as := [.int (xs (nI i + 1).toNatClampNeg)]) (ad := aR) (M := R) (sh := (mb_shM N (mm_gd G aR))) (g := mm_mod N (mm_gd G aR) 0) (W0 := (mm_w aC (mb_shC (mm_gd G aC)) C')) 1365 rfl dL_law_1362 rfl rfl rfl (ct_X8_count (xs (nI i + 1).toNatClampNeg) (lj_isMod N (mm_gd G aR) _)) e2 ⟨(Nat.le_of_ble_eq_true rfl), (Nat.le_of_ble_eq_true rfl)⟩ ⟨(Nat.le_of_ble_eq_true rfl), (Nat.le_of_ble_eq_true rfl)⟩ rfl (by decide +kernel) mw_6_38 mw_6_39 mw_6_40 mw_1_11 mw_6_41 rfl rfl (Nat.le_of_ble_eq_true rfl) rfl ?_
  show mb_T (p, l, e, s, m, #[Value.ref b], below, meth, c) G (cL_law, 4, RL, ret, 300) room_1 (lw_Z below #[Value.ref b] s) (mm_w aC (mb_shC (mm_gd G aC)) C' ++ mm_w aR (mb_shM N (mm_gd G aR)) R') 600000 7302250 1365 [(0, .ref b), (1, .ref (aC 0)), (2, .ref (aR 0)), (3, .int (nI i))] [.int r, .int r]
  refine mb_icmp_eqY 1370 dL_law_1365 (by decide) rfl ?_
  refine mb_iinc 1373 rfl dL_law_1370 3 rfl (v := nI (i + 5)) (nI_add i 5) (lv' := [(3, .int (nI (i + 5))), (0, .ref b), (1, .ref (aC 0)), (2, .ref (aR 0))]) (by decide) rfl ?_
  refine mb_goto 18 dL_law_1373 (by decide) ?_
  exact mb_lv [1, 2, 3, 0] rfl (ih (i + 5) N C' R' (by omega) (by omega) hSim')

