set_option maxRecDepth 100000 in
set_option maxHeartbeats 8000000 in
theorem law_loop {p : Program} {l : Launch} {e : Env} {s : State} {m : MethodId} {below : List Frame} {meth : Method} {c : Code} {G : mm_G} {b L : Nat} {xs : Nat → Int32} {aC aR : Nat → Nat} {S : mm_M → mm_M → Prop} (hA0 : sm_All S) (hX : va_X b L xs s s.heap) (hbl : b < s.heap.size) (hbA : ¬ mm_A G b) (hL : L ≤ 320) (hAe : ∀ q, mm_A G q → s.heap.size ≤ q) : ∀ (n i : Nat) (N : Nat → Int64) (C R : mm_M), i ≤ L → L - i < n → S C R → mb_T (p, l, e, s, m, #[Value.ref b], below, meth, c) G (cL_law, 4, RL, ret, 300) room_1 (lw_Z below #[Value.ref b] s) (mm_w aC (mb_shC (mm_gd G aC)) C ++ mm_w aR (mb_shM N (mm_gd G aR)) R) 600000 7302250 18 [(0, .ref b), (1, .ref (aC 0)), (2, .ref (aR 0)), (3, .int (nI i))] [] := by
  intro n
  induction n with
  | zero => intro i N C R _ h; omega
  | succ n ih =>
    intro i N C R hi hn hSim
    refine mb_iload_n 19 rfl dL_law_18 rfl 3 rfl ?_
    refine mb_aload_n 20 rfl dL_law_19 rfl 0 rfl ?_
    refine mb_slen 21 rfl dL_law_20 hX hbl hbA ?_
    refine mb_iconst 22 rfl (v := 5) dL_law_21 (by decide) ?_
    refine mb_isub 23 rfl dL_law_22 ?_
    refine mb_icmp_gt 26 1376 rfl dL_law_23 (by decide) (fun _ => ?_) (fun hgo => ?_)
    · refine mb_iconst 1377 rfl (v := 1) dL_law_1376 (by decide) ?_
      exact fun C hA H locs ls hP hD hS hl => va_forget (fun q hq => hAe _ (hS.2.2 q hq)) (lw_ret C.1 C.2.1 C.2.2.2.2.2.1 C.2.2.2.2.2.2.1 dL_law_1377)
    have hlt : i + 5 ≤ L := lj_go hi hL hgo
    have hi1 : vp_in (nI i + 1) L := by rw [show nI i + (1 : Int32) = nI (i + 1) from nI_add i 1]; exact vp_in_nI (by omega) (by omega)
    have hi2 : vp_in (nI i + 2) L := by rw [show nI i + (2 : Int32) = nI (i + 2) from nI_add i 2]; exact vp_in_nI (by omega) (by omega)
    have hi3 : vp_in (nI i + 3) L := by rw [show nI i + (3 : Int32) = nI (i + 3) from nI_add i 3]; exact vp_in_nI (by omega) (by omega)
    have hi4 : vp_in (nI i + 4) L := by rw [show nI i + (4 : Int32) = nI (i + 4) from nI_add i 4]; exact vp_in_nI (by omega) (by omega)
    have hi0 : vp_in (nI i) L := vp_in_nI (by omega) (by omega)
    refine mb_aload_n 27 rfl dL_law_26 rfl 0 rfl ?_
    refine mb_iload_n 28 rfl dL_law_27 rfl 3 rfl ?_
    refine mb_sld 29 rfl dL_law_28 hX hbl hbA hi0 ?_
    refine mb_bipush 31 rfl (v := 63) dL_law_29 (by decide) ?_
    refine mb_iand 32 rfl dL_law_31 ?_
    generalize hop : xs (nI i).toNatClampNeg &&& 63 = op
    by_cases n0 : op = 0
    · exact lc_feed hA0 hX hbl hbA hlt hL hn ih hSim n0 hi1 hi2 hi3 hi4
    by_cases n1 : op = 1
    · exact lc_end hA0 hX hbl hbA hlt hL hn ih hSim n1 hi1 hi2 hi3 hi4
    by_cases n2 : op = 2
    · exact lc_text hA0 hX hbl hbA hlt hL hn ih hSim n2 hi1 hi2 hi3 hi4
    by_cases n3 : op = 3
    · exact lc_fault hA0 hX hbl hbA hlt hL hn ih hSim n3 hi1 hi2 hi3 hi4
    by_cases n4 : op = 4
    · exact lc_rule hA0 hX hbl hbA hlt hL hn ih hSim n4 hi1 hi2 hi3 hi4
    by_cases n5 : op = 5
    · exact lc_told hA0 hX hbl hbA hlt hL hn ih hSim n5 hi1 hi2 hi3 hi4
    by_cases n6 : op = 6
    · exact lc_one hA0 hX hbl hbA hlt hL hn ih hSim n6 hi1 hi2 hi3 hi4
    by_cases n7 : op = 7
    · exact lc_sun hA0 hX hbl hbA hlt hL hn ih hSim n7 hi1 hi2 hi3 hi4
    by_cases n8 : op = 8
    · exact lc_alter hA0 hX hbl hbA hlt hL hn ih hSim n8 hi1 hi2 hi3 hi4
    by_cases n9 : op = 9
    · exact lc_set hA0 hX hbl hbA hlt hL hn ih hSim n9 hi1 hi2 hi3 hi4
    by_cases n10 : op = 10
    · exact lc_shine hA0 hX hbl hbA hlt hL hn ih hSim n10 hi1 hi2 hi3 hi4
    by_cases n11 : op = 11
    · exact lc_bring hA0 hX hbl hbA hlt hL hn ih hSim n11 hi1 hi2 hi3 hi4
    by_cases n12 : op = 12
    · exact lc_fetch hA0 hX hbl hbA hlt hL hn ih hSim n12 hi1 hi2 hi3 hi4
    by_cases n13 : op = 13
    · exact lc_days hA0 hX hbl hbA hlt hL hn ih hSim n13 hi1 hi2 hi3 hi4
    by_cases n14 : op = 14
    · exact lc_runs hA0 hX hbl hbA hlt hL hn ih hSim n14 hi1 hi2 hi3 hi4
    by_cases n15 : op = 15
    · exact lc_ahead hA0 hX hbl hbA hlt hL hn ih hSim n15 hi1 hi2 hi3 hi4
    by_cases n16 : op = 16
    · exact lc_home hA0 hX hbl hbA hlt hL hn ih hSim n16 hi1 hi2 hi3 hi4
    by_cases n17 : op = 17
    · exact lc_done hA0 hX hbl hbA hlt hL hn ih hSim n17 hi1 hi2 hi3 hi4
    by_cases n18 : op = 18
    · exact lc_blue hA0 hX hbl hbA hlt hL hn ih hSim n18 hi1 hi2 hi3 hi4
    by_cases n19 : op = 19
    · exact lc_pegs hA0 hX hbl hbA hlt hL hn ih hSim n19 hi1 hi2 hi3 hi4
    by_cases n20 : op = 20
    · exact lc_batch hA0 hX hbl hbA hlt hL hn ih hSim n20 hi1 hi2 hi3 hi4
    by_cases n21 : op = 21
    · exact lc_swap hA0 hX hbl hbA hlt hL hn ih hSim n21 hi1 hi2 hi3 hi4
    by_cases n22 : op = 22
    · exact lc_fair hA0 hX hbl hbA hlt hL hn ih hSim n22 hi1 hi2 hi3 hi4
    by_cases n23 : op = 23
    · exact lc_stain hA0 hX hbl hbA hlt hL hn ih hSim n23 hi1 hi2 hi3 hi4
    by_cases n24 : op = 24
    · exact lc_kind hA0 hX hbl hbA hlt hL hn ih hSim n24 hi1 hi2 hi3 hi4
    by_cases n25 : op = 25
    · exact lc_luck hA0 hX hbl hbA hlt hL hn ih hSim n25 hi1 hi2 hi3 hi4
    by_cases n26 : op = 26
    · exact lc_mean hA0 hX hbl hbA hlt hL hn ih hSim n26 hi1 hi2 hi3 hi4
    by_cases n27 : op = 27
    · exact lc_see hA0 hX hbl hbA hlt hL hn ih hSim n27 hi1 hi2 hi3 hi4
    by_cases n28 : op = 28
    · exact lc_forget hA0 hX hbl hbA hlt hL hn ih hSim n28 hi1 hi2 hi3 hi4
    by_cases n29 : op = 29
    · exact lc_kinds hA0 hX hbl hbA hlt hL hn ih hSim n29 hi1 hi2 hi3 hi4
    by_cases n30 : op = 30
    · exact lc_greys hA0 hX hbl hbA hlt hL hn ih hSim n30 hi1 hi2 hi3 hi4
    by_cases n31 : op = 31
    · exact lc_ask hA0 hX hbl hbA hlt hL hn ih hSim n31 hi1 hi2 hi3 hi4
    by_cases n32 : op = 32
    · exact lc_drift hA0 hX hbl hbA hlt hL hn ih hSim n32 hi1 hi2 hi3 hi4
    by_cases n33 : op = 33
    · exact lc_keep hA0 hX hbl hbA hlt hL hn ih hSim n33 hi1 hi2 hi3 hi4
    by_cases n34 : op = 34
    · exact lc_back hA0 hX hbl hbA hlt hL hn ih hSim n34 hi1 hi2 hi3 hi4
    by_cases n35 : op = 35
    · exact lc_sheet hA0 hX hbl hbA hlt hL hn ih hSim n35 hi1 hi2 hi3 hi4
    by_cases n36 : op = 36
    · exact lc_lay hA0 hX hbl hbA hlt hL hn ih hSim n36 hi1 hi2 hi3 hi4
    by_cases n37 : op = 37
    · exact lc_read hA0 hX hbl hbA hlt hL hn ih hSim n37 hi1 hi2 hi3 hi4
    by_cases n38 : op = 38
    · exact lc_torn hA0 hX hbl hbA hlt hL hn ih hSim n38 hi1 hi2 hi3 hi4
    by_cases n39 : op = 39
    · exact lc_count hA0 hX hbl hbA hlt hL hn ih hSim n39 hi1 hi2 hi3 hi4
    refine mb_tabOut 1370 dL_law_32 (mm_out 0 40 (by decide) (fun j hj => by match j, hj with | 0, _ => exact n0 | 1, _ => exact n1 | 2, _ => exact n2 | 3, _ => exact n3 | 4, _ => exact n4 | 5, _ => exact n5 | 6, _ => exact n6 | 7, _ => exact n7 | 8, _ => exact n8 | 9, _ => exact n9 | 10, _ => exact n10 | 11, _ => exact n11 | 12, _ => exact n12 | 13, _ => exact n13 | 14, _ => exact n14 | 15, _ => exact n15 | 16, _ => exact n16 | 17, _ => exact n17 | 18, _ => exact n18 | 19, _ => exact n19 | 20, _ => exact n20 | 21, _ => exact n21 | 22, _ => exact n22 | 23, _ => exact n23 | 24, _ => exact n24 | 25, _ => exact n25 | 26, _ => exact n26 | 27, _ => exact n27 | 28, _ => exact n28 | 29, _ => exact n29 | 30, _ => exact n30 | 31, _ => exact n31 | 32, _ => exact n32 | 33, _ => exact n33 | 34, _ => exact n34 | 35, _ => exact n35 | 36, _ => exact n36 | 37, _ => exact n37 | 38, _ => exact n38 | 39, _ => exact n39 | k + 40, hk => exact absurd hk (by omega)) rfl rfl) (by decide) ?_
    refine mb_iinc 1373 rfl dL_law_1370 3 rfl (v := nI (i + 5)) (nI_add i 5) (lv' := [(3, .int (nI (i + 5))), (0, .ref b), (1, .ref (aC 0)), (2, .ref (aR 0))]) (by decide) rfl ?_
    refine mb_goto 18 dL_law_1373 (by decide) ?_
    exact mb_lv [1, 2, 3, 0] rfl (ih (i + 5) N C R (by omega) (by omega) hSim)
