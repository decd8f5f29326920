set_option maxRecDepth 100000 in
set_option maxHeartbeats 4000000 in
theorem lc_feed {p : Program} {l : Launch} {e : Env} {s : State} {m : MethodId} {below : List Frame} {meth : Method} {c : Code} {G : mm_G} {b L : Nat} {xs : Nat → Int32} {aC aR : Nat → Nat} {S : mm_M → mm_M → Prop} (hA0 : sm_All S) (hX : va_X b L xs s s.heap) (hbl : b < s.heap.size) (hbA : ¬ mm_A G b) {n i : Nat} (hi : i + 5 ≤ L) (hL : L ≤ 320) (hn : L - i < n + 1) (ih : ∀ (i : Nat) (N : Nat → Int64) (C R : mm_M), i ≤ L → L - i < n → S C R → mb_T (p, l, e, s, m, #[Value.ref b], below, meth, c) G (cL_law, 4, RL, ret, 300) room_1 (lw_Z below #[Value.ref b] s) (mm_w aC (mb_shC (mm_gd G aC)) C ++ mm_w aR (mb_shM N (mm_gd G aR)) R) 600000 7302250 18 [(0, .ref b), (1, .ref (aC 0)), (2, .ref (aR 0)), (3, .int (nI i))] []) {N : Nat → Int64} {C R : mm_M} (hSim : S C R) {op : Int32} (hop : op = 0) (hi1 : vp_in (nI i + 1) L) (hi2 : vp_in (nI i + 2) L) (hi3 : vp_in (nI i + 3) L) (hi4 : vp_in (nI i + 4) L) : mb_T (p, l, e, s, m, #[Value.ref b], below, meth, c) G (cL_law, 4, RL, ret, 300) room_1 (lw_Z below #[Value.ref b] s) (mm_w aC (mb_shC (mm_gd G aC)) C ++ mm_w aR (mb_shM N (mm_gd G aR)) R) 600000 7302250 32 [(0, .ref b), (1, .ref (aC 0)), (2, .ref (aR 0)), (3, .int (nI i))] [.int op] := by
  refine mb_tabIn 208 0 hop dL_law_32 (by decide) (by decide) rfl (by decide) ?_
  have hsim := hA0.1 C R hSim (xs (nI i + 1).toNatClampNeg)
  obtain ⟨r, C', R', e1, e2, hSim'⟩ := hsim
  refine mb_swap ?_
  refine mb_aload_n 209 rfl dL_law_208 rfl 1 rfl ?_
  refine mb_aload_n 210 rfl dL_law_209 rfl 0 rfl ?_
  refine mb_iload_n 211 rfl dL_law_210 rfl 3 rfl ?_
  refine mb_iconst 212 rfl (v := 1) dL_law_211 (by decide) ?_
  refine mb_iadd 213 rfl dL_law_212 ?_
  refine mb_sld 214 rfl dL_law_213 hX hbl hbA hi1 ?_
  refine lj_call (n := 1) (o := 0) (as := [.int (xs (nI i + 1).toNatClampNeg)]) (ad := aC) (M := C) (sh := (mb_shC (mm_gd G aC))) (g := mm_mli (mm_gd G aC) 0) (W0 := (mm_w aR (mb_shM N (mm_gd G aR)) R)) 217 rfl dL_law_214 rfl rfl rfl (ct_X7_feed (xs (nI i + 1).toNatClampNeg) (lj_isMli (mm_gd G aC) _)) e1 ⟨(Nat.le_of_ble_eq_true rfl), (Nat.le_of_ble_eq_true rfl)⟩ ⟨(Nat.le_of_ble_eq_true rfl), (Nat.le_of_ble_eq_true rfl)⟩ rfl (by decide +kernel) mw_2_5 mw_2_6 mw_2_7 mw_1_1 mw_2_8 rfl rfl (Nat.le_of_ble_eq_true rfl) rfl ?_
  show mb_T (p, l, e, s, m, #[Value.ref b], below, meth, c) G (cL_law, 4, RL, ret, 300) room_1 (lw_Z below #[Value.ref b] s) (mm_w aR (mb_shM N (mm_gd G aR)) R ++ mm_w aC (mb_shC (mm_gd G aC)) C') 600000 7302250 217 [(0, .ref b), (1, .ref (aC 0)), (2, .ref (aR 0)), (3, .int (nI i))] [.int r]
  refine mb_swap ?_
  refine mb_aload_n 218 rfl dL_law_217 rfl 2 rfl ?_
  refine mb_aload_n 219 rfl dL_law_218 rfl 0 rfl ?_
  refine mb_iload_n 220 rfl dL_law_219 rfl 3 rfl ?_
  refine mb_iconst 221 rfl (v := 1) dL_law_220 (by decide) ?_
  refine mb_iadd 222 rfl dL_law_221 ?_
  refine mb_sld 223 rfl dL_law_222 hX hbl hbA hi1 ?_
  refine lj_call (n := 1) (o := 0) (as := [.int (xs (nI i + 1).toNatClampNeg)]) (ad := aR) (M := R) (sh := (mb_shM N (mm_gd G aR))) (g := mm_mod N (mm_gd G aR) 0) (W0 := (mm_w aC (mb_shC (mm_gd G aC)) C')) 226 rfl dL_law_223 rfl rfl rfl (ct_X8_feed (xs (nI i + 1).toNatClampNeg) (lj_isMod N (mm_gd G aR) _)) e2 ⟨(Nat.le_of_ble_eq_true rfl), (Nat.le_of_ble_eq_true rfl)⟩ ⟨(Nat.le_of_ble_eq_true rfl), (Nat.le_of_ble_eq_true rfl)⟩ rfl (by decide +kernel) mw_4_162 mw_4_163 mw_4_164 mw_1_11 mw_4_165 rfl rfl (Nat.le_of_ble_eq_true rfl) rfl ?_
  show mb_T (p, l, e, s, m, #[Value.ref b], below, meth, c) G (cL_law, 4, RL, ret, 300) room_1 (lw_Z below #[Value.ref b] s) (mm_w aC (mb_shC (mm_gd G aC)) C' ++ mm_w aR (mb_shM N (mm_gd G aR)) R') 600000 7302250 226 [(0, .ref b), (1, .ref (aC 0)), (2, .ref (aR 0)), (3, .int (nI i))] [.int r, .int r]
  refine mb_icmp_eqY 1370 dL_law_226 (by decide) rfl ?_
  refine mb_iinc 1373 rfl dL_law_1370 3 rfl (v := nI (i + 5)) (nI_add i 5) (lv' := [(3, .int (nI (i + 5))), (0, .ref b), (1, .ref (aC 0)), (2, .ref (aR 0))]) (by decide) rfl ?_
  refine mb_goto 18 dL_law_1373 (by decide) ?_
  exact mb_lv [1, 2, 3, 0] rfl (ih (i + 5) N C' R' (by omega) (by omega) hSim')

set_option maxRecDepth 100000 in
set_option maxHeartbeats 4000000 in
theorem lc_end {p : Program} {l : Launch} {e : Env} {s : State} {m : MethodId} {below : List Frame} {meth : Method} {c : Code} {G : mm_G} {b L : Nat} {xs : Nat → Int32} {aC aR : Nat → Nat} {S : mm_M → mm_M → Prop} (hA0 : sm_All S) (hX : va_X b L xs s s.heap) (hbl : b < s.heap.size) (hbA : ¬ mm_A G b) {n i : Nat} (hi : i + 5 ≤ L) (hL : L ≤ 320) (hn : L - i < n + 1) (ih : ∀ (i : Nat) (N : Nat → Int64) (C R : mm_M), i ≤ L → L - i < n → S C R → mb_T (p, l, e, s, m, #[Value.ref b], below, meth, c) G (cL_law, 4, RL, ret, 300) room_1 (lw_Z below #[Value.ref b] s) (mm_w aC (mb_shC (mm_gd G aC)) C ++ mm_w aR (mb_shM N (mm_gd G aR)) R) 600000 7302250 18 [(0, .ref b), (1, .ref (aC 0)), (2, .ref (aR 0)), (3, .int (nI i))] []) {N : Nat → Int64} {C R : mm_M} (hSim : S C R) {op : Int32} (hop : op = 1) (hi1 : vp_in (nI i + 1) L) (hi2 : vp_in (nI i + 2) L) (hi3 : vp_in (nI i + 3) L) (hi4 : vp_in (nI i + 4) L) : mb_T (p, l, e, s, m, #[Value.ref b], below, meth, c) G (cL_law, 4, RL, ret, 300) room_1 (lw_Z below #[Value.ref b] s) (mm_w aC (mb_shC (mm_gd G aC)) C ++ mm_w aR (mb_shM N (mm_gd G aR)) R) 600000 7302250 32 [(0, .ref b), (1, .ref (aC 0)), (2, .ref (aR 0)), (3, .int (nI i))] [.int op] := by
  refine mb_tabIn 231 1 hop dL_law_32 (by decide) (by decide) rfl (by decide) ?_
  have hsim := hA0.2.1 C R hSim (xs (nI i + 1).toNatClampNeg)
  obtain ⟨r, C', R', e1, e2, hSim'⟩ := hsim
  refine mb_swap ?_
  refine mb_aload_n 232 rfl dL_law_231 rfl 1 rfl ?_
  refine mb_aload_n 233 rfl dL_law_232 rfl 0 rfl ?_
  refine mb_iload_n 234 rfl dL_law_233 rfl 3 rfl ?_
  refine mb_iconst 235 rfl (v := 1) dL_law_234 (by decide) ?_
  refine mb_iadd 236 rfl dL_law_235 ?_
  refine mb_sld 237 rfl dL_law_236 hX hbl hbA hi1 ?_
  refine lj_call (n := 1) (o := 0) (as := [.int (xs (nI i + 1).toNatClampNeg)]) (ad := aC) (M := C) (sh := (mb_shC (mm_gd G aC))) (g := mm_mli (mm_gd G aC) 0) (W0 := (mm_w aR (mb_shM N (mm_gd G aR)) R)) 240 rfl dL_law_237 rfl rfl rfl (ct_X7_end (xs (nI i + 1).toNatClampNeg) (lj_isMli (mm_gd G aC) _)) e1 ⟨(Nat.le_of_ble_eq_true rfl), (Nat.le_of_ble_eq_true rfl)⟩ ⟨(Nat.le_of_ble_eq_true rfl), (Nat.le_of_ble_eq_true rfl)⟩ rfl (by decide +kernel) mw_2_16 mw_2_17 mw_2_18 mw_1_1 mw_2_19 rfl rfl (Nat.le_of_ble_eq_true rfl) rfl ?_
  show mb_T (p, l, e, s, m, #[Value.ref b], below, meth, c) G (cL_law, 4, RL, ret, 300) room_1 (lw_Z below #[Value.ref b] s) (mm_w aR (mb_shM N (mm_gd G aR)) R ++ mm_w aC (mb_shC (mm_gd G aC)) C') 600000 7302250 240 [(0, .ref b), (1, .ref (aC 0)), (2, .ref (aR 0)), (3, .int (nI i))] [.int r]
  refine mb_swap ?_
  refine mb_aload_n 241 rfl dL_law_240 rfl 2 rfl ?_
  refine mb_aload_n 242 rfl dL_law_241 rfl 0 rfl ?_
  refine mb_iload_n 243 rfl dL_law_242 rfl 3 rfl ?_
  refine mb_iconst 244 rfl (v := 1) dL_law_243 (by decide) ?_
  refine mb_iadd 245 rfl dL_law_244 ?_
  refine mb_sld 246 rfl dL_law_245 hX hbl hbA hi1 ?_
  refine lj_call (n := 1) (o := 0) (as := [.int (xs (nI i + 1).toNatClampNeg)]) (ad := aR) (M := R) (sh := (mb_shM N (mm_gd G aR))) (g := mm_mod N (mm_gd G aR) 0) (W0 := (mm_w aC (mb_shC (mm_gd G aC)) C')) 249 rfl dL_law_246 rfl rfl rfl (ct_X8_end (xs (nI i + 1).toNatClampNeg) (lj_isMod N (mm_gd G aR) _)) e2 ⟨(Nat.le_of_ble_eq_true rfl), (Nat.le_of_ble_eq_true rfl)⟩ ⟨(Nat.le_of_ble_eq_true rfl), (Nat.le_of_ble_eq_true rfl)⟩ rfl (by decide +kernel) mw_4_170 mw_4_171 mw_4_172 mw_1_11 mw_4_173 rfl rfl (Nat.le_of_ble_eq_true rfl) rfl ?_
  show mb_T (p, l, e, s, m, #[Value.ref b], below, meth, c) G (cL_law, 4, RL, ret, 300) room_1 (lw_Z below #[Value.ref b] s) (mm_w aC (mb_shC (mm_gd G aC)) C' ++ mm_w aR (mb_shM N (mm_gd G aR)) R') 600000 7302250 249 [(0, .ref b), (1, .ref (aC 0)), (2, .ref (aR 0)), (3, .int (nI i))] [.int r, .int r]
  refine mb_icmp_eqY 1370 dL_law_249 (by decide) rfl ?_
  refine mb_iinc 1373 rfl dL_law_1370 3 rfl (v := nI (i + 5)) (nI_add i 5) (lv' := [(3, .int (nI (i + 5))), (0, .ref b), (1, .ref (aC 0)), (2, .ref (aR 0))]) (by decide) rfl ?_
  refine mb_goto 18 dL_law_1373 (by decide) ?_
  exact mb_lv [1, 2, 3, 0] rfl (ih (i + 5) N C' R' (by omega) (by omega) hSim')

set_option maxRecDepth 100000 in
set_option maxHeartbeats 4000000 in
theorem lc_text {p : Program} {l : Launch} {e : Env} {s : State} {m : MethodId} {below : List Frame} {meth : Method} {c : Code} {G : mm_G} {b L : Nat} {xs : Nat → Int32} {aC aR : Nat → Nat} {S : mm_M → mm_M → Prop} (hA0 : sm_All S) (hX : va_X b L xs s s.heap) (hbl : b < s.heap.size) (hbA : ¬ mm_A G b) {n i : Nat} (hi : i + 5 ≤ L) (hL : L ≤ 320) (hn : L - i < n + 1) (ih : ∀ (i : Nat) (N : Nat → Int64) (C R : mm_M), i ≤ L → L - i < n → S C R → mb_T (p, l, e, s, m, #[Value.ref b], below, meth, c) G (cL_law, 4, RL, ret, 300) room_1 (lw_Z below #[Value.ref b] s) (mm_w aC (mb_shC (mm_gd G aC)) C ++ mm_w aR (mb_shM N (mm_gd G aR)) R) 600000 7302250 18 [(0, .ref b), (1, .ref (aC 0)), (2, .ref (aR 0)), (3, .int (nI i))] []) {N : Nat → Int64} {C R : mm_M} (hSim : S C R) {op : Int32} (hop : op = 2) (hi1 : vp_in (nI i + 1) L) (hi2 : vp_in (nI i + 2) L) (hi3 : vp_in (nI i + 3) L) (hi4 : vp_in (nI i + 4) L) : mb_T (p, l, e, s, m, #[Value.ref b], below, meth, c) G (cL_law, 4, RL, ret, 300) room_1 (lw_Z below #[Value.ref b] s) (mm_w aC (mb_shC (mm_gd G aC)) C ++ mm_w aR (mb_shM N (mm_gd G aR)) R) 600000 7302250 32 [(0, .ref b), (1, .ref (aC 0)), (2, .ref (aR 0)), (3, .int (nI i))] [.int op] := by
  refine mb_tabIn 254 2 hop dL_law_32 (by decide) (by decide) rfl (by decide) ?_
  have hsim := hA0.2.2.1 C R hSim 
  obtain ⟨r, C', R', e1, e2, hSim'⟩ := hsim
  refine mb_swap ?_
  refine mb_aload_n 255 rfl dL_law_254 rfl 1 rfl ?_
  refine lj_call (n := 0) (o := 0) (as := []) (ad := aC) (M := C) (sh := (mb_shC (mm_gd G aC))) (g := mm_mli (mm_gd G aC) 0) (W0 := (mm_w aR (mb_shM N (mm_gd G aR)) R)) 258 rfl dL_law_255 rfl rfl rfl (ct_X7_text  (lj_isMli (mm_gd G aC) _)) e1 ⟨(Nat.le_of_ble_eq_true rfl), (Nat.le_of_ble_eq_true rfl)⟩ ⟨(Nat.le_of_ble_eq_true rfl), (Nat.le_of_ble_eq_true rfl)⟩ rfl (by decide +kernel) mw_2_20 mw_2_21 mw_2_22 mw_1_1 mw_2_23 rfl rfl (Nat.le_of_ble_eq_true rfl) rfl ?_
  show mb_T (p, l, e, s, m, #[Value.ref b], below, meth, c) G (cL_law, 4, RL, ret, 300) room_1 (lw_Z below #[Value.ref b] s) (mm_w aR (mb_shM N (mm_gd G aR)) R ++ mm_w aC (mb_shC (mm_gd G aC)) C') 600000 7302250 258 [(0, .ref b), (1, .ref (aC 0)), (2, .ref (aR 0)), (3, .int (nI i))] [.int r]
  refine mb_swap ?_
  refine mb_aload_n 259 rfl dL_law_258 rfl 2 rfl ?_
  refine lj_call (n := 0) (o := 0) (as := []) (ad := aR) (M := R) (sh := (mb_shM N (mm_gd G aR))) (g := mm_mod N (mm_gd G aR) 0) (W0 := (mm_w aC (mb_shC (mm_gd G aC)) C')) 262 rfl dL_law_259 rfl rfl rfl (ct_X8_text  (lj_isMod N (mm_gd G aR) _)) e2 ⟨(Nat.le_of_ble_eq_true rfl), (Nat.le_of_ble_eq_true rfl)⟩ ⟨(Nat.le_of_ble_eq_true rfl), (Nat.le_of_ble_eq_true rfl)⟩ rfl (by decide +kernel) mw_4_174 mw_4_175 mw_4_176 mw_1_11 mw_4_177 rfl rfl (Nat.le_of_ble_eq_true rfl) rfl ?_
  show mb_T (p, l, e, s, m, #[Value.ref b], below, meth, c) G (cL_law, 4, RL, ret, 300) room_1 (lw_Z below #[Value.ref b] s) (mm_w aC (mb_shC (mm_gd G aC)) C' ++ mm_w aR (mb_shM N (mm_gd G aR)) R') 600000 7302250 262 [(0, .ref b), (1, .ref (aC 0)), (2, .ref (aR 0)), (3, .int (nI i))] [.int r, .int r]
  refine mb_icmp_eqY 1370 dL_law_262 (by decide) rfl ?_
  refine mb_iinc 1373 rfl dL_law_1370 3 rfl (v := nI (i + 5)) (nI_add i 5) (lv' := [(3, .int (nI (i + 5))), (0, .ref b), (1, .ref (aC 0)), (2, .ref (aR 0))]) (by decide) rfl ?_
  refine mb_goto 18 dL_law_1373 (by decide) ?_
  exact mb_lv [1, 2, 3, 0] rfl (ih (i + 5) N C' R' (by omega) (by omega) hSim')

set_option maxRecDepth 100000 in
set_option maxHeartbeats 4000000 in
theorem lc_fault {p : Program} {l : Launch} {e : Env} {s : State} {m : MethodId} {below : List Frame} {meth : Method} {c : Code} {G : mm_G} {b L : Nat} {xs : Nat → Int32} {aC aR : Nat → Nat} {S : mm_M → mm_M → Prop} (hA0 : sm_All S) (hX : va_X b L xs s s.heap) (hbl : b < s.heap.size) (hbA : ¬ mm_A G b) {n i : Nat} (hi : i + 5 ≤ L) (hL : L ≤ 320) (hn : L - i < n + 1) (ih : ∀ (i : Nat) (N : Nat → Int64) (C R : mm_M), i ≤ L → L - i < n → S C R → mb_T (p, l, e, s, m, #[Value.ref b], below, meth, c) G (cL_law, 4, RL, ret, 300) room_1 (lw_Z below #[Value.ref b] s) (mm_w aC (mb_shC (mm_gd G aC)) C ++ mm_w aR (mb_shM N (mm_gd G aR)) R) 600000 7302250 18 [(0, .ref b), (1, .ref (aC 0)), (2, .ref (aR 0)), (3, .int (nI i))] []) {N : Nat → Int64} {C R : mm_M} (hSim : S C R) {op : Int32} (hop : op = 3) (hi1 : vp_in (nI i + 1) L) (hi2 : vp_in (nI i + 2) L) (hi3 : vp_in (nI i + 3) L) (hi4 : vp_in (nI i + 4) L) : mb_T (p, l, e, s, m, #[Value.ref b], below, meth, c) G (cL_law, 4, RL, ret, 300) room_1 (lw_Z below #[Value.ref b] s) (mm_w aC (mb_shC (mm_gd G aC)) C ++ mm_w aR (mb_shM N (mm_gd G aR)) R) 600000 7302250 32 [(0, .ref b), (1, .ref (aC 0)), (2, .ref (aR 0)), (3, .int (nI i))] [.int op] := by
  refine mb_tabIn 267 3 hop dL_law_32 (by decide) (by decide) rfl (by decide) ?_
  have hsim := hA0.2.2.2.1 C R hSim 
  obtain ⟨r, C', R', e1, e2, hSim'⟩ := hsim
  refine mb_swap ?_
  refine mb_aload_n 268 rfl dL_law_267 rfl 1 rfl ?_
  refine lj_call (n := 0) (o := 0) (as := []) (ad := aC) (M := C) (sh := (mb_shC (mm_gd G aC))) (g := mm_mli (mm_gd G aC) 0) (W0 := (mm_w aR (mb_shM N (mm_gd G aR)) R)) 271 rfl dL_law_268 rfl rfl rfl (ct_X7_fault  (lj_isMli (mm_gd G aC) _)) e1 ⟨(Nat.le_of_ble_eq_true rfl), (Nat.le_of_ble_eq_true rfl)⟩ ⟨(Nat.le_of_ble_eq_true rfl), (Nat.le_of_ble_eq_true rfl)⟩ rfl (by decide +kernel) mw_2_160 mw_2_161 mw_2_162 mw_1_1 mw_2_163 rfl rfl (Nat.le_of_ble_eq_true rfl) rfl ?_
  show mb_T (p, l, e, s, m, #[Value.ref b], below, meth, c) G (cL_law, 4, RL, ret, 300) room_1 (lw_Z below #[Value.ref b] s) (mm_w aR (mb_shM N (mm_gd G aR)) R ++ mm_w aC (mb_shC (mm_gd G aC)) C') 600000 7302250 271 [(0, .ref b), (1, .ref (aC 0)), (2, .ref (aR 0)), (3, .int (nI i))] [.int r]
  refine mb_swap ?_
  refine mb_aload_n 272 rfl dL_law_271 rfl 2 rfl ?_
  refine lj_call (n := 0) (o := 0) (as := []) (ad := aR) (M := R) (sh := (mb_shM N (mm_gd G aR))) (g := mm_mod N (mm_gd G aR) 0) (W0 := (mm_w aC (mb_shC (mm_gd G aC)) C')) 275 rfl dL_law_272 rfl rfl rfl (ct_X8_fault  (lj_isMod N (mm_gd G aR) _)) e2 ⟨(Nat.le_of_ble_eq_true rfl), (Nat.le_of_ble_eq_true rfl)⟩ ⟨(Nat.le_of_ble_eq_true rfl), (Nat.le_of_ble_eq_true rfl)⟩ rfl (by decide +kernel) mw_4_232 mw_4_233 mw_4_234 mw_1_11 mw_4_235 rfl rfl (Nat.le_of_ble_eq_true rfl) rfl ?_
  show mb_T (p, l, e, s, m, #[Value.ref b], below, meth, c) G (cL_law, 4, RL, ret, 300) room_1 (lw_Z below #[Value.ref b] s) (mm_w aC (mb_shC (mm_gd G aC)) C' ++ mm_w aR (mb_shM N (mm_gd G aR)) R') 600000 7302250 275 [(0, .ref b), (1, .ref (aC 0)), (2, .ref (aR 0)), (3, .int (nI i))] [.int r, .int r]
  refine mb_icmp_eqY 1370 dL_law_275 (by decide) rfl ?_
  refine mb_iinc 1373 rfl dL_law_1370 3 rfl (v := nI (i + 5)) (nI_add i 5) (lv' := [(3, .int (nI (i + 5))), (0, .ref b), (1, .ref (aC 0)), (2, .ref (aR 0))]) (by decide) rfl ?_
  refine mb_goto 18 dL_law_1373 (by decide) ?_
  exact mb_lv [1, 2, 3, 0] rfl (ih (i + 5) N C' R' (by omega) (by omega) hSim')

set_option maxRecDepth 100000 in
set_option maxHeartbeats 4000000 in
theorem lc_rule {p : Program} {l : Launch} {e : Env} {s : State} {m : MethodId} {below : List Frame} {meth : Method} {c : Code} {G : mm_G} {b L : Nat} {xs : Nat → Int32} {aC aR : Nat → Nat} {S : mm_M → mm_M → Prop} (hA0 : sm_All S) (hX : va_X b L xs s s.heap) (hbl : b < s.heap.size) (hbA : ¬ mm_A G b) {n i : Nat} (hi : i + 5 ≤ L) (hL : L ≤ 320) (hn : L - i < n + 1) (ih : ∀ (i : Nat) (N : Nat → Int64) (C R : mm_M), i ≤ L → L - i < n → S C R → mb_T (p, l, e, s, m, #[Value.ref b], below, meth, c) G (cL_law, 4, RL, ret, 300) room_1 (lw_Z below #[Value.ref b] s) (mm_w aC (mb_shC (mm_gd G aC)) C ++ mm_w aR (mb_shM N (mm_gd G aR)) R) 600000 7302250 18 [(0, .ref b), (1, .ref (aC 0)), (2, .ref (aR 0)), (3, .int (nI i))] []) {N : Nat → Int64} {C R : mm_M} (hSim : S C R) {op : Int32} (hop : op = 4) (hi1 : vp_in (nI i + 1) L) (hi2 : vp_in (nI i + 2) L) (hi3 : vp_in (nI i + 3) L) (hi4 : vp_in (nI i + 4) L) : mb_T (p, l, e, s, m, #[Value.ref b], below, meth, c) G (cL_law, 4, RL, ret, 300) room_1 (lw_Z below #[Value.ref b] s) (mm_w aC (mb_shC (mm_gd G aC)) C ++ mm_w aR (mb_shM N (mm_gd G aR)) R) 600000 7302250 32 [(0, .ref b), (1, .ref (aC 0)), (2, .ref (aR 0)), (3, .int (nI i))] [.int op] := by
  refine mb_tabIn 280 4 hop dL_law_32 (by decide) (by decide) rfl (by decide) ?_
  have hsim := hA0.2.2.2.2.1 C R hSim (xs (nI i + 1).toNatClampNeg)
  obtain ⟨r, C', R', e1, e2, hSim'⟩ := hsim
  refine mb_swap ?_
  refine mb_aload_n 281 rfl dL_law_280 rfl 1 rfl ?_
  refine mb_aload_n 282 rfl dL_law_281 rfl 0 rfl ?_
  refine mb_iload_n 283 rfl dL_law_282 rfl 3 rfl ?_
  refine mb_iconst 284 rfl (v := 1) dL_law_283 (by decide) ?_
  refine mb_iadd 285 rfl dL_law_284 ?_
  refine mb_sld 286 rfl dL_law_285 hX hbl hbA hi1 ?_
  refine lj_call (n := 1) (o := 0) (as := [.int (xs (nI i + 1).toNatClampNeg)]) (ad := aC) (M := C) (sh := (mb_shC (mm_gd G aC))) (g := mm_mli (mm_gd G aC) 0) (W0 := (mm_w aR (mb_shM N (mm_gd G aR)) R)) 289 rfl dL_law_286 rfl rfl rfl (ct_X7_rule (xs (nI i + 1).toNatClampNeg) (lj_isMli (mm_gd G aC) _)) e1 ⟨(Nat.le_of_ble_eq_true rfl), (Nat.le_of_ble_eq_true rfl)⟩ ⟨(Nat.le_of_ble_eq_true rfl), (Nat.le_of_ble_eq_true rfl)⟩ rfl (by decide +kernel) mw_2_164 mw_2_165 mw_2_166 mw_1_1 mw_2_167 rfl rfl (Nat.le_of_ble_eq_true rfl) rfl ?_
  show mb_T (p, l, e, s, m, #[Value.ref b], below, meth, c) G (cL_law, 4, RL, ret, 300) room_1 (lw_Z below #[Value.ref b] s) (mm_w aR (mb_shM N (mm_gd G aR)) R ++ mm_w aC (mb_shC (mm_gd G aC)) C') 600000 7302250 289 [(0, .ref b), (1, .ref (aC 0)), (2, .ref (aR 0)), (3, .int (nI i))] [.int r]
  refine mb_swap ?_
  refine mb_aload_n 290 rfl dL_law_289 rfl 2 rfl ?_
  refine mb_aload_n 291 rfl dL_law_290 rfl 0 rfl ?_
  refine mb_iload_n 292 rfl dL_law_291 rfl 3 rfl ?_
  refine mb_iconst 293 rfl (v := 1) dL_law_292 (by decide) ?_
  refine mb_iadd 294 rfl dL_law_293 ?_
  refine mb_sld 295 rfl dL_law_294 hX hbl hbA hi1 ?_
  refine lj_call (n := 1) (o := 0) (as := [.int (xs (nI i + 1).toNatClampNeg)]) (ad := aR) (M := R) (sh := (mb_shM N (mm_gd G aR))) (g := mm_mod N (mm_gd G aR) 0) (W0 := (mm_w aC (mb_shC (mm_gd G aC)) C')) 298 rfl dL_law_295 rfl rfl rfl (ct_X8_rule (xs (nI i + 1).toNatClampNeg) (lj_isMod N (mm_gd G aR) _)) e2 ⟨(Nat.le_of_ble_eq_true rfl), (Nat.le_of_ble_eq_true rfl)⟩ ⟨(Nat.le_of_ble_eq_true rfl), (Nat.le_of_ble_eq_true rfl)⟩ rfl (by decide +kernel) mw_4_236 mw_4_237 mw_4_238 mw_1_11 mw_4_239 rfl rfl (Nat.le_of_ble_eq_true rfl) rfl ?_
  show mb_T (p, l, e, s, m, #[Value.ref b], below, meth, c) G (cL_law, 4, RL, ret, 300) room_1 (lw_Z below #[Value.ref b] s) (mm_w aC (mb_shC (mm_gd G aC)) C' ++ mm_w aR (mb_shM N (mm_gd G aR)) R') 600000 7302250 298 [(0, .ref b), (1, .ref (aC 0)), (2, .ref (aR 0)), (3, .int (nI i))] [.int r, .int r]
  refine mb_icmp_eqY 1370 dL_law_298 (by decide) rfl ?_
  refine mb_iinc 1373 rfl dL_law_1370 3 rfl (v := nI (i + 5)) (nI_add i 5) (lv' := [(3, .int (nI (i + 5))), (0, .ref b), (1, .ref (aC 0)), (2, .ref (aR 0))]) (by decide) rfl ?_
  refine mb_goto 18 dL_law_1373 (by decide) ?_
  exact mb_lv [1, 2, 3, 0] rfl (ih (i + 5) N C' R' (by omega) (by omega) hSim')

set_option maxRecDepth 100000 in
set_option maxHeartbeats 4000000 in
theorem lc_told {p : Program} {l : Launch} {e : Env} {s : State} {m : MethodId} {below : List Frame} {meth : Method} {c : Code} {G : mm_G} {b L : Nat} {xs : Nat → Int32} {aC aR : Nat → Nat} {S : mm_M → mm_M → Prop} (hA0 : sm_All S) (hX : va_X b L xs s s.heap) (hbl : b < s.heap.size) (hbA : ¬ mm_A G b) {n i : Nat} (hi : i + 5 ≤ L) (hL : L ≤ 320) (hn : L - i < n + 1) (ih : ∀ (i : Nat) (N : Nat → Int64) (C R : mm_M), i ≤ L → L - i < n → S C R → mb_T (p, l, e, s, m, #[Value.ref b], below, meth, c) G (cL_law, 4, RL, ret, 300) room_1 (lw_Z below #[Value.ref b] s) (mm_w aC (mb_shC (mm_gd G aC)) C ++ mm_w aR (mb_shM N (mm_gd G aR)) R) 600000 7302250 18 [(0, .ref b), (1, .ref (aC 0)), (2, .ref (aR 0)), (3, .int (nI i))] []) {N : Nat → Int64} {C R : mm_M} (hSim : S C R) {op : Int32} (hop : op = 5) (hi1 : vp_in (nI i + 1) L) (hi2 : vp_in (nI i + 2) L) (hi3 : vp_in (nI i + 3) L) (hi4 : vp_in (nI i + 4) L) : mb_T (p, l, e, s, m, #[Value.ref b], below, meth, c) G (cL_law, 4, RL, ret, 300) room_1 (lw_Z below #[Value.ref b] s) (mm_w aC (mb_shC (mm_gd G aC)) C ++ mm_w aR (mb_shM N (mm_gd G aR)) R) 600000 7302250 32 [(0, .ref b), (1, .ref (aC 0)), (2, .ref (aR 0)), (3, .int (nI i))] [.int op] := by
  refine mb_tabIn 303 5 hop dL_law_32 (by decide) (by decide) rfl (by decide) ?_
  have hsim := hA0.2.2.2.2.2.1 C R hSim (xs (nI i + 1).toNatClampNeg)
  obtain ⟨r, C', R', e1, e2, hSim'⟩ := hsim
  refine mb_swap ?_
  refine mb_aload_n 304 rfl dL_law_303 rfl 1 rfl ?_
  refine mb_aload_n 305 rfl dL_law_304 rfl 0 rfl ?_
  refine mb_iload_n 306 rfl dL_law_305 rfl 3 rfl ?_
  refine mb_iconst 307 rfl (v := 1) dL_law_306 (by decide) ?_
  refine mb_iadd 308 rfl dL_law_307 ?_
  refine mb_sld 309 rfl dL_law_308 hX hbl hbA hi1 ?_
  refine lj_call (n := 1) (o := 0) (as := [.int (xs (nI i + 1).toNatClampNeg)]) (ad := aC) (M := C) (sh := (mb_shC (mm_gd G aC))) (g := mm_mli (mm_gd G aC) 0) (W0 := (mm_w aR (mb_shM N (mm_gd G aR)) R)) 312 rfl dL_law_309 rfl rfl rfl (ct_X7_told (xs (nI i + 1).toNatClampNeg) (lj_isMli (mm_gd G aC) _)) e1 ⟨(Nat.le_of_ble_eq_true rfl), (Nat.le_of_ble_eq_true rfl)⟩ ⟨(Nat.le_of_ble_eq_true rfl), (Nat.le_of_ble_eq_true rfl)⟩ rfl (by decide +kernel) mw_2_183 mw_2_184 mw_2_185 mw_1_1 mw_2_186 rfl rfl (Nat.le_of_ble_eq_true rfl) rfl ?_
  show mb_T (p, l, e, s, m, #[Value.ref b], below, meth, c) G (cL_law, 4, RL, ret, 300) room_1 (lw_Z below #[Value.ref b] s) (mm_w aR (mb_shM N (mm_gd G aR)) R ++ mm_w aC (mb_shC (mm_gd G aC)) C') 600000 7302250 312 [(0, .ref b), (1, .ref (aC 0)), (2, .ref (aR 0)), (3, .int (nI i))] [.int r]
  refine mb_swap ?_
  refine mb_aload_n 313 rfl dL_law_312 rfl 2 rfl ?_
  refine mb_aload_n 314 rfl dL_law_313 rfl 0 rfl ?_
  refine mb_iload_n 315 rfl dL_law_314 rfl 3 rfl ?_
  refine mb_iconst 316 rfl (v := 1) dL_law_315 (by decide) ?_
  refine mb_iadd 317 rfl dL_law_316 ?_
  refine mb_sld 318 rfl dL_law_317 hX hbl hbA hi1 ?_
  refine lj_call (n := 1) (o := 0) (as := [.int (xs (nI i + 1).toNatClampNeg)]) (ad := aR) (M := R) (sh := (mb_shM N (mm_gd G aR))) (g := mm_mod N (mm_gd G aR) 0) (W0 := (mm_w aC (mb_shC (mm_gd G aC)) C')) 321 rfl dL_law_318 rfl rfl rfl (ct_X8_told (xs (nI i + 1).toNatClampNeg) (lj_isMod N (mm_gd G aR) _)) e2 ⟨(Nat.le_of_ble_eq_true rfl), (Nat.le_of_ble_eq_true rfl)⟩ ⟨(Nat.le_of_ble_eq_true rfl), (Nat.le_of_ble_eq_true rfl)⟩ rfl (by decide +kernel) mw_5_23 mw_5_24 mw_5_25 mw_1_11 mw_5_26 rfl rfl (Nat.le_of_ble_eq_true rfl) rfl ?_
  show mb_T (p, l, e, s, m, #[Value.ref b], below, meth, c) G (cL_law, 4, RL, ret, 300) room_1 (lw_Z below #[Value.ref b] s) (mm_w aC (mb_shC (mm_gd G aC)) C' ++ mm_w aR (mb_shM N (mm_gd G aR)) R') 600000 7302250 321 [(0, .ref b), (1, .ref (aC 0)), (2, .ref (aR 0)), (3, .int (nI i))] [.int r, .int r]
  refine mb_icmp_eqY 1370 dL_law_321 (by decide) rfl ?_
  refine mb_iinc 1373 rfl dL_law_1370 3 rfl (v := nI (i + 5)) (nI_add i 5) (lv' := [(3, .int (nI (i + 5))), (0, .ref b), (1, .ref (aC 0)), (2, .ref (aR 0))]) (by decide) rfl ?_
  refine mb_goto 18 dL_law_1373 (by decide) ?_
  exact mb_lv [1, 2, 3, 0] rfl (ih (i + 5) N C' R' (by omega) (by omega) hSim')

set_option maxRecDepth 100000 in
set_option maxHeartbeats 4000000 in
theorem lc_one {p : Program} {l : Launch} {e : Env} {s : State} {m : MethodId} {below : List Frame} {meth : Method} {c : Code} {G : mm_G} {b L : Nat} {xs : Nat → Int32} {aC aR : Nat → Nat} {S : mm_M → mm_M → Prop} (hA0 : sm_All S) (hX : va_X b L xs s s.heap) (hbl : b < s.heap.size) (hbA : ¬ mm_A G b) {n i : Nat} (hi : i + 5 ≤ L) (hL : L ≤ 320) (hn : L - i < n + 1) (ih : ∀ (i : Nat) (N : Nat → Int64) (C R : mm_M), i ≤ L → L - i < n → S C R → mb_T (p, l, e, s, m, #[Value.ref b], below, meth, c) G (cL_law, 4, RL, ret, 300) room_1 (lw_Z below #[Value.ref b] s) (mm_w aC (mb_shC (mm_gd G aC)) C ++ mm_w aR (mb_shM N (mm_gd G aR)) R) 600000 7302250 18 [(0, .ref b), (1, .ref (aC 0)), (2, .ref (aR 0)), (3, .int (nI i))] []) {N : Nat → Int64} {C R : mm_M} (hSim : S C R) {op : Int32} (hop : op = 6) (hi1 : vp_in (nI i + 1) L) (hi2 : vp_in (nI i + 2) L) (hi3 : vp_in (nI i + 3) L) (hi4 : vp_in (nI i + 4) L) : mb_T (p, l, e, s, m, #[Value.ref b], below, meth, c) G (cL_law, 4, RL, ret, 300) room_1 (lw_Z below #[Value.ref b] s) (mm_w aC (mb_shC (mm_gd G aC)) C ++ mm_w aR (mb_shM N (mm_gd G aR)) R) 600000 7302250 32 [(0, .ref b), (1, .ref (aC 0)), (2, .ref (aR 0)), (3, .int (nI i))] [.int op] := by
  refine mb_tabIn 326 6 hop dL_law_32 (by decide) (by decide) rfl (by decide) ?_
  have hsim := hA0.2.2.2.2.2.2.1 C R hSim (xs (nI i + 1).toNatClampNeg) (xs (nI i + 2).toNatClampNeg)
  obtain ⟨r, C', R', e1, e2, hSim'⟩ := hsim
  refine mb_swap ?_
  refine mb_aload_n 327 rfl dL_law_326 rfl 1 rfl ?_
  refine mb_aload_n 328 rfl dL_law_327 rfl 0 rfl ?_
  refine mb_iload_n 329 rfl dL_law_328 rfl 3 rfl ?_
  refine mb_iconst 330 rfl (v := 1) dL_law_329 (by decide) ?_
  refine mb_iadd 331 rfl dL_law_330 ?_
  refine mb_sld 332 rfl dL_law_331 hX hbl hbA hi1 ?_
  refine mb_aload_n 333 rfl dL_law_332 rfl 0 rfl ?_
  refine mb_iload_n 334 rfl dL_law_333 rfl 3 rfl ?_
  refine mb_iconst 335 rfl (v := 2) dL_law_334 (by decide) ?_
  refine mb_iadd 336 rfl dL_law_335 ?_
  refine mb_sld 337 rfl dL_law_336 hX hbl hbA hi2 ?_
  refine lj_call (n := 2) (o := 0) (as := [.int (xs (nI i + 1).toNatClampNeg), .int (xs (nI i + 2).toNatClampNeg)]) (ad := aC) (M := C) (sh := (mb_shC (mm_gd G aC))) (g := mm_mli (mm_gd G aC) 0) (W0 := (mm_w aR (mb_shM N (mm_gd G aR)) R)) 340 rfl dL_law_337 rfl rfl rfl (ct_X7_one (xs (nI i + 1).toNatClampNeg) (xs (nI i + 2).toNatClampNeg) (lj_isMli (mm_gd G aC) _)) e1 ⟨(Nat.le_of_ble_eq_true rfl), (Nat.le_of_ble_eq_true rfl)⟩ ⟨(Nat.le_of_ble_eq_true rfl), (Nat.le_of_ble_eq_true rfl)⟩ rfl (by decide +kernel) mw_2_187 mw_2_188 mw_2_189 mw_1_1 mw_2_190 rfl rfl (Nat.le_of_ble_eq_true rfl) rfl ?_
  show mb_T (p, l, e, s, m, #[Value.ref b], below, meth, c) G (cL_law, 4, RL, ret, 300) room_1 (lw_Z below #[Value.ref b] s) (mm_w aR (mb_shM N (mm_gd G aR)) R ++ mm_w aC (mb_shC (mm_gd G aC)) C') 600000 7302250 340 [(0, .ref b), (1, .ref (aC 0)), (2, .ref (aR 0)), (3, .int (nI i))] [.int r]
  refine mb_swap ?_
  refine mb_aload_n 341 rfl dL_law_340 rfl 2 rfl ?_
  refine mb_aload_n 342 rfl dL_law_341 rfl 0 rfl ?_
  refine mb_iload_n 343 rfl dL_law_342 rfl 3 rfl ?_
  refine mb_iconst 344 rfl (v := 1) dL_law_343 (by decide) ?_
  refine mb_iadd 345 rfl dL_law_344 ?_
  refine mb_sld 346 rfl dL_law_345 hX hbl hbA hi1 ?_
  refine mb_aload_n 347 rfl dL_law_346 rfl 0 rfl ?_
  refine mb_iload_n 348 rfl dL_law_347 rfl 3 rfl ?_
  refine mb_iconst 349 rfl (v := 2) dL_law_348 (by decide) ?_
  refine mb_iadd 350 rfl dL_law_349 ?_
  refine mb_sld 351 rfl dL_law_350 hX hbl hbA hi2 ?_
  refine lj_call (n := 2) (o := 0) (as := [.int (xs (nI i + 1).toNatClampNeg), .int (xs (nI i + 2).toNatClampNeg)]) (ad := aR) (M := R) (sh := (mb_shM N (mm_gd G aR))) (g := mm_mod N (mm_gd G aR) 0) (W0 := (mm_w aC (mb_shC (mm_gd G aC)) C')) 354 rfl dL_law_351 rfl rfl rfl (ct_X8_one (xs (nI i + 1).toNatClampNeg) (xs (nI i + 2).toNatClampNeg) (lj_isMod N (mm_gd G aR) _)) e2 ⟨(Nat.le_of_ble_eq_true rfl), (Nat.le_of_ble_eq_true rfl)⟩ ⟨(Nat.le_of_ble_eq_true rfl), (Nat.le_of_ble_eq_true rfl)⟩ rfl (by decide +kernel) mw_5_28 mw_5_29 mw_5_30 mw_1_11 mw_5_31 rfl rfl (Nat.le_of_ble_eq_true rfl) rfl ?_
  show mb_T (p, l, e, s, m, #[Value.ref b], below, meth, c) G (cL_law, 4, RL, ret, 300) room_1 (lw_Z below #[Value.ref b] s) (mm_w aC (mb_shC (mm_gd G aC)) C' ++ mm_w aR (mb_shM N (mm_gd G aR)) R') 600000 7302250 354 [(0, .ref b), (1, .ref (aC 0)), (2, .ref (aR 0)), (3, .int (nI i))] [.int r, .int r]
  refine mb_icmp_eqY 1370 dL_law_354 (by decide) rfl ?_
  refine mb_iinc 1373 rfl dL_law_1370 3 rfl (v := nI (i + 5)) (nI_add i 5) (lv' := [(3, .int (nI (i + 5))), (0, .ref b), (1, .ref (aC 0)), (2, .ref (aR 0))]) (by decide) rfl ?_
  refine mb_goto 18 dL_law_1373 (by decide) ?_
  exact mb_lv [1, 2, 3, 0] rfl (ih (i + 5) N C' R' (by omega) (by omega) hSim')

set_option maxRecDepth 100000 in
set_option maxHeartbeats 4000000 in
theorem lc_sun {p : Program} {l : Launch} {e : Env} {s : State} {m : MethodId} {below : List Frame} {meth : Method} {c : Code} {G : mm_G} {b L : Nat} {xs : Nat → Int32} {aC aR : Nat → Nat} {S : mm_M → mm_M → Prop} (hA0 : sm_All S) (hX : va_X b L xs s s.heap) (hbl : b < s.heap.size) (hbA : ¬ mm_A G b) {n i : Nat} (hi : i + 5 ≤ L) (hL : L ≤ 320) (hn : L - i < n + 1) (ih : ∀ (i : Nat) (N : Nat → Int64) (C R : mm_M), i ≤ L → L - i < n → S C R → mb_T (p, l, e, s, m, #[Value.ref b], below, meth, c) G (cL_law, 4, RL, ret, 300) room_1 (lw_Z below #[Value.ref b] s) (mm_w aC (mb_shC (mm_gd G aC)) C ++ mm_w aR (mb_shM N (mm_gd G aR)) R) 600000 7302250 18 [(0, .ref b), (1, .ref (aC 0)), (2, .ref (aR 0)), (3, .int (nI i))] []) {N : Nat → Int64} {C R : mm_M} (hSim : S C R) {op : Int32} (hop : op = 7) (hi1 : vp_in (nI i + 1) L) (hi2 : vp_in (nI i + 2) L) (hi3 : vp_in (nI i + 3) L) (hi4 : vp_in (nI i + 4) L) : mb_T (p, l, e, s, m, #[Value.ref b], below, meth, c) G (cL_law, 4, RL, ret, 300) room_1 (lw_Z below #[Value.ref b] s) (mm_w aC (mb_shC (mm_gd G aC)) C ++ mm_w aR (mb_shM N (mm_gd G aR)) R) 600000 7302250 32 [(0, .ref b), (1, .ref (aC 0)), (2, .ref (aR 0)), (3, .int (nI i))] [.int op] := by
  refine mb_tabIn 359 7 hop dL_law_32 (by decide) (by decide) rfl (by decide) ?_
  have hsim := hA0.2.2.2.2.2.2.2.1 C R hSim (xs (nI i + 1).toNatClampNeg)
  obtain ⟨r, C', R', e1, e2, hSim'⟩ := hsim
  refine mb_swap ?_
  refine mb_aload_n 360 rfl dL_law_359 rfl 1 rfl ?_
  refine mb_aload_n 361 rfl dL_law_360 rfl 0 rfl ?_
  refine mb_iload_n 362 rfl dL_law_361 rfl 3 rfl ?_
  refine mb_iconst 363 rfl (v := 1) dL_law_362 (by decide) ?_
  refine mb_iadd 364 rfl dL_law_363 ?_
  refine mb_sld 365 rfl dL_law_364 hX hbl hbA hi1 ?_
  refine lj_call (n := 1) (o := 0) (as := [.int (xs (nI i + 1).toNatClampNeg)]) (ad := aC) (M := C) (sh := (mb_shC (mm_gd G aC))) (g := mm_mli (mm_gd G aC) 0) (W0 := (mm_w aR (mb_shM N (mm_gd G aR)) R)) 368 rfl dL_law_365 rfl rfl rfl (ct_X7_sun (xs (nI i + 1).toNatClampNeg) (lj_isMli (mm_gd G aC) _)) e1 ⟨(Nat.le_of_ble_eq_true rfl), (Nat.le_of_ble_eq_true rfl)⟩ ⟨(Nat.le_of_ble_eq_true rfl), (Nat.le_of_ble_eq_true rfl)⟩ rfl (by decide +kernel) mw_2_203 mw_2_204 mw_2_205 mw_1_1 mw_2_206 rfl rfl (Nat.le_of_ble_eq_true rfl) rfl ?_
  show mb_T (p, l, e, s, m, #[Value.ref b], below, meth, c) G (cL_law, 4, RL, ret, 300) room_1 (lw_Z below #[Value.ref b] s) (mm_w aR (mb_shM N (mm_gd G aR)) R ++ mm_w aC (mb_shC (mm_gd G aC)) C') 600000 7302250 368 [(0, .ref b), (1, .ref (aC 0)), (2, .ref (aR 0)), (3, .int (nI i))] [.int r]
  refine mb_swap ?_
  refine mb_aload_n 369 rfl dL_law_368 rfl 2 rfl ?_
  refine mb_aload_n 370 rfl dL_law_369 rfl 0 rfl ?_
  refine mb_iload_n 371 rfl dL_law_370 rfl 3 rfl ?_
  refine mb_iconst 372 rfl (v := 1) dL_law_371 (by decide) ?_
  refine mb_iadd 373 rfl dL_law_372 ?_
  refine mb_sld 374 rfl dL_law_373 hX hbl hbA hi1 ?_
  refine lj_call (n := 1) (o := 0) (as := [.int (xs (nI i + 1).toNatClampNeg)]) (ad := aR) (M := R) (sh := (mb_shM N (mm_gd G aR))) (g := mm_mod N (mm_gd G aR) 0) (W0 := (mm_w aC (mb_shC (mm_gd G aC)) C')) 377 rfl dL_law_374 rfl rfl rfl (ct_X8_sun (xs (nI i + 1).toNatClampNeg) (lj_isMod N (mm_gd G aR) _)) e2 ⟨(Nat.le_of_ble_eq_true rfl), (Nat.le_of_ble_eq_true rfl)⟩ ⟨(Nat.le_of_ble_eq_true rfl), (Nat.le_of_ble_eq_true rfl)⟩ rfl (by decide +kernel) mw_5_47 mw_5_48 mw_5_49 mw_1_11 mw_5_50 rfl rfl (Nat.le_of_ble_eq_true rfl) rfl ?_
  show mb_T (p, l, e, s, m, #[Value.ref b], below, meth, c) G (cL_law, 4, RL, ret, 300) room_1 (lw_Z below #[Value.ref b] s) (mm_w aC (mb_shC (mm_gd G aC)) C' ++ mm_w aR (mb_shM N (mm_gd G aR)) R') 600000 7302250 377 [(0, .ref b), (1, .ref (aC 0)), (2, .ref (aR 0)), (3, .int (nI i))] [.int r, .int r]
  refine mb_icmp_eqY 1370 dL_law_377 (by decide) rfl ?_
  refine mb_iinc 1373 rfl dL_law_1370 3 rfl (v := nI (i + 5)) (nI_add i 5) (lv' := [(3, .int (nI (i + 5))), (0, .ref b), (1, .ref (aC 0)), (2, .ref (aR 0))]) (by decide) rfl ?_
  refine mb_goto 18 dL_law_1373 (by decide) ?_
  exact mb_lv [1, 2, 3, 0] rfl (ih (i + 5) N C' R' (by omega) (by omega) hSim')

set_option maxRecDepth 100000 in
set_option maxHeartbeats 4000000 in
theorem lc_alter {p : Program} {l : Launch} {e : Env} {s : State} {m : MethodId} {below : List Frame} {meth : Method} {c : Code} {G : mm_G} {b L : Nat} {xs : Nat → Int32} {aC aR : Nat → Nat} {S : mm_M → mm_M → Prop} (hA0 : sm_All S) (hX : va_X b L xs s s.heap) (hbl : b < s.heap.size) (hbA : ¬ mm_A G b) {n i : Nat} (hi : i + 5 ≤ L) (hL : L ≤ 320) (hn : L - i < n + 1) (ih : ∀ (i : Nat) (N : Nat → Int64) (C R : mm_M), i ≤ L → L - i < n → S C R → mb_T (p, l, e, s, m, #[Value.ref b], below, meth, c) G (cL_law, 4, RL, ret, 300) room_1 (lw_Z below #[Value.ref b] s) (mm_w aC (mb_shC (mm_gd G aC)) C ++ mm_w aR (mb_shM N (mm_gd G aR)) R) 600000 7302250 18 [(0, .ref b), (1, .ref (aC 0)), (2, .ref (aR 0)), (3, .int (nI i))] []) {N : Nat → Int64} {C R : mm_M} (hSim : S C R) {op : Int32} (hop : op = 8) (hi1 : vp_in (nI i + 1) L) (hi2 : vp_in (nI i + 2) L) (hi3 : vp_in (nI i + 3) L) (hi4 : vp_in (nI i + 4) L) : mb_T (p, l, e, s, m, #[Value.ref b], below, meth, c) G (cL_law, 4, RL, ret, 300) room_1 (lw_Z below #[Value.ref b] s) (mm_w aC (mb_shC (mm_gd G aC)) C ++ mm_w aR (mb_shM N (mm_gd G aR)) R) 600000 7302250 32 [(0, .ref b), (1, .ref (aC 0)), (2, .ref (aR 0)), (3, .int (nI i))] [.int op] := by
  refine mb_tabIn 382 8 hop dL_law_32 (by decide) (by decide) rfl (by decide) ?_
  have hsim := hA0.2.2.2.2.2.2.2.2.1 C R hSim (xs (nI i + 1).toNatClampNeg) (xs (nI i + 2).toNatClampNeg) (xs (nI i + 3).toNatClampNeg)
  obtain ⟨r, C', R', e1, e2, hSim'⟩ := hsim
  refine mb_swap ?_
  refine mb_aload_n 383 rfl dL_law_382 rfl 1 rfl ?_
  refine mb_aload_n 384 rfl dL_law_383 rfl 0 rfl ?_
  refine mb_iload_n 385 rfl dL_law_384 rfl 3 rfl ?_
  refine mb_iconst 386 rfl (v := 1) dL_law_385 (by decide) ?_
  refine mb_iadd 387 rfl dL_law_386 ?_
  refine mb_sld 388 rfl dL_law_387 hX hbl hbA hi1 ?_
  refine mb_aload_n 389 rfl dL_law_388 rfl 0 rfl ?_
  refine mb_iload_n 390 rfl dL_law_389 rfl 3 rfl ?_
  refine mb_iconst 391 rfl (v := 2) dL_law_390 (by decide) ?_
  refine mb_iadd 392 rfl dL_law_391 ?_
  refine mb_sld 393 rfl dL_law_392 hX hbl hbA hi2 ?_
  refine mb_aload_n 394 rfl dL_law_393 rfl 0 rfl ?_
  refine mb_iload_n 395 rfl dL_law_394 rfl 3 rfl ?_
  refine mb_iconst 396 rfl (v := 3) dL_law_395 (by decide) ?_
  refine mb_iadd 397 rfl dL_law_396 ?_
  refine mb_sld 398 rfl dL_law_397 hX hbl hbA hi3 ?_
  refine lj_call (n := 3) (o := 0) (as := [.int (xs (nI i + 1).toNatClampNeg), .int (xs (nI i + 2).toNatClampNeg), .int (xs (nI i + 3).toNatClampNeg)]) (ad := aC) (M := C) (sh := (mb_shC (mm_gd G aC))) (g := mm_mli (mm_gd G aC) 0) (W0 := (mm_w aR (mb_shM N (mm_gd G aR)) R)) 401 rfl dL_law_398 rfl rfl rfl (ct_X7_alter (xs (nI i + 1).toNatClampNeg) (xs (nI i + 2).toNatClampNeg) (xs (nI i + 3).toNatClampNeg) (lj_isMli (mm_gd G aC) _)) e1 ⟨(Nat.le_of_ble_eq_true rfl), (Nat.le_of_ble_eq_true rfl)⟩ ⟨(Nat.le_of_ble_eq_true rfl), (Nat.le_of_ble_eq_true rfl)⟩ rfl (by decide +kernel) mw_2_210 mw_2_211 mw_2_212 mw_1_1 mw_2_213 rfl rfl (Nat.le_of_ble_eq_true rfl) rfl ?_
  show mb_T (p, l, e, s, m, #[Value.ref b], below, meth, c) G (cL_law, 4, RL, ret, 300) room_1 (lw_Z below #[Value.ref b] s) (mm_w aR (mb_shM N (mm_gd G aR)) R ++ mm_w aC (mb_shC (mm_gd G aC)) C') 600000 7302250 401 [(0, .ref b), (1, .ref (aC 0)), (2, .ref (aR 0)), (3, .int (nI i))] [.int r]
  refine mb_swap ?_
  refine mb_aload_n 402 rfl dL_law_401 rfl 2 rfl ?_
  refine mb_aload_n 403 rfl dL_law_402 rfl 0 rfl ?_
  refine mb_iload_n 404 rfl dL_law_403 rfl 3 rfl ?_
  refine mb_iconst 405 rfl (v := 1) dL_law_404 (by decide) ?_
  refine mb_iadd 406 rfl dL_law_405 ?_
  refine mb_sld 407 rfl dL_law_406 hX hbl hbA hi1 ?_
  refine mb_aload_n 408 rfl dL_law_407 rfl 0 rfl ?_
  refine mb_iload_n 409 rfl dL_law_408 rfl 3 rfl ?_
  refine mb_iconst 410 rfl (v := 2) dL_law_409 (by decide) ?_
  refine mb_iadd 411 rfl dL_law_410 ?_
  refine mb_sld 412 rfl dL_law_411 hX hbl hbA hi2 ?_
  refine mb_aload_n 413 rfl dL_law_412 rfl 0 rfl ?_
  refine mb_iload_n 414 rfl dL_law_413 rfl 3 rfl ?_
  refine mb_iconst 415 rfl (v := 3) dL_law_414 (by decide) ?_
  refine mb_iadd 416 rfl dL_law_415 ?_
  refine mb_sld 417 rfl dL_law_416 hX hbl hbA hi3 ?_
  refine lj_call (n := 3) (o := 0) (as := [.int (xs (nI i + 1).toNatClampNeg), .int (xs (nI i + 2).toNatClampNeg), .int (xs (nI i + 3).toNatClampNeg)]) (ad := aR) (M := R) (sh := (mb_shM N (mm_gd G aR))) (g := mm_mod N (mm_gd G aR) 0) (W0 := (mm_w aC (mb_shC (mm_gd G aC)) C')) 420 rfl dL_law_417 rfl rfl rfl (ct_X8_alter (xs (nI i + 1).toNatClampNeg) (xs (nI i + 2).toNatClampNeg) (xs (nI i + 3).toNatClampNeg) (lj_isMod N (mm_gd G aR) _)) e2 ⟨(Nat.le_of_ble_eq_true rfl), (Nat.le_of_ble_eq_true rfl)⟩ ⟨(Nat.le_of_ble_eq_true rfl), (Nat.le_of_ble_eq_true rfl)⟩ rfl (by decide +kernel) mw_5_52 mw_5_53 mw_5_54 mw_1_11 mw_5_55 rfl rfl (Nat.le_of_ble_eq_true rfl) rfl ?_
  show mb_T (p, l, e, s, m, #[Value.ref b], below, meth, c) G (cL_law, 4, RL, ret, 300) room_1 (lw_Z below #[Value.ref b] s) (mm_w aC (mb_shC (mm_gd G aC)) C' ++ mm_w aR (mb_shM N (mm_gd G aR)) R') 600000 7302250 420 [(0, .ref b), (1, .ref (aC 0)), (2, .ref (aR 0)), (3, .int (nI i))] [.int r, .int r]
  refine mb_icmp_eqY 1370 dL_law_420 (by decide) rfl ?_
  refine mb_iinc 1373 rfl dL_law_1370 3 rfl (v := nI (i + 5)) (nI_add i 5) (lv' := [(3, .int (nI (i + 5))), (0, .ref b), (1, .ref (aC 0)), (2, .ref (aR 0))]) (by decide) rfl ?_
  refine mb_goto 18 dL_law_1373 (by decide) ?_
  exact mb_lv [1, 2, 3, 0] rfl (ih (i + 5) N C' R' (by omega) (by omega) hSim')

set_option maxRecDepth 100000 in
set_option maxHeartbeats 4000000 in
theorem lc_set {p : Program} {l : Launch} {e : Env} {s : State} {m : MethodId} {below : List Frame} {meth : Method} {c : Code} {G : mm_G} {b L : Nat} {xs : Nat → Int32} {aC aR : Nat → Nat} {S : mm_M → mm_M → Prop} (hA0 : sm_All S) (hX : va_X b L xs s s.heap) (hbl : b < s.heap.size) (hbA : ¬ mm_A G b) {n i : Nat} (hi : i + 5 ≤ L) (hL : L ≤ 320) (hn : L - i < n + 1) (ih : ∀ (i : Nat) (N : Nat → Int64) (C R : mm_M), i ≤ L → L - i < n → S C R → mb_T (p, l, e, s, m, #[Value.ref b], below, meth, c) G (cL_law, 4, RL, ret, 300) room_1 (lw_Z below #[Value.ref b] s) (mm_w aC (mb_shC (mm_gd G aC)) C ++ mm_w aR (mb_shM N (mm_gd G aR)) R) 600000 7302250 18 [(0, .ref b), (1, .ref (aC 0)), (2, .ref (aR 0)), (3, .int (nI i))] []) {N : Nat → Int64} {C R : mm_M} (hSim : S C R) {op : Int32} (hop : op = 9) (hi1 : vp_in (nI i + 1) L) (hi2 : vp_in (nI i + 2) L) (hi3 : vp_in (nI i + 3) L) (hi4 : vp_in (nI i + 4) L) : mb_T (p, l, e, s, m, #[Value.ref b], below, meth, c) G (cL_law, 4, RL, ret, 300) room_1 (lw_Z below #[Value.ref b] s) (mm_w aC (mb_shC (mm_gd G aC)) C ++ mm_w aR (mb_shM N (mm_gd G aR)) R) 600000 7302250 32 [(0, .ref b), (1, .ref (aC 0)), (2, .ref (aR 0)), (3, .int (nI i))] [.int op] := by
  refine mb_tabIn 425 9 hop dL_law_32 (by decide) (by decide) rfl (by decide) ?_
  have hsim := hA0.2.2.2.2.2.2.2.2.2.1 C R hSim (xs (nI i + 1).toNatClampNeg) (xs (nI i + 2).toNatClampNeg)
  obtain ⟨r, C', R', e1, e2, hSim'⟩ := hsim
  refine mb_swap ?_
  refine mb_aload_n 426 rfl dL_law_425 rfl 1 rfl ?_
  refine mb_aload_n 427 rfl dL_law_426 rfl 0 rfl ?_
  refine mb_iload_n 428 rfl dL_law_427 rfl 3 rfl ?_
  refine mb_iconst 429 rfl (v := 1) dL_law_428 (by decide) ?_
  refine mb_iadd 430 rfl dL_law_429 ?_
  refine mb_sld 431 rfl dL_law_430 hX hbl hbA hi1 ?_
  refine mb_aload_n 432 rfl dL_law_431 rfl 0 rfl ?_
  refine mb_iload_n 433 rfl dL_law_432 rfl 3 rfl ?_
  refine mb_iconst 434 rfl (v := 2) dL_law_433 (by decide) ?_
  refine mb_iadd 435 rfl dL_law_434 ?_
  refine mb_sld 436 rfl dL_law_435 hX hbl hbA hi2 ?_
  refine lj_call (n := 2) (o := 0) (as := [.int (xs (nI i + 1).toNatClampNeg), .int (xs (nI i + 2).toNatClampNeg)]) (ad := aC) (M := C) (sh := (mb_shC (mm_gd G aC))) (g := mm_mli (mm_gd G aC) 0) (W0 := (mm_w aR (mb_shM N (mm_gd G aR)) R)) 439 rfl dL_law_436 rfl rfl rfl (ct_X7_set (xs (nI i + 1).toNatClampNeg) (xs (nI i + 2).toNatClampNeg) (lj_isMli (mm_gd G aC) _)) e1 ⟨(Nat.le_of_ble_eq_true rfl), (Nat.le_of_ble_eq_true rfl)⟩ ⟨(Nat.le_of_ble_eq_true rfl), (Nat.le_of_ble_eq_true rfl)⟩ rfl (by decide +kernel) mw_2_217 mw_2_218 mw_2_219 mw_1_1 mw_2_220 rfl rfl (Nat.le_of_ble_eq_true rfl) rfl ?_
  show mb_T (p, l, e, s, m, #[Value.ref b], below, meth, c) G (cL_law, 4, RL, ret, 300) room_1 (lw_Z below #[Value.ref b] s) (mm_w aR (mb_shM N (mm_gd G aR)) R ++ mm_w aC (mb_shC (mm_gd G aC)) C') 600000 7302250 439 [(0, .ref b), (1, .ref (aC 0)), (2, .ref (aR 0)), (3, .int (nI i))] [.int r]
  refine mb_swap ?_
  refine mb_aload_n 440 rfl dL_law_439 rfl 2 rfl ?_
  refine mb_aload_n 441 rfl dL_law_440 rfl 0 rfl ?_
  refine mb_iload_n 442 rfl dL_law_441 rfl 3 rfl ?_
  refine mb_iconst 443 rfl (v := 1) dL_law_442 (by decide) ?_
  refine mb_iadd 444 rfl dL_law_443 ?_
  refine mb_sld 445 rfl dL_law_444 hX hbl hbA hi1 ?_
  refine mb_aload_n 446 rfl dL_law_445 rfl 0 rfl ?_
  refine mb_iload_n 447 rfl dL_law_446 rfl 3 rfl ?_
  refine mb_iconst 448 rfl (v := 2) dL_law_447 (by decide) ?_
  refine mb_iadd 449 rfl dL_law_448 ?_
  refine mb_sld 450 rfl dL_law_449 hX hbl hbA hi2 ?_
  refine lj_call (n := 2) (o := 0) (as := [.int (xs (nI i + 1).toNatClampNeg), .int (xs (nI i + 2).toNatClampNeg)]) (ad := aR) (M := R) (sh := (mb_shM N (mm_gd G aR))) (g := mm_mod N (mm_gd G aR) 0) (W0 := (mm_w aC (mb_shC (mm_gd G aC)) C')) 453 rfl dL_law_450 rfl rfl rfl (ct_X8_set (xs (nI i + 1).toNatClampNeg) (xs (nI i + 2).toNatClampNeg) (lj_isMod N (mm_gd G aR) _)) e2 ⟨(Nat.le_of_ble_eq_true rfl), (Nat.le_of_ble_eq_true rfl)⟩ ⟨(Nat.le_of_ble_eq_true rfl), (Nat.le_of_ble_eq_true rfl)⟩ rfl (by decide +kernel) mw_5_63 mw_5_64 mw_5_65 mw_1_11 mw_5_66 rfl rfl (Nat.le_of_ble_eq_true rfl) rfl ?_
  show mb_T (p, l, e, s, m, #[Value.ref b], below, meth, c) G (cL_law, 4, RL, ret, 300) room_1 (lw_Z below #[Value.ref b] s) (mm_w aC (mb_shC (mm_gd G aC)) C' ++ mm_w aR (mb_shM N (mm_gd G aR)) R') 600000 7302250 453 [(0, .ref b), (1, .ref (aC 0)), (2, .ref (aR 0)), (3, .int (nI i))] [.int r, .int r]
  refine mb_icmp_eqY 1370 dL_law_453 (by decide) rfl ?_
  refine mb_iinc 1373 rfl dL_law_1370 3 rfl (v := nI (i + 5)) (nI_add i 5) (lv' := [(3, .int (nI (i + 5))), (0, .ref b), (1, .ref (aC 0)), (2, .ref (aR 0))]) (by decide) rfl ?_
  refine mb_goto 18 dL_law_1373 (by decide) ?_
  exact mb_lv [1, 2, 3, 0] rfl (ih (i + 5) N C' R' (by omega) (by omega) hSim')

set_option maxRecDepth 100000 in
set_option maxHeartbeats 4000000 in
theorem lc_shine {p : Program} {l : Launch} {e : Env} {s : State} {m : MethodId} {below : List Frame} {meth : Method} {c : Code} {G : mm_G} {b L : Nat} {xs : Nat → Int32} {aC aR : Nat → Nat} {S : mm_M → mm_M → Prop} (hA0 : sm_All S) (hX : va_X b L xs s s.heap) (hbl : b < s.heap.size) (hbA : ¬ mm_A G b) {n i : Nat} (hi : i + 5 ≤ L) (hL : L ≤ 320) (hn : L - i < n + 1) (ih : ∀ (i : Nat) (N : Nat → Int64) (C R : mm_M), i ≤ L → L - i < n → S C R → mb_T (p, l, e, s, m, #[Value.ref b], below, meth, c) G (cL_law, 4, RL, ret, 300) room_1 (lw_Z below #[Value.ref b] s) (mm_w aC (mb_shC (mm_gd G aC)) C ++ mm_w aR (mb_shM N (mm_gd G aR)) R) 600000 7302250 18 [(0, .ref b), (1, .ref (aC 0)), (2, .ref (aR 0)), (3, .int (nI i))] []) {N : Nat → Int64} {C R : mm_M} (hSim : S C R) {op : Int32} (hop : op = 10) (hi1 : vp_in (nI i + 1) L) (hi2 : vp_in (nI i + 2) L) (hi3 : vp_in (nI i + 3) L) (hi4 : vp_in (nI i + 4) L) : mb_T (p, l, e, s, m, #[Value.ref b], below, meth, c) G (cL_law, 4, RL, ret, 300) room_1 (lw_Z below #[Value.ref b] s) (mm_w aC (mb_shC (mm_gd G aC)) C ++ mm_w aR (mb_shM N (mm_gd G aR)) R) 600000 7302250 32 [(0, .ref b), (1, .ref (aC 0)), (2, .ref (aR 0)), (3, .int (nI i))] [.int op] := by
  refine mb_tabIn 458 10 hop dL_law_32 (by decide) (by decide) rfl (by decide) ?_
  have hsim := hA0.2.2.2.2.2.2.2.2.2.2.1 C R hSim (xs (nI i + 1).toNatClampNeg) (xs (nI i + 2).toNatClampNeg)
  obtain ⟨r, C', R', e1, e2, hSim'⟩ := hsim
  refine mb_swap ?_
  refine mb_aload_n 459 rfl dL_law_458 rfl 1 rfl ?_
  refine mb_aload_n 460 rfl dL_law_459 rfl 0 rfl ?_
  refine mb_iload_n 461 rfl dL_law_460 rfl 3 rfl ?_
  refine mb_iconst 462 rfl (v := 1) dL_law_461 (by decide) ?_
  refine mb_iadd 463 rfl dL_law_462 ?_
  refine mb_sld 464 rfl dL_law_463 hX hbl hbA hi1 ?_
  refine mb_aload_n 465 rfl dL_law_464 rfl 0 rfl ?_
  refine mb_iload_n 466 rfl dL_law_465 rfl 3 rfl ?_
  refine mb_iconst 467 rfl (v := 2) dL_law_466 (by decide) ?_
  refine mb_iadd 468 rfl dL_law_467 ?_
  refine mb_sld 469 rfl dL_law_468 hX hbl hbA hi2 ?_
  refine lj_call (n := 2) (o := 0) (as := [.int (xs (nI i + 1).toNatClampNeg), .int (xs (nI i + 2).toNatClampNeg)]) (ad := aC) (M := C) (sh := (mb_shC (mm_gd G aC))) (g := mm_mli (mm_gd G aC) 0) (W0 := (mm_w aR (mb_shM N (mm_gd G aR)) R)) 472 rfl dL_law_469 rfl rfl rfl (ct_X7_shine (xs (nI i + 1).toNatClampNeg) (xs (nI i + 2).toNatClampNeg) (lj_isMli (mm_gd G aC) _)) e1 ⟨(Nat.le_of_ble_eq_true rfl), (Nat.le_of_ble_eq_true rfl)⟩ ⟨(Nat.le_of_ble_eq_true rfl), (Nat.le_of_ble_eq_true rfl)⟩ rfl (by decide +kernel) mw_2_223 mw_2_224 mw_2_225 mw_1_1 mw_2_226 rfl rfl (Nat.le_of_ble_eq_true rfl) rfl ?_
  show mb_T (p, l, e, s, m, #[Value.ref b], below, meth, c) G (cL_law, 4, RL, ret, 300) room_1 (lw_Z below #[Value.ref b] s) (mm_w aR (mb_shM N (mm_gd G aR)) R ++ mm_w aC (mb_shC (mm_gd G aC)) C') 600000 7302250 472 [(0, .ref b), (1, .ref (aC 0)), (2, .ref (aR 0)), (3, .int (nI i))] [.int r]
  refine mb_swap ?_
  refine mb_aload_n 473 rfl dL_law_472 rfl 2 rfl ?_
  refine mb_aload_n 474 rfl dL_law_473 rfl 0 rfl ?_
  refine mb_iload_n 475 rfl dL_law_474 rfl 3 rfl ?_
  refine mb_iconst 476 rfl (v := 1) dL_law_475 (by decide) ?_
  refine mb_iadd 477 rfl dL_law_476 ?_
  refine mb_sld 478 rfl dL_law_477 hX hbl hbA hi1 ?_
  refine mb_aload_n 479 rfl dL_law_478 rfl 0 rfl ?_
  refine mb_iload_n 480 rfl dL_law_479 rfl 3 rfl ?_
  refine mb_iconst 481 rfl (v := 2) dL_law_480 (by decide) ?_
  refine mb_iadd 482 rfl dL_law_481 ?_
  refine mb_sld 483 rfl dL_law_482 hX hbl hbA hi2 ?_
  refine lj_call (n := 2) (o := 0) (as := [.int (xs (nI i + 1).toNatClampNeg), .int (xs (nI i + 2).toNatClampNeg)]) (ad := aR) (M := R) (sh := (mb_shM N (mm_gd G aR))) (g := mm_mod N (mm_gd G aR) 0) (W0 := (mm_w aC (mb_shC (mm_gd G aC)) C')) 486 rfl dL_law_483 rfl rfl rfl (ct_X8_shine (xs (nI i + 1).toNatClampNeg) (xs (nI i + 2).toNatClampNeg) (lj_isMod N (mm_gd G aR) _)) e2 ⟨(Nat.le_of_ble_eq_true rfl), (Nat.le_of_ble_eq_true rfl)⟩ ⟨(Nat.le_of_ble_eq_true rfl), (Nat.le_of_ble_eq_true rfl)⟩ rfl (by decide +kernel) mw_5_67 mw_5_68 mw_5_69 mw_1_11 mw_5_70 rfl rfl (Nat.le_of_ble_eq_true rfl) rfl ?_
  show mb_T (p, l, e, s, m, #[Value.ref b], below, meth, c) G (cL_law, 4, RL, ret, 300) room_1 (lw_Z below #[Value.ref b] s) (mm_w aC (mb_shC (mm_gd G aC)) C' ++ mm_w aR (mb_shM N (mm_gd G aR)) R') 600000 7302250 486 [(0, .ref b), (1, .ref (aC 0)), (2, .ref (aR 0)), (3, .int (nI i))] [.int r, .int r]
  refine mb_icmp_eqY 1370 dL_law_486 (by decide) rfl ?_
  refine mb_iinc 1373 rfl dL_law_1370 3 rfl (v := nI (i + 5)) (nI_add i 5) (lv' := [(3, .int (nI (i + 5))), (0, .ref b), (1, .ref (aC 0)), (2, .ref (aR 0))]) (by decide) rfl ?_
  refine mb_goto 18 dL_law_1373 (by decide) ?_
  exact mb_lv [1, 2, 3, 0] rfl (ih (i + 5) N C' R' (by omega) (by omega) hSim')

set_option maxRecDepth 100000 in
set_option maxHeartbeats 4000000 in
theorem lc_bring {p : Program} {l : Launch} {e : Env} {s : State} {m : MethodId} {below : List Frame} {meth : Method} {c : Code} {G : mm_G} {b L : Nat} {xs : Nat → Int32} {aC aR : Nat → Nat} {S : mm_M → mm_M → Prop} (hA0 : sm_All S) (hX : va_X b L xs s s.heap) (hbl : b < s.heap.size) (hbA : ¬ mm_A G b) {n i : Nat} (hi : i + 5 ≤ L) (hL : L ≤ 320) (hn : L - i < n + 1) (ih : ∀ (i : Nat) (N : Nat → Int64) (C R : mm_M), i ≤ L → L - i < n → S C R → mb_T (p, l, e, s, m, #[Value.ref b], below, meth, c) G (cL_law, 4, RL, ret, 300) room_1 (lw_Z below #[Value.ref b] s) (mm_w aC (mb_shC (mm_gd G aC)) C ++ mm_w aR (mb_shM N (mm_gd G aR)) R) 600000 7302250 18 [(0, .ref b), (1, .ref (aC 0)), (2, .ref (aR 0)), (3, .int (nI i))] []) {N : Nat → Int64} {C R : mm_M} (hSim : S C R) {op : Int32} (hop : op = 11) (hi1 : vp_in (nI i + 1) L) (hi2 : vp_in (nI i + 2) L) (hi3 : vp_in (nI i + 3) L) (hi4 : vp_in (nI i + 4) L) : mb_T (p, l, e, s, m, #[Value.ref b], below, meth, c) G (cL_law, 4, RL, ret, 300) room_1 (lw_Z below #[Value.ref b] s) (mm_w aC (mb_shC (mm_gd G aC)) C ++ mm_w aR (mb_shM N (mm_gd G aR)) R) 600000 7302250 32 [(0, .ref b), (1, .ref (aC 0)), (2, .ref (aR 0)), (3, .int (nI i))] [.int op] := by
  refine mb_tabIn 491 11 hop dL_law_32 (by decide) (by decide) rfl (by decide) ?_
  have hsim := hA0.2.2.2.2.2.2.2.2.2.2.2.1 C R hSim (xs (nI i + 1).toNatClampNeg) (xs (nI i + 2).toNatClampNeg)
  obtain ⟨r, C', R', e1, e2, hSim'⟩ := hsim
  refine mb_swap ?_
  refine mb_aload_n 492 rfl dL_law_491 rfl 1 rfl ?_
  refine mb_aload_n 493 rfl dL_law_492 rfl 0 rfl ?_
  refine mb_iload_n 494 rfl dL_law_493 rfl 3 rfl ?_
  refine mb_iconst 495 rfl (v := 1) dL_law_494 (by decide) ?_
  refine mb_iadd 496 rfl dL_law_495 ?_
  refine mb_sld 497 rfl dL_law_496 hX hbl hbA hi1 ?_
  refine mb_aload_n 498 rfl dL_law_497 rfl 0 rfl ?_
  refine mb_iload_n 499 rfl dL_law_498 rfl 3 rfl ?_
  refine mb_iconst 500 rfl (v := 2) dL_law_499 (by decide) ?_
  refine mb_iadd 501 rfl dL_law_500 ?_
  refine mb_sld 502 rfl dL_law_501 hX hbl hbA hi2 ?_
  refine lj_call (n := 2) (o := 0) (as := [.int (xs (nI i + 1).toNatClampNeg), .int (xs (nI i + 2).toNatClampNeg)]) (ad := aC) (M := C) (sh := (mb_shC (mm_gd G aC))) (g := mm_mli (mm_gd G aC) 0) (W0 := (mm_w aR (mb_shM N (mm_gd G aR)) R)) 505 rfl dL_law_502 rfl rfl rfl (ct_X7_bring (xs (nI i + 1).toNatClampNeg) (xs (nI i + 2).toNatClampNeg) (lj_isMli (mm_gd G aC) _)) e1 ⟨(Nat.le_of_ble_eq_true rfl), (Nat.le_of_ble_eq_true rfl)⟩ ⟨(Nat.le_of_ble_eq_true rfl), (Nat.le_of_ble_eq_true rfl)⟩ rfl (by decide +kernel) mw_2_227 mw_2_228 mw_2_229 mw_1_1 mw_2_230 rfl rfl (Nat.le_of_ble_eq_true rfl) rfl ?_
  show mb_T (p, l, e, s, m, #[Value.ref b], below, meth, c) G (cL_law, 4, RL, ret, 300) room_1 (lw_Z below #[Value.ref b] s) (mm_w aR (mb_shM N (mm_gd G aR)) R ++ mm_w aC (mb_shC (mm_gd G aC)) C') 600000 7302250 505 [(0, .ref b), (1, .ref (aC 0)), (2, .ref (aR 0)), (3, .int (nI i))] [.int r]
  refine mb_swap ?_
  refine mb_aload_n 506 rfl dL_law_505 rfl 2 rfl ?_
  refine mb_aload_n 507 rfl dL_law_506 rfl 0 rfl ?_
  refine mb_iload_n 508 rfl dL_law_507 rfl 3 rfl ?_
  refine mb_iconst 509 rfl (v := 1) dL_law_508 (by decide) ?_
  refine mb_iadd 510 rfl dL_law_509 ?_
  refine mb_sld 511 rfl dL_law_510 hX hbl hbA hi1 ?_
  refine mb_aload_n 512 rfl dL_law_511 rfl 0 rfl ?_
  refine mb_iload_n 513 rfl dL_law_512 rfl 3 rfl ?_
  refine mb_iconst 514 rfl (v := 2) dL_law_513 (by decide) ?_
  refine mb_iadd 515 rfl dL_law_514 ?_
  refine mb_sld 516 rfl dL_law_515 hX hbl hbA hi2 ?_
  refine lj_call (n := 2) (o := 0) (as := [.int (xs (nI i + 1).toNatClampNeg), .int (xs (nI i + 2).toNatClampNeg)]) (ad := aR) (M := R) (sh := (mb_shM N (mm_gd G aR))) (g := mm_mod N (mm_gd G aR) 0) (W0 := (mm_w aC (mb_shC (mm_gd G aC)) C')) 519 rfl dL_law_516 rfl rfl rfl (ct_X8_bring (xs (nI i + 1).toNatClampNeg) (xs (nI i + 2).toNatClampNeg) (lj_isMod N (mm_gd G aR) _)) e2 ⟨(Nat.le_of_ble_eq_true rfl), (Nat.le_of_ble_eq_true rfl)⟩ ⟨(Nat.le_of_ble_eq_true rfl), (Nat.le_of_ble_eq_true rfl)⟩ rfl (by decide +kernel) mw_5_72 mw_5_73 mw_5_74 mw_1_11 mw_5_75 rfl rfl (Nat.le_of_ble_eq_true rfl) rfl ?_
  show mb_T (p, l, e, s, m, #[Value.ref b], below, meth, c) G (cL_law, 4, RL, ret, 300) room_1 (lw_Z below #[Value.ref b] s) (mm_w aC (mb_shC (mm_gd G aC)) C' ++ mm_w aR (mb_shM N (mm_gd G aR)) R') 600000 7302250 519 [(0, .ref b), (1, .ref (aC 0)), (2, .ref (aR 0)), (3, .int (nI i))] [.int r, .int r]
  refine mb_icmp_eqY 1370 dL_law_519 (by decide) rfl ?_
  refine mb_iinc 1373 rfl dL_law_1370 3 rfl (v := nI (i + 5)) (nI_add i 5) (lv' := [(3, .int (nI (i + 5))), (0, .ref b), (1, .ref (aC 0)), (2, .ref (aR 0))]) (by decide) rfl ?_
  refine mb_goto 18 dL_law_1373 (by decide) ?_
  exact mb_lv [1, 2, 3, 0] rfl (ih (i + 5) N C' R' (by omega) (by omega) hSim')

set_option maxRecDepth 100000 in
set_option maxHeartbeats 4000000 in
theorem lc_fetch {p : Program} {l : Launch} {e : Env} {s : State} {m : MethodId} {below : List Frame} {meth : Method} {c : Code} {G : mm_G} {b L : Nat} {xs : Nat → Int32} {aC aR : Nat → Nat} {S : mm_M → mm_M → Prop} (hA0 : sm_All S) (hX : va_X b L xs s s.heap) (hbl : b < s.heap.size) (hbA : ¬ mm_A G b) {n i : Nat} (hi : i + 5 ≤ L) (hL : L ≤ 320) (hn : L - i < n + 1) (ih : ∀ (i : Nat) (N : Nat → Int64) (C R : mm_M), i ≤ L → L - i < n → S C R → mb_T (p, l, e, s, m, #[Value.ref b], below, meth, c) G (cL_law, 4, RL, ret, 300) room_1 (lw_Z below #[Value.ref b] s) (mm_w aC (mb_shC (mm_gd G aC)) C ++ mm_w aR (mb_shM N (mm_gd G aR)) R) 600000 7302250 18 [(0, .ref b), (1, .ref (aC 0)), (2, .ref (aR 0)), (3, .int (nI i))] []) {N : Nat → Int64} {C R : mm_M} (hSim : S C R) {op : Int32} (hop : op = 12) (hi1 : vp_in (nI i + 1) L) (hi2 : vp_in (nI i + 2) L) (hi3 : vp_in (nI i + 3) L) (hi4 : vp_in (nI i + 4) L) : mb_T (p, l, e, s, m, #[Value.ref b], below, meth, c) G (cL_law, 4, RL, ret, 300) room_1 (lw_Z below #[Value.ref b] s) (mm_w aC (mb_shC (mm_gd G aC)) C ++ mm_w aR (mb_shM N (mm_gd G aR)) R) 600000 7302250 32 [(0, .ref b), (1, .ref (aC 0)), (2, .ref (aR 0)), (3, .int (nI i))] [.int op] := by
  refine mb_tabIn 524 12 hop dL_law_32 (by decide) (by decide) rfl (by decide) ?_
  have hsim := hA0.2.2.2.2.2.2.2.2.2.2.2.2.1 C R hSim (xs (nI i + 1).toNatClampNeg)
  obtain ⟨r, C', R', e1, e2, hSim'⟩ := hsim
  refine mb_swap ?_
  refine mb_aload_n 525 rfl dL_law_524 rfl 1 rfl ?_
  refine mb_aload_n 526 rfl dL_law_525 rfl 0 rfl ?_
  refine mb_iload_n 527 rfl dL_law_526 rfl 3 rfl ?_
  refine mb_iconst 528 rfl (v := 1) dL_law_527 (by decide) ?_
  refine mb_iadd 529 rfl dL_law_528 ?_
  refine mb_sld 530 rfl dL_law_529 hX hbl hbA hi1 ?_
  refine lj_call (n := 1) (o := 0) (as := [.int (xs (nI i + 1).toNatClampNeg)]) (ad := aC) (M := C) (sh := (mb_shC (mm_gd G aC))) (g := mm_mli (mm_gd G aC) 0) (W0 := (mm_w aR (mb_shM N (mm_gd G aR)) R)) 533 rfl dL_law_530 rfl rfl rfl (ct_X7_fetch (xs (nI i + 1).toNatClampNeg) (lj_isMli (mm_gd G aC) _)) e1 ⟨(Nat.le_of_ble_eq_true rfl), (Nat.le_of_ble_eq_true rfl)⟩ ⟨(Nat.le_of_ble_eq_true rfl), (Nat.le_of_ble_eq_true rfl)⟩ rfl (by decide +kernel) mw_2_232 mw_2_233 mw_2_234 mw_1_1 mw_2_235 rfl rfl (Nat.le_of_ble_eq_true rfl) rfl ?_
  show mb_T (p, l, e, s, m, #[Value.ref b], below, meth, c) G (cL_law, 4, RL, ret, 300) room_1 (lw_Z below #[Value.ref b] s) (mm_w aR (mb_shM N (mm_gd G aR)) R ++ mm_w aC (mb_shC (mm_gd G aC)) C') 600000 7302250 533 [(0, .ref b), (1, .ref (aC 0)), (2, .ref (aR 0)), (3, .int (nI i))] [.int r]
  refine mb_swap ?_
  refine mb_aload_n 534 rfl dL_law_533 rfl 2 rfl ?_
  refine mb_aload_n 535 rfl dL_law_534 rfl 0 rfl ?_
  refine mb_iload_n 536 rfl dL_law_535 rfl 3 rfl ?_
  refine mb_iconst 537 rfl (v := 1) dL_law_536 (by decide) ?_
  refine mb_iadd 538 rfl dL_law_537 ?_
  refine mb_sld 539 rfl dL_law_538 hX hbl hbA hi1 ?_
  refine lj_call (n := 1) (o := 0) (as := [.int (xs (nI i + 1).toNatClampNeg)]) (ad := aR) (M := R) (sh := (mb_shM N (mm_gd G aR))) (g := mm_mod N (mm_gd G aR) 0) (W0 := (mm_w aC (mb_shC (mm_gd G aC)) C')) 542 rfl dL_law_539 rfl rfl rfl (ct_X8_fetch (xs (nI i + 1).toNatClampNeg) (lj_isMod N (mm_gd G aR) _)) e2 ⟨(Nat.le_of_ble_eq_true rfl), (Nat.le_of_ble_eq_true rfl)⟩ ⟨(Nat.le_of_ble_eq_true rfl), (Nat.le_of_ble_eq_true rfl)⟩ rfl (by decide +kernel) mw_5_76 mw_5_77 mw_5_78 mw_1_11 mw_5_79 rfl rfl (Nat.le_of_ble_eq_true rfl) rfl ?_
  show mb_T (p, l, e, s, m, #[Value.ref b], below, meth, c) G (cL_law, 4, RL, ret, 300) room_1 (lw_Z below #[Value.ref b] s) (mm_w aC (mb_shC (mm_gd G aC)) C' ++ mm_w aR (mb_shM N (mm_gd G aR)) R') 600000 7302250 542 [(0, .ref b), (1, .ref (aC 0)), (2, .ref (aR 0)), (3, .int (nI i))] [.int r, .int r]
  refine mb_icmp_eqY 1370 dL_law_542 (by decide) rfl ?_
  refine mb_iinc 1373 rfl dL_law_1370 3 rfl (v := nI (i + 5)) (nI_add i 5) (lv' := [(3, .int (nI (i + 5))), (0, .ref b), (1, .ref (aC 0)), (2, .ref (aR 0))]) (by decide) rfl ?_
  refine mb_goto 18 dL_law_1373 (by decide) ?_
  exact mb_lv [1, 2, 3, 0] rfl (ih (i + 5) N C' R' (by omega) (by omega) hSim')

set_option maxRecDepth 100000 in
set_option maxHeartbeats 4000000 in
theorem lc_days {p : Program} {l : Launch} {e : Env} {s : State} {m : MethodId} {below : List Frame} {meth : Method} {c : Code} {G : mm_G} {b L : Nat} {xs : Nat → Int32} {aC aR : Nat → Nat} {S : mm_M → mm_M → Prop} (hA0 : sm_All S) (hX : va_X b L xs s s.heap) (hbl : b < s.heap.size) (hbA : ¬ mm_A G b) {n i : Nat} (hi : i + 5 ≤ L) (hL : L ≤ 320) (hn : L - i < n + 1) (ih : ∀ (i : Nat) (N : Nat → Int64) (C R : mm_M), i ≤ L → L - i < n → S C R → mb_T (p, l, e, s, m, #[Value.ref b], below, meth, c) G (cL_law, 4, RL, ret, 300) room_1 (lw_Z below #[Value.ref b] s) (mm_w aC (mb_shC (mm_gd G aC)) C ++ mm_w aR (mb_shM N (mm_gd G aR)) R) 600000 7302250 18 [(0, .ref b), (1, .ref (aC 0)), (2, .ref (aR 0)), (3, .int (nI i))] []) {N : Nat → Int64} {C R : mm_M} (hSim : S C R) {op : Int32} (hop : op = 13) (hi1 : vp_in (nI i + 1) L) (hi2 : vp_in (nI i + 2) L) (hi3 : vp_in (nI i + 3) L) (hi4 : vp_in (nI i + 4) L) : mb_T (p, l, e, s, m, #[Value.ref b], below, meth, c) G (cL_law, 4, RL, ret, 300) room_1 (lw_Z below #[Value.ref b] s) (mm_w aC (mb_shC (mm_gd G aC)) C ++ mm_w aR (mb_shM N (mm_gd G aR)) R) 600000 7302250 32 [(0, .ref b), (1, .ref (aC 0)), (2, .ref (aR 0)), (3, .int (nI i))] [.int op] := by
  refine mb_tabIn 547 13 hop dL_law_32 (by decide) (by decide) rfl (by decide) ?_
  have hsim := hA0.2.2.2.2.2.2.2.2.2.2.2.2.2.1 C R hSim (xs (nI i + 1).toNatClampNeg)
  obtain ⟨r, C', R', e1, e2, hSim'⟩ := hsim
  refine mb_swap ?_
  refine mb_aload_n 548 rfl dL_law_547 rfl 1 rfl ?_
  refine mb_aload_n 549 rfl dL_law_548 rfl 0 rfl ?_
  refine mb_iload_n 550 rfl dL_law_549 rfl 3 rfl ?_
  refine mb_iconst 551 rfl (v := 1) dL_law_550 (by decide) ?_
  refine mb_iadd 552 rfl dL_law_551 ?_
  refine mb_sld 553 rfl dL_law_552 hX hbl hbA hi1 ?_
  refine lj_call (n := 1) (o := 0) (as := [.int (xs (nI i + 1).toNatClampNeg)]) (ad := aC) (M := C) (sh := (mb_shC (mm_gd G aC))) (g := mm_mli (mm_gd G aC) 0) (W0 := (mm_w aR (mb_shM N (mm_gd G aR)) R)) 556 rfl dL_law_553 rfl rfl rfl (ct_X7_days (xs (nI i + 1).toNatClampNeg) (lj_isMli (mm_gd G aC) _)) e1 ⟨(Nat.le_of_ble_eq_true rfl), (Nat.le_of_ble_eq_true rfl)⟩ ⟨(Nat.le_of_ble_eq_true rfl), (Nat.le_of_ble_eq_true rfl)⟩ rfl (by decide +kernel) mw_2_236 mw_2_237 mw_2_238 mw_1_1 mw_2_239 rfl rfl (Nat.le_of_ble_eq_true rfl) rfl ?_
  show mb_T (p, l, e, s, m, #[Value.ref b], below, meth, c) G (cL_law, 4, RL, ret, 300) room_1 (lw_Z below #[Value.ref b] s) (mm_w aR (mb_shM N (mm_gd G aR)) R ++ mm_w aC (mb_shC (mm_gd G aC)) C') 600000 7302250 556 [(0, .ref b), (1, .ref (aC 0)), (2, .ref (aR 0)), (3, .int (nI i))] [.int r]
  refine mb_swap ?_
  refine mb_aload_n 557 rfl dL_law_556 rfl 2 rfl ?_
  refine mb_aload_n 558 rfl dL_law_557 rfl 0 rfl ?_
  refine mb_iload_n 559 rfl dL_law_558 rfl 3 rfl ?_
  refine mb_iconst 560 rfl (v := 1) dL_law_559 (by decide) ?_
  refine mb_iadd 561 rfl dL_law_560 ?_
  refine mb_sld 562 rfl dL_law_561 hX hbl hbA hi1 ?_
  refine lj_call (n := 1) (o := 0) (as := [.int (xs (nI i + 1).toNatClampNeg)]) (ad := aR) (M := R) (sh := (mb_shM N (mm_gd G aR))) (g := mm_mod N (mm_gd G aR) 0) (W0 := (mm_w aC (mb_shC (mm_gd G aC)) C')) 565 rfl dL_law_562 rfl rfl rfl (ct_X8_days (xs (nI i + 1).toNatClampNeg) (lj_isMod N (mm_gd G aR) _)) e2 ⟨(Nat.le_of_ble_eq_true rfl), (Nat.le_of_ble_eq_true rfl)⟩ ⟨(Nat.le_of_ble_eq_true rfl), (Nat.le_of_ble_eq_true rfl)⟩ rfl (by decide +kernel) mw_5_80 mw_5_81 mw_5_82 mw_1_11 mw_5_83 rfl rfl (Nat.le_of_ble_eq_true rfl) rfl ?_
  show mb_T (p, l, e, s, m, #[Value.ref b], below, meth, c) G (cL_law, 4, RL, ret, 300) room_1 (lw_Z below #[Value.ref b] s) (mm_w aC (mb_shC (mm_gd G aC)) C' ++ mm_w aR (mb_shM N (mm_gd G aR)) R') 600000 7302250 565 [(0, .ref b), (1, .ref (aC 0)), (2, .ref (aR 0)), (3, .int (nI i))] [.int r, .int r]
  refine mb_icmp_eqY 1370 dL_law_565 (by decide) rfl ?_
  refine mb_iinc 1373 rfl dL_law_1370 3 rfl (v := nI (i + 5)) (nI_add i 5) (lv' := [(3, .int (nI (i + 5))), (0, .ref b), (1, .ref (aC 0)), (2, .ref (aR 0))]) (by decide) rfl ?_
  refine mb_goto 18 dL_law_1373 (by decide) ?_
  exact mb_lv [1, 2, 3, 0] rfl (ih (i + 5) N C' R' (by omega) (by omega) hSim')

set_option maxRecDepth 100000 in
set_option maxHeartbeats 4000000 in
theorem lc_runs {p : Program} {l : Launch} {e : Env} {s : State} {m : MethodId} {below : List Frame} {meth : Method} {c : Code} {G : mm_G} {b L : Nat} {xs : Nat → Int32} {aC aR : Nat → Nat} {S : mm_M → mm_M → Prop} (hA0 : sm_All S) (hX : va_X b L xs s s.heap) (hbl : b < s.heap.size) (hbA : ¬ mm_A G b) {n i : Nat} (hi : i + 5 ≤ L) (hL : L ≤ 320) (hn : L - i < n + 1) (ih : ∀ (i : Nat) (N : Nat → Int64) (C R : mm_M), i ≤ L → L - i < n → S C R → mb_T (p, l, e, s, m, #[Value.ref b], below, meth, c) G (cL_law, 4, RL, ret, 300) room_1 (lw_Z below #[Value.ref b] s) (mm_w aC (mb_shC (mm_gd G aC)) C ++ mm_w aR (mb_shM N (mm_gd G aR)) R) 600000 7302250 18 [(0, .ref b), (1, .ref (aC 0)), (2, .ref (aR 0)), (3, .int (nI i))] []) {N : Nat → Int64} {C R : mm_M} (hSim : S C R) {op : Int32} (hop : op = 14) (hi1 : vp_in (nI i + 1) L) (hi2 : vp_in (nI i + 2) L) (hi3 : vp_in (nI i + 3) L) (hi4 : vp_in (nI i + 4) L) : mb_T (p, l, e, s, m, #[Value.ref b], below, meth, c) G (cL_law, 4, RL, ret, 300) room_1 (lw_Z below #[Value.ref b] s) (mm_w aC (mb_shC (mm_gd G aC)) C ++ mm_w aR (mb_shM N (mm_gd G aR)) R) 600000 7302250 32 [(0, .ref b), (1, .ref (aC 0)), (2, .ref (aR 0)), (3, .int (nI i))] [.int op] := by
  refine mb_tabIn 570 14 hop dL_law_32 (by decide) (by decide) rfl (by decide) ?_
  have hsim := hA0.2.2.2.2.2.2.2.2.2.2.2.2.2.2.1 C R hSim (xs (nI i + 1).toNatClampNeg) (xs (nI i + 2).toNatClampNeg)
  obtain ⟨r, C', R', e1, e2, hSim'⟩ := hsim
  refine mb_swap ?_
  refine mb_aload_n 571 rfl dL_law_570 rfl 1 rfl ?_
  refine mb_aload_n 572 rfl dL_law_571 rfl 0 rfl ?_
  refine mb_iload_n 573 rfl dL_law_572 rfl 3 rfl ?_
  refine mb_iconst 574 rfl (v := 1) dL_law_573 (by decide) ?_
  refine mb_iadd 575 rfl dL_law_574 ?_
  refine mb_sld 576 rfl dL_law_575 hX hbl hbA hi1 ?_
  refine mb_aload_n 577 rfl dL_law_576 rfl 0 rfl ?_
  refine mb_iload_n 578 rfl dL_law_577 rfl 3 rfl ?_
  refine mb_iconst 579 rfl (v := 2) dL_law_578 (by decide) ?_
  refine mb_iadd 580 rfl dL_law_579 ?_
  refine mb_sld 581 rfl dL_law_580 hX hbl hbA hi2 ?_
  refine lj_call (n := 2) (o := 0) (as := [.int (xs (nI i + 1).toNatClampNeg), .int (xs (nI i + 2).toNatClampNeg)]) (ad := aC) (M := C) (sh := (mb_shC (mm_gd G aC))) (g := mm_mli (mm_gd G aC) 0) (W0 := (mm_w aR (mb_shM N (mm_gd G aR)) R)) 584 rfl dL_law_581 rfl rfl rfl (ct_X7_runs (xs (nI i + 1).toNatClampNeg) (xs (nI i + 2).toNatClampNeg) (lj_isMli (mm_gd G aC) _)) e1 ⟨(Nat.le_of_ble_eq_true rfl), (Nat.le_of_ble_eq_true rfl)⟩ ⟨(Nat.le_of_ble_eq_true rfl), (Nat.le_of_ble_eq_true rfl)⟩ rfl (by decide +kernel) mw_3_29 mw_3_30 mw_3_31 mw_1_1 mw_3_32 rfl rfl (Nat.le_of_ble_eq_true rfl) rfl ?_
  show mb_T (p, l, e, s, m, #[Value.ref b], below, meth, c) G (cL_law, 4, RL, ret, 300) room_1 (lw_Z below #[Value.ref b] s) (mm_w aR (mb_shM N (mm_gd G aR)) R ++ mm_w aC (mb_shC (mm_gd G aC)) C') 600000 7302250 584 [(0, .ref b), (1, .ref (aC 0)), (2, .ref (aR 0)), (3, .int (nI i))] [.int r]
  refine mb_swap ?_
  refine mb_aload_n 585 rfl dL_law_584 rfl 2 rfl ?_
  refine mb_aload_n 586 rfl dL_law_585 rfl 0 rfl ?_
  refine mb_iload_n 587 rfl dL_law_586 rfl 3 rfl ?_
  refine mb_iconst 588 rfl (v := 1) dL_law_587 (by decide) ?_
  refine mb_iadd 589 rfl dL_law_588 ?_
  refine mb_sld 590 rfl dL_law_589 hX hbl hbA hi1 ?_
  refine mb_aload_n 591 rfl dL_law_590 rfl 0 rfl ?_
  refine mb_iload_n 592 rfl dL_law_591 rfl 3 rfl ?_
  refine mb_iconst 593 rfl (v := 2) dL_law_592 (by decide) ?_
  refine mb_iadd 594 rfl dL_law_593 ?_
  refine mb_sld 595 rfl dL_law_594 hX hbl hbA hi2 ?_
  refine lj_call (n := 2) (o := 0) (as := [.int (xs (nI i + 1).toNatClampNeg), .int (xs (nI i + 2).toNatClampNeg)]) (ad := aR) (M := R) (sh := (mb_shM N (mm_gd G aR))) (g := mm_mod N (mm_gd G aR) 0) (W0 := (mm_w aC (mb_shC (mm_gd G aC)) C')) 598 rfl dL_law_595 rfl rfl rfl (ct_X8_runs (xs (nI i + 1).toNatClampNeg) (xs (nI i + 2).toNatClampNeg) (lj_isMod N (mm_gd G aR) _)) e2 ⟨(Nat.le_of_ble_eq_true rfl), (Nat.le_of_ble_eq_true rfl)⟩ ⟨(Nat.le_of_ble_eq_true rfl), (Nat.le_of_ble_eq_true rfl)⟩ rfl (by decide +kernel) mw_5_113 mw_5_114 mw_5_115 mw_1_11 mw_5_116 rfl rfl (Nat.le_of_ble_eq_true rfl) rfl ?_
  show mb_T (p, l, e, s, m, #[Value.ref b], below, meth, c) G (cL_law, 4, RL, ret, 300) room_1 (lw_Z below #[Value.ref b] s) (mm_w aC (mb_shC (mm_gd G aC)) C' ++ mm_w aR (mb_shM N (mm_gd G aR)) R') 600000 7302250 598 [(0, .ref b), (1, .ref (aC 0)), (2, .ref (aR 0)), (3, .int (nI i))] [.int r, .int r]
  refine mb_icmp_eqY 1370 dL_law_598 (by decide) rfl ?_
  refine mb_iinc 1373 rfl dL_law_1370 3 rfl (v := nI (i + 5)) (nI_add i 5) (lv' := [(3, .int (nI (i + 5))), (0, .ref b), (1, .ref (aC 0)), (2, .ref (aR 0))]) (by decide) rfl ?_
  refine mb_goto 18 dL_law_1373 (by decide) ?_
  exact mb_lv [1, 2, 3, 0] rfl (ih (i + 5) N C' R' (by omega) (by omega) hSim')

set_option maxRecDepth 100000 in
set_option maxHeartbeats 4000000 in
theorem lc_ahead {p : Program} {l : Launch} {e : Env} {s : State} {m : MethodId} {below : List Frame} {meth : Method} {c : Code} {G : mm_G} {b L : Nat} {xs : Nat → Int32} {aC aR : Nat → Nat} {S : mm_M → mm_M → Prop} (hA0 : sm_All S) (hX : va_X b L xs s s.heap) (hbl : b < s.heap.size) (hbA : ¬ mm_A G b) {n i : Nat} (hi : i + 5 ≤ L) (hL : L ≤ 320) (hn : L - i < n + 1) (ih : ∀ (i : Nat) (N : Nat → Int64) (C R : mm_M), i ≤ L → L - i < n → S C R → mb_T (p, l, e, s, m, #[Value.ref b], below, meth, c) G (cL_law, 4, RL, ret, 300) room_1 (lw_Z below #[Value.ref b] s) (mm_w aC (mb_shC (mm_gd G aC)) C ++ mm_w aR (mb_shM N (mm_gd G aR)) R) 600000 7302250 18 [(0, .ref b), (1, .ref (aC 0)), (2, .ref (aR 0)), (3, .int (nI i))] []) {N : Nat → Int64} {C R : mm_M} (hSim : S C R) {op : Int32} (hop : op = 15) (hi1 : vp_in (nI i + 1) L) (hi2 : vp_in (nI i + 2) L) (hi3 : vp_in (nI i + 3) L) (hi4 : vp_in (nI i + 4) L) : mb_T (p, l, e, s, m, #[Value.ref b], below, meth, c) G (cL_law, 4, RL, ret, 300) room_1 (lw_Z below #[Value.ref b] s) (mm_w aC (mb_shC (mm_gd G aC)) C ++ mm_w aR (mb_shM N (mm_gd G aR)) R) 600000 7302250 32 [(0, .ref b), (1, .ref (aC 0)), (2, .ref (aR 0)), (3, .int (nI i))] [.int op] := by
  refine mb_tabIn 603 15 hop dL_law_32 (by decide) (by decide) rfl (by decide) ?_
  have hsim := hA0.2.2.2.2.2.2.2.2.2.2.2.2.2.2.2.1 C R hSim (xs (nI i + 1).toNatClampNeg) (xs (nI i + 2).toNatClampNeg) (xs (nI i + 3).toNatClampNeg)
  obtain ⟨r, C', R', e1, e2, hSim'⟩ := hsim
  refine mb_swap ?_
  refine mb_aload_n 604 rfl dL_law_603 rfl 1 rfl ?_
  refine mb_aload_n 605 rfl dL_law_604 rfl 0 rfl ?_
  refine mb_iload_n 606 rfl dL_law_605 rfl 3 rfl ?_
  refine mb_iconst 607 rfl (v := 1) dL_law_606 (by decide) ?_
  refine mb_iadd 608 rfl dL_law_607 ?_
  refine mb_sld 609 rfl dL_law_608 hX hbl hbA hi1 ?_
  refine mb_aload_n 610 rfl dL_law_609 rfl 0 rfl ?_
  refine mb_iload_n 611 rfl dL_law_610 rfl 3 rfl ?_
  refine mb_iconst 612 rfl (v := 2) dL_law_611 (by decide) ?_
  refine mb_iadd 613 rfl dL_law_612 ?_
  refine mb_sld 614 rfl dL_law_613 hX hbl hbA hi2 ?_
  refine mb_aload_n 615 rfl dL_law_614 rfl 0 rfl ?_
  refine mb_iload_n 616 rfl dL_law_615 rfl 3 rfl ?_
  refine mb_iconst 617 rfl (v := 3) dL_law_616 (by decide) ?_
  refine mb_iadd 618 rfl dL_law_617 ?_
  refine mb_sld 619 rfl dL_law_618 hX hbl hbA hi3 ?_
  refine lj_call (n := 3) (o := 0) (as := [.int (xs (nI i + 1).toNatClampNeg), .int (xs (nI i + 2).toNatClampNeg), .int (xs (nI i + 3).toNatClampNeg)]) (ad := aC) (M := C) (sh := (mb_shC (mm_gd G aC))) (g := mm_mli (mm_gd G aC) 0) (W0 := (mm_w aR (mb_shM N (mm_gd G aR)) R)) 622 rfl dL_law_619 rfl rfl rfl (ct_X7_ahead (xs (nI i + 1).toNatClampNeg) (xs (nI i + 2).toNatClampNeg) (xs (nI i + 3).toNatClampNeg) (lj_isMli (mm_gd G aC) _)) e1 ⟨(Nat.le_of_ble_eq_true rfl), (Nat.le_of_ble_eq_true rfl)⟩ ⟨(Nat.le_of_ble_eq_true rfl), (Nat.le_of_ble_eq_true rfl)⟩ rfl (by decide +kernel) mw_3_35 mw_3_36 mw_3_37 mw_1_1 mw_3_38 rfl rfl (Nat.le_of_ble_eq_true rfl) rfl ?_
  show mb_T (p, l, e, s, m, #[Value.ref b], below, meth, c) G (cL_law, 4, RL, ret, 300) room_1 (lw_Z below #[Value.ref b] s) (mm_w aR (mb_shM N (mm_gd G aR)) R ++ mm_w aC (mb_shC (mm_gd G aC)) C') 600000 7302250 622 [(0, .ref b), (1, .ref (aC 0)), (2, .ref (aR 0)), (3, .int (nI i))] [.int r]
  refine mb_swap ?_
  refine mb_aload_n 623 rfl dL_law_622 rfl 2 rfl ?_
  refine mb_aload_n 624 rfl dL_law_623 rfl 0 rfl ?_
  refine mb_iload_n 625 rfl dL_law_624 rfl 3 rfl ?_
  refine mb_iconst 626 rfl (v := 1) dL_law_625 (by decide) ?_
  refine mb_iadd 627 rfl dL_law_626 ?_
  refine mb_sld 628 rfl dL_law_627 hX hbl hbA hi1 ?_
  refine mb_aload_n 629 rfl dL_law_628 rfl 0 rfl ?_
  refine mb_iload_n 630 rfl dL_law_629 rfl 3 rfl ?_
  refine mb_iconst 631 rfl (v := 2) dL_law_630 (by decide) ?_
  refine mb_iadd 632 rfl dL_law_631 ?_
  refine mb_sld 633 rfl dL_law_632 hX hbl hbA hi2 ?_
  refine mb_aload_n 634 rfl dL_law_633 rfl 0 rfl ?_
  refine mb_iload_n 635 rfl dL_law_634 rfl 3 rfl ?_
  refine mb_iconst 636 rfl (v := 3) dL_law_635 (by decide) ?_
  refine mb_iadd 637 rfl dL_law_636 ?_
  refine mb_sld 638 rfl dL_law_637 hX hbl hbA hi3 ?_
  refine lj_call (n := 3) (o := 0) (as := [.int (xs (nI i + 1).toNatClampNeg), .int (xs (nI i + 2).toNatClampNeg), .int (xs (nI i + 3).toNatClampNeg)]) (ad := aR) (M := R) (sh := (mb_shM N (mm_gd G aR))) (g := mm_mod N (mm_gd G aR) 0) (W0 := (mm_w aC (mb_shC (mm_gd G aC)) C')) 641 rfl dL_law_638 rfl rfl rfl (ct_X8_ahead (xs (nI i + 1).toNatClampNeg) (xs (nI i + 2).toNatClampNeg) (xs (nI i + 3).toNatClampNeg) (lj_isMod N (mm_gd G aR) _)) e2 ⟨(Nat.le_of_ble_eq_true rfl), (Nat.le_of_ble_eq_true rfl)⟩ ⟨(Nat.le_of_ble_eq_true rfl), (Nat.le_of_ble_eq_true rfl)⟩ rfl (by decide +kernel) mw_5_120 mw_5_121 mw_5_122 mw_1_11 mw_5_123 rfl rfl (Nat.le_of_ble_eq_true rfl) rfl ?_
  show mb_T (p, l, e, s, m, #[Value.ref b], below, meth, c) G (cL_law, 4, RL, ret, 300) room_1 (lw_Z below #[Value.ref b] s) (mm_w aC (mb_shC (mm_gd G aC)) C' ++ mm_w aR (mb_shM N (mm_gd G aR)) R') 600000 7302250 641 [(0, .ref b), (1, .ref (aC 0)), (2, .ref (aR 0)), (3, .int (nI i))] [.int r, .int r]
  refine mb_icmp_eqY 1370 dL_law_641 (by decide) rfl ?_
  refine mb_iinc 1373 rfl dL_law_1370 3 rfl (v := nI (i + 5)) (nI_add i 5) (lv' := [(3, .int (nI (i + 5))), (0, .ref b), (1, .ref (aC 0)), (2, .ref (aR 0))]) (by decide) rfl ?_
  refine mb_goto 18 dL_law_1373 (by decide) ?_
  exact mb_lv [1, 2, 3, 0] rfl (ih (i + 5) N C' R' (by omega) (by omega) hSim')

set_option maxRecDepth 100000 in
set_option maxHeartbeats 4000000 in
theorem lc_home {p : Program} {l : Launch} {e : Env} {s : State} {m : MethodId} {below : List Frame} {meth : Method} {c : Code} {G : mm_G} {b L : Nat} {xs : Nat → Int32} {aC aR : Nat → Nat} {S : mm_M → mm_M → Prop} (hA0 : sm_All S) (hX : va_X b L xs s s.heap) (hbl : b < s.heap.size) (hbA : ¬ mm_A G b) {n i : Nat} (hi : i + 5 ≤ L) (hL : L ≤ 320) (hn : L - i < n + 1) (ih : ∀ (i : Nat) (N : Nat → Int64) (C R : mm_M), i ≤ L → L - i < n → S C R → mb_T (p, l, e, s, m, #[Value.ref b], below, meth, c) G (cL_law, 4, RL, ret, 300) room_1 (lw_Z below #[Value.ref b] s) (mm_w aC (mb_shC (mm_gd G aC)) C ++ mm_w aR (mb_shM N (mm_gd G aR)) R) 600000 7302250 18 [(0, .ref b), (1, .ref (aC 0)), (2, .ref (aR 0)), (3, .int (nI i))] []) {N : Nat → Int64} {C R : mm_M} (hSim : S C R) {op : Int32} (hop : op = 16) (hi1 : vp_in (nI i + 1) L) (hi2 : vp_in (nI i + 2) L) (hi3 : vp_in (nI i + 3) L) (hi4 : vp_in (nI i + 4) L) : mb_T (p, l, e, s, m, #[Value.ref b], below, meth, c) G (cL_law, 4, RL, ret, 300) room_1 (lw_Z below #[Value.ref b] s) (mm_w aC (mb_shC (mm_gd G aC)) C ++ mm_w aR (mb_shM N (mm_gd G aR)) R) 600000 7302250 32 [(0, .ref b), (1, .ref (aC 0)), (2, .ref (aR 0)), (3, .int (nI i))] [.int op] := by
  refine mb_tabIn 646 16 hop dL_law_32 (by decide) (by decide) rfl (by decide) ?_
  have hsim := hA0.2.2.2.2.2.2.2.2.2.2.2.2.2.2.2.2.1 C R hSim (xs (nI i + 1).toNatClampNeg)
  obtain ⟨r, C', R', e1, e2, hSim'⟩ := hsim
  refine mb_swap ?_
  refine mb_aload_n 647 rfl dL_law_646 rfl 1 rfl ?_
  refine mb_aload_n 648 rfl dL_law_647 rfl 0 rfl ?_
  refine mb_iload_n 649 rfl dL_law_648 rfl 3 rfl ?_
  refine mb_iconst 650 rfl (v := 1) dL_law_649 (by decide) ?_
  refine mb_iadd 651 rfl dL_law_650 ?_
  refine mb_sld 652 rfl dL_law_651 hX hbl hbA hi1 ?_
  refine lj_call (n := 1) (o := 0) (as := [.int (xs (nI i + 1).toNatClampNeg)]) (ad := aC) (M := C) (sh := (mb_shC (mm_gd G aC))) (g := mm_mli (mm_gd G aC) 0) (W0 := (mm_w aR (mb_shM N (mm_gd G aR)) R)) 655 rfl dL_law_652 rfl rfl rfl (ct_X7_home (xs (nI i + 1).toNatClampNeg) (lj_isMli (mm_gd G aC) _)) e1 ⟨(Nat.le_of_ble_eq_true rfl), (Nat.le_of_ble_eq_true rfl)⟩ ⟨(Nat.le_of_ble_eq_true rfl), (Nat.le_of_ble_eq_true rfl)⟩ rfl (by decide +kernel) mw_3_39 mw_3_40 mw_3_41 mw_1_1 mw_3_42 rfl rfl (Nat.le_of_ble_eq_true rfl) rfl ?_
  show mb_T (p, l, e, s, m, #[Value.ref b], below, meth, c) G (cL_law, 4, RL, ret, 300) room_1 (lw_Z below #[Value.ref b] s) (mm_w aR (mb_shM N (mm_gd G aR)) R ++ mm_w aC (mb_shC (mm_gd G aC)) C') 600000 7302250 655 [(0, .ref b), (1, .ref (aC 0)), (2, .ref (aR 0)), (3, .int (nI i))] [.int r]
  refine mb_swap ?_
  refine mb_aload_n 656 rfl dL_law_655 rfl 2 rfl ?_
  refine mb_aload_n 657 rfl dL_law_656 rfl 0 rfl ?_
  refine mb_iload_n 658 rfl dL_law_657 rfl 3 rfl ?_
  refine mb_iconst 659 rfl (v := 1) dL_law_658 (by decide) ?_
  refine mb_iadd 660 rfl dL_law_659 ?_
  refine mb_sld 661 rfl dL_law_660 hX hbl hbA hi1 ?_
  refine lj_call (n := 1) (o := 0) (as := [.int (xs (nI i + 1).toNatClampNeg)]) (ad := aR) (M := R) (sh := (mb_shM N (mm_gd G aR))) (g := mm_mod N (mm_gd G aR) 0) (W0 := (mm_w aC (mb_shC (mm_gd G aC)) C')) 664 rfl dL_law_661 rfl rfl rfl (ct_X8_home (xs (nI i + 1).toNatClampNeg) (lj_isMod N (mm_gd G aR) _)) e2 ⟨(Nat.le_of_ble_eq_true rfl), (Nat.le_of_ble_eq_true rfl)⟩ ⟨(Nat.le_of_ble_eq_true rfl), (Nat.le_of_ble_eq_true rfl)⟩ rfl (by decide +kernel) mw_5_125 mw_5_126 mw_5_127 mw_1_11 mw_5_128 rfl rfl (Nat.le_of_ble_eq_true rfl) rfl ?_
  show mb_T (p, l, e, s, m, #[Value.ref b], below, meth, c) G (cL_law, 4, RL, ret, 300) room_1 (lw_Z below #[Value.ref b] s) (mm_w aC (mb_shC (mm_gd G aC)) C' ++ mm_w aR (mb_shM N (mm_gd G aR)) R') 600000 7302250 664 [(0, .ref b), (1, .ref (aC 0)), (2, .ref (aR 0)), (3, .int (nI i))] [.int r, .int r]
  refine mb_icmp_eqY 1370 dL_law_664 (by decide) rfl ?_
  refine mb_iinc 1373 rfl dL_law_1370 3 rfl (v := nI (i + 5)) (nI_add i 5) (lv' := [(3, .int (nI (i + 5))), (0, .ref b), (1, .ref (aC 0)), (2, .ref (aR 0))]) (by decide) rfl ?_
  refine mb_goto 18 dL_law_1373 (by decide) ?_
  exact mb_lv [1, 2, 3, 0] rfl (ih (i + 5) N C' R' (by omega) (by omega) hSim')

set_option maxRecDepth 100000 in
set_option maxHeartbeats 4000000 in
theorem lc_done {p : Program} {l : Launch} {e : Env} {s : State} {m : MethodId} {below : List Frame} {meth : Method} {c : Code} {G : mm_G} {b L : Nat} {xs : Nat → Int32} {aC aR : Nat → Nat} {S : mm_M → mm_M → Prop} (hA0 : sm_All S) (hX : va_X b L xs s s.heap) (hbl : b < s.heap.size) (hbA : ¬ mm_A G b) {n i : Nat} (hi : i + 5 ≤ L) (hL : L ≤ 320) (hn : L - i < n + 1) (ih : ∀ (i : Nat) (N : Nat → Int64) (C R : mm_M), i ≤ L → L - i < n → S C R → mb_T (p, l, e, s, m, #[Value.ref b], below, meth, c) G (cL_law, 4, RL, ret, 300) room_1 (lw_Z below #[Value.ref b] s) (mm_w aC (mb_shC (mm_gd G aC)) C ++ mm_w aR (mb_shM N (mm_gd G aR)) R) 600000 7302250 18 [(0, .ref b), (1, .ref (aC 0)), (2, .ref (aR 0)), (3, .int (nI i))] []) {N : Nat → Int64} {C R : mm_M} (hSim : S C R) {op : Int32} (hop : op = 17) (hi1 : vp_in (nI i + 1) L) (hi2 : vp_in (nI i + 2) L) (hi3 : vp_in (nI i + 3) L) (hi4 : vp_in (nI i + 4) L) : mb_T (p, l, e, s, m, #[Value.ref b], below, meth, c) G (cL_law, 4, RL, ret, 300) room_1 (lw_Z below #[Value.ref b] s) (mm_w aC (mb_shC (mm_gd G aC)) C ++ mm_w aR (mb_shM N (mm_gd G aR)) R) 600000 7302250 32 [(0, .ref b), (1, .ref (aC 0)), (2, .ref (aR 0)), (3, .int (nI i))] [.int op] := by
  refine mb_tabIn 669 17 hop dL_law_32 (by decide) (by decide) rfl (by decide) ?_
  have hsim := hA0.2.2.2.2.2.2.2.2.2.2.2.2.2.2.2.2.2.1 C R hSim 
  obtain ⟨r, C', R', e1, e2, hSim'⟩ := hsim
  refine mb_swap ?_
  refine mb_aload_n 670 rfl dL_law_669 rfl 1 rfl ?_
  refine lj_call (n := 0) (o := 0) (as := []) (ad := aC) (M := C) (sh := (mb_shC (mm_gd G aC))) (g := mm_mli (mm_gd G aC) 0) (W0 := (mm_w aR (mb_shM N (mm_gd G aR)) R)) 673 rfl dL_law_670 rfl rfl rfl (ct_X7_done  (lj_isMli (mm_gd G aC) _)) e1 ⟨(Nat.le_of_ble_eq_true rfl), (Nat.le_of_ble_eq_true rfl)⟩ ⟨(Nat.le_of_ble_eq_true rfl), (Nat.le_of_ble_eq_true rfl)⟩ rfl (by decide +kernel) mw_3_50 mw_3_51 mw_3_52 mw_1_1 mw_3_53 rfl rfl (Nat.le_of_ble_eq_true rfl) rfl ?_
  show mb_T (p, l, e, s, m, #[Value.ref b], below, meth, c) G (cL_law, 4, RL, ret, 300) room_1 (lw_Z below #[Value.ref b] s) (mm_w aR (mb_shM N (mm_gd G aR)) R ++ mm_w aC (mb_shC (mm_gd G aC)) C') 600000 7302250 673 [(0, .ref b), (1, .ref (aC 0)), (2, .ref (aR 0)), (3, .int (nI i))] [.int r]
  refine mb_swap ?_
  refine mb_aload_n 674 rfl dL_law_673 rfl 2 rfl ?_
  refine lj_call (n := 0) (o := 0) (as := []) (ad := aR) (M := R) (sh := (mb_shM N (mm_gd G aR))) (g := mm_mod N (mm_gd G aR) 0) (W0 := (mm_w aC (mb_shC (mm_gd G aC)) C')) 677 rfl dL_law_674 rfl rfl rfl (ct_X8_done  (lj_isMod N (mm_gd G aR) _)) e2 ⟨(Nat.le_of_ble_eq_true rfl), (Nat.le_of_ble_eq_true rfl)⟩ ⟨(Nat.le_of_ble_eq_true rfl), (Nat.le_of_ble_eq_true rfl)⟩ rfl (by decide +kernel) mw_5_129 mw_5_130 mw_5_131 mw_1_11 mw_5_132 rfl rfl (Nat.le_of_ble_eq_true rfl) rfl ?_
  show mb_T (p, l, e, s, m, #[Value.ref b], below, meth, c) G (cL_law, 4, RL, ret, 300) room_1 (lw_Z below #[Value.ref b] s) (mm_w aC (mb_shC (mm_gd G aC)) C' ++ mm_w aR (mb_shM N (mm_gd G aR)) R') 600000 7302250 677 [(0, .ref b), (1, .ref (aC 0)), (2, .ref (aR 0)), (3, .int (nI i))] [.int r, .int r]
  refine mb_icmp_eqY 1370 dL_law_677 (by decide) rfl ?_
  refine mb_iinc 1373 rfl dL_law_1370 3 rfl (v := nI (i + 5)) (nI_add i 5) (lv' := [(3, .int (nI (i + 5))), (0, .ref b), (1, .ref (aC 0)), (2, .ref (aR 0))]) (by decide) rfl ?_
  refine mb_goto 18 dL_law_1373 (by decide) ?_
  exact mb_lv [1, 2, 3, 0] rfl (ih (i + 5) N C' R' (by omega) (by omega) hSim')

set_option maxRecDepth 100000 in
set_option maxHeartbeats 4000000 in
theorem lc_blue {p : Program} {l : Launch} {e : Env} {s : State} {m : MethodId} {below : List Frame} {meth : Method} {c : Code} {G : mm_G} {b L : Nat} {xs : Nat → Int32} {aC aR : Nat → Nat} {S : mm_M → mm_M → Prop} (hA0 : sm_All S) (hX : va_X b L xs s s.heap) (hbl : b < s.heap.size) (hbA : ¬ mm_A G b) {n i : Nat} (hi : i + 5 ≤ L) (hL : L ≤ 320) (hn : L - i < n + 1) (ih : ∀ (i : Nat) (N : Nat → Int64) (C R : mm_M), i ≤ L → L - i < n → S C R → mb_T (p, l, e, s, m, #[Value.ref b], below, meth, c) G (cL_law, 4, RL, ret, 300) room_1 (lw_Z below #[Value.ref b] s) (mm_w aC (mb_shC (mm_gd G aC)) C ++ mm_w aR (mb_shM N (mm_gd G aR)) R) 600000 7302250 18 [(0, .ref b), (1, .ref (aC 0)), (2, .ref (aR 0)), (3, .int (nI i))] []) {N : Nat → Int64} {C R : mm_M} (hSim : S C R) {op : Int32} (hop : op = 18) (hi1 : vp_in (nI i + 1) L) (hi2 : vp_in (nI i + 2) L) (hi3 : vp_in (nI i + 3) L) (hi4 : vp_in (nI i + 4) L) : mb_T (p, l, e, s, m, #[Value.ref b], below, meth, c) G (cL_law, 4, RL, ret, 300) room_1 (lw_Z below #[Value.ref b] s) (mm_w aC (mb_shC (mm_gd G aC)) C ++ mm_w aR (mb_shM N (mm_gd G aR)) R) 600000 7302250 32 [(0, .ref b), (1, .ref (aC 0)), (2, .ref (aR 0)), (3, .int (nI i))] [.int op] := by
  refine mb_tabIn 682 18 hop dL_law_32 (by decide) (by decide) rfl (by decide) ?_
  have hsim := hA0.2.2.2.2.2.2.2.2.2.2.2.2.2.2.2.2.2.2.1 C R hSim (xs (nI i + 1).toNatClampNeg)
  obtain ⟨r, C', R', e1, e2, hSim'⟩ := hsim
  refine mb_swap ?_
  refine mb_aload_n 683 rfl dL_law_682 rfl 1 rfl ?_
  refine mb_aload_n 684 rfl dL_law_683 rfl 0 rfl ?_
  refine mb_iload_n 685 rfl dL_law_684 rfl 3 rfl ?_
  refine mb_iconst 686 rfl (v := 1) dL_law_685 (by decide) ?_
  refine mb_iadd 687 rfl dL_law_686 ?_
  refine mb_sld 688 rfl dL_law_687 hX hbl hbA hi1 ?_
  refine lj_call (n := 1) (o := 0) (as := [.int (xs (nI i + 1).toNatClampNeg)]) (ad := aC) (M := C) (sh := (mb_shC (mm_gd G aC))) (g := mm_mli (mm_gd G aC) 0) (W0 := (mm_w aR (mb_shM N (mm_gd G aR)) R)) 691 rfl dL_law_688 rfl rfl rfl (ct_X7_blue (xs (nI i + 1).toNatClampNeg) (lj_isMli (mm_gd G aC) _)) e1 ⟨(Nat.le_of_ble_eq_true rfl), (Nat.le_of_ble_eq_true rfl)⟩ ⟨(Nat.le_of_ble_eq_true rfl), (Nat.le_of_ble_eq_true rfl)⟩ rfl (by decide +kernel) mw_3_66 mw_3_67 mw_3_68 mw_1_1 mw_3_69 rfl rfl (Nat.le_of_ble_eq_true rfl) rfl ?_
  show mb_T (p, l, e, s, m, #[Value.ref b], below, meth, c) G (cL_law, 4, RL, ret, 300) room_1 (lw_Z below #[Value.ref b] s) (mm_w aR (mb_shM N (mm_gd G aR)) R ++ mm_w aC (mb_shC (mm_gd G aC)) C') 600000 7302250 691 [(0, .ref b), (1, .ref (aC 0)), (2, .ref (aR 0)), (3, .int (nI i))] [.int r]
  refine mb_swap ?_
  refine mb_aload_n 692 rfl dL_law_691 rfl 2 rfl ?_
  refine mb_aload_n 693 rfl dL_law_692 rfl 0 rfl ?_
  refine mb_iload_n 694 rfl dL_law_693 rfl 3 rfl ?_
  refine mb_iconst 695 rfl (v := 1) dL_law_694 (by decide) ?_
  refine mb_iadd 696 rfl dL_law_695 ?_
  refine mb_sld 697 rfl dL_law_696 hX hbl hbA hi1 ?_
  refine lj_call (n := 1) (o := 0) (as := [.int (xs (nI i + 1).toNatClampNeg)]) (ad := aR) (M := R) (sh := (mb_shM N (mm_gd G aR))) (g := mm_mod N (mm_gd G aR) 0) (W0 := (mm_w aC (mb_shC (mm_gd G aC)) C')) 700 rfl dL_law_697 rfl rfl rfl (ct_X8_blue (xs (nI i + 1).toNatClampNeg) (lj_isMod N (mm_gd G aR) _)) e2 ⟨(Nat.le_of_ble_eq_true rfl), (Nat.le_of_ble_eq_true rfl)⟩ ⟨(Nat.le_of_ble_eq_true rfl), (Nat.le_of_ble_eq_true rfl)⟩ rfl (by decide +kernel) mw_5_141 mw_5_142 mw_5_143 mw_1_11 mw_5_144 rfl rfl (Nat.le_of_ble_eq_true rfl) rfl ?_
  show mb_T (p, l, e, s, m, #[Value.ref b], below, meth, c) G (cL_law, 4, RL, ret, 300) room_1 (lw_Z below #[Value.ref b] s) (mm_w aC (mb_shC (mm_gd G aC)) C' ++ mm_w aR (mb_shM N (mm_gd G aR)) R') 600000 7302250 700 [(0, .ref b), (1, .ref (aC 0)), (2, .ref (aR 0)), (3, .int (nI i))] [.int r, .int r]
  refine mb_icmp_eqY 1370 dL_law_700 (by decide) rfl ?_
  refine mb_iinc 1373 rfl dL_law_1370 3 rfl (v := nI (i + 5)) (nI_add i 5) (lv' := [(3, .int (nI (i + 5))), (0, .ref b), (1, .ref (aC 0)), (2, .ref (aR 0))]) (by decide) rfl ?_
  refine mb_goto 18 dL_law_1373 (by decide) ?_
  exact mb_lv [1, 2, 3, 0] rfl (ih (i + 5) N C' R' (by omega) (by omega) hSim')

set_option maxRecDepth 100000 in
set_option maxHeartbeats 4000000 in
theorem lc_pegs {p : Program} {l : Launch} {e : Env} {s : State} {m : MethodId} {below : List Frame} {meth : Method} {c : Code} {G : mm_G} {b L : Nat} {xs : Nat → Int32} {aC aR : Nat → Nat} {S : mm_M → mm_M → Prop} (hA0 : sm_All S) (hX : va_X b L xs s s.heap) (hbl : b < s.heap.size) (hbA : ¬ mm_A G b) {n i : Nat} (hi : i + 5 ≤ L) (hL : L ≤ 320) (hn : L - i < n + 1) (ih : ∀ (i : Nat) (N : Nat → Int64) (C R : mm_M), i ≤ L → L - i < n → S C R → mb_T (p, l, e, s, m, #[Value.ref b], below, meth, c) G (cL_law, 4, RL, ret, 300) room_1 (lw_Z below #[Value.ref b] s) (mm_w aC (mb_shC (mm_gd G aC)) C ++ mm_w aR (mb_shM N (mm_gd G aR)) R) 600000 7302250 18 [(0, .ref b), (1, .ref (aC 0)), (2, .ref (aR 0)), (3, .int (nI i))] []) {N : Nat → Int64} {C R : mm_M} (hSim : S C R) {op : Int32} (hop : op = 19) (hi1 : vp_in (nI i + 1) L) (hi2 : vp_in (nI i + 2) L) (hi3 : vp_in (nI i + 3) L) (hi4 : vp_in (nI i + 4) L) : mb_T (p, l, e, s, m, #[Value.ref b], below, meth, c) G (cL_law, 4, RL, ret, 300) room_1 (lw_Z below #[Value.ref b] s) (mm_w aC (mb_shC (mm_gd G aC)) C ++ mm_w aR (mb_shM N (mm_gd G aR)) R) 600000 7302250 32 [(0, .ref b), (1, .ref (aC 0)), (2, .ref (aR 0)), (3, .int (nI i))] [.int op] := by
  refine mb_tabIn 705 19 hop dL_law_32 (by decide) (by decide) rfl (by decide) ?_
  have hsim := hA0.2.2.2.2.2.2.2.2.2.2.2.2.2.2.2.2.2.2.2.1 C R hSim (xs (nI i + 1).toNatClampNeg)
  obtain ⟨r, C', R', e1, e2, hSim'⟩ := hsim
  refine mb_swap ?_
  refine mb_aload_n 706 rfl dL_law_705 rfl 1 rfl ?_
  refine mb_aload_n 707 rfl dL_law_706 rfl 0 rfl ?_
  refine mb_iload_n 708 rfl dL_law_707 rfl 3 rfl ?_
  refine mb_iconst 709 rfl (v := 1) dL_law_708 (by decide) ?_
  refine mb_iadd 710 rfl dL_law_709 ?_
  refine mb_sld 711 rfl dL_law_710 hX hbl hbA hi1 ?_
  refine lj_call (n := 1) (o := 0) (as := [.int (xs (nI i + 1).toNatClampNeg)]) (ad := aC) (M := C) (sh := (mb_shC (mm_gd G aC))) (g := mm_mli (mm_gd G aC) 0) (W0 := (mm_w aR (mb_shM N (mm_gd G aR)) R)) 714 rfl dL_law_711 rfl rfl rfl (ct_X7_pegs (xs (nI i + 1).toNatClampNeg) (lj_isMli (mm_gd G aC) _)) e1 ⟨(Nat.le_of_ble_eq_true rfl), (Nat.le_of_ble_eq_true rfl)⟩ ⟨(Nat.le_of_ble_eq_true rfl), (Nat.le_of_ble_eq_true rfl)⟩ rfl (by decide +kernel) mw_3_74 mw_3_75 mw_3_76 mw_1_1 mw_3_77 rfl rfl (Nat.le_of_ble_eq_true rfl) rfl ?_
  show mb_T (p, l, e, s, m, #[Value.ref b], below, meth, c) G (cL_law, 4, RL, ret, 300) room_1 (lw_Z below #[Value.ref b] s) (mm_w aR (mb_shM N (mm_gd G aR)) R ++ mm_w aC (mb_shC (mm_gd G aC)) C') 600000 7302250 714 [(0, .ref b), (1, .ref (aC 0)), (2, .ref (aR 0)), (3, .int (nI i))] [.int r]
  refine mb_swap ?_
  refine mb_aload_n 715 rfl dL_law_714 rfl 2 rfl ?_
  refine mb_aload_n 716 rfl dL_law_715 rfl 0 rfl ?_
  refine mb_iload_n 717 rfl dL_law_716 rfl 3 rfl ?_
  refine mb_iconst 718 rfl (v := 1) dL_law_717 (by decide) ?_
  refine mb_iadd 719 rfl dL_law_718 ?_
  refine mb_sld 720 rfl dL_law_719 hX hbl hbA hi1 ?_
  refine lj_call (n := 1) (o := 0) (as := [.int (xs (nI i + 1).toNatClampNeg)]) (ad := aR) (M := R) (sh := (mb_shM N (mm_gd G aR))) (g := mm_mod N (mm_gd G aR) 0) (W0 := (mm_w aC (mb_shC (mm_gd G aC)) C')) 723 rfl dL_law_720 rfl rfl rfl (ct_X8_pegs (xs (nI i + 1).toNatClampNeg) (lj_isMod N (mm_gd G aR) _)) e2 ⟨(Nat.le_of_ble_eq_true rfl), (Nat.le_of_ble_eq_true rfl)⟩ ⟨(Nat.le_of_ble_eq_true rfl), (Nat.le_of_ble_eq_true rfl)⟩ rfl (by decide +kernel) mw_5_149 mw_5_150 mw_5_151 mw_1_11 mw_5_152 rfl rfl (Nat.le_of_ble_eq_true rfl) rfl ?_
  show mb_T (p, l, e, s, m, #[Value.ref b], below, meth, c) G (cL_law, 4, RL, ret, 300) room_1 (lw_Z below #[Value.ref b] s) (mm_w aC (mb_shC (mm_gd G aC)) C' ++ mm_w aR (mb_shM N (mm_gd G aR)) R') 600000 7302250 723 [(0, .ref b), (1, .ref (aC 0)), (2, .ref (aR 0)), (3, .int (nI i))] [.int r, .int r]
  refine mb_icmp_eqY 1370 dL_law_723 (by decide) rfl ?_
  refine mb_iinc 1373 rfl dL_law_1370 3 rfl (v := nI (i + 5)) (nI_add i 5) (lv' := [(3, .int (nI (i + 5))), (0, .ref b), (1, .ref (aC 0)), (2, .ref (aR 0))]) (by decide) rfl ?_
  refine mb_goto 18 dL_law_1373 (by decide) ?_
  exact mb_lv [1, 2, 3, 0] rfl (ih (i + 5) N C' R' (by omega) (by omega) hSim')

