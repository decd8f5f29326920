theorem mb_imp {X : mm_X} {G : mm_G} {Y : mm_Y} {R : Room} {Q : State → Prop} {ws ws' : va_W} {nc ns pc : Nat} {lv : List (Nat × Value)} {st : List Value} (h1 : ∀ H, va_P (mm_D G) vwCl ws H → va_P (mm_D G) vwCl ws' H) (h2 : ws'.map Prod.fst = ws.map Prod.fst) (k : mb_T X G Y R Q ws' nc ns pc lv st) : mb_T X G Y R Q ws nc ns pc lv st := fun C hA H locs ls hP hD hS hl => by
  refine k C hA H locs ls (h1 H hP) ?_ hS hl
  have h3 := mb_Dmem.mp hD
  refine mb_Dmem.mpr ⟨by rw [h2]; exact h3.1, fun q hq => ?_⟩
  have : q.1 ∈ ws'.map Prod.fst := List.mem_map_of_mem hq
  rw [h2] at this
  obtain ⟨x, hx, e⟩ := List.mem_map.mp this
  rw [← e]
  exact h3.2 x hx
set_option maxRecDepth 100000 in
set_option maxHeartbeats 8000000 in
theorem start_of {p : Program} {e : Env} {s : State} {m : MethodId} {below : List Frame} {meth : Method} {c : Code} (l : Launch) {b L : Nat} {xs : Nat → Int32} (hL : L ≤ 320) (C0 : lw_At p s m meth c b L xs) {S : mm_M → mm_M → Prop} (hA0 : sm_All S) (h0 : S mb_MC mb_MM) : W p l e room_1 s m #[Value.ref b] below meth c s.heap [] 0 0 (lw_Z below #[Value.ref b] s) (entryFrame m ([Value.ref b] : List Value).toArray 4) := by
  obtain ⟨G, hGA, hE⟩ := st_env C0
  have C1 := C0
  obtain ⟨hx, hb, hr, hml, hown, hts, hX, hbl, hlocks, hgv⟩ := C1
  have hAe : ∀ q, mm_A G q → s.heap.size ≤ q := fun q h => by rw [hGA] at h; exact h
  have hbA : ¬ mm_A G b := fun h => absurd (hAe b h) (Nat.not_le.mpr hbl)
  have K : mb_T (p, l, e, s, m, #[Value.ref b], below, meth, c) G (cL_law, 4, RL, ret, 300) room_1 (lw_Z below #[Value.ref b] s) [] 0 0 0 [(0, .ref b)] [] := by
    refine mb_new (ci := 7) (fs := [.null, .null, .null, .null, .null, .null, .null, .null, .null, .null, .int 0]) 3 rfl dL_law_0 rfl in_X7 tyX7 tyX7_ok mw_1_18 mw_1_19 mw_1_1 (fun j hj => by match j, hj with | 0, _ => rfl | 1, _ => rfl | 2, _ => rfl | 3, _ => rfl | 4, _ => rfl | 5, _ => rfl | 6, _ => rfl | 7, _ => rfl | 8, _ => rfl | 9, _ => rfl | 10, _ => rfl | k + 11, hk => exact absurd hk (by omega)) (Nat.le_of_ble_eq_true rfl) (Nat.le_of_ble_eq_true rfl) (fun q1 => ?_)
    refine mb_dup 4 rfl dL_law_3 rfl ?_
    refine mb_callI (as := []) (n := 0) 7 rfl dL_law_4 (cb_X7_init q1) rfl (by decide +kernel) mw_1_20 mw_1_21 mw_1_1 mw_1_22 ⟨(Nat.le_of_ble_eq_true rfl), (Nat.le_of_ble_eq_true rfl)⟩ ⟨(Nat.le_of_ble_eq_true rfl), (Nat.le_of_ble_eq_true rfl)⟩ rfl rfl (Nat.le_of_ble_eq_true rfl) rfl (fun w1 h1 => ?_)
    obtain ⟨aC, f2, f3, f4, T, e0, g2, g3, g4, rfl, hperm⟩ := h1
    subst e0
    refine mb_imp (ws' := [(aC 0, mm_mli (mm_gd G aC) 0 (mb_MC 0)), (aC 15, mm_ra (mm_gd G aC) 3 9 27 7 (mb_MC 15)), (aC 25, mm_ra (mm_gd G aC) 2 2 90 12 (mb_MC 25)), (aC 26, mm_ra (mm_gd G aC) 4 4 114 2 (mb_MC 26))] ++ T) (fun H hP => ?_) rfl ?_
    · refine mb_Pmem.mpr (fun q hq => ?_)
      have hQ := mb_Pmem.mp hP
      rcases List.mem_append.mp hq with h | h
      · simp only [List.mem_cons, List.not_mem_nil, or_false] at h
        rcases h with h | h | h | h
        · subst h; exact hQ _ (List.mem_cons_self)
        · subst h; exact mb_sameR g3 (hQ _ (List.mem_cons_of_mem _ (List.mem_cons_self)))
        · subst h; exact mb_sameR g2 (hQ _ (List.mem_cons_of_mem _ (List.mem_cons_of_mem _ (List.mem_cons_self))))
        · subst h; exact mb_sameR g4 (hQ _ (List.mem_cons_of_mem _ (List.mem_cons_of_mem _ (List.mem_cons_of_mem _ (List.mem_cons_self)))))
      · exact hQ _ (List.mem_append_right _ (List.mem_append_right _ h))
    refine mb_perm hperm ?_
    refine mb_astore_n 8 rfl dL_law_7 rfl (lv' := [(1, .ref (aC 0)), (0, .ref b)]) (by decide) rfl ?_
    refine mb_new (ci := 8) (fs := [.null, .null, .null, .null, .int 0, .int 0, .null, .int 0, .int 0, .int 0, .int 0, .int 0, .int 0, .int 0, .int 0, .int 0, .int 0, .int 0, .long 0, .long 0, .long 0, .null, .null, .null, .null, .null, .int 0, .null]) 11 rfl dL_law_8 rfl in_X8 tyX8 tyX8_ok mw_4_62 mw_4_63 mw_1_11 (fun j hj => by match j, hj with | 0, _ => rfl | 1, _ => rfl | 2, _ => rfl | 3, _ => rfl | 4, _ => rfl | 5, _ => rfl | 6, _ => rfl | 7, _ => rfl | 8, _ => rfl | 9, _ => rfl | 10, _ => rfl | 11, _ => rfl | 12, _ => rfl | 13, _ => rfl | 14, _ => rfl | 15, _ => rfl | 16, _ => rfl | 17, _ => rfl | 18, _ => rfl | 19, _ => rfl | 20, _ => rfl | 21, _ => rfl | 22, _ => rfl | 23, _ => rfl | 24, _ => rfl | 25, _ => rfl | 26, _ => rfl | 27, _ => rfl | k + 28, hk => exact absurd hk (by omega)) (Nat.le_of_ble_eq_true rfl) (Nat.le_of_ble_eq_true rfl) (fun q2 => ?_)
    refine mb_dup 12 rfl dL_law_11 rfl ?_
    refine mb_callI (as := []) (n := 0) 15 rfl dL_law_12 (cb_X8_init q2) rfl (by decide +kernel) mw_4_64 mw_4_65 mw_1_11 mw_4_66 ⟨(Nat.le_of_ble_eq_true rfl), (Nat.le_of_ble_eq_true rfl)⟩ ⟨(Nat.le_of_ble_eq_true rfl), (Nat.le_of_ble_eq_true rfl)⟩ rfl rfl (Nat.le_of_ble_eq_true rfl) rfl (fun w2 h2 => ?_)
    obtain ⟨aR, e2, rfl⟩ := h2
    subst e2
    refine mb_astore_n 16 rfl dL_law_15 rfl (lv' := [(2, .ref (aR 0)), (1, .ref (aC 0)), (0, .ref b)]) (by decide) rfl ?_
    refine mb_iconst 17 rfl (v := 0) dL_law_16 (by decide) ?_
    refine mb_istore_n 18 rfl dL_law_17 rfl (lv' := [(3, .int 0), (2, .ref (aR 0)), (1, .ref (aC 0)), (0, .ref b)]) (by decide) rfl ?_
    refine mb_widen (a := 600000) (b := 7302250) (Nat.le_of_ble_eq_true rfl) (Nat.le_of_ble_eq_true rfl) ?_
    exact mb_lv [3, 2, 1, 0] rfl (law_loop hA0 hX hbl hbA hL hAe (L + 1) 0 mb_N0 mb_MC mb_MM (Nat.zero_le _) (by omega) h0)
  have hl := lv_entry ([.ref b]) (n := 4) (Nat.le_of_ble_eq_true rfl)
  rw [lg_entry_eq]
  generalize (lg_sl ([.ref b]) ++ List.replicate (4 - (lg_sl ([.ref b])).length) Slot.unset).toArray = ls at hl ⊢
  exact K ⟨hx, hb, hml, hown, fun w hw => hts w (mm_ws_tbl hw), hr, hlocks, hE⟩ (fun q h => by rw [hGA]; exact h) s.heap [] ls (fun k q h => by simp at h) ⟨fun i j p q h => by simp at h, fun k q h => by simp at h⟩ va_S.rf hl
