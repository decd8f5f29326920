section
variable {X : mm_X} {G : mm_G} {Y : mm_Y} {ρ : Type} {fin : ρ → mm_F} {sh : mm_S} {M : mm_M} {pc : Nat} {lv : List (Nat × Value)} {st : List Value} {f : Option ρ}
theorem mm_zastK {a n : Nat} {i x : Int32} (q : Nat) (hq : q = pc + 1) (hd : decode Y.1 pc = .ok (.bastore, 1)) (hs : sh[a]? = some (mm_za G n)) (hx : x = 0 ∨ x = 1) (h : mm_in i n = true) (j : Nat) (hj : i.toNatClampNeg = j) (k : mm_T X G Y fin sh (mm_up M a j x) q lv st f) : mm_T X G Y fin sh M pc lv (.int x :: .int i :: .ref (mm_ad G a) :: st) f := by
  subst hq; subst hj
  intro C r hr H locs ls hP hD hS hl
  refine va_zast (D := mm_D G) C.1 C.2.1 C.2.2.2.2.2.2.2.1 hP hD hS a 1 (mm_w_get hs) rfl (mm_in_vp h) hd (fun H1 locs1 hP1 hD1 hS1 => ?_)
  have hn : vp_nar .boolean x = x := by rcases hx with hx | hx <;> subst hx <;> rfl
  rw [hn] at hP1 hD1
  have e : (mm_w (mm_ad G) sh M).set a (mm_ad G a, .inl (mm_cy G 1, n, .inl (upd (M a) i.toNatClampNeg x))) = mm_w (mm_ad G) sh (mm_up M a i.toNatClampNeg x) := mm_w_set (f := mm_za G n) hs
  rw [e] at hP1 hD1
  exact k C r hr H1 locs1 ls hP1 hD1 hS1 hl
theorem mm_zast {a n : Nat} {i x : Int32} (q : Nat) (hq : q = pc + 1) (hd : decode Y.1 pc = .ok (.bastore, 1)) (hs : sh[a]? = some (mm_za G n)) (hx : x = 0 ∨ x = 1) (k : mm_in i n = true → mm_T X G Y fin sh (mm_up M a i.toNatClampNeg x) q lv st f) : mm_T X G Y fin sh M pc lv (.int x :: .int i :: .ref (mm_ad G a) :: st) (if mm_in i n then f else none) := by
  by_cases h : mm_in i n = true
  · rw [if_pos h]; exact mm_zastK q hq hd hs hx h _ rfl (k h)
  · rw [if_neg h]; exact mm_none
/-! String constants -/
theorem mm_sE {X : mm_X} {G : mm_G} {Y : mm_Y} {i : Nat} (C : mm_C X G Y) (hi : i < 10) : va_O "java/lang/String" (mm_aK G i) (mm_A G) X.2.2.2.1 X.2.2.2.1.heap ∧ va_OF "java/lang/String" "coder" "B" (.int 0) (mm_aK G i) (mm_A G) X.2.2.2.1 X.2.2.2.1.heap ∧ va_OF "java/lang/String" "value" "[B" (.ref (mm_aV G i)) (mm_aK G i) (mm_A G) X.2.2.2.1 X.2.2.2.1.heap ∧ va_T .byte (mm_aV G i) (mm_len.getD i 0) (fun j => .int ((mm_byt.getD i []).getD j 0)) (mm_A G) X.2.2.2.1 X.2.2.2.1.heap := by
  obtain ⟨-, -, -, -, -, -, -, -, -, -, -, -, -, -, h⟩ := C
  exact h.1 i hi
theorem mm_ldcS {i : Nat} (q : Nat) (hq : q = pc + 2) (hd : decode Y.1 pc = .ok (.ldc i, 2)) (j : Nat) (hj : j < 10) (hi : mm_wix.getD j 0 = i) (hY : Y.2.2.1 = RX6) (k : mm_T X G Y fin sh M q lv (.ref (mm_aK G j) :: st) f) : mm_T X G Y fin sh M pc lv st f := by
  subst hq; subst hi
  intro C r hr H locs ls hP hD hS hl
  have hE := C.2.2.2.2.2.2.2
  obtain ⟨-, -, -, -, -, -, h10, -⟩ := hE
  exact va_ldcS C.1 C.2.1 C.2.2.2.1 (by rw [hY]; exact h10 j hj) hd (k C r hr H locs ls hP hD hS hl)
theorem mm_sgetV {i : Nat} {j : Nat} (q : Nat) (hq : q = pc + 3) (hd : decode Y.1 pc = .ok (.getfield i, 3)) (hj : j < 10) (hw : Cond.fieldLink Y.2.2.1 i "java/lang/String" "value" "[B" ∈ mm_ws) (k : mm_T X G Y fin sh M q lv (.ref (mm_aV G j) :: st) f) : mm_T X G Y fin sh M pc lv (.ref (mm_aK G j) :: st) f := by
  subst hq
  exact fun C r hr H locs ls hP hD hS hl => vk_getf C.1 C.2.1 (mm_sE C hj).2.2.1 hS C.2.2.2.1 (C.2.2.2.2.1 _ hw) (fun _ h => h) hd (k C r hr H locs ls hP hD hS hl)
theorem mm_sgetC {i : Nat} {j : Nat} (q : Nat) (hq : q = pc + 3) (hd : decode Y.1 pc = .ok (.getfield i, 3)) (hj : j < 10) (hw : Cond.fieldLink Y.2.2.1 i "java/lang/String" "coder" "B" ∈ mm_ws) (k : mm_T X G Y fin sh M q lv (.int 0 :: st) f) : mm_T X G Y fin sh M pc lv (.ref (mm_aK G j) :: st) f := by
  subst hq
  exact fun C r hr H locs ls hP hD hS hl => vk_getf C.1 C.2.1 (mm_sE C hj).2.1 hS C.2.2.2.1 (C.2.2.2.2.1 _ hw) (fun _ h => h) hd (k C r hr H locs ls hP hD hS hl)
theorem mm_scs {i : Nat} (q : Nat) (hq : q = pc + 3) (hd : decode Y.1 pc = .ok (.getstatic i, 3)) (hw : Cond.fieldLink Y.2.2.1 i "java/lang/String" "COMPACT_STRINGS" "Z" ∈ mm_ws) (k : mm_T X G Y fin sh M q lv (.int 1 :: st) f) : mm_T X G Y fin sh M pc lv st f := by
  subst hq
  intro C r hr H locs ls hP hD hS hl
  have hE := C.2.2.2.2.2.2.2
  obtain ⟨-, -, -, -, -, h9, -⟩ := hE
  exact va_gets C.1 C.2.1 h9.1 hS C.2.2.2.1 (C.2.2.2.2.1 _ hw) (fun _ h => h) hd (k C r hr H locs ls hP hD hS hl)
theorem mm_sfo {i : Nat} (q : Nat) (hq : q = pc + 3) (hd : decode Y.1 pc = .ok (.getstatic i, 3)) (hw : Cond.fieldLink Y.2.2.1 i "jdk/internal/util/Preconditions" "SIOOBE_FORMATTER" "Ljava/util/function/BiFunction;" ∈ mm_ws) (k : mm_T X G Y fin sh M q lv (va_rf (mm_fo G) :: st) f) : mm_T X G Y fin sh M pc lv st f := by
  subst hq
  intro C r hr H locs ls hP hD hS hl
  have hE := C.2.2.2.2.2.2.2
  obtain ⟨-, -, -, -, -, h9, -⟩ := hE
  exact va_gets C.1 C.2.1 h9.2.1 hS C.2.2.2.1 (C.2.2.2.2.1 _ hw) (fun _ h => h) hd (k C r hr H locs ls hP hD hS hl)
theorem mm_slen {j : Nat} (q : Nat) (hq : q = pc + 1) (hd : decode Y.1 pc = .ok (.arraylength, 1)) (hj : j < 10) (k : mm_T X G Y fin sh M q lv (.int (Int32.ofNat (mm_len.getD j 0)) :: st) f) : mm_T X G Y fin sh M pc lv (.ref (mm_aV G j) :: st) f := by
  subst hq
  exact fun C r hr H locs ls hP hD hS hl => va_tlen C.1 C.2.1 (mm_sE C hj).2.2.2 hS rfl hd (k C r hr H locs ls hP hD hS hl)
theorem mm_sbld {j : Nat} {i : Int32} (q : Nat) (hq : q = pc + 1) (hd : decode Y.1 pc = .ok (.baload, 1)) (hj : j < 10) (k : mm_T X G Y fin sh M q lv (.int ((mm_byt.getD j []).getD i.toNatClampNeg 0) :: st) f) : mm_T X G Y fin sh M pc lv (.int i :: .ref (mm_aV G j) :: st) (if mm_in i (mm_len.getD j 0) then f else none) := by
  subst hq
  by_cases h : mm_in i (mm_len.getD j 0) = true
  · rw [if_pos h]
    exact fun C r hr H locs ls hP hD hS hl => va_tb C.1 C.2.1 (mm_sE C hj).2.2.2 hS (mm_in_vp h) rfl hd (k C r hr H locs ls hP hD hS hl)
  · rw [if_neg h]; exact mm_none
theorem mm_cret {v : Int32} {r0 : ρ} (hd : decode Y.1 pc = .ok (.ireturn, 1)) (hY : Y.2.2.2.1 = some .char) (hF : fin r0 = (some (.int v), sh, M)) : mm_T X G Y fin sh M pc lv [.int v] (if (v.toUInt32 % 65536).toInt32 = v then some r0 else none) := by
  by_cases h : (v.toUInt32 % 65536).toInt32 = v
  · rw [if_pos h]
    exact mm_zretK hd hY (by rw [← h]; exact pk_nc v) hF
  · rw [if_neg h]; exact mm_none
theorem mm_aretS {rt : FieldType} {a : Nat} {r0 : ρ} (hd : decode Y.1 pc = .ok (.areturn, 1)) (hY : Y.2.2.2.1 = some rt) (hrt : ∃ n, rt = .object n) (hF : fin r0 = (some (.ref a), sh, M)) : mm_T X G Y fin sh M pc lv [.ref a] (some r0) := by
  intro C r hr H locs ls hP hD hS hl
  cases hr
  exact W.aret C.1 C.2.1 (by rw [C.2.2.2.2.2.1, hY]) (Or.inl hrt) (Or.inr ⟨_, rfl⟩) (fun t ht hW => mm_end C hP hD hS hF t ht hW) hS.2.2 hd (hlocks := C.2.2.2.2.2.2.1)
theorem mm_callVs {i : Nat} {y : MethodName} {Y' : mm_Y} {ρ' : Type} {fin' : ρ' → mm_F} {fc : Option ρ'} {as : List Value} {j : Nat} {n : Nat} {st0 : List Value} {kf : ρ' → Option ρ} (q : Nat) (hq : q = pc + 3) (hd : decode Y.1 pc = .ok (.invokevirtual i, 3)) (hj : j < 10) (hk : mm_K X.2.1 G y Y' (.ref (mm_aK G j) :: as) fin' sh M fc) (hdd : Y'.2.2.2.2 < Y.2.2.2.2) (hn : Y'.2.1 ≤ 80) (hy : y.cls = "java/lang/String") (hde : y.cls ≠ "java/lang/invoke/MethodHandle" ∧ y.cls ≠ "java/lang/invoke/VarHandle" ∧ (parseMethodDescriptor y.desc).map (fun d => d.parameters.length) = some n) (hw1 : Cond.methodLink Y.2.2.1 i y ∈ mm_ws) (hw2 : Cond.instanceMethod y ∈ mm_ws) (hw3 : Cond.selects "java/lang/String" y y ∈ mm_ws) (hw4 : Cond.initialized "java/lang/String" ∈ mm_ws) (hw5 : Cond.code y Y'.1 Y'.2.1 Y'.2.2.2.1 ∈ mm_ws) (hln : as.length = n) (hst : st0 = as.reverse ++ .ref (mm_aK G j) :: st) (hcat : (st.map fun v => v.category).sum ≤ 8) (k : ∀ r' : ρ', fc = some r' → mm_T X G Y fin (fin' r').2.1 (fin' r').2.2 q lv ((fin' r').1.toList ++ st) (kf r')) : mm_T X G Y fin sh M pc lv st0 (fc.bind kf) := by
  subst hq; subst hst
  intro C r hr H locs ls hP hD hS hl
  obtain ⟨r', h1, h2⟩ := Option.bind_eq_some_iff.mp hr
  have hR : (mm_rm Y'.2.2.2.2).frames + 1 ≤ (mm_rm Y.2.2.2.2).frames ∧ 8 + (Y'.2.1 + 11) + (mm_rm Y'.2.2.2.2).locals ≤ (mm_rm Y.2.2.2.2).locals := by
    show Y'.2.2.2.2 + 1 ≤ Y.2.2.2.2 ∧ 8 + (Y'.2.1 + 11) + 100 * Y'.2.2.2.2 ≤ 100 * Y.2.2.2.2
    omega
  obtain ⟨cell, g1, g2, g3, -⟩ := ((mm_sE C hj).1).kept hS.2.1
  refine mm_after (va_runV (C := "java/lang/String") ⟨C.1, C.2.1, C.2.2.1, C.2.2.2.1, C.2.2.2.2.1⟩ (hk r' h1) (cwV n C.2.2.2.2.1 (mm_goodL (List.forall_mem_cons.mpr ⟨hw1, List.forall_mem_cons.mpr ⟨hw2, List.forall_mem_cons.mpr ⟨hw3, List.forall_mem_cons.mpr ⟨hw4, fun _ h => absurd h List.not_mem_nil⟩⟩⟩⟩) (mm_good hw5)) rfl rfl rfl ⟨hy, hde⟩ hR) ⟨mm_blind, ⟨cell, g1, g2, g3⟩, fun U hU hW => ⟨rfl, by rw [hU]; exact hP, hD, mm_E_warm C.2.2.2.2.2.2.2 hW hS hU⟩⟩ rfl hln hl.1 rfl (by show 2 * 0 + _ ≤ 8; omega) hd ⟨Nat.le_refl _, Nat.le_refl _⟩) hS (fun H1 locs1 hP1 hD1 hS1 => k r' h1 C r h2 H1 locs1 ls hP1 hD1 hS1 hl)
/-! the model's long fields: its shape moves -/
def mm_sN (G : mm_G) (sh : mm_S) (N : Nat → Int64) : mm_S := sh.set 0 (mm_mod N G 0)
theorem mm_sN0 (h : mm_isMod G sh) (N : Nat → Int64) : (mm_sN G sh N)[0]? = some (mm_mod N G 0) := by
  obtain ⟨⟨N0, h0⟩, -⟩ := h
  have hl : 0 < sh.length := (List.getElem?_eq_some_iff.mp h0).1
  simp [mm_sN, hl]
theorem mm_sNk {k : Nat} (N : Nat → Int64) (hk : 0 ≠ k) : (mm_sN G sh N)[k]? = sh[k]? := by
  unfold mm_sN
  exact List.getElem?_set_ne hk
theorem mm_isMN (h : mm_isMod G sh) (N : Nat → Int64) : mm_isMod G (mm_sN G sh N) := by
  have h' := h
  obtain ⟨-, h1, h2, h3, h4, h5, h6, h7, h8, h9, h10, h11⟩ := h'
  refine ⟨⟨N, mm_sN0 h N⟩, ?_, ?_, ?_, ?_, ?_, ?_, ?_, ?_, ?_, ?_, ?_⟩ <;> rw [mm_sNk N (by decide)] <;> assumption
theorem mm_sN_id {N : Nat → Int64} (h : sh[0]? = some (mm_mod N G 0)) : mm_sN G sh N = sh := by
  apply List.ext_getElem?
  intro k
  by_cases hk : 0 = k
  · subst hk
    have hl : 0 < sh.length := (List.getElem?_eq_some_iff.mp h).1
    rw [h]
    simp [mm_sN, hl]
  · exact mm_sNk N hk
def mm_gv (G : mm_G) (sh : mm_S) : (mm_M × (Nat → Int64)) → mm_F := fun r => (none, mm_sN G sh r.2, r.1)
def mm_gl (G : mm_G) (sh : mm_S) : (Int64 × mm_M × (Nat → Int64)) → mm_F := fun r => (some (.long r.1), mm_sN G sh r.2.2, r.2.1)
theorem mm_bN {N : Nat → Int64} {kf : (Nat → Int64) → Option ρ} (k : ∀ N1 : Nat → Int64, mm_T X G Y fin (mm_sN G sh N1) M pc lv st (kf N1)) : mm_T X G Y fin (mm_sN G sh N) M pc lv st (mm_let N kf) := k N
theorem mm_w_sh {ad : Nat → Nat} {o : Nat} {g : (Nat → Int32) → va_E} (h : o < sh.length) : (mm_w ad sh M).set o (ad o, g (M o)) = mm_w ad (sh.set o g) M := by
  apply List.ext_getElem?
  intro k
  by_cases hk : o = k
  · subst hk
    simp [mm_w, List.getElem?_set, h]
  · simp [mm_w, List.getElem?_set, hk]
theorem mm_getl {i : Nat} {N : Nat → Int64} {v : Int64} (q : Nat) (hq : q = pc + 3) (hd : decode Y.1 pc = .ok (.getfield i, 3)) (hs : sh[0]? = some (mm_mod N G 0)) (j : Nat) (hj : j < 28) (hw : Cond.fieldLink Y.2.2.1 i (TX8 j).1 (TX8 j).2.1 (TX8 j).2.2.1 ∈ mm_ws) (hv : [Value.ref (mm_ad G 1), .ref (mm_ad G 2), .ref (mm_ad G 3), .ref (mm_ad G 4), .int (M 0 4), .int (M 0 5), .ref (mm_ad G 5), .int (M 0 7), .int (M 0 8), .int (M 0 9), .int (M 0 10), .int (M 0 11), .int (M 0 12), .int (M 0 13), .int (M 0 14), .int (M 0 15), .int (M 0 16), .int (M 0 17), .long (N 18), .long (N 19), .long (N 20), .ref (mm_ad G 6), .ref (mm_ad G 7), .ref (mm_ad G 8), .ref (mm_ad G 9), .ref (mm_ad G 10), .int (M 0 26), .ref (mm_ad G 11)][j]? = some (.long v)) (k : mm_T X G Y fin sh M q lv (.long v :: st) f) : mm_T X G Y fin sh M pc lv (.ref (mm_ad G 0) :: st) f :=
  mm_get q hq hd hs rfl rfl in_X8 j hj hw hv k
theorem mm_putl {i : Nat} {N : Nat → Int64} {v : Int64} (q : Nat) (hq : q = pc + 3) (hd : decode Y.1 pc = .ok (.putfield i, 3)) (h0 : mm_isMod G sh) (j : Nat) (hj : j < 28) (hw : Cond.fieldLink Y.2.2.1 i (TX8 j).1 (TX8 j).2.1 (TX8 j).2.2.1 ∈ mm_ws) (hfin : (TX8 j).2.2.2 = false) (hdd : parseFieldDescriptor (TX8 j).2.2.1 = some .long) (hset : mm_mod (vp_updL N j v) G 0 (M 0) = .inr (8, [Value.ref (mm_ad G 1), .ref (mm_ad G 2), .ref (mm_ad G 3), .ref (mm_ad G 4), .int (M 0 4), .int (M 0 5), .ref (mm_ad G 5), .int (M 0 7), .int (M 0 8), .int (M 0 9), .int (M 0 10), .int (M 0 11), .int (M 0 12), .int (M 0 13), .int (M 0 14), .int (M 0 15), .int (M 0 16), .int (M 0 17), .long (N 18), .long (N 19), .long (N 20), .ref (mm_ad G 6), .ref (mm_ad G 7), .ref (mm_ad G 8), .ref (mm_ad G 9), .ref (mm_ad G 10), .int (M 0 26), .ref (mm_ad G 11)].set j (.long v))) (k : mm_T X G Y fin (mm_sN G sh (vp_updL N j v)) M q lv st f) : mm_T X G Y fin (mm_sN G sh N) M pc lv (.long v :: .ref (mm_ad G 0) :: st) f := by
  subst hq
  intro C r hr H locs ls hP hD hS hl
  have hs := mm_sN0 h0 N
  refine va_put (D := mm_D G) (ty := .long) C.1 C.2.1 C.2.2.2.2.1 in_X8 tyX8 tyX8_ok nmX8 C.2.2.2.1 C.2.2.2.2.2.2.2.1 hP hD hS 0 (mm_w_get hs) rfl j hj (C.2.2.2.2.1 _ hw) (fun _ h => h) hfin hdd rfl rfl hj hd (fun H1 locs1 hP1 hD1 hS1 => ?_)
  have hlen : 0 < (mm_sN G sh N).length := (List.getElem?_eq_some_iff.mp hs).1
  have e : (mm_w (mm_ad G) (mm_sN G sh N) M).set 0 (mm_ad G 0, mm_mod (vp_updL N j v) G 0 (M 0)) = mm_w (mm_ad G) (mm_sN G sh (vp_updL N j v)) M := by
    rw [mm_w_sh hlen]
    simp [mm_sN, List.set_set]
  rw [hset] at e
  have hP2 := e ▸ hP1
  have hD2 := e ▸ hD1
  exact k C r hr H1 locs1 ls hP2 hD2 hS1 hl
end
