section
variable {X : mm_X} {G : mm_G} {Y : mm_Y} {ρ : Type} {fin : ρ → mm_F} {sh : mm_S} {M : mm_M} {pc : Nat} {lv : List (Nat × Value)} {st : List Value} {f : Option ρ}
def mm_let {α β : Type} (a : α) (k : α → β) : β := k a
theorem mm_bM {kf : mm_M → Option ρ} (k : ∀ M1 : mm_M, mm_T X G Y fin sh M1 pc lv st (kf M1)) : mm_T X G Y fin sh M pc lv st (mm_let M kf) := k M
theorem mm_bI {x : Int32} {kf : Int32 → Option ρ} (k : ∀ z : Int32, mm_T X G Y fin sh M pc lv (.int z :: st) (kf z)) : mm_T X G Y fin sh M pc lv (.int x :: st) (mm_let x kf) := k x
theorem mm_bL {x : Int64} {kf : Int64 → Option ρ} (k : ∀ z : Int64, mm_T X G Y fin sh M pc lv (.long z :: st) (kf z)) : mm_T X G Y fin sh M pc lv (.long x :: st) (mm_let x kf) := k x
theorem mm_out {x : Int32} {a b : Int} (lo n : Nat) (hn : lo + n < 2147483648) (h : ∀ j : Nat, j < n → ¬ x = Int32.ofNat (lo + j)) (ha : a = (lo : Int)) (hb : b = (lo : Int) + n - 1) : x.toInt < a ∨ b < x.toInt := by
  subst ha; subst hb
  by_cases h1 : x.toInt < (lo : Int)
  · exact Or.inl h1
  by_cases h2 : (lo : Int) + n - 1 < x.toInt
  · exact Or.inr h2
  exfalso
  have hj : (x.toInt - lo).toNat < n := by omega
  refine h _ hj (Int32.toInt_inj.mp ?_)
  have e : lo + (x.toInt - lo).toNat = x.toInt.toNat := by omega
  rw [e, Int32.toInt_ofNat_of_lt (by omega)]
  omega
/-- a switch by its words, none of them -/
theorem mm_lkno {x : Int32} {l : List (Int × Int)} {d : Int} (h : ∀ q ∈ l, ¬ q.1 = x.toInt) : Op.lookupswitch.offset l d x.toInt = d := by
  induction l with
  | nil => rfl
  | cons a r ih =>
    rw [show (a :: r) = ((a.1, a.2) :: r) from rfl, Op.lookupswitch.offset_cons, if_neg (h a List.mem_cons_self)]
    exact ih (fun q hq => h q (List.mem_cons_of_mem _ hq))
theorem mm_toInt_ne {x v : Int32} {a : Int} (h : ¬ x = v) (ha : v.toInt = a) : ¬ a = x.toInt := fun e => h (Int32.toInt_inj.mp (by rw [ha, e]))
theorem mm_after {p : Program} {l : Launch} {e : Env} {R : Room} {s : State} {m : MethodId} {args : Array Value} {below : List Frame} {meth : Method} {c : Code} {H : Heap} {locs : List Loc} {Q : State → Prop} {ls : Array Slot} {st0 rest : List Value} {F : mm_F} {a : Array Value} (hr : va_Run p l e R s m args below meth c H locs 0 0 0 0 (F0 m pc ls st0) rest (mm_Q G F a) (mm_A G)) (hS : va_S (mm_A G) s.heap H locs) (kk : ∀ (H1 : Heap) (locs1 : List Loc), va_P (mm_D G) vwCl (mm_w (mm_ad G) F.2.1 F.2.2) H1 → va_D (mm_A G) (mm_w (mm_ad G) F.2.1 F.2.2) → va_S (mm_A G) s.heap H1 locs1 → W p l e R s m args below meth c H1 locs1 0 0 Q (F0 m (pc + 3) ls (F.1.toList ++ rest))) : W p l e R s m args below meth c H locs 0 0 Q (F0 m pc ls st0) := by
  intro T hT X
  obtain ⟨v, st₀, t, T', L, h0, X', hL, e1, e2, ⟨⟨hv, hP1, hD1, hE1⟩, hz, hk⟩, st⟩ := hr T hT X
  have hv' : v = F.1 := by injection hv
  subst hv'
  rw [h0] at hz hk
  obtain ⟨t2, a1, b1⟩ := kk T'.heap (locs ++ L) (by rw [e1]; exact hP1) hD1
    ⟨Nat.le_trans hS.1 (by rw [e1]; exact hz), fun q h1 h2 => by rw [e1, hk q (Nat.lt_of_lt_of_le h1 hS.1) h2]; exact hS.2.1 q h1 h2, fun q hq => by
      rcases List.mem_append.mp hq with h | h
      · exact hS.2.2 q h
      · exact hL q h⟩ T' rfl X'
  exact ⟨t2, st t2 a1, b1⟩
theorem mm_blind {as : List Value} : FrameBlind (va_Pc as (mm_Wd G sh M)) := fun a U g mk q => ⟨q.1, q.2.1, q.2.2.1, mm_E_same (u := U) (U := U.calling g mk a) rfl rfl q.2.2.2⟩
theorem mm_good {y : MethodName} {bytes : ByteArray} {maxL : Nat} {ret : Option FieldType} (h : Cond.code y bytes maxL ret ∈ mm_ws) : GoodIn mm_ws (Cond.code y bytes maxL ret :: mm_ws) := fun w hw => by
  rcases List.mem_cons.mp hw with e | e
  · subst e; exact ⟨h, mm_ws_good h⟩
  · exact ⟨e, mm_ws_good e⟩
theorem mm_goodL {l ws : List Cond} (h : ∀ w ∈ l, w ∈ mm_ws) (h2 : GoodIn mm_ws ws) : GoodIn mm_ws (l ++ ws) := fun w hw => by
  rcases List.mem_append.mp hw with e | e
  · exact ⟨h w e, mm_ws_good (h w e)⟩
  · exact h2 w e
theorem mm_callV {i : Nat} {y : MethodName} {Y' : mm_Y} {ρ' : Type} {fin' : ρ' → mm_F} {fc : Option ρ'} {as : List Value} {o : Nat} {g : (Nat → Int32) → va_E} {ci N : Nat} {fs : List Value} {C0 : String} {T0 : u_T} {n : Nat} {st0 : List Value} {kf : ρ' → Option ρ} (q : Nat) (hq : q = pc + 3) (hd : decode Y.1 pc = .ok (.invokevirtual i, 3)) (hs : sh[o]? = some g) (hf : g (M o) = .inr (ci, fs)) (hc : vwCl[ci]? = some (C0, T0, N)) (hk : mm_K X.2.1 G y Y' (.ref (mm_ad G o) :: as) fin' sh M fc) (hdd : Y'.2.2.2.2 < Y.2.2.2.2) (hn : Y'.2.1 ≤ 80) (hy : y.cls = C0) (hde : y.cls ≠ "java/lang/invoke/MethodHandle" ∧ y.cls ≠ "java/lang/invoke/VarHandle" ∧ (parseMethodDescriptor y.desc).map (fun d => d.parameters.length) = some n) (hw1 : Cond.methodLink Y.2.2.1 i y ∈ mm_ws) (hw2 : Cond.instanceMethod y ∈ mm_ws) (hw3 : Cond.selects C0 y y ∈ mm_ws) (hw4 : Cond.initialized C0 ∈ mm_ws) (hw5 : Cond.code y Y'.1 Y'.2.1 Y'.2.2.2.1 ∈ mm_ws) (hln : as.length = n) (hst : st0 = as.reverse ++ .ref (mm_ad G o) :: st) (hcat : (st.map fun v => v.category).sum ≤ 8) (k : ∀ r' : ρ', fc = some r' → mm_T X G Y fin (fin' r').2.1 (fin' r').2.2 q lv ((fin' r').1.toList ++ st) (kf r')) : mm_T X G Y fin sh M pc lv st0 (fc.bind kf) := by
  subst hq; subst hst
  intro C r hr H locs ls hP hD hS hl
  obtain ⟨r', h1, h2⟩ := Option.bind_eq_some_iff.mp hr
  have hR : (mm_rm Y'.2.2.2.2).frames + 1 ≤ (mm_rm Y.2.2.2.2).frames ∧ 8 + (Y'.2.1 + 11) + (mm_rm Y'.2.2.2.2).locals ≤ (mm_rm Y.2.2.2.2).locals := by
    show Y'.2.2.2.2 + 1 ≤ Y.2.2.2.2 ∧ 8 + (Y'.2.1 + 11) + 100 * Y'.2.2.2.2 ≤ 100 * Y.2.2.2.2
    omega
  refine mm_after (va_runV (C := C0) ⟨C.1, C.2.1, C.2.2.1, C.2.2.2.1, C.2.2.2.2.1⟩ (hk r' h1) (cwV n C.2.2.2.2.1 (mm_goodL (List.forall_mem_cons.mpr ⟨hw1, List.forall_mem_cons.mpr ⟨hw2, List.forall_mem_cons.mpr ⟨hw3, List.forall_mem_cons.mpr ⟨hw4, fun _ h => absurd h List.not_mem_nil⟩⟩⟩⟩) (mm_good hw5)) rfl rfl rfl ⟨hy, hde⟩ hR) ⟨mm_blind, va_recv C.2.2.2.2.2.2.2.1 hP hc (by rw [mm_w_get hs, hf]), fun U hU hW => ⟨rfl, by rw [hU]; exact hP, hD, mm_E_warm C.2.2.2.2.2.2.2 hW hS hU⟩⟩ rfl hln hl.1 rfl (by show 2 * 0 + _ ≤ 8; omega) hd ⟨Nat.le_refl _, Nat.le_refl _⟩) hS (fun H1 locs1 hP1 hD1 hS1 => k r' h1 C r h2 H1 locs1 ls hP1 hD1 hS1 hl)
theorem mm_callVN {i : Nat} {y : MethodName} {Y' : mm_Y} {ρ' : Type} {fin' : ρ' → mm_F} {fc : Option ρ'} {as : List Value} {o : Nat} {g : (Nat → Int32) → va_E} {ci N : Nat} {fs : List Value} {C0 : String} {T0 : u_T} {n : Nat} {host : String} {st0 : List Value} {kf : ρ' → Option ρ} (q : Nat) (hq : q = pc + 3) (hd : decode Y.1 pc = .ok (.invokevirtual i, 3)) (hs : sh[o]? = some g) (hf : g (M o) = .inr (ci, fs)) (hc : vwCl[ci]? = some (C0, T0, N)) (hk : mm_K X.2.1 G y Y' (.ref (mm_ad G o) :: as) fin' sh M fc) (hdd : Y'.2.2.2.2 < Y.2.2.2.2) (hn : Y'.2.1 ≤ 80) (hy : y.cls = C0) (hde : y.cls ≠ "java/lang/invoke/MethodHandle" ∧ y.cls ≠ "java/lang/invoke/VarHandle" ∧ (parseMethodDescriptor y.desc).map (fun d => d.parameters.length) = some n) (hw1 : Cond.methodLinkNest Y.2.2.1 i y host ∈ mm_nest) (hw2 : Cond.instanceMethod y ∈ mm_ws) (hw3 : Cond.selects C0 y y ∈ mm_ws) (hw4 : Cond.initialized C0 ∈ mm_ws) (hw5 : Cond.code y Y'.1 Y'.2.1 Y'.2.2.2.1 ∈ mm_ws) (hln : as.length = n) (hst : st0 = as.reverse ++ .ref (mm_ad G o) :: st) (hcat : (st.map fun v => v.category).sum ≤ 8) (k : ∀ r' : ρ', fc = some r' → mm_T X G Y fin (fin' r').2.1 (fin' r').2.2 q lv ((fin' r').1.toList ++ st) (kf r')) : mm_T X G Y fin sh M pc lv st0 (fc.bind kf) := by
  subst hq; subst hst
  intro C r hr H locs ls hP hD hS hl
  obtain ⟨r', h1, h2⟩ := Option.bind_eq_some_iff.mp hr
  have hR : (mm_rm Y'.2.2.2.2).frames + 1 ≤ (mm_rm Y.2.2.2.2).frames ∧ 8 + (Y'.2.1 + 11) + (mm_rm Y'.2.2.2.2).locals ≤ (mm_rm Y.2.2.2.2).locals := by
    show Y'.2.2.2.2 + 1 ≤ Y.2.2.2.2 ∧ 8 + (Y'.2.1 + 11) + 100 * Y'.2.2.2.2 ≤ 100 * Y.2.2.2.2
    omega
  refine mm_after (va_runVN (C := C0) ⟨C.1, C.2.1, C.2.2.1, C.2.2.2.1, C.2.2.2.2.1⟩ (hk r' h1) ⟨va_cnB n C.2.2.2.2.1 (mm_good hw5) rfl rfl rfl (C.2.2.2.2.2.2.2.2.1 _ hw1) (by rw [hy]; exact C.2.2.2.2.1 _ hw4) hde hR, C.2.2.2.2.1 _ hw2, C.2.2.2.2.1 _ hw3⟩ ⟨mm_blind, va_recv C.2.2.2.2.2.2.2.1 hP hc (by rw [mm_w_get hs, hf]), fun U hU hW => ⟨rfl, by rw [hU]; exact hP, hD, mm_E_warm C.2.2.2.2.2.2.2 hW hS hU⟩⟩ rfl hln hl.1 rfl (by show 2 * 0 + _ ≤ 8; omega) hd ⟨Nat.le_refl _, Nat.le_refl _⟩) hS (fun H1 locs1 hP1 hD1 hS1 => k r' h1 C r h2 H1 locs1 ls hP1 hD1 hS1 hl)
theorem mm_callS {i : Nat} {y : MethodName} {Y' : mm_Y} {ρ' : Type} {fin' : ρ' → mm_F} {fc : Option ρ'} {as : List Value} {n : Nat} {st0 : List Value} {kf : ρ' → Option ρ} (q : Nat) (hq : q = pc + 3) (hd : decode Y.1 pc = .ok (.invokestatic i, 3)) (hk : mm_K X.2.1 G y Y' as fin' sh M fc) (hdd : Y'.2.2.2.2 < Y.2.2.2.2) (hn : Y'.2.1 ≤ 80) (hde : y.cls ≠ "java/lang/invoke/MethodHandle" ∧ y.cls ≠ "java/lang/invoke/VarHandle" ∧ (parseMethodDescriptor y.desc).map (fun d => d.parameters.length) = some n) (hw1 : Cond.methodLink Y.2.2.1 i y ∈ mm_ws) (hw2 : Cond.static y ∈ mm_ws) (hw4 : Cond.initialized y.cls ∈ mm_ws) (hw5 : Cond.code y Y'.1 Y'.2.1 Y'.2.2.2.1 ∈ mm_ws) (hln : as.length = n) (hst : st0 = as.reverse ++ st) (hcat : (st.map fun v => v.category).sum ≤ 8) (k : ∀ r' : ρ', fc = some r' → mm_T X G Y fin (fin' r').2.1 (fin' r').2.2 q lv ((fin' r').1.toList ++ st) (kf r')) : mm_T X G Y fin sh M pc lv st0 (fc.bind kf) := by
  subst hq; subst hst
  intro C r hr H locs ls hP hD hS hl
  obtain ⟨r', h1, h2⟩ := Option.bind_eq_some_iff.mp hr
  have hR : (mm_rm Y'.2.2.2.2).frames + 1 ≤ (mm_rm Y.2.2.2.2).frames ∧ 8 + (Y'.2.1 + 11) + (mm_rm Y'.2.2.2.2).locals ≤ (mm_rm Y.2.2.2.2).locals := by
    show Y'.2.2.2.2 + 1 ≤ Y.2.2.2.2 ∧ 8 + (Y'.2.1 + 11) + 100 * Y'.2.2.2.2 ≤ 100 * Y.2.2.2.2
    omega
  refine mm_after (va_runS ⟨C.1, C.2.1, C.2.2.1, C.2.2.2.1, C.2.2.2.2.1⟩ (hk r' h1) (va_cwS n C.2.2.2.2.1 (mm_goodL (List.forall_mem_cons.mpr ⟨hw1, List.forall_mem_cons.mpr ⟨hw2, List.forall_mem_cons.mpr ⟨hw4, fun _ h => absurd h List.not_mem_nil⟩⟩⟩) (mm_good hw5)) rfl rfl rfl hde hR) ⟨mm_blind, fun U hU hW => ⟨rfl, by rw [hU]; exact hP, hD, mm_E_warm C.2.2.2.2.2.2.2 hW hS hU⟩⟩ rfl hln hl.1 rfl (by show 2 * 0 + _ ≤ 8; omega) hd ⟨Nat.le_refl _, Nat.le_refl _⟩) hS (fun H1 locs1 hP1 hD1 hS1 => k r' h1 C r h2 H1 locs1 ls hP1 hD1 hS1 hl)
theorem mm_callSN {i : Nat} {y : MethodName} {Y' : mm_Y} {ρ' : Type} {fin' : ρ' → mm_F} {fc : Option ρ'} {as : List Value} {n : Nat} {host : String} {st0 : List Value} {kf : ρ' → Option ρ} (q : Nat) (hq : q = pc + 3) (hd : decode Y.1 pc = .ok (.invokestatic i, 3)) (hk : mm_K X.2.1 G y Y' as fin' sh M fc) (hdd : Y'.2.2.2.2 < Y.2.2.2.2) (hn : Y'.2.1 ≤ 80) (hde : y.cls ≠ "java/lang/invoke/MethodHandle" ∧ y.cls ≠ "java/lang/invoke/VarHandle" ∧ (parseMethodDescriptor y.desc).map (fun d => d.parameters.length) = some n) (hw1 : Cond.methodLinkNest Y.2.2.1 i y host ∈ mm_nest) (hw2 : Cond.static y ∈ mm_ws) (hw4 : Cond.initialized y.cls ∈ mm_ws) (hw5 : Cond.code y Y'.1 Y'.2.1 Y'.2.2.2.1 ∈ mm_ws) (hln : as.length = n) (hst : st0 = as.reverse ++ st) (hcat : (st.map fun v => v.category).sum ≤ 8) (k : ∀ r' : ρ', fc = some r' → mm_T X G Y fin (fin' r').2.1 (fin' r').2.2 q lv ((fin' r').1.toList ++ st) (kf r')) : mm_T X G Y fin sh M pc lv st0 (fc.bind kf) := by
  subst hq; subst hst
  intro C r hr H locs ls hP hD hS hl
  obtain ⟨r', h1, h2⟩ := Option.bind_eq_some_iff.mp hr
  have hR : (mm_rm Y'.2.2.2.2).frames + 1 ≤ (mm_rm Y.2.2.2.2).frames ∧ 8 + (Y'.2.1 + 11) + (mm_rm Y'.2.2.2.2).locals ≤ (mm_rm Y.2.2.2.2).locals := by
    show Y'.2.2.2.2 + 1 ≤ Y.2.2.2.2 ∧ 8 + (Y'.2.1 + 11) + 100 * Y'.2.2.2.2 ≤ 100 * Y.2.2.2.2
    omega
  refine mm_after (va_runSN ⟨C.1, C.2.1, C.2.2.1, C.2.2.2.1, C.2.2.2.2.1⟩ (hk r' h1) ⟨va_cnB n C.2.2.2.2.1 (mm_good hw5) rfl rfl rfl (C.2.2.2.2.2.2.2.2.1 _ hw1) (C.2.2.2.2.1 _ hw4) hde hR, C.2.2.2.2.1 _ hw2, trivial⟩ ⟨mm_blind, fun U hU hW => ⟨rfl, by rw [hU]; exact hP, hD, mm_E_warm C.2.2.2.2.2.2.2 hW hS hU⟩⟩ rfl hln hl.1 rfl (by show 2 * 0 + _ ≤ 8; omega) hd ⟨Nat.le_refl _, Nat.le_refl _⟩) hS (fun H1 locs1 hP1 hD1 hS1 => k r' h1 C r h2 H1 locs1 ls hP1 hD1 hS1 hl)
def mm_max (x y : Int32) : Int32 := if x < y then y else x
def mm_min (x y : Int32) : Int32 := if y < x then y else x
theorem mm_mmax {i : Nat} {x y : Int32} (q : Nat) (hq : q = pc + 3) (hd : decode Y.1 pc = .ok (.invokestatic i, 3)) (hw1 : Cond.methodLink Y.2.2.1 i Lib.Math.max.name ∈ mm_ws) (hw2 : Cond.static Lib.Math.max.name ∈ mm_ws) (hw3 : Cond.initialized "java/lang/Math" ∈ mm_ws) (hw4 : Cond.code Lib.Math.max.name Lib.Math.max.code 2 (some .int) ∈ mm_ws) (hdd : 1 ≤ Y.2.2.2.2) (hcat : (st.map fun v => v.category).sum ≤ 8) (k : mm_T X G Y fin sh M q lv (.int (mm_max x y) :: st) f) : mm_T X G Y fin sh M pc lv (.int y :: .int x :: st) f := by
  subst hq
  exact fun C r hr H locs ls hP hD hS hl => va_mmax C.1 C.2.1 (C.2.2.1.trans hl.1.symm) C.2.2.2.1 (C.2.2.2.2.1 _ hw1) (C.2.2.2.2.1 _ hw2) (C.2.2.2.2.1 _ hw3) (C.2.2.2.2.1 _ hw4) hdd (by show _ ≤ 100 * Y.2.2.2.2; omega) (Nat.le_refl _) (Nat.le_refl _) hd (k C r hr H locs ls hP hD hS hl)
theorem mm_mmin {i : Nat} {x y : Int32} (q : Nat) (hq : q = pc + 3) (hd : decode Y.1 pc = .ok (.invokestatic i, 3)) (hw1 : Cond.methodLink Y.2.2.1 i Lib.Math.min.name ∈ mm_ws) (hw2 : Cond.static Lib.Math.min.name ∈ mm_ws) (hw3 : Cond.initialized "java/lang/Math" ∈ mm_ws) (hw4 : Cond.code Lib.Math.min.name Lib.Math.min.code 2 (some .int) ∈ mm_ws) (hdd : 1 ≤ Y.2.2.2.2) (hcat : (st.map fun v => v.category).sum ≤ 8) (k : mm_T X G Y fin sh M q lv (.int (mm_min x y) :: st) f) : mm_T X G Y fin sh M pc lv (.int y :: .int x :: st) f := by
  subst hq
  exact fun C r hr H locs ls hP hD hS hl => va_mmin C.1 C.2.1 (C.2.2.1.trans hl.1.symm) C.2.2.2.1 (C.2.2.2.2.1 _ hw1) (C.2.2.2.2.1 _ hw2) (C.2.2.2.2.1 _ hw3) (C.2.2.2.2.1 _ hw4) hdd (by show _ ≤ 100 * Y.2.2.2.2; omega) (Nat.le_refl _) (Nat.le_refl _) hd (k C r hr H locs ls hP hD hS hl)
theorem mm_cpy_fit (v : Int32) : fits .int (.int v) = true := rfl
theorem mm_copy {i : Nat} {a b n m : Nat} {sp dp c : Int32} (q : Nat) (hq : q = pc + 3) (hd : decode Y.1 pc = .ok (.invokestatic i, 3)) (ha : sh[a]? = some (mm_ia G n)) (hb : sh[b]? = some (mm_ia G m)) (h1 : ¬ sp < 0) (h2 : ¬ dp < 0) (h3 : ¬ c < 0) (h4 : sp.toNatClampNeg + c.toNatClampNeg ≤ n) (h5 : dp.toNatClampNeg + c.toNatClampNeg ≤ m) (js jd jc : Nat) (e1 : sp.toNatClampNeg = js) (e2 : dp.toNatClampNeg = jd) (e3 : c.toNatClampNeg = jc) (hw1 : Cond.methodLink Y.2.2.1 i arraycopyName ∈ mm_ws) (hw2 : Cond.native arraycopyName ∈ mm_ws) (hw3 : Cond.static arraycopyName ∈ mm_ws) (hw4 : Cond.initialized "java/lang/System" ∈ mm_ws) (hdd : 1 ≤ Y.2.2.2.2) (hcat : (st.map fun v => v.category).sum ≤ 8) (k : mm_T X G Y fin sh (mm_row M b (va_cpy (M a) (M b) js jd jc)) q lv st f) : mm_T X G Y fin sh M pc lv (.int c :: .int dp :: .ref (mm_ad G b) :: .int sp :: .ref (mm_ad G a) :: st) f := by
  subst hq; subst e1; subst e2; subst e3
  intro C r hr H locs ls hP hD hS hl
  have hw : nativeFrameWords "java/lang/System" "arraycopy" 5 + 19 ≤ 100 := by decide +kernel
  refine va_copyi (D := mm_D G) (ty := .int) C.1 C.2.1 (C.2.2.1.trans hl.1.symm) C.2.2.2.1 (C.2.2.2.2.1 _ hw1) (C.2.2.2.2.1 _ hw2) (C.2.2.2.2.1 _ hw3) (C.2.2.2.2.1 _ hw4) C.2.2.2.2.2.2.2.1 hP hD hS a b 0 0 (mm_w_get ha) (mm_w_get hb) rfl rfl rfl h1 h2 h3 h4 h5 (fun _ _ => rfl) hdd (by show _ ≤ 100 * Y.2.2.2.2; omega) hd (fun H1 locs1 hP1 hD1 hS1 => ?_)
  have e : (mm_w (mm_ad G) sh M).set b (mm_ad G b, .inl (mm_cy G 0, m, .inl (va_cpy (M a) (M b) sp.toNatClampNeg dp.toNatClampNeg c.toNatClampNeg))) = mm_w (mm_ad G) sh (mm_row M b (va_cpy (M a) (M b) sp.toNatClampNeg dp.toNatClampNeg c.toNatClampNeg)) := mm_w_set (f := mm_ia G m) hb
  rw [e] at hP1 hD1
  exact k C r hr H1 locs1 ls hP1 hD1 hS1 hl
/-! static arrays -/
def mm_sav (k : Nat) : Nat → Int32 := match k with
  | 0 => mm_least
  | 1 => mm_most
  | _ => mm_first
def mm_san (k : Nat) : String := match k with
  | 0 => "RULE_LEAST"
  | 1 => "RULE_MOST"
  | _ => "RULE_AT_FIRST"
theorem mm_saZ {X : mm_X} {G : mm_G} {Y : mm_Y} {k : Nat} (C : mm_C X G Y) (hk : k < 3) : va_Z "MangleLine" (mm_san k) "[I" (.ref (mm_sa G k)) (mm_A G) X.2.2.2.1 X.2.2.2.1.heap ∧ va_T .int (mm_sa G k) 5 (fun j => .int (mm_sav k j)) (mm_A G) X.2.2.2.1 X.2.2.2.1.heap := by
  obtain ⟨-, -, -, -, -, -, -, -, -, h0, h1, h2, -⟩ := C
  match k, hk with
  | 0, _ => exact h0
  | 1, _ => exact h1
  | 2, _ => exact h2
theorem mm_gets {i : Nat} (q : Nat) (hq : q = pc + 3) (hd : decode Y.1 pc = .ok (.getstatic i, 3)) (k0 : Nat) (hk : k0 < 3) (hw : Cond.fieldLink Y.2.2.1 i "MangleLine" (mm_san k0) "[I" ∈ mm_ws) (k : mm_T X G Y fin sh M q lv (.ref (mm_sa G k0) :: st) f) : mm_T X G Y fin sh M pc lv st f := by
  subst hq
  exact fun C r hr H locs ls hP hD hS hl => va_gets C.1 C.2.1 (mm_saZ C hk).1 hS C.2.2.2.1 (C.2.2.2.2.1 _ hw) (fun _ h => h) hd (k C r hr H locs ls hP hD hS hl)
theorem mm_getsN {i : Nat} {host : String} (q : Nat) (hq : q = pc + 3) (hd : decode Y.1 pc = .ok (.getstatic i, 3)) (k0 : Nat) (hk : k0 < 3) (hw : Cond.fieldLinkNest Y.2.2.1 i "MangleLine" (mm_san k0) "[I" host ∈ mm_nest) (k : mm_T X G Y fin sh M q lv (.ref (mm_sa G k0) :: st) f) : mm_T X G Y fin sh M pc lv st f := by
  subst hq
  exact fun C r hr H locs ls hP hD hS hl => va_getsN C.1 C.2.1 (mm_saZ C hk).1 hS C.2.2.2.1 (va_Nw.use rfl (C.2.2.2.2.2.2.2.2.1 _ hw)) (fun _ h => h) hd (k C r hr H locs ls hP hD hS hl)
theorem mm_saldK {k0 : Nat} {i : Int32} (q : Nat) (hq : q = pc + 1) (hd : decode Y.1 pc = .ok (.iaload, 1)) (hk : k0 < 3) (h : mm_in i 5 = true) (j : Nat) (hj : i.toNatClampNeg = j) (k : mm_T X G Y fin sh M q lv (.int (mm_sav k0 j) :: st) f) : mm_T X G Y fin sh M pc lv (.int i :: .ref (mm_sa G k0) :: st) f := by
  subst hq; subst hj
  exact fun C r hr H locs ls hP hD hS hl => va_ti C.1 C.2.1 (mm_saZ C hk).2 hS (mm_in_vp h) rfl hd (k C r hr H locs ls hP hD hS hl)
theorem mm_sald {k0 : Nat} {i : Int32} (q : Nat) (hq : q = pc + 1) (hd : decode Y.1 pc = .ok (.iaload, 1)) (hk : k0 < 3) (k : mm_in i 5 = true → mm_T X G Y fin sh M q lv (.int (mm_sav k0 i.toNatClampNeg) :: st) f) : mm_T X G Y fin sh M pc lv (.int i :: .ref (mm_sa G k0) :: st) (if mm_in i 5 then f else none) := by
  by_cases h : mm_in i 5 = true
  · rw [if_pos h]; exact mm_saldK q hq hd hk h _ rfl (k h)
  · rw [if_neg h]; exact mm_none
theorem mm_acst {A : Nat → Prop} {p : Program} {l : Launch} {e : Env} {R : Room} {s : State} {m : MethodId} {args : Array Value} {below : List Frame} {meth : Method} {c : Code} {H : Heap} {locs : List Loc} {cells slots : Nat} {Q : State → Prop} {cc : ByteArray} {ls : Array Slot} {rest : List Value} {D : va_G} {cl : List vw_C} {tys : List (ClassId × FieldType)} {ws : va_W} {a : Nat} {own : String} {index : Nat} {b0 n0 : Nat} {f : Nat → Int32} {c1 : ClassId} {n1 : Nat} {g : Nat → Int32} (hexec : p.tables.exec = Jvm.exec) (hb : c.code = cc) (hml : c.maxLocals = ls.size) (hown : s.vm.findClass own = some m.cls) (hlink : (Cond.methodLink own index arraycopyName).before args s = true) (hnat : (Cond.native arraycopyName).before args s = true) (hstat : (Cond.static arraycopyName).before args s = true) (hini : (Cond.initialized "java/lang/System").before args s = true) (hK : va_K D cl tys s) (hP : va_P D cl ws H) (hD : va_D A ws) (hS : va_S A s.heap H locs) (hX : va_T .int b0 n0 (fun j => .int (f j)) A s s.heap) (q1 t1 : Nat) (ha1 : ws[q1]? = some (a, .inl (c1, n1, .inl g))) (ht1 : tys[t1]? = some (c1, .int)) 
    {sp dp n : Int32} (h1 : ¬ sp < 0) (h2 : ¬ dp < 0) (h3 : ¬ n < 0) (h4 : sp.toNatClampNeg + n.toNatClampNeg ≤ n0) (h5 : dp.toNatClampNeg + n.toNatClampNeg ≤ n1)
    (hframes : 1 ≤ R.frames) (hlocals : (rest.map fun v => v.category).sum + (nativeFrameWords "java/lang/System" "arraycopy" 5 + 11) ≤ R.locals) (hdg : decode cc pc = .ok (.invokestatic index, 3))
    (kk : ∀ (H1 : Heap) (locs1 : List Loc), va_P D cl (ws.set q1 (a, .inl (c1, n1, .inl (va_cpy f g sp.toNatClampNeg dp.toNatClampNeg n.toNatClampNeg)))) H1 → va_D A (ws.set q1 (a, .inl (c1, n1, .inl (va_cpy f g sp.toNatClampNeg dp.toNatClampNeg n.toNatClampNeg)))) → va_S A s.heap H1 locs1 → W p l e R s m args below meth c H1 locs1 cells slots Q (F0 m (pc + 3) ls rest)) : W p l e R s m args below meth c H locs cells slots Q (F0 m pc ls (.int n :: .int dp :: .ref a :: .int sp :: .ref b0 :: rest)) := by
  have nn : ∀ z : Int32, ¬ z < 0 → z.toInt = (z.toNatClampNeg : Int) := by
    intro z hz
    have hz0 : (0 : Int) ≤ z.toInt := by
      have := Int32.not_lt.mp hz
      simpa using Int32.le_iff_toInt_le.mp this
    show z.toInt = ((z.toInt.toNat : Nat) : Int)
    omega
  intro T hT X
  obtain ⟨scr, hs1, hs2, hs3, hs4, -, hs5, hs7⟩ := hX
  have hc0 : H[b0]? = some scr := by rw [hS.2.1 b0 (Array.getElem?_eq_some_iff.mp hs1).1 hs7]; exact hs1
  have hc1 : H[a]? = some (vp_cell c1 (n1, .inl g)) := hP q1 _ ha1
  obtain ⟨hs6, k0, hk0, cm0, hkk0⟩ := hs2
  obtain ⟨-, k1, hk1, cm1, hkk1⟩ := (hK.2 t1 _ ht1).1 n1 (fun j => .int (g j))
  obtain ⟨vm', X', step⟩ := X.arraycopy hexec hown hlink hnat hstat hini (src := b0) (dst := a) (cs := scr) (cd := vp_cell c1 (n1, .inl g)) (srcPos := sp) (destPos := dp) (n := n) (by rw [hT]; exact hc0) (by rw [hT]; exact hc1)
    hs6 (fun _ h => by cases h) hs3 (fun h => by cases h) hk0 hk1 hkk0 hkk1 (by simp [refKind]) h1 h2 h3
    (by rw [nn sp h1, nn n h3]; omega)
    (by rw [nn dp h2, nn n h3]; show ¬ _ > ((arrV c1 n1 (fun j => .int (g j))).slots.size : Int); rw [arrV_size]; omega)
    (fun vm₁ _ i hi => by
      have e : scr.slots.getD (sp.toNatClampNeg + i) .null = .int (f (sp.toNatClampNeg + i)) := by
        rw [Array.getD_eq_getD_getElem?, hs5 _ (by omega)]
        rfl
      refine ⟨?_, ?_⟩
      · rw [e]
        rfl
      · rw [e]
        exact trivial)
    (g := F0 m pc ls (.int n :: .int dp :: .ref a :: .int sp :: .ref b0 :: rest)) rfl (by rw [hml]) (rest := rest) rfl (by rw [hb]; exact hdg) hframes (by show 2 * 0 + _ + _ ≤ _; omega)
  have e1 : copied scr (vp_cell c1 (n1, .inl g)) sp dp n = vp_cell c1 (n1, .inl (va_cpy f g sp.toNatClampNeg dp.toNatClampNeg n.toNatClampNeg)) := va_copiedX (fun z => .int z) scr c1 f g (fun j hj => hs5 j hj) h4
  rw [e1] at X' step
  have hl : a < H.size := (Array.getElem?_eq_some_iff.mp hc1).1
  have hheap : ((T.setVm vm').setCell a (vp_cell c1 (n1, .inl (va_cpy f g sp.toNatClampNeg dp.toNatClampNeg n.toNatClampNeg)))).heap = H.setIfInBounds a (vp_cell c1 (n1, .inl (va_cpy f g sp.toNatClampNeg dp.toNatClampNeg n.toNatClampNeg))) := by rw [← hT]; rfl
  have oq : ∀ q : Nat, q ≠ a → (H.setIfInBounds a (vp_cell c1 (n1, .inl (va_cpy f g sp.toNatClampNeg dp.toNatClampNeg n.toNatClampNeg))))[q]? = H[q]? := fun q hq => by simp [Array.getElem?_setIfInBounds, Ne.symm hq]
  obtain ⟨t, a1, b1⟩ := kk _ _ (hP.set hD ha1 (show (H.setIfInBounds a _)[a]? = some _ by simp [Array.getElem?_setIfInBounds, hl]) oq) (hD.set ha1) ⟨by simp; exact hS.1, fun q g1 g2 => by
      rw [oq q (fun e => g2 (by rw [e]; exact hD.2 q1 _ ha1))]
      exact hS.2.1 q g1 g2, fun q hq => by
      rcases List.mem_append.mp hq with h | h
      · exact hS.2.2 q h
      · obtain ⟨z, -, hz⟩ := List.mem_map.mp h
        rw [← hz]
        exact hD.2 q1 _ ha1⟩ _ hheap X'
  exact ⟨t, step t a1, b1⟩
theorem mm_copyS {i : Nat} {k0 b m : Nat} {sp dp c : Int32} (q : Nat) (hq : q = pc + 3) (hd : decode Y.1 pc = .ok (.invokestatic i, 3)) (hk : k0 < 3) (hb : sh[b]? = some (mm_ia G m)) (h1 : ¬ sp < 0) (h2 : ¬ dp < 0) (h3 : ¬ c < 0) (h4 : sp.toNatClampNeg + c.toNatClampNeg ≤ 5) (h5 : dp.toNatClampNeg + c.toNatClampNeg ≤ m) (js jd jc : Nat) (e1 : sp.toNatClampNeg = js) (e2 : dp.toNatClampNeg = jd) (e3 : c.toNatClampNeg = jc) (hw1 : Cond.methodLink Y.2.2.1 i arraycopyName ∈ mm_ws) (hw2 : Cond.native arraycopyName ∈ mm_ws) (hw3 : Cond.static arraycopyName ∈ mm_ws) (hw4 : Cond.initialized "java/lang/System" ∈ mm_ws) (hdd : 1 ≤ Y.2.2.2.2) (hcat : (st.map fun v => v.category).sum ≤ 8) (k : mm_T X G Y fin sh (mm_row M b (va_cpy (mm_sav k0) (M b) js jd jc)) q lv st f) : mm_T X G Y fin sh M pc lv (.int c :: .int dp :: .ref (mm_ad G b) :: .int sp :: .ref (mm_sa G k0) :: st) f := by
  subst hq; subst e1; subst e2; subst e3
  intro C r hr H locs ls hP hD hS hl
  have hw : nativeFrameWords "java/lang/System" "arraycopy" 5 + 19 ≤ 100 := by decide +kernel
  refine mm_acst (D := mm_D G) C.1 C.2.1 (C.2.2.1.trans hl.1.symm) C.2.2.2.1 (C.2.2.2.2.1 _ hw1) (C.2.2.2.2.1 _ hw2) (C.2.2.2.2.1 _ hw3) (C.2.2.2.2.1 _ hw4) C.2.2.2.2.2.2.2.1 hP hD hS (mm_saZ C hk).2 b 0 (mm_w_get hb) rfl h1 h2 h3 h4 h5 hdd (by show _ ≤ 100 * Y.2.2.2.2; omega) hd (fun H1 locs1 hP1 hD1 hS1 => ?_)
  have e : (mm_w (mm_ad G) sh M).set b (mm_ad G b, .inl (mm_cy G 0, m, .inl (va_cpy (mm_sav k0) (M b) sp.toNatClampNeg dp.toNatClampNeg c.toNatClampNeg))) = mm_w (mm_ad G) sh (mm_row M b (va_cpy (mm_sav k0) (M b) sp.toNatClampNeg dp.toNatClampNeg c.toNatClampNeg)) := mm_w_set (f := mm_ia G m) hb
  rw [e] at hP1 hD1
  exact k C r hr H1 locs1 ls hP1 hD1 hS1 hl
end
