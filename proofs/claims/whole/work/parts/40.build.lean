/-! making: a world that grows -/
def mm_gA (G : mm_G) (A : Nat → Prop) : mm_G := (G.1, G.2.1, A, G.2.2.2)
def mm_gd (G : mm_G) (ad : Nat → Nat) : mm_G := (G.1, ad, G.2.2)
theorem mm_E_narrow {G : mm_G} {U : State} {H : Heap} {B : Nat → Prop} (hB : ∀ q, B q → mm_A G q) (h : mm_E G U H) : mm_E (mm_gA G B) U H := by
  obtain ⟨h1, h2, ⟨h3, h4⟩, ⟨h5, h6⟩, ⟨h7, h8⟩, ⟨h9, h9b, h9c⟩, h10, h11⟩ := h
  exact ⟨h1, h2, ⟨h3.narrow hB, h4.narrow hB⟩, ⟨h5.narrow hB, h6.narrow hB⟩, ⟨h7.narrow hB, h8.narrow hB⟩, ⟨h9.narrow hB, h9b.narrow hB, h9c⟩, h10, h11.narrow hB⟩
def mb_rm (d mc ms : Nat) : Room := { frames := d, cells := mc, slots := ms, locals := 100 * d }
def mb_T (X : mm_X) (G : mm_G) (Y : mm_Y) (R : Room) (Q : State → Prop) (ws : va_W) (nc ns pc : Nat) (lv : List (Nat × Value)) (st : List Value) : Prop :=
  mm_C X G Y → (∀ q, X.2.2.2.1.heap.size ≤ q → mm_A G q) → ∀ (H : Heap) (locs : List Loc) (ls : Array Slot), va_P (mm_D G) vwCl ws H → va_D (mm_A G) ws → va_S (mm_A G) X.2.2.2.1.heap H locs → lv_has ls Y.2.1 lv →
    W X.1 X.2.1 X.2.2.1 R X.2.2.2.1 X.2.2.2.2.1 X.2.2.2.2.2.1 X.2.2.2.2.2.2.1 X.2.2.2.2.2.2.2.1 X.2.2.2.2.2.2.2.2 H locs nc ns Q (F0 X.2.2.2.2.1 pc ls st)
def mb_Qc (G : mm_G) (wc : va_W) (sz : Nat) (Post : va_W → Prop) : Array Value → State → Outcome → State → Prop := fun _ st oc t => (oc = .returned none ∧ ∃ w1 : va_W, Post w1 ∧ va_P (mm_D G) vwCl w1 t.heap ∧ va_D (va_A wc sz) w1) ∧ va_F (va_A wc sz) st t
def mb_Pc (G : mm_G) (wc : va_W) (sz : Nat) : State → Prop := fun U => U.heap.size = sz ∧ va_P (mm_D G) vwCl wc U.heap ∧ va_D (fun _ => True) wc ∧ mm_E (mm_gA G (va_A wc sz)) U U.heap
def mb_K (l : Launch) (G : mm_G) (y : MethodName) (Y : mm_Y) (as : List Value) (mc ms : Nat) (wc : va_W) (Post : va_W → Prop) : Prop :=
  ∀ sz : Nat, Met l y (.code y Y.1 Y.2.1 Y.2.2.2.1 :: mm_ws) (mb_rm Y.2.2.2.2 mc ms) (va_Pc as (mb_Pc G wc sz)) (mb_Qc G wc sz Post) mc ms (va_A wc sz)
def mb_Q (X : mm_X) (G : mm_G) (wc : va_W) (sz mc ms : Nat) (Post : va_W → Prop) : State → Prop := MQ X.2.2.2.2.2.2.1 (mb_Qc G wc sz Post) X.2.2.2.2.2.1 X.2.2.2.1 mc ms (va_A wc sz)
theorem mb_met {l : Launch} {G : mm_G} {y : MethodName} {Y : mm_Y} {as : List Value} {mc ms : Nat} {wc : va_W} {Post : va_W → Prop} (hy : plainName y.cls = true) (hc : y.cls = Y.2.2.1) (hni : y.name = "<init>") (hn : (lg_sl as).length ≤ Y.2.1) (k : ∀ (X : mm_X) (sz : Nat), X.2.1 = l → X.2.2.2.2.2.2.2.1.name = "<init>" → mb_T X (mm_gA G (va_A wc sz)) Y (mb_rm Y.2.2.2.2 mc ms) (mb_Q X G wc sz mc ms Post) wc 0 0 0 (lv_args 0 as) []) : mb_K l G y Y as mc ms wc Post := by
  intro sz
  refine Met.ofW (cc := Y.1) (maxL := Y.2.1) (ret := Y.2.2.2.1) hy rfl ?_
  intro p e s m args below meth c s₁ B hml hv
  obtain ⟨rfl, hsz, hP, hD, hE⟩ := hv
  subst hsz
  have hts : ∀ w ∈ (Cond.code y Y.1 Y.2.1 Y.2.2.2.1 :: mm_ws), w.before as.toArray s = true := atoms_spec (ws := Cond.code y Y.1 Y.2.1 Y.2.2.2.1 :: mm_ws) B.pre
  have hl := lv_entry as (n := Y.2.1) hn
  have hin : meth.name = "<init>" := by rw [← hni]; exact (name_of_methodNamed B.named B.method).1
  rw [lg_entry_eq]
  generalize (lg_sl as ++ List.replicate (Y.2.1 - (lg_sl as).length) Slot.unset).toArray = ls at hl ⊢
  exact k (p, l, e, s, m, as.toArray, below, meth, c) s.heap.size rfl hin ⟨B.exec, B.bytes, hml, by rw [← hc]; exact findClass_of_methodNamed B.named, fun w hw => hts w (List.mem_cons_of_mem _ hw), B.returns, B.notSynchronized, hE⟩ (fun q h => Or.inr h) s.heap [] ls hP (hD.self (sz := s.heap.size)) va_S.rf hl
section
variable {X : mm_X} {G : mm_G} {Y : mm_Y} {R : Room} {Q : State → Prop} {ws : va_W} {nc ns pc : Nat} {lv : List (Nat × Value)} {st : List Value}
theorem mb_lv {lv' : List (Nat × Value)} (ks : List Nat) (hl : lv_pick lv ks = lv') (k : mb_T X G Y R Q ws nc ns pc lv' st) : mb_T X G Y R Q ws nc ns pc lv st :=
  fun C hA H locs ls hP hD hS h => k C hA H locs ls hP hD hS (lv_sub h ks hl)
theorem mb_ws {ws' : va_W} (h : ws = ws') (k : mb_T X G Y R Q ws' nc ns pc lv st) : mb_T X G Y R Q ws nc ns pc lv st := h ▸ k
theorem mb_widen {a b : Nat} (h1 : nc ≤ a) (h2 : ns ≤ b) (k : mb_T X G Y R Q ws a b pc lv st) : mb_T X G Y R Q ws nc ns pc lv st :=
  fun C hA H locs ls hP hD hS h => W.widen h1 h2 (k C hA H locs ls hP hD hS h)
theorem mb_iconst {n : Int} {v : Int32} (q : Nat) (hq : q = pc + 1) (hd : decode Y.1 pc = .ok (.iconst n, 1)) (hv : Int32.ofInt n = v) (k : mb_T X G Y R Q ws nc ns q lv (.int v :: st)) : mb_T X G Y R Q ws nc ns pc lv st := by
  subst hq
  exact fun C hA H locs ls hP hD hS hl => lv_iconst C.1 C.2.1 hd hv (k C hA H locs ls hP hD hS hl)
theorem mb_bipush {n : Int} {v : Int32} (q : Nat) (hq : q = pc + 2) (hd : decode Y.1 pc = .ok (.bipush n, 2)) (hv : (Int8.ofInt n).toInt32 = v) (k : mb_T X G Y R Q ws nc ns q lv (.int v :: st)) : mb_T X G Y R Q ws nc ns pc lv st := by
  subst hq
  exact fun C hA H locs ls hP hD hS hl => lv_bipush C.1 C.2.1 hd hv (k C hA H locs ls hP hD hS hl)
theorem mb_sipush {n : Int} {v : Int32} (q : Nat) (hq : q = pc + 3) (hd : decode Y.1 pc = .ok (.sipush n, 3)) (hv : (Int16.ofInt n).toInt32 = v) (k : mb_T X G Y R Q ws nc ns q lv (.int v :: st)) : mb_T X G Y R Q ws nc ns pc lv st := by
  subst hq
  exact fun C hA H locs ls hP hD hS hl => lv_sipush C.1 C.2.1 hd hv (k C hA H locs ls hP hD hS hl)
theorem mb_iload_n {n : Fin 4} {i : Nat} {x : Int32} (q : Nat) (hq : q = pc + 1) (hd : decode Y.1 pc = .ok (.iload_n n, 1)) (hi : (n : Nat) = i) (j : Nat) (hj : lv[j]? = some (i, .int x)) (k : mb_T X G Y R Q ws nc ns q lv (.int x :: st)) : mb_T X G Y R Q ws nc ns pc lv st := by
  subst hq
  exact fun C hA H locs ls hP hD hS hl => lv_iload_n C.1 C.2.1 hd hi (lv_at hl j hj) (k C hA H locs ls hP hD hS hl)
theorem mb_aload_n {n : Fin 4} {i : Nat} {x : Nat} (q : Nat) (hq : q = pc + 1) (hd : decode Y.1 pc = .ok (.aload_n n, 1)) (hi : (n : Nat) = i) (j : Nat) (hj : lv[j]? = some (i, .ref x)) (k : mb_T X G Y R Q ws nc ns q lv (.ref x :: st)) : mb_T X G Y R Q ws nc ns pc lv st := by
  subst hq
  exact fun C hA H locs ls hP hD hS hl => lv_aload_n C.1 C.2.1 hd hi (lv_at hl j hj) (k C hA H locs ls hP hD hS hl)
theorem mb_istore_n {n : Fin 4} {i : Nat} {x : Int32} {lv' : List (Nat × Value)} (q : Nat) (hq : q = pc + 1) (hd : decode Y.1 pc = .ok (.istore_n n, 1)) (hi : (n : Nat) = i) (hn : i < Y.2.1) (hj : (i, Value.int x) :: lv.filter (fun q => !(q.1 == i) && !(q.1 + 1 == i && q.2.category == 2)) = lv') (k : mb_T X G Y R Q ws nc ns q lv' st) : mb_T X G Y R Q ws nc ns pc lv (.int x :: st) := by
  subst hq
  exact fun C hA H locs ls hP hD hS hl => lv_istore_n C.1 C.2.1 hd hi hl hn hj (fun ls hl => k C hA H locs ls hP hD hS hl)
theorem mb_astore_n {n : Fin 4} {i : Nat} {x : Nat} {lv' : List (Nat × Value)} (q : Nat) (hq : q = pc + 1) (hd : decode Y.1 pc = .ok (.astore_n n, 1)) (hi : (n : Nat) = i) (hn : i < Y.2.1) (hj : (i, Value.ref x) :: lv.filter (fun q => !(q.1 == i) && !(q.1 + 1 == i && q.2.category == 2)) = lv') (k : mb_T X G Y R Q ws nc ns q lv' st) : mb_T X G Y R Q ws nc ns pc lv (.ref x :: st) := by
  subst hq
  exact fun C hA H locs ls hP hD hS hl => lv_astore_n C.1 C.2.1 hd hi hl hn hj (fun ls hl => k C hA H locs ls hP hD hS hl)
theorem mb_iinc {i : Nat} {n : Int} {x : Int32} {v : Int32} {lv' : List (Nat × Value)} (q : Nat) (hq : q = pc + 3) (hd : decode Y.1 pc = .ok (.iinc i n, 3)) (j : Nat) (hk : lv[j]? = some (i, .int x)) (hv : x + Int32.ofInt n = v) (hn : i < Y.2.1) (hj : (i, Value.int v) :: lv.filter (fun q => !(q.1 == i) && !(q.1 + 1 == i && q.2.category == 2)) = lv') (k : mb_T X G Y R Q ws nc ns q lv' st) : mb_T X G Y R Q ws nc ns pc lv st := by
  subst hq
  exact fun C hA H locs ls hP hD hS hl => lv_iinc C.1 C.2.1 hd hl hk hv hn hj (fun ls hl => k C hA H locs ls hP hD hS hl)
theorem mb_dup {a : Value} (q : Nat) (hq : q = pc + 1) (hd : decode Y.1 pc = .ok (.dup, 1)) (ha : a.category = 1) (k : mb_T X G Y R Q ws nc ns q lv (a :: a :: st)) : mb_T X G Y R Q ws nc ns pc lv (a :: st) := by
  subst hq
  exact fun C hA H locs ls hP hD hS hl => lv_dup C.1 C.2.1 hd ha (k C hA H locs ls hP hD hS hl)
theorem mb_icmp_geY {x y : Int32} {off : Int} (t : Nat) (hd : decode Y.1 pc = .ok (.if_icmp .ge off, 3)) (ht : (pc : Int) + off = (t : Int)) (h0 : y ≤ x) (k : mb_T X G Y R Q ws nc ns t lv st) : mb_T X G Y R Q ws nc ns pc lv (.int y :: .int x :: st) := fun C hA H locs ls hP hD hS hl => lv_icmp_ge C.1 C.2.1 hd ht (fun _ => (k C hA H locs ls hP hD hS hl)) (fun h => absurd h0 h)
theorem mb_icmp_geN {x y : Int32} {off : Int} (q t : Nat) (hq : q = pc + 3) (hd : decode Y.1 pc = .ok (.if_icmp .ge off, 3)) (ht : (pc : Int) + off = (t : Int)) (h0 : ¬ y ≤ x) (k : mb_T X G Y R Q ws nc ns q lv st) : mb_T X G Y R Q ws nc ns pc lv (.int y :: .int x :: st) := by
  subst hq
  exact fun C hA H locs ls hP hD hS hl => lv_icmp_ge C.1 C.2.1 hd ht (fun h => absurd h h0) (fun _ => (k C hA H locs ls hP hD hS hl))
theorem mb_goto {off : Int} (t : Nat) (hd : decode Y.1 pc = .ok (.goto off, 3)) (ht : (pc : Int) + off = (t : Int)) (k : mb_T X G Y R Q ws nc ns t lv st) : mb_T X G Y R Q ws nc ns pc lv st := fun C hA H locs ls hP hD hS hl => lv_goto C.1 C.2.1 hd ht (k C hA H locs ls hP hD hS hl)
theorem mb_objInit {i a : Nat} (q : Nat) (hq : q = pc + 3) (hd : decode Y.1 pc = .ok (.invokespecial i, 3)) (hw1 : Cond.methodLink Y.2.2.1 i objectInit ∈ mm_ws) (hw2 : Cond.instanceMethod objectInit ∈ mm_ws) (hw3 : Cond.code objectInit ⟨#[0xb1]⟩ 1 none ∈ mm_ws) (hf : 1 ≤ R.frames) (hcat : (st.map fun v => v.category).sum + 12 ≤ R.locals) (k : mb_T X G Y R Q ws nc ns q lv st) : mb_T X G Y R Q ws nc ns pc lv (.ref a :: st) := by
  subst hq
  exact fun C hA H locs ls hP hD hS hl => W.objInit C.1 C.2.1 C.2.2.2.1 (C.2.2.2.2.1 _ hw1) (C.2.2.2.2.1 _ hw2) (C.2.2.2.2.1 _ hw3) rfl (by rw [C.2.2.1]; exact hl.1) rfl hd hf (by show 2 * 0 + _ + 12 ≤ _; omega) (k C hA H locs ls hP hD hS hl)
theorem mb_new {i : Nat} {ci N : Nat} {C0 : String} {T0 : u_T} {fs : List Value} (q0 : Nat) (hq : q0 = pc + 3) (hd : decode Y.1 pc = .ok (.new i, 3)) (hc : vwCl[ci]? = some (C0, T0, N)) (hin : ∀ w ∈ u_ws C0 T0 N, w ∈ mm_ws) (ty : Nat → FieldType) (hty : ∀ k, k < N → parseFieldDescriptor (T0 k).2.2.1 = some (ty k)) (hw1 : Cond.classLink Y.2.2.1 i C0 ∈ mm_ws) (hw2 : Cond.instantiable C0 N ∈ mm_ws) (hw3 : Cond.initialized C0 ∈ mm_ws) (hfs : ∀ j, j < N → defaultValue (ty j) = vp_V fs j) (h1 : nc + 1 ≤ R.cells) (h2 : ns + N ≤ R.slots) (k : ∀ q : Nat, mb_T X G Y R Q (ws ++ [(q, .inr (ci, fs))]) (nc + 1) (ns + N) q0 lv (.ref q :: st)) : mb_T X G Y R Q ws nc ns pc lv st := by
  subst hq
  exact fun C hA H locs ls hP hD hS hl => va_new C.1 C.2.1 C.2.2.2.2.1 hin ty hty C.2.2.2.1 (C.2.2.2.2.1 _ hw1) (C.2.2.2.2.1 _ hw2) (C.2.2.2.2.1 _ hw3) C.2.2.2.2.2.2.2.1 hP hD hS hA hc hfs h1 h2 hd (fun q H1 hP1 hD1 hS1 => k q C hA H1 locs ls hP1 hD1 hS1 hl)
theorem mb_newi {n : Int32} (q0 : Nat) (hq : q0 = pc + 2) (hd : decode Y.1 pc = .ok (.newarray .int, 2)) (N : Nat) (hn : ¬ n < 0) (hN : n.toNatClampNeg = N) (hb : N * 4 ≤ 536870912) (hw : Cond.arrayClass .int ∈ mm_ws) (h1 : nc + 1 ≤ R.cells) (h2 : ns + N ≤ R.slots) (k : ∀ q : Nat, mb_T X G Y R Q (ws ++ [(q, .inl (mm_cy G 0, N, .inl (fun _ => 0)))]) (nc + 1) (ns + N) q0 lv (.ref q :: st)) : mb_T X G Y R Q ws nc ns pc lv (.int n :: st) := by
  subst hq
  intro C hA H locs ls hP hD hS hl
  refine va_newa (atype := .int) (ty := .int) (N' := N) (a0 := (N, .inl (fun _ => 0))) C.1 C.2.1 (C.2.2.2.2.1 _ hw) rfl C.2.2.2.2.2.2.2.1 hP hD hS hA (fun cA => vp_cell_i cA N _) hn hN hb h1 h2 hd (fun q cA H1 hK1 hP1 hD1 hS1 => ?_)
  have e : cA = mm_cy G 0 := by
    have a := (hK1.2 5 (cA, .int) rfl).2
    have b := (hK1.2 0 (mm_cy G 0, .int) rfl).2
    exact Option.some.inj (a.symm.trans b)
  subst e
  exact k q C hA H1 locs ls hP1 hD1 hS1 hl
theorem mb_newz {n : Int32} (q0 : Nat) (hq : q0 = pc + 2) (hd : decode Y.1 pc = .ok (.newarray .boolean, 2)) (N : Nat) (hn : ¬ n < 0) (hN : n.toNatClampNeg = N) (hb : N * 1 ≤ 536870912) (hw : Cond.arrayClass .boolean ∈ mm_ws) (h1 : nc + 1 ≤ R.cells) (h2 : ns + N ≤ R.slots) (k : ∀ q : Nat, mb_T X G Y R Q (ws ++ [(q, .inl (mm_cy G 1, N, .inl (fun _ => 0)))]) (nc + 1) (ns + N) q0 lv (.ref q :: st)) : mb_T X G Y R Q ws nc ns pc lv (.int n :: st) := by
  subst hq
  intro C hA H locs ls hP hD hS hl
  refine va_newa (atype := .boolean) (ty := .boolean) (N' := N) (a0 := (N, .inl (fun _ => 0))) C.1 C.2.1 (C.2.2.2.2.1 _ hw) rfl C.2.2.2.2.2.2.2.1 hP hD hS hA (fun cA => vp_cell_i cA N _) hn hN hb h1 h2 hd (fun q cA H1 hK1 hP1 hD1 hS1 => ?_)
  have e : cA = mm_cy G 1 := by
    have a := (hK1.2 5 (cA, .boolean) rfl).2
    have b := (hK1.2 1 (mm_cy G 1, .boolean) rfl).2
    exact Option.some.inj (a.symm.trans b)
  subst e
  exact k q C hA H1 locs ls hP1 hD1 hS1 hl
theorem mb_newq {i : Nat} {n : Int32} {E : String} (q0 : Nat) (hq : q0 = pc + 3) (hd : decode Y.1 pc = .ok (.anewarray i, 3)) (N t : Nat) (ht : (mm_ty G)[t]? = some (mm_cy G t, .object E)) (hn : ¬ n < 0) (hN : n.toNatClampNeg = N) (hb : N * 4 ≤ 536870912) (hw : Cond.classLink Y.2.2.1 i E ∈ mm_ws) (ho : mm_E G X.2.2.2.1 X.2.2.2.1.heap → va_AO E X.2.2.2.1) (h1 : nc + 1 ≤ R.cells) (h2 : ns + N ≤ R.slots) (k : ∀ q : Nat, mb_T X G Y R Q (ws ++ [(q, .inl (mm_cy G t, N, .inr (.inr (.inr (.inr (fun _ => none))))))]) (nc + 1) (ns + N) q0 lv (.ref q :: st)) : mb_T X G Y R Q ws nc ns pc lv (.int n :: st) := by
  subst hq
  intro C hA H locs ls hP hD hS hl
  refine va_newq C.1 C.2.1 C.2.2.2.1 (C.2.2.2.2.1 _ hw) (ho C.2.2.2.2.2.2.2) C.2.2.2.2.2.2.2.1 hP hD hS hA hn hN hb h1 h2 hd (fun q cA H1 hK1 hP1 hD1 hS1 => ?_)
  have e : cA = mm_cy G t := by
    obtain ⟨_, _, _, _, _, a⟩ := (hK1.2 5 (cA, .object E) rfl).2
    obtain ⟨_, _, _, _, _, b⟩ := (C.2.2.2.2.2.2.2.1.2 t (mm_cy G t, .object E) ht).2
    exact Option.some.inj (a.symm.trans b)
  subst e
  exact k q C hA H1 locs ls hP1 hD1 hS1 hl
theorem mb_putF {i : Nat} {a ci N : Nat} {fs : List Value} {C0 : String} {T0 : u_T} {ty : FieldType} {v : Value} {ws' : va_W} (q : Nat) (hq : q = pc + 3) (hd : decode Y.1 pc = .ok (.putfield i, 3)) (hm : X.2.2.2.2.2.2.2.1.name = "<init>") (p0 : Nat) (he : ws[p0]? = some (a, .inr (ci, fs))) (hc : vwCl[ci]? = some (C0, T0, N)) (hin : ∀ w ∈ u_ws C0 T0 N, w ∈ mm_ws) (ty0 : Nat → FieldType) (hty : ∀ k, k < N → parseFieldDescriptor (T0 k).2.2.1 = some (ty0 k)) (hnm : ∀ a, a < N → ∀ b, b < N → a ≠ b → (T0 a).2.1 ≠ (T0 b).2.1) (j : Nat) (hj : j < N) (hw : Cond.fieldLink Y.2.2.1 i (T0 j).1 (T0 j).2.1 (T0 j).2.2.1 ∈ mm_ws) (hfin : (T0 j).2.2.2 = true) (hdecl : (T0 j).1 = Y.2.2.1) (hdd : parseFieldDescriptor (T0 j).2.2.1 = some ty) (hn : narrow ty v = v) (hfit : fits ty v = true) (hl0 : j < fs.length) (hws : ws.set p0 (a, .inr (ci, fs.set j v)) = ws') (k : mb_T X G Y R Q ws' nc ns q lv st) : mb_T X G Y R Q ws nc ns pc lv (v :: .ref a :: st) := by
  subst hq; subst hws
  exact fun C hA H locs ls hP hD hS hl => va_putF (D := mm_D G) C.1 C.2.1 C.2.2.2.2.1 hin ty0 hty hnm C.2.2.2.1 C.2.2.2.2.2.2.2.1 hP hD hS p0 he hc j hj (C.2.2.2.2.1 _ hw) (fun _ h => h) hfin hm hdecl hdd hn hfit hl0 hd (fun H1 locs1 hP1 hD1 hS1 => k C hA H1 locs1 ls hP1 hD1 hS1 hl)
theorem mb_put {i : Nat} {a ci N : Nat} {fs : List Value} {C0 : String} {T0 : u_T} {ty : FieldType} {v : Value} {ws' : va_W} (q : Nat) (hq : q = pc + 3) (hd : decode Y.1 pc = .ok (.putfield i, 3)) (p0 : Nat) (he : ws[p0]? = some (a, .inr (ci, fs))) (hc : vwCl[ci]? = some (C0, T0, N)) (hin : ∀ w ∈ u_ws C0 T0 N, w ∈ mm_ws) (ty0 : Nat → FieldType) (hty : ∀ k, k < N → parseFieldDescriptor (T0 k).2.2.1 = some (ty0 k)) (hnm : ∀ a, a < N → ∀ b, b < N → a ≠ b → (T0 a).2.1 ≠ (T0 b).2.1) (j : Nat) (hj : j < N) (hw : Cond.fieldLink Y.2.2.1 i (T0 j).1 (T0 j).2.1 (T0 j).2.2.1 ∈ mm_ws) (hfin : (T0 j).2.2.2 = false) (hdd : parseFieldDescriptor (T0 j).2.2.1 = some ty) (hn : narrow ty v = v) (hfit : fits ty v = true) (hl0 : j < fs.length) (hws : ws.set p0 (a, .inr (ci, fs.set j v)) = ws') (k : mb_T X G Y R Q ws' nc ns q lv st) : mb_T X G Y R Q ws nc ns pc lv (v :: .ref a :: st) := by
  subst hq; subst hws
  exact fun C hA H locs ls hP hD hS hl => va_put (D := mm_D G) C.1 C.2.1 C.2.2.2.2.1 hin ty0 hty hnm C.2.2.2.1 C.2.2.2.2.2.2.2.1 hP hD hS p0 he hc j hj (C.2.2.2.2.1 _ hw) (fun _ h => h) hfin hdd hn hfit hl0 hd (fun H1 locs1 hP1 hD1 hS1 => k C hA H1 locs1 ls hP1 hD1 hS1 hl)
theorem mb_get {i : Nat} {a ci N : Nat} {fs : List Value} {C0 : String} {T0 : u_T} {v : Value} (q : Nat) (hq : q = pc + 3) (hd : decode Y.1 pc = .ok (.getfield i, 3)) (p0 : Nat) (he : ws[p0]? = some (a, .inr (ci, fs))) (hc : vwCl[ci]? = some (C0, T0, N)) (hin : ∀ w ∈ u_ws C0 T0 N, w ∈ mm_ws) (j : Nat) (hj : j < N) (hw : Cond.fieldLink Y.2.2.1 i (T0 j).1 (T0 j).2.1 (T0 j).2.2.1 ∈ mm_ws) (hv : fs[j]? = some v) (k : mb_T X G Y R Q ws nc ns q lv (v :: st)) : mb_T X G Y R Q ws nc ns pc lv (.ref a :: st) := by
  subst hq
  exact fun C hA H locs ls hP hD hS hl => va_get (D := mm_D G) C.1 C.2.1 C.2.2.2.2.1 hin C.2.2.2.1 C.2.2.2.2.2.2.2.1 hP p0 he hc j hj (C.2.2.2.2.1 _ hw) (fun _ h => h) hv hd (k C hA H locs ls hP hD hS hl)
theorem mb_alen {a : Nat} {x : vp_A} {ty : FieldType} {v : Int32} (q : Nat) (hq : q = pc + 1) (hd : decode Y.1 pc = .ok (.arraylength, 1)) (p0 t : Nat) (he : ws[p0]? = some (a, .inl (mm_cy G t, x))) (ht : (mm_ty G)[t]? = some (mm_cy G t, ty)) (hv : Int32.ofNat x.1 = v) (k : mb_T X G Y R Q ws nc ns q lv (.int v :: st)) : mb_T X G Y R Q ws nc ns pc lv (.ref a :: st) := by
  subst hq
  exact fun C hA H locs ls hP hD hS hl => va_alen (D := mm_D G) C.1 C.2.1 C.2.2.2.2.2.2.2.1 hP p0 t he ht hv hd (k C hA H locs ls hP hD hS hl)
theorem mb_iast {a n : Nat} {f : Nat → Int32} {i x : Int32} {ws' : va_W} (q : Nat) (hq : q = pc + 1) (hd : decode Y.1 pc = .ok (.iastore, 1)) (p0 : Nat) (he : ws[p0]? = some (a, .inl (mm_cy G 0, n, .inl f))) (hi : mm_in i n = true) (hws : ws.set p0 (a, .inl (mm_cy G 0, n, .inl (upd f i.toNatClampNeg x))) = ws') (k : mb_T X G Y R Q ws' nc ns q lv st) : mb_T X G Y R Q ws nc ns pc lv (.int x :: .int i :: .ref a :: st) := by
  subst hq; subst hws
  exact fun C hA H locs ls hP hD hS hl => va_iast (D := mm_D G) C.1 C.2.1 C.2.2.2.2.2.2.2.1 hP hD hS p0 0 he rfl (mm_in_vp hi) hd (fun H1 locs1 hP1 hD1 hS1 => k C hA H1 locs1 ls hP1 hD1 hS1 hl)
theorem mb_aast {a n v : Nat} {r : vw_C} {vs : List Value} {f : Nat → Option Nat} {i : Int32} {ws' : va_W} (q : Nat) (hq : q = pc + 1) (hd : decode Y.1 pc = .ok (.aastore, 1)) (p0 t pk ci : Nat) (he : ws[p0]? = some (a, .inl (mm_cy G t, n, .inr (.inr (.inr (.inr f)))))) (ht : (mm_ty G)[t]? = some (mm_cy G t, .object r.1)) (hv : ws[pk]? = some (v, .inr (ci, vs))) (hc : vwCl[ci]? = some r) (hi : mm_in i n = true) (hws : ws.set p0 (a, .inl (mm_cy G t, n, .inr (.inr (.inr (.inr (va_up f i.toNatClampNeg (some v))))))) = ws') (k : mb_T X G Y R Q ws' nc ns q lv st) : mb_T X G Y R Q ws nc ns pc lv (.ref v :: .int i :: .ref a :: st) := by
  subst hq; subst hws
  exact fun C hA H locs ls hP hD hS hl => va_astq (D := mm_D G) C.1 C.2.1 C.2.2.2.2.2.2.2.1 hP hD hS p0 t pk ci he ht hv hc (mm_in_vp hi) hd (fun H1 locs1 hP1 hD1 hS1 => k C hA H1 locs1 ls hP1 hD1 hS1 hl)
theorem mb_vret {wc : va_W} {sz : Nat} {Post : va_W → Prop} {B : Nat → Prop} (hd : decode Y.1 pc = .ok (.return_, 1)) (hY : Y.2.2.2.1 = none) (hB : B = va_A wc sz) (hp : Post ws) : mb_T X (mm_gA G B) Y R (mb_Q X G wc sz nc ns Post) ws nc ns pc lv [] := by
  subst hB
  intro C hA H locs ls hP hD hS hl
  exact W.vret C.1 C.2.1 (by rw [C.2.2.2.2.2.1, hY]) (fun t ht hW => ⟨⟨rfl, ws, hp, by rw [ht]; exact hP, hD⟩, hS.F ht⟩) hS.2.2 hd (hlocks := C.2.2.2.2.2.2.1)
theorem mb_Pleft {D : va_G} {a b : va_W} {H : Heap} (h : va_P D vwCl (a ++ b) H) : va_P D vwCl a H := fun k q hk => h k q (by rw [List.getElem?_append_left (List.getElem?_eq_some_iff.mp hk).1]; exact hk)
theorem mb_Pright {D : va_G} {a b : va_W} {H : Heap} (h : va_P D vwCl (a ++ b) H) : va_P D vwCl b H := fun k q hk => h (a.length + k) q (by rw [List.getElem?_append_right (Nat.le_add_right _ _), Nat.add_sub_cancel_left]; exact hk)
theorem mb_Dleft {A : Nat → Prop} {a b : va_W} (h : va_D A (a ++ b)) : va_D A a := ⟨fun i j p q hi hj e => h.1 i j p q (by rw [List.getElem?_append_left (List.getElem?_eq_some_iff.mp hi).1]; exact hi) (by rw [List.getElem?_append_left (List.getElem?_eq_some_iff.mp hj).1]; exact hj) e, fun k q hk => h.2 k q (by rw [List.getElem?_append_left (List.getElem?_eq_some_iff.mp hk).1]; exact hk)⟩
theorem mb_Dright {A : Nat → Prop} {a b : va_W} (h : va_D A (a ++ b)) : va_D A b := ⟨fun i j p q hi hj e => by
    have := h.1 (a.length + i) (a.length + j) p q (by rw [List.getElem?_append_right (Nat.le_add_right _ _), Nat.add_sub_cancel_left]; exact hi) (by rw [List.getElem?_append_right (Nat.le_add_right _ _), Nat.add_sub_cancel_left]; exact hj) e
    omega, fun k q hk => h.2 (a.length + k) q (by rw [List.getElem?_append_right (Nat.le_add_right _ _), Nat.add_sub_cancel_left]; exact hk)⟩
theorem mb_Dcross {A : Nat → Prop} {a b : va_W} {i j : Nat} {p q : Nat × va_E} (h : va_D A (a ++ b)) (hi : a[i]? = some p) (hj : b[j]? = some q) : p.1 ≠ q.1 := fun e => by
  have hl := (List.getElem?_eq_some_iff.mp hi).1
  have := h.1 i (a.length + j) p q (by rw [List.getElem?_append_left hl]; exact hi) (by rw [List.getElem?_append_right (Nat.le_add_right _ _), Nat.add_sub_cancel_left]; exact hj) e
  omega
/-- behind a making of the last cell: the cells ahead are as they were -/
theorem mb_joined {A : Nat → Prop} {D : va_G} {W0 wc w1 : va_W} {H H1 : Heap} (hP : va_P D vwCl (W0 ++ wc) H) (hD : va_D A (W0 ++ wc)) (hk : ∀ q : Nat, q < H.size → ¬ va_A wc H.size q → H1[q]? = H[q]?) (hF : ∀ q, va_A wc H.size q → A q) (hP1 : va_P D vwCl w1 H1) (hD1 : va_D (va_A wc H.size) w1) : va_P D vwCl (W0 ++ w1) H1 ∧ va_D A (W0 ++ w1) := by
  have apart : ∀ (k : Nat) (q : Nat × va_E), W0[k]? = some q → q.1 < H.size ∧ ¬ va_A wc H.size q.1 := by
    intro k q hq
    have hl := ((mb_Pleft hP) k q hq).lt
    refine ⟨hl, fun h => ?_⟩
    rcases h with ⟨k2, e, h⟩ | h
    · exact mb_Dcross hD hq h rfl
    · omega
  refine ⟨va_P.app (fun k q hq => ?_) hP1, va_D.app (mb_Dleft hD) (hD1.weaken (fun k q _ h => hF q.1 h)) (fun i j x y hx hy hxy => ?_)⟩
  · obtain ⟨g1, g2⟩ := apart k q hq
    exact ((mb_Pleft hP) k q hq).kept (hk q.1 g1 g2)
  · exact (apart i x hx).2 (by rw [hxy]; exact hD1.2 j y hy)
theorem mb_blind {as : List Value} {wc : va_W} {sz : Nat} : FrameBlind (va_Pc as (mb_Pc G wc sz)) := fun a U g mk q => ⟨q.1, q.2.1, q.2.2.1, q.2.2.2.1, mm_E_same (u := U) (U := U.calling g mk a) rfl rfl q.2.2.2.2⟩
theorem mb_made {p : Program} {l : Launch} {e : Env} {s : State} {m : MethodId} {args : Array Value} {below : List Frame} {meth : Method} {c : Code} {H : Heap} {locs : List Loc} {ls : Array Slot} {st0 rest : List Value} {W0 wc : va_W} {mc ms : Nat} {Post : va_W → Prop} {a : Array Value} (hr : va_Run p l e R s m args below meth c H locs nc ns mc ms (F0 m pc ls st0) rest (mb_Qc G wc H.size Post a) (va_A wc H.size)) (hP : va_P (mm_D G) vwCl (W0 ++ wc) H) (hD : va_D (mm_A G) (W0 ++ wc)) (hF : ∀ q, va_A wc H.size q → mm_A G q) (hS : va_S (mm_A G) s.heap H locs) (kk : ∀ (w1 : va_W) (H1 : Heap) (locs1 : List Loc), Post w1 → va_P (mm_D G) vwCl (W0 ++ w1) H1 → va_D (mm_A G) (W0 ++ w1) → va_S (mm_A G) s.heap H1 locs1 → W p l e R s m args below meth c H1 locs1 (nc + mc) (ns + ms) Q (F0 m (pc + 3) ls rest)) : W p l e R s m args below meth c H locs nc ns Q (F0 m pc ls st0) := by
  intro T hT X
  obtain ⟨v, st₀, t, T', L, h0, X', hL, e1, e2, ⟨⟨hv, w1, hp, hP1, hD1⟩, hz, hk⟩, stp⟩ := hr T hT X
  have hv' : v = none := by injection hv
  subst hv'
  rw [h0] at hz hk
  obtain ⟨hP2, hD2⟩ := mb_joined (H1 := T'.heap) hP hD (fun q h1 h2 => by rw [e1]; exact hk q h1 h2) hF (by rw [e1]; exact hP1) hD1
  obtain ⟨t2, a1, b1⟩ := kk w1 T'.heap (locs ++ L) hp hP2 hD2
    ⟨Nat.le_trans hS.1 (by rw [e1]; exact hz), fun q h1 h2 => by rw [e1, hk q (Nat.lt_of_lt_of_le h1 hS.1) (fun z => h2 (hF q z))]; exact hS.2.1 q h1 h2, fun q hq => by
      rcases List.mem_append.mp hq with h | h
      · exact hS.2.2 q h
      · exact hF _ (hL q h)⟩ T' rfl X'
  exact ⟨t2, stp t2 a1, b1⟩
theorem mb_callIN {i : Nat} {y : MethodName} {cc' : ByteArray} {nL' d' : Nat} {own' : String} {as : List Value} {mc ms b : Nat} {e0 : va_E} {Post : va_W → Prop} {W0 : va_W} {n : Nat} {host : String} {st0 : List Value} (q : Nat) (hq : q = pc + 3) (hd : decode Y.1 pc = .ok (.invokespecial i, 3)) (hk : mb_K X.2.1 G y (cc', nL', own', none, d') (.ref b :: as) mc ms [(b, e0)] Post) (hni : y.name = "<init>") (hde : y.cls ≠ "java/lang/invoke/MethodHandle" ∧ y.cls ≠ "java/lang/invoke/VarHandle" ∧ (parseMethodDescriptor y.desc).map (fun d => d.parameters.length) = some n) (hw1 : Cond.methodLinkNest Y.2.2.1 i y host ∈ mm_nest) (hw2 : Cond.instanceMethod y ∈ mm_ws) (hw4 : Cond.initialized y.cls ∈ mm_ws) (hw5 : Cond.code y cc' nL' none ∈ mm_ws) (hR : d' + 1 ≤ R.frames ∧ 8 + (nL' + 11) + 100 * d' ≤ R.locals) (hcs : nc + mc ≤ R.cells ∧ ns + ms ≤ R.slots) (hln : as.length = n) (hst : st0 = as.reverse ++ .ref b :: st) (hcat : (st.map fun v => v.category).sum ≤ 8) (hws : ws = W0 ++ [(b, e0)]) (k : ∀ w1 : va_W, Post w1 → mb_T X G Y R Q (W0 ++ w1) (nc + mc) (ns + ms) q lv st) : mb_T X G Y R Q ws nc ns pc lv st0 := by
  subst hq; subst hst; subst hws
  intro C hA H locs ls hP hD hS hl
  have hF : ∀ q, va_A [(b, e0)] H.size q → mm_A G q := by
    intro q h
    rcases h with ⟨k2, e, h⟩ | h
    · exact (mb_Dright hD).2 k2 _ h
    · exact hA q (Nat.le_trans hS.1 h)
  refine mb_made (G := G) (va_runIN ⟨C.1, C.2.1, C.2.2.1, C.2.2.2.1, C.2.2.2.2.1⟩ (hk H.size) ⟨va_cnB n C.2.2.2.2.1 (mm_good hw5) rfl rfl rfl (C.2.2.2.2.2.2.2.2.1 _ hw1) (C.2.2.2.2.1 _ hw4) hde hR, hni, C.2.2.2.2.1 _ hw2⟩ ⟨mb_blind, fun U hU hW => ⟨rfl, by rw [hU], by rw [hU]; exact mb_Pright hP, (mb_Dright hD).weaken (fun _ _ _ _ => trivial), mm_E_narrow hF (mm_E_warm C.2.2.2.2.2.2.2 hW hS hU)⟩⟩ rfl hln hl.1 rfl (by show 2 * 0 + _ ≤ 8; omega) hd hcs) hP hD hF hS (fun w1 H1 locs1 hp hP1 hD1 hS1 => k w1 hp C hA H1 locs1 ls hP1 hD1 hS1 hl)
theorem mb_callI {i : Nat} {y : MethodName} {cc' : ByteArray} {nL' d' : Nat} {own' : String} {as : List Value} {mc ms b : Nat} {e0 : va_E} {Post : va_W → Prop} {W0 : va_W} {n : Nat} {st0 : List Value} (q : Nat) (hq : q = pc + 3) (hd : decode Y.1 pc = .ok (.invokespecial i, 3)) (hk : mb_K X.2.1 G y (cc', nL', own', none, d') (.ref b :: as) mc ms [(b, e0)] Post) (hni : y.name = "<init>") (hde : y.cls ≠ "java/lang/invoke/MethodHandle" ∧ y.cls ≠ "java/lang/invoke/VarHandle" ∧ (parseMethodDescriptor y.desc).map (fun d => d.parameters.length) = some n) (hw1 : Cond.methodLink Y.2.2.1 i y ∈ mm_ws) (hw2 : Cond.instanceMethod y ∈ mm_ws) (hw4 : Cond.initialized y.cls ∈ mm_ws) (hw5 : Cond.code y cc' nL' none ∈ mm_ws) (hR : d' + 1 ≤ R.frames ∧ 8 + (nL' + 11) + 100 * d' ≤ R.locals) (hcs : nc + mc ≤ R.cells ∧ ns + ms ≤ R.slots) (hln : as.length = n) (hst : st0 = as.reverse ++ .ref b :: st) (hcat : (st.map fun v => v.category).sum ≤ 8) (hws : ws = W0 ++ [(b, e0)]) (k : ∀ w1 : va_W, Post w1 → mb_T X G Y R Q (W0 ++ w1) (nc + mc) (ns + ms) q lv st) : mb_T X G Y R Q ws nc ns pc lv st0 := by
  subst hq; subst hst; subst hws
  intro C hA H locs ls hP hD hS hl
  have hF : ∀ q, va_A [(b, e0)] H.size q → mm_A G q := by
    intro q h
    rcases h with ⟨k2, e, h⟩ | h
    · exact (mb_Dright hD).2 k2 _ h
    · exact hA q (Nat.le_trans hS.1 h)
  refine mb_made (G := G) (va_runI ⟨C.1, C.2.1, C.2.2.1, C.2.2.2.1, C.2.2.2.2.1⟩ (hk H.size) (cwI n C.2.2.2.2.1 (mm_good hw5) rfl rfl rfl (C.2.2.2.2.1 _ hw4) (C.2.2.2.2.1 _ hw1) (C.2.2.2.2.1 _ hw2) hni hde hR) ⟨mb_blind, fun U hU hW => ⟨rfl, by rw [hU], by rw [hU]; exact mb_Pright hP, (mb_Dright hD).weaken (fun _ _ _ _ => trivial), mm_E_narrow hF (mm_E_warm C.2.2.2.2.2.2.2 hW hS hU)⟩⟩ rfl hln hl.1 rfl (by show 2 * 0 + _ ≤ 8; omega) hd hcs) hP hD hF hS (fun w1 H1 locs1 hp hP1 hD1 hS1 => k w1 hp C hA H1 locs1 ls hP1 hD1 hS1 hl)
theorem mb_callT {i : Nat} {y : MethodName} {cc' : ByteArray} {nL' d' : Nat} {own' : String} {o : Nat} {sh : mm_S} {M M1 : mm_M} {g : (Nat → Int32) → va_E} {ci N : Nat} {fs : List Value} {C0 : String} {T0 : u_T} {fc : Option mm_M} (q : Nat) (hq : q = pc + 3) (hd : decode Y.1 pc = .ok (.invokevirtual i, 3)) (hs : sh[o]? = some g) (hf : g (M o) = .inr (ci, fs)) (hc : vwCl[ci]? = some (C0, T0, N)) (hk : mm_K X.2.1 G y (cc', nL', own', none, d') [.ref (mm_ad G o)] (mm_fv sh) sh M fc) (hfc : fc = some M1) (hR : d' + 1 ≤ R.frames ∧ 8 + (nL' + 11) + 100 * d' ≤ R.locals) (hcs : nc ≤ R.cells ∧ ns ≤ R.slots) (hy : y.cls = C0) (hde : y.cls ≠ "java/lang/invoke/MethodHandle" ∧ y.cls ≠ "java/lang/invoke/VarHandle" ∧ (parseMethodDescriptor y.desc).map (fun d => d.parameters.length) = some 0) (hw1 : Cond.methodLink Y.2.2.1 i y ∈ mm_ws) (hw2 : Cond.instanceMethod y ∈ mm_ws) (hw3 : Cond.selects C0 y y ∈ mm_ws) (hw4 : Cond.initialized C0 ∈ mm_ws) (hw5 : Cond.code y cc' nL' none ∈ mm_ws) (hcat : (st.map fun v => v.category).sum ≤ 8) (hws : ws = mm_w (mm_ad G) sh M) (k : mb_T X G Y R Q (mm_w (mm_ad G) sh M1) nc ns q lv st) : mb_T X G Y R Q ws nc ns pc lv (.ref (mm_ad G o) :: st) := by
  subst hq; subst hws
  intro C hA H locs ls hP hD hS hl
  have hr := va_runV (C := C0) (rest := st) (g := F0 X.2.2.2.2.1 pc ls (.ref (mm_ad G o) :: st)) (cells := nc) (slots := ns) (locs := locs) (below := X.2.2.2.2.2.2.1) (meth := X.2.2.2.2.2.2.2.1) (e := X.2.2.1) (R := R) ⟨C.1, C.2.1, C.2.2.1, C.2.2.2.1, C.2.2.2.2.1⟩ (hk M1 hfc) (cwV 0 C.2.2.2.2.1 (mm_goodL (List.forall_mem_cons.mpr ⟨hw1, List.forall_mem_cons.mpr ⟨hw2, List.forall_mem_cons.mpr ⟨hw3, List.forall_mem_cons.mpr ⟨hw4, fun _ h => absurd h List.not_mem_nil⟩⟩⟩⟩) (mm_good hw5)) rfl rfl rfl ⟨hy, hde⟩ hR) (As := []) ⟨mm_blind, va_recv C.2.2.2.2.2.2.2.1 hP hc (by rw [mm_w_get hs, hf]), fun U hU hW => ⟨rfl, by rw [hU]; exact hP, hD, mm_E_warm C.2.2.2.2.2.2.2 hW hS hU⟩⟩ rfl rfl hl.1 rfl (by show 2 * 0 + _ ≤ 8; omega) hd hcs
  intro T hT XX
  obtain ⟨v, st₀, t, T', L, h0, X', hL, e1, e2, ⟨⟨hv, hP1, hD1, hE1⟩, hz, hk2⟩, stp⟩ := hr T hT XX
  have hv' : v = none := by injection hv
  subst hv'
  rw [h0] at hz hk2
  obtain ⟨t2, a1, b1⟩ := k C hA T'.heap (locs ++ L) ls (by rw [e1]; exact hP1) hD1
    ⟨Nat.le_trans hS.1 (by rw [e1]; exact hz), fun q h1 h2 => by rw [e1, hk2 q (Nat.lt_of_lt_of_le h1 hS.1) h2]; exact hS.2.1 q h1 h2, fun q hq => by
      rcases List.mem_append.mp hq with h | h
      · exact hS.2.2 q h
      · exact hL q h⟩ hl T' rfl X'
  exact ⟨t2, stp t2 a1, b1⟩
end
