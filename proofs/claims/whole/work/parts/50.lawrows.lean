section
variable {X : mm_X} {G : mm_G} {Y : mm_Y} {R : Room} {Q : State → Prop} {ws : va_W} {nc ns pc : Nat} {lv : List (Nat × Value)} {st : List Value}
theorem mb_iadd {x y : Int32} (q : Nat) (hq : q = pc + 1) (hd : decode Y.1 pc = .ok (.iadd, 1)) (k : mb_T X G Y R Q ws nc ns q lv (.int (x + y) :: st)) : mb_T X G Y R Q ws nc ns pc lv (.int y :: .int x :: st) := by
  subst hq
  exact fun C hA H locs ls hP hD hS hl => lv_iadd C.1 C.2.1 hd (k C hA H locs ls hP hD hS hl)
theorem mb_isub {x y : Int32} (q : Nat) (hq : q = pc + 1) (hd : decode Y.1 pc = .ok (.isub, 1)) (k : mb_T X G Y R Q ws nc ns q lv (.int (x - y) :: st)) : mb_T X G Y R Q ws nc ns pc lv (.int y :: .int x :: st) := by
  subst hq
  exact fun C hA H locs ls hP hD hS hl => lv_isub C.1 C.2.1 hd (k C hA H locs ls hP hD hS hl)
theorem mb_iand {x y : Int32} (q : Nat) (hq : q = pc + 1) (hd : decode Y.1 pc = .ok (.iand, 1)) (k : mb_T X G Y R Q ws nc ns q lv (.int (x &&& y) :: st)) : mb_T X G Y R Q ws nc ns pc lv (.int y :: .int x :: st) := by
  subst hq
  exact fun C hA H locs ls hP hD hS hl => lv_iand C.1 C.2.1 hd (k C hA H locs ls hP hD hS hl)
theorem mb_lcmp {x y : Int64} (q : Nat) (hq : q = pc + 1) (hd : decode Y.1 pc = .ok (.lcmp, 1)) (k : mb_T X G Y R Q ws nc ns q lv (.int (lg_cmp x y) :: st)) : mb_T X G Y R Q ws nc ns pc lv (.long y :: .long x :: st) := by
  subst hq
  exact fun C hA H locs ls hP hD hS hl => W.lcmp C.1 C.2.1 hd (k C hA H locs ls hP hD hS hl)
theorem mb_icmp_gt {x y : Int32} {off : Int} (q t : Nat) (hq : q = pc + 3) (hd : decode Y.1 pc = .ok (.if_icmp .gt off, 3)) (ht : (pc : Int) + off = (t : Int)) (ka : y < x → mb_T X G Y R Q ws nc ns t lv st) (kb : ¬ y < x → mb_T X G Y R Q ws nc ns q lv st) : mb_T X G Y R Q ws nc ns pc lv (.int y :: .int x :: st) := by
  subst hq
  exact fun C hA H locs ls hP hD hS hl => lv_icmp_gt C.1 C.2.1 hd ht (fun h => ka h C hA H locs ls hP hD hS hl) (fun h => kb h C hA H locs ls hP hD hS hl)
theorem mb_icmp_eqY {x y : Int32} {off : Int} (t : Nat) (hd : decode Y.1 pc = .ok (.if_icmp .eq off, 3)) (ht : (pc : Int) + off = (t : Int)) (h0 : x = y) (k : mb_T X G Y R Q ws nc ns t lv st) : mb_T X G Y R Q ws nc ns pc lv (.int y :: .int x :: st) := fun C hA H locs ls hP hD hS hl => lv_icmp_eq C.1 C.2.1 hd ht (fun _ => (k C hA H locs ls hP hD hS hl)) (fun h => absurd h0 h)
theorem mb_if_eqY {x : Int32} {off : Int} (t : Nat) (hd : decode Y.1 pc = .ok (.ifCond .eq off, 3)) (ht : (pc : Int) + off = (t : Int)) (h0 : x = 0) (k : mb_T X G Y R Q ws nc ns t lv st) : mb_T X G Y R Q ws nc ns pc lv (.int x :: st) := fun C hA H locs ls hP hD hS hl => lv_if_eq C.1 C.2.1 hd ht (fun _ => (k C hA H locs ls hP hD hS hl)) (fun h => absurd h0 h)
theorem mb_tabIn {dflt lo hi : Int} {offs : Array Int} {len : Nat} {x : Int32} {off : Int} (t : Nat) (v : Int32) (hx : x = v) (hd : decode Y.1 pc = .ok (.tableswitch dflt lo hi offs, len)) (h1 : ¬ v.toInt < lo) (h2 : ¬ hi < v.toInt) (ho : offs[(v.toInt - lo).toNat]? = some off) (ht : (pc : Int) + off = (t : Int)) (k : mb_T X G Y R Q ws nc ns t lv st) : mb_T X G Y R Q ws nc ns pc lv (.int x :: st) := by
  subst hx
  exact fun C hA H locs ls hP hD hS hl => lv_tableIn C.1 C.2.1 hd h1 h2 ho ht (k C hA H locs ls hP hD hS hl)
theorem mb_tabOut {dflt lo hi : Int} {offs : Array Int} {len : Nat} {x : Int32} (t : Nat) (hd : decode Y.1 pc = .ok (.tableswitch dflt lo hi offs, len)) (h : x.toInt < lo ∨ hi < x.toInt) (ht : (pc : Int) + dflt = (t : Int)) (k : mb_T X G Y R Q ws nc ns t lv st) : mb_T X G Y R Q ws nc ns pc lv (.int x :: st) := fun C hA H locs ls hP hD hS hl => lv_tableOut C.1 C.2.1 hd h ht (k C hA H locs ls hP hD hS hl)
theorem mb_sld {b L : Nat} {xs : Nat → Int32} {i : Int32} (q : Nat) (hq : q = pc + 1) (hd : decode Y.1 pc = .ok (.iaload, 1)) (hX : va_X b L xs X.2.2.2.1 X.2.2.2.1.heap) (hbl : b < X.2.2.2.1.heap.size) (hbA : ¬ mm_A G b) (hin : vp_in i L) (k : mb_T X G Y R Q ws nc ns q lv (.int (xs i.toNatClampNeg) :: st)) : mb_T X G Y R Q ws nc ns pc lv (.int i :: .ref b :: st) := by
  subst hq
  exact fun C hA H locs ls hP hD hS hl => va_sld C.1 C.2.1 hX hbl hbA hS hin hd (k C hA H locs ls hP hD hS hl)
theorem mb_slen {b L : Nat} {xs : Nat → Int32} (q : Nat) (hq : q = pc + 1) (hd : decode Y.1 pc = .ok (.arraylength, 1)) (hX : va_X b L xs X.2.2.2.1 X.2.2.2.1.heap) (hbl : b < X.2.2.2.1.heap.size) (hbA : ¬ mm_A G b) (k : mb_T X G Y R Q ws nc ns q lv (.int (Int32.ofNat L) :: st)) : mb_T X G Y R Q ws nc ns pc lv (.ref b :: st) := by
  subst hq
  exact fun C hA H locs ls hP hD hS hl => va_slen C.1 C.2.1 hX hbl hbA hS hd (k C hA H locs ls hP hD hS hl)
theorem mb_swap {a b : va_W} (k : mb_T X G Y R Q (b ++ a) nc ns pc lv st) : mb_T X G Y R Q (a ++ b) nc ns pc lv st := mb_perm List.perm_append_comm k
/-- the addresses of a system -/
def lj_A (ad : Nat → Nat) (n : Nat) : Nat → Prop := fun q => ∃ o : Nat, o < n ∧ q = ad o
theorem lj_wA {ad : Nat → Nat} {sh : mm_S} {M : mm_M} {k : Nat} {q : Nat × va_E} (h : (mm_w ad sh M)[k]? = some q) : k < sh.length ∧ q.1 = ad k := by
  unfold mm_w at h
  rw [List.getElem?_mapIdx] at h
  cases hs : sh[k]? with
  | none => rw [hs] at h; cases h
  | some f =>
    rw [hs] at h
    cases h
    exact ⟨(List.getElem?_eq_some_iff.mp hs).1, rfl⟩
theorem lj_wG {ad : Nat → Nat} {sh : mm_S} {M : mm_M} {k : Nat} (h : k < sh.length) : ∃ e : va_E, (mm_w ad sh M)[k]? = some (ad k, e) := ⟨_, mm_w_get (List.getElem?_eq_getElem h)⟩
theorem lj_joined {A A1 : Nat → Prop} {D : va_G} {W0 wc w1 : va_W} {H H1 : Heap} (hP : va_P D vwCl (W0 ++ wc) H) (hD : va_D A (W0 ++ wc)) (h0 : ∀ (k : Nat) (q : Nat × va_E), W0[k]? = some q → ¬ A1 q.1) (hk : ∀ q : Nat, q < H.size → ¬ A1 q → H1[q]? = H[q]?) (hF : ∀ q, A1 q → A q) (hP1 : va_P D vwCl w1 H1) (hD1 : va_D A1 w1) : va_P D vwCl (W0 ++ w1) H1 ∧ va_D A (W0 ++ w1) := by
  refine ⟨va_P.app (fun k q hq => ?_) hP1, va_D.app (mb_Dleft hD) (hD1.weaken (fun k q _ h => hF q.1 h)) (fun i j x y hx hy hxy => ?_)⟩
  · have hb := (mb_Pleft hP) k q hq
    exact hb.kept (hk q.1 hb.lt (h0 k q hq))
  · exact h0 i x hx (by rw [hxy]; exact hD1.2 j y hy)
theorem lj_call {i : Nat} {y : MethodName} {cc' : ByteArray} {nL' d' : Nat} {own' : String} {ret' : Option FieldType} {ρ' : Type} {fin' : ρ' → mm_F} {fc : Option ρ'} {r' : ρ'} {as : List Value} {ad : Nat → Nat} {W0 : va_W} {sh : mm_S} {M : mm_M} {o : Nat} {g : (Nat → Int32) → va_E} {ci N : Nat} {fs : List Value} {C0 : String} {T0 : u_T} {n : Nat} {st0 : List Value} (q : Nat) (hq : q = pc + 3) (hd : decode Y.1 pc = .ok (.invokevirtual i, 3)) (hs : sh[o]? = some g) (hf : g (M o) = .inr (ci, fs)) (hc : vwCl[ci]? = some (C0, T0, N)) (hk : mm_K X.2.1 (mm_gA (mm_gd G ad) (lj_A ad sh.length)) y (cc', nL', own', ret', d') (.ref (ad o) :: as) fin' sh M fc) (hfc : fc = some r') (hR : d' + 1 ≤ R.frames ∧ 8 + (nL' + 11) + 100 * d' ≤ R.locals) (hcs : nc ≤ R.cells ∧ ns ≤ R.slots) (hy : y.cls = C0) (hde : y.cls ≠ "java/lang/invoke/MethodHandle" ∧ y.cls ≠ "java/lang/invoke/VarHandle" ∧ (parseMethodDescriptor y.desc).map (fun d => d.parameters.length) = some n) (hw1 : Cond.methodLink Y.2.2.1 i y ∈ mm_ws) (hw2 : Cond.instanceMethod y ∈ mm_ws) (hw3 : Cond.selects C0 y y ∈ mm_ws) (hw4 : Cond.initialized C0 ∈ mm_ws) (hw5 : Cond.code y cc' nL' ret' ∈ mm_ws) (hln : as.length = n) (hst : st0 = as.reverse ++ .ref (ad o) :: st) (hcat : (st.map fun v => v.category).sum ≤ 8) (hws : ws = W0 ++ mm_w ad sh M) (k : mb_T X G Y R Q (W0 ++ mm_w ad (fin' r').2.1 (fin' r').2.2) nc ns q lv ((fin' r').1.toList ++ st)) : mb_T X G Y R Q ws nc ns pc lv st0 := by
  subst hq; subst hws; subst hst
  intro C hA H locs ls hP hD hS hl
  have hPr := mb_Pright hP
  have hF : ∀ q, lj_A ad sh.length q → mm_A G q := by
    rintro q ⟨o, ho, rfl⟩
    obtain ⟨e, he⟩ := lj_wG (ad := ad) (M := M) ho
    exact (mb_Dright hD).2 o _ he
  have hDr : va_D (lj_A ad sh.length) (mm_w ad sh M) := ⟨(mb_Dright hD).1, fun k q hk => ⟨k, (lj_wA hk).1, (lj_wA hk).2⟩⟩
  have h0 : ∀ (k : Nat) (q : Nat × va_E), W0[k]? = some q → ¬ lj_A ad sh.length q.1 := by
    rintro k q hk ⟨o, ho, e⟩
    obtain ⟨e2, he2⟩ := lj_wG (ad := ad) (M := M) ho
    exact mb_Dcross hD hk he2 e
  have hr := va_runV (C := C0) (rest := st) (g := F0 X.2.2.2.2.1 pc ls (as.reverse ++ .ref (ad o) :: st)) (cells := nc) (slots := ns) (locs := locs) (H := H) (below := X.2.2.2.2.2.2.1) (meth := X.2.2.2.2.2.2.2.1) (e := X.2.2.1) (R := R) ⟨C.1, C.2.1, C.2.2.1, C.2.2.2.1, C.2.2.2.2.1⟩ (hk r' hfc) (cwV n C.2.2.2.2.1 (mm_goodL (List.forall_mem_cons.mpr ⟨hw1, List.forall_mem_cons.mpr ⟨hw2, List.forall_mem_cons.mpr ⟨hw3, List.forall_mem_cons.mpr ⟨hw4, fun _ h => absurd h List.not_mem_nil⟩⟩⟩⟩) (mm_good hw5)) rfl rfl rfl ⟨hy, hde⟩ hR) (As := as) ⟨mm_blind, va_recv C.2.2.2.2.2.2.2.1 hPr hc (by rw [mm_w_get hs, hf]), fun U hU hW => ⟨rfl, by rw [hU]; exact hPr, hDr, mm_E_narrow (G := mm_gd G ad) hF (mm_E_warm C.2.2.2.2.2.2.2 hW hS hU)⟩⟩ rfl hln hl.1 rfl (by show 2 * 0 + _ ≤ 8; omega) hd hcs
  intro T hT XX
  obtain ⟨v, st₀, t, T', L, hh0, X', hL, e1, e2, ⟨⟨hv, hP1, hD1, hE1⟩, hz, hk2⟩, stp⟩ := hr T hT XX
  have hv' : v = (fin' r').1 := by injection hv
  subst hv'
  rw [hh0] at hz hk2
  obtain ⟨hP2, hD2⟩ := lj_joined (H1 := T'.heap) hP hD h0 (fun q a b => by rw [e1]; exact hk2 q a b) hF (by rw [e1]; exact hP1) hD1
  obtain ⟨t2, a1, b1⟩ := k C hA T'.heap (locs ++ L) ls hP2 hD2
    ⟨Nat.le_trans hS.1 (by rw [e1]; exact hz), fun q h1 h2 => by rw [e1, hk2 q (Nat.lt_of_lt_of_le h1 hS.1) (fun z => h2 (hF q z))]; exact hS.2.1 q h1 h2, fun q hq => by
      rcases List.mem_append.mp hq with h | h
      · exact hS.2.2 q h
      · exact hF _ (hL q h)⟩ hl T' rfl X'
  exact ⟨t2, stp t2 a1, b1⟩
end
