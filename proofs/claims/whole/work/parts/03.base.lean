/-! memory of a system whose objects are all there: cell, place, number; the shape of each cell; the world of it -/
abbrev mm_M : Type := Nat → Nat → Int32
abbrev mm_S : Type := List ((Nat → Int32) → va_E)
def mm_row (M : mm_M) (o : Nat) (g : Nat → Int32) : mm_M := fun a => if a = o then g else M a
def mm_up (M : mm_M) (o k : Nat) (v : Int32) : mm_M := mm_row M o (upd (M o) k v)
def mm_w (ad : Nat → Nat) (sh : mm_S) (M : mm_M) : va_W := sh.mapIdx (fun o f => (ad o, f (M o)))
theorem mm_w_get {ad : Nat → Nat} {sh : mm_S} {M : mm_M} {o : Nat} {f : (Nat → Int32) → va_E} (h : sh[o]? = some f) : (mm_w ad sh M)[o]? = some (ad o, f (M o)) := by
  simp [mm_w, h]
theorem mm_w_set {ad : Nat → Nat} {sh : mm_S} {M : mm_M} {o : Nat} {f : (Nat → Int32) → va_E} {g : Nat → Int32} (h : sh[o]? = some f) : (mm_w ad sh M).set o (ad o, f g) = mm_w ad sh (mm_row M o g) := by
  apply List.ext_getElem?
  intro k
  have hlt : o < sh.length := (List.getElem?_eq_some_iff.mp h).1
  by_cases hk : o = k
  · subst hk
    simp [mm_w, List.getElem?_set, mm_row, hlt, (List.getElem?_eq_some_iff.mp h).2]
  · have hk2 : ¬ k = o := fun e => hk e.symm
    simp [mm_w, List.getElem?_set, hk, mm_row, hk2]
/-- how often a loop may turn in a function: often enough, and nobody counts it out -/
theorem mm_fu_ex : ∃ n : Nat, 1000 ≤ n := ⟨1000, Nat.le_refl _⟩
noncomputable def mm_fu : Nat := Classical.choose mm_fu_ex
theorem mm_fu_ge : 1000 ≤ mm_fu := Classical.choose_spec mm_fu_ex
/-- an index inside -/
def mm_in (i : Int32) (n : Nat) : Bool := !decide (i < 0) && decide (i.toNatClampNeg < n)
theorem mm_in_vp {i : Int32} {n : Nat} (h : mm_in i n = true) : vp_in i n := by
  simp only [mm_in, Bool.and_eq_true, Bool.not_eq_true', decide_eq_false_iff_not, decide_eq_true_eq] at h
  intro q
  rcases q with q | q
  · exact h.1 q
  · omega
theorem mm_in_lt {i : Int32} {n : Nat} (h : mm_in i n = true) : i.toNatClampNeg < n := by
  simp only [mm_in, Bool.and_eq_true, Bool.not_eq_true', decide_eq_false_iff_not, decide_eq_true_eq] at h
  exact h.2
/-- the surroundings: class numbers, addresses of cells, what may change, array classes (int, boolean, Image, Laundry, Sheet), static arrays, String constants and their bytes -/
abbrev mm_G : Type := va_G × (Nat → Nat) × (Nat → Prop) × (Nat → ClassId) × (Nat → Nat) × (Nat → Nat) × (Nat → Nat) × Option Nat
abbrev mm_D (G : mm_G) : va_G := G.1
abbrev mm_ad (G : mm_G) : Nat → Nat := G.2.1
abbrev mm_A (G : mm_G) : Nat → Prop := G.2.2.1
abbrev mm_cy (G : mm_G) : Nat → ClassId := G.2.2.2.1
abbrev mm_sa (G : mm_G) : Nat → Nat := G.2.2.2.2.1
abbrev mm_aK (G : mm_G) : Nat → Nat := G.2.2.2.2.2.1
abbrev mm_aV (G : mm_G) : Nat → Nat := G.2.2.2.2.2.2.1
abbrev mm_fo (G : mm_G) : Option Nat := G.2.2.2.2.2.2.2
abbrev mm_ty (G : mm_G) : List (ClassId × FieldType) := [(mm_cy G 0, .int), (mm_cy G 1, .boolean), (mm_cy G 2, .object RX1), (mm_cy G 3, .object RX2), (mm_cy G 4, .object RX4)]
def mm_nest : List Cond := [.methodLinkNest "MangleLine" 11 ⟨"MangleLine$Laundry", "<init>", "()V"⟩ "MangleLine",
  .fieldLinkNest "MangleLine$Laundry" 40 "MangleLine" "RULE_AT_FIRST" "[I" "MangleLine",
  .fieldLinkNest "MangleLine$Script" 70 "MangleLine$Laundry" "size" "I" "MangleLine",
  .fieldLinkNest "MangleLine" 101 "MangleLine$Laundry" "size" "I" "MangleLine",
  .fieldLinkNest "MangleLine" 102 "MangleLine$Laundry" "day" "I" "MangleLine",
  .fieldLinkNest "MangleLine" 166 "MangleLine$Laundry" "boiled" "I" "MangleLine",
  .fieldLinkNest "MangleLine" 122 "MangleLine$Laundry" "kinds" "[I" "MangleLine",
  .fieldLinkNest "MangleLine" 125 "MangleLine$Laundry" "greys" "[I" "MangleLine",
  .fieldLinkNest "MangleLine" 128 "MangleLine$Laundry" "wets" "[I" "MangleLine",
  .fieldLinkNest "MangleLine$Sightings" 54 "MangleLine$Laundry" "places" "[I" "MangleLine",
  .fieldLinkNest "MangleLine" 131 "MangleLine$Laundry" "places" "[I" "MangleLine",
  .fieldLinkNest "MangleLine" 116 "MangleLine$Laundry" "rules" "[I" "MangleLine",
  .fieldLinkNest "MangleLine$Script" 94 "MangleLine$Laundry" "rules" "[I" "MangleLine",
  .fieldLinkNest "MangleLine$Script" 97 "MangleLine$Laundry" "suns" "[I" "MangleLine",
  .fieldLinkNest "MangleLine" 144 "MangleLine$Laundry" "suns" "[I" "MangleLine",
  .methodLinkNest "MangleLine" 25 ⟨"MangleLine$Tape", "<init>", "()V"⟩ "MangleLine",
  .fieldLinkNest "MangleLine" 79 "MangleLine$Tape" "length" "I" "MangleLine",
  .fieldLinkNest "MangleLine$Script" 36 "MangleLine$Tape" "token" "I" "MangleLine",
  .fieldLinkNest "MangleLine$Script" 46 "MangleLine$Tape" "start" "I" "MangleLine",
  .fieldLinkNest "MangleLine$Script" 77 "MangleLine$Tape" "number" "I" "MangleLine",
  .methodLinkNest "MangleLine" 32 ⟨"MangleLine$Script", "<init>", "(LMangleLine$Tape;)V"⟩ "MangleLine",
  .fieldLinkNest "MangleLine" 98 "MangleLine$Script" "fault" "I" "MangleLine",
  .methodLinkNest "MangleLine" 41 ⟨"MangleLine$Sightings", "<init>", "()V"⟩ "MangleLine",
  .fieldLinkNest "MangleLine" 91 "MangleLine$Sightings" "size" "I" "MangleLine",
  .methodLinkNest "MangleLine" 48 ⟨"MangleLine$Choice", "<init>", "()V"⟩ "MangleLine",
  .methodLinkNest "MangleLine" 69 ⟨"MangleLine$Image", "<init>", "()V"⟩ "MangleLine",
  .methodLinkNest "MangleLine$Image" 9 ⟨"MangleLine$Laundry", "<init>", "()V"⟩ "MangleLine",
  .methodLinkNest "MangleLine$Image" 18 ⟨"MangleLine$Sightings", "<init>", "()V"⟩ "MangleLine",
  .fieldLinkNest "MangleLine" 94 "MangleLine$Image" "kept" "Z" "MangleLine",
  .fieldLinkNest "MangleLine" 231 "MangleLine$Image" "laundry" "LMangleLine$Laundry;" "MangleLine",
  .fieldLinkNest "MangleLine" 234 "MangleLine$Image" "seen" "LMangleLine$Sightings;" "MangleLine",
  .methodLinkNest "MangleLine" 70 ⟨"MangleLine$Sheet", "<init>", "()V"⟩ "MangleLine",
  .fieldLinkNest "MangleLine" 274 "MangleLine$Sheet" "length" "I" "MangleLine",
  .fieldLinkNest "MangleLine" 261 "MangleLine$Sheet" "cells" "[I" "MangleLine",
  .methodLinkNest "MangleLine" 75 ⟨"MangleLine$Tape", "append", "(I)Z"⟩ "MangleLine",
  .methodLinkNest "MangleLine" 83 ⟨"MangleLine$Script", "tell", "(LMangleLine$Laundry;)I"⟩ "MangleLine",
  .methodLinkNest "MangleLine$Script" 22 ⟨"MangleLine$Laundry", "clear", "()V"⟩ "MangleLine",
  .methodLinkNest "MangleLine$Script" 27 ⟨"MangleLine$Tape", "rewind", "()V"⟩ "MangleLine",
  .methodLinkNest "MangleLine$Script" 49 ⟨"MangleLine$Tape", "readToken", "()V"⟩ "MangleLine",
  .methodLinkNest "MangleLine$Script" 56 ⟨"MangleLine$Tape", "word", "()I"⟩ "MangleLine",
  .methodLinkNest "MangleLine$Script" 100 ⟨"MangleLine", "within", "(III)Z"⟩ "MangleLine",
  .methodLinkNest "MangleLine$Script" 80 ⟨"MangleLine$Laundry", ny_nm, "(II)I"⟩ "MangleLine",
  .methodLinkNest "MangleLine$Laundry" 55 ⟨"MangleLine", "within", "(III)Z"⟩ "MangleLine",
  .fieldLinkNest "MangleLine$Script" 87 "MangleLine" "RULE_LEAST" "[I" "MangleLine",
  .fieldLinkNest "MangleLine$Script" 91 "MangleLine" "RULE_MOST" "[I" "MangleLine",
  .methodLinkNest "MangleLine" 87 ⟨"MangleLine$Laundry", "become", "(LMangleLine$Laundry;)V"⟩ "MangleLine",
  .methodLinkNest "MangleLine" 105 ⟨"MangleLine$Laundry", "whoIsAt", "(I)I"⟩ "MangleLine",
  .methodLinkNest "MangleLine" 109 ⟨"MangleLine$Laundry", "greyOfAll", "()I"⟩ "MangleLine",
  .methodLinkNest "MangleLine" 113 ⟨"MangleLine$Laundry", "sunToday", "()I"⟩ "MangleLine",
  .methodLinkNest "MangleLine" 134 ⟨"MangleLine$Laundry", "scrubs", "(I)I"⟩ "MangleLine",
  .methodLinkNest "MangleLine" 137 ⟨"MangleLine$Laundry", "dries", "(II)I"⟩ "MangleLine",
  .methodLinkNest "MangleLine" 157 ⟨"MangleLine$Laundry", ny_nm, "(II)I"⟩ "MangleLine",
  .methodLinkNest "MangleLine" 160 ⟨"MangleLine$Laundry", "passDays", "(I)I"⟩ "MangleLine",
  .methodLinkNest "MangleLine" 163 ⟨"MangleLine$Laundry", "passDay", "(I)I"⟩ "MangleLine",
  .methodLinkNest "MangleLine" 174 ⟨"MangleLine$Laundry", "daysTillHome", "(II)I"⟩ "MangleLine",
  .methodLinkNest "MangleLine" 193 ⟨"MangleLine$Laundry", "daysTillDone", "(I)I"⟩ "MangleLine",
  .methodLinkNest "MangleLine" 189 ⟨"MangleLine$Choice", "begin", "(I)V"⟩ "MangleLine",
  .methodLinkNest "MangleLine" 196 ⟨"MangleLine$Choice", "offer", "(II)V"⟩ "MangleLine",
  .methodLinkNest "MangleLine" 200 ⟨"MangleLine$Choice", "tell", "(I)I"⟩ "MangleLine",
  .methodLinkNest "MangleLine" 202 ⟨"MangleLine$Laundry", "exchange", "(II)V"⟩ "MangleLine",
  .methodLinkNest "MangleLine" 211 ⟨"MangleLine$Sightings", "note", "(III)Z"⟩ "MangleLine",
  .methodLinkNest "MangleLine" 214 ⟨"MangleLine$Sightings", "agreeWith", "(LMangleLine$Laundry;)Z"⟩ "MangleLine",
  .methodLinkNest "MangleLine$Sightings" 39 ⟨"MangleLine$Laundry", "sunToday", "()I"⟩ "MangleLine",
  .methodLinkNest "MangleLine$Sightings" 44 ⟨"MangleLine$Laundry", "passDay", "(I)I"⟩ "MangleLine",
  .methodLinkNest "MangleLine" 228 ⟨"MangleLine$Laundry", "soil", "(II)V"⟩ "MangleLine",
  .methodLinkNest "MangleLine" 235 ⟨"MangleLine$Sightings", "become", "(LMangleLine$Sightings;)V"⟩ "MangleLine",
  .methodLinkNest "MangleLine" 244 ⟨"MangleLine$Sheet", "renew", "(II)V"⟩ "MangleLine",
  .methodLinkNest "MangleLine" 247 ⟨"MangleLine$Sheet", "isNothing", "()Z"⟩ "MangleLine",
  .methodLinkNest "MangleLine" 251 ⟨"MangleLine$Sheet", "hasCell", "(I)Z"⟩ "MangleLine",
  .methodLinkNest "MangleLine$Sheet" 28 ⟨"MangleLine", "within", "(III)Z"⟩ "MangleLine",
  .methodLinkNest "MangleLine" 254 ⟨"MangleLine$Sheet", "write", "(II)V"⟩ "MangleLine",
  .methodLinkNest "MangleLine" 257 ⟨"MangleLine$Sheet", "wholePairs", "(III)I"⟩ "MangleLine",
  .methodLinkNest "MangleLine" 264 ⟨"MangleLine$Sheet", "faultOfReading", "(IZ)I"⟩ "MangleLine",
  .methodLinkNest "MangleLine" 275 ⟨"MangleLine$Laundry", "wetOfAll", "()I"⟩ "MangleLine",
  .methodLinkNest "MangleLine" 278 ⟨"MangleLine$Laundry", "sunOfAll", "()I"⟩ "MangleLine"]
theorem mm_nest_ok : ∀ w ∈ mm_nest, w.onTables = true := by decide +kernel
theorem mm_nest_in : ∀ w ∈ mm_nest, w ∈ lw_tbl := by decide +kernel
def mm_isN (w : Cond) : Bool := match w with
  | .fieldLinkNest .. => true
  | .methodLinkNest .. => true
  | _ => false
theorem mm_nest_is : ∀ w ∈ mm_nest, mm_isN w = true := by decide +kernel
theorem mm_nest_warm {w : Cond} (h : w ∈ mm_nest) {s U : State} (hW : s.WarmedH U.vm) (hZ : va_Nw w s) : va_Nw w U := by
  have h1 := mm_nest_is w h
  cases w <;> first | exact va_Nw.warmF hW hZ | exact va_Nw.warmM hW hZ | (simp [mm_isN] at h1)
def mm_least (j : Nat) : Int32 := [0, 1, 0, 0, 1].getD j 0
def mm_most (j : Nat) : Int32 := [9, 6, 6, 30, 20].getD j 0
def mm_first (j : Nat) : Int32 := [3, 2, 3, 0, 8].getD j 0
def mm_len : List Nat := [5, 6, 7, 6, 4, 5, 4, 4, 4, 3]
def mm_byt : List (List Int32) := [[112, 108, 97, 105, 110], [119, 105, 99, 107, 101, 100], [99, 114, 101, 97, 115, 101, 100], [110, 97, 112, 107, 105, 110], [98, 108, 117, 101], [98, 97, 116, 99, 104], [112, 101, 103, 115], [112, 97, 115, 115], [115, 111, 97, 107], [115, 117, 110]]
def mm_wix : List Nat := [46, 48, 50, 52, 54, 56, 58, 60, 62, 64]
def mm_wtx : List String := ["plain", "wicked", "creased", "napkin", "blue", "batch", "pegs", "pass", "soak", "sun"]
/-- what nobody changes: the tables' words, the static arrays, the String constants -/
def mm_E (G : mm_G) (U : State) (H : Heap) : Prop :=
  va_K (mm_D G) vwCl (mm_ty G) U ∧ (∀ w ∈ mm_nest, va_Nw w U) ∧
  (va_Z "MangleLine" "RULE_LEAST" "[I" (.ref (mm_sa G 0)) (mm_A G) U H ∧ va_T .int (mm_sa G 0) 5 (fun j => .int (mm_least j)) (mm_A G) U H) ∧
  (va_Z "MangleLine" "RULE_MOST" "[I" (.ref (mm_sa G 1)) (mm_A G) U H ∧ va_T .int (mm_sa G 1) 5 (fun j => .int (mm_most j)) (mm_A G) U H) ∧
  (va_Z "MangleLine" "RULE_AT_FIRST" "[I" (.ref (mm_sa G 2)) (mm_A G) U H ∧ va_T .int (mm_sa G 2) 5 (fun j => .int (mm_first j)) (mm_A G) U H) ∧
  (va_Z "java/lang/String" "COMPACT_STRINGS" "Z" (.int 1) (mm_A G) U H ∧ va_Z "jdk/internal/util/Preconditions" "SIOOBE_FORMATTER" "Ljava/util/function/BiFunction;" (va_rf (mm_fo G)) (mm_A G) U H ∧ va_AO RX1 U ∧ va_AO RX2 U ∧ va_AO RX4 U) ∧
  (∀ i : Nat, i < 10 → vk_R RX6 (mm_wix.getD i 0) (mm_wtx.getD i "") (mm_aK G i) U) ∧ vk_S 10 mm_len mm_byt (mm_aK G) (mm_aV G) (mm_A G) U H
theorem mm_E_warm {G : mm_G} {s U : State} {H : Heap} {locs : List Loc} (h : mm_E G s s.heap) (hW : s.WarmedH U.vm) (hS : va_S (mm_A G) s.heap H locs) (hU : U.heap = H) : mm_E G U U.heap := by
  obtain ⟨h1, h2, ⟨h3, h4⟩, ⟨h5, h6⟩, ⟨h7, h8⟩, ⟨h9, h9b, h9c, h9d, h9e⟩, h10, h11⟩ := h
  have hk := hS.2.1
  rw [hU]
  exact ⟨va_K.moved hW.alike h1, fun w hw => mm_nest_warm hw hW (h2 w hw), ⟨(h3.kept hk).moved hW.alike, (h4.kept hk).moved hW.alike⟩, ⟨(h5.kept hk).moved hW.alike, (h6.kept hk).moved hW.alike⟩, ⟨(h7.kept hk).moved hW.alike, (h8.kept hk).moved hW.alike⟩, ⟨(h9.kept hk).moved hW.alike, (h9b.kept hk).moved hW.alike, va_AO.moved hW.alike h9c, va_AO.moved hW.alike h9d, va_AO.moved hW.alike h9e⟩, fun i hi => vk_R.warm hW (h10 i hi), (h11.kept hk).moved hW.alike⟩
theorem mm_E_same {G : mm_G} {u U : State} (hv : u.vm = U.vm) (hH : u.heap = U.heap) (h : mm_E G u u.heap) : mm_E G U U.heap := by
  obtain ⟨h1, h2, ⟨h3, h4⟩, ⟨h5, h6⟩, ⟨h7, h8⟩, ⟨h9, h9b, h9c, h9d, h9e⟩, h10, h11⟩ := h
  have ha : u.vm.Alike U.vm := by rw [hv]; exact Vm.Alike.refl _
  rw [← hH]
  exact ⟨va_K.moved ha h1, fun w hw => va_Nw.same (mm_nest_ok w hw) hv (h2 w hw), ⟨h3.moved ha, h4.moved ha⟩, ⟨h5.moved ha, h6.moved ha⟩, ⟨h7.moved ha, h8.moved ha⟩, ⟨h9.moved ha, h9b.moved ha, va_AO.moved ha h9c, va_AO.moved ha h9d, va_AO.moved ha h9e⟩, fun i hi => vk_R.same hv.symm (h10 i hi), h11.moved ha⟩
/-- the world of a memory -/
def mm_Wd (G : mm_G) (sh : mm_S) (M : mm_M) (U : State) : Prop := va_P (mm_D G) vwCl (mm_w (mm_ad G) sh M) U.heap ∧ va_D (mm_A G) (mm_w (mm_ad G) sh M) ∧ mm_E G U U.heap
def mm_rm (d : Nat) : Room := { frames := d, cells := 0, slots := 0, locals := 100 * d }
/-- how a method ends: what it answers, the shapes, the memory -/
abbrev mm_F : Type := Option Value × mm_S × mm_M
def mm_Q (G : mm_G) (q : mm_F) : Array Value → State → Outcome → State → Prop := fun _ st oc t => (oc = .returned q.1 ∧ mm_Wd G q.2.1 q.2.2 t) ∧ va_F (mm_A G) st t
/-- a method that is running: program, launch, environment, its start's state, method, arguments, frames below, method, code -/
abbrev mm_X : Type := Program × Launch × Env × State × MethodId × Array Value × List Frame × Method × Code
/-- its text: bytes, locals, class, what it returns, room -/
abbrev mm_Y : Type := ByteArray × Nat × String × Option FieldType × Nat
def mm_C (X : mm_X) (G : mm_G) (Y : mm_Y) : Prop :=
  X.1.tables.exec = Jvm.exec ∧ X.2.2.2.2.2.2.2.2.code = Y.1 ∧ X.2.2.2.2.2.2.2.2.maxLocals = Y.2.1 ∧ X.2.2.2.1.vm.findClass Y.2.2.1 = some X.2.2.2.2.1.cls ∧ (∀ w ∈ mm_ws, w.before X.2.2.2.2.2.1 X.2.2.2.1 = true) ∧ X.2.2.2.2.2.2.2.1.sig.returnType = Y.2.2.2.1 ∧ X.2.2.2.2.2.2.2.1.locks = false ∧ mm_E G X.2.2.2.1 X.2.2.2.1.heap
/-- from here the method comes to what f says, if f says anything -/
def mm_T (X : mm_X) (G : mm_G) (Y : mm_Y) {ρ : Type} (fin : ρ → mm_F) (sh : mm_S) (M : mm_M) (pc : Nat) (lv : List (Nat × Value)) (st : List Value) (f : Option ρ) : Prop :=
  mm_C X G Y → ∀ r : ρ, f = some r → ∀ (H : Heap) (locs : List Loc) (ls : Array Slot), va_P (mm_D G) vwCl (mm_w (mm_ad G) sh M) H → va_D (mm_A G) (mm_w (mm_ad G) sh M) → va_S (mm_A G) X.2.2.2.1.heap H locs → lv_has ls Y.2.1 lv →
    W X.1 X.2.1 X.2.2.1 (mm_rm Y.2.2.2.2) X.2.2.2.1 X.2.2.2.2.1 X.2.2.2.2.2.1 X.2.2.2.2.2.2.1 X.2.2.2.2.2.2.2.1 X.2.2.2.2.2.2.2.2 H locs 0 0 (MQ X.2.2.2.2.2.2.1 (mm_Q G (fin r)) X.2.2.2.2.2.1 X.2.2.2.1 0 0 (mm_A G)) (F0 X.2.2.2.2.1 pc ls st)
/-- a method's contract -/
def mm_K (l : Launch) (G : mm_G) (y : MethodName) (Y : mm_Y) (as : List Value) {ρ : Type} (fin : ρ → mm_F) (sh : mm_S) (M : mm_M) (f : Option ρ) : Prop :=
  ∀ r : ρ, f = some r → Met l y (.code y Y.1 Y.2.1 Y.2.2.2.1 :: mm_ws) (mm_rm Y.2.2.2.2) (va_Pc as (mm_Wd G sh M)) (mm_Q G (fin r)) 0 0 (mm_A G)
theorem mm_met {l : Launch} {G : mm_G} {y : MethodName} {Y : mm_Y} {as : List Value} {ρ : Type} {fin : ρ → mm_F} {sh : mm_S} {M : mm_M} {f : Option ρ} (hy : plainName y.cls = true) (hc : y.cls = Y.2.2.1) (hn : (lg_sl as).length ≤ Y.2.1)
    (k : ∀ X : mm_X, X.2.1 = l → mm_T X G Y fin sh M 0 (lv_args 0 as) [] f) : mm_K l G y Y as fin sh M f := by
  intro r hr
  refine Met.ofW (cc := Y.1) (maxL := Y.2.1) (ret := Y.2.2.2.1) hy rfl ?_
  intro p e s m args below meth c s₁ B hml hv
  obtain ⟨rfl, hP, hD, hE⟩ := hv
  have hts : ∀ w ∈ (Cond.code y Y.1 Y.2.1 Y.2.2.2.1 :: mm_ws), w.before as.toArray s = true := atoms_spec (ws := Cond.code y Y.1 Y.2.1 Y.2.2.2.1 :: mm_ws) B.pre
  have hl := lv_entry as (n := Y.2.1) hn
  rw [lg_entry_eq]
  generalize (lg_sl as ++ List.replicate (Y.2.1 - (lg_sl as).length) Slot.unset).toArray = ls at hl ⊢
  exact k (p, l, e, s, m, as.toArray, below, meth, c) rfl ⟨B.exec, B.bytes, hml, by rw [← hc]; exact findClass_of_methodNamed B.named, fun w hw => hts w (List.mem_cons_of_mem _ hw), B.returns, B.notSynchronized, hE⟩ r hr s.heap [] ls hP hD va_S.rf hl
theorem mm_none {X : mm_X} {G : mm_G} {Y : mm_Y} {ρ : Type} {fin : ρ → mm_F} {sh : mm_S} {M : mm_M} {pc : Nat} {lv : List (Nat × Value)} {st : List Value} : mm_T X G Y fin sh M pc lv st none := fun _ _ h => by cases h
theorem mm_lv {X : mm_X} {G : mm_G} {Y : mm_Y} {ρ : Type} {fin : ρ → mm_F} {sh : mm_S} {M : mm_M} {pc : Nat} {lv lv' : List (Nat × Value)} {st : List Value} {f : Option ρ} (ks : List Nat) (hl : lv_pick lv ks = lv') (k : mm_T X G Y fin sh M pc lv' st f) : mm_T X G Y fin sh M pc lv st f :=
  fun C r hr H locs ls hP hD hS h => k C r hr H locs ls hP hD hS (lv_sub h ks hl)
theorem mm_pc {X : mm_X} {G : mm_G} {Y : mm_Y} {ρ : Type} {fin : ρ → mm_F} {sh : mm_S} {M : mm_M} {pc pc' : Nat} {lv : List (Nat × Value)} {st : List Value} {f : Option ρ} (h : pc' = pc) (k : mm_T X G Y fin sh M pc lv st f) : mm_T X G Y fin sh M pc' lv st f := h ▸ k
theorem mm_f {X : mm_X} {G : mm_G} {Y : mm_Y} {ρ : Type} {fin : ρ → mm_F} {sh : mm_S} {M : mm_M} {pc : Nat} {lv : List (Nat × Value)} {st : List Value} {f g : Option ρ} (h : g = f) (k : mm_T X G Y fin sh M pc lv st f) : mm_T X G Y fin sh M pc lv st g := h ▸ k
