/-! WORDS -/
def wl (w : Nat) : List Int32 := mm_byt.getD w []
theorem len_w : ∀ w : Fin 10, (Int32.ofNat (mm_len.getD w.1 0)) >>> ((0 : Int32) &&& 31) = nI (wl w.1).length := by decide
theorem len_ok (w : Nat) (hw : w < 10) (M : mm_M) : fn_J0_length_8abf5 w M = some (nI (wl w).length, M) := by
  unfold fn_J0_length_8abf5 fn_J0_coder_7d493
  simp only [pb_some]
  rw [len_w ⟨w, hw⟩]
theorem chr_ok (w i : Nat) (hw : w < 10) (hi : i < (wl w).length) (M : mm_M) : fn_J0_charAt_5068e w (nI i) M = some ((wl w).getD i 0, M) := by
  match w, hw, i, hi with
  | 0, _, 0, _ => rfl
  | 0, _, 1, _ => rfl
  | 0, _, 2, _ => rfl
  | 0, _, 3, _ => rfl
  | 0, _, 4, _ => rfl
  | 1, _, 0, _ => rfl
  | 1, _, 1, _ => rfl
  | 1, _, 2, _ => rfl
  | 1, _, 3, _ => rfl
  | 1, _, 4, _ => rfl
  | 1, _, 5, _ => rfl
  | 2, _, 0, _ => rfl
  | 2, _, 1, _ => rfl
  | 2, _, 2, _ => rfl
  | 2, _, 3, _ => rfl
  | 2, _, 4, _ => rfl
  | 2, _, 5, _ => rfl
  | 2, _, 6, _ => rfl
  | 3, _, 0, _ => rfl
  | 3, _, 1, _ => rfl
  | 3, _, 2, _ => rfl
  | 3, _, 3, _ => rfl
  | 3, _, 4, _ => rfl
  | 3, _, 5, _ => rfl
  | 4, _, 0, _ => rfl
  | 4, _, 1, _ => rfl
  | 4, _, 2, _ => rfl
  | 4, _, 3, _ => rfl
  | 5, _, 0, _ => rfl
  | 5, _, 1, _ => rfl
  | 5, _, 2, _ => rfl
  | 5, _, 3, _ => rfl
  | 5, _, 4, _ => rfl
  | 6, _, 0, _ => rfl
  | 6, _, 1, _ => rfl
  | 6, _, 2, _ => rfl
  | 6, _, 3, _ => rfl
  | 7, _, 0, _ => rfl
  | 7, _, 1, _ => rfl
  | 7, _, 2, _ => rfl
  | 7, _, 3, _ => rfl
  | 8, _, 0, _ => rfl
  | 8, _, 1, _ => rfl
  | 8, _, 2, _ => rfl
  | 8, _, 3, _ => rfl
  | 9, _, 0, _ => rfl
  | 9, _, 1, _ => rfl
  | 9, _, 2, _ => rfl
theorem wof_ok (w : Nat) (hw : w < 10) (M : mm_M) : fn_X6_wordOf (nI w) M = some (w, M) := by
  match w, hw with
  | 0, _ => rfl
  | 1, _ => rfl
  | 2, _ => rfl
  | 3, _ => rfl
  | 4, _ => rfl
  | 5, _ => rfl
  | 6, _ => rfl
  | 7, _ => rfl
  | 8, _ => rfl
  | 9, _ => rfl
theorem wl_le (w : Nat) (hw : w < 10) : 3 ≤ (wl w).length ∧ (wl w).length ≤ 7 := by
  match w, hw with
  | 0, _ => exact (by decide)
  | 1, _ => exact (by decide)
  | 2, _ => exact (by decide)
  | 3, _ => exact (by decide)
  | 4, _ => exact (by decide)
  | 5, _ => exact (by decide)
  | 6, _ => exact (by decide)
  | 7, _ => exact (by decide)
  | 8, _ => exact (by decide)
  | 9, _ => exact (by decide)
/-- the letters from the i-th on stand there -/
def mt (f : Nat → Int32) (s : Nat) (l : List Int32) : Nat → Nat → Bool
  | 0, _ => true
  | z + 1, i => decide (f (s + i) = l.getD i 0) && mt f s l z (i + 1)
def qw (f : Nat → Int32) (s e w : Nat) : Bool := decide (e - s = (wl w).length) && mt f s (wl w) (wl w).length 0
def fw (Q : Nat → Bool) : Nat → Nat → Int32
  | 0, _ => -4
  | z + 1, w => if Q w = true then nI w else fw Q z (w + 1)
theorem fw_or (Q : Nat → Bool) : ∀ z w, fw Q z w = -4 ∨ ∃ j, w ≤ j ∧ j < w + z ∧ fw Q z w = nI j := by
  intro z
  induction z with
  | zero => intro w; exact Or.inl rfl
  | succ z ih =>
    intro w
    rw [fw]
    split
    · exact Or.inr ⟨w, Nat.le_refl _, by omega, rfl⟩
    · rcases ih (w + 1) with h | ⟨j, h1, h2, h3⟩
      · exact Or.inl h
      · exact Or.inr ⟨j, by omega, by omega, h3⟩
section
variable {t : Nat} {b : Nat → Nat}
theorem spl_L (hB : tB t b) {C : mm_M} (h : tC C t b) {s e : Nat} (h4 : C 16 4 = nI s) (he : e ≤ t) (w : Nat) (hw : w < 10) (hl : e = s + (wl w).length) (k0 k1 : mm_M → Option (Int32 × mm_M)) : ∀ z i fuel, i + z = (wl w).length → z < fuel → fn_X6_isSpelt_L20 w k0 k1 fuel (nI i) C = if mt (bt t b) s (wl w) z i = true then k1 C else k0 C := by
  have h160 := hB.1
  have hwl := wl_le w hw
  intro z
  induction z with
  | zero =>
    intro i fuel hi hf
    obtain ⟨f, rfl⟩ : ∃ f, fuel = f + 1 := ⟨fuel - 1, by omega⟩
    rw [fn_X6_isSpelt_L20, len_ok w hw]
    simp only [pb_some]
    rw [if_pos (nI_le (by omega) (by omega)), mt, if_pos rfl]
  | succ z ih =>
    intro i fuel hi hf
    obtain ⟨f, rfl⟩ : ∃ f, fuel = f + 1 := ⟨fuel - 1, by omega⟩
    rw [fn_X6_isSpelt_L20, len_ok w hw]
    simp only [pb_some]
    rw [if_neg (nI_ge (by omega) (by omega)), chr_ok w i hw (by omega)]
    simp only [pb_some, h4, nI_add]
    rw [if_pos (pu_in (by omega) (by omega)), nI_clamp (by omega), h.2 (s + i) (by omega)]
    have hbt : bt t b (s + i) = nI (b (s + i)) := if_pos (by omega)
    rw [mt, hbt, nI_1, ih (i + 1) f (by omega) (by omega)]
    by_cases q : nI (b (s + i)) = (wl w).getD i 0
    · rw [if_pos q, decide_eq_true q, Bool.true_and]
    · rw [if_neg q, decide_eq_false q, Bool.false_and, if_neg (by decide)]
theorem spl_ok (hB : tB t b) {C : mm_M} (h : tC C t b) {s e : Nat} (h2 : C 16 2 = nI e) (h4 : C 16 4 = nI s) (hs : s ≤ e) (he : e ≤ t) (w : Nat) (hw : w < 10) : fn_X6_isSpelt w C = some (if qw (bt t b) s e w = true then 1 else 0, C) := by
  have h160 := hB.1
  have hwl := wl_le w hw
  have hfu := mm_fu_ge
  unfold fn_X6_isSpelt
  rw [len_ok w hw]
  simp only [pb_some]
  rw [h2, h4, pk_sub hs]
  have e5 : (nI (wl w).length = nI (e - s)) = (e - s = (wl w).length) := (pu_eq (by omega) (by omega)).trans (propext ⟨Eq.symm, Eq.symm⟩)
  simp only [e5]
  unfold qw
  by_cases q : e - s = (wl w).length
  · rw [if_pos q, show (0 : Int32) = nI 0 from rfl, spl_L hB h h4 he w hw (by omega) _ _ (wl w).length 0 mm_fu (by omega) (by omega), decide_eq_true q, Bool.true_and]
    split <;> rfl
  · rw [if_neg q, decide_eq_false q, Bool.false_and, if_neg (by decide)]
theorem wrd_L (hB : tB t b) {C : mm_M} (h : tC C t b) {s e : Nat} (h2 : C 16 2 = nI e) (h4 : C 16 4 = nI s) (hs : s ≤ e) (he : e ≤ t) : ∀ z w fuel, w + z = 10 → z < fuel → fn_X6_word_L2 (fun x M => some (x, M)) (fun M => some ((-4), M)) fuel (nI w) C = some (fw (qw (bt t b) s e) z w, C) := by
  intro z
  induction z with
  | zero =>
    intro w fuel hw hf
    obtain ⟨f, rfl⟩ : ∃ f, fuel = f + 1 := ⟨fuel - 1, by omega⟩
    rw [fn_X6_word_L2, if_pos (show (10 : Int32) ≤ nI w from nI_le (a := 10) (by omega) (by omega))]
    rfl
  | succ z ih =>
    intro w fuel hw hf
    obtain ⟨f, rfl⟩ : ∃ f, fuel = f + 1 := ⟨fuel - 1, by omega⟩
    rw [fn_X6_word_L2, if_neg (show ¬ (10 : Int32) ≤ nI w from nI_ge (b := 10) (by omega) (by omega)), wof_ok w (by omega)]
    simp only [pb_some]
    rw [spl_ok hB h h2 h4 hs he w (by omega)]
    simp only [pb_some]
    rw [nI_1, ih (w + 1) f (by omega) (by omega), fw]
    by_cases q : qw (bt t b) s e w = true
    · rw [if_pos q, if_neg (by decide), if_pos q]
    · rw [if_neg q, if_pos rfl, if_neg q]
theorem wrd_C (hB : tB t b) {C : mm_M} (h : tC C t b) {s e : Nat} (h2 : C 16 2 = nI e) (h4 : C 16 4 = nI s) (hs : s ≤ e) (he : e ≤ t) : fn_X6_word C = some (fw (qw (bt t b) s e) 10 0, C) := by
  have hfu := mm_fu_ge
  exact wrd_L hB h h2 h4 hs he 10 0 mm_fu (by omega) (by omega)
/-! the reference's words -/
theorem fl_2 {α : Type} (p : Prop) [Decidable p] (x y : α) : (if (if p then (1 : Int32) else 0) = 0 then x else y) = if p then y else x := by
  by_cases h : p
  · rw [if_pos h, if_pos h, if_neg (by decide)]
  · rw [if_neg h, if_neg h, if_pos rfl]
theorem it_2 {α : Type} (p q : Prop) [Decidable p] [Decidable q] (a x : α) : (if p then (if q then a else x) else x) = if p ∧ q then a else x := by
  by_cases h : p <;> by_cases g : q <;> simp [h, g]
theorem it_s {α β : Type} (p : Prop) [Decidable p] (a c : α) (R : β) : (if p then some (a, R) else some (c, R)) = some (if p then a else c, R) := by
  split <;> rfl
theorem is_ok (hB : tB t b) {R : mm_M} (h : tR R t b) {s e : Nat} (h8 : R 0 8 = nI e) (h9 : R 0 9 = nI s) (hs : s ≤ e) (he : e ≤ t) (n : Nat) (hn : n < 100) (a1 a2 a3 : Int32) {cn : Int32} (hc : cn = nI n) : fn_X8_is cn a1 a2 a3 R = some (if e - s = n ∧ bt t b s = a1 ∧ bt t b (s + 1) = a2 ∧ bt t b (s + 2) = a3 then 1 else 0, R) := by
  have h160 := hB.1
  subst hc
  have e5 : (nI (e - s) = nI n) = (e - s = n) := pu_eq (by omega) (by omega)
  unfold fn_X8_is
  rw [h8, h9, pk_sub hs, byte_ok h160 h (by omega)]
  simp only [pb_some, h9, e5]
  rw [nI_1, byte_ok h160 h (by omega)]
  simp only [pb_some, h9]
  rw [show nI s + 2 = nI (s + 2) from nI_add s 2, byte_ok h160 h (by omega)]
  simp only [pb_some]
  by_cases q1 : e - s = n <;> by_cases q2 : bt t b s = a1 <;> by_cases q3 : bt t b (s + 1) = a2 <;> by_cases q4 : bt t b (s + 2) = a3 <;> simp [q1, q2, q3, q4]
theorem en_ok (hB : tB t b) {R : mm_M} (h : tR R t b) {s e : Nat} (h9 : R 0 9 = nI s) (hs : s ≤ e) (he : e ≤ t) (c1 c2 c3 : Int32) : fn_X8_endsIn c1 c2 c3 R = some (if bt t b (s + 3) = c1 ∧ (c2 = 0 ∨ bt t b (s + 4) = c2) ∧ (c3 = 0 ∨ bt t b (s + 5) = c3) then 1 else 0, R) := by
  have h160 := hB.1
  unfold fn_X8_endsIn
  rw [h9, show nI s + 3 = nI (s + 3) from nI_add s 3, byte_ok h160 h (by omega)]
  simp only [pb_some, h9]
  rw [show nI s + 4 = nI (s + 4) from nI_add s 4, byte_ok h160 h (by omega)]
  simp only [pb_some, h9]
  rw [show nI s + 5 = nI (s + 5) from nI_add s 5, byte_ok h160 h (by omega)]
  simp only [pb_some]
  by_cases q1 : bt t b (s + 3) = c1 <;> by_cases q2 : c2 = 0 <;> by_cases q3 : c3 = 0 <;> by_cases q4 : bt t b (s + 4) = c2 <;> by_cases q5 : bt t b (s + 5) = c3 <;> simp [q1, q2, q3, q4, q5]
end
theorem qw_0 (f : Nat → Int32) (s e : Nat) : (qw f s e 0 = true) = (e - s = 5 ∧ f s = 112 ∧ f (s + 1) = 108 ∧ f (s + 2) = 97 ∧ f (s + 3) = 105 ∧ f (s + 4) = 110) := by
  apply propext
  simp [qw, wl, mm_byt, mt, and_assoc]
theorem qw_1 (f : Nat → Int32) (s e : Nat) : (qw f s e 1 = true) = (e - s = 6 ∧ f s = 119 ∧ f (s + 1) = 105 ∧ f (s + 2) = 99 ∧ f (s + 3) = 107 ∧ f (s + 4) = 101 ∧ f (s + 5) = 100) := by
  apply propext
  simp [qw, wl, mm_byt, mt, and_assoc]
theorem qw_2 (f : Nat → Int32) (s e : Nat) : (qw f s e 2 = true) = (e - s = 7 ∧ f s = 99 ∧ f (s + 1) = 114 ∧ f (s + 2) = 101 ∧ f (s + 3) = 97 ∧ f (s + 4) = 115 ∧ f (s + 5) = 101 ∧ f (s + 6) = 100) := by
  apply propext
  simp [qw, wl, mm_byt, mt, and_assoc]
theorem qw_3 (f : Nat → Int32) (s e : Nat) : (qw f s e 3 = true) = (e - s = 6 ∧ f s = 110 ∧ f (s + 1) = 97 ∧ f (s + 2) = 112 ∧ f (s + 3) = 107 ∧ f (s + 4) = 105 ∧ f (s + 5) = 110) := by
  apply propext
  simp [qw, wl, mm_byt, mt, and_assoc]
theorem qw_4 (f : Nat → Int32) (s e : Nat) : (qw f s e 4 = true) = (e - s = 4 ∧ f s = 98 ∧ f (s + 1) = 108 ∧ f (s + 2) = 117 ∧ f (s + 3) = 101) := by
  apply propext
  simp [qw, wl, mm_byt, mt, and_assoc]
theorem qw_5 (f : Nat → Int32) (s e : Nat) : (qw f s e 5 = true) = (e - s = 5 ∧ f s = 98 ∧ f (s + 1) = 97 ∧ f (s + 2) = 116 ∧ f (s + 3) = 99 ∧ f (s + 4) = 104) := by
  apply propext
  simp [qw, wl, mm_byt, mt, and_assoc]
theorem qw_6 (f : Nat → Int32) (s e : Nat) : (qw f s e 6 = true) = (e - s = 4 ∧ f s = 112 ∧ f (s + 1) = 101 ∧ f (s + 2) = 103 ∧ f (s + 3) = 115) := by
  apply propext
  simp [qw, wl, mm_byt, mt, and_assoc]
theorem qw_7 (f : Nat → Int32) (s e : Nat) : (qw f s e 7 = true) = (e - s = 4 ∧ f s = 112 ∧ f (s + 1) = 97 ∧ f (s + 2) = 115 ∧ f (s + 3) = 115) := by
  apply propext
  simp [qw, wl, mm_byt, mt, and_assoc]
theorem qw_8 (f : Nat → Int32) (s e : Nat) : (qw f s e 8 = true) = (e - s = 4 ∧ f s = 115 ∧ f (s + 1) = 111 ∧ f (s + 2) = 97 ∧ f (s + 3) = 107) := by
  apply propext
  simp [qw, wl, mm_byt, mt, and_assoc]
theorem qw_9 (f : Nat → Int32) (s e : Nat) : (qw f s e 9 = true) = (e - s = 3 ∧ f s = 115 ∧ f (s + 1) = 117 ∧ f (s + 2) = 110) := by
  apply propext
  simp [qw, wl, mm_byt, mt, and_assoc]
theorem fw_10 (Q : Nat → Bool) : fw Q 10 0 = (if Q 0 = true then 0 else if Q 1 = true then 1 else if Q 2 = true then 2 else if Q 3 = true then 3 else if Q 4 = true then 4 else if Q 5 = true then 5 else if Q 6 = true then 6 else if Q 7 = true then 7 else if Q 8 = true then 8 else if Q 9 = true then 9 else -4) := rfl
theorem z_104 : ((104 : Int32) = 0) = False := eq_false (by decide)
theorem z_110 : ((110 : Int32) = 0) = False := eq_false (by decide)
theorem z_105 : ((105 : Int32) = 0) = False := eq_false (by decide)
theorem z_100 : ((100 : Int32) = 0) = False := eq_false (by decide)
theorem z_101 : ((101 : Int32) = 0) = False := eq_false (by decide)
theorem z_115 : ((115 : Int32) = 0) = False := eq_false (by decide)
section
variable {t : Nat} {b : Nat → Nat}
theorem rl_111 (hB : tB t b) {R : mm_M} (h : tR R t b) {s e : Nat} (h8 : R 0 8 = nI e) (h9 : R 0 9 = nI s) (hs : s ≤ e) (he : e ≤ t) : fn_X8_ruleNow_B111 R = some ((if e - s = 4 ∧ bt t b s = 115 ∧ bt t b (s + 1) = 111 ∧ bt t b (s + 2) = 97 ∧ bt t b (s + 3) = 107 then 8 else if e - s = 3 ∧ bt t b s = 115 ∧ bt t b (s + 1) = 117 ∧ bt t b (s + 2) = 110 then 9 else -4), R) := by
  unfold fn_X8_ruleNow_B111
  simp only [is_ok hB h h8 h9 hs he 4 (by omega) 115 111 97 (cn := 4) rfl, en_ok hB h h9 hs he 107 0 0, is_ok hB h h8 h9 hs he 3 (by omega) 115 117 110 (cn := 3) rfl, pb_some, fl_2, it_2, it_s, and_assoc, true_or, and_true, false_or, z_104, z_110, z_105, z_100, z_101, z_115]
theorem rl_55 (hB : tB t b) {R : mm_M} (h : tR R t b) {s e : Nat} (h8 : R 0 8 = nI e) (h9 : R 0 9 = nI s) (hs : s ≤ e) (he : e ≤ t) : fn_X8_ruleNow_B55 R = some ((if e - s = 4 ∧ bt t b s = 112 ∧ bt t b (s + 1) = 101 ∧ bt t b (s + 2) = 103 ∧ bt t b (s + 3) = 115 then 6 else if e - s = 4 ∧ bt t b s = 112 ∧ bt t b (s + 1) = 97 ∧ bt t b (s + 2) = 115 ∧ bt t b (s + 3) = 115 then 7 else if e - s = 4 ∧ bt t b s = 115 ∧ bt t b (s + 1) = 111 ∧ bt t b (s + 2) = 97 ∧ bt t b (s + 3) = 107 then 8 else if e - s = 3 ∧ bt t b s = 115 ∧ bt t b (s + 1) = 117 ∧ bt t b (s + 2) = 110 then 9 else -4), R) := by
  unfold fn_X8_ruleNow_B55
  simp only [is_ok hB h h8 h9 hs he 4 (by omega) 112 101 103 (cn := 4) rfl, en_ok hB h h9 hs he 115 0 0, is_ok hB h h8 h9 hs he 4 (by omega) 112 97 115 (cn := 4) rfl, en_ok hB h h9 hs he 115 0 0, rl_111 hB h h8 h9 hs he, pb_some, fl_2, it_2, it_s, and_assoc, true_or, and_true, false_or, z_104, z_110, z_105, z_100, z_101, z_115]
theorem rl_ok (hB : tB t b) {R : mm_M} (h : tR R t b) {s e : Nat} (h8 : R 0 8 = nI e) (h9 : R 0 9 = nI s) (hs : s ≤ e) (he : e ≤ t) : fn_X8_ruleNow R = some ((if e - s = 4 ∧ bt t b s = 98 ∧ bt t b (s + 1) = 108 ∧ bt t b (s + 2) = 117 ∧ bt t b (s + 3) = 101 then 4 else if e - s = 5 ∧ bt t b s = 98 ∧ bt t b (s + 1) = 97 ∧ bt t b (s + 2) = 116 ∧ bt t b (s + 3) = 99 ∧ bt t b (s + 4) = 104 then 5 else if e - s = 4 ∧ bt t b s = 112 ∧ bt t b (s + 1) = 101 ∧ bt t b (s + 2) = 103 ∧ bt t b (s + 3) = 115 then 6 else if e - s = 4 ∧ bt t b s = 112 ∧ bt t b (s + 1) = 97 ∧ bt t b (s + 2) = 115 ∧ bt t b (s + 3) = 115 then 7 else if e - s = 4 ∧ bt t b s = 115 ∧ bt t b (s + 1) = 111 ∧ bt t b (s + 2) = 97 ∧ bt t b (s + 3) = 107 then 8 else if e - s = 3 ∧ bt t b s = 115 ∧ bt t b (s + 1) = 117 ∧ bt t b (s + 2) = 110 then 9 else -4), R) := by
  unfold fn_X8_ruleNow
  simp only [is_ok hB h h8 h9 hs he 4 (by omega) 98 108 117 (cn := 4) rfl, en_ok hB h h9 hs he 101 0 0, is_ok hB h h8 h9 hs he 5 (by omega) 98 97 116 (cn := 5) rfl, en_ok hB h h9 hs he 99 104 0, rl_55 hB h h8 h9 hs he, pb_some, fl_2, it_2, it_s, and_assoc, true_or, and_true, false_or, z_104, z_110, z_105, z_100, z_101, z_115]
theorem ln_104 (hB : tB t b) {R : mm_M} (h : tR R t b) {s e : Nat} (h8 : R 0 8 = nI e) (h9 : R 0 9 = nI s) (hs : s ≤ e) (he : e ≤ t) : fn_X8_lineNow_B104 R = some ((if e - s = 6 ∧ bt t b s = 110 ∧ bt t b (s + 1) = 97 ∧ bt t b (s + 2) = 112 ∧ bt t b (s + 3) = 107 ∧ bt t b (s + 4) = 105 ∧ bt t b (s + 5) = 110 then 3 else if e - s = 4 ∧ bt t b s = 98 ∧ bt t b (s + 1) = 108 ∧ bt t b (s + 2) = 117 ∧ bt t b (s + 3) = 101 then 4 else if e - s = 5 ∧ bt t b s = 98 ∧ bt t b (s + 1) = 97 ∧ bt t b (s + 2) = 116 ∧ bt t b (s + 3) = 99 ∧ bt t b (s + 4) = 104 then 5 else if e - s = 4 ∧ bt t b s = 112 ∧ bt t b (s + 1) = 101 ∧ bt t b (s + 2) = 103 ∧ bt t b (s + 3) = 115 then 6 else if e - s = 4 ∧ bt t b s = 112 ∧ bt t b (s + 1) = 97 ∧ bt t b (s + 2) = 115 ∧ bt t b (s + 3) = 115 then 7 else if e - s = 4 ∧ bt t b s = 115 ∧ bt t b (s + 1) = 111 ∧ bt t b (s + 2) = 97 ∧ bt t b (s + 3) = 107 then 8 else if e - s = 3 ∧ bt t b s = 115 ∧ bt t b (s + 1) = 117 ∧ bt t b (s + 2) = 110 then 9 else -4), R) := by
  unfold fn_X8_lineNow_B104
  simp only [is_ok hB h h8 h9 hs he 6 (by omega) 110 97 112 (cn := 6) rfl, en_ok hB h h9 hs he 107 105 110, rl_ok hB h h8 h9 hs he, pb_some, fl_2, it_2, it_s, and_assoc, true_or, and_true, false_or, z_104, z_110, z_105, z_100, z_101, z_115]
theorem ln_58 (hB : tB t b) {R : mm_M} (h : tR R t b) {s e : Nat} (h8 : R 0 8 = nI e) (h9 : R 0 9 = nI s) (hs : s ≤ e) (he : e ≤ t) : fn_X8_lineNow_B58 R = some ((if e - s = 7 ∧ bt t b s = 99 ∧ bt t b (s + 1) = 114 ∧ bt t b (s + 2) = 101 ∧ bt t b (s + 3) = 97 ∧ bt t b (s + 4) = 115 ∧ bt t b (s + 5) = 101 ∧ bt t b (s + 6) = 100 then 2 else if e - s = 6 ∧ bt t b s = 110 ∧ bt t b (s + 1) = 97 ∧ bt t b (s + 2) = 112 ∧ bt t b (s + 3) = 107 ∧ bt t b (s + 4) = 105 ∧ bt t b (s + 5) = 110 then 3 else if e - s = 4 ∧ bt t b s = 98 ∧ bt t b (s + 1) = 108 ∧ bt t b (s + 2) = 117 ∧ bt t b (s + 3) = 101 then 4 else if e - s = 5 ∧ bt t b s = 98 ∧ bt t b (s + 1) = 97 ∧ bt t b (s + 2) = 116 ∧ bt t b (s + 3) = 99 ∧ bt t b (s + 4) = 104 then 5 else if e - s = 4 ∧ bt t b s = 112 ∧ bt t b (s + 1) = 101 ∧ bt t b (s + 2) = 103 ∧ bt t b (s + 3) = 115 then 6 else if e - s = 4 ∧ bt t b s = 112 ∧ bt t b (s + 1) = 97 ∧ bt t b (s + 2) = 115 ∧ bt t b (s + 3) = 115 then 7 else if e - s = 4 ∧ bt t b s = 115 ∧ bt t b (s + 1) = 111 ∧ bt t b (s + 2) = 97 ∧ bt t b (s + 3) = 107 then 8 else if e - s = 3 ∧ bt t b s = 115 ∧ bt t b (s + 1) = 117 ∧ bt t b (s + 2) = 110 then 9 else -4), R) := by
  have h160 := hB.1
  have e6 : fn_X8_byteAt (R 0 9 + 6) R = some (bt t b (s + 6), R) := by
    rw [h9, show nI s + 6 = nI (s + 6) from nI_add s 6]
    exact byte_ok h160 h (by omega)
  unfold fn_X8_lineNow_B58
  simp only [is_ok hB h h8 h9 hs he 7 (by omega) 99 114 101 (cn := 7) rfl, en_ok hB h h9 hs he 97 115 101, e6, ln_104 hB h h8 h9 hs he, pb_some, fl_2, it_2, it_s, and_assoc, true_or, and_true, false_or, z_104, z_110, z_105, z_100, z_101, z_115]
theorem ln_ok (hB : tB t b) {R : mm_M} (h : tR R t b) {s e : Nat} (h8 : R 0 8 = nI e) (h9 : R 0 9 = nI s) (hs : s ≤ e) (he : e ≤ t) : fn_X8_lineNow R = some ((if e - s = 5 ∧ bt t b s = 112 ∧ bt t b (s + 1) = 108 ∧ bt t b (s + 2) = 97 ∧ bt t b (s + 3) = 105 ∧ bt t b (s + 4) = 110 then 0 else if e - s = 6 ∧ bt t b s = 119 ∧ bt t b (s + 1) = 105 ∧ bt t b (s + 2) = 99 ∧ bt t b (s + 3) = 107 ∧ bt t b (s + 4) = 101 ∧ bt t b (s + 5) = 100 then 1 else if e - s = 7 ∧ bt t b s = 99 ∧ bt t b (s + 1) = 114 ∧ bt t b (s + 2) = 101 ∧ bt t b (s + 3) = 97 ∧ bt t b (s + 4) = 115 ∧ bt t b (s + 5) = 101 ∧ bt t b (s + 6) = 100 then 2 else if e - s = 6 ∧ bt t b s = 110 ∧ bt t b (s + 1) = 97 ∧ bt t b (s + 2) = 112 ∧ bt t b (s + 3) = 107 ∧ bt t b (s + 4) = 105 ∧ bt t b (s + 5) = 110 then 3 else if e - s = 4 ∧ bt t b s = 98 ∧ bt t b (s + 1) = 108 ∧ bt t b (s + 2) = 117 ∧ bt t b (s + 3) = 101 then 4 else if e - s = 5 ∧ bt t b s = 98 ∧ bt t b (s + 1) = 97 ∧ bt t b (s + 2) = 116 ∧ bt t b (s + 3) = 99 ∧ bt t b (s + 4) = 104 then 5 else if e - s = 4 ∧ bt t b s = 112 ∧ bt t b (s + 1) = 101 ∧ bt t b (s + 2) = 103 ∧ bt t b (s + 3) = 115 then 6 else if e - s = 4 ∧ bt t b s = 112 ∧ bt t b (s + 1) = 97 ∧ bt t b (s + 2) = 115 ∧ bt t b (s + 3) = 115 then 7 else if e - s = 4 ∧ bt t b s = 115 ∧ bt t b (s + 1) = 111 ∧ bt t b (s + 2) = 97 ∧ bt t b (s + 3) = 107 then 8 else if e - s = 3 ∧ bt t b s = 115 ∧ bt t b (s + 1) = 117 ∧ bt t b (s + 2) = 110 then 9 else -4), R) := by
  unfold fn_X8_lineNow
  simp only [is_ok hB h h8 h9 hs he 5 (by omega) 112 108 97 (cn := 5) rfl, en_ok hB h h9 hs he 105 110 0, is_ok hB h h8 h9 hs he 6 (by omega) 119 105 99 (cn := 6) rfl, en_ok hB h h9 hs he 107 101 100, ln_58 hB h h8 h9 hs he, pb_some, fl_2, it_2, it_s, and_assoc, true_or, and_true, false_or, z_104, z_110, z_105, z_100, z_101, z_115]
theorem wrd_R (hB : tB t b) {R : mm_M} (h : tR R t b) {s e : Nat} (h8 : R 0 8 = nI e) (h9 : R 0 9 = nI s) (hs : s ≤ e) (he : e ≤ t) : fn_X8_lineNow R = some (fw (qw (bt t b) s e) 10 0, R) := by
  rw [ln_ok hB h h8 h9 hs he, fw_10]
  simp only [qw_0, qw_1, qw_2, qw_3, qw_4, qw_5, qw_6, qw_7, qw_8, qw_9]
end
