/-! A LAUNDRY AS NUMBERS: L 0 0 how many, L 0 1 the day, rows 1 kinds, 2 greys, 3 wets, 4 places, 5 rules, 6 suns. -/
abbrev LV := Nat → Nat → Nat
def lu (L : LV) (a j v : Nat) : LV := fun x y => if x = a ∧ y = j then v else L x y
def lw (L : LV) : Prop := sm_wf (L 0 0) (L 5) (L 6) (L 1) (L 2) (L 3) (L 4)
def lC (C : mm_M) (o : Nat) (L : LV) : Prop := sm_rc C o (L 0 0) (L 0 1) (L 5) (L 6) (L 1) (L 2) (L 3) (L 4)
def lR (f : Nat → Int32) (L : LV) : Prop := sm_rr f (L 0 0) (L 0 1) (L 5) (L 6) (L 1) (L 2) (L 3) (L 4)
def lv_pack (n d : Nat) (r s k g w p : Nat → Nat) : LV := fun a => match a with
  | 0 => fun j => if j = 0 then n else d
  | 1 => k
  | 2 => g
  | 3 => w
  | 4 => p
  | 5 => r
  | _ => s
theorem lu_ne (L : LV) {a x : Nat} (j v : Nat) (h : x ≠ a) : lu L a j v x = L x := by
  funext y
  simp [lu, h]
theorem lu_at (L : LV) (a j v : Nat) : lu L a j v a j = v := by simp [lu]
theorem lu_nj (L : LV) {a j y : Nat} (v : Nat) (x : Nat) (h : y ≠ j) : lu L a j v x y = L x y := by simp [lu, h]
theorem lu_same {L : LV} {a j v : Nat} (h : L a j = v) : lu L a j v = L := by
  funext x y
  simp only [lu]
  split
  · next e => rw [e.1, e.2, h]
  · rfl
theorem lu_c {C : mm_M} {o x y : Nat} {L : LV} (e : C (o + x) y = nI (L x y)) (a j v : Nat) : mm_up C (o + a) j (nI v) (o + x) y = nI (lu L a j v x y) := by
  rw [pu_up]
  simp only [lu]
  by_cases h : x = a ∧ y = j
  · rw [if_pos h, if_pos (by omega)]
  · rw [if_neg h, if_neg (by omega), e]
theorem lC_up {C : mm_M} {o : Nat} {L : LV} (h : lC C o L) (a j v : Nat) (ha : ¬ (0 = a ∧ 0 = j)) : lC (mm_up C (o + a) j (nI v)) o (lu L a j v) := by
  obtain ⟨h1, h2, h3, h4, h5⟩ := h
  have e : lu L a j v 0 0 = L 0 0 := if_neg ha
  refine ⟨lu_c (x := 0) h1 a j v, lu_c (x := 0) h2 a j v, fun i hi => lu_c (h3 i hi) a j v, fun i hi => lu_c (h4 i hi) a j v, fun i hi => ?_⟩
  rw [e] at hi
  obtain ⟨b1, b2, b3, b4⟩ := h5 i hi
  exact ⟨lu_c b1 a j v, lu_c b2 a j v, lu_c b3 a j v, lu_c b4 a j v⟩
/-- a cell that no laundry tells -/
theorem lC_up2 {C : mm_M} {o : Nat} {L : LV} (h : lC C o L) (x : Int32) : lC (mm_up C o 2 x) o L := by
  obtain ⟨h1, h2, h3, h4, h5⟩ := h
  refine ⟨by rw [pu_up, if_neg (by omega)]; exact h1, by rw [pu_up, if_neg (by omega)]; exact h2, fun i hi => by rw [pu_upr _ _ _ (by omega)]; exact h3 i hi, fun i hi => by rw [pu_upr _ _ _ (by omega)]; exact h4 i hi, fun i hi => by rw [pu_upr _ _ _ (by omega), pu_upr _ _ _ (by omega), pu_upr _ _ _ (by omega), pu_upr _ _ _ (by omega)]; exact h5 i hi⟩
theorem lC_eq {C C' : mm_M} {o : Nat} {L : LV} (e : ∀ a, o ≤ a → a ≤ o + 6 → C' a = C a) (h : lC C o L) : lC C' o L := sm_rc_eq e h
theorem lu_r {f : Nat → Int32} {L : LV} {x y t u : Nat} (e : f u = nI (L x y)) (a j v : Nat) (h : u = t ↔ (x = a ∧ y = j)) : upd f t (nI v) u = nI (lu L a j v x y) := by
  simp only [upd, lu]
  by_cases h2 : x = a ∧ y = j
  · rw [if_pos h2, if_pos (h.mpr h2)]
  · rw [if_neg h2, if_neg (fun q => h2 (h.mp q)), e]
theorem lR_one {f : Nat → Int32} {L : LV} (h : lR f L) (c j v : Nat) (hn : L 0 0 ≤ 6) (hj : j < 6) (hc : c < 4) : lR (upd f (4 * j + c) (nI v)) (lu L (1 + c) j v) := by
  obtain ⟨h1, h2, h3, h4, h5⟩ := h
  have e : lu L (1 + c) j v 0 0 = L 0 0 := if_neg (by omega)
  refine ⟨lu_r h1 _ _ _ (by omega), lu_r h2 _ _ _ (by omega), fun i hi => lu_r (h3 i hi) _ _ _ (by omega), fun i hi => lu_r (h4 i hi) _ _ _ (by omega), fun i hi => ?_⟩
  rw [e] at hi
  obtain ⟨b1, b2, b3, b4⟩ := h5 i hi
  exact ⟨lu_r b1 _ _ _ (by omega), lu_r b2 _ _ _ (by omega), lu_r b3 _ _ _ (by omega), lu_r b4 _ _ _ (by omega)⟩
theorem lR_rule {f : Nat → Int32} {L : LV} (h : lR f L) (j v : Nat) (hn : L 0 0 ≤ 6) (hj : j < 5) : lR (upd f (25 + j) (nI v)) (lu L 5 j v) := by
  obtain ⟨h1, h2, h3, h4, h5⟩ := h
  have e : lu L 5 j v 0 0 = L 0 0 := if_neg (by omega)
  refine ⟨lu_r h1 _ _ _ (by omega), lu_r h2 _ _ _ (by omega), fun i hi => lu_r (h3 i hi) _ _ _ (by omega), fun i hi => lu_r (h4 i hi) _ _ _ (by omega), fun i hi => ?_⟩
  rw [e] at hi
  obtain ⟨b1, b2, b3, b4⟩ := h5 i hi
  exact ⟨lu_r b1 _ _ _ (by omega), lu_r b2 _ _ _ (by omega), lu_r b3 _ _ _ (by omega), lu_r b4 _ _ _ (by omega)⟩
theorem lR_sun {f : Nat → Int32} {L : LV} (h : lR f L) (j v : Nat) (hn : L 0 0 ≤ 6) (hj : j < 7) : lR (upd f (30 + j) (nI v)) (lu L 6 j v) := by
  obtain ⟨h1, h2, h3, h4, h5⟩ := h
  have e : lu L 6 j v 0 0 = L 0 0 := if_neg (by omega)
  refine ⟨lu_r h1 _ _ _ (by omega), lu_r h2 _ _ _ (by omega), fun i hi => lu_r (h3 i hi) _ _ _ (by omega), fun i hi => lu_r (h4 i hi) _ _ _ (by omega), fun i hi => ?_⟩
  rw [e] at hi
  obtain ⟨b1, b2, b3, b4⟩ := h5 i hi
  exact ⟨lu_r b1 _ _ _ (by omega), lu_r b2 _ _ _ (by omega), lu_r b3 _ _ _ (by omega), lu_r b4 _ _ _ (by omega)⟩
theorem lR_day {f : Nat → Int32} {L : LV} (h : lR f L) (v : Nat) (hn : L 0 0 ≤ 6) : lR (upd f 37 (nI v)) (lu L 0 1 v) := by
  obtain ⟨h1, h2, h3, h4, h5⟩ := h
  have e : lu L 0 1 v 0 0 = L 0 0 := if_neg (by omega)
  refine ⟨lu_r h1 _ _ _ (by omega), lu_r h2 _ _ _ (by omega), fun i hi => lu_r (h3 i hi) _ _ _ (by omega), fun i hi => lu_r (h4 i hi) _ _ _ (by omega), fun i hi => ?_⟩
  rw [e] at hi
  obtain ⟨b1, b2, b3, b4⟩ := h5 i hi
  exact ⟨lu_r b1 _ _ _ (by omega), lu_r b2 _ _ _ (by omega), lu_r b3 _ _ _ (by omega), lu_r b4 _ _ _ (by omega)⟩
/-! what is asked of a laundry -/
def lv_scr (L : LV) (i : Nat) : Nat := if L 1 i = 1 then L 5 0 / 2 else if L 1 i = 3 then L 5 0 / 2 - 1 else L 5 0
def lv_dry (L : LV) (i sky : Nat) : Nat := if L 1 i = 2 then sky / 2 else if L 1 i = 3 then 2 * sky else sky
def lv_cnt (f : Nat → Nat) (v : Nat) : Nat → Nat
  | 0 => 0
  | i + 1 => lv_cnt f v i + if f i = v then 1 else 0
def lv_bits (P : Nat → Bool) : Nat → Nat
  | 0 => 0
  | i + 1 => lv_bits P i ||| if P i then 2 ^ i else 0
def lv_sum (f : Nat → Nat) : Nat → Nat
  | 0 => 0
  | i + 1 => lv_sum f i + f i
def it {α : Type} (f : Nat → α → α) : Nat → Nat → α → α
  | _, 0, a => a
  | i, m + 1, a => it f (i + 1) m (f i a)
def lv_bl (sky : Nat) : Nat := if sky < 5 then 0 else 1
def lv_bo (i : Nat) (x : LV × Nat) : LV × Nat := if x.2 < x.1 5 1 ∧ x.1 4 i = 0 then (lu (lu (lu x.1 2 i (x.1 2 i - lv_scr x.1 i)) 3 i (x.1 5 4)) 4 i (if lv_cnt (x.1 4) 1 (x.1 0 0) < x.1 5 2 then 1 else 0), x.2 + 1) else x
def lv_ha (sky i : Nat) (x : LV × Nat) : LV × Nat := if x.1 4 i = 1 then
    (if x.1 3 i - lv_dry x.1 i sky = 0 then
      (if x.1 2 i - lv_bl sky ≤ x.1 5 3 then (lu (lu (lu x.1 3 i (x.1 3 i - lv_dry x.1 i sky)) 2 i (x.1 2 i - lv_bl sky)) 4 i 2, x.2 + 1)
      else (lu (lu (lu x.1 3 i (x.1 3 i - lv_dry x.1 i sky)) 2 i (x.1 2 i - lv_bl sky)) 4 i 0, x.2))
    else (lu (lu x.1 3 i (x.1 3 i - lv_dry x.1 i sky)) 2 i (x.1 2 i - lv_bl sky), x.2)) else x
def lv_B (L : LV) : LV × Nat := it lv_bo 0 (L 0 0) (L, 0)
def lv_H (sky : Nat) (L : LV) : LV × Nat := it (lv_ha sky) 0 (L 0 0) ((lv_B L).1, 0)
def lv_D (sky : Nat) (L : LV) : LV := lu (lv_H sky L).1 0 1 (L 0 1 + 1)
def lv_today (L : LV) : Nat := L 6 (L 0 1 % 7)
/-- what stays and what holds through a day -/
def lv_k (L L' : LV) : Prop := L' 0 = L 0 ∧ L' 1 = L 1 ∧ L' 5 = L 5 ∧ L' 6 = L 6
theorem lv_k_rf (L : LV) : lv_k L L := ⟨rfl, rfl, rfl, rfl⟩
theorem lv_k_tr {A B C : LV} (h1 : lv_k A B) (h2 : lv_k B C) : lv_k A C := ⟨h2.1.trans h1.1, h2.2.1.trans h1.2.1, h2.2.2.1.trans h1.2.2.1, h2.2.2.2.trans h1.2.2.2⟩
theorem lv_k_up (L : LV) {a : Nat} (j v : Nat) (h : 2 ≤ a ∧ a ≤ 4) : lv_k L (lu L a j v) := ⟨lu_ne _ _ _ (by omega), lu_ne _ _ _ (by omega), lu_ne _ _ _ (by omega), lu_ne _ _ _ (by omega)⟩
theorem lw_up {L : LV} (h : lw L) (a j v : Nat) (ha : (a = 1 ∧ v < 4) ∨ (a = 2 ∧ v ≤ 60) ∨ (a = 3 ∧ v ≤ 20) ∨ (a = 4 ∧ v < 3)) : lw (lu L a j v) := by
  obtain ⟨h1, h2, h3, h4⟩ := h
  have e0 : lu L a j v 0 = L 0 := lu_ne _ _ _ (by omega)
  have e5 : lu L a j v 5 = L 5 := lu_ne _ _ _ (by omega)
  have e6 : lu L a j v 6 = L 6 := lu_ne _ _ _ (by omega)
  refine ⟨by rw [e0]; exact h1, by rw [e5]; exact h2, by rw [e6]; exact h3, fun i hi => ?_⟩
  rw [e0] at hi
  obtain ⟨a1, a2, a3, a4⟩ := h4 i hi
  simp only [lu]
  refine ⟨?_, ?_, ?_, ?_⟩
  · split
    · omega
    · exact a1
  · split
    · omega
    · exact a2
  · split
    · omega
    · exact a3
  · split
    · omega
    · exact a4
theorem lw_rule {L : LV} (h : lw L) (j v : Nat) (hj : j < 5) (hv : v ≤ sm_most j) : lw (lu L 5 j v) := by
  have e : lu L 5 j v 5 = sm_f (L 5) j v := by
    funext y
    simp [lu, sm_f]
  have h' := sm_wf_rule h j v hj hv
  unfold lw
  rw [e, lu_ne _ _ _ (by omega), lu_ne _ _ _ (by omega), lu_ne _ _ _ (by omega), lu_ne _ _ _ (by omega), lu_ne _ _ _ (by omega), lu_ne _ _ _ (by omega)]
  exact h'
theorem lw_sun {L : LV} (h : lw L) (j v : Nat) (hv : v ≤ 9) : lw (lu L 6 j v) := by
  obtain ⟨h1, h2, h3, h4⟩ := h
  unfold lw
  rw [lu_ne _ _ _ (by omega : (0 : Nat) ≠ 6), lu_ne _ _ _ (by omega : (1 : Nat) ≠ 6), lu_ne _ _ _ (by omega : (2 : Nat) ≠ 6), lu_ne _ _ _ (by omega : (3 : Nat) ≠ 6), lu_ne _ _ _ (by omega : (4 : Nat) ≠ 6), lu_ne _ _ _ (by omega : (5 : Nat) ≠ 6)]
  refine ⟨h1, h2, fun i hi => ?_, h4⟩
  simp only [lu]
  split
  · exact hv
  · exact h3 i hi
theorem lw_day {L : LV} (h : lw L) (v : Nat) : lw (lu L 0 1 v) := by
  unfold lw
  rw [lu_ne _ _ _ (by omega : (1 : Nat) ≠ 0), lu_ne _ _ _ (by omega : (2 : Nat) ≠ 0), lu_ne _ _ _ (by omega : (3 : Nat) ≠ 0), lu_ne _ _ _ (by omega : (4 : Nat) ≠ 0), lu_ne _ _ _ (by omega : (5 : Nat) ≠ 0), lu_ne _ _ _ (by omega : (6 : Nat) ≠ 0)]
  exact h
/-- one step: rules, kinds, suns and numbers stay, bounds hold, who is home stays home -/
def lv_ok (L L' : LV) : Prop := lv_k L L' ∧ (lw L → lw L') ∧ ∀ j, L 4 j = 2 → L' 4 j = 2
theorem lv_ok_rf (L : LV) : lv_ok L L := ⟨lv_k_rf L, id, fun _ h => h⟩
theorem lv_ok_tr {A B C : LV} (h1 : lv_ok A B) (h2 : lv_ok B C) : lv_ok A C := ⟨lv_k_tr h1.1 h2.1, fun h => h2.2.1 (h1.2.1 h), fun j h => h2.2.2 j (h1.2.2 j h)⟩
theorem lv_bo_ok (i : Nat) (x : LV × Nat) (hi : i < x.1 0 0) : lv_ok x.1 (lv_bo i x).1 := by
  unfold lv_bo
  split
  · next h =>
    refine ⟨lv_k_tr (lv_k_up _ _ _ (by omega)) (lv_k_tr (lv_k_up _ _ _ (by omega)) (lv_k_up _ _ _ (by omega))), fun hw => ?_, fun j hj => ?_⟩
    · have h4 := hw.2.2.2 i hi
      have h5 := hw.2.1
      refine lw_up (lw_up (lw_up hw 2 i _ (by omega)) 3 i _ (by omega)) 4 i _ ?_
      split <;> omega
    · have : j ≠ i := fun e => by subst e; omega
      simp only []
      rw [lu_nj _ _ _ this, lu_nj _ _ _ this, lu_nj _ _ _ this]
      exact hj
  · exact lv_ok_rf _
theorem lv_ha_ok (sky i : Nat) (x : LV × Nat) (hi : i < x.1 0 0) : lv_ok x.1 (lv_ha sky i x).1 := by
  unfold lv_ha
  split
  · next h =>
    have key : ∀ v, v < 3 → lv_ok x.1 (lu (lu (lu x.1 3 i (x.1 3 i - lv_dry x.1 i sky)) 2 i (x.1 2 i - lv_bl sky)) 4 i v) := fun v hv => by
      refine ⟨lv_k_tr (lv_k_up _ _ _ (by omega)) (lv_k_tr (lv_k_up _ _ _ (by omega)) (lv_k_up _ _ _ (by omega))), fun hw => ?_, fun j hj => ?_⟩
      · have h4 := hw.2.2.2 i hi
        exact lw_up (lw_up (lw_up hw 3 i _ (by omega)) 2 i _ (by omega)) 4 i _ (by omega)
      · have : j ≠ i := fun e => by subst e; omega
        rw [lu_nj _ _ _ this, lu_nj _ _ _ this, lu_nj _ _ _ this]
        exact hj
    split
    · split
      · exact key 2 (by omega)
      · exact key 0 (by omega)
    · refine ⟨lv_k_tr (lv_k_up _ _ _ (by omega)) (lv_k_up _ _ _ (by omega)), fun hw => ?_, fun j hj => ?_⟩
      · have h4 := hw.2.2.2 i hi
        exact lw_up (lw_up hw 3 i _ (by omega)) 2 i _ (by omega)
      · show (lu (lu x.1 3 i (x.1 3 i - lv_dry x.1 i sky)) 2 i (x.1 2 i - lv_bl sky)) 4 j = 2
        rw [lu_ne _ _ _ (by omega : (4 : Nat) ≠ 2), lu_ne _ _ _ (by omega : (4 : Nat) ≠ 3)]
        exact hj
  · exact lv_ok_rf _
theorem lv_it_ok (f : Nat → LV × Nat → LV × Nat) (hf : ∀ i x, i < x.1 0 0 → lv_ok x.1 (f i x).1) : ∀ (m i : Nat) (x : LV × Nat), i + m ≤ x.1 0 0 → lv_ok x.1 (it f i m x).1 := by
  intro m
  induction m with
  | zero => intro i x _; exact lv_ok_rf _
  | succ m ih =>
    intro i x h
    have h1 := hf i x (by omega)
    have e : (f i x).1 0 0 = x.1 0 0 := by rw [h1.1.1]
    exact lv_ok_tr h1 (ih (i + 1) (f i x) (by omega))
theorem lv_B_ok (L : LV) : lv_ok L (lv_B L).1 := lv_it_ok lv_bo lv_bo_ok _ 0 (L, 0) (by simp)
theorem lv_H_ok (sky : Nat) (L : LV) : lv_ok L (lv_H sky L).1 := by
  have h := lv_B_ok L
  have e : (lv_B L).1 0 0 = L 0 0 := by rw [h.1.1]
  exact lv_ok_tr h (lv_it_ok (lv_ha sky) (lv_ha_ok sky) _ 0 ((lv_B L).1, 0) (by simp [e]))
theorem lv_D_w (sky : Nat) {L : LV} (h : lw L) : lw (lv_D sky L) := lw_day ((lv_H_ok sky L).2.1 h) _
theorem lv_D_k (sky : Nat) (L : LV) : (lv_D sky L) 0 0 = L 0 0 ∧ (lv_D sky L) 0 1 = L 0 1 + 1 ∧ (lv_D sky L) 1 = L 1 ∧ (lv_D sky L) 5 = L 5 ∧ (lv_D sky L) 6 = L 6 := by
  have h := (lv_H_ok sky L).1
  unfold lv_D
  rw [lu_ne _ _ _ (by omega : (1 : Nat) ≠ 0), lu_ne _ _ _ (by omega : (5 : Nat) ≠ 0), lu_ne _ _ _ (by omega : (6 : Nat) ≠ 0), lu_at, lu_nj _ _ _ (by omega : (0 : Nat) ≠ 1), h.1]
  exact ⟨rfl, rfl, h.2.1, h.2.2.1, h.2.2.2⟩
theorem lv_D_home (sky : Nat) (L : LV) (j : Nat) (h : L 4 j = 2) : (lv_D sky L) 4 j = 2 := by
  unfold lv_D
  rw [lu_ne _ _ _ (by omega : (4 : Nat) ≠ 0)]
  exact (lv_H_ok sky L).2.2 j h
