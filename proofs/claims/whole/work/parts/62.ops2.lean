/-! one cell written, on both sides -/
theorem sm_eC_up {C : mm_M} {a k : Nat} {v : Int32} (h : (1 ≤ a ∧ a ≤ 15) ∨ (19 ≤ a ∧ a < 90)) : sm_eC C (mm_up C a k v) :=
  ⟨by rw [pu_upr _ _ _ (by omega)], by rw [pu_upr _ _ _ (by omega)], pu_upr _ _ _ (by omega), by rw [pu_upr _ _ _ (by omega)], fun b hb _ => pu_upr _ _ _ (by omega)⟩
theorem sm_eC_tr {A B C : mm_M} (h1 : sm_eC A B) (h2 : sm_eC B C) : sm_eC A C :=
  ⟨h2.1.trans h1.1, h2.2.1.trans h1.2.1, h2.2.2.1.trans h1.2.2.1, h2.2.2.2.1.trans h1.2.2.2.1, fun a ha hb => (h2.2.2.2.2 a ha hb).trans (h1.2.2.2.2 a ha hb)⟩
theorem sm_eC_rf (C : mm_M) : sm_eC C C := ⟨rfl, rfl, rfl, rfl, fun _ _ _ => rfl⟩
theorem sm_eR_rf (R : mm_M) : sm_eR R R := ⟨rfl, rfl, rfl, fun _ _ => rfl, rfl, rfl, rfl, rfl, rfl⟩
theorem sm_eR_up {R : mm_M} {k : Nat} {v : Int32} (h : k < 57) : sm_eR R (mm_up R 1 k v) :=
  ⟨by rw [pu_upr _ _ _ (by omega)], by rw [pu_upr _ _ _ (by omega)], by rw [pu_upr _ _ _ (by omega)], fun j hj => by rw [pu_up, if_neg (by omega)], pu_upr _ _ _ (by omega), pu_upr _ _ _ (by omega), pu_upr _ _ _ (by omega), pu_upr _ _ _ (by omega), pu_upr _ _ _ (by omega)⟩
theorem sm_eR_tr {A B C : mm_M} (h1 : sm_eR A B) (h2 : sm_eR B C) : sm_eR A C := by
  obtain ⟨a1, a2, a3, a4, a5, a6, a7, a8, a9⟩ := h1
  obtain ⟨b1, b2, b3, b4, b5, b6, b7, b8, b9⟩ := h2
  exact ⟨b1.trans a1, b2.trans a2, b3.trans a3, fun j hj => (b4 j hj).trans (a4 j hj), b5.trans a5, b6.trans a6, b7.trans a7, b8.trans a8, b9.trans a9⟩
theorem pu_up_at (M : mm_M) (o k : Nat) (v : Int32) : mm_up M o k v o = upd (M o) k v := by
  unfold mm_up
  exact pu_row_at _ _ _
def sm_f (f : Nat → Nat) (j v : Nat) : Nat → Nat := fun i => if i = j then v else f i
section
variable {C : mm_M} {o n d : Nat} {r s k g w p : Nat → Nat} {f : Nat → Int32}
theorem rc_rule (h : sm_rc C o n d r s k g w p) (j v : Nat) : sm_rc (mm_up C (o + 5) j (nI v)) o n d (sm_f r j v) s k g w p := by
  obtain ⟨h1, h2, h3, h4, h5⟩ := h
  refine ⟨by rw [pu_upr _ _ _ (by omega)]; exact h1, by rw [pu_upr _ _ _ (by omega)]; exact h2, fun i hi => ?_, by rw [pu_upr _ _ _ (by omega)]; exact h4, by rw [pu_upr _ _ _ (by omega), pu_upr _ _ _ (by omega), pu_upr _ _ _ (by omega), pu_upr _ _ _ (by omega)]; exact h5⟩
  rw [pu_up, sm_f]
  by_cases e : i = j
  · simp [e]
  · simp [e, h3 i hi]
theorem rc_sun (h : sm_rc C o n d r s k g w p) (j v : Nat) : sm_rc (mm_up C (o + 6) j (nI v)) o n d r (sm_f s j v) k g w p := by
  obtain ⟨h1, h2, h3, h4, h5⟩ := h
  refine ⟨by rw [pu_upr _ _ _ (by omega)]; exact h1, by rw [pu_upr _ _ _ (by omega)]; exact h2, by rw [pu_upr _ _ _ (by omega)]; exact h3, fun i hi => ?_, by rw [pu_upr _ _ _ (by omega), pu_upr _ _ _ (by omega), pu_upr _ _ _ (by omega), pu_upr _ _ _ (by omega)]; exact h5⟩
  rw [pu_up, sm_f]
  by_cases e : i = j
  · simp [e]
  · simp [e, h4 i hi]
theorem rc_one (h : sm_rc C o n d r s k g w p) (c j v : Nat) (hc : c < 4) : sm_rc (mm_up C (o + 1 + c) j (nI v)) o n d r s (if c = 0 then sm_f k j v else k) (if c = 1 then sm_f g j v else g) (if c = 2 then sm_f w j v else w) (if c = 3 then sm_f p j v else p) := by
  obtain ⟨h1, h2, h3, h4, h5⟩ := h
  refine ⟨by rw [pu_upr _ _ _ (by omega)]; exact h1, by rw [pu_upr _ _ _ (by omega)]; exact h2, by rw [pu_upr _ _ _ (by omega)]; exact h3, by rw [pu_upr _ _ _ (by omega)]; exact h4, fun i hi => ?_⟩
  obtain ⟨a1, a2, a3, a4⟩ := h5 i hi
  by_cases e : i = j
  · subst e
    rcases (by omega : c = 0 ∨ c = 1 ∨ c = 2 ∨ c = 3) with e | e | e | e <;> subst e <;> simp [pu_up, sm_f, a1, a2, a3, a4]
  · rcases (by omega : c = 0 ∨ c = 1 ∨ c = 2 ∨ c = 3) with e2 | e2 | e2 | e2 <;> subst e2 <;> simp [pu_up, sm_f, e, a1, a2, a3, a4]
theorem rr_rule (h : sm_rr f n d r s k g w p) (hn : n ≤ 6) (j v : Nat) (hj : j < 5) : sm_rr (upd f (25 + j) (nI v)) n d (sm_f r j v) s k g w p := by
  obtain ⟨h1, h2, h3, h4, h5⟩ := h
  refine ⟨by rw [upd, if_neg (by omega)]; exact h1, by rw [upd, if_neg (by omega)]; exact h2, fun i hi => ?_, fun i hi => by rw [upd, if_neg (by omega)]; exact h4 i hi, fun i hi => by
    rw [upd, upd, upd, upd, if_neg (by omega), if_neg (by omega), if_neg (by omega), if_neg (by omega)]; exact h5 i hi⟩
  rw [upd, sm_f]
  by_cases e : i = j
  · simp [e]
  · rw [if_neg (by omega), if_neg e, h3 i hi]
theorem rr_sun (h : sm_rr f n d r s k g w p) (hn : n ≤ 6) (j v : Nat) (hj : j < 7) : sm_rr (upd f (30 + j) (nI v)) n d r (sm_f s j v) k g w p := by
  obtain ⟨h1, h2, h3, h4, h5⟩ := h
  refine ⟨by rw [upd, if_neg (by omega)]; exact h1, by rw [upd, if_neg (by omega)]; exact h2, fun i hi => by rw [upd, if_neg (by omega)]; exact h3 i hi, fun i hi => ?_, fun i hi => by
    rw [upd, upd, upd, upd, if_neg (by omega), if_neg (by omega), if_neg (by omega), if_neg (by omega)]; exact h5 i hi⟩
  rw [upd, sm_f]
  by_cases e : i = j
  · simp [e]
  · rw [if_neg (by omega), if_neg e, h4 i hi]
theorem rr_one (h : sm_rr f n d r s k g w p) (c j v : Nat) (hn : n ≤ 6) (hj : j < 6) (hc : c < 4) : sm_rr (upd f (4 * j + c) (nI v)) n d r s (if c = 0 then sm_f k j v else k) (if c = 1 then sm_f g j v else g) (if c = 2 then sm_f w j v else w) (if c = 3 then sm_f p j v else p) := by
  obtain ⟨h1, h2, h3, h4, h5⟩ := h
  refine ⟨by rw [upd, if_neg (by omega)]; exact h1, by rw [upd, if_neg (by omega)]; exact h2, fun i hi => by rw [upd, if_neg (by omega)]; exact h3 i hi, fun i hi => by rw [upd, if_neg (by omega)]; exact h4 i hi, fun i hi => ?_⟩
  obtain ⟨a1, a2, a3, a4⟩ := h5 i hi
  by_cases e : i = j
  · subst e
    rcases (by omega : c = 0 ∨ c = 1 ∨ c = 2 ∨ c = 3) with e | e | e | e <;> subst e <;> simp [upd, sm_f, a1, a2, a3, a4]
  · have b0 : ¬ 4 * i = 4 * j + c := by omega
    have b1 : ¬ 4 * i + 1 = 4 * j + c := by omega
    have b2 : ¬ 4 * i + 2 = 4 * j + c := by omega
    have b3 : ¬ 4 * i + 3 = 4 * j + c := by omega
    simp only [upd, b0, b1, b2, b3, if_false]
    rcases (by omega : c = 0 ∨ c = 1 ∨ c = 2 ∨ c = 3) with e2 | e2 | e2 | e2 <;> subst e2 <;> simp [sm_f, e, a1, a2, a3, a4]
theorem sn_f {q m : Nat} {f' : Nat → Int32} (e : ∀ j, 38 ≤ j → f' j = f j) (h : sm_sn C q f m) : sm_sn C q f' m := by
  obtain ⟨t, a, b, c, h1, h2, h3, h4⟩ := h
  exact ⟨t, a, b, c, h1, h2, by rw [e 38 (by omega)]; exact h3, fun x hx => by
    obtain ⟨y1, y2, y3, y4, y5⟩ := h4 x hx
    exact ⟨y1, y2, by rw [e _ (by omega)]; exact y3, by rw [e _ (by omega)]; exact y4, by rw [e _ (by omega)]; exact y5⟩⟩
end
theorem pl_replace (o m : Nat) (c1 c2 c3 : Int32) (M : mm_M) {j : Nat} (hj : j < m) (hm : m < 1000) (h1 : c1 = nI j) : fn_X7_replace o m c1 c2 c3 M = some (if pw_b c2 0 c3 = 0 then ((-1), M) else (M o j, mm_up M o j c2)) := by
  subst h1
  have e : pw_b (nI j) 0 (Int32.ofNat m - 1) = 1 := by
    rcases pw_one (nI j) m (by omega) with h | ⟨i, _, _, h⟩
    · exfalso
      have hx : (nI m - 1 : Int32) = nI (m - 1) := by
        obtain ⟨x, rfl⟩ : ∃ x, m = x + 1 := ⟨m - 1, by omega⟩
        rw [nI_pred]; rfl
      rw [hx] at h
      unfold pw_b at h
      rw [if_neg (nI_pos (by omega)), if_neg (nI_nlt (by omega) (by omega))] at h
      exact absurd h (by decide)
    · exact h
  simp only [fn_X7_replace, pw_C, Option.bind_some, mm_let, e]
  rw [if_neg (by decide)]
  by_cases h : pw_b c2 0 c3 = 0
  · rw [if_pos h, if_pos h]
  · rw [if_neg h, if_neg h, if_pos (pu_in hj (by omega)), nI_clamp (by omega)]
theorem pl_becomes (i : Nat) (c : Int32) (M : mm_M) (hi : i < 171) {x : Int32} (hx : x = nI i) : fn_X8_becomes x c M = some (M 1 i, mm_up M 1 i c) := by
  subst hx
  simp only [fn_X8_becomes, mm_let]
  rw [if_pos (pu_in hi (by decide)), nI_clamp (by omega)]
theorem so_shine : sj_shine sm_S := by
  intro C R h c v
  have h' := h
  obtain ⟨⟨n, d, r, s, k, g, w, p, ⟨hd, hw⟩, hc, hr, hsn⟩, -⟩ := h'
  rcases pw_lit c 6 (x := 6) rfl (by decide) with e | ⟨j, hj, rfl, e⟩
  · refine ⟨-1, C, R, ?_, ?_, h⟩
    · simp [fn_X7_shine, fn_X7_isWeekday, pw_C, e]
    · simp [fn_X8_shine, pw_R6, e]
  · have e30 : (30 : Int32) + nI j = nI (30 + j) := nI_add 30 j
    rcases pw_lit v 9 (x := 9) rfl (by decide) with e2 | ⟨u, hu, rfl, e2⟩
    · refine ⟨-1, C, R, ?_, ?_, h⟩
      · simp [fn_X7_shine, fn_X7_isWeekday, pw_C, e, pl_replace 7 7 (nI j) v 9 C (j := j) (by omega) (by decide) rfl, e2]
      · simp [fn_X8_shine, pw_R6, pw_R9, e, e2]
    · refine ⟨nI (s j), mm_up C 7 j (nI u), mm_up R 1 (30 + j) (nI u), ?_, ?_, sm_move h (sm_eC_up (by omega)) (sm_eR_up (by omega)) ?_⟩
      · simp [fn_X7_shine, fn_X7_isWeekday, pw_C, e, pl_replace 7 7 (nI j) (nI u) 9 C (j := j) (by omega) (by decide) rfl, e2, hc.2.2.2.1 j (by omega)]
      · simp [fn_X8_shine, pw_R6, pw_R9, e, e2, pl_becomes (30 + j) (nI u) R (by omega) e30, hr.2.2.2.1 j (by omega)]
      · rw [pu_up_at]
        refine ⟨n, d, r, sm_f s j u, k, g, w, p, ⟨hd, hw.1, hw.2.1, fun i hi => ?_, hw.2.2.2⟩, rc_sun hc j u, rr_sun hr hw.1 j u (by omega), sn_f (fun i hi => by rw [upd, if_neg (by omega)]) (sm_sn_eq (fun a ha hb => pu_upr _ _ _ (by omega)) hsn)⟩
        rw [sm_f]
        split
        · exact hu
        · exact hw.2.2.1 i hi
