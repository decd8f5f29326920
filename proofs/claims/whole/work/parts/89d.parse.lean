/-! READING, on both sides at once -/
def tz_T (C R : mm_M) (t : Nat) (b : Nat → Nat) (p : Nat) : Prop := tB t b ∧ tC C t b ∧ tR R t b ∧ C 18 1 = 0 ∧ R 0 12 = 0 ∧ C 16 2 = nI p ∧ R 0 8 = nI p ∧ p ≤ t
def tz_K (C R : mm_M) (t : Nat) (b : Nat → Nat) (k s e v : Nat) : Prop := tz_T C R t b e ∧ C 16 3 = nI k ∧ R 0 10 = nI (if k = 4 then 0 else k) ∧ C 16 4 = nI s ∧ R 0 9 = nI s ∧ (1 ≤ k ∧ k ≤ 4) ∧ s ≤ e ∧ (k ≠ 4 → s < e) ∧ (k = 2 → v ≤ 99 ∧ C 16 5 = nI v ∧ R 0 11 = nI v)
def tz_F (C R : mm_M) : Prop := ∃ c s : Nat, (1 ≤ c ∧ c ≤ 5) ∧ s ≤ 160 ∧ C 18 1 = nI c ∧ R 0 12 = nI c ∧ C 18 2 = nI s ∧ R 0 13 = nI s
def fC (C C' : mm_M) : Prop := (∀ a, a ≠ 16 → a ≠ 18 → C' a = C a) ∧ C' 18 3 = C 18 3
def fR (R R' : mm_M) : Prop := (∀ a, a ≠ 0 → R' a = R a) ∧ ∀ j, j < 8 ∨ 13 < j → R' 0 j = R 0 j
def gC (C C' : mm_M) : Prop := ∀ a, ¬ (8 ≤ a ∧ a ≤ 14) → a ≠ 16 → a ≠ 18 → C' a = C a
def gR (R R' : mm_M) : Prop := (∀ a, a ≠ 0 → a ≠ 4 → R' a = R a) ∧ ∀ j, j < 4 ∨ j = 6 ∨ j = 7 ∨ 13 < j → R' 0 j = R 0 j
theorem fC_rf (C : mm_M) : fC C C := ⟨fun _ _ _ => rfl, rfl⟩
theorem fR_rf (R : mm_M) : fR R R := ⟨fun _ _ => rfl, fun _ _ => rfl⟩
theorem fC_tr {A B C : mm_M} (h1 : fC A B) (h2 : fC B C) : fC A C := ⟨fun a p q => (h2.1 a p q).trans (h1.1 a p q), h2.2.trans h1.2⟩
theorem fR_tr {A B C : mm_M} (h1 : fR A B) (h2 : fR B C) : fR A C := ⟨fun a p => (h2.1 a p).trans (h1.1 a p), fun j p => (h2.2 j p).trans (h1.2 j p)⟩
theorem gC_tr {A B C : mm_M} (h1 : gC A B) (h2 : gC B C) : gC A C := fun a p q r => (h2 a p q r).trans (h1 a p q r)
theorem gR_tr {A B C : mm_M} (h1 : gR A B) (h2 : gR B C) : gR A C := ⟨fun a p q => (h2.1 a p q).trans (h1.1 a p q), fun j p => (h2.2 j p).trans (h1.2 j p)⟩
theorem gC_of {A B : mm_M} (h : fC A B) : gC A B := fun a _ q r => h.1 a q r
theorem gR_of {A B : mm_M} (h : fR A B) : gR A B := ⟨fun a p _ => h.1 a p, fun j p => h.2 j (by omega)⟩
theorem tz_F_n {C R : mm_M} (h : tz_F C R) : ¬ R 0 12 = 0 ∧ ¬ R 0 12 ≤ 0 := by
  obtain ⟨c, s, h1, h2, h3, h4, h5, h6⟩ := h
  rw [h4]
  exact ⟨nI_ne0 (by omega) (by omega), nI_nle (by omega) (by omega)⟩
theorem rd_f {R : mm_M} (h : ¬ R 0 12 ≤ 0) : fn_X8_reads R = some R := by
  unfold fn_X8_reads
  rw [if_neg h]
theorem tz_T_cg {C R C' R' : mm_M} {t : Nat} {b : Nat → Nat} {p : Nat} (h : tz_T C R t b p) (h1 : C' 16 = C 16) (h2 : C' 17 = C 17) (h3 : C' 18 1 = C 18 1) (h4 : ∀ j, 7 ≤ j → R' 0 j = R 0 j) (h5 : R' 5 = R 5) : tz_T C' R' t b p := by
  obtain ⟨a1, a2, a3, a4, a5, a6, a7, a8⟩ := h
  exact ⟨a1, ⟨by rw [h1]; exact a2.1, fun i hi => by rw [h2]; exact a2.2 i hi⟩, ⟨by rw [h4 7 (by omega)]; exact a3.1, fun i hi => by rw [h5]; exact a3.2 i hi⟩, by rw [h3]; exact a4, by rw [h4 12 (by omega)]; exact a5, by rw [h1]; exact a6, by rw [h4 8 (by omega)]; exact a7, a8⟩
theorem tz_K_cg {C R C' R' : mm_M} {t : Nat} {b : Nat → Nat} {k s e v : Nat} (h : tz_K C R t b k s e v) (h1 : C' 16 = C 16) (h2 : C' 17 = C 17) (h3 : C' 18 1 = C 18 1) (h4 : ∀ j, 7 ≤ j → R' 0 j = R 0 j) (h5 : R' 5 = R 5) : tz_K C' R' t b k s e v := by
  obtain ⟨a1, a2, a3, a4, a5, a6, a7, a8, a9⟩ := h
  exact ⟨tz_T_cg a1 h1 h2 h3 h4 h5, by rw [h1]; exact a2, by rw [h4 10 (by omega)]; exact a3, by rw [h1]; exact a4, by rw [h4 9 (by omega)]; exact a5, a6, a7, a8, fun q => by rw [h1, h4 11 (by omega)]; exact a9 q⟩
/-- blamed -/
def tz_b (c : Int32) (C : mm_M) : mm_M := mm_up (mm_up C 18 1 c) 18 2 (C 16 4)
def tz_r (c : Int32) (R : mm_M) : mm_M := mm_up (mm_up R 0 12 c) 0 13 (R 0 9)
theorem bl_ok (c : Int32) (C : mm_M) : fn_X3_blame c C = some (0, tz_b c C) := by
  unfold fn_X3_blame tz_b
  simp only [mm_leq]
  rw [pu_upr _ _ _ (by omega : (16 : Nat) ≠ 18)]
theorem tz_bf (c : Int32) (C : mm_M) : fC C (tz_b c C) := by
  unfold tz_b
  exact ⟨fun a _ h => by rw [pu_upr _ _ _ h, pu_upr _ _ _ h], by rw [pu_nk _ _ (by omega), pu_nk _ _ (by omega)]⟩
theorem tz_rf (c : Int32) (R : mm_M) : fR R (tz_r c R) := by
  unfold tz_r
  exact ⟨fun a h => by rw [pu_upr _ _ _ h, pu_upr _ _ _ h], fun j h => by rw [pu_nk _ _ (by omega), pu_nk _ _ (by omega)]⟩
theorem tz_bF {C R : mm_M} {t : Nat} {b : Nat → Nat} {k s e v : Nat} (h : tz_K C R t b k s e v) (c : Nat) (hc : 1 ≤ c ∧ c ≤ 5) {x : Int32} (hx : x = nI c) : tz_F (tz_b x C) (tz_r x R) := by
  subst hx
  obtain ⟨a1, a2, a3, a4, a5, a6, a7, a8, a9⟩ := h
  have h160 := a1.1.1
  have h8 := a1.2.2.2.2.2.2.2
  unfold tz_b tz_r
  exact ⟨c, s, hc, by omega, by rw [pu_nk _ _ (by omega), pu_at], by rw [pu_nk _ _ (by omega), pu_at], by rw [pu_at, a4], by rw [pu_at, a5]⟩
theorem rq_0 (c : Int32) {M : mm_M} (h : M 0 12 = 0) : fn_X8_requires 0 c M = some (tz_r c M) := req_0 c h
section
variable {t : Nat} {b : Nat → Nat}
theorem kS_le (t : Nat) (b : Nat → Nat) (s : Nat) : kS t b s ≤ 4 := by
  unfold kS
  have := tk_le (b s)
  split
  · split <;> omega
  · omega
theorem eS_ok {s : Nat} (hs : s ≤ t) (hk : kS t b s ≠ 0) : s ≤ eS t b s ∧ eS t b s ≤ t ∧ (kS t b s ≠ 4 → s < eS t b s) := by
  unfold kS at hk ⊢
  unfold eS
  by_cases h : s < t
  · rw [if_pos h] at hk ⊢
    rw [if_pos h]
    have hz : tk (b s) ≠ 0 := fun q => by
      rw [q, if_neg (by omega)] at hk
      exact hk rfl
    have r1 := ru_le b (tk (b s)) (t - s) s
    have r2 : s + 1 ≤ ru b (tk (b s)) (t - s) s := by
      obtain ⟨z, hz⟩ : ∃ z, t - s = z + 1 := ⟨t - s - 1, by omega⟩
      rw [hz, ru, if_pos rfl]
      exact (ru_le b _ z (s + 1)).1
    by_cases e : tk (b s) = 3
    · rw [if_pos e]
      exact ⟨by omega, by omega, fun _ => by omega⟩
    · rw [if_neg e]
      exact ⟨by omega, by omega, fun _ => by omega⟩
  · rw [if_neg h, if_neg h]
    exact ⟨by omega, by omega, fun q => absurd rfl q⟩
theorem vS_le {s : Nat} (hk : kS t b s = 2) : vS t b s ≤ 99 := by
  unfold kS at hk
  by_cases h : s < t
  · rw [if_pos h] at hk
    by_cases hl : tk (b s) = 2 ∧ 2 < ru b 2 (t - s) s - s
    · rw [if_pos hl] at hk
      omega
    · rw [if_neg hl] at hk
      have he : eS t b s = ru b 2 (t - s) s := by
        unfold eS
        rw [if_pos h, if_neg (show ¬ tk (b s) = 3 by omega), hk]
      have hd := ru_in b 2 (t - s) s
      have r2 : s + 1 ≤ ru b 2 (t - s) s := by
        obtain ⟨z, hz⟩ : ∃ z, t - s = z + 1 := ⟨t - s - 1, by omega⟩
        rw [hz, ru, if_pos hk]
        exact (ru_le b _ z (s + 1)).1
      have d0 := hd s (Nat.le_refl _) (by omega)
      rw [tk_2] at d0
      unfold vS
      rw [he]
      split
      · omega
      · have d1 := hd (s + 1) (by omega) (by omega)
        rw [tk_2] at d1
        omega
  · rw [if_neg h] at hk
    omega
/-- the next token, on both sides -/
theorem take_ok {C R : mm_M} {p : Nat} (h : tz_T C R t b p) : ∃ C' R', fn_X8_reads R = some R' ∧ fC C C' ∧ fR R R' ∧ ((fn_X3_takeToken C = some (0, C') ∧ tz_F C' R') ∨ (fn_X3_takeToken C = some (1, C') ∧ ∃ k s e v, tz_K C' R' t b k s e v ∧ p ≤ s)) := by
  obtain ⟨hB, hC, hR, h18, h12, h2, h8, hp⟩ := h
  have h160 := hB.1
  have hs2 := tz_sle b (t - p) p
  obtain ⟨C1, a1, a2, a3, a4, a5, a6, a7⟩ := tok_C hB hC hp h2 rfl
  obtain ⟨R1, b1, b2, b3, b4, b5, b6, b7⟩ := tok_R hB hR hp h8 h12 rfl
  generalize tz_s b (t - p) p = s at hs2 a3 a4 a5 a6 b2 b3 b4 b5
  have f1 : fC C C1 := ⟨fun a ha _ => a7 a ha, by rw [a7 18 (by omega)]⟩
  have kl := kS_le t b s
  by_cases e : kS t b s = 0
  · refine ⟨tz_b 1 C1, R1, b1, fC_tr f1 (tz_bf _ _), ⟨b6, b7⟩, Or.inl ⟨?_, ?_⟩⟩
    · unfold fn_X3_takeToken
      rw [a1]
      simp only [pb_some]
      rw [a3, e, if_pos (by rfl), bl_ok]
      simp only [pb_some]
      rw [if_pos trivial]
    · obtain ⟨c1, c2⟩ := b3 e
      unfold tz_b
      exact ⟨1, s, by omega, by omega, by rw [pu_nk _ _ (by omega), pu_at]; rfl, c1, by rw [pu_at, a4], c2⟩
  · obtain ⟨c1, c2, c3⟩ := b4 e
    obtain ⟨e1, e2, e3⟩ := eS_ok (t := t) (b := b) (s := s) (by omega) e
    refine ⟨C1, R1, b1, f1, ⟨b6, b7⟩, Or.inr ⟨?_, kS t b s, s, eS t b s, vS t b s, ⟨⟨hB, ⟨by rw [a2]; exact hC.1, fun i hi => by rw [a7 17 (by omega)]; exact hC.2 i hi⟩, ⟨by rw [b7 7 (by omega)]; exact hR.1, fun i hi => by rw [b6 5 (by omega)]; exact hR.2 i hi⟩, by rw [a7 18 (by omega)]; exact h18, c1, a5 e, c2, e2⟩, a3, c3, a4, b2, by omega, e1, e3, fun q => ⟨vS_le q, a6 q, b5 q⟩⟩, hs2.1⟩⟩
    unfold fn_X3_takeToken
    rw [a1]
    simp only [pb_some]
    rw [a3, if_neg (nI_ne0 (by omega) (by omega))]
/-- a number that is asked for -/
theorem num_ok {C R : mm_M} {k s e v : Nat} (h : tz_K C R t b k s e v) (lo : Int32) (hi : Nat) (hhi : hi < 1000) : (∃ C' R', fn_X3_isNumber lo (nI hi) C = some (0, C') ∧ fn_X8_readNumber lo (nI hi) R = some (0, R') ∧ tz_F C' R' ∧ fC C C' ∧ fR R R') ∨ (k = 2 ∧ v ≤ hi ∧ fn_X3_isNumber lo (nI hi) C = some (1, C) ∧ fn_X8_readNumber lo (nI hi) R = (fn_X8_reads R).bind fun z => some (nI v, z)) := by
  have hK := h
  obtain ⟨a1, a2, a3, a4, a5, a6, a7, a8, a9⟩ := h
  have h12 := a1.2.2.2.2.1
  by_cases hk : k = 2
  · obtain ⟨v1, v2, v3⟩ := a9 hk
    have a3' : R 0 10 = 2 := by rw [a3, hk]; rfl
    have a2' : C 16 3 = 2 := by rw [a2, hk]; rfl
    rcases pw_01 (nI v) lo (nI hi) with q | q
    · refine Or.inl ⟨tz_b 3 C, tz_r 3 R, ?_, ?_, tz_bF hK 3 (by omega) rfl, tz_bf _ _, tz_rf _ _⟩
      · unfold fn_X3_isNumber
        rw [if_pos a2', v2, pw_C]
        simp only [pb_some]
        rw [if_pos q, bl_ok]
        simp only [pb_some]
        rw [if_pos trivial]
      · have hn := tz_F_n (tz_bF hK 3 (by omega) (x := 3) rfl)
        unfold fn_X8_readNumber
        rw [if_pos h12, if_pos a3', req_1]
        simp only [pb_some]
        unfold fn_X8_readNumber_B25
        rw [if_pos h12, v3, pw_R (nI v) lo (nI hi) R rfl rfl]
        simp only [pb_some]
        rw [q, rq_0 3 h12]
        simp only [pb_some]
        rw [if_neg hn.1, rd_f hn.2]
        rfl
    · refine Or.inr ⟨hk, ?_, ?_, ?_⟩
      · unfold pw_b at q
        split at q
        · exact absurd q (by decide)
        · split at q
          · exact absurd q (by decide)
          · next hq =>
            rw [nI_ltI (by omega) (by omega)] at hq
            omega
      · unfold fn_X3_isNumber
        rw [if_pos a2', v2, pw_C]
        simp only [pb_some]
        rw [q, if_neg (by decide)]
      · unfold fn_X8_readNumber
        rw [if_pos h12, if_pos a3', req_1]
        simp only [pb_some]
        unfold fn_X8_readNumber_B25
        rw [if_pos h12, v3, pw_R (nI v) lo (nI hi) R rfl rfl]
        simp only [pb_some]
        rw [q, req_1]
        simp only [pb_some]
        rw [if_pos h12, mm_leq, v3]
  · have a3' : ¬ R 0 10 = 2 := by
      rw [a3]
      intro q
      have := (nI_eq (b := 2) (by split <;> omega) (by omega)).mp q
      split at this <;> omega
    have a2' : ¬ C 16 3 = 2 := by
      rw [a2]
      exact fun q => hk ((nI_eq (b := 2) (by omega) (by omega)).mp q)
    refine Or.inl ⟨tz_b 2 C, tz_r 2 R, ?_, ?_, tz_bF hK 2 (by omega) rfl, tz_bf _ _, tz_rf _ _⟩
    · unfold fn_X3_isNumber
      rw [if_neg a2', bl_ok]
      simp only [pb_some]
      rw [if_pos (Or.inl trivial)]
    · have hn := tz_F_n (tz_bF hK 2 (by omega) (x := 2) rfl)
      unfold fn_X8_readNumber
      rw [if_pos h12, if_neg a3', rq_0 2 h12]
      simp only [pb_some]
      unfold fn_X8_readNumber_B25
      rw [if_neg hn.1, rd_f hn.2]
      rfl
/-- the end of a line -/
noncomputable def tz_tC (C : mm_M) : Option (Int32 × mm_M) := ((fn_X3_isStop C).bind fun z_9 => (if z_9.1 = 0 then some (0, z_9.2) else some (1, z_9.2)))
noncomputable def tz_tR (z_10 : mm_M) : Option mm_M := (if (z_10 0 12) = 0 then (if (z_10 0 10) = 3 then ((fn_X8_requires 1 2 z_10).bind fun z_16 => ((fn_X8_reads z_16).bind fun z_17 => some z_17)) else ((fn_X8_requires 0 2 z_10).bind fun z_14 => ((fn_X8_reads z_14).bind fun z_15 => some z_15))) else ((fn_X8_reads z_10).bind fun z_12 => some z_12))
theorem bs {α : Type} (x : Option α) : (x.bind fun z => some z) = x := by
  cases x <;> rfl
theorem tR_f {R : mm_M} (h : ¬ R 0 12 = 0 ∧ ¬ R 0 12 ≤ 0) : tz_tR R = some R := by
  unfold tz_tR
  rw [if_neg h.1, rd_f h.2]
  rfl
theorem stop_ok {C R : mm_M} {k s e v : Nat} (h : tz_K C R t b k s e v) : (∃ C' R', tz_tC C = some (0, C') ∧ tz_tR R = some R' ∧ tz_F C' R' ∧ fC C C' ∧ fR R R') ∨ (k = 3 ∧ tz_tC C = some (1, C) ∧ tz_tR R = fn_X8_reads R) := by
  have hK := h
  obtain ⟨a1, a2, a3, a4, a5, a6, a7, a8, a9⟩ := h
  have h12 := a1.2.2.2.2.1
  by_cases hk : k = 3
  · have a3' : R 0 10 = 3 := by rw [a3, hk]; rfl
    have a2' : C 16 3 = 3 := by rw [a2, hk]; rfl
    refine Or.inr ⟨hk, ?_, ?_⟩
    · unfold tz_tC fn_X3_isStop
      rw [if_pos a2']
      simp only [pb_some]
      rw [if_neg (by decide)]
    · unfold tz_tR
      rw [if_pos h12, if_pos a3', req_1]
      simp only [pb_some]
      exact bs _
  · have a3' : ¬ R 0 10 = 3 := by
      rw [a3]
      intro q
      have := (nI_eq (b := 3) (by split <;> omega) (by omega)).mp q
      split at this <;> omega
    have a2' : ¬ C 16 3 = 3 := by
      rw [a2]
      exact fun q => hk ((nI_eq (b := 3) (by omega) (by omega)).mp q)
    refine Or.inl ⟨tz_b 2 C, tz_r 2 R, ?_, ?_, tz_bF hK 2 (by omega) rfl, tz_bf _ _, tz_rf _ _⟩
    · unfold tz_tC fn_X3_isStop
      rw [if_neg a2', bl_ok]
      simp only [pb_some]
      rw [if_pos trivial]
      simp only [pb_some]
      rw [if_pos trivial]
    · have hn := tz_F_n (tz_bF hK 2 (by omega) (x := 2) rfl)
      unfold tz_tR
      rw [if_pos h12, if_neg a3', rq_0 2 h12]
      simp only [pb_some]
      rw [rd_f hn.2]
      rfl
/-! a line with one number -/
noncomputable def tz_cl (lo hi : Int32) (U : mm_M → Option mm_M) (C : mm_M) : Option (Int32 × mm_M) := ((fn_X3_takeToken C).bind fun z_1 => (if z_1.1 = 0 then some (0, z_1.2) else ((fn_X3_isNumber lo hi z_1.2).bind fun z_4 => (if z_4.1 = 0 then some (0, z_4.2) else ((U z_4.2).bind fun M_6 => ((fn_X3_takeToken M_6).bind fun z_7 => (if z_7.1 = 0 then some (0, z_7.2) else tz_tC z_7.2)))))))
noncomputable def tz_rl (lo hi : Int32) (V : mm_M → mm_M) (X : mm_M → Int32 → mm_M → Option mm_M) (R : mm_M) : Option mm_M := ((fn_X8_reads R).bind fun z_7 => (if (z_7 0 12) ≤ 0 then ((fn_X8_readNumber lo hi (V z_7)).bind fun z_5 => ((X z_7 z_5.1 z_5.2).bind fun z_10 => tz_tR z_10)) else some z_7))
theorem numl {C R : mm_M} {p : Nat} (hT : tz_T C R t b p) (lo : Int32) (hi : Nat) (hhi : hi < 1000) (U : mm_M → Option mm_M) (V : mm_M → mm_M) (X : mm_M → Int32 → mm_M → Option mm_M)
    (hV : ∀ M, (∀ a, a ≠ 0 → a ≠ 4 → V M a = M a) ∧ ∀ j, j ≠ 4 → V M 0 j = M 0 j)
    (hX : ∀ z x M, z 4 = R 4 → ∃ M', X z x M = some M' ∧ ∀ a, a ≠ 4 → M' a = M a)
    (hU : ∀ M v, v ≤ hi → M 16 5 = nI v → (∀ a, 8 ≤ a → a ≤ 14 → M a = C a) → ∃ M', U M = some M' ∧ ∀ a, ¬ (8 ≤ a ∧ a ≤ 14) → M' a = M a) :
    (∃ C' R', tz_cl lo (nI hi) U C = some (0, C') ∧ tz_rl lo (nI hi) V X R = some R' ∧ tz_F C' R' ∧ gC C C' ∧ gR R R') ∨
    (∃ C' R' p' v Ca Cu Ra Rb, tz_cl lo (nI hi) U C = some (1, C') ∧ tz_rl lo (nI hi) V X R = fn_X8_reads R' ∧ tz_T C' R' t b p' ∧ p < p' ∧ gC C C' ∧ gR R R' ∧
      v ≤ hi ∧ fC C Ca ∧ Ca 16 5 = nI v ∧ U Ca = some Cu ∧ fC Cu C' ∧ fR R Ra ∧ fR (V Ra) Rb ∧ X Ra (nI v) Rb = some R' ∧ Cu 18 3 = C 18 3) := by
  obtain ⟨C1, R1, a1, a2, a3, a4⟩ := take_ok hT
  rcases a4 with ⟨a4, aF⟩ | ⟨a4, k, s, e, v, aK, ps⟩
  · refine Or.inl ⟨C1, R1, ?_, ?_, aF, gC_of a2, gR_of a3⟩
    · unfold tz_cl
      rw [a4]
      simp only [pb_some]
      rw [if_pos trivial]
    · unfold tz_rl
      rw [a1]
      simp only [pb_some]
      rw [if_neg (tz_F_n aF).2]
  · have h12 : R1 0 12 = 0 := aK.1.2.2.2.2.1
    have hV1 := hV R1
    have gV : gR R (V R1) := ⟨fun a p q => by rw [hV1.1 a p q, a3.1 a p], fun j hj => by rw [hV1.2 j (by omega), a3.2 j (by omega)]⟩
    have aK' : tz_K C1 (V R1) t b k s e v := tz_K_cg aK rfl rfl rfl (fun j hj => hV1.2 j (by omega)) (hV1.1 5 (by omega) (by omega))
    have gX : ∀ {A B : mm_M}, fR (V R1) A → (∀ a, a ≠ 4 → B a = A a) → gR R B := fun hA hB => gR_tr gV (gR_tr (gR_of hA) ⟨fun a _ q => hB a q, fun j _ => by rw [hB 0 (by omega)]⟩)
    have r0 : ∀ y, tz_rl lo (nI hi) V X R = y ↔ ((fn_X8_readNumber lo (nI hi) (V R1)).bind fun z_5 => ((X R1 z_5.1 z_5.2).bind fun z_10 => tz_tR z_10)) = y := fun y => by
      unfold tz_rl
      rw [a1]
      simp only [pb_some]
      rw [if_pos (by rw [h12]; decide)]
    rcases num_ok aK' lo hi hhi with ⟨C2, R2, n1, n2, nF, n3, n4⟩ | ⟨hk, hv, n1, n2⟩
    · obtain ⟨R3, x1, x2⟩ := hX R1 0 R2 (a3.1 4 (by omega))
      have F3 : tz_F C2 R3 := by
        obtain ⟨c, s, f1, f2, f3, f4, f5, f6⟩ := nF
        exact ⟨c, s, f1, f2, f3, by rw [x2 0 (by omega)]; exact f4, f5, by rw [x2 0 (by omega)]; exact f6⟩
      refine Or.inl ⟨C2, R3, ?_, ?_, F3, gC_of (fC_tr a2 n3), gX n4 x2⟩
      · unfold tz_cl
        rw [a4]
        simp only [pb_some]
        rw [if_neg (by decide), n1]
        simp only [pb_some]
        rw [if_pos trivial]
      · rw [r0, n2]
        simp only [pb_some]
        rw [x1]
        simp only [pb_some]
        exact tR_f (tz_F_n F3)
    · have v5 := (aK.2.2.2.2.2.2.2.2 hk).2.1
      have se := aK.2.2.2.2.2.2.2.1 (by omega)
      obtain ⟨Cu, u1, u2⟩ := hU C1 v hv v5 (fun a h1 h2 => a2.1 a (by omega) (by omega))
      have T2 : tz_T Cu (V R1) t b e := tz_T_cg aK'.1 (u2 16 (by omega)) (u2 17 (by omega)) (by rw [u2 18 (by omega)]) (fun j _ => rfl) rfl
      have gu : gC C Cu := gC_tr (gC_of a2) (fun a h1 _ _ => u2 a h1)
      obtain ⟨C3, R3, d1, d2, d3, d4⟩ := take_ok T2
      obtain ⟨R4, x1, x2⟩ := hX R1 (nI v) R3 (a3.1 4 (by omega))
      have c0 : ∀ y, tz_cl lo (nI hi) U C = y ↔ ((fn_X3_takeToken Cu).bind fun z_7 => (if z_7.1 = 0 then some (0, z_7.2) else tz_tC z_7.2)) = y := fun y => by
        unfold tz_cl
        rw [a4]
        simp only [pb_some]
        rw [if_neg (by decide), n1]
        simp only [pb_some]
        rw [if_neg (by decide), u1]
        simp only [pb_some]
      have r1 : ∀ y, tz_rl lo (nI hi) V X R = y ↔ tz_tR R4 = y := fun y => by
        rw [r0, n2, d1]
        simp only [pb_some]
        rw [x1]
        simp only [pb_some]
      rcases d4 with ⟨d4, dF⟩ | ⟨d4, k', s', e', v', dK, ps'⟩
      · have F4 : tz_F C3 R4 := by
          obtain ⟨c, s, f1, f2, f3, f4, f5, f6⟩ := dF
          exact ⟨c, s, f1, f2, f3, by rw [x2 0 (by omega)]; exact f4, f5, by rw [x2 0 (by omega)]; exact f6⟩
        refine Or.inl ⟨C3, R4, ?_, ?_, F4, gC_tr gu (gC_of d2), gX d3 x2⟩
        · rw [c0, d4]
          simp only [pb_some]
          rw [if_pos trivial]
        · rw [r1]
          exact tR_f (tz_F_n F4)
      · have dK' : tz_K C3 R4 t b k' s' e' v' := tz_K_cg dK rfl rfl rfl (fun j _ => by rw [x2 0 (by omega)]) (x2 5 (by omega))
        rcases stop_ok dK' with ⟨C5, R5, y1, y2, yF, y3, y4⟩ | ⟨k3, y1, y2⟩
        · refine Or.inl ⟨C5, R5, ?_, ?_, yF, gC_tr gu (gC_of (fC_tr d2 y3)), gR_tr (gX d3 x2) (gR_of y4)⟩
          · rw [c0, d4]
            simp only [pb_some]
            rw [if_neg (by decide)]
            exact y1
          · rw [r1]
            exact y2
        · have se' := dK.2.2.2.2.2.2.2.1 (by omega)
          refine Or.inr ⟨C3, R4, e', v, C1, Cu, R1, R3, ?_, ?_, dK'.1, by omega, gC_tr gu (gC_of d2), gX d3 x2, hv, a2, v5, u1, d2, a3, d3, x1, by rw [u2 18 (by omega), a2.2]⟩
          · rw [c0, d4]
            simp only [pb_some]
            rw [if_neg (by decide)]
            exact y1
          · rw [r1]
            exact y2
end
