/-! TOKENS -/
def kS (t : Nat) (b : Nat → Nat) (s : Nat) : Nat := if s < t then (if tk (b s) = 2 ∧ 2 < ru b 2 (t - s) s - s then 0 else tk (b s)) else 4
def eS (t : Nat) (b : Nat → Nat) (s : Nat) : Nat := if s < t then (if tk (b s) = 3 then s + 1 else ru b (tk (b s)) (t - s) s) else s
def vS (t : Nat) (b : Nat → Nat) (s : Nat) : Nat := if eS t b s - s = 1 then b s - 48 else (b s - 48) * 10 + b (s + 1) - 48
section
variable {t : Nat} {b : Nat → Nat}
theorem b74_0 (M : mm_M) {cl : Nat} (h : cl = 0 ∨ cl = 4) : fn_X6_readToken_B74 (nI cl) M = some (mm_up M 16 3 (nI cl)) := by
  rcases h with rfl | rfl
  · unfold fn_X6_readToken_B74
    simp only [mm_leq]
    rw [pu_at, if_neg (by decide), if_neg (by decide), if_neg (by decide)]
  · unfold fn_X6_readToken_B74
    simp only [mm_leq]
    rw [pu_at, if_neg (by decide), if_neg (by decide), if_neg (by decide)]
theorem b74_3 (M : mm_M) : fn_X6_readToken_B74 (nI 3) M = some (mm_up (mm_up M 16 3 (nI 3)) 16 2 (M 16 2 + 1)) := by
  unfold fn_X6_readToken_B74
  simp only [mm_leq]
  rw [pu_at, if_pos (by decide), pu_nk _ _ (by omega : (3 : Nat) ≠ 2), pu_at, if_neg (by decide), pu_nk _ _ (by omega : (2 : Nat) ≠ 3)]
theorem b74_1 (hB : tB t b) {M : mm_M} (h : tC M t b) {s : Nat} (hs : s ≤ t) (h2 : M 16 2 = nI s) : fn_X6_readToken_B74 (nI 1) M = some (mm_up (mm_up M 16 3 (nI 1)) 16 2 (nI (ru b 1 (t - s) s))) := by
  have h160 := hB.1
  have hfu := mm_fu_ge
  unfold fn_X6_readToken_B74
  simp only [mm_leq]
  rw [pu_at, if_neg (by decide), if_pos (by decide), rn_C hB (cl := 1) (by omega) _ (t - s) s mm_fu _ (by omega) (by omega) ⟨by rw [pu_nk _ _ (by omega)]; exact h.1, fun i hi => by rw [pu_upr _ _ _ (by omega)]; exact h.2 i hi⟩ (pu_at _ _ _ _) (by rw [pu_nk _ _ (by omega)]; exact h2), pu_nk _ _ (by omega : (3 : Nat) ≠ 2), pu_at, if_neg (by decide)]
theorem b74_2 (hB : tB t b) {M : mm_M} (h : tC M t b) {s : Nat} (hs : s ≤ t) (h2 : M 16 2 = nI s) : fn_X6_readToken_B74 (nI 2) M = fn_X6_readFigures (mm_up (mm_up M 16 3 (nI 2)) 16 2 (nI (ru b 2 (t - s) s))) := by
  have h160 := hB.1
  have hfu := mm_fu_ge
  unfold fn_X6_readToken_B74
  simp only [mm_leq]
  rw [pu_at, if_neg (by decide), if_neg (by decide), if_pos (by decide), rn_C hB (cl := 2) (by omega) _ (t - s) s mm_fu _ (by omega) (by omega) ⟨by rw [pu_nk _ _ (by omega)]; exact h.1, fun i hi => by rw [pu_upr _ _ _ (by omega)]; exact h.2 i hi⟩ (pu_at _ _ _ _) (by rw [pu_nk _ _ (by omega)]; exact h2), pu_nk _ _ (by omega : (3 : Nat) ≠ 2), pu_at, if_pos (by decide)]
  cases fn_X6_readFigures (mm_up (mm_up M 16 3 (nI 2)) 16 2 (nI (ru b 2 (t - s) s))) <;> rfl
theorem fg_s {M : mm_M} {e i x f : Nat} (k : mm_M → Option mm_M) (ht : t ≤ 160) (h : tC M t b) (h2 : M 16 2 = nI e) (hi : i < e) (he : e ≤ t) (h5 : M 16 5 = nI x) (hb : 48 ≤ b i) : fn_X6_readFigures_L29 k (f + 1) (nI i) M = fn_X6_readFigures_L29 k f (nI (i + 1)) (mm_up M 16 5 (nI (x * 10 + b i - 48))) := by
  rw [fn_X6_readFigures_L29, h2, if_neg (nI_ge hi (by omega)), if_pos (pu_in (by omega) (by omega)), nI_clamp (by omega), h.2 i (by omega), h5, mm_leq, nI_1, show nI x * 10 = nI (x * 10) from pk_mul x 10, nI_add, show (nI (x * 10 + b i) - 48 : Int32) = nI (x * 10 + b i - 48) from pk_sub (b := 48) (by omega)]
theorem fg_e {M : mm_M} {e f : Nat} (k : mm_M → Option mm_M) (h2 : M 16 2 = nI e) (he : e ≤ 160) : fn_X6_readFigures_L29 k (f + 1) (nI e) M = k M := by
  rw [fn_X6_readFigures_L29, h2, if_pos (nI_le (Nat.le_refl _) (by omega))]
theorem tC_up {M : mm_M} {j : Nat} (v : Int32) (h : tC M t b) (hj : j ≠ 1) : tC (mm_up M 16 j v) t b := ⟨by rw [pu_nk _ _ (fun q => hj q.symm)]; exact h.1, fun i hi => by rw [pu_upr _ _ _ (by omega)]; exact h.2 i hi⟩
theorem fig_C (hB : tB t b) {M : mm_M} (h : tC M t b) {s e : Nat} (h2 : M 16 2 = nI e) (h4 : M 16 4 = nI s) (he : e = s + 1 ∨ e = s + 2) (het : e ≤ t) (hd : ∀ i, s ≤ i → i < e → tk (b i) = 2) : ∃ M', fn_X6_readFigures M = some M' ∧ M' 16 5 = nI (if e - s = 1 then b s - 48 else (b s - 48) * 10 + b (s + 1) - 48) ∧ (∀ a, a ≠ 16 → M' a = M a) ∧ ∀ j, j ≠ 5 → M' 16 j = M 16 j := by
  have h160 := hB.1
  have hfu := mm_fu_ge
  obtain ⟨f, hf⟩ : ∃ f, mm_fu = f + 3 := ⟨mm_fu - 3, by omega⟩
  have d0 := hd s (Nat.le_refl _) (by omega)
  rw [tk_2] at d0
  unfold fn_X6_readFigures
  rw [h2, h4, pk_sub (by omega), if_pos (show nI (e - s) ≤ 2 from nI_le (b := 2) (by omega) (by omega))]
  simp only [mm_leq]
  rw [pu_nk _ _ (by omega : (4 : Nat) ≠ 5), h4, hf]
  have c1 : tC (mm_up M 16 5 0) t b := tC_up _ h (by omega)
  rw [fg_s (x := 0) _ h160 c1 (by rw [pu_nk _ _ (by omega)]; exact h2) (by omega) het (pu_at _ _ _ _) d0.1, pu_up2]
  rcases he with rfl | rfl
  · rw [fg_e _ (by rw [pu_nk _ _ (by omega)]; exact h2) (by omega)]
    refine ⟨_, rfl, ?_, fun a ha => pu_upr _ _ _ ha, fun j hj => pu_nk _ _ hj⟩
    rw [pu_at, if_pos (by omega), show 0 * 10 + b s - 48 = b s - 48 by omega]
  · have d1 := hd (s + 1) (by omega) (by omega)
    rw [tk_2] at d1
    have c2 : tC (mm_up M 16 5 (nI (0 * 10 + b s - 48))) t b := tC_up _ h (by omega)
    rw [fg_s _ h160 c2 (by rw [pu_nk _ _ (by omega)]; exact h2) (by omega) het (pu_at _ _ _ _) d1.1, pu_up2, fg_e _ (by rw [pu_nk _ _ (by omega)]; exact h2) (by omega)]
    refine ⟨_, rfl, ?_, fun a ha => pu_upr _ _ _ ha, fun j hj => pu_nk _ _ hj⟩
    rw [pu_at, if_neg (by omega), show 0 * 10 + b s - 48 = b s - 48 by omega]
theorem tok_C (hB : tB t b) {C : mm_M} (h : tC C t b) {p s : Nat} (hp : p ≤ t) (h2 : C 16 2 = nI p) (hs : tz_s b (t - p) p = s) : ∃ C', fn_X6_readToken C = some C' ∧ C' 16 1 = C 16 1 ∧ C' 16 3 = nI (kS t b s) ∧ C' 16 4 = nI s ∧ (kS t b s ≠ 0 → C' 16 2 = nI (eS t b s)) ∧ (kS t b s = 2 → C' 16 5 = nI (vS t b s)) ∧ ∀ a, a ≠ 16 → C' a = C a := by
  have h160 := hB.1
  have hs2 := tz_sle b (t - p) p
  have hfu := mm_fu_ge
  unfold fn_X6_readToken
  rw [sp_C hB _ (t - p) p mm_fu C (by omega) (by omega) h h2, hs]
  rw [hs] at hs2
  simp only [mm_leq]
  rw [pu_at]
  have g1 : (mm_up (mm_up C 16 2 (nI s)) 16 4 (nI s)) 16 1 = C 16 1 := by rw [pu_nk _ _ (by omega), pu_nk _ _ (by omega)]
  have g2 : (mm_up (mm_up C 16 2 (nI s)) 16 4 (nI s)) 16 2 = nI s := by rw [pu_nk _ _ (by omega), pu_at]
  have g4 : (mm_up (mm_up C 16 2 (nI s)) 16 4 (nI s)) 16 4 = nI s := pu_at _ _ _ _
  have gt : tC (mm_up (mm_up C 16 2 (nI s)) 16 4 (nI s)) t b := tC_up _ (tC_up _ h (by omega)) (by omega)
  have gf : ∀ a, a ≠ 16 → (mm_up (mm_up C 16 2 (nI s)) 16 4 (nI s)) a = C a := fun a ha => by rw [pu_upr _ _ _ ha, pu_upr _ _ _ ha]
  generalize mm_up (mm_up C 16 2 (nI s)) 16 4 (nI s) = C2 at g1 g2 g4 gt gf ⊢
  rw [gt.1, g2]
  by_cases hst : s < t
  · rw [if_neg (nI_ge hst (by omega)), if_pos (pu_in (by omega) (by omega)), nI_clamp (by omega), gt.2 s hst, tok_with (hB.2 s hst)]
    simp only [pb_some]
    have hk := tk_le (b s)
    have r1 := ru_le b (tk (b s)) (t - s) s
    unfold kS eS
    rw [if_pos hst, if_pos hst]
    rcases (by omega : tk (b s) = 0 ∨ tk (b s) = 1 ∨ tk (b s) = 2 ∨ tk (b s) = 3) with e | e | e | e
    · rw [e, b74_0 _ (Or.inl rfl), if_neg (by omega)]
      refine ⟨_, rfl, ?_, pu_at _ _ _ _, ?_, fun q => absurd rfl q, fun q => absurd q (by omega), fun a ha => by rw [pu_upr _ _ _ ha, gf a ha]⟩
      · rw [pu_nk _ _ (by omega), g1]
      · rw [pu_nk _ _ (by omega), g4]
    · rw [e, b74_1 hB gt (by omega) g2, if_neg (by omega), if_neg (by omega)]
      refine ⟨_, rfl, ?_, ?_, ?_, fun _ => pu_at _ _ _ _, fun q => absurd q (by omega), fun a ha => by rw [pu_upr _ _ _ ha, pu_upr _ _ _ ha, gf a ha]⟩
      · rw [pu_nk _ _ (by omega), pu_nk _ _ (by omega), g1]
      · rw [pu_nk _ _ (by omega), pu_at]
      · rw [pu_nk _ _ (by omega), pu_nk _ _ (by omega), g4]
    · rw [e] at r1
      have hru : s + 1 ≤ ru b 2 (t - s) s := by
        obtain ⟨z, hz⟩ : ∃ z, t - s = z + 1 := ⟨t - s - 1, by omega⟩
        rw [hz, ru, if_pos e]
        exact (ru_le b 2 z (s + 1)).1
      have hd := ru_in b 2 (t - s) s
      have hv : vS t b s = if ru b 2 (t - s) s - s = 1 then b s - 48 else (b s - 48) * 10 + b (s + 1) - 48 := by
        unfold vS eS
        rw [if_pos hst, if_neg (show ¬ tk (b s) = 3 by omega), e]
      rw [e, b74_2 hB gt (by omega) g2, if_neg (c := (2 : Nat) = 3) (by omega)]
      generalize ru b 2 (t - s) s = en at r1 hru hd hv ⊢
      have k1 : (mm_up (mm_up C2 16 3 (nI 2)) 16 2 (nI en)) 16 1 = C 16 1 := by rw [pu_nk _ _ (by omega), pu_nk _ _ (by omega), g1]
      have k2 : (mm_up (mm_up C2 16 3 (nI 2)) 16 2 (nI en)) 16 2 = nI en := pu_at _ _ _ _
      have k3 : (mm_up (mm_up C2 16 3 (nI 2)) 16 2 (nI en)) 16 3 = nI 2 := by rw [pu_nk _ _ (by omega), pu_at]
      have k4 : (mm_up (mm_up C2 16 3 (nI 2)) 16 2 (nI en)) 16 4 = nI s := by rw [pu_nk _ _ (by omega), pu_nk _ _ (by omega), g4]
      have kt : tC (mm_up (mm_up C2 16 3 (nI 2)) 16 2 (nI en)) t b := tC_up _ (tC_up _ gt (by omega)) (by omega)
      have kf : ∀ a, a ≠ 16 → (mm_up (mm_up C2 16 3 (nI 2)) 16 2 (nI en)) a = C a := fun a ha => by rw [pu_upr _ _ _ ha, pu_upr _ _ _ ha, gf a ha]
      generalize mm_up (mm_up C2 16 3 (nI 2)) 16 2 (nI en) = C3 at k1 k2 k3 k4 kt kf ⊢
      by_cases hl : 2 < en - s
      · rw [if_pos ⟨rfl, hl⟩]
        unfold fn_X6_readFigures
        rw [k2, k4, pk_sub (by omega), if_neg (show ¬ nI (en - s) ≤ 2 from nI_ge (a := 2) hl (by omega))]
        simp only [mm_leq]
        refine ⟨_, rfl, ?_, pu_at _ _ _ _, ?_, fun q => absurd rfl q, fun q => absurd q (by omega), fun a ha => by rw [pu_upr _ _ _ ha, kf a ha]⟩
        · rw [pu_nk _ _ (by omega), k1]
        · rw [pu_nk _ _ (by omega), k4]
      · rw [if_neg (fun q => hl q.2)]
        obtain ⟨M', q1, q2, q3, q4⟩ := fig_C hB kt k2 k4 (by omega) (by omega) hd
        exact ⟨M', q1, by rw [q4 1 (by omega), k1], by rw [q4 3 (by omega), k3], by rw [q4 4 (by omega), k4], fun _ => by rw [q4 2 (by omega), k2], fun _ => by rw [q2, hv], fun a ha => by rw [q3 a ha, kf a ha]⟩
    · rw [e, b74_3, if_neg (by omega), if_pos rfl]
      refine ⟨_, rfl, ?_, ?_, ?_, fun _ => by rw [pu_at, g2, nI_1], fun q => absurd q (by omega), fun a ha => by rw [pu_upr _ _ _ ha, pu_upr _ _ _ ha, gf a ha]⟩
      · rw [pu_nk _ _ (by omega), pu_nk _ _ (by omega), g1]
      · rw [pu_nk _ _ (by omega), pu_at]
      · rw [pu_nk _ _ (by omega), pu_nk _ _ (by omega), g4]
  · rw [if_pos (nI_le (by omega) (by omega)), show fn_X6_readToken_B74 4 C2 = _ from b74_0 C2 (cl := 4) (Or.inr rfl)]
    unfold kS eS
    rw [if_neg hst, if_neg hst]
    refine ⟨_, rfl, ?_, pu_at _ _ _ _, ?_, fun _ => ?_, fun q => absurd q (by omega), fun a ha => by rw [pu_upr _ _ _ ha, gf a ha]⟩
    · rw [pu_nk _ _ (by omega), g1]
    · rw [pu_nk _ _ (by omega), g4]
    · rw [pu_nk _ _ (by omega), g2]
/-! the reference's -/
theorem vx_stop (b : Nat → Nat) (s z p : Nat) (x : Int32) (h : ru b 2 z p = p) : vx b s z p x = x := by
  cases z with
  | zero => rfl
  | succ z =>
    rw [ru] at h
    rw [vx]
    split at h
    · have := (ru_le b 2 z (p + 1)).1
      omega
    · next e => rw [if_neg e]
theorem vx_ok (hB : tB t b) {s : Nat} (hst : s < t) (e : tk (b s) = 2) (hl : ru b 2 (t - s) s - s ≤ 2) : vx b s (t - s) s 0 = nI (vS t b s) := by
  have h160 := hB.1
  have b0 := hB.2 s hst
  have hv : vS t b s = if ru b 2 (t - s) s - s = 1 then b s - 48 else (b s - 48) * 10 + b (s + 1) - 48 := by
    unfold vS eS
    rw [if_pos hst, if_neg (show ¬ tk (b s) = 3 by omega), e]
  rw [hv]
  have hd := ru_in b 2 (t - s) s
  have hle := ru_le b 2 (t - s) s
  obtain ⟨z, hz⟩ : ∃ z, t - s = z + 1 := ⟨t - s - 1, by omega⟩
  rw [hz] at hl hd hle ⊢
  rw [ru, if_pos e] at hl hd hle
  rw [vx, if_pos e, if_neg (by omega), ru, if_pos e]
  have d0 := e
  rw [tk_2] at d0
  have x0 : (10 * 0 + nI (b s) - 48 : Int32) = nI (b s - 48) := by
    show nI 10 * nI 0 + nI (b s) - nI 48 = _
    rw [pk_mul, nI_add, pk_sub (by omega)]
    congr 1
    omega
  rw [x0]
  have h1 := ru_le b 2 z (s + 1)
  by_cases e1 : ru b 2 z (s + 1) = s + 1
  · rw [vx_stop b s z (s + 1) _ e1, e1, if_pos (by omega)]
  · have d1 := hd (s + 1) (by omega) (by omega)
    obtain ⟨y, rfl⟩ : ∃ y, z = y + 1 := ⟨z - 1, by omega⟩
    have hr : ru b 2 (y + 1) (s + 1) = ru b 2 y (s + 2) := by rw [ru, if_pos d1]
    rw [hr] at h1 hl e1 ⊢
    have h2 := ru_le b 2 y (s + 2)
    rw [vx, if_pos d1, if_neg (by omega), vx_stop b s y (s + 1 + 1) _ (by show ru b 2 y (s + 2) = s + 2; omega), if_neg (by omega)]
    rw [tk_2] at d1
    show nI 10 * nI (b s - 48) + nI (b (s + 1)) - nI 48 = _
    rw [pk_mul, nI_add, pk_sub (by omega), Nat.mul_comm]
theorem tR_up {M : mm_M} {j : Nat} (v : Int32) (h : tR M t b) (hj : j ≠ 7) : tR (mm_up M 0 j v) t b := ⟨by rw [pu_nk _ _ (fun q => hj q.symm)]; exact h.1, fun i hi => by rw [pu_upr _ _ _ (by omega)]; exact h.2 i hi⟩
theorem req_1 (c : Int32) (M : mm_M) : fn_X8_requires 1 c M = some M := by
  unfold fn_X8_requires
  rw [if_neg (by decide)]
theorem req_0 (c : Int32) {M : mm_M} (h : M 0 12 = 0) : fn_X8_requires 0 c M = some (mm_up (mm_up M 0 12 c) 0 13 (M 0 9)) := by
  unfold fn_X8_requires
  rw [if_pos rfl, if_pos h]
  simp only [mm_leq]
  rw [pu_nk _ _ (by omega : (9 : Nat) ≠ 12)]
theorem req_f (a c : Int32) {M : mm_M} (h : ¬ M 0 12 = 0) : fn_X8_requires a c M = some M := by
  unfold fn_X8_requires
  rw [if_neg h]
  split <;> rfl
theorem tok_R (hB : tB t b) {R : mm_M} (h : tR R t b) {p s : Nat} (hp : p ≤ t) (h2 : R 0 8 = nI p) (h12 : R 0 12 = 0) (hs : tz_s b (t - p) p = s) : ∃ R', fn_X8_reads R = some R' ∧ R' 0 9 = nI s ∧ (kS t b s = 0 → R' 0 12 = 1 ∧ R' 0 13 = nI s) ∧ (kS t b s ≠ 0 → R' 0 12 = 0 ∧ R' 0 8 = nI (eS t b s) ∧ R' 0 10 = nI (if kS t b s = 4 then 0 else kS t b s)) ∧ (kS t b s = 2 → R' 0 11 = nI (vS t b s)) ∧ (∀ a, a ≠ 0 → R' a = R a) ∧ ∀ j, j < 8 ∨ 13 < j → R' 0 j = R 0 j := by
  have h160 := hB.1
  have hs2 := tz_sle b (t - p) p
  have hfu := mm_fu_ge
  unfold fn_X8_reads
  rw [h12, if_pos (by decide), sp_R hB _ (t - p) p mm_fu R (by omega) (by omega) h h2, hs]
  rw [hs] at hs2
  simp only [mm_leq]
  rw [pu_at]
  have g8 : (mm_up (mm_up R 0 8 (nI s)) 0 9 (nI s)) 0 8 = nI s := by rw [pu_nk _ _ (by omega), pu_at]
  have g9 : (mm_up (mm_up R 0 8 (nI s)) 0 9 (nI s)) 0 9 = nI s := pu_at _ _ _ _
  have g12 : (mm_up (mm_up R 0 8 (nI s)) 0 9 (nI s)) 0 12 = 0 := by rw [pu_nk _ _ (by omega), pu_nk _ _ (by omega), h12]
  have gt : tR (mm_up (mm_up R 0 8 (nI s)) 0 9 (nI s)) t b := tR_up _ (tR_up _ h (by omega)) (by omega)
  have gf : ∀ a, a ≠ 0 → (mm_up (mm_up R 0 8 (nI s)) 0 9 (nI s)) a = R a := fun a ha => by rw [pu_upr _ _ _ ha, pu_upr _ _ _ ha]
  have gg : ∀ j, j < 8 ∨ 13 < j → (mm_up (mm_up R 0 8 (nI s)) 0 9 (nI s)) 0 j = R 0 j := fun j hj => by rw [pu_nk _ _ (by omega), pu_nk _ _ (by omega)]
  generalize mm_up (mm_up R 0 8 (nI s)) 0 9 (nI s) = R2 at g8 g9 g12 gt gf gg ⊢
  rw [g8, byte_ok h160 gt (by omega)]
  simp only [pb_some]
  by_cases hst : s < t
  · have hb := hB.2 s hst
    have e59 : (nI (b s) = (59 : Int32)) = (b s = 59) := pu_eq (b := 59) (by omega) (by omega)
    rw [bt_lt hst, if_pos (nI_pos' (by omega)), in_az, pw_az hb]
    simp only [pb_some]
    rw [in_09, pw_09 hb]
    simp only [pb_some, e59]
    have hk := tk_le (b s)
    have r1 := ru_le b (tk (b s)) (t - s) s
    unfold kS eS
    rw [if_pos hst, if_pos hst]
    rcases (by omega : tk (b s) = 0 ∨ tk (b s) = 1 ∨ tk (b s) = 2 ∨ tk (b s) = 3) with e | e | e | e
    · have hne : ¬ b s = 59 := fun q => by
        rw [q] at e
        exact absurd e (by decide)
      rw [e, if_neg (c := (0 : Nat) = 1) (by omega), if_pos rfl, if_neg (c := (0 : Nat) = 2) (by omega), if_pos rfl, if_neg hne, req_0 1 (by rw [pu_nk _ _ (by omega), g12]), if_neg (by omega)]
      simp only [pb_some]
      refine ⟨_, rfl, ?_, fun _ => ⟨?_, ?_⟩, fun q => absurd rfl q, fun q => absurd q (by omega), fun a ha => by rw [pu_upr _ _ _ ha, pu_upr _ _ _ ha, pu_upr _ _ _ ha, pu_upr _ _ _ ha, gf a ha], fun j hj => by rw [pu_nk _ _ (by omega), pu_nk _ _ (by omega), pu_nk _ _ (by omega), pu_nk _ _ (by omega), gg j hj]⟩
      · rw [pu_nk _ _ (by omega), pu_nk _ _ (by omega), pu_nk _ _ (by omega), pu_nk _ _ (by omega), g9]
      · rw [pu_nk _ _ (by omega), pu_nk _ _ (by omega), pu_at]
      · rw [pu_nk _ _ (by omega), pu_at, pu_nk _ _ (by omega), g9]
    · rw [e, if_pos rfl, if_neg (c := (1 : Int32) = 0) (by decide), rn_R hB _ (t - s) s mm_fu _ (by omega) (by omega) (tR_up _ gt (by omega)) (by rw [pu_nk _ _ (by omega), g8]), if_neg (by omega), if_neg (c := (1 : Nat) = 3) (by omega), if_neg (c := (1 : Nat) = 4) (by omega)]
      refine ⟨_, rfl, ?_, fun q => absurd q (by omega), fun _ => ⟨?_, pu_at _ _ _ _, ?_⟩, fun q => absurd q (by omega), fun a ha => by rw [pu_upr _ _ _ ha, pu_upr _ _ _ ha, gf a ha], fun j hj => by rw [pu_nk _ _ (by omega), pu_nk _ _ (by omega), gg j hj]⟩
      · rw [pu_nk _ _ (by omega), pu_nk _ _ (by omega), g9]
      · rw [pu_nk _ _ (by omega), pu_nk _ _ (by omega), g12]
      · rw [pu_nk _ _ (by omega), pu_at]
        rfl
    · rw [e] at r1
      have hru : s + 1 ≤ ru b 2 (t - s) s := by
        obtain ⟨z, hz⟩ : ∃ z, t - s = z + 1 := ⟨t - s - 1, by omega⟩
        rw [hz, ru, if_pos e]
        exact (ru_le b 2 z (s + 1)).1
      rw [e, if_neg (c := (2 : Nat) = 1) (by omega), if_pos rfl, if_pos rfl, if_neg (c := (1 : Int32) = 0) (by decide), if_neg (c := (2 : Nat) = 3) (by omega)]
      have k8 : (mm_up (mm_up R2 0 10 2) 0 11 0) 0 8 = nI s := by rw [pu_nk _ _ (by omega), pu_nk _ _ (by omega), g8]
      have k9 : (mm_up (mm_up R2 0 10 2) 0 11 0) 0 9 = nI s := by rw [pu_nk _ _ (by omega), pu_nk _ _ (by omega), g9]
      obtain ⟨R3, q1, q2, q3, q4, q5⟩ := nu_R hB (s := s) (fun M_32 => (if 2 < ((M_32 0 8) - (M_32 0 9)) then ((fn_X8_requires 0 1 M_32).bind fun z_35 => some z_35) else ((fn_X8_requires 1 1 M_32).bind fun z_36 => some z_36))) (t - s) s mm_fu (mm_up (mm_up R2 0 10 2) 0 11 0) (Nat.le_refl _) (by omega) (by omega) (tR_up _ (tR_up _ gt (by omega)) (by omega)) k8 k9
      rw [pu_at] at q3
      rw [q1]
      have m9 : R3 0 9 = nI s := by rw [q5 9 (by omega) (by omega), k9]
      have m12 : R3 0 12 = 0 := by rw [q5 12 (by omega) (by omega), pu_nk _ _ (by omega), pu_nk _ _ (by omega), g12]
      have m10 : R3 0 10 = 2 := by rw [q5 10 (by omega) (by omega), pu_nk _ _ (by omega), pu_at]
      have mf : ∀ a, a ≠ 0 → R3 a = R a := fun a ha => by rw [q4 a ha, pu_upr _ _ _ ha, pu_upr _ _ _ ha, gf a ha]
      have mg : ∀ j, j < 8 ∨ 13 < j → R3 0 j = R 0 j := fun j hj => by rw [q5 j (by omega) (by omega), pu_nk _ _ (by omega), pu_nk _ _ (by omega), gg j hj]
      simp only []
      rw [q2, m9, pk_sub (by omega)]
      have e2 : ((2 : Int32) < nI (ru b 2 (t - s) s - s)) = (2 < ru b 2 (t - s) s - s) := pu_lt (a := 2) (by omega) (by omega)
      simp only [e2]
      by_cases hl : 2 < ru b 2 (t - s) s - s
      · rw [if_pos hl, if_pos ⟨trivial, hl⟩, req_0 1 m12]
        simp only [pb_some]
        refine ⟨_, rfl, ?_, fun _ => ⟨?_, ?_⟩, fun q => absurd rfl q, fun q => absurd q (by omega), fun a ha => by rw [pu_upr _ _ _ ha, pu_upr _ _ _ ha, mf a ha], fun j hj => by rw [pu_nk _ _ (by omega), pu_nk _ _ (by omega), mg j hj]⟩
        · rw [pu_nk _ _ (by omega), pu_nk _ _ (by omega), m9]
        · rw [pu_nk _ _ (by omega), pu_at]
        · rw [pu_at, m9]
      · rw [if_neg hl, if_neg (fun q => hl q.2), req_1]
        simp only [pb_some]
        refine ⟨R3, rfl, m9, fun q => absurd q (by omega), fun _ => ⟨m12, q2, ?_⟩, fun _ => ?_, mf, mg⟩
        · rw [m10, if_neg (by omega)]
          rfl
        · rw [q3, vx_ok hB hst e (by omega)]
    · have he : b s = 59 := by
        have := e
        unfold tk at this
        split at this
        · omega
        · split at this
          · omega
          · split at this
            · assumption
            · omega
      rw [e, if_neg (c := (3 : Nat) = 1) (by omega), if_pos rfl, if_neg (c := (3 : Nat) = 2) (by omega), if_pos rfl, if_pos he, req_1, if_neg (by omega), if_pos rfl, if_neg (c := (3 : Nat) = 4) (by omega)]
      simp only [pb_some]
      refine ⟨_, rfl, ?_, fun q => absurd q (by omega), fun _ => ⟨?_, ?_, ?_⟩, fun q => absurd q (by omega), fun a ha => by rw [pu_upr _ _ _ ha, pu_upr _ _ _ ha, gf a ha], fun j hj => by rw [pu_nk _ _ (by omega), pu_nk _ _ (by omega), gg j hj]⟩
      · rw [pu_nk _ _ (by omega), pu_nk _ _ (by omega), g9]
      · rw [pu_nk _ _ (by omega), pu_nk _ _ (by omega), g12]
      · rw [pu_at, pu_nk _ _ (by omega), g8, nI_1]
      · rw [pu_nk _ _ (by omega), pu_at]
        rfl
  · rw [bt_ge hst, if_neg (by decide)]
    unfold kS eS
    rw [if_neg hst, if_neg hst, if_pos rfl]
    refine ⟨_, rfl, ?_, fun q => absurd q (by omega), fun _ => ⟨?_, ?_, ?_⟩, fun q => absurd q (by omega), fun a ha => by rw [pu_upr _ _ _ ha, gf a ha], fun j hj => by rw [pu_nk _ _ (by omega), gg j hj]⟩
    · rw [pu_nk _ _ (by omega), g9]
    · rw [pu_nk _ _ (by omega), g12]
    · rw [pu_nk _ _ (by omega), g8]
    · rw [pu_at]
      rfl
end
