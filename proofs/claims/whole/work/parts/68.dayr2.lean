/-! the line of the reference -/
/-- a day of the reference leaves all but its own row, and two counts -/
def r_fq (R R' : mm_M) : Prop := (∀ a, a ≠ 2 → a ≠ 0 → R' a = R a) ∧ (∀ j, j ≠ 14 → j ≠ 15 → R' 0 j = R 0 j) ∧ ∀ j, 38 ≤ j → R' 2 j = R 2 j
theorem r_fq_rf (R : mm_M) : r_fq R R := ⟨fun _ _ _ => rfl, fun _ _ _ => rfl, fun _ _ => rfl⟩
theorem r_fq_tr {A B C : mm_M} (h1 : r_fq A B) (h2 : r_fq B C) : r_fq A C := ⟨fun a h g => (h2.1 a h g).trans (h1.1 a h g), fun j h g => (h2.2.1 j h g).trans (h1.2.1 j h g), fun j h => (h2.2.2 j h).trans (h1.2.2 j h)⟩
theorem r_fq_of {A B : mm_M} (h : r_fr A B) : r_fq A B := ⟨fun a h1 _ => h.1 a h1, fun j _ _ => by rw [h.1 0 (by omega)], h.2⟩
theorem r_fq_0 (R : mm_M) {j : Nat} (v : Int32) (h : j = 14 ∨ j = 15) : r_fq R (mm_up R 0 j v) := ⟨fun a _ h0 => pu_upr _ _ _ h0, fun i h1 h2 => by rw [pu_up, if_neg (by omega)], fun i _ => by rw [pu_upr _ _ _ (by omega)]⟩
theorem r_ha {R : mm_M} {L : LV} (h : lR (R 2) L) (hw : lw L) {i sky b : Nat} {z : Int32} (hi : i < L 0 0) (hs : sky ≤ 9) (e1 : L 4 i = 1) (hz : R 0 15 = z + nI b) :
    ∃ R', fn_X8_hangs (nI i) (nI sky) R = some R' ∧ lR (R' 2) (lv_ha sky i (L, b)).1 ∧ R' 0 15 = z + nI (lv_ha sky i (L, b)).2 ∧ R' 0 14 = R 0 14 ∧ r_fq R R' := by
  have hn := hw.1
  have hbl : lv_bl sky ≤ 1 := by
    unfold lv_bl
    split <;> omega
  obtain ⟨w1, w2, w3, w4⟩ := hw.2.2.2 i hi
  have hr := hw.2.1
  have hdr : lv_dry L i sky ≤ 18 := by
    unfold lv_dry
    split
    · omega
    · split <;> omega
  unfold fn_X8_hangs
  rw [r_of h hn (i := i) hi 2 (cc := 2) rfl (by omega)]
  simp only [Option.bind_some, show (1 + 2 : Nat) = 3 from rfl]
  rw [r_dries h hw hi hs]
  simp only [Option.bind_some]
  rw [r_less R (by omega) (by omega)]
  simp only [Option.bind_some]
  rw [r_be R (i := i) (by omega) 2 (cc := 2) _ rfl (by omega)]
  simp only [Option.bind_some]
  have h6 := lR_row h hn (i := i) (by omega) 2 (L 3 i - lv_dry L i sky) (by omega)
  simp only [show (1 + 2 : Nat) = 3 from rfl] at h6
  have n6 : lu L 3 i (L 3 i - lv_dry L i sky) 0 0 = L 0 0 := if_neg (by omega)
  have e2 : lu L 3 i (L 3 i - lv_dry L i sky) (1 + 1) i = L 2 i := by rw [lu_ne _ _ _ (by omega)]
  rw [r_of h6 (by omega) (i := i) (by omega) 1 (cc := 1) rfl (by omega), e2]
  simp only [Option.bind_some]
  have f6 := r_fq_of (r_fr_up R (j := 4 * i + 2) (nI (L 3 i - lv_dry L i sky)) (by omega))
  generalize hR6 : mm_up R 2 (4 * i + 2) (nI (L 3 i - lv_dry L i sky)) = R6 at h6 f6 ⊢
  have z6 : R6 0 15 = z + nI b := by rw [← hR6, pu_upr _ _ _ (by omega)]; exact hz
  have y6 : R6 0 14 = R 0 14 := by rw [← hR6, pu_upr _ _ _ (by omega)]
  have fin : ∀ c, c = nI (lv_bl sky) → ∃ R', ((fn_X8_less (nI (L 2 i)) c R6).bind fun z_8 => ((fn_X8_becomesOf (nI i) 1 z_8.1 z_8.2).bind fun z_9 => ((fn_X8_of (nI i) 2 z_9).bind fun z_10 => (if z_10.1 = 0 then ((fn_X8_of (nI i) 1 z_10.2).bind fun z_12 => (if (z_12.2 2 28) < z_12.1 then fn_X8_hangs_B79 (nI i) 0 z_12.2 else fn_X8_hangs_B79 (nI i) 1 z_12.2)) else some z_10.2)))) = some R' ∧ lR (R' 2) (lv_ha sky i (L, b)).1 ∧ R' 0 15 = z + nI (lv_ha sky i (L, b)).2 ∧ R' 0 14 = R 0 14 ∧ r_fq R R' := fun c hc => by
    subst hc
    rw [r_less R6 (by omega) (by omega)]
    simp only [Option.bind_some]
    rw [r_be R6 (i := i) (by omega) 1 (cc := 1) _ rfl (by omega)]
    simp only [Option.bind_some]
    have h7 := lR_row h6 (by omega) (i := i) (by omega) 1 (L 2 i - lv_bl sky) (by omega)
    simp only [show (1 + 1 : Nat) = 2 from rfl] at h7
    have f7 := r_fq_of (r_fr_up R6 (j := 4 * i + 1) (nI (L 2 i - lv_bl sky)) (by omega))
    generalize hR7 : mm_up R6 2 (4 * i + 1) (nI (L 2 i - lv_bl sky)) = R7 at h7 f7 ⊢
    have z7 : R7 0 15 = z + nI b := by rw [← hR7, pu_upr _ _ _ (by omega)]; exact z6
    have y7 : R7 0 14 = R 0 14 := by rw [← hR7, pu_upr _ _ _ (by omega)]; exact y6
    have n7 : lu (lu L 3 i (L 3 i - lv_dry L i sky)) 2 i (L 2 i - lv_bl sky) 0 0 = L 0 0 := by
      rw [lu_ne _ _ _ (by omega : (0 : Nat) ≠ 2)]
      exact n6
    have e3 : lu (lu L 3 i (L 3 i - lv_dry L i sky)) 2 i (L 2 i - lv_bl sky) (1 + 2) i = L 3 i - lv_dry L i sky := by
      rw [lu_ne _ _ _ (by omega), lu_at]
    rw [r_of h7 (by omega) (i := i) (by omega) 2 (cc := 2) rfl (by omega), e3]
    simp only [Option.bind_some]
    by_cases zz : L 3 i - lv_dry L i sky = 0
    · rw [if_pos (by rw [zz]; rfl)]
      have e4 : lu (lu L 3 i (L 3 i - lv_dry L i sky)) 2 i (L 2 i - lv_bl sky) (1 + 1) i = L 2 i - lv_bl sky := lu_at _ _ _ _
      rw [r_of h7 (by omega) (i := i) (by omega) 1 (cc := 1) rfl (by omega), e4]
      simp only [Option.bind_some]
      have e28 : R7 2 28 = nI (L 5 3) := by
        have := h7.2.2.1 3 (by omega)
        rw [lu_ne _ _ _ (by omega : (5 : Nat) ≠ 2), lu_ne _ _ _ (by omega : (5 : Nat) ≠ 3)] at this
        exact this
      rw [e28]
      have out : ∀ v f : Nat, lR ((mm_up (mm_up R7 2 (4 * i + 3) (nI v)) 0 15 (R7 0 15 + nI f)) 2) (lu (lu (lu L 3 i (L 3 i - lv_dry L i sky)) 2 i (L 2 i - lv_bl sky)) 4 i v) ∧ (mm_up (mm_up R7 2 (4 * i + 3) (nI v)) 0 15 (R7 0 15 + nI f)) 0 15 = z + nI (b + f) ∧ (mm_up (mm_up R7 2 (4 * i + 3) (nI v)) 0 15 (R7 0 15 + nI f)) 0 14 = R 0 14 ∧ r_fq R (mm_up (mm_up R7 2 (4 * i + 3) (nI v)) 0 15 (R7 0 15 + nI f)) := fun v f => by
        refine ⟨?_, ?_, ?_, r_fq_tr f6 (r_fq_tr f7 (r_fq_tr (r_fq_of (r_fr_up R7 (nI v) (by omega))) (r_fq_0 _ _ (by omega))))⟩
        · rw [pu_upr _ _ _ (by omega : (2 : Nat) ≠ 0)]
          exact lR_row h7 (by omega) (i := i) (by omega) 3 v (by omega)
        · rw [pu_up, if_pos ⟨rfl, rfl⟩, z7, Int32.add_assoc, nI_add]
        · rw [pu_up, if_neg (by omega), pu_upr _ _ _ (by omega)]
          exact y7
      by_cases y : L 2 i - lv_bl sky ≤ L 5 3
      · have hha : lv_ha sky i (L, b) = (lu (lu (lu L 3 i (L 3 i - lv_dry L i sky)) 2 i (L 2 i - lv_bl sky)) 4 i 2, b + 1) := by
          unfold lv_ha
          rw [if_pos e1, if_pos zz, if_pos y]
        rw [hha, if_neg (nI_nlt y (by omega)), fn_X8_hangs_B79, if_neg (by decide), r_be R7 (i := i) (by omega) 3 (cc := 3) _ rfl (by omega)]
        simp only [Option.bind_some, r_flag1, mm_let]
        refine ⟨_, rfl, ?_⟩
        rw [pu_upr _ _ _ (by omega : (0 : Nat) ≠ 2)]
        exact out 2 1
      · have hha : lv_ha sky i (L, b) = (lu (lu (lu L 3 i (L 3 i - lv_dry L i sky)) 2 i (L 2 i - lv_bl sky)) 4 i 0, b) := by
          unfold lv_ha
          rw [if_pos e1, if_pos zz, if_neg y]
        rw [hha, if_pos (nI_lt (by omega) (by omega)), fn_X8_hangs_B79, if_pos rfl, r_be R7 (i := i) (by omega) 3 (cc := 3) _ rfl (by omega)]
        simp only [Option.bind_some, r_flag0, mm_let]
        refine ⟨_, rfl, ?_⟩
        rw [pu_upr _ _ _ (by omega : (0 : Nat) ≠ 2)]
        exact out 0 0
    · have hha : lv_ha sky i (L, b) = (lu (lu L 3 i (L 3 i - lv_dry L i sky)) 2 i (L 2 i - lv_bl sky), b) := by
        unfold lv_ha
        rw [if_pos e1, if_neg zz]
      rw [hha, if_neg (nI_ne0 (by omega) (by omega))]
      exact ⟨R7, rfl, h7, z7, y7, r_fq_tr f6 f7⟩
  by_cases e : sky < 5
  · rw [if_pos (show nI sky < 5 from nI_lt (b := 5) e (by omega)), r_flag0]
    simp only [Option.bind_some]
    exact fin 0 (by unfold lv_bl; rw [if_pos e]; rfl)
  · rw [if_neg (show ¬ nI sky < 5 from nI_nlt (b := 5) (by omega) (by omega)), r_flag1]
    simp only [Option.bind_some]
    exact fin 1 (by unfold lv_bl; rw [if_neg e]; rfl)
theorem r_hang_L (sky : Nat) (hs : sky ≤ 9) (k : mm_M → Option mm_M) (z : Int32) : ∀ m i fuel (R : mm_M) (L : LV) (b : Nat), lR (R 2) L → lw L → i + m = L 0 0 → m < fuel → R 0 15 = z + nI b →
    ∃ R', fn_X8_dayGoesBy_L6 (nI sky) k fuel (nI i) R = k R' ∧ lR (R' 2) (it (lv_ha sky) i m (L, b)).1 ∧ R' 0 15 = z + nI (it (lv_ha sky) i m (L, b)).2 ∧ R' 0 14 = R 0 14 ∧ r_fq R R' := by
  intro m
  induction m with
  | zero =>
    intro i fuel R L b h hw hi hf hz
    have hn := hw.1
    have h24 : R 2 24 = nI (L 0 0) := h.1
    obtain ⟨f, rfl⟩ : ∃ f, fuel = f + 1 := ⟨fuel - 1, by omega⟩
    have : i = L 0 0 := by omega
    subst this
    refine ⟨R, ?_, h, hz, rfl, r_fq_rf R⟩
    rw [fn_X8_dayGoesBy_L6, h24, if_pos (nI_le (Nat.le_refl _) (by omega))]
  | succ m ih =>
    intro i fuel R L b h hw hi hf hz
    have hn := hw.1
    have h24 : R 2 24 = nI (L 0 0) := h.1
    obtain ⟨f, rfl⟩ : ∃ f, fuel = f + 1 := ⟨fuel - 1, by omega⟩
    obtain ⟨w1, w2, w3, w4⟩ := hw.2.2.2 i (by omega)
    rw [fn_X8_dayGoesBy_L6, h24, if_neg (nI_ge (by omega) (by omega)), r_of h hn (i := i) (by omega) 3 (cc := 3) rfl (by omega), it]
    simp only [Option.bind_some, show (1 + 3 : Nat) = 4 from rfl]
    have hok : lv_ok L (lv_ha sky i (L, b)).1 := lv_ha_ok sky i (L, b) (show i < L 0 0 by omega)
    by_cases e1 : L 4 i = 1
    · obtain ⟨R1, p1, p2, p3, p4, p5⟩ := r_ha h hw (i := i) (by omega) hs e1 hz
      rw [if_pos (by rw [e1]; rfl), p1]
      simp only [Option.bind_some]
      rw [nI_1]
      obtain ⟨R', q1, q2, q3, q4, q5⟩ := ih (i + 1) f R1 (lv_ha sky i (L, b)).1 (lv_ha sky i (L, b)).2 p2 (hok.2.1 hw) (by rw [hok.1.1]; omega) (by omega) p3
      exact ⟨R', q1, q2, q3, q4.trans p4, r_fq_tr p5 q5⟩
    · have hha : lv_ha sky i (L, b) = (L, b) := by
        unfold lv_ha
        rw [if_neg e1]
      have hne : ¬ nI (L 4 i) = 1 := fun q => e1 ((nI_eq (b := 1) (by omega) (by omega)).mp q)
      rw [hha, if_neg hne, nI_1]
      exact ih (i + 1) f R L b h hw (by omega) (by omega) hz
theorem r_day {R : mm_M} {L : LV} (h : lR (R 2) L) (hw : lw L) {sky : Nat} (hs : sky ≤ 9) : ∃ R', fn_X8_dayGoesBy (nI sky) R = some R' ∧ lR (R' 2) (lv_D sky L) ∧ R' 0 14 = R 0 14 + nI (lv_B L).2 ∧ R' 0 15 = R 0 15 + nI (lv_H sky L).2 ∧ r_fq R R' := by
  have hn := hw.1
  obtain ⟨R1, p1, p2, p3⟩ := r_boils h hw
  have hok := lv_B_ok L
  have hn1 : (lv_B L).1 0 0 = L 0 0 := by rw [hok.1.1]
  have hk := (lv_H_ok sky L).1
  unfold fn_X8_dayGoesBy
  rw [p1]
  simp only [Option.bind_some, mm_let]
  obtain ⟨R', q1, q2, q3, q4, q5⟩ := r_hang_L sky hs (fun M => some (mm_up M 2 37 (M 2 37 + 1))) (R 0 15) (L 0 0) 0 mm_fu (mm_up R1 0 14 (R 0 14 + nI (lv_B L).2)) (lv_B L).1 0 (by rw [pu_upr _ _ _ (by omega)]; exact p2) (hok.2.1 hw) (by omega) (by have := mm_fu_ge; omega) (by
    rw [pu_up, if_neg (by omega), p3.1 0 (by omega)]
    exact (Int32.add_zero _).symm)
  have e37 : R' 2 37 = nI (L 0 1) := by
    have := q2.2.1
    rw [show (it (lv_ha sky) 0 (L 0 0) ((lv_B L).1, 0)).1 0 = L 0 from hk.1] at this
    exact this
  refine ⟨mm_up R' 2 37 (nI (L 0 1 + 1)), ?_, ?_, ?_, ?_, r_fq_tr (r_fq_of p3) (r_fq_tr (r_fq_0 _ _ (by omega)) (r_fq_tr q5 (r_fq_of (r_fr_up _ _ (by omega)))))⟩
  · rw [← nI_1, ← e37]
    exact q1
  · rw [pu_up_at]
    exact lR_day q2 _ (by
      have : (it (lv_ha sky) 0 (L 0 0) ((lv_B L).1, 0)).1 0 0 = L 0 0 := by rw [show (it (lv_ha sky) 0 (L 0 0) ((lv_B L).1, 0)).1 0 = L 0 from hk.1]
      omega)
  · rw [pu_upr _ _ _ (by omega), q4, pu_up, if_pos ⟨rfl, rfl⟩]
  · rw [pu_upr _ _ _ (by omega), q3]
    rfl
