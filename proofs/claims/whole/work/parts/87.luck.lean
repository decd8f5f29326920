/-! rains by odds -/
def wv (v : Nat) (W : LV → Nat) : Nat → LV → Nat
  | 0, L => W L
  | m + 1, L => v * wv v W m (lv_D 0 L) + (10 - v) * wv v W m (lv_next L)
def fl : Nat → Nat → LV → LV
  | 0, _, L => L
  | m + 1, s, L => fl m (s / 2) (if s % 2 = 1 then lv_D 0 L else lv_next L)
def wy (v : Nat) : Nat → Nat → Nat → Nat
  | 0, _, w => w
  | m + 1, s, w => wy v m (s / 2) (w * if s % 2 = 1 then v else 10 - v)
def ss (f : Nat → Nat) : Nat → Nat
  | 0 => 0
  | N + 1 => ss f N + f N
theorem ss_cg {f g : Nat → Nat} (h : ∀ s, f s = g s) (N : Nat) : ss f N = ss g N := by
  have : f = g := funext h
  rw [this]
theorem ss_2 (f : Nat → Nat) (N : Nat) : ss f (2 * N) = ss (fun t => f (2 * t)) N + ss (fun t => f (2 * t + 1)) N := by
  induction N with
  | zero => rfl
  | succ N ih =>
    rw [show 2 * (N + 1) = 2 * N + 1 + 1 by omega, ss, ss, ih, ss, ss]
    omega
theorem ss_wv (v : Nat) (W : LV → Nat) : ∀ (m : Nat) (w : Nat) (L : LV), ss (fun s => wy v m s w * W (fl m s L)) (2 ^ m) = w * wv v W m L := by
  intro m
  induction m with
  | zero =>
    intro w L
    show 0 + w * W L = w * W L
    omega
  | succ m ih =>
    intro w L
    rw [show 2 ^ (m + 1) = 2 * 2 ^ m by rw [Nat.pow_succ]; omega, ss_2]
    have h0 : ∀ t, wy v (m + 1) (2 * t) w * W (fl (m + 1) (2 * t) L) = wy v m t (w * (10 - v)) * W (fl m t (lv_next L)) := fun t => by
      rw [wy, fl, show 2 * t / 2 = t by omega, if_neg (by omega), if_neg (by omega)]
    have h1 : ∀ t, wy v (m + 1) (2 * t + 1) w * W (fl (m + 1) (2 * t + 1) L) = wy v m t (w * v) * W (fl m t (lv_D 0 L)) := fun t => by
      rw [wy, fl, show (2 * t + 1) / 2 = t by omega, if_pos (by omega), if_pos (by omega)]
    rw [ss_cg h0, ss_cg h1, ih, ih, wv, Nat.mul_add, Nat.mul_assoc, Nat.mul_assoc, Nat.add_comm]
theorem wv_le {v : Nat} {W : LV → Nat} (hv : v ≤ 10) (hW : ∀ L, lw L → W L ≤ 360) : ∀ (m : Nat) (L : LV), lw L → wv v W m L ≤ 10 ^ m * 360 := by
  intro m
  induction m with
  | zero =>
    intro L h
    have := hW L h
    rw [wv]
    omega
  | succ m ih =>
    intro L h
    have h1 := Nat.mul_le_mul_left v (ih (lv_D 0 L) (lv_D_w 0 h))
    have h2 := Nat.mul_le_mul_left (10 - v) (ih (lv_next L) (lv_next_w h))
    have h3 : v * (10 ^ m * 360) + (10 - v) * (10 ^ m * 360) = 10 ^ (m + 1) * 360 := by
      rw [← Nat.add_mul, show v + (10 - v) = 10 by omega, Nat.pow_succ]
      omega
    rw [wv]
    omega
/-! the class's sum -/
def w_fr (d : Nat) (C C' : mm_M) : Prop := ∀ a, a < 34 + 7 * d ∨ 90 ≤ a → C' a = C a
theorem weigh_ok {v n N : Nat} (hv : v ≤ 10) (hn : n ≤ 8) (who : Int32) (W : LV → Nat) (hW : ∀ (C : mm_M) (o : Nat) (L : LV), lC C o L → lw L → L 0 0 = N → fn_X7_worth o who C = some (lN (W L), C)) : ∀ m d fuel (C : mm_M) (L : LV), d + m = n → m < fuel → lC C (27 + 7 * d) L → lw L → L 0 0 = N → L 0 1 + m < 10000 →
    ∃ C', fn_X7_weigh fuel (nI d) (nI n) (nI v) who C = some (lN (wv v W m L), C') ∧ w_fr d C C' := by
  intro m
  induction m with
  | zero =>
    intro d fuel C L hd hf hc hw hN hdd
    obtain ⟨f, rfl⟩ : ∃ f, fuel = f + 1 := ⟨fuel - 1, by omega⟩
    have : d = n := by omega
    subst this
    refine ⟨C, ?_, fun _ _ => rfl⟩
    rw [fn_X7_weigh, if_pos (nI_le (Nat.le_refl _) (by omega)), if_pos (pu_in (by omega) (by omega)), nI_clamp (by omega), hW C _ L hc hw hN]
    rfl
  | succ m ih =>
    intro d fuel C L hd hf hc hw hN hdd
    obtain ⟨f, rfl⟩ : ∃ f, fuel = f + 1 := ⟨fuel - 1, by omega⟩
    have h6 := hw.1
    have hin := pu_in (i := d) (n := 9) (by omega) (by omega)
    have hcl : (nI d).toNatClampNeg = d := nI_clamp (by omega)
    have hin1 := pu_in (i := d + 1) (n := 9) (by omega) (by omega)
    have hcl1 : (nI (d + 1)).toNatClampNeg = d + 1 := nI_clamp (by omega)
    -- one branch
    have br : ∀ (C : mm_M) (sky : Nat), sky ≤ 9 → lC C (27 + 7 * d) L → ∃ C', fn_X7_weighUnder (fun a b c d M => fn_X7_weigh f a b c d M) (nI sky) (nI d) (nI n) (nI v) who C = some (lN (wv v W m (lv_D sky L)), C') ∧ w_fr d C C' := fun C sky hs hc => by
      obtain ⟨C1, a1, a2, a3⟩ := c_become (27 + 7 * (d + 1)) (27 + 7 * d) hc h6 (by omega)
      obtain ⟨C2, b1, b2, b3, b4⟩ := c_day a2 hw hs
      have k := lv_D_k sky L
      obtain ⟨C3, e1, e2⟩ := ih (d + 1) f C2 (lv_D sky L) (by omega) (by omega) b2 (lv_D_w sky hw) (by omega) (by omega)
      refine ⟨C3, ?_, fun a ha => by rw [e2 a (by omega), b4 a (by omega), a3 a (by omega)]⟩
      unfold fn_X7_weighUnder
      rw [nI_1, hin1, hin, hcl1, hcl, if_pos rfl, if_pos rfl, a1]
      simp only [pb_some]
      rw [b1]
      simp only [pb_some]
      rw [e1]
      simp only [pb_some]
    obtain ⟨C1, p1, p2⟩ := br C 0 (by omega) hc
    have hsun : ∀ C : mm_M, lC C (27 + 7 * d) L → fn_X2_sunToday (27 + 7 * d) C = some (nI (lv_today L), C) := fun C h => c_sun h (by omega)
    have tod := lv_today_le hw
    have l10 : (10 - nI v).toInt64 = lN (10 - v) := by
      rw [show (10 - nI v : Int32) = nI (10 - v) from pk_sub (a := 10) hv, nI_l (by omega)]
    have lv' : (nI v).toInt64 = lN v := nI_l (by omega)
    rw [fn_X7_weigh, if_neg (nI_ge (by omega) (by omega)), if_pos (show nI d < 8 from nI_lt (b := 8) (by omega) (by omega)), hin, hcl, l10, lv']
    by_cases e0 : v = 0
    · subst e0
      obtain ⟨C2, q1, q2⟩ := br C (lv_today L) tod hc
      rw [if_pos (by decide), if_neg (by decide), if_pos rfl, hsun C hc]
      simp only [pb_some]
      rw [q1]
      simp only [pb_some, mm_leq]
      refine ⟨C2, ?_, q2⟩
      rw [wv, show (0 : Int64) = lN 0 from rfl, lN_mul, lN_add, Nat.zero_mul]
      rfl
    · rw [if_neg (nI_nle (by omega) (by omega)), show fn_X7_weighUnder (fun a b c d M => fn_X7_weigh f a b c d M) 0 (nI d) (nI n) (nI v) who C = _ from p1]
      simp only [pb_some, mm_leq]
      by_cases e10 : v = 10
      · subst e10
        rw [if_pos (by decide)]
        refine ⟨C1, ?_, p2⟩
        rw [wv, show (0 : Int64) = lN 0 from rfl, lN_mul, lN_add, show (10 - 10 : Nat) = 0 from rfl, Nat.zero_mul, Nat.zero_add, Nat.add_zero]
      · have hc1 : lC C1 (27 + 7 * d) L := lC_eq (fun a _ _ => p2 a (by omega)) hc
        obtain ⟨C2, q1, q2⟩ := br C1 (lv_today L) tod hc1
        rw [if_neg (show ¬ (10 : Int32) ≤ nI v from nI_ge (b := 10) (by omega) (by omega)), if_pos trivial, hsun C1 hc1]
        simp only [pb_some]
        rw [q1]
        simp only [pb_some]
        refine ⟨C2, ?_, fun a ha => (q2 a ha).trans (p2 a ha)⟩
        rw [wv, show (0 : Int64) = lN 0 from rfl, lN_mul, lN_mul, lN_add, lN_add, Nat.zero_add]
        rfl
/-! the reference's sums -/
section
variable {v n : Nat}
theorem r_path_L (hv : v ≤ 10) (hn : n ≤ 8) {s : Nat} (hs : s < 2 ^ 31) (c2 : Int32) (kk : Int64 → mm_M → (Nat → Int64) → Option (mm_M × (Nat → Int64))) (Nn : Nat → Int64) : ∀ z k fuel (R : mm_M) (L : LV) (w : Nat), k + z = n → z < fuel → lR (R 2) L → lw L → L 0 1 + z < 10000 →
    ∃ R', fn_X8_findOdds_L63 (nI v) c2 (nI n) (nI s) kk fuel (lN w) (nI k) R Nn = kk (lN (wy v z (s / 2 ^ k) w)) R' Nn ∧ lR (R' 2) (fl z (s / 2 ^ k) L) ∧ lw (fl z (s / 2 ^ k) L) ∧ (fl z (s / 2 ^ k) L) 0 0 = L 0 0 ∧ r_s R R' := by
  have l10 : (10 - nI v).toInt64 = lN (10 - v) := by
    rw [show (10 - nI v : Int32) = nI (10 - v) from pk_sub (a := 10) hv, nI_l (by omega)]
  have lv' : (nI v).toInt64 = lN v := nI_l (by omega)
  intro z
  induction z with
  | zero =>
    intro k fuel R L w hk hf h hw hd
    obtain ⟨f, rfl⟩ : ∃ f, fuel = f + 1 := ⟨fuel - 1, by omega⟩
    have : k = n := by omega
    subst this
    refine ⟨R, ?_, h, hw, rfl, r_s_rf R⟩
    rw [fn_X8_findOdds_L63, if_pos (nI_le (Nat.le_refl _) (by omega))]
    rfl
  | succ z ih =>
    intro k fuel R L w hk hf h hw hd
    obtain ⟨f, rfl⟩ : ∃ f, fuel = f + 1 := ⟨fuel - 1, by omega⟩
    have m2 : s / 2 ^ k % 2 < 2 := Nat.mod_lt _ (by omega)
    have ed : s / 2 ^ (k + 1) = s / 2 ^ k / 2 := by rw [Nat.pow_succ, Nat.div_div_eq_div_mul]
    rw [fn_X8_findOdds_L63, if_neg (nI_ge (by omega) (by omega)), pb_bit hs (by omega), wy, fl]
    simp only [show (nI (s / 2 ^ k % 2) = (1 : Int32)) = (s / 2 ^ k % 2 = 1) from pu_eq (b := 1) (by omega) (by omega)]
    by_cases e : s / 2 ^ k % 2 = 1
    · rw [if_pos e, if_pos e, if_pos e, fn_X8_findOdds_B85, if_neg (by decide), lv', lN_mul, mm_leq]
      obtain ⟨R1, p1, p2, p3, p4, p5⟩ := r_day h hw (sky := 0) (by omega)
      rw [show fn_X8_dayGoesBy 0 R = some R1 from p1]
      simp only [pb_some]
      rw [nI_1]
      have kk1 := lv_D_k 0 L
      obtain ⟨R', q1, q2, q3, q4, q5⟩ := ih (k + 1) f R1 (lv_D 0 L) (w * v) (by omega) (by omega) p2 (lv_D_w 0 hw) (by omega)
      rw [ed] at q1 q2 q3 q4
      exact ⟨R', q1, q2, q3, q4.trans kk1.1, r_s_tr (r_s_of p5) q5⟩
    · rw [if_neg e, if_neg e, if_neg e, fn_X8_findOdds_B85, if_pos rfl, l10, lN_mul, mm_leq]
      obtain ⟨R1, p1, p2, p3, p4, p5⟩ := r_next h hw (by omega)
      rw [pb_bind2, p1]
      simp only [pb_some]
      rw [nI_1]
      have kk1 := lv_next_k L
      obtain ⟨R', q1, q2, q3, q4, q5⟩ := ih (k + 1) f R1 (lv_next L) (w * (10 - v)) (by omega) (by omega) p2 (lv_next_w hw) (by omega)
      rw [ed] at q1 q2 q3 q4
      exact ⟨R', q1, q2, q3, q4.trans kk1.1, r_s_tr (r_s_of p5) q5⟩
/-- who is asked for: one, or none -/
def wH (who : Option Nat) (L : LV) : Nat := match who with
  | none => 0
  | some i => if L 4 i = 2 then 1 else 0
def wC (who : Option Nat) : Int32 := match who with
  | none => -4
  | some i => nI i
theorem r_odds_L {L : LV} (hv : v ≤ 10) (hn : n ≤ 8) (hw : lw L) (hd : L 0 1 ≤ 999) (who : Option Nat) (hwho : ∀ i, who = some i → i < L 0 0) {c2 : Int32} (hc2 : c2 = wC who) (k : mm_M → (Nat → Int64) → Option (mm_M × (Nat → Int64))) : ∀ z s fuel (R : mm_M) (Nn : Nat → Int64), s + z = 2 ^ n → z < fuel → lR (R 1) L → Nn 18 = lN (ss (fun t => wy v n t 1 * wH who (fl n t L)) s) → Nn 19 = lN (ss (fun t => wy v n t 1 * lv_sum ((fl n t L) 2) (L 0 0)) s) →
    ∃ R' N', fn_X8_findOdds_L45 (nI v) c2 (nI n) k fuel (nI s) R Nn = k R' N' ∧ N' 18 = lN (ss (fun t => wy v n t 1 * wH who (fl n t L)) (2 ^ n)) ∧ N' 19 = lN (ss (fun t => wy v n t 1 * lv_sum ((fl n t L) 2) (L 0 0)) (2 ^ n)) ∧ N' 20 = Nn 20 ∧ r_s R R' := by
  have h6 := hw.1
  have hp : 2 ^ n ≤ 256 := Nat.pow_le_pow_right (n := 2) (by omega) hn
  have esh : (1 : Int32) <<< (nI n &&& 31) = nI (2 ^ n) := by
    have := pk_shlN (n := 1) (nI n &&& 31) n (pb_sh ⟨n, by omega⟩) (by omega)
    rw [Nat.one_mul] at this
    exact this
  intro z
  induction z with
  | zero =>
    intro s fuel R Nn hs hf hr h18 h19
    obtain ⟨f, rfl⟩ : ∃ f, fuel = f + 1 := ⟨fuel - 1, by omega⟩
    have : s = 2 ^ n := by omega
    refine ⟨R, Nn, ?_, by rw [h18, this], by rw [h19, this], rfl, r_s_rf R⟩
    rw [fn_X8_findOdds_L45, esh, if_pos (nI_le (by omega) (by omega))]
  | succ z ih =>
    intro s fuel R Nn hs hf hr h18 h19
    obtain ⟨f, rfl⟩ : ∃ f, fuel = f + 1 := ⟨fuel - 1, by omega⟩
    obtain ⟨R1, b1, b2, b3, b4, b5, b6⟩ := r_begin hr hw
    rw [fn_X8_findOdds_L45, esh, if_neg (nI_ge (by omega) (by omega)), b1]
    simp only [pb_some]
    generalize hkk : (fun (x5_18 : Int64) (M_19 : mm_M) (N_20 : Nat → Int64) => (if c2 = (-4) then mm_let (vp_updL N_20 18 ((N_20 18) + 0)) fun N_22 => ((fn_X8_sumOf 1 M_19).bind fun z_23 => mm_let (vp_updL N_22 19 ((N_22 19) + (x5_18 * z_23.1.toInt64))) fun N_24 => fn_X8_findOdds_L45 (nI v) c2 (nI n) k f (nI s + 1) z_23.2 N_24) else ((fn_X8_of c2 3 M_19).bind fun z_25 => (if z_25.1 = 2 then mm_let (vp_updL N_20 18 ((N_20 18) + x5_18)) fun N_30 => ((fn_X8_sumOf 1 z_25.2).bind fun z_31 => mm_let (vp_updL N_30 19 ((N_30 19) + (x5_18 * z_31.1.toInt64))) fun N_32 => fn_X8_findOdds_L45 (nI v) c2 (nI n) k f (nI s + 1) z_31.2 N_32) else mm_let (vp_updL N_20 18 ((N_20 18) + 0)) fun N_27 => ((fn_X8_sumOf 1 z_25.2).bind fun z_28 => mm_let (vp_updL N_27 19 ((N_27 19) + (x5_18 * z_28.1.toInt64))) fun N_29 => fn_X8_findOdds_L45 (nI v) c2 (nI n) k f (nI s + 1) z_28.2 N_29))))) = kk
    obtain ⟨R2, p1, p2, p3, p4, p5⟩ := r_path_L hv hn (s := s) (by omega) c2 kk Nn n 0 mm_fu R1 L 1 (by omega) (by have := mm_fu_ge; omega) b2 hw (by omega)
    rw [Nat.pow_zero, Nat.div_one] at p1 p2 p3 p4
    have p1' : fn_X8_findOdds_L63 (nI v) c2 (nI n) (nI s) kk mm_fu 1 0 R1 Nn = kk (lN (wy v n s 1)) R2 Nn := p1
    rw [p1', ← hkk]
    simp only []
    have f2 : r_s R R2 := r_s_tr b6 p5
    have hsum := r_sum p2 p3 (v := 1) (c1 := 1) rfl (by omega)
    rw [p4] at hsum
    have hsb : lv_sum ((fl n s L) 2) (L 0 0) < 2 ^ 31 := by
      have : ∀ q, q ≤ L 0 0 → lv_sum ((fl n s L) 2) q ≤ 60 * q := by
        intro q
        induction q with
        | zero => intro _; exact Nat.le_refl _
        | succ q ih =>
          intro hq
          have := ih (by omega)
          have := (p3.2.2.2 q (by omega)).2.1
          rw [lv_sum]
          omega
      have := this (L 0 0) (Nat.le_refl _)
      omega
    have lS : (nI (lv_sum ((fl n s L) 2) (L 0 0))).toInt64 = lN (lv_sum ((fl n s L) 2) (L 0 0)) := nI_l hsb
    have fin : ∀ x : Nat, x = wy v n s 1 * wH who (fl n s L) → ∃ R' N', fn_X8_findOdds_L45 (nI v) c2 (nI n) k f (nI (s + 1)) R2 (vp_updL (vp_updL Nn 18 (Nn 18 + lN x)) 19 ((vp_updL Nn 18 (Nn 18 + lN x)) 19 + lN (wy v n s 1) * lN (lv_sum ((fl n s L) 2) (L 0 0)))) = k R' N' ∧ N' 18 = lN (ss (fun t => wy v n t 1 * wH who (fl n t L)) (2 ^ n)) ∧ N' 19 = lN (ss (fun t => wy v n t 1 * lv_sum ((fl n t L) 2) (L 0 0)) (2 ^ n)) ∧ N' 20 = Nn 20 ∧ r_s R R' := fun x hx => by
      obtain ⟨R', N', y1, y2, y3, y4, y5⟩ := ih (s + 1) f R2 (vp_updL (vp_updL Nn 18 (Nn 18 + lN x)) 19 ((vp_updL Nn 18 (Nn 18 + lN x)) 19 + lN (wy v n s 1) * lN (lv_sum ((fl n s L) 2) (L 0 0)))) (by omega) (by omega) (by rw [f2.1 1 (by omega) (by omega)]; exact hr) (by
        rw [pk_uLn (by omega), pk_uLs, h18, lN_add, ss, hx]) (by
        rw [pk_uLs, pk_uLn (by omega), h19, lN_mul, lN_add, ss])
      refine ⟨R', N', y1, y2, y3, ?_, r_s_tr f2 y5⟩
      rw [y4, pk_uLn (by omega), pk_uLn (by omega)]
    match who, hwho, hc2 with
    | none, _, hc2 =>
      have hc2' : c2 = -4 := hc2
      rw [if_pos hc2', mm_leq, hsum]
      simp only [pb_some, mm_leq]
      rw [lS, nI_1]
      exact fin 0 (Nat.mul_zero _).symm
    | some i, hwho, hc2 =>
      have hi := hwho i rfl
      have hc2' : c2 = nI i := hc2
      subst hc2'
      have w4 := (p3.2.2.2 i (by omega)).2.2.2
      rw [if_neg (nI_m4 (by omega)), r_of p2 p3.1 (i := i) (by omega) 3 (cc := 3) rfl (by omega)]
      simp only [pb_some, mm_leq, hsum, lS]
      rw [nI_1]
      by_cases e : (fl n s L) 4 i = 2
      · rw [if_pos (by rw [show (1 + 3 : Nat) = 4 from rfl, e]; rfl)]
        exact fin (wy v n s 1) (by unfold wH; simp [e])
      · have hne : ¬ nI ((fl n s L) (1 + 3) i) = 2 := fun q => e ((nI_eq (a := (fl n s L) 4 i) (b := 2) (by omega) (by omega)).mp q)
        rw [if_neg hne]
        exact fin 0 (by unfold wH; simp [e])
end
