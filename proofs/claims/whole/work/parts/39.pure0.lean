/-! numbers as indices -/
theorem pu_in {i n : Nat} (h : i < n) (hn : n < 2 ^ 31) : mm_in (nI i) n = true := by
  simp only [mm_in, Bool.and_eq_true, Bool.not_eq_true', decide_eq_false_iff_not, decide_eq_true_eq]
  exact ⟨nI_pos (by omega), by rw [nI_clamp (by omega)]; exact h⟩
theorem pu_le {a b : Nat} (ha : a < 2 ^ 31) (hb : b < 2 ^ 31) : (nI a ≤ nI b) = (a ≤ b) := propext (nI_leI ha hb)
theorem pu_lt {a b : Nat} (ha : a < 2 ^ 31) (hb : b < 2 ^ 31) : (nI a < nI b) = (a < b) := propext (nI_ltI ha hb)
theorem pu_eq {a b : Nat} (ha : a < 2 ^ 31) (hb : b < 2 ^ 31) : (nI a = nI b) = (a = b) := propext (nI_eq ha hb)
theorem pu_row_same (M : mm_M) (a : Nat) : mm_row M a (M a) = M := by
  funext x
  unfold mm_row
  split
  · next h => rw [h]
  · rfl
theorem pu_row_row (M : mm_M) (a : Nat) (f g : Nat → Int32) : mm_row (mm_row M a f) a g = mm_row M a g := by
  funext x
  unfold mm_row
  split <;> rfl
theorem pu_row_at (M : mm_M) (a : Nat) (f : Nat → Int32) : mm_row M a f a = f := by simp [mm_row]
theorem pu_row_ne (M : mm_M) {a b : Nat} (f : Nat → Int32) (h : b ≠ a) : mm_row M a f b = M b := by simp [mm_row, h]
/-- a loop that fills a stretch of one row -/
theorem pu_fill {ρ : Type} (F : Nat → Int32 → mm_M → Option ρ) (k : mm_M → Option ρ) (a off B : Nat) (g : mm_M → Nat → Int32)
    (h0 : ∀ n M, F (n + 1) (nI B) M = k M) (h1 : ∀ n i M, i < B → F (n + 1) (nI i) M = F n (nI (i + 1)) (mm_up M a (off + i) (g M i))) (hg : ∀ M f i, i < B → g (mm_row M a f) i = g M i) :
    ∀ n i M, i ≤ B → B - i < n → F n (nI i) M = k (mm_row M a (fun j => if off + i ≤ j ∧ j < off + B then g M (j - off) else M a j)) := by
  intro n
  induction n with
  | zero => intro i M _ h; omega
  | succ n ih =>
    intro i M hi hn
    by_cases e : i = B
    · subst e
      rw [h0]
      congr 1
      have : (fun j => if off + i ≤ j ∧ j < off + i then g M (j - off) else M a j) = M a := by
        funext j
        rw [if_neg (by omega)]
      rw [this, pu_row_same]
    · have hl : i < B := by omega
      rw [h1 n i M hl, ih (i + 1) _ (by omega) (by omega)]
      congr 1
      unfold mm_up
      rw [pu_row_row]
      congr 1
      funext j
      rw [pu_row_at]
      by_cases hj : off + (i + 1) ≤ j ∧ j < off + B
      · rw [if_pos hj, if_pos (by omega), hg _ _ _ (by omega)]
      · rw [if_neg hj]
        by_cases hj2 : j = off + i
        · subst hj2
          rw [if_pos (by omega)]
          simp [upd]
        · rw [if_neg (by omega)]
          simp [upd, hj2]
theorem pu_fillarr (r n : Nat) (c : Int32) (M : mm_M) (hn : n < 1000) : fn_J7_fill_53178 r n c M = some (mm_row M r (fun j => if j < n then c else M r j)) := by
  simp only [fn_J7_fill_53178, mm_let]
  have h := pu_fill (fn_J7_fill_53178_L5 r n c (Int32.ofNat n) (fun M => some M)) (fun M => some M) r 0 n (fun _ _ => c)
    (fun m M => by
      rw [fn_J7_fill_53178_L5, if_pos]
      exact nI_le (Nat.le_refl _) (by omega))
    (fun m i M hi => by
      rw [fn_J7_fill_53178_L5, if_neg (show ¬ Int32.ofNat n ≤ nI i from nI_ge hi (by omega)), if_pos (pu_in hi (by omega))]
      simp only [mm_let]
      rw [nI_clamp (by omega), nI_1, Nat.zero_add])
    (fun _ _ _ _ => rfl) mm_fu 0 M (Nat.zero_le _) (by have := mm_fu_ge; omega)
  rw [nI_0] at h
  rw [h]
  congr 2
  funext j
  simp
