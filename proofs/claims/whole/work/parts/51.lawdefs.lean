def sj_feed (S : mm_M → mm_M → Prop) : Prop := ∀ C R, S C R → ∀ (a1 : Int32), ∃ (r : Int32) (C' R' : mm_M), fn_X7_feed a1 C = some (r, C') ∧ fn_X8_feed a1 R = some (r, R') ∧ S C' R'
def sj_end (S : mm_M → mm_M → Prop) : Prop := ∀ C R, S C R → ∀ (a1 : Int32), ∃ (r : Int32) (C' R' : mm_M), fn_X7_end a1 C = some (r, C') ∧ fn_X8_end a1 R = some (r, R') ∧ S C' R'
def sj_text (S : mm_M → mm_M → Prop) : Prop := ∀ C R, S C R → ∃ (r : Int32) (C' R' : mm_M), fn_X7_text  C = some (r, C') ∧ fn_X8_text  R = some (r, R') ∧ S C' R'
def sj_fault (S : mm_M → mm_M → Prop) : Prop := ∀ C R, S C R → ∃ (r : Int32) (C' R' : mm_M), fn_X7_fault  C = some (r, C') ∧ fn_X8_fault  R = some (r, R') ∧ S C' R'
def sj_rule (S : mm_M → mm_M → Prop) : Prop := ∀ C R, S C R → ∀ (a1 : Int32), ∃ (r : Int32) (C' R' : mm_M), fn_X7_rule a1 C = some (r, C') ∧ fn_X8_rule a1 R = some (r, R') ∧ S C' R'
def sj_told (S : mm_M → mm_M → Prop) : Prop := ∀ C R, S C R → ∀ (a1 : Int32), ∃ (r : Int32) (C' R' : mm_M), fn_X7_told a1 C = some (r, C') ∧ fn_X8_told a1 R = some (r, R') ∧ S C' R'
def sj_one (S : mm_M → mm_M → Prop) : Prop := ∀ C R, S C R → ∀ (a1 a2 : Int32), ∃ (r : Int32) (C' R' : mm_M), fn_X7_one a1 a2 C = some (r, C') ∧ fn_X8_one a1 a2 R = some (r, R') ∧ S C' R'
def sj_sun (S : mm_M → mm_M → Prop) : Prop := ∀ C R, S C R → ∀ (a1 : Int32), ∃ (r : Int32) (C' R' : mm_M), fn_X7_sun a1 C = some (r, C') ∧ fn_X8_sun a1 R = some (r, R') ∧ S C' R'
def sj_alter (S : mm_M → mm_M → Prop) : Prop := ∀ C R, S C R → ∀ (a1 a2 a3 : Int32), ∃ (r : Int32) (C' R' : mm_M), fn_X7_alter a1 a2 a3 C = some (r, C') ∧ fn_X8_alter a1 a2 a3 R = some (r, R') ∧ S C' R'
def sj_set (S : mm_M → mm_M → Prop) : Prop := ∀ C R, S C R → ∀ (a1 a2 : Int32), ∃ (r : Int32) (C' R' : mm_M), fn_X7_set a1 a2 C = some (r, C') ∧ fn_X8_set a1 a2 R = some (r, R') ∧ S C' R'
def sj_shine (S : mm_M → mm_M → Prop) : Prop := ∀ C R, S C R → ∀ (a1 a2 : Int32), ∃ (r : Int32) (C' R' : mm_M), fn_X7_shine a1 a2 C = some (r, C') ∧ fn_X8_shine a1 a2 R = some (r, R') ∧ S C' R'
def sj_bring (S : mm_M → mm_M → Prop) : Prop := ∀ C R, S C R → ∀ (a1 a2 : Int32), ∃ (r : Int32) (C' R' : mm_M), fn_X7_bring a1 a2 C = some (r, C') ∧ fn_X8_bring a1 a2 R = some (r, R') ∧ S C' R'
def sj_fetch (S : mm_M → mm_M → Prop) : Prop := ∀ C R, S C R → ∀ (a1 : Int32), ∃ (r : Int32) (C' R' : mm_M), fn_X7_fetch a1 C = some (r, C') ∧ fn_X8_fetch a1 R = some (r, R') ∧ S C' R'
def sj_days (S : mm_M → mm_M → Prop) : Prop := ∀ C R, S C R → ∀ (a1 : Int32), ∃ (r : Int32) (C' R' : mm_M), fn_X7_days a1 C = some (r, C') ∧ fn_X8_days a1 R = some (r, R') ∧ S C' R'
def sj_runs (S : mm_M → mm_M → Prop) : Prop := ∀ C R, S C R → ∀ (a1 a2 : Int32), ∃ (r : Int32) (C' R' : mm_M), fn_X7_runs a1 a2 C = some (r, C') ∧ fn_X8_runs a1 a2 R = some (r, R') ∧ S C' R'
def sj_ahead (S : mm_M → mm_M → Prop) : Prop := ∀ C R, S C R → ∀ (a1 a2 a3 : Int32), ∃ (r : Int32) (C' R' : mm_M), fn_X7_ahead a1 a2 a3 C = some (r, C') ∧ fn_X8_ahead a1 a2 a3 R = some (r, R') ∧ S C' R'
def sj_home (S : mm_M → mm_M → Prop) : Prop := ∀ C R, S C R → ∀ (a1 : Int32), ∃ (r : Int32) (C' R' : mm_M), fn_X7_home a1 C = some (r, C') ∧ fn_X8_home a1 R = some (r, R') ∧ S C' R'
def sj_done (S : mm_M → mm_M → Prop) : Prop := ∀ C R, S C R → ∃ (r : Int32) (C' R' : mm_M), fn_X7_done  C = some (r, C') ∧ fn_X8_done  R = some (r, R') ∧ S C' R'
def sj_blue (S : mm_M → mm_M → Prop) : Prop := ∀ C R, S C R → ∀ (a1 : Int32), ∃ (r : Int32) (C' R' : mm_M), fn_X7_blue a1 C = some (r, C') ∧ fn_X8_blue a1 R = some (r, R') ∧ S C' R'
def sj_pegs (S : mm_M → mm_M → Prop) : Prop := ∀ C R, S C R → ∀ (a1 : Int32), ∃ (r : Int32) (C' R' : mm_M), fn_X7_pegs a1 C = some (r, C') ∧ fn_X8_pegs a1 R = some (r, R') ∧ S C' R'
def sj_batch (S : mm_M → mm_M → Prop) : Prop := ∀ C R, S C R → ∀ (a1 : Int32), ∃ (r : Int32) (C' R' : mm_M), fn_X7_batch a1 C = some (r, C') ∧ fn_X8_batch a1 R = some (r, R') ∧ S C' R'
def sj_swap (S : mm_M → mm_M → Prop) : Prop := ∀ C R, S C R → ∀ (a1 : Int32), ∃ (r : Int32) (C' R' : mm_M), fn_X7_swap a1 C = some (r, C') ∧ fn_X8_swap a1 R = some (r, R') ∧ S C' R'
def sj_fair (S : mm_M → mm_M → Prop) : Prop := ∀ C R, S C R → ∀ (a1 : Int32), ∃ (r : Int32) (C' R' : mm_M), fn_X7_fair a1 C = some (r, C') ∧ fn_X8_fair a1 R = some (r, R') ∧ S C' R'
def sj_stain (S : mm_M → mm_M → Prop) : Prop := ∀ C R, S C R → ∀ (a1 a2 : Int32), ∃ (r : Int32) (C' R' : mm_M), fn_X7_stain a1 a2 C = some (r, C') ∧ fn_X8_stain a1 a2 R = some (r, R') ∧ S C' R'
def sj_kind (S : mm_M → mm_M → Prop) : Prop := ∀ C R, S C R → ∀ (a1 a2 : Int32), ∃ (r : Int32) (C' R' : mm_M), fn_X7_kind a1 a2 C = some (r, C') ∧ fn_X8_kind a1 a2 R = some (r, R') ∧ S C' R'
def sj_luck (S : mm_M → mm_M → Prop) : Prop := ∀ C R, S C R → ∀ N : Nat → Int64, ∀ (a1 a2 a3 a4 : Int32), ∃ (r : Int64) (C' R' : mm_M) (N' : Nat → Int64), fn_X7_luck a1 a2 a3 a4 C = some (r, C') ∧ fn_X8_luck a1 a2 a3 a4 R N = some (r, R', N') ∧ S C' R'
def sj_mean (S : mm_M → mm_M → Prop) : Prop := ∀ C R, S C R → ∀ N : Nat → Int64, ∀ (a1 a2 a3 : Int32), ∃ (r : Int64) (C' R' : mm_M) (N' : Nat → Int64), fn_X7_mean a1 a2 a3 C = some (r, C') ∧ fn_X8_mean a1 a2 a3 R N = some (r, R', N') ∧ S C' R'
def sj_see (S : mm_M → mm_M → Prop) : Prop := ∀ C R, S C R → ∀ (a1 a2 a3 : Int32), ∃ (r : Int32) (C' R' : mm_M), fn_X7_see a1 a2 a3 C = some (r, C') ∧ fn_X8_see a1 a2 a3 R = some (r, R') ∧ S C' R'
def sj_forget (S : mm_M → mm_M → Prop) : Prop := ∀ C R, S C R → ∀ (a1 : Int32), ∃ (r : Int32) (C' R' : mm_M), fn_X7_forget a1 C = some (r, C') ∧ fn_X8_forget a1 R = some (r, R') ∧ S C' R'
def sj_kinds (S : mm_M → mm_M → Prop) : Prop := ∀ C R, S C R → ∀ (a1 : Int32), ∃ (r : Int32) (C' R' : mm_M), fn_X7_kinds a1 C = some (r, C') ∧ fn_X8_kinds a1 R = some (r, R') ∧ S C' R'
def sj_greys (S : mm_M → mm_M → Prop) : Prop := ∀ C R, S C R → ∀ (a1 : Int32), ∃ (r : Int32) (C' R' : mm_M), fn_X7_greys a1 C = some (r, C') ∧ fn_X8_greys a1 R = some (r, R') ∧ S C' R'
def sj_ask (S : mm_M → mm_M → Prop) : Prop := ∀ C R, S C R → ∀ (a1 a2 : Int32), ∃ (r : Int32) (C' R' : mm_M), fn_X7_ask a1 a2 C = some (r, C') ∧ fn_X8_ask a1 a2 R = some (r, R') ∧ S C' R'
def sj_drift (S : mm_M → mm_M → Prop) : Prop := ∀ C R, S C R → ∀ (a1 a2 a3 : Int32), ∃ (r : Int32) (C' R' : mm_M), fn_X7_drift a1 a2 a3 C = some (r, C') ∧ fn_X8_drift a1 a2 a3 R = some (r, R') ∧ S C' R'
def sj_keep (S : mm_M → mm_M → Prop) : Prop := ∀ C R, S C R → ∀ (a1 : Int32), ∃ (r : Int32) (C' R' : mm_M), fn_X7_keep a1 C = some (r, C') ∧ fn_X8_keep a1 R = some (r, R') ∧ S C' R'
def sj_back (S : mm_M → mm_M → Prop) : Prop := ∀ C R, S C R → ∀ (a1 : Int32), ∃ (r : Int32) (C' R' : mm_M), fn_X7_back a1 C = some (r, C') ∧ fn_X8_back a1 R = some (r, R') ∧ S C' R'
def sj_sheet (S : mm_M → mm_M → Prop) : Prop := ∀ C R, S C R → ∀ (a1 a2 a3 : Int32), ∃ (r : Int32) (C' R' : mm_M), fn_X7_sheet a1 a2 a3 C = some (r, C') ∧ fn_X8_sheet a1 a2 a3 R = some (r, R') ∧ S C' R'
def sj_lay (S : mm_M → mm_M → Prop) : Prop := ∀ C R, S C R → ∀ (a1 a2 a3 : Int32), ∃ (r : Int32) (C' R' : mm_M), fn_X7_lay a1 a2 a3 C = some (r, C') ∧ fn_X8_lay a1 a2 a3 R = some (r, R') ∧ S C' R'
def sj_read (S : mm_M → mm_M → Prop) : Prop := ∀ C R, S C R → ∀ (a1 a2 a3 a4 : Int32), ∃ (r : Int32) (C' R' : mm_M), fn_X7_read a1 a2 a3 a4 C = some (r, C') ∧ fn_X8_read a1 a2 a3 a4 R = some (r, R') ∧ S C' R'
def sj_torn (S : mm_M → mm_M → Prop) : Prop := ∀ C R, S C R → ∃ (r : Int32) (C' R' : mm_M), fn_X7_torn  C = some (r, C') ∧ fn_X8_torn  R = some (r, R') ∧ S C' R'
def sj_count (S : mm_M → mm_M → Prop) : Prop := ∀ C R, S C R → ∀ (a1 : Int32), ∃ (r : Int32) (C' R' : mm_M), fn_X7_count a1 C = some (r, C') ∧ fn_X8_count a1 R = some (r, R') ∧ S C' R'
/-- what the two systems owe each other: every call answers alike, and they stay alike -/
def sm_All (S : mm_M → mm_M → Prop) : Prop := sj_feed S ∧ sj_end S ∧ sj_text S ∧ sj_fault S ∧ sj_rule S ∧ sj_told S ∧ sj_one S ∧ sj_sun S ∧ sj_alter S ∧ sj_set S ∧ sj_shine S ∧ sj_bring S ∧ sj_fetch S ∧ sj_days S ∧ sj_runs S ∧ sj_ahead S ∧ sj_home S ∧ sj_done S ∧ sj_blue S ∧ sj_pegs S ∧ sj_batch S ∧ sj_swap S ∧ sj_fair S ∧ sj_stain S ∧ sj_kind S ∧ sj_luck S ∧ sj_mean S ∧ sj_see S ∧ sj_forget S ∧ sj_kinds S ∧ sj_greys S ∧ sj_ask S ∧ sj_drift S ∧ sj_keep S ∧ sj_back S ∧ sj_sheet S ∧ sj_lay S ∧ sj_read S ∧ sj_torn S ∧ sj_count S
theorem lj_isLau {G : mm_G} {A : Nat → Prop} {sh : mm_S} {o : Nat} (h : mm_isLau G sh o) : mm_isLau (mm_gA G A) sh o := h
theorem lj_isMli (G : mm_G) (A : Nat → Prop) : mm_isMli (mm_gA G A) (mb_shC G) := by
  refine ⟨rfl, ⟨rfl, rfl, rfl, rfl, rfl, rfl, rfl⟩, ⟨rfl, rfl, rfl, rfl, rfl, rfl, rfl⟩, rfl, ?_, ⟨rfl, rfl, rfl⟩, ⟨rfl, rfl, rfl, rfl⟩, rfl, rfl, rfl, ?_, rfl, ?_⟩
  · intro i hi
    match i, hi with
    | 0, _ => exact ⟨rfl, rfl, rfl, rfl, rfl, rfl, rfl⟩
    | 1, _ => exact ⟨rfl, rfl, rfl, rfl, rfl, rfl, rfl⟩
    | 2, _ => exact ⟨rfl, rfl, rfl, rfl, rfl, rfl, rfl⟩
    | 3, _ => exact ⟨rfl, rfl, rfl, rfl, rfl, rfl, rfl⟩
    | 4, _ => exact ⟨rfl, rfl, rfl, rfl, rfl, rfl, rfl⟩
    | 5, _ => exact ⟨rfl, rfl, rfl, rfl, rfl, rfl, rfl⟩
    | 6, _ => exact ⟨rfl, rfl, rfl, rfl, rfl, rfl, rfl⟩
    | 7, _ => exact ⟨rfl, rfl, rfl, rfl, rfl, rfl, rfl⟩
    | 8, _ => exact ⟨rfl, rfl, rfl, rfl, rfl, rfl, rfl⟩
  · intro i hi
    match i, hi with
    | 0, _ => exact ⟨rfl, ⟨rfl, rfl, rfl, rfl, rfl, rfl, rfl⟩, ⟨rfl, rfl, rfl, rfl⟩⟩
    | 1, _ => exact ⟨rfl, ⟨rfl, rfl, rfl, rfl, rfl, rfl, rfl⟩, ⟨rfl, rfl, rfl, rfl⟩⟩
  · intro i hi
    match i, hi with
    | 0, _ => exact ⟨rfl, rfl⟩
    | 1, _ => exact ⟨rfl, rfl⟩
    | 2, _ => exact ⟨rfl, rfl⟩
    | 3, _ => exact ⟨rfl, rfl⟩
theorem lj_isMod (N : Nat → Int64) (G : mm_G) (A : Nat → Prop) : mm_isMod (mm_gA G A) (mb_shM N G) := ⟨⟨N, rfl⟩, rfl, rfl, rfl, rfl, rfl, rfl, rfl, rfl, rfl, rfl, rfl⟩
theorem lj_go {i L : Nat} (hi : i ≤ L) (hL : L ≤ 320) (h : ¬ Int32.ofNat L - 5 < nI i) : i + 5 ≤ L := by
  have h1 : (Int32.ofNat L - 5 : Int32) = nI L - nI 5 := rfl
  rw [h1, Int32.lt_iff_toInt_lt, pk_sub_toInt (by omega) (by decide), nI_toInt (by omega)] at h
  omega
