/-! ===== the pure side: what the small functions answer ===== -/
theorem bd_some {α β : Type} (r : α) (s : Sg) (k : α → Sg → Option β) : bd (some (r, s)) k = k r s := rfl
theorem bv_eq {α β : Type} (a : α) (k : α → Option β) : bv a k = k a := rfl
theorem chk_t {β : Type} {c : Prop} {d : Decidable c} (h : c) (o : Option β) : @chk β c d o = o := if_pos h
def gtv (f : Nat → Int32) (n : Nat) (j : Int32) : Int32 := if j < 0 then 0 else if Int32.ofNat n ≤ j then 0 else f j.toNatClampNeg
def setv (σ : Sg) (i : Nat × Nat) (j v : Int32) : Sg := if j < 0 then σ else if Int32.ofNat (alen i) ≤ j then σ else upS σ i j.toNatClampNeg v
theorem inb_of {j : Int32} {n : Nat} (hn : n < 2 ^ 31) (h1 : ¬ j < 0) (h2 : ¬ Int32.ofNat n ≤ j) : inb j n := by
  obtain ⟨k, hk, rfl⟩ := nI_of h1
  exact vp_in_nI (by rcases Nat.lt_or_ge k n with q | q; exact q; exact absurd (nI_le q hk) h2) hn
theorem alen_lt (i : Nat × Nat) : alen i < 2 ^ 31 := by
  have h : ∀ m, (ly_len m).getD 0 < 1000 := by
    intro m
    unfold ly_len
    split <;> decide
  exact Nat.lt_trans (h i.2) (by decide)
theorem e_get (i : Nat × Nat) (j : Int32) (σ : Sg) : f_X6_get i j σ = some (gtv (σ i) (alen i) j, σ) := by
  unfold f_X6_get gtv
  by_cases h1 : j < 0
  · rw [if_pos h1, if_pos h1]
  · rw [if_neg h1, if_neg h1]
    by_cases h2 : Int32.ofNat (alen i) ≤ j
    · rw [if_pos h2, if_pos h2]
    · rw [if_neg h2, if_neg h2, chk_t (inb_of (alen_lt i) h1 h2)]
theorem e_set (i : Nat × Nat) (j v : Int32) (σ : Sg) : f_X6_set i j v σ = some ((), setv σ i j v) := by
  unfold f_X6_set setv
  by_cases h1 : j < 0
  · rw [if_pos h1, if_pos h1]
  · rw [if_neg h1, if_neg h1]
    by_cases h2 : Int32.ofNat (alen i) ≤ j
    · rw [if_pos h2, if_pos h2]
    · rw [if_neg h2, if_neg h2, chk_t (inb_of (alen_lt i) h1 h2)]
      rfl
theorem gtv_nI {f : Nat → Int32} {n k : Nat} (h : k < n) (hn : n < 2 ^ 31) : gtv f n (nI k) = f k := by
  unfold gtv
  rw [if_neg (nI_pos (by omega)), if_neg (show ¬ Int32.ofNat n ≤ nI k from nI_ge h hn), nI_clamp (by omega)]
theorem setv_nI {σ : Sg} {i : Nat × Nat} {k : Nat} {v : Int32} (h : k < alen i) : setv σ i (nI k) v = upS σ i k v := by
  have hn := alen_lt i
  unfold setv
  rw [if_neg (nI_pos (by omega)), if_neg (show ¬ Int32.ofNat (alen i) ≤ nI k from nI_ge h hn), nI_clamp (by omega)]
theorem lgc_lt (x y : Int64) : lg_cmp x y < 0 ↔ x < y := by
  unfold lg_cmp
  by_cases h1 : x > y
  · rw [if_pos h1]; constructor
    · intro h; exact absurd h (by decide)
    · intro h; grind
  · rw [if_neg h1]
    by_cases h2 : x = y
    · rw [if_pos h2]; subst h2; constructor
      · intro h; exact absurd h (by decide)
      · intro h; grind
    · rw [if_neg h2]; constructor
      · intro _; grind
      · intro _; decide
theorem lgc_gt (x y : Int64) : 0 < lg_cmp x y ↔ y < x := by
  unfold lg_cmp
  by_cases h1 : x > y
  · rw [if_pos h1]; constructor
    · intro _; exact h1
    · intro _; decide
  · rw [if_neg h1]
    by_cases h2 : x = y
    · rw [if_pos h2]; subst h2; constructor
      · intro h; exact absurd h (by decide)
      · intro h; grind
    · rw [if_neg h2]; constructor
      · intro h; exact absurd h (by decide)
      · intro h; grind
theorem e_in (a b c : Int64) (σ : Sg) : f_X7_in a b c σ = some (if b ≤ a ∧ a ≤ c then 1 else 0, σ) := by
  unfold f_X7_in
  congr 2
  by_cases h1 : a < b
  · rw [if_pos ((lgc_lt a b).mpr h1), if_neg (by grind)]
  · rw [if_neg (fun h => h1 ((lgc_lt a b).mp h))]
    by_cases h2 : c < a
    · rw [if_pos ((lgc_gt a c).mpr h2), if_neg (by grind)]
    · rw [if_neg (fun h => h2 ((lgc_gt a c).mp h)), if_pos (by grind)]
theorem e_lesser (a b : Int32) (σ : Sg) : f_X7_lesser a b σ = some (if b ≤ a then b else a, σ) := rfl
theorem e_within (a b c : Int32) (σ : Sg) : f_X6_within a b c σ = some (if b ≤ a ∧ a ≤ c then 1 else 0, σ) := by
  unfold f_X6_within
  congr 2
  by_cases h1 : a < b
  · rw [if_pos h1, if_neg (by grind)]
  · rw [if_neg h1]
    by_cases h2 : c < a
    · rw [if_pos h2, if_neg (by grind)]
    · rw [if_neg h2, if_pos (by grind)]

/-! numbers that a list holds -/
abbrev lS : List Int32 := [2, 3, 4, 5, 6]
abbrev lK : List Int32 := [1, 2, 3, 4]
abbrev l3 : List Int32 := [-1, 0, 1]
abbrev l6 : List Int32 := [0, 1, 2, 3, 4, 5]
/-- the next place of a way, as the reference reckons it: storeys, stacks, wind, the awning here, the awning above, kind, place -/
def nx (S K wd aw up kind f : Int32) : Int32 :=
  let st := if kind = 4 then f / 4 + 1 else if kind = 5 ∧ wd = 0 ∧ 2 ≤ f / 4 then f / 4 - 2 else f / 4 - 1
  let sk := if kind = 1 ∨ kind = 5 then (f - f / 4 * 4) + wd else if kind = 2 then (f - f / 4 * 4) + aw else (f - f / 4 * 4)
  if st < 0 ∨ S ≤ st ∨ sk < 0 ∨ K ≤ sk then -1 else if kind = 4 ∧ ¬ up = 0 then -1 else 4 * st + sk
def vpl (S K : Int32) (p : Nat) : Prop := p < 24 ∧ nI (p / 4) < S ∧ nI (p % 4) < K
theorem nx_ok : ∀ S ∈ lS, ∀ K ∈ lK, ∀ wd ∈ l3, ∀ aw ∈ l3, ∀ up ∈ l3, ∀ kind ∈ l6, ∀ p, p < 24 → nx S K wd aw up kind (nI p) = -1 ∨ (nx S K wd aw up kind (nI p) = nI (nx S K wd aw up kind (nI p)).toNatClampNeg ∧ (nx S K wd aw up kind (nI p)).toNatClampNeg < 24 ∧ nI ((nx S K wd aw up kind (nI p)).toNatClampNeg / 4) < S ∧ nI ((nx S K wd aw up kind (nI p)).toNatClampNeg % 4) < K ∧ (if kind = 4 then (nx S K wd aw up kind (nI p)).toNatClampNeg / 4 = p / 4 + 1 else (nx S K wd aw up kind (nI p)).toNatClampNeg / 4 < p / 4)) := by decide +kernel
