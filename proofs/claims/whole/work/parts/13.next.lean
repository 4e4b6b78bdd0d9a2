theorem fa_wide_le (a b : Int32) : a.toInt64 ≤ b.toInt64 ↔ a ≤ b := by rw [Int64.le_iff_toInt_le, Int32.le_iff_toInt_le, Int32.toInt_toInt64, Int32.toInt_toInt64]
theorem e_in32 (a b c : Int32) (σ : Sg) : f_X7_in a.toInt64 b.toInt64 c.toInt64 σ = some (if b ≤ a ∧ a ≤ c then 1 else 0, σ) := by
  rw [e_in]; simp only [fa_wide_le]
theorem e_in0 (a c : Int32) (σ : Sg) : f_X7_in a.toInt64 (0 : Int64) c.toInt64 σ = some (if 0 ≤ a ∧ a ≤ c then 1 else 0, σ) := e_in32 a 0 c σ
theorem inS {x : Int32} (h : x ∈ lS) : 2 ≤ x ∧ x ≤ 6 := by
  simp only [lS, List.mem_cons, List.not_mem_nil, or_false] at h
  rcases h with rfl | rfl | rfl | rfl | rfl <;> decide
theorem inK {x : Int32} (h : x ∈ lK) : 1 ≤ x ∧ x ≤ 4 := by
  simp only [lK, List.mem_cons, List.not_mem_nil, or_false] at h
  rcases h with rfl | rfl | rfl | rfl <;> decide
theorem in3 {x : Int32} (h : x ∈ l3) : -1 ≤ x ∧ x ≤ 1 := by
  simp only [l3, List.mem_cons, List.not_mem_nil, or_false] at h
  rcases h with rfl | rfl | rfl <;> decide
theorem pq : ∀ p, p < 24 → 0 ≤ nI p / 4 ∧ nI p / 4 ≤ 5 ∧ 0 ≤ nI p - nI p / 4 * 4 ∧ nI p - nI p / 4 * 4 ≤ 3 := by decide +kernel
theorem if01 {c : Prop} [Decidable c] {α : Type} (x y : α) : (if (if c then (1 : Int32) else 0) = 0 then x else y) = if c then y else x := by
  by_cases h : c
  · rw [if_pos h, if_pos h, if_neg (by decide)]
  · rw [if_neg h, if_neg h, if_pos rfl]
theorem e_nextOf68 (kind v2 st sk4 : Int32) (σ : Sg) (hS : σ (0, 29) 0 ∈ lS) (hK : σ (0, 29) 1 ∈ lK) (hst : -2 ≤ st ∧ st ≤ 6) (hsk : -1 ≤ v2 - v2 / 4 * 4 + sk4 ∧ v2 - v2 / 4 * 4 + sk4 ≤ 4) : f_X7_nextOf_68 kind v2 st sk4 σ = some (if st < 0 ∨ σ (0, 29) 0 ≤ st ∨ v2 - v2 / 4 * 4 + sk4 < 0 ∨ σ (0, 29) 1 ≤ v2 - v2 / 4 * 4 + sk4 then -1 else if kind = 4 ∧ ¬ σ (0, 32) (4 * st + (v2 - v2 / 4 * 4 + sk4)).toNatClampNeg = 0 then -1 else 4 * st + (v2 - v2 / 4 * 4 + sk4), σ) := by
  have s1 := inS hS
  have s2 := inK hK
  clear hS hK
  unfold f_X7_nextOf_68
  generalize v2 - v2 / 4 * 4 + sk4 = x at hsk ⊢
  rw [bv_eq, e_in0, bd_some, if01]
  by_cases c1 : 0 ≤ st ∧ st ≤ σ (0, 29) 0 - 1
  · rw [if_pos c1, e_in0, bd_some, if01]
    by_cases c2 : 0 ≤ x ∧ x ≤ σ (0, 29) 1 - 1
    · rw [if_pos c2, bv_eq]
      have h24 : 0 ≤ 4 * st + x ∧ 4 * st + x < 24 := by grind
      have hn : ¬ (st < 0 ∨ σ (0, 29) 0 ≤ st ∨ x < 0 ∨ σ (0, 29) 1 ≤ x) := by grind
      rw [if_neg hn]
      by_cases c3 : kind = 4
      · rw [if_pos c3, chk_t (inb_of (by decide) (by grind) (by show ¬ (24 : Int32) ≤ _; grind))]
        by_cases c4 : σ (0, 32) (4 * st + x).toNatClampNeg = 0
        · simp only [c3, c4, not_true, and_false, if_false, if_true]
        · simp only [c3, c4, not_false_eq_true, and_self, if_true, if_false]
      · simp only [c3, false_and, if_false]
    · rw [if_neg c2, if_pos (by grind)]
  · rw [if_neg c1, if_pos (by grind)]
theorem pup : ∀ p, p < 24 → (4 * (nI p / 4 + 1) + (nI p - nI p / 4 * 4 + 0)).toNatClampNeg = p + 4 := by decide +kernel
theorem inb24 {p : Nat} (h : p < 24) : inb (nI p) 24 := vp_in_nI h (by decide)
theorem am1 (a : Int32) : a + -1 = a - 1 := by grind
theorem am2 (a : Int32) : a + -1 + -1 = a - 2 := by grind
theorem a5a {a : Int32} (h : 0 ≤ a) (h2 : a ≤ 5) (h3 : a + -1 ≤ 0) : ¬ 2 ≤ a := by grind
theorem a5b {a : Int32} (h : 0 ≤ a) (h2 : a ≤ 5) (h3 : ¬ a + -1 ≤ 0) : 2 ≤ a := by grind
theorem a5c {a : Int32} (h : 0 ≤ a) (h2 : a ≤ 5) (h3 : ¬ a + -1 ≤ 0) : -2 ≤ a + -1 + -1 ∧ a + -1 + -1 ≤ 6 := by
  have h4 := a5b h h2 h3
  rw [am2]
  clear h3
  constructor <;> grind
theorem ap0 (a : Int32) : a + 0 = a := by grind
theorem e_nextOf (kind : Int32) (p : Nat) (σ : Sg) (hp : p < 24) (hS : σ (0, 29) 0 ∈ lS) (hK : σ (0, 29) 1 ∈ lK) (hw : σ (0, 29) 2 ∈ l3) (ha : σ (0, 32) p ∈ l3) (hk : kind ∈ l6) : f_X7_nextOf kind (nI p) σ = some (nx (σ (0, 29) 0) (σ (0, 29) 1) (σ (0, 29) 2) (σ (0, 32) p) (σ (0, 32) (p + 4)) kind (nI p), σ) := by
  have h1 := pq p hp
  have h2 := in3 hw
  have h3 := in3 ha
  have hup := pup p hp
  have hcl : (nI p).toNatClampNeg = p := nI_clamp (by omega)
  simp only [l6, List.mem_cons, List.not_mem_nil, or_false] at hk
  unfold f_X7_nextOf f_X7_nextOf_25 f_X7_nextOf_47 nx
  rw [bv_eq]
  have E68 := fun kind st sk => e_nextOf68 kind (nI p) st sk σ hS hK
  rw [ap0] at hup
  generalize nI p - nI p / 4 * 4 = b at h1 hup E68 ⊢
  generalize nI p / 4 = a at h1 hup E68 ⊢
  have q1 : -2 ≤ a + -1 ∧ a + -1 ≤ 6 := by grind
  have q2 : -2 ≤ a + 1 ∧ a + 1 ≤ 6 := by grind
  have q3 : -1 ≤ b + 0 ∧ b + 0 ≤ 4 := by grind
  have q4 : -1 ≤ b + σ (0, 29) 2 ∧ b + σ (0, 29) 2 ≤ 4 := by grind
  have q5 : -1 ≤ b + σ (0, 32) p ∧ b + σ (0, 32) p ≤ 4 := by grind
  rcases hk with rfl | rfl | rfl | rfl | rfl | rfl
  · simp only [reduceIte, show ¬ (0 : Int32) = 1 by decide, show ¬ (0 : Int32) = 5 by decide, show ¬ (0 : Int32) = 2 by decide, show ¬ (0 : Int32) = 4 by decide, false_and, or_self]
    rw [E68 _ _ _ q1 q3, am1, ap0]
    simp only [reduceIte, show ¬ (0 : Int32) = 4 by decide, false_and]
  · simp only [reduceIte, show ¬ (1 : Int32) = 4 by decide, show ¬ (1 : Int32) = 5 by decide, false_and, true_or]
    rw [E68 _ _ _ q1 q4, am1]
    simp only [reduceIte, show ¬ (1 : Int32) = 4 by decide, false_and]
  · simp only [reduceIte, show ¬ (2 : Int32) = 1 by decide, show ¬ (2 : Int32) = 5 by decide, show ¬ (2 : Int32) = 4 by decide, false_and, or_self]
    rw [chk_t (inb24 hp), hcl, E68 _ _ _ q1 q5, am1]
    simp only [reduceIte, show ¬ (2 : Int32) = 4 by decide, false_and]
  · simp only [reduceIte, show ¬ (3 : Int32) = 1 by decide, show ¬ (3 : Int32) = 5 by decide, show ¬ (3 : Int32) = 4 by decide, show ¬ (3 : Int32) = 2 by decide, false_and, or_self]
    rw [E68 _ _ _ q1 q3, am1, ap0]
    simp only [reduceIte, show ¬ (3 : Int32) = 4 by decide, false_and]
  · simp only [reduceIte, show ¬ (4 : Int32) = 1 by decide, show ¬ (4 : Int32) = 5 by decide, show ¬ (4 : Int32) = 2 by decide, or_self]
    rw [E68 _ _ _ q2 q3, ap0, hup]
    simp only [true_and]
  · simp only [reduceIte, show ¬ (5 : Int32) = 1 by decide, show ¬ (5 : Int32) = 4 by decide, true_and, false_and, or_true]
    by_cases c1 : σ (0, 29) 2 = 0
    · by_cases c2 : a + -1 ≤ 0
      · have hst : (if σ (0, 29) 2 = 0 ∧ 2 ≤ a then a - 2 else a - 1) = a - 1 := if_neg (fun h => a5a h1.1 h1.2.1 c2 h.2)
        rw [hst, if_pos c1, if_pos c2, E68 _ _ _ q1 q4, am1]
        simp only [reduceIte, show ¬ (5 : Int32) = 4 by decide, false_and]
      · have hst : (if σ (0, 29) 2 = 0 ∧ 2 ≤ a then a - 2 else a - 1) = a - 2 := if_pos ⟨c1, a5b h1.1 h1.2.1 c2⟩
        rw [hst, if_pos c1, if_neg c2, E68 _ _ _ (a5c h1.1 h1.2.1 c2) q4, am2]
        simp only [reduceIte, show ¬ (5 : Int32) = 4 by decide, false_and]
    · have hst : (if σ (0, 29) 2 = 0 ∧ 2 ≤ a then a - 2 else a - 1) = a - 1 := if_neg (fun h => c1 h.1)
      rw [hst, if_neg c1, E68 _ _ _ q1 q4, am1]
      simp only [reduceIte, show ¬ (5 : Int32) = 4 by decide, false_and]
