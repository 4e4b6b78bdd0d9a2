/-! ===== letters ===== -/
def dg (ℓ : Nat → Int32) (j : Nat) : Int32 := if 48 ≤ ℓ j ∧ ℓ j ≤ 57 then ℓ j - 48 else -1
def sg (ℓ : Nat → Int32) (j : Nat) : Int32 := if ℓ j = 43 then 1 else if ℓ j = 45 then -1 else if ℓ j = 48 then 0 else -2
def hrs (ℓ : Nat → Int32) : Nat → Nat → Nat
  | 0, _ => 0
  | d + 1, q => if 48 ≤ ℓ q ∧ ℓ q ≤ 55 then hrs ℓ d (q + 1) + 1 else 0
def hbt (ℓ : Nat → Int32) : Nat → Nat → Int32 → Int32
  | 0, _, acc => acc
  | d + 1, q, acc => if 48 ≤ ℓ q ∧ ℓ q ≤ 55 then hbt ℓ d (q + 1) (acc ||| ((1 : Int32) <<< (dg ℓ q &&& 31))) else acc
theorem hrs8 (ℓ : Nat → Int32) : ∀ d q, hrs ℓ d q ≤ d := by
  intro d
  induction d with
  | zero => intro q; exact Nat.le_refl _
  | succ d ih => intro q; rw [hrs]; split; exact Nat.succ_le_succ (ih (q + 1)); exact Nat.zero_le _
theorem dg_cs (ℓ : Nat → Int32) (j : Nat) : (¬ 0 ≤ dg ℓ j ∧ dg ℓ j = -1 ∧ ¬ (48 ≤ ℓ j ∧ ℓ j ≤ 57)) ∨ (0 ≤ dg ℓ j ∧ dg ℓ j ∈ l10 ∧ dg ℓ j = ℓ j - 48 ∧ 48 ≤ ℓ j ∧ ℓ j ≤ 57 ∧ ¬ ℓ j = 59) := by
  unfold dg
  by_cases h : 48 ≤ ℓ j ∧ ℓ j ≤ 57
  · rw [if_pos h]
    have h0 : 0 ≤ ℓ j - 48 := by generalize ℓ j = x at h ⊢; grind
    have h9 : ℓ j - 48 ≤ 9 := by generalize ℓ j = x at h ⊢; grind
    exact Or.inr ⟨h0, l10_of h0 h9, rfl, h.1, h.2, by generalize ℓ j = x at h ⊢; grind⟩
  · rw [if_neg h]; exact Or.inl ⟨by decide, rfl, h⟩
theorem dg_hr (ℓ : Nat → Int32) (j : Nat) : (0 ≤ dg ℓ j ∧ dg ℓ j ≤ 7) ↔ (48 ≤ ℓ j ∧ ℓ j ≤ 55) := by
  rcases dg_cs ℓ j with ⟨h1, h2, h3⟩ | ⟨h1, h2, h3, h4, h5, h6⟩
  · constructor
    · intro h; exact absurd h.1 h1
    · intro h; exact absurd ⟨h.1, by generalize ℓ j = x at h ⊢; grind⟩ h3
  · rw [h3]
    generalize ℓ j = x at *
    constructor <;> intro h <;> constructor <;> grind
theorem sg_cs (ℓ : Nat → Int32) (j : Nat) : (sg ℓ j = -2 ∧ ¬ ℓ j = 43 ∧ ¬ ℓ j = 45 ∧ ¬ ℓ j = 48) ∨ (¬ sg ℓ j = -2 ∧ sg ℓ j ∈ l3 ∧ (ℓ j = 43 ∨ ℓ j = 45 ∨ ℓ j = 48) ∧ ¬ ℓ j = 59) := by
  unfold sg
  by_cases h1 : ℓ j = 43
  · rw [if_pos h1]; exact Or.inr ⟨by decide, by decide, Or.inl h1, by rw [h1]; decide⟩
  · rw [if_neg h1]
    by_cases h2 : ℓ j = 45
    · rw [if_pos h2]; exact Or.inr ⟨by decide, by decide, Or.inr (Or.inl h2), by rw [h2]; decide⟩
    · rw [if_neg h2]
      by_cases h3 : ℓ j = 48
      · rw [if_pos h3]; exact Or.inr ⟨by decide, by decide, Or.inr (Or.inr h3), by rw [h3]; decide⟩
      · rw [if_neg h3]; exact Or.inl ⟨rfl, h1, h2, h3⟩
/-! how a statement is read: whether it is as it must be, and where it ends or its fault is -/
abbrev KP := Nat → Bool × Nat
def pD (ℓ : Nat → Int32) (k : KP) : KP := fun q => if 0 ≤ dg ℓ q then k (q + 1) else (false, q)
def pO (ℓ : Nat → Int32) (k : KP) : KP := fun q => if 0 ≤ dg ℓ q then k (q + 1) else k q
def pS (ℓ : Nat → Int32) (k : KP) : KP := fun q => if sg ℓ q = -2 then (false, q) else k (q + 1)
def pC (ℓ : Nat → Int32) (c : Int32) (k : KP) : KP := fun q => if ℓ q = c then k (q + 1) else (false, q)
def pH (ℓ : Nat → Int32) (k : KP) : KP := fun q => k (q + hrs ℓ 8 q)
def pE : KP := fun q => (true, q)
def PE (ℓ : Nat → Int32) (a : Nat) : Bool × Nat :=
  if ℓ a = 97 then pD ℓ (pD ℓ (pS ℓ (pC ℓ 59 pE))) (a + 1)
  else if ℓ a = 98 then pS ℓ (pC ℓ 59 pE) (a + 1)
  else if ℓ a = 102 then pD ℓ (pD ℓ (pC ℓ 59 pE)) (a + 1)
  else if ℓ a = 104 then pD ℓ (pO ℓ (pC ℓ 44 (pD ℓ (pD ℓ (pD ℓ (pC ℓ 59 pE)))))) (a + 1)
  else if ℓ a = 115 then pD ℓ (pD ℓ (pD ℓ (pC ℓ 59 pE))) (a + 1)
  else if ℓ a = 119 then pD ℓ (pD ℓ (pD ℓ (pH ℓ (pC ℓ 59 pE)))) (a + 1)
  else (false, a)
/-! the class reads -/
def LC (σ : Sg) (ℓ : Nat → Int32) (n : Nat) : Prop := σ (0, 4) 1 = nI n ∧ n ≤ 96 ∧ (∀ j, j < n → σ (0, 5) j = ℓ j) ∧ (∀ j, n ≤ j → ℓ j = -1)
theorem c_letter {σ : Sg} {ℓ : Nat → Int32} {n : Nat} (H : LC σ ℓ n) {j : Nat} (hj : j < 2 ^ 20) : f_X4_letter (nI j) σ = some (ℓ j, σ) := by
  obtain ⟨h1, h2, h3, h4⟩ := H
  unfold f_X4_letter
  rw [if_neg (nI_pos (by omega)), h1]
  by_cases c : j < n
  · rw [if_neg (nI_ge c (by omega)), e_get_nI (n := 96) _ rfl (by omega), bd_some, h3 j c]
  · rw [if_pos (nI_le (by omega) (by omega)), h4 j (by omega)]
theorem c_digit {σ : Sg} {ℓ : Nat → Int32} {n : Nat} (H : LC σ ℓ n) {j : Nat} (hj : j < 2 ^ 20) : f_X4_digit (nI j) σ = some (dg ℓ j, σ) := by
  unfold f_X4_digit dg
  rw [c_letter H hj, bd_some, e_within, bd_some, if01]
theorem c_sign {σ : Sg} {ℓ : Nat → Int32} {n : Nat} (H : LC σ ℓ n) {j : Nat} (hj : j < 2 ^ 20) : f_X4_sign (nI j) σ = some (sg ℓ j, σ) := by
  unfold f_X4_sign sg
  rw [c_letter H hj, bd_some]
  by_cases h1 : ℓ j = 43
  · rw [if_pos h1, if_pos h1]
  · rw [if_neg h1, if_neg h1]
    by_cases h2 : ℓ j = 45
    · rw [if_pos h2, if_pos h2]
    · rw [if_neg h2, if_neg h2]
      by_cases h3 : ℓ j = 48
      · rw [if_pos h3, if_pos h3]
      · rw [if_neg h3, if_neg h3]
theorem qF_if {α : Type} (x : Int32) (p q : α) : (if qF x = 0 then p else q) = if 0 ≤ x ∧ x ≤ 7 then q else p := by
  unfold qF
  exact if01 p q
theorem c_hoursFrom {σ : Sg} {ℓ : Nat → Int32} {n : Nat} (H : LC σ ℓ n) {q : Nat} (hq : q < 2 ^ 19) : f_X4_hoursFrom (nI q) σ = some (nI (hrs ℓ 8 q), σ) := by
  have key : ∀ d i m, i + d = 8 → d < m → f_X4_hoursFrom_2 m (nI q) (nI i) σ = some (nI (i + hrs ℓ d (q + i)), σ) := by
    intro d
    induction d with
    | zero =>
      intro i m hi hm
      obtain ⟨m, rfl⟩ : ∃ k, m = k + 1 := ⟨m - 1, by omega⟩
      have : i = 8 := by omega
      subst this
      rw [f_X4_hoursFrom_2, if_pos (by decide)]; rfl
    | succ d ih =>
      intro i m hi hm
      obtain ⟨m, rfl⟩ : ∃ k, m = k + 1 := ⟨m - 1, by omega⟩
      have nxt := ih (i + 1) m (by omega) (by omega)
      rw [f_X4_hoursFrom_2, if_neg (show ¬ (8 : Int32) ≤ nI i from nI_ge (show i < 8 by omega) (by decide)), nI_add, c_digit H (by omega), bd_some, c_hour, bd_some, qF_if, hrs, nI_1]
      by_cases c : 48 ≤ ℓ (q + i) ∧ ℓ (q + i) ≤ 55
      · rw [if_pos ((dg_hr ℓ _).mpr c), if_pos c, nxt, show i + 1 + hrs ℓ d (q + (i + 1)) = i + (hrs ℓ d (q + i + 1) + 1) by rw [show q + (i + 1) = q + i + 1 by omega]; omega]
      · rw [if_neg (fun h => c ((dg_hr ℓ _).mp h)), if_neg c]; rfl
  have := key 8 0 fuel rfl (by decide)
  rw [Nat.add_zero, Nat.zero_add] at this
  exact this
theorem c_hourBits {σ : Sg} {ℓ : Nat → Int32} {n : Nat} (H : LC σ ℓ n) {q : Nat} (hq : q < 2 ^ 19) : f_X4_hourBits (nI q) σ = some (hbt ℓ 8 q 0, σ) := by
  have key : ∀ d i m acc, i + d = 8 → d < m → f_X4_hourBits_11 m (nI q) acc (nI (i + hrs ℓ d (q + i))) (nI i) σ = some (hbt ℓ d (q + i) acc, σ) := by
    intro d
    induction d with
    | zero =>
      intro i m acc hi hm
      obtain ⟨m, rfl⟩ : ∃ k, m = k + 1 := ⟨m - 1, by omega⟩
      rw [f_X4_hourBits_11, hrs, if_pos (nI_le (by omega) (by omega))]; rfl
    | succ d ih =>
      intro i m acc hi hm
      obtain ⟨m, rfl⟩ : ∃ k, m = k + 1 := ⟨m - 1, by omega⟩
      have h8 := hrs8 ℓ d (q + i + 1)
      rw [f_X4_hourBits_11, hrs, hbt]
      by_cases c : 48 ≤ ℓ (q + i) ∧ ℓ (q + i) ≤ 55
      · have nxt := ih (i + 1) m (acc ||| ((1 : Int32) <<< (dg ℓ (q + i) &&& 31))) (by omega) (by omega)
        rw [show q + (i + 1) = q + i + 1 by omega, show i + 1 + hrs ℓ d (q + i + 1) = i + (hrs ℓ d (q + i + 1) + 1) by omega] at nxt
        rw [if_pos c, if_pos c, if_neg (nI_ge (by omega) (by omega)), nI_add, c_digit H (by omega), bd_some, bv_eq, nI_1]
        exact nxt
      · rw [if_neg c, if_neg c, if_pos (nI_le (by omega) (by omega))]
  unfold f_X4_hourBits
  rw [c_hoursFrom H hq, bd_some]
  have := key 8 0 fuel 0 rfl (by decide)
  rw [Nat.add_zero, Nat.zero_add] at this
  exact this
/-- the answer for a statement's end -/
def oE (r : Bool × Nat) : Int32 := if r.1 then nI r.2 else -1 - nI r.2
theorem se_step {σ : Sg} {i c q m len : Nat} {ch : Int32} (hi : i < 7) (hlen : strLen.getD i 0 = len) (hc : c < len) (hl : len < 100) (hch : (strByt.getD i []).getD c 0 = ch) : f_X4_statementEnd_27 (m + 1) (5, i) (nI q) (nI c) σ = bd (f_X4_lengthOf ch (nI q) σ) (fun x t => if 0 ≤ x then f_X4_statementEnd_27 m (5, i) (nI q + x) (nI (c + 1)) t else some (-1 - nI q, t)) := by
  have hs : isStr (5, i) := ⟨rfl, hi⟩
  have hb : inb (nI c) (strLen.getD ((5, i) : Nat × Nat).2 0) := by
    show inb (nI c) (strLen.getD i 0)
    rw [hlen]
    exact vp_in_nI hc (by omega)
  have hle : ¬ nI (strLen.getD ((5, i) : Nat × Nat).2 0) ≤ nI c := by
    show ¬ nI (strLen.getD i 0) ≤ nI c
    rw [hlen]
    exact nI_ge hc (by omega)
  have hcc : (strByt.getD ((5, i) : Nat × Nat).2 []).getD (nI c).toNatClampNeg 0 = ch := by
    rw [nI_clamp (by omega)]; exact hch
  rw [f_X4_statementEnd_27, chk_t hs, f_J0_length_8abf5, bd_some, if_neg hle, chk_t hs, f_J0_charAt_5068e, chk_t hb, bd_some, hcc]
  simp only [bv_eq, nI_1]
theorem se_end {σ : Sg} {i q m len : Nat} (hi : i < 7) (hlen : strLen.getD i 0 = len) (h0 : ¬ len = 0) (hl : len < 100) : f_X4_statementEnd_27 (m + 1) (5, i) (nI q) (nI len) σ = some (nI q, σ) := by
  have hs : isStr (5, i) := ⟨rfl, hi⟩
  have hle : nI (strLen.getD ((5, i) : Nat × Nat).2 0) ≤ nI len := by
    show nI (strLen.getD i 0) ≤ nI len
    rw [hlen]
    exact nI_le (Nat.le_refl _) (by omega)
  have h00 : ¬ strLen.getD ((5, i) : Nat × Nat).2 0 = 0 := by show ¬ strLen.getD i 0 = 0; rw [hlen]; exact h0
  rw [f_X4_statementEnd_27, chk_t hs, f_J0_length_8abf5, bd_some, if_pos hle, chk_t hs, f_J0_isEmpty_aae02, bd_some, if_neg h00, if_pos rfl]
/-- a rest of a form is read as the parser reads it -/
def SE (σ : Sg) (i c : Nat) (k : KP) (B : Nat) : Prop := ∀ q m, q < B → 20 ≤ m + c → f_X4_statementEnd_27 m (5, i) (nI q) (nI c) σ = some (oE (k q), σ)
theorem SE_E {σ : Sg} {i len : Nat} (hi : i < 7) (hlen : strLen.getD i 0 = len) (h0 : ¬ len = 0) (hl : len < 10) (B : Nat) : SE σ i len pE B := fun q m _ hm => by
  obtain ⟨m, rfl⟩ : ∃ k, m = k + 1 := ⟨m - 1, by omega⟩
  rw [se_end hi hlen h0 (by omega)]; rfl
theorem oE_bad (q : Nat) : oE (false, q) = -1 - nI q := rfl
theorem SE_D {σ : Sg} {ℓ : Nat → Int32} {n i c len B : Nat} {k : KP} (H : LC σ ℓ n) (hi : i < 7) (hlen : strLen.getD i 0 = len) (hc : c < len) (hl : len < 10) (hch : (strByt.getD i []).getD c 0 = 100) (hB : B < 2 ^ 18) (h : SE σ i (c + 1) k (B + 1)) : SE σ i c (pD ℓ k) B := fun q m hq hm => by
  obtain ⟨m, rfl⟩ : ∃ k, m = k + 1 := ⟨m - 1, by omega⟩
  rw [se_step hi hlen hc (by omega) hch, f_X4_lengthOf, if_pos rfl, c_digit H (by omega), bd_some, bd_some, pD]
  rcases dg_cs ℓ q with ⟨h1, h2, _⟩ | ⟨h1, _⟩
  · rw [if_neg h1, h2, if_pos m1lt, if_neg hn1, oE_bad]
  · rw [if_pos h1, if_neg (show ¬ dg ℓ q < 0 by generalize dg ℓ q = x at h1 ⊢; grind), if_pos (by decide), nI_1]
    exact h (q + 1) m (by omega) (by omega)
theorem SE_O {σ : Sg} {ℓ : Nat → Int32} {n i c len B : Nat} {k : KP} (H : LC σ ℓ n) (hi : i < 7) (hlen : strLen.getD i 0 = len) (hc : c < len) (hl : len < 10) (hch : (strByt.getD i []).getD c 0 = 111) (hB : B < 2 ^ 18) (h : SE σ i (c + 1) k (B + 1)) : SE σ i c (pO ℓ k) B := fun q m hq hm => by
  obtain ⟨m, rfl⟩ : ∃ k, m = k + 1 := ⟨m - 1, by omega⟩
  rw [se_step hi hlen hc (by omega) hch, f_X4_lengthOf, if_neg (by decide), if_neg (by decide), if_pos rfl, c_digit H (by omega), bd_some, bd_some, pO]
  rcases dg_cs ℓ q with ⟨h1, h2, _⟩ | ⟨h1, _⟩
  · rw [if_neg h1, h2, if_pos m1lt, if_pos (by decide), show nI q + 0 = nI q from nI_add q 0]
    exact h q m (by omega) (by omega)
  · rw [if_pos h1, if_neg (show ¬ dg ℓ q < 0 by generalize dg ℓ q = x at h1 ⊢; grind), if_pos (by decide), nI_1]
    exact h (q + 1) m (by omega) (by omega)
theorem SE_S {σ : Sg} {ℓ : Nat → Int32} {n i c len B : Nat} {k : KP} (H : LC σ ℓ n) (hi : i < 7) (hlen : strLen.getD i 0 = len) (hc : c < len) (hl : len < 10) (hch : (strByt.getD i []).getD c 0 = 115) (hB : B < 2 ^ 18) (h : SE σ i (c + 1) k (B + 1)) : SE σ i c (pS ℓ k) B := fun q m hq hm => by
  obtain ⟨m, rfl⟩ : ∃ k, m = k + 1 := ⟨m - 1, by omega⟩
  rw [se_step hi hlen hc (by omega) hch, f_X4_lengthOf, if_neg (by decide), if_neg (by decide), if_neg (by decide), if_pos rfl, c_sign H (by omega), bd_some, bd_some, pS]
  by_cases h1 : sg ℓ q = -2
  · rw [if_pos h1, if_pos h1, if_neg hn1, oE_bad]
  · rw [if_neg h1, if_neg h1, if_pos (by decide), nI_1]
    exact h (q + 1) m (by omega) (by omega)
theorem SE_C {σ : Sg} {ℓ : Nat → Int32} {n i c len B : Nat} {k : KP} {ch : Int32} (H : LC σ ℓ n) (hi : i < 7) (hlen : strLen.getD i 0 = len) (hc : c < len) (hl : len < 10) (hch : (strByt.getD i []).getD c 0 = ch) (h4 : ch ≠ 100 ∧ ch ≠ 104 ∧ ch ≠ 111 ∧ ch ≠ 115) (hB : B < 2 ^ 18) (h : SE σ i (c + 1) k (B + 1)) : SE σ i c (pC ℓ ch k) B := fun q m hq hm => by
  obtain ⟨m, rfl⟩ : ∃ k, m = k + 1 := ⟨m - 1, by omega⟩
  rw [se_step hi hlen hc (by omega) hch, f_X4_lengthOf, if_neg h4.1, if_neg h4.2.1, if_neg h4.2.2.1, if_neg h4.2.2.2, c_letter H (by omega), bd_some, bd_some, pC]
  by_cases h1 : ℓ q = ch
  · rw [if_pos h1, if_pos h1, if_pos (by decide), nI_1]
    exact h (q + 1) m (by omega) (by omega)
  · rw [if_neg h1, if_neg h1, if_neg hn1, oE_bad]
theorem SE_H {σ : Sg} {ℓ : Nat → Int32} {n i c len B : Nat} {k : KP} (H : LC σ ℓ n) (hi : i < 7) (hlen : strLen.getD i 0 = len) (hc : c < len) (hl : len < 10) (hch : (strByt.getD i []).getD c 0 = 104) (hB : B < 2 ^ 18) (h : SE σ i (c + 1) k (B + 8)) : SE σ i c (pH ℓ k) B := fun q m hq hm => by
  obtain ⟨m, rfl⟩ : ∃ k, m = k + 1 := ⟨m - 1, by omega⟩
  have h8 := hrs8 ℓ 8 q
  rw [se_step hi hlen hc (by omega) hch, f_X4_lengthOf, if_neg (by decide), if_pos rfl, c_hoursFrom H (by omega), bd_some, bd_some, pH, if_pos (nI_pos' (by omega)), nI_add]
  exact h (q + hrs ℓ 8 q) m (by omega) (by omega)
theorem c_stEnd {σ : Sg} {ℓ : Nat → Int32} {n : Nat} (H : LC σ ℓ n) {a : Nat} (ha : a < 1000) : f_X4_statementEnd (nI a) σ = some (oE (PE ℓ a), σ) := by
  unfold f_X4_statementEnd
  rw [c_letter H (by omega), bd_some]
  unfold f_X4_formOf PE
  have go : ∀ (i len : Nat) (k : KP), i < 7 → strLen.getD i 0 = len → ¬ len = 0 → SE σ i 0 k 2000 → (chk (isStr (5, i)) ((bd (f_J0_isEmpty_aae02 (5, i) σ) (fun x8 t9 => (bv ((if x8 = 0 then (nI a + (1 : Int32)) else nI a)) (fun x13 => (f_X4_statementEnd_27 fuel (5, i) x13 (0 : Int32) t9))))))) = some (oE (k (a + 1)), σ) := fun i len k hi hlen h0 h => by
    have hs : isStr (5, i) := ⟨rfl, hi⟩
    have h00 : ¬ strLen.getD ((5, i) : Nat × Nat).2 0 = 0 := by show ¬ strLen.getD i 0 = 0; rw [hlen]; exact h0
    rw [chk_t hs, f_J0_isEmpty_aae02, bd_some, if_neg h00, if_pos rfl, bv_eq, nI_1]
    exact h (a + 1) fuel (by omega) (by decide)
  by_cases h1 : ℓ a = 97
  · rw [if_pos h1, if_pos h1, bd_some]
    exact go 2 4 _ (by decide) rfl (by decide) (SE_D H (by decide) rfl (by decide) (by decide) rfl (by decide) (SE_D H (by decide) rfl (by decide) (by decide) rfl (by decide) (SE_S H (by decide) rfl (by decide) (by decide) rfl (by decide) (SE_C H (by decide) rfl (by decide) (by decide) rfl (by decide) (by decide) (SE_E (by decide) rfl (by decide) (by decide) _)))))
  · rw [if_neg h1, if_neg h1]
    by_cases h2 : ℓ a = 98
    · rw [if_pos h2, if_pos h2, bd_some]
      exact go 4 2 _ (by decide) rfl (by decide) (SE_S H (by decide) rfl (by decide) (by decide) rfl (by decide) (SE_C H (by decide) rfl (by decide) (by decide) rfl (by decide) (by decide) (SE_E (by decide) rfl (by decide) (by decide) _)))
    · rw [if_neg h2, if_neg h2]
      by_cases h3 : ℓ a = 102
      · rw [if_pos h3, if_pos h3, bd_some]
        exact go 0 3 _ (by decide) rfl (by decide) (SE_D H (by decide) rfl (by decide) (by decide) rfl (by decide) (SE_D H (by decide) rfl (by decide) (by decide) rfl (by decide) (SE_C H (by decide) rfl (by decide) (by decide) rfl (by decide) (by decide) (SE_E (by decide) rfl (by decide) (by decide) _))))
      · rw [if_neg h3, if_neg h3]
        by_cases h4 : ℓ a = 104
        · rw [if_pos h4, if_pos h4, bd_some]
          exact go 5 7 _ (by decide) rfl (by decide) (SE_D H (by decide) rfl (by decide) (by decide) rfl (by decide) (SE_O H (by decide) rfl (by decide) (by decide) rfl (by decide) (SE_C H (by decide) rfl (by decide) (by decide) rfl (by decide) (by decide) (SE_D H (by decide) rfl (by decide) (by decide) rfl (by decide) (SE_D H (by decide) rfl (by decide) (by decide) rfl (by decide) (SE_D H (by decide) rfl (by decide) (by decide) rfl (by decide) (SE_C H (by decide) rfl (by decide) (by decide) rfl (by decide) (by decide) (SE_E (by decide) rfl (by decide) (by decide) _))))))))
        · rw [if_neg h4, if_neg h4]
          by_cases h5 : ℓ a = 115
          · rw [if_pos h5, if_pos h5, bd_some]
            exact go 1 4 _ (by decide) rfl (by decide) (SE_D H (by decide) rfl (by decide) (by decide) rfl (by decide) (SE_D H (by decide) rfl (by decide) (by decide) rfl (by decide) (SE_D H (by decide) rfl (by decide) (by decide) rfl (by decide) (SE_C H (by decide) rfl (by decide) (by decide) rfl (by decide) (by decide) (SE_E (by decide) rfl (by decide) (by decide) _)))))
          · rw [if_neg h5, if_neg h5]
            by_cases h6 : ℓ a = 119
            · rw [if_pos h6, if_pos h6, bd_some]
              exact go 3 5 _ (by decide) rfl (by decide) (SE_D H (by decide) rfl (by decide) (by decide) rfl (by decide) (SE_D H (by decide) rfl (by decide) (by decide) rfl (by decide) (SE_D H (by decide) rfl (by decide) (by decide) rfl (by decide) (SE_H H (by decide) rfl (by decide) (by decide) rfl (by decide) (SE_C H (by decide) rfl (by decide) (by decide) rfl (by decide) (by decide) (SE_E (by decide) rfl (by decide) (by decide) _))))))
            · have hs : isStr (5, 6) := ⟨rfl, by decide⟩
              rw [if_neg h6, if_neg h6, bd_some, chk_t hs, f_J0_isEmpty_aae02, bd_some, if_pos (show strLen.getD ((5, 6) : Nat × Nat).2 0 = 0 from rfl), if_neg h10, bv_eq, show fuel = 1999 + 1 from rfl, f_X4_statementEnd_27, chk_t hs, f_J0_length_8abf5, bd_some, if_pos (by decide), chk_t hs, f_J0_isEmpty_aae02, bd_some, if_pos (show strLen.getD ((5, 6) : Nat × Nat).2 0 = 0 from rfl), if_neg h10, oE_bad]
