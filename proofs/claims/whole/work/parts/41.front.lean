/-! ===== a front told in letters ===== -/
def NS (ℓ : Nat → Int32) (p : KP) (B : Nat) : Prop := ∀ q, (p q).1 = true → ∃ e, (p q).2 = e + 1 ∧ q + B ≤ e ∧ ℓ e = 59 ∧ ∀ i, q ≤ i → i < e → ¬ ℓ i = 59
theorem NS_E (ℓ : Nat → Int32) : NS ℓ (pC ℓ 59 pE) 0 := fun q h => by
  obtain ⟨h1, h2⟩ := pC_t h
  refine ⟨q, ?_, Nat.le_refl _, h1, fun i h3 h4 => by omega⟩
  unfold pC
  rw [if_pos h1]; rfl
theorem NS_st {ℓ : Nat → Int32} {p p' : KP} {B q d : Nat} (H : NS ℓ p B) (e : p' q = p (q + d)) (hn : ∀ i, q ≤ i → i < q + d → ¬ ℓ i = 59) (h : (p' q).1 = true) : ∃ e, (p' q).2 = e + 1 ∧ q + (B + d) ≤ e ∧ ℓ e = 59 ∧ ∀ i, q ≤ i → i < e → ¬ ℓ i = 59 := by
  rw [e] at h ⊢
  obtain ⟨x, h1, h2, h3, h4⟩ := H _ h
  refine ⟨x, h1, by omega, h3, fun i h5 h6 => ?_⟩
  by_cases c : i < q + d
  · exact hn i h5 c
  · exact h4 i (by omega) h6
theorem dg_59 {ℓ : Nat → Int32} {j : Nat} (h : 0 ≤ dg ℓ j) : ¬ ℓ j = 59 := by
  rcases dg_cs ℓ j with ⟨h1, _⟩ | ⟨_, _, _, _, _, h2⟩
  · exact absurd h h1
  · exact h2
theorem NS_D {ℓ : Nat → Int32} {p : KP} {B : Nat} (H : NS ℓ p B) : NS ℓ (pD ℓ p) (B + 1) := fun q h => by
  have h1 := (pD_t h).1
  exact NS_st H (if_pos h1) (fun i h2 h3 => by rw [show i = q by omega]; exact dg_59 h1) h
theorem NS_S {ℓ : Nat → Int32} {p : KP} {B : Nat} (H : NS ℓ p B) : NS ℓ (pS ℓ p) (B + 1) := fun q h => by
  have h1 := (pS_t h).1
  refine NS_st H (if_neg h1) (fun i h2 h3 => ?_) h
  rw [show i = q by omega]
  rcases sg_cs ℓ q with ⟨c, _⟩ | ⟨_, _, _, c⟩
  · exact absurd c h1
  · exact c
theorem NS_C {ℓ : Nat → Int32} {p : KP} {B : Nat} {c : Int32} (hc : ¬ c = 59) (H : NS ℓ p B) : NS ℓ (pC ℓ c p) (B + 1) := fun q h => by
  have h1 := (pC_t h).1
  exact NS_st H (if_pos h1) (fun i h2 h3 => by rw [show i = q by omega, h1]; exact hc) h
theorem NS_O {ℓ : Nat → Int32} {p : KP} {B : Nat} (H : NS ℓ p B) : NS ℓ (pO ℓ p) B := fun q h => by
  by_cases c : 0 ≤ dg ℓ q
  · obtain ⟨e, h1, h2, h3, h4⟩ := NS_st (p' := pO ℓ p) (q := q) (d := 1) H (if_pos c) (fun i h2 h3 => by rw [show i = q by omega]; exact dg_59 c) h
    exact ⟨e, h1, by omega, h3, h4⟩
  · exact NS_st (d := 0) H (if_neg c) (fun i h2 h3 => by omega) h
theorem hrs_59 (ℓ : Nat → Int32) : ∀ d q i, q ≤ i → i < q + hrs ℓ d q → ¬ ℓ i = 59 := by
  intro d
  induction d with
  | zero => intro q i h1 h2; rw [hrs] at h2; omega
  | succ d ih =>
    intro q i h1 h2
    rw [hrs] at h2
    by_cases c : 48 ≤ ℓ q ∧ ℓ q ≤ 55
    · rw [if_pos c] at h2
      by_cases e : i = q
      · subst e; generalize ℓ i = x at c ⊢; grind
      · exact ih (q + 1) i (by omega) (by omega)
    · rw [if_neg c] at h2; omega
theorem NS_H {ℓ : Nat → Int32} {p : KP} {B : Nat} (H : NS ℓ p B) : NS ℓ (pH ℓ p) B := fun q h => by
  obtain ⟨e, h1, h2, h3, h4⟩ := NS_st (p' := pH ℓ p) (q := q) (d := hrs ℓ 8 q) H rfl (fun i h2 h3 => hrs_59 ℓ 8 q i h2 h3) h
  exact ⟨e, h1, by omega, h3, h4⟩
theorem PE_NS {ℓ : Nat → Int32} {a : Nat} (h : (PE ℓ a).1 = true) : ∃ e, (PE ℓ a).2 = e + 1 ∧ a + 2 ≤ e ∧ ℓ e = 59 ∧ ∀ i, a ≤ i → i < e → ¬ ℓ i = 59 := by
  have fin : ∀ (p : KP) (B : Nat), NS ℓ p (B + 1) → (p (a + 1)).1 = true → ¬ ℓ a = 59 → ∃ e, (p (a + 1)).2 = e + 1 ∧ a + 2 ≤ e ∧ ℓ e = 59 ∧ ∀ i, a ≤ i → i < e → ¬ ℓ i = 59 := fun p B H h hn => by
    obtain ⟨e, h1, h2, h3, h4⟩ := H _ h
    refine ⟨e, h1, by omega, h3, fun i h5 h6 => ?_⟩
    by_cases c : i = a
    · rw [c]; exact hn
    · exact h4 i (by omega) h6
  unfold PE at h ⊢
  by_cases l1 : ℓ a = 97
  · rw [if_pos l1] at h ⊢
    exact fin _ _ (NS_D (NS_D (NS_S (NS_E ℓ)))) h (by rw [l1]; decide)
  · rw [if_neg l1] at h ⊢
    by_cases l2 : ℓ a = 98
    · rw [if_pos l2] at h ⊢
      exact fin _ _ (NS_S (NS_E ℓ)) h (by rw [l2]; decide)
    · rw [if_neg l2] at h ⊢
      by_cases l3 : ℓ a = 102
      · rw [if_pos l3] at h ⊢
        exact fin _ _ (NS_D (NS_D (NS_E ℓ))) h (by rw [l3]; decide)
      · rw [if_neg l3] at h ⊢
        by_cases l4 : ℓ a = 104
        · rw [if_pos l4] at h ⊢
          exact fin _ _ (NS_D (NS_O (NS_C (by decide) (NS_D (NS_D (NS_D (NS_E ℓ))))))) h (by rw [l4]; decide)
        · rw [if_neg l4] at h ⊢
          by_cases l5 : ℓ a = 115
          · rw [if_pos l5] at h ⊢
            exact fin _ _ (NS_D (NS_D (NS_D (NS_E ℓ)))) h (by rw [l5]; decide)
          · rw [if_neg l5] at h ⊢
            by_cases l6 : ℓ a = 119
            · rw [if_pos l6] at h ⊢
              exact fin _ _ (NS_D (NS_D (NS_D (NS_H (NS_E ℓ))))) h (by rw [l6]; decide)
            · rw [if_neg l6] at h; exact absurd (show false = true from h) (by decide)
/-! no fault lies far behind -/
def NB (p : KP) (C : Nat) : Prop := ∀ q, (p q).2 ≤ q + C
theorem NB_E : NB pE 0 := fun q => Nat.le_refl q
theorem NB_D (ℓ : Nat → Int32) {p : KP} {C : Nat} (H : NB p C) : NB (pD ℓ p) (C + 1) := fun q => by
  unfold pD
  have := H (q + 1)
  split
  · omega
  · exact Nat.le_add_right q (C + 1)
theorem NB_S (ℓ : Nat → Int32) {p : KP} {C : Nat} (H : NB p C) : NB (pS ℓ p) (C + 1) := fun q => by
  unfold pS
  have := H (q + 1)
  split
  · exact Nat.le_add_right q (C + 1)
  · omega
theorem NB_C (ℓ : Nat → Int32) (c : Int32) {p : KP} {C : Nat} (H : NB p C) : NB (pC ℓ c p) (C + 1) := fun q => by
  unfold pC
  have := H (q + 1)
  split
  · omega
  · exact Nat.le_add_right q (C + 1)
theorem NB_O (ℓ : Nat → Int32) {p : KP} {C : Nat} (H : NB p C) : NB (pO ℓ p) (C + 1) := fun q => by
  unfold pO
  have h1 := H (q + 1)
  have h2 := H q
  split <;> omega
theorem NB_H (ℓ : Nat → Int32) {p : KP} {C : Nat} (H : NB p C) : NB (pH ℓ p) (C + 8) := fun q => by
  unfold pH
  have h1 := H (q + hrs ℓ 8 q)
  have h2 := hrs8 ℓ 8 q
  omega
theorem PE_NB (ℓ : Nat → Int32) (a : Nat) : (PE ℓ a).2 ≤ a + 20 := by
  unfold PE
  by_cases l1 : ℓ a = 97
  · rw [if_pos l1]; have := NB_D ℓ (NB_D ℓ (NB_S ℓ (NB_C ℓ 59 NB_E))) (a + 1); omega
  · rw [if_neg l1]
    by_cases l2 : ℓ a = 98
    · rw [if_pos l2]; have := NB_S ℓ (NB_C ℓ 59 NB_E) (a + 1); omega
    · rw [if_neg l2]
      by_cases l3 : ℓ a = 102
      · rw [if_pos l3]; have := NB_D ℓ (NB_D ℓ (NB_C ℓ 59 NB_E)) (a + 1); omega
      · rw [if_neg l3]
        by_cases l4 : ℓ a = 104
        · rw [if_pos l4]; have := NB_D ℓ (NB_O ℓ (NB_C ℓ 44 (NB_D ℓ (NB_D ℓ (NB_D ℓ (NB_C ℓ 59 NB_E)))))) (a + 1); omega
        · rw [if_neg l4]
          by_cases l5 : ℓ a = 115
          · rw [if_pos l5]; have := NB_D ℓ (NB_D ℓ (NB_D ℓ (NB_C ℓ 59 NB_E))) (a + 1); omega
          · rw [if_neg l5]
            by_cases l6 : ℓ a = 119
            · rw [if_pos l6]; have := NB_D ℓ (NB_D ℓ (NB_D ℓ (NB_H ℓ (NB_C ℓ 59 NB_E)))) (a + 1); omega
            · rw [if_neg l6]; exact Nat.le_add_right a 20
/-! the statements told -/
def ST (ℓ : Nat → Int32) (T : Sg) (A : Nat → Nat) (k : Nat) : Prop := A 0 = 0 ∧ ∀ j, j < k → PE ℓ (A j) = (true, A (j + 1)) ∧ T (0, 49) j = nI (A j) ∧ T (0, 50) j = ℓ (A j) ∧ AR ℓ T j (A j)
theorem AR_mono {ℓ : Nat → Int32} {T T' : Sg} {k j a : Nat} (h : ∀ i, i < 4 * k → T' (0, 51) i = T (0, 51) i) (hj : j < k) (H : AR ℓ T j a) : AR ℓ T' j a := by
  unfold AR at H ⊢
  rw [h (4 * j) (by omega), h (4 * j + 1) (by omega), h (4 * j + 1 + 1) (by omega), h (4 * j + 1 + 1 + 1) (by omega)]
  exact H
def FR0 (T0 T : Sg) : Prop := (∀ j, j ≠ 29 → T (0, 29) j = T0 (0, 29) j) ∧ (∀ c, c ≠ (0, 29) → c ≠ (0, 49) → c ≠ (0, 50) → c ≠ (0, 51) → T c = T0 c)
theorem FR0.ws {T0 T T' : Sg} {k : Nat} (H : FR0 T0 T) (w : WS k T T') : FR0 T0 T' := ⟨fun j hj => (w.2.1 j hj).trans (H.1 j hj), fun c c1 c2 c3 c4 => (w.2.2.1 c c1 c2 c3 c4).trans (H.2 c c1 c2 c3 c4)⟩
theorem LR.ws {ℓ : Nat → Int32} {n k : Nat} {T T' : Sg} (H : LR T ℓ n) (w : WS k T T') : LR T' ℓ n := by
  obtain ⟨h1, h2, h3, h4⟩ := H
  exact ⟨by rw [w.2.1 26 (by decide)]; exact h1, h2, fun j hj => by rw [w.2.2.1 _ (by decide) (by decide) (by decide) (by decide)]; exact h3 j hj, h4⟩
theorem m1q {q : Nat} (h : q < 2 ^ 20) : ¬ (0 : Int32) ≤ -1 - nI q ∧ -1 - (-1 - nI q) = nI q := by
  have h0 : (0 : Int32) ≤ nI q := nI_pos' (by omega)
  have h1 : nI q ≤ nI (2 ^ 20) := nI_le (by omega) (by decide)
  change nI q ≤ 1048576 at h1
  generalize nI q = x at h0 h1 ⊢
  constructor <;> grind
theorem phase1 {σ : Sg} {ℓ : Nat → Int32} {n : Nat} {T0 : Sg} (H : LC σ ℓ n) : ∀ d a k m m' A T, n - a ≤ d → (a < n ∨ k = 0) → 3 * k ≤ a → a ≤ 96 → d < m → d + 1 < m' → LR T ℓ n → T (0, 29) 29 = nI k → FR0 T0 T → ST ℓ T A k → A k = a → (∃ q T', q < 2000 ∧ f_X4_formFault_4 m (nI a) (nI k) σ = some (nI q, σ) ∧ f_X7_front_20 m' (pt T a 0) = f_X7_front_52 (pt T' q 1) ∧ FR0 T0 T') ∨ (∃ K A' T', f_X4_formFault_4 m (nI a) (nI k) σ = some (-1, σ) ∧ f_X7_front_20 m' (pt T a 0) = f_X7_front_52 (pt T' n 0) ∧ FR0 T0 T' ∧ T' (0, 29) 29 = nI K ∧ ST ℓ T' A' K ∧ A' K = n ∧ K ≤ 32) := by
  intro d
  induction d using Nat.strongRecOn with
  | ind d ih =>
    intro a k m m' A T hd hak h3k ha hm hm' HR h29 hfr hst hA
    obtain ⟨m, rfl⟩ : ∃ k, m = k + 1 := ⟨m - 1, by omega⟩
    obtain ⟨m', rfl⟩ : ∃ k, m' = k + 1 + 1 := ⟨m' - 2, by omega⟩
    have hn96 := H.2.1
    obtain ⟨T1, e1, w, w49, w50, war⟩ := r_stat (a := a) HR h29 (show k < 49 by omega) (by omega)
    have hfr1 := hfr.ws w
    have HR1 := HR.ws w
    have p29 : pt T a 0 (0, 29) 29 = nI k := by rw [pt_s (by decide) (by decide)]; exact h29
    have p26 : pt T a 0 (0, 29) 26 = nI n := by rw [pt_s (by decide) (by decide)]; exact HR.1
    have step : f_X7_front_20 (m' + 1 + 1) (pt T a 0) = f_X7_front_20 (m' + 1) (pt T1 (PE ℓ a).2 (if (PE ℓ a).1 then 0 else 1)) := by
      rw [f_X7_front_20, pt_28, if_pos rfl, p29, p26, pt_27]
      unfold f_X7_front_45
      by_cases c : nI k = 0
      · rw [if_pos c, e1, bd_some]
      · have hk0 : ¬ k = 0 := fun q => c (by rw [q]; rfl)
        rw [if_neg c, if_neg (nI_ge (show a < n by omega) (by omega)), e1, bd_some]
    rw [step, f_X4_formFault_4, if_neg (show ¬ (96 : Int32) ≤ nI k from nI_ge (show k < 96 by omega) (by decide)), c_stEnd H (by omega), bd_some]
    have hb := PE_NB ℓ a
    cases hpe : (PE ℓ a).1 with
    | false =>
      have ho : oE (PE ℓ a) = -1 - nI (PE ℓ a).2 := by unfold oE; rw [hpe]; rfl
      obtain ⟨x1, x2⟩ := m1q (q := (PE ℓ a).2) (by omega)
      refine Or.inl ⟨(PE ℓ a).2, T1, by omega, ?_, ?_, hfr1⟩
      · rw [ho, if_neg x1, x2]
      · rw [if_neg (by decide), f_X7_front_20, pt_28, if_neg h10]
    | true =>
      obtain ⟨e, he, hae, h59, hno⟩ := PE_NS hpe
      have hen : e < n := by
        rcases Nat.lt_or_ge e n with c | c
        · exact c
        · rw [H.2.2.2 e c] at h59; exact absurd h59 (by decide)
      have ho : oE (PE ℓ a) = nI (e + 1) := by unfold oE; rw [hpe, he]; rfl
      have hpe2 : PE ℓ a = (true, e + 1) := Prod.ext hpe he
      have hst1 : ST ℓ T1 (fun j => if j ≤ k then A j else e + 1) (k + 1) := by
        refine ⟨by show (if 0 ≤ k then A 0 else e + 1) = 0; rw [if_pos (Nat.zero_le k)]; exact hst.1, fun j hj => ?_⟩
        show PE ℓ (if j ≤ k then A j else e + 1) = (true, if j + 1 ≤ k then A (j + 1) else e + 1) ∧ T1 (0, 49) j = nI (if j ≤ k then A j else e + 1) ∧ T1 (0, 50) j = ℓ (if j ≤ k then A j else e + 1) ∧ AR ℓ T1 j (if j ≤ k then A j else e + 1)
        rw [if_pos (by omega)]
        by_cases c : j = k
        · subst c
          rw [if_neg (by omega), hA]
          exact ⟨hpe2, w49, w50, war hpe⟩
        · obtain ⟨r1, r2, r3, r4⟩ := hst.2 j (by omega)
          rw [if_pos (by omega)]
          exact ⟨r1, (w.2.2.2.2 j c).1.trans r2, (w.2.2.2.2 j c).2.trans r3, AR_mono w.2.2.2.1 (by omega) r4⟩
      rw [ho, if_pos (nI_pos' (show e + 1 < 2 ^ 31 by omega)), H.1, if_pos rfl, he]
      by_cases c : e + 1 < n
      · rw [if_pos (nI_lt c (by omega)), nI_1]
        exact ih (n - (e + 1)) (by omega) (e + 1) (k + 1) m (m' + 1) _ T1 (Nat.le_refl _) (Or.inl c) (by omega) (by omega) (by omega) (by omega) HR1 w.1 hfr1 hst1 (by show (if k + 1 ≤ k then A (k + 1) else e + 1) = e + 1; rw [if_neg (by omega)])
      · have hn : e + 1 = n := by omega
        refine Or.inr ⟨k + 1, _, T1, ?_, ?_, hfr1, w.1, hst1, ?_, by omega⟩
        · rw [if_neg (nI_nlt (by omega) (by omega))]
        · have q29 : pt T1 (e + 1) 0 (0, 29) 29 = nI (k + 1) := by rw [pt_s (by decide) (by decide)]; exact w.1
          have q26 : pt T1 (e + 1) 0 (0, 29) 26 = nI n := by rw [pt_s (by decide) (by decide)]; exact HR1.1
          rw [f_X7_front_20, pt_28, if_pos rfl, q29, q26, pt_27, if_neg (fun q => by have := (nI_eq (b := 0) (by omega) (by decide)).mp q; omega), if_pos (nI_le (by omega) (by omega)), hn]
        · show (if k + 1 ≤ k then A (k + 1) else e + 1) = n
          rw [if_neg (by omega)]; exact hn
