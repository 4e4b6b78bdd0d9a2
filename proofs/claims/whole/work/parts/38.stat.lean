/-! ===== a statement is read ===== -/
def Wf (k m : Nat) (T T' : Sg) : Prop := T' (0, 29) 29 = nI (k + 1) ∧ (∀ j, j ≠ 29 → T' (0, 29) j = T (0, 29) j) ∧ (∀ c, c ≠ (0, 29) → c ≠ (0, 51) → T' c = T c) ∧ (∀ j, j < m → T' (0, 51) j = T (0, 51) j)
theorem Wf.pre {k m : Nat} {T T' : Sg} {x : Int32} (H : Wf k (m + 1) (upS T (0, 51) m x) T') : Wf k m T T' ∧ T' (0, 51) m = x := by
  obtain ⟨h1, h2, h3, h4⟩ := H
  refine ⟨⟨h1, fun j hj => by rw [h2 j hj, upS_ne (by decide)], fun c c1 c2 => by rw [h3 c c1 c2, upS_ne c2], fun j hj => by rw [h4 j (by omega), upS_off (by omega)]⟩, ?_⟩
  rw [h4 m (by omega), upS_at]
def RE (ℓ : Nat → Int32) (n k m : Nat) (R : Sg → Option (Unit × Sg)) (p : KP) (Rec : Nat → Sg → Prop) (B : Nat) : Prop := ∀ T q, q < B → LR T ℓ n → T (0, 29) 29 = nI k → (∃ T', R (pt T q 0) = some ((), pt T' (p q).2 (if (p q).1 then 0 else 1)) ∧ Wf k m T T' ∧ ((p q).1 = true → Rec q T')) ∧ (∃ T', R (pt T q 1) = some ((), pt T' q 1) ∧ Wf k m T T')
theorem RE_E {ℓ : Nat → Int32} {n k m B : Nat} (hB : B < 2 ^ 18) : RE ℓ n k m f_X7_readStatement_327 (pC ℓ 59 pE) (fun _ _ => True) B := fun T q hq H h29 => by
  have hw : Wf k m T (upS T (0, 29) 29 (nI (k + 1))) := ⟨upS_at, fun j hj => upS_off hj, fun c c1 _ => upS_ne c1, fun j _ => by rw [upS_ne (by decide)]⟩
  exact ⟨⟨_, e327 H (by omega) h29, hw, fun _ => trivial⟩, ⟨_, e327b T q h29, hw⟩⟩
theorem Wt {ℓ : Nat → Int32} {n k : Nat} {T : Sg} (H : LR T ℓ n) (h : T (0, 29) 29 = nI k) (j : Nat) (x : Int32) : LR (upS T (0, 51) j x) ℓ n ∧ (upS T (0, 51) j x) (0, 29) 29 = nI k := ⟨H.w (by decide) j x, by rw [upS_ne (by decide)]; exact h⟩
theorem RE_D {ℓ : Nat → Int32} {n k j B : Nat} {R : Sg → Option (Unit × Sg)} {p : KP} {Rec : Nat → Sg → Prop} (hB : B < 2 ^ 18) (h : RE ℓ n k (j + 1) R p Rec (B + 1)) : RE ℓ n k j (fun s => bd (f_X7_readDigit s) (fun x t => R (upS t (0, 51) j x))) (pD ℓ p) (fun q T' => T' (0, 51) j = dg ℓ q ∧ Rec (q + 1) T') B := fun T q hq H h29 => by
  have bad : ∀ q, q < B + 1 → ∃ T', R (upS (pt T q 1) (0, 51) j 0) = some ((), pt T' q 1) ∧ Wf k j T T' := fun q hq => by
    obtain ⟨T', e, w⟩ := (h _ q hq (Wt H h29 j 0).1 (Wt H h29 j 0).2).2
    exact ⟨T', by rw [pt_u (by decide), e], w.pre.1⟩
  refine ⟨?_, ?_⟩
  · rcases dg_cs ℓ q with ⟨h1, _⟩ | ⟨h1, _⟩
    · obtain ⟨T', e, w⟩ := bad q (by omega)
      have ep : pD ℓ p q = (false, q) := if_neg h1
      rw [ep]
      refine ⟨T', ?_, w, fun q => absurd (show false = true from q) (by decide)⟩
      show bd _ _ = _
      rw [rd_no H (by omega) h1, bd_some, e]; rfl
    · have ep : pD ℓ p q = p (q + 1) := if_pos h1
      obtain ⟨T', e, w, r⟩ := (h _ (q + 1) (by omega) (Wt H h29 j (dg ℓ q)).1 (Wt H h29 j (dg ℓ q)).2).1
      rw [ep]
      exact ⟨T', by show bd _ _ = _; rw [rd_ok H (by omega) h1, bd_some, pt_u (by decide), e], w.pre.1, fun hq => ⟨w.pre.2, r hq⟩⟩
  · obtain ⟨T', e, w⟩ := bad q (by omega)
    exact ⟨T', by show bd _ _ = _; rw [rd_bad, bd_some, e], w⟩
theorem RE_2 {ℓ : Nat → Int32} {n k j B : Nat} {R : Sg → Option (Unit × Sg)} {p : KP} {Rec : Nat → Sg → Prop} (hB : B < 2 ^ 18) (h : RE ℓ n k (j + 1) R p Rec (B + 2)) : RE ℓ n k j (fun s => bd (f_X7_readTwo s) (fun x t => R (upS t (0, 51) j x))) (pD ℓ (pD ℓ p)) (fun q T' => T' (0, 51) j = 10 * dg ℓ q + dg ℓ (q + 1) ∧ Rec (q + 2) T') B := fun T q hq H h29 => by
  have bad : ∀ q x, q < B + 2 → ∃ T', R (upS (pt T q 1) (0, 51) j x) = some ((), pt T' q 1) ∧ Wf k j T T' := fun q x hq => by
    obtain ⟨T', e, w⟩ := (h _ q hq (Wt H h29 j x).1 (Wt H h29 j x).2).2
    exact ⟨T', by rw [pt_u (by decide), e], w.pre.1⟩
  refine ⟨?_, ?_⟩
  · rcases dg_cs ℓ q with ⟨h1, _⟩ | ⟨h1, _⟩
    · obtain ⟨T', e, w⟩ := bad q 0 (by omega)
      have ep : pD ℓ (pD ℓ p) q = (false, q) := if_neg h1
      rw [ep]
      refine ⟨T', ?_, w, fun q => absurd (show false = true from q) (by decide)⟩
      show bd _ _ = _
      rw [rw_1 H (by omega) h1, bd_some, e]; rfl
    · rcases dg_cs ℓ (q + 1) with ⟨h2, _⟩ | ⟨h2, _⟩
      · obtain ⟨T', e, w⟩ := bad (q + 1) (10 * dg ℓ q + 0) (by omega)
        have ep : pD ℓ (pD ℓ p) q = (false, q + 1) := by unfold pD; rw [if_pos h1, if_neg h2]
        rw [ep]
        refine ⟨T', ?_, w, fun q => absurd (show false = true from q) (by decide)⟩
        show bd _ _ = _
        rw [rw_2 H (by omega) h1 h2, bd_some, e]; rfl
      · have ep : pD ℓ (pD ℓ p) q = p (q + 2) := by unfold pD; rw [if_pos h1, if_pos h2]
        obtain ⟨T', e, w, r⟩ := (h _ (q + 2) (by omega) (Wt H h29 j (10 * dg ℓ q + dg ℓ (q + 1))).1 (Wt H h29 j (10 * dg ℓ q + dg ℓ (q + 1))).2).1
        rw [ep]
        exact ⟨T', by show bd _ _ = _; rw [rw_ok H (by omega) h1 h2, bd_some, pt_u (by decide), e], w.pre.1, fun hq => ⟨w.pre.2, r hq⟩⟩
  · obtain ⟨T', e, w⟩ := bad q 0 (by omega)
    exact ⟨T', by show bd _ _ = _; rw [rw_bad, bd_some, e], w⟩
theorem RE_S {ℓ : Nat → Int32} {n k j B : Nat} {R : Sg → Option (Unit × Sg)} {p : KP} {Rec : Nat → Sg → Prop} (hB : B < 2 ^ 18) (h : RE ℓ n k (j + 1) R p Rec (B + 1)) : RE ℓ n k j (fun s => bd (f_X7_readSign s) (fun x t => R (upS t (0, 51) j x))) (pS ℓ p) (fun q T' => T' (0, 51) j = sg ℓ q ∧ Rec (q + 1) T') B := fun T q hq H h29 => by
  have bad : ∀ q x, q < B + 1 → ∃ T', R (upS (pt T q 1) (0, 51) j x) = some ((), pt T' q 1) ∧ Wf k j T T' := fun q x hq => by
    obtain ⟨T', e, w⟩ := (h _ q hq (Wt H h29 j x).1 (Wt H h29 j x).2).2
    exact ⟨T', by rw [pt_u (by decide), e], w.pre.1⟩
  refine ⟨?_, ?_⟩
  · by_cases h1 : sg ℓ q = -2
    · obtain ⟨x, e0⟩ := rs_no H (show q < 2 ^ 20 by omega) h1
      obtain ⟨T', e, w⟩ := bad q x (by omega)
      have ep : pS ℓ p q = (false, q) := if_pos h1
      rw [ep]
      refine ⟨T', ?_, w, fun q => absurd (show false = true from q) (by decide)⟩
      show bd _ _ = _
      rw [e0, bd_some, e]; rfl
    · have ep : pS ℓ p q = p (q + 1) := if_neg h1
      obtain ⟨T', e, w, r⟩ := (h _ (q + 1) (by omega) (Wt H h29 j (sg ℓ q)).1 (Wt H h29 j (sg ℓ q)).2).1
      rw [ep]
      exact ⟨T', by show bd _ _ = _; rw [rs_ok H (by omega) h1, bd_some, pt_u (by decide), e], w.pre.1, fun hq => ⟨w.pre.2, r hq⟩⟩
  · obtain ⟨x, e0⟩ := rs_bad T H (show q < 2 ^ 20 by omega)
    obtain ⟨T', e, w⟩ := bad q x (by omega)
    exact ⟨T', by show bd _ _ = _; rw [e0, bd_some, e], w⟩
theorem RE_H {ℓ : Nat → Int32} {n k j B : Nat} {R : Sg → Option (Unit × Sg)} {p : KP} {Rec : Nat → Sg → Prop} (hB : B < 2 ^ 18) (h : RE ℓ n k (j + 1) R p Rec (B + 8)) : RE ℓ n k j (fun s => bd (f_X7_readHours s) (fun x t => R (upS t (0, 51) j x))) (pH ℓ p) (fun q T' => T' (0, 51) j = hbt ℓ 8 q 0 ∧ Rec (q + hrs ℓ 8 q) T') B := fun T q hq H h29 => by
  have h8 := hrs8 ℓ 8 q
  refine ⟨?_, ?_⟩
  · obtain ⟨T', e, w, r⟩ := (h _ (q + hrs ℓ 8 q) (by omega) (Wt H h29 j (hbt ℓ 8 q 0)).1 (Wt H h29 j (hbt ℓ 8 q 0)).2).1
    exact ⟨T', by show bd _ _ = _; rw [rh_ok H (by omega), bd_some, pt_u (by decide), e]; rfl, w.pre.1, fun hq => ⟨w.pre.2, r hq⟩⟩
  · obtain ⟨T', e, w⟩ := (h _ q (by omega) (Wt H h29 j 0).1 (Wt H h29 j 0).2).2
    exact ⟨T', by show bd _ _ = _; rw [rh_bad, bd_some, pt_u (by decide), e], w.pre.1⟩
theorem RE_T {ℓ : Nat → Int32} {n k j B : Nat} {R : Sg → Option (Unit × Sg)} {p : KP} {Rec : Nat → Sg → Prop} (hB : B < 2 ^ 18) (h : RE ℓ n k (j + 1) R p Rec (B + 3)) : RE ℓ n k j (fun s => bd (f_X7_readTenant s) (fun x t => R (upS t (0, 51) j x))) (pD ℓ (pO ℓ (pC ℓ 44 p))) (fun q T' => (0 ≤ dg ℓ (q + 1) → T' (0, 51) j = 10 * dg ℓ q + dg ℓ (q + 1) ∧ Rec (q + 3) T') ∧ (¬ 0 ≤ dg ℓ (q + 1) → T' (0, 51) j = dg ℓ q ∧ Rec (q + 2) T')) B := fun T q hq H h29 => by
  have bad : ∀ q x, q < B + 3 → ∃ T', R (upS (pt T q 1) (0, 51) j x) = some ((), pt T' q 1) ∧ Wf k j T T' := fun q x hq => by
    obtain ⟨T', e, w⟩ := (h _ q hq (Wt H h29 j x).1 (Wt H h29 j x).2).2
    exact ⟨T', by rw [pt_u (by decide), e], w.pre.1⟩
  refine ⟨?_, ?_⟩
  · rcases dg_cs ℓ q with ⟨h1, _⟩ | ⟨h1, _⟩
    · obtain ⟨T', e, w⟩ := bad q 0 (by omega)
      have ep : pD ℓ (pO ℓ (pC ℓ 44 p)) q = (false, q) := if_neg h1
      rw [ep]
      refine ⟨T', ?_, w, fun q => absurd (show false = true from q) (by decide)⟩
      show bd _ _ = _
      rw [rt_no H (by omega) h1, bd_some, e]; rfl
    · rcases dg_cs ℓ (q + 1) with ⟨h2, _⟩ | ⟨h2, _⟩
      · by_cases h3 : ℓ (q + 1) = 44
        · have ep : pD ℓ (pO ℓ (pC ℓ 44 p)) q = p (q + 2) := by unfold pD pO pC; rw [if_pos h1, if_neg h2, if_pos h3]
          obtain ⟨T', e, w, r⟩ := (h _ (q + 2) (by omega) (Wt H h29 j (dg ℓ q)).1 (Wt H h29 j (dg ℓ q)).2).1
          rw [ep]
          exact ⟨T', by show bd _ _ = _; rw [rt_1 H (by omega) h1 h2, bd_some, if_pos h3, pt_u (by decide), e], w.pre.1, fun hq => ⟨fun q => absurd q h2, fun _ => ⟨w.pre.2, r hq⟩⟩⟩
        · obtain ⟨T', e, w⟩ := bad (q + 1) (dg ℓ q) (by omega)
          have ep : pD ℓ (pO ℓ (pC ℓ 44 p)) q = (false, q + 1) := by unfold pD pO pC; rw [if_pos h1, if_neg h2, if_neg h3]
          rw [ep]
          refine ⟨T', ?_, w, fun q => absurd (show false = true from q) (by decide)⟩
          show bd _ _ = _
          rw [rt_1 H (by omega) h1 h2, bd_some, if_neg h3, e]; rfl
      · by_cases h3 : ℓ (q + 2) = 44
        · have ep : pD ℓ (pO ℓ (pC ℓ 44 p)) q = p (q + 3) := by unfold pD pO pC; rw [if_pos h1, if_pos h2, if_pos h3]
          obtain ⟨T', e, w, r⟩ := (h _ (q + 3) (by omega) (Wt H h29 j (10 * dg ℓ q + dg ℓ (q + 1))).1 (Wt H h29 j (10 * dg ℓ q + dg ℓ (q + 1))).2).1
          rw [ep]
          exact ⟨T', by show bd _ _ = _; rw [rt_2 H (by omega) h1 h2, bd_some, if_pos h3, pt_u (by decide), e], w.pre.1, fun hq => ⟨fun _ => ⟨w.pre.2, r hq⟩, fun q => absurd h2 q⟩⟩
        · obtain ⟨T', e, w⟩ := bad (q + 2) (10 * dg ℓ q + dg ℓ (q + 1)) (by omega)
          have ep : pD ℓ (pO ℓ (pC ℓ 44 p)) q = (false, q + 2) := by unfold pD pO pC; rw [if_pos h1, if_pos h2, if_neg h3]
          rw [ep]
          refine ⟨T', ?_, w, fun q => absurd (show false = true from q) (by decide)⟩
          show bd _ _ = _
          rw [rt_2 H (by omega) h1 h2, bd_some, if_neg h3, e]; rfl
  · obtain ⟨T', e, w⟩ := bad q 0 (by omega)
    exact ⟨T', by show bd _ _ = _; rw [rt_bad, bd_some, e], w⟩
/-- what is told of a statement -/
def AR (ℓ : Nat → Int32) (T : Sg) (k a : Nat) : Prop :=
  (ℓ a = 97 → T (0, 51) (4 * k) = 10 * dg ℓ (a + 1) + dg ℓ (a + 1 + 1) ∧ T (0, 51) (4 * k + 1) = sg ℓ (a + 1 + 2)) ∧
  (ℓ a = 98 → T (0, 51) (4 * k) = sg ℓ (a + 1)) ∧
  (ℓ a = 102 → T (0, 51) (4 * k) = dg ℓ (a + 1) ∧ T (0, 51) (4 * k + 1) = dg ℓ (a + 1 + 1)) ∧
  (ℓ a = 104 → (0 ≤ dg ℓ (a + 1 + 1) → T (0, 51) (4 * k) = 10 * dg ℓ (a + 1) + dg ℓ (a + 1 + 1) ∧ T (0, 51) (4 * k + 1) = dg ℓ (a + 1 + 3) ∧ T (0, 51) (4 * k + 1 + 1) = dg ℓ (a + 1 + 3 + 1) ∧ T (0, 51) (4 * k + 1 + 1 + 1) = dg ℓ (a + 1 + 3 + 1 + 1)) ∧ (¬ 0 ≤ dg ℓ (a + 1 + 1) → T (0, 51) (4 * k) = dg ℓ (a + 1) ∧ T (0, 51) (4 * k + 1) = dg ℓ (a + 1 + 2) ∧ T (0, 51) (4 * k + 1 + 1) = dg ℓ (a + 1 + 2 + 1) ∧ T (0, 51) (4 * k + 1 + 1 + 1) = dg ℓ (a + 1 + 2 + 1 + 1))) ∧
  (ℓ a = 115 → T (0, 51) (4 * k) = 10 * dg ℓ (a + 1) + dg ℓ (a + 1 + 1) ∧ T (0, 51) (4 * k + 1) = dg ℓ (a + 1 + 2)) ∧
  (ℓ a = 119 → T (0, 51) (4 * k) = 10 * dg ℓ (a + 1) + dg ℓ (a + 1 + 1) ∧ T (0, 51) (4 * k + 1) = dg ℓ (a + 1 + 2) ∧ T (0, 51) (4 * k + 1 + 1) = hbt ℓ 8 (a + 1 + 2 + 1) 0)
/-- what reading one statement changes -/
def WS (k : Nat) (T T' : Sg) : Prop := T' (0, 29) 29 = nI (k + 1) ∧ (∀ j, j ≠ 29 → T' (0, 29) j = T (0, 29) j) ∧ (∀ c, c ≠ (0, 29) → c ≠ (0, 49) → c ≠ (0, 50) → c ≠ (0, 51) → T' c = T c) ∧ (∀ j, j < 4 * k → T' (0, 51) j = T (0, 51) j) ∧ (∀ j, j ≠ k → T' (0, 49) j = T (0, 49) j ∧ T' (0, 50) j = T (0, 50) j)
theorem r_stat {ℓ : Nat → Int32} {n k a : Nat} {T : Sg} (H : LR T ℓ n) (h29 : T (0, 29) 29 = nI k) (hk : k < 49) (ha : a < 1000) : ∃ T', f_X7_readStatement (pt T a 0) = some ((), pt T' (PE ℓ a).2 (if (PE ℓ a).1 then 0 else 1)) ∧ WS k T T' ∧ T' (0, 49) k = nI a ∧ T' (0, 50) k = ℓ a ∧ ((PE ℓ a).1 = true → AR ℓ T' k a) := by
  have hkk : inb (nI k) 49 := vp_in_nI hk (by decide)
  have hck : (nI k).toNatClampNeg = k := nI_clamp (by omega)
  have e4k : (4 : Int32) * nI k = nI (4 * k) := by rw [show (4 : Int32) = nI 4 from rfl, pk_mul]
  have d1 : nI (4 * k) + 1 = nI (4 * k + 1) := nI_1 _
  have d2 : nI (4 * k) + 2 = nI (4 * k + 1 + 1) := by rw [show (2 : Int32) = nI 2 from rfl, nI_add]
  have d3 : nI (4 * k) + 3 = nI (4 * k + 1 + 1 + 1) := by rw [show (3 : Int32) = nI 3 from rfl, nI_add]
  have hb0 : inb (nI (4 * k)) 196 := vp_in_nI (by omega) (by decide)
  have hb1 : inb (nI (4 * k) + 1) 196 := by rw [d1]; exact vp_in_nI (by omega) (by decide)
  have hb2 : inb (nI (4 * k) + 2) 196 := by rw [d2]; exact vp_in_nI (by omega) (by decide)
  have hb3 : inb (nI (4 * k) + 3) 196 := by rw [d3]; exact vp_in_nI (by omega) (by decide)
  have c0 : (nI (4 * k)).toNatClampNeg = 4 * k := nI_clamp (by omega)
  have c1 : (nI (4 * k) + 1).toNatClampNeg = 4 * k + 1 := by rw [d1]; exact nI_clamp (by omega)
  have c2 : (nI (4 * k) + 2).toNatClampNeg = 4 * k + 1 + 1 := by rw [d2]; exact nI_clamp (by omega)
  have c3 : (nI (4 * k) + 3).toNatClampNeg = 4 * k + 1 + 1 + 1 := by rw [d3]; exact nI_clamp (by omega)
  have H1 : LR (upS (upS T (0, 49) k (nI a)) (0, 50) k (ℓ a)) ℓ n := (H.w (by decide) k (nI a)).w (by decide) k (ℓ a)
  have h1 : (upS (upS T (0, 49) k (nI a)) (0, 50) k (ℓ a)) (0, 29) 29 = nI k := by rw [upS_ne (by decide), upS_ne (by decide)]; exact h29
  have lift : ∀ T', Wf k (4 * k) (upS (upS T (0, 49) k (nI a)) (0, 50) k (ℓ a)) T' → WS k T T' ∧ T' (0, 49) k = nI a ∧ T' (0, 50) k = ℓ a := fun T' w => by
    obtain ⟨w1, w2, w3, w4⟩ := w
    refine ⟨⟨w1, fun j hj => ?_, fun c c1 c2 c3 c4 => ?_, fun j hj => ?_, fun j hj => ⟨?_, ?_⟩⟩, ?_, ?_⟩
    · rw [w2 j hj, upS_ne (by decide), upS_ne (by decide)]
    · rw [w3 c c1 c4, upS_ne c3, upS_ne c2]
    · rw [w4 j hj, upS_ne (by decide), upS_ne (by decide)]
    · rw [w3 _ (by decide) (by decide), upS_ne (by decide), upS_off hj]
    · rw [w3 _ (by decide) (by decide), upS_off hj, upS_ne (by decide)]
    · rw [w3 _ (by decide) (by decide), upS_ne (by decide), upS_at]
    · rw [w3 _ (by decide) (by decide), upS_at]
  have e29 : pt T a 0 (0, 29) 29 = nI k := by rw [pt_s (by decide) (by decide)]; exact h29
  unfold f_X7_readStatement
  rw [e29, bv_eq, r_here H 0 (by omega), bd_some, e4k]
  simp only [chk_t hkk, chk_t hb0, chk_t hb1, chk_t hb2, chk_t hb3, bv_eq]
  rw [hck, pt_27, pt_u (show ((0, 49) : Nat × Nat) ≠ (0, 29) by decide), pt_u (show ((0, 50) : Nat × Nat) ≠ (0, 29) by decide)]
  simp only [pt_28, pt_28u, pt_27, if_true, c0, c1, c2, c3]
  generalize hT1 : upS (upS T (0, 49) k (nI a)) (0, 50) k (ℓ a) = T1 at H1 h1 lift
  unfold PE AR
  by_cases l1 : ℓ a = 97
  · have g := RE_2 (B := 2000) (by decide) (RE_S (by decide) (RE_E (ℓ := ℓ) (n := n) (k := k) (m := 4 * k + 1 + 1) (by decide)))
    obtain ⟨T', e, w, r⟩ := (g T1 (a + 1) (by omega) H1 h1).1
    simp only [l1, if_true, if_false, reduceIte, show ¬ (97 : Int32) = 102 by decide, show ¬ (97 : Int32) = 115 by decide, show ¬ (97 : Int32) = 98 by decide, show ¬ (97 : Int32) = 104 by decide, show ¬ (97 : Int32) = 119 by decide, nI_1, pt_27u]
    have q := lift T' w
    exact ⟨T', e, q.1, q.2.1, by rw [q.2.2, l1], fun hq => ⟨fun _ => ⟨(r hq).1, (r hq).2.1⟩, fun q => q.elim, fun q => q.elim, fun q => q.elim, fun q => q.elim, fun q => q.elim⟩⟩
  · by_cases l2 : ℓ a = 98
    · have g := RE_S (B := 2000) (by decide) (RE_E (ℓ := ℓ) (n := n) (k := k) (m := 4 * k + 1) (by decide))
      obtain ⟨T', e, w, r⟩ := (g T1 (a + 1) (by omega) H1 h1).1
      simp only [l2, if_true, if_false, reduceIte, show ¬ (98 : Int32) = 102 by decide, show ¬ (98 : Int32) = 115 by decide, show ¬ (98 : Int32) = 97 by decide, show ¬ (98 : Int32) = 104 by decide, show ¬ (98 : Int32) = 119 by decide, nI_1, pt_27u]
      have q := lift T' w
      exact ⟨T', e, q.1, q.2.1, by rw [q.2.2, l2], fun hq => ⟨fun q => q.elim, fun _ => (r hq).1, fun q => q.elim, fun q => q.elim, fun q => q.elim, fun q => q.elim⟩⟩
    · by_cases l3 : ℓ a = 102
      · have g := RE_D (B := 2000) (by decide) (RE_D (by decide) (RE_E (ℓ := ℓ) (n := n) (k := k) (m := 4 * k + 1 + 1) (by decide)))
        obtain ⟨T', e, w, r⟩ := (g T1 (a + 1) (by omega) H1 h1).1
        simp only [l3, if_true, if_false, reduceIte, show ¬ (102 : Int32) = 98 by decide, show ¬ (102 : Int32) = 115 by decide, show ¬ (102 : Int32) = 97 by decide, show ¬ (102 : Int32) = 104 by decide, show ¬ (102 : Int32) = 119 by decide, nI_1, pt_27u]
        have q := lift T' w
        exact ⟨T', e, q.1, q.2.1, by rw [q.2.2, l3], fun hq => ⟨fun q => q.elim, fun q => q.elim, fun _ => ⟨(r hq).1, (r hq).2.1⟩, fun q => q.elim, fun q => q.elim, fun q => q.elim⟩⟩
      · by_cases l4 : ℓ a = 104
        · have g := RE_T (B := 2000) (by decide) (RE_D (by decide) (RE_D (by decide) (RE_D (by decide) (RE_E (ℓ := ℓ) (n := n) (k := k) (m := 4 * k + 1 + 1 + 1 + 1) (by decide)))))
          obtain ⟨T', e, w, r⟩ := (g T1 (a + 1) (by omega) H1 h1).1
          simp only [l4, if_true, if_false, reduceIte, show ¬ (104 : Int32) = 98 by decide, show ¬ (104 : Int32) = 115 by decide, show ¬ (104 : Int32) = 97 by decide, show ¬ (104 : Int32) = 102 by decide, show ¬ (104 : Int32) = 119 by decide, nI_1, pt_27u]
          have q := lift T' w
          exact ⟨T', e, q.1, q.2.1, by rw [q.2.2, l4], fun hq => ⟨fun q => q.elim, fun q => q.elim, fun q => q.elim, fun _ => ⟨fun d => ⟨((r hq).1 d).1, ((r hq).1 d).2.1, ((r hq).1 d).2.2.1, ((r hq).1 d).2.2.2.1⟩, fun d => ⟨((r hq).2 d).1, ((r hq).2 d).2.1, ((r hq).2 d).2.2.1, ((r hq).2 d).2.2.2.1⟩⟩, fun q => q.elim, fun q => q.elim⟩⟩
        · by_cases l5 : ℓ a = 115
          · have g := RE_2 (B := 2000) (by decide) (RE_D (by decide) (RE_E (ℓ := ℓ) (n := n) (k := k) (m := 4 * k + 1 + 1) (by decide)))
            obtain ⟨T', e, w, r⟩ := (g T1 (a + 1) (by omega) H1 h1).1
            simp only [l5, if_true, if_false, reduceIte, show ¬ (115 : Int32) = 98 by decide, show ¬ (115 : Int32) = 104 by decide, show ¬ (115 : Int32) = 97 by decide, show ¬ (115 : Int32) = 102 by decide, show ¬ (115 : Int32) = 119 by decide, nI_1, pt_27u]
            have q := lift T' w
            exact ⟨T', e, q.1, q.2.1, by rw [q.2.2, l5], fun hq => ⟨fun q => q.elim, fun q => q.elim, fun q => q.elim, fun q => q.elim, fun _ => ⟨(r hq).1, (r hq).2.1⟩, fun q => q.elim⟩⟩
          · by_cases l6 : ℓ a = 119
            · have g := RE_2 (B := 2000) (by decide) (RE_D (by decide) (RE_H (by decide) (RE_E (ℓ := ℓ) (n := n) (k := k) (m := 4 * k + 1 + 1 + 1) (by decide))))
              obtain ⟨T', e, w, r⟩ := (g T1 (a + 1) (by omega) H1 h1).1
              simp only [l6, if_true, if_false, reduceIte, show ¬ (119 : Int32) = 98 by decide, show ¬ (119 : Int32) = 104 by decide, show ¬ (119 : Int32) = 97 by decide, show ¬ (119 : Int32) = 102 by decide, show ¬ (119 : Int32) = 115 by decide, nI_1, pt_27u]
              have q := lift T' w
              exact ⟨T', e, q.1, q.2.1, by rw [q.2.2, l6], fun hq => ⟨fun q => q.elim, fun q => q.elim, fun q => q.elim, fun q => q.elim, fun q => q.elim, fun _ => ⟨(r hq).1, (r hq).2.1, (r hq).2.2.1⟩⟩⟩
            · have g := RE_T (B := 2000) (by decide) (RE_D (by decide) (RE_D (by decide) (RE_D (by decide) (RE_E (ℓ := ℓ) (n := n) (k := k) (m := 4 * k + 1 + 1 + 1 + 1) (by decide)))))
              obtain ⟨T', e, w⟩ := (g T1 a (by omega) H1 h1).2
              simp only [l1, l2, l3, l4, l5, l6, if_false, h10, show nI a + 0 = nI a from nI_add a 0, pt_27u]
              have q := lift T' w
              exact ⟨T', e, q.1, q.2.1, q.2.2, fun hq => absurd (show false = true from hq) (by decide)⟩
