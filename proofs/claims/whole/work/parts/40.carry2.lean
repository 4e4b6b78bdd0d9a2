/-! ===== a statement is carried out ===== -/
theorem kd_ok : ∀ x ∈ l10, (5 < x ↔ 6 ≤ x) ∧ (¬ 6 ≤ x → x ∈ l6) ∧ ((0 ≤ x ∧ x ≤ 7) ↔ ¬ 8 ≤ x) ∧ (¬ 8 ≤ x → x ∈ l8) := by decide +kernel
theorem in_26 (a : Int32) (τ : Sg) : f_X7_in a.toInt64 (2 : Int64) (6 : Int64) τ = some (if 2 ≤ a ∧ a ≤ 6 then 1 else 0, τ) := e_in32 a 2 6 τ
theorem in_14 (a : Int32) (τ : Sg) : f_X7_in a.toInt64 (1 : Int64) (4 : Int64) τ = some (if 1 ≤ a ∧ a ≤ 4 then 1 else 0, τ) := e_in32 a 1 4 τ
theorem btw {x : Int32} {lo hi : Nat} (hh : hi < 100) (hl : lo ≤ hi) (h1 : nI lo ≤ x) (h2 : x ≤ nI hi) : ∃ S, lo ≤ S ∧ S ≤ hi ∧ x = nI S := by
  have h0 : (0 : Int32) ≤ x := Int32.le_trans (nI_pos' (show lo < 2 ^ 31 by omega)) h1
  obtain ⟨S, hS, e⟩ := rng (n := hi) (by omega) h0 h2
  rw [e] at h1
  exact ⟨S, (nI_leI (by omega) (by omega)).mp h1, hS, e⟩
theorem u39 (T : Sg) (k : Nat) (x : Int32) : upS T (0, 39) k x (0, 29) = T (0, 29) := upS_ne (by decide)
theorem u40 (T : Sg) (k : Nat) (x : Int32) : upS T (0, 40) k x (0, 29) = T (0, 29) := upS_ne (by decide)
theorem u41 (T : Sg) (k : Nat) (x : Int32) : upS T (0, 41) k x (0, 29) = T (0, 29) := upS_ne (by decide)
theorem u42 (T : Sg) (k : Nat) (x : Int32) : upS T (0, 42) k x (0, 29) = T (0, 29) := upS_ne (by decide)
theorem w39 (T : Sg) (k : Nat) (x : Int32) : upS T (0, 39) k x (0, 51) = T (0, 51) := upS_ne (by decide)
theorem w40 (T : Sg) (k : Nat) (x : Int32) : upS T (0, 40) k x (0, 51) = T (0, 51) := upS_ne (by decide)
theorem w41 (T : Sg) (k : Nat) (x : Int32) : upS T (0, 41) k x (0, 51) = T (0, 51) := upS_ne (by decide)
theorem hab_both {s t : Sg} {ℓ : Nat → Int32} {n k a b : Nat} {v3 Tv : Int32} (H : LC s ℓ n) (h3 : R3 s t) (hk : k < 49) (hb : b < 2000) (eb : (if v3 = 0 then nI a + 3 else nI a + 4) = nI b) (hT0 : 0 ≤ Tv) (g0 : 0 ≤ dg ℓ b) (g1 : 0 ≤ dg ℓ (b + 1)) (g2 : 0 ≤ dg ℓ (b + 1 + 1)) (t0 : t (0, 51) (4 * k) = Tv) (t1 : t (0, 51) (4 * k + 1) = dg ℓ b) (t2 : t (0, 51) (4 * k + 1 + 1) = dg ℓ (b + 1)) (t3 : t (0, 51) (4 * k + 1 + 1 + 1) = dg ℓ (b + 1 + 1)) : ∃ r s' t', f_X4_carryOutHabit_48 3 (nI a) v3 Tv s = some (r, s') ∧ f_X7_habitComes (nI (4 * k)) t = some (r, t') ∧ FC3 s s' ∧ CF t t' ∧ (r = 0 ∨ (r = 1 ∧ R3 s' t')) := by
  obtain ⟨hw, hm⟩ := h3
  have d1 : nI (4 * k) + 1 = nI (4 * k + 1) := nI_1 _
  have d2 : nI (4 * k) + 2 = nI (4 * k + 1 + 1) := by rw [show (2 : Int32) = nI 2 from rfl, nI_add]
  have d3 : nI (4 * k) + 3 = nI (4 * k + 1 + 1 + 1) := by rw [show (3 : Int32) = nI 3 from rfl, nI_add]
  have hb0 : inb (nI (4 * k)) 196 := vp_in_nI (by omega) (by decide)
  have hb1 : inb (nI (4 * k) + 1) 196 := by rw [d1]; exact vp_in_nI (by omega) (by decide)
  have hb2 : inb (nI (4 * k) + 2) 196 := by rw [d2]; exact vp_in_nI (by omega) (by decide)
  have hb3 : inb (nI (4 * k) + 3) 196 := by rw [d3]; exact vp_in_nI (by omega) (by decide)
  have c0 : (nI (4 * k)).toNatClampNeg = 4 * k := nI_clamp (by omega)
  have c1 : (nI (4 * k) + 1).toNatClampNeg = 4 * k + 1 := by rw [d1]; exact nI_clamp (by omega)
  have c2 : (nI (4 * k) + 2).toNatClampNeg = 4 * k + 1 + 1 := by rw [d2]; exact nI_clamp (by omega)
  have c3 : (nI (4 * k) + 3).toNatClampNeg = 4 * k + 1 + 1 + 1 := by rw [d3]; exact nI_clamp (by omega)
  have htn := tn24 hw.1
  have hs7 : s (3, 7) 0 * s (3, 7) 1 = nI (tn (hv s 3)) := htn.2.1
  have ht7 : t (0, 29) 0 * t (0, 29) 1 = nI (tn (hv s 3)) := by rw [hm.1.1.1, hm.1.1.2.1]; exact htn.2.1
  have hc8 := hw.1.2.2.2.2.1.1
  have e15 : s (3, 15) 0 = nI (hn (hv s 3)) := hw.1.2.2.2.2.1.2
  have e4 : t (0, 29) 4 = nI (hn (hv s 3)) := hm.1.1.2.2.2.trans e15
  have k0 := kd_ok _ (dgl g0)
  have k2 := kd_ok _ (dgl g2)
  have no : (0 : Int32) = 0 ∨ (0 : Int32) = 1 := Or.inl rfl
  have yes : (1 : Int32) = 0 ∨ (1 : Int32) = 1 := Or.inr rfl
  have bad : ∃ r s' t', (some ((0 : Int32), s) : Option (Int32 × Sg)) = some (r, s') ∧ (some ((0 : Int32), t) : Option (Int32 × Sg)) = some (r, t') ∧ FC3 s s' ∧ CF t t' ∧ (r = 0 ∨ (r = 1 ∧ R3 s' t')) := ⟨0, s, t, rfl, rfl, FC3.refl s, CF.refl t, Or.inl rfl⟩
  have b48 : ∀ x13 x14 x17, f_X4_carryOutHabit_125 3 Tv x13 x14 x17 s = some (0, s) := fun x13 x14 x17 => by
    unfold f_X4_carryOutHabit_125 f_X4_carryOutHabit_126
    rw [if_pos rfl, chk_t no]
  have b52 : f_X7_habitComes_52 (nI (4 * k)) t = some (0, t) := by
    unfold f_X7_habitComes_52 f_X7_habitComes_53
    rw [if_pos rfl, chk_t no]
  unfold f_X4_carryOutHabit_48 f_X7_habitComes
  rw [eb, bv_eq, c_digit H (by omega), bd_some, i_2, show b + 2 = b + 1 + 1 from rfl, c_digit H (by omega), bd_some, f_X0_tenants, bd_some, hs7, f_X7_tenants]
  simp only [chk_t hb0, chk_t hb1, chk_t hb3, c0, c1, c3, bd_some, ht7, t0, t1, t3, b48, b52]
  by_cases q1 : nI (tn (hv s 3)) ≤ Tv
  · rw [if_pos q1, if_pos q1]; exact bad
  · rw [if_neg q1, if_neg q1]
    by_cases q2 : 6 ≤ dg ℓ b
    · rw [if_pos (k0.1.mpr q2), if_pos q2]; exact bad
    · rw [if_neg (fun h => q2 (k0.1.mp h)), if_neg q2, c_hour, bd_some, qF_if]
      by_cases q3 : 8 ≤ dg ℓ (b + 1 + 1)
      · rw [if_neg (fun h => k2.2.2.1.mp h q3), if_pos q3]; exact bad
      · rw [if_pos (k2.2.2.1.mpr q3), if_neg q3, e15, e4]
        by_cases q4 : (8 : Int32) ≤ nI (hn (hv s 3))
        · rw [if_pos q4, if_pos q4]; exact bad
        · have h8 : hn (hv s 3) < 8 := by
            rcases Nat.lt_or_ge (hn (hv s 3)) 8 with q | q
            · exact q
            · exact absurd (show (8 : Int32) ≤ nI (hn (hv s 3)) from nI_le q (by omega)) q4
          obtain ⟨T, hT31, eT⟩ := nI_of (show ¬ Tv < 0 by generalize Tv = y at hT0 ⊢; grind)
          have hTt : T < tn (hv s 3) := by
            rcases Nat.lt_or_ge T (tn (hv s 3)) with q | q
            · exact q
            · exact absurd (by rw [eT]; exact nI_le q hT31) q1
          obtain ⟨s', e, hr, hf⟩ := co_h (fi := dg ℓ (b + 1)) (kd := dg ℓ b) (ho := dg ℓ (b + 1 + 1)) hTt (k0.2.1 q2) (dgl g1) (k2.2.2.2 q3) h8 ⟨hw, hm⟩
          have hci : inb (nI (hn (hv s 3))) 8 := vp_in_nI h8 (by decide)
          have hcc : (nI (hn (hv s 3))).toNatClampNeg = hn (hv s 3) := nI_clamp (by omega)
          rw [if_neg q4, if_neg q4]
          unfold f_X4_carryOutHabit_126 f_X7_habitComes_53
          rw [if_neg h10, if_neg h10, nI_1, c_digit H (by omega), bd_some, eT, e, bd_some]
          simp only [↓chk_t yes, chk_t hb0, chk_t hb1, chk_t hb2, chk_t hb3, c0, c1, c2, c3, bv_eq, u39, u40, u41, u42, w39, w40, w41, e4, chk_t hci, hcc, t0, t1, t2, t3]
          rw [eT, nI_1]
          refine ⟨1, s', _, rfl, rfl, hf, ?_, Or.inr ⟨rfl, hr⟩⟩
          exact ((((CF.up (by decide) (by decide) _ _).trans (CF.up (by decide) (by decide) _ _)).trans (CF.up (by decide) (by decide) _ _)).trans (CF.up (by decide) (by decide) _ _)).trans (CF.sl (by decide) _)
theorem co_both {s t : Sg} {ℓ : Nat → Int32} {n k a : Nat} (H : LC s ℓ n) (h3 : R3 s t) (hg : GD ℓ a) (ar : AR ℓ t k a) (h50 : t (0, 50) k = ℓ a) (hk : k < 49) (ha : a < 1000) : ∃ r s' t', f_X4_carryOut (nI a) 3 s = some (r, s') ∧ f_X7_comes (nI k) t = some (r, t') ∧ FC3 s s' ∧ CF t t' ∧ (r = 0 ∨ (r = 1 ∧ R3 s' t')) := by
  have hkk : inb (nI k) 49 := vp_in_nI hk (by decide)
  have hck : (nI k).toNatClampNeg = k := nI_clamp (by omega)
  have e4k : (4 : Int32) * nI k = nI (4 * k) := by rw [show (4 : Int32) = nI 4 from rfl, pk_mul]
  have d1 : nI (4 * k) + 1 = nI (4 * k + 1) := nI_1 _
  have d2 : nI (4 * k) + 2 = nI (4 * k + 1 + 1) := by rw [show (2 : Int32) = nI 2 from rfl, nI_add]
  have hb0 : inb (nI (4 * k)) 196 := vp_in_nI (by omega) (by decide)
  have hb1 : inb (nI (4 * k) + 1) 196 := by rw [d1]; exact vp_in_nI (by omega) (by decide)
  have hb2 : inb (nI (4 * k) + 2) 196 := by rw [d2]; exact vp_in_nI (by omega) (by decide)
  have c0 : (nI (4 * k)).toNatClampNeg = 4 * k := nI_clamp (by omega)
  have c1 : (nI (4 * k) + 1).toNatClampNeg = 4 * k + 1 := by rw [d1]; exact nI_clamp (by omega)
  have c2 : (nI (4 * k) + 2).toNatClampNeg = 4 * k + 1 + 1 := by rw [d2]; exact nI_clamp (by omega)
  have a2 : nI a + 2 = nI (a + 1 + 1) := i_2 a
  have a3 : nI a + 3 = nI (a + 1 + 2) := by rw [i_3]
  have a4 : nI a + 4 = nI (a + 1 + 3) := by rw [i_4]
  have no : (0 : Int32) = 0 ∨ (0 : Int32) = 1 := Or.inl rfl
  have yes : (1 : Int32) = 0 ∨ (1 : Int32) = 1 := Or.inr rfl
  obtain ⟨r97, r98, r102, r104, r115, r119⟩ := ar
  have bad : ∃ r s' t', (some ((0 : Int32), s) : Option (Int32 × Sg)) = some (r, s') ∧ (some ((0 : Int32), t) : Option (Int32 × Sg)) = some (r, t') ∧ FC3 s s' ∧ CF t t' ∧ (r = 0 ∨ (r = 1 ∧ R3 s' t')) := ⟨0, s, t, rfl, rfl, FC3.refl s, CF.refl t, Or.inl rfl⟩
  -- the place told
  have place : ∀ x y, x ∈ l10 → y ∈ l10 → f_X0_place 3 x y s = some (pF (hv s 3) (10 * x + y), s) := fun x y hx hy => by
    rw [e_place, pF_dd hx hy]; rfl
  unfold f_X4_carryOut f_X7_comes
  rw [c_letter H (by omega), bd_some, e4k]
  simp only [chk_t hkk, bv_eq, hck, h50]
  rcases hg with ⟨l, g1, g2, g3⟩ | ⟨l, g1⟩ | ⟨l, g1, g2⟩ | ⟨l, g1, g2⟩ | ⟨l, g1, g2, g3⟩ | ⟨l, g1, g2, g3⟩
  · -- an awning
    obtain ⟨q1, q2⟩ := r97 l
    rw [l, if_neg (by decide), if_neg (by decide), if_neg (by decide), if_neg (by decide), c_letter H (by omega), bd_some, l, if_neg (by decide), c_letter H (by omega), bd_some, l, if_neg (by decide), nI_1, c_digit H (by omega), bd_some, a2, c_digit H (by omega), bd_some, place _ _ (dgl g1) (dgl g2), bd_some]
    unfold f_X7_flatComes
    rw [chk_t hb0, c0, q1, r_place h3.2.1, bd_some]
    rcases p_cases h3.1.1 (10 * dg ℓ (a + 1) + dg ℓ (a + 1 + 1)) with e | ⟨p, hp, hp24, e⟩
    · rw [e, if_neg hn1, if_neg hn1, bd_some, chk_t no]; exact bad
    · have h0 : (0 : Int32) ≤ nI p := nI_pos' (by omega)
      rw [e, if_pos h0, if_pos h0, c_letter H (by omega), bd_some, l, if_pos rfl, if_neg (by decide), if_pos rfl, a3, c_sign H (by omega), bd_some, e_set_nI (n := 24) _ rfl hp24, bd_some]
      simp only [chk_t hb1, chk_t (inb24 hp24), bv_eq, c1, q2, show (nI p).toNatClampNeg = p from nI_clamp (by omega), bd_some, ↓chk_t yes]
      exact ⟨1, _, _, rfl, rfl, (FC3.refl s).up 10 p _, CF.up (by decide) (by decide) p _, Or.inr ⟨rfl, co_a (sgl g3) h3⟩⟩
  · -- the wind
    rw [l, if_pos rfl, if_pos rfl, nI_1, c_sign H (by omega), bd_some, chk_t hb0, c0, r98 l]
    exact ⟨1, _, _, rfl, rfl, (FC3.refl s).up 7 2 _, CF.sl (by decide) _, Or.inr ⟨rfl, co_b (sgl g1) h3⟩⟩
  · -- a front
    obtain ⟨q1, q2⟩ := r102 l
    rw [l, if_neg (by decide), if_neg (by decide), if_pos rfl, c_letter H (by omega), bd_some, l, if_pos rfl]
    unfold f_X4_carryOutFront f_X4_carryOutFront_41 f_X4_carryOutFront_42 f_X7_frontComes f_X7_frontComes_30 f_X7_frontComes_31
    rw [chk_t hb0, chk_t hb1, c0, c1, q1, q2, nI_1, c_digit H (by omega), bd_some, a2, c_digit H (by omega), bd_some, e_within, bd_some, if01, in_26, bd_some, if01]
    by_cases k1 : 2 ≤ dg ℓ (a + 1) ∧ dg ℓ (a + 1) ≤ 6
    · rw [if_pos k1, if_pos k1, e_within, bd_some, if01, in_14, bd_some, if01]
      by_cases k2 : 1 ≤ dg ℓ (a + 1 + 1) ∧ dg ℓ (a + 1 + 1) ≤ 4
      · obtain ⟨S, hS2, hS6, eS⟩ := btw (lo := 2) (hi := 6) (by decide) (by decide) k1.1 k1.2
        obtain ⟨K, hK1, hK4, eK⟩ := btw (lo := 1) (hi := 4) (by decide) (by decide) k2.1 k2.2
        obtain ⟨s', t', e1, e2, hr, hf, hcf⟩ := co_f hS2 hS6 hK1 hK4 h3
        rw [if_pos k2, if_pos k2, if_neg h10, if_neg h10, bv_eq, bv_eq, eS, eK, e1, bd_some, e2, bd_some, chk_t yes, chk_t yes, bd_some, bd_some, chk_t yes, chk_t yes]
        exact ⟨1, s', t', rfl, rfl, hf, hcf, Or.inr ⟨rfl, hr⟩⟩
      · rw [if_neg k2, if_neg k2, if_pos rfl, if_pos rfl, chk_t no, chk_t no, bd_some, bd_some, chk_t no, chk_t no]; exact bad
    · rw [if_neg k1, if_neg k1, if_pos rfl, if_pos rfl, chk_t no, chk_t no, bd_some, bd_some, chk_t no, chk_t no]; exact bad
  · -- a habit
    rw [l, if_neg (by decide), if_neg (by decide), if_neg (by decide), if_pos rfl, c_letter H (by omega), bd_some, l, if_neg (by decide), c_letter H (by omega), bd_some, l, if_pos rfl]
    unfold f_X4_carryOutHabit
    obtain ⟨rl, rs⟩ := r104 l
    rcases g2 with ⟨m1, m2, m3, m4⟩ | ⟨m1, m2, m3, m4⟩
    · obtain ⟨q1, q2, q3, q4⟩ := rl m1
      have dd := dd_ok _ (dgl g1) _ (dgl m1)
      obtain ⟨r, s', t', w1, w2, w3, w4, w5⟩ := hab_both (v3 := 1) (a := a) (b := a + 1 + 3) H h3 hk (by omega) (by rw [if_neg h10]; exact a4) dd.1 m2 m3 m4 q1 q2 q3 q4
      have hr01 : r = 0 ∨ r = 1 := w5.imp id (fun q => q.1)
      rw [a2, c_digit H (by omega), bd_some, if_neg dd.2.2.2.2.2, bv_eq, if_neg h10, nI_1, c_digit H (by omega), bd_some, c_digit H (by omega), bd_some, w1, bd_some, w2, bd_some, chk_t hr01, chk_t hr01]
      exact ⟨r, s', t', rfl, rfl, w3, w4, w5⟩
    · obtain ⟨q1, q2, q3, q4⟩ := rs m1
      have hneg : dg ℓ (a + 1 + 1) < 0 := by
        rcases dg_cs ℓ (a + 1 + 1) with ⟨_, h2, _⟩ | ⟨h1, _⟩
        · rw [h2]; decide
        · exact absurd h1 m1
      obtain ⟨r, s', t', w1, w2, w3, w4, w5⟩ := hab_both (v3 := 0) (a := a) (b := a + 1 + 2) H h3 hk (by omega) (by rw [if_pos rfl]; exact a3) g1 m2 m3 m4 q1 q2 q3 q4
      have hr01 : r = 0 ∨ r = 1 := w5.imp id (fun q => q.1)
      rw [a2, c_digit H (by omega), bd_some, if_pos hneg, bv_eq, if_pos rfl, nI_1, c_digit H (by omega), bd_some, w1, bd_some, w2, bd_some, chk_t hr01, chk_t hr01]
      exact ⟨r, s', t', rfl, rfl, w3, w4, w5⟩
  · -- a saucer
    obtain ⟨q1, q2⟩ := r115 l
    rw [l, if_neg (by decide), if_neg (by decide), if_neg (by decide), if_neg (by decide), c_letter H (by omega), bd_some, l, if_neg (by decide), c_letter H (by omega), bd_some, l, if_neg (by decide), nI_1, c_digit H (by omega), bd_some, a2, c_digit H (by omega), bd_some, place _ _ (dgl g1) (dgl g2), bd_some]
    unfold f_X7_flatComes
    rw [chk_t hb0, c0, q1, r_place h3.2.1, bd_some]
    rcases p_cases h3.1.1 (10 * dg ℓ (a + 1) + dg ℓ (a + 1 + 1)) with e | ⟨p, hp, hp24, e⟩
    · rw [e, if_neg hn1, if_neg hn1, bd_some, chk_t no]; exact bad
    · have h0 : (0 : Int32) ≤ nI p := nI_pos' (by omega)
      obtain ⟨s', t', e1, e2, hr, hf, hcf⟩ := co_s hp24 (dgl g3) h3
      rw [e, if_pos h0, if_pos h0, c_letter H (by omega), bd_some, l, if_neg (by decide), if_pos rfl, if_pos rfl, a3, c_digit H (by omega), bd_some, e1, bd_some, chk_t hb1, c1, q2, e2, bd_some, bd_some, chk_t yes]
      exact ⟨1, s', t', rfl, rfl, hf, hcf, Or.inr ⟨rfl, hr⟩⟩
  · -- the washing
    obtain ⟨q1, q2, q3⟩ := r119 l
    rw [l, if_neg (by decide), if_neg (by decide), if_neg (by decide), if_neg (by decide), c_letter H (by omega), bd_some, l, if_neg (by decide), c_letter H (by omega), bd_some, l, if_neg (by decide), nI_1, c_digit H (by omega), bd_some, a2, c_digit H (by omega), bd_some, place _ _ (dgl g1) (dgl g2), bd_some]
    unfold f_X7_flatComes
    rw [chk_t hb0, c0, q1, r_place h3.2.1, bd_some]
    rcases p_cases h3.1.1 (10 * dg ℓ (a + 1) + dg ℓ (a + 1 + 1)) with e | ⟨p, hp, hp24, e⟩
    · rw [e, if_neg hn1, if_neg hn1, bd_some, chk_t no]; exact bad
    · have h0 : (0 : Int32) ≤ nI p := nI_pos' (by omega)
      have w51 : ∀ x, (upS t (0, 33) p x) (0, 51) = t (0, 51) := fun x => upS_ne (by decide)
      rw [e, if_pos h0, if_pos h0, c_letter H (by omega), bd_some, l, if_neg (by decide), if_neg (by decide), if_neg (by decide), if_neg (by decide), a3, c_digit H (by omega), bd_some, a4, show a + 1 + 3 = a + 1 + 2 + 1 from rfl, c_hourBits H (by omega), bd_some, f_X0_setWashing, e_set_nI (n := 24) _ rfl hp24, bd_some, e_set_nI (n := 24) _ rfl hp24, bd_some, bd_some]
      simp only [chk_t hb1, chk_t hb2, chk_t (inb24 hp24), bv_eq, c1, c2, q2, show (nI p).toNatClampNeg = p from nI_clamp (by omega), w51, q3, bd_some, ↓chk_t yes]
      exact ⟨1, _, _, rfl, rfl, ((FC3.refl s).up 11 p _).up 12 p _, (CF.up (by decide) (by decide) p _).trans (CF.up (by decide) (by decide) p _), Or.inr ⟨rfl, co_w (dgl g3) h3⟩⟩
