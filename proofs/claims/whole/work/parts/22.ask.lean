/-! ===== the calls that ask and set ===== -/
theorem in5 (a : Int32) (c : Int32) (n : Int64) (σ : Sg) (h : n = c.toInt64) : f_X7_in a.toInt64 (0 : Int64) n σ = some (if 0 ≤ a ∧ a ≤ c then 1 else 0, σ) := by
  rw [h, e_in0]
theorem hn1 : ¬ (0 : Int32) ≤ -1 := by decide
theorem h10 : ¬ (1 : Int32) = 0 := by decide
theorem E_flat_R : E_flat Rel := by
  intro a b σ τ hR0
  have hR := hR0.thrown
  unfold f_X6_flat f_X7_flat f_X7_flat_27
  rw [bv_eq (upS τ (0, 29) 18 0)]
  generalize upS τ (0, 29) 18 0 = τ1 at hR ⊢
  have hc := CS1 σ
  have hw := hR.1.1
  have hm := hR.1.2
  rw [c_place hc, bd_some, r_place hm.1, bd_some]
  rcases p_cases hw.1 a with e | ⟨p, hp, hp24, e⟩
  · rw [e, if_neg (by decide), if_pos (by decide), if_neg (by decide)]; (obtain ⟨σ', τ', e1, e2, h⟩ := refuse1 hR; exact ⟨_, σ', τ', by rw [e1, bd_some], by rw [e2, bd_some], h⟩)
  · have h0 : (0 : Int32) ≤ nI p := nI_pos' (by omega)
    rw [e, if_pos h0, if_neg (nI_pos (by omega)), in5 b 5 5 τ1 rfl, bd_some, if01, if_pos h0]
    by_cases h5 : 0 ≤ b ∧ b ≤ 5
    · rw [if_pos h5]
      obtain ⟨j, hj, rfl⟩ := rng (n := 5) (by decide) h5.1 h5.2
      have hb := inb24 hp24
      have cl : (nI p).toNatClampNeg = p := nI_clamp (by omega)
      have m1 := hm.1.2.1 p hp24
      have m2 := hm.2.2.1 p hp24
      have g := fun m (hm : alen (1, m) = 24) => e_get_nI (i := (1, m)) (n := 24) σ hm hp24
      refine (by omega : j = 0 ∨ j = 1 ∨ j = 2 ∨ j = 3 ∨ j = 4 ∨ j = 5).elim ?_ (fun h => h.elim ?_ (fun h => h.elim ?_ (fun h => h.elim ?_ (fun h => h.elim ?_ ?_))))
      all_goals rintro rfl
      · refine ⟨σ (1, 8) p, σ, τ1, ?_, ?_, hR⟩
        · rw [if_pos (by decide), g 8 rfl, bd_some]
        · rw [if_pos (by decide), chk_t hb, cl, m1.1]; rfl
      · refine ⟨σ (1, 9) p, σ, τ1, ?_, ?_, hR⟩
        · rw [if_neg (by decide), if_pos (by decide), g 9 rfl, bd_some]
        · rw [if_neg (by decide), if_pos (by decide), chk_t hb, cl, m2.1]; rfl
      · refine ⟨σ (1, 10) p + 1, σ, τ1, ?_, ?_, hR⟩
        · rw [if_neg (by decide), if_neg (by decide), if_pos (by decide), g 10 rfl, bd_some]
        · rw [if_neg (by decide), if_neg (by decide), if_pos (by decide), chk_t hb, cl, m1.2.1, Int32.add_comm]; rfl
      · refine ⟨σ (1, 11) p, σ, τ1, ?_, ?_, hR⟩
        · rw [if_neg (by decide), if_neg (by decide), if_neg (by decide), if_pos (by decide), g 11 rfl, bd_some]
        · rw [if_neg (by decide), if_neg (by decide), if_neg (by decide), if_pos (by decide), chk_t hb, cl, m1.2.2.1]; rfl
      · refine ⟨σ (1, 12) p, σ, τ1, ?_, ?_, hR⟩
        · rw [if_neg (by decide), if_neg (by decide), if_neg (by decide), if_neg (by decide), if_pos (by decide), g 12 rfl, bd_some]
        · rw [if_neg (by decide), if_neg (by decide), if_neg (by decide), if_neg (by decide), if_pos (by decide), chk_t hb, cl, m1.2.2.2]; rfl
      · refine ⟨σ (1, 13) p, σ, τ1, ?_, ?_, hR⟩
        · rw [if_neg (by decide), if_neg (by decide), if_neg (by decide), if_neg (by decide), if_neg (by decide), if_pos (by decide), g 13 rfl, bd_some]
        · rw [if_neg (by decide), if_neg (by decide), if_neg (by decide), if_neg (by decide), if_neg (by decide), e_lives hm.1 hw.1 hp, bd_some]; rfl
    · rw [if_neg h5]
      have hne : ∀ j, j ≤ 5 → ¬ b = nI j := fun j hj e => h5 (by rw [e]; exact ⟨nI_pos' (by omega), nI_le hj (by decide)⟩)
      rw [if_neg (show ¬ b = 0 from hne 0 (by decide)), if_neg (show ¬ b = 1 from hne 1 (by decide)), if_neg (show ¬ b = 2 from hne 2 (by decide)), if_neg (show ¬ b = 3 from hne 3 (by decide)), if_neg (show ¬ b = 4 from hne 4 (by decide)), if_neg (show ¬ b = 5 from hne 5 (by decide))]
      (obtain ⟨σ', τ', e1, e2, h⟩ := refuse_2 hR; exact ⟨_, σ', τ', by rw [e1, bd_some], by rw [e2, bd_some], h⟩)
theorem c_count {σ : Sg} {v : Vw} (hc : CS 1 σ v) (hv' : WFs v) (a : Int32) : ∀ d i n x, i + d = hn v → d < n → ∃ r, f_X1_countOf_4 1 n a x (nI i) σ = some (r, σ) ∧ ∀ τ, RS τ v → ∀ m, d < m → f_X7_habitsOf_4 m a x (nI i) τ = some (r, τ) := by
  have h8 := hv'.2.2.2.2.1.1
  have h15 : σ (1, 15) 0 = nI (hn v) := by rw [hc.1.2.2.2]; exact hv'.2.2.2.2.1.2
  intro d
  induction d with
  | zero =>
    intro i n x hi hn'
    obtain ⟨n, rfl⟩ : ∃ k, n = k + 1 := ⟨n - 1, by omega⟩
    have : i = hn v := by omega
    subst this
    refine ⟨x, ?_, fun τ hr m hm => ?_⟩
    · rw [f_X1_countOf_4, h15, if_pos (nI_le (Nat.le_refl _) (by omega))]
    · obtain ⟨m, rfl⟩ : ∃ k, m = k + 1 := ⟨m - 1, by omega⟩
      rw [f_X7_habitsOf_4, hr.1.2.2.2, hv'.2.2.2.2.1.2, if_pos (nI_le (Nat.le_refl _) (by omega))]
  | succ d ih =>
    intro i n x hi hn'
    obtain ⟨n, rfl⟩ : ∃ k, n = k + 1 := ⟨n - 1, by omega⟩
    have hi8 : i < 8 := by omega
    obtain ⟨r, e1, e2⟩ := ih (i + 1) n (x + (if v 16 i = a then 1 else 0)) (by omega) (by omega)
    refine ⟨r, ?_, fun τ hr m hm => ?_⟩
    · rw [f_X1_countOf_4, h15, if_neg (nI_ge (by omega) (by omega)), e_get_nI (n := 8) _ rfl hi8, bd_some, bv_eq, (hc.2.2 i hi8).1, nI_1]
      exact e1
    · obtain ⟨m, rfl⟩ : ∃ k, m = k + 1 := ⟨m - 1, by omega⟩
      have hb : inb (nI i) 8 := vp_in_nI hi8 (by decide)
      rw [f_X7_habitsOf_4, hr.1.2.2.2, hv'.2.2.2.2.1.2, if_neg (nI_ge (by omega) (by omega)), chk_t hb, bv_eq, nI_clamp (by omega), (hr.2.2.2 i hi8).1, nI_1]
      exact e2 τ hr m (by omega)
theorem vx {v : Vw} (hv' : WFs v) {t : Nat} (ht : t < tn v) : ∃ p, p < 24 ∧ v 14 t = nI p := by
  obtain ⟨p, hp, e, _⟩ := hv'.2.2.1 t ht
  exact ⟨p, hp.1, e⟩
theorem told_eq (x : Int32) : (10 : Int32) * (x / 4) + (x - x / 4 * 4) = x / 4 * 10 + (x - x / 4 * 4) := by
  generalize x / 4 = y; grind
theorem E_tenant_R : E_tenant Rel := by
  intro a b σ τ hR0
  have hR := hR0.thrown
  unfold f_X6_tenant f_X7_tenant f_X7_tenant_25
  rw [bv_eq (upS τ (0, 29) 18 0)]
  generalize upS τ (0, 29) 18 0 = τ1 at hR ⊢
  have hc := CS1 σ
  have hw := hR.1.1
  have hm := hR.1.2
  rw [c_ten hc hw.1, bd_some, r_ten hm.1 hw.1, bd_some]
  rcases t_cases hw.1 a with ⟨t, ht, ht24, rfl, e⟩ | e
  · rw [e, if_neg h10, if_neg h10, in5 b 2 2 τ1 rfl, bd_some, if01]
    by_cases h5 : 0 ≤ b ∧ b ≤ 2
    · rw [if_pos h5]
      obtain ⟨j, hj, rfl⟩ := rng (n := 2) (by decide) h5.1 h5.2
      have hb := inb24 ht24
      have cl : (nI t).toNatClampNeg = t := nI_clamp (by omega)
      have m1 := hm.1.2.2.1 t ht
      have m2 := hm.2.2.1 t ht24
      have g := fun m (hm : alen (1, m) = 24) => e_get_nI (i := (1, m)) (n := 24) σ hm ht24
      refine (by omega : j = 0 ∨ j = 1 ∨ j = 2).elim ?_ (fun h => h.elim ?_ ?_)
      all_goals rintro rfl
      · refine ⟨σ (1, 14) t / 4 * 10 + (σ (1, 14) t - σ (1, 14) t / 4 * 4), σ, τ1, ?_, ?_, hR⟩
        · rw [if_pos (by decide), g 14 rfl, bd_some, f_X0_flatAt, bd_some]
        · rw [if_pos (by decide), chk_t hb, cl, m1, f_X7_toldAs, bd_some, told_eq]; rfl
      · refine ⟨σ (1, 21) t, σ, τ1, ?_, ?_, hR⟩
        · rw [if_neg (by decide), if_pos (by decide), g 21 rfl, bd_some]
        · rw [if_neg (by decide), if_pos (by decide), chk_t hb, cl, m2.2.1]; rfl
      · have hf : hn (hv σ 1) < fuel := by have := hw.1.2.2.2.2.1.1; show _ < 2000; omega
        obtain ⟨r, c1, c2⟩ := c_count hc hw.1 (nI t) (hn (hv σ 1)) 0 fuel 0 (by omega) hf
        have c2' := c2 τ1 hm.1 fuel hf
        refine ⟨r, σ, τ1, ?_, ?_, hR⟩
        · rw [if_neg (by decide), if_neg (by decide), if_pos (by decide), f_X1_countOf]
          change bd (f_X1_countOf_4 1 fuel (nI t) 0 (nI 0) σ) _ = _
          rw [c1, bd_some]
        · rw [if_neg (by decide), if_neg (by decide), f_X7_habitsOf]
          change bd (f_X7_habitsOf_4 fuel (nI t) 0 (nI 0) τ1) _ = _
          rw [c2', bd_some]
    · rw [if_neg h5, r_ten hm.1 hw.1, bd_some, e, if_neg h10]
      have hne : ∀ j, j ≤ 2 → ¬ b = nI j := fun j hj e => h5 (by rw [e]; exact ⟨nI_pos' (by omega), nI_le hj (by decide)⟩)
      rw [if_neg (show ¬ b = 0 from hne 0 (by decide)), if_neg (show ¬ b = 1 from hne 1 (by decide)), if_neg (show ¬ b = 2 from hne 2 (by decide))]
      (obtain ⟨σ', τ', e1, e2, h⟩ := refuse_2 hR; exact ⟨_, σ', τ', by rw [e1, bd_some], by rw [e2, bd_some], h⟩)
  · rw [e, if_pos rfl, if_pos rfl, r_ten hm.1 hw.1, bd_some, e, if_pos rfl]; (obtain ⟨σ', τ', e1, e2, h⟩ := refuse1 hR; exact ⟨_, σ', τ', by rw [e1, bd_some], by rw [e2, bd_some], h⟩)
theorem E_anger_R : E_anger Rel := by
  intro a b σ τ hR0
  have hR := hR0.thrown
  unfold f_X6_anger f_X6_anger_21 f_X7_anger f_X7_areTenants
  rw [bv_eq (upS τ (0, 29) 18 0)]
  generalize upS τ (0, 29) 18 0 = τ1 at hR ⊢
  have hc := CS1 σ
  have hw := hR.1.1
  have hm := hR.1.2
  rw [c_ten hc hw.1, bd_some, r_ten hm.1 hw.1, bd_some]
  rcases t_cases hw.1 a with ⟨t, ht, ht24, rfl, e⟩ | e
  · rw [e, if_neg h10, if_neg h10, c_ten hc hw.1, bd_some, r_ten hm.1 hw.1, bd_some]
    rcases t_cases hw.1 b with ⟨u, hu, hu24, rfl, e'⟩ | e'
    · rw [e', if_neg h10, if_neg h10]
      by_cases h : nI t = nI u
      · rw [if_pos h, if_pos h, bd_some, if_pos rfl]; (obtain ⟨σ', τ', e1, e2, h⟩ := refuse1 hR; exact ⟨_, σ', τ', by rw [e1, bd_some], by rw [e2, bd_some], h⟩)
      · rw [if_neg h, if_neg h, bd_some, if_neg h10, ix24', f_X3_pair, bd_some, ix24]
        have hix : 24 * t + u < 576 := by omega
        have hb : inb (nI (24 * t + u)) 576 := vp_in_nI hix (by decide)
        refine ⟨σ (1, 22) (24 * t + u), σ, τ1, ?_, ?_, hR⟩
        · rw [e_get_nI (n := 576) _ rfl hix, bd_some]
        · rw [chk_t hb, nI_clamp (by omega), hm.2.2.2 _ hix]; rfl
    · rw [e', if_pos rfl, if_pos rfl, bd_some, if_pos rfl]; (obtain ⟨σ', τ', e1, e2, h⟩ := refuse1 hR; exact ⟨_, σ', τ', by rw [e1, bd_some], by rw [e2, bd_some], h⟩)
  · rw [e, if_pos rfl, if_pos rfl, bd_some, if_pos rfl]; (obtain ⟨σ', τ', e1, e2, h⟩ := refuse1 hR; exact ⟨_, σ', τ', by rw [e1, bd_some], by rw [e2, bd_some], h⟩)
theorem E_habit_R : E_habit Rel := by
  intro a b σ τ hR0
  have hR := hR0.thrown
  unfold f_X6_habit f_X7_habit f_X7_habit_25
  rw [bv_eq (upS τ (0, 29) 18 0)]
  generalize upS τ (0, 29) 18 0 = τ1 at hR ⊢
  have hc := CS1 σ
  have hw := hR.1.1
  have hm := hR.1.2
  rw [c_hab hc hw.1, bd_some, r_hab hm.1 hw.1, bd_some]
  rcases h_cases hw.1 a with ⟨t, ht, ht8, rfl, e⟩ | e
  · rw [e, if_neg h10, if_neg h10, in5 b 3 3 τ1 rfl, bd_some, if01]
    by_cases h5 : 0 ≤ b ∧ b ≤ 3
    · rw [if_pos h5]
      obtain ⟨j, hj, rfl⟩ := rng (n := 3) (by decide) h5.1 h5.2
      have hb : inb (nI t) 8 := vp_in_nI ht8 (by decide)
      have cl : (nI t).toNatClampNeg = t := nI_clamp (by omega)
      have m1 := hm.1.2.2.2 t ht8
      have g := fun m (hm : alen (1, m) = 8) => e_get_nI (i := (1, m)) (n := 8) σ hm ht8
      refine (by omega : j = 0 ∨ j = 1 ∨ j = 2 ∨ j = 3).elim ?_ (fun h => h.elim ?_ (fun h => h.elim ?_ ?_))
      all_goals rintro rfl
      · refine ⟨σ (1, 16) t, σ, τ1, ?_, ?_, hR⟩
        · rw [if_pos (by decide), g 16 rfl, bd_some]
        · rw [if_pos (by decide), chk_t hb, cl, m1.1]; rfl
      · refine ⟨σ (1, 17) t, σ, τ1, ?_, ?_, hR⟩
        · rw [if_neg (by decide), if_pos (by decide), g 17 rfl, bd_some]
        · rw [if_neg (by decide), if_pos (by decide), chk_t hb, cl, m1.2.1]; rfl
      · refine ⟨σ (1, 18) t, σ, τ1, ?_, ?_, hR⟩
        · rw [if_neg (by decide), if_neg (by decide), if_pos (by decide), g 18 rfl, bd_some]
        · rw [if_neg (by decide), if_neg (by decide), if_pos (by decide), chk_t hb, cl, m1.2.2.1]; rfl
      · refine ⟨σ (1, 19) t, σ, τ1, ?_, ?_, hR⟩
        · rw [if_neg (by decide), if_neg (by decide), if_neg (by decide), if_pos (by decide), g 19 rfl, bd_some]
        · rw [if_neg (by decide), if_neg (by decide), if_neg (by decide), chk_t hb, cl, m1.2.2.2]; rfl
    · rw [if_neg h5, r_hab hm.1 hw.1, bd_some, e, if_neg h10]
      have hne : ∀ j, j ≤ 3 → ¬ b = nI j := fun j hj e => h5 (by rw [e]; exact ⟨nI_pos' (by omega), nI_le hj (by decide)⟩)
      rw [if_neg (show ¬ b = 0 from hne 0 (by decide)), if_neg (show ¬ b = 1 from hne 1 (by decide)), if_neg (show ¬ b = 2 from hne 2 (by decide)), if_neg (show ¬ b = 3 from hne 3 (by decide))]
      (obtain ⟨σ', τ', e1, e2, h⟩ := refuse_2 hR; exact ⟨_, σ', τ', by rw [e1, bd_some], by rw [e2, bd_some], h⟩)
  · rw [e, if_pos rfl, if_pos rfl, r_hab hm.1 hw.1, bd_some, e, if_pos rfl]; (obtain ⟨σ', τ', e1, e2, h⟩ := refuse1 hR; exact ⟨_, σ', τ', by rw [e1, bd_some], by rw [e2, bd_some], h⟩)
theorem E_put_R : E_put Rel := by
  intro a b σ τ hR0
  have hR := hR0.thrown
  unfold f_X6_put f_X7_put f_X7_put_20
  rw [bv_eq (upS τ (0, 29) 18 0)]
  generalize upS τ (0, 29) 18 0 = τ1 at hR ⊢
  have hc := CS1 σ
  have hw := hR.1.1
  have hm := hR.1.2
  rw [c_hab hc hw.1, bd_some, r_hab hm.1 hw.1, bd_some]
  rcases h_cases hw.1 a with ⟨t, ht, ht8, rfl, e⟩ | e
  · rw [e, if_neg h10, if_neg h10, c_hour, bd_some, r_time, bd_some]
    rcases q_cases b with ⟨k, hk, rfl, e'⟩ | e'
    · have hb : inb (nI t) 8 := vp_in_nI ht8 (by decide)
      rw [e', if_neg h10, if_neg h10, e_get_nI (n := 8) _ rfl ht8, bd_some, e_set_nI (n := 8) _ rfl ht8, bd_some, chk_t hb, bv_eq, chk_t hb, bv_eq, nI_clamp (by omega)]
      refine ⟨σ (1, 19) t, _, _, rfl, ?_, hR.up (m := 19) (m' := 42) (by decide) (by decide) (by decide) t (nI k) ⟨WFs_19 hw.1 (l8_of hk), hw.2⟩⟩
      rw [(hm.1.2.2.2 t ht8).2.2.2]; rfl
    · rw [e', if_pos rfl, if_pos rfl, r_hab hm.1 hw.1, bd_some, e, if_neg h10]; (obtain ⟨σ', τ', e1, e2, h⟩ := refuse_2 hR; exact ⟨_, σ', τ', by rw [e1, bd_some], by rw [e2, bd_some], h⟩)
  · rw [e, if_pos rfl, if_pos rfl, r_hab hm.1 hw.1, bd_some, e, if_pos rfl]; (obtain ⟨σ', τ', e1, e2, h⟩ := refuse1 hR; exact ⟨_, σ', τ', by rw [e1, bd_some], by rw [e2, bd_some], h⟩)
theorem wn_cases (b lo hi : Int32) : ((lo ≤ b ∧ b ≤ hi) ∧ (if lo ≤ b then (if b ≤ hi then (0 : Int32) else -6) else -4) = 0) ∨ (¬ lo ≤ b ∧ (if lo ≤ b then (if b ≤ hi then (0 : Int32) else -6) else -4) = -4) ∨ (lo ≤ b ∧ ¬ b ≤ hi ∧ (if lo ≤ b then (if b ≤ hi then (0 : Int32) else -6) else -4) = -6) := by
  by_cases h1 : lo ≤ b
  · by_cases h2 : b ≤ hi
    · exact Or.inl ⟨⟨h1, h2⟩, by rw [if_pos h1, if_pos h2]⟩
    · exact Or.inr (Or.inr ⟨h1, h2, by rw [if_pos h1, if_neg h2]⟩)
  · exact Or.inr (Or.inl ⟨h1, by rw [if_neg h1]⟩)
theorem jm_mem10 : ∀ x ∈ l10, ∀ y ∈ l10, jmin x y ∈ l10 ∧ jmin x y ≤ y := by decide +kernel
theorem E_saucer_R : E_saucer Rel := by
  intro a b σ τ hR0
  have hR := hR0.thrown
  unfold f_X6_saucer f_X7_saucer f_X7_saucer_26 f_X7_wrongNumber
  rw [bv_eq (upS τ (0, 29) 18 0)]
  generalize upS τ (0, 29) 18 0 = τ1 at hR ⊢
  have hc := CS1 σ
  have hw := hR.1.1
  have hm := hR.1.2
  rw [c_place hc, bd_some, r_place hm.1, bd_some]
  rcases p_cases hw.1 a with e | ⟨p, hp, hp24, e⟩
  · rw [e, if_neg hn1, if_neg hn1, if_neg hn1]; (obtain ⟨σ', τ', e1, e2, h⟩ := refuse1 hR; exact ⟨_, σ', τ', by rw [e1, bd_some], by rw [e2, bd_some], h⟩)
  · have h0 : (0 : Int32) ≤ nI p := nI_pos' (by omega)
    rw [e, if_pos h0, if_pos h0, bd_some]
    rcases wn_cases b 0 9 with ⟨⟨h1, h2⟩, e'⟩ | ⟨h1, e'⟩ | ⟨h1, h2, e'⟩
    · have hb := inb24 hp24
      have cl : (nI p).toNatClampNeg = p := nI_clamp (by omega)
      have hb10 := l10_of h1 h2
      rw [e', if_pos h1, if_pos h2, if_pos (by decide), e_get_nI (n := 24) _ rfl hp24, bd_some, f_X0_setSaucer, e_set_nI (n := 24) _ rfl hp24, bd_some, e_get_nI (n := 24) _ rfl hp24, bd_some, e_set_nI (n := 24) _ rfl hp24, bd_some, bd_some, chk_t hb, bv_eq, f_X7_saucerIs, chk_t hb, bv_eq, chk_t hb, e_lesser, bd_some, chk_t hb, bv_eq, bd_some, cl, jm_lesser]
      have h9 := hw.2.1 p hp24
      have e9 : τ1 (0, 31) p = σ (1, 9) p := (hm.2.2.1 p hp24).1
      have e31 : (upS τ1 (0, 30) p b) (0, 31) p = σ (1, 9) p := by rw [upS_ne (by decide)]; exact e9
      have ec : (upS σ (1, 8) p b) (1, 9) p = σ (1, 9) p := by rw [upS_ne (by decide)]
      have e30 : τ1 (0, 30) p = σ (1, 8) p := (hm.1.2.1 p hp24).1
      rw [e31, ec, e30]
      refine ⟨σ (1, 8) p, _, _, rfl, rfl, ?_⟩
      · have hj := jm_mem10 _ h9.1 b hb10
        refine hR.upN ((FC1.up 8 p b).trans (FC1.up 9 p _)) ((FM1.up p b (by decide)).trans (FM1.up p _ (by decide))) ⟨?_, ?_⟩
        · rw [hv_up (by decide), hv_up (by decide)]
          refine ⟨WFs_9 (WFs_8 hw.1 hb10) _ _, ?_, hw.2.2⟩
          intro q hq
          show upd (hv σ 1 9) p _ q ∈ l10 ∧ upd (hv σ 1 9) p _ q ≤ upd (hv σ 1 8) p b q
          by_cases c : q = p
          · subst c; rw [pk_us, pk_us]; exact hj
          · rw [pk_un c, pk_un c]; exact hw.2.1 q hq
        · rw [hv_up (by decide), hv_up (by decide)]
          exact (hm.up (m := 8) (by decide) p b).up (m := 9) (by decide) p _
    · rw [e', if_neg h1, if_neg (by decide)]; (obtain ⟨σ', τ', e1, e2, h⟩ := refuse_4 hR; exact ⟨_, σ', τ', by rw [e1, bd_some], by rw [e2, bd_some], h⟩)
    · rw [e', if_pos h1, if_neg h2, if_neg (by decide)]; (obtain ⟨σ', τ', e1, e2, h⟩ := refuse_6 hR; exact ⟨_, σ', τ', by rw [e1, bd_some], by rw [e2, bd_some], h⟩)
theorem E_awning_R : E_awning Rel := by
  intro a b σ τ hR0
  have hR := hR0.thrown
  unfold f_X6_awning f_X7_awning f_X7_awning_25 f_X7_wrongNumber
  rw [bv_eq (upS τ (0, 29) 18 0)]
  generalize upS τ (0, 29) 18 0 = τ1 at hR ⊢
  have hc := CS1 σ
  have hw := hR.1.1
  have hm := hR.1.2
  rw [c_place hc, bd_some, r_place hm.1, bd_some]
  rcases p_cases hw.1 a with e | ⟨p, hp, hp24, e⟩
  · rw [e, if_neg hn1, if_neg hn1, if_neg hn1]; (obtain ⟨σ', τ', e1, e2, h⟩ := refuse1 hR; exact ⟨_, σ', τ', by rw [e1, bd_some], by rw [e2, bd_some], h⟩)
  · have h0 : (0 : Int32) ≤ nI p := nI_pos' (by omega)
    rw [e, if_pos h0, if_pos h0, bd_some]
    rcases wn_cases b (-1) 1 with ⟨⟨h1, h2⟩, e'⟩ | ⟨h1, e'⟩ | ⟨h1, h2, e'⟩
    · have hb := inb24 hp24
      have cl : (nI p).toNatClampNeg = p := nI_clamp (by omega)
      rw [e', if_pos h1, if_pos h2, if_pos (by decide), e_get_nI (n := 24) _ rfl hp24, bd_some, e_set_nI (n := 24) _ rfl hp24, bd_some, chk_t hb, bv_eq, chk_t hb, bv_eq, cl]
      refine ⟨σ (1, 10) p + 1, _, _, rfl, ?_, hR.up (m := 10) (m' := 32) (by decide) (by decide) (by decide) p b ⟨WFs_10 hw.1 (l3_of h1 h2), hw.2⟩⟩
      rw [(hm.1.2.1 p hp24).2.1, Int32.add_comm]; rfl
    · rw [e', if_neg h1, if_neg (by decide)]; (obtain ⟨σ', τ', e1, e2, h⟩ := refuse_4 hR; exact ⟨_, σ', τ', by rw [e1, bd_some], by rw [e2, bd_some], h⟩)
    · rw [e', if_pos h1, if_neg h2, if_neg (by decide)]; (obtain ⟨σ', τ', e1, e2, h⟩ := refuse_6 hR; exact ⟨_, σ', τ', by rw [e1, bd_some], by rw [e2, bd_some], h⟩)
theorem E_wash_R : E_wash Rel := by
  intro a b c σ τ hR0
  have hR := hR0.thrown
  unfold f_X6_wash f_X6_wash_32 f_X6_wash_52 f_X7_wash
  rw [bv_eq (upS τ (0, 29) 18 0)]
  generalize upS τ (0, 29) 18 0 = τ1 at hR ⊢
  have hc := CS1 σ
  have hw := hR.1.1
  have hm := hR.1.2
  rw [c_place hc, bd_some, r_place hm.1, bd_some, bv_eq]
  rcases p_cases hw.1 a with e | ⟨p, hp, hp24, e⟩
  · rw [e, if_neg (by decide), if_neg (show ¬ (0 : Int32) ≤ -1 by decide), if_neg (by decide)]; (obtain ⟨σ', τ', e1, e2, h⟩ := refuse1 hR; exact ⟨_, σ', τ', by rw [e1, bd_some], by rw [e2, bd_some], h⟩)
  · have h0 : (0 : Int32) ≤ nI p := nI_pos' (by omega)
    rw [e, if_pos h0, if_pos h0]
    by_cases h1 : b < 0
    · rw [if_pos h1, if_pos h1, if_neg (by decide)]; (obtain ⟨σ', τ', e1, e2, h⟩ := refuse_4 hR; exact ⟨_, σ', τ', by rw [e1, bd_some], by rw [e2, bd_some], h⟩)
    · rw [if_neg h1, if_neg h1]
      by_cases h2 : 0 ≤ c
      · rw [if_pos h2, if_pos h2]
        by_cases h3 : 9 < b
        · rw [if_pos h3, if_pos h3, if_neg (by decide)]; (obtain ⟨σ', τ', e1, e2, h⟩ := refuse_6 hR; exact ⟨_, σ', τ', by rw [e1, bd_some], by rw [e2, bd_some], h⟩)
        · rw [if_neg h3, if_neg h3]
          by_cases h4 : c ≤ 255
          · have hb := inb24 hp24
            have cl : (nI p).toNatClampNeg = p := nI_clamp (by omega)
            rw [if_pos h4, if_pos h4, if_pos (by decide), e_get_nI (n := 24) _ rfl hp24, bd_some, f_X0_setWashing, e_set_nI (n := 24) _ rfl hp24, bd_some, e_set_nI (n := 24) _ rfl hp24, bd_some, bd_some, chk_t hb, bv_eq, chk_t hb, bv_eq, chk_t hb, bv_eq, cl]
            have e33 : τ1 (0, 33) p = σ (1, 11) p := (hm.1.2.1 p hp24).2.2.1
            rw [e33]
            refine ⟨σ (1, 11) p, _, _, rfl, rfl, ?_⟩
            · refine hR.upN ((FC1.up 11 p b).trans (FC1.up 12 p _)) ((FM1.up p b (by decide)).trans (FM1.up p _ (by decide))) ⟨?_, ?_⟩
              · rw [hv_up (by decide), hv_up (by decide)]
                exact ⟨WFs_12 (WFs_11 hw.1 (l10_of (by grind) (by grind))) _ _, hw.2⟩
              · rw [hv_up (by decide), hv_up (by decide)]
                exact (hm.up (m := 11) (by decide) p b).up (m := 12) (by decide) p _
          · rw [if_neg h4, if_neg h4, if_neg (by decide)]; (obtain ⟨σ', τ', e1, e2, h⟩ := refuse_6 hR; exact ⟨_, σ', τ', by rw [e1, bd_some], by rw [e2, bd_some], h⟩)
      · rw [if_neg h2, if_neg h2, if_neg (by decide)]; (obtain ⟨σ', τ', e1, e2, h⟩ := refuse_4 hR; exact ⟨_, σ', τ', by rw [e1, bd_some], by rw [e2, bd_some], h⟩)
theorem E_wind_R : E_wind Rel := by
  intro b σ τ hR0
  have hR := hR0.thrown
  unfold f_X6_wind f_X7_wind f_X7_wrongNumber
  rw [bv_eq (upS τ (0, 29) 18 0)]
  generalize upS τ (0, 29) 18 0 = τ1 at hR ⊢
  have hc := CS1 σ
  have hw := hR.1.1
  have hm := hR.1.2
  rw [bd_some, bd_some]
  rcases wn_cases b (-1) 1 with ⟨⟨h1, h2⟩, e'⟩ | ⟨h1, e'⟩ | ⟨h1, h2, e'⟩
  · rw [e', if_pos h1, if_pos h2, if_pos (by decide), bv_eq, bv_eq, bv_eq, bv_eq]
    have e2 : τ1 (0, 29) 2 = σ (1, 7) 2 := hm.1.1.2.2.1
    rw [e2, Int32.add_comm 1]
    refine ⟨σ (1, 7) 2 + 1, _, _, rfl, rfl, ?_⟩
    · refine hR.upN (FC1.up 7 2 b) (FM1.sl b (by decide)) ⟨?_, ?_⟩
      · rw [hv_up (by decide)]
        exact ⟨WFs_w hw.1 (l3_of h1 h2), hw.2⟩
      · rw [hv_up (by decide)]
        obtain ⟨⟨⟨a1, a2, a3, a4⟩, bb, cc, dd⟩, c1, c2, c3⟩ := hm
        refine ⟨⟨⟨?_, ?_, ?_, ?_⟩, ?_, ?_, ?_⟩, ?_, ?_, ?_⟩
        · rw [upS_off (by decide), uv_off (by decide)]; exact a1
        · rw [upS_off (by decide), uv_off (by decide)]; exact a2
        · rw [upS_at, uv_at]
        · rw [upS_off (by decide), uv_ne (by decide)]; exact a4
        · intro k hk; rw [upS_ne (by decide), upS_ne (by decide), upS_ne (by decide), upS_ne (by decide)]; exact bb k hk
        · intro k hk; rw [upS_ne (by decide)]; exact cc k hk
        · intro k hk; rw [upS_ne (by decide), upS_ne (by decide), upS_ne (by decide), upS_ne (by decide)]; exact dd k hk
        · rw [upS_off (by decide), uv_ne (by decide)]; exact c1
        · intro k hk; rw [upS_ne (by decide), upS_ne (by decide), upS_ne (by decide)]; exact c2 k hk
        · intro k hk; rw [upS_ne (by decide)]; exact c3 k hk
  · rw [e', if_neg h1, if_neg (by decide)]; (obtain ⟨σ', τ', e1, e2, h⟩ := refuse_4 hR; exact ⟨_, σ', τ', by rw [e1, bd_some], by rw [e2, bd_some], h⟩)
  · rw [e', if_pos h1, if_neg h2, if_neg (by decide)]; (obtain ⟨σ', τ', e1, e2, h⟩ := refuse_6 hR; exact ⟨_, σ', τ', by rw [e1, bd_some], by rw [e2, bd_some], h⟩)
