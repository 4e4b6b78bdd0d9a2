/-! ===== hours, hang, big, leads, whose, deal, pays, worth ===== -/
theorem e_copyG {i j : Nat × Nat} (ha : alen i = alen j) (σ : Sg) : ∃ σ', f_X6_copy i j σ = some ((), σ') ∧ (∀ k, k < alen j → σ' j k = σ i k) ∧ (∀ c, c ≠ j → σ' c = σ c) := by
  have hl := alen_1000 j
  have hj : jmin (Int32.ofNat (alen i)) (Int32.ofNat (alen j)) = nI (alen j) := by
    rw [ha]
    show jmin (nI (alen j)) (nI (alen j)) = _
    rw [jm_nI (by omega) (by omega), Nat.min_self]
  refine ⟨upA σ j (va_cpy (σ i) (σ j) 0 0 (alen j)), ?_, ?_, fun c hc => upA_ne _ _ hc⟩
  · unfold f_X6_copy
    rw [chk_t (by rw [hj, nI_clamp (by omega), ha]; exact ⟨nI_pos (by omega), Nat.le_refl _, Nat.le_refl _⟩), bv_eq, hj, nI_clamp (by omega)]
    rfl
  · intro k hk
    rw [upA_same, pk_cpy_in (Nat.zero_le k) (by omega)]
    congr 1; omega
theorem c_set_wk {σ s : Sg} {m k : Nat} {x : Int32} (hw : WF (hv σ 1)) (hf : FC σ s) (hm : m ≠ 9) (hS : WFs (uv (hv σ 1) m k x)) (hh : okh (uv (hv σ 1) m k x) (hv σ 1 9)) : ∃ s0 s1, f_X6_tryAnew s = some ((), s0) ∧ f_X2_spendWeek 3 (upS s0 (3, m) k x) = some (wr (uv (hv σ 1) m k x) (hv σ 1), s1) ∧ (∀ t, t < 24 → s1 (3, 23) t = wd (uv (hv σ 1) m k x) (hv σ 1) t) ∧ FC3 s s1 := by
  obtain ⟨s0, e0, a1, a2, a3⟩ := c_anew s
  rw [hf.hv] at a1 a2
  obtain ⟨s1, e1, b1, _, _, b2⟩ := c_wk3 (w := hv σ 1) hS (a1.up m k x) (fun p hp => by rw [upS_ne (cne (fun e => hm e.symm))]; exact a2 p hp) hh
  refine ⟨s0, s1, e0, e1, b1, fun c hc => ?_⟩
  rw [b2 c hc, upS_ne (fun e => hc (by rw [e])), a3 c hc]
theorem FC.f3 {σ s s' : Sg} (h : FC σ s) (h' : FC3 s s') : FC σ s' := h.trans h'.FC
theorem c_asis {σ s : Sg} (hw : WF (hv σ 1)) (hf : FC σ s) : ∃ s', f_X6_tryAsIs s = some (wr (hv σ 1) (hv σ 1), s') ∧ (∀ t, t < 24 → s' (0, 3) t = wd (hv σ 1) (hv σ 1) t) ∧ (∀ t, t < 24 → s' (3, 23) t = wd (hv σ 1) (hv σ 1) t) ∧ FC σ s' := by
  obtain ⟨s0, e0, a1, a2, a3⟩ := c_anew s
  rw [hf.hv] at a1 a2
  obtain ⟨s1, e1, b1, _, _, b2⟩ := c_wk3 (w := hv σ 1) hw.1 a1 a2 hw.2.1
  obtain ⟨s2, e2, d1, d2⟩ := e_copyG (i := (3, 23)) (j := (0, 3)) rfl s1
  refine ⟨s2, ?_, fun t ht => by rw [d1 t ht]; exact b1 t ht, fun t ht => by rw [d2 _ (by decide)]; exact b1 t ht, fun c h1 h2 h3 => by rw [d2 c h2, b2 c h1, a3 c h1]; exact hf c h1 h2 h3⟩
  unfold f_X6_tryAsIs
  rw [e0, bd_some, e1, bd_some, e2, bd_some]
theorem r_wkX {X : Nat → Nat → Prop} {τ t : Sg} {v v' : Vw} (hm : shM τ v) (hf : FXo X τ t) (hr : RS t v') (hx : ∀ j, ¬ X 31 j) (hS : WFs v') (hh : okh v' (v 9)) : ∃ t', f_X7_oneWeek t = some (wr v' v, t') ∧ (∀ u, u < 24 → t' (0, 45) u = wd v' v u) ∧ FXo X τ t' ∧ RS t' v' ∧ RF t t' := by
  obtain ⟨t', e, a, b⟩ := r_wk (w := v) hS hr (fun p hp => by rw [hf.2 31 (by decide) p (hx p)]; exact (hm.2.2.1 p hp).1) hh
  exact ⟨t', e, a, hf.fm b.FM, b.RS hr, b⟩
theorem m1lt : (-1 : Int32) < 0 := by decide
theorem not_lt_nI {n : Nat} (h : n < 2 ^ 31) : ¬ nI n < 0 := nI_pos h
theorem E_least_R : E_least Rel := by
  intro a b σ τ hR0
  have hR := hR0.thrown
  unfold f_X6_least f_X6_least_30 f_X7_least f_X7_least_23
  rw [bv_eq (upS τ (0, 29) 18 0)]
  generalize upS τ (0, 29) 18 0 = τ1 at hR ⊢
  have hc := CS1 σ
  have hw := hR.1.1
  have hm := hR.1.2
  rw [c_hab hc hw.1, bd_some, r_hab hm.1 hw.1, bd_some]
  rcases h_cases hw.1 a with ⟨i, hi, hi8, rfl, e⟩ | e
  · rw [e, if_neg h10, if_neg h10, in5 b 1 1 τ1 rfl, bd_some, if01]
    have hii : inb (nI i) 8 := vp_in_nI hi8 (by decide)
    have cl : (nI i).toNatClampNeg = i := nI_clamp (by omega)
    have hS := fun q (hq : q < 8) => WFs_19 (i := i) hw.1 (l8_of hq)
    have ct : ∀ s q, q < 8 → FC σ s → ∃ s1, f_X6_tryHour (nI i) (nI q) s = some (wr (uv (hv σ 1) 19 i (nI q)) (hv σ 1), s1) ∧ FC σ s1 := fun s q hq hf => by
      obtain ⟨s0, s1, e0, e1, _, f1⟩ := c_set_wk (m := 19) (k := i) (x := nI q) hw hf (by decide) (hS q hq) hw.2.1
      refine ⟨s1, ?_, hf.f3 f1⟩
      unfold f_X6_tryHour
      rw [e0, bd_some, e_set_nI (n := 8) _ rfl hi8, bd_some, e1, bd_some]
    have key : ∀ d q n m best few s t, q + d = 8 → d < n → d < m → FC σ s → FXo (fun m j => m = 42 ∧ j = i) τ1 t → (∃ y, RS t (uv (hv σ 1) 19 i y)) → ¬ best < 0 → ∃ r s' t', f_X6_least_43 n (nI i) b best few (nI q) s = some (r, s') ∧ f_X7_least_58 m (nI i) b (hv σ 1 19 i) best few (nI q) t = some (r, t') ∧ FC σ s' ∧ FM τ1 t' := by
      intro d
      induction d with
      | zero =>
        intro q n m best few s t hq hn' hm' hf hx _ _
        obtain ⟨n, rfl⟩ : ∃ k, n = k + 1 := ⟨n - 1, by omega⟩
        obtain ⟨m, rfl⟩ : ∃ k, m = k + 1 := ⟨m - 1, by omega⟩
        have : q = 8 := by omega
        subst this
        refine ⟨if b = 0 then best else few, s, upS t (0, 42) i (hv σ 1 19 i), ?_, ?_, hf, (hx.up ⟨rfl, rfl⟩ (by decide) _).back ?_⟩
        · rw [f_X6_least_43, if_pos (by decide)]
        · rw [f_X7_least_58, if_pos (by decide), chk_t hii, bv_eq, cl]
        · rintro m' _ j ⟨rfl, rfl⟩
          rw [upS_at]; exact (hm.1.2.2.2 j hi8).2.2.2.symm
      | succ d ih =>
        intro q n m best few s t hq hn' hm' hf hx ⟨y, hy⟩ hbest
        obtain ⟨n, rfl⟩ : ∃ k, n = k + 1 := ⟨n - 1, by omega⟩
        obtain ⟨m, rfl⟩ : ∃ k, m = k + 1 := ⟨m - 1, by omega⟩
        have hq8 : q < 8 := by omega
        obtain ⟨s1, e1, f1⟩ := ct s q hq8 hf
        have hy' := hy.up (m' := 42) (m := 19) (by decide) i (nI q)
        rw [uv_uv] at hy'
        obtain ⟨t1, e2, _, x1, r1, _⟩ := r_wkX hm (hx.up (m := 42) (i := i) ⟨rfl, rfl⟩ (by decide) (nI q)) hy' (fun j h => absurd h.1 (by decide)) (hS q hq8) hw.2.1
        rw [f_X6_least_43, if_neg (show ¬ (8 : Int32) ≤ nI q from nI_ge hq8 (by decide)), e1, bd_some, f_X7_least_58, if_neg (show ¬ (8 : Int32) ≤ nI q from nI_ge hq8 (by decide)), chk_t hii, bv_eq, cl, e2, bd_some, bv_eq, bv_eq, bv_eq, if_neg hbest]
        unfold f_X6_least_73
        rw [nI_1]
        by_cases c : few ≤ wr (uv (hv σ 1) 19 i (nI q)) (hv σ 1)
        · rw [if_pos c, if_pos c, if_pos rfl, if_pos rfl]
          exact ih (q + 1) n m _ _ s1 t1 (by omega) (by omega) (by omega) f1 x1 ⟨_, r1⟩ hbest
        · rw [if_neg c, if_neg c, if_neg h10, if_neg h10]
          exact ih (q + 1) n m _ _ s1 t1 (by omega) (by omega) (by omega) f1 x1 ⟨_, r1⟩ (nI_pos (by omega))
    have main : ∃ r s' t', (bd (f_X6_tryHour (nI i) 0 σ) (fun x9 t10 => f_X6_least_43 fuel (nI i) b 0 x9 1 t10)) = some (r, s') ∧ (chk (inb (nI i) 8) (bv (τ1 (0, 42) (nI i).toNatClampNeg) (fun x19 => f_X7_least_58 fuel (nI i) b x19 (-1) 0 0 τ1))) = some (r, t') ∧ Rel s' t' := by
      obtain ⟨s1, e1, f1⟩ := ct σ 0 (by decide) (FC.refl σ)
      have hy' := hm.1.up (m' := 42) (m := 19) (by decide) i (nI 0)
      obtain ⟨t1, e2, _, x1, r1, _⟩ := r_wkX hm ((FXo.refl (fun m j => m = 42 ∧ j = i) τ1).up (m := 42) (i := i) ⟨rfl, rfl⟩ (by decide) (nI 0)) hy' (fun j h => absurd h.1 (by decide)) (hS 0 (by decide)) hw.2.1
      obtain ⟨r, s', t', g1, g2, g3, g4⟩ := key 7 1 fuel 1999 (nI 0) (wr (uv (hv σ 1) 19 i (nI 0)) (hv σ 1)) s1 t1 rfl (by decide) (by decide) f1 x1 ⟨_, r1⟩ (by decide)
      have e42 : τ1 (0, 42) i = hv σ 1 19 i := (hm.1.2.2.2 i hi8).2.2.2
      refine ⟨r, s', t', ?_, ?_, hR.fr g3 g4⟩
      · change bd (f_X6_tryHour (nI i) (nI 0) σ) _ = _
        rw [e1, bd_some]; exact g1
      · rw [chk_t hii, bv_eq, cl, e42, show fuel = 1999 + 1 from rfl, f_X7_least_58, if_neg (by decide), chk_t hii, bv_eq, cl]
        change bd (f_X7_oneWeek (upS τ1 (0, 42) i (nI 0))) _ = _
        rw [e2, bd_some, bv_eq, bv_eq, bv_eq, if_pos m1lt, if_neg h10, if_neg h10]
        exact g2
    obtain ⟨r, s', t', g1, g2, g3⟩ := main
    by_cases b0 : b = 0
    · rw [if_pos b0, if_pos (by rw [b0]; decide)]; exact ⟨r, s', t', g1, g2, g3⟩
    · by_cases b1 : b = 1
      · rw [if_neg b0, if_pos b1, if_pos (by rw [b1]; decide)]; exact ⟨r, s', t', g1, g2, g3⟩
      · rw [if_neg b0, if_neg b1, if_neg (by grind), r_hab hm.1 hw.1, bd_some, e, if_neg h10]; (obtain ⟨σ', τ', e1, e2, h⟩ := refuse_2 hR; exact ⟨_, σ', τ', by rw [e1, bd_some], by rw [e2, bd_some], h⟩)
  · rw [e, if_pos rfl, if_pos rfl, r_hab hm.1 hw.1, bd_some, e, if_pos rfl]; (obtain ⟨σ', τ', e1, e2, h⟩ := refuse1 hR; exact ⟨_, σ', τ', by rw [e1, bd_some], by rw [e2, bd_some], h⟩)
