/-! ===== front ===== -/
theorem r_lay2 {τ : Sg} {v : Vw} (hw : WF v) (hI : shI (τ (0, 52)) v) : ∃ t, f_X7_carryAll (0, 52) 0 τ = some ((), t) ∧ FM1 τ t ∧ shM t v ∧ t (0, 49) = τ (0, 49) := by
  obtain ⟨t, e, h⟩ := ca_gen (K := 52) (CB_s (K := 52) (z := 1) rfl (by decide) (Or.inl rfl) τ) (Or.inl rfl) rfl (Or.inl rfl) τ (CB_0 τ)
  refine ⟨t, e, CB_fm h, CB_sh hw hI h, ?_⟩
  obtain ⟨_, _, _, _, h5⟩ := h
  funext j
  exact h5 49 j (by omega) (by omega)
theorem r_take2 {τ : Sg} {v : Vw} (hm : shM τ v) : ∃ t, f_X7_carryAll (0, 52) 1 τ = some ((), t) ∧ FM τ t ∧ shI (t (0, 52)) v ∧ t (0, 29) 29 = τ (0, 29) 29 ∧ t (0, 49) = τ (0, 49) ∧ t (0, 50) = τ (0, 50) ∧ t (0, 51) = τ (0, 51) := by
  obtain ⟨t, e, h⟩ := ca_gen (K := 52) (CT_s (K := 52) (z := 1) rfl (by decide) (Or.inl rfl) τ) (Or.inl rfl) rfl (Or.inr rfl) τ (CT_0 (by decide) τ)
  refine ⟨t, e, CT_fm h, CT_sh hm h, ?_⟩
  obtain ⟨_, _, _, _, h5⟩ := h
  refine ⟨h5 29 29 (by decide) (by decide), ?_, ?_, ?_⟩
  · funext j; exact h5 49 j (by decide) (by omega)
  · funext j; exact h5 50 j (by decide) (by omega)
  · funext j; exact h5 51 j (by decide) (by omega)
theorem LC.f3 {s s' : Sg} {ℓ : Nat → Int32} {n : Nat} (H : LC s ℓ n) (h : FC3 s s') : LC s' ℓ n := by
  obtain ⟨h1, h2, h3, h4⟩ := H
  exact ⟨by rw [h _ (by show (0 : Nat) ≠ 3; decide)]; exact h1, h2, fun j hj => by rw [h _ (by show (0 : Nat) ≠ 3; decide)]; exact h3 j hj, h4⟩
theorem tell_skip {s : Sg} {ℓ : Nat → Int32} {n : Nat} (H : LC s ℓ n) (v : Int32) (m : Nat) : ∀ d i, (∀ x, i ≤ x → x < i + d → x < n ∧ ∃ y, x = y + 1 ∧ ¬ ℓ y = 59) → f_X4_tell_4 3 (m + d) v (nI i) s = f_X4_tell_4 3 m v (nI (i + d)) s := by
  have hn := H.2.1
  intro d
  induction d with
  | zero => intro i _; rfl
  | succ d ih =>
    intro i hx
    obtain ⟨hi, y, rfl, hy⟩ := hx i (Nat.le_refl i) (by omega)
    have nxt := ih (y + 1 + 1) (fun x h1 h2 => hx x (by omega) (by omega))
    rw [show m + (d + 1) = m + d + 1 by omega, f_X4_tell_4, H.1, if_neg (nI_ge hi (by omega)), if_neg (fun q => by have := (nI_eq (b := 0) (by omega) (by decide)).mp q; omega), nI_pred, c_letter H (by omega), bd_some, if_neg hy, f_X4_tell_46, nI_1, nxt, show y + 1 + 1 + d = y + 1 + (d + 1) by omega]
theorem phase2 {s0 t0 : Sg} {ℓ : Nat → Int32} {n K : Nat} {A : Nat → Nat} {v : Vw} (hv' : WF v) (hI : shI (t0 (0, 52)) v) (h29 : t0 (0, 29) 29 = nI K) (hst : ST ℓ t0 A K) (hAK : A K = n) (hK : K ≤ 32) : ∀ d j m m' s t, j + d = K → n - A j < m → d < m' → LC s ℓ n → R3 s t → FC3 s0 s → CF t0 t → ∃ r s' t', f_X4_tell_4 3 m (nI j) (nI (A j)) s = some (r, s') ∧ f_X7_front_84 m' (nI j) t = some (r, t') ∧ FC3 s0 s' ∧ ((0 ≤ r ∧ R3 s' t' ∧ FM1 t0 t') ∨ (r < 0 ∧ FM1 t0 t' ∧ shM t' v)) := by
  have cfm : ∀ t, CF t0 t → FM1 t0 t := fun t h => ⟨fun k hk => h.1 k (by simp only [List.mem_cons, List.not_mem_nil, or_false] at hk; omega), fun m hm => h.2 m (by simp only [List.mem_cons, List.not_mem_nil, or_false] at hm; omega) (by simp only [List.mem_cons, List.not_mem_nil, or_false] at hm; omega)⟩
  intro d
  induction d with
  | zero =>
    intro j m m' s t hj hm hm' H h3 hf hcf
    obtain ⟨m, rfl⟩ : ∃ k, m = k + 1 := ⟨m - 1, by omega⟩
    obtain ⟨m', rfl⟩ : ∃ k, m' = k + 1 := ⟨m' - 1, by omega⟩
    have : j = K := by omega
    subst this
    have hn := H.2.1
    have e29 : t (0, 29) 29 = nI j := by rw [hcf.1 29 (by decide)]; exact h29
    refine ⟨nI j, s, t, ?_, ?_, hf, Or.inl ⟨nI_pos' (by omega), h3, cfm t hcf⟩⟩
    · rw [f_X4_tell_4, H.1, hAK, if_pos (nI_le (Nat.le_refl n) (by omega))]
    · rw [f_X7_front_84, e29, if_pos (nI_le (Nat.le_refl j) (by omega))]
  | succ d ih =>
    intro j m m' s t hj hm hm' H h3 hf hcf
    obtain ⟨m, rfl⟩ : ∃ k, m = k + 1 := ⟨m - 1, by omega⟩
    obtain ⟨m', rfl⟩ : ∃ k, m' = k + 1 := ⟨m' - 1, by omega⟩
    have hn := H.2.1
    have hjK : j < K := by omega
    obtain ⟨hpe, w49, w50, war⟩ := hst.2 j hjK
    have hp1 : (PE ℓ (A j)).1 = true := by rw [hpe]
    obtain ⟨e, he, hae, h59, hno⟩ := PE_NS hp1
    have he2 : A (j + 1) = e + 1 := by rw [hpe] at he; exact he
    have hen : e < n := by
      rcases Nat.lt_or_ge e n with c | c
      · exact c
      · rw [H.2.2.2 e c] at h59; exact absurd h59 (by decide)
    have e29 : t (0, 29) 29 = nI K := by rw [hcf.1 29 (by decide)]; exact h29
    have e49 : t (0, 49) j = nI (A j) := by rw [hcf.2 49 (by decide) (by decide)]; exact w49
    have e50 : t (0, 50) j = ℓ (A j) := by rw [hcf.2 50 (by decide) (by decide)]; exact w50
    have ear : AR ℓ t j (A j) := by
      have := hcf.2 51 (by decide) (by decide)
      unfold AR at war ⊢
      rw [this]; exact war
    have hj49 : inb (nI j) 49 := vp_in_nI (by omega) (by decide)
    have hcj : (nI j).toNatClampNeg = j := nI_clamp (by omega)
    obtain ⟨r, s1, t1, e1, e2, hf1, hcf1, hr⟩ := co_both H h3 (PE_GD hp1) ear e50 (show j < 49 by omega) (show A j < 1000 by omega)
    have start : f_X4_tell_4 3 (m + 1) (nI j) (nI (A j)) s = f_X4_tell_28 3 (f_X4_tell_4 3 m) (nI j) (nI (A j)) s := by
      rw [f_X4_tell_4, H.1, if_neg (nI_ge (show A j < n by omega) (by omega))]
      by_cases c : A j = 0
      · rw [if_pos (by rw [c]; rfl)]
      · have hj0 : j ≠ 0 := fun q => c (by rw [q]; exact hst.1)
        obtain ⟨i, rfl⟩ : ∃ i, j = i + 1 := ⟨j - 1, by omega⟩
        obtain ⟨hpe', _⟩ := hst.2 i (by omega)
        obtain ⟨e', h1', _, h59', _⟩ := PE_NS (show (PE ℓ (A i)).1 = true by rw [hpe'])
        have hA : A (i + 1) = e' + 1 := by rw [hpe'] at h1'; exact h1'
        rw [if_neg (fun q => by have := (nI_eq (b := 0) (by omega) (by decide)).mp q; omega), hA, nI_pred, c_letter H (by omega), bd_some, if_pos h59']
    rw [start, f_X4_tell_28, e1, bd_some, f_X7_front_84, e29, if_neg (nI_ge hjK (by omega)), e2, bd_some]
    rcases hr with rfl | ⟨rfl, hr⟩
    · rw [if_pos rfl, if_pos rfl]
      have hcf2 := hcf.trans hcf1
      have hI1 : shI (t1 (0, 52)) v := by rw [hcf2.2 52 (by decide) (by decide)]; exact hI
      obtain ⟨t2, g1, g2, g3, g4⟩ := r_lay2 hv' hI1
      have e49' : t2 (0, 49) j = nI (A j) := by rw [g4, hcf1.2 49 (by decide) (by decide)]; exact e49
      rw [g1, bd_some, chk_t hj49, hcj, e49']
      refine ⟨_, s1, t2, rfl, rfl, hf.trans hf1, Or.inr ⟨?_, (cfm t1 hcf2).trans g2, g3⟩⟩
      have h0 : (0 : Int32) ≤ nI (A j) := nI_pos' (by omega)
      have h1 : nI (A j) ≤ nI 1000 := nI_le (by omega) (by decide)
      change nI (A j) ≤ 1000 at h1
      generalize nI (A j) = x at h0 h1 ⊢
      grind
    · rw [if_neg h10, if_neg h10, f_X4_tell_46, nI_1, nI_1]
      have sk := tell_skip (H.f3 hf1) (nI (j + 1)) (m - (e - A j)) (e - A j) (A j + 1) (fun x h1 h2 => ⟨by omega, x - 1, by omega, hno (x - 1) (by omega) (by omega)⟩)
      rw [show m - (e - A j) + (e - A j) = m by omega, show A j + 1 + (e - A j) = A (j + 1) by omega] at sk
      rw [sk]
      exact ih (j + 1) (m - (e - A j)) m' s1 t1 (by omega) (by omega) (by omega) (H.f3 hf1) hr (hf.trans hf1) (hcf.trans hcf1)
theorem FR_rel {σ τ1 T' : Sg} {q : Nat} {b : Int32} (hR : Rel σ τ1) (hf : FR0 (upS τ1 (0, 29) 29 0) T') : Rel (upS σ (0, 4) 1 0) (upS (pt T' q b) (0, 29) 26 0) := by
  have es : ∀ j, j ≠ 26 → j ≠ 27 → j ≠ 28 → j ≠ 29 → (upS (pt T' q b) (0, 29) 26 0) (0, 29) j = τ1 (0, 29) j := fun j h1 h2 h3 h4 => by
    rw [upS_off h1, pt_s h2 h3, hf.1 j h4, upS_off h4]
  have em : ∀ m, m ≠ 29 → m ≠ 49 → m ≠ 50 → m ≠ 51 → (upS (pt T' q b) (0, 29) 26 0) (0, m) = τ1 (0, m) := fun m h1 h2 h3 h4 => by
    rw [upS_ne (cne h1), pt_m (cne h1), hf.2 _ (cne h1) (cne h2) (cne h3) (cne h4), upS_ne (cne h1)]
  refine hR.upT (fun c h => by rw [upS_ne (fun e => h (by rw [e]))]) (by rw [upS_ne (by decide)]) (fun k hk => ?_) (fun m hm => ?_) ⟨⟨0, by decide, upS_at, upS_at, fun j hj => absurd hj (Nat.not_lt_zero _)⟩, ?_, ?_⟩
  · simp only [List.mem_cons, List.not_mem_nil, or_false] at hk
    exact es k (by omega) (by omega) (by omega) (by omega)
  · simp only [List.mem_cons, List.not_mem_nil, or_false] at hm
    exact em m (by omega) (by omega) (by omega) (by omega)
  · rw [upS_ne (show ((0, 0) : Nat × Nat) ≠ (0, 4) by decide), upS_ne (show ((0, 1) : Nat × Nat) ≠ (0, 4) by decide), es 42 (by decide) (by decide) (by decide) (by decide), em 56 (by decide) (by decide) (by decide) (by decide)]
    exact hR.2.1.2.1
  · rw [upS_ne (by decide), em 43 (by decide) (by decide) (by decide) (by decide)]
    exact hR.2.1.2.2
theorem E_front_R : E_front Rel := by
  intro σ τ hR0
  have hR := hR0.thrown
  unfold f_X6_front f_X7_front
  rw [bv_eq (upS τ (0, 29) 18 0)]
  generalize upS τ (0, 29) 18 0 = τ1 at hR ⊢
  have hc := CS1 σ
  have hw := hR.1.1
  have hm := hR.1.2
  obtain ⟨n, hn, en, em, ej⟩ := hR.2.1.1
  have hL : LC σ (fun j => if j < n then σ (0, 5) j else -1) n := ⟨en, hn, fun j hj => (if_pos hj).symm, fun j hj => if_neg (by omega)⟩
  have hT : LR (upS τ1 (0, 29) 29 0) (fun j => if j < n then σ (0, 5) j else -1) n := ⟨by rw [upS_off (by decide)]; exact em, hn, fun j hj => by rw [upS_ne (by decide)]; exact (ej j hj).symm.trans (if_pos hj).symm, fun j hj => if_neg (by omega)⟩
  generalize (fun j => if j < n then σ (0, 5) j else -1) = ℓ at hL hT
  have est : upS (upS (upS τ1 (0, 29) 27 0) (0, 29) 28 0) (0, 29) 29 0 = pt (upS τ1 (0, 29) 29 0) 0 0 := pt_29u (T := τ1) (q := 0) (b := 0) (by decide) (by decide)
  have start : f_X4_formFault σ = f_X4_formFault_4 fuel (nI 0) (nI 0) σ := rfl
  rw [start, bv_eq, bv_eq, bv_eq, est]
  have neg : ∀ q, q < 2000 → (-1000 : Int32) - nI q < 0 := fun q hq => by
    have h0 : (0 : Int32) ≤ nI q := nI_pos' (by omega)
    have h1 : nI q ≤ nI 2000 := nI_le (by omega) (by decide)
    change nI q ≤ 2000 at h1
    generalize nI q = x at h0 h1 ⊢
    grind
  rcases phase1 (T0 := upS τ1 (0, 29) 29 0) hL 96 0 0 fuel fuel (fun _ => 0) (upS τ1 (0, 29) 29 0) (by omega) (Or.inr rfl) (by omega) (by omega) (by decide) (by decide) hT upS_at ⟨fun _ _ => rfl, fun _ _ _ _ _ => rfl⟩ ⟨rfl, fun j hj => absurd hj (Nat.not_lt_zero j)⟩ rfl with ⟨q, T', hq, e1, e2, hf⟩ | ⟨K, A, T', e1, e2, hf, h29, hst, hAK, hK⟩
  · have hrel : Rel (upS σ (0, 4) 1 0) (upS (pt T' q 1) (0, 29) 26 0) := FR_rel hR hf
    rw [e1, bd_some, bv_eq, if_pos (nI_pos' (show q < 2 ^ 31 by omega)), f_X6_front_41, if_pos (neg q hq), f_X6_front_56, bv_eq, e2, f_X7_front_52, bv_eq, upS_off (show 28 ≠ 26 by decide), pt_28, if_neg h10, upS_off (show 27 ≠ 26 by decide), pt_27]
    exact ⟨_, _, _, rfl, rfl, hrel⟩
  · have hrel : Rel (upS σ (0, 4) 1 0) (upS (pt T' n 0) (0, 29) 26 0) := FR_rel hR hf
    obtain ⟨s0, c0, ve, a0⟩ := c_copy (h := 3) (g := 1) (by decide) σ
    have hva : hv (upS σ (0, 4) 1 0) 1 = hv σ 1 := hv_eq (fun m _ => upS_ne (cneh (by decide)))
    have hma : shM (upS (pt T' n 0) (0, 29) 26 0) (hv σ 1) := by have := hrel.1.2; rw [hva] at this; exact this
    obtain ⟨t0, g0, fm0, hI0, k29, k49, k50, k51⟩ := r_take2 hma
    have t29 : t0 (0, 29) 29 = nI K := by rw [k29, upS_off (by decide), pt_s (by decide) (by decide)]; exact h29
    have tr : ∀ m, m ≠ 29 → (upS (pt T' n 0) (0, 29) 26 0) (0, m) = T' (0, m) := fun m h => by rw [upS_ne (cne h), pt_m (cne h)]
    have hst0 : ST ℓ t0 A K := ⟨hst.1, fun j hj => by
      obtain ⟨r1, r2, r3, r4⟩ := hst.2 j hj
      refine ⟨r1, by rw [k49, tr 49 (by decide)]; exact r2, by rw [k50, tr 50 (by decide)]; exact r3, ?_⟩
      unfold AR at r4 ⊢
      rw [k51, tr 51 (by decide)]; exact r4⟩
    have h3 : R3 s0 t0 := ⟨hw.ve ve, (fm0.shM hma).ve ve hw⟩
    obtain ⟨r, s', t', w1, w2, w3, w4⟩ := phase2 (s0 := σ) hw hI0 t29 hst0 hAK hK K 0 fuel fuel s0 t0 (by omega) (by have := hst.1; show _ < 2000; omega) (by show _ < 2000; omega) (hL.f3 (fun c hc => a0 c hc)) h3 (fun c hc => a0 c hc) (CF.refl t0)
    rw [hst.1] at w1
    have fc : ∀ s'' : Sg, (∀ c : Nat × Nat, c.1 ≠ 1 → c.1 ≠ 3 → s'' c = σ c) → FC1 (upS σ (0, 4) 1 0) (upS s'' (0, 4) 1 0) := fun s'' h c h1 h2 _ => by
      by_cases q : c = (0, 4)
      · subst q
        funext j
        by_cases qj : j = 1
        · subst qj; rw [upS_at, upS_at]
        · rw [upS_off qj, upS_off qj, h _ h1 h2]
      · rw [upS_ne q, upS_ne q]; exact h c h1 h2
    have hfm : FM1 (upS (pt T' n 0) (0, 29) 26 0) t0 := fm0.FM1
    rw [e1, bd_some, bv_eq, if_neg hn1, c0, bd_some, f_X4_tell, show f_X4_tell_4 3 fuel 0 0 s0 = some (r, s') from w1, bd_some, e2, f_X7_front_52, bv_eq, upS_off (show 28 ≠ 26 by decide), pt_28, if_pos rfl, g0, bd_some, show f_X7_front_84 fuel 0 t0 = some (r, t') from w2, f_X6_front_41]
    rcases w4 with ⟨r0, hr3, hfm2⟩ | ⟨r0, hfm2, hsh⟩
    · obtain ⟨s2, c2, ve2, a2⟩ := c_copy (h := 1) (g := 3) (by decide) s'
      rw [if_neg (show ¬ r < 0 by generalize r = x at r0 ⊢; grind), c2, bd_some, f_X6_front_56, bv_eq]
      have hv2 : hv (upS s2 (0, 4) 1 0) 1 = hv s2 1 := hv_eq (fun m _ => upS_ne (cneh (by decide)))
      refine ⟨r, _, t', rfl, rfl, hrel.upN (fc s2 (fun c h1 h2 => by rw [a2 c h1, w3 c h2])) (hfm.trans hfm2) ⟨?_, ?_⟩⟩
      · rw [hv2]; exact hr3.1.ve ve2
      · rw [hv2]; exact hr3.2.ve ve2 hr3.1
    · rw [if_pos r0, f_X6_front_56, bv_eq]
      have hv2 : hv (upS s' (0, 4) 1 0) 1 = hv σ 1 := by
        rw [hv_eq (σ := s') (fun m _ => upS_ne (cneh (by decide))), w3.hv]
      refine ⟨r, _, t', rfl, rfl, hrel.upN (fc s' (fun c _ h2 => w3 c h2)) (hfm.trans hfm2) ⟨?_, ?_⟩⟩
      · rw [hv2]; exact hw
      · rw [hv2]; exact hsh
