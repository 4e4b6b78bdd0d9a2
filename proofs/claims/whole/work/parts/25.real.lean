/-! ===== a week that is real ===== -/
theorem RS_of' {τ τ' : Sg} {v : Vw} (H : RS τ v) (e0 : ∀ k, k ∈ [0, 1, 2, 4] → τ' (0, 29) k = τ (0, 29) k) (e : ∀ m, m ∈ rsL → τ' (0, m) = τ (0, m)) : RS τ' v := by
  unfold RS at H ⊢
  rw [e0 0 (by decide), e0 1 (by decide), e0 2 (by decide), e0 4 (by decide), e 30 (by decide), e 32 (by decide), e 33 (by decide), e 34 (by decide), e 35 (by decide), e 39 (by decide), e 40 (by decide), e 41 (by decide), e 42 (by decide)]
  exact H
/-- what keeping a week does to the reference's rows -/
def KW (τ : Sg) (w : Vw) (τ' : Sg) : Prop := (∀ p, p < 24 → τ' (0, 31) p = w 9 p) ∧ (∀ t, t < 24 → τ' (0, 36) t = jmin 99999 (τ (0, 36) t + w 23 t)) ∧ (∀ t u, t < 24 → u < 24 → τ' (0, 38) (24 * t + u) = jmin 999 (τ (0, 38) (24 * t + u) + w 46 (24 * t + u))) ∧ (∀ t, t < 24 → τ' (0, 37) t = orb (fun u => w 46 (24 * t + u)) 24) ∧ τ' (0, 29) 3 = τ (0, 29) 3 + 1 ∧ (∀ k, k ≠ 3 → τ' (0, 29) k = τ (0, 29) k) ∧ (∀ c : Nat × Nat, c ≠ (0, 29) → c ≠ (0, 31) → c ≠ (0, 36) → c ≠ (0, 37) → c ≠ (0, 38) → τ' c = τ c)
theorem r_keep {τ : Sg} {w : Vw} (hd' : RD τ w) : ∃ τ', f_X7_keepWeek τ = some ((), τ') ∧ KW τ w τ' := by
  -- the second loop, and its inner one
  have outer : ∀ d t n s, t + d = 24 → d < n → ((∀ p, p < 24 → s (0, 31) p = w 9 p) ∧ (∀ r, r < 24 → s (0, 36) r = if r < t then jmin 99999 (τ (0, 36) r + w 23 r) else τ (0, 36) r) ∧ (∀ r u, r < 24 → u < 24 → s (0, 38) (24 * r + u) = if r < t then jmin 999 (τ (0, 38) (24 * r + u) + w 46 (24 * r + u)) else τ (0, 38) (24 * r + u)) ∧ (∀ r, r < t → s (0, 37) r = orb (fun u => w 46 (24 * r + u)) 24) ∧ (∀ k, τ (0, 29) k = s (0, 29) k) ∧ (∀ c : Nat × Nat, c ≠ (0, 29) → c ≠ (0, 31) → c ≠ (0, 36) → c ≠ (0, 37) → c ≠ (0, 38) → s c = τ c)) → ∃ r τ', f_X7_keepWeek_28 n (nI t) s = some (r, τ') ∧ KW τ w τ' := by
    intro d
    induction d with
    | zero =>
      intro t n s ht hn ⟨i1, i2, i3, i4, i5, i6⟩
      obtain ⟨n, rfl⟩ : ∃ k, n = k + 1 := ⟨n - 1, by omega⟩
      have : t = 24 := by omega
      subst this
      refine ⟨(), upS s (0, 29) 3 (s (0, 29) 3 + 1), ?_, ?_, ?_, ?_, ?_, ?_, ?_, ?_⟩
      · rw [f_X7_keepWeek_28, if_pos (by decide), bv_eq]
      · intro p hp; rw [upS_ne (by decide)]; exact i1 p hp
      · intro r hr; rw [upS_ne (by decide), i2 r hr, if_pos hr]
      · intro r u hr hu; rw [upS_ne (by decide), i3 r u hr hu, if_pos hr]
      · intro r hr; rw [upS_ne (by decide)]; exact i4 r hr
      · rw [upS_at, i5]
      · intro k hk; rw [upS_off hk, i5]
      · intro c c1 c2 c3 c4 c5; rw [upS_ne c1]; exact i6 c c1 c2 c3 c4 c5
    | succ d ih =>
      intro t n s ht hn ⟨i1, i2, i3, i4, i5, i6⟩
      obtain ⟨n, rfl⟩ : ∃ k, n = k + 1 := ⟨n - 1, by omega⟩
      have ht24 : t < 24 := by omega
      have hb := inb24 ht24
      have cl : (nI t).toNatClampNeg = t := nI_clamp (by omega)
      have s45 : s (0, 45) t = w 23 t := by rw [i6 _ (by decide) (by decide) (by decide) (by decide) (by decide)]; exact hd'.2.1 t ht24
      have s36 : s (0, 36) t = τ (0, 36) t := by rw [i2 t ht24, if_neg (Nat.lt_irrefl t)]
      rw [f_X7_keepWeek_28, if_neg (show ¬ (24 : Int32) ≤ nI t from nI_ge ht24 (by decide)), chk_t hb, chk_t hb, e_lesser, bd_some, chk_t hb, bv_eq, chk_t hb, bv_eq, cl, jm_lesser, s45, s36]
      have inner : ∀ e u m s1, u + e = 24 → e < m → ((∀ p, p < 24 → s1 (0, 31) p = w 9 p) ∧ (∀ r, r < 24 → s1 (0, 36) r = if r < t + 1 then jmin 99999 (τ (0, 36) r + w 23 r) else τ (0, 36) r) ∧ (∀ r u', r < 24 → u' < 24 → s1 (0, 38) (24 * r + u') = if 24 * r + u' < 24 * t + u then jmin 999 (τ (0, 38) (24 * r + u') + w 46 (24 * r + u')) else τ (0, 38) (24 * r + u')) ∧ (∀ r, r < t → s1 (0, 37) r = orb (fun u => w 46 (24 * r + u)) 24) ∧ s1 (0, 37) t = orb (fun u => w 46 (24 * t + u)) u ∧ (∀ k, τ (0, 29) k = s1 (0, 29) k) ∧ (∀ c : Nat × Nat, c ≠ (0, 29) → c ≠ (0, 31) → c ≠ (0, 36) → c ≠ (0, 37) → c ≠ (0, 38) → s1 c = τ c)) → ∃ r τ', f_X7_keepWeek_67 (f_X7_keepWeek_28 n) m (nI t) (nI u) s1 = some (r, τ') ∧ KW τ w τ' := by
        intro e
        induction e with
        | zero =>
          intro u m s1 hu hm ⟨j1, j2, j3, j4, j5, j6, j7⟩
          obtain ⟨m, rfl⟩ : ∃ k, m = k + 1 := ⟨m - 1, by omega⟩
          have : u = 24 := by omega
          subst this
          rw [f_X7_keepWeek_67, if_pos (by decide), nI_1]
          refine ih (t + 1) n s1 (by omega) (by omega) ⟨j1, j2, ?_, ?_, j6, j7⟩
          · intro r u' hr hu'
            rw [j3 r u' hr hu']
            by_cases c : r < t + 1
            · rw [if_pos c, if_pos (by omega)]
            · rw [if_neg c, if_neg (by omega)]
          · intro r hr
            by_cases c : r = t
            · subst c; exact j5
            · exact j4 r (by omega)
        | succ e ihe =>
          intro u m s1 hu hm ⟨j1, j2, j3, j4, j5, j6, j7⟩
          obtain ⟨m, rfl⟩ : ∃ k, m = k + 1 := ⟨m - 1, by omega⟩
          have hu24 : u < 24 := by omega
          have hix : 24 * t + u < 576 := by omega
          have hbi : inb (nI (24 * t + u)) 576 := vp_in_nI hix (by decide)
          have s46 : s1 (0, 46) (24 * t + u) = w 46 (24 * t + u) := by rw [j7 _ (by decide) (by decide) (by decide) (by decide) (by decide)]; exact hd'.2.2 _ hix
          have s38 : s1 (0, 38) (24 * t + u) = τ (0, 38) (24 * t + u) := by rw [j3 t u ht24 hu24, if_neg (Nat.lt_irrefl _)]
          have hne : (upS s1 (0, 38) (24 * t + u) (jmin 999 (τ (0, 38) (24 * t + u) + w 46 (24 * t + u)))) (0, 37) t = s1 (0, 37) t := by rw [upS_ne (by decide)]
          rw [f_X7_keepWeek_67, if_neg (show ¬ (24 : Int32) ≤ nI u from nI_ge hu24 (by decide)), ix24', chk_t hbi, bv_eq, chk_t hbi, e_lesser, bd_some, chk_t hbi, bv_eq, chk_t hb, chk_t hb, bv_eq, cl, show (nI (24 * t + u)).toNatClampNeg = 24 * t + u from nI_clamp (by omega), jm_lesser, s46, s38, hne, nI_1]
          refine ihe (u + 1) m _ (by omega) (by omega) ⟨?_, ?_, ?_, ?_, ?_, ?_, ?_⟩
          · intro p hp; rw [upS_ne (by decide), upS_ne (by decide)]; exact j1 p hp
          · intro r hr; rw [upS_ne (by decide), upS_ne (by decide)]; exact j2 r hr
          · intro r u' hr hu'
            rw [upS_ne (by decide)]
            by_cases c : 24 * r + u' = 24 * t + u
            · rw [c, upS_at, if_pos (by omega)]
            · rw [upS_off c, j3 r u' hr hu']
              by_cases c2 : 24 * r + u' < 24 * t + u
              · rw [if_pos c2, if_pos (by omega)]
              · rw [if_neg c2, if_neg (by omega)]
          · intro r hr; rw [upS_off (by omega), upS_ne (by decide)]; exact j4 r hr
          · rw [upS_at, orb, j5]
          · intro k; rw [upS_ne (by decide), upS_ne (by decide)]; exact j6 k
          · intro c c1 c2 c3 c4 c5; rw [upS_ne c4, upS_ne c5]; exact j7 c c1 c2 c3 c4 c5
      refine inner 24 0 fuel _ rfl (by decide) ⟨?_, ?_, ?_, ?_, ?_, ?_, ?_⟩
      · intro p hp; rw [upS_ne (by decide), upS_ne (by decide)]; exact i1 p hp
      · intro r hr
        rw [upS_ne (by decide)]
        by_cases c : r = t
        · subst c; rw [upS_at, if_pos (by omega)]
        · rw [upS_off c, i2 r hr]
          by_cases c2 : r < t
          · rw [if_pos c2, if_pos (by omega)]
          · rw [if_neg c2, if_neg (by omega)]
      · intro r u' hr hu'
        rw [upS_ne (by decide), upS_ne (by decide), i3 r u' hr hu']
        by_cases c2 : r < t
        · rw [if_pos c2, if_pos (by omega)]
        · rw [if_neg c2, if_neg (by omega)]
      · intro r hr; rw [upS_off (by omega), upS_ne (by decide)]; exact i4 r hr
      · rw [upS_at]; rfl
      · intro k; rw [upS_ne (by decide), upS_ne (by decide)]; exact i5 k
      · intro c c1 c2 c3 c4 c5; rw [upS_ne c4, upS_ne c3]; exact i6 c c1 c2 c3 c4 c5
  obtain ⟨r, s', e, h⟩ := lp (fun n (a : Int32) s => f_X7_keepWeek_2 n a s) (fun k a s => a = nI k ∧ (∀ j, j < k → s (0, 31) j = w 9 j) ∧ (∀ c, c ≠ (0, 31) → s c = τ c)) (fun _ s => KW τ w s) 24
    (fun k n a s hk hI => by
      obtain ⟨rfl, h1, h2⟩ := hI
      have hb := inb24 hk
      have e44 : s (0, 44) k = w 9 k := by rw [h2 _ (by decide)]; exact hd'.1 k hk
      refine Or.inl ⟨nI (k + 1), upS s (0, 31) k (w 9 k), ?_, rfl, ?_, ?_⟩
      · show f_X7_keepWeek_2 (n + 1) (nI k) s = _
        rw [f_X7_keepWeek_2, if_neg (show ¬ (24 : Int32) ≤ nI k from nI_ge hk (by decide)), chk_t hb, chk_t hb, bv_eq, nI_1, nI_clamp (by omega), e44]
      · intro j hj
        by_cases e : j = k
        · subst e; exact upS_at
        · rw [upS_off e]; exact h1 j (by omega)
      · intro c hc; rw [upS_ne hc]; exact h2 c hc)
    (fun n a s hI => by
      obtain ⟨rfl, h1, h2⟩ := hI
      obtain ⟨r, τ', e, h⟩ := outer 24 0 fuel s rfl (by decide) ⟨h1, fun r hr => by rw [if_neg (Nat.not_lt_zero _), h2 _ (by decide)], fun r u hr hu => by rw [if_neg (Nat.not_lt_zero _), h2 _ (by decide)], fun r hr => absurd hr (Nat.not_lt_zero _), fun k => by rw [h2 _ (by decide)], fun c c1 c2 c3 c4 c5 => h2 c c2⟩
      refine ⟨r, τ', ?_, h⟩
      show f_X7_keepWeek_2 (n + 1) (nI 24) s = _
      rw [f_X7_keepWeek_2, if_pos (by decide)]
      exact e)
    24 0 rfl fuel (nI 0) τ (by decide) ⟨rfl, fun j hj => absurd hj (Nat.not_lt_zero _), fun _ _ => rfl⟩
  exact ⟨s', e, h⟩
theorem jm_ex {M a b : Nat} (hM : M < 2 ^ 20) (ha : a < 2 ^ 20) (hb : b < 2 ^ 20) : ∃ c, c ≤ M ∧ jmin (nI M) (nI a + nI b) = nI c := ⟨min M (a + b), Nat.min_le_left _ _, by rw [nI_add, jm_nI (by omega) (by omega)]⟩
/-- a week that both keep: the house's view behind it -/
theorem week_both {h : Nat} {σ : Sg} {τ : Sg} (hw : WF (hv σ h)) (hcs : CS h σ (hv σ h)) (hm : shM τ (hv σ h)) (hwk : ∃ a, a ≤ 9998 ∧ hv σ h 6 4 = nI a) : ∃ r σ' τ1 τ', f_X2_spendWeek h σ = some (r, σ') ∧ f_X7_oneWeek τ = some (r, τ1) ∧ f_X7_keepWeek τ1 = some ((), τ') ∧ WF (hv σ' h) ∧ CS h σ' (hv σ' h) ∧ shM τ' (hv σ' h) ∧ hv σ' h 6 4 = hv σ h 6 4 + 1 ∧ (∀ c : Nat × Nat, c.1 ≠ h → σ' c = σ c) ∧ (∀ k, k ∈ [26, 35, 42] → τ' (0, 29) k = τ (0, 29) k) ∧ (∀ m, m ∈ [43, 48, 52, 53, 56] → τ' (0, m) = τ (0, m)) := by
  obtain ⟨r, σ', e1, q1, q2, q3, q4, q5⟩ := c_week (w := hv σ h) hw.1 hcs (fun _ _ => rfl) hw.2.1
  obtain ⟨τ1, e2, rd, rf⟩ := r_one (w := hv σ h) hw.1 hm.1 (fun p hp => (hm.2.2.1 p hp).1) hw.2.1
  obtain ⟨τ', e3, k1, k2, k3, k4, k5, k6, k7⟩ := r_keep rd
  have hwk' := wkS_ok hw.1 (w := hv σ h) hw.2.1
  have hrow : ∀ m, m ≠ 9 → m ≠ 6 → m < 20 → hv σ' h m = hv σ h m := fun m h1 h2 h3 => by unfold hv; rw [q4 m h1 h2 h3]
  obtain ⟨l9, l23, l20, lok, l24⟩ := q2
  have hok : OKL (σ (h, 21)) (σ (h, 22)) := hw.2.2.1
  obtain ⟨l21, l22⟩ := lok hok
  have hS : WFs (hv σ' h) := WFs_rows (fun m hm' => hrow m (by simp only [List.mem_cons, List.not_mem_nil, or_false] at hm'; omega) (by simp only [List.mem_cons, List.not_mem_nil, or_false] at hm'; omega) (by simp only [List.mem_cons, List.not_mem_nil, or_false] at hm'; omega)) hw.1
  have f1 : ∀ m, m ≠ 29 → m ≠ 31 → m ≠ 36 → m ≠ 37 → m ≠ 38 → m ≠ 44 → m ≠ 45 → m ≠ 46 → m ≠ 47 → τ' (0, m) = τ (0, m) := fun m n1 n2 n3 n4 n5 n6 n7 n8 n9 => by rw [k7 _ (cne n1) (cne n2) (cne n3) (cne n4) (cne n5), rf.2 _ (cne n1) (cne n6) (cne n7) (cne n8) (cne n9)]
  have f2 : ∀ k, k ≠ 3 → k ≠ 24 → τ' (0, 29) k = τ (0, 29) k := fun k h1 h2 => by rw [k6 k h1, rf.1 k h2]
  refine ⟨r, σ', τ1, τ', e1, ?_, e3, ⟨hS, ?_, ⟨?_, ?_⟩, ?_⟩, ?_, ⟨?_, ?_, ?_, ?_⟩, q3, q5, ?_, ?_⟩
  · rw [e2, q1]
  · intro p hp
    have h8 : hv σ' h 8 p = hv σ h 8 p := by rw [hrow 8 (by decide) (by decide) (by decide)]
    have h9 : hv σ' h 9 p = wkS (hv σ h) (hv σ h) 9 p := l9 p hp
    rw [h8, h9]; exact hwk'.2 p hp
  · intro t ht
    obtain ⟨a, ha, ea⟩ := hok.1 t ht
    obtain ⟨b, hb, eb⟩ := hwk'.1.1 t ht
    have h21 : hv σ' h 21 t = jmin (nI 99999) (nI a + nI b) := by rw [← ea, ← eb]; exact l21 t ht
    rw [h21]; exact jm_ex (by decide) (by omega) (by omega)
  · intro k hk
    obtain ⟨a, ha, ea⟩ := hok.2 k hk
    obtain ⟨b, hb, eb⟩ := hwk'.1.2 k hk
    have hkk : k = 24 * (k / 24) + k % 24 := by omega
    have h22 : hv σ' h 22 k = jmin (nI 999) (nI a + nI b) := by
      rw [← ea, ← eb]
      have := l22 (k / 24) (k % 24) (by omega) (by omega)
      rw [← hkk] at this; exact this
    rw [h22]; exact jm_ex (by decide) (by omega) (by omega)
  · obtain ⟨a, ha, ea⟩ := hwk
    refine ⟨a + 1, by omega, ?_⟩
    have : hv σ' h 6 4 = hv σ h 6 4 + 1 := q3
    rw [this, ea, nI_1]
  · exact ⟨⟨rfl, rfl, rfl, rfl⟩, fun _ _ => ⟨rfl, rfl, rfl, rfl, rfl, rfl⟩, fun _ _ => ⟨rfl, rfl, rfl, rfl⟩⟩
  · refine RS_of' (RS_rows (v := hv σ h) (fun m hm' => hrow m (by simp only [List.mem_cons, List.not_mem_nil, or_false] at hm'; omega) (by simp only [List.mem_cons, List.not_mem_nil, or_false] at hm'; omega) (by simp only [List.mem_cons, List.not_mem_nil, or_false] at hm'; omega)) hm.1) ?_ ?_
    · intro k hk
      simp only [List.mem_cons, List.not_mem_nil, or_false] at hk
      exact f2 k (by omega) (by omega)
    · intro m hm'
      simp only [List.mem_cons, List.not_mem_nil, or_false] at hm'
      exact f1 m (by omega) (by omega) (by omega) (by omega) (by omega) (by omega) (by omega) (by omega) (by omega)
  · have : hv σ' h 6 4 = hv σ h 6 4 + 1 := q3
    rw [k5, rf.1 3 (by decide), hm.2.1, this]
  · intro p hp
    refine ⟨?_, ?_, ?_⟩
    · rw [k1 p hp]; exact (l9 p hp).symm
    · rw [k2 p hp, rf.2 _ (by decide) (by decide) (by decide) (by decide) (by decide), (hm.2.2.1 p hp).2.1]; exact (l21 p hp).symm
    · rw [k4 p hp]; exact (l24 p hp).symm
  · intro k hk
    have hkk : k = 24 * (k / 24) + k % 24 := by omega
    have e38 := k3 (k / 24) (k % 24) (by omega) (by omega)
    have e22 := l22 (k / 24) (k % 24) (by omega) (by omega)
    rw [← hkk] at e38 e22
    rw [e38, rf.2 _ (by decide) (by decide) (by decide) (by decide) (by decide), hm.2.2.2 k hk]; exact e22.symm
  · intro k hk
    exact f2 k (by simp only [List.mem_cons, List.not_mem_nil, or_false] at hk; omega) (by simp only [List.mem_cons, List.not_mem_nil, or_false] at hk; omega)
  · intro m hm'
    simp only [List.mem_cons, List.not_mem_nil, or_false] at hm'
    exact f1 m (by omega) (by omega) (by omega) (by omega) (by omega) (by omega) (by omega) (by omega) (by omega)
theorem E_week_R : E_week Rel := by
  intro σ τ hR0
  have hR := hR0.thrown
  unfold f_X6_week f_X7_week
  rw [bv_eq (upS τ (0, 29) 18 0)]
  generalize upS τ (0, 29) 18 0 = τ1 at hR ⊢
  have hc := CS1 σ
  have hw := hR.1.1
  have hm := hR.1.2
  obtain ⟨a, ha, ea⟩ := hw.2.2.2
  have e6 : σ (1, 6) 4 = nI a := ea
  have e3 : τ1 (0, 29) 3 = nI a := by rw [hm.2.1]; exact ea
  rw [e6, e3]
  by_cases h : a < 9999
  · rw [if_pos (show nI a < 9999 from nI_lt h (by decide)), if_neg (show ¬ nI a = 9999 from fun e => by have := (nI_eq (b := 9999) (by omega) (by decide)).mp e; omega)]
    obtain ⟨r, σ', τ2, τ3, e1, e2, e3, w1, w2, w3, w4, w5, w6, w7⟩ := week_both hw hc hm ⟨a, by omega, ea⟩
    rw [e1, bd_some, e2, bd_some, e3, bd_some]
    refine ⟨r, σ', τ3, rfl, rfl, hR.upN (fun c h1 _ _ => w5 c h1) ⟨w6, fun m hm' => w7 m ?_⟩ ⟨w1, w3⟩⟩
    simp only [List.mem_cons, List.not_mem_nil, or_false] at hm' ⊢
    omega
  · have : a = 9999 := by omega
    subst this
    rw [if_neg (by decide), if_pos (by decide)]; (obtain ⟨σ', τ', e1, e2, h⟩ := refuse_6 hR; exact ⟨_, σ', τ', by rw [e1, bd_some], by rw [e2, bd_some], h⟩)
