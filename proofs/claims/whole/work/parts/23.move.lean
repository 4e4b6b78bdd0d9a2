/-! ===== move, rain, feed, row, count ===== -/
def chg (v : Vw) (a b pa pb : Nat) : Vw := uv (uv (uv (uv v 14 a (nI pb)) 13 pb (nI a)) 14 b (nI pa)) 13 pa (nI b)
theorem chg_14 (v : Vw) (a b pa pb : Nat) : chg v a b pa pb 14 = upd (upd (v 14) a (nI pb)) b (nI pa) := rfl
theorem chg_13 (v : Vw) (a b pa pb : Nat) : chg v a b pa pb 13 = upd (upd (v 13) pb (nI a)) pa (nI b) := rfl
theorem WFs_chg {v : Vw} (H : WFs v) {a b pa pb : Nat} (ha : a < tn v) (hb : b < tn v) (hab : a ≠ b) (hpa : vp v pa) (ea : v 14 a = nI pa) (ea' : v 13 pa = nI a) (hpb : vp v pb) (eb : v 14 b = nI pb) (eb' : v 13 pb = nI b) : WFs (chg v a b pa pb) := by
  have ht := (tn24 H).1
  have hne : pa ≠ pb := fun e => hab (by subst e; exact nI_inj24 (by omega) (by omega) (ea'.symm.trans eb'))
  obtain ⟨a1, a2, a3, a4, a5, a6⟩ := H
  refine ⟨a1, a2, ?_, ?_, a5, a6⟩
  · intro t ht'
    change t < tn v at ht'
    show ∃ p, vp v p ∧ chg v a b pa pb 14 t = nI p ∧ chg v a b pa pb 13 p = nI t
    rw [chg_14, chg_13]
    by_cases c1 : t = b
    · subst c1
      exact ⟨pa, hpa, by rw [pk_us], by rw [pk_us]⟩
    · by_cases c2 : t = a
      · subst c2
        exact ⟨pb, hpb, by rw [pk_un c1, pk_us], by rw [pk_un hne.symm, pk_us]⟩
      · obtain ⟨p, hp, e1, e2⟩ := a3 t ht'
        refine ⟨p, hp, by rw [pk_un c1, pk_un c2, e1], ?_⟩
        rw [pk_un, pk_un, e2]
        · intro e; subst e; exact c1 (nI_inj24 (by omega) (by omega) (e2.symm.trans eb'))
        · intro e; subst e; exact c2 (nI_inj24 (by omega) (by omega) (e2.symm.trans ea'))
  · intro p hp
    change vp v p at hp
    show ∃ t, t < tn v ∧ chg v a b pa pb 13 p = nI t ∧ chg v a b pa pb 14 t = nI p
    rw [chg_14, chg_13]
    by_cases c1 : p = pa
    · subst c1
      exact ⟨b, hb, by rw [pk_us], by rw [pk_us]⟩
    · by_cases c2 : p = pb
      · subst c2
        exact ⟨a, ha, by rw [pk_un c1, pk_us], by rw [pk_un hab, pk_us]⟩
      · obtain ⟨t, ht', e1, e2⟩ := a4 p hp
        refine ⟨t, ht', by rw [pk_un c1, pk_un c2, e1], ?_⟩
        rw [pk_un, pk_un, e2]
        · intro e; subst e; exact c1 (nI_inj24 hp.1 hpa.1 (e2.symm.trans ea))
        · intro e; subst e; exact c2 (nI_inj24 hp.1 hpb.1 (e2.symm.trans eb))
theorem c_change {h : Nat} {σ : Sg} {v : Vw} {a b pa pb : Nat} (hc : CS h σ v) (ha : a < 24) (hb : b < 24) (hab : a ≠ b) (hpa : pa < 24) (hpb : pb < 24) (ea : v 14 a = nI pa) (eb : v 14 b = nI pb) : f_X0_change h (nI a) (nI b) σ = some ((), upS (upS (upS (upS σ (h, 14) a (nI pb)) (h, 13) pb (nI a)) (h, 14) b (nI pa)) (h, 13) pa (nI b)) := by
  have e1 : σ (h, 14) a = nI pa := by rw [(hc.2.1 a ha).2.2.2.2.2]; exact ea
  have e2 : σ (h, 14) b = nI pb := by rw [(hc.2.1 b hb).2.2.2.2.2]; exact eb
  unfold f_X0_change f_X0_settle
  rw [e_get_nI (n := 24) _ rfl ha, bd_some, e_get_nI (n := 24) _ rfl hb, bd_some, e1, e2, e_set_nI (n := 24) _ rfl ha, bd_some, e_set_nI (n := 24) _ rfl hpb, bd_some, bd_some, e_set_nI (n := 24) _ rfl hb, bd_some, e_set_nI (n := 24) _ rfl hpa, bd_some, bd_some]
theorem r_change {τ : Sg} {v : Vw} {a b pa pb : Nat} (hr : RS τ v) (hat : a < tn v) (hbt : b < tn v) (ha : a < 24) (hb : b < 24) (ea : v 14 a = nI pa) (eb : v 14 b = nI pb) : f_X7_change (nI a) (nI b) τ = some ((), upS (upS τ (0, 35) a (nI pb)) (0, 35) b (nI pa)) := by
  have e1 : τ (0, 35) (nI a).toNatClampNeg = nI pa := by rw [nI_clamp (by omega), hr.2.2.1 a hat]; exact ea
  have e2 : τ (0, 35) (nI b).toNatClampNeg = nI pb := by rw [nI_clamp (by omega), hr.2.2.1 b hbt]; exact eb
  unfold f_X7_change
  rw [e1, e2, chk_t (inb24 ha), bv_eq, chk_t (inb24 hb), chk_t (inb24 ha), bv_eq, chk_t (inb24 hb), bv_eq, nI_clamp (by omega), nI_clamp (by omega)]
theorem CS.chg {h : Nat} {σ : Sg} {v : Vw} (hc : CS h σ v) (a b pa pb : Nat) : CS h (upS (upS (upS (upS σ (h, 14) a (nI pb)) (h, 13) pb (nI a)) (h, 14) b (nI pa)) (h, 13) pa (nI b)) (chg v a b pa pb) := (((hc.up 14 a _).up 13 pb _).up 14 b _).up 13 pa _
theorem RS.chg {τ : Sg} {v : Vw} (hr : RS τ v) (a b pa pb : Nat) : RS (upS (upS τ (0, 35) a (nI pb)) (0, 35) b (nI pa)) (chg v a b pa pb) := (hr.up (m := 14) (by decide) a (nI pb)).up (m := 14) (by decide) b (nI pa)
theorem E_move_R : E_move Rel := by
  intro a b σ τ hR0
  have hR := hR0.thrown
  unfold f_X6_move f_X6_move_21 f_X7_move f_X7_areTenants
  rw [bv_eq (upS τ (0, 29) 18 0)]
  generalize upS τ (0, 29) 18 0 = τ1 at hR ⊢
  have hc := CS1 σ
  have hw := hR.1.1
  have hm := hR.1.2
  rw [c_ten hc hw.1, bd_some, r_ten hm.1 hw.1, bd_some]
  rcases t_cases hw.1 a with ⟨t, ht, ht24, rfl, e⟩ | e
  · rw [e, if_neg h10, if_neg h10, c_ten hc hw.1, bd_some, r_ten hm.1 hw.1, bd_some]
    rcases t_cases hw.1 b with ⟨u, hu, hu24, rfl, e'⟩ | e'
    · rw [e', if_neg h10, if_neg h10]
      by_cases h : nI t = nI u
      · rw [if_pos h, if_pos h, bd_some, if_pos rfl]; (obtain ⟨σ', τ', e1, e2, h⟩ := refuse1 hR; exact ⟨_, σ', τ', by rw [e1, bd_some], by rw [e2, bd_some], h⟩)
      · have htu : t ≠ u := fun e => h (by rw [e])
        obtain ⟨pa, hpa, ea, ea'⟩ := hw.1.2.2.1 t ht
        obtain ⟨pb, hpb, eb, eb'⟩ := hw.1.2.2.1 u hu
        have er : (upS (upS τ1 (0, 35) t (nI pb)) (0, 35) u (nI pa)) (0, 35) (nI t).toNatClampNeg = nI pb := by rw [nI_clamp (by omega), upS_off htu, upS_at]
        have es : (upS (upS (upS (upS σ (1, 14) t (nI pb)) (1, 13) pb (nI t)) (1, 14) u (nI pa)) (1, 13) pa (nI u)) (1, 14) t = nI pb := by rw [upS_ne (by decide), upS_off htu, upS_ne (by decide), upS_at]
        rw [if_neg h, if_neg h, bd_some, if_neg h10, c_change hc ht24 hu24 htu hpa.1 hpb.1 ea eb, bd_some, e_get_nI (n := 24) _ rfl ht24, bd_some, f_X0_flatAt, bd_some, r_change hm.1 ht hu ht24 hu24 ea eb, bd_some, chk_t (inb24 ht24), f_X7_toldAs, bd_some, er, es, told_eq]
        refine ⟨_, _, _, rfl, rfl, ?_⟩
        refine hR.upN ((((FC1.up 14 t _).trans (FC1.up 13 pb _)).trans (FC1.up 14 u _)).trans (FC1.up 13 pa _)) ((FM1.up t _ (by decide)).trans (FM1.up u _ (by decide))) ⟨?_, ?_⟩
        · rw [hv_up (by decide), hv_up (by decide), hv_up (by decide), hv_up (by decide)]
          exact ⟨WFs_chg hw.1 ht hu htu hpa ea ea' hpb eb eb', hw.2⟩
        · rw [hv_up (by decide), hv_up (by decide), hv_up (by decide), hv_up (by decide)]
          exact (hm.up (m := 14) (by decide) t (nI pb)).up (m := 14) (by decide) u (nI pa)
    · rw [e', if_pos rfl, if_pos rfl, bd_some, if_pos rfl]; (obtain ⟨σ', τ', e1, e2, h⟩ := refuse1 hR; exact ⟨_, σ', τ', by rw [e1, bd_some], by rw [e2, bd_some], h⟩)
  · rw [e, if_pos rfl, if_pos rfl, bd_some, if_pos rfl]; (obtain ⟨σ', τ', e1, e2, h⟩ := refuse1 hR; exact ⟨_, σ', τ', by rw [e1, bd_some], by rw [e2, bd_some], h⟩)
theorem e_sum (i : Nat × Nat) (σ : Sg) : f_X6_sum i σ = some (sm (σ i) (alen i), σ) := by
  have hl := alen_1000 i
  have key : ∀ d t n, t + d = alen i → d < n → f_X6_sum_4 i n (sm (σ i) t) (nI t) σ = some (sm (σ i) (alen i), σ) := by
    intro d
    induction d with
    | zero =>
      intro t n e hn
      obtain ⟨n, rfl⟩ : ∃ k, n = k + 1 := ⟨n - 1, by omega⟩
      have : t = alen i := by omega
      rw [this, f_X6_sum_4, if_pos (show Int32.ofNat (alen i) ≤ nI (alen i) from nI_le (Nat.le_refl _) (by omega))]
    | succ d ih =>
      intro t n e hn
      obtain ⟨n, rfl⟩ : ∃ k, n = k + 1 := ⟨n - 1, by omega⟩
      have hb : inb (nI t) (alen i) := vp_in_nI (by omega) (by omega)
      rw [f_X6_sum_4, if_neg (show ¬ Int32.ofNat (alen i) ≤ nI t from nI_ge (by omega) (by omega)), chk_t hb, bv_eq, nI_clamp (by omega), nI_1]
      exact ih (t + 1) n (by omega) (by omega)
  unfold f_X6_sum
  exact key (alen i) 0 fuel (by omega) (by show _ < 2000; omega)
theorem r_sumOf (i : Nat × Nat) (N : Int32) (τ : Sg) (hN : N = nI (alen i)) : f_X7_sumOf i N τ = some (sm (τ i) (alen i), τ) := by
  subst hN
  have hl := alen_1000 i
  have key : ∀ d t n, t + d = alen i → d < n → f_X7_sumOf_4 i n (nI (alen i)) (sm (τ i) t) (nI t) τ = some (sm (τ i) (alen i), τ) := by
    intro d
    induction d with
    | zero =>
      intro t n e hn
      obtain ⟨n, rfl⟩ : ∃ k, n = k + 1 := ⟨n - 1, by omega⟩
      have : t = alen i := by omega
      rw [this, f_X7_sumOf_4, if_pos (nI_le (Nat.le_refl _) (by omega))]
    | succ d ih =>
      intro t n e hn
      obtain ⟨n, rfl⟩ : ∃ k, n = k + 1 := ⟨n - 1, by omega⟩
      have hb : inb (nI t) (alen i) := vp_in_nI (by omega) (by omega)
      rw [f_X7_sumOf_4, if_neg (nI_ge (by omega) (by omega)), chk_t hb, bv_eq, nI_clamp (by omega), nI_1]
      exact ih (t + 1) n (by omega) (by omega)
  unfold f_X7_sumOf
  exact key (alen i) 0 fuel (by omega) (by show _ < 2000; omega)
theorem r_rain (τ : Sg) : ∃ τ', f_X7_rain_9 fuel 0 0 τ = some (sm (τ (0, 31)) 24, τ') ∧ (∀ k, k < 24 → τ' (0, 31) k = 0) ∧ (∀ c, c ≠ (0, 31) → τ' c = τ c) := by
  obtain ⟨r, s', e, h1, h2, h3⟩ := lp (fun n (a : Int32 × Int32) s => f_X7_rain_9 n a.1 a.2 s) (fun k a s => a = (sm (τ (0, 31)) k, nI k) ∧ (∀ j, j < k → s (0, 31) j = 0) ∧ (∀ j, k ≤ j → s (0, 31) j = τ (0, 31) j) ∧ (∀ c, c ≠ (0, 31) → s c = τ c)) (fun r s => r = sm (τ (0, 31)) 24 ∧ (∀ k, k < 24 → s (0, 31) k = 0) ∧ (∀ c, c ≠ (0, 31) → s c = τ c)) 24
    (fun k n a s hk hI => by
      obtain ⟨rfl, h1, h2, h3⟩ := hI
      refine Or.inl ⟨(sm (τ (0, 31)) (k + 1), nI (k + 1)), upS s (0, 31) k 0, ?_, rfl, ?_, ?_, ?_⟩
      · show f_X7_rain_9 (n + 1) (sm (τ (0, 31)) k) (nI k) s = _
        have hb : inb (nI k) 24 := inb24 hk
        rw [f_X7_rain_9, if_neg (show ¬ (24 : Int32) ≤ nI k from nI_ge hk (by decide)), chk_t hb, bv_eq, chk_t hb, bv_eq, nI_1, nI_clamp (by omega), h2 k (Nat.le_refl k)]
        rfl
      · intro j hj
        by_cases e : j = k
        · subst e; exact upS_at
        · rw [upS_off e]; exact h1 j (by omega)
      · intro j hj; rw [upS_off (by omega)]; exact h2 j (by omega)
      · intro c hc; rw [upS_ne hc]; exact h3 c hc)
    (fun n a s hI => by
      obtain ⟨rfl, h1, h2, h3⟩ := hI
      refine ⟨_, s, ?_, rfl, h1, h3⟩
      show f_X7_rain_9 (n + 1) (sm (τ (0, 31)) 24) (nI 24) s = _
      rw [f_X7_rain_9, if_pos (by decide)])
    24 0 rfl fuel (0, 0) τ (by decide) ⟨rfl, fun j hj => absurd hj (Nat.not_lt_zero _), fun _ _ => rfl, fun _ _ => rfl⟩
  subst h1
  exact ⟨s', e, h2, h3⟩
theorem E_rain_R : E_rain Rel := by
  intro σ τ hR0
  have hR := hR0.thrown
  unfold f_X6_rain f_X7_rain
  rw [bv_eq (upS τ (0, 29) 18 0)]
  generalize upS τ (0, 29) 18 0 = τ1 at hR ⊢
  have hc := CS1 σ
  have hw := hR.1.1
  have hm := hR.1.2
  rw [e_sum, bd_some]
  obtain ⟨σ', e1, a1, a2⟩ := e_fill (1, 9) 0 σ
  obtain ⟨τ', e2, b1, b2⟩ := r_rain τ1
  rw [e1, bd_some, e2]
  have es : sm (τ1 (0, 31)) 24 = sm (σ (1, 9)) 24 := sm_congr 24 (fun t ht => (hm.2.2.1 t ht).1)
  refine ⟨_, σ', τ', rfl, by rw [es]; rfl, ?_⟩
  have hs : ∀ m, m ≠ 9 → hv σ' 1 m = hv σ 1 m := fun m hm' => by unfold hv; rw [a2 _ (cne hm')]
  have h9 : ∀ p, p < 24 → hv σ' 1 9 p = 0 := fun p hp => a1 p hp
  have hS : WFs (hv σ' 1) := by
    have := hw.1
    unfold WFs vp tn hn at this ⊢
    rw [hs 7 (by decide), hs 8 (by decide), hs 10 (by decide), hs 11 (by decide), hs 13 (by decide), hs 14 (by decide), hs 15 (by decide), hs 16 (by decide), hs 17 (by decide), hs 18 (by decide), hs 19 (by decide)]
    exact this
  refine hR.upN (fun c h1 _ _ => a2 c (fun e => h1 (by rw [e]))) ⟨fun k _ => by rw [b2 _ (by decide)], fun m hm' => b2 _ (cne (by simp only [List.mem_cons, List.not_mem_nil, or_false] at hm'; omega))⟩ ⟨⟨hS, ?_, ?_, ?_⟩, ?_, ?_, ?_, ?_⟩
  · intro p hp
    rw [h9 p hp]
    refine ⟨by decide, ?_⟩
    have : ∀ x ∈ l10, (0 : Int32) ≤ x := by decide
    exact this _ (hS.2.1 p hp).1
  · rw [hs 21 (by decide), hs 22 (by decide)]; exact hw.2.2.1
  · rw [hs 6 (by decide)]; exact hw.2.2.2
  · have := hm.1
    unfold RS tn at this ⊢
    rw [hs 7 (by decide), hs 8 (by decide), hs 10 (by decide), hs 11 (by decide), hs 12 (by decide), hs 14 (by decide), hs 15 (by decide), hs 16 (by decide), hs 17 (by decide), hs 18 (by decide), hs 19 (by decide)]
    rw [b2 (0, 29) (by decide), b2 (0, 30) (by decide), b2 (0, 32) (by decide), b2 (0, 33) (by decide), b2 (0, 34) (by decide), b2 (0, 35) (by decide), b2 (0, 39) (by decide), b2 (0, 40) (by decide), b2 (0, 41) (by decide), b2 (0, 42) (by decide)]
    exact this
  · rw [b2 (0, 29) (by decide), hs 6 (by decide)]; exact hm.2.1
  · intro p hp
    rw [h9 p hp, b1 p hp, hs 21 (by decide), hs 24 (by decide), b2 (0, 36) (by decide), b2 (0, 37) (by decide)]
    exact ⟨rfl, (hm.2.2.1 p hp).2⟩
  · rw [b2 (0, 38) (by decide), hs 22 (by decide)]; exact hm.2.2.2
/-! what is told and fed -/
theorem Rel.upT {σ σ' τ τ' : Sg} (H : Rel σ τ) (hc : ∀ c : Nat × Nat, c.1 ≠ 0 → σ' c = σ c) (h8 : σ' (0, 0) 8 = σ (0, 0) 8) (hs : ∀ k, k ∈ [0, 1, 2, 3, 4, 35] → τ' (0, 29) k = τ (0, 29) k) (hm : ∀ m, m ∈ [30, 31, 32, 33, 34, 35, 36, 37, 38, 39, 40, 41, 42, 53] → τ' (0, m) = τ (0, m)) (hT : RelT σ' τ') : Rel σ' τ' := by
  obtain ⟨⟨a1, a2⟩, _, c1, c2⟩ := H
  have e1 : hv σ' 1 = hv σ 1 := hv_eq (fun m _ => hc _ (by show (1 : Nat) ≠ 0; decide))
  have e2 : hv σ' 2 = hv σ 2 := hv_eq (fun m _ => hc _ (by show (2 : Nat) ≠ 0; decide))
  refine ⟨⟨by rw [e1]; exact a1, ?_⟩, hT, by rw [h8, hs 35 (by decide)]; exact c1, by rw [e2, hs 35 (by decide), hm 53 (by decide)]; exact c2⟩
  rw [e1]
  unfold shM RS at a2 ⊢
  rw [hs 0 (by decide), hs 1 (by decide), hs 2 (by decide), hs 3 (by decide), hs 4 (by decide), hm 30 (by decide), hm 31 (by decide), hm 32 (by decide), hm 33 (by decide), hm 34 (by decide), hm 35 (by decide), hm 36 (by decide), hm 37 (by decide), hm 38 (by decide), hm 39 (by decide), hm 40 (by decide), hm 41 (by decide), hm 42 (by decide)]
  exact a2
theorem E_feed_R : E_feed Rel := by
  intro a σ τ hR0
  have hR := hR0.thrown
  unfold f_X6_feed f_X6_feed_30 f_X7_feed f_X7_feed_32
  rw [bv_eq (upS τ (0, 29) 18 0)]
  generalize upS τ (0, 29) 18 0 = τ1 at hR ⊢
  have hc := CS1 σ
  have hw := hR.1.1
  have hm := hR.1.2
  obtain ⟨n, hn, en, em, ej⟩ := hR.2.1.1
  by_cases h1 : 0 ≤ a
  · rw [if_pos h1, if_pos h1]
    by_cases h2 : 255 < a
    · rw [if_pos h2, if_pos h2]; (obtain ⟨σ', τ', e1, e2, h⟩ := refuse_6 hR; exact ⟨_, σ', τ', by rw [e1, bd_some], by rw [e2, bd_some], h⟩)
    · rw [if_neg h2, if_neg h2, en, em]
      by_cases h3 : n < 96
      · rw [if_pos (show nI n < 96 from nI_lt h3 (by decide)), if_neg (show ¬ nI n = 96 from fun e => by have := (nI_eq (b := 96) (by omega) (by decide)).mp e; omega)]
        have hb : inb (nI n) 96 := vp_in_nI h3 (by decide)
        rw [f_X4_add, en, if_neg (show ¬ (96 : Int32) ≤ nI n from nI_ge h3 (by decide)), e_set_nI (n := 96) _ rfl h3, bd_some, bv_eq, bd_some, chk_t hb, bv_eq, bv_eq, nI_clamp (by omega), upS_at, upS_at, upS_ne (show ((0, 4) : Nat × Nat) ≠ (0, 5) by decide), upS_ne (show ((0, 29) : Nat × Nat) ≠ (0, 48) by decide), en, em, nI_1]
        refine ⟨_, _, _, rfl, rfl, hR.upT (fun c h => by rw [upS_ne (fun e => h (by rw [e])), upS_ne (fun e => h (by rw [e]))]) (by rw [upS_ne (by decide), upS_ne (by decide)]) (fun k hk => ?_) (fun m hm' => ?_) ⟨⟨n + 1, by omega, upS_at, upS_at, fun j hj => ?_⟩, ?_, ?_⟩⟩
        · rw [upS_off (by simp only [List.mem_cons, List.not_mem_nil, or_false] at hk; omega), upS_ne (by decide)]
        · rw [upS_ne (cne (by simp only [List.mem_cons, List.not_mem_nil, or_false] at hm'; omega)), upS_ne (cne (by simp only [List.mem_cons, List.not_mem_nil, or_false] at hm'; omega))]
        · rw [upS_ne (show ((0, 5) : Nat × Nat) ≠ (0, 4) by decide), upS_ne (show ((0, 48) : Nat × Nat) ≠ (0, 29) by decide)]
          by_cases c : j = n
          · subst c; rw [upS_at, upS_at]
          · rw [upS_off c, upS_off c]; exact ej j (by omega)
        · obtain ⟨n2, q1, q2, q3, q4⟩ := hR.2.1.2.1
          refine ⟨n2, q1, by rw [upS_ne (by decide), upS_ne (by decide)]; exact q2, by rw [upS_off (by decide), upS_ne (by decide)]; exact q3, ?_⟩
          rw [upS_ne (by decide), upS_ne (by decide), upS_ne (by decide), upS_ne (by decide)]; exact q4
        · rw [upS_ne (by decide), upS_ne (by decide), upS_ne (by decide), upS_ne (by decide)]; exact hR.2.1.2.2
      · have : n = 96 := by omega
        subst this
        rw [if_neg (by decide), if_pos (by decide)]; (obtain ⟨σ', τ', e1, e2, h⟩ := refuse_6 hR; exact ⟨_, σ', τ', by rw [e1, bd_some], by rw [e2, bd_some], h⟩)
  · rw [if_neg h1, if_neg h1]; (obtain ⟨σ', τ', e1, e2, h⟩ := refuse_4 hR; exact ⟨_, σ', τ', by rw [e1, bd_some], by rw [e2, bd_some], h⟩)
theorem E_row_R : E_row Rel := by
  intro a σ τ hR0
  have hR := hR0.thrown
  unfold f_X6_row f_X6_row_27 f_X7_row f_X7_row_32
  rw [bv_eq (upS τ (0, 29) 18 0)]
  generalize upS τ (0, 29) 18 0 = τ1 at hR ⊢
  have hc := CS1 σ
  have hw := hR.1.1
  have hm := hR.1.2
  obtain ⟨n, hn, en, em, ej⟩ := hR.2.1.2.1
  by_cases h1 : 0 ≤ a
  · rw [if_pos h1, if_pos h1]
    by_cases h2 : 999 < a
    · rw [if_pos h2, if_pos h2]; (obtain ⟨σ', τ', e1, e2, h⟩ := refuse_6 hR; exact ⟨_, σ', τ', by rw [e1, bd_some], by rw [e2, bd_some], h⟩)
    · rw [if_neg h2, if_neg h2, en, em]
      by_cases h3 : n < 10
      · rw [if_pos (show nI n < 10 from nI_lt h3 (by decide)), if_neg (show ¬ nI n = 10 from fun e => by have := (nI_eq (b := 10) (by omega) (by decide)).mp e; omega)]
        have hb : inb (nI n) 10 := vp_in_nI h3 (by decide)
        rw [e_set_nI (n := 10) _ rfl h3, bd_some, bv_eq, chk_t hb, bv_eq, bv_eq, nI_clamp (by omega), upS_at, upS_at, upS_ne (show ((0, 0) : Nat × Nat) ≠ (0, 1) by decide), upS_ne (show ((0, 29) : Nat × Nat) ≠ (0, 56) by decide), en, em, nI_1]
        refine ⟨_, _, _, rfl, rfl, hR.upT (fun c h => by rw [upS_ne (fun e => h (by rw [e])), upS_ne (fun e => h (by rw [e]))]) (by rw [upS_off (by decide), upS_ne (by decide)]) (fun k hk => ?_) (fun m hm' => ?_) ⟨?_, ⟨n + 1, by omega, upS_at, upS_at, fun j hj => ?_⟩, ?_⟩⟩
        · rw [upS_off (by simp only [List.mem_cons, List.not_mem_nil, or_false] at hk; omega), upS_ne (by decide)]
        · rw [upS_ne (cne (by simp only [List.mem_cons, List.not_mem_nil, or_false] at hm'; omega)), upS_ne (cne (by simp only [List.mem_cons, List.not_mem_nil, or_false] at hm'; omega))]
        · obtain ⟨n2, q1, q2, q3, q4⟩ := hR.2.1.1
          refine ⟨n2, q1, by rw [upS_ne (by decide), upS_ne (by decide)]; exact q2, by rw [upS_off (by decide), upS_ne (by decide)]; exact q3, ?_⟩
          rw [upS_ne (by decide), upS_ne (by decide), upS_ne (by decide), upS_ne (by decide)]; exact q4
        · rw [upS_ne (show ((0, 1) : Nat × Nat) ≠ (0, 0) by decide), upS_ne (show ((0, 56) : Nat × Nat) ≠ (0, 29) by decide)]
          by_cases c : j = n
          · subst c; rw [upS_at, upS_at]
          · rw [upS_off c, upS_off c]; exact ej j (by omega)
        · rw [upS_ne (by decide), upS_ne (by decide), upS_ne (by decide), upS_ne (by decide)]; exact hR.2.1.2.2
      · have : n = 10 := by omega
        subst this
        rw [if_neg (by decide), if_pos (by decide)]; (obtain ⟨σ', τ', e1, e2, h⟩ := refuse_6 hR; exact ⟨_, σ', τ', by rw [e1, bd_some], by rw [e2, bd_some], h⟩)
  · rw [if_neg h1, if_neg h1]; (obtain ⟨σ', τ', e1, e2, h⟩ := refuse_4 hR; exact ⟨_, σ', τ', by rw [e1, bd_some], by rw [e2, bd_some], h⟩)
theorem in_16 (a : Int32) (τ : Sg) : f_X7_in a.toInt64 (11 : Int64) (16 : Int64) τ = some (if 11 ≤ a ∧ a ≤ 16 then 1 else 0, τ) := e_in32 a 11 16 τ
theorem E_count_R : E_count Rel := by
  intro a σ τ hR0
  have hR := hR0.thrown
  unfold f_X6_count f_X7_count
  rw [bv_eq (upS τ (0, 29) 18 0)]
  generalize upS τ (0, 29) 18 0 = τ1 at hR ⊢
  have hc := CS1 σ
  have hw := hR.1.1
  have hm := hR.1.2
  rw [e_within, bd_some, if01]
  by_cases h : 11 ≤ a ∧ a ≤ 16
  · obtain ⟨j, hj, e⟩ := rng (a := a - 11) (n := 5) (by decide) (by grind) (by show a - 11 ≤ 5; grind)
    have ea : a - 10 = nI (j + 1) := by rw [← nI_1, ← e]; grind
    have e11 : a = nI (j + 11) := by rw [← nI_add, ← e]; show a = a - 11 + 11; grind
    have hne : ∀ k, k < 11 → ¬ a = nI k := fun k hk e => by rw [e11] at e; have := (nI_eq (by omega) (by omega)).mp e; omega
    have hb : inb (nI (j + 1)) 7 := vp_in_nI (by omega) (by decide)
    rw [if_pos h, if_neg (show ¬ a = 0 from hne 0 (by decide)), if_neg (show ¬ a = 1 from hne 1 (by decide)), if_neg (show ¬ a = 2 from hne 2 (by decide)), if_neg (show ¬ a = 3 from hne 3 (by decide)), if_neg (show ¬ a = 4 from hne 4 (by decide)), if_neg (show ¬ a = 5 from hne 5 (by decide)), if_neg (show ¬ a = 6 from hne 6 (by decide)), if_neg (show ¬ a = 7 from hne 7 (by decide)), if_neg (show ¬ a = 8 from hne 8 (by decide)), if_neg (show ¬ a = 9 from hne 9 (by decide)), in_16, bd_some, if01, if_pos h, ea, e_get_nI (n := 7) _ rfl (by omega), bd_some, chk_t hb, nI_clamp (by omega)]
    have e43 : τ1 (0, 43) (j + 1) = σ (0, 2) (j + 1) := (hR.2.1.2.2 (j + 1) (by omega)).symm
    rw [e43]
    exact ⟨_, σ, τ1, rfl, rfl, hR⟩
  · rw [if_neg h, in_16, bd_some, if01, if_neg h]
    have m0 : τ1 (0, 29) 0 = σ (1, 7) 0 := hm.1.1.1
    have m1 : τ1 (0, 29) 1 = σ (1, 7) 1 := hm.1.1.2.1
    have m2 : τ1 (0, 29) 2 = σ (1, 7) 2 := hm.1.1.2.2.1
    have m4 : τ1 (0, 29) 4 = σ (1, 15) 0 := hm.1.1.2.2.2
    have m3 : τ1 (0, 29) 3 = σ (1, 6) 4 := hm.2.1
    obtain ⟨n, _, n1, n2, _⟩ := hR.2.1.1
    obtain ⟨k, _, k1, k2, _⟩ := hR.2.1.2.1
    rw [m0, m1, m2, m3, m4, n1, n2, k1, k2, Int32.add_comm 1]
    by_cases c0 : a = 0
    · rw [if_pos c0, if_pos c0]; exact ⟨_, σ, τ1, rfl, rfl, hR⟩
    rw [if_neg c0, if_neg c0]
    by_cases c0 : a = 1
    · rw [if_pos c0, if_pos c0]; exact ⟨_, σ, τ1, rfl, rfl, hR⟩
    rw [if_neg c0, if_neg c0]
    by_cases c0 : a = 2
    · rw [if_pos c0, if_pos c0]; exact ⟨_, σ, τ1, rfl, rfl, hR⟩
    rw [if_neg c0, if_neg c0]
    by_cases c0 : a = 3
    · rw [if_pos c0, if_pos c0]; exact ⟨_, σ, τ1, rfl, rfl, hR⟩
    rw [if_neg c0, if_neg c0]
    by_cases c0 : a = 4
    · rw [if_pos c0, if_pos c0]; exact ⟨_, σ, τ1, rfl, rfl, hR⟩
    rw [if_neg c0, if_neg c0]
    by_cases c0 : a = 5
    · rw [if_pos c0, if_pos c0, e_sum, bd_some, r_sumOf (0, 31) 24 τ1 rfl, bd_some]
      have es : sm (τ1 (0, 31)) (alen (0, 31)) = sm (σ (1, 9)) (alen (1, 9)) := sm_congr 24 (fun t ht => (hm.2.2.1 t ht).1)
      rw [es]; exact ⟨_, σ, τ1, rfl, rfl, hR⟩
    rw [if_neg c0, if_neg c0]
    by_cases c0 : a = 6
    · rw [if_pos c0, if_pos c0, e_sum, bd_some, r_sumOf (0, 36) 24 τ1 rfl, bd_some]
      have es : sm (τ1 (0, 36)) (alen (0, 36)) = sm (σ (1, 21)) (alen (1, 21)) := sm_congr 24 (fun t ht => (hm.2.2.1 t ht).2.1)
      rw [es]; exact ⟨_, σ, τ1, rfl, rfl, hR⟩
    rw [if_neg c0, if_neg c0]
    by_cases c0 : a = 7
    · rw [if_pos c0, if_pos c0, e_sum, bd_some, r_sumOf (0, 38) 576 τ1 rfl, bd_some]
      have es : sm (τ1 (0, 38)) (alen (0, 38)) = sm (σ (1, 22)) (alen (1, 22)) := sm_congr 576 (fun t ht => hm.2.2.2 t ht)
      rw [es]; exact ⟨_, σ, τ1, rfl, rfl, hR⟩
    rw [if_neg c0, if_neg c0]
    by_cases c0 : a = 8
    · rw [if_pos c0, if_pos c0]; exact ⟨_, σ, τ1, rfl, rfl, hR⟩
    rw [if_neg c0, if_neg c0]
    by_cases c0 : a = 9
    · rw [if_pos c0, if_pos c0]; exact ⟨_, σ, τ1, rfl, rfl, hR⟩
    rw [if_neg c0, if_neg c0]
    exact ⟨_, σ, τ1, rfl, rfl, hR⟩
