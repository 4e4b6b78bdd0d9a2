/-! ===== quiet hours, rules, weeks told and weeks by seeds ===== -/
def qt (a b x : Int32) : Int32 := if (a ≤ x ∧ x ≤ b) ∧ ¬ (a = 0 ∧ b = 7) then (if b = 7 then 0 else b + 1) else x
theorem qt_ok : ∀ a ∈ l8, ∀ b ∈ l8, a ≤ b → ∀ x ∈ l8, qt a b x ∈ l8 ∧ (if (if (if a ≤ x ∧ x ≤ b then (1 : Int32) else 0) = 0 then (0 : Int32) else if 7 ≤ b - a then 0 else 1) = 0 then x else (b + 1) - (b + 1) / 8 * 8) = qt a b x := by decide +kernel
theorem qt_07 : ∀ x ∈ l8, qt 0 7 x = x := by decide +kernel
def qv (v : Vw) (a b : Int32) : Nat → Vw
  | 0 => v
  | n + 1 => uv (qv v a b n) 19 n (qt a b (v 19 n))
theorem qv_ne {v : Vw} {a b : Int32} {r : Nat} (h : r ≠ 19) : ∀ n, qv v a b n r = v r := by
  intro n
  induction n with
  | zero => rfl
  | succ n ih => rw [qv, uv_ne h, ih]
theorem qv_ge {v : Vw} {a b : Int32} : ∀ n j, n ≤ j → qv v a b n 19 j = v 19 j := by
  intro n
  induction n with
  | zero => intro j _; rfl
  | succ n ih => intro j hj; rw [qv, uv_off (by omega), ih j (by omega)]
theorem qv_hn {v : Vw} {a b : Int32} (n : Nat) : hn (qv v a b n) = hn v := by unfold hn; rw [qv_ne (by decide)]
theorem qv_WFs {v : Vw} (hv' : WFs v) {a b : Int32} (ha : a ∈ l8) (hb : b ∈ l8) (hab : a ≤ b) : ∀ n, n ≤ hn v → WFs (qv v a b n) := by
  intro n
  induction n with
  | zero => intro _; exact hv'
  | succ n ih => intro hn'; exact WFs_19 (ih (by omega)) (qt_ok a ha b hb hab _ (hv'.2.2.2.2.2 n (by omega)).2.2.2).1
theorem qv_okh {v : Vw} {hd : Nat → Int32} {a b : Int32} {n : Nat} (h : okh v hd) : okh (qv v a b n) hd := by
  intro p hp
  rw [qv_ne (by decide)]; exact h p hp
theorem qv_id {v : Vw} (hv' : WFs v) : ∀ n, n ≤ hn v → qv v 0 7 n = v := by
  intro n
  induction n with
  | zero => intro _; rfl
  | succ n ih =>
    intro hn'
    rw [qv, ih (by omega), qt_07 _ (hv'.2.2.2.2.2 n (by omega)).2.2.2, uv_id]
theorem c_putOff {v : Vw} {s : Sg} (hv' : WFs v) (hc : CS 3 s v) {a b : Int32} (ha : a ∈ l8) (hb : b ∈ l8) (hab : a ≤ b) : ∃ s', f_X1_putOff 3 a b s = some ((), s') ∧ CS 3 s' (qv v a b (hn v)) ∧ (∀ c, c ≠ (3, 19) → s' c = s c) := by
  have h8 := hv'.2.2.2.2.1.1
  have main : ¬ (a = 0 ∧ b = 7) → ∃ s', f_X1_putOff_13 3 fuel a b 0 s = some ((), s') ∧ CS 3 s' (qv v a b (hn v)) ∧ (∀ c, c ≠ (3, 19) → s' c = s c) := fun hno => by
    obtain ⟨r, s', e, h⟩ := lp (fun n (x : Int32) t => f_X1_putOff_13 3 n a b x t) (fun k x t => x = nI k ∧ CS 3 t (qv v a b k) ∧ (∀ c, c ≠ (3, 19) → t c = s c)) (fun _ s' => CS 3 s' (qv v a b (hn v)) ∧ (∀ c, c ≠ (3, 19) → s' c = s c)) (hn v)
      (fun k n x t hk hI => by
        obtain ⟨rfl, h1, h2⟩ := hI
        have hk8 : k < 8 := by omega
        have e15 : t (3, 15) 0 = nI (hn v) := by rw [h1.1.2.2.2, qv_ne (by decide)]; exact hv'.2.2.2.2.1.2
        have e19 : t (3, 19) k = v 19 k := by rw [(h1.2.2 k hk8).2.2.2, qv_ge k k (Nat.le_refl k)]
        refine Or.inl ?_
        show ∃ a' s', f_X1_putOff_13 3 (n + 1) a b (nI k) t = f_X1_putOff_13 3 n a b a' s' ∧ _
        rw [f_X1_putOff_13, e15, if_neg (nI_ge hk (by omega)), e_get_nI (n := 8) _ rfl hk8, bd_some, e_within, bd_some, if01, e19]
        unfold f_X1_putOff_58
        rw [nI_1]
        by_cases c : a ≤ v 19 k ∧ v 19 k ≤ b
        · rw [if_pos c, e_set_nI (n := 8) _ rfl hk8, bd_some]
          refine ⟨nI (k + 1), _, rfl, rfl, ?_, fun c hc => by rw [upS_ne hc]; exact h2 c hc⟩
          have hq : qt a b (v 19 k) = if b = 7 then 0 else b + 1 := if_pos ⟨c, hno⟩
          rw [qv, hq]; exact h1.up 19 k _
        · rw [if_neg c]
          refine ⟨nI (k + 1), _, rfl, rfl, ?_, h2⟩
          have hq : qt a b (v 19 k) = v 19 k := if_neg (fun q => c q.1)
          have hg := qv_ge (v := v) (a := a) (b := b) k k (Nat.le_refl k)
          rw [qv, hq, ← hg, uv_id]; exact h1)
      (fun n x t hI => by
        obtain ⟨rfl, h1, h2⟩ := hI
        have e15 : t (3, 15) 0 = nI (hn v) := by rw [h1.1.2.2.2, qv_ne (by decide)]; exact hv'.2.2.2.2.1.2
        refine ⟨(), t, ?_, h1, h2⟩
        show f_X1_putOff_13 3 (n + 1) a b (nI (hn v)) t = _
        rw [f_X1_putOff_13, e15, if_pos (nI_le (Nat.le_refl _) (by omega))])
      (hn v) 0 (by omega) fuel (nI 0) s (by show _ < 2000; omega) ⟨rfl, hc, fun _ _ => rfl⟩
    exact ⟨s', e, h⟩
  unfold f_X1_putOff f_X1_putOff_11
  by_cases c0 : a = 0
  · by_cases c7 : b = 7
    · subst c0; subst c7
      rw [if_pos rfl, if_pos rfl, qv_id hv' _ (Nat.le_refl _)]
      exact ⟨s, rfl, hc, fun _ _ => rfl⟩
    · rw [if_pos c0, if_neg c7]; exact main (fun h => c7 h.2)
  · rw [if_neg c0]; exact main (fun h => c0 h.1)
theorem c_tryQ {σ s : Sg} {A B : Nat} (hw : WF (hv σ 1)) (hf : FC σ s) (hA : A < 8) (hB : B < 8) (hab : nI A ≤ nI B) : ∃ s', f_X6_tryQuiet (nI A) (nI B) s = some (wr (qv (hv σ 1) (nI A) (nI B) (hn (hv σ 1))) (hv σ 1), s') ∧ FC σ s' := by
  obtain ⟨s0, e0, a1, a2, a3⟩ := c_anew s
  rw [hf.hv] at a1 a2
  obtain ⟨s1, e1, b1, b2⟩ := c_putOff hw.1 a1 (l8_of hA) (l8_of hB) hab
  obtain ⟨s2, e2, _, _, _, d1⟩ := c_wk3 (w := hv σ 1) (qv_WFs hw.1 (l8_of hA) (l8_of hB) hab _ (Nat.le_refl _)) b1 (fun p hp => by rw [b2 _ (cne (by decide))]; exact a2 p hp) (qv_okh hw.2.1)
  refine ⟨s2, ?_, hf.f3 (fun c hc => by rw [d1 c hc, b2 c (fun e => hc (by rw [e])), a3 c hc])⟩
  unfold f_X6_tryQuiet
  rw [e0, bd_some, e1, bd_some, e2, bd_some]
/-! the reference keeps the times, and lays them back -/
theorem r_keepT (τ : Sg) : ∃ τ', f_X7_keepTimes τ = some ((), τ') ∧ (∀ k, k < 8 → τ' (0, 54) k = τ (0, 42) k) ∧ (∀ c, c ≠ (0, 54) → τ' c = τ c) := by
  obtain ⟨r, s', e, h⟩ := lp (fun n (a : Int32) s => f_X7_keepTimes_2 n a s) (fun k a s => a = nI k ∧ (∀ j, j < k → s (0, 54) j = τ (0, 42) j) ∧ (∀ c, c ≠ (0, 54) → s c = τ c)) (fun _ s => (∀ k, k < 8 → s (0, 54) k = τ (0, 42) k) ∧ (∀ c, c ≠ (0, 54) → s c = τ c)) 8
    (fun k n a s hk hI => by
      obtain ⟨rfl, h1, h2⟩ := hI
      have hb : inb (nI k) 8 := vp_in_nI hk (by decide)
      refine Or.inl ⟨nI (k + 1), upS s (0, 54) k (τ (0, 42) k), ?_, rfl, ?_, ?_⟩
      · show f_X7_keepTimes_2 (n + 1) (nI k) s = _
        rw [f_X7_keepTimes_2, if_neg (show ¬ (8 : Int32) ≤ nI k from nI_ge hk (by decide)), chk_t hb, chk_t hb, bv_eq, nI_1, nI_clamp (by omega), h2 _ (by decide)]
      · intro j hj
        by_cases e : j = k
        · subst e; exact upS_at
        · rw [upS_off e]; exact h1 j (by omega)
      · intro c hc; rw [upS_ne hc]; exact h2 c hc)
    (fun n a s hI => by
      obtain ⟨rfl, h1, h2⟩ := hI
      refine ⟨(), s, ?_, h1, h2⟩
      show f_X7_keepTimes_2 (n + 1) (nI 8) s = _
      rw [f_X7_keepTimes_2, if_pos (by decide)])
    8 0 rfl fuel (nI 0) τ (by decide) ⟨rfl, fun j hj => absurd hj (Nat.not_lt_zero _), fun _ _ => rfl⟩
  exact ⟨s', e, h⟩
theorem r_backT (τ : Sg) : ∃ τ', f_X7_timesBack τ = some ((), τ') ∧ (∀ k, k < 8 → τ' (0, 42) k = τ (0, 54) k) ∧ (∀ k, 8 ≤ k → τ' (0, 42) k = τ (0, 42) k) ∧ (∀ c, c ≠ (0, 42) → τ' c = τ c) := by
  obtain ⟨r, s', e, h⟩ := lp (fun n (a : Int32) s => f_X7_timesBack_2 n a s) (fun k a s => a = nI k ∧ (∀ j, j < k → s (0, 42) j = τ (0, 54) j) ∧ (∀ j, 8 ≤ j → s (0, 42) j = τ (0, 42) j) ∧ (∀ c, c ≠ (0, 42) → s c = τ c)) (fun _ s => (∀ k, k < 8 → s (0, 42) k = τ (0, 54) k) ∧ (∀ k, 8 ≤ k → s (0, 42) k = τ (0, 42) k) ∧ (∀ c, c ≠ (0, 42) → s c = τ c)) 8
    (fun k n a s hk hI => by
      obtain ⟨rfl, h1, h3, h2⟩ := hI
      have hb : inb (nI k) 8 := vp_in_nI hk (by decide)
      refine Or.inl ⟨nI (k + 1), upS s (0, 42) k (τ (0, 54) k), ?_, rfl, ?_, ?_, ?_⟩
      · show f_X7_timesBack_2 (n + 1) (nI k) s = _
        rw [f_X7_timesBack_2, if_neg (show ¬ (8 : Int32) ≤ nI k from nI_ge hk (by decide)), chk_t hb, chk_t hb, bv_eq, nI_1, nI_clamp (by omega), h2 _ (by decide)]
      · intro j hj
        by_cases e : j = k
        · subst e; exact upS_at
        · rw [upS_off e]; exact h1 j (by omega)
      · intro j hj; rw [upS_off (by omega)]; exact h3 j hj
      · intro c hc; rw [upS_ne hc]; exact h2 c hc)
    (fun n a s hI => by
      obtain ⟨rfl, h1, h3, h2⟩ := hI
      refine ⟨(), s, ?_, h1, h3, h2⟩
      show f_X7_timesBack_2 (n + 1) (nI 8) s = _
      rw [f_X7_timesBack_2, if_pos (by decide)])
    8 0 rfl fuel (nI 0) τ (by decide) ⟨rfl, fun j hj => absurd hj (Nat.not_lt_zero _), fun _ _ => rfl, fun _ _ => rfl⟩
  exact ⟨s', e, h⟩
theorem FM_54 {τ τ' : Sg} (h : ∀ c, c ≠ (0, 54) → τ' c = τ c) : FM τ τ' := ⟨fun k _ => by rw [h _ (by decide)], fun m hm => h _ (cne (by simp only [kM, List.mem_cons, List.not_mem_nil, or_false] at hm; omega))⟩
abbrev X42 : Nat → Nat → Prop := fun m j => m = 42 ∧ j < 8
theorem fx_back {τ s : Sg} (H : FXo X42 τ s) (h54 : ∀ k, k < 8 → s (0, 54) k = τ (0, 42) k) : ∃ s', f_X7_timesBack s = some ((), s') ∧ FM τ s' := by
  obtain ⟨s', e, a1, a2, a3⟩ := r_backT s
  refine ⟨s', e, fun k hk => by rw [a3 _ (by decide)]; exact H.1 k hk, fun m hm => ?_⟩
  by_cases c : m = 42
  · subst c
    funext j
    by_cases hj : j < 8
    · rw [a1 j hj, h54 j hj]
    · rw [a2 j (by omega)]; exact H.2 42 hm j (fun q => hj q.2)
  · rw [a3 _ (cne c)]
    funext j
    exact H.2 m hm j (fun q => c q.1)
theorem r_qh {τ : Sg} {v : Vw} {A B : Nat} (hw : WF v) (hm : shM τ v) (hA : A < 8) (hB : B < 8) (hab : nI A ≤ nI B) : ∃ τ', f_X7_quietHarm (nI A) (nI B) τ = some (wr (qv v (nI A) (nI B) (hn v)) v, τ') ∧ FM τ τ' := by
  have h8 := hw.1.2.2.2.2.1.1
  obtain ⟨t0, e0, k1, k2⟩ := r_keepT τ
  have f0 := FM_54 k2
  unfold f_X7_quietHarm
  rw [e0, bd_some]
  have ha := l8_of hA
  have hb := l8_of hB
  obtain ⟨r, s', e, h⟩ := lp (fun n (x : Int32) t => f_X7_quietHarm_6 n (nI A) (nI B) x t) (fun k x t => x = nI k ∧ RS t (qv v (nI A) (nI B) k) ∧ FXo X42 τ t ∧ (∀ j, j < 8 → t (0, 54) j = τ (0, 42) j)) (fun r s' => r = wr (qv v (nI A) (nI B) (hn v)) v ∧ FM τ s') (hn v)
    (fun k n x t hk hI => by
      obtain ⟨rfl, h1, h2, h3⟩ := hI
      have hk8 : k < 8 := by omega
      have hii : inb (nI k) 8 := vp_in_nI hk8 (by decide)
      have e4 : t (0, 29) 4 = nI (hn v) := by rw [h1.1.2.2.2, qv_ne (by decide)]; exact hw.1.2.2.2.2.1.2
      have e42 : t (0, 42) k = v 19 k := by rw [(h1.2.2.2 k hk8).2.2.2, qv_ge k k (Nat.le_refl k)]
      have q := (qt_ok _ ha _ hb hab _ (hw.1.2.2.2.2.2 k hk).2.2.2).2
      refine Or.inl ⟨nI (k + 1), upS t (0, 42) k (qt (nI A) (nI B) (v 19 k)), ?_, rfl, ?_, h2.up ⟨rfl, hk8⟩ (by decide) _, ?_⟩
      · show f_X7_quietHarm_6 (n + 1) (nI A) (nI B) (nI k) t = _
        rw [f_X7_quietHarm_6, e4, if_neg (nI_ge hk (by omega))]
        unfold f_X7_quietHarm_71
        simp only [chk_t hii, bv_eq]
        rw [nI_clamp (by omega), e42, e_in32, bd_some, e42, nI_1]
        by_cases c : (if (if nI A ≤ v 19 k ∧ v 19 k ≤ nI B then (1 : Int32) else 0) = 0 then (0 : Int32) else if 7 ≤ nI B - nI A then 0 else 1) = 0
        · rw [if_pos c] at q ⊢; rw [← q]
        · rw [if_neg c] at q ⊢; rw [q]
      · rw [qv]; exact h1.up (by decide) k _
      · intro j hj; rw [upS_ne (by decide)]; exact h3 j hj)
    (fun n x t hI => by
      obtain ⟨rfl, h1, h2, h3⟩ := hI
      have e4 : t (0, 29) 4 = nI (hn v) := by rw [h1.1.2.2.2, qv_ne (by decide)]; exact hw.1.2.2.2.2.1.2
      obtain ⟨t1, e1, _, x1, _, rf⟩ := r_wkX hm h2 h1 (fun j h => absurd h.1 (by decide)) (qv_WFs hw.1 ha hb hab _ (Nat.le_refl _)) (qv_okh hw.2.1)
      obtain ⟨t2, e2, fm⟩ := fx_back x1 (fun k hk => by rw [rf.2 _ (by decide) (by decide) (by decide) (by decide) (by decide)]; exact h3 k hk)
      refine ⟨_, t2, ?_, rfl, fm⟩
      show f_X7_quietHarm_6 (n + 1) (nI A) (nI B) (nI (hn v)) t = _
      rw [f_X7_quietHarm_6, e4, if_pos (nI_le (Nat.le_refl _) (by omega)), e1, bd_some, e2, bd_some])
    (hn v) 0 (by omega) fuel (nI 0) t0 (by show _ < 2000; omega) ⟨rfl, f0.RS hm.1, FXo.of f0, k1⟩
  obtain ⟨rfl, h⟩ := h
  exact ⟨s', e, h⟩
theorem E_quiet_R : E_quiet Rel := by
  intro a b σ τ hR0
  have hR := hR0.thrown
  unfold f_X6_quiet f_X7_quiet
  rw [bv_eq (upS τ (0, 29) 18 0)]
  generalize upS τ (0, 29) 18 0 = τ1 at hR ⊢
  have hc := CS1 σ
  have hw := hR.1.1
  have hm := hR.1.2
  unfold f_X6_quiet_14 f_X7_quiet_19
  rw [c_hour, bd_some, r_time, bd_some]
  rcases q_cases a with ⟨A, hA, rfl, e⟩ | e
  · rw [e, if_neg h10, if_neg h10, c_hour, bd_some, r_time, bd_some]
    rcases q_cases b with ⟨B, hB, rfl, e'⟩ | e'
    · rw [e', if_neg h10, if_neg h10]
      by_cases c : nI A ≤ nI B
      · obtain ⟨s', e1, f1⟩ := c_tryQ hw (FC.refl σ) hA hB c
        obtain ⟨t', e2, f2⟩ := r_qh hw hm hA hB c
        rw [if_pos c, if_pos c, e1, bd_some, e2, bd_some]
        exact ⟨_, s', t', rfl, rfl, hR.fr f1 f2⟩
      · rw [if_neg c, if_neg c]; (obtain ⟨σ', τ', e1, e2, h⟩ := refuse_3 hR; exact ⟨_, σ', τ', by rw [e1, bd_some], by rw [e2, bd_some], h⟩)
    · rw [e', if_pos rfl, if_pos rfl]; (obtain ⟨σ', τ', e1, e2, h⟩ := refuse_2 hR; exact ⟨_, σ', τ', by rw [e1, bd_some], by rw [e2, bd_some], h⟩)
  · rw [e, if_pos rfl, if_pos rfl]; (obtain ⟨σ', τ', e1, e2, h⟩ := refuse_2 hR; exact ⟨_, σ', τ', by rw [e1, bd_some], by rw [e2, bd_some], h⟩)
theorem E_rule_R : E_rule Rel := by
  intro σ τ hR0
  have hR := hR0.thrown
  unfold f_X6_rule f_X7_rule
  rw [bv_eq (upS τ (0, 29) 18 0)]
  generalize upS τ (0, 29) 18 0 = τ1 at hR ⊢
  have hc := CS1 σ
  have hw := hR.1.1
  have hm := hR.1.2
  obtain ⟨s1, g1, g2, g3, g4⟩ := c_asis hw (FC.refl σ)
  obtain ⟨t1, q1, k1, rf⟩ := r_wk (w := hv σ 1) hw.1 hm.1 (fun p hp => (hm.2.2.1 p hp).1) hw.2.1
  rw [g1, bd_some, q1, bd_some]
  have outer : ∀ d a n m best few s t, a + d = 8 → d < n → d < m → FC σ s → FM τ1 t → ∃ r s' t', f_X6_rule_10 n best few (nI a) s = some (r, s') ∧ f_X7_rule_15 m few best (nI a) t = some (r, t') ∧ FC σ s' ∧ FM τ1 t' := by
    intro d
    induction d with
    | zero =>
      intro a n m best few s t ha hn' hm' hf ht
      obtain ⟨n, rfl⟩ : ∃ k, n = k + 1 := ⟨n - 1, by omega⟩
      obtain ⟨m, rfl⟩ : ∃ k, m = k + 1 := ⟨m - 1, by omega⟩
      have : a = 8 := by omega
      subst this
      refine ⟨best, s, t, ?_, ?_, hf, ht⟩
      · rw [f_X6_rule_10, if_pos (by decide)]
      · rw [f_X7_rule_15, if_pos (by decide)]
    | succ d ih =>
      intro a n m best few s t ha hn' hm' hf ht
      obtain ⟨n, rfl⟩ : ∃ k, n = k + 1 := ⟨n - 1, by omega⟩
      obtain ⟨m, rfl⟩ : ∃ k, m = k + 1 := ⟨m - 1, by omega⟩
      have ha8 : a < 8 := by omega
      have inner : ∀ e b n1 m1 best few s t, b + e = 8 → a ≤ b → e < n1 → e < m1 → FC σ s → FM τ1 t → ∃ r s' t', f_X6_rule_19 (f_X6_rule_10 n) n1 best few (nI a) (nI b) s = some (r, s') ∧ f_X7_rule_24 (f_X7_rule_15 m) m1 few best (nI a) (nI b) t = some (r, t') ∧ FC σ s' ∧ FM τ1 t' := by
        intro e
        induction e with
        | zero =>
          intro b n1 m1 best few s t hb hab hn1' hm1' hf ht
          obtain ⟨n1, rfl⟩ : ∃ k, n1 = k + 1 := ⟨n1 - 1, by omega⟩
          obtain ⟨m1, rfl⟩ : ∃ k, m1 = k + 1 := ⟨m1 - 1, by omega⟩
          have : b = 8 := by omega
          subst this
          rw [f_X6_rule_19, if_pos (by decide), f_X7_rule_24, if_pos (by decide), nI_1]
          exact ih (a + 1) n m best few s t (by omega) (by omega) (by omega) hf ht
        | succ e ihe =>
          intro b n1 m1 best few s t hb hab hn1' hm1' hf ht
          obtain ⟨n1, rfl⟩ : ∃ k, n1 = k + 1 := ⟨n1 - 1, by omega⟩
          obtain ⟨m1, rfl⟩ : ∃ k, m1 = k + 1 := ⟨m1 - 1, by omega⟩
          have hb8 : b < 8 := by omega
          have c : nI a ≤ nI b := nI_le hab (by omega)
          obtain ⟨s', e1, f1⟩ := c_tryQ hw hf ha8 hb8 c
          obtain ⟨t', e2, f2⟩ := r_qh hw (ht.shM hm) ha8 hb8 c
          rw [f_X6_rule_19, if_neg (show ¬ (8 : Int32) ≤ nI b from nI_ge hb8 (by decide)), f_X7_rule_24, if_neg (show ¬ (8 : Int32) ≤ nI b from nI_ge hb8 (by decide)), e1, bd_some, e2, bd_some, bv_eq, bv_eq]
          unfold f_X6_rule_52
          rw [nI_1]
          by_cases c2 : few ≤ wr (qv (hv σ 1) (nI a) (nI b) (hn (hv σ 1))) (hv σ 1)
          · rw [if_pos c2, if_pos c2, if_pos c2]
            exact ihe (b + 1) n1 m1 _ _ s' t' (by omega) (by omega) (by omega) (by omega) f1 (ht.trans f2)
          · rw [if_neg c2, if_neg c2, if_neg c2, bv_eq]
            exact ihe (b + 1) n1 m1 _ _ s' t' (by omega) (by omega) (by omega) (by omega) f1 (ht.trans f2)
      rw [f_X6_rule_10, if_neg (show ¬ (8 : Int32) ≤ nI a from nI_ge ha8 (by decide)), f_X7_rule_15, if_neg (show ¬ (8 : Int32) ≤ nI a from nI_ge ha8 (by decide))]
      exact inner (8 - a) a fuel fuel best few s t (by omega) (Nat.le_refl a) (by show _ < 2000; omega) (by show _ < 2000; omega) hf ht
  obtain ⟨r, s', t', w1, w2, w3, w4⟩ := outer 8 0 fuel fuel (-9) _ s1 t1 rfl (by decide) (by decide) g4 rf.FM
  exact ⟨r, s', t', w1, w2, hR.fr w3 w4⟩
/-! weeks in mind, one behind the other -/
/-- both hold a week's holds -/
def H9 (s t : Sg) (v w : Vw) : Prop := CS 3 s v ∧ (∀ p, p < 24 → s (3, 9) p = w 9 p) ∧ RS t v ∧ (∀ p, p < 24 → t (0, 44) p = w 9 p) ∧ okh v (w 9)
theorem both_wk {s t : Sg} {v w : Vw} (hv' : WFs v) (H : H9 s t v w) : ∃ s' t', f_X2_spendWeek 3 s = some (wr v w, s') ∧ f_X7_weekOn t = some (wr v w, t') ∧ (∀ u, u < 24 → s' (3, 23) u = wd v w u) ∧ (∀ u, u < 24 → t' (0, 45) u = wd v w u) ∧ H9 s' t' v (wkS v w) ∧ FC3 s s' ∧ RF t t' := by
  obtain ⟨h1, h2, h3, h4, h5⟩ := H
  obtain ⟨s', e1, a1, a2, a3, a4⟩ := c_wk3 hv' h1 h2 h5
  obtain ⟨t', e2, b1, b2⟩ := r_week hv' h3 h4 h5
  exact ⟨s', t', e1, e2, a1, b1.2.1, ⟨a2, a3, b2.RS h3, b1.1, (wkS_ok hv' h5).2⟩, a4, b2⟩
theorem both_0 {σ τ : Sg} (hw : WF (hv σ 1)) (hm : shM τ (hv σ 1)) : ∃ s t, f_X6_tryAnew σ = some ((), s) ∧ f_X7_beginMind τ = some ((), t) ∧ H9 s t (hv σ 1) (hv σ 1) ∧ FC3 σ s ∧ RF τ t := by
  obtain ⟨s0, e0, a1, a2, a3⟩ := c_anew σ
  obtain ⟨t0, e1, b1, b2, b3, b4⟩ := r_begin (τ := τ)
  have rf : RF τ t0 := ⟨fun k _ => by rw [b4 _ (by decide) (by decide) (by decide)], fun c c1 c2 c3 c4 _ => b4 c c2 c3 c4⟩
  exact ⟨s0, t0, e0, e1, ⟨a1, a2, rf.RS hm.1, fun p hp => by rw [b1 p hp]; exact (hm.2.2.1 p hp).1, hw.2.1⟩, a3, rf⟩
theorem r_wn (a : Int32) (τ : Sg) : f_X7_wrongNumber a 1 20 τ = some (if 1 ≤ a then (if a ≤ 20 then 0 else -6) else -4, τ) := rfl
theorem n20 {a : Int32} (h1 : 1 ≤ a) (h2 : a ≤ 20) : ∃ n, n ≤ 20 ∧ a = nI n := rng (n := 20) (by decide) (by grind) h2
theorem hrm_loop {σ τ : Sg} {v : Vw} {a : Int32} (hv' : WFs v) (ha : a = -1 ∨ ∃ u, u < 24 ∧ a = nI u) {N : Nat} (hN : N ≤ 20) : ∀ d k n m x s t w, k + d = N → d < n → d < m → H9 s t v w → FC3 σ s → RF τ t → ∃ r s' t', f_X6_harmed_53 n a (nI N) x (nI k) s = some (r, s') ∧ f_X7_harmed_50 m a (nI N) x (nI k) t = some (r, t') ∧ FC3 σ s' ∧ RF τ t' := by
  intro d
  induction d with
  | zero =>
    intro k n m x s t w hk hn' hm' H hf hr
    obtain ⟨n, rfl⟩ : ∃ k, n = k + 1 := ⟨n - 1, by omega⟩
    obtain ⟨m, rfl⟩ : ∃ k, m = k + 1 := ⟨m - 1, by omega⟩
    have : k = N := by omega
    subst this
    refine ⟨x, s, t, ?_, ?_, hf, hr⟩
    · rw [f_X6_harmed_53, if_pos (nI_le (Nat.le_refl _) (by omega))]
    · rw [f_X7_harmed_50, if_pos (nI_le (Nat.le_refl _) (by omega))]
  | succ d ih =>
    intro k n m x s t w hk hn' hm' H hf hr
    obtain ⟨n, rfl⟩ : ∃ k, n = k + 1 := ⟨n - 1, by omega⟩
    obtain ⟨m, rfl⟩ : ∃ k, m = k + 1 := ⟨m - 1, by omega⟩
    obtain ⟨s', t', e1, e2, d1, d2, H', f1, r1⟩ := both_wk hv' H
    rw [f_X6_harmed_53, if_neg (nI_ge (show k < N by omega) (by omega)), f_X7_harmed_50, if_neg (nI_ge (show k < N by omega) (by omega)), e1, bd_some, e2, bd_some]
    unfold f_X6_harmed_84 f_X7_harmed_79
    rw [nI_1]
    rcases ha with rfl | ⟨u, hu, rfl⟩
    · rw [if_pos rfl, if_neg hn1, bv_eq, bv_eq]
      exact ih (k + 1) n m _ s' t' _ (by omega) (by omega) (by omega) H' (hf.trans f1) (hr.trans r1)
    · have h0 : (0 : Int32) ≤ nI u := nI_pos' (by omega)
      rw [if_neg (fun e => absurd h0 (by rw [e]; decide)), if_pos h0, c_done hu, bd_some, chk_t (inb24 hu), bv_eq, bv_eq, nI_clamp (by omega), d1 u hu, d2 u hu]
      exact ih (k + 1) n m _ s' t' _ (by omega) (by omega) (by omega) H' (hf.trans f1) (hr.trans r1)
theorem E_harmed_R : E_harmed Rel := by
  intro a b σ τ hR0
  have hR := hR0.thrown
  unfold f_X6_harmed f_X7_harmed
  rw [bv_eq (upS τ (0, 29) 18 0)]
  generalize upS τ (0, 29) 18 0 = τ1 at hR ⊢
  have hc := CS1 σ
  have hw := hR.1.1
  have hm := hR.1.2
  unfold f_X6_harmed_19 f_X7_harmed_18
  have main : (a = -1 ∨ ∃ u, u < 24 ∧ a = nI u) → ∃ r s' t', (if (1 : Int32) ≤ b then (if b ≤ (20 : Int32) then (bd (f_X6_tryAnew σ) (fun _ t5 => (f_X6_harmed_53 fuel a b (0 : Int32) (0 : Int32) t5))) else (bd (f_X6_refuse (-6 : Int32) σ) (fun x16 t17 => (some (x16, t17))))) else (bd (f_X6_refuse (-4 : Int32) σ) (fun x19 t20 => (some (x19, t20))))) = some (r, s') ∧ (bd (f_X7_wrongNumber b (1 : Int32) (20 : Int32) τ1) (fun x3 t4 => (f_X7_harmed_29 a b x3 t4))) = some (r, t') ∧ Rel s' t' := fun ha => by
    rw [r_wn, bd_some]
    unfold f_X7_harmed_29
    by_cases h1 : 1 ≤ b
    · by_cases h2 : b ≤ 20
      · obtain ⟨N, hN, rfl⟩ := n20 h1 h2
        obtain ⟨s0, t0, e0, e1, H, f0, r0⟩ := both_0 hw hm
        obtain ⟨r, s', t', w1, w2, w3, w4⟩ := hrm_loop (a := a) hw.1 ha hN N 0 fuel fuel 0 s0 t0 _ (by omega) (by show _ < 2000; omega) (by show _ < 2000; omega) H f0 r0
        rw [if_pos h1, if_pos h2, if_pos h1, if_pos h2, if_pos (by decide), e0, bd_some, e1, bd_some]
        exact ⟨r, s', t', w1, w2, hR.fr w3.FC w4.FM⟩
      · rw [if_pos h1, if_neg h2, if_pos h1, if_neg h2, if_neg (by decide)]; (obtain ⟨σ', τ', e1, e2, h⟩ := refuse_6 hR; exact ⟨_, σ', τ', by rw [e1, bd_some], by rw [e2, bd_some], h⟩)
    · rw [if_neg h1, if_neg h1, if_neg (by decide)]; (obtain ⟨σ', τ', e1, e2, h⟩ := refuse_4 hR; exact ⟨_, σ', τ', by rw [e1, bd_some], by rw [e2, bd_some], h⟩)
  by_cases c : a = -1
  · rw [if_pos c, if_pos c]; exact main (Or.inl c)
  · rw [if_neg c, if_neg c, c_ten hc hw.1, bd_some, r_ten hm.1 hw.1, bd_some]
    rcases t_cases hw.1 a with ⟨t, ht, ht24, rfl, e⟩ | e
    · rw [e, if_neg h10, if_neg h10]; exact main (Or.inr ⟨t, ht24, rfl⟩)
    · unfold f_X7_harmed_29
      rw [e, if_pos rfl, if_pos rfl, if_neg hn1]; (obtain ⟨σ', τ', e1, e2, h⟩ := refuse1 hR; exact ⟨_, σ', τ', by rw [e1, bd_some], by rw [e2, bd_some], h⟩)
theorem E_judge_R : E_judge Rel := by
  intro σ τ hR0
  have hR := hR0.thrown
  unfold f_X6_judge f_X7_judge
  rw [bv_eq (upS τ (0, 29) 18 0)]
  generalize upS τ (0, 29) 18 0 = τ1 at hR ⊢
  have hc := CS1 σ
  have hw := hR.1.1
  have hm := hR.1.2
  obtain ⟨N, hN, en, em, ej⟩ := hR.2.1.2.1
  obtain ⟨s0, e0, a1, a2, a3⟩ := c_anew σ
  have hR2 : Rel (upS σ (0, 0) 7 0) (upS τ1 (0, 29) 42 0) := hR.upT (fun c h => by rw [upS_ne (fun e => h (by rw [e]))]) (by rw [upS_off (by decide)]) (fun k hk => by rw [upS_off (by simp only [List.mem_cons, List.not_mem_nil, or_false] at hk; omega)]) (fun m hm' => by rw [upS_ne (cne (by simp only [List.mem_cons, List.not_mem_nil, or_false] at hm'; omega))]) ⟨by
      obtain ⟨n2, q1, q2, q3, q4⟩ := hR.2.1.1
      refine ⟨n2, q1, by rw [upS_ne (by decide)]; exact q2, by rw [upS_off (by decide)]; exact q3, ?_⟩
      rw [upS_ne (by decide), upS_ne (by decide)]; exact q4, ⟨0, by decide, upS_at, upS_at, fun j hj => absurd hj (Nat.not_lt_zero _)⟩, by rw [upS_ne (by decide), upS_ne (by decide)]; exact hR.2.1.2.2⟩
  obtain ⟨t0, e1, b1, b2, b3, b4⟩ := r_begin (τ := upS τ1 (0, 29) 42 0)
  have rf : RF (upS τ1 (0, 29) 42 0) t0 := ⟨fun k _ => by rw [b4 _ (by decide) (by decide) (by decide)], fun c c1 c2 c3 c4 _ => b4 c c2 c3 c4⟩
  have hRS : RS (upS τ1 (0, 29) 42 0) (hv σ 1) := RS_of hm.1 (fun k hk => by rw [upS_off (by omega)]) (fun m hm' => by rw [upS_ne (cne (by simp only [List.mem_cons, List.not_mem_nil, or_false] at hm'; omega))])
  have H0 : H9 s0 t0 (hv σ 1) (hv σ 1) := ⟨a1, a2, rf.RS hRS, fun p hp => by rw [b1 p hp, upS_ne (by decide)]; exact (hm.2.2.1 p hp).1, hw.2.1⟩
  have fin : ∀ s t, FC3 σ s → RF (upS τ1 (0, 29) 42 0) t → Rel (upS s (0, 0) 7 0) t := fun s t h1 h2 => hR2.fr (FC3.FC (fun c hc' => by
    by_cases q : c = (0, 0)
    · subst q
      funext j
      by_cases qj : j = 7
      · subst qj; rw [upS_at, upS_at]
      · rw [upS_off qj, upS_off qj, h1 _ hc']
    · rw [upS_ne q, upS_ne q]; exact h1 c hc')) h2.FM
  have e56 : ∀ t, RF (upS τ1 (0, 29) 42 0) t → ∀ j, t (0, 56) j = τ1 (0, 56) j := fun t h j => by rw [h.2 _ (by decide) (by decide) (by decide) (by decide) (by decide), upS_ne (by decide)]
  have key : ∀ d k n m s t w, k + d = N → d < n → d < m → H9 s t (hv σ 1) w → FC3 σ s → RF (upS τ1 (0, 29) 42 0) t → ∃ r s' t', f_X6_judge_9 (n + 1) (-9) (nI k) s = some (r, s') ∧ f_X7_judge_21 m (nI N) (nI k) t = some (r, t') ∧ Rel s' t' := by
    intro d
    induction d with
    | zero =>
      intro k n m s t w hk hn' hm' H hf hr
      obtain ⟨m, rfl⟩ : ∃ k, m = k + 1 := ⟨m - 1, by omega⟩
      have : k = N := by omega
      subst this
      refine ⟨-9, upS s (0, 0) 7 0, t, ?_, ?_, fin s t hf hr⟩
      · rw [f_X6_judge_9, hf _ (by decide), en, if_pos (nI_le (Nat.le_refl _) (by omega)), f_X6_judge_49, bv_eq]
      · rw [f_X7_judge_21, if_pos (nI_le (Nat.le_refl _) (by omega))]
    | succ d ih =>
      intro k n m s t w hk hn' hm' H hf hr
      obtain ⟨n, rfl⟩ : ∃ k, n = k + 1 := ⟨n - 1, by omega⟩
      obtain ⟨m, rfl⟩ : ∃ k, m = k + 1 := ⟨m - 1, by omega⟩
      have hk10 : k < 10 := by omega
      have hb : inb (nI k) 10 := vp_in_nI hk10 (by decide)
      obtain ⟨s', t', g1, g2, d1, d2, H', f1, r1⟩ := both_wk hw.1 H
      have hf' := hf.trans f1
      have hr' := hr.trans r1
      have e01 : s' (0, 1) k = τ1 (0, 56) k := by rw [hf' _ (by decide)]; exact ej k (by omega)
      rw [f_X6_judge_9, hf _ (by decide), en, if_neg (nI_ge (show k < N by omega) (by omega)), if_pos rfl, g1, bd_some, e_get_nI (n := 10) _ rfl hk10, bd_some, e01, f_X7_judge_21, if_neg (nI_ge (show k < N by omega) (by omega)), g2, bd_some, chk_t hb, nI_clamp (by omega), e56 t' hr']
      unfold f_X6_judge_43
      rw [nI_1]
      by_cases c : wr (hv σ 1) w = τ1 (0, 56) k
      · rw [if_pos c, if_pos c]
        exact ih (k + 1) n m s' t' _ (by omega) (by omega) (by omega) H' hf' hr'
      · rw [if_neg c, if_neg c]
        refine ⟨nI k, upS s' (0, 0) 7 0, t', ?_, rfl, fin s' t' hf' hr'⟩
        rw [f_X6_judge_9, hf' _ (by decide), en]
        have hne : ¬ nI k = -9 := fun e => absurd (show (0 : Int32) ≤ nI k from nI_pos' (by omega)) (by rw [e]; decide)
        rw [if_neg hne]
        unfold f_X6_judge_49
        rw [bv_eq]
        by_cases q : nI N ≤ nI (k + 1)
        · rw [if_pos q]
        · rw [if_neg q]
  rw [e0, bd_some, bv_eq, bv_eq, em, e1, bd_some]
  obtain ⟨r, s', t', w1, w2, w3⟩ := key N 0 1999 fuel s0 t0 _ (by omega) (by omega) (by show _ < 2000; omega) H0 a3 rf
  exact ⟨r, s', t', w1, w2, w3⟩
/-! seeds -/
def sd (x : Int32) : Int32 := (((x &&& (2147483647 : Int32)) / (65536 : Int32)) - ((x &&& (2147483647 : Int32)) / (65536 : Int32)) / (8 : Int32) * (8 : Int32))
theorem and_pos (x : Int32) : ¬ (x &&& (2147483647 : Int32)) < 0 := by
  intro h
  have h1 := Int32.lt_iff_toInt_lt.mp h
  have h2 : (x &&& (2147483647 : Int32)).toBitVec.msb = false := by
    rw [Int32.toBitVec_and, BitVec.msb_and]
    exact Bool.and_false _
  rw [BitVec.msb_eq_toInt] at h2
  have h3 : ¬ (x &&& (2147483647 : Int32)).toBitVec.toInt < 0 := of_decide_eq_false h2
  exact h3 h1
theorem sd_ok (x : Int32) : sd x ∈ l8 := by
  unfold sd
  obtain ⟨n, hn', e⟩ := nI_of (and_pos x)
  have h3 : nI n / 65536 = nI (n / 65536) := pk_div (d := 65536) hn' (by decide) (by decide)
  rw [e, h3]
  have h2 : n / 65536 < 2 ^ 31 := by omega
  rw [show nI (n / 65536) - nI (n / 65536) / 8 * 8 = nI (n / 65536 % 8) from pk_rem (d := 8) h2 (by decide) (by decide)]
  exact l8_of (Nat.mod_lt _ (by decide))
theorem H9.t {s t : Sg} {v w : Vw} (H : H9 s t v w) (i : Nat) (x : Int32) : H9 (upS s (3, 19) i x) (upS t (0, 42) i x) (uv v 19 i x) w := by
  obtain ⟨h1, h2, h3, h4, h5⟩ := H
  exact ⟨h1.up 19 i x, fun p hp => by rw [upS_ne (by decide)]; exact h2 p hp, h3.up (by decide) i x, fun p hp => by rw [upS_ne (by decide)]; exact h4 p hp, h5⟩
theorem E_seeds_R : E_seeds Rel := by
  intro a b σ τ hR0
  have hR := hR0.thrown
  unfold f_X6_seeds f_X7_seeds
  rw [bv_eq (upS τ (0, 29) 18 0)]
  generalize upS τ (0, 29) 18 0 = τ1 at hR ⊢
  have hc := CS1 σ
  have hw := hR.1.1
  have hm := hR.1.2
  rw [r_wn, bd_some, r_wn]
  by_cases h1 : 1 ≤ a
  · by_cases h2 : a ≤ 20
    · obtain ⟨N, hN, rfl⟩ := n20 h1 h2
      have h8 := hw.1.2.2.2.2.1.1
      obtain ⟨tk, ek, k1, k2⟩ := r_keepT τ1
      have fk := FM_54 k2
      obtain ⟨s0, t0, e0, e1, H, f0, r0⟩ := both_0 hw (fk.shM hm)
      have outer : ∀ d k n m x r0 s t v w, k + d = N → d < n → d < m → WFs v → hn v = hn (hv σ 1) → H9 s t v w → FC3 σ s → FXo X42 τ1 t → (∀ j, j < 8 → t (0, 54) j = τ1 (0, 42) j) → ∃ r s' t', f_X6_seeds_37 n (nI N) x r0 (nI k) s = some (r, s') ∧ f_X7_seeds_43 m (nI N) x r0 (nI k) t = some (r, t') ∧ FC3 σ s' ∧ FM τ1 t' := by
        intro d
        induction d with
        | zero =>
          intro k n m x r0 s t v w hk hn' hm' hv' hh H hf hx h54
          obtain ⟨n, rfl⟩ : ∃ k, n = k + 1 := ⟨n - 1, by omega⟩
          obtain ⟨m, rfl⟩ : ∃ k, m = k + 1 := ⟨m - 1, by omega⟩
          have : k = N := by omega
          subst this
          obtain ⟨t2, e2, fm⟩ := fx_back hx h54
          refine ⟨r0, s, t2, ?_, ?_, hf, fm⟩
          · rw [f_X6_seeds_37, if_pos (nI_le (Nat.le_refl _) (by omega))]
          · rw [f_X7_seeds_43, if_pos (nI_le (Nat.le_refl _) (by omega)), e2, bd_some]
        | succ d ih =>
          intro k n m x r0 s t v w hk hn' hm' hv' hh H hf hx h54
          obtain ⟨n, rfl⟩ : ∃ k, n = k + 1 := ⟨n - 1, by omega⟩
          obtain ⟨m, rfl⟩ : ∃ k, m = k + 1 := ⟨m - 1, by omega⟩
          have inner : ∀ e i n1 m1 x s t v, i + e = hn (hv σ 1) → e < n1 → e < m1 → WFs v → hn v = hn (hv σ 1) → H9 s t v w → FC3 σ s → FXo X42 τ1 t → (∀ j, j < 8 → t (0, 54) j = τ1 (0, 42) j) → ∃ r s' t', f_X6_seeds_46 (f_X6_seeds_37 n) n1 (nI N) x r0 (nI k) (nI i) s = some (r, s') ∧ f_X7_seeds_52 (f_X7_seeds_43 m) m1 (nI N) x r0 (nI k) (nI i) t = some (r, t') ∧ FC3 σ s' ∧ FM τ1 t' := by
            intro e
            induction e with
            | zero =>
              intro i n1 m1 x s t v hi hn1' hm1' hv' hh H hf hx h54
              obtain ⟨n1, rfl⟩ : ∃ k, n1 = k + 1 := ⟨n1 - 1, by omega⟩
              obtain ⟨m1, rfl⟩ : ∃ k, m1 = k + 1 := ⟨m1 - 1, by omega⟩
              have e15 : s (3, 15) 0 = nI i := by rw [H.1.1.2.2.2, hv'.2.2.2.2.1.2, hh]; exact congrArg nI (by omega)
              have e4 : t (0, 29) 4 = nI i := by rw [H.2.2.1.1.2.2.2, hv'.2.2.2.2.1.2, hh]; exact congrArg nI (by omega)
              obtain ⟨s', t', g1, g2, _, _, H', f1, r1⟩ := both_wk hv' H
              rw [f_X6_seeds_46, e15, if_pos (nI_le (Nat.le_refl _) (by omega)), g1, bd_some, bv_eq, f_X7_seeds_52, e4, if_pos (nI_le (Nat.le_refl _) (by omega)), g2, bd_some, bv_eq, nI_1]
              exact ih (k + 1) n m x _ s' t' v _ (by omega) (by omega) (by omega) hv' hh H' (hf.trans f1) (hx.fm r1.FM) (fun j hj => by rw [r1.2 _ (by decide) (by decide) (by decide) (by decide) (by decide)]; exact h54 j hj)
            | succ e ihe =>
              intro i n1 m1 x s t v hi hn1' hm1' hv' hh H hf hx h54
              obtain ⟨n1, rfl⟩ : ∃ k, n1 = k + 1 := ⟨n1 - 1, by omega⟩
              obtain ⟨m1, rfl⟩ : ∃ k, m1 = k + 1 := ⟨m1 - 1, by omega⟩
              have hi8 : i < 8 := by omega
              have hii : inb (nI i) 8 := vp_in_nI hi8 (by decide)
              have e15 : s (3, 15) 0 = nI (hn (hv σ 1)) := by rw [H.1.1.2.2.2, hv'.2.2.2.2.1.2, hh]
              have e4 : t (0, 29) 4 = nI (hn (hv σ 1)) := by rw [H.2.2.1.1.2.2.2, hv'.2.2.2.2.1.2, hh]
              rw [f_X6_seeds_46, e15, if_neg (nI_ge (by omega) (by omega)), bv_eq, e_set_nI (n := 8) _ rfl hi8, bd_some, f_X7_seeds_52, e4, if_neg (nI_ge (by omega) (by omega)), bv_eq, chk_t hii, bv_eq, nI_clamp (by omega), nI_1]
              exact ihe (i + 1) n1 m1 _ _ _ _ (by omega) (by omega) (by omega) (WFs_19 (i := i) hv' (sd_ok _)) hh (H.t i _) (hf.up 19 i _) (hx.up ⟨rfl, hi8⟩ (by decide) _) (fun j hj => by rw [upS_ne (by decide)]; exact h54 j hj)
          rw [f_X6_seeds_37, if_neg (nI_ge (show k < N by omega) (by omega)), f_X7_seeds_43, if_neg (nI_ge (show k < N by omega) (by omega))]
          exact inner (hn (hv σ 1)) 0 fuel fuel x s t v (by omega) (by show _ < 2000; omega) (by show _ < 2000; omega) hv' hh H hf hx h54
      obtain ⟨r, s', t', w1, w2, w3, w4⟩ := outer N 0 fuel fuel b 0 s0 t0 _ _ (by omega) (by show _ < 2000; omega) (by show _ < 2000; omega) hw.1 rfl H f0 (FXo.of (fk.trans r0.FM)) (fun j hj => by rw [r0.2 _ (by decide) (by decide) (by decide) (by decide) (by decide)]; exact k1 j hj)
      rw [if_pos h1, if_pos h2, if_pos h1, if_pos h2, if_pos (by decide), e0, bd_some, ek, bd_some, e1, bd_some]
      exact ⟨r, s', t', w1, w2, hR.fr w3.FC w4⟩
    · rw [if_pos h1, if_neg h2, if_pos h1, if_neg h2, if_neg (by decide), bd_some]; (obtain ⟨σ', τ', e1, e2, h⟩ := refuse_6 hR; exact ⟨_, σ', τ', by rw [e1, bd_some], by rw [e2, bd_some], h⟩)
  · rw [if_neg h1, if_neg h1, if_neg (by decide), bd_some]; (obtain ⟨σ', τ', e1, e2, h⟩ := refuse_4 hR; exact ⟨_, σ', τ', by rw [e1, bd_some], by rw [e2, bd_some], h⟩)
