/-! ===== revenge that climbs ===== -/
def WF3 (v : Vw) : Prop := WFs v ∧ okh v (v 9) ∧ OKL (v 21) (v 22)
def sh3 (τ : Sg) (v : Vw) : Prop := RS τ v ∧ (∀ p, p < 24 → τ (0, 31) p = v 9 p ∧ τ (0, 36) p = v 21 p ∧ τ (0, 37) p = v 24 p) ∧ (∀ k, k < 576 → τ (0, 38) k = v 22 k)
theorem CSh (σ : Sg) (h : Nat) : CS h σ (hv σ h) := ⟨⟨rfl, rfl, rfl, rfl⟩, fun _ _ => ⟨rfl, rfl, rfl, rfl, rfl, rfl⟩, fun _ _ => ⟨rfl, rfl, rfl, rfl⟩⟩
theorem week_c {h : Nat} {σ : Sg} {τ : Sg} (hw : WF3 (hv σ h)) (hcs : CS h σ (hv σ h)) (hm : sh3 τ (hv σ h)) : ∃ r σ' τ1 τ', f_X2_spendWeek h σ = some (r, σ') ∧ f_X7_oneWeek τ = some (r, τ1) ∧ f_X7_keepWeek τ1 = some ((), τ') ∧ WF3 (hv σ' h) ∧ CS h σ' (hv σ' h) ∧ sh3 τ' (hv σ' h) ∧ (∀ c : Nat × Nat, c.1 ≠ h → σ' c = σ c) ∧ (∀ k, k ∈ [26, 35, 42] → τ' (0, 29) k = τ (0, 29) k) ∧ (∀ m, m ∈ [43, 48, 52, 53, 56] → τ' (0, m) = τ (0, m)) := by
  obtain ⟨r, σ', e1, q1, q2, q3, q4, q5⟩ := c_week (w := hv σ h) hw.1 hcs (fun _ _ => rfl) hw.2.1
  obtain ⟨τ1, e2, rd, rf⟩ := r_one (w := hv σ h) hw.1 hm.1 (fun p hp => (hm.2.1 p hp).1) hw.2.1
  obtain ⟨τ', e3, k1, k2, k3, k4, k5, k6, k7⟩ := r_keep rd
  have hwk' := wkS_ok hw.1 (w := hv σ h) hw.2.1
  have hrow : ∀ m, m ≠ 9 → m ≠ 6 → m < 20 → hv σ' h m = hv σ h m := fun m h1 h2 h3 => by unfold hv; rw [q4 m h1 h2 h3]
  obtain ⟨l9, l23, l20, lok, l24⟩ := q2
  have hok : OKL (σ (h, 21)) (σ (h, 22)) := hw.2.2
  obtain ⟨l21, l22⟩ := lok hok
  have hS : WFs (hv σ' h) := WFs_rows (fun m hm' => hrow m (by simp only [List.mem_cons, List.not_mem_nil, or_false] at hm'; omega) (by simp only [List.mem_cons, List.not_mem_nil, or_false] at hm'; omega) (by simp only [List.mem_cons, List.not_mem_nil, or_false] at hm'; omega)) hw.1
  have f1 : ∀ m, m ≠ 29 → m ≠ 31 → m ≠ 36 → m ≠ 37 → m ≠ 38 → m ≠ 44 → m ≠ 45 → m ≠ 46 → m ≠ 47 → τ' (0, m) = τ (0, m) := fun m n1 n2 n3 n4 n5 n6 n7 n8 n9 => by rw [k7 _ (cne n1) (cne n2) (cne n3) (cne n4) (cne n5), rf.2 _ (cne n1) (cne n6) (cne n7) (cne n8) (cne n9)]
  have f2 : ∀ k, k ≠ 3 → k ≠ 24 → τ' (0, 29) k = τ (0, 29) k := fun k h1 h2 => by rw [k6 k h1, rf.1 k h2]
  refine ⟨r, σ', τ1, τ', e1, ?_, e3, ⟨hS, ?_, ⟨?_, ?_⟩⟩, ?_, ⟨?_, ?_, ?_⟩, q5, ?_, ?_⟩
  · rw [e2, q1]
  · intro p hp
    have h8 : hv σ' h 8 p = hv σ h 8 p := by rw [hrow 8 (by decide) (by decide) (by decide)]
    have h9 : hv σ' h 9 p = wkS (hv σ h) (hv σ h) 9 p := l9 p hp
    rw [h8, h9]; exact hwk'.2 p hp
  · intro t ht
    obtain ⟨a, ha, ea⟩ := hok.1 t ht
    obtain ⟨b, hb, eb⟩ := hwk'.1.1 t ht
    have h21 : hv σ' h 21 t = jmin (nI 99999) (nI a + nI b) := by rw [← ea, ← eb]; exact l21 t ht
    rw [h21]; exact jm_ex (by decide) (by omega) (by omega)
  · intro k hk
    obtain ⟨a, ha, ea⟩ := hok.2 k hk
    obtain ⟨b, hb, eb⟩ := hwk'.1.2 k hk
    have hkk : k = 24 * (k / 24) + k % 24 := by omega
    have h22 : hv σ' h 22 k = jmin (nI 999) (nI a + nI b) := by
      rw [← ea, ← eb]
      have := l22 (k / 24) (k % 24) (by omega) (by omega)
      rw [← hkk] at this; exact this
    rw [h22]; exact jm_ex (by decide) (by omega) (by omega)
  · exact ⟨⟨rfl, rfl, rfl, rfl⟩, fun _ _ => ⟨rfl, rfl, rfl, rfl, rfl, rfl⟩, fun _ _ => ⟨rfl, rfl, rfl, rfl⟩⟩
  · refine RS_of' (RS_rows (v := hv σ h) (fun m hm' => hrow m (by simp only [List.mem_cons, List.not_mem_nil, or_false] at hm'; omega) (by simp only [List.mem_cons, List.not_mem_nil, or_false] at hm'; omega) (by simp only [List.mem_cons, List.not_mem_nil, or_false] at hm'; omega)) hm.1) ?_ ?_
    · intro k hk
      simp only [List.mem_cons, List.not_mem_nil, or_false] at hk
      exact f2 k (by omega) (by omega)
    · intro m hm'
      simp only [List.mem_cons, List.not_mem_nil, or_false] at hm'
      exact f1 m (by omega) (by omega) (by omega) (by omega) (by omega) (by omega) (by omega) (by omega) (by omega)
  · intro p hp
    refine ⟨?_, ?_, ?_⟩
    · rw [k1 p hp]; exact (l9 p hp).symm
    · rw [k2 p hp, rf.2 _ (by decide) (by decide) (by decide) (by decide) (by decide), (hm.2.1 p hp).2.1]; exact (l21 p hp).symm
    · rw [k4 p hp]; exact (l24 p hp).symm
  · intro k hk
    have hkk : k = 24 * (k / 24) + k % 24 := by omega
    have e38 := k3 (k / 24) (k % 24) (by omega) (by omega)
    have e22 := l22 (k / 24) (k % 24) (by omega) (by omega)
    rw [← hkk] at e38 e22
    rw [e38, rf.2 _ (by decide) (by decide) (by decide) (by decide) (by decide), hm.2.2 k hk]; exact e22.symm
  · intro k hk
    exact f2 k (by simp only [List.mem_cons, List.not_mem_nil, or_false] at hk; omega) (by simp only [List.mem_cons, List.not_mem_nil, or_false] at hk; omega)
  · intro m hm'
    simp only [List.mem_cons, List.not_mem_nil, or_false] at hm'
    exact f1 m (by omega) (by omega) (by omega) (by omega) (by omega) (by omega) (by omega) (by omega) (by omega)
/-! who is angry -/
def agf (v : Vw) (t : Nat) : Nat → Int32
  | 0 => 0
  | u + 1 => if agf v t u = 0 then (if ((v 24 t >>> (nI u &&& 31)) &&& 1) = 1 then (if v 22 (24 * t + u) < 5 then 0 else 1) else 0) else 1
theorem agf01 (v : Vw) (t : Nat) : ∀ u, agf v t u = 0 ∨ agf v t u = 1 := by
  intro u
  cases u with
  | zero => exact Or.inl rfl
  | succ u =>
    rw [agf]
    by_cases c : agf v t u = 0
    · rw [if_pos c]
      split
      · split
        · exact Or.inl rfl
        · exact Or.inr rfl
      · exact Or.inl rfl
    · rw [if_neg c]; exact Or.inr rfl
theorem agf_up {v : Vw} {t u : Nat} (h : agf v t u = 1) : ∀ d, agf v t (u + d) = 1 := by
  intro d
  induction d with
  | zero => exact h
  | succ d ih => rw [show u + (d + 1) = (u + d) + 1 by omega, agf, ih, if_neg (by decide)]
theorem c_angry {s : Sg} {v : Vw} {t : Nat} (ht : t < 24) (h24 : s (3, 24) t = v 24 t) (h22 : ∀ u, u < 24 → s (3, 22) (24 * t + u) = v 22 (24 * t + u)) : f_X3_isAngry 3 (nI t) s = some (agf v t 24, s) := by
  have key : ∀ d u n, u + d = 24 → d < n → agf v t u = 0 → f_X3_isAngry_2 3 n (nI t) (nI u) s = some (agf v t 24, s) := by
    intro d
    induction d with
    | zero =>
      intro u n hu hn h0
      obtain ⟨n, rfl⟩ : ∃ k, n = k + 1 := ⟨n - 1, by omega⟩
      have : u = 24 := by omega
      subst this
      rw [f_X3_isAngry_2, if_pos (by decide), h0]
    | succ d ih =>
      intro u n hu hn h0
      obtain ⟨n, rfl⟩ : ∃ k, n = k + 1 := ⟨n - 1, by omega⟩
      have hu24 : u < 24 := by omega
      have hstep : agf v t (u + 1) = if ((v 24 t >>> (nI u &&& 31)) &&& 1) = 1 then (if v 22 (24 * t + u) < 5 then 0 else 1) else 0 := by rw [agf, if_pos h0]
      rw [f_X3_isAngry_2, if_neg (show ¬ (24 : Int32) ≤ nI u from nI_ge hu24 (by decide)), e_get_nI (n := 24) _ rfl ht, bd_some, bv_eq, h24]
      unfold f_X3_isAngry_52
      rw [nI_1]
      by_cases c : ((v 24 t >>> (nI u &&& 31)) &&& 1) = 1
      · rw [if_pos c] at hstep ⊢
        rw [if_neg h10, f_X3_pair, bd_some, ix24, e_get_nI (n := 576) _ rfl (by omega), bd_some, h22 u hu24]
        by_cases c2 : v 22 (24 * t + u) < 5
        · rw [if_pos c2] at hstep ⊢
          exact ih (u + 1) n (by omega) (by omega) hstep
        · rw [if_neg c2] at hstep ⊢
          have := agf_up hstep (24 - (u + 1))
          rw [show u + 1 + (24 - (u + 1)) = 24 by omega] at this
          rw [this]
      · rw [if_neg c] at hstep ⊢
        rw [if_pos rfl]
        exact ih (u + 1) n (by omega) (by omega) hstep
  exact key 24 0 fuel rfl (by decide) rfl
theorem r_angry {s : Sg} {v : Vw} {t : Nat} (ht : t < 24) (h24 : s (0, 37) t = v 24 t) (h22 : ∀ u, u < 24 → s (0, 38) (24 * t + u) = v 22 (24 * t + u)) : f_X7_isAngry (nI t) s = some (agf v t 24, s) := by
  have hb := inb24 ht
  have cl : (nI t).toNatClampNeg = t := nI_clamp (by omega)
  have key : ∀ d u n, u + d = 24 → d < n → f_X7_isAngry_4 n (nI t) (agf v t u) (nI u) s = some (agf v t 24, s) := by
    intro d
    induction d with
    | zero =>
      intro u n hu hn
      obtain ⟨n, rfl⟩ : ∃ k, n = k + 1 := ⟨n - 1, by omega⟩
      have : u = 24 := by omega
      subst this
      rw [f_X7_isAngry_4, if_pos (by decide), chk_t (agf01 v t 24)]
    | succ d ih =>
      intro u n hu hn
      obtain ⟨n, rfl⟩ : ∃ k, n = k + 1 := ⟨n - 1, by omega⟩
      have hu24 : u < 24 := by omega
      have hix : 24 * t + u < 576 := by omega
      have hbi : inb (nI (24 * t + u)) 576 := vp_in_nI hix (by decide)
      have nxt := ih (u + 1) n (by omega) (by omega)
      rw [agf] at nxt
      rw [f_X7_isAngry_4, if_neg (show ¬ (24 : Int32) ≤ nI u from nI_ge hu24 (by decide))]
      unfold f_X7_isAngry_47 f_X7_isAngry_43 f_X7_isAngry_48
      simp only [chk_t hb, cl, ix24', chk_t hbi, show (nI (24 * t + u)).toNatClampNeg = 24 * t + u from nI_clamp (by omega), nI_1]
      rw [h24, h22 u hu24]
      by_cases c0 : agf v t u = 0
      · rw [if_pos c0] at nxt ⊢
        by_cases c : ((v 24 t >>> (nI u &&& 31)) &&& 1) = 1
        · rw [if_pos c] at nxt ⊢
          by_cases c2 : v 22 (24 * t + u) < 5
          · rw [if_pos c2] at nxt ⊢; exact nxt
          · rw [if_neg c2] at nxt ⊢; exact nxt
        · rw [if_neg c] at nxt ⊢; exact nxt
      · rw [if_neg c0] at nxt ⊢; exact nxt
  exact key 24 0 fuel rfl (by decide)
/-! what revenge makes of the figures -/
def fg (v : Vw) (i : Nat) : Int32 := if agf v (v 16 i).toNatClampNeg 24 = 0 then v 18 i else if 9 ≤ v 18 i then v 18 i else v 18 i + 1
theorem fg9 : ∀ x ∈ l10, jmin 9 (x + 1) = (if 9 ≤ x then x else x + 1) ∧ (if (9 : Int32) ≤ x then x else x + 1) ∈ l10 := by decide +kernel
theorem fg_ok {v : Vw} (hv' : WFs v) {i : Nat} (hi : i < hn v) : fg v i ∈ l10 := by
  unfold fg
  have h := fig hv' hi
  split
  · exact h
  · exact (fg9 _ h).2
theorem c_raise {s : Sg} {v : Vw} {t : Nat} (hv' : WFs v) (ht : t < 24) (h15 : s (3, 15) 0 = nI (hn v)) (h16 : ∀ i, i < 8 → s (3, 16) i = v 16 i) (h18 : ∀ i, i < hn v → v 16 i = nI t → s (3, 18) i = v 18 i) : ∃ s', f_X1_raise 3 (nI t) s = some ((), s') ∧ (∀ i, i < hn v → v 16 i = nI t → s' (3, 18) i = if 9 ≤ v 18 i then v 18 i else v 18 i + 1) ∧ (∀ i, ¬ (i < hn v ∧ v 16 i = nI t) → s' (3, 18) i = s (3, 18) i) ∧ (∀ c, c ≠ (3, 18) → s' c = s c) := by
  have h8 := hv'.2.2.2.2.1.1
  obtain ⟨r, s', e, h⟩ := lp (fun n (a : Int32) q => f_X1_raise_2 3 n (nI t) a q) (fun k a q => a = nI k ∧ (∀ i, i < k → v 16 i = nI t → q (3, 18) i = if 9 ≤ v 18 i then v 18 i else v 18 i + 1) ∧ (∀ i, ¬ (i < k ∧ v 16 i = nI t) → q (3, 18) i = s (3, 18) i) ∧ (∀ c, c ≠ (3, 18) → q c = s c)) (fun _ s' => (∀ i, i < hn v → v 16 i = nI t → s' (3, 18) i = if 9 ≤ v 18 i then v 18 i else v 18 i + 1) ∧ (∀ i, ¬ (i < hn v ∧ v 16 i = nI t) → s' (3, 18) i = s (3, 18) i) ∧ (∀ c, c ≠ (3, 18) → s' c = s c)) (hn v)
    (fun k n a q hk hI => by
      obtain ⟨rfl, h1, h2, h3⟩ := hI
      have hk8 : k < 8 := by omega
      refine Or.inl ?_
      show ∃ a' s', f_X1_raise_2 3 (n + 1) (nI t) (nI k) q = f_X1_raise_2 3 n (nI t) a' s' ∧ _
      rw [f_X1_raise_2, h3 _ (by decide), h15, if_neg (nI_ge hk (by omega)), e_get_nI (n := 8) _ rfl hk8, bd_some, h3 _ (by decide), h16 k hk8]
      unfold f_X1_raise_45
      rw [nI_1]
      by_cases c : v 16 k = nI t
      · rw [if_pos c, e_get_nI (n := 8) _ rfl hk8, bd_some, e_set_nI (n := 8) _ rfl hk8, bd_some, h2 k (fun q => absurd q.1 (Nat.lt_irrefl k)), h18 k hk c, (fg9 _ (fig hv' hk)).1]
        refine ⟨nI (k + 1), _, rfl, rfl, ?_, ?_, ?_⟩
        · intro i hi hit
          by_cases e : i = k
          · subst e; exact upS_at
          · rw [upS_off e]; exact h1 i (by omega) hit
        · intro i hi
          rw [upS_off (fun e => hi ⟨by omega, by rw [e]; exact c⟩)]
          exact h2 i (fun q => hi ⟨by omega, q.2⟩)
        · intro c' hc; rw [upS_ne hc]; exact h3 c' hc
      · rw [if_neg c]
        refine ⟨nI (k + 1), _, rfl, rfl, ?_, ?_, h3⟩
        · intro i hi hit
          by_cases e : i = k
          · subst e; exact absurd hit c
          · exact h1 i (by omega) hit
        · intro i hi
          exact h2 i (fun q => hi ⟨by omega, q.2⟩))
    (fun n a q hI => by
      obtain ⟨rfl, h1, h2, h3⟩ := hI
      refine ⟨(), q, ?_, h1, h2, h3⟩
      show f_X1_raise_2 3 (n + 1) (nI t) (nI (hn v)) q = _
      rw [f_X1_raise_2, h3 _ (by decide), h15, if_pos (nI_le (Nat.le_refl _) (by omega))])
    (hn v) 0 (by omega) fuel (nI 0) s (by show _ < 2000; omega) ⟨rfl, fun j hj => absurd hj (Nat.not_lt_zero _), fun _ _ => rfl, fun _ _ => rfl⟩
  exact ⟨s', e, h⟩
def G18 (v : Vw) (i : Nat) : Int32 := if i < hn v then fg v i else v 18 i
theorem c_revenge {s : Sg} (hw : WF3 (hv s 3)) : ∃ s', f_X2_takeRevenge 3 s = some ((), s') ∧ (∀ i, i < 8 → s' (3, 18) i = G18 (hv s 3) i) ∧ (∀ c, c ≠ (3, 18) → s' c = s c) := by
  have htn := tn24 hw.1
  have h8 := hw.1.2.2.2.2.1.1
  have h01 : s (3, 7) 0 * s (3, 7) 1 = nI (tn (hv s 3)) := htn.2.1
  obtain ⟨r, s', e, h⟩ := lp (fun n (a : Int32) q => f_X2_takeRevenge_2 3 n a q) (fun k a q => a = nI k ∧ (∀ i, i < hn (hv s 3) → q (3, 18) i = if (hv s 3 16 i).toNatClampNeg < k then fg (hv s 3) i else hv s 3 18 i) ∧ (∀ i, ¬ i < hn (hv s 3) → q (3, 18) i = hv s 3 18 i) ∧ (∀ c, c ≠ (3, 18) → q c = s c)) (fun _ s' => (∀ i, i < 8 → s' (3, 18) i = G18 (hv s 3) i) ∧ (∀ c, c ≠ (3, 18) → s' c = s c)) (tn (hv s 3))
    (fun k n a q hk hI => by
      obtain ⟨rfl, h1, h2, h3⟩ := hI
      have hk24 : k < 24 := by omega
      refine Or.inl ?_
      show ∃ a' s', f_X2_takeRevenge_2 3 (n + 1) (nI k) q = f_X2_takeRevenge_2 3 n a' s' ∧ _
      rw [f_X2_takeRevenge_2, f_X0_tenants, bd_some, h3 _ (by decide), h01, if_neg (nI_ge hk (by omega)), c_angry (v := hv s 3) hk24 (by rw [h3 _ (by decide)]; rfl) (fun u _ => by rw [h3 _ (by decide)]; rfl), bd_some]
      unfold f_X2_takeRevenge_32
      rw [nI_1]
      by_cases c : agf (hv s 3) k 24 = 0
      · rw [if_pos c]
        refine ⟨nI (k + 1), q, rfl, rfl, ?_, h2, h3⟩
        intro i hi
        rw [h1 i hi]
        by_cases e : (hv s 3 16 i).toNatClampNeg = k
        · rw [if_neg (by omega), if_pos (by omega), fg, e, if_pos c]
        · by_cases e2 : (hv s 3 16 i).toNatClampNeg < k
          · rw [if_pos e2, if_pos (by omega)]
          · rw [if_neg e2, if_neg (by omega)]
      · have hwho : ∀ i, i < hn (hv s 3) → (hv s 3 16 i = nI k ↔ (hv s 3 16 i).toNatClampNeg = k) := fun i hi => by
          obtain ⟨u, _, hu24, e16, e16', _⟩ := who_ok hw.1 hi
          rw [e16]
          constructor
          · intro q; rw [q]; exact nI_clamp (by omega)
          · intro q; rw [nI_clamp (by omega)] at q; rw [q]
        obtain ⟨s2, e2, a1, a2, a3⟩ := c_raise (v := hv s 3) (s := q) hw.1 hk24 (by rw [h3 _ (by decide)]; exact hw.1.2.2.2.2.1.2) (fun i _ => by rw [h3 _ (by decide)]; rfl) (fun i hi hit => by rw [h1 i hi, if_neg (by have := (hwho i hi).mp hit; omega)])
        rw [if_neg c, e2, bd_some]
        refine ⟨nI (k + 1), s2, rfl, rfl, ?_, ?_, fun c hc => by rw [a3 c hc]; exact h3 c hc⟩
        · intro i hi
          by_cases e : (hv s 3 16 i).toNatClampNeg = k
          · rw [a1 i hi ((hwho i hi).mpr e), if_pos (show (hv s 3 16 i).toNatClampNeg < k + 1 by omega), fg, e, if_neg c]
          · rw [a2 i (fun q => e ((hwho i hi).mp q.2)), h1 i hi]
            by_cases e2 : (hv s 3 16 i).toNatClampNeg < k
            · rw [if_pos e2, if_pos (by omega)]
            · rw [if_neg e2, if_neg (by omega)]
        · intro i hi
          rw [a2 i (fun q => hi q.1)]; exact h2 i hi)
    (fun n a q hI => by
      obtain ⟨rfl, h1, h2, h3⟩ := hI
      refine ⟨(), q, ?_, ?_, h3⟩
      · show f_X2_takeRevenge_2 3 (n + 1) (nI (tn (hv s 3))) q = _
        rw [f_X2_takeRevenge_2, f_X0_tenants, bd_some, h3 _ (by decide), h01, if_pos (nI_le (Nat.le_refl _) (by omega))]
      · intro i _
        unfold G18
        by_cases hi : i < hn (hv s 3)
        · obtain ⟨u, hu, _, _, e16', _⟩ := who_ok hw.1 hi
          rw [if_pos hi, h1 i hi, if_pos (by omega)]
        · rw [if_neg hi]; exact h2 i hi)
    (tn (hv s 3)) 0 (by omega) fuel (nI 0) s (by show _ < 2000; omega) ⟨rfl, fun i _ => by rw [if_neg (Nat.not_lt_zero _)]; rfl, fun _ _ => rfl, fun _ _ => rfl⟩
  exact ⟨s', e, h⟩
theorem r_revenge {t : Sg} {v : Vw} (hv' : WFs v) (hm : sh3 t v) : ∃ t', f_X7_revenge t = some ((), t') ∧ (∀ i, i < 8 → t' (0, 41) i = G18 v i) ∧ (∀ c, c ≠ (0, 41) → t' c = t c) := by
  have h8 := hv'.2.2.2.2.1.1
  have h4 : t (0, 29) 4 = nI (hn v) := by rw [hm.1.1.2.2.2]; exact hv'.2.2.2.2.1.2
  obtain ⟨r, s', e, h⟩ := lp (fun n (a : Int32) q => f_X7_revenge_2 n a q) (fun k a q => a = nI k ∧ (∀ i, i < k → q (0, 41) i = fg v i) ∧ (∀ i, k ≤ i → q (0, 41) i = t (0, 41) i) ∧ (∀ c, c ≠ (0, 41) → q c = t c)) (fun _ s' => (∀ i, i < 8 → s' (0, 41) i = G18 v i) ∧ (∀ c, c ≠ (0, 41) → s' c = t c)) (hn v)
    (fun k n a q hk hI => by
      obtain ⟨rfl, h1, h2, h3⟩ := hI
      have hk8 : k < 8 := by omega
      have hii : inb (nI k) 8 := vp_in_nI hk8 (by decide)
      have cl : (nI k).toNatClampNeg = k := nI_clamp (by omega)
      obtain ⟨u, hu, hu24, e16, e16', _⟩ := who_ok hv' hk
      have q41 : q (0, 41) k = v 18 k := by rw [h2 k (Nat.le_refl k)]; exact (hm.1.2.2.2 k hk8).2.2.1
      have q39 : q (0, 39) k = nI u := by rw [h3 _ (by decide), (hm.1.2.2.2 k hk8).1]; exact e16
      have ea := r_angry (s := q) (v := v) hu24 (by rw [h3 _ (by decide)]; exact (hm.2.1 u hu24).2.2) (fun u' hu' => by rw [h3 _ (by decide)]; exact hm.2.2 _ (by omega))
      refine Or.inl ⟨nI (k + 1), upS q (0, 41) k (fg v k), ?_, rfl, ?_, ?_, ?_⟩
      · show f_X7_revenge_2 (n + 1) (nI k) q = _
        rw [f_X7_revenge_2, h3 _ (by decide), h4, if_neg (nI_ge hk (by omega))]
        unfold f_X7_revenge_45 f_X7_revenge_46
        simp only [chk_t hii, bv_eq, cl, nI_1]
        rw [q39, ea, bd_some, q41, fg, e16']
        have x0 : v 18 k + 0 = v 18 k := by generalize v 18 k = y; grind
        by_cases c : agf v u 24 = 0
        · rw [if_pos c, if_pos c, x0]
        · rw [if_neg c, if_neg c]
          by_cases c9 : 9 ≤ v 18 k
          · rw [if_pos c9, if_pos c9, x0]
          · rw [if_neg c9, if_neg c9]
      · intro i hi
        by_cases e : i = k
        · subst e; exact upS_at
        · rw [upS_off e]; exact h1 i (by omega)
      · intro i hi; rw [upS_off (by omega)]; exact h2 i (by omega)
      · intro c hc; rw [upS_ne hc]; exact h3 c hc)
    (fun n a q hI => by
      obtain ⟨rfl, h1, h2, h3⟩ := hI
      refine ⟨(), q, ?_, ?_, h3⟩
      · show f_X7_revenge_2 (n + 1) (nI (hn v)) q = _
        rw [f_X7_revenge_2, h3 _ (by decide), h4, if_pos (nI_le (Nat.le_refl _) (by omega))]
      · intro i hi8
        unfold G18
        by_cases hi : i < hn v
        · rw [if_pos hi]; exact h1 i hi
        · rw [if_neg hi, h2 i (by omega)]; exact (hm.1.2.2.2 i hi8).2.2.1)
    (hn v) 0 (by omega) fuel (nI 0) t (by show _ < 2000; omega) ⟨rfl, fun j hj => absurd hj (Nat.not_lt_zero _), fun _ _ => rfl, fun _ _ => rfl⟩
  exact ⟨s', e, h⟩
theorem rev_both {s t : Sg} (hw : WF3 (hv s 3)) (hm : sh3 t (hv s 3)) : ∃ s' t', f_X2_takeRevenge 3 s = some ((), s') ∧ f_X7_revenge t = some ((), t') ∧ WF3 (hv s' 3) ∧ sh3 t' (hv s' 3) ∧ FC3 s s' ∧ (∀ c, c ≠ (0, 41) → t' c = t c) := by
  obtain ⟨s', e1, a1, a2⟩ := c_revenge hw
  obtain ⟨t', e2, b1, b2⟩ := r_revenge hw.1 hm
  have er : ∀ m, m ≠ 18 → hv s' 3 m = hv s 3 m := fun m h => by unfold hv; rw [a2 _ (cne h)]
  have e18 : ∀ i, i < 8 → hv s' 3 18 i = G18 (hv s 3) i := a1
  have h8 := hw.1.2.2.2.2.1.1
  have eV : hv s' 3 = fun m => if m = 18 then hv s' 3 18 else hv s 3 m := by
    funext m
    by_cases c : m = 18
    · rw [if_pos c, c]
    · rw [if_neg c, er m c]
  refine ⟨s', t', e1, e2, ⟨?_, ?_, ?_⟩, ⟨?_, ?_, ?_⟩, fun c hc => a2 c (fun e => hc (by rw [e])), b2⟩
  · rw [eV]
    obtain ⟨c1, c2, c3, c4, c5, c6⟩ := hw.1
    refine ⟨c1, c2, c3, c4, c5, fun j hj => ?_⟩
    obtain ⟨d1, d2, d3, d4⟩ := c6 j hj
    refine ⟨d1, d2, ?_, d4⟩
    show hv s' 3 18 j ∈ l10
    have hj' : j < hn (hv s 3) := hj
    rw [e18 j (by omega), G18, if_pos hj']
    exact fg_ok hw.1 hj'
  · intro p hp
    rw [er 9 (by decide), er 8 (by decide)]; exact hw.2.1 p hp
  · rw [er 21 (by decide), er 22 (by decide)]; exact hw.2.2
  · have hr : RS t (hv s 3) := hm.1
    rw [eV]
    obtain ⟨c1, c2, c3, c4⟩ := hr
    refine ⟨?_, fun k hk => ?_, fun k hk => ?_, fun k hk => ?_⟩
    · rw [b2 _ (by decide)]; exact c1
    · rw [b2 _ (by decide), b2 _ (by decide), b2 _ (by decide), b2 _ (by decide)]; exact c2 k hk
    · rw [b2 _ (by decide)]; exact c3 k hk
    · rw [b2 (0, 39) (by decide), b2 (0, 40) (by decide), b2 (0, 42) (by decide)]
      obtain ⟨d1, d2, d3, d4⟩ := c4 k hk
      exact ⟨d1, d2, (b1 k hk).trans (e18 k hk).symm, d4⟩
  · intro p hp
    rw [b2 _ (by decide), b2 _ (by decide), b2 _ (by decide), er 9 (by decide), er 21 (by decide), er 24 (by decide)]; exact hm.2.1 p hp
  · intro k hk
    rw [b2 _ (by decide), er 22 (by decide)]; exact hm.2.2 k hk
theorem E_climbs_R : E_climbs Rel := by
  intro σ τ hR0
  have hR := hR0.thrown
  unfold f_X6_climbs f_X7_climbs
  rw [bv_eq (upS τ (0, 29) 18 0)]
  generalize upS τ (0, 29) 18 0 = τ1 at hR ⊢
  have hc := CS1 σ
  have hw := hR.1.1
  have hm := hR.1.2
  obtain ⟨s0, e0, ve, a0⟩ := c_copy (h := 3) (g := 1) (by decide) σ
  obtain ⟨t0, g0, fm0, hI0⟩ := r_take hm
  have hw0 : WF (hv s0 3) := hw.ve ve
  have hm0 : shM t0 (hv s0 3) := (fm0.shM hm).ve ve hw
  rw [e0, bd_some, g0, bd_some]
  have fin : ∀ s t r, FC3 σ s → FM1 τ1 t → shI (t (0, 52)) (hv σ 1) → ∃ t', f_X7_climbs_71 r t = some (r, t') ∧ Rel s t' := fun s t r hf hft hI => by
    obtain ⟨t', e, f1, hs⟩ := r_lay hw hI
    refine ⟨t', by rw [f_X7_climbs_71, e, bd_some], hR.upN (fun c h1 h3 _ => hf c h3) (hft.trans f1) ⟨?_, ?_⟩⟩
    · rw [hf.hv]; exact hw
    · rw [hf.hv]; exact hs
  have key : ∀ d k n m x s t, k + d = 10 → d < n → d + 1 < m → WF3 (hv s 3) → sh3 t (hv s 3) → FC3 σ s → FM1 τ1 t → shI (t (0, 52)) (hv σ 1) → ∃ r s' t', f_X6_climbs_15 n x (nI k) s = some (r, s') ∧ f_X7_climbs_21 m (-9) x (nI k) t = some (r, t') ∧ Rel s' t' := by
    intro d
    induction d with
    | zero =>
      intro k n m x s t hk hn' hm' hw3 hm3 hf hft hI
      obtain ⟨n, rfl⟩ : ∃ k, n = k + 1 := ⟨n - 1, by omega⟩
      obtain ⟨m, rfl⟩ : ∃ k, m = k + 1 := ⟨m - 1, by omega⟩
      have : k = 10 := by omega
      subst this
      obtain ⟨t', e, hrel⟩ := fin s t (-9) hf hft hI
      refine ⟨-9, s, t', ?_, ?_, hrel⟩
      · rw [f_X6_climbs_15, if_pos (by decide)]
      · rw [f_X7_climbs_21, if_pos (by decide)]; exact e
    | succ d ih =>
      intro k n m x s t hk hn' hm' hw3 hm3 hf hft hI
      obtain ⟨n, rfl⟩ : ∃ k, n = k + 1 := ⟨n - 1, by omega⟩
      obtain ⟨m, rfl⟩ : ∃ k, m = k + 1 := ⟨m - 1, by omega⟩
      have hk10 : k < 10 := by omega
      obtain ⟨s1, t1, e1, e2, w1, m1, f1, r1⟩ := rev_both hw3 hm3
      obtain ⟨r, s2, t2, t3, g1, g2, g3, w2, _, m2, f2, sl, rw2⟩ := week_c (h := 3) w1 (CSh s1 3) m1
      have hf2 : FC3 σ s2 := (hf.trans f1).trans f2
      have x1 : FM1 t t1 := ⟨fun k hk => by rw [r1 _ (by decide)], fun m hm => r1 _ (cne (by simp only [List.mem_cons, List.not_mem_nil, or_false] at hm; omega))⟩
      have x2 : FM1 t1 t3 := ⟨fun k hk => sl k hk, fun m hm => rw2 m (by simp only [List.mem_cons, List.not_mem_nil, or_false] at hm ⊢; omega)⟩
      have hft2 : FM1 τ1 t3 := hft.trans (x1.trans x2)
      have hI2 : shI (t3 (0, 52)) (hv σ 1) := by rw [rw2 52 (by decide), r1 _ (by decide)]; exact hI
      rw [f_X6_climbs_15, if_neg (show ¬ (10 : Int32) ≤ nI k from nI_ge hk10 (by decide)), e1, bd_some, g1, bd_some, f_X7_climbs_21, if_neg (show ¬ (10 : Int32) ≤ nI k from nI_ge hk10 (by decide)), if_neg (show ¬ (0 : Int32) ≤ -9 by decide), e2, bd_some, g2, bd_some, g3, bd_some, bv_eq]
      unfold f_X6_climbs_47
      rw [nI_1]
      by_cases c0 : nI k ≤ 0
      · rw [if_pos c0, if_pos c0]
        exact ih (k + 1) n m _ s2 t3 (by omega) (by omega) (by omega) w2 m2 hf2 hft2 hI2
      · rw [if_neg c0, if_neg c0]
        by_cases c1 : x < r
        · rw [if_pos c1, if_pos c1]
          exact ih (k + 1) n m _ s2 t3 (by omega) (by omega) (by omega) w2 m2 hf2 hft2 hI2
        · rw [if_neg c1, if_neg c1]
          obtain ⟨m, rfl⟩ : ∃ k, m = k + 1 := ⟨m - 1, by omega⟩
          obtain ⟨t', e, hrel⟩ := fin s2 t3 (nI k) hf2 hft2 hI2
          refine ⟨nI k, s2, t', rfl, ?_, hrel⟩
          rw [f_X7_climbs_21]
          by_cases c2 : (10 : Int32) ≤ nI (k + 1)
          · rw [if_pos c2]; exact e
          · rw [if_neg c2, if_pos (nI_pos' (by omega))]; exact e
  exact key 10 0 fuel fuel 0 s0 t0 rfl (by decide) (by decide) ⟨hw0.1, hw0.2.1, hw0.2.2.1⟩ ⟨hm0.1, hm0.2.2.1, hm0.2.2.2⟩ (fun c hc => a0 c hc) fm0.FM1 hI0
