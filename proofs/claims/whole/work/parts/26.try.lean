/-! ===== weeks in mind: what both need for them ===== -/
theorem e_copyH {h g : Nat} (hg : g ≠ h) (m : Nat) (σ : Sg) : ∃ σ', f_X6_copy (g, m) (h, m) σ = some ((), σ') ∧ (∀ k, k < alen (h, m) → σ' (h, m) k = σ (g, m) k) ∧ (∀ c, c ≠ (h, m) → σ' c = σ c) := by
  have hl := alen_1000 (h, m)
  have ha : alen (g, m) = alen (h, m) := rfl
  have hj : jmin (Int32.ofNat (alen (g, m))) (Int32.ofNat (alen (h, m))) = nI (alen (h, m)) := by
    rw [ha]
    show jmin (nI (alen (h, m))) (nI (alen (h, m))) = _
    rw [jm_nI (by omega) (by omega), Nat.min_self]
  refine ⟨upA σ (h, m) (va_cpy (σ (g, m)) (σ (h, m)) 0 0 (alen (h, m))), ?_, ?_, fun c hc => upA_ne _ _ hc⟩
  · unfold f_X6_copy
    rw [chk_t (by rw [hj, nI_clamp (by omega), ha]; exact ⟨nI_pos (by omega), Nat.le_refl _, Nat.le_refl _⟩), bv_eq, hj, nI_clamp (by omega)]
    rfl
  · intro k hk
    rw [upA_same, pk_cpy_in (Nat.zero_le k) (by omega)]
    congr 1; omega
/-- rows a .. M - 1 are copied -/
def PC (h g : Nat) (σ : Sg) (a M : Nat) (s : Sg) : Prop := (∀ m, a ≤ m → m < M → ∀ k, k < alen (h, m) → s (h, m) k = σ (g, m) k) ∧ (∀ c : Nat × Nat, c.1 ≠ h ∨ c.2 < a ∨ M ≤ c.2 → s c = σ c)
theorem PC.step {h g : Nat} {σ : Sg} {a M : Nat} {s : Sg} (hg : g ≠ h) (H : PC h g σ a M s) (haM : a ≤ M) : ∃ s', f_X6_copy (g, M) (h, M) s = some ((), s') ∧ PC h g σ a (M + 1) s' := by
  obtain ⟨s', e, q1, q2⟩ := e_copyH hg M s
  refine ⟨s', e, fun m h1 h2 k hk => ?_, fun c hc => ?_⟩
  · by_cases c : m = M
    · subst c; rw [q1 k hk, H.2 _ (Or.inl hg)]
    · rw [q2 _ (cne c)]; exact H.1 m h1 (by omega) k hk
  · rw [q2 c (fun e => by
      rw [e] at hc
      have e1 : (h, M).1 = h := rfl
      have e2 : (h, M).2 = M := rfl
      rw [e1, e2] at hc
      omega)]
    exact H.2 c (by omega)
theorem c_copyF {h g : Nat} (hg : g ≠ h) (σ : Sg) : ∃ σ', f_X0_copyFrom h g σ = some ((), σ') ∧ (∀ k, k < 3 → σ' (h, 7) k = σ (g, 7) k) ∧ (∀ m, 8 ≤ m → m < 15 → ∀ k, k < alen (h, m) → σ' (h, m) k = σ (g, m) k) ∧ (∀ c : Nat × Nat, c.1 ≠ h ∨ c.2 < 7 ∨ 15 ≤ c.2 → σ' c = σ c) := by
  unfold f_X0_copyFrom
  have hne : ∀ m, ((g, m) : Nat × Nat) ≠ (h, 7) := fun m => cneh hg
  rw [bv_eq, bv_eq, bv_eq, upS_ne (hne 7), upS_ne (hne 7), upS_ne (hne 7)]
  have hs7 : ∀ k, k < 3 → upS (upS (upS σ (h, 7) 0 (σ (g, 7) 0)) (h, 7) 1 (σ (g, 7) 1)) (h, 7) 2 (σ (g, 7) 2) (h, 7) k = σ (g, 7) k := by
    intro k hk
    rcases (by omega : k = 0 ∨ k = 1 ∨ k = 2) with rfl | rfl | rfl
    · rw [upS_off (by decide), upS_off (by decide), upS_at]
    · rw [upS_off (by decide), upS_at]
    · rw [upS_at]
  have hsn : ∀ c : Nat × Nat, c ≠ (h, 7) → upS (upS (upS σ (h, 7) 0 (σ (g, 7) 0)) (h, 7) 1 (σ (g, 7) 1)) (h, 7) 2 (σ (g, 7) 2) c = σ c := fun c hc => by rw [upS_ne hc, upS_ne hc, upS_ne hc]
  generalize upS (upS (upS σ (h, 7) 0 (σ (g, 7) 0)) (h, 7) 1 (σ (g, 7) 1)) (h, 7) 2 (σ (g, 7) 2) = σ1 at hs7 hsn ⊢
  have p0 : PC h g σ1 8 8 σ1 := ⟨fun m h1 h2 => absurd h2 (by omega), fun _ _ => rfl⟩
  obtain ⟨s1, e1, p1⟩ := p0.step hg (by decide)
  obtain ⟨s2, e2, p2⟩ := p1.step hg (by decide)
  obtain ⟨s3, e3, p3⟩ := p2.step hg (by decide)
  obtain ⟨s4, e4, p4⟩ := p3.step hg (by decide)
  obtain ⟨s5, e5, p5⟩ := p4.step hg (by decide)
  obtain ⟨s6, e6, p6⟩ := p5.step hg (by decide)
  obtain ⟨s7, e7, p7⟩ := p6.step hg (by decide)
  refine ⟨s7, ?_, fun k hk => ?_, fun m h1 h2 k hk => ?_, fun c hc => ?_⟩
  · rw [e1, bd_some, e2, bd_some, e3, bd_some, e4, bd_some, e5, bd_some, e6, bd_some, e7, bd_some]
  · rw [p7.2 (h, 7) (Or.inr (Or.inl (by show 7 < 8; decide)))]; exact hs7 k hk
  · rw [p7.1 m h1 h2 k hk, hsn _ (cneh hg)]
  · rw [p7.2 c (by omega), hsn c (fun e => by
      rw [e] at hc
      have e1 : (h, 7).1 = h := rfl
      have e2 : (h, 7).2 = 7 := rfl
      rw [e1, e2] at hc
      omega)]
theorem c_copyH {h g : Nat} (hg : g ≠ h) (σ : Sg) : ∃ σ', f_X1_copyFrom h g σ = some ((), σ') ∧ σ' (h, 15) 0 = σ (g, 15) 0 ∧ (∀ m, 16 ≤ m → m < 20 → ∀ k, k < alen (h, m) → σ' (h, m) k = σ (g, m) k) ∧ (∀ c : Nat × Nat, c.1 ≠ h ∨ c.2 < 15 ∨ 20 ≤ c.2 → σ' c = σ c) := by
  unfold f_X1_copyFrom
  rw [bv_eq]
  have hsn : ∀ c : Nat × Nat, c ≠ (h, 15) → upS σ (h, 15) 0 (σ (g, 15) 0) c = σ c := fun c hc => by rw [upS_ne hc]
  have hs0 : upS σ (h, 15) 0 (σ (g, 15) 0) (h, 15) 0 = σ (g, 15) 0 := upS_at
  generalize upS σ (h, 15) 0 (σ (g, 15) 0) = σ1 at hsn hs0 ⊢
  have p0 : PC h g σ1 16 16 σ1 := ⟨fun m h1 h2 => absurd h2 (by omega), fun _ _ => rfl⟩
  obtain ⟨s1, e1, p1⟩ := p0.step hg (by decide)
  obtain ⟨s2, e2, p2⟩ := p1.step hg (by decide)
  obtain ⟨s3, e3, p3⟩ := p2.step hg (by decide)
  obtain ⟨s4, e4, p4⟩ := p3.step hg (by decide)
  refine ⟨s4, ?_, ?_, fun m h1 h2 k hk => ?_, fun c hc => ?_⟩
  · rw [e1, bd_some, e2, bd_some, e3, bd_some, e4, bd_some]
  · rw [p4.2 (h, 15) (Or.inr (Or.inl (by show 15 < 16; decide)))]; exact hs0
  · rw [p4.1 m h1 h2 k hk, hsn _ (cneh hg)]
  · rw [p4.2 c (by omega), hsn c (fun e => by
      rw [e] at hc
      have e1 : (h, 15).1 = h := rfl
      have e2 : (h, 15).2 = 15 := rfl
      rw [e1, e2] at hc
      omega)]
theorem c_copyL {h g : Nat} (hg : g ≠ h) (σ : Sg) : ∃ σ', f_X3_copyFrom h g σ = some ((), σ') ∧ (∀ m, 21 ≤ m → m < 25 → ∀ k, k < alen (h, m) → σ' (h, m) k = σ (g, m) k) ∧ (∀ c : Nat × Nat, c.1 ≠ h ∨ c.2 < 20 ∨ 25 ≤ c.2 → σ' c = σ c) := by
  unfold f_X3_copyFrom
  have p0 : PC h g σ 21 21 σ := ⟨fun m h1 h2 => absurd h2 (by omega), fun _ _ => rfl⟩
  obtain ⟨s1, e1, p1⟩ := p0.step hg (by decide)
  obtain ⟨s2, e2, p2⟩ := p1.step hg (by decide)
  obtain ⟨s3, e3, p3⟩ := p2.step hg (by decide)
  obtain ⟨s4, e4, p4⟩ := p3.step hg (by decide)
  refine ⟨upS s4 (h, 20) 4 (s4 (g, 20) 4), ?_, fun m h1 h2 k hk => ?_, fun c hc => ?_⟩
  · rw [e1, bd_some, e2, bd_some, e3, bd_some, e4, bd_some, bv_eq]
  · rw [upS_ne (cne (by omega)), p4.1 m h1 h2 k hk]
  · rw [upS_ne (fun e => by
      rw [e] at hc
      have e1 : (h, 20).1 = h := rfl
      have e2 : (h, 20).2 = 20 := rfl
      rw [e1, e2] at hc
      omega), p4.2 c (by omega)]
/-- a house is copied -/
theorem c_copy {h g : Nat} (hg : g ≠ h) (σ : Sg) : ∃ σ', f_X2_copyFrom h g σ = some ((), σ') ∧ VE (hv σ g) (hv σ' h) ∧ (∀ c : Nat × Nat, c.1 ≠ h → σ' c = σ c) := by
  obtain ⟨s1, e1, a1, a2, a3⟩ := c_copyF hg σ
  obtain ⟨s2, e2, b1, b2, b3⟩ := c_copyH hg s1
  obtain ⟨s3, e3, c1, c2⟩ := c_copyL hg s2
  have hgg : ∀ m, s1 (g, m) = σ (g, m) := fun m => a3 _ (Or.inl hg)
  have hgg2 : ∀ m, s2 (g, m) = σ (g, m) := fun m => by rw [b3 _ (Or.inl hg), hgg]
  have hgg3 : ∀ m, s3 (g, m) = σ (g, m) := fun m => by rw [c2 _ (Or.inl hg), hgg2]
  refine ⟨upS s3 (h, 6) 4 (s3 (g, 6) 4), ?_, ?_, fun c hc => ?_⟩
  · unfold f_X2_copyFrom
    rw [e1, bd_some, e2, bd_some, e3, bd_some, bv_eq]
  · intro m k hk
    have hm : m < 25 := by unfold vk at hk; omega
    unfold hv
    rw [if_pos hm, if_pos hm]
    unfold vk at hk
    rcases hk with ⟨rfl, rfl⟩ | ⟨rfl, hk⟩ | ⟨rfl, rfl⟩ | ⟨h1, hk⟩ | ⟨rfl, hk⟩ | ⟨h1, h2, hk⟩
    · rw [upS_at, hgg3]
    · rw [upS_ne (cne (by decide)), c2 _ (Or.inr (Or.inl (by show 7 < 20; decide))), b3 _ (Or.inr (Or.inl (by show 7 < 15; decide))), a1 k hk]
    · rw [upS_ne (cne (by decide)), c2 _ (Or.inr (Or.inl (by show 15 < 20; decide))), b1, hgg]
    · by_cases h20 : m < 20
      · have : 8 ≤ m ∧ m ≤ 14 := by omega
        have hal : alen (h, m) = 24 := by
          have : ∀ m, 8 ≤ m → m < 15 → (ly_len m).getD 0 = 24 := by
            intro m h1 h2
            rcases (by omega : m = 8 ∨ m = 9 ∨ m = 10 ∨ m = 11 ∨ m = 12 ∨ m = 13 ∨ m = 14) with rfl | rfl | rfl | rfl | rfl | rfl | rfl <;> rfl
          exact this m (by omega) (by omega)
        rw [upS_ne (cne (by omega)), c2 _ (Or.inr (Or.inl (by show m < 20; omega))), b3 _ (Or.inr (Or.inl (by show m < 15; omega))), a2 m (by omega) (by omega) k (by rw [hal]; exact hk)]
      · rcases (by omega : m = 21 ∨ m = 24) with rfl | rfl
        · rw [upS_ne (cne (by omega)), c1 21 (by decide) (by decide) k hk, hgg2]
        · rw [upS_ne (cne (by omega)), c1 24 (by decide) (by decide) k hk, hgg2]
    · rw [upS_ne (cne (by omega)), c1 22 (by decide) (by decide) k hk, hgg2]
    · have hal : alen (h, m) = 8 := by
        rcases (by omega : m = 16 ∨ m = 17 ∨ m = 18 ∨ m = 19) with rfl | rfl | rfl | rfl <;> rfl
      rw [upS_ne (cne (by omega)), c2 _ (Or.inr (Or.inl (by show m < 20; omega))), b2 m (by omega) (by omega) k (by rw [hal]; exact hk), hgg]
  · have hne : ∀ m, c ≠ (h, m) := fun m e => hc (by rw [e])
    rw [upS_ne (hne 6), c2 c (Or.inl hc), b3 c (Or.inl hc), a3 c (Or.inl hc)]
theorem c_anew (σ : Sg) : ∃ σ', f_X6_tryAnew σ = some ((), σ') ∧ CS 3 σ' (hv σ 1) ∧ (∀ p, p < 24 → σ' (3, 9) p = hv σ 1 9 p) ∧ (∀ c : Nat × Nat, c.1 ≠ 3 → σ' c = σ c) := by
  obtain ⟨s1, e1, a1, a2, a3⟩ := c_copyF (h := 3) (g := 1) (by decide) σ
  obtain ⟨s2, e2, b1, b2, b3⟩ := c_copyH (h := 3) (g := 1) (by decide) s1
  have f : ∀ m k, 8 ≤ m → m < 15 → k < alen (3, m) → s2 (3, m) k = σ (1, m) k := fun m k h1 h2 hk => by
    rw [b3 _ (Or.inr (Or.inl (by show m < 15; omega))), a2 m h1 h2 k hk]
  have f7 : ∀ k, k < 3 → s2 (3, 7) k = σ (1, 7) k := fun k hk => by rw [b3 _ (Or.inr (Or.inl (by show 7 < 15; decide))), a1 k hk]
  have g : ∀ m k, 16 ≤ m → m < 20 → k < alen (3, m) → s2 (3, m) k = σ (1, m) k := fun m k h1 h2 hk => by
    rw [b2 m h1 h2 k hk, a3 _ (Or.inl (by show (1 : Nat) ≠ 3; decide))]
  refine ⟨s2, ?_, ⟨⟨f7 0 (by decide), f7 1 (by decide), f7 2 (by decide), ?_⟩, fun k hk => ⟨f 8 k (by decide) (by decide) hk, f 10 k (by decide) (by decide) hk, f 11 k (by decide) (by decide) hk, f 12 k (by decide) (by decide) hk, f 13 k (by decide) (by decide) hk, f 14 k (by decide) (by decide) hk⟩, fun k hk => ⟨g 16 k (by decide) (by decide) hk, g 17 k (by decide) (by decide) hk, g 18 k (by decide) (by decide) hk, g 19 k (by decide) (by decide) hk⟩⟩, fun p hp => f 9 p (by decide) (by decide) hp, fun c hc => ?_⟩
  · unfold f_X6_tryAnew
    rw [e1, bd_some, e2, bd_some]
  · rw [b1, a3 _ (Or.inl (by show (1 : Nat) ≠ 3; decide))]; rfl
  · rw [b3 c (Or.inl hc), a3 c (Or.inl hc)]
/-! a week of the trial's -/
def wr (v w : Vw) : Int32 := sm (wkS v w 23) (tn v)
def wd (v w : Vw) (t : Nat) : Int32 := wkS v w 23 t
theorem c_wk3 {s : Sg} {v w : Vw} (hv' : WFs v) (hc : CS 3 s v) (h9 : ∀ p, p < 24 → s (3, 9) p = w 9 p) (hh : okh v (w 9)) : ∃ s', f_X2_spendWeek 3 s = some (wr v w, s') ∧ (∀ t, t < 24 → s' (3, 23) t = wd v w t) ∧ CS 3 s' v ∧ (∀ p, p < 24 → s' (3, 9) p = wkS v w 9 p) ∧ (∀ c : Nat × Nat, c.1 ≠ 3 → s' c = s c) := by
  obtain ⟨r, s', e, q1, q2, q3, q4, q5⟩ := c_week hv' hc h9 hh
  refine ⟨s', by rw [e, q1]; rfl, q2.2.1, CS_of hc (fun m hm => q4 m ?_ ?_ ?_), q2.1, q5⟩
  all_goals (simp only [List.mem_cons, List.not_mem_nil, or_false] at hm; omega)
theorem r_wk {τ : Sg} {v w : Vw} (hv' : WFs v) (hr : RS τ v) (h31 : ∀ p, p < 24 → τ (0, 31) p = w 9 p) (hh : okh v (w 9)) : ∃ τ', f_X7_oneWeek τ = some (wr v w, τ') ∧ (∀ t, t < 24 → τ' (0, 45) t = wd v w t) ∧ RF τ τ' := by
  obtain ⟨τ', e, rd, rf⟩ := r_one hv' hr h31 hh
  exact ⟨τ', e, rd.2.1, rf⟩
def FC3 (σ s : Sg) : Prop := ∀ c : Nat × Nat, c.1 ≠ 3 → s c = σ c
theorem FC3.refl (σ : Sg) : FC3 σ σ := fun _ _ => rfl
theorem FC3.trans {a b c : Sg} (h : FC3 a b) (h' : FC3 b c) : FC3 a c := fun x q => (h' x q).trans (h x q)
theorem FC3.FC {a b : Sg} (h : FC3 a b) : FC a b := fun x q _ _ => h x q
theorem FC3.hv {a b : Sg} (h : FC3 a b) : hv b 1 = hv a 1 := hv_eq (fun m _ => h _ (by show (1 : Nat) ≠ 3; decide))
theorem FC.hv {a b : Sg} (h : FC a b) : _root_.Jvm.Pilot.CDripsOnBelowLaw_law_r3732_a79a41.hv b 1 = _root_.Jvm.Pilot.CDripsOnBelowLaw_law_r3732_a79a41.hv a 1 := hv_eq (fun m hm => h _ (by show (1 : Nat) ≠ 3; decide) (cneh (by decide)) (fun _ => hm))
theorem FC3.up {σ s : Sg} (h : FC3 σ s) (m k : Nat) (x : Int32) : FC3 σ (upS s (3, m) k x) := fun c hc => by rw [upS_ne (fun e => hc (by rw [e]))]; exact h c hc
/-! the reference with some numbers changed for a while -/
def FXo (X : Nat → Nat → Prop) (τ s : Sg) : Prop := (∀ k, k ∈ kS → s (0, 29) k = τ (0, 29) k) ∧ (∀ m, m ∈ kM → ∀ j, ¬ X m j → s (0, m) j = τ (0, m) j)
theorem FXo.refl (X : Nat → Nat → Prop) (τ : Sg) : FXo X τ τ := ⟨fun _ _ => rfl, fun _ _ _ _ => rfl⟩
theorem FXo.back {X : Nat → Nat → Prop} {τ s : Sg} (H : FXo X τ s) (h : ∀ m, m ∈ kM → ∀ j, X m j → s (0, m) j = τ (0, m) j) : FM τ s := ⟨H.1, fun m hm => by
  funext j
  rcases Classical.em (X m j) with c | c
  · exact h m hm j c
  · exact H.2 m hm j c⟩
theorem FXo.up {X : Nat → Nat → Prop} {τ s : Sg} (H : FXo X τ s) {m i : Nat} (hx : X m i) (hm : m ≠ 29) (x : Int32) : FXo X τ (upS s (0, m) i x) := by
  refine ⟨fun k hk => by rw [upS_ne (cne (fun e => hm e.symm))]; exact H.1 k hk, fun m' hm' j hj => ?_⟩
  by_cases c : m' = m
  · subst c
    by_cases c2 : j = i
    · subst c2; exact absurd hx hj
    · rw [upS_off c2]; exact H.2 m' hm' j hj
  · rw [upS_ne (cne c)]; exact H.2 m' hm' j hj
theorem FXo.fm {X : Nat → Nat → Prop} {τ s s' : Sg} (H : FXo X τ s) (h : FM s s') : FXo X τ s' := ⟨fun k hk => (h.1 k hk).trans (H.1 k hk), fun m hm j hj => by rw [h.2 m hm]; exact H.2 m hm j hj⟩
theorem FXo.of {X : Nat → Nat → Prop} {τ s : Sg} (h : FM τ s) : FXo X τ s := (FXo.refl X τ).fm h
theorem uv_uv (v : Vw) (m k : Nat) (x y : Int32) : uv (uv v m k x) m k y = uv v m k y := by
  funext r
  unfold uv
  by_cases c : r = m
  · rw [if_pos c, if_pos c, if_pos rfl]
    funext j
    unfold upd
    by_cases c2 : j = k
    · rw [if_pos c2, if_pos c2]
    · rw [if_neg c2, if_neg c2, if_neg c2]
  · rw [if_neg c, if_neg c, if_neg c]
theorem uv_comm {v : Vw} {m a b : Nat} {x y : Int32} (h : a ≠ b) : uv (uv v m a x) m b y = uv (uv v m b y) m a x := by
  funext r
  unfold uv
  by_cases c : r = m
  · rw [if_pos c, if_pos c, if_pos rfl, if_pos rfl]
    funext j
    unfold upd
    by_cases c2 : j = a
    · by_cases c3 : j = b
      · exact absurd (c2.symm.trans c3) h
      · rw [if_neg c3, if_pos c2, if_pos c2]
    · by_cases c3 : j = b
      · rw [if_pos c3, if_neg c2, if_pos c3]
      · rw [if_neg c3, if_neg c2, if_neg c2, if_neg c3]
  · rw [if_neg c, if_neg c, if_neg c, if_neg c]
