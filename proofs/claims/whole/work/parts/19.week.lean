/-! ===== a week, in both ===== -/
theorem alen_1000 (i : Nat × Nat) : alen i < 1000 := by
  have h : ∀ m, (ly_len m).getD 0 < 1000 := by
    intro m
    unfold ly_len
    split <;> decide
  exact h i.2
theorem e_fill (i : Nat × Nat) (x : Int32) (σ : Sg) : ∃ σ', f_J7_fill_53178 i x σ = some ((), σ') ∧ (∀ k, k < alen i → σ' i k = x) ∧ (∀ c, c ≠ i → σ' c = σ c) := by
  have hl := alen_1000 i
  obtain ⟨r, s', e, h⟩ := lp (fun n (a : Int32) s => f_J7_fill_53178_5 i n x a (nI (alen i)) s) (fun k a s => a = nI k ∧ (∀ j, j < k → s i j = x) ∧ (∀ c, c ≠ i → s c = σ c)) (fun _ s => (∀ k, k < alen i → s i k = x) ∧ (∀ c, c ≠ i → s c = σ c)) (alen i)
    (fun k n a s hk hI => by
      obtain ⟨rfl, h1, h2⟩ := hI
      refine Or.inl ⟨nI (k + 1), upS s i k x, ?_, rfl, ?_, ?_⟩
      · show f_J7_fill_53178_5 i (n + 1) x (nI k) (nI (alen i)) s = _
        have hb : inb (nI k) (alen i) := vp_in_nI hk (by omega)
        rw [f_J7_fill_53178_5, if_neg (nI_ge hk (by omega)), chk_t hb, bv_eq, nI_1, nI_clamp (by omega)]
      · intro j hj
        by_cases e : j = k
        · subst e; exact upS_at
        · rw [upS_off e]; exact h1 j (by omega)
      · intro c hc; rw [upS_ne hc]; exact h2 c hc)
    (fun n a s hI => by
      obtain ⟨rfl, h1, h2⟩ := hI
      refine ⟨(), s, ?_, h1, h2⟩
      show f_J7_fill_53178_5 i (n + 1) x (nI (alen i)) (nI (alen i)) s = _
      rw [f_J7_fill_53178_5, if_pos (nI_le (Nat.le_refl _) (by omega))])
    (alen i) 0 (by omega) fuel (nI 0) σ (by show _ < 2000; omega) ⟨rfl, fun j hj => absurd hj (Nat.not_lt_zero _), fun _ _ => rfl⟩
  refine ⟨s', ?_, h⟩
  unfold f_J7_fill_53178
  rw [bv_eq]
  exact e
/-! what a week does -/
def hbS (v : Vw) (a : Nat) : Nat → Vw → Vw
  | 0, w => w
  | n + 1, w => if v 19 n = nI a then flS v n (hbS v a n w) else hbS v a n w
def hrS (v : Vw) : Nat → Vw → Vw
  | 0, w => w
  | a + 1, w => hbS v a (hn v) (hrS v a w)
def clr (w : Vw) : Vw := fun m k => if m = 23 then 0 else if m = 46 then 0 else w m k
def dry1 (x : Int32) : Int32 := x - (if x ≤ 0 then 0 else 1)
def dry (w : Vw) : Vw := fun m k => if m = 9 then dry1 (w 9 k) else w m k
def wkS (v w : Vw) : Vw := dry (hrS v 8 (clr w))
theorem hb_ok {v : Vw} (hv : WFs v) {a n : Nat} {w : Vw} (hw : WB n w) (hh : okh v (w 9)) : ∀ i, i ≤ hn v → WB (n + 6 * i) (hbS v a i w) ∧ okh v (hbS v a i w 9) := by
  intro i
  induction i with
  | zero => intro _; exact ⟨hw, hh⟩
  | succ i ih =>
    intro hi
    have h1 := ih (by omega)
    rw [hbS]
    split
    · exact ⟨by have := flS_WB hv (show i < hn v by omega) h1.2 h1.1; rwa [show n + 6 * (i + 1) = n + 6 * i + 6 by omega], flS_okh hv (by omega) h1.2⟩
    · exact ⟨WB_le h1.1 (by omega), h1.2⟩
theorem hr_ok {v : Vw} (hv : WFs v) {w : Vw} (hw : WB 0 w) (hh : okh v (w 9)) : ∀ a, WB (48 * a) (hrS v a w) ∧ okh v (hrS v a w 9) := by
  intro a
  induction a with
  | zero => exact ⟨hw, hh⟩
  | succ a ih =>
    have := hb_ok hv (a := a) ih.1 ih.2 (hn v) (Nat.le_refl _)
    have h8 := hv.2.2.2.2.1.1
    exact ⟨WB_le this.1 (by omega), this.2⟩
theorem clr_WB (w : Vw) : WB 0 (clr w) := ⟨fun t _ => ⟨0, by omega, rfl⟩, fun t _ => ⟨0, by omega, rfl⟩⟩
theorem clr_9 (w : Vw) : clr w 9 = w 9 := rfl
theorem dry10 : ∀ x ∈ l10, dry1 x ∈ l10 ∧ dry1 x ≤ x ∧ jmax 0 (x - 1) = dry1 x := by decide +kernel
theorem wkS_ok {v : Vw} (hv : WFs v) {w : Vw} (hh : okh v (w 9)) : WB 384 (wkS v w) ∧ okh v (wkS v w 9) := by
  have := hr_ok hv (clr_WB w) hh 8
  refine ⟨this.1, ?_⟩
  intro p hp
  have h1 := this.2 p hp
  have h2 := dry10 _ h1.1
  show dry1 (hrS v 8 (clr w) 9 p) ∈ l10 ∧ dry1 (hrS v 8 (clr w) 9 p) ≤ v 8 p
  exact ⟨h2.1, Int32.le_trans h2.2.1 h1.2⟩
theorem orb_0 : ∀ n, orb (fun _ => 0) n = 0 := by
  intro n
  induction n with
  | zero => rfl
  | succ n ih => rw [orb, ih, if_pos (by decide), Int32.or_zero]
/-! the class's week -/
def FrC (h : Nat) (σ0 σ : Sg) : Prop := (∀ m, m ≠ 9 → m < 20 → σ (h, m) = σ0 (h, m)) ∧ (∀ c : Nat × Nat, c.1 ≠ h → σ c = σ0 c)
theorem FrC.CS {h : Nat} {σ0 σ : Sg} {v : Vw} (H : FrC h σ0 σ) (hc : CS h σ0 v) : CS h σ v := CS_of hc (fun m' hm' => by
  have h1 : m' ≠ 9 ∧ m' < 20 := by
    simp only [List.mem_cons, List.not_mem_nil, or_false] at hm'
    omega
  exact H.1 m' h1.1 h1.2)
theorem FrC.trans {h : Nat} {a b c : Sg} (H : FrC h a b) (H' : FrC h b c) : FrC h a c := ⟨fun m h1 h2 => (H'.1 m h1 h2).trans (H.1 m h1 h2), fun c hc => (H'.2 c hc).trans (H.2 c hc)⟩
theorem c_begin {h : Nat} {σ : Sg} {w : Vw} {T : Nat} (h9 : ∀ p, p < 24 → σ (h, 9) p = w 9 p) : ∃ σ', f_X3_beginWeek h σ = some ((), σ') ∧ CL h (σ (h, 21)) (σ (h, 22)) T σ' (clr w) ∧ FrC h σ σ' := by
  obtain ⟨σ1, e1, a1, b1⟩ := e_fill (h, 23) 0 σ
  obtain ⟨σ2, e2, a2, b2⟩ := e_fill (h, 24) 0 σ1
  refine ⟨upS σ2 (h, 20) 4 0, ?_, ?_, ?_⟩
  · unfold f_X3_beginWeek
    rw [e1, bd_some, e2, bd_some, bv_eq]
  · refine ⟨?_, ?_, ?_, ?_, ?_⟩
    · intro p hp
      rw [upS_ne (cne (by decide)), b2 _ (cne (by decide)), b1 _ (cne (by decide)), clr_9]; exact h9 p hp
    · intro t ht
      rw [upS_ne (cne (by decide)), b2 _ (cne (by decide))]; exact a1 t ht
    · rw [upS_at]
      have : ∀ n, sm (fun _ => 0) n = 0 := by
        intro n
        induction n with
        | zero => rfl
        | succ n ih => rw [sm, ih]; rfl
      exact (this T).symm
    · intro hok
      constructor
      · intro t ht
        rw [upS_ne (cne (by decide)), b2 _ (cne (by decide)), b1 _ (cne (by decide))]
        obtain ⟨a, ha, e⟩ := hok.1 t ht
        rw [e]
        show nI a = jmin (nI 99999) (nI a + nI 0)
        rw [nI_add, jm_nI (by omega) (by omega)]
        congr 1; omega
      · intro t u ht hu
        rw [upS_ne (cne (by decide)), b2 _ (cne (by decide)), b1 _ (cne (by decide))]
        obtain ⟨a, ha, e⟩ := hok.2 (24 * t + u) (by omega)
        rw [e]
        show nI a = jmin (nI 999) (nI a + nI 0)
        rw [nI_add, jm_nI (by omega) (by omega)]
        congr 1; omega
    · intro t ht
      rw [upS_ne (cne (by decide)), a2 t ht]
      exact (orb_0 24).symm
  · constructor
    · intro m h1 h2
      rw [upS_ne (cne (by omega)), b2 _ (cne (by omega)), b1 _ (cne (by omega))]
    · intro c hc
      have hne : ∀ m, c ≠ (h, m) := fun m e => hc (by rw [e])
      rw [upS_ne (hne _), b2 _ (hne _), b1 _ (hne _)]
theorem c_dry {h : Nat} {σ : Sg} : ∃ σ', f_X0_dry h σ = some ((), σ') ∧ (∀ p, p < 24 → σ' (h, 9) p = jmax 0 (σ (h, 9) p - 1)) ∧ (∀ c, c ≠ (h, 9) → σ' c = σ c) := by
  obtain ⟨r, s', e, h⟩ := lp (fun n (a : Int32) s => f_X0_dry_2 h n a s) (fun k a s => a = nI k ∧ (∀ j, j < k → s (h, 9) j = jmax 0 (σ (h, 9) j - 1)) ∧ (∀ j, k ≤ j → s (h, 9) j = σ (h, 9) j) ∧ (∀ c, c ≠ (h, 9) → s c = σ c)) (fun _ s => (∀ p, p < 24 → s (h, 9) p = jmax 0 (σ (h, 9) p - 1)) ∧ (∀ c, c ≠ (h, 9) → s c = σ c)) 24
    (fun k n a s hk hI => by
      obtain ⟨rfl, h1, h2, h3⟩ := hI
      refine Or.inl ⟨nI (k + 1), upS s (h, 9) k (jmax 0 (σ (h, 9) k - 1)), ?_, rfl, ?_, ?_, ?_⟩
      · show f_X0_dry_2 h (n + 1) (nI k) s = _
        have hb : inb (nI k) 24 := inb24 hk
        rw [f_X0_dry_2, if_neg (show ¬ (24 : Int32) ≤ nI k from nI_ge hk (by decide)), chk_t hb, chk_t hb, bv_eq, nI_1, nI_clamp (by omega), h2 k (Nat.le_refl k)]
      · intro j hj
        by_cases e : j = k
        · subst e; exact upS_at
        · rw [upS_off e]; exact h1 j (by omega)
      · intro j hj; rw [upS_off (by omega)]; exact h2 j (by omega)
      · intro c hc; rw [upS_ne hc]; exact h3 c hc)
    (fun n a s hI => by
      obtain ⟨rfl, h1, h2, h3⟩ := hI
      refine ⟨(), s, ?_, h1, h3⟩
      show f_X0_dry_2 h (n + 1) (nI 24) s = _
      rw [f_X0_dry_2, if_pos (by decide)])
    24 0 rfl fuel (nI 0) σ (by decide) ⟨rfl, fun j hj => absurd hj (Nat.not_lt_zero _), fun _ _ => rfl, fun _ _ => rfl⟩
  exact ⟨s', e, h⟩
/-- how a week of the class's ends -/
def CQ (h : Nat) (v w : Vw) (σ : Sg) (r : Int32) (σ' : Sg) : Prop := r = sm (wkS v w 23) (tn v) ∧ CL h (σ (h, 21)) (σ (h, 22)) (tn v) σ' (wkS v w) ∧ σ' (h, 6) 4 = σ (h, 6) 4 + 1 ∧ (∀ m, m ≠ 9 → m ≠ 6 → m < 20 → σ' (h, m) = σ (h, m)) ∧ (∀ c : Nat × Nat, c.1 ≠ h → σ' c = σ c)
theorem c_week {h : Nat} {σ : Sg} {v w : Vw} (hv : WFs v) (hc : CS h σ v) (h9 : ∀ p, p < 24 → σ (h, 9) p = w 9 p) (hh : okh v (w 9)) : ∃ r σ', f_X2_spendWeek h σ = some (r, σ') ∧ CQ h v w σ r σ' := by
  obtain ⟨σ1, e1, l1, fr1⟩ := c_begin (T := tn v) h9
  have hr := hr_ok hv (clr_WB w) hh
  unfold f_X2_spendWeek
  rw [e1, bd_some]
  have outer : ∀ d a n s, a + d = 8 → d < n → FrC h σ s → CL h (σ (h, 21)) (σ (h, 22)) (tn v) s (hrS v a (clr w)) → ∃ r σ', f_X2_spendWeek_9 h n (nI a) s = some (r, σ') ∧ CQ h v w σ r σ' := by
    intro d
    induction d with
    | zero =>
      intro a n s ha hnn hf hl
      obtain ⟨n, rfl⟩ : ∃ k, n = k + 1 := ⟨n - 1, by omega⟩
      have : a = 8 := by omega
      subst this
      obtain ⟨s2, e2, a2, b2⟩ := c_dry (h := h) (σ := s)
      refine ⟨s2 (h, 20) 4, upS s2 (h, 6) 4 (s2 (h, 6) 4 + 1), ?_, ?_⟩
      · rw [f_X2_spendWeek_9, if_pos (by decide), e2, bd_some, bv_eq, upS_ne (cne (by decide))]
      · obtain ⟨c1, c2, c3, c4, c5⟩ := hl
        refine ⟨?_, ⟨?_, ?_, ?_, ?_, ?_⟩, ?_, ?_, ?_⟩
        · rw [b2 _ (cne (by decide)), c3]; rfl
        · intro p hp
          rw [upS_ne (cne (by decide)), a2 p hp, c1 p hp]
          exact (dry10 _ ((hr 8).2 p hp).1).2.2
        · intro t ht; rw [upS_ne (cne (by decide)), b2 _ (cne (by decide))]; exact c2 t ht
        · rw [upS_ne (cne (by decide)), b2 _ (cne (by decide))]; exact c3
        · intro hok; rw [upS_ne (cne (by decide)), upS_ne (cne (by decide)), b2 _ (cne (by decide)), b2 _ (cne (by decide))]; exact c4 hok
        · intro t ht; rw [upS_ne (cne (by decide)), b2 _ (cne (by decide))]; exact c5 t ht
        · rw [upS_at, b2 _ (cne (by decide)), hf.1 6 (by decide) (by decide)]
        · intro m h1 h2 h3; rw [upS_ne (cne h2), b2 _ (cne h1), hf.1 m h1 h3]
        · intro c hc'
          have hne : ∀ m, c ≠ (h, m) := fun m e => hc' (by rw [e])
          rw [upS_ne (hne _), b2 _ (hne _), hf.2 c hc']
    | succ d ih =>
      intro a n s ha hnn hf hl
      obtain ⟨n, rfl⟩ : ∃ k, n = k + 1 := ⟨n - 1, by omega⟩
      rw [f_X2_spendWeek_9, if_neg (show ¬ (8 : Int32) ≤ nI a from nI_ge (show a < 8 by omega) (by decide))]
      have inner : ∀ e i k s, i + e = hn v → e < k → FrC h σ s → CL h (σ (h, 21)) (σ (h, 22)) (tn v) s (hbS v a i (hrS v a (clr w))) → ∃ r σ', f_X2_spendWeek_17 h (f_X2_spendWeek_9 h n) k (nI a) (nI i) s = some (r, σ') ∧ CQ h v w σ r σ' := by
        intro e
        induction e with
        | zero =>
          intro i k s hi hk hf hl
          obtain ⟨k, rfl⟩ : ∃ j, k = j + 1 := ⟨k - 1, by omega⟩
          have hcs := hf.CS hc
          have h15 : s (h, 15) 0 = nI (hn v) := by rw [hcs.1.2.2.2]; exact hv.2.2.2.2.1.2
          have hi' : i = hn v := by omega
          subst hi'
          have h8 := hv.2.2.2.2.1.1
          rw [f_X2_spendWeek_17, h15, if_pos (nI_le (Nat.le_refl _) (by omega)), nI_1]
          exact ih (a + 1) n s (by omega) (by omega) hf hl
        | succ e ihe =>
          intro i k s hi hk hf hl
          obtain ⟨k, rfl⟩ : ∃ j, k = j + 1 := ⟨k - 1, by omega⟩
          have hcs := hf.CS hc
          have h15 : s (h, 15) 0 = nI (hn v) := by rw [hcs.1.2.2.2]; exact hv.2.2.2.2.1.2
          have h8 := hv.2.2.2.2.1.1
          have hi8 : i < 8 := by omega
          have hb := hb_ok hv (a := a) (hr a).1 (hr a).2 i (by omega)
          rw [f_X2_spendWeek_17, h15, if_neg (nI_ge (by omega) (by omega)), e_get_nI (n := 8) _ rfl hi8, bd_some, (hcs.2.2 i hi8).2.2.2]
          unfold f_X2_spendWeek_48
          by_cases hc19 : v 19 i = nI a
          · obtain ⟨s2, e2, l2, f2, g2⟩ := c_fall hv (show i < hn v by omega) hcs hb.2 hl hb.1 (by omega)
            rw [if_pos hc19, e2, bd_some, nI_1]
            refine ihe (i + 1) k s2 (by omega) (by omega) (hf.trans ⟨f2, g2⟩) ?_
            rw [hbS, if_pos hc19]; exact l2
          · rw [if_neg hc19, nI_1]
            refine ihe (i + 1) k s (by omega) (by omega) hf ?_
            rw [hbS, if_neg hc19]; exact hl
      exact inner (hn v) 0 fuel s (by omega) (by have := hv.2.2.2.2.1.1; show _ < 2000; omega) hf hl
  exact outer 8 0 fuel σ1 rfl (by decide) fr1 l1
/-! the reference's week -/
theorem r_clear (τ : Sg) : ∃ τ', f_X7_clearHarm τ = some ((), τ') ∧ (∀ t, t < 24 → τ' (0, 45) t = 0) ∧ (∀ k, k < 576 → τ' (0, 46) k = 0) ∧ (∀ c, c ≠ (0, 45) → c ≠ (0, 46) → τ' c = τ c) := by
  have h2 : ∀ s : Sg, ∃ r s', f_X7_clearHarm_23 fuel (nI 0) s = some (r, s') ∧ (∀ k, k < 576 → s' (0, 46) k = 0) ∧ (∀ c, c ≠ (0, 46) → s' c = s c) := fun s =>
    lp (fun n (a : Int32) s => f_X7_clearHarm_23 n a s) (fun k a s1 => a = nI k ∧ (∀ j, j < k → s1 (0, 46) j = 0) ∧ (∀ c, c ≠ (0, 46) → s1 c = s c)) (fun _ s1 => (∀ k, k < 576 → s1 (0, 46) k = 0) ∧ (∀ c, c ≠ (0, 46) → s1 c = s c)) 576
      (fun k n a s1 hk hI => by
        obtain ⟨rfl, h1, h2⟩ := hI
        refine Or.inl ⟨nI (k + 1), upS s1 (0, 46) k 0, ?_, rfl, ?_, ?_⟩
        · show f_X7_clearHarm_23 (n + 1) (nI k) s1 = _
          have hb : inb (nI k) 576 := vp_in_nI hk (by decide)
          rw [f_X7_clearHarm_23, if_neg (show ¬ (576 : Int32) ≤ nI k from nI_ge hk (by decide)), chk_t hb, bv_eq, nI_1, nI_clamp (by omega)]
        · intro j hj
          by_cases e : j = k
          · subst e; exact upS_at
          · rw [upS_off e]; exact h1 j (by omega)
        · intro c hc; rw [upS_ne hc]; exact h2 c hc)
      (fun n a s1 hI => by
        obtain ⟨rfl, h1, h2⟩ := hI
        refine ⟨(), s1, ?_, h1, h2⟩
        show f_X7_clearHarm_23 (n + 1) (nI 576) s1 = _
        rw [f_X7_clearHarm_23, if_pos (by decide)])
      576 0 rfl fuel (nI 0) s (by decide) ⟨rfl, fun j hj => absurd hj (Nat.not_lt_zero _), fun _ _ => rfl⟩
  obtain ⟨r, s', e, h⟩ := lp (fun n (a : Int32) s => f_X7_clearHarm_2 n a s) (fun k a s => a = nI k ∧ (∀ j, j < k → s (0, 45) j = 0) ∧ (∀ c, c ≠ (0, 45) → s c = τ c)) (fun _ s => (∀ t, t < 24 → s (0, 45) t = 0) ∧ (∀ k, k < 576 → s (0, 46) k = 0) ∧ (∀ c, c ≠ (0, 45) → c ≠ (0, 46) → s c = τ c)) 24
      (fun k n a s1 hk hI => by
        obtain ⟨rfl, h1, h2⟩ := hI
        refine Or.inl ⟨nI (k + 1), upS s1 (0, 45) k 0, ?_, rfl, ?_, ?_⟩
        · show f_X7_clearHarm_2 (n + 1) (nI k) s1 = _
          have hb : inb (nI k) 24 := vp_in_nI hk (by decide)
          rw [f_X7_clearHarm_2, if_neg (show ¬ (24 : Int32) ≤ nI k from nI_ge hk (by decide)), chk_t hb, bv_eq, nI_1, nI_clamp (by omega)]
        · intro j hj
          by_cases e : j = k
          · subst e; exact upS_at
          · rw [upS_off e]; exact h1 j (by omega)
        · intro c hc; rw [upS_ne hc]; exact h2 c hc)
      (fun n a s1 hI => by
        obtain ⟨rfl, h1, h3⟩ := hI
        obtain ⟨r, s', e, q1, q2⟩ := h2 s1
        refine ⟨(), s', ?_, ?_, q1, ?_⟩
        · show f_X7_clearHarm_2 (n + 1) (nI 24) s1 = _
          rw [f_X7_clearHarm_2, if_pos (by decide)]; exact e
        · intro t ht; rw [q2 _ (by decide)]; exact h1 t ht
        · intro c c1 c2; rw [q2 c c2]; exact h3 c c1)
      24 0 rfl fuel (nI 0) τ (by decide) ⟨rfl, fun j hj => absurd hj (Nat.not_lt_zero _), fun _ _ => rfl⟩
  exact ⟨s', e, h⟩
theorem r_sum {τ : Sg} {v w : Vw} (hv : WFs v) (hr : RS τ v) (hd' : ∀ t, t < 24 → τ (0, 45) t = w 23 t) : f_X7_sumHarm τ = some (sm (w 23) (tn v), τ) := by
  have ht := tn24 hv
  have h01 : τ (0, 29) 0 * τ (0, 29) 1 = nI (tn v) := by rw [hr.1.1, hr.1.2.1]; exact ht.2.1
  have key : ∀ d t n, t + d = tn v → d < n → f_X7_sumHarm_4 n (sm (w 23) t) (nI t) τ = some (sm (w 23) (tn v), τ) := by
    intro d
    induction d with
    | zero =>
      intro t n e hn
      obtain ⟨n, rfl⟩ : ∃ k, n = k + 1 := ⟨n - 1, by omega⟩
      have : t = tn v := by omega
      subst this
      rw [f_X7_sumHarm_4, f_X7_tenants, bd_some, h01, if_pos (nI_le (Nat.le_refl _) (by omega))]
    | succ d ih =>
      intro t n e hn
      obtain ⟨n, rfl⟩ : ∃ k, n = k + 1 := ⟨n - 1, by omega⟩
      rw [f_X7_sumHarm_4, f_X7_tenants, bd_some, h01, if_neg (nI_ge (by omega) (by omega)), chk_t (inb24 (by omega)), bv_eq, nI_clamp (by omega), hd' t (by omega), nI_1]
      exact ih (t + 1) n (by omega) (by omega)
  exact key (tn v) 0 fuel (by omega) (by show _ < 2000; omega)
theorem dry1_eq (x : Int32) : x - (if x ≤ 0 then (0 : Int32) else 1) = dry1 x := rfl
theorem r_week {τ : Sg} {v w : Vw} (hv : WFs v) (hr : RS τ v) (h44 : ∀ p, p < 24 → τ (0, 44) p = w 9 p) (hh : okh v (w 9)) : ∃ τ', f_X7_weekOn τ = some (sm (wkS v w 23) (tn v), τ') ∧ RD τ' (wkS v w) ∧ RF τ τ' := by
  obtain ⟨τ1, e1, a1, a2, a3⟩ := r_clear τ
  have hrr := hr_ok hv (clr_WB w) hh
  have fr1 : RF τ τ1 := ⟨fun k _ => by rw [a3 _ (by decide) (by decide)], fun c _ _ c3 c4 _ => a3 c c3 c4⟩
  have rd1 : RD τ1 (clr w) := ⟨fun p hp => by rw [a3 _ (by decide) (by decide)]; exact h44 p hp, a1, a2⟩
  unfold f_X7_weekOn
  rw [e1, bd_some]
  have fin : ∀ s, RF τ s → RD s (hrS v 8 (clr w)) → ∃ r τ', f_X7_weekOn_51 fuel (nI 0) s = some (r, τ') ∧ (r = sm (wkS v w 23) (tn v) ∧ RD τ' (wkS v w) ∧ RF τ τ') := by
    intro s hf hd'
    exact lp (fun n (a : Int32) s => f_X7_weekOn_51 n a s) (fun k a s1 => a = nI k ∧ RF s s1 ∧ (∀ j, j < k → s1 (0, 44) j = dry1 (hrS v 8 (clr w) 9 j)) ∧ (∀ j, k ≤ j → s1 (0, 44) j = s (0, 44) j) ∧ s1 (0, 45) = s (0, 45) ∧ s1 (0, 46) = s (0, 46)) (fun r τ' => r = sm (wkS v w 23) (tn v) ∧ RD τ' (wkS v w) ∧ RF τ τ') 24
      (fun k n a s1 hk hI => by
        obtain ⟨rfl, h0, h1, h2, h3, h4⟩ := hI
        have hb : inb (nI k) 24 := inb24 hk
        refine Or.inl ⟨nI (k + 1), upS s1 (0, 44) k (dry1 (hrS v 8 (clr w) 9 k)), ?_, rfl, ?_, ?_, ?_, ?_, ?_⟩
        · show f_X7_weekOn_51 (n + 1) (nI k) s1 = _
          rw [f_X7_weekOn_51, if_neg (show ¬ (24 : Int32) ≤ nI k from nI_ge hk (by decide)), chk_t hb, chk_t hb, chk_t hb, bv_eq, nI_1, nI_clamp (by omega), dry1_eq, h2 k (Nat.le_refl k), hd'.1 k hk]
        · exact h0.trans ⟨fun k' _ => by rw [upS_ne (by decide)], fun c _ c2 _ _ _ => by rw [upS_ne c2]⟩
        · intro j hj
          by_cases e : j = k
          · subst e; exact upS_at
          · rw [upS_off e]; exact h1 j (by omega)
        · intro j hj; rw [upS_off (by omega)]; exact h2 j (by omega)
        · rw [upS_ne (by decide)]; exact h3
        · rw [upS_ne (by decide)]; exact h4)
      (fun n a s1 hI => by
        obtain ⟨rfl, h0, h1, h2, h3, h4⟩ := hI
        have hf1 := hf.trans h0
        refine ⟨_, s1, ?_, rfl, ?_, hf1⟩
        · show f_X7_weekOn_51 (n + 1) (nI 24) s1 = _
          rw [f_X7_weekOn_51, if_pos (by decide), r_sum (w := wkS v w) hv (hf1.RS hr) (fun t ht => by rw [h3]; exact hd'.2.1 t ht), bd_some]
        · exact ⟨fun p hp => h1 p hp, fun t ht => by rw [h3]; exact hd'.2.1 t ht, fun k hk => by rw [h4]; exact hd'.2.2 k hk⟩)
      24 0 rfl fuel (nI 0) s (by decide) ⟨rfl, RF.refl s, fun j hj => absurd hj (Nat.not_lt_zero _), fun _ _ => rfl, rfl, rfl⟩
  have outer : ∀ d a n s, a + d = 8 → d < n → RF τ s → RD s (hrS v a (clr w)) → ∃ r τ', f_X7_weekOn_6 n (nI a) s = some (r, τ') ∧ (r = sm (wkS v w 23) (tn v) ∧ RD τ' (wkS v w) ∧ RF τ τ') := by
    intro d
    induction d with
    | zero =>
      intro a n s ha hnn hf hl
      obtain ⟨n, rfl⟩ : ∃ k, n = k + 1 := ⟨n - 1, by omega⟩
      have : a = 8 := by omega
      subst this
      rw [f_X7_weekOn_6, if_pos (by decide)]
      exact fin s hf hl
    | succ d ih =>
      intro a n s ha hnn hf hl
      obtain ⟨n, rfl⟩ : ∃ k, n = k + 1 := ⟨n - 1, by omega⟩
      rw [f_X7_weekOn_6, if_neg (show ¬ (8 : Int32) ≤ nI a from nI_ge (show a < 8 by omega) (by decide))]
      have inner : ∀ e i k s, i + e = hn v → e < k → RF τ s → RD s (hbS v a i (hrS v a (clr w))) → ∃ r τ', f_X7_weekOn_14 (f_X7_weekOn_6 n) k (nI a) (nI i) s = some (r, τ') ∧ (r = sm (wkS v w 23) (tn v) ∧ RD τ' (wkS v w) ∧ RF τ τ') := by
        intro e
        induction e with
        | zero =>
          intro i k s hi hk hf hl
          obtain ⟨k, rfl⟩ : ∃ j, k = j + 1 := ⟨k - 1, by omega⟩
          have hcs := hf.RS hr
          have h15 : s (0, 29) 4 = nI (hn v) := by rw [hcs.1.2.2.2]; exact hv.2.2.2.2.1.2
          have hi' : i = hn v := by omega
          subst hi'
          have h8 := hv.2.2.2.2.1.1
          rw [f_X7_weekOn_14, h15, if_pos (nI_le (Nat.le_refl _) (by omega)), nI_1]
          exact ih (a + 1) n s (by omega) (by omega) hf hl
        | succ e ihe =>
          intro i k s hi hk hf hl
          obtain ⟨k, rfl⟩ : ∃ j, k = j + 1 := ⟨k - 1, by omega⟩
          have hcs := hf.RS hr
          have h15 : s (0, 29) 4 = nI (hn v) := by rw [hcs.1.2.2.2]; exact hv.2.2.2.2.1.2
          have h8 := hv.2.2.2.2.1.1
          have hi8 : i < 8 := by omega
          have hb := hb_ok hv (a := a) (hrr a).1 (hrr a).2 i (by omega)
          have hii : inb (nI i) 8 := vp_in_nI hi8 (by decide)
          rw [f_X7_weekOn_14, h15, if_neg (nI_ge (by omega) (by omega)), chk_t hii, nI_clamp (by omega), (hcs.2.2.2 i hi8).2.2.2]
          unfold f_X7_weekOn_37
          by_cases hc19 : v 19 i = nI a
          · obtain ⟨s2, e2, f2, l2, _, _⟩ := r_fall hv (show i < hn v by omega) hcs hl hb.2
            rw [if_pos hc19, e2, bd_some, nI_1]
            refine ihe (i + 1) k s2 (by omega) (by omega) (hf.trans f2) ?_
            rw [hbS, if_pos hc19]; exact l2
          · rw [if_neg hc19, nI_1]
            refine ihe (i + 1) k s (by omega) (by omega) hf ?_
            rw [hbS, if_neg hc19]; exact hl
      exact inner (hn v) 0 fuel s (by omega) (by have := hv.2.2.2.2.1.1; show _ < 2000; omega) hf hl
  obtain ⟨r, τ', e, rfl, h⟩ := outer 8 0 fuel τ1 rfl (by decide) fr1 rd1
  exact ⟨τ', e, h⟩
theorem r_begin {τ : Sg} : ∃ τ', f_X7_beginMind τ = some ((), τ') ∧ (∀ p, p < 24 → τ' (0, 44) p = τ (0, 31) p) ∧ (∀ t, t < 24 → τ' (0, 45) t = 0) ∧ (∀ k, k < 576 → τ' (0, 46) k = 0) ∧ (∀ c, c ≠ (0, 44) → c ≠ (0, 45) → c ≠ (0, 46) → τ' c = τ c) := by
  obtain ⟨r, s', e, h⟩ := lp (fun n (a : Int32) s => f_X7_beginMind_2 n a s) (fun k a s => a = nI k ∧ (∀ j, j < k → s (0, 44) j = τ (0, 31) j) ∧ (∀ c, c ≠ (0, 44) → s c = τ c)) (fun _ τ' => (∀ p, p < 24 → τ' (0, 44) p = τ (0, 31) p) ∧ (∀ t, t < 24 → τ' (0, 45) t = 0) ∧ (∀ k, k < 576 → τ' (0, 46) k = 0) ∧ (∀ c, c ≠ (0, 44) → c ≠ (0, 45) → c ≠ (0, 46) → τ' c = τ c)) 24
      (fun k n a s1 hk hI => by
        obtain ⟨rfl, h1, h2⟩ := hI
        refine Or.inl ⟨nI (k + 1), upS s1 (0, 44) k (τ (0, 31) k), ?_, rfl, ?_, ?_⟩
        · show f_X7_beginMind_2 (n + 1) (nI k) s1 = _
          have hb : inb (nI k) 24 := vp_in_nI hk (by decide)
          rw [f_X7_beginMind_2, if_neg (show ¬ (24 : Int32) ≤ nI k from nI_ge hk (by decide)), chk_t hb, chk_t hb, bv_eq, nI_1, nI_clamp (by omega), h2 _ (by decide)]
        · intro j hj
          by_cases e : j = k
          · subst e; exact upS_at
          · rw [upS_off e]; exact h1 j (by omega)
        · intro c hc; rw [upS_ne hc]; exact h2 c hc)
      (fun n a s1 hI => by
        obtain ⟨rfl, h1, h2⟩ := hI
        obtain ⟨s2, e, q1, q2, q3⟩ := r_clear s1
        refine ⟨(), s2, ?_, ?_, q1, q2, ?_⟩
        · show f_X7_beginMind_2 (n + 1) (nI 24) s1 = _
          rw [f_X7_beginMind_2, if_pos (by decide), e, bd_some]
        · intro p hp; rw [q3 _ (by decide) (by decide)]; exact h1 p hp
        · intro c c1 c2 c3; rw [q3 c c2 c3]; exact h2 c c1)
      24 0 rfl fuel (nI 0) τ (by decide) ⟨rfl, fun j hj => absurd hj (Nat.not_lt_zero _), fun _ _ => rfl⟩
  exact ⟨s', e, h⟩
theorem r_one {τ : Sg} {v w : Vw} (hv : WFs v) (hr : RS τ v) (h31 : ∀ p, p < 24 → τ (0, 31) p = w 9 p) (hh : okh v (w 9)) : ∃ τ', f_X7_oneWeek τ = some (sm (wkS v w 23) (tn v), τ') ∧ RD τ' (wkS v w) ∧ RF τ τ' := by
  obtain ⟨τ1, e1, a1, a2, a3, a4⟩ := r_begin (τ := τ)
  have f1 : RF τ τ1 := ⟨fun k _ => by rw [a4 _ (by decide) (by decide) (by decide)], fun c _ c2 c3 c4 _ => a4 c c2 c3 c4⟩
  obtain ⟨τ2, e2, b1, b2⟩ := r_week hv (f1.RS hr) (fun p hp => by rw [a1 p hp]; exact h31 p hp) hh
  refine ⟨τ2, ?_, b1, f1.trans b2⟩
  unfold f_X7_oneWeek
  rw [e1, bd_some, e2, bd_some]
