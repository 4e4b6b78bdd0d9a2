/-! ===== a front is built ===== -/
theorem bl_inj {κ a b j i : Nat} (h1 : 1 ≤ κ) (h4 : κ ≤ 4) (hj : j < κ) (hi : i < κ) (h : κ * a + j = κ * b + i) : a = b ∧ j = i := by
  rcases (by omega : κ = 1 ∨ κ = 2 ∨ κ = 3 ∨ κ = 4) with rfl | rfl | rfl | rfl <;> omega
theorem bl_lt {κ a j s : Nat} (h1 : 1 ≤ κ) (h4 : κ ≤ 4) (hj : j < κ) (ha : a < s) (hs : s ≤ 6) : κ * a + j < κ * s ∧ κ * s ≤ 24 := by
  rcases (by omega : κ = 1 ∨ κ = 2 ∨ κ = 3 ∨ κ = 4) with rfl | rfl | rfl | rfl <;> omega
theorem bl_dm {κ a j : Nat} (h1 : 1 ≤ κ) (h4 : κ ≤ 4) (hj : j < κ) : (κ * a + j) / κ = a ∧ (κ * a + j) % κ = j := by
  rcases (by omega : κ = 1 ∨ κ = 2 ∨ κ = 3 ∨ κ = 4) with rfl | rfl | rfl | rfl <;> omega
theorem bl_td {κ t s : Nat} (h1 : 1 ≤ κ) (h4 : κ ≤ 4) (ht : t < κ * s) : κ * (t / κ) + t % κ = t ∧ t % κ < κ ∧ t / κ < s := by
  rcases (by omega : κ = 1 ∨ κ = 2 ∨ κ = 3 ∨ κ = 4) with rfl | rfl | rfl | rfl <;> omega
/-- who lives where in a built front -/
def BT (κ : Nat) (f13 f14 : Nat → Int32) (a j : Nat) : Prop := ∀ b i, i < κ → (b < a ∨ (b = a ∧ i < j)) → f14 (κ * b + i) = nI (4 * b + i) ∧ f13 (4 * b + i) = nI (κ * b + i)
theorem c_settle {h T p : Nat} (hT : T < 24) (hp : p < 24) (σ : Sg) : f_X0_settle h (nI T) (nI p) σ = some ((), upS (upS σ (h, 14) T (nI p)) (h, 13) p (nI T)) := by
  unfold f_X0_settle
  rw [e_set_nI (n := 24) _ rfl hT, bd_some, e_set_nI (n := 24) _ rfl hp, bd_some]
theorem c_build0 {h s κ : Nat} (hs : s ≤ 6) (h1 : 1 ≤ κ) (h4 : κ ≤ 4) (σ : Sg) : ∃ σ', f_X0_build h (nI s) (nI κ) σ = some ((), σ') ∧ σ' (h, 7) 0 = nI s ∧ σ' (h, 7) 1 = nI κ ∧ (∀ k, 2 ≤ k → σ' (h, 7) k = σ (h, 7) k) ∧ (∀ k, k < 24 → σ' (h, 8) k = 0 ∧ σ' (h, 9) k = 0 ∧ σ' (h, 10) k = 0 ∧ σ' (h, 11) k = 0 ∧ σ' (h, 12) k = 0) ∧ BT κ (σ' (h, 13)) (σ' (h, 14)) s 0 ∧ (∀ c : Nat × Nat, c.1 ≠ h ∨ c.2 < 7 ∨ 14 < c.2 → σ' c = σ c) := by
  obtain ⟨s8, e8, a8, b8⟩ := e_fill (h, 8) 0 (upS (upS σ (h, 7) 0 (nI s)) (h, 7) 1 (nI κ))
  obtain ⟨s9, e9, a9, b9⟩ := e_fill (h, 9) 0 s8
  obtain ⟨s10, e10, a10, b10⟩ := e_fill (h, 10) 0 s9
  obtain ⟨s11, e11, a11, b11⟩ := e_fill (h, 11) 0 s10
  obtain ⟨s12, e12, a12, b12⟩ := e_fill (h, 12) 0 s11
  obtain ⟨s13, e13, a13, b13⟩ := e_fill (h, 13) (-1) s12
  obtain ⟨s14, e14, a14, b14⟩ := e_fill (h, 14) (-1) s13
  have outer : ∀ d a n t, a + d = s → d < n → BT κ (t (h, 13)) (t (h, 14)) a 0 → (∀ c, c ≠ (h, 13) → c ≠ (h, 14) → t c = s14 c) → ∃ r σ', f_X0_build_68 h n (nI s) (nI κ) (nI a) t = some (r, σ') ∧ BT κ (σ' (h, 13)) (σ' (h, 14)) s 0 ∧ (∀ c, c ≠ (h, 13) → c ≠ (h, 14) → σ' c = s14 c) := by
    intro d
    induction d with
    | zero =>
      intro a n t ha hn hb hf
      obtain ⟨n, rfl⟩ : ∃ k, n = k + 1 := ⟨n - 1, by omega⟩
      have : a = s := by omega
      subst this
      exact ⟨(), t, by rw [f_X0_build_68, if_pos (nI_le (Nat.le_refl _) (by omega))], hb, hf⟩
    | succ d ih =>
      intro a n t ha hn hb hf
      obtain ⟨n, rfl⟩ : ∃ k, n = k + 1 := ⟨n - 1, by omega⟩
      have has : a < s := by omega
      have inner : ∀ e j m t, j + e = κ → e < m → BT κ (t (h, 13)) (t (h, 14)) a j → (∀ c, c ≠ (h, 13) → c ≠ (h, 14) → t c = s14 c) → ∃ r σ', f_X0_build_76 h (f_X0_build_68 h n) m (nI s) (nI κ) (nI a) (nI j) t = some (r, σ') ∧ BT κ (σ' (h, 13)) (σ' (h, 14)) s 0 ∧ (∀ c, c ≠ (h, 13) → c ≠ (h, 14) → σ' c = s14 c) := by
        intro e
        induction e with
        | zero =>
          intro j m t hj hm hb hf
          obtain ⟨m, rfl⟩ : ∃ k, m = k + 1 := ⟨m - 1, by omega⟩
          have : j = κ := by omega
          subst this
          rw [f_X0_build_76, if_pos (nI_le (Nat.le_refl _) (by omega)), nI_1]
          exact ih (a + 1) n t (by omega) (by omega) (fun b i hi hbi => hb b i hi (by omega)) hf
        | succ e ihe =>
          intro j m t hj hm hb hf
          obtain ⟨m, rfl⟩ : ∃ k, m = k + 1 := ⟨m - 1, by omega⟩
          have hjκ : j < κ := by omega
          have hlt := bl_lt h1 h4 hjκ has hs
          have ix1 : nI a * nI κ + nI j = nI (κ * a + j) := by rw [pk_mul, nI_add, Nat.mul_comm]
          have ix2 : nI a * 4 + nI j = nI (4 * a + j) := by rw [show (4 : Int32) = nI 4 from rfl, pk_mul, nI_add, Nat.mul_comm]
          rw [f_X0_build_76, if_neg (nI_ge hjκ (by omega)), ix1, ix2, c_settle (by omega) (by omega), bd_some, nI_1]
          refine ihe (j + 1) m _ (by omega) (by omega) ?_ ?_
          · intro b i hi hbi
            by_cases c : b = a ∧ i = j
            · obtain ⟨rfl, rfl⟩ := c
              rw [upS_ne (show (h, 14) ≠ (h, 13) from cne (by decide)), upS_at, upS_at]
              exact ⟨rfl, rfl⟩
            · have hold := hb b i hi (by omega)
              have n1 : κ * b + i ≠ κ * a + j := fun q => c (bl_inj h1 h4 hi hjκ q)
              have n2 : 4 * b + i ≠ 4 * a + j := by omega
              rw [upS_ne (show (h, 14) ≠ (h, 13) from cne (by decide)), upS_off n1, upS_off n2, upS_ne (show (h, 13) ≠ (h, 14) from cne (by decide))]
              exact hold
          · intro c c1 c2
            rw [upS_ne c1, upS_ne c2]; exact hf c c1 c2
      rw [f_X0_build_68, if_neg (nI_ge has (by omega))]
      exact inner κ 0 fuel t (by omega) (by show _ < 2000; omega) hb hf
  obtain ⟨r, σ', e, q1, q2⟩ := outer s 0 fuel s14 (by omega) (by show _ < 2000; omega) (fun b i _ q => by omega) (fun _ _ _ => rfl)
  have q : ∀ m, m ≠ 13 → m ≠ 14 → σ' (h, m) = s14 (h, m) := fun m c1 c2 => q2 _ (cne c1) (cne c2)
  refine ⟨σ', ?_, ?_, ?_, ?_, ?_, q1, ?_⟩
  · unfold f_X0_build
    rw [bv_eq, bv_eq, e8, bd_some, e9, bd_some, e10, bd_some, e11, bd_some, e12, bd_some, e13, bd_some, e14, bd_some]
    exact e
  · rw [q 7 (by decide) (by decide), b14 _ (cne (by decide)), b13 _ (cne (by decide)), b12 _ (cne (by decide)), b11 _ (cne (by decide)), b10 _ (cne (by decide)), b9 _ (cne (by decide)), b8 _ (cne (by decide)), upS_off (by decide), upS_at]
  · rw [q 7 (by decide) (by decide), b14 _ (cne (by decide)), b13 _ (cne (by decide)), b12 _ (cne (by decide)), b11 _ (cne (by decide)), b10 _ (cne (by decide)), b9 _ (cne (by decide)), b8 _ (cne (by decide)), upS_at]
  · intro k hk
    rw [q 7 (by decide) (by decide), b14 _ (cne (by decide)), b13 _ (cne (by decide)), b12 _ (cne (by decide)), b11 _ (cne (by decide)), b10 _ (cne (by decide)), b9 _ (cne (by decide)), b8 _ (cne (by decide)), upS_off (by omega), upS_off (by omega)]
  · intro k hk
    refine ⟨?_, ?_, ?_, ?_, ?_⟩
    · rw [q 8 (by decide) (by decide), b14 _ (cne (by decide)), b13 _ (cne (by decide)), b12 _ (cne (by decide)), b11 _ (cne (by decide)), b10 _ (cne (by decide)), b9 _ (cne (by decide))]; exact a8 k hk
    · rw [q 9 (by decide) (by decide), b14 _ (cne (by decide)), b13 _ (cne (by decide)), b12 _ (cne (by decide)), b11 _ (cne (by decide)), b10 _ (cne (by decide))]; exact a9 k hk
    · rw [q 10 (by decide) (by decide), b14 _ (cne (by decide)), b13 _ (cne (by decide)), b12 _ (cne (by decide)), b11 _ (cne (by decide))]; exact a10 k hk
    · rw [q 11 (by decide) (by decide), b14 _ (cne (by decide)), b13 _ (cne (by decide)), b12 _ (cne (by decide))]; exact a11 k hk
    · rw [q 12 (by decide) (by decide), b14 _ (cne (by decide)), b13 _ (cne (by decide))]; exact a12 k hk
  · intro c hc
    have hne : ∀ m, 7 ≤ m → m ≤ 14 → c ≠ (h, m) := fun m m1 m2 e => by rw [e] at hc; rcases hc with q | q | q <;> simp only at q <;> omega
    rw [q2 c (hne 13 (by omega) (by omega)) (hne 14 (by omega) (by omega)), b14 c (hne 14 (by omega) (by omega)), b13 c (hne 13 (by omega) (by omega)), b12 c (hne 12 (by omega) (by omega)), b11 c (hne 11 (by omega) (by omega)), b10 c (hne 10 (by omega) (by omega)), b9 c (hne 9 (by omega) (by omega)), b8 c (hne 8 (by omega) (by omega)), upS_ne (hne 7 (by omega) (by omega)), upS_ne (hne 7 (by omega) (by omega))]
/-- what a new front is: nothing hangs, nobody is angry -/
def NF (s κ : Nat) (v : Vw) : Prop := v 7 0 = nI s ∧ v 7 1 = nI κ ∧ v 7 2 ∈ l3 ∧ v 15 0 = 0 ∧ (∀ k, k < 24 → v 8 k = 0 ∧ v 9 k = 0 ∧ v 10 k = 0 ∧ v 11 k = 0 ∧ v 12 k = 0 ∧ v 21 k = 0 ∧ v 24 k = 0) ∧ BT κ (v 13) (v 14) s 0 ∧ (∀ k, k < 576 → v 22 k = 0) ∧ (∃ a, a ≤ 9999 ∧ v 6 4 = nI a)
theorem NF_tn {s κ : Nat} {v : Vw} (hs : s ≤ 6) (h4 : κ ≤ 4) (H : NF s κ v) : tn v = κ * s := by
  have hl : κ * s < 2 ^ 31 := Nat.lt_of_le_of_lt (Nat.mul_le_mul h4 hs) (by decide)
  unfold tn
  rw [H.1, H.2.1, pk_mul, nI_clamp (by rw [Nat.mul_comm]; exact hl), Nat.mul_comm]
theorem lS_of {s : Nat} (h2 : 2 ≤ s) (h6 : s ≤ 6) : nI s ∈ lS := by
  rcases (by omega : s = 2 ∨ s = 3 ∨ s = 4 ∨ s = 5 ∨ s = 6) with rfl | rfl | rfl | rfl | rfl <;> decide
theorem lK_of {s : Nat} (h2 : 1 ≤ s) (h6 : s ≤ 4) : nI s ∈ lK := by
  rcases (by omega : s = 1 ∨ s = 2 ∨ s = 3 ∨ s = 4) with rfl | rfl | rfl | rfl <;> decide
theorem NF_WF {s κ : Nat} {v : Vw} (h2 : 2 ≤ s) (hs : s ≤ 6) (h1 : 1 ≤ κ) (h4 : κ ≤ 4) (H : NF s κ v) : WF v := by
  have htn := NF_tn hs h4 H
  obtain ⟨a1, a2, a3, a4, a5, a6, a7, a8⟩ := H
  have hh : hn v = 0 := by unfold hn; rw [a4]; rfl
  have i0 : ∀ t, κ * (t / κ) + t % κ = t → t / κ < s → t % κ < κ → v 14 t = nI (4 * (t / κ) + t % κ) ∧ v 13 (4 * (t / κ) + t % κ) = nI t := fun t e e2 e3 => by
    have := a6 (t / κ) (t % κ) e3 (Or.inl e2)
    rw [e] at this; exact this
  refine ⟨⟨⟨by rw [a1]; exact lS_of h2 hs, by rw [a2]; exact lK_of h1 h4, a3⟩, fun p hp => ?_, fun t ht => ?_, fun p hp => ?_, ⟨by omega, by rw [hh, a4]; rfl⟩, fun i hi => by omega⟩, fun p hp => ?_, ⟨fun t ht => ⟨0, by omega, (a5 t ht).2.2.2.2.2.1⟩, fun k hk => ⟨0, by omega, a7 k hk⟩⟩, a8⟩
  · rw [(a5 p hp).1, (a5 p hp).2.2.1, (a5 p hp).2.2.2.1]; decide
  · rw [htn] at ht
    obtain ⟨b1, b2, b3⟩ := bl_td h1 h4 ht
    obtain ⟨c1, c2⟩ := i0 t b1 b3 b2
    refine ⟨4 * (t / κ) + t % κ, ⟨by omega, ?_, ?_⟩, c1, c2⟩
    · rw [a1, show (4 * (t / κ) + t % κ) / 4 = t / κ by omega]; exact nI_lt b3 (by omega)
    · rw [a2, show (4 * (t / κ) + t % κ) % 4 = t % κ by omega]; exact nI_lt b2 (by omega)
  · obtain ⟨p24, p1, p2⟩ := hp
    rw [a1] at p1
    rw [a2] at p2
    have q1 : p / 4 < s := (nI_ltI (by omega) (by omega)).mp p1
    have q2 : p % 4 < κ := (nI_ltI (by omega) (by omega)).mp p2
    have hlt := bl_lt h1 h4 q2 q1 hs
    have := a6 (p / 4) (p % 4) q2 (Or.inl q1)
    rw [show 4 * (p / 4) + p % 4 = p by omega] at this
    exact ⟨κ * (p / 4) + p % 4, by rw [htn]; exact hlt.1, this.2, this.1⟩
  · rw [(a5 p hp).2.1, (a5 p hp).1]; decide
theorem c_build {h s κ : Nat} (hs : s ≤ 6) (h1 : 1 ≤ κ) (h4 : κ ≤ 4) {σ : Sg} (hw : σ (h, 7) 2 ∈ l3) (hk : ∃ a, a ≤ 9999 ∧ σ (h, 6) 4 = nI a) : ∃ σ', f_X2_build h (nI s) (nI κ) σ = some ((), σ') ∧ NF s κ (hv σ' h) ∧ σ' (h, 7) 2 = σ (h, 7) 2 ∧ σ' (h, 6) 4 = σ (h, 6) 4 ∧ (∀ m, 16 ≤ m → m < 20 → σ' (h, m) = σ (h, m)) ∧ (∀ c : Nat × Nat, c.1 ≠ h → σ' c = σ c) := by
  obtain ⟨s0, e0, a1, a2, a3, a4, a5, a6⟩ := c_build0 (h := h) hs h1 h4 σ
  obtain ⟨s1, e1, b1, c1⟩ := e_fill (h, 21) 0 (upS s0 (h, 15) 0 0)
  obtain ⟨s2, e2, b2, c2⟩ := e_fill (h, 22) 0 s1
  obtain ⟨s3, e3, b3, c3⟩ := e_fill (h, 23) 0 s2
  obtain ⟨s4, e4, b4, c4⟩ := e_fill (h, 24) 0 s3
  have lo : ∀ m, m < 15 → (upS s4 (h, 20) 4 0) (h, m) = s0 (h, m) := fun m hm => by
    rw [upS_ne (cne (by omega)), c4 _ (cne (by omega)), c3 _ (cne (by omega)), c2 _ (cne (by omega)), c1 _ (cne (by omega)), upS_ne (cne (by omega))]
  have lv : ∀ m, m < 15 → hv (upS s4 (h, 20) 4 0) h m = s0 (h, m) := fun m hm => by
    unfold hv
    rw [if_pos (by omega), lo m hm]
  have e7 : (upS s4 (h, 20) 4 0) (h, 7) 2 = σ (h, 7) 2 := by rw [lo 7 (by decide)]; exact a3 2 (by decide)
  have e6 : (upS s4 (h, 20) 4 0) (h, 6) 4 = σ (h, 6) 4 := by rw [lo 6 (by decide), a6 _ (Or.inr (Or.inl (by show 6 < 7; decide)))]
  refine ⟨upS s4 (h, 20) 4 0, ?_, ⟨?_, ?_, ?_, ?_, ?_, ?_, ?_, ?_⟩, e7, e6, fun m m1 m2 => ?_, ?_⟩
  · unfold f_X2_build f_X3_clear f_X3_beginWeek
    rw [e0, bd_some, bv_eq, e1, bd_some, e2, bd_some, e3, bd_some, e4, bd_some, bv_eq, bd_some, bd_some]
  · rw [lv 7 (by decide)]; exact a1
  · rw [lv 7 (by decide)]; exact a2
  · show (upS s4 (h, 20) 4 0) (h, 7) 2 ∈ l3
    rw [e7]; exact hw
  · show (upS s4 (h, 20) 4 0) (h, 15) 0 = 0
    rw [upS_ne (cne (by decide)), c4 _ (cne (by decide)), c3 _ (cne (by decide)), c2 _ (cne (by decide)), c1 _ (cne (by decide)), upS_at]
  · intro k hk24
    obtain ⟨d1, d2, d3, d4, d5⟩ := a4 k hk24
    refine ⟨?_, ?_, ?_, ?_, ?_, ?_, ?_⟩
    · rw [lv 8 (by decide)]; exact d1
    · rw [lv 9 (by decide)]; exact d2
    · rw [lv 10 (by decide)]; exact d3
    · rw [lv 11 (by decide)]; exact d4
    · rw [lv 12 (by decide)]; exact d5
    · show (upS s4 (h, 20) 4 0) (h, 21) k = 0
      rw [upS_ne (cne (by decide)), c4 _ (cne (by decide)), c3 _ (cne (by decide)), c2 _ (cne (by decide))]; exact b1 k hk24
    · show (upS s4 (h, 20) 4 0) (h, 24) k = 0
      rw [upS_ne (cne (by decide))]; exact b4 k hk24
  · rw [lv 13 (by decide), lv 14 (by decide)]; exact a5
  · intro k hk576
    show (upS s4 (h, 20) 4 0) (h, 22) k = 0
    rw [upS_ne (cne (by decide)), c4 _ (cne (by decide)), c3 _ (cne (by decide))]; exact b2 k hk576
  · show ∃ a, a ≤ 9999 ∧ (upS s4 (h, 20) 4 0) (h, 6) 4 = nI a
    rw [e6]; exact hk
  · rw [upS_ne (cne (by omega)), c4 _ (cne (by omega)), c3 _ (cne (by omega)), c2 _ (cne (by omega)), c1 _ (cne (by omega)), upS_ne (cne (by omega)), a6 _ (Or.inr (Or.inr (by show 14 < m; omega)))]
  · intro c hc
    have hne : ∀ m, c ≠ (h, m) := fun m e => hc (by rw [e])
    rw [upS_ne (hne 20), c4 c (hne 24), c3 c (hne 23), c2 c (hne 22), c1 c (hne 21), upS_ne (hne 15), a6 c (Or.inl hc)]
/-! the reference clears all -/
theorem r_clearAll {κ : Nat} (h1 : 1 ≤ κ) (h4 : κ ≤ 4) {τ : Sg} (h : τ (0, 29) 1 = nI κ) : ∃ τ', f_X7_clearAll τ = some ((), τ') ∧ τ' (0, 29) 4 = 0 ∧ (∀ k, k ≠ 4 → τ' (0, 29) k = τ (0, 29) k) ∧ (∀ k, k < 24 → τ' (0, 30) k = 0 ∧ τ' (0, 31) k = 0 ∧ τ' (0, 32) k = 0 ∧ τ' (0, 33) k = 0 ∧ τ' (0, 34) k = 0 ∧ τ' (0, 35) k = nI (4 * (k / κ) + k % κ) ∧ τ' (0, 36) k = 0 ∧ τ' (0, 37) k = 0) ∧ (∀ k, k < 576 → τ' (0, 38) k = 0) ∧ (∀ c : Nat × Nat, c ≠ (0, 29) → (c.2 < 30 ∨ 38 < c.2) → τ' c = τ c) := by
  have κ0 : ¬ nI κ = 0 := fun e => by have := (nI_eq (b := 0) (by omega) (by decide)).mp e; omega
  have two : ∀ s : Sg, ∃ r s', f_X7_clearAll_91 fuel (nI 0) s = some (r, s') ∧ (∀ k, k < 576 → s' (0, 38) k = 0) ∧ (∀ c, c ≠ (0, 38) → s' c = s c) := fun s =>
    lp (fun n (a : Int32) q => f_X7_clearAll_91 n a q) (fun k a q => a = nI k ∧ (∀ j, j < k → q (0, 38) j = 0) ∧ (∀ c, c ≠ (0, 38) → q c = s c)) (fun _ q => (∀ k, k < 576 → q (0, 38) k = 0) ∧ (∀ c, c ≠ (0, 38) → q c = s c)) 576
      (fun k n a q hk hI => by
        obtain ⟨rfl, h1, h2⟩ := hI
        refine Or.inl ⟨nI (k + 1), upS q (0, 38) k 0, ?_, rfl, ?_, ?_⟩
        · show f_X7_clearAll_91 (n + 1) (nI k) q = _
          have hb : inb (nI k) 576 := vp_in_nI hk (by decide)
          rw [f_X7_clearAll_91, if_neg (show ¬ (576 : Int32) ≤ nI k from nI_ge hk (by decide)), chk_t hb, bv_eq, nI_1, nI_clamp (by omega)]
        · intro j hj
          by_cases e : j = k
          · subst e; exact upS_at
          · rw [upS_off e]; exact h1 j (by omega)
        · intro c hc; rw [upS_ne hc]; exact h2 c hc)
      (fun n a q hI => by
        obtain ⟨rfl, h1, h2⟩ := hI
        refine ⟨(), q, ?_, h1, h2⟩
        show f_X7_clearAll_91 (n + 1) (nI 576) q = _
        rw [f_X7_clearAll_91, if_pos (by decide)])
      576 0 rfl fuel (nI 0) s (by decide) ⟨rfl, fun j hj => absurd hj (Nat.not_lt_zero _), fun _ _ => rfl⟩
  obtain ⟨r, s', e, q⟩ := lp (fun n (a : Int32) q => f_X7_clearAll_7 n a q) (fun k a q => a = nI k ∧ (∀ j, j < k → q (0, 30) j = 0 ∧ q (0, 31) j = 0 ∧ q (0, 32) j = 0 ∧ q (0, 33) j = 0 ∧ q (0, 34) j = 0 ∧ q (0, 35) j = nI (4 * (j / κ) + j % κ) ∧ q (0, 36) j = 0 ∧ q (0, 37) j = 0) ∧ (∀ c : Nat × Nat, (c.1 ≠ 0 ∨ c.2 < 30 ∨ 37 < c.2) → q c = (upS τ (0, 29) 4 0) c)) (fun _ q => (∀ j, j < 24 → q (0, 30) j = 0 ∧ q (0, 31) j = 0 ∧ q (0, 32) j = 0 ∧ q (0, 33) j = 0 ∧ q (0, 34) j = 0 ∧ q (0, 35) j = nI (4 * (j / κ) + j % κ) ∧ q (0, 36) j = 0 ∧ q (0, 37) j = 0) ∧ (∀ k, k < 576 → q (0, 38) k = 0) ∧ (∀ c : Nat × Nat, (c.1 ≠ 0 ∨ c.2 < 30 ∨ 38 < c.2) → q c = (upS τ (0, 29) 4 0) c)) 24
    (fun k n a q hk hI => by
      obtain ⟨rfl, i1, i2⟩ := hI
      have hb := inb24 hk
      have cl : (nI k).toNatClampNeg = k := nI_clamp (by omega)
      have e1 : q (0, 29) 1 = nI κ := by rw [i2 _ (Or.inr (Or.inl (by show 29 < 30; decide))), upS_off (by decide)]; exact h
      have ev : (4 : Int32) * (nI k / nI κ) + (nI k - nI k / nI κ * nI κ) = nI (4 * (k / κ) + k % κ) := by
        rw [pk_div (by omega) (by omega) (by omega), show nI k - nI (k / κ) * nI κ = nI (k % κ) from by rw [← pk_div (by omega) (by omega) (by omega)]; exact pk_rem (by omega) (by omega) (by omega), show (4 : Int32) = nI 4 from rfl, pk_mul, nI_add]
      have e15 : ∀ x0 x1 x2 x3 x4 : Int32, (upS (upS (upS (upS (upS q (0, 30) k x0) (0, 31) k x1) (0, 32) k x2) (0, 33) k x3) (0, 34) k x4) (0, 29) 1 = nI κ := fun _ _ _ _ _ => by
        rw [upS_ne (by decide), upS_ne (by decide), upS_ne (by decide), upS_ne (by decide), upS_ne (by decide)]; exact e1
      refine Or.inl ⟨nI (k + 1), upS (upS (upS (upS (upS (upS (upS (upS q (0, 30) k 0) (0, 31) k 0) (0, 32) k 0) (0, 33) k 0) (0, 34) k 0) (0, 35) k (nI (4 * (k / κ) + k % κ))) (0, 36) k 0) (0, 37) k 0, ?_, rfl, ?_, ?_⟩
      · show f_X7_clearAll_7 (n + 1) (nI k) q = _
        rw [f_X7_clearAll_7, if_neg (show ¬ (24 : Int32) ≤ nI k from nI_ge hk (by decide))]
        simp only [chk_t hb, bv_eq, cl, nI_1]
        rw [chk_t (by rw [e15]; exact κ0), chk_t (by rw [e15]; exact κ0), e15, ev]
      · intro j hj
        by_cases e : j = k
        · subst e
          refine ⟨?_, ?_, ?_, ?_, ?_, ?_, ?_, ?_⟩
          · rw [upS_ne (by decide), upS_ne (by decide), upS_ne (by decide), upS_ne (by decide), upS_ne (by decide), upS_ne (by decide), upS_ne (by decide), upS_at]
          · rw [upS_ne (by decide), upS_ne (by decide), upS_ne (by decide), upS_ne (by decide), upS_ne (by decide), upS_ne (by decide), upS_at]
          · rw [upS_ne (by decide), upS_ne (by decide), upS_ne (by decide), upS_ne (by decide), upS_ne (by decide), upS_at]
          · rw [upS_ne (by decide), upS_ne (by decide), upS_ne (by decide), upS_ne (by decide), upS_at]
          · rw [upS_ne (by decide), upS_ne (by decide), upS_ne (by decide), upS_at]
          · rw [upS_ne (by decide), upS_ne (by decide), upS_at]
          · rw [upS_ne (by decide), upS_at]
          · rw [upS_at]
        · have o : ∀ (m : Nat), (upS (upS (upS (upS (upS (upS (upS (upS q (0, 30) k 0) (0, 31) k 0) (0, 32) k 0) (0, 33) k 0) (0, 34) k 0) (0, 35) k (nI (4 * (k / κ) + k % κ))) (0, 36) k 0) (0, 37) k 0) (0, m) j = q (0, m) j := fun m => by
            rw [upS_o (fun q => e q.2), upS_o (fun q => e q.2), upS_o (fun q => e q.2), upS_o (fun q => e q.2), upS_o (fun q => e q.2), upS_o (fun q => e q.2), upS_o (fun q => e q.2), upS_o (fun q => e q.2)]
          rw [o 30, o 31, o 32, o 33, o 34, o 35, o 36, o 37]
          exact i1 j (by omega)
      · intro c hc
        have hne : ∀ m, 30 ≤ m → m ≤ 37 → c ≠ (0, m) := fun m m1 m2 e => by rw [e] at hc; rcases hc with q | q | q <;> simp only at q <;> omega
        rw [upS_ne (hne 37 (by omega) (by omega)), upS_ne (hne 36 (by omega) (by omega)), upS_ne (hne 35 (by omega) (by omega)), upS_ne (hne 34 (by omega) (by omega)), upS_ne (hne 33 (by omega) (by omega)), upS_ne (hne 32 (by omega) (by omega)), upS_ne (hne 31 (by omega) (by omega)), upS_ne (hne 30 (by omega) (by omega))]
        exact i2 c hc)
    (fun n a q hI => by
      obtain ⟨rfl, i1, i2⟩ := hI
      obtain ⟨r, s', e, a1, a2⟩ := two q
      refine ⟨r, s', ?_, ?_, a1, ?_⟩
      · show f_X7_clearAll_7 (n + 1) (nI 24) q = _
        rw [f_X7_clearAll_7, if_pos (by decide)]; exact e
      · intro j hj
        rw [a2 _ (by decide), a2 _ (by decide), a2 _ (by decide), a2 _ (by decide), a2 _ (by decide), a2 _ (by decide), a2 _ (by decide), a2 _ (by decide)]; exact i1 j hj
      · intro c hc
        rw [a2 c (fun e => by rw [e] at hc; rcases hc with q | q | q <;> simp only at q <;> omega)]
        exact i2 c (by rcases hc with q | q | q; exact Or.inl q; exact Or.inr (Or.inl q); exact Or.inr (Or.inr (by omega))))
    24 0 rfl fuel (nI 0) (upS τ (0, 29) 4 0) (by decide) ⟨rfl, fun j hj => absurd hj (Nat.not_lt_zero _), fun _ _ => rfl⟩
  obtain ⟨q1, q2, q3⟩ := q
  refine ⟨s', ?_, ?_, ?_, q1, q2, ?_⟩
  · unfold f_X7_clearAll
    rw [bv_eq]; exact e
  · rw [q3 _ (Or.inr (Or.inl (by show 29 < 30; decide))), upS_at]
  · intro k hk
    rw [q3 _ (Or.inr (Or.inl (by show 29 < 30; decide))), upS_off hk]
  · intro c c1 c2
    rw [q3 c (Or.inr c2), upS_ne c1]
