/-! ===== what is told comes ===== -/
theorem i_2 (a : Nat) : nI a + 2 = nI (a + 2) := by rw [show (2 : Int32) = nI 2 from rfl, nI_add]
theorem i_3 (a : Nat) : nI a + 3 = nI (a + 3) := by rw [show (3 : Int32) = nI 3 from rfl, nI_add]
theorem i_4 (a : Nat) : nI a + 4 = nI (a + 4) := by rw [show (4 : Int32) = nI 4 from rfl, nI_add]
theorem dd_ok : ∀ x ∈ l10, ∀ y ∈ l10, 0 ≤ 10 * x + y ∧ (10 * x + y) / 10 = x ∧ (10 * x + y) - (10 * x + y) / 10 * 10 = y ∧ ¬ 10 * x + y < 0 ∧ ¬ x < 0 ∧ ¬ y < 0 := by decide +kernel
theorem dgl {ℓ : Nat → Int32} {j : Nat} (h : 0 ≤ dg ℓ j) : dg ℓ j ∈ l10 := by
  rcases dg_cs ℓ j with ⟨h1, _⟩ | ⟨_, h2, _⟩
  · exact absurd h h1
  · exact h2
theorem sgl {ℓ : Nat → Int32} {j : Nat} (h : ¬ sg ℓ j = -2) : sg ℓ j ∈ l3 := by
  rcases sg_cs ℓ j with ⟨h1, _⟩ | ⟨_, h2, _⟩
  · exact absurd h1 h
  · exact h2
theorem pD_t {ℓ : Nat → Int32} {p : KP} {q : Nat} (h : (pD ℓ p q).1 = true) : 0 ≤ dg ℓ q ∧ (p (q + 1)).1 = true := by
  unfold pD at h
  by_cases c : 0 ≤ dg ℓ q
  · rw [if_pos c] at h; exact ⟨c, h⟩
  · rw [if_neg c] at h; exact absurd (show false = true from h) (by decide)
theorem pS_t {ℓ : Nat → Int32} {p : KP} {q : Nat} (h : (pS ℓ p q).1 = true) : ¬ sg ℓ q = -2 ∧ (p (q + 1)).1 = true := by
  unfold pS at h
  by_cases c : sg ℓ q = -2
  · rw [if_pos c] at h; exact absurd (show false = true from h) (by decide)
  · rw [if_neg c] at h; exact ⟨c, h⟩
theorem pC_t {ℓ : Nat → Int32} {c0 : Int32} {p : KP} {q : Nat} (h : (pC ℓ c0 p q).1 = true) : ℓ q = c0 ∧ (p (q + 1)).1 = true := by
  unfold pC at h
  by_cases c : ℓ q = c0
  · rw [if_pos c] at h; exact ⟨c, h⟩
  · rw [if_neg c] at h; exact absurd (show false = true from h) (by decide)
/-- digits and signs that are there -/
def GD (ℓ : Nat → Int32) (a : Nat) : Prop :=
  (ℓ a = 97 ∧ 0 ≤ dg ℓ (a + 1) ∧ 0 ≤ dg ℓ (a + 1 + 1) ∧ ¬ sg ℓ (a + 1 + 2) = -2) ∨
  (ℓ a = 98 ∧ ¬ sg ℓ (a + 1) = -2) ∨
  (ℓ a = 102 ∧ 0 ≤ dg ℓ (a + 1) ∧ 0 ≤ dg ℓ (a + 1 + 1)) ∨
  (ℓ a = 104 ∧ 0 ≤ dg ℓ (a + 1) ∧ ((0 ≤ dg ℓ (a + 1 + 1) ∧ 0 ≤ dg ℓ (a + 1 + 3) ∧ 0 ≤ dg ℓ (a + 1 + 3 + 1) ∧ 0 ≤ dg ℓ (a + 1 + 3 + 1 + 1)) ∨ (¬ 0 ≤ dg ℓ (a + 1 + 1) ∧ 0 ≤ dg ℓ (a + 1 + 2) ∧ 0 ≤ dg ℓ (a + 1 + 2 + 1) ∧ 0 ≤ dg ℓ (a + 1 + 2 + 1 + 1)))) ∨
  (ℓ a = 115 ∧ 0 ≤ dg ℓ (a + 1) ∧ 0 ≤ dg ℓ (a + 1 + 1) ∧ 0 ≤ dg ℓ (a + 1 + 2)) ∨
  (ℓ a = 119 ∧ 0 ≤ dg ℓ (a + 1) ∧ 0 ≤ dg ℓ (a + 1 + 1) ∧ 0 ≤ dg ℓ (a + 1 + 2))
theorem PE_GD {ℓ : Nat → Int32} {a : Nat} (h : (PE ℓ a).1 = true) : GD ℓ a := by
  unfold PE at h
  unfold GD
  by_cases l1 : ℓ a = 97
  · rw [if_pos l1] at h
    obtain ⟨h1, h⟩ := pD_t h
    obtain ⟨h2, h⟩ := pD_t h
    exact Or.inl ⟨l1, h1, h2, (pS_t h).1⟩
  · rw [if_neg l1] at h
    by_cases l2 : ℓ a = 98
    · rw [if_pos l2] at h
      exact Or.inr (Or.inl ⟨l2, (pS_t h).1⟩)
    · rw [if_neg l2] at h
      by_cases l3 : ℓ a = 102
      · rw [if_pos l3] at h
        obtain ⟨h1, h⟩ := pD_t h
        exact Or.inr (Or.inr (Or.inl ⟨l3, h1, (pD_t h).1⟩))
      · rw [if_neg l3] at h
        by_cases l4 : ℓ a = 104
        · rw [if_pos l4] at h
          obtain ⟨h1, h⟩ := pD_t h
          refine Or.inr (Or.inr (Or.inr (Or.inl ⟨l4, h1, ?_⟩)))
          unfold pO at h
          by_cases c : 0 ≤ dg ℓ (a + 1 + 1)
          · rw [if_pos c] at h
            obtain ⟨_, h⟩ := pC_t h
            obtain ⟨h3, h⟩ := pD_t h
            obtain ⟨h4, h⟩ := pD_t h
            exact Or.inl ⟨c, h3, h4, (pD_t h).1⟩
          · rw [if_neg c] at h
            obtain ⟨_, h⟩ := pC_t h
            obtain ⟨h3, h⟩ := pD_t h
            obtain ⟨h4, h⟩ := pD_t h
            exact Or.inr ⟨c, h3, h4, (pD_t h).1⟩
        · rw [if_neg l4] at h
          by_cases l5 : ℓ a = 115
          · rw [if_pos l5] at h
            obtain ⟨h1, h⟩ := pD_t h
            obtain ⟨h2, h⟩ := pD_t h
            exact Or.inr (Or.inr (Or.inr (Or.inr (Or.inl ⟨l5, h1, h2, (pD_t h).1⟩))))
          · rw [if_neg l5] at h
            by_cases l6 : ℓ a = 119
            · rw [if_pos l6] at h
              obtain ⟨h1, h⟩ := pD_t h
              obtain ⟨h2, h⟩ := pD_t h
              exact Or.inr (Or.inr (Or.inr (Or.inr (Or.inr ⟨l6, h1, h2, (pD_t h).1⟩))))
            · rw [if_neg l6] at h; exact absurd (show false = true from h) (by decide)
/-! the house of the trial's and the reference, changed alike -/
def CF (t t' : Sg) : Prop := (∀ j, 5 ≤ j → t' (0, 29) j = t (0, 29) j) ∧ (∀ m, m ≠ 29 → (m < 30 ∨ 43 ≤ m) → t' (0, m) = t (0, m))
theorem CF.refl (t : Sg) : CF t t := ⟨fun _ _ => rfl, fun _ _ _ => rfl⟩
theorem CF.trans {a b c : Sg} (h : CF a b) (h' : CF b c) : CF a c := ⟨fun j hj => (h'.1 j hj).trans (h.1 j hj), fun m h1 h2 => (h'.2 m h1 h2).trans (h.2 m h1 h2)⟩
theorem CF.up {t : Sg} {m : Nat} (h1 : 30 ≤ m) (h2 : m ≤ 42) (k : Nat) (x : Int32) : CF t (upS t (0, m) k x) := ⟨fun j _ => by rw [upS_ne (cne (by omega))], fun m' c1 c2 => by rw [upS_ne (cne (by omega))]⟩
theorem CF.sl {t : Sg} {k : Nat} (h1 : k < 5) (x : Int32) : CF t (upS t (0, 29) k x) := ⟨fun j _ => by rw [upS_off (by omega)], fun m' c1 c2 => by rw [upS_ne (cne c1)]⟩
def R3 (s t : Sg) : Prop := WF (hv s 3) ∧ shM t (hv s 3)
theorem pF_dd {v : Vw} {x y : Int32} (hx : x ∈ l10) (hy : y ∈ l10) : pF v (10 * x + y) = if x < 0 ∨ v 7 0 ≤ x ∨ y < 0 ∨ v 7 1 ≤ y then -1 else x * 4 + y := by
  obtain ⟨h1, h2, h3, h4, h5, h6⟩ := dd_ok x hx y hy
  unfold pF
  rw [h3, h2]
  by_cases c1 : v 7 0 ≤ x
  · rw [if_pos (Or.inr (Or.inl c1)), if_pos (Or.inr (Or.inl c1))]
  · by_cases c2 : v 7 1 ≤ y
    · rw [if_pos (Or.inr (Or.inr c2)), if_pos (Or.inr (Or.inr (Or.inr c2)))]
    · rw [if_neg (by rintro (q | q | q) <;> contradiction), if_neg (by rintro (q | q | q | q) <;> contradiction), c44]
theorem co_b {s t : Sg} {x : Int32} (hx : x ∈ l3) (H : R3 s t) : R3 (upS s (3, 7) 2 x) (upS t (0, 29) 2 x) := by
  obtain ⟨hw, hm⟩ := H
  refine ⟨?_, ?_⟩
  · rw [hv_up (by decide)]
    exact ⟨WFs_w hw.1 hx, hw.2⟩
  · rw [hv_up (by decide)]
    obtain ⟨⟨⟨a1, a2, a3, a4⟩, bb, cc, dd⟩, c1, c2, c3⟩ := hm
    refine ⟨⟨⟨?_, ?_, ?_, ?_⟩, ?_, ?_, ?_⟩, ?_, ?_, ?_⟩
    · rw [upS_off (by decide), uv_off (by decide)]; exact a1
    · rw [upS_off (by decide), uv_off (by decide)]; exact a2
    · rw [upS_at, uv_at]
    · rw [upS_off (by decide), uv_ne (by decide)]; exact a4
    · intro k hk; rw [upS_ne (by decide), upS_ne (by decide), upS_ne (by decide), upS_ne (by decide)]; exact bb k hk
    · intro k hk; rw [upS_ne (by decide)]; exact cc k hk
    · intro k hk; rw [upS_ne (by decide), upS_ne (by decide), upS_ne (by decide), upS_ne (by decide)]; exact dd k hk
    · rw [upS_off (by decide), uv_ne (by decide)]; exact c1
    · intro k hk; rw [upS_ne (by decide), upS_ne (by decide), upS_ne (by decide)]; exact c2 k hk
    · intro k hk; rw [upS_ne (by decide)]; exact c3 k hk
theorem co_s {s t : Sg} {p : Nat} {x : Int32} (hp : p < 24) (hx : x ∈ l10) (H : R3 s t) : ∃ s' t', f_X0_setSaucer 3 (nI p) x s = some ((), s') ∧ f_X7_saucerIs (nI p) x t = some ((), t') ∧ R3 s' t' ∧ FC3 s s' ∧ CF t t' := by
  obtain ⟨hw, hm⟩ := H
  have hb := inb24 hp
  have cl : (nI p).toNatClampNeg = p := nI_clamp (by omega)
  have h9 := hw.2.1 p hp
  have e31 : (upS t (0, 30) p x) (0, 31) p = hv s 3 9 p := by rw [upS_ne (by decide)]; exact (hm.2.2.1 p hp).1
  have ec : (upS s (3, 8) p x) (3, 9) p = hv s 3 9 p := by rw [upS_ne (by decide)]; rfl
  have hj := jm_mem10 _ h9.1 x hx
  refine ⟨upS (upS s (3, 8) p x) (3, 9) p (jmin (hv s 3 9 p) x), upS (upS t (0, 30) p x) (0, 31) p (jmin (hv s 3 9 p) x), ?_, ?_, ⟨?_, ?_⟩, ((FC3.refl s).up 8 p x).up 9 p _, (CF.up (by decide) (by decide) p x).trans (CF.up (by decide) (by decide) p _)⟩
  · rw [f_X0_setSaucer, e_set_nI (n := 24) _ rfl hp, bd_some, e_get_nI (n := 24) _ rfl hp, bd_some, ec, e_set_nI (n := 24) _ rfl hp, bd_some]
  · rw [f_X7_saucerIs, chk_t hb, bv_eq, chk_t hb, e_lesser, bd_some, chk_t hb, bv_eq, cl, jm_lesser, e31]
  · rw [hv_up (by decide), hv_up (by decide)]
    refine ⟨WFs_9 (WFs_8 hw.1 hx) _ _, ?_, hw.2.2⟩
    intro q hq
    show upd (hv s 3 9) p _ q ∈ l10 ∧ upd (hv s 3 9) p _ q ≤ upd (hv s 3 8) p x q
    by_cases c : q = p
    · subst c; rw [pk_us, pk_us]; exact hj
    · rw [pk_un c, pk_un c]; exact hw.2.1 q hq
  · rw [hv_up (by decide), hv_up (by decide)]
    exact (hm.up (m := 8) (by decide) p x).up (m := 9) (by decide) p _
theorem co_a {s t : Sg} {p : Nat} {x : Int32} (hx : x ∈ l3) (H : R3 s t) : R3 (upS s (3, 10) p x) (upS t (0, 32) p x) := by
  obtain ⟨hw, hm⟩ := H
  refine ⟨?_, ?_⟩
  · rw [hv_up (by decide)]; exact ⟨WFs_10 hw.1 hx, hw.2⟩
  · rw [hv_up (by decide)]; exact hm.up (m := 10) (by decide) p x
theorem co_w {s t : Sg} {p : Nat} {x y : Int32} (hx : x ∈ l10) (H : R3 s t) : R3 (upS (upS s (3, 11) p x) (3, 12) p y) (upS (upS t (0, 33) p x) (0, 34) p y) := by
  obtain ⟨hw, hm⟩ := H
  refine ⟨?_, ?_⟩
  · rw [hv_up (by decide), hv_up (by decide)]; exact ⟨WFs_12 (WFs_11 hw.1 hx) p y, hw.2⟩
  · rw [hv_up (by decide), hv_up (by decide)]; exact (hm.up (m := 11) (by decide) p x).up (m := 12) (by decide) p y
theorem co_f {s t : Sg} {S K : Nat} (h2 : 2 ≤ S) (hS : S ≤ 6) (h1 : 1 ≤ K) (h4 : K ≤ 4) (H : R3 s t) : ∃ s' t', f_X2_build 3 (nI S) (nI K) s = some ((), s') ∧ f_X7_clearAll (upS (upS t (0, 29) 0 (nI S)) (0, 29) 1 (nI K)) = some ((), t') ∧ R3 s' t' ∧ FC3 s s' ∧ CF t t' := by
  obtain ⟨hw, hm⟩ := H
  obtain ⟨s', e1, nf, a7, a6, a16, a0⟩ := c_build (h := 3) hS h1 h4 (σ := s) hw.1.1.2.2 hw.2.2.2
  obtain ⟨t', e2, b4, bs, br, ba, b0⟩ := r_clearAll h1 h4 (τ := upS (upS t (0, 29) 0 (nI S)) (0, 29) 1 (nI K)) upS_at
  have hw' := NF_WF h2 hS h1 h4 nf
  have htn := NF_tn hS h4 nf
  obtain ⟨n1, n2, n3, n4, n5, n6, n7, n8⟩ := nf
  have e16 : ∀ m, 16 ≤ m → m < 20 → hv s' 3 m = hv s 3 m := fun m m1 m2 => by unfold hv; rw [a16 m m1 m2]
  have r0 : ∀ m, m ≠ 29 → (m < 30 ∨ 38 < m) → t' (0, m) = t (0, m) := fun m m1 m2 => by rw [b0 _ (cne m1) m2, upS_ne (cne m1), upS_ne (cne m1)]
  refine ⟨s', t', e1, e2, ⟨hw', ⟨⟨?_, ?_, ?_, ?_⟩, fun k hk => ?_, fun k hk => ?_, fun k hk => ?_⟩, ?_, fun k hk => ?_, fun k hk => ?_⟩, fun c hc => a0 c hc, ⟨fun j hj => ?_, fun m m1 m2 => r0 m m1 (by omega)⟩⟩
  · rw [bs 0 (by decide), upS_off (by decide), upS_at, n1]
  · rw [bs 1 (by decide), upS_at, n2]
  · rw [bs 2 (by decide), upS_off (by decide), upS_off (by decide), hm.1.1.2.2.1]
    exact a7.symm
  · rw [b4, n4]
  · obtain ⟨q1, q2, q3, q4, q5, q6, q7, q8⟩ := br k hk
    obtain ⟨p1, p2, p3, p4, p5, p6, p7⟩ := n5 k hk
    exact ⟨q1.trans p1.symm, q3.trans p3.symm, q4.trans p4.symm, q5.trans p5.symm⟩
  · rw [htn] at hk
    obtain ⟨x1, x2, x3⟩ := bl_td h1 h4 hk
    have hlt : K * S ≤ 24 := Nat.mul_le_mul h4 hS
    obtain ⟨q1, q2, q3, q4, q5, q6, q7, q8⟩ := br k (by omega)
    have := (n6 (k / K) (k % K) x2 (Or.inl x3)).1
    rw [x1] at this
    rw [q6, this]
  · obtain ⟨d1, d2, d3, d4⟩ := hm.1.2.2.2 k hk
    rw [r0 39 (by decide) (by decide), r0 40 (by decide) (by decide), r0 41 (by decide) (by decide), r0 42 (by decide) (by decide), e16 16 (by decide) (by decide), e16 17 (by decide) (by decide), e16 18 (by decide) (by decide), e16 19 (by decide) (by decide)]
    exact ⟨d1, d2, d3, d4⟩
  · rw [bs 3 (by decide), upS_off (by decide), upS_off (by decide), hm.2.1]
    exact a6.symm
  · obtain ⟨q1, q2, q3, q4, q5, q6, q7, q8⟩ := br k hk
    obtain ⟨p1, p2, p3, p4, p5, p6, p7⟩ := n5 k hk
    exact ⟨q2.trans p2.symm, q7.trans p6.symm, q8.trans p7.symm⟩
  · rw [ba k hk, n7 k hk]
  · rw [bs j (by omega), upS_off (by omega), upS_off (by omega)]
/-- a habit more -/
theorem co_h {s t : Sg} {T : Nat} {kd fi ho : Int32} (hT : T < tn (hv s 3)) (hk : kd ∈ l6) (hf : fi ∈ l10) (ho8 : ho ∈ l8) (h8 : hn (hv s 3) < 8) (H : R3 s t) : ∃ s', f_X1_add 3 (nI T) kd fi ho s = some ((), s') ∧ R3 s' (upS (upS (upS (upS (upS t (0, 39) (hn (hv s 3)) (nI T)) (0, 40) (hn (hv s 3)) kd) (0, 41) (hn (hv s 3)) fi) (0, 42) (hn (hv s 3)) ho) (0, 29) 4 (nI (hn (hv s 3) + 1))) ∧ FC3 s s' := by
  obtain ⟨hw, hm⟩ := H
  have e15 : s (3, 15) 0 = nI (hn (hv s 3)) := hw.1.2.2.2.2.1.2
  have hc : hn (hv s 3) < 8 := h8
  have ec : hv s 3 15 0 = nI (hn (hv s 3)) := e15
  generalize hcc : hn (hv s 3) = c at *
  refine ⟨upS (upS (upS (upS (upS s (3, 16) c (nI T)) (3, 17) c kd) (3, 18) c fi) (3, 19) c ho) (3, 15) 0 (nI (c + 1)), ?_, ⟨?_, ?_⟩, ((((((FC3.refl s).up 16 c _).up 17 c _).up 18 c _).up 19 c _).up 15 0 _)⟩
  · rw [f_X1_add, e15, if_neg (show ¬ (8 : Int32) ≤ nI c from nI_ge hc (by decide)), e_set_nI (n := 8) _ rfl hc, bd_some, upS_ne (show ((3, 15) : Nat × Nat) ≠ (3, 16) by decide), e15, e_set_nI (n := 8) _ rfl hc, bd_some, upS_ne (show ((3, 15) : Nat × Nat) ≠ (3, 17) by decide), upS_ne (show ((3, 15) : Nat × Nat) ≠ (3, 16) by decide), e15, e_set_nI (n := 8) _ rfl hc, bd_some, upS_ne (show ((3, 15) : Nat × Nat) ≠ (3, 18) by decide), upS_ne (show ((3, 15) : Nat × Nat) ≠ (3, 17) by decide), upS_ne (show ((3, 15) : Nat × Nat) ≠ (3, 16) by decide), e15, e_set_nI (n := 8) _ rfl hc, bd_some, upS_ne (show ((3, 15) : Nat × Nat) ≠ (3, 19) by decide), upS_ne (show ((3, 15) : Nat × Nat) ≠ (3, 18) by decide), upS_ne (show ((3, 15) : Nat × Nat) ≠ (3, 17) by decide), upS_ne (show ((3, 15) : Nat × Nat) ≠ (3, 16) by decide), e15, nI_1, bv_eq]
  · rw [hv_up (by decide), hv_up (by decide), hv_up (by decide), hv_up (by decide), hv_up (by decide)]
    obtain ⟨⟨a1, a2, a3, a4, a5, a6⟩, b⟩ := hw
    have hn1' : hn (uv (uv (uv (uv (uv (hv s 3) 16 c (nI T)) 17 c kd) 18 c fi) 19 c ho) 15 0 (nI (c + 1))) = c + 1 := by
      unfold hn
      rw [uv_at]
      exact nI_clamp (by omega)
    refine ⟨⟨a1, a2, a3, a4, ⟨by rw [hn1']; omega, by rw [hn1', uv_at]⟩, fun i hi => ?_⟩, b⟩
    rw [hn1'] at hi
    by_cases e : i = c
    · subst e
      refine ⟨⟨T, hT, ?_⟩, ?_, ?_, ?_⟩
      · exact uv_at (hv s 3) 16 i (nI T)
      · exact (congrArg (· ∈ l6) (uv_at (hv s 3) 17 i kd)).mpr hk
      · exact (congrArg (· ∈ l10) (uv_at (hv s 3) 18 i fi)).mpr hf
      · exact (congrArg (· ∈ l8) (uv_at (hv s 3) 19 i ho)).mpr ho8
    · obtain ⟨⟨u, hu, d1⟩, d2, d3, d4⟩ := a6 i (by omega)
      refine ⟨⟨u, hu, ?_⟩, ?_, ?_, ?_⟩
      · exact (uv_off e : uv (hv s 3) 16 c (nI T) 16 i = _).trans d1
      · exact (congrArg (· ∈ l6) (uv_off e : uv (hv s 3) 17 c kd 17 i = _)).mpr d2
      · exact (congrArg (· ∈ l10) (uv_off e : uv (hv s 3) 18 c fi 18 i = _)).mpr d3
      · exact (congrArg (· ∈ l8) (uv_off e : uv (hv s 3) 19 c ho 19 i = _)).mpr d4
  · rw [hv_up (by decide), hv_up (by decide), hv_up (by decide), hv_up (by decide), hv_up (by decide)]
    have hm4 := (((hm.up (m := 16) (m' := 39) (by decide) c (nI T)).up (m := 17) (m' := 40) (by decide) c kd).up (m := 18) (m' := 41) (by decide) c fi).up (m := 19) (m' := 42) (by decide) c ho
    obtain ⟨⟨⟨q1, q2, q3, q4⟩, bb, cc, dd⟩, c1, c2, c3⟩ := hm4
    refine ⟨⟨⟨?_, ?_, ?_, ?_⟩, ?_, ?_, ?_⟩, ?_, ?_, ?_⟩
    · rw [upS_off (by decide), uv_ne (by decide)]; exact q1
    · rw [upS_off (by decide), uv_ne (by decide)]; exact q2
    · rw [upS_off (by decide), uv_ne (by decide)]; exact q3
    · rw [upS_at, uv_at]
    · intro k hk; rw [upS_ne (by decide), upS_ne (by decide), upS_ne (by decide), upS_ne (by decide)]; exact bb k hk
    · intro k hk; rw [upS_ne (by decide)]; exact cc k hk
    · intro k hk; rw [upS_ne (by decide), upS_ne (by decide), upS_ne (by decide), upS_ne (by decide)]; exact dd k hk
    · rw [upS_off (by decide), uv_ne (by decide)]; exact c1
    · intro k hk; rw [upS_ne (by decide), upS_ne (by decide), upS_ne (by decide)]; exact c2 k hk
    · intro k hk; rw [upS_ne (by decide)]; exact c3 k hk
