/-! ===== changes of one number ===== -/
theorem uv_at (v : Vw) (m k : Nat) (x : Int32) : uv v m k x m k = x := by unfold uv; rw [if_pos rfl]; exact pk_us
theorem uv_ne {v : Vw} {m k r : Nat} {x : Int32} (h : r ≠ m) : uv v m k x r = v r := if_neg h
theorem uv_off {v : Vw} {m k j : Nat} {x : Int32} (h : j ≠ k) : uv v m k x m j = v m j := by unfold uv; rw [if_pos rfl]; exact pk_un h
theorem cu {h r m j k : Nat} {σ : Sg} {v : Vw} {x : Int32} (e : σ (h, r) j = v r j) : upS σ (h, m) k x (h, r) j = uv v m k x r j := by
  by_cases c : r = m
  · subst c
    by_cases c2 : j = k
    · subst c2; rw [upS_at, uv_at]
    · rw [upS_off c2, uv_off c2, e]
  · rw [upS_ne (cne c), uv_ne c, e]
theorem ru {r r' m m' j k : Nat} {τ : Sg} {v : Vw} {x : Int32} (e : τ (0, r') j = v r j) (hi : r' = m' ↔ r = m) : upS τ (0, m') k x (0, r') j = uv v m k x r j := by
  by_cases c : r = m
  · have c' := hi.mpr c
    subst c; subst c'
    by_cases c2 : j = k
    · subst c2; rw [upS_at, uv_at]
    · rw [upS_off c2, uv_off c2, e]
  · rw [upS_ne (cne (fun q => c (hi.mp q))), uv_ne c, e]
theorem CS.up {h : Nat} {σ : Sg} {v : Vw} (H : CS h σ v) (m k : Nat) (x : Int32) : CS h (upS σ (h, m) k x) (uv v m k x) := by
  obtain ⟨⟨a1, a2, a3, a4⟩, b, c⟩ := H
  refine ⟨⟨cu a1, cu a2, cu a3, cu a4⟩, fun j hj => ?_, fun j hj => ?_⟩
  · obtain ⟨b1, b2, b3, b4, b5, b6⟩ := b j hj
    exact ⟨cu b1, cu b2, cu b3, cu b4, cu b5, cu b6⟩
  · obtain ⟨c1, c2, c3, c4⟩ := c j hj
    exact ⟨cu c1, cu c2, cu c3, cu c4⟩
/-- the reference's row m' is the house's row m -/
abbrev mp (m' m : Nat) : Prop := m' ≠ 29 ∧ m ≠ 6 ∧ m ≠ 7 ∧ m ≠ 15 ∧ (30 = m' ↔ 8 = m) ∧ (31 = m' ↔ 9 = m) ∧ (32 = m' ↔ 10 = m) ∧ (33 = m' ↔ 11 = m) ∧ (34 = m' ↔ 12 = m) ∧ (35 = m' ↔ 14 = m) ∧ (36 = m' ↔ 21 = m) ∧ (37 = m' ↔ 24 = m) ∧ (38 = m' ↔ 22 = m) ∧ (39 = m' ↔ 16 = m) ∧ (40 = m' ↔ 17 = m) ∧ (41 = m' ↔ 18 = m) ∧ (42 = m' ↔ 19 = m)
theorem tn_up {v : Vw} {m k : Nat} {x : Int32} (h : m ≠ 7) : tn (uv v m k x) = tn v := by unfold tn; rw [uv_ne (show 7 ≠ m from fun e => h e.symm)]
theorem hn_up {v : Vw} {m k : Nat} {x : Int32} (h : m ≠ 15) : hn (uv v m k x) = hn v := by unfold hn; rw [uv_ne (show 15 ≠ m from fun e => h e.symm)]
theorem vp_up {v : Vw} {m k : Nat} {x : Int32} (h : m ≠ 7) (p : Nat) : vp (uv v m k x) p = vp v p := by unfold vp; rw [uv_ne (show 7 ≠ m from fun e => h e.symm)]
theorem RS.up {τ : Sg} {v : Vw} (H : RS τ v) {m' m : Nat} (hm : mp m' m) (k : Nat) (x : Int32) : RS (upS τ (0, m') k x) (uv v m k x) := by
  obtain ⟨⟨a1, a2, a3, a4⟩, b, c, d⟩ := H
  obtain ⟨h0, h1, h2, h3, h8, h9, h10, h11, h12, h14, h21, h24, h22, h16, h17, h18, h19⟩ := hm
  have e29 : ∀ s, upS τ (0, m') k x (0, 29) s = τ (0, 29) s := fun s => by rw [upS_ne (cne (fun e => h0 e.symm))]
  refine ⟨⟨by rw [e29, uv_ne (fun e => h2 e.symm)]; exact a1, by rw [e29, uv_ne (fun e => h2 e.symm)]; exact a2, by rw [e29, uv_ne (fun e => h2 e.symm)]; exact a3, by rw [e29, uv_ne (fun e => h3 e.symm)]; exact a4⟩, fun j hj => ?_, fun j hj => ?_, fun j hj => ?_⟩
  · obtain ⟨b1, b2, b3, b4⟩ := b j hj
    exact ⟨ru b1 h8, ru b2 h10, ru b3 h11, ru b4 h12⟩
  · rw [tn_up h2] at hj
    exact ru (c j hj) h14
  · obtain ⟨c1, c2, c3, c4⟩ := d j hj
    exact ⟨ru c1 h16, ru c2 h17, ru c3 h18, ru c4 h19⟩
theorem shM.up {τ : Sg} {v : Vw} (H : shM τ v) {m' m : Nat} (hm : mp m' m) (k : Nat) (x : Int32) : shM (upS τ (0, m') k x) (uv v m k x) := by
  obtain ⟨a, b, c, d⟩ := H
  refine ⟨a.up hm k x, ?_, fun j hj => ?_, fun j hj => ?_⟩
  · obtain ⟨h0, h1, h2, h3, _⟩ := hm
    rw [upS_ne (cne (fun e => h0 e.symm)), uv_ne (fun e => h1 e.symm)]; exact b
  · obtain ⟨h0, h1, h2, h3, h8, h9, h10, h11, h12, h14, h21, h24, h22, h16, h17, h18, h19⟩ := hm
    obtain ⟨c1, c2, c3⟩ := c j hj
    exact ⟨ru c1 h9, ru c2 h21, ru c3 h24⟩
  · obtain ⟨h0, h1, h2, h3, h8, h9, h10, h11, h12, h14, h21, h24, h22, h16, h17, h18, h19⟩ := hm
    exact ru (d j hj) h22
theorem hv_up {σ : Sg} {h m k : Nat} {x : Int32} (hm : m < 25) : hv (upS σ (h, m) k x) h = uv (hv σ h) m k x := by
  funext r
  unfold hv
  by_cases c : r = m
  · subst c
    rw [if_pos hm]
    funext j
    by_cases c2 : j = k
    · subst c2; rw [upS_at, uv_at]
    · rw [upS_off c2, uv_off c2, if_pos hm]
  · rw [uv_ne c, upS_ne (cne c)]
/-! rows in range -/
theorem WFs_19 {v : Vw} (H : WFs v) {i : Nat} {x : Int32} (hx : x ∈ l8) : WFs (uv v 19 i x) := by
  obtain ⟨a1, a2, a3, a4, a5, a6⟩ := H
  refine ⟨a1, a2, a3, a4, a5, fun j hj => ?_⟩
  obtain ⟨b1, b2, b3, b4⟩ := a6 j hj
  refine ⟨b1, b2, b3, ?_⟩
  by_cases c : j = i
  · subst c; rw [uv_at]; exact hx
  · rw [uv_off c]; exact b4
theorem WFs_18 {v : Vw} (H : WFs v) {i : Nat} {x : Int32} (hx : x ∈ l10) : WFs (uv v 18 i x) := by
  obtain ⟨a1, a2, a3, a4, a5, a6⟩ := H
  refine ⟨a1, a2, a3, a4, a5, fun j hj => ?_⟩
  obtain ⟨b1, b2, b3, b4⟩ := a6 j hj
  refine ⟨b1, b2, ?_, b4⟩
  by_cases c : j = i
  · subst c; rw [uv_at]; exact hx
  · rw [uv_off c]; exact b3
theorem WFs_8 {v : Vw} (H : WFs v) {i : Nat} {x : Int32} (hx : x ∈ l10) : WFs (uv v 8 i x) := by
  obtain ⟨a1, a2, a3, a4, a5, a6⟩ := H
  refine ⟨a1, fun j hj => ?_, a3, a4, a5, a6⟩
  obtain ⟨b1, b2, b3⟩ := a2 j hj
  refine ⟨?_, b2, b3⟩
  by_cases c : j = i
  · subst c; rw [uv_at]; exact hx
  · rw [uv_off c]; exact b1
theorem WFs_10 {v : Vw} (H : WFs v) {i : Nat} {x : Int32} (hx : x ∈ l3) : WFs (uv v 10 i x) := by
  obtain ⟨a1, a2, a3, a4, a5, a6⟩ := H
  refine ⟨a1, fun j hj => ?_, a3, a4, a5, a6⟩
  obtain ⟨b1, b2, b3⟩ := a2 j hj
  refine ⟨b1, ?_, b3⟩
  by_cases c : j = i
  · subst c; rw [uv_at]; exact hx
  · rw [uv_off c]; exact b2
theorem WFs_11 {v : Vw} (H : WFs v) {i : Nat} {x : Int32} (hx : x ∈ l10) : WFs (uv v 11 i x) := by
  obtain ⟨a1, a2, a3, a4, a5, a6⟩ := H
  refine ⟨a1, fun j hj => ?_, a3, a4, a5, a6⟩
  obtain ⟨b1, b2, b3⟩ := a2 j hj
  refine ⟨b1, b2, ?_⟩
  by_cases c : j = i
  · subst c; rw [uv_at]; exact hx
  · rw [uv_off c]; exact b3
theorem WFs_12 {v : Vw} (H : WFs v) (i : Nat) (x : Int32) : WFs (uv v 12 i x) := H
theorem WFs_9 {v : Vw} (H : WFs v) (i : Nat) (x : Int32) : WFs (uv v 9 i x) := H
theorem WFs_w {v : Vw} (H : WFs v) {x : Int32} (hx : x ∈ l3) : WFs (uv v 7 2 x) := by
  obtain ⟨a1, a2, a3, a4, a5, a6⟩ := H
  refine ⟨⟨a1.1, a1.2.1, ?_⟩, a2, a3, a4, a5, a6⟩
  rw [uv_at]; exact hx
/-! a change of the house, of the class's and of the reference's -/
def FC1 (σ σ' : Sg) : Prop := ∀ c : Nat × Nat, c.1 ≠ 1 → c.1 ≠ 3 → c ≠ (0, 3) → σ' c = σ c
def FM1 (τ τ' : Sg) : Prop := (∀ k, k ∈ [26, 35, 42] → τ' (0, 29) k = τ (0, 29) k) ∧ (∀ m, m ∈ [43, 48, 53, 56] → τ' (0, m) = τ (0, m))
theorem Rel.upN {σ σ' τ τ' : Sg} (H : Rel σ τ) (hc : FC1 σ σ') (hm : FM1 τ τ') (hN : RelN σ' τ') : Rel σ' τ' := by
  obtain ⟨_, ⟨b1, b2, b3⟩, c1, c2⟩ := H
  have e2 : hv σ' 2 = hv σ 2 := hv_eq (fun m hm' => hc _ (by show (2 : Nat) ≠ 1; decide) (by show (2 : Nat) ≠ 3; decide) (cneh (by decide)))
  have e0 : ∀ m, m ≠ 3 → σ' (0, m) = σ (0, m) := fun m hm' => hc _ (by show (0 : Nat) ≠ 1; decide) (by show (0 : Nat) ≠ 3; decide) (cne hm')
  refine ⟨hN, ⟨?_, ?_, ?_⟩, ?_, ?_⟩
  · rw [e0 4 (by decide), e0 5 (by decide), hm.1 26 (by decide), hm.2 48 (by decide)]; exact b1
  · rw [e0 0 (by decide), e0 1 (by decide), hm.1 42 (by decide), hm.2 56 (by decide)]; exact b2
  · rw [e0 2 (by decide), hm.2 43 (by decide)]; exact b3
  · rw [e0 0 (by decide), hm.1 35 (by decide)]; exact c1
  · rw [e2, hm.1 35 (by decide), hm.2 53 (by decide)]; exact c2
theorem FC1.refl (σ : Sg) : FC1 σ σ := fun _ _ _ _ => rfl
theorem FC1.trans {a b c : Sg} (h : FC1 a b) (h' : FC1 b c) : FC1 a c := fun x h1 h2 h3 => (h' x h1 h2 h3).trans (h x h1 h2 h3)
theorem FC1.up {σ : Sg} (m k : Nat) (x : Int32) : FC1 σ (upS σ (1, m) k x) := fun c h1 _ _ => upS_ne (fun e => h1 (by rw [e]))
theorem FM1.refl (τ : Sg) : FM1 τ τ := ⟨fun _ _ => rfl, fun _ _ => rfl⟩
theorem FM1.trans {a b c : Sg} (h : FM1 a b) (h' : FM1 b c) : FM1 a c := ⟨fun k hk => (h'.1 k hk).trans (h.1 k hk), fun k hk => (h'.2 k hk).trans (h.2 k hk)⟩
theorem FM.FM1 {τ τ' : Sg} (h : FM τ τ') : FM1 τ τ' := ⟨fun k hk => h.1 k (by simp only [kS, List.mem_cons, List.not_mem_nil, or_false] at hk ⊢; omega), fun k hk => h.2 k (by simp only [kM, List.mem_cons, List.not_mem_nil, or_false] at hk ⊢; omega)⟩
theorem FM1.up {τ : Sg} {m : Nat} (k : Nat) (x : Int32) (h : m ∉ [29, 43, 48, 53, 56]) : FM1 τ (upS τ (0, m) k x) := by
  simp only [List.mem_cons, List.not_mem_nil, or_false, not_or] at h
  refine ⟨fun k' _ => by rw [upS_ne (cne (by omega))], fun m' hm => ?_⟩
  have : m' ≠ m := by
    simp only [List.mem_cons, List.not_mem_nil, or_false] at hm
    omega
  rw [upS_ne (cne this)]
theorem FM1.sl {τ : Sg} {k : Nat} (x : Int32) (h : k ∉ [26, 35, 42]) : FM1 τ (upS τ (0, 29) k x) := by
  simp only [List.mem_cons, List.not_mem_nil, or_false, not_or] at h
  refine ⟨fun k' hk => ?_, fun m' hm => ?_⟩
  · have : k' ≠ k := by
      simp only [List.mem_cons, List.not_mem_nil, or_false] at hk
      omega
    rw [upS_off this]
  · have : m' ≠ 29 := by
      simp only [List.mem_cons, List.not_mem_nil, or_false] at hm
      omega
    rw [upS_ne (cne this)]
/-- one number of the house changes in both -/
theorem RelN.up {σ τ : Sg} (H : RelN σ τ) {m' m : Nat} (hm : mp m' m) (h25 : m < 25) (k : Nat) (x : Int32) (hw : WF (uv (hv σ 1) m k x)) : RelN (upS σ (1, m) k x) (upS τ (0, m') k x) := by
  unfold RelN
  rw [hv_up h25]
  exact ⟨hw, H.2.up hm k x⟩
theorem Rel.up {σ τ : Sg} (H : Rel σ τ) {m' m : Nat} (hm : mp m' m) (h25 : m < 25) (h' : m' ∉ [29, 43, 48, 53, 56]) (k : Nat) (x : Int32) (hw : WF (uv (hv σ 1) m k x)) : Rel (upS σ (1, m) k x) (upS τ (0, m') k x) :=
  H.upN (FC1.up m k x) (FM1.up k x h') (H.1.up hm h25 k x hw)
theorem l10_of {x : Int32} (h0 : 0 ≤ x) (h9 : x ≤ 9) : x ∈ l10 := by
  obtain ⟨j, hj, rfl⟩ := rng (n := 9) (by decide) h0 h9
  have : ∀ j, j ≤ 9 → nI j ∈ l10 := by decide
  exact this j hj
theorem l8_of {j : Nat} (h : j < 8) : nI j ∈ l8 := by
  have : ∀ j, j < 8 → nI j ∈ l8 := by decide
  exact this j h
theorem l3_of {x : Int32} (h0 : -1 ≤ x) (h9 : x ≤ 1) : x ∈ l3 := by
  have h1 : (0 : Int32) ≤ x + 1 := by grind
  have h2 : x + 1 ≤ nI 2 := by show x + 1 ≤ 2; grind
  obtain ⟨j, hj, e⟩ := rng (n := 2) (by decide) h1 h2
  have : ∀ j, j ≤ 2 → nI j - 1 ∈ l3 := by decide
  have h3 := this j hj
  rw [← e] at h3
  rwa [show x + 1 - 1 = x by grind] at h3
