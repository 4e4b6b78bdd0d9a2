/-! ===== a habit's fall, in both ===== -/
theorem lp {A β : Type} (F : Nat → A → Sg → Option (β × Sg)) (I : Nat → A → Sg → Prop) (Q : β → Sg → Prop) (N : Nat)
    (hs : ∀ i n a s, i < N → I i a s → (∃ a' s', F (n + 1) a s = F n a' s' ∧ I (i + 1) a' s') ∨ (∃ r s', F (n + 1) a s = some (r, s') ∧ Q r s'))
    (he : ∀ n a s, I N a s → ∃ r s', F (n + 1) a s = some (r, s') ∧ Q r s') :
    ∀ d i, i + d = N → ∀ n a s, d < n → I i a s → ∃ r s', F n a s = some (r, s') ∧ Q r s' := by
  intro d
  induction d with
  | zero =>
    intro i hi n a s hn h
    obtain ⟨n, rfl⟩ : ∃ k, n = k + 1 := ⟨n - 1, by omega⟩
    have : i = N := by omega
    subst this
    exact he n a s h
  | succ d ih =>
    intro i hi n a s hn h
    obtain ⟨n, rfl⟩ : ∃ k, n = k + 1 := ⟨n - 1, by omega⟩
    rcases hs i n a s (by omega) h with ⟨a', s', e, h'⟩ | hq
    · rw [e]
      exact ih (i + 1) (by omega) n a' s' (by omega) h'
    · exact hq
/-! the class's house shows a view -/
def CS (h : Nat) (σ : Sg) (v : Vw) : Prop := (σ (h, 7) 0 = v 7 0 ∧ σ (h, 7) 1 = v 7 1 ∧ σ (h, 7) 2 = v 7 2 ∧ σ (h, 15) 0 = v 15 0) ∧ (∀ k, k < 24 → σ (h, 8) k = v 8 k ∧ σ (h, 10) k = v 10 k ∧ σ (h, 11) k = v 11 k ∧ σ (h, 12) k = v 12 k ∧ σ (h, 13) k = v 13 k ∧ σ (h, 14) k = v 14 k) ∧ (∀ k, k < 8 → σ (h, 16) k = v 16 k ∧ σ (h, 17) k = v 17 k ∧ σ (h, 18) k = v 18 k ∧ σ (h, 19) k = v 19 k)
abbrev csL : List Nat := [7, 8, 10, 11, 12, 13, 14, 15, 16, 17, 18, 19]
theorem CS_of {h : Nat} {σ σ' : Sg} {v : Vw} (H : CS h σ v) (e : ∀ m, m ∈ csL → σ' (h, m) = σ (h, m)) : CS h σ' v := by
  unfold CS at H ⊢
  rw [e 7 (by decide), e 8 (by decide), e 10 (by decide), e 11 (by decide), e 12 (by decide), e 13 (by decide), e 14 (by decide), e 15 (by decide), e 16 (by decide), e 17 (by decide), e 18 (by decide), e 19 (by decide)]
  exact H
theorem cne {h m m' : Nat} (e : m ≠ m') : ((h, m) : Nat × Nat) ≠ (h, m') := fun x => e (Prod.mk.inj x).2
theorem cneh {h h' m m' : Nat} (e : h ≠ h') : ((h, m) : Nat × Nat) ≠ (h', m') := fun x => e (Prod.mk.inj x).1
/-! the reference shows a view -/
def RS (τ : Sg) (v : Vw) : Prop := (τ (0, 29) 0 = v 7 0 ∧ τ (0, 29) 1 = v 7 1 ∧ τ (0, 29) 2 = v 7 2 ∧ τ (0, 29) 4 = v 15 0) ∧ (∀ k, k < 24 → τ (0, 30) k = v 8 k ∧ τ (0, 32) k = v 10 k ∧ τ (0, 33) k = v 11 k ∧ τ (0, 34) k = v 12 k) ∧ (∀ k, k < tn v → τ (0, 35) k = v 14 k) ∧ (∀ k, k < 8 → τ (0, 39) k = v 16 k ∧ τ (0, 40) k = v 17 k ∧ τ (0, 41) k = v 18 k ∧ τ (0, 42) k = v 19 k)
abbrev rsL : List Nat := [30, 32, 33, 34, 35, 39, 40, 41, 42]
theorem RS_of {τ τ' : Sg} {v : Vw} (H : RS τ v) (e0 : ∀ k, k < 5 → τ' (0, 29) k = τ (0, 29) k) (e : ∀ m, m ∈ rsL → τ' (0, m) = τ (0, m)) : RS τ' v := by
  unfold RS at H ⊢
  rw [e0 0 (by decide), e0 1 (by decide), e0 2 (by decide), e0 4 (by decide), e 30 (by decide), e 32 (by decide), e 33 (by decide), e 34 (by decide), e 35 (by decide), e 39 (by decide), e 40 (by decide), e 41 (by decide), e 42 (by decide)]
  exact H
theorem e_get_nI {i : Nat × Nat} {k n : Nat} (σ : Sg) (ha : alen i = n) (h : k < n) : f_X6_get i (nI k) σ = some (σ i k, σ) := by
  rw [e_get, gtv_nI (by rw [ha]; exact h) (alen_lt i)]
theorem e_set_nI {i : Nat × Nat} {k n : Nat} {x : Int32} (σ : Sg) (ha : alen i = n) (h : k < n) : f_X6_set i (nI k) x σ = some ((), upS σ i k x) := by
  rw [e_set, setv_nI (by rw [ha]; exact h)]
theorem c_next {h : Nat} {σ : Sg} {v : Vw} (hc : CS h σ v) (hv : WFs v) {kind : Int32} (hk : kind ∈ l6) {p : Nat} (hp : p < 24) : f_X5_next h kind (nI p) σ = some (nxv v kind p, σ) := by
  rw [e_next5 h kind p σ hp (by rw [hc.1.1]; exact hv.1.1) (by rw [hc.1.2.1]; exact hv.1.2.1) hk]
  rw [nxv_eq (v := v) kind p _ _ _ _ _ hp hc.1.1 hc.1.2.1 hc.1.2.2.1 (hc.2.1 p hp).2.1 (fun h4 => (hc.2.1 _ h4).2.1) hv.1.1]
theorem r_next {τ : Sg} {v : Vw} (hr : RS τ v) (hv : WFs v) {kind : Int32} (hk : kind ∈ l6) {p : Nat} (hp : p < 24) : f_X7_nextOf kind (nI p) τ = some (nxv v kind p, τ) := by
  rw [e_nextOf kind p τ hp (by rw [hr.1.1]; exact hv.1.1) (by rw [hr.1.2.1]; exact hv.1.2.1) (by rw [hr.1.2.2.1]; exact hv.1.2.2) (by rw [(hr.2.1 p hp).2.1]; exact (hv.2.1 p hp).2.1) hk]
  rw [nxv_eq (v := v) kind p _ _ _ _ _ hp hr.1.1 hr.1.2.1 hr.1.2.2.1 (hr.2.1 p hp).2.1 (fun h4 => (hr.2.1 _ h4).2.1) hv.1.1]
theorem upS_ne {σ : Sg} {i j : Nat × Nat} {k : Nat} {x : Int32} (h : j ≠ i) : upS σ i k x j = σ j := upA_ne σ _ h
theorem upS_at {σ : Sg} {i : Nat × Nat} {k : Nat} {x : Int32} : upS σ i k x i k = x := by unfold upS; rw [upA_same]; exact pk_us
theorem upS_off {σ : Sg} {i : Nat × Nat} {k j : Nat} {x : Int32} (h : j ≠ k) : upS σ i k x i j = σ i j := by unfold upS; rw [upA_same]; exact pk_un h
theorem tr_loop (h : Nat) {v : Vw} (hv : WFs v) {kind : Int32} (hk : kind ∈ l6) : ∀ n i m x σ, i + n = 6 → n < m → okx v kind n x → CS h σ v → σ (h, 25) 3 = nI i → ∃ σ', f_X5_trace_41 h h h m kind x (nI i) σ = some ((), σ') ∧ σ' (h, 25) 3 = nI (i + (wy v kind n x).length) ∧ (∀ j, j < (wy v kind n x).length → σ' (h, 26) (i + j) = nI ((wy v kind n x).getD j 0)) ∧ (∀ j, j < i → σ' (h, 26) j = σ (h, 26) j) ∧ (∀ c, c ≠ (h, 25) → c ≠ (h, 26) → σ' c = σ c) := by
  intro n
  induction n with
  | zero =>
    intro i m x σ hi hm hx hc h25
    obtain ⟨m, rfl⟩ : ∃ k, m = k + 1 := ⟨m - 1, by omega⟩
    have hi6 : i = 6 := by omega
    subst hi6
    refine ⟨σ, ?_, h25, fun j hj => absurd hj (Nat.not_lt_zero _), fun _ _ => rfl, fun _ _ _ => rfl⟩
    rw [f_X5_trace_41, if_pos (by decide)]
  | succ n ih =>
    intro i m x σ hi hm hx hc h25
    obtain ⟨m, rfl⟩ : ∃ k, m = k + 1 := ⟨m - 1, by omega⟩
    rw [f_X5_trace_41, if_neg (show ¬ (6 : Int32) ≤ nI i from nI_ge (show i < 6 by omega) (by decide))]
    rcases hx with rfl | ⟨p, rfl, hp, hmp⟩
    · rw [if_pos (by decide), wy, if_pos (by decide)]
      exact ⟨σ, rfl, h25, fun j hj => absurd hj (Nat.not_lt_zero _), fun _ _ => rfl, fun _ _ _ => rfl⟩
    · have hp24 : p < 24 := hp.1
      rw [if_neg (nI_pos (by omega)), e_set_nI (n := 6) σ rfl (by omega), bd_some, bv_eq, nI_1]
      have hc' : CS h (upS (upS σ (h, 26) i (nI p)) (h, 25) 3 (nI (i + 1))) v := CS_of hc (fun m' hm' => by
        have h1 : m' ≠ 25 ∧ m' ≠ 26 := by
          simp only [List.mem_cons, List.not_mem_nil, or_false] at hm'
          omega
        rw [upS_ne (cne h1.1), upS_ne (cne h1.2)])
      rw [c_next hc' hv hk hp24, bd_some]
      obtain ⟨σ', e, a1, a2, a3, a4⟩ := ih (i + 1) m (nxv v kind p) _ (by omega) (by omega) (okx_nx hv hk hp24 (by omega)) hc' upS_at
      have hw : wy v kind (n + 1) (nI p) = p :: wy v kind n (nxv v kind p) := by
        rw [wy, if_neg (nI_pos (by omega)), nI_clamp (by omega)]
      rw [hw]
      refine ⟨σ', e, ?_, ?_, ?_, ?_⟩
      · rw [a1, List.length_cons]; congr 1; omega
      · intro j hj
        cases j with
        | zero =>
          rw [Nat.add_zero, a3 i (by omega), upS_ne (cne (by decide)), upS_at]
          rfl
        | succ j =>
          rw [show i + (j + 1) = (i + 1) + j by omega, a2 j (by simpa using hj)]
          rfl
      · intro j hj
        rw [a3 j (by omega), upS_ne (cne (by decide)), upS_off (by omega)]
      · intro c c1 c2
        rw [a4 c c1 c2, upS_ne c1, upS_ne c2]
/-- how much stays at a place -/
def kpf (kind s hd c : Int32) : Int32 := if kind = 3 ∨ kind = 4 then 0 else jmin c (if kind = 5 then (s - hd) / 2 else s - hd)
theorem kp_ok : ∀ kind ∈ l6, ∀ s ∈ l10, ∀ hd ∈ l10, hd ≤ s → ∀ c ∈ l10, 0 < c → kpf kind s hd c ∈ l10 ∧ c - kpf kind s hd c ∈ l10 ∧ 0 ≤ hd + kpf kind s hd c ∧ hd + kpf kind s hd c ≤ s ∧ hd + kpf kind s hd c ∈ l10 ∧ jmin c (if kind = 3 then 0 else if kind = 4 then 0 else if kind = 5 then jmax 0 (s - hd) / 2 else jmax 0 (s - hd)) = kpf kind s hd c := by decide +kernel
def hl (v : Vw) (hd : Nat → Int32) (kind : Int32) : List Nat → Int32 → List (Nat × Int32 × Int32)
  | [], _ => []
  | p :: ps, c => if c ≤ 0 then [] else (p, c, kpf kind (v 8 p) (hd p) c) :: hl v hd kind ps (c - kpf kind (v 8 p) (hd p) c)
def okh (v : Vw) (hd : Nat → Int32) : Prop := ∀ p, p < 24 → hd p ∈ l10 ∧ hd p ≤ v 8 p
theorem e_room {h : Nat} {σ : Sg} {v : Vw} {hd : Nat → Int32} (hc : CS h σ v) (h9 : ∀ p, p < 24 → σ (h, 9) p = hd p) (kind : Int32) {p : Nat} (hp : p < 24) : f_X5_room h kind (nI p) σ = some (if kind = 3 then 0 else if kind = 4 then 0 else if kind = 5 then jmax 0 (v 8 p - hd p) / 2 else jmax 0 (v 8 p - hd p), σ) := by
  unfold f_X5_room
  rw [e_get_nI (n := 24) σ rfl hp]
  simp only [bd_some]
  rw [e_get_nI (n := 24) σ rfl hp]
  simp only [bd_some, bv_eq]
  rw [(hc.2.1 p hp).1, h9 p hp]
  by_cases c3 : kind = 3
  · rw [if_pos c3, if_pos c3]
  · rw [if_neg c3, if_neg c3]
    by_cases c4 : kind = 4
    · rw [if_pos c4, if_pos c4]
    · rw [if_neg c4, if_neg c4]
      by_cases c5 : kind = 5
      · rw [if_pos c5, if_pos c5]
      · rw [if_neg c5, if_neg c5]
theorem pos10 : ∀ c ∈ l10, ¬ c ≤ 0 → 0 < c := by decide
theorem hd_loop (h : Nat) {v : Vw} (hv : WFs v) {kind : Int32} (hk : kind ∈ l6) {hd : Nat → Int32} (hh : okh v hd) : ∀ ps i m c σ, (∀ q ∈ ps, q < 24) → i + ps.length ≤ 6 → ps.length < m → c ∈ l10 → CS h σ v → (∀ p, p < 24 → σ (h, 9) p = hd p) → (∀ j, j < ps.length → σ (h, 26) (i + j) = nI (ps.getD j 0)) → σ (h, 25) 3 = nI i → ∃ σ', f_X5_hold_34 h h h m kind c (nI (i + ps.length)) (nI i) σ = some ((), σ') ∧ σ' (h, 25) 3 = nI (i + (hl v hd kind ps c).length) ∧ (∀ j, j < (hl v hd kind ps c).length → σ' (h, 27) (i + j) = ((hl v hd kind ps c).getD j (0, 0, 0)).2.1 ∧ σ' (h, 28) (i + j) = ((hl v hd kind ps c).getD j (0, 0, 0)).2.2) ∧ (∀ j, j < i → σ' (h, 27) j = σ (h, 27) j ∧ σ' (h, 28) j = σ (h, 28) j) ∧ (∀ c, c ≠ (h, 25) → c ≠ (h, 27) → c ≠ (h, 28) → σ' c = σ c) := by
  intro ps
  induction ps with
  | nil =>
    intro i m c σ hq hi hm hcl hc h9 h26 h25
    obtain ⟨m, rfl⟩ : ∃ k, m = k + 1 := ⟨m - 1, by omega⟩
    refine ⟨σ, ?_, h25, fun j hj => absurd hj (Nat.not_lt_zero _), fun _ _ => ⟨rfl, rfl⟩, fun _ _ _ _ => rfl⟩
    rw [f_X5_hold_34, if_pos (show nI (i + ([] : List Nat).length) ≤ nI i from nI_le (Nat.le_refl i) (by omega))]
  | cons p ps ih =>
    intro i m c σ hq hi hm hcl hc h9 h26 h25
    obtain ⟨m, rfl⟩ : ∃ k, m = k + 1 := ⟨m - 1, by omega⟩
    rw [List.length_cons] at hi hm
    rw [f_X5_hold_34, if_neg (nI_ge (by rw [List.length_cons]; omega) (by rw [List.length_cons]; omega))]
    by_cases c0 : c ≤ 0
    · rw [if_pos c0, hl, if_pos c0]
      exact ⟨σ, rfl, h25, fun j hj => absurd hj (Nat.not_lt_zero _), fun _ _ => ⟨rfl, rfl⟩, fun _ _ _ _ => rfl⟩
    · have hp24 : p < 24 := hq p List.mem_cons_self
      have h26p : σ (h, 26) i = nI p := by
        have := h26 0 (by rw [List.length_cons]; omega)
        rwa [Nat.add_zero] at this
      have hkp := kp_ok kind hk (v 8 p) (hv.2.1 p hp24).1 (hd p) (hh p hp24).1 (hh p hp24).2 c hcl (pos10 c hcl c0)
      rw [if_neg c0, e_get_nI (n := 6) σ rfl (by omega), bd_some, h26p, e_room hc h9 kind hp24, bd_some, bv_eq, hkp.2.2.2.2.2, e_set_nI (n := 6) σ rfl (by omega), bd_some, e_set_nI (n := 6) _ rfl (by omega), bd_some, bv_eq, bv_eq, nI_1]
      generalize hke : kpf kind (v 8 p) (hd p) c = k at hkp ⊢
      have hs1 : ∀ c', c' ≠ (h, 25) → c' ≠ (h, 27) → c' ≠ (h, 28) → upS (upS (upS σ (h, 27) i c) (h, 28) i k) (h, 25) 3 (nI (i + 1)) c' = σ c' := fun c' d1 d2 d3 => by rw [upS_ne d1, upS_ne d3, upS_ne d2]
      generalize hse : upS (upS (upS σ (h, 27) i c) (h, 28) i k) (h, 25) 3 (nI (i + 1)) = σ1 at hs1 ⊢
      have hc' : CS h σ1 v := CS_of hc (fun m' hm' => by
        have h1 : m' ≠ 25 ∧ m' ≠ 27 ∧ m' ≠ 28 := by
          simp only [List.mem_cons, List.not_mem_nil, or_false] at hm'
          omega
        exact hs1 _ (cne h1.1) (cne h1.2.1) (cne h1.2.2))
      obtain ⟨σ', e, a1, a2, a3, a4⟩ := ih (i + 1) m (c - k) σ1 (fun q hq' => hq q (List.mem_cons_of_mem _ hq')) (by omega) (by omega) hkp.2.1 hc' (fun q hq' => by rw [hs1 _ (cne (by decide)) (cne (by decide)) (cne (by decide))]; exact h9 q hq') (fun j hj => by
        rw [hs1 _ (cne (by decide)) (cne (by decide)) (cne (by decide)), show i + 1 + j = i + (j + 1) by omega, h26 (j + 1) (by rw [List.length_cons]; omega)]
        rfl) (by rw [← hse]; exact upS_at)
      have hw : hl v hd kind (p :: ps) c = (p, c, k) :: hl v hd kind ps (c - k) := by
        rw [hl, if_neg c0, hke]
      rw [hw]
      refine ⟨σ', ?_, ?_, ?_, ?_, ?_⟩
      · rw [List.length_cons, show i + (ps.length + 1) = i + 1 + ps.length by omega]; exact e
      · rw [a1, List.length_cons]; congr 1; omega
      · intro j hj
        cases j with
        | zero =>
          rw [Nat.add_zero, (a3 i (by omega)).1, (a3 i (by omega)).2, ← hse, upS_ne (cne (by decide)), upS_ne (cne (by decide)), upS_at, upS_ne (cne (by decide)), upS_at]
          exact ⟨rfl, rfl⟩
        | succ j =>
          rw [show i + (j + 1) = (i + 1) + j by omega]
          exact a2 j (by simpa using hj)
      · intro j hj
        rw [(a3 j (by omega)).1, (a3 j (by omega)).2, ← hse, upS_ne (cne (by decide)), upS_ne (cne (by decide)), upS_off (by omega), upS_ne (cne (by decide)), upS_off (by omega), upS_ne (cne (by decide))]
        exact ⟨rfl, rfl⟩
      · intro c' d1 d2 d3
        rw [a4 c' d1 d2 d3, hs1 c' d1 d2 d3]
