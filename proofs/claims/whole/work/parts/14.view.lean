/-! ===== the class's next, views, ways ===== -/
theorem e_place (h : Nat) (a b : Int32) (σ : Sg) : f_X0_place h a b σ = some (if a < 0 ∨ σ (h, 7) 0 ≤ a ∨ b < 0 ∨ σ (h, 7) 1 ≤ b then -1 else a * 4 + b, σ) := by
  unfold f_X0_place
  rw [bv_eq]
  by_cases h1 : a < 0
  · simp only [h1, if_true, true_or]
  · by_cases h2 : σ (h, 7) 0 ≤ a
    · simp only [h1, h2, if_true, if_false, true_or, or_true]
    · by_cases h3 : b < 0
      · simp only [h1, h2, h3, if_true, if_false, true_or, or_true]
      · by_cases h4 : σ (h, 7) 1 ≤ b
        · simp only [h1, h2, h3, h4, if_true, if_false, true_or, or_true]
        · simp only [h1, h2, h3, h4, if_false, or_self, show ¬ (1 : Int32) = 0 by decide]
theorem gtv_neg (f : Nat → Int32) (n : Nat) : gtv f n (-1) = 0 := if_pos (by decide)
theorem c5a {a : Int32} (h : 0 ≤ a) (h2 : a ≤ 5) (h3 : a < 2) : ¬ 2 ≤ a := by grind
theorem c5b {a : Int32} (h3 : ¬ a < 2) : 2 ≤ a := by grind
theorem c44 (a b : Int32) : a * 4 + b = 4 * a + b := by grind
theorem e_next5 (h : Nat) (kind : Int32) (p : Nat) (σ : Sg) (hp : p < 24) (hS : σ (h, 7) 0 ∈ lS) (hK : σ (h, 7) 1 ∈ lK) (hk : kind ∈ l6) : f_X5_next h kind (nI p) σ = some (nx (σ (h, 7) 0) (σ (h, 7) 1) (σ (h, 7) 2) (σ (h, 10) p) (σ (h, 10) (p + 4)) kind (nI p), σ) := by
  have h1 := pq p hp
  have hup := pup p hp
  have s1 := inS hS
  have s2 := inK hK
  clear hS hK
  have hp24 : alen (h, 10) = 24 := rfl
  have hg : gtv (σ (h, 10)) (alen (h, 10)) (nI p) = σ (h, 10) p := gtv_nI (by rw [hp24]; exact hp) (by rw [hp24]; decide)
  simp only [l6, List.mem_cons, List.not_mem_nil, or_false] at hk
  unfold f_X5_next f_X5_next_153 nx
  simp only [bv_eq, e_place, e_get, bd_some, hg]
  rw [ap0] at hup
  generalize nI p - nI p / 4 * 4 = b at h1 hup ⊢
  generalize nI p / 4 = a at h1 hup ⊢
  rcases hk with rfl | rfl | rfl | rfl | rfl | rfl
  · simp only [reduceIte, show ¬ (0 : Int32) = 1 by decide, show ¬ (0 : Int32) = 5 by decide, show ¬ (0 : Int32) = 2 by decide, show ¬ (0 : Int32) = 4 by decide, show ¬ (0 : Int32) = 3 by decide, false_and, or_self, c44]
  · simp only [reduceIte, show ¬ (1 : Int32) = 4 by decide, show ¬ (1 : Int32) = 5 by decide, false_and, true_or, c44]
  · simp only [reduceIte, show ¬ (2 : Int32) = 1 by decide, show ¬ (2 : Int32) = 5 by decide, show ¬ (2 : Int32) = 4 by decide, false_and, or_self, c44]
  · simp only [reduceIte, show ¬ (3 : Int32) = 1 by decide, show ¬ (3 : Int32) = 5 by decide, show ¬ (3 : Int32) = 4 by decide, show ¬ (3 : Int32) = 2 by decide, false_and, or_self, c44]
  · simp only [reduceIte, show ¬ (4 : Int32) = 1 by decide, show ¬ (4 : Int32) = 5 by decide, show ¬ (4 : Int32) = 2 by decide, show ¬ (4 : Int32) = 3 by decide, or_self, c44, true_and, false_and]
    by_cases c : a + 1 < 0 ∨ σ (h, 7) 0 ≤ a + 1 ∨ b < 0 ∨ σ (h, 7) 1 ≤ b
    · simp only [c, if_true, gtv_neg]
    · simp only [c, if_false]
      have hq : 4 * (a + 1) + b = nI (p + 4) := by
        have h5 : 0 ≤ 4 * (a + 1) + b := by grind
        obtain ⟨k, hk, e⟩ := nI_of (show ¬ 4 * (a + 1) + b < 0 by grind)
        rw [e] at hup ⊢
        rw [nI_clamp hk] at hup
        rw [hup]
      have hlt : p + 4 < 24 := by
        have h6 : 4 * (a + 1) + b < 24 := by grind
        rw [hq] at h6
        exact (nI_ltI (by omega) (by decide)).mp h6
      rw [hq, gtv_nI (by rw [hp24]; exact hlt) (by rw [hp24]; decide)]
      by_cases c2 : σ (h, 10) (p + 4) = 0
      · simp only [c2, if_true, not_true, if_false]
      · simp only [c2, if_false, not_false_eq_true, if_true]
  · simp only [reduceIte, show ¬ (5 : Int32) = 1 by decide, show ¬ (5 : Int32) = 4 by decide, show ¬ (5 : Int32) = 2 by decide, show ¬ (5 : Int32) = 3 by decide, true_and, false_and, or_true, c44]
    by_cases c1 : σ (h, 7) 2 = 0
    · by_cases c2 : a < 2
      · simp only [c1, c2, if_true, c5a h1.1 h1.2.1 c2, and_false, if_false]
      · simp only [c1, c2, if_true, if_false, c5b c2, and_self, show ¬ (1 : Int32) = 0 by decide]
    · simp only [c1, if_false, false_and, if_true]

/-! views of a house: a row for each member -/
abbrev Vw := Nat → Nat → Int32
def uv (v : Vw) (m k : Nat) (x : Int32) : Vw := fun m' => if m' = m then upd (v m) k x else v m'
abbrev l10 : List Int32 := [0, 1, 2, 3, 4, 5, 6, 7, 8, 9]
abbrev l8 : List Int32 := [0, 1, 2, 3, 4, 5, 6, 7]
def tn (v : Vw) : Nat := (v 7 0 * v 7 1).toNatClampNeg
def hn (v : Vw) : Nat := (v 15 0).toNatClampNeg
def vp (v : Vw) (p : Nat) : Prop := vpl (v 7 0) (v 7 1) p
def WFs (v : Vw) : Prop := (v 7 0 ∈ lS ∧ v 7 1 ∈ lK ∧ v 7 2 ∈ l3) ∧ (∀ p, p < 24 → v 8 p ∈ l10 ∧ v 10 p ∈ l3 ∧ v 11 p ∈ l10) ∧ (∀ t, t < tn v → ∃ p, vp v p ∧ v 14 t = nI p ∧ v 13 p = nI t) ∧ (∀ p, vp v p → ∃ t, t < tn v ∧ v 13 p = nI t ∧ v 14 t = nI p) ∧ (hn v ≤ 8 ∧ v 15 0 = nI (hn v)) ∧ (∀ i, i < hn v → (∃ u, u < tn v ∧ v 16 i = nI u) ∧ v 17 i ∈ l6 ∧ v 18 i ∈ l10 ∧ v 19 i ∈ l8)
theorem tn_ok : ∀ S ∈ lS, ∀ K ∈ lK, (S * K).toNatClampNeg ≤ 24 ∧ S * K = nI (S * K).toNatClampNeg ∧ 0 < (S * K).toNatClampNeg := by decide +kernel
theorem tn24 {v : Vw} (h : WFs v) : tn v ≤ 24 ∧ v 7 0 * v 7 1 = nI (tn v) ∧ 0 < tn v := tn_ok _ h.1.1 _ h.1.2.1
/-- the next place of a way, in a view -/
def nxv (v : Vw) (kind : Int32) (p : Nat) : Int32 := nx (v 7 0) (v 7 1) (v 7 2) (v 10 p) (if p < 20 then v 10 (p + 4) else 0) kind (nI p)
theorem nx_up0 : ∀ S ∈ lS, ∀ p, p < 24 → 20 ≤ p → S ≤ nI p / 4 + 1 := by decide +kernel
theorem nx_up (S K wd aw up up' kind : Int32) (p : Nat) (hS : S ∈ lS) (hp : p < 24) (h : 20 ≤ p) : nx S K wd aw up kind (nI p) = nx S K wd aw up' kind (nI p) := by
  unfold nx
  have h0 := nx_up0 S hS p hp h
  by_cases c : kind = 4
  · simp only [c, if_true, h0, true_or, or_true]
  · simp only [c, false_and, if_false]
theorem nxv_eq {v : Vw} (kind : Int32) (p : Nat) (S K wd aw up : Int32) (hp : p < 24) (h0 : S = v 7 0) (h1 : K = v 7 1) (h2 : wd = v 7 2) (h3 : aw = v 10 p) (h4 : p + 4 < 24 → up = v 10 (p + 4)) (hS : v 7 0 ∈ lS) : nx S K wd aw up kind (nI p) = nxv v kind p := by
  subst h0 h1 h2 h3
  unfold nxv
  by_cases c : p < 20
  · rw [if_pos c, h4 (by omega)]
  · rw [if_neg c]
    exact nx_up _ _ _ _ _ _ _ _ hS hp (by omega)
/-- what a way goes down: the storeys below, or the storeys above -/
def ms (kind : Int32) (p : Nat) : Nat := if kind = 4 then 5 - p / 4 else p / 4
theorem nxv_ok {v : Vw} (h : WFs v) {kind : Int32} (hk : kind ∈ l6) {p : Nat} (hp : p < 24) : nxv v kind p = -1 ∨ ∃ q, nxv v kind p = nI q ∧ vp v q ∧ ms kind q < ms kind p := by
  have ha := (h.2.1 p hp).2.1
  have hb : (if p < 20 then v 10 (p + 4) else 0) ∈ l3 := by
    by_cases c : p < 20
    · rw [if_pos c]; exact (h.2.1 (p + 4) (by omega)).2.1
    · rw [if_neg c]; decide
  rcases nx_ok _ h.1.1 _ h.1.2.1 _ h.1.2.2 _ ha _ hb _ hk p hp with e | ⟨e1, e2, e3, e4, e5⟩
  · exact Or.inl e
  · refine Or.inr ⟨_, e1, ⟨e2, e3, e4⟩, ?_⟩
    have e6 : nI ((nxv v kind p).toNatClampNeg / 4) < 6 + 1 := by
      have := inS h.1.1
      have e3' : nI ((nxv v kind p).toNatClampNeg / 4) < v 7 0 := e3
      generalize nI ((nxv v kind p).toNatClampNeg / 4) = x at e3' ⊢
      grind
    change ms kind (nxv v kind p).toNatClampNeg < ms kind p
    have e5' : (if kind = 4 then (nxv v kind p).toNatClampNeg / 4 = p / 4 + 1 else (nxv v kind p).toNatClampNeg / 4 < p / 4) := e5
    have e2' : (nxv v kind p).toNatClampNeg < 24 := e2
    unfold ms
    by_cases c : kind = 4
    · rw [if_pos c] at e5' ⊢; rw [if_pos c]; omega
    · rw [if_neg c] at e5' ⊢; rw [if_neg c]; omega
/-- the places of a way, from its first on -/
def wy (v : Vw) (kind : Int32) : Nat → Int32 → List Nat
  | 0, _ => []
  | n + 1, x => if x < 0 then [] else x.toNatClampNeg :: wy v kind n (nxv v kind x.toNatClampNeg)
/-- no place, or one that is on the front, fewer than n storeys to go -/
def okx (v : Vw) (kind : Int32) (n : Nat) (x : Int32) : Prop := x = -1 ∨ ∃ q, x = nI q ∧ vp v q ∧ ms kind q < n
theorem okx_nx {v : Vw} (h : WFs v) {kind : Int32} (hk : kind ∈ l6) {p n : Nat} (hp : p < 24) (hm : ms kind p ≤ n) : okx v kind n (nxv v kind p) := by
  rcases nxv_ok h hk hp with e | ⟨q, e, hq, hm'⟩
  · exact Or.inl e
  · exact Or.inr ⟨q, e, hq, by omega⟩
theorem ms6 (kind : Int32) (p : Nat) (hp : p < 24) : ms kind p ≤ 5 := by unfold ms; split <;> omega
theorem wy_mem {v : Vw} (h : WFs v) {kind : Int32} (hk : kind ∈ l6) : ∀ n m x, okx v kind m x → ∀ q ∈ wy v kind n x, vp v q ∧ ms kind q < m := by
  intro n
  induction n with
  | zero => intro m x _ q hq; exact absurd hq (List.not_mem_nil)
  | succ n ih =>
    intro m x hx q hq
    rcases hx with rfl | ⟨p, rfl, hp, hm⟩
    · exact absurd hq (by rw [wy, if_pos (by decide)]; exact List.not_mem_nil)
    · have hp24 : p < 24 := hp.1
      rw [wy, if_neg (nI_pos (by omega)), nI_clamp (by omega)] at hq
      rcases List.mem_cons.mp hq with rfl | hq
      · exact ⟨hp, hm⟩
      · have := ih (ms kind p) _ (okx_nx h hk hp24 (Nat.le_refl _)) q hq
        exact ⟨this.1, by omega⟩
theorem wy_nodup {v : Vw} (h : WFs v) {kind : Int32} (hk : kind ∈ l6) : ∀ n m x, okx v kind m x → (wy v kind n x).Nodup := by
  intro n
  induction n with
  | zero => intro m x _; exact List.nodup_nil
  | succ n ih =>
    intro m x hx
    rcases hx with rfl | ⟨p, rfl, hp, hm⟩
    · rw [wy, if_pos (by decide)]; exact List.nodup_nil
    · have hp24 : p < 24 := hp.1
      have ho := okx_nx h hk hp24 (Nat.le_refl (ms kind p))
      rw [wy, if_neg (nI_pos (by omega)), nI_clamp (by omega), List.nodup_cons]
      refine ⟨fun hq => ?_, ih _ _ ho⟩
      have := (wy_mem h hk n _ _ ho p hq).2
      omega
