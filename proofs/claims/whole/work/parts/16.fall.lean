/-! ===== a fall, in both ===== -/
theorem and1 (x : Int32) : x &&& 1 = 0 ∨ x &&& 1 = 1 := by
  have h : (x &&& 1).toBitVec = BitVec.setWidth 32 (BitVec.ofBool (x.toBitVec.getLsbD 0)) := by
    rw [Int32.toBitVec_and]
    exact BitVec.and_one_eq_setWidth_ofBool_getLsbD
  cases hb : x.toBitVec.getLsbD 0
  · rw [hb] at h; exact Or.inl (Int32.toBitVec_inj.mp (by rw [h]; decide))
  · rw [hb] at h; exact Or.inr (Int32.toBitVec_inj.mp (by rw [h]; decide))
def hmf (kind w hung hour c : Int32) : Int32 := if w = 0 then 0 else if (hung >>> (hour &&& 31)) &&& 1 = 0 then 0 else if kind = 1 then jmin w c / 2 else if kind = 3 then 2 * jmin w c else if kind = 4 then 1 else if kind = 5 then jmin w c / 2 + 2 else jmin w c
theorem hm_ok1 : ∀ kind ∈ l6, ∀ w ∈ l10, ∀ c ∈ l10, (if kind = 1 then jmin w c / 2 else if kind = 3 then 2 * jmin w c else if kind = 4 then 1 else if kind = 5 then jmin w c / 2 + 2 else jmin w c) = nI (if kind = 1 then jmin w c / 2 else if kind = 3 then 2 * jmin w c else if kind = 4 then 1 else if kind = 5 then jmin w c / 2 + 2 else jmin w c).toNatClampNeg ∧ (if kind = 1 then jmin w c / 2 else if kind = 3 then 2 * jmin w c else if kind = 4 then 1 else if kind = 5 then jmin w c / 2 + 2 else jmin w c).toNatClampNeg ≤ 18 := by decide +kernel
theorem hm_ok {kind w hung hour c : Int32} (hk : kind ∈ l6) (hw : w ∈ l10) (hc : c ∈ l10) : ∃ b, b ≤ 18 ∧ hmf kind w hung hour c = nI b := by
  unfold hmf
  by_cases h1 : w = 0
  · exact ⟨0, by omega, by rw [if_pos h1]; rfl⟩
  · rw [if_neg h1]
    by_cases h2 : (hung >>> (hour &&& 31)) &&& 1 = 0
    · exact ⟨0, by omega, by rw [if_pos h2]; rfl⟩
    · rw [if_neg h2]
      exact ⟨_, (hm_ok1 kind hk w hw c hc).2, (hm_ok1 kind hk w hw c hc).1⟩
theorem e_harmAt {h i j p : Nat} {σ : Sg} {v : Vw} {c : Int32} (hc : CS h σ v) (hi : i < 8) (hj : j < 6) (hp : p < 24) (h26 : σ (h, 26) j = nI p) (h27 : σ (h, 27) j = c) : f_X2_harmAt h (nI i) (nI j) σ = some (hmf (v 17 i) (v 11 p) (v 12 p) (v 19 i) c, σ) := by
  unfold f_X2_harmAt hmf
  have hp2 := hc.2.1 p hp
  have hi2 := hc.2.2 i hi
  rw [e_get_nI (n := 6) σ rfl hj, bd_some, h26, e_get_nI (n := 24) σ rfl hp, bd_some, e_get_nI (n := 24) σ rfl hp, bd_some, e_get_nI (n := 8) σ rfl hi, bd_some, bv_eq, hp2.2.2.1, hp2.2.2.2.1, hi2.2.2.2]
  by_cases h1 : v 11 p = 0
  · rw [if_pos h1, if_pos h1]
  · rw [if_neg h1, if_neg h1]
    rcases and1 (v 12 p >>> (v 19 i &&& 31)) with h2 | h2
    · rw [h2, if_pos (show (if (0 : Int32) = 1 then (1 : Int32) else 0) = 0 by decide), if_pos rfl]
    · rw [h2, if_neg (show ¬ (if (1 : Int32) = 1 then (1 : Int32) else 0) = 0 by decide), if_neg (show ¬ (1 : Int32) = 0 by decide), e_get_nI (n := 6) σ rfl hj, bd_some, h27, bv_eq, e_get_nI (n := 8) σ rfl hi, bd_some, hi2.2.1]
      generalize v 17 i = k
      by_cases k1 : k = 1
      · rw [if_pos k1, if_pos k1]
      · rw [if_neg k1, if_neg k1]
        by_cases k2 : k = 2
        · subst k2; rfl
        · rw [if_neg k2]
          by_cases k3 : k = 3
          · rw [if_pos k3, if_pos k3]
          · rw [if_neg k3, if_neg k3]
            by_cases k4 : k = 4
            · rw [if_pos k4, if_pos k4]
            · rw [if_neg k4, if_neg k4]
              by_cases k5 : k = 5
              · rw [if_pos k5, if_pos k5]
              · rw [if_neg k5, if_neg k5]
theorem jm_lesser (a b : Int32) : (if b ≤ a then b else a) = jmin a b := by
  unfold jmin
  by_cases h : b < a
  · rw [if_pos h, if_pos (by grind)]
  · rw [if_neg h]
    by_cases h2 : b ≤ a
    · rw [if_pos h2]; grind
    · rw [if_neg h2]
theorem jm_comm (a b : Int32) : jmin a b = jmin b a := by unfold jmin; split <;> split <;> grind
theorem e_harmOf {p : Nat} {τ : Sg} {v : Vw} (kind hour c : Int32) (hr : RS τ v) (hp : p < 24) : f_X7_harmOf kind (nI p) hour c τ = some (hmf kind (v 11 p) (v 12 p) hour c, τ) := by
  unfold f_X7_harmOf hmf
  have hp2 := hr.2.1 p hp
  have hi := inb24 hp
  have e33 : τ (0, 33) (nI p).toNatClampNeg = v 11 p := by rw [nI_clamp (by omega)]; exact hp2.2.2.1
  have e34 : τ (0, 34) (nI p).toNatClampNeg = v 12 p := by rw [nI_clamp (by omega)]; exact hp2.2.2.2
  rw [chk_t hi, e33, e34]
  by_cases h1 : v 11 p = 0
  · rw [if_pos h1, if_pos h1]
  · rw [if_neg h1, if_neg h1, chk_t hi]
    by_cases h2 : (v 12 p >>> (hour &&& 31)) &&& 1 = 0
    · rw [if_pos h2, if_pos h2]
    · rw [if_neg h2, if_neg h2, chk_t hi, e_lesser, bd_some, jm_lesser, jm_comm]
      by_cases k1 : kind = 1
      · rw [if_pos k1, if_pos k1]
      · rw [if_neg k1, if_neg k1]
        by_cases k2 : kind = 2
        · subst k2; rfl
        · rw [if_neg k2]
          by_cases k3 : kind = 3
          · rw [if_pos k3, if_pos k3]
          · rw [if_neg k3, if_neg k3]
            by_cases k4 : kind = 4
            · rw [if_pos k4, if_pos k4]
            · rw [if_neg k4, if_neg k4]
              by_cases k5 : kind = 5
              · rw [if_pos k5, if_pos k5]
              · rw [if_neg k5, if_neg k5]
theorem e_keptAt {p : Nat} {τ : Sg} {v : Vw} (kind c : Int32) (hr : RS τ v) (hp : p < 24) : f_X7_keptAt kind (nI p) c τ = some (kpf kind (v 8 p) (τ (0, 44) p) c, τ) := by
  unfold f_X7_keptAt f_X7_keptAt_44 kpf
  have hi := inb24 hp
  rw [chk_t hi, chk_t hi, bv_eq, nI_clamp (by omega), (hr.2.1 p hp).1]
  by_cases k3 : kind = 3
  · rw [if_pos k3, if_pos (Or.inl k3)]
  · rw [if_neg k3]
    by_cases k4 : kind = 4
    · rw [if_pos k4, if_pos (Or.inr k4)]
    · rw [if_neg k4, if_neg (show ¬ (kind = 3 ∨ kind = 4) from fun x => x.elim k3 k4)]
      by_cases k5 : kind = 5
      · rw [if_pos k5, if_pos k5, e_lesser, bd_some, jm_lesser]
      · rw [if_neg k5, if_neg k5, e_lesser, bd_some, jm_lesser]
/-! who lives there, in the reference -/
theorem nI_inj24 {a b : Nat} (ha : a < 24) (hb : b < 24) (h : nI a = nI b) : a = b := (nI_eq (by omega) (by omega)).mp h
theorem e_lives {p : Nat} {τ : Sg} {v : Vw} (hr : RS τ v) (hv : WFs v) (hp : vp v p) : f_X7_livesIn (nI p) τ = some (v 13 p, τ) := by
  obtain ⟨T, hT, h13, h14⟩ := hv.2.2.2.1 p hp
  have ht := (tn24 hv).1
  rw [h13]
  have key : ∀ d t n, t + d = T → d < n → f_X7_livesIn_2 n (nI p) (nI t) τ = some (nI T, τ) := by
    intro d
    induction d with
    | zero =>
      intro t n e hn
      obtain ⟨n, rfl⟩ : ∃ k, n = k + 1 := ⟨n - 1, by omega⟩
      have : t = T := by omega
      subst this
      rw [f_X7_livesIn_2, chk_t (inb24 (by omega)), nI_clamp (by omega), hr.2.2.1 t hT, h14, if_pos rfl]
    | succ d ih =>
      intro t n e hn
      obtain ⟨n, rfl⟩ : ∃ k, n = k + 1 := ⟨n - 1, by omega⟩
      rw [f_X7_livesIn_2, chk_t (inb24 (by omega)), nI_clamp (by omega), hr.2.2.1 t (by omega), if_neg, nI_1]
      · exact ih (t + 1) n (by omega) (by omega)
      · intro e2
        obtain ⟨q, hq, q1, q2⟩ := hv.2.2.1 t (by omega)
        have hpq : q = p := nI_inj24 hq.1 hp.1 (by rw [← q1, e2])
        subst hpq
        have := nI_inj24 (by omega) (by omega) (q2.symm.trans h13)
        omega
  exact key T 0 fuel (by omega) (by show T < 2000; omega)
/-! what a note does -/
def n0 (w : Vw) (t u : Nat) (x : Int32) : Vw := uv (uv w 23 t (w 23 t + x)) 46 (24 * t + u) (w 46 (24 * t + u) + x)
def n1 (w : Vw) (t u p : Nat) (x k : Int32) : Vw := uv (n0 w t u x) 9 p (w 9 p + k)
def nt (v : Vw) (i : Nat) (w : Vw) (e : Nat × Int32 × Int32) : Vw := n1 w (v 13 e.1).toNatClampNeg (v 16 i).toNatClampNeg e.1 (hmf (v 17 i) (v 11 e.1) (v 12 e.1) (v 19 i) e.2.1) e.2.2
def sm (f : Nat → Int32) : Nat → Int32
  | 0 => 0
  | n + 1 => sm f n + f n
def orb (f : Nat → Int32) : Nat → Int32
  | 0 => 0
  | n + 1 => orb f n ||| (if f n ≤ 0 then (0 : Int32) else (1 : Int32) <<< (nI n &&& 31))
theorem sm_congr {f g : Nat → Int32} : ∀ n, (∀ t, t < n → f t = g t) → sm f n = sm g n := by
  intro n
  induction n with
  | zero => intro _; rfl
  | succ n ih => intro h; rw [sm, sm, ih (fun t ht => h t (by omega)), h n (by omega)]
theorem orb_congr {f g : Nat → Int32} : ∀ n, (∀ t, t < n → f t = g t) → orb f n = orb g n := by
  intro n
  induction n with
  | zero => intro _; rfl
  | succ n ih => intro h; rw [orb, orb, ih (fun t ht => h t (by omega)), h n (by omega)]
theorem sm_upd {f : Nat → Int32} {t : Nat} {x : Int32} : ∀ n, t < n → sm (upd f t (f t + x)) n = sm f n + x := by
  intro n
  induction n with
  | zero => intro h; omega
  | succ n ih =>
    intro h
    rw [sm, sm]
    by_cases e : t = n
    · subst e
      rw [sm_congr t (g := f) (fun s hs => pk_un (Nat.ne_of_lt hs)), pk_us, Int32.add_assoc]
    · rw [ih (by omega), pk_un (by omega), Int32.add_assoc, Int32.add_comm x, ← Int32.add_assoc]
theorem orb_upd {f : Nat → Int32} {u : Nat} {x y : Int32} (hx : ¬ y ≤ 0) : ∀ n, u < n → orb (upd f u y) n = orb f n ||| ((1 : Int32) <<< (nI u &&& 31)) := by
  intro n
  induction n with
  | zero => intro h; omega
  | succ n ih =>
    intro h
    rw [orb, orb]
    by_cases e : u = n
    · subst e
      rw [orb_congr u (g := f) (fun s hs => pk_un (Nat.ne_of_lt hs)), pk_us, if_neg hx]
      split
      · rw [Int32.or_zero]
      · rw [Int32.or_assoc, Int32.or_self]
    · rw [ih (by omega), pk_un (by omega), Int32.or_assoc, Int32.or_assoc, Int32.or_comm ((1 : Int32) <<< (nI u &&& 31))]
theorem upd_id (f : Nat → Int32) (k : Nat) : upd f k (f k) = f := by
  funext j
  unfold upd
  split
  · next e => rw [e]
  · rfl
theorem n0_9 (w : Vw) (t u : Nat) (x : Int32) : n0 w t u x 9 = w 9 := rfl
theorem n0_23 (w : Vw) (t u : Nat) (x : Int32) : n0 w t u x 23 = upd (w 23) t (w 23 t + x) := rfl
theorem n0_46 (w : Vw) (t u : Nat) (x : Int32) : n0 w t u x 46 = upd (w 46) (24 * t + u) (w 46 (24 * t + u) + x) := rfl
theorem n1_9 (w : Vw) (t u p : Nat) (x k : Int32) : n1 w t u p x k 9 = upd (w 9) p (w 9 p + k) := rfl
theorem n1_23 (w : Vw) (t u p : Nat) (x k : Int32) : n1 w t u p x k 23 = upd (w 23) t (w 23 t + x) := rfl
theorem n1_46 (w : Vw) (t u p : Nat) (x k : Int32) : n1 w t u p x k 46 = upd (w 46) (24 * t + u) (w 46 (24 * t + u) + x) := rfl
theorem uv_id (w : Vw) (m k : Nat) : uv w m k (w m k) = w := by
  funext j
  unfold uv
  split
  · next e => rw [upd_id, e]
  · rfl
theorem n0_0 (w : Vw) (t u : Nat) : n0 w t u 0 = w := by
  unfold n0
  rw [Int32.add_zero, uv_id, Int32.add_zero, uv_id]
/-- harm of a week, bounded -/
def WB (n : Nat) (w : Vw) : Prop := (∀ t, t < 24 → ∃ a, a ≤ 18 * n ∧ w 23 t = nI a) ∧ (∀ k, k < 576 → ∃ a, a ≤ 18 * n ∧ w 46 k = nI a)
theorem n1_WB {n : Nat} {w : Vw} (h : WB n w) {t u p b : Nat} {k : Int32} (hb : b ≤ 18) : WB (n + 1) (n1 w t u p (nI b) k) := by
  constructor
  · intro s hs
    rw [n1_23]
    by_cases e : s = t
    · subst e
      obtain ⟨a, ha, e⟩ := h.1 s hs
      exact ⟨a + b, by omega, by rw [pk_us, e, nI_add]⟩
    · rw [pk_un e]
      obtain ⟨a, ha, e⟩ := h.1 s hs
      exact ⟨a, by omega, e⟩
  · intro s hs
    rw [n1_46]
    by_cases e : s = 24 * t + u
    · subst e
      obtain ⟨a, ha, e⟩ := h.2 _ hs
      exact ⟨a + b, by omega, by rw [pk_us, e, nI_add]⟩
    · rw [pk_un e]
      obtain ⟨a, ha, e⟩ := h.2 s hs
      exact ⟨a, by omega, e⟩
theorem jm_nI {a b : Nat} (ha : a < 2 ^ 31) (hb : b < 2 ^ 31) : jmin (nI a) (nI b) = nI (min a b) := by
  unfold jmin
  by_cases h : b < a
  · rw [if_pos ((nI_ltI hb ha).mpr h), Nat.min_eq_right (by omega)]
  · rw [if_neg (fun x => h ((nI_ltI hb ha).mp x)), Nat.min_eq_left (by omega)]
theorem jm2 {M a0 a b : Nat} (hM : M < 2 ^ 20) (h0 : a0 < 2 ^ 20) (ha : a < 2 ^ 20) (hb : b < 2 ^ 20) : jmin (nI M) (jmin (nI M) (nI a0 + nI a) + nI b) = jmin (nI M) (nI a0 + (nI a + nI b)) := by
  rw [nI_add, nI_add, nI_add, jm_nI (by omega) (by omega), nI_add, jm_nI (by omega) (by omega), jm_nI (by omega) (by omega)]
  congr 1
  omega
/-- what a house's ledger could bear -/
def OKL (H0 A0 : Nat → Int32) : Prop := (∀ t, t < 24 → ∃ a, a ≤ 99999 ∧ H0 t = nI a) ∧ (∀ k, k < 576 → ∃ a, a ≤ 999 ∧ A0 k = nI a)
/-- the class's house in the midst of a week -/
def CL (h : Nat) (H0 A0 : Nat → Int32) (T : Nat) (σ : Sg) (w : Vw) : Prop := (∀ p, p < 24 → σ (h, 9) p = w 9 p) ∧ (∀ t, t < 24 → σ (h, 23) t = w 23 t) ∧ σ (h, 20) 4 = sm (w 23) T ∧ (OKL H0 A0 → (∀ t, t < 24 → σ (h, 21) t = jmin 99999 (H0 t + w 23 t)) ∧ (∀ t u, t < 24 → u < 24 → σ (h, 22) (24 * t + u) = jmin 999 (A0 (24 * t + u) + w 46 (24 * t + u)))) ∧ (∀ t, t < 24 → σ (h, 24) t = orb (fun u => w 46 (24 * t + u)) 24)
theorem ix24 (t u : Nat) : nI t * (24 : Int32) + nI u = nI (24 * t + u) := by
  rw [show (24 : Int32) = nI 24 from rfl, pk_mul, nI_add, Nat.mul_comm]
theorem c_note {h t u b n T : Nat} {H0 A0 : Nat → Int32} {σ : Sg} {w : Vw} (hT : T ≤ 24) (ht : t < T) (hu : u < 24) (htu : t ≠ u) (hb : b ≤ 18) (hn : n < 1000) (hw : WB n w) (H : CL h H0 A0 T σ w) : ∃ σ', f_X3_note h (nI t) (nI u) (nI b) σ = some ((), σ') ∧ CL h H0 A0 T σ' (n0 w t u (nI b)) ∧ (∀ m, m < 20 ∨ 24 < m → σ' (h, m) = σ (h, m)) ∧ (∀ c : Nat × Nat, c.1 ≠ h → σ' c = σ c) := by
  have ht24 : t < 24 := by omega
  by_cases hb0 : b = 0
  · subst hb0
    refine ⟨σ, ?_, ?_, fun _ _ => rfl, fun _ _ => rfl⟩
    · rw [f_X3_note, if_neg (by decide)]
    · rw [show nI 0 = 0 from rfl, n0_0]; exact H
  · have hix : 24 * t + u < 576 := by omega
    have hval : f_X3_note h (nI t) (nI u) (nI b) σ = some ((), upS (upS (upS (upS (upS σ (h, 20) 4 (σ (h, 20) 4 + nI b)) (h, 23) t (σ (h, 23) t + nI b)) (h, 24) t (σ (h, 24) t ||| (1 : Int32) <<< (nI u &&& 31))) (h, 21) t (jmin 99999 (σ (h, 21) t + nI b))) (h, 22) (24 * t + u) (jmin 999 (σ (h, 22) (24 * t + u) + nI b))) := by
      rw [f_X3_note, if_pos (show (0 : Int32) < nI b from nI_lt (show 0 < b by omega) (by omega)), bv_eq]
      rw [e_get_nI (n := 24) _ rfl ht24, bd_some, upS_ne (cne (by decide)), e_set_nI (n := 24) _ rfl ht24, bd_some]
      rw [e_get_nI (n := 24) _ rfl ht24, bd_some, upS_ne (cne (by decide)), upS_ne (cne (by decide)), e_set_nI (n := 24) _ rfl ht24, bd_some]
      rw [e_get_nI (n := 24) _ rfl ht24, bd_some, upS_ne (cne (by decide)), upS_ne (cne (by decide)), upS_ne (cne (by decide)), e_set_nI (n := 24) _ rfl ht24, bd_some]
      rw [if_neg (fun e => htu (nI_inj24 ht24 hu e)), f_X3_pair, bd_some, ix24]
      rw [e_get_nI (n := 576) _ rfl hix, bd_some, upS_ne (cne (by decide)), upS_ne (cne (by decide)), upS_ne (cne (by decide)), upS_ne (cne (by decide)), e_set_nI (n := 576) _ rfl hix, bd_some]
    refine ⟨_, hval, ?_, ?_, ?_⟩
    · obtain ⟨a1, a2, a3, a4, a5⟩ := H
      refine ⟨?_, ?_, ?_, ?_, ?_⟩
      · intro p hp
        rw [upS_ne (cne (by decide)), upS_ne (cne (by decide)), upS_ne (cne (by decide)), upS_ne (cne (by decide)), upS_ne (cne (by decide)), n0_9]
        exact a1 p hp
      · intro s hs
        rw [upS_ne (cne (by decide)), upS_ne (cne (by decide)), upS_ne (cne (by decide)), n0_23]
        by_cases e : s = t
        · subst e; rw [upS_at, pk_us, a2 s hs]
        · rw [upS_off e, pk_un e, upS_ne (cne (by decide)), a2 s hs]
      · rw [upS_ne (cne (by decide)), upS_ne (cne (by decide)), upS_ne (cne (by decide)), upS_ne (cne (by decide)), upS_at, n0_23, sm_upd T ht, a3]
      · intro hok
        obtain ⟨a6, a7⟩ := a4 hok
        constructor
        · intro s hs
          rw [upS_ne (cne (by decide)), n0_23]
          by_cases e : s = t
          · subst e
            obtain ⟨x0, hx0, e0⟩ := hok.1 s hs
            obtain ⟨x1, hx1, e1⟩ := hw.1 s hs
            rw [upS_at, pk_us, a6 s hs, e0, e1]
            exact jm2 (M := 99999) (by decide) (by omega) (by omega) (by omega)
          · rw [upS_off e, pk_un e, upS_ne (cne (by decide)), upS_ne (cne (by decide)), upS_ne (cne (by decide)), a6 s hs]
        · intro s r hs hr
          rw [n0_46]
          by_cases e : 24 * s + r = 24 * t + u
          · obtain ⟨x0, hx0, e0⟩ := hok.2 (24 * t + u) hix
            obtain ⟨x1, hx1, e1⟩ := hw.2 (24 * t + u) hix
            rw [e, upS_at, pk_us, a7 t u ht24 hu, e0, e1]
            exact jm2 (M := 999) (by decide) (by omega) (by omega) (by omega)
          · rw [upS_off e, pk_un e, upS_ne (cne (by decide)), upS_ne (cne (by decide)), upS_ne (cne (by decide)), upS_ne (cne (by decide)), a7 s r hs hr]
      · intro s hs
        rw [upS_ne (cne (by decide)), upS_ne (cne (by decide)), n0_46]
        by_cases e : s = t
        · subst e
          rw [upS_at, a5 s hs]
          obtain ⟨x1, hx1, e1⟩ := hw.2 (24 * s + u) hix
          have hpos : ¬ w 46 (24 * s + u) + nI b ≤ 0 := by
            rw [e1, nI_add]; exact nI_nle (by omega) (by omega)
          rw [← orb_upd (x := 0) hpos 24 hu]
          refine orb_congr 24 (fun r hr => ?_)
          show upd _ u _ r = upd _ (24 * s + u) _ (24 * s + r)
          by_cases e2 : r = u
          · subst e2; rw [pk_us, pk_us]
          · rw [pk_un e2, pk_un (by omega)]
        · rw [upS_off e, upS_ne (cne (by decide)), upS_ne (cne (by decide)), a5 s hs]
          refine orb_congr 24 (fun r hr => ?_)
          show w 46 (24 * s + r) = upd _ (24 * t + u) _ (24 * s + r)
          rw [pk_un (by omega)]
    · intro m hm
      rw [upS_ne (cne (by omega)), upS_ne (cne (by omega)), upS_ne (cne (by omega)), upS_ne (cne (by omega)), upS_ne (cne (by omega))]
    · intro c hc
      have hne : ∀ m, c ≠ (h, m) := fun m e => hc (by rw [e])
      rw [upS_ne (hne _), upS_ne (hne _), upS_ne (hne _), upS_ne (hne _), upS_ne (hne _)]
