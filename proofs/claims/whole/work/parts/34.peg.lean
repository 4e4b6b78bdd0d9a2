/-! ===== whose a peg is ===== -/
def pgm (s p h : Nat) : Int32 := if h % 4 = p % 4 ∧ p / 4 < h / 4 ∧ h / 4 < s then (if h = p + 4 then 2 else 1) else 0
def pgt (s p : Nat) : Int32 := if s - p / 4 - 1 = 0 then 0 else nI (s - p / 4 - 1 + 1)
def pgg (t m : Int32) : Int32 := if m = 2 ∧ t - t / 2 * 2 = 0 then 2 else 1
/-- as the reference tells it -/
def pgr (s p h : Nat) (part : Int32) : Int32 := if pgm s p h = 0 then part else if part = 0 then pgm s p h / pgg (pgt s p) (pgm s p h) else pgt s p / pgg (pgt s p) (pgm s p h)
/-- as the class tells it -/
def pgc (S P H part : Int32) : Int64 := if H - H / 4 * 4 = P - P / 4 * 4 then (if 0 < H / 4 - P / 4 then (if part = 1 then (if H / 4 - P / 4 = 1 ∧ (S - P / 4) - (S - P / 4) / 2 * 2 = 0 then ((S - P / 4) / 2).toInt64 else (S - P / 4).toInt64) else (if H / 4 - P / 4 = 1 ∧ ¬ (S - P / 4) - (S - P / 4) / 2 * 2 = 0 then 2 else 1)) else part.toInt64) else part.toInt64
theorem pg_eq' : ∀ s, s < 7 → ∀ p, p < 24 → ∀ h, h < 24 → (if h / 4 < s ∧ p / 4 < s then (decide (pgc (nI s) (nI p) (nI h) 0 = (pgr s p h 0).toInt64) && decide (pgc (nI s) (nI p) (nI h) 1 = (pgr s p h 1).toInt64)) else true) = true := by decide +kernel
theorem pg_eq {s p h : Nat} (hs : s < 7) (hp : p < 24) (hh : h < 24) (h1 : h / 4 < s) (h2 : p / 4 < s) : pgc (nI s) (nI p) (nI h) 0 = (pgr s p h 0).toInt64 ∧ pgc (nI s) (nI p) (nI h) 1 = (pgr s p h 1).toInt64 := by
  have := pg_eq' s hs p hp h hh
  rw [if_pos ⟨h1, h2⟩, Bool.and_eq_true] at this
  exact ⟨of_decide_eq_true this.1, of_decide_eq_true this.2⟩
theorem dv_1 (t : Int32) (ht : t - t / 1 * 1 = 0) (s : Sg) : f_X7_divisor t 1 s = some (1, s) := by
  unfold f_X7_divisor
  rw [show fuel = 1998 + 1 + 1 from rfl, f_X7_divisor_4, if_neg h10, chk_t h10, bv_eq, ht, f_X7_divisor_4, if_pos rfl]
theorem dv_2 (t : Int32) (ht : t - t / 2 * 2 = 0) (s : Sg) : f_X7_divisor t 2 s = some (2, s) := by
  unfold f_X7_divisor
  rw [show fuel = 1998 + 1 + 1 from rfl, f_X7_divisor_4, if_neg (by decide), chk_t (by decide), bv_eq, ht, f_X7_divisor_4, if_pos rfl]
theorem dv_3 (t : Int32) (ht : t - t / 2 * 2 = 1) (s : Sg) : f_X7_divisor t 2 s = some (1, s) := by
  unfold f_X7_divisor
  rw [show fuel = 1997 + 1 + 1 + 1 from rfl, f_X7_divisor_4, if_neg (by decide), chk_t (by decide), bv_eq, ht, f_X7_divisor_4, if_neg h10, chk_t h10, bv_eq, show (2 : Int32) - 2 / 1 * 1 = 0 by decide, f_X7_divisor_4, if_pos rfl]
theorem dv_ok : ∀ n, n < 8 → (nI n - nI n / 1 * 1 = 0) ∧ (nI n - nI n / 2 * 2 = 0 ∨ nI n - nI n / 2 * 2 = 1) := by decide
theorem dv {n : Nat} (hn : n < 8) {m : Int32} (hm : m = 1 ∨ m = 2) (s : Sg) : f_X7_divisor (nI n) m s = some (pgg (nI n) m, s) := by
  obtain ⟨h1, h2⟩ := dv_ok n hn
  unfold pgg
  rcases hm with rfl | rfl
  · rw [dv_1 _ h1, if_neg (fun q => absurd q.1 (by decide))]
  · rcases h2 with h | h
    · rw [dv_2 _ h, if_pos ⟨rfl, h⟩]
    · rw [dv_3 _ h, if_neg (fun q => absurd (h.symm.trans q.2) (by decide))]
theorem pgm12 (s p h : Nat) : pgm s p h = 0 ∨ pgm s p h = 1 ∨ pgm s p h = 2 := by
  unfold pgm
  split
  · split
    · exact Or.inr (Or.inr rfl)
    · exact Or.inr (Or.inl rfl)
  · exact Or.inl rfl
theorem pgg0 (t m : Int32) : ¬ pgg t m = 0 := by
  unfold pgg
  split <;> decide
def tj (j : Nat) : Int32 := if j = 0 then 0 else nI (j + 1)
theorem nI_s {S : Int32} (h : S ∈ lS) : ∃ s, 2 ≤ s ∧ s ≤ 6 ∧ S = nI s := by
  simp only [lS, List.mem_cons, List.not_mem_nil, or_false] at h
  rcases h with rfl | rfl | rfl | rfl | rfl
  · exact ⟨2, by decide, by decide, rfl⟩
  · exact ⟨3, by decide, by decide, rfl⟩
  · exact ⟨4, by decide, by decide, rfl⟩
  · exact ⟨5, by decide, by decide, rfl⟩
  · exact ⟨6, by decide, by decide, rfl⟩
theorem r_peg {t : Sg} {v : Vw} {T p h s : Nat} {part : Int32} (hv' : WFs v) (hr : RS t v) (hs : s ≤ 6) (e0 : v 7 0 = nI s) (hT : T < tn v) (hp : vp v p) (hps : p / 4 < s) (h14 : v 14 T = nI h) (hh : h < 24) (h13 : v 13 h = nI T) : ∀ d j n, j + d = s - p / 4 - 1 → d < n → f_X7_peg_70 n (nI T) part (nI p) (tj j) (pgm (p / 4 + 1 + j) p h) (nI (p + 4 + 4 * j)) t = some ((pgr s p h part).toInt64, t) := by
  have htn := (tn24 hv').1
  have e29 : t (0, 29) 0 = nI s := by rw [hr.1.1]; exact e0
  have e4s : (4 : Int32) * nI s = nI (4 * s) := by rw [show (4 : Int32) = nI 4 from rfl, pk_mul]
  intro d
  induction d with
  | zero =>
    intro j n hj hn
    obtain ⟨n, rfl⟩ : ∃ k, n = k + 1 := ⟨n - 1, by omega⟩
    have ej : p / 4 + 1 + j = s := by omega
    have et : tj j = pgt s p := by
      unfold tj pgt
      rw [show s - p / 4 - 1 = j by omega]
    rw [f_X7_peg_70, e29, e4s, if_pos (nI_le (by omega) (by omega)), ej, et]
    unfold pgr
    by_cases c : pgm s p h = 0
    · rw [if_pos c, if_pos c]
    · rw [if_neg c, if_neg c]
      have hmp : pgm s p h = 1 ∨ pgm s p h = 2 := (pgm12 s p h).elim (fun q => absurd q c) id
      have hc0 : s - p / 4 - 1 ≠ 0 := fun q => c (by
        unfold pgm
        rw [if_neg (by omega)])
      have et2 : pgt s p = nI (s - p / 4 - 1 + 1) := if_neg hc0
      rw [et2, dv (by omega) hmp, bd_some, chk_t (pgg0 _ _)]
      by_cases c2 : part = 0
      · rw [if_pos c2, if_pos c2]
      · rw [if_neg c2, if_neg c2, chk_t (pgg0 _ _)]
  | succ d ih =>
    intro j n hj hn
    obtain ⟨n, rfl⟩ : ∃ k, n = k + 1 := ⟨n - 1, by omega⟩
    have hq : vp v (p + 4 + 4 * j) := by
      refine ⟨by omega, ?_, ?_⟩
      · rw [e0]; exact nI_lt (by omega) (by omega)
      · rw [show (p + 4 + 4 * j) % 4 = p % 4 by omega]; exact hp.2.2
    obtain ⟨T2, hT2, e13, e14⟩ := hv'.2.2.2.1 _ hq
    have hp24 : p < 24 := hp.1
    have hq24 : p + 4 + 4 * j < 24 := hq.1
    have hiff : (v 13 (p + 4 + 4 * j) = nI T) ↔ p + 4 + 4 * j = h := by
      constructor
      · intro q
        have : T2 = T := nI_inj24 (by omega) (by omega) (e13.symm.trans q)
        subst this
        exact nI_inj24 hq24 hh (e14.symm.trans h14)
      · intro q; rw [q]; exact h13
    have nxt := ih (j + 1) n (by omega) (by omega)
    have x31 : (if nI (p + 4 + 4 * j) = nI p + 4 then (2 : Int32) else 1) = if j = 0 then 2 else 1 := by
      rw [show nI p + 4 = nI (p + 4) from by rw [show (4 : Int32) = nI 4 from rfl, nI_add]]
      by_cases c : j = 0
      · rw [if_pos c, if_pos (by rw [c])]
      · rw [if_neg c, if_neg (fun q => c (by have := (nI_eq (by omega) (by omega)).mp q; omega))]
    have et : tj j + (if j = 0 then (2 : Int32) else 1) = tj (j + 1) := by
      unfold tj
      rw [if_neg (Nat.succ_ne_zero j)]
      by_cases c : j = 0
      · subst c; rfl
      · rw [if_neg c, if_neg c, nI_1]
    have em : pgm (p / 4 + 1 + j) p h + (if v 13 (p + 4 + 4 * j) = nI T then (if j = 0 then (2 : Int32) else 1) else 0) = pgm (p / 4 + 1 + (j + 1)) p h := by
      unfold pgm
      by_cases c : p + 4 + 4 * j = h
      · rw [if_pos (hiff.mpr c), if_neg (show ¬ (h % 4 = p % 4 ∧ p / 4 < h / 4 ∧ h / 4 < p / 4 + 1 + j) by omega), if_pos (show h % 4 = p % 4 ∧ p / 4 < h / 4 ∧ h / 4 < p / 4 + 1 + (j + 1) by omega)]
        by_cases c0 : j = 0
        · rw [if_pos c0, if_pos (by omega)]; decide
        · rw [if_neg c0, if_neg (by omega)]; decide
      · rw [if_neg (fun q => c (hiff.mp q))]
        by_cases c1 : h % 4 = p % 4 ∧ p / 4 < h / 4 ∧ h / 4 < p / 4 + 1 + j
        · rw [if_pos c1, if_pos (show h % 4 = p % 4 ∧ p / 4 < h / 4 ∧ h / 4 < p / 4 + 1 + (j + 1) by omega)]
          split <;> decide
        · rw [if_neg c1, if_neg (show ¬ (h % 4 = p % 4 ∧ p / 4 < h / 4 ∧ h / 4 < p / 4 + 1 + (j + 1)) by omega)]
          decide
    rw [f_X7_peg_70, e29, e4s, if_neg (nI_ge (by omega) (by omega)), bv_eq, x31, bv_eq, e_lives hr hv' hq, bd_some, bv_eq, em, et, show nI (p + 4 + 4 * j) + 4 = nI (p + 4 + 4 * (j + 1)) from by rw [show (4 : Int32) = nI 4 from rfl, nI_add, show p + 4 + 4 * j + 4 = p + 4 + 4 * (j + 1) by omega]]
    exact nxt
theorem E_peg_R : E_peg Rel := by
  intro a b c σ τ hR0
  have hR := hR0.thrown
  unfold f_X6_peg f_X7_peg
  rw [bv_eq (upS τ (0, 29) 18 0)]
  generalize upS τ (0, 29) 18 0 = τ1 at hR ⊢
  have hc := CS1 σ
  have hw := hR.1.1
  have hm := hR.1.2
  unfold f_X6_peg_26 f_X7_peg_25
  rw [c_place hc, bd_some, r_place hm.1, bd_some]
  rcases p_cases hw.1 a with e | ⟨p, hp, hp24, e⟩
  · rw [e, if_pos m1lt, if_pos m1lt]; (obtain ⟨σ', τ', e1, e2, h⟩ := refuse1 hR; exact ⟨_, σ', τ', by rw [e1, bd_some], by rw [e2, bd_some], h⟩)
  · rw [e, if_neg (nI_pos (show p < 2 ^ 31 by omega)), if_neg (nI_pos (show p < 2 ^ 31 by omega)), c_ten hc hw.1, bd_some, r_ten hm.1 hw.1, bd_some]
    rcases t_cases hw.1 b with ⟨T, hT, hT24, rfl, e'⟩ | e'
    · rw [e', if_neg h10, if_neg h10, in5 c 1 1 τ1 rfl, bd_some, if01]
      obtain ⟨h, hh, h14, h13⟩ := hw.1.2.2.1 T hT
      obtain ⟨s, hs2, hs6, e0⟩ := nI_s hw.1.1.1
      have hh24 : h < 24 := hh.1
      have hps : p / 4 < s := by have := hp.2.1; rw [e0] at this; exact (nI_ltI (by omega) (by omega)).mp this
      have hhs : h / 4 < s := by have := hh.2.1; rw [e0] at this; exact (nI_ltI (by omega) (by omega)).mp this
      have r1 := fun part => r_peg (part := part) hw.1 hm.1 hs6 e0 hT hp hps h14 hh24 h13 (s - p / 4 - 1) 0 fuel (by omega) (by show _ < 2000; omega)
      have em0 : pgm (p / 4 + 1 + 0) p h = 0 := by
        unfold pgm
        rw [if_neg (by omega)]
      have pe := pg_eq (show s < 7 by omega) hp24 hh24 hhs hps
      have e14 : σ (1, 14) T = nI h := h14
      have e70 : σ (1, 7) 0 = nI s := e0
      have cl : ∀ part, part = 0 ∨ part = 1 → f_X6_peg_58 (nI T) part (nI p) σ = some (pgc (nI s) (nI p) (nI h) part, σ) := fun part hpart => by
        unfold f_X6_peg_58 f_X6_peg_140 f_X6_peg_141 pgc
        rw [bv_eq, e_get_nI (n := 24) _ rfl hT24, bd_some, bv_eq, e14, e70]
        by_cases k1 : nI h - nI h / 4 * 4 = nI p - nI p / 4 * 4
        · rw [if_pos k1, if_pos k1]
          by_cases k2 : 0 < nI h / 4 - nI p / 4
          · rw [if_pos k2, if_pos k2, bv_eq]
            have n01 : ¬ (0 : Int32) = 1 := by decide
            by_cases k3 : nI h / 4 - nI p / 4 = 1
            · by_cases k4 : (nI s - nI p / 4) - (nI s - nI p / 4) / 2 * 2 = 0
              · rcases hpart with rfl | rfl <;> simp only [k3, k4, n01, h10, if_true, if_false, and_true, true_and, and_self, not_true, and_false]
              · rcases hpart with rfl | rfl <;> simp only [k3, k4, n01, h10, if_true, if_false, and_true, true_and, and_self, and_false, not_false_eq_true]
            · rcases hpart with rfl | rfl <;> simp only [k3, n01, h10, if_true, if_false, false_and]
          · rw [if_neg k2, if_neg k2]
        · rw [if_neg k1, if_neg k1]
      have rf : ∀ part, f_X7_peg_70 fuel (nI T) part (nI p) 0 0 (nI p + 4) τ1 = some ((pgr s p h part).toInt64, τ1) := fun part => by
        have := r1 part
        rw [em0] at this
        rw [show nI p + 4 = nI (p + 4 + 4 * 0) from by rw [show (4 : Int32) = nI 4 from rfl, nI_add]]
        exact this
      by_cases b0 : c = 0
      · subst b0
        rw [if_pos rfl, if_pos (by decide), bv_eq, cl 0 (Or.inl rfl), rf 0, pe.1]
        exact ⟨_, σ, τ1, rfl, rfl, hR⟩
      · by_cases b1 : c = 1
        · subst b1
          rw [if_neg h10, if_pos rfl, if_pos (by decide), bv_eq, cl 1 (Or.inr rfl), rf 1, pe.2]
          exact ⟨_, σ, τ1, rfl, rfl, hR⟩
        · rw [if_neg b0, if_neg b1, if_neg (by grind)]; (obtain ⟨σ', τ', e1, e2, h⟩ := refuse_2 hR; exact ⟨_, σ', τ', by rw [e1, bd_some], by rw [e2, bd_some], h⟩)
    · rw [e', if_pos rfl, if_pos rfl]; (obtain ⟨σ', τ', e1, e2, h⟩ := refuse1 hR; exact ⟨_, σ', τ', by rw [e1, bd_some], by rw [e2, bd_some], h⟩)
