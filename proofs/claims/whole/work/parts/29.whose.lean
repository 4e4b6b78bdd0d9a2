/-! ===== whose, deal, pays, worth ===== -/
theorem r_keepHarm (τ : Sg) : ∃ τ', f_X7_keepHarm τ = some ((), τ') ∧ (∀ t, t < 24 → τ' (0, 55) t = τ (0, 45) t) ∧ (∀ c, c ≠ (0, 55) → τ' c = τ c) := by
  obtain ⟨r, s', e, h⟩ := lp (fun n (a : Int32) s => f_X7_keepHarm_2 n a s) (fun k a s => a = nI k ∧ (∀ j, j < k → s (0, 55) j = τ (0, 45) j) ∧ (∀ c, c ≠ (0, 55) → s c = τ c)) (fun _ s => (∀ t, t < 24 → s (0, 55) t = τ (0, 45) t) ∧ (∀ c, c ≠ (0, 55) → s c = τ c)) 24
    (fun k n a s hk hI => by
      obtain ⟨rfl, h1, h2⟩ := hI
      have hb := inb24 hk
      refine Or.inl ⟨nI (k + 1), upS s (0, 55) k (τ (0, 45) k), ?_, rfl, ?_, ?_⟩
      · show f_X7_keepHarm_2 (n + 1) (nI k) s = _
        rw [f_X7_keepHarm_2, if_neg (show ¬ (24 : Int32) ≤ nI k from nI_ge hk (by decide)), chk_t hb, chk_t hb, bv_eq, nI_1, nI_clamp (by omega), h2 _ (by decide)]
      · intro j hj
        by_cases e : j = k
        · subst e; exact upS_at
        · rw [upS_off e]; exact h1 j (by omega)
      · intro c hc; rw [upS_ne hc]; exact h2 c hc)
    (fun n a s hI => by
      obtain ⟨rfl, h1, h2⟩ := hI
      refine ⟨(), s, ?_, h1, h2⟩
      show f_X7_keepHarm_2 (n + 1) (nI 24) s = _
      rw [f_X7_keepHarm_2, if_pos (by decide)])
    24 0 rfl fuel (nI 0) τ (by decide) ⟨rfl, fun j hj => absurd hj (Nat.not_lt_zero _), fun _ _ => rfl⟩
  exact ⟨s', e, h⟩
theorem FM_55 {τ τ' : Sg} (h : ∀ c, c ≠ (0, 55) → τ' c = τ c) : FM τ τ' := ⟨fun k _ => by rw [h _ (by decide)], fun m hm => h _ (cne (by simp only [kM, List.mem_cons, List.not_mem_nil, or_false] at hm; omega))⟩
/-! nobody's harm -/
theorem fold_0 {v : Vw} (hv' : WFs v) {i : Nat} {t : Nat} (ht : tn v ≤ t) : ∀ (L : List (Nat × Int32 × Int32)) (w : Vw), (∀ e ∈ L, vp v e.1) → w 23 t = 0 → (L.foldl (nt v i) w) 23 t = 0 := by
  intro L
  induction L with
  | nil => intro w _ h; exact h
  | cons e L ih =>
    intro w he h
    rw [List.foldl_cons]
    refine ih _ (fun e' h' => he e' (List.mem_cons_of_mem _ h')) ?_
    obtain ⟨s, hs, e13, _⟩ := hv'.2.2.2.1 e.1 (he e List.mem_cons_self)
    have := (tn24 hv').1
    unfold nt
    rw [n1_23, e13, nI_clamp (by omega), pk_un (by omega)]
    exact h
theorem hb_0 {v : Vw} (hv' : WFs v) {a t : Nat} (ht : tn v ≤ t) {n : Nat} {w : Vw} (hw : WB n w) (hh : okh v (w 9)) (h0 : w 23 t = 0) : ∀ i, i ≤ hn v → hbS v a i w 23 t = 0 := by
  intro i
  induction i with
  | zero => intro _; exact h0
  | succ i ih =>
    intro hi
    have h1 := ih (by omega)
    have h2 := hb_ok hv' (a := a) hw hh i (by omega)
    rw [hbS]
    split
    · exact fold_0 hv' ht _ _ (fun e he => (hlS_e hv' (by omega) h2.2 e he).1) h1
    · exact h1
theorem hr_0 {v : Vw} (hv' : WFs v) {t : Nat} (ht : tn v ≤ t) {w : Vw} (hh : okh v (w 9)) : ∀ a, hrS v a (clr w) 23 t = 0 := by
  intro a
  induction a with
  | zero => rfl
  | succ a ih =>
    have := hr_ok hv' (clr_WB w) hh a
    exact hb_0 hv' ht this.1 this.2 ih (hn v) (Nat.le_refl _)
theorem wd_0 {v : Vw} (hv' : WFs v) {t : Nat} (ht : tn v ≤ t) {w : Vw} (hh : okh v (w 9)) : wd v w t = 0 := hr_0 hv' ht hh 8
theorem wd_ok {v : Vw} (hv' : WFs v) {t : Nat} (ht : t < 24) {w : Vw} (hh : okh v (w 9)) : ∃ a, a ≤ 6912 ∧ wd v w t = nI a := (wkS_ok hv' hh).1.1 t ht
theorem c_gain {s : Sg} {t : Nat} (ht : t < 24) : f_X6_gain (nI t) s = some (s (0, 3) t - s (3, 23) t, s) := by
  unfold f_X6_gain
  rw [e_get_nI (n := 24) _ rfl ht, bd_some, c_done ht, bd_some]
theorem sub_le {a b : Nat} (ha : a ≤ 6912) (hb : b ≤ 6912) : (0 ≤ nI a - nI b) ↔ (nI b ≤ nI a) := by
  constructor
  · intro h
    rcases Nat.lt_or_ge a b with q | q
    · exact absurd h (by have := pk_sneg (a := a) (b := b) (by omega) q; grind)
    · exact nI_le q (by omega)
  · intro h
    have q := (nI_leI (by omega) (by omega)).mp h
    rw [pk_sub q]; exact nI_pos' (by omega)
def wb (B D : Nat → Int32) : Nat → Int32
  | 0 => 0
  | n + 1 => wb B D n ||| (if D n ≤ B n then (0 : Int32) else (1 : Int32) <<< (nI n &&& 31))
theorem wb_add {B D : Nat → Int32} {a : Nat} : ∀ d, (∀ t, a ≤ t → t < a + d → D t ≤ B t) → wb B D (a + d) = wb B D a := by
  intro d
  induction d with
  | zero => intro _; rfl
  | succ d ih =>
    intro h
    rw [← Nat.add_assoc, wb, if_pos (h (a + d) (by omega) (by omega)), Int32.or_zero]
    exact ih (fun t h1 h2 => h t h1 (by omega))
theorem c_whose {B D : Nat → Int32} {s : Sg} (hB : ∀ t, t < 24 → s (0, 3) t = B t) (hD : ∀ t, t < 24 → s (3, 23) t = D t) (kB : ∀ t, t < 24 → ∃ a, a ≤ 6912 ∧ B t = nI a) (kD : ∀ t, t < 24 → ∃ a, a ≤ 6912 ∧ D t = nI a) : ∀ d t n, t + d = 24 → d < n → f_X6_whose_83 n (wb B D t) (nI t) s = some (wb B D 24, s) := by
  intro d
  induction d with
  | zero =>
    intro t n ht hn
    obtain ⟨n, rfl⟩ : ∃ k, n = k + 1 := ⟨n - 1, by omega⟩
    have : t = 24 := by omega
    subst this
    rw [f_X6_whose_83, if_pos (by decide)]
  | succ d ih =>
    intro t n ht hn
    obtain ⟨n, rfl⟩ : ∃ k, n = k + 1 := ⟨n - 1, by omega⟩
    have ht24 : t < 24 := by omega
    obtain ⟨x, hx, ex⟩ := kB t ht24
    obtain ⟨y, hy, ey⟩ := kD t ht24
    have nxt := ih (t + 1) n (by omega) (by omega)
    rw [wb] at nxt
    rw [f_X6_whose_83, if_neg (show ¬ (24 : Int32) ≤ nI t from nI_ge ht24 (by decide)), c_gain ht24, bd_some, hB t ht24, hD t ht24]
    unfold f_X6_whose_108
    rw [nI_1]
    by_cases c : D t ≤ B t
    · rw [if_pos c, Int32.or_zero] at nxt
      rw [if_pos (by rw [ex, ey]; rw [ex, ey] at c; exact (sub_le hx hy).mpr c)]
      exact nxt
    · rw [if_neg c] at nxt
      rw [if_neg (by rw [ex, ey]; rw [ex, ey] at c; exact fun h => c ((sub_le hx hy).mp h)), bv_eq]
      exact nxt
theorem r_whose {B D : Nat → Int32} {s : Sg} {v : Vw} (hv' : WFs v) (hr : RS s v) (hB : ∀ t, t < 24 → s (0, 55) t = B t) (hD : ∀ t, t < 24 → s (0, 45) t = D t) : ∀ d t n, t + d = tn v → d < n → f_X7_whose_89 n (wb B D t) (nI t) s = some (wb B D (tn v), s) := by
  have ht := tn24 hv'
  have h01 : s (0, 29) 0 * s (0, 29) 1 = nI (tn v) := by rw [hr.1.1, hr.1.2.1]; exact ht.2.1
  intro d
  induction d with
  | zero =>
    intro t n ht' hn
    obtain ⟨n, rfl⟩ : ∃ k, n = k + 1 := ⟨n - 1, by omega⟩
    have : t = tn v := by omega
    subst this
    rw [f_X7_whose_89, f_X7_tenants, bd_some, h01, if_pos (nI_le (Nat.le_refl _) (by omega))]
  | succ d ih =>
    intro t n ht' hn
    obtain ⟨n, rfl⟩ : ∃ k, n = k + 1 := ⟨n - 1, by omega⟩
    have ht24 : t < 24 := by omega
    have hb := inb24 ht24
    rw [f_X7_whose_89, f_X7_tenants, bd_some, h01, if_neg (nI_ge (by omega) (by omega)), chk_t hb, chk_t hb, bv_eq, nI_clamp (by omega), hD t ht24, hB t ht24, nI_1]
    exact ih (t + 1) n (by omega) (by omega)
theorem E_whose_R : E_whose Rel := by
  intro a b σ τ hR0
  have hR := hR0.thrown
  unfold f_X6_whose f_X7_whose f_X7_whose_25 f_X7_wrongNumber
  rw [bv_eq (upS τ (0, 29) 18 0)]
  generalize upS τ (0, 29) 18 0 = τ1 at hR ⊢
  have hc := CS1 σ
  have hw := hR.1.1
  have hm := hR.1.2
  rw [c_place hc, bd_some, r_place hm.1, bd_some]
  rcases p_cases hw.1 a with e | ⟨p, hp, hp24, e⟩
  · rw [e, if_neg hn1, if_neg hn1, if_neg hn1]; (obtain ⟨σ', τ', e1, e2, h⟩ := refuse1 hR; exact ⟨_, σ', τ', by rw [e1, bd_some], by rw [e2, bd_some], h⟩)
  · have h0 : (0 : Int32) ≤ nI p := nI_pos' (by omega)
    rw [e, if_pos h0, if_pos h0, bd_some]
    rcases wn_cases b (-1) 1 with ⟨⟨h1, h2⟩, e'⟩ | ⟨h1, e'⟩ | ⟨h1, h2, e'⟩
    · have hip := inb24 hp24
      have cl : (nI p).toNatClampNeg = p := nI_clamp (by omega)
      have e32 : τ1 (0, 32) p = hv σ 1 10 p := (hm.1.2.1 p hp24).2.1
      have hb3 := l3_of h1 h2
      have S0 := WFs_10 (i := p) hw.1 (show (0 : Int32) ∈ l3 by decide)
      have Sb := WFs_10 (i := p) hw.1 hb3
      obtain ⟨s1, e1, d1, f1⟩ := c_tryAw (x := 0) hw hp24 (by decide) (FC.refl σ)
      obtain ⟨s2, e2, d2, g2⟩ := e_copyG (i := (3, 23)) (j := (0, 3)) rfl s1
      have hf2 : FC σ s2 := fun c c1 c2 c3 => by rw [g2 c c2, f1 c c1]
      obtain ⟨s3, e3, d3, f3⟩ := c_tryAw (x := b) hw hp24 hb3 hf2
      have X := fun (m j : Nat) => m = 32 ∧ j = p
      obtain ⟨t1, q1, k1, x1, r1, _⟩ := r_wkX hm ((FXo.refl (fun m j => m = 32 ∧ j = p) τ1).up (m := 32) (i := p) ⟨rfl, rfl⟩ (by decide) 0) (hm.1.up (m' := 32) (m := 10) (by decide) p 0) (fun j h => absurd h.1 (by decide)) S0 hw.2.1
      obtain ⟨t2, q2, k2, y2⟩ := r_keepHarm t1
      have x2 := x1.fm (FM_55 y2)
      have r2 := ((FM_55 y2).RS r1).up (m' := 32) (m := 10) (by decide) p b
      rw [uv_uv] at r2
      obtain ⟨t3, q3, k3, x3, r3, f3'⟩ := r_wkX hm (x2.up (m := 32) (i := p) ⟨rfl, rfl⟩ (by decide) b) r2 (fun j h => absurd h.1 (by decide)) Sb hw.2.1
      have fin : FM τ1 (upS t3 (0, 32) p (hv σ 1 10 p)) := (x3.up ⟨rfl, rfl⟩ (by decide) _).back (by
        rintro m' _ j ⟨rfl, rfl⟩
        rw [upS_at]; exact e32.symm)
      have hB : ∀ t, t < 24 → (upS t3 (0, 32) p (hv σ 1 10 p)) (0, 55) t = wd (uv (hv σ 1) 10 p 0) (hv σ 1) t := fun t ht => by
        rw [upS_ne (by decide), f3'.2 _ (by decide) (by decide) (by decide) (by decide) (by decide), upS_ne (by decide), k2 t ht]; exact k1 t ht
      have hD : ∀ t, t < 24 → (upS t3 (0, 32) p (hv σ 1 10 p)) (0, 45) t = wd (uv (hv σ 1) 10 p b) (hv σ 1) t := fun t ht => by
        rw [upS_ne (by decide)]; exact k3 t ht
      have wc := c_whose (s := s3) (B := wd (uv (hv σ 1) 10 p 0) (hv σ 1)) (D := wd (uv (hv σ 1) 10 p b) (hv σ 1)) (fun t ht => by rw [f3 _ (by decide), d2 t ht]; exact d1 t ht) d3 (fun t ht => wd_ok S0 ht hw.2.1) (fun t ht => wd_ok Sb ht hw.2.1) 24 0 fuel rfl (by decide)
      have wr' := r_whose (s := upS t3 (0, 32) p (hv σ 1 10 p)) hw.1 (fin.RS hm.1) hB hD (tn (hv σ 1)) 0 fuel (by omega) (by have := (tn24 hw.1).1; show _ < 2000; omega)
      have heq : wb (wd (uv (hv σ 1) 10 p 0) (hv σ 1)) (wd (uv (hv σ 1) 10 p b) (hv σ 1)) 24 = wb (wd (uv (hv σ 1) 10 p 0) (hv σ 1)) (wd (uv (hv σ 1) 10 p b) (hv σ 1)) (tn (hv σ 1)) := by
        have ht := (tn24 hw.1).1
        have := wb_add (B := wd (uv (hv σ 1) 10 p 0) (hv σ 1)) (D := wd (uv (hv σ 1) 10 p b) (hv σ 1)) (a := tn (hv σ 1)) (24 - tn (hv σ 1)) (fun t h1 _ => by
          rw [wd_0 S0 h1 hw.2.1, wd_0 Sb h1 hw.2.1]; decide)
        rw [show tn (hv σ 1) + (24 - tn (hv σ 1)) = 24 by omega] at this
        exact this
      rw [e', if_pos h1, if_pos h2, if_pos (by decide), e1, bd_some, e2, bd_some, e3, bd_some]
      simp only [chk_t hip, bv_eq]
      rw [cl, q1, bd_some, q2, bd_some, q3, bd_some, e32]
      refine ⟨_, s3, _, wc, ?_, hR.fr (hf2.f3 f3) fin⟩
      rw [heq]; exact wr'
    · rw [e', if_neg h1, if_neg (by decide)]; (obtain ⟨σ', τ', e1, e2, h⟩ := refuse_4 hR; exact ⟨_, σ', τ', by rw [e1, bd_some], by rw [e2, bd_some], h⟩)
    · rw [e', if_pos h1, if_neg h2, if_neg (by decide)]; (obtain ⟨σ', τ', e1, e2, h⟩ := refuse_6 hR; exact ⟨_, σ', τ', by rw [e1, bd_some], by rw [e2, bd_some], h⟩)
/-! a habit at another hour, against the week as it is -/
theorem c_tryHr {σ s : Sg} {i : Nat} {q : Nat} (hw : WF (hv σ 1)) (hi8 : i < 8) (hq : q < 8) (hf : FC σ s) : ∃ s1, f_X6_tryHour (nI i) (nI q) s = some (wr (uv (hv σ 1) 19 i (nI q)) (hv σ 1), s1) ∧ (∀ t, t < 24 → s1 (3, 23) t = wd (uv (hv σ 1) 19 i (nI q)) (hv σ 1) t) ∧ FC3 s s1 := by
  obtain ⟨s0, s1, e0, e1, d1, f1⟩ := c_set_wk (m := 19) (k := i) (x := nI q) hw hf (by decide) (WFs_19 hw.1 (l8_of hq)) hw.2.1
  refine ⟨s1, ?_, d1, f1⟩
  unfold f_X6_tryHour
  rw [e0, bd_some, e_set_nI (n := 8) _ rfl hi8, bd_some, e1, bd_some]
theorem r_both {τ : Sg} {v : Vw} {i q : Nat} (hw : WF v) (hm : shM τ v) (hi8 : i < 8) (hq : q < 8) : ∃ τ', f_X7_weekBoth (nI i) (nI q) τ = some ((), τ') ∧ FM τ τ' ∧ (∀ t, t < 24 → τ' (0, 55) t = wd v v t) ∧ (∀ t, t < 24 → τ' (0, 45) t = wd (uv v 19 i (nI q)) v t) := by
  have hii : inb (nI i) 8 := vp_in_nI hi8 (by decide)
  have cl : (nI i).toNatClampNeg = i := nI_clamp (by omega)
  have e42 : τ (0, 42) i = v 19 i := (hm.1.2.2.2 i hi8).2.2.2
  obtain ⟨t1, q1, k1, x1, r1, _⟩ := r_wkX hm (FXo.refl (fun m j => m = 42 ∧ j = i) τ) hm.1 (fun j h => absurd h.1 (by decide)) hw.1 hw.2.1
  obtain ⟨t2, q2, k2, y2⟩ := r_keepHarm t1
  have x2 := x1.fm (FM_55 y2)
  have r2 := ((FM_55 y2).RS r1).up (m' := 42) (m := 19) (by decide) i (nI q)
  obtain ⟨t3, q3, k3, x3, r3, f3'⟩ := r_wkX hm (x2.up (m := 42) (i := i) ⟨rfl, rfl⟩ (by decide) (nI q)) r2 (fun j h => absurd h.1 (by decide)) (WFs_19 hw.1 (l8_of hq)) hw.2.1
  refine ⟨upS t3 (0, 42) i (v 19 i), ?_, (x3.up ⟨rfl, rfl⟩ (by decide) _).back ?_, ?_, ?_⟩
  · unfold f_X7_weekBoth
    simp only [chk_t hii, bv_eq]
    rw [cl, q1, bd_some, q2, bd_some, q3, bd_some, e42]
  · rintro m' _ j ⟨rfl, rfl⟩
    rw [upS_at]; exact e42.symm
  · intro t ht
    rw [upS_ne (by decide), f3'.2 _ (by decide) (by decide) (by decide) (by decide) (by decide), upS_ne (by decide), k2 t ht]; exact k1 t ht
  · intro t ht
    rw [upS_ne (by decide)]; exact k3 t ht
def dsu (B D : Nat → Int32) (u : Nat) : Nat → Int32
  | 0 => 0
  | n + 1 => dsu B D u n + (if n = u then 0 else B n - D n)
theorem dsu_eq {B D : Nat → Int32} {u : Nat} : ∀ n, dsu B D u n = if u < n then (sm B n - sm D n) - (B u - D u) else sm B n - sm D n := by
  intro n
  induction n with
  | zero => rw [if_neg (Nat.not_lt_zero _)]; show (0 : Int32) = 0 - 0; decide
  | succ n ih =>
    rw [dsu, ih, sm, sm]
    by_cases c : n = u
    · subst c
      rw [if_pos rfl, if_neg (Nat.lt_irrefl _), if_pos (Nat.lt_succ_self _)]
      generalize sm B n = x
      generalize sm D n = y
      grind
    · rw [if_neg c]
      by_cases c2 : u < n
      · rw [if_pos c2, if_pos (by omega)]
        generalize sm B n = x
        generalize sm D n = y
        grind
      · rw [if_neg c2, if_neg (by omega)]
        generalize sm B n = x
        generalize sm D n = y
        grind
theorem jab_ok : ∀ q ∈ l8, ∀ h ∈ l8, jabs (q - h) = if q ≤ h then h - q else q - h := by decide +kernel
theorem r_deal {B D : Nat → Int32} {s : Sg} {v : Vw} {i u : Nat} {q : Int32} (hv' : WFs v) (hr : RS s v) (hi8 : i < 8) (h16 : v 16 i = nI u) (hu : u < 24) (hB : ∀ t, t < 24 → s (0, 55) t = B t) (hD : ∀ t, t < 24 → s (0, 45) t = D t) : ∀ d t n, t + d = tn v → d < n → f_X7_deal_54 n (nI i) q (dsu B D u t) (nI t) s = some (if q ≤ v 19 i then dsu B D u (tn v) - (v 19 i - q) else dsu B D u (tn v) - (q - v 19 i), s) := by
  have ht := tn24 hv'
  have h01 : s (0, 29) 0 * s (0, 29) 1 = nI (tn v) := by rw [hr.1.1, hr.1.2.1]; exact ht.2.1
  have hii : inb (nI i) 8 := vp_in_nI hi8 (by decide)
  have c42 : s (0, 42) (nI i).toNatClampNeg = v 19 i := by rw [nI_clamp (by omega)]; exact (hr.2.2.2 i hi8).2.2.2
  have c39 : s (0, 39) (nI i).toNatClampNeg = nI u := by rw [nI_clamp (by omega), (hr.2.2.2 i hi8).1]; exact h16
  intro d
  induction d with
  | zero =>
    intro t n ht' hn
    obtain ⟨n, rfl⟩ : ∃ k, n = k + 1 := ⟨n - 1, by omega⟩
    have : t = tn v := by omega
    subst this
    rw [f_X7_deal_54, f_X7_tenants, bd_some, h01, if_pos (nI_le (Nat.le_refl _) (by omega)), chk_t hii, c42, chk_t hii, chk_t hii]
    by_cases c : q ≤ v 19 i
    · rw [if_pos c, if_pos c]
    · rw [if_neg c, if_neg c]
  | succ d ih =>
    intro t n ht' hn
    obtain ⟨n, rfl⟩ : ∃ k, n = k + 1 := ⟨n - 1, by omega⟩
    have ht24 : t < 24 := by omega
    have hb := inb24 ht24
    have nxt := ih (t + 1) n (by omega) (by omega)
    rw [dsu] at nxt
    rw [f_X7_deal_54, f_X7_tenants, bd_some, h01, if_neg (nI_ge (by omega) (by omega)), chk_t hii, c39]
    unfold f_X7_deal_94
    by_cases c : t = u
    · subst c
      rw [if_pos rfl] at nxt
      rw [if_pos rfl, bv_eq, nI_1]
      exact nxt
    · rw [if_neg c] at nxt
      rw [if_neg (fun h => c (nI_inj24 ht24 hu h)), chk_t hb, chk_t hb, bv_eq, nI_clamp (by omega), hB t ht24, hD t ht24, nI_1]
      exact nxt
theorem E_deal_R : E_deal Rel := by
  intro a b σ τ hR0
  have hR := hR0.thrown
  unfold f_X6_deal f_X7_deal f_X7_deal_20
  rw [bv_eq (upS τ (0, 29) 18 0)]
  generalize upS τ (0, 29) 18 0 = τ1 at hR ⊢
  have hc := CS1 σ
  have hw := hR.1.1
  have hm := hR.1.2
  rw [c_hab hc hw.1, bd_some, r_hab hm.1 hw.1, bd_some]
  rcases h_cases hw.1 a with ⟨i, hi, hi8, rfl, e⟩ | e
  · rw [e, if_neg h10, if_neg h10, c_hour, bd_some, r_time, bd_some]
    rcases q_cases b with ⟨q, hq, rfl, e'⟩ | e'
    · obtain ⟨u, hu, hu24, e16, _, _⟩ := who_ok hw.1 hi
      have e16' : σ (1, 16) i = nI u := e16
      obtain ⟨s1, g1, g2, g3, g4⟩ := c_asis hw (FC.refl σ)
      obtain ⟨s2, g5, g6, g7⟩ := c_tryHr hw hi8 hq g4
      have hf2 := g4.f3 g7
      have e19 : s2 (1, 19) i = hv σ 1 19 i := by rw [hf2 _ (by decide) (by decide) (fun _ => by decide)]; rfl
      obtain ⟨t', k1, k2, k3, k4⟩ := r_both hw hm hi8 hq
      have rd := r_deal (q := nI q) hw.1 (k2.RS hm.1) hi8 e16 hu24 k3 k4 (tn (hv σ 1)) 0 fuel (by omega) (by have := (tn24 hw.1).1; show _ < 2000; omega)
      have hj := jab_ok (nI q) (l8_of hq) (hv σ 1 19 i) (hw.1.2.2.2.2.2 i hi).2.2.2
      rw [e', if_neg h10, if_neg h10, e_get_nI (n := 8) _ rfl hi8, bd_some, e16', g1, bd_some, e_get_nI (n := 24) _ rfl hu24, bd_some, bv_eq, g5, bd_some, c_done hu24, bd_some, bv_eq, e_get_nI (n := 8) _ rfl hi8, bd_some, g2 u hu24, g6 u hu24, e19, k1, bd_some]
      refine ⟨_, s2, t', rfl, ?_, hR.fr hf2 k2⟩
      refine rd.trans ?_
      have hrd : tn (uv (hv σ 1) 19 i (nI q)) = tn (hv σ 1) := rfl
      have hd := dsu_eq (B := wd (hv σ 1) (hv σ 1)) (D := wd (uv (hv σ 1) 19 i (nI q)) (hv σ 1)) (u := u) (tn (hv σ 1))
      rw [if_pos hu] at hd
      rw [hd]
      have hw1 : wr (hv σ 1) (hv σ 1) = sm (wd (hv σ 1) (hv σ 1)) (tn (hv σ 1)) := rfl
      have hw2 : wr (uv (hv σ 1) 19 i (nI q)) (hv σ 1) = sm (wd (uv (hv σ 1) 19 i (nI q)) (hv σ 1)) (tn (hv σ 1)) := rfl
      rw [hw1, hw2, hj]
      generalize sm (wd (hv σ 1) (hv σ 1)) (tn (hv σ 1)) = x1
      generalize sm (wd (uv (hv σ 1) 19 i (nI q)) (hv σ 1)) (tn (hv σ 1)) = x2
      generalize wd (hv σ 1) (hv σ 1) u = x3
      generalize wd (uv (hv σ 1) 19 i (nI q)) (hv σ 1) u = x4
      generalize hv σ 1 19 i = x5
      by_cases c : nI q ≤ x5
      · rw [if_pos c, if_pos c]; congr 2; grind
      · rw [if_neg c, if_neg c]; congr 2; grind
    · rw [e', if_pos rfl, if_pos rfl, r_hab hm.1 hw.1, bd_some, e, if_neg h10]; (obtain ⟨σ', τ', e1, e2, h⟩ := refuse_2 hR; exact ⟨_, σ', τ', by rw [e1, bd_some], by rw [e2, bd_some], h⟩)
  · rw [e, if_pos rfl, if_pos rfl, r_hab hm.1 hw.1, bd_some, e, if_pos rfl]; (obtain ⟨σ', τ', e1, e2, h⟩ := refuse1 hR; exact ⟨_, σ', τ', by rw [e1, bd_some], by rw [e2, bd_some], h⟩)
theorem E_pays_R : E_pays Rel := by
  intro a b c σ τ hR0
  have hR := hR0.thrown
  unfold f_X6_pays f_X6_pays_30 f_X6_pays_37 f_X7_pays f_X7_pays_36
  rw [bv_eq (upS τ (0, 29) 18 0)]
  generalize upS τ (0, 29) 18 0 = τ1 at hR ⊢
  have hc := CS1 σ
  have hw := hR.1.1
  have hm := hR.1.2
  rw [c_hab hc hw.1, bd_some, r_hab hm.1 hw.1, bd_some]
  rcases h_cases hw.1 a with ⟨i, hi, hi8, rfl, e⟩ | e
  · rw [e, if_neg h10, if_neg h10, c_hour, bd_some, r_time, bd_some]
    rcases q_cases b with ⟨q, hq, rfl, e'⟩ | e'
    · rw [e', if_neg h10, if_neg h10, in5 c 1 1 τ1 rfl, bd_some, if01]
      have main : ∃ r s' t', (bd (f_X6_tryAsIs σ) (fun x16 t17 => bd (f_X6_tryHour (nI i) (nI q) t17) (fun x19 t20 => f_X6_pays_59 fuel c (-9) 0 0 t20))) = some (r, s') ∧ (bd (f_X7_weekBoth (nI i) (nI q) τ1) (fun _ t21 => f_X7_pays_59 fuel c (-9) 0 0 t21)) = some (r, t') ∧ Rel s' t' := by
        obtain ⟨s1, g1, g2, g3, g4⟩ := c_asis hw (FC.refl σ)
        obtain ⟨s2, g5, g6, g7⟩ := c_tryHr hw hi8 hq g4
        have hf2 := g4.f3 g7
        obtain ⟨t', k1, k2, k3, k4⟩ := r_both hw hm hi8 hq
        have hS := WFs_19 (i := i) hw.1 (l8_of hq)
        have hB : ∀ t, t < 24 → s2 (0, 3) t = wd (hv σ 1) (hv σ 1) t := fun t ht => by rw [g7 _ (by decide)]; exact g2 t ht
        have htn := tn24 hw.1
        have h01 : t' (0, 29) 0 * t' (0, 29) 1 = nI (tn (hv σ 1)) := by rw [(k2.RS hm.1).1.1, (k2.RS hm.1).1.2.1]; exact htn.2.1
        -- behind the tenants nobody gains
        have tail : ∀ d t n best most, t + d = 24 → tn (hv σ 1) ≤ t → d < n → 0 ≤ most → f_X6_pays_59 n c best most (nI t) s2 = some (if c = 0 then best else most, s2) := by
          intro d
          induction d with
          | zero =>
            intro t n best most ht htt hn h0
            obtain ⟨n, rfl⟩ : ∃ k, n = k + 1 := ⟨n - 1, by omega⟩
            have : t = 24 := by omega
            subst this
            rw [f_X6_pays_59, if_pos (by decide)]
          | succ d ih =>
            intro t n best most ht htt hn h0
            obtain ⟨n, rfl⟩ : ∃ k, n = k + 1 := ⟨n - 1, by omega⟩
            have ht24 : t < 24 := by omega
            rw [f_X6_pays_59, if_neg (show ¬ (24 : Int32) ≤ nI t from nI_ge ht24 (by decide)), c_gain ht24, bd_some, hB t ht24, g6 t ht24, wd_0 hw.1 htt hw.2.1, wd_0 hS htt hw.2.1, if_pos (show (0 : Int32) - 0 ≤ most from h0)]
            unfold f_X6_pays_89
            rw [nI_1]
            exact ih (t + 1) n best most (by omega) (by omega) (by omega) h0
        have key : ∀ d t n m best most, t + d = tn (hv σ 1) → 24 - t < n → d < m → 0 ≤ most → ∃ r, f_X6_pays_59 n c best most (nI t) s2 = some (r, s2) ∧ f_X7_pays_59 m c best most (nI t) t' = some (r, t') := by
          intro d
          induction d with
          | zero =>
            intro t n m best most ht hn hm' h0
            obtain ⟨m, rfl⟩ : ∃ k, m = k + 1 := ⟨m - 1, by omega⟩
            refine ⟨if c = 0 then best else most, tail (24 - t) t n best most (by omega) (by omega) hn h0, ?_⟩
            rw [f_X7_pays_59, f_X7_tenants, bd_some, h01, if_pos (nI_le (by omega) (by omega))]
          | succ d ih =>
            intro t n m best most ht hn hm' h0
            obtain ⟨n, rfl⟩ : ∃ k, n = k + 1 := ⟨n - 1, by omega⟩
            obtain ⟨m, rfl⟩ : ∃ k, m = k + 1 := ⟨m - 1, by omega⟩
            have ht24 : t < 24 := by omega
            have hb := inb24 ht24
            rw [f_X6_pays_59, if_neg (show ¬ (24 : Int32) ≤ nI t from nI_ge ht24 (by decide)), c_gain ht24, bd_some, c_gain ht24, bd_some, hB t ht24, g6 t ht24, f_X7_pays_59, f_X7_tenants, bd_some, h01, if_neg (nI_ge (by omega) (by omega)), chk_t hb, chk_t hb, bv_eq, bv_eq, bv_eq, nI_clamp (by omega), k3 t ht24, k4 t ht24]
            unfold f_X6_pays_89
            rw [nI_1]
            by_cases cc : wd (hv σ 1) (hv σ 1) t - wd (uv (hv σ 1) 19 i (nI q)) (hv σ 1) t ≤ most
            · rw [if_pos cc, if_pos cc, if_pos cc]
              exact ih (t + 1) n m best most (by omega) (by omega) (by omega) h0
            · rw [if_neg cc, if_neg cc, if_neg cc]
              exact ih (t + 1) n m _ _ (by omega) (by omega) (by omega) (by
                generalize wd (hv σ 1) (hv σ 1) t - wd (uv (hv σ 1) 19 i (nI q)) (hv σ 1) t = x at cc ⊢
                grind)
        obtain ⟨r, w1, w2⟩ := key (tn (hv σ 1)) 0 fuel fuel (-9) 0 (by omega) (by decide) (by show _ < 2000; omega) (by decide)
        refine ⟨r, s2, t', ?_, ?_, hR.fr hf2 k2⟩
        · rw [g1, bd_some, g5, bd_some]; exact w1
        · rw [k1, bd_some]; exact w2
      obtain ⟨r, s', t', w1, w2, w3⟩ := main
      by_cases b0 : c = 0
      · rw [if_pos b0, if_pos (by rw [b0]; decide)]; exact ⟨r, s', t', w1, w2, w3⟩
      · by_cases b1 : c = 1
        · rw [if_neg b0, if_pos b1, if_pos (by rw [b1]; decide)]; exact ⟨r, s', t', w1, w2, w3⟩
        · rw [if_neg b0, if_neg b1, if_neg (by grind)]; (obtain ⟨σ', τ', e1, e2, h⟩ := refuse_2 hR; exact ⟨_, σ', τ', by rw [e1, bd_some], by rw [e2, bd_some], h⟩)
    · rw [e', if_pos rfl, if_pos rfl]; (obtain ⟨σ', τ', e1, e2, h⟩ := refuse_2 hR; exact ⟨_, σ', τ', by rw [e1, bd_some], by rw [e2, bd_some], h⟩)
  · rw [e, if_pos rfl, if_pos rfl]; (obtain ⟨σ', τ', e1, e2, h⟩ := refuse1 hR; exact ⟨_, σ', τ', by rw [e1, bd_some], by rw [e2, bd_some], h⟩)
theorem jmax0 (x : Int32) : jmax 0 x = if 0 ≤ x then x else 0 := by
  unfold jmax
  by_cases h : 0 < x
  · rw [if_pos h, if_pos (by grind)]
  · rw [if_neg h]
    by_cases h2 : 0 ≤ x
    · rw [if_pos h2]; grind
    · rw [if_neg h2]
theorem E_worth_R : E_worth Rel := by
  intro a σ τ hR0
  have hR := hR0.thrown
  unfold f_X6_worth f_X7_worth
  rw [bv_eq (upS τ (0, 29) 18 0)]
  generalize upS τ (0, 29) 18 0 = τ1 at hR ⊢
  have hc := CS1 σ
  have hw := hR.1.1
  have hm := hR.1.2
  rw [c_place hc, bd_some, r_place hm.1, bd_some]
  rcases p_cases hw.1 a with e | ⟨p, hp, hp24, e⟩
  · rw [e, if_neg hn1, if_neg hn1]; (obtain ⟨σ', τ', e1, e2, h⟩ := refuse1 hR; exact ⟨_, σ', τ', by rw [e1, bd_some], by rw [e2, bd_some], h⟩)
  · have h0 : (0 : Int32) ≤ nI p := nI_pos' (by omega)
    obtain ⟨T, hT, h13, h14⟩ := hw.1.2.2.2.1 p hp
    have hT24 : T < 24 := by have := (tn24 hw.1).1; omega
    obtain ⟨s1, g1, g2, g3, g4⟩ := c_asis hw (FC.refl σ)
    have e13 : s1 (1, 13) p = nI T := by rw [g4 _ (by decide) (by decide) (fun _ => by decide)]; exact h13
    obtain ⟨t1, q1, k1, rf⟩ := r_wk (w := hv σ 1) hw.1 hm.1 (fun p hp => (hm.2.2.1 p hp).1) hw.2.1
    rw [e, if_pos h0, if_pos h0, g1, bd_some, bv_eq, e_get_nI (n := 24) _ rfl hp24, bd_some, e13, c_done hT24, bd_some, g3 T hT24, e_lives hm.1 hw.1 hp, bd_some, h13, f_X7_oneWeekOf, q1, bd_some, chk_t (inb24 hT24), bd_some, bv_eq, nI_clamp (by omega), k1 T hT24, jmax0]
    exact ⟨_, s1, t1, rfl, rfl, hR.fr g4 rf.FM⟩
