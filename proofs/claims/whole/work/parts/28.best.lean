/-! ===== hours, hang, big, leads ===== -/
def BB (q : Nat) (b b' : Int32) : Prop := (q = 0 ∧ b = -9 ∧ b' = -1) ∨ (b = b' ∧ ¬ b < 0)
theorem BB_ne {b : Int32} (h : ¬ b < 0) : ¬ b = -9 := fun e => h (by rw [e]; decide)
theorem c_done {s : Sg} {t : Nat} (ht : t < 24) : f_X6_doneTo (nI t) s = some (s (3, 23) t, s) := by
  unfold f_X6_doneTo
  rw [e_get_nI (n := 24) _ rfl ht, bd_some]
theorem E_hang_R : E_hang Rel := by
  intro a σ τ hR0
  have hR := hR0.thrown
  unfold f_X6_hang f_X7_hang
  rw [bv_eq (upS τ (0, 29) 18 0)]
  generalize upS τ (0, 29) 18 0 = τ1 at hR ⊢
  have hc := CS1 σ
  have hw := hR.1.1
  have hm := hR.1.2
  rw [c_place hc, bd_some, r_place hm.1, bd_some]
  rcases p_cases hw.1 a with e | ⟨p, hp, hp24, e⟩
  · rw [e, if_neg hn1, if_neg hn1]; (obtain ⟨σ', τ', e1, e2, h⟩ := refuse1 hR; exact ⟨_, σ', τ', by rw [e1, bd_some], by rw [e2, bd_some], h⟩)
  · have h0 : (0 : Int32) ≤ nI p := nI_pos' (by omega)
    have hip := inb24 hp24
    have cl : (nI p).toNatClampNeg = p := nI_clamp (by omega)
    obtain ⟨T, hT, h13, h14⟩ := hw.1.2.2.2.1 p hp
    have hT24 : T < 24 := by have := (tn24 hw.1).1; omega
    have hS := fun x => WFs_12 hw.1 p x
    have e13 : σ (1, 13) p = nI T := h13
    have e34 : τ1 (0, 34) p = hv σ 1 12 p := (hm.1.2.1 p hp24).2.2.2
    rw [e, if_pos h0, if_pos h0, e_get_nI (n := 24) _ rfl hp24, bd_some, chk_t hip, bv_eq, cl, e_lives hm.1 hw.1 hp, bd_some, e13, h13, e34]
    have key : ∀ d q n m b b' few s t, q + d = 8 → d < n → d < m → FC σ s → FXo (fun m j => m = 34 ∧ j = p) τ1 t → (∃ y, RS t (uv (hv σ 1) 12 p y)) → BB q b b' → ∃ r s' t', f_X6_hang_47 n (nI p) (nI T) b few (nI q) s = some (r, s') ∧ f_X7_hang_44 m (nI p) (hv σ 1 12 p) (nI T) b' few (nI q) t = some (r, t') ∧ FC σ s' ∧ FM τ1 t' := by
      intro d
      induction d with
      | zero =>
        intro q n m b b' few s t hq hn' hm' hf hx _ hb
        obtain ⟨n, rfl⟩ : ∃ k, n = k + 1 := ⟨n - 1, by omega⟩
        obtain ⟨m, rfl⟩ : ∃ k, m = k + 1 := ⟨m - 1, by omega⟩
        have : q = 8 := by omega
        subst this
        obtain ⟨rfl, _⟩ : b = b' ∧ ¬ b < 0 := hb.elim (fun h => absurd h.1 (by decide)) id
        refine ⟨b, s, upS t (0, 34) p (hv σ 1 12 p), ?_, ?_, hf, (hx.up ⟨rfl, rfl⟩ (by decide) _).back ?_⟩
        · rw [f_X6_hang_47, if_pos (by decide)]
        · rw [f_X7_hang_44, if_pos (by decide), chk_t hip, bv_eq, cl]
        · rintro m' _ j ⟨rfl, rfl⟩
          rw [upS_at]; exact e34.symm
      | succ d ih =>
        intro q n m b b' few s t hq hn' hm' hf hx ⟨y, hy⟩ hb
        obtain ⟨n, rfl⟩ : ∃ k, n = k + 1 := ⟨n - 1, by omega⟩
        obtain ⟨m, rfl⟩ : ∃ k, m = k + 1 := ⟨m - 1, by omega⟩
        have hq8 : q < 8 := by omega
        obtain ⟨s0, s1, e0, e1, d1, f1⟩ := c_set_wk (m := 12) (k := p) (x := (1 : Int32) <<< (nI q &&& 31)) hw hf (by decide) (hS _) hw.2.1
        have hf1 := hf.f3 f1
        have hy' := hy.up (m' := 34) (m := 12) (by decide) p ((1 : Int32) <<< (nI q &&& 31))
        rw [uv_uv] at hy'
        obtain ⟨t1, e2, d2, x1, r1, _⟩ := r_wkX hm (hx.up (m := 34) (i := p) ⟨rfl, rfl⟩ (by decide) ((1 : Int32) <<< (nI q &&& 31))) hy' (fun j h => absurd h.1 (by decide)) (hS _) hw.2.1
        rw [f_X6_hang_47, if_neg (show ¬ (8 : Int32) ≤ nI q from nI_ge hq8 (by decide)), e0, bd_some, e_set_nI (n := 24) _ rfl hp24, bd_some, e1, bd_some, f_X7_hang_44, if_neg (show ¬ (8 : Int32) ≤ nI q from nI_ge hq8 (by decide)), chk_t hip, bv_eq, cl, f_X7_oneWeekOf, e2, bd_some, chk_t (inb24 hT24), bd_some, bv_eq, bv_eq, bv_eq]
        unfold f_X6_hang_101 f_X6_hang_112
        simp only [c_done hT24, bd_some, d1 T hT24, show (nI T).toNatClampNeg = T from nI_clamp (by omega), d2 T hT24, nI_1]
        rcases hb with ⟨_, rfl, rfl⟩ | ⟨rfl, hb⟩
        · rw [if_pos rfl, if_pos m1lt, if_neg h10, if_neg h10]
          exact ih (q + 1) n m _ _ _ s1 t1 (by omega) (by omega) (by omega) hf1 x1 ⟨_, r1⟩ (Or.inr ⟨rfl, nI_pos (n := q) (by omega)⟩)
        · rw [if_neg (BB_ne hb), if_neg hb]
          by_cases c : few ≤ wd (uv (hv σ 1) 12 p ((1 : Int32) <<< (nI q &&& 31))) (hv σ 1) T
          · rw [if_pos c, if_pos c, if_pos rfl, if_pos rfl]
            exact ih (q + 1) n m _ _ _ s1 t1 (by omega) (by omega) (by omega) hf1 x1 ⟨_, r1⟩ (Or.inr ⟨rfl, hb⟩)
          · rw [if_neg c, if_neg c, if_neg h10, if_neg h10]
            exact ih (q + 1) n m _ _ _ s1 t1 (by omega) (by omega) (by omega) hf1 x1 ⟨_, r1⟩ (Or.inr ⟨rfl, nI_pos (n := q) (by omega)⟩)
    have hy0 : RS τ1 (uv (hv σ 1) 12 p (hv σ 1 12 p)) := by rw [uv_id]; exact hm.1
    obtain ⟨r, s', t', g1, g2, g3, g4⟩ := key 8 0 fuel fuel (-9) (-1) 0 σ τ1 rfl (by decide) (by decide) (FC.refl σ) (FXo.refl _ _) ⟨_, hy0⟩ (Or.inl ⟨rfl, rfl, rfl⟩)
    exact ⟨r, s', t', g1, g2, hR.fr g3 g4⟩
theorem E_big_R : E_big Rel := by
  intro a σ τ hR0
  have hR := hR0.thrown
  unfold f_X6_big f_X7_big
  rw [bv_eq (upS τ (0, 29) 18 0)]
  generalize upS τ (0, 29) 18 0 = τ1 at hR ⊢
  have hc := CS1 σ
  have hw := hR.1.1
  have hm := hR.1.2
  rw [c_place hc, bd_some, r_place hm.1, bd_some]
  rcases p_cases hw.1 a with e | ⟨p, hp, hp24, e⟩
  · rw [e, if_neg hn1, if_neg hn1]; (obtain ⟨σ', τ', e1, e2, h⟩ := refuse1 hR; exact ⟨_, σ', τ', by rw [e1, bd_some], by rw [e2, bd_some], h⟩)
  · have h0 : (0 : Int32) ≤ nI p := nI_pos' (by omega)
    have hip := inb24 hp24
    have cl : (nI p).toNatClampNeg = p := nI_clamp (by omega)
    have hmem : ∀ q, q < 10 → nI q ∈ l10 := by decide
    have hS := fun q (hq : q < 10) => WFs_8 (i := p) hw.1 (hmem q hq)
    have hh : ∀ q, q < 10 → okh (uv (hv σ 1) 8 p (nI q)) (uv (hv σ 1) 9 p 0 9) := fun q hq r hr => by
      show upd (hv σ 1 9) p 0 r ∈ l10 ∧ upd (hv σ 1 9) p 0 r ≤ upd (hv σ 1 8) p (nI q) r
      by_cases c : r = p
      · subst c; rw [pk_us, pk_us]; exact ⟨by decide, nI_pos' (by omega)⟩
      · rw [pk_un c, pk_un c]; exact hw.2.1 r hr
    have e30 : τ1 (0, 30) p = hv σ 1 8 p := (hm.1.2.1 p hp24).1
    have e31 : τ1 (0, 31) p = hv σ 1 9 p := (hm.2.2.1 p hp24).1
    rw [e, if_pos h0, if_pos h0, chk_t hip, bv_eq, chk_t hip, bv_eq, chk_t hip, bv_eq, cl, e30, e31]
    have key : ∀ d q n m b b' few s t, q + d = 10 → d < n → d < m → FC σ s → FXo (fun m j => (m = 30 ∨ m = 31) ∧ j = p) τ1 t → t (0, 31) p = 0 → (∃ y, RS t (uv (hv σ 1) 8 p y)) → BB q b b' → ∃ r s' t', f_X6_big_31 n (nI p) b few (nI q) s = some (r, s') ∧ f_X7_big_52 m (nI p) (hv σ 1 8 p) (hv σ 1 9 p) b' few (nI q) t = some (r, t') ∧ FC σ s' ∧ FM τ1 t' := by
      intro d
      induction d with
      | zero =>
        intro q n m b b' few s t hq hn' hm' hf hx _ _ hb
        obtain ⟨n, rfl⟩ : ∃ k, n = k + 1 := ⟨n - 1, by omega⟩
        obtain ⟨m, rfl⟩ : ∃ k, m = k + 1 := ⟨m - 1, by omega⟩
        have : q = 10 := by omega
        subst this
        obtain ⟨rfl, _⟩ : b = b' ∧ ¬ b < 0 := hb.elim (fun h => absurd h.1 (by decide)) id
        refine ⟨b, s, upS (upS t (0, 30) p (hv σ 1 8 p)) (0, 31) p (hv σ 1 9 p), ?_, ?_, hf, ((hx.up ⟨Or.inl rfl, rfl⟩ (by decide) _).up ⟨Or.inr rfl, rfl⟩ (by decide) _).back ?_⟩
        · rw [f_X6_big_31, if_pos (by decide)]
        · rw [f_X7_big_52, if_pos (by decide), chk_t hip, bv_eq, chk_t hip, bv_eq, cl]
        · rintro m' _ j ⟨rfl | rfl, rfl⟩
          · rw [upS_ne (by decide), upS_at]; exact e30.symm
          · rw [upS_at]; exact e31.symm
      | succ d ih =>
        intro q n m b b' few s t hq hn' hm' hf hx h310 ⟨y, hy⟩ hb
        obtain ⟨n, rfl⟩ : ∃ k, n = k + 1 := ⟨n - 1, by omega⟩
        obtain ⟨m, rfl⟩ : ∃ k, m = k + 1 := ⟨m - 1, by omega⟩
        have hq8 : q < 10 := by omega
        obtain ⟨s0, e0, a1, a2, a3⟩ := c_anew s
        rw [hf.hv] at a1 a2
        obtain ⟨s1, e1, _, _, _, b2⟩ := c_wk3 (s := upS (upS s0 (3, 8) p (nI q)) (3, 9) p 0) (w := uv (hv σ 1) 9 p 0) (hS q hq8) (CS_of (a1.up 8 p (nI q)) (fun m' hm'' => by
          have h1 : m' ≠ 9 := by
            simp only [List.mem_cons, List.not_mem_nil, or_false] at hm''
            omega
          rw [upS_ne (cne h1)])) (fun r hr => by
          show _ = upd (hv σ 1 9) p 0 r
          by_cases c : r = p
          · subst c; rw [upS_at, pk_us]
          · rw [upS_off c, pk_un c, upS_ne (cne (by decide))]; exact a2 r hr) (hh q hq8)
        have hf1 : FC σ s1 := hf.f3 (fun c hc => by rw [b2 c hc, upS_ne (fun e => hc (by rw [e])), upS_ne (fun e => hc (by rw [e])), a3 c hc])
        have hy' := hy.up (m' := 30) (m := 8) (by decide) p (nI q)
        rw [uv_uv] at hy'
        have hx' := hx.up (m := 30) (i := p) ⟨Or.inl rfl, rfl⟩ (by decide) (nI q)
        obtain ⟨t1, e2, _, rf⟩ := r_wk (w := uv (hv σ 1) 9 p 0) (hS q hq8) hy' (fun r hr => by
          show _ = upd (hv σ 1 9) p 0 r
          by_cases c : r = p
          · subst c; rw [pk_us, upS_ne (by decide)]; exact h310
          · rw [pk_un c, hx'.2 31 (by decide) r (fun h => c h.2)]; exact (hm.2.2.1 r hr).1) (hh q hq8)
        have x1 := hx'.fm rf.FM
        have r1 := rf.RS hy'
        have z1 : t1 (0, 31) p = 0 := by rw [rf.2 _ (by decide) (by decide) (by decide) (by decide) (by decide), upS_ne (by decide)]; exact h310
        rw [f_X6_big_31, if_neg (show ¬ (9 : Int32) < nI q from nI_nlt (show q ≤ 9 by omega) (by decide)), e0, bd_some, e_set_nI (n := 24) _ rfl hp24, bd_some, e_set_nI (n := 24) _ rfl hp24, bd_some, e1, bd_some, f_X7_big_52, if_neg (show ¬ (10 : Int32) ≤ nI q from nI_ge hq8 (by decide)), chk_t hip, bv_eq, cl, e2, bd_some, bv_eq, bv_eq, bv_eq]
        unfold f_X6_big_95 f_X6_big_102
        rw [nI_1]
        rcases hb with ⟨_, rfl, rfl⟩ | ⟨rfl, hb⟩
        · rw [if_pos rfl, if_pos m1lt, if_neg h10, if_neg h10]
          exact ih (q + 1) n m _ _ _ s1 t1 (by omega) (by omega) (by omega) hf1 x1 z1 ⟨_, r1⟩ (Or.inr ⟨rfl, nI_pos (n := q) (by omega)⟩)
        · rw [if_neg (BB_ne hb), if_neg hb]
          by_cases c : few ≤ wr (uv (hv σ 1) 8 p (nI q)) (uv (hv σ 1) 9 p 0)
          · rw [if_pos c, if_pos c, if_pos rfl, if_pos rfl]
            exact ih (q + 1) n m _ _ _ s1 t1 (by omega) (by omega) (by omega) hf1 x1 z1 ⟨_, r1⟩ (Or.inr ⟨rfl, hb⟩)
          · rw [if_neg c, if_neg c, if_neg h10, if_neg h10]
            exact ih (q + 1) n m _ _ _ s1 t1 (by omega) (by omega) (by omega) hf1 x1 z1 ⟨_, r1⟩ (Or.inr ⟨rfl, nI_pos (n := q) (by omega)⟩)
    have hy0 : RS (upS τ1 (0, 31) p 0) (uv (hv σ 1) 8 p (hv σ 1 8 p)) := by
      rw [uv_id]
      exact RS_of hm.1 (fun k _ => by rw [upS_ne (by decide)]) (fun m hm' => by
        rw [upS_ne (cne (show m ≠ 31 by simp only [List.mem_cons, List.not_mem_nil, or_false] at hm'; omega))])
    obtain ⟨r, s', t', g1, g2, g3, g4⟩ := key 10 0 fuel fuel (-9) (-1) 0 σ (upS τ1 (0, 31) p 0) rfl (by decide) (by decide) (FC.refl σ) ((FXo.refl (fun m j => (m = 30 ∨ m = 31) ∧ j = p) τ1).up ⟨Or.inr rfl, rfl⟩ (by decide) 0) upS_at ⟨_, hy0⟩ (Or.inl ⟨rfl, rfl, rfl⟩)
    exact ⟨r, s', t', g1, g2, hR.fr g3 g4⟩
def ai (q : Nat) : Int32 := nI q - 1
theorem ai_ok : ∀ q, q < 3 → ai q ∈ l3 ∧ ¬ ai q < -1 ∧ ai q + 1 = ai (q + 1) ∧ ¬ (1 : Int32) < ai q ∧ ¬ (2 : Int32) ≤ ai q := by decide
theorem c_tryAw {σ s : Sg} {p : Nat} {x : Int32} (hw : WF (hv σ 1)) (hp24 : p < 24) (hx : x ∈ l3) (hf : FC σ s) : ∃ s1, f_X6_tryAwning (nI p) x s = some (wr (uv (hv σ 1) 10 p x) (hv σ 1), s1) ∧ (∀ t, t < 24 → s1 (3, 23) t = wd (uv (hv σ 1) 10 p x) (hv σ 1) t) ∧ FC3 s s1 := by
  obtain ⟨s0, s1, e0, e1, d1, f1⟩ := c_set_wk (m := 10) (k := p) (x := x) hw hf (by decide) (WFs_10 hw.1 hx) hw.2.1
  refine ⟨s1, ?_, d1, f1⟩
  unfold f_X6_tryAwning
  rw [e0, bd_some, e_set_nI (n := 24) _ rfl hp24, bd_some, e1, bd_some]
theorem E_leads_R : E_leads Rel := by
  intro a σ τ hR0
  have hR := hR0.thrown
  unfold f_X6_leads f_X7_leads
  rw [bv_eq (upS τ (0, 29) 18 0)]
  generalize upS τ (0, 29) 18 0 = τ1 at hR ⊢
  have hc := CS1 σ
  have hw := hR.1.1
  have hm := hR.1.2
  rw [c_place hc, bd_some, r_place hm.1, bd_some]
  rcases p_cases hw.1 a with e | ⟨p, hp, hp24, e⟩
  · rw [e, if_neg hn1, if_neg hn1]; (obtain ⟨σ', τ', e1, e2, h⟩ := refuse1 hR; exact ⟨_, σ', τ', by rw [e1, bd_some], by rw [e2, bd_some], h⟩)
  · have h0 : (0 : Int32) ≤ nI p := nI_pos' (by omega)
    have hip := inb24 hp24
    have cl : (nI p).toNatClampNeg = p := nI_clamp (by omega)
    have e32 : τ1 (0, 32) p = hv σ 1 10 p := (hm.1.2.1 p hp24).2.1
    rw [e, if_pos h0, if_pos h0, chk_t hip, bv_eq, cl, e32]
    have key : ∀ d q n m b few s t, q + d = 3 → d < n → d < m → FC σ s → FXo (fun m j => m = 32 ∧ j = p) τ1 t → (∃ y, RS t (uv (hv σ 1) 10 p y)) → ¬ b < -1 → ∃ r s' t', f_X6_leads_35 n (nI p) b few (ai q) s = some (r, s') ∧ f_X7_leads_38 m (nI p) (hv σ 1 10 p) b few (ai q) t = some (r, t') ∧ FC σ s' ∧ FM τ1 t' := by
      intro d
      induction d with
      | zero =>
        intro q n m b few s t hq hn' hm' hf hx _ hb
        obtain ⟨n, rfl⟩ : ∃ k, n = k + 1 := ⟨n - 1, by omega⟩
        obtain ⟨m, rfl⟩ : ∃ k, m = k + 1 := ⟨m - 1, by omega⟩
        have : q = 3 := by omega
        subst this
        refine ⟨b + 1, s, upS t (0, 32) p (hv σ 1 10 p), ?_, ?_, hf, (hx.up ⟨rfl, rfl⟩ (by decide) _).back ?_⟩
        · rw [f_X6_leads_35, if_pos (by decide)]
        · rw [f_X7_leads_38, if_pos (by decide), chk_t hip, bv_eq, cl, Int32.add_comm]
        · rintro m' _ j ⟨rfl, rfl⟩
          rw [upS_at]; exact e32.symm
      | succ d ih =>
        intro q n m b few s t hq hn' hm' hf hx ⟨y, hy⟩ hb
        obtain ⟨n, rfl⟩ : ∃ k, n = k + 1 := ⟨n - 1, by omega⟩
        obtain ⟨m, rfl⟩ : ∃ k, m = k + 1 := ⟨m - 1, by omega⟩
        obtain ⟨q1, q2, q3, q4, q5⟩ := ai_ok q (by omega)
        obtain ⟨s1, e1, _, f1⟩ := c_tryAw hw hp24 q1 hf
        have hf1 := hf.f3 f1
        have hy' := hy.up (m' := 32) (m := 10) (by decide) p (ai q)
        rw [uv_uv] at hy'
        obtain ⟨t1, e2, _, x1, r1, _⟩ := r_wkX hm (hx.up (m := 32) (i := p) ⟨rfl, rfl⟩ (by decide) (ai q)) hy' (fun j h => absurd h.1 (by decide)) (WFs_10 hw.1 q1) hw.2.1
        rw [f_X6_leads_35, if_neg q4, e1, bd_some, f_X7_leads_38, if_neg q5, chk_t hip, bv_eq, cl, e2, bd_some, bv_eq, bv_eq, bv_eq, if_neg hb]
        unfold f_X6_leads_64
        rw [q3]
        by_cases c : few ≤ wr (uv (hv σ 1) 10 p (ai q)) (hv σ 1)
        · rw [if_pos c, if_pos c, if_pos rfl, if_pos rfl]
          exact ih (q + 1) n m _ _ s1 t1 (by omega) (by omega) (by omega) hf1 x1 ⟨_, r1⟩ hb
        · rw [if_neg c, if_neg c, if_neg h10, if_neg h10]
          exact ih (q + 1) n m _ _ s1 t1 (by omega) (by omega) (by omega) hf1 x1 ⟨_, r1⟩ q2
    obtain ⟨s1, e1, _, f1⟩ := c_tryAw (x := -1) hw hp24 (by decide) (FC.refl σ)
    have hy' := hm.1.up (m' := 32) (m := 10) (by decide) p (-1)
    obtain ⟨t1, e2, _, x1, r1, _⟩ := r_wkX hm ((FXo.refl (fun m j => m = 32 ∧ j = p) τ1).up (m := 32) (i := p) ⟨rfl, rfl⟩ (by decide) (-1)) hy' (fun j h => absurd h.1 (by decide)) (WFs_10 hw.1 (by decide)) hw.2.1
    obtain ⟨r, s', t', g1, g2, g3, g4⟩ := key 2 1 fuel 1999 (-1) (wr (uv (hv σ 1) 10 p (-1)) (hv σ 1)) s1 t1 rfl (by decide) (by decide) ((FC.refl σ).f3 f1) x1 ⟨_, r1⟩ (by decide)
    rw [e1, bd_some]
    refine ⟨r, s', t', g1, ?_, hR.fr g3 g4⟩
    rw [show fuel = 1999 + 1 from rfl, f_X7_leads_38, if_neg (by decide), chk_t hip, bv_eq, cl, e2, bd_some, bv_eq, bv_eq, bv_eq, if_pos (show (-2 : Int32) < -1 by decide), if_neg h10, if_neg h10]
    exact g2
theorem E_hours_R : E_hours Rel := by
  intro a b c σ τ hR0
  have hR := hR0.thrown
  unfold f_X6_hours f_X6_hours_21 f_X6_hours_43 f_X7_hours f_X7_hours_26
  rw [bv_eq (upS τ (0, 29) 18 0)]
  generalize upS τ (0, 29) 18 0 = τ1 at hR ⊢
  have hc := CS1 σ
  have hw := hR.1.1
  have hm := hR.1.2
  rw [c_hab hc hw.1, bd_some, r_hab hm.1 hw.1, bd_some]
  rcases h_cases hw.1 a with ⟨i, hi, hi8, rfl, e⟩ | e
  · rw [e, if_neg h10, if_neg h10, c_hab hc hw.1, bd_some, r_hab hm.1 hw.1, bd_some]
    rcases h_cases hw.1 b with ⟨j, hj, hj8, rfl, e'⟩ | e'
    · rw [e', if_neg h10, if_neg h10]
      by_cases hij : nI i = nI j
      · rw [if_pos hij, if_pos hij]; (obtain ⟨σ', τ', e1, e2, h⟩ := refuse1 hR; exact ⟨_, σ', τ', by rw [e1, bd_some], by rw [e2, bd_some], h⟩)
      · have hne : i ≠ j := fun h => hij (by rw [h])
        rw [if_neg hij, if_neg hij, in5 c 1 1 τ1 rfl, bd_some, if01]
        have hii : inb (nI i) 8 := vp_in_nI hi8 (by decide)
        have hjj : inb (nI j) 8 := vp_in_nI hj8 (by decide)
        have cl : (nI i).toNatClampNeg = i := nI_clamp (by omega)
        have cj : (nI j).toNatClampNeg = j := nI_clamp (by omega)
        have e42 : τ1 (0, 42) i = hv σ 1 19 i := (hm.1.2.2.2 i hi8).2.2.2
        have e42j : τ1 (0, 42) j = hv σ 1 19 j := (hm.1.2.2.2 j hj8).2.2.2
        have hS := fun x y (hx : x < 8) (hy : y < 8) => WFs_19 (i := j) (WFs_19 (i := i) hw.1 (l8_of hx)) (l8_of hy)
        have key : ∀ d x, x + d = 8 → ∀ n, d < n → ∀ e y, y + e = 8 → ∀ k m bb bb' few s t, e < k → 8 * d + e < m → FC σ s → FXo (fun m q => m = 42 ∧ (q = i ∨ q = j)) τ1 t → (∃ z1 z2, RS t (uv (uv (hv σ 1) 19 i z1) 19 j z2)) → BB (8 * x + y) bb bb' → (∃ r s' t', (if d = 0 then f_X6_hours_53 n (nI i) (nI j) c bb few (nI x) s else f_X6_hours_63 (f_X6_hours_53 (n - 1)) k (nI i) (nI j) c bb few (nI x) (nI y) s) = some (r, s') ∧ f_X7_hours_74 m (nI i) (nI j) c (hv σ 1 19 i) (hv σ 1 19 j) bb' few (nI (if d = 0 then 64 else 8 * x + y)) t = some (r, t') ∧ FC σ s' ∧ FM τ1 t') := by
          intro d
          induction d with
          | zero =>
            intro x hx n hn' e y he k m bb bb' few s t hk hm' hf hX _ hb
            obtain ⟨n, rfl⟩ : ∃ k, n = k + 1 := ⟨n - 1, by omega⟩
            obtain ⟨m, rfl⟩ : ∃ k, m = k + 1 := ⟨m - 1, by omega⟩
            have : x = 8 := by omega
            subst this
            obtain ⟨rfl, _⟩ : bb = bb' ∧ ¬ bb < 0 := hb.elim (fun h => absurd h.1 (by omega)) id
            rw [if_pos rfl, if_pos rfl]
            refine ⟨if c = 0 then bb else few, s, upS (upS t (0, 42) i (hv σ 1 19 i)) (0, 42) j (hv σ 1 19 j), ?_, ?_, hf, ((hX.up ⟨rfl, Or.inl rfl⟩ (by decide) _).up ⟨rfl, Or.inr rfl⟩ (by decide) _).back ?_⟩
            · rw [f_X6_hours_53, if_pos (by decide)]
            · rw [f_X7_hours_74, if_pos (by decide), chk_t hii, bv_eq, chk_t hjj, bv_eq, cl, cj]
            · rintro m' _ q ⟨rfl, rfl | rfl⟩
              · rw [upS_off hne, upS_at]; exact e42.symm
              · rw [upS_at]; exact e42j.symm
          | succ d ihd =>
            intro x hx n hn'
            obtain ⟨n, rfl⟩ : ∃ k, n = k + 1 := ⟨n - 1, by omega⟩
            intro e
            induction e with
            | zero =>
              intro y hy k m bb bb' few s t hk hm' hf hX hrs hb
              obtain ⟨k, rfl⟩ : ∃ j, k = j + 1 := ⟨k - 1, by omega⟩
              have : y = 8 := by omega
              subst this
              rw [if_neg (by omega), if_neg (by omega), Nat.add_sub_cancel, f_X6_hours_63, if_pos (by decide), nI_1]
              have nxt := ihd (x + 1) (by omega) n (by omega) 8 0 (by omega) fuel m bb bb' few s t (by decide) (by omega) hf hX hrs (by rw [show 8 * (x + 1) + 0 = 8 * x + 8 by omega]; exact hb)
              by_cases hd : d = 0
              · rw [if_pos hd, if_pos hd] at nxt
                rw [show 8 * x + 8 = 64 by omega]; exact nxt
              · rw [if_neg hd, if_neg hd] at nxt
                obtain ⟨n, rfl⟩ : ∃ k, n = k + 1 := ⟨n - 1, by omega⟩
                rw [f_X6_hours_53, if_neg (show ¬ (8 : Int32) ≤ nI (x + 1) from nI_ge (show x + 1 < 8 by omega) (by decide)), show 8 * x + 8 = 8 * (x + 1) + 0 by omega]
                exact nxt
            | succ e ihe =>
              intro y hy k m bb bb' few s t hk hm' hf hX ⟨z1, z2, hrs⟩ hb
              obtain ⟨k, rfl⟩ : ∃ j, k = j + 1 := ⟨k - 1, by omega⟩
              obtain ⟨m, rfl⟩ : ∃ j, m = j + 1 := ⟨m - 1, by omega⟩
              have hx8 : x < 8 := by omega
              have hy8 : y < 8 := by omega
              have hlt : 8 * x + y < 64 := by omega
              have e8 : nI (8 * x + y) / 8 = nI x := by
                rw [show (8 : Int32) = nI 8 from rfl, pk_div (by omega) (by decide) (by decide)]; congr 1; omega
              have e8' : nI (8 * x + y) - nI (8 * x + y) / 8 * 8 = nI y := by
                rw [show (8 : Int32) = nI 8 from rfl, pk_rem (by omega) (by decide) (by decide)]; congr 1; omega
              obtain ⟨s0, e0, a1, a2, a3⟩ := c_anew s
              rw [hf.hv] at a1 a2
              obtain ⟨s1, e1, _, _, _, b2⟩ := c_wk3 (s := upS (upS s0 (3, 19) i (nI x)) (3, 19) j (nI y)) (w := hv σ 1) (hS x y hx8 hy8) ((a1.up 19 i (nI x)).up 19 j (nI y)) (fun r hr => by rw [upS_ne (cne (by decide)), upS_ne (cne (by decide))]; exact a2 r hr) hw.2.1
              have hf1 : FC σ s1 := hf.f3 (fun c hc => by rw [b2 c hc, upS_ne (fun e => hc (by rw [e])), upS_ne (fun e => hc (by rw [e])), a3 c hc])
              have hy' := (hrs.up (m' := 42) (m := 19) (by decide) i (nI x)).up (m' := 42) (m := 19) (by decide) j (nI y)
              rw [uv_comm (fun h => hne h.symm), uv_uv, uv_uv] at hy'
              obtain ⟨t1, e2, _, x1, r1, _⟩ := r_wkX hm ((hX.up (m := 42) (i := i) ⟨rfl, Or.inl rfl⟩ (by decide) (nI x)).up (m := 42) (i := j) ⟨rfl, Or.inr rfl⟩ (by decide) (nI y)) hy' (fun j h => absurd h.1 (by decide)) (hS x y hx8 hy8) hw.2.1
              have e10 : (10 : Int32) * nI x + nI y = nI (10 * x + y) := by rw [show (10 : Int32) = nI 10 from rfl, pk_mul, nI_add]
              rw [if_neg (by omega), if_neg (by omega), Nat.add_sub_cancel, f_X6_hours_63, if_neg (show ¬ (8 : Int32) ≤ nI y from nI_ge hy8 (by decide)), e0, bd_some, e_set_nI (n := 8) _ rfl hi8, bd_some, e_set_nI (n := 8) _ rfl hj8, bd_some, e1, bd_some, f_X7_hours_74, if_neg (show ¬ (64 : Int32) ≤ nI (8 * x + y) from nI_ge hlt (by decide)), chk_t hii, bv_eq, chk_t hjj, bv_eq, cl, cj, e8', e8, e2, bd_some, bv_eq]
              unfold f_X6_hours_129 f_X6_hours_143 f_X7_hours_152
              simp only [bv_eq, e10, nI_1]
              have nxt := fun bb bb' few h => ihe (y + 1) (by omega) k m bb bb' few s1 t1 (by omega) (by omega) hf1 x1 ⟨_, _, r1⟩ h
              simp only [if_neg (show ¬ d + 1 = 0 by omega), Nat.add_sub_cancel] at nxt
              rcases hb with ⟨_, rfl, rfl⟩ | ⟨rfl, hb⟩
              · rw [if_pos rfl, if_pos m1lt, if_neg h10, if_neg h10]
                exact nxt _ _ _ (Or.inr ⟨rfl, nI_pos (by omega)⟩)
              · rw [if_neg (BB_ne hb), if_neg hb]
                by_cases cc : few ≤ wr (uv (uv (hv σ 1) 19 i (nI x)) 19 j (nI y)) (hv σ 1)
                · rw [if_pos cc, if_pos cc, if_pos rfl, if_pos rfl]
                  exact nxt _ _ _ (Or.inr ⟨rfl, hb⟩)
                · rw [if_neg cc, if_neg cc, if_neg h10, if_neg h10]
                  exact nxt _ _ _ (Or.inr ⟨rfl, nI_pos (by omega)⟩)
        have main : ∃ r s' t', f_X6_hours_53 fuel (nI i) (nI j) c (-9) 0 0 σ = some (r, s') ∧ (chk (inb (nI i) 8) (bv (τ1 (0, 42) (nI i).toNatClampNeg) (fun x22 => chk (inb (nI j) 8) (bv (τ1 (0, 42) (nI j).toNatClampNeg) (fun x24 => f_X7_hours_74 fuel (nI i) (nI j) c x22 x24 (-1) 0 0 τ1))))) = some (r, t') ∧ Rel s' t' := by
          have hy0 : RS τ1 (uv (uv (hv σ 1) 19 i (hv σ 1 19 i)) 19 j (hv σ 1 19 j)) := by
            rw [uv_id, uv_id]; exact hm.1
          obtain ⟨r, s', t', g1, g2, g3, g4⟩ := key 8 0 rfl fuel (by decide) 8 0 rfl fuel fuel (-9) (-1) 0 σ τ1 (by decide) (by decide) (FC.refl σ) (FXo.refl _ _) ⟨_, _, hy0⟩ (Or.inl ⟨rfl, rfl, rfl⟩)
          rw [if_neg (by decide)] at g1 g2
          refine ⟨r, s', t', ?_, ?_, hR.fr g3 g4⟩
          · rw [show fuel = 1999 + 1 from rfl, f_X6_hours_53, if_neg (by decide)]
            exact g1
          · rw [chk_t hii, bv_eq, chk_t hjj, bv_eq, cl, cj, e42, e42j]
            exact g2
        obtain ⟨r, s', t', g1, g2, g3⟩ := main
        by_cases b0 : c = 0
        · rw [if_pos b0, if_pos (by rw [b0]; decide)]; exact ⟨r, s', t', g1, g2, g3⟩
        · by_cases b1 : c = 1
          · rw [if_neg b0, if_pos b1, if_pos (by rw [b1]; decide)]; exact ⟨r, s', t', g1, g2, g3⟩
          · rw [if_neg b0, if_neg b1, if_neg (by grind)]; (obtain ⟨σ', τ', e1, e2, h⟩ := refuse_2 hR; exact ⟨_, σ', τ', by rw [e1, bd_some], by rw [e2, bd_some], h⟩)
    · rw [e', if_pos rfl, if_pos rfl]; (obtain ⟨σ', τ', e1, e2, h⟩ := refuse1 hR; exact ⟨_, σ', τ', by rw [e1, bd_some], by rw [e2, bd_some], h⟩)
  · rw [e, if_pos rfl, if_pos rfl]; (obtain ⟨σ', τ', e1, e2, h⟩ := refuse1 hR; exact ⟨_, σ', τ', by rw [e1, bd_some], by rw [e2, bd_some], h⟩)
