/-! ===== carried numbers: the image, what is laid back ===== -/
def cr (p : Nat) : Nat := if p < 5 then 29 else if p < 197 then 30 + (p - 5) % 8 else if p < 773 then 38 else 39 + (p - 773) % 4
def cc (p : Nat) : Nat := if p < 5 then p else if p < 197 then (p - 5) / 8 else if p < 773 then p - 197 else (p - 773) / 4
theorem cl_inj {q p : Nat} (hq : q < p) : ¬ (cr q = cr p ∧ cc q = cc p) := by
  unfold cr cc
  repeat' split
  all_goals (rintro ⟨h1, h2⟩; omega)
theorem cl_row (p : Nat) : (cr p = 29 ∧ cc p < 5) ∨ (30 ≤ cr p ∧ cr p ≤ 42) := by
  unfold cr cc
  repeat' split
  all_goals omega
theorem cl_s {p : Nat} (h : p < 5) : cr p = 29 ∧ cc p = p := by
  unfold cr cc
  rw [if_pos h, if_pos h]; exact ⟨rfl, rfl⟩
theorem cl_f {k r : Nat} (hk : k < 24) (hr : r < 8) : cr (5 + 8 * k + r) = 30 + r ∧ cc (5 + 8 * k + r) = k := by
  unfold cr cc
  rw [if_neg (by omega), if_pos (by omega), if_neg (by omega), if_pos (by omega)]
  constructor <;> omega
theorem cl_a {k : Nat} (hk : k < 576) : cr (197 + k) = 38 ∧ cc (197 + k) = k := by
  unfold cr cc
  rw [if_neg (by omega), if_neg (by omega), if_pos (by omega), if_neg (by omega), if_neg (by omega), if_pos (by omega)]
  constructor <;> omega
theorem cl_h {k r : Nat} (_hk : k < 8) (hr : r < 4) : cr (773 + 4 * k + r) = 39 + r ∧ cc (773 + 4 * k + r) = k := by
  unfold cr cc
  rw [if_neg (by omega), if_neg (by omega), if_neg (by omega), if_neg (by omega), if_neg (by omega), if_neg (by omega)]
  constructor <;> omega
theorem upS_o {t : Sg} {i i' : Nat × Nat} {k j : Nat} {x : Int32} (h : ¬ (i' = i ∧ j = k)) : upS t i k x i' j = t i' j := by
  by_cases c : i' = i
  · subst c
    exact upS_off (fun e => h ⟨rfl, e⟩)
  · rw [upS_ne c]
/-- what one carried number does -/
abbrev caS (Inv : Nat → Sg → Prop) : Prop := ∀ p t, p < 805 → Inv p t → ∃ x t1, f_X7_carry (t (0, cr p) (cc p)) t = some (x, t1) ∧ Inv (p + 1) (upS t1 (0, cr p) (cc p) x)
theorem ca_250 {Inv : Nat → Sg → Prop} (hs : caS Inv) (i1 : Nat × Nat) (t : Sg) (h : Inv 773 t) : ∃ t', f_X7_carryAll_250 i1 fuel 0 t = some ((), t') ∧ Inv 805 t' := by
  obtain ⟨r, s', e, h⟩ := lp (fun n (a : Int32) s => f_X7_carryAll_250 i1 n a s) (fun k a s => a = nI k ∧ Inv (773 + 4 * k) s) (fun _ s => Inv 805 s) 8
    (fun k n a s hk hI => by
      obtain ⟨rfl, h0⟩ := hI
      have hb : inb (nI k) 8 := vp_in_nI hk (by decide)
      obtain ⟨x0, s0, e0, h1⟩ := hs (773 + 4 * k + 0) s (by omega) h0
      rw [(cl_h hk (by decide)).1, (cl_h hk (by decide)).2] at e0 h1
      obtain ⟨x1, s1, e1, h2⟩ := hs (773 + 4 * k + 1) _ (by omega) h1
      rw [(cl_h hk (by decide)).1, (cl_h hk (by decide)).2] at e1 h2
      obtain ⟨x2, s2, e2, h3⟩ := hs (773 + 4 * k + 2) _ (by omega) h2
      rw [(cl_h hk (by decide)).1, (cl_h hk (by decide)).2] at e2 h3
      obtain ⟨x3, s3, e3, h4⟩ := hs (773 + 4 * k + 3) _ (by omega) h3
      rw [(cl_h hk (by decide)).1, (cl_h hk (by decide)).2] at e3 h4
      refine Or.inl ⟨nI (k + 1), _, ?_, rfl, h4⟩
      show f_X7_carryAll_250 i1 (n + 1) (nI k) s = _
      rw [f_X7_carryAll_250, if_neg (show ¬ (8 : Int32) ≤ nI k from nI_ge hk (by decide))]
      simp only [chk_t hb, bv_eq, show (nI k).toNatClampNeg = k from nI_clamp (by omega)]
      rw [e0, bd_some, e1, bd_some, e2, bd_some, e3, bd_some, nI_1])
    (fun n a s hI => by
      obtain ⟨rfl, h0⟩ := hI
      refine ⟨(), s, ?_, h0⟩
      show f_X7_carryAll_250 i1 (n + 1) (nI 8) s = _
      rw [f_X7_carryAll_250, if_pos (by decide)])
    8 0 rfl fuel (nI 0) t (by decide) ⟨rfl, h⟩
  exact ⟨s', e, h⟩
theorem ca_219 {Inv : Nat → Sg → Prop} (hs : caS Inv) (i1 : Nat × Nat) (t : Sg) (h : Inv 197 t) : ∃ t', f_X7_carryAll_219 i1 fuel 0 t = some ((), t') ∧ Inv 805 t' := by
  obtain ⟨r, s', e, h⟩ := lp (fun n (a : Int32) s => f_X7_carryAll_219 i1 n a s) (fun k a s => a = nI k ∧ Inv (197 + k) s) (fun _ s => Inv 805 s) 576
    (fun k n a s hk hI => by
      obtain ⟨rfl, h0⟩ := hI
      have hb : inb (nI k) 576 := vp_in_nI hk (by decide)
      obtain ⟨x0, s0, e0, h1⟩ := hs (197 + k) s (by omega) h0
      rw [(cl_a hk).1, (cl_a hk).2] at e0 h1
      refine Or.inl ⟨nI (k + 1), _, ?_, rfl, h1⟩
      show f_X7_carryAll_219 i1 (n + 1) (nI k) s = _
      rw [f_X7_carryAll_219, if_neg (show ¬ (576 : Int32) ≤ nI k from nI_ge hk (by decide))]
      simp only [chk_t hb, bv_eq, show (nI k).toNatClampNeg = k from nI_clamp (by omega)]
      rw [e0, bd_some, nI_1])
    (fun n a s hI => by
      obtain ⟨rfl, h0⟩ := hI
      obtain ⟨t', e, h⟩ := ca_250 hs i1 s h0
      refine ⟨(), t', ?_, h⟩
      show f_X7_carryAll_219 i1 (n + 1) (nI 576) s = _
      rw [f_X7_carryAll_219, if_pos (by decide)]
      exact e)
    576 0 rfl fuel (nI 0) t (by decide) ⟨rfl, h⟩
  exact ⟨s', e, h⟩
theorem ca_77 {Inv : Nat → Sg → Prop} (hs : caS Inv) (i1 : Nat × Nat) (t : Sg) (h : Inv 5 t) : ∃ t', f_X7_carryAll_77 i1 fuel 0 t = some ((), t') ∧ Inv 805 t' := by
  obtain ⟨r, s', e, h⟩ := lp (fun n (a : Int32) s => f_X7_carryAll_77 i1 n a s) (fun k a s => a = nI k ∧ Inv (5 + 8 * k) s) (fun _ s => Inv 805 s) 24
    (fun k n a s hk hI => by
      obtain ⟨rfl, h0⟩ := hI
      have hb := inb24 hk
      obtain ⟨x0, s0, e0, h1⟩ := hs (5 + 8 * k + 0) s (by omega) h0
      rw [(cl_f hk (by decide)).1, (cl_f hk (by decide)).2] at e0 h1
      obtain ⟨x1, s1, e1, h2⟩ := hs (5 + 8 * k + 1) _ (by omega) h1
      rw [(cl_f hk (by decide)).1, (cl_f hk (by decide)).2] at e1 h2
      obtain ⟨x2, s2, e2, h3⟩ := hs (5 + 8 * k + 2) _ (by omega) h2
      rw [(cl_f hk (by decide)).1, (cl_f hk (by decide)).2] at e2 h3
      obtain ⟨x3, s3, e3, h4⟩ := hs (5 + 8 * k + 3) _ (by omega) h3
      rw [(cl_f hk (by decide)).1, (cl_f hk (by decide)).2] at e3 h4
      obtain ⟨x4, s4, e4, h5⟩ := hs (5 + 8 * k + 4) _ (by omega) h4
      rw [(cl_f hk (by decide)).1, (cl_f hk (by decide)).2] at e4 h5
      obtain ⟨x5, s5, e5, h6⟩ := hs (5 + 8 * k + 5) _ (by omega) h5
      rw [(cl_f hk (by decide)).1, (cl_f hk (by decide)).2] at e5 h6
      obtain ⟨x6, s6, e6, h7⟩ := hs (5 + 8 * k + 6) _ (by omega) h6
      rw [(cl_f hk (by decide)).1, (cl_f hk (by decide)).2] at e6 h7
      obtain ⟨x7, s7, e7, h8⟩ := hs (5 + 8 * k + 7) _ (by omega) h7
      rw [(cl_f hk (by decide)).1, (cl_f hk (by decide)).2] at e7 h8
      refine Or.inl ⟨nI (k + 1), _, ?_, rfl, h8⟩
      show f_X7_carryAll_77 i1 (n + 1) (nI k) s = _
      rw [f_X7_carryAll_77, if_neg (show ¬ (24 : Int32) ≤ nI k from nI_ge hk (by decide))]
      simp only [chk_t hb, bv_eq, show (nI k).toNatClampNeg = k from nI_clamp (by omega)]
      rw [e0, bd_some, e1, bd_some, e2, bd_some, e3, bd_some, e4, bd_some, e5, bd_some, e6, bd_some, e7, bd_some, nI_1])
    (fun n a s hI => by
      obtain ⟨rfl, h0⟩ := hI
      obtain ⟨t', e, h⟩ := ca_219 hs i1 s h0
      refine ⟨(), t', ?_, h⟩
      show f_X7_carryAll_77 i1 (n + 1) (nI 24) s = _
      rw [f_X7_carryAll_77, if_pos (by decide)]
      exact e)
    24 0 rfl fuel (nI 0) t (by decide) ⟨rfl, h⟩
  exact ⟨s', e, h⟩
theorem ca_gen {Inv : Nat → Sg → Prop} (hs : caS Inv) {K : Nat} {z b : Int32} (hK : ((0, K) : Nat × Nat) = (0, ly_kept) ∨ ((0, K) : Nat × Nat) = (0, ly_imaged)) (hz : (if ((0, K) : Nat × Nat) = (0, ly_kept) then (1 : Int32) else 2) = z) (hb : b = 0 ∨ b = 1) (t : Sg) (h : Inv 0 (upS (upS (upS t (0, 29) 38 z) (0, 29) 37 b) (0, 29) 36 0)) : ∃ t', f_X7_carryAll (0, K) b t = some ((), t') ∧ Inv 805 t' := by
  obtain ⟨x0, s0, e0, h1⟩ := hs 0 _ (by omega) h
  rw [(cl_s (by decide)).1, (cl_s (by decide)).2] at e0 h1
  obtain ⟨x1, s1, e1, h2⟩ := hs 1 _ (by omega) h1
  rw [(cl_s (by decide)).1, (cl_s (by decide)).2] at e1 h2
  obtain ⟨x2, s2, e2, h3⟩ := hs 2 _ (by omega) h2
  rw [(cl_s (by decide)).1, (cl_s (by decide)).2] at e2 h3
  obtain ⟨x3, s3, e3, h4⟩ := hs 3 _ (by omega) h3
  rw [(cl_s (by decide)).1, (cl_s (by decide)).2] at e3 h4
  obtain ⟨x4, s4, e4, h5⟩ := hs 4 _ (by omega) h4
  rw [(cl_s (by decide)).1, (cl_s (by decide)).2] at e4 h5
  obtain ⟨t', e, h⟩ := ca_77 hs (0, K) _ h5
  refine ⟨t', ?_, h⟩
  unfold f_X7_carryAll
  rw [chk_t hK, bv_eq, chk_t hb, hz, bv_eq, bv_eq, e0, bd_some, bv_eq, e1, bd_some, bv_eq, e2, bd_some, bv_eq, e3, bd_some, bv_eq, e4, bd_some, bv_eq, e]
theorem carry17 {t : Sg} {K p : Nat} {z : Int32} (hK : dynId z = (0, K)) (hK29 : K ≠ 29) (hz : z = 1 ∨ z = 2) (hp : p < 810) (h36 : t (0, 29) 36 = nI p) (h38 : t (0, 29) 38 = z) : f_X7_carry_17 t = some (t (0, K) p, upS t (0, 29) 36 (nI (p + 1))) := by
  unfold f_X7_carry_17
  rw [h36, nI_1, bv_eq]
  have u38 : (upS t (0, 29) 36 (nI (p + 1))) (0, 29) 38 = z := by rw [upS_off (by decide)]; exact h38
  have u36 : (upS t (0, 29) 36 (nI (p + 1))) (0, 29) 36 = nI (p + 1) := upS_at
  have uK : (upS t (0, 29) 36 (nI (p + 1))) (0, K) p = t (0, K) p := by rw [upS_ne (cne hK29)]
  generalize upS t (0, 29) 36 (nI (p + 1)) = u at u38 u36 uK ⊢
  have hb : inb (nI p) 810 := vp_in_nI hp (by decide)
  rw [chk_t (by rw [u38]; exact hz), chk_t (by rw [u36, nI_pred]; exact hb), u38, hK, u36, nI_pred, nI_clamp (by omega), uK]
theorem carry0 {t : Sg} {K p : Nat} {z x : Int32} (hK : dynId z = (0, K)) (hK29 : K ≠ 29) (hz : z = 1 ∨ z = 2) (hp : p < 810) (h36 : t (0, 29) 36 = nI p) (h37 : t (0, 29) 37 = 0) (h38 : t (0, 29) 38 = z) : f_X7_carry x t = some (t (0, K) p, upS t (0, 29) 36 (nI (p + 1))) := by
  unfold f_X7_carry
  rw [if_pos h37, carry17 hK hK29 hz hp h36 h38]
theorem carry1 {t : Sg} {K p : Nat} {z x : Int32} (hK : dynId z = (0, K)) (hK29 : K ≠ 29) (hz : z = 1 ∨ z = 2) (hp : p < 810) (h36 : t (0, 29) 36 = nI p) (h37 : t (0, 29) 37 = 1) (h38 : t (0, 29) 38 = z) : f_X7_carry x t = some (x, upS (upS t (0, K) p x) (0, 29) 36 (nI (p + 1))) := by
  have hb : inb (nI p) 810 := vp_in_nI hp (by decide)
  unfold f_X7_carry
  rw [if_neg (by rw [h37]; decide), chk_t (by rw [h38]; exact hz), chk_t (by rw [h36]; exact hb), bv_eq, h38, hK, h36, nI_clamp (by omega)]
  have h1 : (upS t (0, K) p x) (0, 29) 36 = nI p := by rw [upS_ne (cne (fun e => hK29 e.symm))]; exact h36
  have h2 : (upS t (0, K) p x) (0, 29) 38 = z := by rw [upS_ne (cne (fun e => hK29 e.symm))]; exact h38
  rw [carry17 hK hK29 hz hp h1 h2, upS_at]
/-! taken: the row holds the numbers -/
def CT (K : Nat) (z : Int32) (τ : Sg) (p : Nat) (t : Sg) : Prop := t (0, 29) 36 = nI p ∧ t (0, 29) 37 = 1 ∧ t (0, 29) 38 = z ∧ (∀ q, q < p → t (0, K) q = τ (0, cr q) (cc q)) ∧ (∀ m j, m ≠ K → ¬ (m = 29 ∧ 36 ≤ j ∧ j ≤ 38) → t (0, m) j = τ (0, m) j)
theorem CT_s {K : Nat} {z : Int32} (hK : dynId z = (0, K)) (hK2 : 43 ≤ K) (hz : z = 1 ∨ z = 2) (τ : Sg) : caS (CT K z τ) := by
  intro p t hp ⟨h1, h2, h3, h4, h5⟩
  have hrow := cl_row p
  have e := carry1 (x := t (0, cr p) (cc p)) hK (by omega) hz (by omega : p < 810) h1 h2 h3
  have ex : t (0, cr p) (cc p) = τ (0, cr p) (cc p) := h5 _ _ (by omega) (by omega)
  refine ⟨_, _, e, ?_⟩
  rw [ex]
  generalize hm : cr p = m0 at hrow ex ⊢
  generalize hj : cc p = j0 at hrow ex ⊢
  have o : ∀ m j, m ≠ K → ¬ (m = 29 ∧ j = 36) → upS (upS (upS t (0, K) p (τ (0, m0) j0)) (0, 29) 36 (nI (p + 1))) (0, m0) j0 (τ (0, m0) j0) (0, m) j = if m = m0 ∧ j = j0 then τ (0, m0) j0 else t (0, m) j := fun m j c1 c2 => by
    by_cases c : m = m0 ∧ j = j0
    · rw [if_pos c, c.1, c.2, upS_at]
    · rw [if_neg c, upS_o (fun q => c ⟨(Prod.mk.inj q.1).2, q.2⟩), upS_o (fun q => c2 ⟨(Prod.mk.inj q.1).2, q.2⟩), upS_ne (cne c1)]
  refine ⟨?_, ?_, ?_, ?_, ?_⟩
  · rw [upS_o (fun q => by have := (Prod.mk.inj q.1).2; omega), upS_at]
  · rw [o 29 37 (by omega) (by omega), if_neg (by omega)]; exact h2
  · rw [o 29 38 (by omega) (by omega), if_neg (by omega)]; exact h3
  · intro q hq
    rw [upS_ne (cne (by omega)), upS_ne (cne (by omega))]
    by_cases c : q = p
    · subst c; rw [upS_at, hm, hj]
    · rw [upS_off c]; exact h4 q (by omega)
  · intro m j c1 c2
    rw [o m j c1 (by omega)]
    by_cases c : m = m0 ∧ j = j0
    · rw [if_pos c, c.1, c.2]
    · rw [if_neg c]; exact h5 m j c1 c2
theorem CT_0 {K : Nat} {z : Int32} (hK2 : 43 ≤ K) (τ : Sg) : CT K z τ 0 (upS (upS (upS τ (0, 29) 38 z) (0, 29) 37 1) (0, 29) 36 0) := by
  refine ⟨upS_at, ?_, ?_, fun q hq => absurd hq (Nat.not_lt_zero _), fun m j c1 c2 => ?_⟩
  · rw [upS_off (by decide), upS_at]
  · rw [upS_off (by decide), upS_off (by decide), upS_at]
  · rw [upS_o (fun q => c2 ⟨(Prod.mk.inj q.1).2, by omega, by omega⟩), upS_o (fun q => c2 ⟨(Prod.mk.inj q.1).2, by omega, by omega⟩), upS_o (fun q => c2 ⟨(Prod.mk.inj q.1).2, by omega, by omega⟩)]
theorem CT_sh {K : Nat} {z : Int32} {τ t : Sg} {v : Vw} (hm : shM τ v) (H : CT K z τ 805 t) : shI (t (0, K)) v := by
  obtain ⟨_, _, _, h, _⟩ := H
  obtain ⟨⟨⟨a0, a1, a2, a4⟩, b, c, d⟩, a3, e, f⟩ := hm
  have s : ∀ q, q < 5 → t (0, K) q = τ (0, 29) q := fun q hq => by rw [h q (by omega), (cl_s hq).1, (cl_s hq).2]
  have g : ∀ k r, k < 24 → r < 8 → t (0, K) (5 + 8 * k + r) = τ (0, 30 + r) k := fun k r hk hr => by rw [h _ (by omega), (cl_f hk hr).1, (cl_f hk hr).2]
  refine ⟨⟨by rw [s 0 (by decide), a0], by rw [s 1 (by decide), a1], by rw [s 2 (by decide), a2], by rw [s 3 (by decide), a3], by rw [s 4 (by decide), a4]⟩, fun p hp => ?_, fun k hk => ?_, fun i hi => ?_⟩
  · obtain ⟨b1, b2, b3, b4⟩ := b p hp
    obtain ⟨e1, e2, e3⟩ := e p hp
    refine ⟨(g p 0 hp (by decide)).trans b1, ?_, ?_, ?_, ?_, fun hpt => ?_, ?_, ?_⟩
    · rw [show 6 + 8 * p = 5 + 8 * p + 1 by omega]; exact (g p 1 hp (by decide)).trans e1
    · rw [show 7 + 8 * p = 5 + 8 * p + 2 by omega]; exact (g p 2 hp (by decide)).trans b2
    · rw [show 8 + 8 * p = 5 + 8 * p + 3 by omega]; exact (g p 3 hp (by decide)).trans b3
    · rw [show 9 + 8 * p = 5 + 8 * p + 4 by omega]; exact (g p 4 hp (by decide)).trans b4
    · rw [show 10 + 8 * p = 5 + 8 * p + 5 by omega]; exact (g p 5 hp (by decide)).trans (c p hpt)
    · rw [show 11 + 8 * p = 5 + 8 * p + 6 by omega]; exact (g p 6 hp (by decide)).trans e2
    · rw [show 12 + 8 * p = 5 + 8 * p + 7 by omega]; exact (g p 7 hp (by decide)).trans e3
  · rw [h _ (by omega), (cl_a hk).1, (cl_a hk).2]; exact f k hk
  · obtain ⟨d1, d2, d3, d4⟩ := d i hi
    have g2 : ∀ r, r < 4 → t (0, K) (773 + 4 * i + r) = τ (0, 39 + r) i := fun r hr => by rw [h _ (by omega), (cl_h hi hr).1, (cl_h hi hr).2]
    refine ⟨(g2 0 (by decide)).trans d1, ?_, ?_, ?_⟩
    · rw [show 774 + 4 * i = 773 + 4 * i + 1 by omega]; exact (g2 1 (by decide)).trans d2
    · rw [show 775 + 4 * i = 773 + 4 * i + 2 by omega]; exact (g2 2 (by decide)).trans d3
    · rw [show 776 + 4 * i = 773 + 4 * i + 3 by omega]; exact (g2 3 (by decide)).trans d4
/-! laid back: the state shows what the row holds -/
def CB (K : Nat) (z : Int32) (τ : Sg) (p : Nat) (t : Sg) : Prop := t (0, 29) 36 = nI p ∧ t (0, 29) 37 = 0 ∧ t (0, 29) 38 = z ∧ (∀ q, q < p → t (0, cr q) (cc q) = τ (0, K) q) ∧ (∀ m j, ¬ (m = 29 ∧ (j < 5 ∨ (36 ≤ j ∧ j ≤ 38))) → ¬ (30 ≤ m ∧ m ≤ 42) → t (0, m) j = τ (0, m) j)
theorem CB_s {K : Nat} {z : Int32} (hK : dynId z = (0, K)) (hK2 : 43 ≤ K) (hz : z = 1 ∨ z = 2) (τ : Sg) : caS (CB K z τ) := by
  intro p t hp ⟨h1, h2, h3, h4, h5⟩
  have hrow := cl_row p
  have e := carry0 (x := t (0, cr p) (cc p)) hK (by omega) hz (by omega : p < 810) h1 h2 h3
  have ex : t (0, K) p = τ (0, K) p := h5 _ _ (by omega) (by omega)
  refine ⟨_, _, e, ?_⟩
  rw [ex]
  have o : ∀ m j, ¬ (m = 29 ∧ j = 36) → ¬ (m = cr p ∧ j = cc p) → upS (upS t (0, 29) 36 (nI (p + 1))) (0, cr p) (cc p) (τ (0, K) p) (0, m) j = t (0, m) j := fun m j c2 c => by
    rw [upS_o (fun q => c ⟨(Prod.mk.inj q.1).2, q.2⟩), upS_o (fun q => c2 ⟨(Prod.mk.inj q.1).2, q.2⟩)]
  refine ⟨?_, ?_, ?_, ?_, ?_⟩
  · rw [upS_o (fun q => by have := (Prod.mk.inj q.1).2; omega), upS_at]
  · rw [o 29 37 (by omega) (by omega)]; exact h2
  · rw [o 29 38 (by omega) (by omega)]; exact h3
  · intro q hq
    by_cases c : q = p
    · subst c; rw [upS_at]
    · have hr2 := cl_row q
      rw [o _ _ (by omega) (cl_inj (by omega))]; exact h4 q (by omega)
  · intro m j c1 c2
    rw [o m j (by omega) (by omega)]; exact h5 m j c1 c2
theorem CB_0 {K : Nat} {z : Int32} (τ : Sg) : CB K z τ 0 (upS (upS (upS τ (0, 29) 38 z) (0, 29) 37 0) (0, 29) 36 0) := by
  refine ⟨upS_at, ?_, ?_, fun q hq => absurd hq (Nat.not_lt_zero _), fun m j c2 _ => ?_⟩
  · rw [upS_off (by decide), upS_at]
  · rw [upS_off (by decide), upS_off (by decide), upS_at]
  · rw [upS_o (fun q => c2 ⟨(Prod.mk.inj q.1).2, by omega⟩), upS_o (fun q => c2 ⟨(Prod.mk.inj q.1).2, by omega⟩), upS_o (fun q => c2 ⟨(Prod.mk.inj q.1).2, by omega⟩)]
theorem CB_sh {K : Nat} {z : Int32} {τ t : Sg} {v : Vw} (hw : WF v) (hI : shI (τ (0, K)) v) (H : CB K z τ 805 t) : shM t v := by
  obtain ⟨_, _, _, h, _⟩ := H
  obtain ⟨⟨a0, a1, a2, a3, a4⟩, b, c, d⟩ := hI
  have ht := (tn24 hw.1).1
  have s : ∀ q, q < 5 → t (0, 29) q = τ (0, K) q := fun q hq => by have := h q (by omega); rw [(cl_s hq).1, (cl_s hq).2] at this; exact this
  have g : ∀ k r, k < 24 → r < 8 → t (0, 30 + r) k = τ (0, K) (5 + 8 * k + r) := fun k r hk hr => by have := h (5 + 8 * k + r) (by omega); rw [(cl_f hk hr).1, (cl_f hk hr).2] at this; exact this
  have g2 : ∀ i r, i < 8 → r < 4 → t (0, 39 + r) i = τ (0, K) (773 + 4 * i + r) := fun i r hi hr => by have := h (773 + 4 * i + r) (by omega); rw [(cl_h hi hr).1, (cl_h hi hr).2] at this; exact this
  refine ⟨⟨⟨by rw [s 0 (by decide), a0], by rw [s 1 (by decide), a1], by rw [s 2 (by decide), a2], by rw [s 4 (by decide), a4]⟩, fun p hp => ?_, fun p hp => ?_, fun i hi => ?_⟩, by rw [s 3 (by decide), a3], fun p hp => ?_, fun k hk => ?_⟩
  · obtain ⟨b1, b2, b3, b4, b5, b6, b7, b8⟩ := b p hp
    refine ⟨(g p 0 hp (by decide)).trans b1, (g p 2 hp (by decide)).trans ?_, (g p 3 hp (by decide)).trans ?_, (g p 4 hp (by decide)).trans ?_⟩
    · rw [show 5 + 8 * p + 2 = 7 + 8 * p by omega]; exact b3
    · rw [show 5 + 8 * p + 3 = 8 + 8 * p by omega]; exact b4
    · rw [show 5 + 8 * p + 4 = 9 + 8 * p by omega]; exact b5
  · have hp24 : p < 24 := by omega
    refine (g p 5 hp24 (by decide)).trans ?_
    rw [show 5 + 8 * p + 5 = 10 + 8 * p by omega]; exact (b p hp24).2.2.2.2.2.1 hp
  · obtain ⟨d1, d2, d3, d4⟩ := d i hi
    refine ⟨(g2 i 0 hi (by decide)).trans d1, (g2 i 1 hi (by decide)).trans ?_, (g2 i 2 hi (by decide)).trans ?_, (g2 i 3 hi (by decide)).trans ?_⟩
    · rw [show 773 + 4 * i + 1 = 774 + 4 * i by omega]; exact d2
    · rw [show 773 + 4 * i + 2 = 775 + 4 * i by omega]; exact d3
    · rw [show 773 + 4 * i + 3 = 776 + 4 * i by omega]; exact d4
  · obtain ⟨b1, b2, b3, b4, b5, b6, b7, b8⟩ := b p hp
    refine ⟨(g p 1 hp (by decide)).trans ?_, (g p 6 hp (by decide)).trans ?_, (g p 7 hp (by decide)).trans ?_⟩
    · rw [show 5 + 8 * p + 1 = 6 + 8 * p by omega]; exact b2
    · rw [show 5 + 8 * p + 6 = 11 + 8 * p by omega]; exact b7
    · rw [show 5 + 8 * p + 7 = 12 + 8 * p by omega]; exact b8
  · have := h (197 + k) (by omega)
    rw [(cl_a hk).1, (cl_a hk).2] at this
    rw [this]; exact c k hk
theorem CB_fm {K : Nat} {z : Int32} {τ t : Sg} (H : CB K z τ 805 t) : FM1 τ t := by
  obtain ⟨_, _, _, _, h⟩ := H
  refine ⟨fun k hk => h 29 k (by simp only [List.mem_cons, List.not_mem_nil, or_false] at hk; omega) (by omega), fun m hm => ?_⟩
  simp only [List.mem_cons, List.not_mem_nil, or_false] at hm
  funext j
  exact h m j (by omega) (by omega)
theorem CT_fm {z : Int32} {τ t : Sg} (H : CT 52 z τ 805 t) : FM τ t := by
  obtain ⟨_, _, _, _, h⟩ := H
  refine ⟨fun k hk => h 29 k (by decide) (by simp only [kS, List.mem_cons, List.not_mem_nil, or_false] at hk; omega), fun m hm => ?_⟩
  simp only [kM, List.mem_cons, List.not_mem_nil, or_false] at hm
  funext j
  exact h m j (by omega) (by omega)
/-- the numbers kept -/
theorem r_take {τ : Sg} {v : Vw} (hm : shM τ v) : ∃ t, f_X7_carryAll (0, 52) 1 τ = some ((), t) ∧ FM τ t ∧ shI (t (0, 52)) v := by
  obtain ⟨t, e, h⟩ := ca_gen (K := 52) (CT_s (K := 52) (z := 1) rfl (by decide) (Or.inl rfl) τ) (Or.inl rfl) rfl (Or.inr rfl) τ (CT_0 (by decide) τ)
  exact ⟨t, e, CT_fm h, CT_sh hm h⟩
theorem r_lay {τ : Sg} {v : Vw} (hw : WF v) (hI : shI (τ (0, 52)) v) : ∃ t, f_X7_carryAll (0, 52) 0 τ = some ((), t) ∧ FM1 τ t ∧ shM t v := by
  obtain ⟨t, e, h⟩ := ca_gen (K := 52) (CB_s (K := 52) (z := 1) rfl (by decide) (Or.inl rfl) τ) (Or.inl rfl) rfl (Or.inl rfl) τ (CB_0 τ)
  exact ⟨t, e, CB_fm h, CB_sh hw hI h⟩
theorem E_image_R : E_image Rel := by
  intro σ τ hR0
  have hR := hR0.thrown
  unfold f_X6_image f_X7_image
  rw [bv_eq (upS τ (0, 29) 18 0)]
  generalize upS τ (0, 29) 18 0 = τ1 at hR ⊢
  have hc := CS1 σ
  have hw := hR.1.1
  have hm := hR.1.2
  obtain ⟨s1, e1, ve, a1⟩ := c_copy (h := 2) (g := 1) (by decide) σ
  obtain ⟨t, e2, h⟩ := ca_gen (K := 53) (CT_s (K := 53) (z := 2) rfl (by decide) (Or.inr rfl) (upS τ1 (0, 29) 35 1)) (Or.inr rfl) rfl (Or.inr rfl) (upS τ1 (0, 29) 35 1) (CT_0 (by decide) _)
  have hm2 : shM (upS τ1 (0, 29) 35 1) (hv σ 1) := by
    obtain ⟨d1, d2, d3, d4⟩ := hm
    refine ⟨RS_of d1 (fun k hk => by rw [upS_off (by omega)]) (fun m hm' => by rw [upS_ne (cne (by simp only [List.mem_cons, List.not_mem_nil, or_false] at hm'; omega))]), ?_, ?_, ?_⟩
    · rw [upS_off (by decide)]; exact d2
    · rw [upS_ne (by decide), upS_ne (by decide), upS_ne (by decide)]; exact d3
    · rw [upS_ne (by decide)]; exact d4
  have hI := CT_sh hm2 h
  obtain ⟨_, _, _, _, h5⟩ := h
  have es : ∀ k, k ≠ 35 → ¬ (36 ≤ k ∧ k ≤ 38) → t (0, 29) k = τ1 (0, 29) k := fun k c1 c2 => by rw [h5 29 k (by decide) (by omega), upS_off c1]
  have em : ∀ m, m ≠ 29 → m ≠ 53 → t (0, m) = τ1 (0, m) := fun m c1 c2 => by
    funext j
    rw [h5 m j c2 (by omega), upS_ne (cne c1)]
  rw [e1, bd_some, bv_eq, bv_eq, e2, bd_some]
  have e6 : (upS s1 (0, 0) 8 1) (1, 6) 4 = hv σ 1 6 4 := by rw [upS_ne (by decide), a1 _ (by decide)]; rfl
  have eh1 : hv (upS s1 (0, 0) 8 1) 1 = hv σ 1 := hv_eq (fun m _ => by rw [upS_ne (cneh (by decide)), a1 _ (by show (1 : Nat) ≠ 2; decide)])
  have eh2 : hv (upS s1 (0, 0) 8 1) 2 = hv s1 2 := hv_eq (fun m _ => by rw [upS_ne (cneh (by decide))])
  have e0 : ∀ m, m ≠ 0 → (upS s1 (0, 0) 8 1) (0, m) = σ (0, m) := fun m c => by rw [upS_ne (cne c), a1 _ (by show (0 : Nat) ≠ 2; decide)]
  have e00 : ∀ k, k ≠ 8 → (upS s1 (0, 0) 8 1) (0, 0) k = σ (0, 0) k := fun k c => by rw [upS_off c, a1 _ (by show (0 : Nat) ≠ 2; decide)]
  refine ⟨hv σ 1 6 4, _, t, by rw [e6], ?_, ⟨by rw [eh1]; exact hw, ?_⟩, ⟨?_, ?_, ?_⟩, ?_, ?_⟩
  · rw [es 3 (by decide) (by decide)]; rw [hm.2.1]
  · rw [eh1]
    obtain ⟨d1, d2, d3, d4⟩ := hm
    refine ⟨RS_of d1 (fun k hk => es k (by omega) (by omega)) (fun m hm' => em m (by simp only [List.mem_cons, List.not_mem_nil, or_false] at hm'; omega) (by simp only [List.mem_cons, List.not_mem_nil, or_false] at hm'; omega)), ?_, ?_, ?_⟩
    · rw [es 3 (by decide) (by decide)]; exact d2
    · rw [em 31 (by decide) (by decide), em 36 (by decide) (by decide), em 37 (by decide) (by decide)]; exact d3
    · rw [em 38 (by decide) (by decide)]; exact d4
  · rw [e0 4 (by decide), e0 5 (by decide), es 26 (by decide) (by decide), em 48 (by decide) (by decide)]; exact hR.2.1.1
  · rw [e00 7 (by decide), e0 1 (by decide), es 42 (by decide) (by decide), em 56 (by decide) (by decide)]; exact hR.2.1.2.1
  · rw [e0 2 (by decide), em 43 (by decide) (by decide)]; exact hR.2.1.2.2
  · rw [upS_at, h5 29 35 (by decide) (by decide), upS_at]
  · intro _
    rw [eh2]
    exact ⟨hw.ve ve, hI.ve ve⟩
theorem E_restore_R : E_restore Rel := by
  intro σ τ hR0
  have hR := hR0.thrown
  unfold f_X6_restore f_X7_restore
  rw [bv_eq (upS τ (0, 29) 18 0)]
  generalize upS τ (0, 29) 18 0 = τ1 at hR ⊢
  have hc := CS1 σ
  have hw := hR.1.1
  have hm := hR.1.2
  obtain ⟨c1, c2⟩ := hR.2.2
  by_cases h : τ1 (0, 29) 35 = 0
  · rw [if_pos (c1.trans h), if_pos h]; (obtain ⟨σ', τ', e1, e2, h⟩ := refuse_3 hR; exact ⟨_, σ', τ', by rw [e1, bd_some], by rw [e2, bd_some], h⟩)
  · obtain ⟨hw2, hI⟩ := c2 h
    obtain ⟨s1, e1, ve, a1⟩ := c_copy (h := 1) (g := 2) (by decide) σ
    obtain ⟨t, e2, hb⟩ := ca_gen (K := 53) (CB_s (K := 53) (z := 2) rfl (by decide) (Or.inr rfl) τ1) (Or.inr rfl) rfl (Or.inl rfl) τ1 (CB_0 τ1)
    have hsh := CB_sh hw2 hI hb
    have hfm := CB_fm hb
    rw [if_neg (fun q => h (c1.symm.trans q)), if_neg h, e1, bd_some, e2, bd_some]
    have e64 : s1 (1, 6) 4 = hv σ 2 6 4 := ve 6 4 (by unfold vk; omega)
    refine ⟨hv σ 2 6 4, s1, t, by rw [e64], by rw [hsh.2.1], hR.upN (fun c h1 _ _ => a1 c h1) hfm ⟨hw2.ve ve, hsh.ve ve hw2⟩⟩
