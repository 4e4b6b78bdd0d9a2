/-! ===== flats that are changed by two or three ===== -/
def ringv (v : Vw) (a b c pa pb pc : Nat) : Vw := uv (uv (uv (uv (uv (uv v 14 a (nI pb)) 13 pb (nI a)) 14 b (nI pc)) 13 pc (nI b)) 14 c (nI pa)) 13 pa (nI c)
theorem upd3 {f : Nat → Int32} {k j : Nat} {x y z : Int32} : upd (upd (upd f k x) j y) k z = upd (upd f j y) k z := by
  funext i
  unfold upd
  by_cases h : i = k
  · simp only [h, if_true]
  · simp only [h, if_false]
theorem upd2 {f : Nat → Int32} {k : Nat} {x y : Int32} : upd (upd f k x) k y = upd f k y := by
  funext i
  unfold upd
  by_cases h : i = k
  · simp only [h, if_true]
  · simp only [h, if_false]
theorem ringv_14 (v : Vw) (a b c pa pb pc : Nat) : ringv v a b c pa pb pc 14 = upd (upd (upd (v 14) a (nI pb)) b (nI pc)) c (nI pa) := rfl
theorem ringv_13 (v : Vw) (a b c pa pb pc : Nat) : ringv v a b c pa pb pc 13 = upd (upd (upd (v 13) pb (nI a)) pc (nI b)) pa (nI c) := rfl
theorem ringv_ne {v : Vw} {a b c pa pb pc r : Nat} (h1 : r ≠ 13) (h2 : r ≠ 14) : ringv v a b c pa pb pc r = v r := by
  unfold ringv
  rw [uv_ne h1, uv_ne h2, uv_ne h1, uv_ne h2, uv_ne h1, uv_ne h2]
theorem chg_ne {v : Vw} {a b pa pb r : Nat} (h1 : r ≠ 13) (h2 : r ≠ 14) : chg v a b pa pb r = v r := by
  unfold chg
  rw [uv_ne h1, uv_ne h2, uv_ne h1, uv_ne h2]
theorem WFs_ring {v : Vw} (H : WFs v) {a b c pa pb pc : Nat} (ha : a < tn v) (hb : b < tn v) (hc : c < tn v) (hab : a ≠ b) (hac : a ≠ c) (hbc : b ≠ c) (hpa : vp v pa) (ea : v 14 a = nI pa) (ea' : v 13 pa = nI a) (hpb : vp v pb) (eb : v 14 b = nI pb) (eb' : v 13 pb = nI b) (hpc : vp v pc) (ec : v 14 c = nI pc) (ec' : v 13 pc = nI c) : WFs (ringv v a b c pa pb pc) := by
  have ht := (tn24 H).1
  have h1 := WFs_chg H ha hb hab hpa ea ea' hpb eb eb'
  have n1 : pc ≠ pa := fun e => hac (by subst e; exact nI_inj24 (by omega) (by omega) (ea'.symm.trans ec'))
  have n2 : pc ≠ pb := fun e => hbc (by subst e; exact nI_inj24 (by omega) (by omega) (eb'.symm.trans ec'))
  have h2 := WFs_chg (v := chg v a b pa pb) h1 (a := b) (b := c) (pa := pa) (pb := pc) hb hc hbc hpa (by rw [chg_14, pk_us]) (by rw [chg_13, pk_us]) hpc (by rw [chg_14, pk_un hbc.symm, pk_un hac.symm]; exact ec) (by rw [chg_13, pk_un n1, pk_un n2]; exact ec')
  have e14 : ringv v a b c pa pb pc 14 = chg (chg v a b pa pb) b c pa pc 14 := by rw [ringv_14, chg_14, chg_14, upd2]
  have e13 : ringv v a b c pa pb pc 13 = chg (chg v a b pa pb) b c pa pc 13 := by rw [ringv_13, chg_13, chg_13, upd3]
  refine WFs_rows (fun m hm => ?_) h2
  simp only [List.mem_cons, List.not_mem_nil, or_false] at hm
  by_cases c14 : m = 14
  · subst c14; exact e14
  · by_cases c13 : m = 13
    · subst c13; exact e13
    · rw [ringv_ne c13 c14, chg_ne c13 c14, chg_ne c13 c14]
theorem c_ring {s : Sg} {v : Vw} {a b c pa pb pc : Nat} (hc : CS 3 s v) (ha : a < 24) (hb : b < 24) (hc24 : c < 24) (hac : a ≠ c) (hpa : pa < 24) (hpb : pb < 24) (hpc : pc < 24) (ea : v 14 a = nI pa) (eb : v 14 b = nI pb) (ec : v 14 c = nI pc) : ∃ s', f_X0_ring 3 (nI a) (nI b) (nI c) s = some ((), s') ∧ CS 3 s' (ringv v a b c pa pb pc) ∧ (∀ x, x ≠ (3, 13) → x ≠ (3, 14) → s' x = s x) := by
  have e1 : s (3, 14) a = nI pa := by rw [(hc.2.1 a ha).2.2.2.2.2]; exact ea
  have e2 : s (3, 14) b = nI pb := by rw [(hc.2.1 b hb).2.2.2.2.2]; exact eb
  have e3 : (upS (upS s (3, 14) a (nI pb)) (3, 13) pb (nI a)) (3, 14) c = nI pc := by rw [upS_ne (by decide), upS_off hac.symm, (hc.2.1 c hc24).2.2.2.2.2]; exact ec
  refine ⟨_, ?_, (((((hc.up 14 a (nI pb)).up 13 pb (nI a)).up 14 b (nI pc)).up 13 pc (nI b)).up 14 c (nI pa)).up 13 pa (nI c), fun x h1 h2 => by rw [upS_ne h1, upS_ne h2, upS_ne h1, upS_ne h2, upS_ne h1, upS_ne h2]⟩
  unfold f_X0_ring f_X0_settle
  rw [e_get_nI (n := 24) _ rfl ha, bd_some, e_get_nI (n := 24) _ rfl hb, bd_some, e1, e2, e_set_nI (n := 24) _ rfl ha, bd_some, e_set_nI (n := 24) _ rfl hpb, bd_some, bd_some, e_get_nI (n := 24) _ rfl hc24, bd_some, e3, e_set_nI (n := 24) _ rfl hb, bd_some, e_set_nI (n := 24) _ rfl hpc, bd_some, bd_some, e_set_nI (n := 24) _ rfl hc24, bd_some, e_set_nI (n := 24) _ rfl hpa, bd_some, bd_some]
theorem gn_le {a b : Nat} (ha : a ≤ 6912) (hb : b ≤ 6912) : (nI a - nI b ≤ 0) ↔ (nI a ≤ nI b) := by
  have h1 : (0 : Int32) ≤ nI a := nI_pos' (by omega)
  have h2 : (0 : Int32) ≤ nI b := nI_pos' (by omega)
  have h3 : nI a ≤ nI 6912 := nI_le ha (by decide)
  have h4 : nI b ≤ nI 6912 := nI_le hb (by decide)
  change nI a ≤ 6912 at h3
  change nI b ≤ 6912 at h4
  generalize nI a = x at *
  generalize nI b = y at *
  constructor <;> intro h <;> grind
theorem gn0 {B D : Nat → Int32} {t : Nat} (kB : ∃ a, a ≤ 6912 ∧ B t = nI a) (kD : ∃ a, a ≤ 6912 ∧ D t = nI a) : (B t - D t ≤ 0 ↔ B t ≤ D t) ∧ (B t ≤ 0 → B t ≤ D t) := by
  obtain ⟨a, ha, ea⟩ := kB
  obtain ⟨b, hb, eb⟩ := kD
  rw [ea, eb]
  refine ⟨gn_le ha hb, fun h => ?_⟩
  have h2 : (0 : Int32) ≤ nI b := nI_pos' (by omega)
  exact Int32.le_trans h h2
/-! a trial of two flats changed -/
theorem c_two {σ s2 s : Sg} {a b pa pb : Nat} (hw : WF (hv σ 1)) (hg : FC σ s2) (hf : FC3 s2 s) (ha : a < tn (hv σ 1)) (hb : b < tn (hv σ 1)) (hab : a ≠ b) (hpa : vp (hv σ 1) pa) (ea : hv σ 1 14 a = nI pa) (ea' : hv σ 1 13 pa = nI a) (hpb : vp (hv σ 1) pb) (eb : hv σ 1 14 b = nI pb) (eb' : hv σ 1 13 pb = nI b) : ∃ s0 s1 s' r, f_X6_tryAnew s = some ((), s0) ∧ f_X0_change 3 (nI a) (nI b) s0 = some ((), s1) ∧ f_X2_spendWeek 3 s1 = some (r, s') ∧ (∀ t, t < 24 → s' (3, 23) t = wd (chg (hv σ 1) a b pa pb) (hv σ 1) t) ∧ FC3 s2 s' := by
  have ht := (tn24 hw.1).1
  obtain ⟨s0, e0, a1, a2, a3⟩ := c_anew s
  rw [(hg.f3 hf).hv] at a1 a2
  have e1 := c_change a1 (show a < 24 by omega) (show b < 24 by omega) hab hpa.1 hpb.1 ea eb
  obtain ⟨s3, e3, b1, _, _, b2⟩ := c_wk3 (w := hv σ 1) (WFs_chg hw.1 ha hb hab hpa ea ea' hpb eb eb') (a1.chg a b pa pb) (fun p hp => by rw [upS_ne (cne (by decide)), upS_ne (cne (by decide)), upS_ne (cne (by decide)), upS_ne (cne (by decide))]; exact a2 p hp) hw.2.1
  refine ⟨s0, _, s3, _, e0, e1, e3, b1, fun x hx => ?_⟩
  have hne : ∀ m, x ≠ (3, m) := fun m e => hx (by rw [e])
  rw [b2 x hx, upS_ne (hne 13), upS_ne (hne 14), upS_ne (hne 13), upS_ne (hne 14), a3 x hx, hf x hx]
theorem r_two {t : Sg} {v : Vw} {a b pa pb : Nat} {B : Nat → Int32} (hw : WF v) (hm : shM t v) (h55 : ∀ u, u < 24 → t (0, 55) u = B u) (ha : a < tn v) (hb : b < tn v) (hab : a ≠ b) (hpa : vp v pa) (ea : v 14 a = nI pa) (ea' : v 13 pa = nI a) (hpb : vp v pb) (eb : v 14 b = nI pb) (eb' : v 13 pb = nI b) : ∃ t1 t2 t3, f_X7_change (nI a) (nI b) t = some ((), t1) ∧ f_X7_haveLess (nI a) (nI b) t1 = some (if B a ≤ wd (chg v a b pa pb) v a then 0 else if B b ≤ wd (chg v a b pa pb) v b then 0 else 1, t2) ∧ f_X7_change (nI a) (nI b) t2 = some ((), t3) ∧ FM t t3 ∧ (∀ u, u < 24 → t3 (0, 55) u = B u) := by
  have ht := (tn24 hw.1).1
  have ha24 : a < 24 := by omega
  have hb24 : b < 24 := by omega
  have e1 := r_change hm.1 ha hb ha24 hb24 ea eb
  obtain ⟨t2, e2, k2, x2, r2, rf⟩ := r_wkX hm (((FXo.refl (fun m j => m = 35 ∧ (j = a ∨ j = b)) t).up (m := 35) (i := a) ⟨rfl, Or.inl rfl⟩ (by decide) (nI pb)).up (m := 35) (i := b) ⟨rfl, Or.inr rfl⟩ (by decide) (nI pa)) (hm.1.chg a b pa pb) (fun j h => absurd h.1 (by decide)) (WFs_chg hw.1 ha hb hab hpa ea ea' hpb eb eb') hw.2.1
  have e3 := r_change (a := a) (b := b) (pa := pb) (pb := pa) r2 ha hb ha24 hb24 (by rw [chg_14, pk_un hab, pk_us]) (by rw [chg_14, pk_us])
  have h55' : ∀ u, u < 24 → t2 (0, 55) u = B u := fun u hu => by rw [rf.2 _ (by decide) (by decide) (by decide) (by decide) (by decide), upS_ne (by decide), upS_ne (by decide)]; exact h55 u hu
  refine ⟨_, t2, _, e1, ?_, e3, ((x2.up (m := 35) (i := a) ⟨rfl, Or.inl rfl⟩ (by decide) (nI pa)).up (m := 35) (i := b) ⟨rfl, Or.inr rfl⟩ (by decide) (nI pb)).back ?_, ?_⟩
  · unfold f_X7_haveLess
    rw [e2, bd_some]
    simp only [chk_t (inb24 ha24), chk_t (inb24 hb24)]
    rw [nI_clamp (by omega), nI_clamp (by omega), h55' a ha24, h55' b hb24, k2 a ha24, k2 b hb24]
    by_cases c : B a ≤ wd (chg v a b pa pb) v a
    · rw [if_pos c, if_pos c]
    · rw [if_neg c, if_neg c]
      by_cases c' : B b ≤ wd (chg v a b pa pb) v b
      · rw [if_pos c', if_pos c']
      · rw [if_neg c', if_neg c']
  · rintro m' _ j ⟨rfl, rfl | rfl⟩
    · rw [upS_off hab, upS_at, hm.1.2.2.1 j ha]; exact ea.symm
    · rw [upS_at, hm.1.2.2.1 j hb]; exact eb.symm
  · intro u hu
    rw [upS_ne (by decide), upS_ne (by decide)]; exact h55' u hu
/-! a trial of three flats changed in a ring -/
theorem c_three {σ s2 s : Sg} {a b c pa pb pc : Nat} (hw : WF (hv σ 1)) (hg : FC σ s2) (hf : FC3 s2 s) (ha : a < tn (hv σ 1)) (hb : b < tn (hv σ 1)) (hc : c < tn (hv σ 1)) (hab : a ≠ b) (hac : a ≠ c) (hbc : b ≠ c) (hpa : vp (hv σ 1) pa) (ea : hv σ 1 14 a = nI pa) (ea' : hv σ 1 13 pa = nI a) (hpb : vp (hv σ 1) pb) (eb : hv σ 1 14 b = nI pb) (eb' : hv σ 1 13 pb = nI b) (hpc : vp (hv σ 1) pc) (ec : hv σ 1 14 c = nI pc) (ec' : hv σ 1 13 pc = nI c) : ∃ s0 s1 s' r, f_X6_tryAnew s = some ((), s0) ∧ f_X0_ring 3 (nI a) (nI b) (nI c) s0 = some ((), s1) ∧ f_X2_spendWeek 3 s1 = some (r, s') ∧ (∀ t, t < 24 → s' (3, 23) t = wd (ringv (hv σ 1) a b c pa pb pc) (hv σ 1) t) ∧ FC3 s2 s' := by
  have ht := (tn24 hw.1).1
  obtain ⟨s0, e0, a1, a2, a3⟩ := c_anew s
  rw [(hg.f3 hf).hv] at a1 a2
  obtain ⟨s1, e1, b1, b2⟩ := c_ring a1 (show a < 24 by omega) (show b < 24 by omega) (show c < 24 by omega) hac hpa.1 hpb.1 hpc.1 ea eb ec
  obtain ⟨s3, e3, d1, _, _, d2⟩ := c_wk3 (w := hv σ 1) (WFs_ring hw.1 ha hb hc hab hac hbc hpa ea ea' hpb eb eb' hpc ec ec') b1 (fun p hp => by rw [b2 _ (cne (by decide)) (cne (by decide))]; exact a2 p hp) hw.2.1
  refine ⟨s0, s1, s3, _, e0, e1, e3, d1, fun x hx => ?_⟩
  have hne : ∀ m, x ≠ (3, m) := fun m e => hx (by rw [e])
  rw [d2 x hx, b2 x (hne 13) (hne 14), a3 x hx, hf x hx]
theorem r_three {t : Sg} {v : Vw} {a b c pa pb pc : Nat} {B : Nat → Int32} (hw : WF v) (hm : shM t v) (h55 : ∀ u, u < 24 → t (0, 55) u = B u) (ha : a < tn v) (hb : b < tn v) (hc : c < tn v) (hab : a ≠ b) (hac : a ≠ c) (hbc : b ≠ c) (hpa : vp v pa) (ea : v 14 a = nI pa) (ea' : v 13 pa = nI a) (hpb : vp v pb) (eb : v 14 b = nI pb) (eb' : v 13 pb = nI b) (hpc : vp v pc) (ec : v 14 c = nI pc) (ec' : v 13 pc = nI c) : ∃ t3, f_X7_isRing (nI a) (nI b) (nI c) t = some (if B a ≤ wd (ringv v a b c pa pb pc) v a then 0 else if B b ≤ wd (ringv v a b c pa pb pc) v b then 0 else if B c ≤ wd (ringv v a b c pa pb pc) v c then 0 else 1, t3) ∧ FM t t3 ∧ (∀ u, u < 24 → t3 (0, 55) u = B u) := by
  have ht := (tn24 hw.1).1
  have ha24 : a < 24 := by omega
  have hb24 : b < 24 := by omega
  have hc24 : c < 24 := by omega
  have ia := inb24 ha24
  have ib := inb24 hb24
  have ic := inb24 hc24
  have ka : (nI a).toNatClampNeg = a := nI_clamp (by omega)
  have kb : (nI b).toNatClampNeg = b := nI_clamp (by omega)
  have kc : (nI c).toNatClampNeg = c := nI_clamp (by omega)
  have g1 : t (0, 35) a = nI pa := by rw [hm.1.2.2.1 a ha]; exact ea
  have g2 : t (0, 35) b = nI pb := by rw [hm.1.2.2.1 b hb]; exact eb
  have g3 : (upS t (0, 35) a (nI pb)) (0, 35) c = nI pc := by rw [upS_off hac.symm, hm.1.2.2.1 c hc]; exact ec
  have hr : RS (upS (upS (upS t (0, 35) a (nI pb)) (0, 35) b (nI pc)) (0, 35) c (nI pa)) (ringv v a b c pa pb pc) := ((hm.1.up (m := 14) (by decide) a (nI pb)).up (m := 14) (by decide) b (nI pc)).up (m := 14) (by decide) c (nI pa)
  obtain ⟨t2, e2, k2, x2, r2, rf⟩ := r_wkX hm ((((FXo.refl (fun m j => m = 35 ∧ (j = a ∨ j = b ∨ j = c)) t).up (m := 35) (i := a) ⟨rfl, Or.inl rfl⟩ (by decide) (nI pb)).up (m := 35) (i := b) ⟨rfl, Or.inr (Or.inl rfl)⟩ (by decide) (nI pc)).up (m := 35) (i := c) ⟨rfl, Or.inr (Or.inr rfl)⟩ (by decide) (nI pa)) hr (fun j h => absurd h.1 (by decide)) (WFs_ring hw.1 ha hb hc hab hac hbc hpa ea ea' hpb eb eb' hpc ec ec') hw.2.1
  have h55' : ∀ u, u < 24 → t2 (0, 55) u = B u := fun u hu => by rw [rf.2 _ (by decide) (by decide) (by decide) (by decide) (by decide), upS_ne (by decide), upS_ne (by decide), upS_ne (by decide)]; exact h55 u hu
  have q1 : t2 (0, 35) b = nI pc := by rw [rf.2 _ (by decide) (by decide) (by decide) (by decide) (by decide), upS_off hbc, upS_at]
  have q2 : (upS t2 (0, 35) c (nI pc)) (0, 35) a = nI pb := by rw [upS_off hac, rf.2 _ (by decide) (by decide) (by decide) (by decide) (by decide), upS_off hac, upS_off hab, upS_at]
  have hb69 : ∀ w0 : Int32, w0 = 0 ∨ w0 = 1 → f_X7_isRing_69 (nI a) (nI b) (nI c) (nI pa) w0 t2 = some (w0, upS (upS (upS t2 (0, 35) c (nI pc)) (0, 35) b (nI pb)) (0, 35) a (nI pa)) := fun w0 h0 => by
    unfold f_X7_isRing_69
    simp only [chk_t ia, chk_t ib, chk_t ic, bv_eq, chk_t h0]
    rw [ka, kb, kc, q1, q2]
  refine ⟨upS (upS (upS t2 (0, 35) c (nI pc)) (0, 35) b (nI pb)) (0, 35) a (nI pa), ?_, (((x2.up (m := 35) (i := c) ⟨rfl, Or.inr (Or.inr rfl)⟩ (by decide) (nI pc)).up (m := 35) (i := b) ⟨rfl, Or.inr (Or.inl rfl)⟩ (by decide) (nI pb)).up (m := 35) (i := a) ⟨rfl, Or.inl rfl⟩ (by decide) (nI pa)).back ?_, ?_⟩
  · unfold f_X7_isRing f_X7_isRing_68 f_X7_haveLess
    simp only [chk_t ia, chk_t ib, chk_t ic, bv_eq]
    rw [ka, kb, kc, g1, g2, g3, e2, bd_some, h55' a ha24, h55' b hb24, k2 a ha24, k2 b hb24]
    by_cases c1 : B a ≤ wd (ringv v a b c pa pb pc) v a
    · rw [if_pos c1, if_pos c1, bd_some, if_pos rfl]; exact hb69 0 (Or.inl rfl)
    · rw [if_neg c1, if_neg c1]
      by_cases c2 : B b ≤ wd (ringv v a b c pa pb pc) v b
      · rw [if_pos c2, if_pos c2, bd_some, if_pos rfl]; exact hb69 0 (Or.inl rfl)
      · rw [if_neg c2, if_neg c2, bd_some, if_neg h10, h55' c hc24, k2 c hc24]
        by_cases c3 : B c ≤ wd (ringv v a b c pa pb pc) v c
        · rw [if_pos c3, if_pos c3]; exact hb69 0 (Or.inl rfl)
        · rw [if_neg c3, if_neg c3]; exact hb69 1 (Or.inr rfl)
  · rintro m' _ j ⟨rfl, rfl | rfl | rfl⟩
    · rw [upS_at, hm.1.2.2.1 j ha]; exact ea.symm
    · rw [upS_off hab.symm, upS_at, hm.1.2.2.1 j hb]; exact eb.symm
    · rw [upS_off hac.symm, upS_off hbc.symm, upS_at, hm.1.2.2.1 j hc]; exact ec.symm
  · intro u hu
    rw [upS_ne (by decide), upS_ne (by decide), upS_ne (by decide)]; exact h55' u hu
/-! the class goes over those behind the tenants, and over those whom nothing harms -/
theorem p15_skip {s : Sg} {B : Nat → Int32} {T a : Nat} (hB : ∀ t, t < 24 → s (0, 3) t = B t) (h0 : ∀ t, t < 24 → T ≤ t → B t ≤ 0) (ha : a < 24) (k4 : Int32 → Int32 → Int32 → Sg → Option (Int32 × Sg)) (x y : Int32) : ∀ d b n, b + d = 24 → d < n → (B a ≤ 0 ∨ T ≤ b) → f_X6_pairs_15 k4 n x y (nI a) (nI b) s = k4 x y (nI (a + 1)) s := by
  intro d
  induction d with
  | zero =>
    intro b n hb hn _
    obtain ⟨n, rfl⟩ : ∃ k, n = k + 1 := ⟨n - 1, by omega⟩
    have : b = 24 := by omega
    subst this
    rw [f_X6_pairs_15, if_pos (by decide), nI_1]
  | succ d ih =>
    intro b n hb hn h
    obtain ⟨n, rfl⟩ : ∃ k, n = k + 1 := ⟨n - 1, by omega⟩
    have hb24 : b < 24 := by omega
    have nxt := ih (b + 1) n (by omega) (by omega) (h.imp id (fun q => by omega))
    rw [f_X6_pairs_15, if_neg (show ¬ (24 : Int32) ≤ nI b from nI_ge hb24 (by decide)), e_get_nI (n := 24) _ rfl ha, bd_some, hB a ha]
    unfold f_X6_pairs_102
    rw [nI_1]
    by_cases c : B a ≤ 0
    · rw [if_pos c]; exact nxt
    · rw [if_neg c, e_get_nI (n := 24) _ rfl hb24, bd_some, hB b hb24, if_pos (h0 b hb24 (h.elim (fun q => absurd q c) id))]; exact nxt
theorem p4_skip {s : Sg} {B : Nat → Int32} {T : Nat} (hB : ∀ t, t < 24 → s (0, 3) t = B t) (h0 : ∀ t, t < 24 → T ≤ t → B t ≤ 0) (x y : Int32) : ∀ d a n, a + d = 24 → d < n → T ≤ a → f_X6_pairs_4 n x y (nI a) s = some (if x = 0 then y else -9, s) := by
  intro d
  induction d with
  | zero =>
    intro a n ha hn _
    obtain ⟨n, rfl⟩ : ∃ k, n = k + 1 := ⟨n - 1, by omega⟩
    have : a = 24 := by omega
    subst this
    rw [f_X6_pairs_4, if_pos (by decide)]
  | succ d ih =>
    intro a n ha hn h
    obtain ⟨n, rfl⟩ : ∃ k, n = k + 1 := ⟨n - 1, by omega⟩
    have ha24 : a < 24 := by omega
    rw [f_X6_pairs_4, if_neg (show ¬ (24 : Int32) ≤ nI a from nI_ge ha24 (by decide)), bv_eq, nI_1, p15_skip hB h0 ha24 _ x y (24 - (a + 1)) (a + 1) fuel (by omega) (by show _ < 2000; omega) (Or.inl (h0 a ha24 h))]
    exact ih (a + 1) n (by omega) (by omega) (by omega)
theorem told100 : ∀ a, a < 24 → ∀ b, b < 24 → ¬ (100 : Int32) * nI a + nI b = -9 := by decide +kernel
/-- how far the class is: it counts; it looks for the first; it has found it -/
def Md (w : Int32) (c : Nat) (f : Int32) (s : Sg) (Cl cl : Option (Int32 × Sg)) : Prop := (w = 0 ∧ Cl = cl) ∨ (w = 1 ∧ c = 0 ∧ f = -9 ∧ Cl = cl) ∨ (w = 1 ∧ 1 ≤ c ∧ Cl = some (f, s))
theorem pairs_both {σ s2 τ : Sg} {B : Nat → Int32} {w : Int32} (hw : WF (hv σ 1)) (hm : shM τ (hv σ 1)) (hg : FC σ s2) (hB2 : ∀ t, t < 24 → s2 (0, 3) t = B t) (hBd : B = wd (hv σ 1) (hv σ 1)) : ∀ d a n m c f s t Cl, a + d = tn (hv σ 1) → 24 - a < n → d < m → c ≤ 24 * a → FC3 s2 s → FM τ t → (∀ u, u < 24 → t (0, 55) u = B u) → Md w c f s Cl (f_X6_pairs_4 n w (nI c) (nI a) s) → ∃ r s' t', Cl = some (r, s') ∧ f_X7_pairsOf_8 m w (nI c) f (nI a) t = some (r, t') ∧ FC3 s2 s' ∧ FM τ t' := by
  have ht := tn24 hw.1
  have kB : ∀ t, t < 24 → ∃ a, a ≤ 6912 ∧ B t = nI a := fun t h => by rw [hBd]; exact wd_ok hw.1 h hw.2.1
  have h0 : ∀ t, t < 24 → tn (hv σ 1) ≤ t → B t ≤ 0 := fun t _ h => by rw [hBd, wd_0 hw.1 h hw.2.1]; decide
  intro d
  induction d with
  | zero =>
    intro a n m c f s t Cl ha hn' hm' hc hf hft h55 hmd
    obtain ⟨m, rfl⟩ : ∃ k, m = k + 1 := ⟨m - 1, by omega⟩
    have hB : ∀ t, t < 24 → s (0, 3) t = B t := fun t h => by rw [hf _ (by decide)]; exact hB2 t h
    have h01 : t (0, 29) 0 * t (0, 29) 1 = nI (tn (hv σ 1)) := by rw [(hft.RS hm.1).1.1, (hft.RS hm.1).1.2.1]; exact ht.2.1
    have e2 : f_X7_pairsOf_8 (m + 1) w (nI c) f (nI a) t = some (if w = 0 then nI c else f, t) := by
      rw [f_X7_pairsOf_8, f_X7_tenants, bd_some, h01, if_pos (nI_le (by omega) (by omega))]
    have e1 := p4_skip hB h0 w (nI c) (24 - a) a n (by omega) hn' (by omega)
    rcases hmd with ⟨rfl, rfl⟩ | ⟨rfl, rfl, rfl, rfl⟩ | ⟨rfl, hc1, rfl⟩
    · exact ⟨_, s, t, e1, e2, hf, hft⟩
    · exact ⟨_, s, t, e1, e2, hf, hft⟩
    · exact ⟨_, s, t, rfl, e2, hf, hft⟩
  | succ d ih =>
    intro a n m c f s t Cl ha hn' hm' hc hf hft h55 hmd
    obtain ⟨n, rfl⟩ : ∃ k, n = k + 1 := ⟨n - 1, by omega⟩
    obtain ⟨m, rfl⟩ : ∃ k, m = k + 1 := ⟨m - 1, by omega⟩
    have hat : a < tn (hv σ 1) := by omega
    have ha24 : a < 24 := by omega
    obtain ⟨pa, hpa, ea, ea'⟩ := hw.1.2.2.1 a hat
    have inner : ∀ e b n1 m1 c f s t Cl, b + e = tn (hv σ 1) → a < b → 24 - b < n1 → e < m1 → c ≤ 24 * a + b → FC3 s2 s → FM τ t → (∀ u, u < 24 → t (0, 55) u = B u) → Md w c f s Cl (f_X6_pairs_15 (f_X6_pairs_4 n) n1 w (nI c) (nI a) (nI b) s) → ∃ r s' t', Cl = some (r, s') ∧ f_X7_pairsOf_23 (f_X7_pairsOf_8 m) m1 w (nI c) f (nI a) (nI b) t = some (r, t') ∧ FC3 s2 s' ∧ FM τ t' := by
      intro e
      induction e with
      | zero =>
        intro b n1 m1 c f s t Cl hb hab hn1' hm1' hc hf hft h55 hmd
        obtain ⟨m1, rfl⟩ : ∃ k, m1 = k + 1 := ⟨m1 - 1, by omega⟩
        have hB : ∀ t, t < 24 → s (0, 3) t = B t := fun t h => by rw [hf _ (by decide)]; exact hB2 t h
        have h01 : t (0, 29) 0 * t (0, 29) 1 = nI (tn (hv σ 1)) := by rw [(hft.RS hm.1).1.1, (hft.RS hm.1).1.2.1]; exact ht.2.1
        rw [p15_skip hB h0 ha24 _ w (nI c) (24 - b) b n1 (by omega) hn1' (Or.inr (by omega))] at hmd
        rw [f_X7_pairsOf_23, f_X7_tenants, bd_some, h01, if_pos (nI_le (by omega) (by omega)), nI_1]
        exact ih (a + 1) n m c f s t Cl (by omega) (by omega) (by omega) (by omega) hf hft h55 hmd
      | succ e ihe =>
        intro b n1 m1 c f s t Cl hb hab hn1' hm1' hc hf hft h55 hmd
        obtain ⟨n1, rfl⟩ : ∃ k, n1 = k + 1 := ⟨n1 - 1, by omega⟩
        obtain ⟨m1, rfl⟩ : ∃ k, m1 = k + 1 := ⟨m1 - 1, by omega⟩
        have hbt : b < tn (hv σ 1) := by omega
        have hb24 : b < 24 := by omega
        have hne : a ≠ b := by omega
        have hB : ∀ t, t < 24 → s (0, 3) t = B t := fun t h => by rw [hf _ (by decide)]; exact hB2 t h
        have h01 : t (0, 29) 0 * t (0, 29) 1 = nI (tn (hv σ 1)) := by rw [(hft.RS hm.1).1.1, (hft.RS hm.1).1.2.1]; exact ht.2.1
        obtain ⟨pb, hpb, eb, eb'⟩ := hw.1.2.2.1 b hbt
        have kD := fun t (h : t < 24) => wd_ok (WFs_chg hw.1 hat hbt hne hpa ea ea' hpb eb eb') h (w := hv σ 1) hw.2.1
        obtain ⟨t1, t2, t3, q1, q2, q3, q4, q5⟩ := r_two hw (hft.shM hm) h55 hat hbt hne hpa ea ea' hpb eb eb'
        obtain ⟨s0, s1, s', rr, g1, g2, g3, g4, g5⟩ := c_two hw hg hf hat hbt hne hpa ea ea' hpb eb eb'
        have hB' : ∀ t, t < 24 → s' (0, 3) t = B t := fun t h => by rw [g5 _ (by decide)]; exact hB2 t h
        have ga := gn0 (kB a ha24) (kD a ha24)
        have gb := gn0 (kB b hb24) (kD b hb24)
        have nI0 : (nI c = 0) ↔ c = 0 := ⟨fun q => (nI_eq (b := 0) (by omega) (by decide)).mp q, fun q => by rw [q]; rfl⟩
        rw [f_X7_pairsOf_23, f_X7_tenants, bd_some, h01, if_neg (nI_ge (by omega) (by omega)), q1, bd_some, q2, bd_some, q3, bd_some, bv_eq, bv_eq, nI_1]
        have hcl : f_X6_pairs_15 (f_X6_pairs_4 n) (n1 + 1) w (nI c) (nI a) (nI b) s = (if (if B a ≤ wd (chg (hv σ 1) a b pa pb) (hv σ 1) a then (0 : Int32) else if B b ≤ wd (chg (hv σ 1) a b pa pb) (hv σ 1) b then 0 else 1) = 0 then f_X6_pairs_15 (f_X6_pairs_4 n) n1 w (nI c) (nI a) (nI (b + 1)) (if B a ≤ 0 ∨ B b ≤ 0 then s else s') else if w = 0 then f_X6_pairs_15 (f_X6_pairs_4 n) n1 w (nI (c + 1)) (nI a) (nI (b + 1)) s' else some ((100 : Int32) * nI a + nI b, s')) := by
          rw [f_X6_pairs_15, if_neg (show ¬ (24 : Int32) ≤ nI b from nI_ge hb24 (by decide)), e_get_nI (n := 24) _ rfl ha24, bd_some, hB a ha24]
          unfold f_X6_pairs_102
          rw [nI_1]
          by_cases c1 : B a ≤ 0
          · rw [if_pos c1, if_pos (Or.inl c1), if_pos (ga.2 c1), if_pos rfl]
          · rw [if_neg c1, e_get_nI (n := 24) _ rfl hb24, bd_some, hB b hb24]
            by_cases c2 : B b ≤ 0
            · rw [if_pos c2, if_pos (Or.inr c2), if_pos (gb.2 c2)]
              by_cases c3 : B a ≤ wd (chg (hv σ 1) a b pa pb) (hv σ 1) a
              · rw [if_pos c3, if_pos rfl]
              · rw [if_neg c3, if_pos rfl]
            · rw [if_neg c2, if_neg (show ¬ (B a ≤ 0 ∨ B b ≤ 0) from fun q => q.elim c1 c2), g1, bd_some, g2, bd_some, g3, bd_some, c_gain ha24, bd_some, hB' a ha24, g4 a ha24]
              by_cases c3 : B a ≤ wd (chg (hv σ 1) a b pa pb) (hv σ 1) a
              · rw [if_pos c3, if_pos rfl, if_pos (ga.1.mpr c3)]
              · rw [if_neg c3, if_neg (fun q => c3 (ga.1.mp q)), c_gain hb24, bd_some, hB' b hb24, g4 b hb24]
                by_cases c4 : B b ≤ wd (chg (hv σ 1) a b pa pb) (hv σ 1) b
                · rw [if_pos c4, if_pos rfl, if_pos (gb.1.mpr c4)]
                · rw [if_neg c4, if_neg h10, if_neg (fun q => c4 (gb.1.mp q)), nI_1]
        rw [hcl] at hmd
        have hfs : FC3 s2 (if B a ≤ 0 ∨ B b ≤ 0 then s else s') := by split <;> assumption
        by_cases cg : (if B a ≤ wd (chg (hv σ 1) a b pa pb) (hv σ 1) a then (0 : Int32) else if B b ≤ wd (chg (hv σ 1) a b pa pb) (hv σ 1) b then 0 else 1) = 0
        · rw [if_pos cg] at hmd
          rw [if_pos cg, if_pos cg, show nI c + 0 = nI c by generalize nI c = y; grind]
          have hmd2 : ∃ s9, FC3 s2 s9 ∧ Md w c f s9 Cl (f_X6_pairs_15 (f_X6_pairs_4 n) n1 w (nI c) (nI a) (nI (b + 1)) s9) := by
            rcases hmd with ⟨h1, h2⟩ | ⟨h1, h2, h3, h4⟩ | ⟨h1, h2, h3⟩
            · exact ⟨_, hfs, Or.inl ⟨h1, h2⟩⟩
            · exact ⟨_, hfs, Or.inr (Or.inl ⟨h1, h2, h3, h4⟩)⟩
            · exact ⟨s, hf, Or.inr (Or.inr ⟨h1, h2, h3⟩)⟩
          obtain ⟨s9, hf9, hmd9⟩ := hmd2
          exact ihe (b + 1) n1 m1 c f s9 t3 Cl (by omega) (by omega) (by omega) (by omega) (by omega) hf9 (hft.trans q4) q5 hmd9
        · rw [if_neg cg] at hmd
          rw [if_neg cg, if_neg cg, nI_1]
          rcases hmd with ⟨h1, h2⟩ | ⟨h1, h2, h3, h4⟩ | ⟨h1, h2, h3⟩
          · rw [if_pos h1] at h2
            exact ihe (b + 1) n1 m1 (c + 1) _ s' t3 Cl (by omega) (by omega) (by omega) (by omega) (by omega) g5 (hft.trans q4) q5 (Or.inl ⟨h1, h2⟩)
          · rw [if_neg (by rw [h1]; decide)] at h4
            rw [if_pos (nI0.mpr h2)]
            exact ihe (b + 1) n1 m1 (c + 1) _ s' t3 Cl (by omega) (by omega) (by omega) (by omega) (by omega) g5 (hft.trans q4) q5 (Or.inr (Or.inr ⟨h1, by omega, h4⟩))
          · rw [if_neg (fun q => by have := nI0.mp q; omega)]
            exact ihe (b + 1) n1 m1 (c + 1) _ s t3 Cl (by omega) (by omega) (by omega) (by omega) (by omega) hf (hft.trans q4) q5 (Or.inr (Or.inr ⟨h1, by omega, h3⟩))
    have h01 : t (0, 29) 0 * t (0, 29) 1 = nI (tn (hv σ 1)) := by rw [(hft.RS hm.1).1.1, (hft.RS hm.1).1.2.1]; exact ht.2.1
    rw [f_X6_pairs_4, if_neg (show ¬ (24 : Int32) ≤ nI a from nI_ge ha24 (by decide)), bv_eq, nI_1] at hmd
    rw [f_X7_pairsOf_8, f_X7_tenants, bd_some, h01, if_neg (nI_ge (by omega) (by omega)), bv_eq, nI_1]
    exact inner (tn (hv σ 1) - (a + 1)) (a + 1) fuel fuel c f s t Cl (by omega) (by omega) (by show _ < 2000; omega) (by show _ < 2000; omega) (by omega) hf hft h55 hmd
theorem g36_skip {s : Sg} {B : Nat → Int32} {T a b : Nat} (hB : ∀ t, t < 24 → s (0, 3) t = B t) (h0 : ∀ t, t < 24 → T ≤ t → B t ≤ 0) (hb : b < 24) (hbT : b < T) (k4 : Int32 → Int32 → Sg → Option (Int32 × Sg)) (k14 : Int32 → Int32 → Int32 → Sg → Option (Int32 × Sg)) (x : Int32) : ∀ d c n, c + d = 24 → d < n → T ≤ c → f_X6_rings_36 k4 k14 n x (nI a) (nI b) (nI c) s = k14 x (nI a) (nI (b + 1)) s := by
  intro d
  induction d with
  | zero =>
    intro c n hc hn _
    obtain ⟨n, rfl⟩ : ∃ k, n = k + 1 := ⟨n - 1, by omega⟩
    have : c = 24 := by omega
    subst this
    rw [f_X6_rings_36, if_pos (by decide), f_X6_rings_137, nI_1]
  | succ d ih =>
    intro c n hc hn h
    obtain ⟨n, rfl⟩ : ∃ k, n = k + 1 := ⟨n - 1, by omega⟩
    have hc24 : c < 24 := by omega
    have nxt := ih (c + 1) n (by omega) (by omega) (by omega)
    rw [f_X6_rings_36, if_neg (show ¬ (24 : Int32) ≤ nI c from nI_ge hc24 (by decide)), e_get_nI (n := 24) _ rfl hb, bd_some, hB b hb]
    unfold f_X6_rings_137 f_X6_rings_131
    rw [nI_1, nI_1]
    by_cases q : B b ≤ 0
    · rw [if_pos q]
    · rw [if_neg q, if_neg (fun e => by have := nI_inj24 hc24 hb e; omega), e_get_nI (n := 24) _ rfl hc24, bd_some, hB c hc24, if_pos (h0 c hc24 h)]
      exact nxt
theorem g36_b0 {s : Sg} {B : Nat → Int32} {a b : Nat} (hB : ∀ t, t < 24 → s (0, 3) t = B t) (hb : b < 24) (h : B b ≤ 0) (k4 : Int32 → Int32 → Sg → Option (Int32 × Sg)) (k14 : Int32 → Int32 → Int32 → Sg → Option (Int32 × Sg)) (x : Int32) (c : Int32) (n : Nat) : f_X6_rings_36 k4 k14 (n + 1) x (nI a) (nI b) c s = k14 x (nI a) (nI (b + 1)) s := by
  rw [f_X6_rings_36, e_get_nI (n := 24) _ rfl hb, bd_some, hB b hb, if_pos h]
  unfold f_X6_rings_137
  rw [nI_1]
  by_cases q : (24 : Int32) ≤ c
  · rw [if_pos q]
  · rw [if_neg q]
theorem g14_skip {s : Sg} {B : Nat → Int32} {T a : Nat} (hB : ∀ t, t < 24 → s (0, 3) t = B t) (h0 : ∀ t, t < 24 → T ≤ t → B t ≤ 0) (ha : a < 24) (k4 : Int32 → Int32 → Sg → Option (Int32 × Sg)) (x : Int32) : ∀ d b n, b + d = 24 → d < n → (B a ≤ 0 ∨ T ≤ b) → f_X6_rings_14 k4 n x (nI a) (nI b) s = k4 x (nI (a + 1)) s := by
  intro d
  induction d with
  | zero =>
    intro b n hb hn _
    obtain ⟨n, rfl⟩ : ∃ k, n = k + 1 := ⟨n - 1, by omega⟩
    have : b = 24 := by omega
    subst this
    rw [f_X6_rings_14, if_pos (by decide), f_X6_rings_143, nI_1]
  | succ d ih =>
    intro b n hb hn h
    obtain ⟨n, rfl⟩ : ∃ k, n = k + 1 := ⟨n - 1, by omega⟩
    have hb24 : b < 24 := by omega
    rw [f_X6_rings_14, if_neg (show ¬ (24 : Int32) ≤ nI b from nI_ge hb24 (by decide)), e_get_nI (n := 24) _ rfl ha, bd_some, hB a ha]
    unfold f_X6_rings_143
    rw [nI_1]
    by_cases c : B a ≤ 0
    · rw [if_pos c]
    · rw [if_neg c, bv_eq, show fuel = 1999 + 1 from rfl, g36_b0 hB hb24 (h0 b hb24 (h.elim (fun q => absurd q c) id))]
      exact ih (b + 1) n (by omega) (by omega) (h.imp id (fun q => by omega))
theorem g4_skip {s : Sg} {B : Nat → Int32} {T : Nat} (hB : ∀ t, t < 24 → s (0, 3) t = B t) (h0 : ∀ t, t < 24 → T ≤ t → B t ≤ 0) (x : Int32) : ∀ d a n, a + d = 24 → d < n → T ≤ a → f_X6_rings_4 n x (nI a) s = some (x, s) := by
  intro d
  induction d with
  | zero =>
    intro a n ha hn _
    obtain ⟨n, rfl⟩ : ∃ k, n = k + 1 := ⟨n - 1, by omega⟩
    have : a = 24 := by omega
    subst this
    rw [f_X6_rings_4, if_pos (by decide)]
  | succ d ih =>
    intro a n ha hn h
    obtain ⟨n, rfl⟩ : ∃ k, n = k + 1 := ⟨n - 1, by omega⟩
    have ha24 : a < 24 := by omega
    rw [f_X6_rings_4, if_neg (show ¬ (24 : Int32) ≤ nI a from nI_ge ha24 (by decide)), bv_eq, nI_1, g14_skip hB h0 ha24 _ x (24 - (a + 1)) (a + 1) fuel (by omega) (by show _ < 2000; omega) (Or.inl (h0 a ha24 h))]
    exact ih (a + 1) n (by omega) (by omega) (by omega)
theorem rings_both {σ s2 τ : Sg} {B : Nat → Int32} (hw : WF (hv σ 1)) (hm : shM τ (hv σ 1)) (hg : FC σ s2) (hB2 : ∀ t, t < 24 → s2 (0, 3) t = B t) (hBd : B = wd (hv σ 1) (hv σ 1)) : ∀ d a n m x s t, a + d = tn (hv σ 1) → 24 - a < n → d < m → FC3 s2 s → FM τ t → (∀ u, u < 24 → t (0, 55) u = B u) → ∃ r s' t', f_X6_rings_4 n x (nI a) s = some (r, s') ∧ f_X7_ringsOf_4 m x (nI a) t = some (r, t') ∧ FC3 s2 s' ∧ FM τ t' := by
  have ht := tn24 hw.1
  have kB : ∀ t, t < 24 → ∃ a, a ≤ 6912 ∧ B t = nI a := fun t h => by rw [hBd]; exact wd_ok hw.1 h hw.2.1
  have h0 : ∀ t, t < 24 → tn (hv σ 1) ≤ t → B t ≤ 0 := fun t _ h => by rw [hBd, wd_0 hw.1 h hw.2.1]; decide
  have hBs : ∀ s, FC3 s2 s → ∀ t, t < 24 → s (0, 3) t = B t := fun s hf t h => by rw [hf _ (by decide)]; exact hB2 t h
  have h01s : ∀ t, FM τ t → t (0, 29) 0 * t (0, 29) 1 = nI (tn (hv σ 1)) := fun t hft => by rw [(hft.RS hm.1).1.1, (hft.RS hm.1).1.2.1]; exact ht.2.1
  intro d
  induction d with
  | zero =>
    intro a n m x s t ha hn' hm' hf hft h55
    obtain ⟨m, rfl⟩ : ∃ k, m = k + 1 := ⟨m - 1, by omega⟩
    refine ⟨x, s, t, g4_skip (hBs s hf) h0 x (24 - a) a n (by omega) hn' (by omega), ?_, hf, hft⟩
    rw [f_X7_ringsOf_4, f_X7_tenants, bd_some, h01s t hft, if_pos (nI_le (by omega) (by omega))]
  | succ d ih =>
    intro a n m x s t ha hn' hm' hf hft h55
    obtain ⟨n, rfl⟩ : ∃ k, n = k + 1 := ⟨n - 1, by omega⟩
    obtain ⟨m, rfl⟩ : ∃ k, m = k + 1 := ⟨m - 1, by omega⟩
    have hat : a < tn (hv σ 1) := by omega
    have ha24 : a < 24 := by omega
    obtain ⟨pa, hpa, ea, ea'⟩ := hw.1.2.2.1 a hat
    have mid : ∀ e b n1 m1 x s t Cl, b + e = tn (hv σ 1) → a < b → 24 - b < n1 → e < m1 → FC3 s2 s → FM τ t → (∀ u, u < 24 → t (0, 55) u = B u) → Cl = f_X6_rings_14 (f_X6_rings_4 n) n1 x (nI a) (nI b) s → ∃ r s' t', Cl = some (r, s') ∧ f_X7_ringsOf_16 (f_X7_ringsOf_4 m) m1 x (nI a) (nI b) t = some (r, t') ∧ FC3 s2 s' ∧ FM τ t' := by
      intro e
      induction e with
      | zero =>
        intro b n1 m1 x s t Cl hb hab hn1' hm1' hf hft h55 hCl
        obtain ⟨m1, rfl⟩ : ∃ k, m1 = k + 1 := ⟨m1 - 1, by omega⟩
        rw [g14_skip (hBs s hf) h0 ha24 _ x (24 - b) b n1 (by omega) hn1' (Or.inr (by omega))] at hCl
        rw [hCl, f_X7_ringsOf_16, f_X7_tenants, bd_some, h01s t hft, if_pos (nI_le (by omega) (by omega)), nI_1]
        exact ih (a + 1) n m x s t (by omega) (by omega) (by omega) hf hft h55
      | succ e ihe =>
        intro b n1 m1 x s t Cl hb hab hn1' hm1' hf hft h55 hCl
        obtain ⟨n1, rfl⟩ : ∃ k, n1 = k + 1 := ⟨n1 - 1, by omega⟩
        obtain ⟨m1, rfl⟩ : ∃ k, m1 = k + 1 := ⟨m1 - 1, by omega⟩
        have hbt : b < tn (hv σ 1) := by omega
        have hb24 : b < 24 := by omega
        have hne : a ≠ b := by omega
        obtain ⟨pb, hpb, eb, eb'⟩ := hw.1.2.2.1 b hbt
        have inn : ∀ g c n2 m2 x s t Cl, c + g = tn (hv σ 1) → a < c → 24 - c < n2 → g < m2 → FC3 s2 s → FM τ t → (∀ u, u < 24 → t (0, 55) u = B u) → ((¬ B a ≤ 0 ∧ ¬ B b ≤ 0 ∧ Cl = f_X6_rings_36 (f_X6_rings_4 n) (f_X6_rings_14 (f_X6_rings_4 n) n1) n2 x (nI a) (nI b) (nI c) s) ∨ ((B a ≤ 0 ∨ B b ≤ 0) ∧ Cl = f_X6_rings_14 (f_X6_rings_4 n) n1 x (nI a) (nI (b + 1)) s)) → ∃ r s' t', Cl = some (r, s') ∧ f_X7_ringsOf_29 (f_X7_ringsOf_4 m) (f_X7_ringsOf_16 (f_X7_ringsOf_4 m) m1) m2 x (nI a) (nI b) (nI c) t = some (r, t') ∧ FC3 s2 s' ∧ FM τ t' := by
          intro g
          induction g with
          | zero =>
            intro c n2 m2 x s t Cl hc hac hn2 hm2 hf hft h55 hCl
            obtain ⟨m2, rfl⟩ : ∃ k, m2 = k + 1 := ⟨m2 - 1, by omega⟩
            have hCl2 : Cl = f_X6_rings_14 (f_X6_rings_4 n) n1 x (nI a) (nI (b + 1)) s := by
              rcases hCl with ⟨_, _, h⟩ | ⟨_, h⟩
              · rw [h, g36_skip (hBs s hf) h0 hb24 hbt _ _ x (24 - c) c n2 (by omega) hn2 (by omega)]
              · exact h
            rw [f_X7_ringsOf_29, f_X7_tenants, bd_some, h01s t hft, if_pos (nI_le (by omega) (by omega)), nI_1]
            exact ihe (b + 1) n1 m1 x s t Cl (by omega) (by omega) (by omega) (by omega) hf hft h55 hCl2
          | succ g ihg =>
            intro c n2 m2 x s t Cl hc hac hn2 hm2 hf hft h55 hCl
            obtain ⟨n2, rfl⟩ : ∃ k, n2 = k + 1 := ⟨n2 - 1, by omega⟩
            obtain ⟨m2, rfl⟩ : ∃ k, m2 = k + 1 := ⟨m2 - 1, by omega⟩
            have hct : c < tn (hv σ 1) := by omega
            have hc24 : c < 24 := by omega
            have x0 : x + 0 = x := by grind
            rw [f_X7_ringsOf_29, f_X7_tenants, bd_some, h01s t hft, if_neg (nI_ge (by omega) (by omega))]
            unfold f_X7_ringsOf_60 f_X7_ringsOf_61
            simp only [nI_1, bv_eq, x0]
            rw [f_X6_rings_36, if_neg (show ¬ (24 : Int32) ≤ nI c from nI_ge hc24 (by decide)), e_get_nI (n := 24) _ rfl hb24, bd_some, hBs s hf b hb24] at hCl
            unfold f_X6_rings_128 f_X6_rings_129 f_X6_rings_131 at hCl
            simp only [nI_1, bv_eq, x0] at hCl
            by_cases hbc : b = c
            · subst hbc
              rw [if_pos rfl]
              refine ihg (b + 1) n2 m2 x s t Cl (by omega) (by omega) (by omega) (by omega) hf hft h55 ?_
              rcases hCl with ⟨h1, h2, h⟩ | h
              · rw [if_neg h2, if_pos rfl] at h; exact Or.inl ⟨h1, h2, h⟩
              · exact Or.inr h
            · have hac' : a ≠ c := by omega
              obtain ⟨pc, hpc, ec, ec'⟩ := hw.1.2.2.1 c hct
              have kD := fun t (h : t < 24) => wd_ok (WFs_ring hw.1 hat hbt hct hne hac' hbc hpa ea ea' hpb eb eb' hpc ec ec') h (w := hv σ 1) hw.2.1
              obtain ⟨t3, q1, q4, q5⟩ := r_three hw (hft.shM hm) h55 hat hbt hct hne hac' hbc hpa ea ea' hpb eb eb' hpc ec ec'
              obtain ⟨s0, s1, s', rr, g1, g2, g3, g4, g5⟩ := c_three hw hg hf hat hbt hct hne hac' hbc hpa ea ea' hpb eb eb' hpc ec ec'
              have hB' := hBs s' g5
              have ga := gn0 (kB a ha24) (kD a ha24)
              have gb := gn0 (kB b hb24) (kD b hb24)
              have gc := gn0 (kB c hc24) (kD c hc24)
              rw [if_neg (fun e => hbc (nI_inj24 hb24 hc24 e)), q1, bd_some]
              rcases hCl with ⟨h1, h2, h⟩ | ⟨h1, h⟩
              · rw [if_neg h2, if_neg (fun e => hbc (nI_inj24 hc24 hb24 e).symm), e_get_nI (n := 24) _ rfl hc24, bd_some, hBs s hf c hc24] at h
                by_cases c3 : B a ≤ wd (ringv (hv σ 1) a b c pa pb pc) (hv σ 1) a
                · rw [if_pos c3, if_pos rfl]
                  by_cases cc : B c ≤ 0
                  · rw [if_pos cc] at h
                    exact ihg (c + 1) n2 m2 x s t3 Cl (by omega) (by omega) (by omega) (by omega) hf (hft.trans q4) q5 (Or.inl ⟨h1, h2, h⟩)
                  · rw [if_neg cc, g1, bd_some, g2, bd_some, g3, bd_some, c_gain ha24, bd_some, hB' a ha24, g4 a ha24, if_pos (ga.1.mpr c3)] at h
                    exact ihg (c + 1) n2 m2 x s' t3 Cl (by omega) (by omega) (by omega) (by omega) g5 (hft.trans q4) q5 (Or.inl ⟨h1, h2, h⟩)
                · rw [if_neg c3]
                  by_cases c4 : B b ≤ wd (ringv (hv σ 1) a b c pa pb pc) (hv σ 1) b
                  · rw [if_pos c4, if_pos rfl]
                    by_cases cc : B c ≤ 0
                    · rw [if_pos cc] at h
                      exact ihg (c + 1) n2 m2 x s t3 Cl (by omega) (by omega) (by omega) (by omega) hf (hft.trans q4) q5 (Or.inl ⟨h1, h2, h⟩)
                    · rw [if_neg cc, g1, bd_some, g2, bd_some, g3, bd_some, c_gain ha24, bd_some, hB' a ha24, g4 a ha24, if_neg (fun q => c3 (ga.1.mp q)), c_gain hb24, bd_some, hB' b hb24, g4 b hb24, if_pos (gb.1.mpr c4)] at h
                      exact ihg (c + 1) n2 m2 x s' t3 Cl (by omega) (by omega) (by omega) (by omega) g5 (hft.trans q4) q5 (Or.inl ⟨h1, h2, h⟩)
                  · rw [if_neg c4]
                    by_cases cc : B c ≤ 0
                    · rw [if_pos cc] at h
                      rw [if_pos (gc.2 cc), if_pos rfl]
                      exact ihg (c + 1) n2 m2 x s t3 Cl (by omega) (by omega) (by omega) (by omega) hf (hft.trans q4) q5 (Or.inl ⟨h1, h2, h⟩)
                    · rw [if_neg cc, g1, bd_some, g2, bd_some, g3, bd_some, c_gain ha24, bd_some, hB' a ha24, g4 a ha24, if_neg (fun q => c3 (ga.1.mp q)), c_gain hb24, bd_some, hB' b hb24, g4 b hb24, if_neg (fun q => c4 (gb.1.mp q)), c_gain hc24, bd_some, hB' c hc24, g4 c hc24] at h
                      by_cases c5 : B c ≤ wd (ringv (hv σ 1) a b c pa pb pc) (hv σ 1) c
                      · rw [if_pos (gc.1.mpr c5)] at h
                        rw [if_pos c5, if_pos rfl]
                        exact ihg (c + 1) n2 m2 x s' t3 Cl (by omega) (by omega) (by omega) (by omega) g5 (hft.trans q4) q5 (Or.inl ⟨h1, h2, h⟩)
                      · rw [if_neg (fun q => c5 (gc.1.mp q))] at h
                        rw [if_neg c5, if_neg h10]
                        exact ihg (c + 1) n2 m2 _ s' t3 Cl (by omega) (by omega) (by omega) (by omega) g5 (hft.trans q4) q5 (Or.inl ⟨h1, h2, h⟩)
              · have hz : (if B a ≤ wd (ringv (hv σ 1) a b c pa pb pc) (hv σ 1) a then (0 : Int32) else if B b ≤ wd (ringv (hv σ 1) a b c pa pb pc) (hv σ 1) b then 0 else if B c ≤ wd (ringv (hv σ 1) a b c pa pb pc) (hv σ 1) c then 0 else 1) = 0 := by
                  rcases h1 with q | q
                  · rw [if_pos (ga.2 q)]
                  · rw [if_pos (gb.2 q)]
                    split <;> rfl
                rw [if_pos hz]
                exact ihg (c + 1) n2 m2 x s t3 Cl (by omega) (by omega) (by omega) (by omega) hf (hft.trans q4) q5 (Or.inr ⟨h1, h⟩)
        rw [f_X7_ringsOf_16, f_X7_tenants, bd_some, h01s t hft, if_neg (nI_ge (by omega) (by omega)), bv_eq, nI_1]
        refine inn (tn (hv σ 1) - (a + 1)) (a + 1) fuel fuel x s t Cl (by omega) (by omega) (by show _ < 2000; omega) (by show _ < 2000; omega) hf hft h55 ?_
        by_cases ca : B a ≤ 0
        · refine Or.inr ⟨Or.inl ca, ?_⟩
          rw [hCl, g14_skip (hBs s hf) h0 ha24 _ x (24 - b) b (n1 + 1) (by omega) (by omega) (Or.inl ca), g14_skip (hBs s hf) h0 ha24 _ x (24 - (b + 1)) (b + 1) n1 (by omega) (by omega) (Or.inl ca)]
        · rw [f_X6_rings_14, if_neg (show ¬ (24 : Int32) ≤ nI b from nI_ge hb24 (by decide)), e_get_nI (n := 24) _ rfl ha24, bd_some, hBs s hf a ha24, if_neg ca, bv_eq, nI_1] at hCl
          by_cases cb : B b ≤ 0
          · refine Or.inr ⟨Or.inr cb, ?_⟩
            rw [hCl, show fuel = 1999 + 1 from rfl, g36_b0 (hBs s hf) hb24 cb]
          · exact Or.inl ⟨ca, cb, hCl⟩
    rw [f_X6_rings_4, if_neg (show ¬ (24 : Int32) ≤ nI a from nI_ge ha24 (by decide)), bv_eq, f_X7_ringsOf_4, f_X7_tenants, bd_some, h01s t hft, if_neg (nI_ge (by omega) (by omega)), bv_eq, nI_1]
    exact mid (tn (hv σ 1) - (a + 1)) (a + 1) fuel fuel x s t _ (by omega) (by omega) (by show _ < 2000; omega) (by show _ < 2000; omega) hf hft h55 rfl
theorem E_swaps_R : E_swaps Rel := by
  intro a σ τ hR0
  have hR := hR0.thrown
  unfold f_X6_swaps f_X7_swaps
  rw [bv_eq (upS τ (0, 29) 18 0)]
  generalize upS τ (0, 29) 18 0 = τ1 at hR ⊢
  have hc := CS1 σ
  have hw := hR.1.1
  have hm := hR.1.2
  rw [e_within, bd_some, if01, show (2 : Int64) = (2 : Int32).toInt64 from rfl, e_in0, bd_some, if01]
  by_cases h : 0 ≤ a ∧ a ≤ 2
  · obtain ⟨s2, g1, g2, g3, g4⟩ := c_asis hw (FC.refl σ)
    obtain ⟨t1, q1, k1, x1, r1, _⟩ := r_wkX hm (FXo.refl (fun _ _ => False) τ1) hm.1 (fun j h => h) hw.1 hw.2.1
    obtain ⟨t2, q2, k2, y2⟩ := r_keepHarm t1
    have hft : FM τ1 t2 := (x1.fm (FM_55 y2)).back (fun _ _ _ h => h.elim)
    have h55 : ∀ u, u < 24 → t2 (0, 55) u = wd (hv σ 1) (hv σ 1) u := fun u hu => by rw [k2 u hu]; exact k1 u hu
    have htn := (tn24 hw.1).1
    rw [if_pos h, if_pos h, g1, bd_some, q1, bd_some, q2, bd_some]
    by_cases c2 : a = 2
    · obtain ⟨r, s', t', w1, w2, w3, w4⟩ := rings_both hw hm g4 g2 rfl (tn (hv σ 1)) 0 fuel fuel 0 s2 t2 (by omega) (by show _ < 2000; omega) (by show _ < 2000; omega) (FC3.refl s2) hft h55
      rw [if_pos c2, if_pos (by rw [c2]; decide)]
      unfold f_X6_rings f_X7_ringsOf
      change f_X6_rings_4 fuel 0 0 s2 = _ at w1
      change f_X7_ringsOf_4 fuel 0 0 t2 = _ at w2
      rw [w1, bd_some, w2, bd_some]
      exact ⟨r, s', t', rfl, rfl, hR.fr (g4.f3 w3) w4⟩
    · have h01 : a = 0 ∨ a = 1 := by grind
      have hmd : Md a 0 (-9) s2 (f_X6_pairs_4 fuel a (nI 0) (nI 0) s2) (f_X6_pairs_4 fuel a (nI 0) (nI 0) s2) := by
        rcases h01 with e | e
        · exact Or.inl ⟨e, rfl⟩
        · exact Or.inr (Or.inl ⟨e, rfl, rfl, rfl⟩)
      obtain ⟨r, s', t', w1, w2, w3, w4⟩ := pairs_both hw hm g4 g2 rfl (tn (hv σ 1)) 0 fuel fuel 0 (-9) s2 t2 _ (by omega) (by show _ < 2000; omega) (by show _ < 2000; omega) (by omega) (FC3.refl s2) hft h55 hmd
      have ea : (if a = 1 then (1 : Int32) else 0) = a := by rcases h01 with rfl | rfl <;> rfl
      rw [if_neg c2, if_neg (show ¬ (2 : Int32) ≤ a by rcases h01 with rfl | rfl <;> decide), ea]
      unfold f_X6_pairs f_X7_pairsOf
      change f_X6_pairs_4 fuel a 0 0 s2 = _ at w1
      change f_X7_pairsOf_8 fuel a 0 (-9) 0 t2 = _ at w2
      rw [w1, bd_some, w2, bd_some]
      exact ⟨r, s', t', rfl, rfl, hR.fr (g4.f3 w3) w4⟩
  · rw [if_neg h, if_neg h]; (obtain ⟨σ', τ', e1, e2, h⟩ := refuse_2 hR; exact ⟨_, σ', τ', by rw [e1, bd_some], by rw [e2, bd_some], h⟩)
