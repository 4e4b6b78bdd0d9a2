/-! ===== one habit's way: steps, down, does, whom ===== -/
theorem WFs_rows {v v' : Vw} (e : ∀ m, m ∈ [7, 8, 10, 11, 13, 14, 15, 16, 17, 18, 19] → v' m = v m) (H : WFs v) : WFs v' := by
  unfold WFs vp tn hn at H ⊢
  rw [e 7 (by decide), e 8 (by decide), e 10 (by decide), e 11 (by decide), e 13 (by decide), e 14 (by decide), e 15 (by decide), e 16 (by decide), e 17 (by decide), e 18 (by decide), e 19 (by decide)]
  exact H
theorem RS_rows {τ : Sg} {v v' : Vw} (e : ∀ m, m ∈ [7, 8, 10, 11, 12, 14, 15, 16, 17, 18, 19] → v' m = v m) (H : RS τ v) : RS τ v' := by
  unfold RS tn at H ⊢
  rw [e 7 (by decide), e 8 (by decide), e 10 (by decide), e 11 (by decide), e 12 (by decide), e 14 (by decide), e 15 (by decide), e 16 (by decide), e 17 (by decide), e 18 (by decide), e 19 (by decide)]
  exact H
theorem c_foll {σ : Sg} {i : Nat} (hw : WF (hv σ 1)) (hi : i < hn (hv σ 1)) : ∃ σ', f_X2_follow 1 (nI i) σ = some ((), σ') ∧ FC σ σ' ∧ CS 1 σ' (hv σ 1) ∧ σ' (1, 25) 3 = nI (hlS (hv σ 1) (hv σ 1 9) i).length ∧ (∀ j, j < (hlS (hv σ 1) (hv σ 1 9) i).length → σ' (1, 26) j = nI ((hlS (hv σ 1) (hv σ 1 9) i).getD j (0, 0, 0)).1 ∧ σ' (1, 27) j = ((hlS (hv σ 1) (hv σ 1 9) i).getD j (0, 0, 0)).2.1 ∧ σ' (1, 28) j = ((hlS (hv σ 1) (hv σ 1 9) i).getD j (0, 0, 0)).2.2) := by
  obtain ⟨σ', σ1, e1, e2, a1, a2, a3, a4⟩ := c_follow (hd := hv σ 1 9) hw.1 hi (CS1 σ) hw.2.1 (fun _ _ => rfl)
  refine ⟨σ', ?_, ?_, ?_, a1, a2⟩
  · unfold f_X2_follow
    rw [e1, bd_some, e2, bd_some]
  · intro c h1 h2 h3
    by_cases c1 : c.1 = 1
    · have := a3 c.2 (h3 c1)
      rw [← c1] at this
      exact this
    · exact a4 c c1
  · exact CS_of (CS1 σ) (fun m' hm' => a3 m' (by simp only [List.mem_cons, List.not_mem_nil, or_false] at hm'; omega))
theorem r_alone {τ : Sg} {v : Vw} {i : Nat} (hw : WF v) (hm : shM τ v) (hi : i < hn v) : ∃ τ', f_X7_fallAlone (nI i) τ = some ((), τ') ∧ FM τ τ' ∧ RD τ' (flS v i (clr v)) ∧ τ' (0, 29) 24 = nI (hlS v (v 9) i).length ∧ (∀ k, k < (hlS v (v 9) i).length → τ' (0, 47) k = nI ((hlS v (v 9) i).getD k (0, 0, 0)).1) := by
  obtain ⟨τ1, e1, a1, a2, a3, a4⟩ := r_begin (τ := τ)
  have f1 : RF τ τ1 := ⟨fun k _ => by rw [a4 _ (by decide) (by decide) (by decide)], fun c _ c2 c3 c4 _ => a4 c c2 c3 c4⟩
  have rd1 : RD τ1 (clr v) := ⟨fun p hp => by rw [a1 p hp]; exact (hm.2.2.1 p hp).1, a2, a3⟩
  obtain ⟨τ2, e2, b1, b2, b3, b4⟩ := r_fall hw.1 hi (f1.RS hm.1) rd1 hw.2.1
  refine ⟨τ2, ?_, (f1.trans b1).FM, b2, b3, b4⟩
  unfold f_X7_fallAlone
  rw [e1, bd_some, e2, bd_some]
theorem flat_told (x : Int32) : (10 : Int32) * (x / 4) + (x - x / 4 * 4) = x / 4 * 10 + (x - x / 4 * 4) := told_eq x
theorem E_steps_R : E_steps Rel := by
  intro a b σ τ hR0
  have hR := hR0.thrown
  unfold f_X6_steps f_X7_steps f_X7_steps_18
  rw [bv_eq (upS τ (0, 29) 18 0)]
  generalize upS τ (0, 29) 18 0 = τ1 at hR ⊢
  have hc := CS1 σ
  have hw := hR.1.1
  have hm := hR.1.2
  rw [c_hab hc hw.1, bd_some, r_hab hm.1 hw.1, bd_some]
  rcases h_cases hw.1 a with ⟨i, hi, hi8, rfl, e⟩ | e
  · rw [e, if_neg h10, if_neg h10]
    by_cases hb : -1 ≤ b
    · obtain ⟨σ', e1, fc, cs, a1, a2⟩ := c_foll hw hi
      obtain ⟨τ', e2, fm, _, b1, b2⟩ := r_alone hw hm hi
      have hR' := hR.fr fc fm
      have hl := hlS_len (hv σ 1) (hv σ 1 9) i
      rw [if_pos hb, if_pos hb, e1, bd_some, e2, bd_some, a1, b1]
      by_cases h0 : 0 ≤ b
      · rw [if_neg (show ¬ b = -1 by grind), if_pos h0]
        by_cases h1 : nI (hlS (hv σ 1) (hv σ 1 9) i).length ≤ b
        · rw [if_pos h1, if_pos h1]; exact ⟨_, _, _, rfl, rfl, hR'⟩
        · obtain ⟨j, hj, rfl⟩ := nI_of (show ¬ b < 0 by grind)
          have hjl : j < (hlS (hv σ 1) (hv σ 1 9) i).length := by
            rcases Nat.lt_or_ge j (hlS (hv σ 1) (hv σ 1 9) i).length with q | q
            · exact q
            · exact absurd (nI_le q hj) h1
          have hb8 : inb (nI j) 8 := vp_in_nI (by omega) (by decide)
          rw [if_neg h1, if_neg h1, e_get_nI (n := 6) _ rfl (by omega), bd_some, (a2 j hjl).1, f_X0_flatAt, bd_some, chk_t hb8, nI_clamp hj, b2 j hjl, f_X7_toldAs, bd_some, told_eq]
          exact ⟨_, _, _, rfl, rfl, hR'⟩
      · rw [if_pos (show b = -1 by grind), if_neg h0]; exact ⟨_, _, _, rfl, rfl, hR'⟩
    · rw [if_neg hb, if_neg hb, r_hab hm.1 hw.1, bd_some, e, if_neg h10]; (obtain ⟨σ', τ', e1, e2, h⟩ := refuse_4 hR; exact ⟨_, σ', τ', by rw [e1, bd_some], by rw [e2, bd_some], h⟩)
  · rw [e, if_pos rfl, if_pos rfl, r_hab hm.1 hw.1, bd_some, e, if_pos rfl]; (obtain ⟨σ', τ', e1, e2, h⟩ := refuse1 hR; exact ⟨_, σ', τ', by rw [e1, bd_some], by rw [e2, bd_some], h⟩)
theorem E_down_R : E_down Rel := by
  intro a σ τ hR0
  have hR := hR0.thrown
  unfold f_X6_down f_X7_down
  rw [bv_eq (upS τ (0, 29) 18 0)]
  generalize upS τ (0, 29) 18 0 = τ1 at hR ⊢
  have hc := CS1 σ
  have hw := hR.1.1
  have hm := hR.1.2
  rw [c_hab hc hw.1, bd_some, r_hab hm.1 hw.1, bd_some]
  rcases h_cases hw.1 a with ⟨i, hi, hi8, rfl, e⟩ | e
  · obtain ⟨σ', e1, fc, cs, a1, a2⟩ := c_foll hw hi
    obtain ⟨τ', e2, fm, _, b1, b2⟩ := r_alone hw hm hi
    have hR' := hR.fr fc fm
    have hl := hlS_len (hv σ 1) (hv σ 1 9) i
    rw [e, if_neg h10, if_neg h10, e1, bd_some, e2, bd_some, a1, b1]
    generalize hlS (hv σ 1) (hv σ 1 9) i = L at a1 a2 b1 b2 hl ⊢
    cases hL : L.length with
    | zero => rw [if_pos (by decide), if_pos (by decide)]; exact ⟨_, _, _, rfl, rfl, hR'⟩
    | succ n =>
      have hn1 : n < 6 := by omega
      have hb8 : inb (nI n) 8 := vp_in_nI (by omega) (by decide)
      rw [if_neg (nI_nle (by omega) (by omega)), if_neg (nI_ne0 (by omega) (by omega)), nI_pred, e_get_nI (n := 6) _ rfl hn1, bd_some, (a2 n (by omega)).1, f_X0_flatAt, bd_some, chk_t hb8, nI_clamp (by omega), b2 n (by omega), f_X7_toldAs, bd_some, told_eq]
      exact ⟨_, _, _, rfl, rfl, hR'⟩
  · rw [e, if_pos rfl, if_pos rfl]; (obtain ⟨σ', τ', e1, e2, h⟩ := refuse1 hR; exact ⟨_, σ', τ', by rw [e1, bd_some], by rw [e2, bd_some], h⟩)
def dsm (v : Vw) (i t : Nat) : List (Nat × Int32 × Int32) → Int32 → Int32
  | [], x => x
  | e :: L, x => dsm v i t L (if v 13 e.1 = nI t then x + hmf (v 17 i) (v 11 e.1) (v 12 e.1) (v 19 i) e.2.1 else x)
theorem dsm_fold {v : Vw} (hv' : WFs v) {i t : Nat} (ht : t < 24) : ∀ (L : List (Nat × Int32 × Int32)) (w : Vw), (∀ e ∈ L, vp v e.1) → (L.foldl (nt v i) w) 23 t = dsm v i t L (w 23 t) := by
  intro L
  induction L with
  | nil => intro w _; rfl
  | cons e L ih =>
    intro w he
    rw [List.foldl_cons, ih _ (fun e' h => he e' (List.mem_cons_of_mem _ h)), dsm]
    obtain ⟨s, hs, e13, _⟩ := hv'.2.2.2.1 e.1 (he e List.mem_cons_self)
    have := (tn24 hv').1
    congr 1
    unfold nt
    rw [n1_23, e13, nI_clamp (by omega)]
    by_cases c : s = t
    · subst c; rw [pk_us, if_pos rfl]
    · rw [pk_un (fun q => c q.symm), if_neg (fun q => c (nI_inj24 (by omega) ht q))]
theorem c_does {σ : Sg} {v : Vw} {i t : Nat} (hc : CS 1 σ v) (hi : i < 8) : ∀ (L : List (Nat × Int32 × Int32)) j n x, (∀ e ∈ L, e.1 < 24) → j + L.length ≤ 6 → L.length < n → σ (1, 25) 3 = nI (j + L.length) → (∀ k, k < L.length → σ (1, 26) (j + k) = nI (L.getD k (0, 0, 0)).1 ∧ σ (1, 27) (j + k) = (L.getD k (0, 0, 0)).2.1) → f_X6_does_37 n (nI i) (nI t) x (nI j) σ = some (dsm v i t L x, σ) := by
  intro L
  induction L with
  | nil =>
    intro j n x _ hj hn h25 _
    obtain ⟨n, rfl⟩ : ∃ k, n = k + 1 := ⟨n - 1, by omega⟩
    rw [f_X6_does_37, h25, if_pos (show nI (j + ([] : List (Nat × Int32 × Int32)).length) ≤ nI j from nI_le (Nat.le_refl j) (by omega)), dsm]
  | cons e L ih =>
    intro j n x he hj hn h25 hk
    obtain ⟨n, rfl⟩ : ∃ k, n = k + 1 := ⟨n - 1, by omega⟩
    rw [List.length_cons] at hj hn h25
    have hp24 := he e List.mem_cons_self
    obtain ⟨k26, k27⟩ := hk 0 (by rw [List.length_cons]; omega)
    rw [Nat.add_zero] at k26 k27
    change σ (1, 26) j = nI e.1 at k26
    change σ (1, 27) j = e.2.1 at k27
    have nxt := fun y => ih (j + 1) n y (fun e' h => he e' (List.mem_cons_of_mem _ h)) (by omega) (by omega) (by rw [h25]; congr 1; omega) (fun k hk' => by
      rw [show j + 1 + k = j + (k + 1) by omega]
      exact hk (k + 1) (by rw [List.length_cons]; omega))
    rw [f_X6_does_37, h25, if_neg (nI_ge (by omega) (by omega)), e_get_nI (n := 6) _ rfl (by omega), bd_some, k26, e_get_nI (n := 24) _ rfl hp24, bd_some, (hc.2.1 e.1 hp24).2.2.2.2.1, dsm]
    unfold f_X6_does_87
    by_cases c : v 13 e.1 = nI t
    · rw [if_pos c, if_pos c, e_harmAt hc hi (by omega) hp24 k26 k27, bd_some, bv_eq, nI_1]
      exact nxt _
    · rw [if_neg c, if_neg c, nI_1]
      exact nxt _
theorem E_does_R : E_does Rel := by
  intro a b σ τ hR0
  have hR := hR0.thrown
  unfold f_X6_does f_X6_does_16 f_X7_does f_X7_does_21
  rw [bv_eq (upS τ (0, 29) 18 0)]
  generalize upS τ (0, 29) 18 0 = τ1 at hR ⊢
  have hc := CS1 σ
  have hw := hR.1.1
  have hm := hR.1.2
  rw [c_hab hc hw.1, bd_some, r_hab hm.1 hw.1, bd_some]
  rcases h_cases hw.1 a with ⟨i, hi, hi8, rfl, e⟩ | e
  · rw [e, if_neg h10, if_neg h10, c_ten hc hw.1, bd_some, r_ten hm.1 hw.1, bd_some]
    rcases t_cases hw.1 b with ⟨t, ht, ht24, rfl, e'⟩ | e'
    · obtain ⟨σ', e1, fc, cs, a1, a2⟩ := c_foll hw hi
      obtain ⟨τ', e2, fm, rd, b1, b2⟩ := r_alone hw hm hi
      have hR' := hR.fr fc fm
      have hl := hlS_len (hv σ 1) (hv σ 1 9) i
      have he := hlS_e hw.1 hi (hd := hv σ 1 9) hw.2.1
      have hd1 := c_does (t := t) cs hi8 (hlS (hv σ 1) (hv σ 1 9) i) 0 fuel 0 (fun e h => (he e h).2.1) (by omega) (by show _ < 2000; omega) (by rw [Nat.zero_add]; exact a1) (fun k hk => by rw [Nat.zero_add]; exact ⟨(a2 k hk).1, (a2 k hk).2.1⟩)
      have hd2 := dsm_fold (i := i) hw.1 ht24 (hlS (hv σ 1) (hv σ 1 9) i) (clr (hv σ 1)) (fun e h => (he e h).1)
      have hd3 := rd.2.1 t ht24
      have hd4 : τ' (0, 45) t = dsm (hv σ 1) i t (hlS (hv σ 1) (hv σ 1 9) i) 0 := hd3.trans hd2
      rw [e', if_neg h10, if_neg h10, e1, bd_some, e2, bd_some, chk_t (inb24 ht24), nI_clamp (by omega), hd4]
      exact ⟨_, _, _, hd1, rfl, hR'⟩
    · rw [e', if_pos rfl, if_pos rfl]; (obtain ⟨σ', τ', e1, e2, h⟩ := refuse1 hR; exact ⟨_, σ', τ', by rw [e1, bd_some], by rw [e2, bd_some], h⟩)
  · rw [e, if_pos rfl, if_pos rfl]; (obtain ⟨σ', τ', e1, e2, h⟩ := refuse1 hR; exact ⟨_, σ', τ', by rw [e1, bd_some], by rw [e2, bd_some], h⟩)
theorem c_comes {σ : Sg} {p : Nat} (hp : p < 24) : ∀ (L : List Nat) j n, (∀ q ∈ L, q < 24) → j + L.length ≤ 6 → L.length < n → σ (1, 25) 3 = nI (j + L.length) → (∀ k, k < L.length → σ (1, 26) (j + k) = nI (L.getD k 0)) → f_X5_comesTo_2 1 n (nI p) (nI j) σ = some (if p ∈ L then 1 else 0, σ) := by
  intro L
  induction L with
  | nil =>
    intro j n _ hj hn h25 _
    obtain ⟨n, rfl⟩ : ∃ k, n = k + 1 := ⟨n - 1, by omega⟩
    rw [f_X5_comesTo_2, h25, if_pos (show nI (j + ([] : List Nat).length) ≤ nI j from nI_le (Nat.le_refl j) (by omega)), if_neg List.not_mem_nil]
  | cons q L ih =>
    intro j n hq hj hn h25 hk
    obtain ⟨n, rfl⟩ : ∃ k, n = k + 1 := ⟨n - 1, by omega⟩
    rw [List.length_cons] at hj hn h25
    have hq24 := hq q List.mem_cons_self
    have k26 := hk 0 (by rw [List.length_cons]; omega)
    rw [Nat.add_zero] at k26
    change σ (1, 26) j = nI q at k26
    rw [f_X5_comesTo_2, h25, if_neg (nI_ge (by omega) (by omega)), e_get_nI (n := 6) _ rfl (by omega), bd_some, k26]
    by_cases c : q = p
    · subst c
      rw [if_pos rfl, if_pos List.mem_cons_self]
    · have nm : (p ∈ q :: L) = (p ∈ L) := propext ⟨fun h => (List.mem_cons.mp h).elim (fun e => absurd e.symm c) id, List.mem_cons_of_mem _⟩
      rw [if_neg (fun e => c (nI_inj24 hq24 hp e)), nI_1, ih (j + 1) n (fun q' h => hq q' (List.mem_cons_of_mem _ h)) (by omega) (by omega) (by rw [h25]; congr 1; omega) (fun k hk' => by
        rw [show j + 1 + k = j + (k + 1) by omega]
        exact hk (k + 1) (by rw [List.length_cons]; omega))]
      simp only [nm]
theorem r_comes {τ : Sg} {v : Vw} (hv' : WFs v) (hr : RS τ v) {i p : Nat} (hi : i < hn v) (hp : p < 24) : ∀ n m x, okx v (v 17 i) n x → n < m → f_X7_comesTo_22 m (nI i) (nI p) x τ = some (if p ∈ wy v (v 17 i) n x then 1 else 0, τ) := by
  intro n
  have hi8 := hn8 hv' hi
  have hii : inb (nI i) 8 := vp_in_nI hi8 (by decide)
  induction n with
  | zero =>
    intro m x hx hm
    obtain ⟨m, rfl⟩ : ∃ k, m = k + 1 := ⟨m - 1, by omega⟩
    have hx1 : x = -1 := by rcases hx with e | ⟨q, _, _, hq⟩; exact e; omega
    subst hx1
    rw [f_X7_comesTo_22, if_pos (by decide), f_X7_comesTo_46, if_pos (by decide), wy, if_neg List.not_mem_nil]
  | succ n ih =>
    intro m x hx hm
    obtain ⟨m, rfl⟩ : ∃ k, m = k + 1 := ⟨m - 1, by omega⟩
    rcases hx with rfl | ⟨q, rfl, hq, hmq⟩
    · have hwn : wy v (v 17 i) (n + 1) (-1) = [] := by rw [wy, if_pos (by decide)]
      rw [f_X7_comesTo_22, if_pos (by decide), f_X7_comesTo_46, if_pos (by decide), hwn, if_neg List.not_mem_nil]
    · have hq24 : q < 24 := hq.1
      have hwy : wy v (v 17 i) (n + 1) (nI q) = q :: wy v (v 17 i) n (nxv v (v 17 i) q) := by
        rw [wy, if_neg (nI_pos (by omega)), nI_clamp (by omega)]
      have hng : ¬ nI q < 0 := nI_pos (by omega)
      rw [f_X7_comesTo_22, if_neg hng, hwy]
      by_cases c : q = p
      · subst c
        rw [if_pos rfl, f_X7_comesTo_46, if_neg hng, if_pos List.mem_cons_self]
      · have nm : (p ∈ q :: wy v (v 17 i) n (nxv v (v 17 i) q)) = (p ∈ wy v (v 17 i) n (nxv v (v 17 i) q)) := propext ⟨fun h => (List.mem_cons.mp h).elim (fun e => absurd e.symm c) id, List.mem_cons_of_mem _⟩
        have c40 : τ (0, 40) (nI i).toNatClampNeg = v 17 i := by rw [nI_clamp (by omega)]; exact (hr.2.2.2 i hi8).2.1
        rw [if_neg (fun e => c (nI_inj24 hq24 hp e)), chk_t hii, c40, r_next hr hv' (knd hv' hi) hq24, bd_some, ih m _ (okx_nx hv' (knd hv' hi) hq24 (by omega)) (by omega)]
        simp only [nm]
theorem r_comesTo {τ : Sg} {v : Vw} (hv' : WFs v) (hr : RS τ v) {i p : Nat} (hi : i < hn v) (hp : p < 24) : f_X7_comesTo (nI i) (nI p) τ = some (if p ∈ wyS v i then 1 else 0, τ) := by
  have hi8 := hn8 hv' hi
  have hii : inb (nI i) 8 := vp_in_nI hi8 (by decide)
  obtain ⟨u, hu, hu24, e16, eu, hp', hp24, e14, _⟩ := who_ok hv' hi
  have r8 := hr.2.2.2 i hi8
  have c40 : τ (0, 40) (nI i).toNatClampNeg = v 17 i := by rw [nI_clamp (by omega)]; exact r8.2.1
  have c39 : τ (0, 39) (nI i).toNatClampNeg = nI u := by rw [nI_clamp (by omega), r8.1]; exact e16
  have c35 : τ (0, 35) (nI u).toNatClampNeg = nI (hmv v i) := by rw [nI_clamp (by omega), hr.2.2.1 u hu]; exact e14
  unfold f_X7_comesTo
  rw [chk_t hii, chk_t hii, c40, c39, c35, chk_t (inb24 hu24), r_next hr hv' (knd hv' hi) hp24, bd_some]
  exact r_comes hv' hr hi hp 6 fuel _ (okx_nx hv' (knd hv' hi) hp24 (by have := ms6 (v 17 i) (hmv v i) hp24; omega)) (by decide)
theorem E_whom_R : E_whom Rel := by
  intro a b σ τ hR0
  have hR := hR0.thrown
  unfold f_X6_whom f_X7_whom f_X7_whom_22
  rw [bv_eq (upS τ (0, 29) 18 0)]
  generalize upS τ (0, 29) 18 0 = τ1 at hR ⊢
  have hc := CS1 σ
  have hw := hR.1.1
  have hm := hR.1.2
  rw [c_place hc, bd_some, r_place hm.1, bd_some]
  rcases p_cases hw.1 a with e | ⟨p, hp, hp24, e⟩
  · rw [e, if_neg (by decide), if_pos (by decide), if_neg (by decide)]; (obtain ⟨σ', τ', e1, e2, h⟩ := refuse1 hR; exact ⟨_, σ', τ', by rw [e1, bd_some], by rw [e2, bd_some], h⟩)
  · have h0 : (0 : Int32) ≤ nI p := nI_pos' (by omega)
    rw [e, if_pos h0, if_neg (nI_pos (by omega)), c_hour, bd_some, r_time, bd_some, if_pos h0]
    rcases q_cases b with ⟨k, hk, rfl, e'⟩ | e'
    · rw [e', if_neg h10, if_neg h10]
      have key : ∀ d i n m x s, i + d = hn (hv σ 1) → d < n → d < m → FC σ s → ∃ r s', f_X6_whom_42 n (nI k) (nI p) x (nI i) s = some (r, s') ∧ f_X7_whom_43 m (nI k) (nI p) x (nI i) τ1 = some (r, τ1) ∧ FC σ s' := by
        have h8 := hw.1.2.2.2.2.1.1
        intro d
        induction d with
        | zero =>
          intro i n m x s hi hn' hm' hf
          obtain ⟨n, rfl⟩ : ∃ k, n = k + 1 := ⟨n - 1, by omega⟩
          obtain ⟨m, rfl⟩ : ∃ k, m = k + 1 := ⟨m - 1, by omega⟩
          have hi' : i = hn (hv σ 1) := by omega
          have h15 : s (1, 15) 0 = nI (hn (hv σ 1)) := by rw [hf _ (by decide) (by decide) (fun _ => by decide)]; exact hw.1.2.2.2.2.1.2
          refine ⟨x, s, ?_, ?_, hf⟩
          · rw [f_X6_whom_42, h15, if_pos (nI_le (by omega) (by omega))]
          · rw [f_X7_whom_43, hm.1.1.2.2.2, hw.1.2.2.2.2.1.2, if_pos (nI_le (by omega) (by omega))]
        | succ d ih =>
          intro i n m x s hi hn' hm' hf
          obtain ⟨n, rfl⟩ : ∃ k, n = k + 1 := ⟨n - 1, by omega⟩
          obtain ⟨m, rfl⟩ : ∃ k, m = k + 1 := ⟨m - 1, by omega⟩
          have hi8 : i < 8 := by omega
          have hin : i < hn (hv σ 1) := by omega
          have hcs : CS 1 s (hv σ 1) := CS_of (CS1 σ) (fun m' hm' => hf _ (by show (1 : Nat) ≠ 3; decide) (cneh (by decide)) (fun _ => by show m' < 25; simp only [List.mem_cons, List.not_mem_nil, or_false] at hm'; omega))
          have h15 : s (1, 15) 0 = nI (hn (hv σ 1)) := by rw [hf _ (by decide) (by decide) (fun _ => by decide)]; exact hw.1.2.2.2.2.1.2
          have hii : inb (nI i) 8 := vp_in_nI hi8 (by decide)
          have c42 : τ1 (0, 42) (nI i).toNatClampNeg = hv σ 1 19 i := by rw [nI_clamp (by omega)]; exact (hm.1.2.2.2 i hi8).2.2.2
          rw [f_X6_whom_42, h15, if_neg (nI_ge (by omega) (by omega)), e_get_nI (n := 8) _ rfl hi8, bd_some, (hcs.2.2 i hi8).2.2.2, f_X7_whom_43, hm.1.1.2.2.2, hw.1.2.2.2.2.1.2, if_neg (nI_ge (by omega) (by omega)), chk_t hii, c42]
          unfold f_X6_whom_101 f_X7_whom_82 f_X7_whom_83
          simp only [nI_1, bv_eq, Int32.or_zero]
          by_cases cq : hv σ 1 19 i = nI k
          · obtain ⟨s1, t1, t2, t3, t4⟩ := c_trace hw.1 hin hcs
            have hf1 : FC σ s1 := hf.trans (fun c c1 c2 c3 => t4 c (fun e => absurd (c3 (by rw [e])) (by rw [e]; decide)) (fun e => absurd (c3 (by rw [e])) (by rw [e]; decide)))
            have hlen : (wyS (hv σ 1) i).length ≤ 6 := wy_len 6 _
            rw [if_pos cq, if_pos cq, f_X2_trace, t1, bd_some, bd_some, f_X5_comesTo]
            have hct := c_comes (σ := s1) hp24 (wyS (hv σ 1) i) 0 fuel (fun q hq => (wyS_mem hw.1 hin q hq).2.1) (by omega) (by show _ < 2000; omega) (by rw [Nat.zero_add]; exact t2) (fun k' hk' => by rw [Nat.zero_add]; exact t3 k' hk')
            change ∃ r s', bd (f_X5_comesTo_2 1 fuel (nI p) (nI 0) s1) _ = _ ∧ _
            rw [hct, bd_some, r_comesTo hw.1 hm.1 hin hp24, bd_some]
            by_cases cp : p ∈ wyS (hv σ 1) i
            · rw [if_pos cp, if_neg h10, if_neg h10]
              exact ih (i + 1) n m _ s1 (by omega) (by omega) (by omega) hf1
            · rw [if_neg cp, if_pos rfl, if_pos rfl]
              exact ih (i + 1) n m _ s1 (by omega) (by omega) (by omega) hf1
          · rw [if_neg cq, if_neg cq]
            exact ih (i + 1) n m x s (by omega) (by omega) (by omega) hf
      have hf : hn (hv σ 1) < fuel := by have := hw.1.2.2.2.2.1.1; show _ < 2000; omega
      obtain ⟨r, s', e1, e2, f1⟩ := key (hn (hv σ 1)) 0 fuel fuel 0 σ (by omega) hf hf (FC.refl σ)
      exact ⟨r, s', τ1, e1, e2, hR.fr f1 (FM.refl τ1)⟩
    · rw [e', if_pos rfl, if_pos rfl]; (obtain ⟨σ', τ', e1, e2, h⟩ := refuse_2 hR; exact ⟨_, σ', τ', by rw [e1, bd_some], by rw [e2, bd_some], h⟩)
