/-! ===== a whole fall ===== -/
def hmv (v : Vw) (i : Nat) : Nat := (v 14 (v 16 i).toNatClampNeg).toNatClampNeg
def wyS (v : Vw) (i : Nat) : List Nat := wy v (v 17 i) 6 (nxv v (v 17 i) (hmv v i))
def hlS (v : Vw) (hd : Nat → Int32) (i : Nat) : List (Nat × Int32 × Int32) := hl v hd (v 17 i) (wyS v i) (v 18 i)
def flS (v : Vw) (i : Nat) (w : Vw) : Vw := (hlS v (w 9) i).foldl (nt v i) w
theorem who_ok {v : Vw} (hv : WFs v) {i : Nat} (hi : i < hn v) : ∃ u, u < tn v ∧ u < 24 ∧ v 16 i = nI u ∧ (v 16 i).toNatClampNeg = u ∧ vp v (hmv v i) ∧ hmv v i < 24 ∧ v 14 u = nI (hmv v i) ∧ v 13 (hmv v i) = nI u := by
  obtain ⟨⟨u, hu, e⟩, _⟩ := hv.2.2.2.2.2 i hi
  obtain ⟨p, hp, e1, e2⟩ := hv.2.2.1 u hu
  have ht := (tn24 hv).1
  have hp24 : p < 24 := hp.1
  have hc : (v 16 i).toNatClampNeg = u := by rw [e, nI_clamp (by omega)]
  have hh : hmv v i = p := by unfold hmv; rw [hc, e1, nI_clamp (by omega)]
  rw [hh]
  exact ⟨u, hu, by omega, e, hc, hp, hp24, e1, e2⟩
theorem hn8 {v : Vw} (hv : WFs v) {i : Nat} (hi : i < hn v) : i < 8 := Nat.lt_of_lt_of_le hi hv.2.2.2.2.1.1
theorem knd {v : Vw} (hv : WFs v) {i : Nat} (hi : i < hn v) : v 17 i ∈ l6 := (hv.2.2.2.2.2 i hi).2.1
theorem fig {v : Vw} (hv : WFs v) {i : Nat} (hi : i < hn v) : v 18 i ∈ l10 := (hv.2.2.2.2.2 i hi).2.2.1
theorem wyS_mem {v : Vw} (hv : WFs v) {i : Nat} (hi : i < hn v) : ∀ q ∈ wyS v i, vp v q ∧ q < 24 ∧ q ≠ hmv v i := by
  intro q hq
  obtain ⟨u, _, _, _, _, hp, hp24, _, _⟩ := who_ok hv hi
  have := wy_mem hv (knd hv hi) 6 _ _ (okx_nx hv (knd hv hi) hp24 (Nat.le_refl _)) q hq
  refine ⟨this.1, this.1.1, fun e => ?_⟩
  rw [e] at this
  exact Nat.lt_irrefl _ this.2
theorem wyS_nodup {v : Vw} (hv : WFs v) {i : Nat} (hi : i < hn v) : (wyS v i).Nodup := by
  obtain ⟨u, _, _, _, _, hp, hp24, _, _⟩ := who_ok hv hi
  exact wy_nodup hv (knd hv hi) 6 _ _ (okx_nx hv (knd hv hi) hp24 (Nat.le_refl _))
theorem wy_len {v : Vw} {kind : Int32} : ∀ n x, (wy v kind n x).length ≤ n := by
  intro n
  induction n with
  | zero => intro x; exact Nat.le_refl _
  | succ n ih =>
    intro x
    rw [wy]
    split
    · exact Nat.zero_le _
    · rw [List.length_cons]; have := ih (nxv v kind x.toNatClampNeg); omega
theorem hl_len {v : Vw} {hd : Nat → Int32} {kind : Int32} : ∀ ps c, (hl v hd kind ps c).length ≤ ps.length := by
  intro ps
  induction ps with
  | nil => intro c; exact Nat.le_refl _
  | cons p ps ih =>
    intro c
    rw [hl]
    split
    · exact Nat.zero_le _
    · rw [List.length_cons, List.length_cons]; have := ih (c - kpf kind (v 8 p) (hd p) c); omega
theorem hl_fst {v : Vw} {hd : Nat → Int32} {kind : Int32} : ∀ ps c j, j < (hl v hd kind ps c).length → ((hl v hd kind ps c).getD j (0, 0, 0)).1 = ps.getD j 0 := by
  intro ps
  induction ps with
  | nil => intro c j hj; exact absurd hj (Nat.not_lt_zero _)
  | cons p ps ih =>
    intro c j hj
    rw [hl] at hj ⊢
    split at hj
    · exact absurd hj (Nat.not_lt_zero _)
    · next h =>
      rw [if_neg h]
      cases j with
      | zero => rfl
      | succ j =>
        have := ih (c - kpf kind (v 8 p) (hd p) c) j (by simpa using hj)
        simpa using this
theorem hl_mem {v : Vw} (hv : WFs v) {hd : Nat → Int32} (hh : okh v hd) {kind : Int32} (hk : kind ∈ l6) : ∀ ps c, (∀ q ∈ ps, q < 24) → c ∈ l10 → ∀ e ∈ hl v hd kind ps c, e.1 ∈ ps ∧ e.2.1 ∈ l10 ∧ hd e.1 + e.2.2 ∈ l10 ∧ hd e.1 + e.2.2 ≤ v 8 e.1 := by
  intro ps
  induction ps with
  | nil => intro c _ _ e he; exact absurd he List.not_mem_nil
  | cons p ps ih =>
    intro c hq hc e he
    rw [hl] at he
    by_cases c0 : c ≤ 0
    · rw [if_pos c0] at he; exact absurd he List.not_mem_nil
    · rw [if_neg c0] at he
      have hp24 : p < 24 := hq p List.mem_cons_self
      have hkp := kp_ok kind hk (v 8 p) (hv.2.1 p hp24).1 (hd p) (hh p hp24).1 (hh p hp24).2 c hc (pos10 c hc c0)
      rcases List.mem_cons.mp he with rfl | he
      · exact ⟨List.mem_cons_self, hc, hkp.2.2.2.2.1, hkp.2.2.2.1⟩
      · have := ih _ (fun q hq' => hq q (List.mem_cons_of_mem _ hq')) hkp.2.1 e he
        exact ⟨List.mem_cons_of_mem _ this.1, this.2⟩
theorem hl_nodup {v : Vw} {hd : Nat → Int32} {kind : Int32} : ∀ ps c, ps.Nodup → (hl v hd kind ps c).Pairwise (fun a b => a.1 ≠ b.1) ∧ ∀ e ∈ hl v hd kind ps c, e.1 ∈ ps := by
  intro ps
  induction ps with
  | nil => intro c _; exact ⟨List.Pairwise.nil, fun e he => absurd he List.not_mem_nil⟩
  | cons p ps ih =>
    intro c hnd
    rw [hl]
    split
    · exact ⟨List.Pairwise.nil, fun e he => absurd he List.not_mem_nil⟩
    · rw [List.nodup_cons] at hnd
      have := ih (c - kpf kind (v 8 p) (hd p) c) hnd.2
      refine ⟨List.pairwise_cons.mpr ⟨fun b hb e => hnd.1 ?_, this.1⟩, ?_⟩
      · have e2 : p = b.1 := e
        rw [e2]; exact this.2 b hb
      · intro e he
        rcases List.mem_cons.mp he with rfl | he
        · exact List.mem_cons_self
        · exact List.mem_cons_of_mem _ (this.2 e he)
/-! the holds through a fall -/
theorem nt_9 (v : Vw) (i : Nat) (w : Vw) (e : Nat × Int32 × Int32) : nt v i w e 9 = upd (w 9) e.1 (w 9 e.1 + e.2.2) := rfl
theorem fold_okh {v : Vw} {i : Nat} : ∀ (L : List (Nat × Int32 × Int32)) (w : Vw), okh v (w 9) → L.Pairwise (fun a b => a.1 ≠ b.1) → (∀ e ∈ L, w 9 e.1 + e.2.2 ∈ l10 ∧ w 9 e.1 + e.2.2 ≤ v 8 e.1) → okh v (L.foldl (nt v i) w 9) := by
  intro L
  induction L with
  | nil => intro w h _ _; exact h
  | cons e L ih =>
    intro w h hp he
    rw [List.foldl_cons]
    rw [List.pairwise_cons] at hp
    refine ih _ ?_ hp.2 ?_
    · intro q hq
      rw [nt_9]
      by_cases c : q = e.1
      · subst c; rw [pk_us]; exact he e List.mem_cons_self
      · rw [pk_un c]; exact h q hq
    · intro e' he'
      rw [nt_9, pk_un (fun x => hp.1 e' he' x.symm)]
      exact he e' (List.mem_cons_of_mem _ he')
theorem flS_okh {v : Vw} (hv : WFs v) {i : Nat} (hi : i < hn v) {w : Vw} (hh : okh v (w 9)) : okh v (flS v i w 9) := by
  have hm := hl_mem hv hh (knd hv hi) (wyS v i) (v 18 i) (fun q hq => (wyS_mem hv hi q hq).2.1) (fig hv hi)
  exact fold_okh _ w hh (hl_nodup _ _ (wyS_nodup hv hi)).1 (fun e he => (hm e he).2.2)
theorem hmf_e {v : Vw} (hv : WFs v) {i : Nat} (hi : i < hn v) {e : Nat × Int32 × Int32} (hp : e.1 < 24) (hc : e.2.1 ∈ l10) : ∃ b, b ≤ 18 ∧ hmf (v 17 i) (v 11 e.1) (v 12 e.1) (v 19 i) e.2.1 = nI b := hm_ok (knd hv hi) (hv.2.1 _ hp).2.2 hc
theorem fold_WB {v : Vw} (hv : WFs v) {i : Nat} (hi : i < hn v) : ∀ (L : List (Nat × Int32 × Int32)) (w : Vw) n, WB n w → (∀ e ∈ L, e.1 < 24 ∧ e.2.1 ∈ l10) → WB (n + L.length) (L.foldl (nt v i) w) := by
  intro L
  induction L with
  | nil => intro w n h _; exact h
  | cons e L ih =>
    intro w n h he
    rw [List.foldl_cons, List.length_cons, show n + (L.length + 1) = n + 1 + L.length by omega]
    obtain ⟨b, hb, e1⟩ := hmf_e hv hi (he e List.mem_cons_self).1 (he e List.mem_cons_self).2
    refine ih _ _ ?_ (fun e' he' => he e' (List.mem_cons_of_mem _ he'))
    unfold nt
    rw [e1]
    exact n1_WB h hb
theorem WB_le {n m : Nat} {w : Vw} (h : WB n w) (hm : n ≤ m) : WB m w := ⟨fun t ht => by obtain ⟨a, ha, e⟩ := h.1 t ht; exact ⟨a, by omega, e⟩, fun t ht => by obtain ⟨a, ha, e⟩ := h.2 t ht; exact ⟨a, by omega, e⟩⟩
theorem hlS_e {v : Vw} (hv : WFs v) {i : Nat} (hi : i < hn v) {hd : Nat → Int32} (hh : okh v hd) : ∀ e ∈ hlS v hd i, vp v e.1 ∧ e.1 < 24 ∧ e.1 ≠ hmv v i ∧ e.2.1 ∈ l10 := by
  intro e he
  have hm := hl_mem hv hh (knd hv hi) (wyS v i) (v 18 i) (fun q hq => (wyS_mem hv hi q hq).2.1) (fig hv hi) e he
  have := wyS_mem hv hi e.1 hm.1
  exact ⟨this.1, this.2.1, this.2.2, hm.2.1⟩
theorem hlS_len (v : Vw) (hd : Nat → Int32) (i : Nat) : (hlS v hd i).length ≤ 6 := Nat.le_trans (hl_len _ _) (wy_len _ _)
theorem flS_WB {v : Vw} (hv : WFs v) {i : Nat} (hi : i < hn v) {w : Vw} {n : Nat} (hh : okh v (w 9)) (h : WB n w) : WB (n + 6) (flS v i w) :=
  WB_le (fold_WB hv hi _ w n h (fun e he => ⟨(hlS_e hv hi hh e he).2.1, (hlS_e hv hi hh e he).2.2.2⟩)) (by have := hlS_len v (w 9) i; omega)
/-! the class's fall -/
theorem c_trace {h i : Nat} {σ : Sg} {v : Vw} (hv : WFs v) (hi : i < hn v) (hc : CS h σ v) : ∃ σ', f_X5_trace h h h (nI i) σ = some ((), σ') ∧ σ' (h, 25) 3 = nI (wyS v i).length ∧ (∀ j, j < (wyS v i).length → σ' (h, 26) j = nI ((wyS v i).getD j 0)) ∧ (∀ c, c ≠ (h, 25) → c ≠ (h, 26) → σ' c = σ c) := by
  have hi8 := hn8 hv hi
  obtain ⟨u, hu, hu24, e16, _, hp, hp24, e14, _⟩ := who_ok hv hi
  have hc' : CS h (upS σ (h, 25) 3 0) v := CS_of hc (fun m' hm' => by
    have h1 : m' ≠ 25 := by
      simp only [List.mem_cons, List.not_mem_nil, or_false] at hm'
      omega
    rw [upS_ne (cne h1)])
  unfold f_X5_trace
  rw [bv_eq, e_get_nI (n := 8) _ rfl hi8, bd_some, e_get_nI (n := 8) _ rfl hi8, bd_some, (hc'.2.2 i hi8).2.1, (hc'.2.2 i hi8).1, e16, e_get_nI (n := 24) _ rfl hu24, bd_some, (hc'.2.1 u hu24).2.2.2.2.2, e14, c_next hc' hv (knd hv hi) hp24, bd_some]
  obtain ⟨σ', e, a1, a2, a3, a4⟩ := tr_loop h hv (knd hv hi) 6 0 fuel (nxv v (v 17 i) (hmv v i)) _ rfl (by decide) (okx_nx hv (knd hv hi) hp24 (by have := ms6 (v 17 i) (hmv v i) hp24; omega)) hc' upS_at
  refine ⟨σ', e, ?_, ?_, ?_⟩
  · rw [a1, Nat.zero_add]; rfl
  · intro j hj
    have := a2 j hj
    rwa [Nat.zero_add] at this
  · intro c c1 c2
    rw [a4 c c1 c2, upS_ne c1]
theorem c_follow {h i : Nat} {σ : Sg} {v : Vw} {hd : Nat → Int32} (hv : WFs v) (hi : i < hn v) (hc : CS h σ v) (hh : okh v hd) (h9 : ∀ p, p < 24 → σ (h, 9) p = hd p) : ∃ σ' σ1, f_X5_trace h h h (nI i) σ = some ((), σ1) ∧ f_X5_hold h h h (nI i) σ1 = some ((), σ') ∧ σ' (h, 25) 3 = nI (hlS v hd i).length ∧ (∀ j, j < (hlS v hd i).length → σ' (h, 26) j = nI ((hlS v hd i).getD j (0, 0, 0)).1 ∧ σ' (h, 27) j = ((hlS v hd i).getD j (0, 0, 0)).2.1 ∧ σ' (h, 28) j = ((hlS v hd i).getD j (0, 0, 0)).2.2) ∧ (∀ m, m < 25 → σ' (h, m) = σ (h, m)) ∧ (∀ c : Nat × Nat, c.1 ≠ h → σ' c = σ c) := by
  have hi8 := hn8 hv hi
  obtain ⟨σ1, e1, b1, b2, b3⟩ := c_trace hv hi hc
  have f1 : ∀ m, m < 25 → σ1 (h, m) = σ (h, m) := fun m hm => b3 _ (cne (by omega)) (cne (by omega))
  have hc1 : CS h σ1 v := CS_of hc (fun m' hm' => by
    have h1 : m' < 25 := by
      simp only [List.mem_cons, List.not_mem_nil, or_false] at hm'
      omega
    exact f1 m' h1)
  have hc2 : CS h (upS σ1 (h, 25) 3 0) v := CS_of hc1 (fun m' hm' => by
    have h1 : m' ≠ 25 := by
      simp only [List.mem_cons, List.not_mem_nil, or_false] at hm'
      omega
    rw [upS_ne (cne h1)])
  obtain ⟨σ', e, a1, a2, a3, a4⟩ := hd_loop h hv (knd hv hi) hh (wyS v i) 0 fuel (v 18 i) (upS σ1 (h, 25) 3 0) (fun q hq => (wyS_mem hv hi q hq).2.1) (by have := wy_len (v := v) (kind := v 17 i) 6 (nxv v (v 17 i) (hmv v i)); unfold wyS; omega) (by have := wy_len (v := v) (kind := v 17 i) 6 (nxv v (v 17 i) (hmv v i)); unfold wyS; show _ < 2000; omega) (fig hv hi) hc2 (fun p hp => by rw [upS_ne (cne (by decide)), f1 9 (by decide)]; exact h9 p hp) (fun j hj => by rw [Nat.zero_add, upS_ne (cne (by decide))]; exact b2 j hj) upS_at
  refine ⟨σ', σ1, e1, ?_, ?_, ?_, ?_, ?_⟩
  · unfold f_X5_hold
    rw [e_get_nI (n := 8) _ rfl hi8, bd_some, e_get_nI (n := 8) _ rfl hi8, bd_some, bv_eq, bv_eq, (hc1.2.2 i hi8).2.1, (hc1.2.2 i hi8).2.2.1, b1]
    rw [Nat.zero_add] at e
    exact e
  · rw [a1, Nat.zero_add]; rfl
  · intro j hj
    have h2 := a2 j hj
    rw [Nat.zero_add] at h2
    refine ⟨?_, h2.1, h2.2⟩
    rw [a4 _ (cne (by decide)) (cne (by decide)) (cne (by decide)), upS_ne (cne (by decide)), b2 j (Nat.lt_of_lt_of_le hj (hl_len _ _))]
    congr 1
    exact (hl_fst _ _ j hj).symm
  · intro m hm
    rw [a4 _ (cne (by omega)) (cne (by omega)) (cne (by omega)), upS_ne (cne (by omega)), f1 m hm]
  · intro c hc'
    have hne : ∀ m, c ≠ (h, m) := fun m e => hc' (by rw [e])
    rw [a4 c (hne _) (hne _) (hne _), upS_ne (hne _), b3 c (hne _) (hne _)]
theorem fl_loop {h i : Nat} {v : Vw} (hv : WFs v) (hi : i < hn v) {H0 A0 : Nat → Int32} : ∀ (L : List (Nat × Int32 × Int32)) j m n σ w, (∀ e ∈ L, vp v e.1 ∧ e.1 < 24 ∧ e.1 ≠ hmv v i ∧ e.2.1 ∈ l10) → j + L.length ≤ 6 → L.length < m → n + L.length ≤ 999 → CS h σ v → CL h H0 A0 (tn v) σ w → WB n w → (∀ k, k < L.length → σ (h, 26) (j + k) = nI (L.getD k (0, 0, 0)).1 ∧ σ (h, 27) (j + k) = (L.getD k (0, 0, 0)).2.1 ∧ σ (h, 28) (j + k) = (L.getD k (0, 0, 0)).2.2) → σ (h, 25) 3 = nI (j + L.length) → ∃ σ', f_X2_fall_46 h m (nI i) (v 16 i) (nI j) σ = some ((), σ') ∧ CL h H0 A0 (tn v) σ' (L.foldl (nt v i) w) ∧ (∀ m, (m ≠ 9 ∧ m < 20) ∨ 24 < m → σ' (h, m) = σ (h, m)) ∧ (∀ c : Nat × Nat, c.1 ≠ h → σ' c = σ c) := by
  intro L
  induction L with
  | nil =>
    intro j m n σ w _ hj hm _ hc hcl hw hk h25
    obtain ⟨m, rfl⟩ : ∃ k, m = k + 1 := ⟨m - 1, by omega⟩
    refine ⟨σ, ?_, hcl, fun _ _ => rfl, fun _ _ => rfl⟩
    rw [f_X2_fall_46, if_pos (by rw [h25]; exact nI_le (Nat.le_refl j) (by omega))]
  | cons e L ih =>
    intro j m n σ w hL hj hm hn hc hcl hw hk h25
    obtain ⟨m, rfl⟩ : ∃ k, m = k + 1 := ⟨m - 1, by omega⟩
    rw [List.length_cons] at hj hm hn h25
    have hi8 := hn8 hv hi
    obtain ⟨hvp, hp24, hnh, hcl10⟩ := hL e List.mem_cons_self
    obtain ⟨u, hu, hu24, e16, eu, _, _, e14, _⟩ := who_ok hv hi
    obtain ⟨t, ht, t13, t14⟩ := hv.2.2.2.1 e.1 hvp
    have htT := (tn24 hv).1
    have htu : t ≠ u := fun x => hnh (by
      subst x
      rw [t14] at e14
      exact nI_inj24 hp24 (who_ok hv hi).choose_spec.2.2.2.2.2.1 e14)
    obtain ⟨k26, k27, k28⟩ := hk 0 (by rw [List.length_cons]; omega)
    rw [Nat.add_zero] at k26 k27 k28
    change σ (h, 26) j = nI e.1 at k26
    change σ (h, 27) j = e.2.1 at k27
    change σ (h, 28) j = e.2.2 at k28
    obtain ⟨b, hb, eb⟩ := hmf_e hv hi hp24 hcl10
    obtain ⟨σ1, n1e, n1c, n1f, n1g⟩ := c_note htT ht hu24 htu hb (by omega) hw hcl
    have hnt : nt v i w e = uv (n0 w t u (nI b)) 9 e.1 (w 9 e.1 + e.2.2) := by
      unfold nt n1
      rw [t13, nI_clamp (by omega), eu, eb]
    have h9 : σ1 (h, 9) e.1 = w 9 e.1 := by rw [n1f 9 (Or.inl (by decide))]; exact hcl.1 e.1 hp24
    rw [f_X2_fall_46, if_neg (by rw [h25]; exact nI_ge (by omega) (by omega)), e_get_nI (n := 6) _ rfl (by omega), bd_some, k26, e_get_nI (n := 24) _ rfl hp24, bd_some, (hc.2.1 e.1 hp24).2.2.2.2.1, e_harmAt hc hi8 (by omega) hp24 k26 k27, bd_some, eb, t13, e16, n1e, bd_some, e_get_nI (n := 24) _ rfl hp24, bd_some, e_get_nI (n := 6) _ rfl (by omega), bd_some, e_set_nI (n := 24) _ rfl hp24, bd_some, nI_1, h9, n1f 28 (Or.inr (by decide)), k28, ← e16]
    have hcl2 : CL h H0 A0 (tn v) (upS σ1 (h, 9) e.1 (w 9 e.1 + e.2.2)) (nt v i w e) := by
      rw [hnt]
      obtain ⟨a1, a2, a3, a4, a5⟩ := n1c
      refine ⟨?_, ?_, ?_, ?_, ?_⟩
      · intro p hp
        show _ = upd (w 9) e.1 _ p
        by_cases c : p = e.1
        · subst c; rw [upS_at, pk_us]
        · rw [upS_off c, pk_un c]; exact a1 p hp
      · intro s hs; rw [upS_ne (cne (by decide))]; exact a2 s hs
      · rw [upS_ne (cne (by decide))]; exact a3
      · intro hok; rw [upS_ne (cne (by decide)), upS_ne (cne (by decide))]; exact a4 hok
      · intro s hs; rw [upS_ne (cne (by decide))]; exact a5 s hs
    have hfr : ∀ m, (m ≠ 9 ∧ m < 20) ∨ 24 < m → upS σ1 (h, 9) e.1 (w 9 e.1 + e.2.2) (h, m) = σ (h, m) := fun m hm => by rw [upS_ne (cne (by omega)), n1f m (by omega)]
    have hw2 : WB (n + 1) (nt v i w e) := by
      unfold nt
      rw [eb]
      exact n1_WB hw hb
    have hc2 : CS h (upS σ1 (h, 9) e.1 (w 9 e.1 + e.2.2)) v := CS_of hc (fun m' hm' => by
      have h1 : m' ≠ 9 ∧ m' < 20 := by
        simp only [List.mem_cons, List.not_mem_nil, or_false] at hm'
        omega
      exact hfr m' (Or.inl h1))
    obtain ⟨σ', g1, g2, g3, g4⟩ := ih (j + 1) m (n + 1) _ _ (fun e' he' => hL e' (List.mem_cons_of_mem _ he')) (by omega) (by omega) (by omega) hc2 hcl2 hw2 (fun k hk' => by
      rw [hfr 26 (Or.inr (by decide)), hfr 27 (Or.inr (by decide)), hfr 28 (Or.inr (by decide)), show j + 1 + k = j + (k + 1) by omega]
      exact hk (k + 1) (by rw [List.length_cons]; omega)) (by rw [hfr 25 (Or.inr (by decide)), h25]; congr 1; omega)
    refine ⟨σ', g1, g2, fun m hm => by rw [g3 m hm, hfr m hm], fun c hc' => ?_⟩
    rw [g4 c hc', upS_ne (fun x => hc' (by rw [x])), n1g c hc']
theorem c_fall {h i n : Nat} {σ : Sg} {v w : Vw} {H0 A0 : Nat → Int32} (hv : WFs v) (hi : i < hn v) (hc : CS h σ v) (hh : okh v (w 9)) (hcl : CL h H0 A0 (tn v) σ w) (hw : WB n w) (hn : n ≤ 900) : ∃ σ', f_X2_fall h (nI i) σ = some ((), σ') ∧ CL h H0 A0 (tn v) σ' (flS v i w) ∧ (∀ m, m ≠ 9 → m < 20 → σ' (h, m) = σ (h, m)) ∧ (∀ c : Nat × Nat, c.1 ≠ h → σ' c = σ c) := by
  have hi8 := hn8 hv hi
  obtain ⟨σ2, σ1, e1, e2, b1, b2, b3, b4⟩ := c_follow hv hi hc hh hcl.1
  have hc2 : CS h σ2 v := CS_of hc (fun m' hm' => by
    have h1 : m' < 25 := by
      simp only [List.mem_cons, List.not_mem_nil, or_false] at hm'
      omega
    exact b3 m' h1)
  have hcl2 : CL h H0 A0 (tn v) σ2 w := by
    obtain ⟨a1, a2, a3, a4, a5⟩ := hcl
    unfold CL
    rw [b3 9 (by decide), b3 20 (by decide), b3 21 (by decide), b3 22 (by decide), b3 23 (by decide), b3 24 (by decide)]
    exact ⟨a1, a2, a3, a4, a5⟩
  have hlen := hlS_len v (w 9) i
  obtain ⟨σ', g1, g2, g3, g4⟩ := fl_loop hv hi (hlS v (w 9) i) 0 fuel n σ2 w (hlS_e hv hi hh) (by omega) (by show _ < 2000; omega) (by omega) hc2 hcl2 hw (fun k hk => by rw [Nat.zero_add]; exact b2 k hk) (by rw [Nat.zero_add]; exact b1)
  refine ⟨σ', ?_, g2, ?_, fun c hc' => by rw [g4 c hc', b4 c hc']⟩
  · unfold f_X2_fall
    rw [e1, bd_some, e2, bd_some, e_get_nI (n := 8) _ rfl hi8, bd_some, (hc2.2.2 i hi8).1]
    exact g1
  · intro m h9 hm
    rw [g3 m (Or.inl ⟨h9, hm⟩), b3 m (by omega)]
