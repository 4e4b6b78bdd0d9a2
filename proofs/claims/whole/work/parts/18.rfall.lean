/-! ===== the reference's fall ===== -/
def RD (τ : Sg) (w : Vw) : Prop := (∀ p, p < 24 → τ (0, 44) p = w 9 p) ∧ (∀ t, t < 24 → τ (0, 45) t = w 23 t) ∧ (∀ k, k < 576 → τ (0, 46) k = w 46 k)
/-- what a fall leaves as it was -/
def RF (τ τ' : Sg) : Prop := (∀ k, k ≠ 24 → τ' (0, 29) k = τ (0, 29) k) ∧ (∀ c : Nat × Nat, c ≠ (0, 29) → c ≠ (0, 44) → c ≠ (0, 45) → c ≠ (0, 46) → c ≠ (0, 47) → τ' c = τ c)
theorem RF.refl (τ : Sg) : RF τ τ := ⟨fun _ _ => rfl, fun _ _ _ _ _ _ => rfl⟩
theorem RF.trans {τ τ' τ'' : Sg} (h : RF τ τ') (h' : RF τ' τ'') : RF τ τ'' := ⟨fun k hk => (h'.1 k hk).trans (h.1 k hk), fun c c1 c2 c3 c4 c5 => (h'.2 c c1 c2 c3 c4 c5).trans (h.2 c c1 c2 c3 c4 c5)⟩
theorem RF.RS {τ τ' : Sg} {v : Vw} (h : RF τ τ') (hr : RS τ v) : RS τ' v := RS_of hr (fun k hk => h.1 k (by omega)) (fun m hm => by
  have h1 : m ≠ 29 ∧ m ≠ 44 ∧ m ≠ 45 ∧ m ≠ 46 ∧ m ≠ 47 := by
    simp only [List.mem_cons, List.not_mem_nil, or_false] at hm
    omega
  exact h.2 _ (cne h1.1) (cne h1.2.1) (cne h1.2.2.1) (cne h1.2.2.2.1) (cne h1.2.2.2.2))
theorem ix24' (t u : Nat) : (24 : Int32) * nI t + nI u = nI (24 * t + u) := by
  rw [show (24 : Int32) = nI 24 from rfl, pk_mul, nI_add]
/-- the state behind a step of the reference's fall -/
def rst (τ : Sg) (j p t u : Nat) (x k : Int32) : Sg := upS (upS (upS (upS (upS τ (0, 47) j (nI p)) (0, 29) 24 (nI (j + 1))) (0, 45) t (τ (0, 45) t + x)) (0, 46) (24 * t + u) (τ (0, 46) (24 * t + u) + x)) (0, 44) p (τ (0, 44) p + k)
theorem rst_RF (τ : Sg) (j p t u : Nat) (x k : Int32) : RF τ (rst τ j p t u x k) := by
  constructor
  · intro k' hk
    unfold rst
    rw [upS_ne (by decide), upS_ne (by decide), upS_ne (by decide), upS_off hk, upS_ne (by decide)]
  · intro c c1 c2 c3 c4 c5
    unfold rst
    rw [upS_ne c2, upS_ne c4, upS_ne c3, upS_ne c1, upS_ne c5]
theorem rf_step {v : Vw} (hv : WFs v) {i : Nat} (hi : i < hn v) {p j t u n : Nat} {c : Int32} {τ : Sg} (hr : RS τ v) (hp : vp v p) (h13 : v 13 p = nI t) (ht : t < 24) (h16 : v 16 i = nI u) (hu : u < 24) (hj : j < 8) (h24 : τ (0, 29) 24 = nI j) : f_X7_fall_45 (n + 1) (nI i) (v 17 i) c (nI p) τ = f_X7_fall_45 n (nI i) (v 17 i) (c - kpf (v 17 i) (v 8 p) (τ (0, 44) p) c) (if c - kpf (v 17 i) (v 8 p) (τ (0, 44) p) c = 0 then -1 else nxv v (v 17 i) p) (rst τ j p t u (hmf (v 17 i) (v 11 p) (v 12 p) (v 19 i) c) (kpf (v 17 i) (v 8 p) (τ (0, 44) p) c)) := by
  have hp24 : p < 24 := hp.1
  have hi8 := hn8 hv hi
  have hip := inb24 hp24
  have hit := inb24 ht
  have hii : inb (nI i) 8 := vp_in_nI hi8 (by decide)
  have hij : inb (nI j) 8 := vp_in_nI hj (by decide)
  have hix : inb (nI (24 * t + u)) 576 := vp_in_nI (by omega) (by decide)
  have c42 : τ (0, 42) (nI i).toNatClampNeg = v 19 i := by rw [nI_clamp (by omega)]; exact (hr.2.2.2 i hi8).2.2.2
  have hrs : RS (rst τ j p t u (hmf (v 17 i) (v 11 p) (v 12 p) (v 19 i) c) (kpf (v 17 i) (v 8 p) (τ (0, 44) p) c)) v := (rst_RF _ _ _ _ _ _ _).RS hr
  rw [f_X7_fall_45, if_neg (nI_pos (by omega)), e_lives hr hv hp, bd_some, chk_t hii, c42, e_harmOf _ _ _ hr hp24, bd_some, e_keptAt _ _ hr hp24, bd_some, h24, chk_t hij]
  generalize hmf (v 17 i) (v 11 p) (v 12 p) (v 19 i) c = x at hrs ⊢
  generalize kpf (v 17 i) (v 8 p) (τ (0, 44) p) c = k at hrs ⊢
  rw [bv_eq, show (nI j).toNatClampNeg = j from nI_clamp (by omega), show (upS τ (0, 47) j (nI p)) (0, 29) 24 = nI j by rw [upS_ne (by decide)]; exact h24, nI_1, bv_eq, h13, chk_t hit, chk_t hit, show (nI t).toNatClampNeg = t from nI_clamp (by omega), bv_eq]
  rw [show (upS (upS τ (0, 47) j (nI p)) (0, 29) 24 (nI (j + 1))) (0, 45) t = τ (0, 45) t by rw [upS_ne (by decide), upS_ne (by decide)]]
  rw [chk_t hii, show (upS (upS (upS τ (0, 47) j (nI p)) (0, 29) 24 (nI (j + 1))) (0, 45) t (τ (0, 45) t + x)) (0, 39) (nI i).toNatClampNeg = nI u by rw [upS_ne (by decide), upS_ne (by decide), upS_ne (by decide), nI_clamp (by omega), (hr.2.2.2 i hi8).1, h16], ix24', chk_t hix, chk_t hix, bv_eq, show (nI (24 * t + u)).toNatClampNeg = 24 * t + u from nI_clamp (by omega)]
  rw [show (upS (upS (upS τ (0, 47) j (nI p)) (0, 29) 24 (nI (j + 1))) (0, 45) t (τ (0, 45) t + x)) (0, 46) (24 * t + u) = τ (0, 46) (24 * t + u) by rw [upS_ne (by decide), upS_ne (by decide), upS_ne (by decide)]]
  rw [chk_t hip, chk_t hip, bv_eq, show (nI p).toNatClampNeg = p from nI_clamp (by omega), bv_eq]
  rw [show (upS (upS (upS (upS τ (0, 47) j (nI p)) (0, 29) 24 (nI (j + 1))) (0, 45) t (τ (0, 45) t + x)) (0, 46) (24 * t + u) (τ (0, 46) (24 * t + u) + x)) (0, 44) p = τ (0, 44) p by rw [upS_ne (by decide), upS_ne (by decide), upS_ne (by decide), upS_ne (by decide)]]
  change (if c - k = 0 then f_X7_fall_171 (f_X7_fall_45 n) (nI i) (v 17 i) (c - k) (-1) (rst τ j p t u x k) else bd (f_X7_nextOf (v 17 i) (nI p) (rst τ j p t u x k)) _) = _
  rw [r_next hrs hv (knd hv hi) hp24, bd_some]
  unfold f_X7_fall_171
  by_cases h0 : c - k = 0
  · rw [if_pos h0, if_pos h0]
  · rw [if_neg h0, if_neg h0]
theorem rst_RD {τ : Sg} {w : Vw} (h : RD τ w) {j p t u : Nat} (x k : Int32) (hp : p < 24) (ht : t < 24) (hu : u < 24) : RD (rst τ j p t u x k) (n1 w t u p x k) := by
  refine ⟨?_, ?_, ?_⟩
  · intro q hq
    rw [n1_9]
    unfold rst
    by_cases c : q = p
    · subst c; rw [upS_at, pk_us, h.1 q hq]
    · rw [upS_off c, pk_un c, upS_ne (by decide), upS_ne (by decide), upS_ne (by decide), upS_ne (by decide), h.1 q hq]
  · intro s hs
    rw [n1_23]
    unfold rst
    rw [upS_ne (by decide), upS_ne (by decide)]
    by_cases c : s = t
    · subst c; rw [upS_at, pk_us, h.2.1 s hs]
    · rw [upS_off c, pk_un c, upS_ne (by decide), upS_ne (by decide), h.2.1 s hs]
  · intro s hs
    rw [n1_46]
    unfold rst
    rw [upS_ne (by decide)]
    by_cases c : s = 24 * t + u
    · subst c; rw [upS_at, pk_us, h.2.2 _ hs]
    · rw [upS_off c, pk_un c, upS_ne (by decide), upS_ne (by decide), upS_ne (by decide), h.2.2 s hs]
theorem le0_10 : ∀ c ∈ l10, (c ≤ 0 ↔ c = 0) := by decide
theorem rf_loop {v : Vw} (hv : WFs v) {i : Nat} (hi : i < hn v) {hd : Nat → Int32} (hh : okh v hd) : ∀ n m j x c τ w, okx v (v 17 i) n x → c ∈ l10 → RS τ v → RD τ w → (∀ q ∈ wy v (v 17 i) n x, w 9 q = hd q) → n < m → j + n ≤ 7 → τ (0, 29) 24 = nI j → ∃ τ', f_X7_fall_45 m (nI i) (v 17 i) c (if c = 0 then -1 else x) τ = some ((), τ') ∧ RF τ τ' ∧ RD τ' ((hl v hd (v 17 i) (wy v (v 17 i) n x) c).foldl (nt v i) w) ∧ τ' (0, 29) 24 = nI (j + (hl v hd (v 17 i) (wy v (v 17 i) n x) c).length) ∧ (∀ k, k < (hl v hd (v 17 i) (wy v (v 17 i) n x) c).length → τ' (0, 47) (j + k) = nI ((hl v hd (v 17 i) (wy v (v 17 i) n x) c).getD k (0, 0, 0)).1) ∧ (∀ k, k < j → τ' (0, 47) k = τ (0, 47) k) := by
  intro n
  have stop : ∀ m c τ, f_X7_fall_45 (m + 1) (nI i) (v 17 i) c (-1) τ = some ((), τ) := fun m c τ => by rw [f_X7_fall_45, if_pos (by decide)]
  induction n with
  | zero =>
    intro m j x c τ w hx hc hr hd' hq hm hj h24
    obtain ⟨m, rfl⟩ : ∃ k, m = k + 1 := ⟨m - 1, by omega⟩
    have hx1 : x = -1 := by rcases hx with e | ⟨q, _, _, hq⟩; exact e; omega
    subst hx1
    refine ⟨τ, ?_, RF.refl τ, hd', h24, fun k hk => absurd hk (Nat.not_lt_zero _), fun _ _ => rfl⟩
    rw [ite_self]; exact stop m c τ
  | succ n ih =>
    intro m j x c τ w hx hc hr hd' hq hm hj h24
    obtain ⟨m, rfl⟩ : ∃ k, m = k + 1 := ⟨m - 1, by omega⟩
    have none : hl v hd (v 17 i) (wy v (v 17 i) (n + 1) x) c = [] → (if c = 0 then -1 else x) = -1 → ∃ τ', f_X7_fall_45 (m + 1) (nI i) (v 17 i) c (if c = 0 then -1 else x) τ = some ((), τ') ∧ RF τ τ' ∧ RD τ' ((hl v hd (v 17 i) (wy v (v 17 i) (n + 1) x) c).foldl (nt v i) w) ∧ τ' (0, 29) 24 = nI (j + (hl v hd (v 17 i) (wy v (v 17 i) (n + 1) x) c).length) ∧ (∀ k, k < (hl v hd (v 17 i) (wy v (v 17 i) (n + 1) x) c).length → τ' (0, 47) (j + k) = nI ((hl v hd (v 17 i) (wy v (v 17 i) (n + 1) x) c).getD k (0, 0, 0)).1) ∧ (∀ k, k < j → τ' (0, 47) k = τ (0, 47) k) := by
      intro e1 e2
      rw [e1, e2]
      exact ⟨τ, stop m c τ, RF.refl τ, hd', h24, fun k hk => absurd hk (Nat.not_lt_zero _), fun _ _ => rfl⟩
    rcases hx with rfl | ⟨p, rfl, hp, hmp⟩
    · refine none ?_ (ite_self _)
      rw [wy, if_pos (by decide)]; rfl
    · have hp24 : p < 24 := hp.1
      have hwy : wy v (v 17 i) (n + 1) (nI p) = p :: wy v (v 17 i) n (nxv v (v 17 i) p) := by
        rw [wy, if_neg (nI_pos (by omega)), nI_clamp (by omega)]
      by_cases c0 : c = 0
      · refine none ?_ (if_pos c0)
        rw [hwy, hl, if_pos (by rw [c0]; decide)]
      · have c0' : ¬ c ≤ 0 := fun h => c0 ((le0_10 c hc).mp h)
        obtain ⟨t, htT, h13, h14⟩ := hv.2.2.2.1 p hp
        have ht : t < 24 := by have := (tn24 hv).1; omega
        obtain ⟨u, hu, hu24, e16, eu, _, _, _, _⟩ := who_ok hv hi
        have h9 : τ (0, 44) p = hd p := by rw [hd'.1 p hp24]; exact hq p (by rw [hwy]; exact List.mem_cons_self)
        have hkp := kp_ok (v 17 i) (knd hv hi) (v 8 p) (hv.2.1 p hp24).1 (hd p) (hh p hp24).1 (hh p hp24).2 c hc (pos10 c hc c0')
        have hst := rf_step hv hi (n := m) (c := c) hr hp h13 ht e16 hu24 (by omega) h24
        rw [h9] at hst
        have hhl : hl v hd (v 17 i) (wy v (v 17 i) (n + 1) (nI p)) c = (p, c, kpf (v 17 i) (v 8 p) (hd p) c) :: hl v hd (v 17 i) (wy v (v 17 i) n (nxv v (v 17 i) p)) (c - kpf (v 17 i) (v 8 p) (hd p) c) := by
          rw [hwy, hl, if_neg c0']
        have hnt : nt v i w (p, c, kpf (v 17 i) (v 8 p) (hd p) c) = n1 w t u p (hmf (v 17 i) (v 11 p) (v 12 p) (v 19 i) c) (kpf (v 17 i) (v 8 p) (hd p) c) := by
          unfold nt
          rw [h13, nI_clamp (by omega), eu]
        have hnd : (wy v (v 17 i) (n + 1) (nI p)).Nodup := wy_nodup hv (knd hv hi) (n + 1) (ms (v 17 i) p + 1) _ (Or.inr ⟨p, rfl, hp, Nat.lt_succ_self _⟩)
        rw [hwy, List.nodup_cons] at hnd
        generalize hmf (v 17 i) (v 11 p) (v 12 p) (v 19 i) c = y at hst hnt
        generalize kpf (v 17 i) (v 8 p) (hd p) c = k at hst hnt hkp hhl
        have hrf := rst_RF τ j p t u y k
        have hrd := rst_RD hd' (j := j) (t := t) (u := u) y k hp24 ht hu24
        rw [← hnt] at hrd
        obtain ⟨τ', e, a1, a2, a3, a4, a5⟩ := ih m (j + 1) (nxv v (v 17 i) p) (c - k) _ _ (okx_nx hv (knd hv hi) hp24 (by omega)) hkp.2.1 (hrf.RS hr) hrd (fun q hq' => by
          rw [nt_9, pk_un (show q ≠ p from fun x => hnd.1 (by have h2 := hq'; rw [x] at h2; exact h2))]
          exact hq q (by rw [hwy]; exact List.mem_cons_of_mem _ hq')) (by omega) (by omega) (by
          unfold rst
          rw [upS_ne (by decide), upS_ne (by decide), upS_ne (by decide), upS_at])
        refine ⟨τ', ?_, hrf.trans a1, ?_, ?_, ?_, ?_⟩
        · rw [if_neg c0, hst]; exact e
        · rw [hhl, List.foldl_cons]; exact a2
        · rw [hhl, a3, List.length_cons]; congr 1; omega
        · intro k' hk'
          rw [hhl] at hk' ⊢
          cases k' with
          | zero =>
            rw [Nat.add_zero, a5 j (by omega)]
            unfold rst
            rw [upS_ne (by decide), upS_ne (by decide), upS_ne (by decide), upS_ne (by decide), upS_at]
            rfl
          | succ k' =>
            rw [show j + (k' + 1) = (j + 1) + k' by omega, a4 k' (by simpa using hk')]
            rfl
        · intro k' hk'
          rw [a5 k' (by omega)]
          unfold rst
          rw [upS_ne (by decide), upS_ne (by decide), upS_ne (by decide), upS_ne (by decide), upS_off (by omega)]
theorem r_fall {v : Vw} (hv : WFs v) {i : Nat} (hi : i < hn v) {τ : Sg} {w : Vw} (hr : RS τ v) (hd' : RD τ w) (hh : okh v (w 9)) : ∃ τ', f_X7_fall (nI i) τ = some ((), τ') ∧ RF τ τ' ∧ RD τ' (flS v i w) ∧ τ' (0, 29) 24 = nI (hlS v (w 9) i).length ∧ (∀ k, k < (hlS v (w 9) i).length → τ' (0, 47) k = nI ((hlS v (w 9) i).getD k (0, 0, 0)).1) := by
  have hi8 := hn8 hv hi
  have hii : inb (nI i) 8 := vp_in_nI hi8 (by decide)
  obtain ⟨u, hu, hu24, e16, eu, hp, hp24, e14, _⟩ := who_ok hv hi
  have r8 := hr.2.2.2 i hi8
  have c40 : τ (0, 40) (nI i).toNatClampNeg = v 17 i := by rw [nI_clamp (by omega)]; exact r8.2.1
  have c41 : τ (0, 41) (nI i).toNatClampNeg = v 18 i := by rw [nI_clamp (by omega)]; exact r8.2.2.1
  have c39 : τ (0, 39) (nI i).toNatClampNeg = nI u := by rw [nI_clamp (by omega), r8.1]; exact e16
  have c35 : τ (0, 35) (nI u).toNatClampNeg = nI (hmv v i) := by rw [nI_clamp (by omega), hr.2.2.1 u hu]; exact e14
  have hF : RF τ (upS τ (0, 29) 24 0) := ⟨fun k hk => by rw [upS_off hk], fun c c1 _ _ _ _ => by rw [upS_ne c1]⟩
  have hd2 : RD (upS τ (0, 29) 24 0) w := by
    unfold RD
    rw [upS_ne (by decide), upS_ne (by decide), upS_ne (by decide)]
    exact hd'
  obtain ⟨τ', e, a1, a2, a3, a4, _⟩ := rf_loop hv hi hh 6 fuel 0 (nxv v (v 17 i) (hmv v i)) (v 18 i) (upS τ (0, 29) 24 0) w (okx_nx hv (knd hv hi) hp24 (by have := ms6 (v 17 i) (hmv v i) hp24; omega)) (fig hv hi) (hF.RS hr) hd2 (fun _ _ => rfl) (by decide) (by decide) upS_at
  refine ⟨τ', ?_, hF.trans a1, a2, ?_, ?_⟩
  · rw [← e]
    unfold f_X7_fall f_X7_fall_38
    rw [chk_t hii, bv_eq, chk_t hii, bv_eq, c40, c41, c39, c35, chk_t hii, chk_t (inb24 hu24), r_next hr hv (knd hv hi) hp24, bd_some, bv_eq, bv_eq]
    by_cases h0 : v 18 i = 0
    · rw [if_pos h0, if_pos h0]
    · rw [if_neg h0, if_neg h0]
  · rw [a3, Nat.zero_add]; rfl
  · intro k hk
    have := a4 k hk
    rwa [Nat.zero_add] at this
