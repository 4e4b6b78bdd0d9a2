/-! ===== the relation of the two states ===== -/
def hv (σ : Sg) (h : Nat) : Vw := fun m => if m < 25 then σ (h, m) else fun _ => 0
def vk (m k : Nat) : Prop := (m = 6 ∧ k = 4) ∨ (m = 7 ∧ k < 3) ∨ (m = 15 ∧ k = 0) ∨ (((8 ≤ m ∧ m ≤ 14) ∨ m = 21 ∨ m = 24) ∧ k < 24) ∨ (m = 22 ∧ k < 576) ∨ (16 ≤ m ∧ m ≤ 19 ∧ k < 8)
def VE (v v' : Vw) : Prop := ∀ m k, vk m k → v' m k = v m k
theorem VE.refl (v : Vw) : VE v v := fun _ _ _ => rfl
theorem VE.symm {v v' : Vw} (h : VE v v') : VE v' v := fun m k q => (h m k q).symm
theorem VE.trans {v v' v'' : Vw} (h : VE v v') (h' : VE v' v'') : VE v v'' := fun m k q => (h' m k q).trans (h m k q)
def WF (v : Vw) : Prop := WFs v ∧ okh v (v 9) ∧ OKL (v 21) (v 22) ∧ (∃ a, a ≤ 9999 ∧ v 6 4 = nI a)
theorem VE.s {v v' : Vw} (h : VE v v') : v' 7 0 = v 7 0 ∧ v' 7 1 = v 7 1 ∧ v' 7 2 = v 7 2 ∧ v' 15 0 = v 15 0 ∧ v' 6 4 = v 6 4 := ⟨h 7 0 (by unfold vk; omega), h 7 1 (by unfold vk; omega), h 7 2 (by unfold vk; omega), h 15 0 (by unfold vk; omega), h 6 4 (by unfold vk; omega)⟩
theorem VE.f {v v' : Vw} (h : VE v v') {m k : Nat} (hm : (8 ≤ m ∧ m ≤ 14) ∨ m = 21 ∨ m = 24) (hk : k < 24) : v' m k = v m k := h m k (by unfold vk; omega)
theorem VE.g {v v' : Vw} (h : VE v v') {m k : Nat} (hm : 16 ≤ m ∧ m ≤ 19) (hk : k < 8) : v' m k = v m k := h m k (by unfold vk; omega)
theorem VE.a {v v' : Vw} (h : VE v v') {k : Nat} (hk : k < 576) : v' 22 k = v 22 k := h 22 k (by unfold vk; omega)
theorem WF.ve {v v' : Vw} (h : VE v v') (H : WF v) : WF v' := by
  obtain ⟨s0, s1, s2, s3, s4⟩ := h.s
  have et : tn v' = tn v := by unfold tn; rw [s0, s1]
  have eh : hn v' = hn v := by unfold hn; rw [s3]
  have ep : ∀ p, vp v' p = vp v p := fun p => by unfold vp; rw [s0, s1]
  obtain ⟨⟨a1, a2, a3, a4, a5, a6⟩, b, c, d⟩ := H
  have ht : tn v ≤ 24 := (tn_ok _ a1.1 _ a1.2.1).1
  refine ⟨⟨?_, ?_, ?_, ?_, ?_, ?_⟩, ?_, ⟨?_, ?_⟩, ?_⟩
  · rw [s0, s1, s2]; exact a1
  · intro p hp
    rw [h.f (m := 8) (by omega) hp, h.f (m := 10) (by omega) hp, h.f (m := 11) (by omega) hp]; exact a2 p hp
  · intro t ht'
    rw [et] at ht'
    obtain ⟨p, hp, e1, e2⟩ := a3 t ht'
    exact ⟨p, by rw [ep]; exact hp, by rw [h.f (m := 14) (by omega) (by omega)]; exact e1, by rw [h.f (m := 13) (by omega) hp.1]; exact e2⟩
  · intro p hp
    rw [ep] at hp
    obtain ⟨t, ht', e1, e2⟩ := a4 p hp
    exact ⟨t, by rw [et]; exact ht', by rw [h.f (m := 13) (by omega) hp.1]; exact e1, by rw [h.f (m := 14) (by omega) (by omega)]; exact e2⟩
  · rw [eh, s3]; exact a5
  · intro i hi
    rw [eh] at hi
    have hi8 : i < 8 := Nat.lt_of_lt_of_le hi a5.1
    rw [et, h.g (m := 16) (by omega) hi8, h.g (m := 17) (by omega) hi8, h.g (m := 18) (by omega) hi8, h.g (m := 19) (by omega) hi8]
    exact a6 i hi
  · intro p hp
    rw [h.f (m := 8) (by omega) hp, h.f (m := 9) (by omega) hp]; exact b p hp
  · intro t ht'; rw [h.f (m := 21) (by omega) ht']; exact c.1 t ht'
  · intro t ht'; rw [h.a ht']; exact c.2 t ht'
  · rw [s4]; exact d
/-- the reference shows a view, all of it -/
def shM (τ : Sg) (v : Vw) : Prop := RS τ v ∧ τ (0, 29) 3 = v 6 4 ∧ (∀ p, p < 24 → τ (0, 31) p = v 9 p ∧ τ (0, 36) p = v 21 p ∧ τ (0, 37) p = v 24 p) ∧ (∀ k, k < 576 → τ (0, 38) k = v 22 k)
theorem shM.ve {τ : Sg} {v v' : Vw} (h : VE v v') (hw : WF v) (H : shM τ v) : shM τ v' := by
  obtain ⟨s0, s1, s2, s3, s4⟩ := h.s
  have et : tn v' = tn v := by unfold tn; rw [s0, s1]
  have ht : tn v ≤ 24 := (tn_ok _ hw.1.1.1 _ hw.1.1.2.1).1
  obtain ⟨⟨a1, a2, a3, a4⟩, b, c, d⟩ := H
  refine ⟨⟨?_, ?_, ?_, ?_⟩, ?_, ?_, ?_⟩
  · rw [s0, s1, s2, s3]; exact a1
  · intro p hp
    rw [h.f (m := 8) (by omega) hp, h.f (m := 10) (by omega) hp, h.f (m := 11) (by omega) hp, h.f (m := 12) (by omega) hp]; exact a2 p hp
  · intro t ht'
    rw [et] at ht'
    rw [h.f (m := 14) (by omega) (by omega)]; exact a3 t ht'
  · intro i hi8
    rw [h.g (m := 16) (by omega) hi8, h.g (m := 17) (by omega) hi8, h.g (m := 18) (by omega) hi8, h.g (m := 19) (by omega) hi8]
    exact a4 i hi8
  · rw [s4]; exact b
  · intro p hp
    rw [h.f (m := 9) (by omega) hp, h.f (m := 21) (by omega) hp, h.f (m := 24) (by omega) hp]; exact c p hp
  · intro k hk; rw [h.a hk]; exact d k hk
/-- a row of carried numbers shows a view -/
def shI (r : Nat → Int32) (v : Vw) : Prop := (r 0 = v 7 0 ∧ r 1 = v 7 1 ∧ r 2 = v 7 2 ∧ r 3 = v 6 4 ∧ r 4 = v 15 0) ∧ (∀ p, p < 24 → r (5 + 8 * p) = v 8 p ∧ r (6 + 8 * p) = v 9 p ∧ r (7 + 8 * p) = v 10 p ∧ r (8 + 8 * p) = v 11 p ∧ r (9 + 8 * p) = v 12 p ∧ (p < tn v → r (10 + 8 * p) = v 14 p) ∧ r (11 + 8 * p) = v 21 p ∧ r (12 + 8 * p) = v 24 p) ∧ (∀ k, k < 576 → r (197 + k) = v 22 k) ∧ (∀ i, i < 8 → r (773 + 4 * i) = v 16 i ∧ r (774 + 4 * i) = v 17 i ∧ r (775 + 4 * i) = v 18 i ∧ r (776 + 4 * i) = v 19 i)
theorem shI.ve {r : Nat → Int32} {v v' : Vw} (h : VE v v') (H : shI r v) : shI r v' := by
  obtain ⟨s0, s1, s2, s3, s4⟩ := h.s
  have et : tn v' = tn v := by unfold tn; rw [s0, s1]
  obtain ⟨a, b, c, d⟩ := H
  refine ⟨?_, ?_, ?_, ?_⟩
  · rw [s0, s1, s2, s3, s4]; exact a
  · intro p hp
    rw [et, h.f (m := 8) (by omega) hp, h.f (m := 9) (by omega) hp, h.f (m := 10) (by omega) hp, h.f (m := 11) (by omega) hp, h.f (m := 12) (by omega) hp, h.f (m := 14) (by omega) hp, h.f (m := 21) (by omega) hp, h.f (m := 24) (by omega) hp]; exact b p hp
  · intro k hk; rw [h.a hk]; exact c k hk
  · intro i hi8
    rw [h.g (m := 16) (by omega) hi8, h.g (m := 17) (by omega) hi8, h.g (m := 18) (by omega) hi8, h.g (m := 19) (by omega) hi8]
    exact d i hi8
def RelT (σ τ : Sg) : Prop := (∃ n, n ≤ 96 ∧ σ (0, 4) 1 = nI n ∧ τ (0, 29) 26 = nI n ∧ ∀ j, j < n → σ (0, 5) j = τ (0, 48) j) ∧ (∃ n, n ≤ 10 ∧ σ (0, 0) 7 = nI n ∧ τ (0, 29) 42 = nI n ∧ ∀ j, j < n → σ (0, 1) j = τ (0, 56) j) ∧ (∀ j, j < 7 → σ (0, 2) j = τ (0, 43) j)
def RelI (σ τ : Sg) : Prop := σ (0, 0) 8 = τ (0, 29) 35 ∧ (¬ τ (0, 29) 35 = 0 → WF (hv σ 2) ∧ shI (τ (0, 53)) (hv σ 2))
def RelN (σ τ : Sg) : Prop := WF (hv σ 1) ∧ shM τ (hv σ 1)
def Rel (σ τ : Sg) : Prop := RelN σ τ ∧ RelT σ τ ∧ RelI σ τ
/-! frames -/
def FC (σ σ' : Sg) : Prop := ∀ c : Nat × Nat, c.1 ≠ 3 → c ≠ (0, 3) → (c.1 = 1 → c.2 < 25) → σ' c = σ c
theorem FC.refl (σ : Sg) : FC σ σ := fun _ _ _ _ => rfl
theorem FC.trans {a b c : Sg} (h : FC a b) (h' : FC b c) : FC a c := fun x h1 h2 h3 => (h' x h1 h2 h3).trans (h x h1 h2 h3)
def kM : List Nat := [30, 31, 32, 33, 34, 35, 36, 37, 38, 39, 40, 41, 42, 43, 48, 53, 56]
def kS : List Nat := [0, 1, 2, 3, 4, 26, 35, 42]
def FM (τ τ' : Sg) : Prop := (∀ k, k ∈ kS → τ' (0, 29) k = τ (0, 29) k) ∧ (∀ m, m ∈ kM → τ' (0, m) = τ (0, m))
theorem FM.refl (τ : Sg) : FM τ τ := ⟨fun _ _ => rfl, fun _ _ => rfl⟩
theorem FM.trans {a b c : Sg} (h : FM a b) (h' : FM b c) : FM a c := ⟨fun k hk => (h'.1 k hk).trans (h.1 k hk), fun k hk => (h'.2 k hk).trans (h.2 k hk)⟩
theorem RF.FM {τ τ' : Sg} (h : RF τ τ') : FM τ τ' := ⟨fun k hk => h.1 k (by simp only [kS, List.mem_cons, List.not_mem_nil, or_false] at hk; omega), fun m hm => by
  have h1 : m ≠ 29 ∧ m ≠ 44 ∧ m ≠ 45 ∧ m ≠ 46 ∧ m ≠ 47 := by
    simp only [kM, List.mem_cons, List.not_mem_nil, or_false] at hm
    omega
  exact h.2 _ (cne h1.1) (cne h1.2.1) (cne h1.2.2.1) (cne h1.2.2.2.1) (cne h1.2.2.2.2)⟩
theorem FM.RS {τ τ' : Sg} {v : Vw} (h : FM τ τ') (hr : RS τ v) : RS τ' v := by
  unfold _root_.Jvm.Pilot.CDripsOnBelowLaw_law_r3732_a79a41.RS at hr ⊢
  rw [h.1 0 (by decide), h.1 1 (by decide), h.1 2 (by decide), h.1 4 (by decide), h.2 30 (by decide), h.2 32 (by decide), h.2 33 (by decide), h.2 34 (by decide), h.2 35 (by decide), h.2 39 (by decide), h.2 40 (by decide), h.2 41 (by decide), h.2 42 (by decide)]
  exact hr
theorem FM.shM {τ τ' : Sg} {v : Vw} (h : FM τ τ') (H : shM τ v) : shM τ' v := by
  obtain ⟨a, b, c, d⟩ := H
  refine ⟨h.RS a, ?_, ?_, ?_⟩
  · rw [h.1 3 (by decide)]; exact b
  · rw [h.2 31 (by decide), h.2 36 (by decide), h.2 37 (by decide)]; exact c
  · rw [h.2 38 (by decide)]; exact d
theorem hv_eq {σ σ' : Sg} {h : Nat} (e : ∀ m, m < 25 → σ' (h, m) = σ (h, m)) : hv σ' h = hv σ h := by
  funext m
  unfold hv
  by_cases c : m < 25
  · rw [if_pos c, if_pos c, e m c]
  · rw [if_neg c, if_neg c]
theorem Rel.fr {σ σ' τ τ' : Sg} (H : Rel σ τ) (hc : FC σ σ') (hm : FM τ τ') : Rel σ' τ' := by
  obtain ⟨⟨a1, a2⟩, ⟨b1, b2, b3⟩, c1, c2⟩ := H
  have e1 : hv σ' 1 = hv σ 1 := hv_eq (fun m hm' => hc _ (by show (1 : Nat) ≠ 3; decide) (cneh (by decide)) (fun _ => hm'))
  have e2 : hv σ' 2 = hv σ 2 := hv_eq (fun m hm' => hc _ (by show (2 : Nat) ≠ 3; decide) (cneh (by decide)) (fun _ => hm'))
  have e0 : ∀ m, m ≠ 3 → σ' (0, m) = σ (0, m) := fun m hm' => hc _ (by show (0 : Nat) ≠ 3; decide) (cne hm') (fun q => absurd (show (0 : Nat) = 1 from q) (by decide))
  refine ⟨⟨?_, ?_⟩, ⟨?_, ?_, ?_⟩, ?_, ?_⟩
  · rw [e1]; exact a1
  · rw [e1]; exact hm.shM a2
  · rw [e0 4 (by decide), e0 5 (by decide), hm.1 26 (by decide), hm.2 48 (by decide)]; exact b1
  · rw [e0 0 (by decide), e0 1 (by decide), hm.1 42 (by decide), hm.2 56 (by decide)]; exact b2
  · rw [e0 2 (by decide), hm.2 43 (by decide)]; exact b3
  · rw [e0 0 (by decide), hm.1 35 (by decide)]; exact c1
  · rw [e2, hm.1 35 (by decide), hm.2 53 (by decide)]; exact c2
theorem FM_thrown (τ : Sg) (x : Int32) : FM τ (upS τ (0, 29) 18 x) := ⟨fun k hk => by
  rw [upS_off (show k ≠ 18 by simp only [kS, List.mem_cons, List.not_mem_nil, or_false] at hk; omega)], fun m hm => by
  rw [upS_ne (cne (show m ≠ 29 by simp only [kM, List.mem_cons, List.not_mem_nil, or_false] at hm; omega))]⟩
theorem Rel.thrown {σ τ : Sg} (H : Rel σ τ) : Rel σ (upS τ (0, 29) 18 0) := H.fr (FC.refl σ) (FM_thrown τ 0)
/-! the two numbers of refusals -/
theorem refuse2 {σ τ : Sg} (H : Rel σ τ) (k : Nat) (n : Int32) (hk : k < 7) (hn : -n = nI k) : ∃ σ' τ', f_X6_refuse n σ = some (n, σ') ∧ f_X7_refuse n τ = some (n, τ') ∧ Rel σ' τ' := by
  refine ⟨upS σ (0, 2) k (σ (0, 2) k + 1), upS τ (0, 43) k (τ (0, 43) k + 1), ?_, ?_, ?_⟩
  · unfold f_X6_refuse
    rw [hn, e_get_nI (n := 7) _ rfl hk, bd_some, e_set_nI (n := 7) _ rfl hk, bd_some]
  · have hb : inb (nI k) 7 := vp_in_nI hk (by decide)
    unfold f_X7_refuse
    rw [hn, chk_t hb, chk_t hb, bv_eq, nI_clamp (by omega)]
  · obtain ⟨⟨a1, a2⟩, ⟨b1, b2, b3⟩, c1, c2⟩ := H
    have e1 : hv (upS σ (0, 2) k (σ (0, 2) k + 1)) 1 = hv σ 1 := hv_eq (fun m hm' => upS_ne (cneh (by decide)))
    have e2 : hv (upS σ (0, 2) k (σ (0, 2) k + 1)) 2 = hv σ 2 := hv_eq (fun m hm' => upS_ne (cneh (by decide)))
    refine ⟨⟨?_, ?_⟩, ⟨?_, ?_, ?_⟩, ?_, ?_⟩
    · rw [e1]; exact a1
    · rw [e1]
      obtain ⟨d1, d2, d3, d4⟩ := a2
      refine ⟨RS_of d1 (fun k' _ => by rw [upS_ne (by decide)]) (fun m hm => by
        rw [upS_ne (cne (show m ≠ 43 by simp only [List.mem_cons, List.not_mem_nil, or_false] at hm; omega))]), ?_, ?_, ?_⟩
      · rw [upS_ne (by decide)]; exact d2
      · rw [upS_ne (by decide), upS_ne (by decide), upS_ne (by decide)]; exact d3
      · rw [upS_ne (by decide)]; exact d4
    · rw [upS_ne (by decide), upS_ne (by decide), upS_ne (by decide), upS_ne (by decide)]; exact b1
    · rw [upS_ne (by decide), upS_ne (by decide), upS_ne (by decide), upS_ne (by decide)]; exact b2
    · intro j hj
      by_cases e : j = k
      · subst e; rw [upS_at, upS_at, b3 j hj]
      · rw [upS_off e, upS_off e, b3 j hj]
    · rw [upS_ne (by decide), upS_ne (by decide)]; exact c1
    · rw [e2, upS_ne (by decide), upS_ne (by decide)]; exact c2
theorem refuse1 {σ τ : Sg} (H : Rel σ τ) : ∃ σ' τ', f_X6_refuse (-1) σ = some (-1, σ') ∧ f_X7_refuse (-1) τ = some (-1, τ') ∧ Rel σ' τ' := refuse2 H 1 (-1) (by decide) (by decide)
theorem refuse_2 {σ τ : Sg} (H : Rel σ τ) : ∃ σ' τ', f_X6_refuse (-2) σ = some (-2, σ') ∧ f_X7_refuse (-2) τ = some (-2, τ') ∧ Rel σ' τ' := refuse2 H 2 (-2) (by decide) (by decide)
theorem refuse_3 {σ τ : Sg} (H : Rel σ τ) : ∃ σ' τ', f_X6_refuse (-3) σ = some (-3, σ') ∧ f_X7_refuse (-3) τ = some (-3, τ') ∧ Rel σ' τ' := refuse2 H 3 (-3) (by decide) (by decide)
theorem refuse_4 {σ τ : Sg} (H : Rel σ τ) : ∃ σ' τ', f_X6_refuse (-4) σ = some (-4, σ') ∧ f_X7_refuse (-4) τ = some (-4, τ') ∧ Rel σ' τ' := refuse2 H 4 (-4) (by decide) (by decide)
theorem refuse_6 {σ τ : Sg} (H : Rel σ τ) : ∃ σ' τ', f_X6_refuse (-6) σ = some (-6, σ') ∧ f_X7_refuse (-6) τ = some (-6, τ') ∧ Rel σ' τ' := refuse2 H 6 (-6) (by decide) (by decide)
/-! tenants, habits, hours, flats -/
theorem CS1 (σ : Sg) : CS 1 σ (hv σ 1) := ⟨⟨rfl, rfl, rfl, rfl⟩, fun _ _ => ⟨rfl, rfl, rfl, rfl, rfl, rfl⟩, fun _ _ => ⟨rfl, rfl, rfl, rfl⟩⟩
theorem chk01 {β : Type} {c : Prop} [Decidable c] (o : Option β) : chk ((if c then (1 : Int32) else 0) = 0 ∨ (if c then (1 : Int32) else 0) = 1) o = o := chk_t (by split <;> decide) o
def tF (v : Vw) (a : Int32) : Int32 := if 0 ≤ a ∧ a ≤ nI (tn v) - 1 then 1 else 0
def hF (v : Vw) (a : Int32) : Int32 := if 0 ≤ a ∧ a ≤ nI (hn v) - 1 then 1 else 0
def qF (a : Int32) : Int32 := if 0 ≤ a ∧ a ≤ 7 then 1 else 0
theorem c_ten {σ : Sg} {v : Vw} (hc : CS 1 σ v) (hv' : WFs v) (a : Int32) : f_X6_isTenant a σ = some (tF v a, σ) := by
  unfold f_X6_isTenant f_X0_tenants tF
  rw [bd_some, hc.1.1, hc.1.2.1, (tn24 hv').2.1, e_within, bd_some, chk01]
theorem r_ten {τ : Sg} {v : Vw} (hr : RS τ v) (hv' : WFs v) (a : Int32) : f_X7_isTenant a τ = some (tF v a, τ) := by
  unfold f_X7_isTenant f_X7_tenants tF
  rw [bd_some, hr.1.1, hr.1.2.1, (tn24 hv').2.1, e_in0, bd_some, chk01]
theorem c_hab {σ : Sg} {v : Vw} (hc : CS 1 σ v) (hv' : WFs v) (a : Int32) : f_X6_isHabit a σ = some (hF v a, σ) := by
  unfold f_X6_isHabit hF
  rw [hc.1.2.2.2, hv'.2.2.2.2.1.2, e_within, bd_some, chk01]
theorem r_hab {τ : Sg} {v : Vw} (hr : RS τ v) (hv' : WFs v) (a : Int32) : f_X7_isHabit a τ = some (hF v a, τ) := by
  unfold f_X7_isHabit hF
  rw [hr.1.2.2.2, hv'.2.2.2.2.1.2, e_in0, bd_some, chk01]
theorem c_hour (a : Int32) (σ : Sg) : f_X6_isHour a σ = some (qF a, σ) := by
  unfold f_X6_isHour qF
  rw [e_within, bd_some, chk01]
theorem r_time (a : Int32) (τ : Sg) : f_X7_isTime a τ = some (qF a, τ) := by
  unfold f_X7_isTime qF
  rw [show (7 : Int64) = (7 : Int32).toInt64 from rfl, e_in0, bd_some, chk01]
theorem rng {a : Int32} {n : Nat} (hn : n < 2 ^ 31) (h0 : 0 ≤ a) (h1 : a ≤ nI n) : ∃ j, j ≤ n ∧ a = nI j := by
  obtain ⟨j, hj, e⟩ := nI_of (show ¬ a < 0 by grind)
  rw [e] at h1
  exact ⟨j, (nI_leI hj hn).mp h1, e⟩
theorem rng1 {a : Int32} {n : Nat} (hn : n < 2 ^ 31) : ((∃ j, j < n ∧ a = nI j) ∧ (0 ≤ a ∧ a ≤ nI n - 1)) ∨ ¬ (0 ≤ a ∧ a ≤ nI n - 1) := by
  by_cases h : 0 ≤ a ∧ a ≤ nI n - 1
  · refine Or.inl ⟨?_, h⟩
    cases n with
    | zero =>
      have h1 : a ≤ nI 0 - 1 := h.2
      rw [show nI 0 - 1 = -1 from by decide] at h1
      have h0 := h.1
      exact absurd h0 (by grind)
    | succ n =>
      rw [nI_pred] at h
      obtain ⟨j, hj, e⟩ := rng (by omega) h.1 h.2
      exact ⟨j, by omega, e⟩
  · exact Or.inr h
theorem t_cases {v : Vw} (hv' : WFs v) (a : Int32) : (∃ t, t < tn v ∧ t < 24 ∧ a = nI t ∧ tF v a = 1) ∨ tF v a = 0 := by
  have := (tn24 hv').1
  unfold tF
  rcases rng1 (a := a) (n := tn v) (by omega) with ⟨⟨t, ht, e⟩, h⟩ | h
  · exact Or.inl ⟨t, ht, by omega, e, if_pos h⟩
  · exact Or.inr (if_neg h)
theorem h_cases {v : Vw} (hv' : WFs v) (a : Int32) : (∃ i, i < hn v ∧ i < 8 ∧ a = nI i ∧ hF v a = 1) ∨ hF v a = 0 := by
  have := hv'.2.2.2.2.1.1
  unfold hF
  rcases rng1 (a := a) (n := hn v) (by omega) with ⟨⟨t, ht, e⟩, h⟩ | h
  · exact Or.inl ⟨t, ht, by omega, e, if_pos h⟩
  · exact Or.inr (if_neg h)
theorem q_cases (a : Int32) : (∃ k, k < 8 ∧ a = nI k ∧ qF a = 1) ∨ qF a = 0 := by
  unfold qF
  by_cases h : 0 ≤ a ∧ a ≤ 7
  · obtain ⟨j, hj, e⟩ := rng (n := 7) (by decide) h.1 h.2
    exact Or.inl ⟨j, by omega, e, if_pos h⟩
  · exact Or.inr (if_neg h)
/-- the place of a flat as it is told -/
def pF (v : Vw) (a : Int32) : Int32 := if a < 0 ∨ v 7 0 ≤ a / 10 ∨ v 7 1 ≤ a - a / 10 * 10 then -1 else 4 * (a / 10) + (a - a / 10 * 10)
theorem div10 {a : Int32} (h : ¬ a < 0) : ∃ n : Nat, n < 2 ^ 31 ∧ a = nI n ∧ a / 10 = nI (n / 10) ∧ a - a / 10 * 10 = nI (n % 10) := by
  obtain ⟨n, hn, rfl⟩ := nI_of h
  exact ⟨n, hn, rfl, pk_div (d := 10) hn (by decide) (by decide), pk_rem (d := 10) hn (by decide) (by decide)⟩
theorem p_cases {v : Vw} (hv' : WFs v) (a : Int32) : pF v a = -1 ∨ ∃ p, vp v p ∧ p < 24 ∧ pF v a = nI p := by
  unfold pF
  by_cases h : a < 0 ∨ v 7 0 ≤ a / 10 ∨ v 7 1 ≤ a - a / 10 * 10
  · exact Or.inl (if_pos h)
  · rw [if_neg h]
    have h1 : ¬ a < 0 := fun x => h (Or.inl x)
    have h2 : ¬ v 7 0 ≤ a / 10 := fun x => h (Or.inr (Or.inl x))
    have h3 : ¬ v 7 1 ≤ a - a / 10 * 10 := fun x => h (Or.inr (Or.inr x))
    obtain ⟨n, hn, rfl, e1, e2⟩ := div10 h1
    rw [e2, e1]
    rw [e2] at h3
    rw [e1] at h2
    have s1 := inS hv'.1.1
    have s2 := inK hv'.1.2.1
    have b1 : nI (n / 10) < nI 6 := by show nI (n / 10) < 6; generalize nI (n / 10) = x at h2 ⊢; grind
    have b2 : nI (n % 10) < nI 4 := by show nI (n % 10) < 4; generalize nI (n % 10) = x at h3 ⊢; grind
    have b1' := (nI_ltI (by omega) (by decide)).mp b1
    have b2' := (nI_ltI (by omega) (by decide)).mp b2
    refine Or.inr ⟨4 * (n / 10) + n % 10, ⟨by omega, ?_, ?_⟩, by omega, ?_⟩
    · rw [show (4 * (n / 10) + n % 10) / 4 = n / 10 by omega]
      generalize nI (n / 10) = x at h2 ⊢; grind
    · rw [show (4 * (n / 10) + n % 10) % 4 = n % 10 by omega]
      generalize nI (n % 10) = x at h3 ⊢; grind
    · rw [show (4 : Int32) = nI 4 from rfl, pk_mul, nI_add]
theorem c_place {σ : Sg} {v : Vw} (hc : CS 1 σ v) (a : Int32) : f_X0_placeOf 1 a σ = some (pF v a, σ) := by
  unfold f_X0_placeOf pF
  by_cases h : a < 0
  · rw [if_neg (by grind), if_pos (Or.inl h)]
  · rw [if_pos (by grind), e_place, bd_some, hc.1.1, hc.1.2.1]
    obtain ⟨n, hn, rfl, e1, e2⟩ := div10 h
    rw [e2, e1]
    have n1 : ¬ nI (n / 10) < 0 := nI_pos (by omega)
    have n2 : ¬ nI (n % 10) < 0 := nI_pos (by omega)
    by_cases c1 : v 7 0 ≤ nI (n / 10)
    · rw [if_pos (Or.inr (Or.inl c1)), if_pos (Or.inr (Or.inl c1))]
    · by_cases c2 : v 7 1 ≤ nI (n % 10)
      · rw [if_pos (Or.inr (Or.inr (Or.inr c2))), if_pos (Or.inr (Or.inr c2))]
      · rw [if_neg (by rintro (x | x | x | x) <;> contradiction), if_neg (by rintro (x | x | x) <;> contradiction), c44]
theorem r_place {τ : Sg} {v : Vw} (hr : RS τ v) (a : Int32) : f_X7_flatAt a τ = some (pF v a, τ) := by
  unfold f_X7_flatAt f_X7_flatAt_30 f_X7_flatAt_31 pF
  rw [hr.1.1, hr.1.2.1, if_pos rfl, if_neg (show ¬ (1 : Int32) = 0 by decide)]
  by_cases c0 : a < 0
  · rw [if_pos c0, if_pos (Or.inl c0)]
  · rw [if_neg c0]
    by_cases c1 : v 7 0 ≤ a / 10
    · rw [if_pos c1, if_pos (Or.inr (Or.inl c1))]
    · rw [if_neg c1]
      by_cases c2 : v 7 1 ≤ a - a / 10 * 10
      · rw [if_pos c2, if_pos (Or.inr (Or.inr c2))]
      · rw [if_neg c2, if_neg (by rintro (x | x | x) <;> contradiction)]
