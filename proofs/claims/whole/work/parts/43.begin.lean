/-! ===== all 39 calls, and the beginning ===== -/
theorem El_Rel : El Rel := ⟨E_feed_R, E_front_R, E_flat_R, E_tenant_R, E_anger_R, E_habit_R, E_put_R, E_saucer_R, E_awning_R, E_wash_R, E_wind_R, E_move_R, E_rain_R, E_week_R, E_steps_R, E_down_R, E_whom_R, E_does_R, E_harmed_R, E_least_R, E_hours_R, E_quiet_R, E_rule_R, E_hang_R, E_big_R, E_leads_R, E_whose_R, E_deal_R, E_pays_R, E_climbs_R, E_worth_R, E_swaps_R, E_peg_R, E_row_R, E_judge_R, E_seeds_R, E_image_R, E_restore_R, E_count_R⟩
theorem sM0_z {c : Nat × Nat} (h : c ≠ (0, 29)) (k : Nat) : sM0 c k = 0 := if_neg h
theorem NF_0 {σF : Sg} (h0 : σF (1, 7) 0 = nI 3) (h1 : σF (1, 7) 1 = nI 2) (h2 : σF (1, 7) 2 = 0) (hz : ∀ k, k < 24 → σF (1, 8) k = 0 ∧ σF (1, 9) k = 0 ∧ σF (1, 10) k = 0 ∧ σF (1, 11) k = 0 ∧ σF (1, 12) k = 0) (hb : BT 2 (σF (1, 13)) (σF (1, 14)) 3 0) : NF 3 2 (hv (sCof (sHof σF)) 1) := by
  refine ⟨h0, h1, ?_, rfl, fun k hk => ?_, hb, fun _ _ => rfl, ⟨0, by decide, rfl⟩⟩
  · show σF (1, 7) 2 ∈ l3
    rw [h2]; decide
  · obtain ⟨a, b, c, d, e⟩ := hz k hk
    exact ⟨a, b, c, d, e, rfl, rfl⟩
theorem R0_gen {σF τ : Sg} (nf : NF 3 2 (hv (sCof (sHof σF)) 1)) (h2 : σF (1, 7) 2 = 0) (b4 : τ (0, 29) 4 = 0) (bs : ∀ k, k ≠ 4 → τ (0, 29) k = sM0 (0, 29) k) (br : ∀ k, k < 24 → τ (0, 30) k = 0 ∧ τ (0, 31) k = 0 ∧ τ (0, 32) k = 0 ∧ τ (0, 33) k = 0 ∧ τ (0, 34) k = 0 ∧ τ (0, 35) k = nI (4 * (k / 2) + k % 2) ∧ τ (0, 36) k = 0 ∧ τ (0, 37) k = 0) (ba : ∀ k, k < 576 → τ (0, 38) k = 0) (b0 : ∀ c : Nat × Nat, c ≠ (0, 29) → (c.2 < 30 ∨ 38 < c.2) → τ c = sM0 c) : Rel (sCof (sHof σF)) τ := by
  have hw := NF_WF (by decide) (by decide) (by decide) (by decide) nf
  have htn := NF_tn (by decide) (by decide) nf
  have z : ∀ m, m ≠ 29 → (m < 30 ∨ 38 < m) → ∀ k, τ (0, m) k = 0 := fun m h1 h2 k => by rw [b0 _ (cne h1) h2]; exact sM0_z (cne h1) k
  have e7 : hv (sCof (sHof σF)) 1 7 2 = 0 := h2
  obtain ⟨n1, n2, n3, n4, n5, n6, n7, n8⟩ := nf
  refine ⟨⟨hw, ⟨⟨?_, ?_, ?_, ?_⟩, fun k hk => ?_, fun k hk => ?_, fun k hk => ?_⟩, ?_, fun k hk => ?_, fun k hk => ?_⟩, ⟨⟨0, by decide, rfl, ?_, fun j hj => absurd hj (Nat.not_lt_zero _)⟩, ⟨0, by decide, rfl, ?_, fun j hj => absurd hj (Nat.not_lt_zero _)⟩, fun j _ => ?_⟩, ?_, fun h => ?_⟩
  · rw [bs 0 (by decide), n1]; rfl
  · rw [bs 1 (by decide), n2]; rfl
  · rw [bs 2 (by decide), e7]; rfl
  · rw [b4, n4]
  · obtain ⟨q1, q2, q3, q4, q5, q6, q7, q8⟩ := br k hk
    obtain ⟨p1, p2, p3, p4, p5, p6, p7⟩ := n5 k hk
    exact ⟨q1.trans p1.symm, q3.trans p3.symm, q4.trans p4.symm, q5.trans p5.symm⟩
  · rw [htn] at hk
    obtain ⟨x1, x2, x3⟩ := bl_td (κ := 2) (s := 3) (by decide) (by decide) hk
    obtain ⟨q1, q2, q3, q4, q5, q6, q7, q8⟩ := br k (by omega)
    have := (n6 (k / 2) (k % 2) x2 (Or.inl x3)).1
    rw [x1] at this
    rw [q6, this]
  · rw [z 39 (by decide) (by decide), z 40 (by decide) (by decide), z 41 (by decide) (by decide), z 42 (by decide) (by decide)]
    exact ⟨rfl, rfl, rfl, rfl⟩
  · rw [bs 3 (by decide)]; rfl
  · obtain ⟨q1, q2, q3, q4, q5, q6, q7, q8⟩ := br k hk
    obtain ⟨p1, p2, p3, p4, p5, p6, p7⟩ := n5 k hk
    exact ⟨q2.trans p2.symm, q7.trans p6.symm, q8.trans p7.symm⟩
  · rw [ba k hk, n7 k hk]
  · rw [bs 26 (by decide)]; rfl
  · rw [bs 42 (by decide)]; rfl
  · rw [z 43 (by decide) (by decide)]; rfl
  · rw [bs 35 (by decide)]; rfl
  · exact absurd ((bs 35 (by decide)).trans rfl) h
theorem R0 : Rel sC sM := by
  obtain ⟨s1, e1, a1, a2, a3, a4, a5, _⟩ := c_build0 (h := 1) (s := 3) (κ := 2) (by decide) (by decide) (by decide) zS
  obtain ⟨t1, e2, b4, bs, br, ba, b0⟩ := r_clearAll (κ := 2) (by decide) (by decide) (τ := sM0) rfl
  have x1 : s1 = sF := (Prod.mk.inj (Option.some.inj (e1.symm.trans sF_eq))).2
  have x2 : t1 = sM := (Prod.mk.inj (Option.some.inj (e2.symm.trans sM_eq))).2
  rw [x1] at a1 a2 a3 a4 a5
  rw [x2] at b4 bs br ba b0
  have h2 : sF (1, 7) 2 = 0 := a3 2 (Nat.le_refl 2)
  exact R0_gen (NF_0 a1 a2 h2 a4 a5) h2 b4 bs br ba b0
