theorem dX6_leads_0 : decode cX6_leads 0 = .ok (.aload_n 0, 1) := by decide +kernel
theorem dX6_leads_1 : decode cX6_leads 1 = .ok (.getfield 12, 3) := by decide +kernel
theorem dX6_leads_4 : decode cX6_leads 4 = .ok (.getfield 67, 3) := by decide +kernel
theorem dX6_leads_7 : decode cX6_leads 7 = .ok (.iload_n 1, 1) := by decide +kernel
theorem dX6_leads_8 : decode cX6_leads 8 = .ok (.invokevirtual 147, 3) := by decide +kernel
theorem dX6_leads_11 : decode cX6_leads 11 = .ok (.istore_n 2, 1) := by decide +kernel
theorem dX6_leads_12 : decode cX6_leads 12 = .ok (.iload_n 2, 1) := by decide +kernel
theorem dX6_leads_13 : decode cX6_leads 13 = .ok (.ifCond .ge 9, 3) := by decide +kernel
theorem dX6_leads_16 : decode cX6_leads 16 = .ok (.aload_n 0, 1) := by decide +kernel
theorem dX6_leads_17 : decode cX6_leads 17 = .ok (.iconst (-1), 1) := by decide +kernel
theorem dX6_leads_18 : decode cX6_leads 18 = .ok (.invokevirtual 130, 3) := by decide +kernel
theorem dX6_leads_21 : decode cX6_leads 21 = .ok (.ireturn, 1) := by decide +kernel
theorem dX6_leads_22 : decode cX6_leads 22 = .ok (.iconst (-1), 1) := by decide +kernel
theorem dX6_leads_23 : decode cX6_leads 23 = .ok (.istore_n 3, 1) := by decide +kernel
theorem dX6_leads_24 : decode cX6_leads 24 = .ok (.aload_n 0, 1) := by decide +kernel
theorem dX6_leads_25 : decode cX6_leads 25 = .ok (.iload_n 2, 1) := by decide +kernel
theorem dX6_leads_26 : decode cX6_leads 26 = .ok (.iconst (-1), 1) := by decide +kernel
theorem dX6_leads_27 : decode cX6_leads 27 = .ok (.invokevirtual 262, 3) := by decide +kernel
theorem dX6_leads_30 : decode cX6_leads 30 = .ok (.istore 4, 2) := by decide +kernel
theorem dX6_leads_32 : decode cX6_leads 32 = .ok (.iconst 0, 1) := by decide +kernel
theorem dX6_leads_33 : decode cX6_leads 33 = .ok (.istore 5, 2) := by decide +kernel
theorem dX6_leads_35 : decode cX6_leads 35 = .ok (.iload 5, 2) := by decide +kernel
theorem dX6_leads_37 : decode cX6_leads 37 = .ok (.iconst 1, 1) := by decide +kernel
theorem dX6_leads_38 : decode cX6_leads 38 = .ok (.if_icmp .gt 32, 3) := by decide +kernel
theorem dX6_leads_41 : decode cX6_leads 41 = .ok (.aload_n 0, 1) := by decide +kernel
theorem dX6_leads_42 : decode cX6_leads 42 = .ok (.iload_n 2, 1) := by decide +kernel
theorem dX6_leads_43 : decode cX6_leads 43 = .ok (.iload 5, 2) := by decide +kernel
theorem dX6_leads_45 : decode cX6_leads 45 = .ok (.invokevirtual 262, 3) := by decide +kernel
theorem dX6_leads_48 : decode cX6_leads 48 = .ok (.istore 6, 2) := by decide +kernel
theorem dX6_leads_50 : decode cX6_leads 50 = .ok (.iload 6, 2) := by decide +kernel
theorem dX6_leads_52 : decode cX6_leads 52 = .ok (.iload 4, 2) := by decide +kernel
theorem dX6_leads_54 : decode cX6_leads 54 = .ok (.if_icmp .ge 10, 3) := by decide +kernel
theorem dX6_leads_57 : decode cX6_leads 57 = .ok (.iload 6, 2) := by decide +kernel
theorem dX6_leads_59 : decode cX6_leads 59 = .ok (.istore 4, 2) := by decide +kernel
theorem dX6_leads_61 : decode cX6_leads 61 = .ok (.iload 5, 2) := by decide +kernel
theorem dX6_leads_63 : decode cX6_leads 63 = .ok (.istore_n 3, 1) := by decide +kernel
theorem dX6_leads_64 : decode cX6_leads 64 = .ok (.iinc 5 1, 3) := by decide +kernel
theorem dX6_leads_67 : decode cX6_leads 67 = .ok (.goto (-32), 3) := by decide +kernel
theorem dX6_leads_70 : decode cX6_leads 70 = .ok (.iload_n 3, 1) := by decide +kernel
theorem dX6_leads_71 : decode cX6_leads 71 = .ok (.iconst 1, 1) := by decide +kernel
theorem dX6_leads_72 : decode cX6_leads 72 = .ok (.iadd, 1) := by decide +kernel
theorem dX6_leads_73 : decode cX6_leads 73 = .ok (.ireturn, 1) := by decide +kernel
set_option maxRecDepth 100000 in
set_option maxHeartbeats 4000000 in
theorem g_X6_leads_64 (ids : List (Nat × Nat)) (Hn : Ndp ids)  (H0_0 : InR ids 0 0 5) (H1 : InR ids 1 6 28) (H2 : InR ids 2 6 28) (H3 : InR ids 3 6 28) (k35 : Int32 → Int32 → Int32 → Int32 → Sg → Option (Int32 × Sg)) (hk35 : ∀ (v2 : Int32) (v3 : Int32) (v4 : Int32) (v5 : Int32) (t0 : Sg), Gj kI mX6_leads ids 35 [some (aR (0, 0)), none, some (aI v2), some (aI v3), some (aI v4), some (aI v5), none] [] t0 (k35 v2 v3 v4 v5 t0)) (v2 : Int32) (v3 : Int32) (v4 : Int32) (v5 : Int32) (t0 : Sg) : Gj kI mX6_leads ids 64 [some (aR (0, 0)), none, some (aI v2), some (aI v3), some (aI v4), some (aI v5), none] [] t0 (f_X6_leads_64 k35 v2 v3 v4 v5 t0) := by
  unfold f_X6_leads_64
  refine G_st (x_iinc (v5 + (1 : Int32)) [some (aR (0, 0)), none, some (aI v2), some (aI v3), some (aI v4), some (aI (v5 + (1 : Int32))), none] dX6_leads_64 (Nat.le_of_ble_eq_true rfl) rfl rfl rfl rfl) ?_
  refine G_st (x_goto (tgt := 35) dX6_leads_67 (by decide)) ?_
  refine G_weak _ ?_ (hk35 v2 v3 v4 (v5 + (1 : Int32)) t0)
  exact (leL_s (leL_n (leL_s (leL_s (leL_s (leL_s (leL_n (leL_e _))))))))
set_option maxRecDepth 100000 in
set_option maxHeartbeats 4000000 in
theorem g_X6_leads_35 (ids : List (Nat × Nat)) (Hn : Ndp ids)  (H0_0 : InR ids 0 0 5) (H1 : InR ids 1 6 28) (H2 : InR ids 2 6 28) (H3 : InR ids 3 6 28)  : ∀ (n : Nat) (v2 : Int32) (v3 : Int32) (v4 : Int32) (v5 : Int32) (t0 : Sg), Gj kI mX6_leads ids 35 [some (aR (0, 0)), none, some (aI v2), some (aI v3), some (aI v4), some (aI v5), none] [] t0 (f_X6_leads_35 n v2 v3 v4 v5 t0) := by
  intro n
  induction n with
  | zero => intro v2 v3 v4 v5 t0; exact G_none
  | succ n ih =>
    intro v2 v3 v4 v5 t0
    rw [f_X6_leads_35]
    refine G_st (x_iload dX6_leads_35 rfl) ?_
    refine G_st (x_iconst (1 : Int32) dX6_leads_37 rfl) ?_
    refine G_ite (fun c8 => ?_) (fun c8 => ?_)
    · refine G_st (x_icmp_gt_t (tgt := 70) dX6_leads_38 (by decide) c8) ?_
      refine G_st (x_iload_n dX6_leads_70 rfl) ?_
      refine G_st (x_iconst (1 : Int32) dX6_leads_71 rfl) ?_
      refine G_st (x_iadd dX6_leads_72) ?_
      exact G_ret rfl ⟨dX6_leads_73, _, rfl, rfl⟩ rfl
    · refine G_st (x_icmp_gt_f 70 dX6_leads_38 (by decide) c8) ?_
      refine G_st (x_aload_n dX6_leads_41 rfl) ?_
      refine G_st (x_iload_n dX6_leads_42 rfl) ?_
      refine G_st (x_iload dX6_leads_43 rfl) ?_
      refine G_bd (fun x9 t10 h11 => ?_)
      refine G_st (x_callV [] (c_X6_tryAwning ids Hn v2 v5 H0_0 H1 H2 H3 _ _ _ h11) dX6_leads_45 tw_745 kc_X6_tryAwning (H0_0 0 (Nat.le_of_ble_eq_true rfl) (Nat.le_of_ble_eq_true rfl)) rfl rfl rfl rfl ⟨Nat.le_of_ble_eq_true rfl, Nat.le_of_ble_eq_true rfl⟩ (Nat.le_of_ble_eq_true rfl) rfl) ?_
      refine G_st (x_istore [some (aR (0, 0)), none, some (aI v2), some (aI v3), some (aI v4), some (aI v5), some (aI x9)] dX6_leads_48 (Nat.le_of_ble_eq_true rfl) rfl rfl) ?_
      refine G_st (x_iload dX6_leads_50 rfl) ?_
      refine G_st (x_iload dX6_leads_52 rfl) ?_
      refine G_ite (fun c12 => ?_) (fun c12 => ?_)
      · refine G_st (x_icmp_ge_t (tgt := 64) dX6_leads_54 (by decide) c12) ?_
        refine G_weak _ ?_ (g_X6_leads_64 ids Hn H0_0 H1 H2 H3 (f_X6_leads_35 n) (ih) v2 v3 v4 v5 t10)
        exact (leL_s (leL_n (leL_s (leL_s (leL_s (leL_s (leL_n (leL_e _))))))))
      · refine G_st (x_icmp_ge_f 64 dX6_leads_54 (by decide) c12) ?_
        refine G_st (x_iload dX6_leads_57 rfl) ?_
        refine G_st (x_istore [some (aR (0, 0)), none, some (aI v2), some (aI v3), some (aI x9), some (aI v5), some (aI x9)] dX6_leads_59 (Nat.le_of_ble_eq_true rfl) rfl rfl) ?_
        refine G_st (x_iload dX6_leads_61 rfl) ?_
        refine G_st (x_istore_n [some (aR (0, 0)), none, some (aI v2), some (aI v5), some (aI x9), some (aI v5), some (aI x9)] dX6_leads_63 (Nat.le_of_ble_eq_true rfl) rfl rfl) ?_
        refine G_weak _ ?_ (g_X6_leads_64 ids Hn H0_0 H1 H2 H3 (f_X6_leads_35 n) (ih) v2 v5 x9 v5 t10)
        exact (leL_s (leL_n (leL_s (leL_s (leL_s (leL_s (leL_n (leL_e _))))))))
set_option maxRecDepth 100000 in
set_option maxHeartbeats 4000000 in
theorem g_X6_leads (ids : List (Nat × Nat)) (Hn : Ndp ids) (v1 : Int32) (H0_0 : InR ids 0 0 5) (H1 : InR ids 1 6 28) (H2 : InR ids 2 6 28) (H3 : InR ids 3 6 28) (t0 : Sg) : Gj kI mX6_leads ids 0 [some (aR (0, 0)), some (aI v1), none, none, none, none, none] [] t0 (f_X6_leads v1 t0) := by
  unfold f_X6_leads
  refine G_st (x_aload_n dX6_leads_0 rfl) ?_
  refine G_st (x_get (k := 0) (aR (1, 6)) dX6_leads_1 (H0_0 0 (Nat.le_of_ble_eq_true rfl) (Nat.le_of_ble_eq_true rfl)) rfl rfl rfl rfl inTX6 (Nat.le_of_ble_eq_true rfl) tw_285 (fun ad => rfl)) ?_
  refine G_st (x_get (k := 0) (aR (1, 7)) dX6_leads_4 (H1 6 (Nat.le_of_ble_eq_true rfl) (Nat.le_of_ble_eq_true rfl)) rfl rfl rfl rfl inTX2 (Nat.le_of_ble_eq_true rfl) tw_250 (fun ad => rfl)) ?_
  refine G_st (x_iload_n dX6_leads_7 rfl) ?_
  refine G_bd (fun x1 t2 h3 => ?_)
  refine G_st (x_callV [] (c_X0_placeOf ids Hn 1 v1 (H1.sub (Nat.le_of_ble_eq_true rfl) (Nat.le_of_ble_eq_true rfl)) _ _ _ h3) dX6_leads_8 tw_521 kc_X0_placeOf (H1 7 (Nat.le_of_ble_eq_true rfl) (Nat.le_of_ble_eq_true rfl)) rfl rfl rfl rfl ⟨Nat.le_of_ble_eq_true rfl, Nat.le_of_ble_eq_true rfl⟩ (Nat.le_of_ble_eq_true rfl) rfl) ?_
  refine G_st (x_istore_n [some (aR (0, 0)), some (aI v1), some (aI x1), none, none, none, none] dX6_leads_11 (Nat.le_of_ble_eq_true rfl) rfl rfl) ?_
  refine G_st (x_iload_n dX6_leads_12 rfl) ?_
  refine G_ite (fun c4 => ?_) (fun c4 => ?_)
  · refine G_st (x_if_ge_t (tgt := 22) dX6_leads_13 (by decide) c4) ?_
    refine G_st (x_iconst (-1 : Int32) dX6_leads_22 rfl) ?_
    refine G_st (x_istore_n [some (aR (0, 0)), some (aI v1), some (aI x1), some (aI (-1 : Int32)), none, none, none] dX6_leads_23 (Nat.le_of_ble_eq_true rfl) rfl rfl) ?_
    refine G_st (x_aload_n dX6_leads_24 rfl) ?_
    refine G_st (x_iload_n dX6_leads_25 rfl) ?_
    refine G_st (x_iconst (-1 : Int32) dX6_leads_26 rfl) ?_
    refine G_bd (fun x5 t6 h7 => ?_)
    refine G_st (x_callV [] (c_X6_tryAwning ids Hn x1 (-1 : Int32) H0_0 H1 H2 H3 _ _ _ h7) dX6_leads_27 tw_745 kc_X6_tryAwning (H0_0 0 (Nat.le_of_ble_eq_true rfl) (Nat.le_of_ble_eq_true rfl)) rfl rfl rfl rfl ⟨Nat.le_of_ble_eq_true rfl, Nat.le_of_ble_eq_true rfl⟩ (Nat.le_of_ble_eq_true rfl) rfl) ?_
    refine G_st (x_istore [some (aR (0, 0)), some (aI v1), some (aI x1), some (aI (-1 : Int32)), some (aI x5), none, none] dX6_leads_30 (Nat.le_of_ble_eq_true rfl) rfl rfl) ?_
    refine G_st (x_iconst (0 : Int32) dX6_leads_32 rfl) ?_
    refine G_st (x_istore [some (aR (0, 0)), some (aI v1), some (aI x1), some (aI (-1 : Int32)), some (aI x5), some (aI (0 : Int32)), none] dX6_leads_33 (Nat.le_of_ble_eq_true rfl) rfl rfl) ?_
    refine G_weak _ ?_ (g_X6_leads_35 ids Hn H0_0 H1 H2 H3 fuel x1 (-1 : Int32) x5 (0 : Int32) t6)
    exact (leL_s (leL_n (leL_s (leL_s (leL_s (leL_s (leL_n (leL_e _))))))))
  · refine G_st (x_if_ge_f 22 dX6_leads_13 (by decide) c4) ?_
    refine G_st (x_aload_n dX6_leads_16 rfl) ?_
    refine G_st (x_iconst (-1 : Int32) dX6_leads_17 rfl) ?_
    refine G_bd (fun x13 t14 h15 => ?_)
    refine G_st (x_callV [] (c_X6_refuse ids Hn (-1 : Int32) H0_0 H1 H2 H3 _ _ _ h15) dX6_leads_18 tw_317 kc_X6_refuse (H0_0 0 (Nat.le_of_ble_eq_true rfl) (Nat.le_of_ble_eq_true rfl)) rfl rfl rfl rfl ⟨Nat.le_of_ble_eq_true rfl, Nat.le_of_ble_eq_true rfl⟩ (Nat.le_of_ble_eq_true rfl) rfl) ?_
    exact G_ret rfl ⟨dX6_leads_21, _, rfl, rfl⟩ rfl
set_option maxRecDepth 100000 in
set_option maxHeartbeats 4000000 in
theorem c_X6_leads (ids : List (Nat × Nat)) (Hn : Ndp ids) (v1 : Int32) (H0_0 : InR ids 0 0 5) (H1 : InR ids 1 6 28) (H2 : InR ids 2 6 28) (H3 : InR ids 3 6 28) (t0 : Sg) (r : Int32) (t1 : Sg) (hf : f_X6_leads v1 t0 = some (r, t1)) : Mt0 mX6_leads yX6_leads ids [aR (0, 0), aI v1] t0 (some (aI r)) t1 :=
  Mt_of (x := (r, t1)) (g_X6_leads ids Hn v1 H0_0 H1 H2 H3 t0) hf (fun _ _ => trivial) (by decide) rfl Hn (fun _ => rfl) (fun _ => Nat.le_of_ble_eq_true rfl)
theorem dX6_whose_0 : decode cX6_whose 0 = .ok (.aload_n 0, 1) := by decide +kernel
theorem dX6_whose_1 : decode cX6_whose 1 = .ok (.getfield 12, 3) := by decide +kernel
theorem dX6_whose_4 : decode cX6_whose 4 = .ok (.getfield 67, 3) := by decide +kernel
theorem dX6_whose_7 : decode cX6_whose 7 = .ok (.iload_n 1, 1) := by decide +kernel
theorem dX6_whose_8 : decode cX6_whose 8 = .ok (.invokevirtual 147, 3) := by decide +kernel
theorem dX6_whose_11 : decode cX6_whose 11 = .ok (.istore_n 3, 1) := by decide +kernel
theorem dX6_whose_12 : decode cX6_whose 12 = .ok (.iload_n 3, 1) := by decide +kernel
theorem dX6_whose_13 : decode cX6_whose 13 = .ok (.ifCond .ge 9, 3) := by decide +kernel
theorem dX6_whose_16 : decode cX6_whose 16 = .ok (.aload_n 0, 1) := by decide +kernel
theorem dX6_whose_17 : decode cX6_whose 17 = .ok (.iconst (-1), 1) := by decide +kernel
theorem dX6_whose_18 : decode cX6_whose 18 = .ok (.invokevirtual 130, 3) := by decide +kernel
theorem dX6_whose_21 : decode cX6_whose 21 = .ok (.ireturn, 1) := by decide +kernel
theorem dX6_whose_22 : decode cX6_whose 22 = .ok (.iload_n 2, 1) := by decide +kernel
theorem dX6_whose_23 : decode cX6_whose 23 = .ok (.iconst (-1), 1) := by decide +kernel
theorem dX6_whose_24 : decode cX6_whose 24 = .ok (.if_icmp .ge 10, 3) := by decide +kernel
theorem dX6_whose_27 : decode cX6_whose 27 = .ok (.aload_n 0, 1) := by decide +kernel
theorem dX6_whose_28 : decode cX6_whose 28 = .ok (.bipush (-4), 2) := by decide +kernel
theorem dX6_whose_30 : decode cX6_whose 30 = .ok (.invokevirtual 130, 3) := by decide +kernel
theorem dX6_whose_33 : decode cX6_whose 33 = .ok (.ireturn, 1) := by decide +kernel
theorem dX6_whose_34 : decode cX6_whose 34 = .ok (.iload_n 2, 1) := by decide +kernel
theorem dX6_whose_35 : decode cX6_whose 35 = .ok (.iconst 1, 1) := by decide +kernel
theorem dX6_whose_36 : decode cX6_whose 36 = .ok (.if_icmp .le 10, 3) := by decide +kernel
theorem dX6_whose_39 : decode cX6_whose 39 = .ok (.aload_n 0, 1) := by decide +kernel
theorem dX6_whose_40 : decode cX6_whose 40 = .ok (.bipush (-6), 2) := by decide +kernel
theorem dX6_whose_42 : decode cX6_whose 42 = .ok (.invokevirtual 130, 3) := by decide +kernel
theorem dX6_whose_45 : decode cX6_whose 45 = .ok (.ireturn, 1) := by decide +kernel
theorem dX6_whose_46 : decode cX6_whose 46 = .ok (.aload_n 0, 1) := by decide +kernel
theorem dX6_whose_47 : decode cX6_whose 47 = .ok (.iload_n 3, 1) := by decide +kernel
theorem dX6_whose_48 : decode cX6_whose 48 = .ok (.iconst 0, 1) := by decide +kernel
theorem dX6_whose_49 : decode cX6_whose 49 = .ok (.invokevirtual 262, 3) := by decide +kernel
theorem dX6_whose_52 : decode cX6_whose 52 = .ok (.pop, 1) := by decide +kernel
theorem dX6_whose_53 : decode cX6_whose 53 = .ok (.aload_n 0, 1) := by decide +kernel
theorem dX6_whose_54 : decode cX6_whose 54 = .ok (.getfield 19, 3) := by decide +kernel
theorem dX6_whose_57 : decode cX6_whose 57 = .ok (.getfield 103, 3) := by decide +kernel
theorem dX6_whose_60 : decode cX6_whose 60 = .ok (.getfield 107, 3) := by decide +kernel
theorem dX6_whose_63 : decode cX6_whose 63 = .ok (.aload_n 0, 1) := by decide +kernel
theorem dX6_whose_64 : decode cX6_whose 64 = .ok (.getfield 36, 3) := by decide +kernel
theorem dX6_whose_67 : decode cX6_whose 67 = .ok (.invokestatic 112, 3) := by decide +kernel
theorem dX6_whose_70 : decode cX6_whose 70 = .ok (.aload_n 0, 1) := by decide +kernel
theorem dX6_whose_71 : decode cX6_whose 71 = .ok (.iload_n 3, 1) := by decide +kernel
theorem dX6_whose_72 : decode cX6_whose 72 = .ok (.iload_n 2, 1) := by decide +kernel
theorem dX6_whose_73 : decode cX6_whose 73 = .ok (.invokevirtual 262, 3) := by decide +kernel
theorem dX6_whose_76 : decode cX6_whose 76 = .ok (.pop, 1) := by decide +kernel
theorem dX6_whose_77 : decode cX6_whose 77 = .ok (.iconst 0, 1) := by decide +kernel
theorem dX6_whose_78 : decode cX6_whose 78 = .ok (.istore 4, 2) := by decide +kernel
theorem dX6_whose_80 : decode cX6_whose 80 = .ok (.iconst 0, 1) := by decide +kernel
theorem dX6_whose_81 : decode cX6_whose 81 = .ok (.istore 5, 2) := by decide +kernel
theorem dX6_whose_83 : decode cX6_whose 83 = .ok (.iload 5, 2) := by decide +kernel
theorem dX6_whose_85 : decode cX6_whose 85 = .ok (.bipush 24, 2) := by decide +kernel
theorem dX6_whose_87 : decode cX6_whose 87 = .ok (.if_icmp .ge 27, 3) := by decide +kernel
theorem dX6_whose_90 : decode cX6_whose 90 = .ok (.aload_n 0, 1) := by decide +kernel
theorem dX6_whose_91 : decode cX6_whose 91 = .ok (.iload 5, 2) := by decide +kernel
theorem dX6_whose_93 : decode cX6_whose 93 = .ok (.invokevirtual 265, 3) := by decide +kernel
theorem dX6_whose_96 : decode cX6_whose 96 = .ok (.ifCond .ge 12, 3) := by decide +kernel
theorem dX6_whose_99 : decode cX6_whose 99 = .ok (.iload 4, 2) := by decide +kernel
theorem dX6_whose_101 : decode cX6_whose 101 = .ok (.iconst 1, 1) := by decide +kernel
theorem dX6_whose_102 : decode cX6_whose 102 = .ok (.iload 5, 2) := by decide +kernel
theorem dX6_whose_104 : decode cX6_whose 104 = .ok (.ishl, 1) := by decide +kernel
theorem dX6_whose_105 : decode cX6_whose 105 = .ok (.ior, 1) := by decide +kernel
theorem dX6_whose_106 : decode cX6_whose 106 = .ok (.istore 4, 2) := by decide +kernel
theorem dX6_whose_108 : decode cX6_whose 108 = .ok (.iinc 5 1, 3) := by decide +kernel
theorem dX6_whose_111 : decode cX6_whose 111 = .ok (.goto (-28), 3) := by decide +kernel
theorem dX6_whose_114 : decode cX6_whose 114 = .ok (.iload 4, 2) := by decide +kernel
theorem dX6_whose_116 : decode cX6_whose 116 = .ok (.ireturn, 1) := by decide +kernel
set_option maxRecDepth 100000 in
set_option maxHeartbeats 4000000 in
theorem g_X6_whose_108 (ids : List (Nat × Nat)) (Hn : Ndp ids)  (H0_0 : InR ids 0 0 5) (H1 : InR ids 1 6 28) (H2 : InR ids 2 6 28) (H3 : InR ids 3 6 28) (k83 : Int32 → Int32 → Sg → Option (Int32 × Sg)) (hk83 : ∀ (v4 : Int32) (v5 : Int32) (t0 : Sg), Gj kI mX6_whose ids 83 [some (aR (0, 0)), none, none, none, some (aI v4), some (aI v5)] [] t0 (k83 v4 v5 t0)) (v4 : Int32) (v5 : Int32) (t0 : Sg) : Gj kI mX6_whose ids 108 [some (aR (0, 0)), none, none, none, some (aI v4), some (aI v5)] [] t0 (f_X6_whose_108 k83 v4 v5 t0) := by
  unfold f_X6_whose_108
  refine G_st (x_iinc (v5 + (1 : Int32)) [some (aR (0, 0)), none, none, none, some (aI v4), some (aI (v5 + (1 : Int32)))] dX6_whose_108 (Nat.le_of_ble_eq_true rfl) rfl rfl rfl rfl) ?_
  refine G_st (x_goto (tgt := 83) dX6_whose_111 (by decide)) ?_
  refine G_weak _ ?_ (hk83 v4 (v5 + (1 : Int32)) t0)
  exact (leL_s (leL_n (leL_n (leL_n (leL_s (leL_s (leL_e _)))))))
set_option maxRecDepth 100000 in
set_option maxHeartbeats 4000000 in
theorem g_X6_whose_83 (ids : List (Nat × Nat)) (Hn : Ndp ids)  (H0_0 : InR ids 0 0 5) (H1 : InR ids 1 6 28) (H2 : InR ids 2 6 28) (H3 : InR ids 3 6 28)  : ∀ (n : Nat) (v4 : Int32) (v5 : Int32) (t0 : Sg), Gj kI mX6_whose ids 83 [some (aR (0, 0)), none, none, none, some (aI v4), some (aI v5)] [] t0 (f_X6_whose_83 n v4 v5 t0) := by
  intro n
  induction n with
  | zero => intro v4 v5 t0; exact G_none
  | succ n ih =>
    intro v4 v5 t0
    rw [f_X6_whose_83]
    refine G_st (x_iload dX6_whose_83 rfl) ?_
    refine G_st (x_bipush (24 : Int32) dX6_whose_85 rfl) ?_
    refine G_ite (fun c16 => ?_) (fun c16 => ?_)
    · refine G_st (x_icmp_ge_t (tgt := 114) dX6_whose_87 (by decide) c16) ?_
      refine G_st (x_iload dX6_whose_114 rfl) ?_
      exact G_ret rfl ⟨dX6_whose_116, _, rfl, rfl⟩ rfl
    · refine G_st (x_icmp_ge_f 114 dX6_whose_87 (by decide) c16) ?_
      refine G_st (x_aload_n dX6_whose_90 rfl) ?_
      refine G_st (x_iload dX6_whose_91 rfl) ?_
      refine G_bd (fun x17 t18 h19 => ?_)
      refine G_st (x_callV [] (c_X6_gain ids Hn v5 H0_0 H1 H2 H3 _ _ _ h19) dX6_whose_93 tw_753 kc_X6_gain (H0_0 0 (Nat.le_of_ble_eq_true rfl) (Nat.le_of_ble_eq_true rfl)) rfl rfl rfl rfl ⟨Nat.le_of_ble_eq_true rfl, Nat.le_of_ble_eq_true rfl⟩ (Nat.le_of_ble_eq_true rfl) rfl) ?_
      refine G_ite (fun c20 => ?_) (fun c20 => ?_)
      · refine G_st (x_if_ge_t (tgt := 108) dX6_whose_96 (by decide) c20) ?_
        refine G_weak _ ?_ (g_X6_whose_108 ids Hn H0_0 H1 H2 H3 (f_X6_whose_83 n) (ih) v4 v5 t18)
        exact (leL_s (leL_n (leL_n (leL_n (leL_s (leL_s (leL_e _)))))))
      · refine G_st (x_if_ge_f 108 dX6_whose_96 (by decide) c20) ?_
        refine G_st (x_iload dX6_whose_99 rfl) ?_
        refine G_st (x_iconst (1 : Int32) dX6_whose_101 rfl) ?_
        refine G_st (x_iload dX6_whose_102 rfl) ?_
        refine G_st (x_ishl dX6_whose_104) ?_
        refine G_st (x_ior dX6_whose_105) ?_
        refine G_bvI (fun x21 => ?_)
        refine G_st (x_istore [some (aR (0, 0)), none, none, none, some (aI x21), some (aI v5)] dX6_whose_106 (Nat.le_of_ble_eq_true rfl) rfl rfl) ?_
        refine G_weak _ ?_ (g_X6_whose_108 ids Hn H0_0 H1 H2 H3 (f_X6_whose_83 n) (ih) x21 v5 t18)
        exact (leL_s (leL_n (leL_n (leL_n (leL_s (leL_s (leL_e _)))))))
set_option maxRecDepth 100000 in
set_option maxHeartbeats 4000000 in
theorem g_X6_whose (ids : List (Nat × Nat)) (Hn : Ndp ids) (v1 : Int32) (v2 : Int32) (H0_0 : InR ids 0 0 5) (H1 : InR ids 1 6 28) (H2 : InR ids 2 6 28) (H3 : InR ids 3 6 28) (t0 : Sg) : Gj kI mX6_whose ids 0 [some (aR (0, 0)), some (aI v1), some (aI v2), none, none, none] [] t0 (f_X6_whose v1 v2 t0) := by
  unfold f_X6_whose
  refine G_st (x_aload_n dX6_whose_0 rfl) ?_
  refine G_st (x_get (k := 0) (aR (1, 6)) dX6_whose_1 (H0_0 0 (Nat.le_of_ble_eq_true rfl) (Nat.le_of_ble_eq_true rfl)) rfl rfl rfl rfl inTX6 (Nat.le_of_ble_eq_true rfl) tw_285 (fun ad => rfl)) ?_
  refine G_st (x_get (k := 0) (aR (1, 7)) dX6_whose_4 (H1 6 (Nat.le_of_ble_eq_true rfl) (Nat.le_of_ble_eq_true rfl)) rfl rfl rfl rfl inTX2 (Nat.le_of_ble_eq_true rfl) tw_250 (fun ad => rfl)) ?_
  refine G_st (x_iload_n dX6_whose_7 rfl) ?_
  refine G_bd (fun x1 t2 h3 => ?_)
  refine G_st (x_callV [] (c_X0_placeOf ids Hn 1 v1 (H1.sub (Nat.le_of_ble_eq_true rfl) (Nat.le_of_ble_eq_true rfl)) _ _ _ h3) dX6_whose_8 tw_521 kc_X0_placeOf (H1 7 (Nat.le_of_ble_eq_true rfl) (Nat.le_of_ble_eq_true rfl)) rfl rfl rfl rfl ⟨Nat.le_of_ble_eq_true rfl, Nat.le_of_ble_eq_true rfl⟩ (Nat.le_of_ble_eq_true rfl) rfl) ?_
  refine G_st (x_istore_n [some (aR (0, 0)), some (aI v1), some (aI v2), some (aI x1), none, none] dX6_whose_11 (Nat.le_of_ble_eq_true rfl) rfl rfl) ?_
  refine G_st (x_iload_n dX6_whose_12 rfl) ?_
  refine G_ite (fun c4 => ?_) (fun c4 => ?_)
  · refine G_st (x_if_ge_t (tgt := 22) dX6_whose_13 (by decide) c4) ?_
    refine G_st (x_iload_n dX6_whose_22 rfl) ?_
    refine G_st (x_iconst (-1 : Int32) dX6_whose_23 rfl) ?_
    refine G_ite (fun c5 => ?_) (fun c5 => ?_)
    · refine G_st (x_icmp_ge_t (tgt := 34) dX6_whose_24 (by decide) c5) ?_
      refine G_st (x_iload_n dX6_whose_34 rfl) ?_
      refine G_st (x_iconst (1 : Int32) dX6_whose_35 rfl) ?_
      refine G_ite (fun c6 => ?_) (fun c6 => ?_)
      · refine G_st (x_icmp_le_t (tgt := 46) dX6_whose_36 (by decide) c6) ?_
        refine G_st (x_aload_n dX6_whose_46 rfl) ?_
        refine G_st (x_iload_n dX6_whose_47 rfl) ?_
        refine G_st (x_iconst (0 : Int32) dX6_whose_48 rfl) ?_
        refine G_bd (fun x7 t8 h9 => ?_)
        refine G_st (x_callV [] (c_X6_tryAwning ids Hn x1 (0 : Int32) H0_0 H1 H2 H3 _ _ _ h9) dX6_whose_49 tw_745 kc_X6_tryAwning (H0_0 0 (Nat.le_of_ble_eq_true rfl) (Nat.le_of_ble_eq_true rfl)) rfl rfl rfl rfl ⟨Nat.le_of_ble_eq_true rfl, Nat.le_of_ble_eq_true rfl⟩ (Nat.le_of_ble_eq_true rfl) rfl) ?_
        refine G_st (x_pop dX6_whose_52 rfl) ?_
        refine G_st (x_aload_n dX6_whose_53 rfl) ?_
        refine G_st (x_get (k := 2) (aR (3, 6)) dX6_whose_54 (H0_0 0 (Nat.le_of_ble_eq_true rfl) (Nat.le_of_ble_eq_true rfl)) rfl rfl rfl rfl inTX6 (Nat.le_of_ble_eq_true rfl) tw_287 (fun ad => rfl)) ?_
        refine G_st (x_get (k := 2) (aR (3, 20)) dX6_whose_57 (H3 6 (Nat.le_of_ble_eq_true rfl) (Nat.le_of_ble_eq_true rfl)) rfl rfl rfl rfl inTX2 (Nat.le_of_ble_eq_true rfl) tw_256 (fun ad => rfl)) ?_
        refine G_st (x_get (k := 2) (aR (3, 23)) dX6_whose_60 (H3 20 (Nat.le_of_ble_eq_true rfl) (Nat.le_of_ble_eq_true rfl)) rfl rfl rfl rfl inTX3 (Nat.le_of_ble_eq_true rfl) tw_209 (fun ad => rfl)) ?_
        refine G_st (x_aload_n dX6_whose_63 rfl) ?_
        refine G_st (x_get (k := 6) (aR (0, 3)) dX6_whose_64 (H0_0 0 (Nat.le_of_ble_eq_true rfl) (Nat.le_of_ble_eq_true rfl)) rfl rfl rfl rfl inTX6 (Nat.le_of_ble_eq_true rfl) tw_291 (fun ad => rfl)) ?_
        refine G_bd (fun _ t11 h12 => ?_)
        refine G_st (x_callS [] (c_X6_copy ids Hn (3, 23) (0, 3) (H3 23 (Nat.le_of_ble_eq_true rfl) (Nat.le_of_ble_eq_true rfl)) rfl (H0_0 3 (Nat.le_of_ble_eq_true rfl) (Nat.le_of_ble_eq_true rfl)) rfl _ _ _ h12) dX6_whose_67 tw_732 kc_X6_copy rfl ⟨Nat.le_of_ble_eq_true rfl, Nat.le_of_ble_eq_true rfl⟩ (Nat.le_of_ble_eq_true rfl) rfl) ?_
        refine G_st (x_aload_n dX6_whose_70 rfl) ?_
        refine G_st (x_iload_n dX6_whose_71 rfl) ?_
        refine G_st (x_iload_n dX6_whose_72 rfl) ?_
        refine G_bd (fun x13 t14 h15 => ?_)
        refine G_st (x_callV [] (c_X6_tryAwning ids Hn x1 v2 H0_0 H1 H2 H3 _ _ _ h15) dX6_whose_73 tw_745 kc_X6_tryAwning (H0_0 0 (Nat.le_of_ble_eq_true rfl) (Nat.le_of_ble_eq_true rfl)) rfl rfl rfl rfl ⟨Nat.le_of_ble_eq_true rfl, Nat.le_of_ble_eq_true rfl⟩ (Nat.le_of_ble_eq_true rfl) rfl) ?_
        refine G_st (x_pop dX6_whose_76 rfl) ?_
        refine G_st (x_iconst (0 : Int32) dX6_whose_77 rfl) ?_
        refine G_st (x_istore [some (aR (0, 0)), some (aI v1), some (aI v2), some (aI x1), some (aI (0 : Int32)), none] dX6_whose_78 (Nat.le_of_ble_eq_true rfl) rfl rfl) ?_
        refine G_st (x_iconst (0 : Int32) dX6_whose_80 rfl) ?_
        refine G_st (x_istore [some (aR (0, 0)), some (aI v1), some (aI v2), some (aI x1), some (aI (0 : Int32)), some (aI (0 : Int32))] dX6_whose_81 (Nat.le_of_ble_eq_true rfl) rfl rfl) ?_
        refine G_weak _ ?_ (g_X6_whose_83 ids Hn H0_0 H1 H2 H3 fuel (0 : Int32) (0 : Int32) t14)
        exact (leL_s (leL_n (leL_n (leL_n (leL_s (leL_s (leL_e _)))))))
      · refine G_st (x_icmp_le_f 46 dX6_whose_36 (by decide) c6) ?_
        refine G_st (x_aload_n dX6_whose_39 rfl) ?_
        refine G_st (x_bipush (-6 : Int32) dX6_whose_40 rfl) ?_
        refine G_bd (fun x22 t23 h24 => ?_)
        refine G_st (x_callV [] (c_X6_refuse ids Hn (-6 : Int32) H0_0 H1 H2 H3 _ _ _ h24) dX6_whose_42 tw_317 kc_X6_refuse (H0_0 0 (Nat.le_of_ble_eq_true rfl) (Nat.le_of_ble_eq_true rfl)) rfl rfl rfl rfl ⟨Nat.le_of_ble_eq_true rfl, Nat.le_of_ble_eq_true rfl⟩ (Nat.le_of_ble_eq_true rfl) rfl) ?_
        exact G_ret rfl ⟨dX6_whose_45, _, rfl, rfl⟩ rfl
    · refine G_st (x_icmp_ge_f 34 dX6_whose_24 (by decide) c5) ?_
      refine G_st (x_aload_n dX6_whose_27 rfl) ?_
      refine G_st (x_bipush (-4 : Int32) dX6_whose_28 rfl) ?_
      refine G_bd (fun x25 t26 h27 => ?_)
      refine G_st (x_callV [] (c_X6_refuse ids Hn (-4 : Int32) H0_0 H1 H2 H3 _ _ _ h27) dX6_whose_30 tw_317 kc_X6_refuse (H0_0 0 (Nat.le_of_ble_eq_true rfl) (Nat.le_of_ble_eq_true rfl)) rfl rfl rfl rfl ⟨Nat.le_of_ble_eq_true rfl, Nat.le_of_ble_eq_true rfl⟩ (Nat.le_of_ble_eq_true rfl) rfl) ?_
      exact G_ret rfl ⟨dX6_whose_33, _, rfl, rfl⟩ rfl
  · refine G_st (x_if_ge_f 22 dX6_whose_13 (by decide) c4) ?_
    refine G_st (x_aload_n dX6_whose_16 rfl) ?_
    refine G_st (x_iconst (-1 : Int32) dX6_whose_17 rfl) ?_
    refine G_bd (fun x28 t29 h30 => ?_)
    refine G_st (x_callV [] (c_X6_refuse ids Hn (-1 : Int32) H0_0 H1 H2 H3 _ _ _ h30) dX6_whose_18 tw_317 kc_X6_refuse (H0_0 0 (Nat.le_of_ble_eq_true rfl) (Nat.le_of_ble_eq_true rfl)) rfl rfl rfl rfl ⟨Nat.le_of_ble_eq_true rfl, Nat.le_of_ble_eq_true rfl⟩ (Nat.le_of_ble_eq_true rfl) rfl) ?_
    exact G_ret rfl ⟨dX6_whose_21, _, rfl, rfl⟩ rfl
set_option maxRecDepth 100000 in
set_option maxHeartbeats 4000000 in
theorem c_X6_whose (ids : List (Nat × Nat)) (Hn : Ndp ids) (v1 : Int32) (v2 : Int32) (H0_0 : InR ids 0 0 5) (H1 : InR ids 1 6 28) (H2 : InR ids 2 6 28) (H3 : InR ids 3 6 28) (t0 : Sg) (r : Int32) (t1 : Sg) (hf : f_X6_whose v1 v2 t0 = some (r, t1)) : Mt0 mX6_whose yX6_whose ids [aR (0, 0), aI v1, aI v2] t0 (some (aI r)) t1 :=
  Mt_of (x := (r, t1)) (g_X6_whose ids Hn v1 v2 H0_0 H1 H2 H3 t0) hf (fun _ _ => trivial) (by decide) rfl Hn (fun _ => rfl) (fun _ => Nat.le_of_ble_eq_true rfl)
theorem dX6_deal_0 : decode cX6_deal 0 = .ok (.aload_n 0, 1) := by decide +kernel
theorem dX6_deal_1 : decode cX6_deal 1 = .ok (.iload_n 1, 1) := by decide +kernel
theorem dX6_deal_2 : decode cX6_deal 2 = .ok (.invokevirtual 187, 3) := by decide +kernel
theorem dX6_deal_5 : decode cX6_deal 5 = .ok (.ifCond .ne 13, 3) := by decide +kernel
theorem dX6_deal_8 : decode cX6_deal 8 = .ok (.ldc_w 268, 3) := by decide +kernel
theorem dX6_deal_11 : decode cX6_deal 11 = .ok (.aload_n 0, 1) := by decide +kernel
theorem dX6_deal_12 : decode cX6_deal 12 = .ok (.iconst (-1), 1) := by decide +kernel
theorem dX6_deal_13 : decode cX6_deal 13 = .ok (.invokevirtual 130, 3) := by decide +kernel
theorem dX6_deal_16 : decode cX6_deal 16 = .ok (.isub, 1) := by decide +kernel
theorem dX6_deal_17 : decode cX6_deal 17 = .ok (.ireturn, 1) := by decide +kernel
theorem dX6_deal_18 : decode cX6_deal 18 = .ok (.iload_n 2, 1) := by decide +kernel
theorem dX6_deal_19 : decode cX6_deal 19 = .ok (.invokestatic 215, 3) := by decide +kernel
theorem dX6_deal_22 : decode cX6_deal 22 = .ok (.ifCond .ne 14, 3) := by decide +kernel
theorem dX6_deal_25 : decode cX6_deal 25 = .ok (.ldc_w 268, 3) := by decide +kernel
theorem dX6_deal_28 : decode cX6_deal 28 = .ok (.aload_n 0, 1) := by decide +kernel
theorem dX6_deal_29 : decode cX6_deal 29 = .ok (.bipush (-2), 2) := by decide +kernel
theorem dX6_deal_31 : decode cX6_deal 31 = .ok (.invokevirtual 130, 3) := by decide +kernel
theorem dX6_deal_34 : decode cX6_deal 34 = .ok (.isub, 1) := by decide +kernel
theorem dX6_deal_35 : decode cX6_deal 35 = .ok (.ireturn, 1) := by decide +kernel
theorem dX6_deal_36 : decode cX6_deal 36 = .ok (.aload_n 0, 1) := by decide +kernel
theorem dX6_deal_37 : decode cX6_deal 37 = .ok (.getfield 12, 3) := by decide +kernel
theorem dX6_deal_40 : decode cX6_deal 40 = .ok (.getfield 81, 3) := by decide +kernel
theorem dX6_deal_43 : decode cX6_deal 43 = .ok (.getfield 190, 3) := by decide +kernel
theorem dX6_deal_46 : decode cX6_deal 46 = .ok (.iload_n 1, 1) := by decide +kernel
theorem dX6_deal_47 : decode cX6_deal 47 = .ok (.invokestatic 59, 3) := by decide +kernel
theorem dX6_deal_50 : decode cX6_deal 50 = .ok (.istore_n 3, 1) := by decide +kernel
theorem dX6_deal_51 : decode cX6_deal 51 = .ok (.aload_n 0, 1) := by decide +kernel
theorem dX6_deal_52 : decode cX6_deal 52 = .ok (.invokevirtual 259, 3) := by decide +kernel
theorem dX6_deal_55 : decode cX6_deal 55 = .ok (.aload_n 0, 1) := by decide +kernel
theorem dX6_deal_56 : decode cX6_deal 56 = .ok (.getfield 36, 3) := by decide +kernel
theorem dX6_deal_59 : decode cX6_deal 59 = .ok (.iload_n 3, 1) := by decide +kernel
theorem dX6_deal_60 : decode cX6_deal 60 = .ok (.invokestatic 59, 3) := by decide +kernel
theorem dX6_deal_63 : decode cX6_deal 63 = .ok (.isub, 1) := by decide +kernel
theorem dX6_deal_64 : decode cX6_deal 64 = .ok (.istore 4, 2) := by decide +kernel
theorem dX6_deal_66 : decode cX6_deal 66 = .ok (.iload 4, 2) := by decide +kernel
theorem dX6_deal_68 : decode cX6_deal 68 = .ok (.aload_n 0, 1) := by decide +kernel
theorem dX6_deal_69 : decode cX6_deal 69 = .ok (.iload_n 1, 1) := by decide +kernel
theorem dX6_deal_70 : decode cX6_deal 70 = .ok (.iload_n 2, 1) := by decide +kernel
theorem dX6_deal_71 : decode cX6_deal 71 = .ok (.invokevirtual 253, 3) := by decide +kernel
theorem dX6_deal_74 : decode cX6_deal 74 = .ok (.aload_n 0, 1) := by decide +kernel
theorem dX6_deal_75 : decode cX6_deal 75 = .ok (.iload_n 3, 1) := by decide +kernel
theorem dX6_deal_76 : decode cX6_deal 76 = .ok (.invokevirtual 126, 3) := by decide +kernel
theorem dX6_deal_79 : decode cX6_deal 79 = .ok (.isub, 1) := by decide +kernel
theorem dX6_deal_80 : decode cX6_deal 80 = .ok (.isub, 1) := by decide +kernel
theorem dX6_deal_81 : decode cX6_deal 81 = .ok (.istore 4, 2) := by decide +kernel
theorem dX6_deal_83 : decode cX6_deal 83 = .ok (.iload 4, 2) := by decide +kernel
theorem dX6_deal_85 : decode cX6_deal 85 = .ok (.iload_n 2, 1) := by decide +kernel
theorem dX6_deal_86 : decode cX6_deal 86 = .ok (.aload_n 0, 1) := by decide +kernel
theorem dX6_deal_87 : decode cX6_deal 87 = .ok (.getfield 12, 3) := by decide +kernel
theorem dX6_deal_90 : decode cX6_deal 90 = .ok (.getfield 81, 3) := by decide +kernel
theorem dX6_deal_93 : decode cX6_deal 93 = .ok (.getfield 116, 3) := by decide +kernel
theorem dX6_deal_96 : decode cX6_deal 96 = .ok (.iload_n 1, 1) := by decide +kernel
theorem dX6_deal_97 : decode cX6_deal 97 = .ok (.invokestatic 59, 3) := by decide +kernel
theorem dX6_deal_100 : decode cX6_deal 100 = .ok (.isub, 1) := by decide +kernel
theorem dX6_deal_101 : decode cX6_deal 101 = .ok (.invokestatic 269, 3) := by decide +kernel
theorem dX6_deal_104 : decode cX6_deal 104 = .ok (.isub, 1) := by decide +kernel
theorem dX6_deal_105 : decode cX6_deal 105 = .ok (.ireturn, 1) := by decide +kernel
set_option maxRecDepth 100000 in
set_option maxHeartbeats 4000000 in
theorem g_X6_deal (ids : List (Nat × Nat)) (Hn : Ndp ids) (v1 : Int32) (v2 : Int32) (H0_0 : InR ids 0 0 5) (H1 : InR ids 1 6 28) (H2 : InR ids 2 6 28) (H3 : InR ids 3 6 28) (t0 : Sg) : Gj kI mX6_deal ids 0 [some (aR (0, 0)), some (aI v1), some (aI v2), none, none] [] t0 (f_X6_deal v1 v2 t0) := by
  unfold f_X6_deal
  refine G_st (x_aload_n dX6_deal_0 rfl) ?_
  refine G_st (x_iload_n dX6_deal_1 rfl) ?_
  refine G_bd (fun x1 t2 h3 => ?_)
  refine G_st (x_callV [] (c_X6_isHabit ids Hn v1 H0_0 H1 H2 H3 _ _ _ h3) dX6_deal_2 tw_554 kc_X6_isHabit (H0_0 0 (Nat.le_of_ble_eq_true rfl) (Nat.le_of_ble_eq_true rfl)) rfl rfl rfl rfl ⟨Nat.le_of_ble_eq_true rfl, Nat.le_of_ble_eq_true rfl⟩ (Nat.le_of_ble_eq_true rfl) rfl) ?_
  refine G_ite (fun c4 => ?_) (fun c4 => ?_)
  · refine G_st (x_if_ne_f 18 dX6_deal_5 (by decide) c4) ?_
    refine G_st (x_ldcw dX6_deal_8 tw_761) ?_
    refine G_st (x_aload_n dX6_deal_11 rfl) ?_
    refine G_st (x_iconst (-1 : Int32) dX6_deal_12 rfl) ?_
    refine G_bd (fun x5 t6 h7 => ?_)
    refine G_st (x_callV [aI (1000000000 : Int32)] (c_X6_refuse ids Hn (-1 : Int32) H0_0 H1 H2 H3 _ _ _ h7) dX6_deal_13 tw_317 kc_X6_refuse (H0_0 0 (Nat.le_of_ble_eq_true rfl) (Nat.le_of_ble_eq_true rfl)) rfl rfl rfl rfl ⟨Nat.le_of_ble_eq_true rfl, Nat.le_of_ble_eq_true rfl⟩ (Nat.le_of_ble_eq_true rfl) rfl) ?_
    refine G_st (x_isub dX6_deal_16) ?_
    exact G_ret rfl ⟨dX6_deal_17, _, rfl, rfl⟩ rfl
  · refine G_st (x_if_ne_t (tgt := 18) dX6_deal_5 (by decide) c4) ?_
    refine G_st (x_iload_n dX6_deal_18 rfl) ?_
    refine G_bd (fun x8 t9 h10 => ?_)
    refine G_st (x_callS [] (c_X6_isHour ids Hn v2  _ _ _ h10) dX6_deal_19 tw_569 kc_X6_isHour rfl ⟨Nat.le_of_ble_eq_true rfl, Nat.le_of_ble_eq_true rfl⟩ (Nat.le_of_ble_eq_true rfl) rfl) ?_
    refine G_ite (fun c11 => ?_) (fun c11 => ?_)
    · refine G_st (x_if_ne_f 36 dX6_deal_22 (by decide) c11) ?_
      refine G_st (x_ldcw dX6_deal_25 tw_761) ?_
      refine G_st (x_aload_n dX6_deal_28 rfl) ?_
      refine G_st (x_bipush (-2 : Int32) dX6_deal_29 rfl) ?_
      refine G_bd (fun x12 t13 h14 => ?_)
      refine G_st (x_callV [aI (1000000000 : Int32)] (c_X6_refuse ids Hn (-2 : Int32) H0_0 H1 H2 H3 _ _ _ h14) dX6_deal_31 tw_317 kc_X6_refuse (H0_0 0 (Nat.le_of_ble_eq_true rfl) (Nat.le_of_ble_eq_true rfl)) rfl rfl rfl rfl ⟨Nat.le_of_ble_eq_true rfl, Nat.le_of_ble_eq_true rfl⟩ (Nat.le_of_ble_eq_true rfl) rfl) ?_
      refine G_st (x_isub dX6_deal_34) ?_
      exact G_ret rfl ⟨dX6_deal_35, _, rfl, rfl⟩ rfl
    · refine G_st (x_if_ne_t (tgt := 36) dX6_deal_22 (by decide) c11) ?_
      refine G_st (x_aload_n dX6_deal_36 rfl) ?_
      refine G_st (x_get (k := 0) (aR (1, 6)) dX6_deal_37 (H0_0 0 (Nat.le_of_ble_eq_true rfl) (Nat.le_of_ble_eq_true rfl)) rfl rfl rfl rfl inTX6 (Nat.le_of_ble_eq_true rfl) tw_285 (fun ad => rfl)) ?_
      refine G_st (x_get (k := 1) (aR (1, 15)) dX6_deal_40 (H1 6 (Nat.le_of_ble_eq_true rfl) (Nat.le_of_ble_eq_true rfl)) rfl rfl rfl rfl inTX2 (Nat.le_of_ble_eq_true rfl) tw_253 (fun ad => rfl)) ?_
      refine G_st (x_get (k := 1) (aR (1, 16)) dX6_deal_43 (H1 15 (Nat.le_of_ble_eq_true rfl) (Nat.le_of_ble_eq_true rfl)) rfl rfl rfl rfl inTX1 (Nat.le_of_ble_eq_true rfl) tw_176 (fun ad => rfl)) ?_
      refine G_st (x_iload_n dX6_deal_46 rfl) ?_
      refine G_bd (fun x15 t16 h17 => ?_)
      refine G_st (x_callS [] (c_X6_get ids Hn (1, 16) v1 (H1 16 (Nat.le_of_ble_eq_true rfl) (Nat.le_of_ble_eq_true rfl)) rfl _ _ _ h17) dX6_deal_47 tw_321 kc_X6_get rfl ⟨Nat.le_of_ble_eq_true rfl, Nat.le_of_ble_eq_true rfl⟩ (Nat.le_of_ble_eq_true rfl) rfl) ?_
      refine G_st (x_istore_n [some (aR (0, 0)), some (aI v1), some (aI v2), some (aI x15), none] dX6_deal_50 (Nat.le_of_ble_eq_true rfl) rfl rfl) ?_
      refine G_st (x_aload_n dX6_deal_51 rfl) ?_
      refine G_bd (fun x18 t19 h20 => ?_)
      refine G_st (x_callV [] (c_X6_tryAsIs ids Hn  H0_0 H1 H2 H3 _ _ _ h20) dX6_deal_52 tw_728 kc_X6_tryAsIs (H0_0 0 (Nat.le_of_ble_eq_true rfl) (Nat.le_of_ble_eq_true rfl)) rfl rfl rfl rfl ⟨Nat.le_of_ble_eq_true rfl, Nat.le_of_ble_eq_true rfl⟩ (Nat.le_of_ble_eq_true rfl) rfl) ?_
      refine G_st (x_aload_n dX6_deal_55 rfl) ?_
      refine G_st (x_get (k := 6) (aR (0, 3)) dX6_deal_56 (H0_0 0 (Nat.le_of_ble_eq_true rfl) (Nat.le_of_ble_eq_true rfl)) rfl rfl rfl rfl inTX6 (Nat.le_of_ble_eq_true rfl) tw_291 (fun ad => rfl)) ?_
      refine G_st (x_iload_n dX6_deal_59 rfl) ?_
      refine G_bd (fun x21 t22 h23 => ?_)
      refine G_st (x_callS [aI x18] (c_X6_get ids Hn (0, 3) x15 (H0_0 3 (Nat.le_of_ble_eq_true rfl) (Nat.le_of_ble_eq_true rfl)) rfl _ _ _ h23) dX6_deal_60 tw_321 kc_X6_get rfl ⟨Nat.le_of_ble_eq_true rfl, Nat.le_of_ble_eq_true rfl⟩ (Nat.le_of_ble_eq_true rfl) rfl) ?_
      refine G_st (x_isub dX6_deal_63) ?_
      refine G_bvI (fun x24 => ?_)
      refine G_st (x_istore [some (aR (0, 0)), some (aI v1), some (aI v2), some (aI x15), some (aI x24)] dX6_deal_64 (Nat.le_of_ble_eq_true rfl) rfl rfl) ?_
      refine G_st (x_iload dX6_deal_66 rfl) ?_
      refine G_st (x_aload_n dX6_deal_68 rfl) ?_
      refine G_st (x_iload_n dX6_deal_69 rfl) ?_
      refine G_st (x_iload_n dX6_deal_70 rfl) ?_
      refine G_bd (fun x25 t26 h27 => ?_)
      refine G_st (x_callV [aI x24] (c_X6_tryHour ids Hn v1 v2 H0_0 H1 H2 H3 _ _ _ h27) dX6_deal_71 tw_703 kc_X6_tryHour (H0_0 0 (Nat.le_of_ble_eq_true rfl) (Nat.le_of_ble_eq_true rfl)) rfl rfl rfl rfl ⟨Nat.le_of_ble_eq_true rfl, Nat.le_of_ble_eq_true rfl⟩ (Nat.le_of_ble_eq_true rfl) rfl) ?_
      refine G_st (x_aload_n dX6_deal_74 rfl) ?_
      refine G_st (x_iload_n dX6_deal_75 rfl) ?_
      refine G_bd (fun x28 t29 h30 => ?_)
      refine G_st (x_callV [aI x25, aI x24] (c_X6_doneTo ids Hn x15 H0_0 H1 H2 H3 _ _ _ h30) dX6_deal_76 tw_695 kc_X6_doneTo (H0_0 0 (Nat.le_of_ble_eq_true rfl) (Nat.le_of_ble_eq_true rfl)) rfl rfl rfl rfl ⟨Nat.le_of_ble_eq_true rfl, Nat.le_of_ble_eq_true rfl⟩ (Nat.le_of_ble_eq_true rfl) rfl) ?_
      refine G_st (x_isub dX6_deal_79) ?_
      refine G_st (x_isub dX6_deal_80) ?_
      refine G_bvI (fun x31 => ?_)
      refine G_st (x_istore [some (aR (0, 0)), some (aI v1), some (aI v2), some (aI x15), some (aI x31)] dX6_deal_81 (Nat.le_of_ble_eq_true rfl) rfl rfl) ?_
      refine G_st (x_iload dX6_deal_83 rfl) ?_
      refine G_st (x_iload_n dX6_deal_85 rfl) ?_
      refine G_st (x_aload_n dX6_deal_86 rfl) ?_
      refine G_st (x_get (k := 0) (aR (1, 6)) dX6_deal_87 (H0_0 0 (Nat.le_of_ble_eq_true rfl) (Nat.le_of_ble_eq_true rfl)) rfl rfl rfl rfl inTX6 (Nat.le_of_ble_eq_true rfl) tw_285 (fun ad => rfl)) ?_
      refine G_st (x_get (k := 1) (aR (1, 15)) dX6_deal_90 (H1 6 (Nat.le_of_ble_eq_true rfl) (Nat.le_of_ble_eq_true rfl)) rfl rfl rfl rfl inTX2 (Nat.le_of_ble_eq_true rfl) tw_253 (fun ad => rfl)) ?_
      refine G_st (x_get (k := 4) (aR (1, 19)) dX6_deal_93 (H1 15 (Nat.le_of_ble_eq_true rfl) (Nat.le_of_ble_eq_true rfl)) rfl rfl rfl rfl inTX1 (Nat.le_of_ble_eq_true rfl) tw_186 (fun ad => rfl)) ?_
      refine G_st (x_iload_n dX6_deal_96 rfl) ?_
      refine G_bd (fun x32 t33 h34 => ?_)
      refine G_st (x_callS [aI v2, aI x31] (c_X6_get ids Hn (1, 19) v1 (H1 19 (Nat.le_of_ble_eq_true rfl) (Nat.le_of_ble_eq_true rfl)) rfl _ _ _ h34) dX6_deal_97 tw_321 kc_X6_get rfl ⟨Nat.le_of_ble_eq_true rfl, Nat.le_of_ble_eq_true rfl⟩ (Nat.le_of_ble_eq_true rfl) rfl) ?_
      refine G_st (x_isub dX6_deal_100) ?_
      refine G_st (x_mabs dX6_deal_101 tw_762 tw_763 tw_74 tw_764 ⟨Nat.le_of_ble_eq_true rfl, Nat.le_of_ble_eq_true rfl⟩ (Nat.le_of_ble_eq_true rfl)) ?_
      refine G_st (x_isub dX6_deal_104) ?_
      exact G_ret rfl ⟨dX6_deal_105, _, rfl, rfl⟩ rfl
set_option maxRecDepth 100000 in
set_option maxHeartbeats 4000000 in
theorem c_X6_deal (ids : List (Nat × Nat)) (Hn : Ndp ids) (v1 : Int32) (v2 : Int32) (H0_0 : InR ids 0 0 5) (H1 : InR ids 1 6 28) (H2 : InR ids 2 6 28) (H3 : InR ids 3 6 28) (t0 : Sg) (r : Int32) (t1 : Sg) (hf : f_X6_deal v1 v2 t0 = some (r, t1)) : Mt0 mX6_deal yX6_deal ids [aR (0, 0), aI v1, aI v2] t0 (some (aI r)) t1 :=
  Mt_of (x := (r, t1)) (g_X6_deal ids Hn v1 v2 H0_0 H1 H2 H3 t0) hf (fun _ _ => trivial) (by decide) rfl Hn (fun _ => rfl) (fun _ => Nat.le_of_ble_eq_true rfl)
theorem dX6_pays_0 : decode cX6_pays 0 = .ok (.aload_n 0, 1) := by decide +kernel
theorem dX6_pays_1 : decode cX6_pays 1 = .ok (.iload_n 1, 1) := by decide +kernel
theorem dX6_pays_2 : decode cX6_pays 2 = .ok (.invokevirtual 187, 3) := by decide +kernel
theorem dX6_pays_5 : decode cX6_pays 5 = .ok (.ifCond .ne 9, 3) := by decide +kernel
theorem dX6_pays_8 : decode cX6_pays 8 = .ok (.aload_n 0, 1) := by decide +kernel
theorem dX6_pays_9 : decode cX6_pays 9 = .ok (.iconst (-1), 1) := by decide +kernel
theorem dX6_pays_10 : decode cX6_pays 10 = .ok (.invokevirtual 130, 3) := by decide +kernel
theorem dX6_pays_13 : decode cX6_pays 13 = .ok (.ireturn, 1) := by decide +kernel
theorem dX6_pays_14 : decode cX6_pays 14 = .ok (.iload_n 2, 1) := by decide +kernel
theorem dX6_pays_15 : decode cX6_pays 15 = .ok (.invokestatic 215, 3) := by decide +kernel
theorem dX6_pays_18 : decode cX6_pays 18 = .ok (.ifCond .eq 12, 3) := by decide +kernel
theorem dX6_pays_21 : decode cX6_pays 21 = .ok (.iload_n 3, 1) := by decide +kernel
theorem dX6_pays_22 : decode cX6_pays 22 = .ok (.ifCond .eq 15, 3) := by decide +kernel
theorem dX6_pays_25 : decode cX6_pays 25 = .ok (.iload_n 3, 1) := by decide +kernel
theorem dX6_pays_26 : decode cX6_pays 26 = .ok (.iconst 1, 1) := by decide +kernel
theorem dX6_pays_27 : decode cX6_pays 27 = .ok (.if_icmp .eq 10, 3) := by decide +kernel
theorem dX6_pays_30 : decode cX6_pays 30 = .ok (.aload_n 0, 1) := by decide +kernel
theorem dX6_pays_31 : decode cX6_pays 31 = .ok (.bipush (-2), 2) := by decide +kernel
theorem dX6_pays_33 : decode cX6_pays 33 = .ok (.invokevirtual 130, 3) := by decide +kernel
theorem dX6_pays_36 : decode cX6_pays 36 = .ok (.ireturn, 1) := by decide +kernel
theorem dX6_pays_37 : decode cX6_pays 37 = .ok (.aload_n 0, 1) := by decide +kernel
theorem dX6_pays_38 : decode cX6_pays 38 = .ok (.invokevirtual 259, 3) := by decide +kernel
theorem dX6_pays_41 : decode cX6_pays 41 = .ok (.pop, 1) := by decide +kernel
theorem dX6_pays_42 : decode cX6_pays 42 = .ok (.aload_n 0, 1) := by decide +kernel
theorem dX6_pays_43 : decode cX6_pays 43 = .ok (.iload_n 1, 1) := by decide +kernel
theorem dX6_pays_44 : decode cX6_pays 44 = .ok (.iload_n 2, 1) := by decide +kernel
theorem dX6_pays_45 : decode cX6_pays 45 = .ok (.invokevirtual 253, 3) := by decide +kernel
theorem dX6_pays_48 : decode cX6_pays 48 = .ok (.pop, 1) := by decide +kernel
theorem dX6_pays_49 : decode cX6_pays 49 = .ok (.bipush (-9), 2) := by decide +kernel
theorem dX6_pays_51 : decode cX6_pays 51 = .ok (.istore 4, 2) := by decide +kernel
theorem dX6_pays_53 : decode cX6_pays 53 = .ok (.iconst 0, 1) := by decide +kernel
theorem dX6_pays_54 : decode cX6_pays 54 = .ok (.istore 5, 2) := by decide +kernel
theorem dX6_pays_56 : decode cX6_pays 56 = .ok (.iconst 0, 1) := by decide +kernel
theorem dX6_pays_57 : decode cX6_pays 57 = .ok (.istore 6, 2) := by decide +kernel
theorem dX6_pays_59 : decode cX6_pays 59 = .ok (.iload 6, 2) := by decide +kernel
theorem dX6_pays_61 : decode cX6_pays 61 = .ok (.bipush 24, 2) := by decide +kernel
theorem dX6_pays_63 : decode cX6_pays 63 = .ok (.if_icmp .ge 32, 3) := by decide +kernel
theorem dX6_pays_66 : decode cX6_pays 66 = .ok (.aload_n 0, 1) := by decide +kernel
theorem dX6_pays_67 : decode cX6_pays 67 = .ok (.iload 6, 2) := by decide +kernel
theorem dX6_pays_69 : decode cX6_pays 69 = .ok (.invokevirtual 265, 3) := by decide +kernel
theorem dX6_pays_72 : decode cX6_pays 72 = .ok (.iload 5, 2) := by decide +kernel
theorem dX6_pays_74 : decode cX6_pays 74 = .ok (.if_icmp .le 15, 3) := by decide +kernel
theorem dX6_pays_77 : decode cX6_pays 77 = .ok (.aload_n 0, 1) := by decide +kernel
theorem dX6_pays_78 : decode cX6_pays 78 = .ok (.iload 6, 2) := by decide +kernel
theorem dX6_pays_80 : decode cX6_pays 80 = .ok (.invokevirtual 265, 3) := by decide +kernel
theorem dX6_pays_83 : decode cX6_pays 83 = .ok (.istore 5, 2) := by decide +kernel
theorem dX6_pays_85 : decode cX6_pays 85 = .ok (.iload 6, 2) := by decide +kernel
theorem dX6_pays_87 : decode cX6_pays 87 = .ok (.istore 4, 2) := by decide +kernel
theorem dX6_pays_89 : decode cX6_pays 89 = .ok (.iinc 6 1, 3) := by decide +kernel
theorem dX6_pays_92 : decode cX6_pays 92 = .ok (.goto (-33), 3) := by decide +kernel
theorem dX6_pays_95 : decode cX6_pays 95 = .ok (.iload_n 3, 1) := by decide +kernel
theorem dX6_pays_96 : decode cX6_pays 96 = .ok (.ifCond .ne 8, 3) := by decide +kernel
theorem dX6_pays_99 : decode cX6_pays 99 = .ok (.iload 4, 2) := by decide +kernel
theorem dX6_pays_101 : decode cX6_pays 101 = .ok (.goto 5, 3) := by decide +kernel
theorem dX6_pays_104 : decode cX6_pays 104 = .ok (.iload 5, 2) := by decide +kernel
theorem dX6_pays_106 : decode cX6_pays 106 = .ok (.ireturn, 1) := by decide +kernel
set_option maxRecDepth 100000 in
set_option maxHeartbeats 4000000 in
theorem g_X6_pays_30 (ids : List (Nat × Nat)) (Hn : Ndp ids)  (H0_0 : InR ids 0 0 5) (H1 : InR ids 1 6 28) (H2 : InR ids 2 6 28) (H3 : InR ids 3 6 28)   (t0 : Sg) : Gj kI mX6_pays ids 30 [some (aR (0, 0)), none, none, none, none, none, none] [] t0 (f_X6_pays_30 t0) := by
  unfold f_X6_pays_30
  refine G_st (x_aload_n dX6_pays_30 rfl) ?_
  refine G_st (x_bipush (-2 : Int32) dX6_pays_31 rfl) ?_
  refine G_bd (fun x12 t13 h14 => ?_)
  refine G_st (x_callV [] (c_X6_refuse ids Hn (-2 : Int32) H0_0 H1 H2 H3 _ _ _ h14) dX6_pays_33 tw_317 kc_X6_refuse (H0_0 0 (Nat.le_of_ble_eq_true rfl) (Nat.le_of_ble_eq_true rfl)) rfl rfl rfl rfl ⟨Nat.le_of_ble_eq_true rfl, Nat.le_of_ble_eq_true rfl⟩ (Nat.le_of_ble_eq_true rfl) rfl) ?_
  exact G_ret rfl ⟨dX6_pays_36, _, rfl, rfl⟩ rfl
set_option maxRecDepth 100000 in
set_option maxHeartbeats 4000000 in
theorem g_X6_pays_89 (ids : List (Nat × Nat)) (Hn : Ndp ids)  (H0_0 : InR ids 0 0 5) (H1 : InR ids 1 6 28) (H2 : InR ids 2 6 28) (H3 : InR ids 3 6 28) (k59 : Int32 → Int32 → Int32 → Int32 → Sg → Option (Int32 × Sg)) (hk59 : ∀ (v3 : Int32) (v4 : Int32) (v5 : Int32) (v6 : Int32) (t0 : Sg), Gj kI mX6_pays ids 59 [some (aR (0, 0)), none, none, some (aI v3), some (aI v4), some (aI v5), some (aI v6)] [] t0 (k59 v3 v4 v5 v6 t0)) (v3 : Int32) (v4 : Int32) (v5 : Int32) (v6 : Int32) (t0 : Sg) : Gj kI mX6_pays ids 89 [some (aR (0, 0)), none, none, some (aI v3), some (aI v4), some (aI v5), some (aI v6)] [] t0 (f_X6_pays_89 k59 v3 v4 v5 v6 t0) := by
  unfold f_X6_pays_89
  refine G_st (x_iinc (v6 + (1 : Int32)) [some (aR (0, 0)), none, none, some (aI v3), some (aI v4), some (aI v5), some (aI (v6 + (1 : Int32)))] dX6_pays_89 (Nat.le_of_ble_eq_true rfl) rfl rfl rfl rfl) ?_
  refine G_st (x_goto (tgt := 59) dX6_pays_92 (by decide)) ?_
  refine G_weak _ ?_ (hk59 v3 v4 v5 (v6 + (1 : Int32)) t0)
  exact (leL_s (leL_n (leL_n (leL_s (leL_s (leL_s (leL_s (leL_e _))))))))
set_option maxRecDepth 100000 in
set_option maxHeartbeats 4000000 in
theorem g_X6_pays_59 (ids : List (Nat × Nat)) (Hn : Ndp ids)  (H0_0 : InR ids 0 0 5) (H1 : InR ids 1 6 28) (H2 : InR ids 2 6 28) (H3 : InR ids 3 6 28)  : ∀ (n : Nat) (v3 : Int32) (v4 : Int32) (v5 : Int32) (v6 : Int32) (t0 : Sg), Gj kI mX6_pays ids 59 [some (aR (0, 0)), none, none, some (aI v3), some (aI v4), some (aI v5), some (aI v6)] [] t0 (f_X6_pays_59 n v3 v4 v5 v6 t0) := by
  intro n
  induction n with
  | zero => intro v3 v4 v5 v6 t0; exact G_none
  | succ n ih =>
    intro v3 v4 v5 v6 t0
    rw [f_X6_pays_59]
    refine G_st (x_iload dX6_pays_59 rfl) ?_
    refine G_st (x_bipush (24 : Int32) dX6_pays_61 rfl) ?_
    refine G_ite (fun c22 => ?_) (fun c22 => ?_)
    · refine G_st (x_icmp_ge_t (tgt := 95) dX6_pays_63 (by decide) c22) ?_
      refine G_st (x_iload_n dX6_pays_95 rfl) ?_
      have e24 : Tj mX6_pays ids 96 [some (aR (0, 0)), none, none, some (aI v3), some (aI v4), some (aI v5), some (aI v6)] [aI v3] t0 106 [some (aR (0, 0)), none, none, some (aI v3), some (aI v4), some (aI v5), some (aI v6)] [aI (if v3 = 0 then v4 else v5)] t0 := by
        refine Tj.dia (fun c23 => ?_) (fun c23 => ?_)
        · refine Tj.tr (x_if_ne_f 104 dX6_pays_96 (by decide) c23) ?_
          refine Tj.tr (x_iload dX6_pays_99 rfl) ?_
          refine Tj.tr (x_goto (tgt := 106) dX6_pays_101 (by decide)) ?_
          exact Tj.rf
        · refine Tj.tr (x_if_ne_t (tgt := 104) dX6_pays_96 (by decide) c23) ?_
          refine Tj.tr (x_iload dX6_pays_104 rfl) ?_
          exact Tj.rf
      refine G_st e24 ?_
      exact G_ret rfl ⟨dX6_pays_106, _, rfl, rfl⟩ rfl
    · refine G_st (x_icmp_ge_f 95 dX6_pays_63 (by decide) c22) ?_
      refine G_st (x_aload_n dX6_pays_66 rfl) ?_
      refine G_st (x_iload dX6_pays_67 rfl) ?_
      refine G_bd (fun x25 t26 h27 => ?_)
      refine G_st (x_callV [] (c_X6_gain ids Hn v6 H0_0 H1 H2 H3 _ _ _ h27) dX6_pays_69 tw_753 kc_X6_gain (H0_0 0 (Nat.le_of_ble_eq_true rfl) (Nat.le_of_ble_eq_true rfl)) rfl rfl rfl rfl ⟨Nat.le_of_ble_eq_true rfl, Nat.le_of_ble_eq_true rfl⟩ (Nat.le_of_ble_eq_true rfl) rfl) ?_
      refine G_st (x_iload dX6_pays_72 rfl) ?_
      refine G_ite (fun c28 => ?_) (fun c28 => ?_)
      · refine G_st (x_icmp_le_t (tgt := 89) dX6_pays_74 (by decide) c28) ?_
        refine G_weak _ ?_ (g_X6_pays_89 ids Hn H0_0 H1 H2 H3 (f_X6_pays_59 n) (ih) v3 v4 v5 v6 t26)
        exact (leL_s (leL_n (leL_n (leL_s (leL_s (leL_s (leL_s (leL_e _))))))))
      · refine G_st (x_icmp_le_f 89 dX6_pays_74 (by decide) c28) ?_
        refine G_st (x_aload_n dX6_pays_77 rfl) ?_
        refine G_st (x_iload dX6_pays_78 rfl) ?_
        refine G_bd (fun x29 t30 h31 => ?_)
        refine G_st (x_callV [] (c_X6_gain ids Hn v6 H0_0 H1 H2 H3 _ _ _ h31) dX6_pays_80 tw_753 kc_X6_gain (H0_0 0 (Nat.le_of_ble_eq_true rfl) (Nat.le_of_ble_eq_true rfl)) rfl rfl rfl rfl ⟨Nat.le_of_ble_eq_true rfl, Nat.le_of_ble_eq_true rfl⟩ (Nat.le_of_ble_eq_true rfl) rfl) ?_
        refine G_st (x_istore [some (aR (0, 0)), none, none, some (aI v3), some (aI v4), some (aI x29), some (aI v6)] dX6_pays_83 (Nat.le_of_ble_eq_true rfl) rfl rfl) ?_
        refine G_st (x_iload dX6_pays_85 rfl) ?_
        refine G_st (x_istore [some (aR (0, 0)), none, none, some (aI v3), some (aI v6), some (aI x29), some (aI v6)] dX6_pays_87 (Nat.le_of_ble_eq_true rfl) rfl rfl) ?_
        refine G_weak _ ?_ (g_X6_pays_89 ids Hn H0_0 H1 H2 H3 (f_X6_pays_59 n) (ih) v3 v6 x29 v6 t30)
        exact (leL_s (leL_n (leL_n (leL_s (leL_s (leL_s (leL_s (leL_e _))))))))
set_option maxRecDepth 100000 in
set_option maxHeartbeats 4000000 in
theorem g_X6_pays_37 (ids : List (Nat × Nat)) (Hn : Ndp ids)  (H0_0 : InR ids 0 0 5) (H1 : InR ids 1 6 28) (H2 : InR ids 2 6 28) (H3 : InR ids 3 6 28)  (v1 : Int32) (v2 : Int32) (v3 : Int32) (t0 : Sg) : Gj kI mX6_pays ids 37 [some (aR (0, 0)), some (aI v1), some (aI v2), some (aI v3), none, none, none] [] t0 (f_X6_pays_37 v1 v2 v3 t0) := by
  unfold f_X6_pays_37
  refine G_st (x_aload_n dX6_pays_37 rfl) ?_
  refine G_bd (fun x16 t17 h18 => ?_)
  refine G_st (x_callV [] (c_X6_tryAsIs ids Hn  H0_0 H1 H2 H3 _ _ _ h18) dX6_pays_38 tw_728 kc_X6_tryAsIs (H0_0 0 (Nat.le_of_ble_eq_true rfl) (Nat.le_of_ble_eq_true rfl)) rfl rfl rfl rfl ⟨Nat.le_of_ble_eq_true rfl, Nat.le_of_ble_eq_true rfl⟩ (Nat.le_of_ble_eq_true rfl) rfl) ?_
  refine G_st (x_pop dX6_pays_41 rfl) ?_
  refine G_st (x_aload_n dX6_pays_42 rfl) ?_
  refine G_st (x_iload_n dX6_pays_43 rfl) ?_
  refine G_st (x_iload_n dX6_pays_44 rfl) ?_
  refine G_bd (fun x19 t20 h21 => ?_)
  refine G_st (x_callV [] (c_X6_tryHour ids Hn v1 v2 H0_0 H1 H2 H3 _ _ _ h21) dX6_pays_45 tw_703 kc_X6_tryHour (H0_0 0 (Nat.le_of_ble_eq_true rfl) (Nat.le_of_ble_eq_true rfl)) rfl rfl rfl rfl ⟨Nat.le_of_ble_eq_true rfl, Nat.le_of_ble_eq_true rfl⟩ (Nat.le_of_ble_eq_true rfl) rfl) ?_
  refine G_st (x_pop dX6_pays_48 rfl) ?_
  refine G_st (x_bipush (-9 : Int32) dX6_pays_49 rfl) ?_
  refine G_st (x_istore [some (aR (0, 0)), some (aI v1), some (aI v2), some (aI v3), some (aI (-9 : Int32)), none, none] dX6_pays_51 (Nat.le_of_ble_eq_true rfl) rfl rfl) ?_
  refine G_st (x_iconst (0 : Int32) dX6_pays_53 rfl) ?_
  refine G_st (x_istore [some (aR (0, 0)), some (aI v1), some (aI v2), some (aI v3), some (aI (-9 : Int32)), some (aI (0 : Int32)), none] dX6_pays_54 (Nat.le_of_ble_eq_true rfl) rfl rfl) ?_
  refine G_st (x_iconst (0 : Int32) dX6_pays_56 rfl) ?_
  refine G_st (x_istore [some (aR (0, 0)), some (aI v1), some (aI v2), some (aI v3), some (aI (-9 : Int32)), some (aI (0 : Int32)), some (aI (0 : Int32))] dX6_pays_57 (Nat.le_of_ble_eq_true rfl) rfl rfl) ?_
  refine G_weak _ ?_ (g_X6_pays_59 ids Hn H0_0 H1 H2 H3 fuel v3 (-9 : Int32) (0 : Int32) (0 : Int32) t20)
  exact (leL_s (leL_n (leL_n (leL_s (leL_s (leL_s (leL_s (leL_e _))))))))
set_option maxRecDepth 100000 in
set_option maxHeartbeats 4000000 in
theorem g_X6_pays (ids : List (Nat × Nat)) (Hn : Ndp ids) (v1 : Int32) (v2 : Int32) (v3 : Int32) (H0_0 : InR ids 0 0 5) (H1 : InR ids 1 6 28) (H2 : InR ids 2 6 28) (H3 : InR ids 3 6 28) (t0 : Sg) : Gj kI mX6_pays ids 0 [some (aR (0, 0)), some (aI v1), some (aI v2), some (aI v3), none, none, none] [] t0 (f_X6_pays v1 v2 v3 t0) := by
  unfold f_X6_pays
  refine G_st (x_aload_n dX6_pays_0 rfl) ?_
  refine G_st (x_iload_n dX6_pays_1 rfl) ?_
  refine G_bd (fun x1 t2 h3 => ?_)
  refine G_st (x_callV [] (c_X6_isHabit ids Hn v1 H0_0 H1 H2 H3 _ _ _ h3) dX6_pays_2 tw_554 kc_X6_isHabit (H0_0 0 (Nat.le_of_ble_eq_true rfl) (Nat.le_of_ble_eq_true rfl)) rfl rfl rfl rfl ⟨Nat.le_of_ble_eq_true rfl, Nat.le_of_ble_eq_true rfl⟩ (Nat.le_of_ble_eq_true rfl) rfl) ?_
  refine G_ite (fun c4 => ?_) (fun c4 => ?_)
  · refine G_st (x_if_ne_f 14 dX6_pays_5 (by decide) c4) ?_
    refine G_st (x_aload_n dX6_pays_8 rfl) ?_
    refine G_st (x_iconst (-1 : Int32) dX6_pays_9 rfl) ?_
    refine G_bd (fun x5 t6 h7 => ?_)
    refine G_st (x_callV [] (c_X6_refuse ids Hn (-1 : Int32) H0_0 H1 H2 H3 _ _ _ h7) dX6_pays_10 tw_317 kc_X6_refuse (H0_0 0 (Nat.le_of_ble_eq_true rfl) (Nat.le_of_ble_eq_true rfl)) rfl rfl rfl rfl ⟨Nat.le_of_ble_eq_true rfl, Nat.le_of_ble_eq_true rfl⟩ (Nat.le_of_ble_eq_true rfl) rfl) ?_
    exact G_ret rfl ⟨dX6_pays_13, _, rfl, rfl⟩ rfl
  · refine G_st (x_if_ne_t (tgt := 14) dX6_pays_5 (by decide) c4) ?_
    refine G_st (x_iload_n dX6_pays_14 rfl) ?_
    refine G_bd (fun x8 t9 h10 => ?_)
    refine G_st (x_callS [] (c_X6_isHour ids Hn v2  _ _ _ h10) dX6_pays_15 tw_569 kc_X6_isHour rfl ⟨Nat.le_of_ble_eq_true rfl, Nat.le_of_ble_eq_true rfl⟩ (Nat.le_of_ble_eq_true rfl) rfl) ?_
    refine G_ite (fun c11 => ?_) (fun c11 => ?_)
    · refine G_st (x_if_eq_t (tgt := 30) dX6_pays_18 (by decide) c11) ?_
      refine G_weak _ ?_ (g_X6_pays_30 ids Hn H0_0 H1 H2 H3 t9)
      exact (leL_s (leL_n (leL_n (leL_n (leL_n (leL_n (leL_n (leL_e _))))))))
    · refine G_st (x_if_eq_f 30 dX6_pays_18 (by decide) c11) ?_
      refine G_st (x_iload_n dX6_pays_21 rfl) ?_
      refine G_ite (fun c15 => ?_) (fun c15 => ?_)
      · refine G_st (x_if_eq_t (tgt := 37) dX6_pays_22 (by decide) c15) ?_
        refine G_weak _ ?_ (g_X6_pays_37 ids Hn H0_0 H1 H2 H3 v1 v2 v3 t9)
        exact (leL_s (leL_s (leL_s (leL_s (leL_n (leL_n (leL_n (leL_e _))))))))
      · refine G_st (x_if_eq_f 37 dX6_pays_22 (by decide) c15) ?_
        refine G_st (x_iload_n dX6_pays_25 rfl) ?_
        refine G_st (x_iconst (1 : Int32) dX6_pays_26 rfl) ?_
        refine G_ite (fun c32 => ?_) (fun c32 => ?_)
        · refine G_st (x_icmp_eq_t (tgt := 37) dX6_pays_27 (by decide) c32) ?_
          refine G_weak _ ?_ (g_X6_pays_37 ids Hn H0_0 H1 H2 H3 v1 v2 v3 t9)
          exact (leL_s (leL_s (leL_s (leL_s (leL_n (leL_n (leL_n (leL_e _))))))))
        · refine G_st (x_icmp_eq_f 37 dX6_pays_27 (by decide) c32) ?_
          refine G_weak _ ?_ (g_X6_pays_30 ids Hn H0_0 H1 H2 H3 t9)
          exact (leL_s (leL_n (leL_n (leL_n (leL_n (leL_n (leL_n (leL_e _))))))))
set_option maxRecDepth 100000 in
set_option maxHeartbeats 4000000 in
theorem c_X6_pays (ids : List (Nat × Nat)) (Hn : Ndp ids) (v1 : Int32) (v2 : Int32) (v3 : Int32) (H0_0 : InR ids 0 0 5) (H1 : InR ids 1 6 28) (H2 : InR ids 2 6 28) (H3 : InR ids 3 6 28) (t0 : Sg) (r : Int32) (t1 : Sg) (hf : f_X6_pays v1 v2 v3 t0 = some (r, t1)) : Mt0 mX6_pays yX6_pays ids [aR (0, 0), aI v1, aI v2, aI v3] t0 (some (aI r)) t1 :=
  Mt_of (x := (r, t1)) (g_X6_pays ids Hn v1 v2 v3 H0_0 H1 H2 H3 t0) hf (fun _ _ => trivial) (by decide) rfl Hn (fun _ => rfl) (fun _ => Nat.le_of_ble_eq_true rfl)
theorem dX6_climbs_0 : decode cX6_climbs 0 = .ok (.aload_n 0, 1) := by decide +kernel
theorem dX6_climbs_1 : decode cX6_climbs 1 = .ok (.getfield 19, 3) := by decide +kernel
theorem dX6_climbs_4 : decode cX6_climbs 4 = .ok (.aload_n 0, 1) := by decide +kernel
theorem dX6_climbs_5 : decode cX6_climbs 5 = .ok (.getfield 12, 3) := by decide +kernel
theorem dX6_climbs_8 : decode cX6_climbs 8 = .ok (.invokevirtual 140, 3) := by decide +kernel
theorem dX6_climbs_11 : decode cX6_climbs 11 = .ok (.iconst 0, 1) := by decide +kernel
theorem dX6_climbs_12 : decode cX6_climbs 12 = .ok (.istore_n 1, 1) := by decide +kernel
theorem dX6_climbs_13 : decode cX6_climbs 13 = .ok (.iconst 0, 1) := by decide +kernel
theorem dX6_climbs_14 : decode cX6_climbs 14 = .ok (.istore_n 2, 1) := by decide +kernel
theorem dX6_climbs_15 : decode cX6_climbs 15 = .ok (.iload_n 2, 1) := by decide +kernel
theorem dX6_climbs_16 : decode cX6_climbs 16 = .ok (.bipush 10, 2) := by decide +kernel
theorem dX6_climbs_18 : decode cX6_climbs 18 = .ok (.if_icmp .ge 37, 3) := by decide +kernel
theorem dX6_climbs_21 : decode cX6_climbs 21 = .ok (.aload_n 0, 1) := by decide +kernel
theorem dX6_climbs_22 : decode cX6_climbs 22 = .ok (.getfield 19, 3) := by decide +kernel
theorem dX6_climbs_25 : decode cX6_climbs 25 = .ok (.invokevirtual 272, 3) := by decide +kernel
theorem dX6_climbs_28 : decode cX6_climbs 28 = .ok (.aload_n 0, 1) := by decide +kernel
theorem dX6_climbs_29 : decode cX6_climbs 29 = .ok (.getfield 19, 3) := by decide +kernel
theorem dX6_climbs_32 : decode cX6_climbs 32 = .ok (.invokevirtual 100, 3) := by decide +kernel
theorem dX6_climbs_35 : decode cX6_climbs 35 = .ok (.istore_n 3, 1) := by decide +kernel
theorem dX6_climbs_36 : decode cX6_climbs 36 = .ok (.iload_n 2, 1) := by decide +kernel
theorem dX6_climbs_37 : decode cX6_climbs 37 = .ok (.ifCond .le 10, 3) := by decide +kernel
theorem dX6_climbs_40 : decode cX6_climbs 40 = .ok (.iload_n 3, 1) := by decide +kernel
theorem dX6_climbs_41 : decode cX6_climbs 41 = .ok (.iload_n 1, 1) := by decide +kernel
theorem dX6_climbs_42 : decode cX6_climbs 42 = .ok (.if_icmp .gt 5, 3) := by decide +kernel
theorem dX6_climbs_45 : decode cX6_climbs 45 = .ok (.iload_n 2, 1) := by decide +kernel
theorem dX6_climbs_46 : decode cX6_climbs 46 = .ok (.ireturn, 1) := by decide +kernel
theorem dX6_climbs_47 : decode cX6_climbs 47 = .ok (.iload_n 3, 1) := by decide +kernel
theorem dX6_climbs_48 : decode cX6_climbs 48 = .ok (.istore_n 1, 1) := by decide +kernel
theorem dX6_climbs_49 : decode cX6_climbs 49 = .ok (.iinc 2 1, 3) := by decide +kernel
theorem dX6_climbs_52 : decode cX6_climbs 52 = .ok (.goto (-37), 3) := by decide +kernel
theorem dX6_climbs_55 : decode cX6_climbs 55 = .ok (.bipush (-9), 2) := by decide +kernel
theorem dX6_climbs_57 : decode cX6_climbs 57 = .ok (.ireturn, 1) := by decide +kernel
set_option maxRecDepth 100000 in
set_option maxHeartbeats 4000000 in
theorem g_X6_climbs_47 (ids : List (Nat × Nat)) (Hn : Ndp ids)  (H0_0 : InR ids 0 0 5) (H1 : InR ids 1 6 28) (H2 : InR ids 2 6 28) (H3 : InR ids 3 6 28) (k15 : Int32 → Int32 → Sg → Option (Int32 × Sg)) (hk15 : ∀ (v1 : Int32) (v2 : Int32) (t0 : Sg), Gj kI mX6_climbs ids 15 [some (aR (0, 0)), some (aI v1), some (aI v2), none] [] t0 (k15 v1 v2 t0)) (v2 : Int32) (v3 : Int32) (t0 : Sg) : Gj kI mX6_climbs ids 47 [some (aR (0, 0)), none, some (aI v2), some (aI v3)] [] t0 (f_X6_climbs_47 k15 v2 v3 t0) := by
  unfold f_X6_climbs_47
  refine G_st (x_iload_n dX6_climbs_47 rfl) ?_
  refine G_st (x_istore_n [some (aR (0, 0)), some (aI v3), some (aI v2), some (aI v3)] dX6_climbs_48 (Nat.le_of_ble_eq_true rfl) rfl rfl) ?_
  refine G_st (x_iinc (v2 + (1 : Int32)) [some (aR (0, 0)), some (aI v3), some (aI (v2 + (1 : Int32))), some (aI v3)] dX6_climbs_49 (Nat.le_of_ble_eq_true rfl) rfl rfl rfl rfl) ?_
  refine G_st (x_goto (tgt := 15) dX6_climbs_52 (by decide)) ?_
  refine G_weak _ ?_ (hk15 v3 (v2 + (1 : Int32)) t0)
  exact (leL_s (leL_s (leL_s (leL_n (leL_e _)))))
set_option maxRecDepth 100000 in
set_option maxHeartbeats 4000000 in
theorem g_X6_climbs_15 (ids : List (Nat × Nat)) (Hn : Ndp ids)  (H0_0 : InR ids 0 0 5) (H1 : InR ids 1 6 28) (H2 : InR ids 2 6 28) (H3 : InR ids 3 6 28)  : ∀ (n : Nat) (v1 : Int32) (v2 : Int32) (t0 : Sg), Gj kI mX6_climbs ids 15 [some (aR (0, 0)), some (aI v1), some (aI v2), none] [] t0 (f_X6_climbs_15 n v1 v2 t0) := by
  intro n
  induction n with
  | zero => intro v1 v2 t0; exact G_none
  | succ n ih =>
    intro v1 v2 t0
    rw [f_X6_climbs_15]
    refine G_st (x_iload_n dX6_climbs_15 rfl) ?_
    refine G_st (x_bipush (10 : Int32) dX6_climbs_16 rfl) ?_
    refine G_ite (fun c4 => ?_) (fun c4 => ?_)
    · refine G_st (x_icmp_ge_t (tgt := 55) dX6_climbs_18 (by decide) c4) ?_
      refine G_st (x_bipush (-9 : Int32) dX6_climbs_55 rfl) ?_
      exact G_ret rfl ⟨dX6_climbs_57, _, rfl, rfl⟩ rfl
    · refine G_st (x_icmp_ge_f 55 dX6_climbs_18 (by decide) c4) ?_
      refine G_st (x_aload_n dX6_climbs_21 rfl) ?_
      refine G_st (x_get (k := 2) (aR (3, 6)) dX6_climbs_22 (H0_0 0 (Nat.le_of_ble_eq_true rfl) (Nat.le_of_ble_eq_true rfl)) rfl rfl rfl rfl inTX6 (Nat.le_of_ble_eq_true rfl) tw_287 (fun ad => rfl)) ?_
      refine G_bd (fun _ t6 h7 => ?_)
      refine G_st (x_callV [] (c_X2_takeRevenge ids Hn 3 H3 _ _ _ h7) dX6_climbs_25 tw_773 kc_X2_takeRevenge (H3 6 (Nat.le_of_ble_eq_true rfl) (Nat.le_of_ble_eq_true rfl)) rfl rfl rfl rfl ⟨Nat.le_of_ble_eq_true rfl, Nat.le_of_ble_eq_true rfl⟩ (Nat.le_of_ble_eq_true rfl) rfl) ?_
      refine G_st (x_aload_n dX6_climbs_28 rfl) ?_
      refine G_st (x_get (k := 2) (aR (3, 6)) dX6_climbs_29 (H0_0 0 (Nat.le_of_ble_eq_true rfl) (Nat.le_of_ble_eq_true rfl)) rfl rfl rfl rfl inTX6 (Nat.le_of_ble_eq_true rfl) tw_287 (fun ad => rfl)) ?_
      refine G_bd (fun x8 t9 h10 => ?_)
      refine G_st (x_callV [] (c_X2_spendWeek ids Hn 3 H3 _ _ _ h10) dX6_climbs_32 tw_605 kc_X2_spendWeek (H3 6 (Nat.le_of_ble_eq_true rfl) (Nat.le_of_ble_eq_true rfl)) rfl rfl rfl rfl ⟨Nat.le_of_ble_eq_true rfl, Nat.le_of_ble_eq_true rfl⟩ (Nat.le_of_ble_eq_true rfl) rfl) ?_
      refine G_st (x_istore_n [some (aR (0, 0)), some (aI v1), some (aI v2), some (aI x8)] dX6_climbs_35 (Nat.le_of_ble_eq_true rfl) rfl rfl) ?_
      refine G_st (x_iload_n dX6_climbs_36 rfl) ?_
      refine G_ite (fun c11 => ?_) (fun c11 => ?_)
      · refine G_st (x_if_le_t (tgt := 47) dX6_climbs_37 (by decide) c11) ?_
        refine G_weak _ ?_ (g_X6_climbs_47 ids Hn H0_0 H1 H2 H3 (f_X6_climbs_15 n) (ih) v2 x8 t9)
        exact (leL_s (leL_n (leL_s (leL_s (leL_e _)))))
      · refine G_st (x_if_le_f 47 dX6_climbs_37 (by decide) c11) ?_
        refine G_st (x_iload_n dX6_climbs_40 rfl) ?_
        refine G_st (x_iload_n dX6_climbs_41 rfl) ?_
        refine G_ite (fun c12 => ?_) (fun c12 => ?_)
        · refine G_st (x_icmp_gt_t (tgt := 47) dX6_climbs_42 (by decide) c12) ?_
          refine G_weak _ ?_ (g_X6_climbs_47 ids Hn H0_0 H1 H2 H3 (f_X6_climbs_15 n) (ih) v2 x8 t9)
          exact (leL_s (leL_n (leL_s (leL_s (leL_e _)))))
        · refine G_st (x_icmp_gt_f 47 dX6_climbs_42 (by decide) c12) ?_
          refine G_st (x_iload_n dX6_climbs_45 rfl) ?_
          exact G_ret rfl ⟨dX6_climbs_46, _, rfl, rfl⟩ rfl
set_option maxRecDepth 100000 in
set_option maxHeartbeats 4000000 in
theorem g_X6_climbs (ids : List (Nat × Nat)) (Hn : Ndp ids)  (H0_0 : InR ids 0 0 5) (H1 : InR ids 1 6 28) (H2 : InR ids 2 6 28) (H3 : InR ids 3 6 28) (t0 : Sg) : Gj kI mX6_climbs ids 0 [some (aR (0, 0)), none, none, none] [] t0 (f_X6_climbs t0) := by
  unfold f_X6_climbs
  refine G_st (x_aload_n dX6_climbs_0 rfl) ?_
  refine G_st (x_get (k := 2) (aR (3, 6)) dX6_climbs_1 (H0_0 0 (Nat.le_of_ble_eq_true rfl) (Nat.le_of_ble_eq_true rfl)) rfl rfl rfl rfl inTX6 (Nat.le_of_ble_eq_true rfl) tw_287 (fun ad => rfl)) ?_
  refine G_st (x_aload_n dX6_climbs_4 rfl) ?_
  refine G_st (x_get (k := 0) (aR (1, 6)) dX6_climbs_5 (H0_0 0 (Nat.le_of_ble_eq_true rfl) (Nat.le_of_ble_eq_true rfl)) rfl rfl rfl rfl inTX6 (Nat.le_of_ble_eq_true rfl) tw_285 (fun ad => rfl)) ?_
  refine G_bd (fun _ t2 h3 => ?_)
  refine G_st (x_callV [] (c_X2_copyFrom ids Hn 3 1 H3 H1 _ _ _ h3) dX6_climbs_8 tw_432 kc_X2_copyFrom (H3 6 (Nat.le_of_ble_eq_true rfl) (Nat.le_of_ble_eq_true rfl)) rfl rfl rfl rfl ⟨Nat.le_of_ble_eq_true rfl, Nat.le_of_ble_eq_true rfl⟩ (Nat.le_of_ble_eq_true rfl) rfl) ?_
  refine G_st (x_iconst (0 : Int32) dX6_climbs_11 rfl) ?_
  refine G_st (x_istore_n [some (aR (0, 0)), some (aI (0 : Int32)), none, none] dX6_climbs_12 (Nat.le_of_ble_eq_true rfl) rfl rfl) ?_
  refine G_st (x_iconst (0 : Int32) dX6_climbs_13 rfl) ?_
  refine G_st (x_istore_n [some (aR (0, 0)), some (aI (0 : Int32)), some (aI (0 : Int32)), none] dX6_climbs_14 (Nat.le_of_ble_eq_true rfl) rfl rfl) ?_
  refine G_weak _ ?_ (g_X6_climbs_15 ids Hn H0_0 H1 H2 H3 fuel (0 : Int32) (0 : Int32) t2)
  exact (leL_s (leL_s (leL_s (leL_n (leL_e _)))))
set_option maxRecDepth 100000 in
set_option maxHeartbeats 4000000 in
theorem c_X6_climbs (ids : List (Nat × Nat)) (Hn : Ndp ids)  (H0_0 : InR ids 0 0 5) (H1 : InR ids 1 6 28) (H2 : InR ids 2 6 28) (H3 : InR ids 3 6 28) (t0 : Sg) (r : Int32) (t1 : Sg) (hf : f_X6_climbs t0 = some (r, t1)) : Mt0 mX6_climbs yX6_climbs ids [aR (0, 0)] t0 (some (aI r)) t1 :=
  Mt_of (x := (r, t1)) (g_X6_climbs ids Hn  H0_0 H1 H2 H3 t0) hf (fun _ _ => trivial) (by decide) rfl Hn (fun _ => rfl) (fun _ => Nat.le_of_ble_eq_true rfl)
theorem dX6_worth_0 : decode cX6_worth 0 = .ok (.aload_n 0, 1) := by decide +kernel
theorem dX6_worth_1 : decode cX6_worth 1 = .ok (.getfield 12, 3) := by decide +kernel
theorem dX6_worth_4 : decode cX6_worth 4 = .ok (.getfield 67, 3) := by decide +kernel
theorem dX6_worth_7 : decode cX6_worth 7 = .ok (.iload_n 1, 1) := by decide +kernel
theorem dX6_worth_8 : decode cX6_worth 8 = .ok (.invokevirtual 147, 3) := by decide +kernel
theorem dX6_worth_11 : decode cX6_worth 11 = .ok (.istore_n 2, 1) := by decide +kernel
theorem dX6_worth_12 : decode cX6_worth 12 = .ok (.iload_n 2, 1) := by decide +kernel
theorem dX6_worth_13 : decode cX6_worth 13 = .ok (.ifCond .ge 9, 3) := by decide +kernel
theorem dX6_worth_16 : decode cX6_worth 16 = .ok (.aload_n 0, 1) := by decide +kernel
theorem dX6_worth_17 : decode cX6_worth 17 = .ok (.iconst (-1), 1) := by decide +kernel
theorem dX6_worth_18 : decode cX6_worth 18 = .ok (.invokevirtual 130, 3) := by decide +kernel
theorem dX6_worth_21 : decode cX6_worth 21 = .ok (.ireturn, 1) := by decide +kernel
theorem dX6_worth_22 : decode cX6_worth 22 = .ok (.aload_n 0, 1) := by decide +kernel
theorem dX6_worth_23 : decode cX6_worth 23 = .ok (.invokevirtual 259, 3) := by decide +kernel
theorem dX6_worth_26 : decode cX6_worth 26 = .ok (.pop, 1) := by decide +kernel
theorem dX6_worth_27 : decode cX6_worth 27 = .ok (.iload_n 2, 1) := by decide +kernel
theorem dX6_worth_28 : decode cX6_worth 28 = .ok (.iconst 4, 1) := by decide +kernel
theorem dX6_worth_29 : decode cX6_worth 29 = .ok (.idiv, 1) := by decide +kernel
theorem dX6_worth_30 : decode cX6_worth 30 = .ok (.istore_n 3, 1) := by decide +kernel
theorem dX6_worth_31 : decode cX6_worth 31 = .ok (.iconst 0, 1) := by decide +kernel
theorem dX6_worth_32 : decode cX6_worth 32 = .ok (.bipush 100, 2) := by decide +kernel
theorem dX6_worth_34 : decode cX6_worth 34 = .ok (.iconst 5, 1) := by decide +kernel
theorem dX6_worth_35 : decode cX6_worth 35 = .ok (.iload_n 3, 1) := by decide +kernel
theorem dX6_worth_36 : decode cX6_worth 36 = .ok (.imul, 1) := by decide +kernel
theorem dX6_worth_37 : decode cX6_worth 37 = .ok (.iadd, 1) := by decide +kernel
theorem dX6_worth_38 : decode cX6_worth 38 = .ok (.aload_n 0, 1) := by decide +kernel
theorem dX6_worth_39 : decode cX6_worth 39 = .ok (.aload_n 0, 1) := by decide +kernel
theorem dX6_worth_40 : decode cX6_worth 40 = .ok (.getfield 12, 3) := by decide +kernel
theorem dX6_worth_43 : decode cX6_worth 43 = .ok (.getfield 67, 3) := by decide +kernel
theorem dX6_worth_46 : decode cX6_worth 46 = .ok (.getfield 162, 3) := by decide +kernel
theorem dX6_worth_49 : decode cX6_worth 49 = .ok (.iload_n 2, 1) := by decide +kernel
theorem dX6_worth_50 : decode cX6_worth 50 = .ok (.invokestatic 59, 3) := by decide +kernel
theorem dX6_worth_53 : decode cX6_worth 53 = .ok (.invokevirtual 126, 3) := by decide +kernel
theorem dX6_worth_56 : decode cX6_worth 56 = .ok (.isub, 1) := by decide +kernel
theorem dX6_worth_57 : decode cX6_worth 57 = .ok (.invokestatic 275, 3) := by decide +kernel
theorem dX6_worth_60 : decode cX6_worth 60 = .ok (.ireturn, 1) := by decide +kernel
set_option maxRecDepth 100000 in
set_option maxHeartbeats 4000000 in
theorem g_X6_worth (ids : List (Nat × Nat)) (Hn : Ndp ids) (v1 : Int32) (H0_0 : InR ids 0 0 5) (H1 : InR ids 1 6 28) (H2 : InR ids 2 6 28) (H3 : InR ids 3 6 28) (t0 : Sg) : Gj kI mX6_worth ids 0 [some (aR (0, 0)), some (aI v1), none, none] [] t0 (f_X6_worth v1 t0) := by
  unfold f_X6_worth
  refine G_st (x_aload_n dX6_worth_0 rfl) ?_
  refine G_st (x_get (k := 0) (aR (1, 6)) dX6_worth_1 (H0_0 0 (Nat.le_of_ble_eq_true rfl) (Nat.le_of_ble_eq_true rfl)) rfl rfl rfl rfl inTX6 (Nat.le_of_ble_eq_true rfl) tw_285 (fun ad => rfl)) ?_
  refine G_st (x_get (k := 0) (aR (1, 7)) dX6_worth_4 (H1 6 (Nat.le_of_ble_eq_true rfl) (Nat.le_of_ble_eq_true rfl)) rfl rfl rfl rfl inTX2 (Nat.le_of_ble_eq_true rfl) tw_250 (fun ad => rfl)) ?_
  refine G_st (x_iload_n dX6_worth_7 rfl) ?_
  refine G_bd (fun x1 t2 h3 => ?_)
  refine G_st (x_callV [] (c_X0_placeOf ids Hn 1 v1 (H1.sub (Nat.le_of_ble_eq_true rfl) (Nat.le_of_ble_eq_true rfl)) _ _ _ h3) dX6_worth_8 tw_521 kc_X0_placeOf (H1 7 (Nat.le_of_ble_eq_true rfl) (Nat.le_of_ble_eq_true rfl)) rfl rfl rfl rfl ⟨Nat.le_of_ble_eq_true rfl, Nat.le_of_ble_eq_true rfl⟩ (Nat.le_of_ble_eq_true rfl) rfl) ?_
  refine G_st (x_istore_n [some (aR (0, 0)), some (aI v1), some (aI x1), none] dX6_worth_11 (Nat.le_of_ble_eq_true rfl) rfl rfl) ?_
  refine G_st (x_iload_n dX6_worth_12 rfl) ?_
  refine G_ite (fun c4 => ?_) (fun c4 => ?_)
  · refine G_st (x_if_ge_t (tgt := 22) dX6_worth_13 (by decide) c4) ?_
    refine G_st (x_aload_n dX6_worth_22 rfl) ?_
    refine G_bd (fun x5 t6 h7 => ?_)
    refine G_st (x_callV [] (c_X6_tryAsIs ids Hn  H0_0 H1 H2 H3 _ _ _ h7) dX6_worth_23 tw_728 kc_X6_tryAsIs (H0_0 0 (Nat.le_of_ble_eq_true rfl) (Nat.le_of_ble_eq_true rfl)) rfl rfl rfl rfl ⟨Nat.le_of_ble_eq_true rfl, Nat.le_of_ble_eq_true rfl⟩ (Nat.le_of_ble_eq_true rfl) rfl) ?_
    refine G_st (x_pop dX6_worth_26 rfl) ?_
    refine G_st (x_iload_n dX6_worth_27 rfl) ?_
    refine G_st (x_iconst (4 : Int32) dX6_worth_28 rfl) ?_
    refine G_st (x_idiv dX6_worth_29 (by decide)) ?_
    refine G_bvI (fun x8 => ?_)
    refine G_st (x_istore_n [some (aR (0, 0)), some (aI v1), some (aI x1), some (aI x8)] dX6_worth_30 (Nat.le_of_ble_eq_true rfl) rfl rfl) ?_
    refine G_st (x_iconst (0 : Int32) dX6_worth_31 rfl) ?_
    refine G_st (x_bipush (100 : Int32) dX6_worth_32 rfl) ?_
    refine G_st (x_iconst (5 : Int32) dX6_worth_34 rfl) ?_
    refine G_st (x_iload_n dX6_worth_35 rfl) ?_
    refine G_st (x_imul dX6_worth_36) ?_
    refine G_st (x_iadd dX6_worth_37) ?_
    refine G_st (x_aload_n dX6_worth_38 rfl) ?_
    refine G_st (x_aload_n dX6_worth_39 rfl) ?_
    refine G_st (x_get (k := 0) (aR (1, 6)) dX6_worth_40 (H0_0 0 (Nat.le_of_ble_eq_true rfl) (Nat.le_of_ble_eq_true rfl)) rfl rfl rfl rfl inTX6 (Nat.le_of_ble_eq_true rfl) tw_285 (fun ad => rfl)) ?_
    refine G_st (x_get (k := 0) (aR (1, 7)) dX6_worth_43 (H1 6 (Nat.le_of_ble_eq_true rfl) (Nat.le_of_ble_eq_true rfl)) rfl rfl rfl rfl inTX2 (Nat.le_of_ble_eq_true rfl) tw_250 (fun ad => rfl)) ?_
    refine G_st (x_get (k := 8) (aR (1, 13)) dX6_worth_46 (H1 7 (Nat.le_of_ble_eq_true rfl) (Nat.le_of_ble_eq_true rfl)) rfl rfl rfl rfl inTX0 (Nat.le_of_ble_eq_true rfl) tw_137 (fun ad => rfl)) ?_
    refine G_st (x_iload_n dX6_worth_49 rfl) ?_
    refine G_bd (fun x9 t10 h11 => ?_)
    refine G_st (x_callS [aR (0, 0), aI ((100 : Int32) + ((5 : Int32) * x8)), aI (0 : Int32)] (c_X6_get ids Hn (1, 13) x1 (H1 13 (Nat.le_of_ble_eq_true rfl) (Nat.le_of_ble_eq_true rfl)) rfl _ _ _ h11) dX6_worth_50 tw_321 kc_X6_get rfl ⟨Nat.le_of_ble_eq_true rfl, Nat.le_of_ble_eq_true rfl⟩ (Nat.le_of_ble_eq_true rfl) rfl) ?_
    refine G_bd (fun x12 t13 h14 => ?_)
    refine G_st (x_callV [aI ((100 : Int32) + ((5 : Int32) * x8)), aI (0 : Int32)] (c_X6_doneTo ids Hn x9 H0_0 H1 H2 H3 _ _ _ h14) dX6_worth_53 tw_695 kc_X6_doneTo (H0_0 0 (Nat.le_of_ble_eq_true rfl) (Nat.le_of_ble_eq_true rfl)) rfl rfl rfl rfl ⟨Nat.le_of_ble_eq_true rfl, Nat.le_of_ble_eq_true rfl⟩ (Nat.le_of_ble_eq_true rfl) rfl) ?_
    refine G_st (x_isub dX6_worth_56) ?_
    refine G_st (x_mmax dX6_worth_57 tw_791 tw_633 tw_74 tw_634 ⟨Nat.le_of_ble_eq_true rfl, Nat.le_of_ble_eq_true rfl⟩ (Nat.le_of_ble_eq_true rfl)) ?_
    exact G_ret rfl ⟨dX6_worth_60, _, rfl, rfl⟩ rfl
  · refine G_st (x_if_ge_f 22 dX6_worth_13 (by decide) c4) ?_
    refine G_st (x_aload_n dX6_worth_16 rfl) ?_
    refine G_st (x_iconst (-1 : Int32) dX6_worth_17 rfl) ?_
    refine G_bd (fun x15 t16 h17 => ?_)
    refine G_st (x_callV [] (c_X6_refuse ids Hn (-1 : Int32) H0_0 H1 H2 H3 _ _ _ h17) dX6_worth_18 tw_317 kc_X6_refuse (H0_0 0 (Nat.le_of_ble_eq_true rfl) (Nat.le_of_ble_eq_true rfl)) rfl rfl rfl rfl ⟨Nat.le_of_ble_eq_true rfl, Nat.le_of_ble_eq_true rfl⟩ (Nat.le_of_ble_eq_true rfl) rfl) ?_
    exact G_ret rfl ⟨dX6_worth_21, _, rfl, rfl⟩ rfl
set_option maxRecDepth 100000 in
set_option maxHeartbeats 4000000 in
theorem c_X6_worth (ids : List (Nat × Nat)) (Hn : Ndp ids) (v1 : Int32) (H0_0 : InR ids 0 0 5) (H1 : InR ids 1 6 28) (H2 : InR ids 2 6 28) (H3 : InR ids 3 6 28) (t0 : Sg) (r : Int32) (t1 : Sg) (hf : f_X6_worth v1 t0 = some (r, t1)) : Mt0 mX6_worth yX6_worth ids [aR (0, 0), aI v1] t0 (some (aI r)) t1 :=
  Mt_of (x := (r, t1)) (g_X6_worth ids Hn v1 H0_0 H1 H2 H3 t0) hf (fun _ _ => trivial) (by decide) rfl Hn (fun _ => rfl) (fun _ => Nat.le_of_ble_eq_true rfl)
theorem dX6_pairs_0 : decode cX6_pairs 0 = .ok (.iconst 0, 1) := by decide +kernel
theorem dX6_pairs_1 : decode cX6_pairs 1 = .ok (.istore_n 2, 1) := by decide +kernel
theorem dX6_pairs_2 : decode cX6_pairs 2 = .ok (.iconst 0, 1) := by decide +kernel
theorem dX6_pairs_3 : decode cX6_pairs 3 = .ok (.istore_n 3, 1) := by decide +kernel
theorem dX6_pairs_4 : decode cX6_pairs 4 = .ok (.iload_n 3, 1) := by decide +kernel
theorem dX6_pairs_5 : decode cX6_pairs 5 = .ok (.bipush 24, 2) := by decide +kernel
theorem dX6_pairs_7 : decode cX6_pairs 7 = .ok (.if_icmp .ge 107, 3) := by decide +kernel
theorem dX6_pairs_10 : decode cX6_pairs 10 = .ok (.iload_n 3, 1) := by decide +kernel
theorem dX6_pairs_11 : decode cX6_pairs 11 = .ok (.iconst 1, 1) := by decide +kernel
theorem dX6_pairs_12 : decode cX6_pairs 12 = .ok (.iadd, 1) := by decide +kernel
theorem dX6_pairs_13 : decode cX6_pairs 13 = .ok (.istore 4, 2) := by decide +kernel
theorem dX6_pairs_15 : decode cX6_pairs 15 = .ok (.iload 4, 2) := by decide +kernel
theorem dX6_pairs_17 : decode cX6_pairs 17 = .ok (.bipush 24, 2) := by decide +kernel
theorem dX6_pairs_19 : decode cX6_pairs 19 = .ok (.if_icmp .ge 89, 3) := by decide +kernel
theorem dX6_pairs_22 : decode cX6_pairs 22 = .ok (.aload_n 0, 1) := by decide +kernel
theorem dX6_pairs_23 : decode cX6_pairs 23 = .ok (.getfield 36, 3) := by decide +kernel
theorem dX6_pairs_26 : decode cX6_pairs 26 = .ok (.iload_n 3, 1) := by decide +kernel
theorem dX6_pairs_27 : decode cX6_pairs 27 = .ok (.invokestatic 59, 3) := by decide +kernel
theorem dX6_pairs_30 : decode cX6_pairs 30 = .ok (.ifCond .le 72, 3) := by decide +kernel
theorem dX6_pairs_33 : decode cX6_pairs 33 = .ok (.aload_n 0, 1) := by decide +kernel
theorem dX6_pairs_34 : decode cX6_pairs 34 = .ok (.getfield 36, 3) := by decide +kernel
theorem dX6_pairs_37 : decode cX6_pairs 37 = .ok (.iload 4, 2) := by decide +kernel
theorem dX6_pairs_39 : decode cX6_pairs 39 = .ok (.invokestatic 59, 3) := by decide +kernel
theorem dX6_pairs_42 : decode cX6_pairs 42 = .ok (.ifCond .le 60, 3) := by decide +kernel
theorem dX6_pairs_45 : decode cX6_pairs 45 = .ok (.aload_n 0, 1) := by decide +kernel
theorem dX6_pairs_46 : decode cX6_pairs 46 = .ok (.invokevirtual 97, 3) := by decide +kernel
theorem dX6_pairs_49 : decode cX6_pairs 49 = .ok (.aload_n 0, 1) := by decide +kernel
theorem dX6_pairs_50 : decode cX6_pairs 50 = .ok (.getfield 19, 3) := by decide +kernel
theorem dX6_pairs_53 : decode cX6_pairs 53 = .ok (.getfield 67, 3) := by decide +kernel
theorem dX6_pairs_56 : decode cX6_pairs 56 = .ok (.iload_n 3, 1) := by decide +kernel
theorem dX6_pairs_57 : decode cX6_pairs 57 = .ok (.iload 4, 2) := by decide +kernel
theorem dX6_pairs_59 : decode cX6_pairs 59 = .ok (.invokevirtual 225, 3) := by decide +kernel
theorem dX6_pairs_62 : decode cX6_pairs 62 = .ok (.aload_n 0, 1) := by decide +kernel
theorem dX6_pairs_63 : decode cX6_pairs 63 = .ok (.getfield 19, 3) := by decide +kernel
theorem dX6_pairs_66 : decode cX6_pairs 66 = .ok (.invokevirtual 100, 3) := by decide +kernel
theorem dX6_pairs_69 : decode cX6_pairs 69 = .ok (.pop, 1) := by decide +kernel
theorem dX6_pairs_70 : decode cX6_pairs 70 = .ok (.aload_n 0, 1) := by decide +kernel
theorem dX6_pairs_71 : decode cX6_pairs 71 = .ok (.iload_n 3, 1) := by decide +kernel
theorem dX6_pairs_72 : decode cX6_pairs 72 = .ok (.invokevirtual 265, 3) := by decide +kernel
theorem dX6_pairs_75 : decode cX6_pairs 75 = .ok (.ifCond .le 27, 3) := by decide +kernel
theorem dX6_pairs_78 : decode cX6_pairs 78 = .ok (.aload_n 0, 1) := by decide +kernel
theorem dX6_pairs_79 : decode cX6_pairs 79 = .ok (.iload 4, 2) := by decide +kernel
theorem dX6_pairs_81 : decode cX6_pairs 81 = .ok (.invokevirtual 265, 3) := by decide +kernel
theorem dX6_pairs_84 : decode cX6_pairs 84 = .ok (.ifCond .le 18, 3) := by decide +kernel
theorem dX6_pairs_87 : decode cX6_pairs 87 = .ok (.iload_n 1, 1) := by decide +kernel
theorem dX6_pairs_88 : decode cX6_pairs 88 = .ok (.ifCond .eq 11, 3) := by decide +kernel
theorem dX6_pairs_91 : decode cX6_pairs 91 = .ok (.bipush 100, 2) := by decide +kernel
theorem dX6_pairs_93 : decode cX6_pairs 93 = .ok (.iload_n 3, 1) := by decide +kernel
theorem dX6_pairs_94 : decode cX6_pairs 94 = .ok (.imul, 1) := by decide +kernel
theorem dX6_pairs_95 : decode cX6_pairs 95 = .ok (.iload 4, 2) := by decide +kernel
theorem dX6_pairs_97 : decode cX6_pairs 97 = .ok (.iadd, 1) := by decide +kernel
theorem dX6_pairs_98 : decode cX6_pairs 98 = .ok (.ireturn, 1) := by decide +kernel
theorem dX6_pairs_99 : decode cX6_pairs 99 = .ok (.iinc 2 1, 3) := by decide +kernel
theorem dX6_pairs_102 : decode cX6_pairs 102 = .ok (.iinc 4 1, 3) := by decide +kernel
theorem dX6_pairs_105 : decode cX6_pairs 105 = .ok (.goto (-90), 3) := by decide +kernel
theorem dX6_pairs_108 : decode cX6_pairs 108 = .ok (.iinc 3 1, 3) := by decide +kernel
theorem dX6_pairs_111 : decode cX6_pairs 111 = .ok (.goto (-107), 3) := by decide +kernel
theorem dX6_pairs_114 : decode cX6_pairs 114 = .ok (.iload_n 1, 1) := by decide +kernel
theorem dX6_pairs_115 : decode cX6_pairs 115 = .ok (.ifCond .eq 8, 3) := by decide +kernel
theorem dX6_pairs_118 : decode cX6_pairs 118 = .ok (.bipush (-9), 2) := by decide +kernel
theorem dX6_pairs_120 : decode cX6_pairs 120 = .ok (.goto 4, 3) := by decide +kernel
theorem dX6_pairs_123 : decode cX6_pairs 123 = .ok (.iload_n 2, 1) := by decide +kernel
theorem dX6_pairs_124 : decode cX6_pairs 124 = .ok (.ireturn, 1) := by decide +kernel
set_option maxRecDepth 100000 in
set_option maxHeartbeats 4000000 in
theorem g_X6_pairs_102 (ids : List (Nat × Nat)) (Hn : Ndp ids)  (H0_0 : InR ids 0 0 5) (H1 : InR ids 1 6 28) (H2 : InR ids 2 6 28) (H3 : InR ids 3 6 28) (k4 : Int32 → Int32 → Int32 → Sg → Option (Int32 × Sg)) (hk4 : ∀ (v1 : Int32) (v2 : Int32) (v3 : Int32) (t0 : Sg), Gj kI mX6_pairs ids 4 [some (aR (0, 0)), some (aI v1), some (aI v2), some (aI v3), none] [] t0 (k4 v1 v2 v3 t0)) (k15 : Int32 → Int32 → Int32 → Int32 → Sg → Option (Int32 × Sg)) (hk15 : ∀ (v1 : Int32) (v2 : Int32) (v3 : Int32) (v4 : Int32) (t0 : Sg), Gj kI mX6_pairs ids 15 [some (aR (0, 0)), some (aI v1), some (aI v2), some (aI v3), some (aI v4)] [] t0 (k15 v1 v2 v3 v4 t0)) (v1 : Int32) (v2 : Int32) (v3 : Int32) (v4 : Int32) (t0 : Sg) : Gj kI mX6_pairs ids 102 [some (aR (0, 0)), some (aI v1), some (aI v2), some (aI v3), some (aI v4)] [] t0 (f_X6_pairs_102 k4 k15 v1 v2 v3 v4 t0) := by
  unfold f_X6_pairs_102
  refine G_st (x_iinc (v4 + (1 : Int32)) [some (aR (0, 0)), some (aI v1), some (aI v2), some (aI v3), some (aI (v4 + (1 : Int32)))] dX6_pairs_102 (Nat.le_of_ble_eq_true rfl) rfl rfl rfl rfl) ?_
  refine G_st (x_goto (tgt := 15) dX6_pairs_105 (by decide)) ?_
  refine G_weak _ ?_ (hk15 v1 v2 v3 (v4 + (1 : Int32)) t0)
  exact (leL_s (leL_s (leL_s (leL_s (leL_s (leL_e _))))))
set_option maxRecDepth 100000 in
set_option maxHeartbeats 4000000 in
theorem g_X6_pairs_15 (ids : List (Nat × Nat)) (Hn : Ndp ids)  (H0_0 : InR ids 0 0 5) (H1 : InR ids 1 6 28) (H2 : InR ids 2 6 28) (H3 : InR ids 3 6 28) (k4 : Int32 → Int32 → Int32 → Sg → Option (Int32 × Sg)) (hk4 : ∀ (v1 : Int32) (v2 : Int32) (v3 : Int32) (t0 : Sg), Gj kI mX6_pairs ids 4 [some (aR (0, 0)), some (aI v1), some (aI v2), some (aI v3), none] [] t0 (k4 v1 v2 v3 t0)) : ∀ (n : Nat) (v1 : Int32) (v2 : Int32) (v3 : Int32) (v4 : Int32) (t0 : Sg), Gj kI mX6_pairs ids 15 [some (aR (0, 0)), some (aI v1), some (aI v2), some (aI v3), some (aI v4)] [] t0 (f_X6_pairs_15 k4 n v1 v2 v3 v4 t0) := by
  intro n
  induction n with
  | zero => intro v1 v2 v3 v4 t0; exact G_none
  | succ n ih =>
    intro v1 v2 v3 v4 t0
    rw [f_X6_pairs_15]
    refine G_st (x_iload dX6_pairs_15 rfl) ?_
    refine G_st (x_bipush (24 : Int32) dX6_pairs_17 rfl) ?_
    refine G_ite (fun c5 => ?_) (fun c5 => ?_)
    · refine G_st (x_icmp_ge_t (tgt := 108) dX6_pairs_19 (by decide) c5) ?_
      refine G_st (x_iinc (v3 + (1 : Int32)) [some (aR (0, 0)), some (aI v1), some (aI v2), some (aI (v3 + (1 : Int32))), some (aI v4)] dX6_pairs_108 (Nat.le_of_ble_eq_true rfl) rfl rfl rfl rfl) ?_
      refine G_st (x_goto (tgt := 4) dX6_pairs_111 (by decide)) ?_
      refine G_weak _ ?_ (hk4 v1 v2 (v3 + (1 : Int32)) t0)
      exact (leL_s (leL_s (leL_s (leL_s (leL_n (leL_e _))))))
    · refine G_st (x_icmp_ge_f 108 dX6_pairs_19 (by decide) c5) ?_
      refine G_st (x_aload_n dX6_pairs_22 rfl) ?_
      refine G_st (x_get (k := 6) (aR (0, 3)) dX6_pairs_23 (H0_0 0 (Nat.le_of_ble_eq_true rfl) (Nat.le_of_ble_eq_true rfl)) rfl rfl rfl rfl inTX6 (Nat.le_of_ble_eq_true rfl) tw_291 (fun ad => rfl)) ?_
      refine G_st (x_iload_n dX6_pairs_26 rfl) ?_
      refine G_bd (fun x6 t7 h8 => ?_)
      refine G_st (x_callS [] (c_X6_get ids Hn (0, 3) v3 (H0_0 3 (Nat.le_of_ble_eq_true rfl) (Nat.le_of_ble_eq_true rfl)) rfl _ _ _ h8) dX6_pairs_27 tw_321 kc_X6_get rfl ⟨Nat.le_of_ble_eq_true rfl, Nat.le_of_ble_eq_true rfl⟩ (Nat.le_of_ble_eq_true rfl) rfl) ?_
      refine G_ite (fun c9 => ?_) (fun c9 => ?_)
      · refine G_st (x_if_le_t (tgt := 102) dX6_pairs_30 (by decide) c9) ?_
        refine G_weak _ ?_ (g_X6_pairs_102 ids Hn H0_0 H1 H2 H3 k4 hk4 (f_X6_pairs_15 k4 n) (ih) v1 v2 v3 v4 t7)
        exact (leL_s (leL_s (leL_s (leL_s (leL_s (leL_e _))))))
      · refine G_st (x_if_le_f 102 dX6_pairs_30 (by decide) c9) ?_
        refine G_st (x_aload_n dX6_pairs_33 rfl) ?_
        refine G_st (x_get (k := 6) (aR (0, 3)) dX6_pairs_34 (H0_0 0 (Nat.le_of_ble_eq_true rfl) (Nat.le_of_ble_eq_true rfl)) rfl rfl rfl rfl inTX6 (Nat.le_of_ble_eq_true rfl) tw_291 (fun ad => rfl)) ?_
        refine G_st (x_iload dX6_pairs_37 rfl) ?_
        refine G_bd (fun x10 t11 h12 => ?_)
        refine G_st (x_callS [] (c_X6_get ids Hn (0, 3) v4 (H0_0 3 (Nat.le_of_ble_eq_true rfl) (Nat.le_of_ble_eq_true rfl)) rfl _ _ _ h12) dX6_pairs_39 tw_321 kc_X6_get rfl ⟨Nat.le_of_ble_eq_true rfl, Nat.le_of_ble_eq_true rfl⟩ (Nat.le_of_ble_eq_true rfl) rfl) ?_
        refine G_ite (fun c13 => ?_) (fun c13 => ?_)
        · refine G_st (x_if_le_t (tgt := 102) dX6_pairs_42 (by decide) c13) ?_
          refine G_weak _ ?_ (g_X6_pairs_102 ids Hn H0_0 H1 H2 H3 k4 hk4 (f_X6_pairs_15 k4 n) (ih) v1 v2 v3 v4 t11)
          exact (leL_s (leL_s (leL_s (leL_s (leL_s (leL_e _))))))
        · refine G_st (x_if_le_f 102 dX6_pairs_42 (by decide) c13) ?_
          refine G_st (x_aload_n dX6_pairs_45 rfl) ?_
          refine G_bd (fun _ t15 h16 => ?_)
          refine G_st (x_callV [] (c_X6_tryAnew ids Hn  H0_0 H1 H2 H3 _ _ _ h16) dX6_pairs_46 tw_689 kc_X6_tryAnew (H0_0 0 (Nat.le_of_ble_eq_true rfl) (Nat.le_of_ble_eq_true rfl)) rfl rfl rfl rfl ⟨Nat.le_of_ble_eq_true rfl, Nat.le_of_ble_eq_true rfl⟩ (Nat.le_of_ble_eq_true rfl) rfl) ?_
          refine G_st (x_aload_n dX6_pairs_49 rfl) ?_
          refine G_st (x_get (k := 2) (aR (3, 6)) dX6_pairs_50 (H0_0 0 (Nat.le_of_ble_eq_true rfl) (Nat.le_of_ble_eq_true rfl)) rfl rfl rfl rfl inTX6 (Nat.le_of_ble_eq_true rfl) tw_287 (fun ad => rfl)) ?_
          refine G_st (x_get (k := 0) (aR (3, 7)) dX6_pairs_53 (H3 6 (Nat.le_of_ble_eq_true rfl) (Nat.le_of_ble_eq_true rfl)) rfl rfl rfl rfl inTX2 (Nat.le_of_ble_eq_true rfl) tw_250 (fun ad => rfl)) ?_
          refine G_st (x_iload_n dX6_pairs_56 rfl) ?_
          refine G_st (x_iload dX6_pairs_57 rfl) ?_
          refine G_bd (fun _ t18 h19 => ?_)
          refine G_st (x_callV [] (c_X0_change ids Hn 3 v3 v4 (H3.sub (Nat.le_of_ble_eq_true rfl) (Nat.le_of_ble_eq_true rfl)) _ _ _ h19) dX6_pairs_59 tw_592 kc_X0_change (H3 7 (Nat.le_of_ble_eq_true rfl) (Nat.le_of_ble_eq_true rfl)) rfl rfl rfl rfl ⟨Nat.le_of_ble_eq_true rfl, Nat.le_of_ble_eq_true rfl⟩ (Nat.le_of_ble_eq_true rfl) rfl) ?_
          refine G_st (x_aload_n dX6_pairs_62 rfl) ?_
          refine G_st (x_get (k := 2) (aR (3, 6)) dX6_pairs_63 (H0_0 0 (Nat.le_of_ble_eq_true rfl) (Nat.le_of_ble_eq_true rfl)) rfl rfl rfl rfl inTX6 (Nat.le_of_ble_eq_true rfl) tw_287 (fun ad => rfl)) ?_
          refine G_bd (fun x20 t21 h22 => ?_)
          refine G_st (x_callV [] (c_X2_spendWeek ids Hn 3 H3 _ _ _ h22) dX6_pairs_66 tw_605 kc_X2_spendWeek (H3 6 (Nat.le_of_ble_eq_true rfl) (Nat.le_of_ble_eq_true rfl)) rfl rfl rfl rfl ⟨Nat.le_of_ble_eq_true rfl, Nat.le_of_ble_eq_true rfl⟩ (Nat.le_of_ble_eq_true rfl) rfl) ?_
          refine G_st (x_pop dX6_pairs_69 rfl) ?_
          refine G_st (x_aload_n dX6_pairs_70 rfl) ?_
          refine G_st (x_iload_n dX6_pairs_71 rfl) ?_
          refine G_bd (fun x23 t24 h25 => ?_)
          refine G_st (x_callV [] (c_X6_gain ids Hn v3 H0_0 H1 H2 H3 _ _ _ h25) dX6_pairs_72 tw_753 kc_X6_gain (H0_0 0 (Nat.le_of_ble_eq_true rfl) (Nat.le_of_ble_eq_true rfl)) rfl rfl rfl rfl ⟨Nat.le_of_ble_eq_true rfl, Nat.le_of_ble_eq_true rfl⟩ (Nat.le_of_ble_eq_true rfl) rfl) ?_
          refine G_ite (fun c26 => ?_) (fun c26 => ?_)
          · refine G_st (x_if_le_t (tgt := 102) dX6_pairs_75 (by decide) c26) ?_
            refine G_weak _ ?_ (g_X6_pairs_102 ids Hn H0_0 H1 H2 H3 k4 hk4 (f_X6_pairs_15 k4 n) (ih) v1 v2 v3 v4 t24)
            exact (leL_s (leL_s (leL_s (leL_s (leL_s (leL_e _))))))
          · refine G_st (x_if_le_f 102 dX6_pairs_75 (by decide) c26) ?_
            refine G_st (x_aload_n dX6_pairs_78 rfl) ?_
            refine G_st (x_iload dX6_pairs_79 rfl) ?_
            refine G_bd (fun x27 t28 h29 => ?_)
            refine G_st (x_callV [] (c_X6_gain ids Hn v4 H0_0 H1 H2 H3 _ _ _ h29) dX6_pairs_81 tw_753 kc_X6_gain (H0_0 0 (Nat.le_of_ble_eq_true rfl) (Nat.le_of_ble_eq_true rfl)) rfl rfl rfl rfl ⟨Nat.le_of_ble_eq_true rfl, Nat.le_of_ble_eq_true rfl⟩ (Nat.le_of_ble_eq_true rfl) rfl) ?_
            refine G_ite (fun c30 => ?_) (fun c30 => ?_)
            · refine G_st (x_if_le_t (tgt := 102) dX6_pairs_84 (by decide) c30) ?_
              refine G_weak _ ?_ (g_X6_pairs_102 ids Hn H0_0 H1 H2 H3 k4 hk4 (f_X6_pairs_15 k4 n) (ih) v1 v2 v3 v4 t28)
              exact (leL_s (leL_s (leL_s (leL_s (leL_s (leL_e _))))))
            · refine G_st (x_if_le_f 102 dX6_pairs_84 (by decide) c30) ?_
              refine G_st (x_iload_n dX6_pairs_87 rfl) ?_
              refine G_ite (fun c31 => ?_) (fun c31 => ?_)
              · refine G_st (x_if_eq_t (tgt := 99) dX6_pairs_88 (by decide) c31) ?_
                refine G_st (x_iinc (v2 + (1 : Int32)) [some (aR (0, 0)), some (aI v1), some (aI (v2 + (1 : Int32))), some (aI v3), some (aI v4)] dX6_pairs_99 (Nat.le_of_ble_eq_true rfl) rfl rfl rfl rfl) ?_
                refine G_weak _ ?_ (g_X6_pairs_102 ids Hn H0_0 H1 H2 H3 k4 hk4 (f_X6_pairs_15 k4 n) (ih) v1 (v2 + (1 : Int32)) v3 v4 t28)
                exact (leL_s (leL_s (leL_s (leL_s (leL_s (leL_e _))))))
              · refine G_st (x_if_eq_f 99 dX6_pairs_88 (by decide) c31) ?_
                refine G_st (x_bipush (100 : Int32) dX6_pairs_91 rfl) ?_
                refine G_st (x_iload_n dX6_pairs_93 rfl) ?_
                refine G_st (x_imul dX6_pairs_94) ?_
                refine G_st (x_iload dX6_pairs_95 rfl) ?_
                refine G_st (x_iadd dX6_pairs_97) ?_
                exact G_ret rfl ⟨dX6_pairs_98, _, rfl, rfl⟩ rfl
set_option maxRecDepth 100000 in
set_option maxHeartbeats 4000000 in
theorem g_X6_pairs_4 (ids : List (Nat × Nat)) (Hn : Ndp ids)  (H0_0 : InR ids 0 0 5) (H1 : InR ids 1 6 28) (H2 : InR ids 2 6 28) (H3 : InR ids 3 6 28)  : ∀ (n : Nat) (v1 : Int32) (v2 : Int32) (v3 : Int32) (t0 : Sg), Gj kI mX6_pairs ids 4 [some (aR (0, 0)), some (aI v1), some (aI v2), some (aI v3), none] [] t0 (f_X6_pairs_4 n v1 v2 v3 t0) := by
  intro n
  induction n with
  | zero => intro v1 v2 v3 t0; exact G_none
  | succ n ih =>
    intro v1 v2 v3 t0
    rw [f_X6_pairs_4]
    refine G_st (x_iload_n dX6_pairs_4 rfl) ?_
    refine G_st (x_bipush (24 : Int32) dX6_pairs_5 rfl) ?_
    refine G_ite (fun c1 => ?_) (fun c1 => ?_)
    · refine G_st (x_icmp_ge_t (tgt := 114) dX6_pairs_7 (by decide) c1) ?_
      refine G_st (x_iload_n dX6_pairs_114 rfl) ?_
      have e3 : Tj mX6_pairs ids 115 [some (aR (0, 0)), some (aI v1), some (aI v2), some (aI v3), none] [aI v1] t0 124 [some (aR (0, 0)), some (aI v1), some (aI v2), some (aI v3), none] [aI (if v1 = 0 then v2 else (-9 : Int32))] t0 := by
        refine Tj.dia (fun c2 => ?_) (fun c2 => ?_)
        · refine Tj.tr (x_if_eq_t (tgt := 123) dX6_pairs_115 (by decide) c2) ?_
          refine Tj.tr (x_iload_n dX6_pairs_123 rfl) ?_
          exact Tj.rf
        · refine Tj.tr (x_if_eq_f 123 dX6_pairs_115 (by decide) c2) ?_
          refine Tj.tr (x_bipush (-9 : Int32) dX6_pairs_118 rfl) ?_
          refine Tj.tr (x_goto (tgt := 124) dX6_pairs_120 (by decide)) ?_
          exact Tj.rf
      refine G_st e3 ?_
      exact G_ret rfl ⟨dX6_pairs_124, _, rfl, rfl⟩ rfl
    · refine G_st (x_icmp_ge_f 114 dX6_pairs_7 (by decide) c1) ?_
      refine G_st (x_iload_n dX6_pairs_10 rfl) ?_
      refine G_st (x_iconst (1 : Int32) dX6_pairs_11 rfl) ?_
      refine G_st (x_iadd dX6_pairs_12) ?_
      refine G_bvI (fun x4 => ?_)
      refine G_st (x_istore [some (aR (0, 0)), some (aI v1), some (aI v2), some (aI v3), some (aI x4)] dX6_pairs_13 (Nat.le_of_ble_eq_true rfl) rfl rfl) ?_
      refine G_weak _ ?_ (g_X6_pairs_15 ids Hn H0_0 H1 H2 H3 (f_X6_pairs_4 n) (ih) fuel v1 v2 v3 x4 t0)
      exact (leL_s (leL_s (leL_s (leL_s (leL_s (leL_e _))))))
set_option maxRecDepth 100000 in
set_option maxHeartbeats 4000000 in
theorem g_X6_pairs (ids : List (Nat × Nat)) (Hn : Ndp ids) (v1 : Int32) (H0_0 : InR ids 0 0 5) (H1 : InR ids 1 6 28) (H2 : InR ids 2 6 28) (H3 : InR ids 3 6 28) (t0 : Sg) : Gj kI mX6_pairs ids 0 [some (aR (0, 0)), some (aI v1), none, none, none] [] t0 (f_X6_pairs v1 t0) := by
  unfold f_X6_pairs
  refine G_st (x_iconst (0 : Int32) dX6_pairs_0 rfl) ?_
  refine G_st (x_istore_n [some (aR (0, 0)), some (aI v1), some (aI (0 : Int32)), none, none] dX6_pairs_1 (Nat.le_of_ble_eq_true rfl) rfl rfl) ?_
  refine G_st (x_iconst (0 : Int32) dX6_pairs_2 rfl) ?_
  refine G_st (x_istore_n [some (aR (0, 0)), some (aI v1), some (aI (0 : Int32)), some (aI (0 : Int32)), none] dX6_pairs_3 (Nat.le_of_ble_eq_true rfl) rfl rfl) ?_
  refine G_weak _ ?_ (g_X6_pairs_4 ids Hn H0_0 H1 H2 H3 fuel v1 (0 : Int32) (0 : Int32) t0)
  exact (leL_s (leL_s (leL_s (leL_s (leL_n (leL_e _))))))
set_option maxRecDepth 100000 in
set_option maxHeartbeats 4000000 in
theorem c_X6_pairs (ids : List (Nat × Nat)) (Hn : Ndp ids) (v1 : Int32) (H0_0 : InR ids 0 0 5) (H1 : InR ids 1 6 28) (H2 : InR ids 2 6 28) (H3 : InR ids 3 6 28) (t0 : Sg) (r : Int32) (t1 : Sg) (hf : f_X6_pairs v1 t0 = some (r, t1)) : Mt0 mX6_pairs yX6_pairs ids [aR (0, 0), aI v1] t0 (some (aI r)) t1 :=
  Mt_of (x := (r, t1)) (g_X6_pairs ids Hn v1 H0_0 H1 H2 H3 t0) hf (fun _ _ => trivial) (by decide) rfl Hn (fun _ => rfl) (fun _ => Nat.le_of_ble_eq_true rfl)
theorem dX6_rings_0 : decode cX6_rings 0 = .ok (.iconst 0, 1) := by decide +kernel
theorem dX6_rings_1 : decode cX6_rings 1 = .ok (.istore_n 1, 1) := by decide +kernel
theorem dX6_rings_2 : decode cX6_rings 2 = .ok (.iconst 0, 1) := by decide +kernel
theorem dX6_rings_3 : decode cX6_rings 3 = .ok (.istore_n 2, 1) := by decide +kernel
theorem dX6_rings_4 : decode cX6_rings 4 = .ok (.iload_n 2, 1) := by decide +kernel
theorem dX6_rings_5 : decode cX6_rings 5 = .ok (.bipush 24, 2) := by decide +kernel
theorem dX6_rings_7 : decode cX6_rings 7 = .ok (.if_icmp .ge 142, 3) := by decide +kernel
theorem dX6_rings_10 : decode cX6_rings 10 = .ok (.iload_n 2, 1) := by decide +kernel
theorem dX6_rings_11 : decode cX6_rings 11 = .ok (.iconst 1, 1) := by decide +kernel
theorem dX6_rings_12 : decode cX6_rings 12 = .ok (.iadd, 1) := by decide +kernel
theorem dX6_rings_13 : decode cX6_rings 13 = .ok (.istore_n 3, 1) := by decide +kernel
theorem dX6_rings_14 : decode cX6_rings 14 = .ok (.iload_n 3, 1) := by decide +kernel
theorem dX6_rings_15 : decode cX6_rings 15 = .ok (.bipush 24, 2) := by decide +kernel
theorem dX6_rings_17 : decode cX6_rings 17 = .ok (.if_icmp .ge 126, 3) := by decide +kernel
theorem dX6_rings_20 : decode cX6_rings 20 = .ok (.aload_n 0, 1) := by decide +kernel
theorem dX6_rings_21 : decode cX6_rings 21 = .ok (.getfield 36, 3) := by decide +kernel
theorem dX6_rings_24 : decode cX6_rings 24 = .ok (.iload_n 2, 1) := by decide +kernel
theorem dX6_rings_25 : decode cX6_rings 25 = .ok (.invokestatic 59, 3) := by decide +kernel
theorem dX6_rings_28 : decode cX6_rings 28 = .ok (.ifCond .le 115, 3) := by decide +kernel
theorem dX6_rings_31 : decode cX6_rings 31 = .ok (.iload_n 2, 1) := by decide +kernel
theorem dX6_rings_32 : decode cX6_rings 32 = .ok (.iconst 1, 1) := by decide +kernel
theorem dX6_rings_33 : decode cX6_rings 33 = .ok (.iadd, 1) := by decide +kernel
theorem dX6_rings_34 : decode cX6_rings 34 = .ok (.istore 4, 2) := by decide +kernel
theorem dX6_rings_36 : decode cX6_rings 36 = .ok (.iload 4, 2) := by decide +kernel
theorem dX6_rings_38 : decode cX6_rings 38 = .ok (.bipush 24, 2) := by decide +kernel
theorem dX6_rings_40 : decode cX6_rings 40 = .ok (.if_icmp .ge 97, 3) := by decide +kernel
theorem dX6_rings_43 : decode cX6_rings 43 = .ok (.aload_n 0, 1) := by decide +kernel
theorem dX6_rings_44 : decode cX6_rings 44 = .ok (.getfield 36, 3) := by decide +kernel
theorem dX6_rings_47 : decode cX6_rings 47 = .ok (.iload_n 3, 1) := by decide +kernel
theorem dX6_rings_48 : decode cX6_rings 48 = .ok (.invokestatic 59, 3) := by decide +kernel
theorem dX6_rings_51 : decode cX6_rings 51 = .ok (.ifCond .le 86, 3) := by decide +kernel
theorem dX6_rings_54 : decode cX6_rings 54 = .ok (.iload 4, 2) := by decide +kernel
theorem dX6_rings_56 : decode cX6_rings 56 = .ok (.iload_n 3, 1) := by decide +kernel
theorem dX6_rings_57 : decode cX6_rings 57 = .ok (.if_icmp .eq 74, 3) := by decide +kernel
theorem dX6_rings_60 : decode cX6_rings 60 = .ok (.aload_n 0, 1) := by decide +kernel
theorem dX6_rings_61 : decode cX6_rings 61 = .ok (.getfield 36, 3) := by decide +kernel
theorem dX6_rings_64 : decode cX6_rings 64 = .ok (.iload 4, 2) := by decide +kernel
theorem dX6_rings_66 : decode cX6_rings 66 = .ok (.invokestatic 59, 3) := by decide +kernel
theorem dX6_rings_69 : decode cX6_rings 69 = .ok (.ifCond .le 62, 3) := by decide +kernel
theorem dX6_rings_72 : decode cX6_rings 72 = .ok (.aload_n 0, 1) := by decide +kernel
theorem dX6_rings_73 : decode cX6_rings 73 = .ok (.invokevirtual 97, 3) := by decide +kernel
theorem dX6_rings_76 : decode cX6_rings 76 = .ok (.aload_n 0, 1) := by decide +kernel
theorem dX6_rings_77 : decode cX6_rings 77 = .ok (.getfield 19, 3) := by decide +kernel
theorem dX6_rings_80 : decode cX6_rings 80 = .ok (.getfield 67, 3) := by decide +kernel
theorem dX6_rings_83 : decode cX6_rings 83 = .ok (.iload_n 2, 1) := by decide +kernel
theorem dX6_rings_84 : decode cX6_rings 84 = .ok (.iload_n 3, 1) := by decide +kernel
theorem dX6_rings_85 : decode cX6_rings 85 = .ok (.iload 4, 2) := by decide +kernel
theorem dX6_rings_87 : decode cX6_rings 87 = .ok (.invokevirtual 285, 3) := by decide +kernel
theorem dX6_rings_90 : decode cX6_rings 90 = .ok (.aload_n 0, 1) := by decide +kernel
theorem dX6_rings_91 : decode cX6_rings 91 = .ok (.getfield 19, 3) := by decide +kernel
theorem dX6_rings_94 : decode cX6_rings 94 = .ok (.invokevirtual 100, 3) := by decide +kernel
theorem dX6_rings_97 : decode cX6_rings 97 = .ok (.pop, 1) := by decide +kernel
theorem dX6_rings_98 : decode cX6_rings 98 = .ok (.iload_n 1, 1) := by decide +kernel
theorem dX6_rings_99 : decode cX6_rings 99 = .ok (.aload_n 0, 1) := by decide +kernel
theorem dX6_rings_100 : decode cX6_rings 100 = .ok (.iload_n 2, 1) := by decide +kernel
theorem dX6_rings_101 : decode cX6_rings 101 = .ok (.invokevirtual 265, 3) := by decide +kernel
theorem dX6_rings_104 : decode cX6_rings 104 = .ok (.ifCond .le 24, 3) := by decide +kernel
theorem dX6_rings_107 : decode cX6_rings 107 = .ok (.aload_n 0, 1) := by decide +kernel
theorem dX6_rings_108 : decode cX6_rings 108 = .ok (.iload_n 3, 1) := by decide +kernel
theorem dX6_rings_109 : decode cX6_rings 109 = .ok (.invokevirtual 265, 3) := by decide +kernel
theorem dX6_rings_112 : decode cX6_rings 112 = .ok (.ifCond .le 16, 3) := by decide +kernel
theorem dX6_rings_115 : decode cX6_rings 115 = .ok (.aload_n 0, 1) := by decide +kernel
theorem dX6_rings_116 : decode cX6_rings 116 = .ok (.iload 4, 2) := by decide +kernel
theorem dX6_rings_118 : decode cX6_rings 118 = .ok (.invokevirtual 265, 3) := by decide +kernel
theorem dX6_rings_121 : decode cX6_rings 121 = .ok (.ifCond .le 7, 3) := by decide +kernel
theorem dX6_rings_124 : decode cX6_rings 124 = .ok (.iconst 1, 1) := by decide +kernel
theorem dX6_rings_125 : decode cX6_rings 125 = .ok (.goto 4, 3) := by decide +kernel
theorem dX6_rings_128 : decode cX6_rings 128 = .ok (.iconst 0, 1) := by decide +kernel
theorem dX6_rings_129 : decode cX6_rings 129 = .ok (.iadd, 1) := by decide +kernel
theorem dX6_rings_130 : decode cX6_rings 130 = .ok (.istore_n 1, 1) := by decide +kernel
theorem dX6_rings_131 : decode cX6_rings 131 = .ok (.iinc 4 1, 3) := by decide +kernel
theorem dX6_rings_134 : decode cX6_rings 134 = .ok (.goto (-98), 3) := by decide +kernel
theorem dX6_rings_137 : decode cX6_rings 137 = .ok (.iinc 3 1, 3) := by decide +kernel
theorem dX6_rings_140 : decode cX6_rings 140 = .ok (.goto (-126), 3) := by decide +kernel
theorem dX6_rings_143 : decode cX6_rings 143 = .ok (.iinc 2 1, 3) := by decide +kernel
theorem dX6_rings_146 : decode cX6_rings 146 = .ok (.goto (-142), 3) := by decide +kernel
theorem dX6_rings_149 : decode cX6_rings 149 = .ok (.iload_n 1, 1) := by decide +kernel
theorem dX6_rings_150 : decode cX6_rings 150 = .ok (.ireturn, 1) := by decide +kernel
set_option maxRecDepth 100000 in
set_option maxHeartbeats 4000000 in
theorem g_X6_rings_143 (ids : List (Nat × Nat)) (Hn : Ndp ids)  (H0_0 : InR ids 0 0 5) (H1 : InR ids 1 6 28) (H2 : InR ids 2 6 28) (H3 : InR ids 3 6 28) (k4 : Int32 → Int32 → Sg → Option (Int32 × Sg)) (hk4 : ∀ (v1 : Int32) (v2 : Int32) (t0 : Sg), Gj kI mX6_rings ids 4 [some (aR (0, 0)), some (aI v1), some (aI v2), none, none] [] t0 (k4 v1 v2 t0)) (v1 : Int32) (v2 : Int32) (t0 : Sg) : Gj kI mX6_rings ids 143 [some (aR (0, 0)), some (aI v1), some (aI v2), none, none] [] t0 (f_X6_rings_143 k4 v1 v2 t0) := by
  unfold f_X6_rings_143
  refine G_st (x_iinc (v2 + (1 : Int32)) [some (aR (0, 0)), some (aI v1), some (aI (v2 + (1 : Int32))), none, none] dX6_rings_143 (Nat.le_of_ble_eq_true rfl) rfl rfl rfl rfl) ?_
  refine G_st (x_goto (tgt := 4) dX6_rings_146 (by decide)) ?_
  refine G_weak _ ?_ (hk4 v1 (v2 + (1 : Int32)) t0)
  exact (leL_s (leL_s (leL_s (leL_n (leL_n (leL_e _))))))
set_option maxRecDepth 100000 in
set_option maxHeartbeats 4000000 in
theorem g_X6_rings_137 (ids : List (Nat × Nat)) (Hn : Ndp ids)  (H0_0 : InR ids 0 0 5) (H1 : InR ids 1 6 28) (H2 : InR ids 2 6 28) (H3 : InR ids 3 6 28) (k4 : Int32 → Int32 → Sg → Option (Int32 × Sg)) (hk4 : ∀ (v1 : Int32) (v2 : Int32) (t0 : Sg), Gj kI mX6_rings ids 4 [some (aR (0, 0)), some (aI v1), some (aI v2), none, none] [] t0 (k4 v1 v2 t0)) (k14 : Int32 → Int32 → Int32 → Sg → Option (Int32 × Sg)) (hk14 : ∀ (v1 : Int32) (v2 : Int32) (v3 : Int32) (t0 : Sg), Gj kI mX6_rings ids 14 [some (aR (0, 0)), some (aI v1), some (aI v2), some (aI v3), none] [] t0 (k14 v1 v2 v3 t0)) (v1 : Int32) (v2 : Int32) (v3 : Int32) (t0 : Sg) : Gj kI mX6_rings ids 137 [some (aR (0, 0)), some (aI v1), some (aI v2), some (aI v3), none] [] t0 (f_X6_rings_137 k4 k14 v1 v2 v3 t0) := by
  unfold f_X6_rings_137
  refine G_st (x_iinc (v3 + (1 : Int32)) [some (aR (0, 0)), some (aI v1), some (aI v2), some (aI (v3 + (1 : Int32))), none] dX6_rings_137 (Nat.le_of_ble_eq_true rfl) rfl rfl rfl rfl) ?_
  refine G_st (x_goto (tgt := 14) dX6_rings_140 (by decide)) ?_
  refine G_weak _ ?_ (hk14 v1 v2 (v3 + (1 : Int32)) t0)
  exact (leL_s (leL_s (leL_s (leL_s (leL_n (leL_e _))))))
set_option maxRecDepth 100000 in
set_option maxHeartbeats 4000000 in
theorem g_X6_rings_131 (ids : List (Nat × Nat)) (Hn : Ndp ids)  (H0_0 : InR ids 0 0 5) (H1 : InR ids 1 6 28) (H2 : InR ids 2 6 28) (H3 : InR ids 3 6 28) (k4 : Int32 → Int32 → Sg → Option (Int32 × Sg)) (hk4 : ∀ (v1 : Int32) (v2 : Int32) (t0 : Sg), Gj kI mX6_rings ids 4 [some (aR (0, 0)), some (aI v1), some (aI v2), none, none] [] t0 (k4 v1 v2 t0)) (k14 : Int32 → Int32 → Int32 → Sg → Option (Int32 × Sg)) (hk14 : ∀ (v1 : Int32) (v2 : Int32) (v3 : Int32) (t0 : Sg), Gj kI mX6_rings ids 14 [some (aR (0, 0)), some (aI v1), some (aI v2), some (aI v3), none] [] t0 (k14 v1 v2 v3 t0)) (k36 : Int32 → Int32 → Int32 → Int32 → Sg → Option (Int32 × Sg)) (hk36 : ∀ (v1 : Int32) (v2 : Int32) (v3 : Int32) (v4 : Int32) (t0 : Sg), Gj kI mX6_rings ids 36 [some (aR (0, 0)), some (aI v1), some (aI v2), some (aI v3), some (aI v4)] [] t0 (k36 v1 v2 v3 v4 t0)) (v1 : Int32) (v2 : Int32) (v3 : Int32) (v4 : Int32) (t0 : Sg) : Gj kI mX6_rings ids 131 [some (aR (0, 0)), some (aI v1), some (aI v2), some (aI v3), some (aI v4)] [] t0 (f_X6_rings_131 k4 k14 k36 v1 v2 v3 v4 t0) := by
  unfold f_X6_rings_131
  refine G_st (x_iinc (v4 + (1 : Int32)) [some (aR (0, 0)), some (aI v1), some (aI v2), some (aI v3), some (aI (v4 + (1 : Int32)))] dX6_rings_131 (Nat.le_of_ble_eq_true rfl) rfl rfl rfl rfl) ?_
  refine G_st (x_goto (tgt := 36) dX6_rings_134 (by decide)) ?_
  refine G_weak _ ?_ (hk36 v1 v2 v3 (v4 + (1 : Int32)) t0)
  exact (leL_s (leL_s (leL_s (leL_s (leL_s (leL_e _))))))
set_option maxRecDepth 100000 in
set_option maxHeartbeats 4000000 in
theorem g_X6_rings_129 (ids : List (Nat × Nat)) (Hn : Ndp ids)  (H0_0 : InR ids 0 0 5) (H1 : InR ids 1 6 28) (H2 : InR ids 2 6 28) (H3 : InR ids 3 6 28) (k4 : Int32 → Int32 → Sg → Option (Int32 × Sg)) (hk4 : ∀ (v1 : Int32) (v2 : Int32) (t0 : Sg), Gj kI mX6_rings ids 4 [some (aR (0, 0)), some (aI v1), some (aI v2), none, none] [] t0 (k4 v1 v2 t0)) (k14 : Int32 → Int32 → Int32 → Sg → Option (Int32 × Sg)) (hk14 : ∀ (v1 : Int32) (v2 : Int32) (v3 : Int32) (t0 : Sg), Gj kI mX6_rings ids 14 [some (aR (0, 0)), some (aI v1), some (aI v2), some (aI v3), none] [] t0 (k14 v1 v2 v3 t0)) (k36 : Int32 → Int32 → Int32 → Int32 → Sg → Option (Int32 × Sg)) (hk36 : ∀ (v1 : Int32) (v2 : Int32) (v3 : Int32) (v4 : Int32) (t0 : Sg), Gj kI mX6_rings ids 36 [some (aR (0, 0)), some (aI v1), some (aI v2), some (aI v3), some (aI v4)] [] t0 (k36 v1 v2 v3 v4 t0)) (v2 : Int32) (v3 : Int32) (v4 : Int32) (w0 : Int32) (w1 : Int32) (t0 : Sg) : Gj kI mX6_rings ids 129 [some (aR (0, 0)), none, some (aI v2), some (aI v3), some (aI v4)] [aI w0, aI w1] t0 (f_X6_rings_129 k4 k14 k36 v2 v3 v4 w0 w1 t0) := by
  unfold f_X6_rings_129
  refine G_st (x_iadd dX6_rings_129) ?_
  refine G_bvI (fun x32 => ?_)
  refine G_st (x_istore_n [some (aR (0, 0)), some (aI x32), some (aI v2), some (aI v3), some (aI v4)] dX6_rings_130 (Nat.le_of_ble_eq_true rfl) rfl rfl) ?_
  refine G_weak _ ?_ (g_X6_rings_131 ids Hn H0_0 H1 H2 H3 k4 hk4 k14 hk14 k36 hk36 x32 v2 v3 v4 t0)
  exact (leL_s (leL_s (leL_s (leL_s (leL_s (leL_e _))))))
set_option maxRecDepth 100000 in
set_option maxHeartbeats 4000000 in
theorem g_X6_rings_128 (ids : List (Nat × Nat)) (Hn : Ndp ids)  (H0_0 : InR ids 0 0 5) (H1 : InR ids 1 6 28) (H2 : InR ids 2 6 28) (H3 : InR ids 3 6 28) (k4 : Int32 → Int32 → Sg → Option (Int32 × Sg)) (hk4 : ∀ (v1 : Int32) (v2 : Int32) (t0 : Sg), Gj kI mX6_rings ids 4 [some (aR (0, 0)), some (aI v1), some (aI v2), none, none] [] t0 (k4 v1 v2 t0)) (k14 : Int32 → Int32 → Int32 → Sg → Option (Int32 × Sg)) (hk14 : ∀ (v1 : Int32) (v2 : Int32) (v3 : Int32) (t0 : Sg), Gj kI mX6_rings ids 14 [some (aR (0, 0)), some (aI v1), some (aI v2), some (aI v3), none] [] t0 (k14 v1 v2 v3 t0)) (k36 : Int32 → Int32 → Int32 → Int32 → Sg → Option (Int32 × Sg)) (hk36 : ∀ (v1 : Int32) (v2 : Int32) (v3 : Int32) (v4 : Int32) (t0 : Sg), Gj kI mX6_rings ids 36 [some (aR (0, 0)), some (aI v1), some (aI v2), some (aI v3), some (aI v4)] [] t0 (k36 v1 v2 v3 v4 t0)) (v2 : Int32) (v3 : Int32) (v4 : Int32) (w0 : Int32) (t0 : Sg) : Gj kI mX6_rings ids 128 [some (aR (0, 0)), none, some (aI v2), some (aI v3), some (aI v4)] [aI w0] t0 (f_X6_rings_128 k4 k14 k36 v2 v3 v4 w0 t0) := by
  unfold f_X6_rings_128
  refine G_st (x_iconst (0 : Int32) dX6_rings_128 rfl) ?_
  refine G_weak _ ?_ (g_X6_rings_129 ids Hn H0_0 H1 H2 H3 k4 hk4 k14 hk14 k36 hk36 v2 v3 v4 (0 : Int32) w0 t0)
  exact (leL_s (leL_n (leL_s (leL_s (leL_s (leL_e _))))))
set_option maxRecDepth 100000 in
set_option maxHeartbeats 4000000 in
theorem g_X6_rings_36 (ids : List (Nat × Nat)) (Hn : Ndp ids)  (H0_0 : InR ids 0 0 5) (H1 : InR ids 1 6 28) (H2 : InR ids 2 6 28) (H3 : InR ids 3 6 28) (k4 : Int32 → Int32 → Sg → Option (Int32 × Sg)) (hk4 : ∀ (v1 : Int32) (v2 : Int32) (t0 : Sg), Gj kI mX6_rings ids 4 [some (aR (0, 0)), some (aI v1), some (aI v2), none, none] [] t0 (k4 v1 v2 t0)) (k14 : Int32 → Int32 → Int32 → Sg → Option (Int32 × Sg)) (hk14 : ∀ (v1 : Int32) (v2 : Int32) (v3 : Int32) (t0 : Sg), Gj kI mX6_rings ids 14 [some (aR (0, 0)), some (aI v1), some (aI v2), some (aI v3), none] [] t0 (k14 v1 v2 v3 t0)) : ∀ (n : Nat) (v1 : Int32) (v2 : Int32) (v3 : Int32) (v4 : Int32) (t0 : Sg), Gj kI mX6_rings ids 36 [some (aR (0, 0)), some (aI v1), some (aI v2), some (aI v3), some (aI v4)] [] t0 (f_X6_rings_36 k4 k14 n v1 v2 v3 v4 t0) := by
  intro n
  induction n with
  | zero => intro v1 v2 v3 v4 t0; exact G_none
  | succ n ih =>
    intro v1 v2 v3 v4 t0
    rw [f_X6_rings_36]
    refine G_st (x_iload dX6_rings_36 rfl) ?_
    refine G_st (x_bipush (24 : Int32) dX6_rings_38 rfl) ?_
    refine G_ite (fun c9 => ?_) (fun c9 => ?_)
    · refine G_st (x_icmp_ge_t (tgt := 137) dX6_rings_40 (by decide) c9) ?_
      refine G_weak _ ?_ (g_X6_rings_137 ids Hn H0_0 H1 H2 H3 k4 hk4 k14 hk14 v1 v2 v3 t0)
      exact (leL_s (leL_s (leL_s (leL_s (leL_n (leL_e _))))))
    · refine G_st (x_icmp_ge_f 137 dX6_rings_40 (by decide) c9) ?_
      refine G_st (x_aload_n dX6_rings_43 rfl) ?_
      refine G_st (x_get (k := 6) (aR (0, 3)) dX6_rings_44 (H0_0 0 (Nat.le_of_ble_eq_true rfl) (Nat.le_of_ble_eq_true rfl)) rfl rfl rfl rfl inTX6 (Nat.le_of_ble_eq_true rfl) tw_291 (fun ad => rfl)) ?_
      refine G_st (x_iload_n dX6_rings_47 rfl) ?_
      refine G_bd (fun x10 t11 h12 => ?_)
      refine G_st (x_callS [] (c_X6_get ids Hn (0, 3) v3 (H0_0 3 (Nat.le_of_ble_eq_true rfl) (Nat.le_of_ble_eq_true rfl)) rfl _ _ _ h12) dX6_rings_48 tw_321 kc_X6_get rfl ⟨Nat.le_of_ble_eq_true rfl, Nat.le_of_ble_eq_true rfl⟩ (Nat.le_of_ble_eq_true rfl) rfl) ?_
      refine G_ite (fun c13 => ?_) (fun c13 => ?_)
      · refine G_st (x_if_le_t (tgt := 137) dX6_rings_51 (by decide) c13) ?_
        refine G_weak _ ?_ (g_X6_rings_137 ids Hn H0_0 H1 H2 H3 k4 hk4 k14 hk14 v1 v2 v3 t11)
        exact (leL_s (leL_s (leL_s (leL_s (leL_n (leL_e _))))))
      · refine G_st (x_if_le_f 137 dX6_rings_51 (by decide) c13) ?_
        refine G_st (x_iload dX6_rings_54 rfl) ?_
        refine G_st (x_iload_n dX6_rings_56 rfl) ?_
        refine G_ite (fun c14 => ?_) (fun c14 => ?_)
        · refine G_st (x_icmp_eq_t (tgt := 131) dX6_rings_57 (by decide) c14) ?_
          refine G_weak _ ?_ (g_X6_rings_131 ids Hn H0_0 H1 H2 H3 k4 hk4 k14 hk14 (f_X6_rings_36 k4 k14 n) (ih) v1 v2 v3 v4 t11)
          exact (leL_s (leL_s (leL_s (leL_s (leL_s (leL_e _))))))
        · refine G_st (x_icmp_eq_f 131 dX6_rings_57 (by decide) c14) ?_
          refine G_st (x_aload_n dX6_rings_60 rfl) ?_
          refine G_st (x_get (k := 6) (aR (0, 3)) dX6_rings_61 (H0_0 0 (Nat.le_of_ble_eq_true rfl) (Nat.le_of_ble_eq_true rfl)) rfl rfl rfl rfl inTX6 (Nat.le_of_ble_eq_true rfl) tw_291 (fun ad => rfl)) ?_
          refine G_st (x_iload dX6_rings_64 rfl) ?_
          refine G_bd (fun x15 t16 h17 => ?_)
          refine G_st (x_callS [] (c_X6_get ids Hn (0, 3) v4 (H0_0 3 (Nat.le_of_ble_eq_true rfl) (Nat.le_of_ble_eq_true rfl)) rfl _ _ _ h17) dX6_rings_66 tw_321 kc_X6_get rfl ⟨Nat.le_of_ble_eq_true rfl, Nat.le_of_ble_eq_true rfl⟩ (Nat.le_of_ble_eq_true rfl) rfl) ?_
          refine G_ite (fun c18 => ?_) (fun c18 => ?_)
          · refine G_st (x_if_le_t (tgt := 131) dX6_rings_69 (by decide) c18) ?_
            refine G_weak _ ?_ (g_X6_rings_131 ids Hn H0_0 H1 H2 H3 k4 hk4 k14 hk14 (f_X6_rings_36 k4 k14 n) (ih) v1 v2 v3 v4 t16)
            exact (leL_s (leL_s (leL_s (leL_s (leL_s (leL_e _))))))
          · refine G_st (x_if_le_f 131 dX6_rings_69 (by decide) c18) ?_
            refine G_st (x_aload_n dX6_rings_72 rfl) ?_
            refine G_bd (fun _ t20 h21 => ?_)
            refine G_st (x_callV [] (c_X6_tryAnew ids Hn  H0_0 H1 H2 H3 _ _ _ h21) dX6_rings_73 tw_689 kc_X6_tryAnew (H0_0 0 (Nat.le_of_ble_eq_true rfl) (Nat.le_of_ble_eq_true rfl)) rfl rfl rfl rfl ⟨Nat.le_of_ble_eq_true rfl, Nat.le_of_ble_eq_true rfl⟩ (Nat.le_of_ble_eq_true rfl) rfl) ?_
            refine G_st (x_aload_n dX6_rings_76 rfl) ?_
            refine G_st (x_get (k := 2) (aR (3, 6)) dX6_rings_77 (H0_0 0 (Nat.le_of_ble_eq_true rfl) (Nat.le_of_ble_eq_true rfl)) rfl rfl rfl rfl inTX6 (Nat.le_of_ble_eq_true rfl) tw_287 (fun ad => rfl)) ?_
            refine G_st (x_get (k := 0) (aR (3, 7)) dX6_rings_80 (H3 6 (Nat.le_of_ble_eq_true rfl) (Nat.le_of_ble_eq_true rfl)) rfl rfl rfl rfl inTX2 (Nat.le_of_ble_eq_true rfl) tw_250 (fun ad => rfl)) ?_
            refine G_st (x_iload_n dX6_rings_83 rfl) ?_
            refine G_st (x_iload_n dX6_rings_84 rfl) ?_
            refine G_st (x_iload dX6_rings_85 rfl) ?_
            refine G_bd (fun _ t23 h24 => ?_)
            refine G_st (x_callV [] (c_X0_ring ids Hn 3 v2 v3 v4 (H3.sub (Nat.le_of_ble_eq_true rfl) (Nat.le_of_ble_eq_true rfl)) _ _ _ h24) dX6_rings_87 tw_800 kc_X0_ring (H3 7 (Nat.le_of_ble_eq_true rfl) (Nat.le_of_ble_eq_true rfl)) rfl rfl rfl rfl ⟨Nat.le_of_ble_eq_true rfl, Nat.le_of_ble_eq_true rfl⟩ (Nat.le_of_ble_eq_true rfl) rfl) ?_
            refine G_st (x_aload_n dX6_rings_90 rfl) ?_
            refine G_st (x_get (k := 2) (aR (3, 6)) dX6_rings_91 (H0_0 0 (Nat.le_of_ble_eq_true rfl) (Nat.le_of_ble_eq_true rfl)) rfl rfl rfl rfl inTX6 (Nat.le_of_ble_eq_true rfl) tw_287 (fun ad => rfl)) ?_
            refine G_bd (fun x25 t26 h27 => ?_)
            refine G_st (x_callV [] (c_X2_spendWeek ids Hn 3 H3 _ _ _ h27) dX6_rings_94 tw_605 kc_X2_spendWeek (H3 6 (Nat.le_of_ble_eq_true rfl) (Nat.le_of_ble_eq_true rfl)) rfl rfl rfl rfl ⟨Nat.le_of_ble_eq_true rfl, Nat.le_of_ble_eq_true rfl⟩ (Nat.le_of_ble_eq_true rfl) rfl) ?_
            refine G_st (x_pop dX6_rings_97 rfl) ?_
            refine G_st (x_iload_n dX6_rings_98 rfl) ?_
            refine G_st (x_aload_n dX6_rings_99 rfl) ?_
            refine G_st (x_iload_n dX6_rings_100 rfl) ?_
            refine G_bd (fun x28 t29 h30 => ?_)
            refine G_st (x_callV [aI v1] (c_X6_gain ids Hn v2 H0_0 H1 H2 H3 _ _ _ h30) dX6_rings_101 tw_753 kc_X6_gain (H0_0 0 (Nat.le_of_ble_eq_true rfl) (Nat.le_of_ble_eq_true rfl)) rfl rfl rfl rfl ⟨Nat.le_of_ble_eq_true rfl, Nat.le_of_ble_eq_true rfl⟩ (Nat.le_of_ble_eq_true rfl) rfl) ?_
            refine G_ite (fun c31 => ?_) (fun c31 => ?_)
            · refine G_st (x_if_le_t (tgt := 128) dX6_rings_104 (by decide) c31) ?_
              refine G_weak _ ?_ (g_X6_rings_128 ids Hn H0_0 H1 H2 H3 k4 hk4 k14 hk14 (f_X6_rings_36 k4 k14 n) (ih) v2 v3 v4 v1 t29)
              exact (leL_s (leL_n (leL_s (leL_s (leL_s (leL_e _))))))
            · refine G_st (x_if_le_f 128 dX6_rings_104 (by decide) c31) ?_
              refine G_st (x_aload_n dX6_rings_107 rfl) ?_
              refine G_st (x_iload_n dX6_rings_108 rfl) ?_
              refine G_bd (fun x33 t34 h35 => ?_)
              refine G_st (x_callV [aI v1] (c_X6_gain ids Hn v3 H0_0 H1 H2 H3 _ _ _ h35) dX6_rings_109 tw_753 kc_X6_gain (H0_0 0 (Nat.le_of_ble_eq_true rfl) (Nat.le_of_ble_eq_true rfl)) rfl rfl rfl rfl ⟨Nat.le_of_ble_eq_true rfl, Nat.le_of_ble_eq_true rfl⟩ (Nat.le_of_ble_eq_true rfl) rfl) ?_
              refine G_ite (fun c36 => ?_) (fun c36 => ?_)
              · refine G_st (x_if_le_t (tgt := 128) dX6_rings_112 (by decide) c36) ?_
                refine G_weak _ ?_ (g_X6_rings_128 ids Hn H0_0 H1 H2 H3 k4 hk4 k14 hk14 (f_X6_rings_36 k4 k14 n) (ih) v2 v3 v4 v1 t34)
                exact (leL_s (leL_n (leL_s (leL_s (leL_s (leL_e _))))))
              · refine G_st (x_if_le_f 128 dX6_rings_112 (by decide) c36) ?_
                refine G_st (x_aload_n dX6_rings_115 rfl) ?_
                refine G_st (x_iload dX6_rings_116 rfl) ?_
                refine G_bd (fun x37 t38 h39 => ?_)
                refine G_st (x_callV [aI v1] (c_X6_gain ids Hn v4 H0_0 H1 H2 H3 _ _ _ h39) dX6_rings_118 tw_753 kc_X6_gain (H0_0 0 (Nat.le_of_ble_eq_true rfl) (Nat.le_of_ble_eq_true rfl)) rfl rfl rfl rfl ⟨Nat.le_of_ble_eq_true rfl, Nat.le_of_ble_eq_true rfl⟩ (Nat.le_of_ble_eq_true rfl) rfl) ?_
                refine G_ite (fun c40 => ?_) (fun c40 => ?_)
                · refine G_st (x_if_le_t (tgt := 128) dX6_rings_121 (by decide) c40) ?_
                  refine G_weak _ ?_ (g_X6_rings_128 ids Hn H0_0 H1 H2 H3 k4 hk4 k14 hk14 (f_X6_rings_36 k4 k14 n) (ih) v2 v3 v4 v1 t38)
                  exact (leL_s (leL_n (leL_s (leL_s (leL_s (leL_e _))))))
                · refine G_st (x_if_le_f 128 dX6_rings_121 (by decide) c40) ?_
                  refine G_st (x_iconst (1 : Int32) dX6_rings_124 rfl) ?_
                  refine G_st (x_goto (tgt := 129) dX6_rings_125 (by decide)) ?_
                  refine G_weak _ ?_ (g_X6_rings_129 ids Hn H0_0 H1 H2 H3 k4 hk4 k14 hk14 (f_X6_rings_36 k4 k14 n) (ih) v2 v3 v4 (1 : Int32) v1 t38)
                  exact (leL_s (leL_n (leL_s (leL_s (leL_s (leL_e _))))))
set_option maxRecDepth 100000 in
set_option maxHeartbeats 4000000 in
theorem g_X6_rings_14 (ids : List (Nat × Nat)) (Hn : Ndp ids)  (H0_0 : InR ids 0 0 5) (H1 : InR ids 1 6 28) (H2 : InR ids 2 6 28) (H3 : InR ids 3 6 28) (k4 : Int32 → Int32 → Sg → Option (Int32 × Sg)) (hk4 : ∀ (v1 : Int32) (v2 : Int32) (t0 : Sg), Gj kI mX6_rings ids 4 [some (aR (0, 0)), some (aI v1), some (aI v2), none, none] [] t0 (k4 v1 v2 t0)) : ∀ (n : Nat) (v1 : Int32) (v2 : Int32) (v3 : Int32) (t0 : Sg), Gj kI mX6_rings ids 14 [some (aR (0, 0)), some (aI v1), some (aI v2), some (aI v3), none] [] t0 (f_X6_rings_14 k4 n v1 v2 v3 t0) := by
  intro n
  induction n with
  | zero => intro v1 v2 v3 t0; exact G_none
  | succ n ih =>
    intro v1 v2 v3 t0
    rw [f_X6_rings_14]
    refine G_st (x_iload_n dX6_rings_14 rfl) ?_
    refine G_st (x_bipush (24 : Int32) dX6_rings_15 rfl) ?_
    refine G_ite (fun c3 => ?_) (fun c3 => ?_)
    · refine G_st (x_icmp_ge_t (tgt := 143) dX6_rings_17 (by decide) c3) ?_
      refine G_weak _ ?_ (g_X6_rings_143 ids Hn H0_0 H1 H2 H3 k4 hk4 v1 v2 t0)
      exact (leL_s (leL_s (leL_s (leL_n (leL_n (leL_e _))))))
    · refine G_st (x_icmp_ge_f 143 dX6_rings_17 (by decide) c3) ?_
      refine G_st (x_aload_n dX6_rings_20 rfl) ?_
      refine G_st (x_get (k := 6) (aR (0, 3)) dX6_rings_21 (H0_0 0 (Nat.le_of_ble_eq_true rfl) (Nat.le_of_ble_eq_true rfl)) rfl rfl rfl rfl inTX6 (Nat.le_of_ble_eq_true rfl) tw_291 (fun ad => rfl)) ?_
      refine G_st (x_iload_n dX6_rings_24 rfl) ?_
      refine G_bd (fun x4 t5 h6 => ?_)
      refine G_st (x_callS [] (c_X6_get ids Hn (0, 3) v2 (H0_0 3 (Nat.le_of_ble_eq_true rfl) (Nat.le_of_ble_eq_true rfl)) rfl _ _ _ h6) dX6_rings_25 tw_321 kc_X6_get rfl ⟨Nat.le_of_ble_eq_true rfl, Nat.le_of_ble_eq_true rfl⟩ (Nat.le_of_ble_eq_true rfl) rfl) ?_
      refine G_ite (fun c7 => ?_) (fun c7 => ?_)
      · refine G_st (x_if_le_t (tgt := 143) dX6_rings_28 (by decide) c7) ?_
        refine G_weak _ ?_ (g_X6_rings_143 ids Hn H0_0 H1 H2 H3 k4 hk4 v1 v2 t5)
        exact (leL_s (leL_s (leL_s (leL_n (leL_n (leL_e _))))))
      · refine G_st (x_if_le_f 143 dX6_rings_28 (by decide) c7) ?_
        refine G_st (x_iload_n dX6_rings_31 rfl) ?_
        refine G_st (x_iconst (1 : Int32) dX6_rings_32 rfl) ?_
        refine G_st (x_iadd dX6_rings_33) ?_
        refine G_bvI (fun x8 => ?_)
        refine G_st (x_istore [some (aR (0, 0)), some (aI v1), some (aI v2), some (aI v3), some (aI x8)] dX6_rings_34 (Nat.le_of_ble_eq_true rfl) rfl rfl) ?_
        refine G_weak _ ?_ (g_X6_rings_36 ids Hn H0_0 H1 H2 H3 k4 hk4 (f_X6_rings_14 k4 n) (ih) fuel v1 v2 v3 x8 t5)
        exact (leL_s (leL_s (leL_s (leL_s (leL_s (leL_e _))))))
set_option maxRecDepth 100000 in
set_option maxHeartbeats 4000000 in
theorem g_X6_rings_4 (ids : List (Nat × Nat)) (Hn : Ndp ids)  (H0_0 : InR ids 0 0 5) (H1 : InR ids 1 6 28) (H2 : InR ids 2 6 28) (H3 : InR ids 3 6 28)  : ∀ (n : Nat) (v1 : Int32) (v2 : Int32) (t0 : Sg), Gj kI mX6_rings ids 4 [some (aR (0, 0)), some (aI v1), some (aI v2), none, none] [] t0 (f_X6_rings_4 n v1 v2 t0) := by
  intro n
  induction n with
  | zero => intro v1 v2 t0; exact G_none
  | succ n ih =>
    intro v1 v2 t0
    rw [f_X6_rings_4]
    refine G_st (x_iload_n dX6_rings_4 rfl) ?_
    refine G_st (x_bipush (24 : Int32) dX6_rings_5 rfl) ?_
    refine G_ite (fun c1 => ?_) (fun c1 => ?_)
    · refine G_st (x_icmp_ge_t (tgt := 149) dX6_rings_7 (by decide) c1) ?_
      refine G_st (x_iload_n dX6_rings_149 rfl) ?_
      exact G_ret rfl ⟨dX6_rings_150, _, rfl, rfl⟩ rfl
    · refine G_st (x_icmp_ge_f 149 dX6_rings_7 (by decide) c1) ?_
      refine G_st (x_iload_n dX6_rings_10 rfl) ?_
      refine G_st (x_iconst (1 : Int32) dX6_rings_11 rfl) ?_
      refine G_st (x_iadd dX6_rings_12) ?_
      refine G_bvI (fun x2 => ?_)
      refine G_st (x_istore_n [some (aR (0, 0)), some (aI v1), some (aI v2), some (aI x2), none] dX6_rings_13 (Nat.le_of_ble_eq_true rfl) rfl rfl) ?_
      refine G_weak _ ?_ (g_X6_rings_14 ids Hn H0_0 H1 H2 H3 (f_X6_rings_4 n) (ih) fuel v1 v2 x2 t0)
      exact (leL_s (leL_s (leL_s (leL_s (leL_n (leL_e _))))))
set_option maxRecDepth 100000 in
set_option maxHeartbeats 4000000 in
theorem g_X6_rings (ids : List (Nat × Nat)) (Hn : Ndp ids)  (H0_0 : InR ids 0 0 5) (H1 : InR ids 1 6 28) (H2 : InR ids 2 6 28) (H3 : InR ids 3 6 28) (t0 : Sg) : Gj kI mX6_rings ids 0 [some (aR (0, 0)), none, none, none, none] [] t0 (f_X6_rings t0) := by
  unfold f_X6_rings
  refine G_st (x_iconst (0 : Int32) dX6_rings_0 rfl) ?_
  refine G_st (x_istore_n [some (aR (0, 0)), some (aI (0 : Int32)), none, none, none] dX6_rings_1 (Nat.le_of_ble_eq_true rfl) rfl rfl) ?_
  refine G_st (x_iconst (0 : Int32) dX6_rings_2 rfl) ?_
  refine G_st (x_istore_n [some (aR (0, 0)), some (aI (0 : Int32)), some (aI (0 : Int32)), none, none] dX6_rings_3 (Nat.le_of_ble_eq_true rfl) rfl rfl) ?_
  refine G_weak _ ?_ (g_X6_rings_4 ids Hn H0_0 H1 H2 H3 fuel (0 : Int32) (0 : Int32) t0)
  exact (leL_s (leL_s (leL_s (leL_n (leL_n (leL_e _))))))
set_option maxRecDepth 100000 in
set_option maxHeartbeats 4000000 in
theorem c_X6_rings (ids : List (Nat × Nat)) (Hn : Ndp ids)  (H0_0 : InR ids 0 0 5) (H1 : InR ids 1 6 28) (H2 : InR ids 2 6 28) (H3 : InR ids 3 6 28) (t0 : Sg) (r : Int32) (t1 : Sg) (hf : f_X6_rings t0 = some (r, t1)) : Mt0 mX6_rings yX6_rings ids [aR (0, 0)] t0 (some (aI r)) t1 :=
  Mt_of (x := (r, t1)) (g_X6_rings ids Hn  H0_0 H1 H2 H3 t0) hf (fun _ _ => trivial) (by decide) rfl Hn (fun _ => rfl) (fun _ => Nat.le_of_ble_eq_true rfl)
theorem dX6_swaps_0 : decode cX6_swaps 0 = .ok (.iload_n 1, 1) := by decide +kernel
theorem dX6_swaps_1 : decode cX6_swaps 1 = .ok (.iconst 0, 1) := by decide +kernel
theorem dX6_swaps_2 : decode cX6_swaps 2 = .ok (.iconst 2, 1) := by decide +kernel
theorem dX6_swaps_3 : decode cX6_swaps 3 = .ok (.invokestatic 77, 3) := by decide +kernel
theorem dX6_swaps_6 : decode cX6_swaps 6 = .ok (.ifCond .ne 10, 3) := by decide +kernel
theorem dX6_swaps_9 : decode cX6_swaps 9 = .ok (.aload_n 0, 1) := by decide +kernel
theorem dX6_swaps_10 : decode cX6_swaps 10 = .ok (.bipush (-2), 2) := by decide +kernel
theorem dX6_swaps_12 : decode cX6_swaps 12 = .ok (.invokevirtual 130, 3) := by decide +kernel
theorem dX6_swaps_15 : decode cX6_swaps 15 = .ok (.ireturn, 1) := by decide +kernel
theorem dX6_swaps_16 : decode cX6_swaps 16 = .ok (.aload_n 0, 1) := by decide +kernel
theorem dX6_swaps_17 : decode cX6_swaps 17 = .ok (.invokevirtual 259, 3) := by decide +kernel
theorem dX6_swaps_20 : decode cX6_swaps 20 = .ok (.pop, 1) := by decide +kernel
theorem dX6_swaps_21 : decode cX6_swaps 21 = .ok (.iload_n 1, 1) := by decide +kernel
theorem dX6_swaps_22 : decode cX6_swaps 22 = .ok (.iconst 2, 1) := by decide +kernel
theorem dX6_swaps_23 : decode cX6_swaps 23 = .ok (.if_icmp .ne 10, 3) := by decide +kernel
theorem dX6_swaps_26 : decode cX6_swaps 26 = .ok (.aload_n 0, 1) := by decide +kernel
theorem dX6_swaps_27 : decode cX6_swaps 27 = .ok (.invokevirtual 278, 3) := by decide +kernel
theorem dX6_swaps_30 : decode cX6_swaps 30 = .ok (.goto 17, 3) := by decide +kernel
theorem dX6_swaps_33 : decode cX6_swaps 33 = .ok (.aload_n 0, 1) := by decide +kernel
theorem dX6_swaps_34 : decode cX6_swaps 34 = .ok (.iload_n 1, 1) := by decide +kernel
theorem dX6_swaps_35 : decode cX6_swaps 35 = .ok (.iconst 1, 1) := by decide +kernel
theorem dX6_swaps_36 : decode cX6_swaps 36 = .ok (.if_icmp .ne 7, 3) := by decide +kernel
theorem dX6_swaps_39 : decode cX6_swaps 39 = .ok (.iconst 1, 1) := by decide +kernel
theorem dX6_swaps_40 : decode cX6_swaps 40 = .ok (.goto 4, 3) := by decide +kernel
theorem dX6_swaps_43 : decode cX6_swaps 43 = .ok (.iconst 0, 1) := by decide +kernel
theorem dX6_swaps_44 : decode cX6_swaps 44 = .ok (.invokevirtual 281, 3) := by decide +kernel
theorem dX6_swaps_47 : decode cX6_swaps 47 = .ok (.ireturn, 1) := by decide +kernel
set_option maxRecDepth 100000 in
set_option maxHeartbeats 4000000 in
theorem g_X6_swaps (ids : List (Nat × Nat)) (Hn : Ndp ids) (v1 : Int32) (H0_0 : InR ids 0 0 5) (H1 : InR ids 1 6 28) (H2 : InR ids 2 6 28) (H3 : InR ids 3 6 28) (t0 : Sg) : Gj kI mX6_swaps ids 0 [some (aR (0, 0)), some (aI v1)] [] t0 (f_X6_swaps v1 t0) := by
  unfold f_X6_swaps
  refine G_st (x_iload_n dX6_swaps_0 rfl) ?_
  refine G_st (x_iconst (0 : Int32) dX6_swaps_1 rfl) ?_
  refine G_st (x_iconst (2 : Int32) dX6_swaps_2 rfl) ?_
  refine G_bd (fun x1 t2 h3 => ?_)
  refine G_st (x_callS [] (c_X6_within ids Hn v1 (0 : Int32) (2 : Int32)  _ _ _ h3) dX6_swaps_3 tw_431 kc_X6_within rfl ⟨Nat.le_of_ble_eq_true rfl, Nat.le_of_ble_eq_true rfl⟩ (Nat.le_of_ble_eq_true rfl) rfl) ?_
  refine G_ite (fun c4 => ?_) (fun c4 => ?_)
  · refine G_st (x_if_ne_f 16 dX6_swaps_6 (by decide) c4) ?_
    refine G_st (x_aload_n dX6_swaps_9 rfl) ?_
    refine G_st (x_bipush (-2 : Int32) dX6_swaps_10 rfl) ?_
    refine G_bd (fun x5 t6 h7 => ?_)
    refine G_st (x_callV [] (c_X6_refuse ids Hn (-2 : Int32) H0_0 H1 H2 H3 _ _ _ h7) dX6_swaps_12 tw_317 kc_X6_refuse (H0_0 0 (Nat.le_of_ble_eq_true rfl) (Nat.le_of_ble_eq_true rfl)) rfl rfl rfl rfl ⟨Nat.le_of_ble_eq_true rfl, Nat.le_of_ble_eq_true rfl⟩ (Nat.le_of_ble_eq_true rfl) rfl) ?_
    exact G_ret rfl ⟨dX6_swaps_15, _, rfl, rfl⟩ rfl
  · refine G_st (x_if_ne_t (tgt := 16) dX6_swaps_6 (by decide) c4) ?_
    refine G_st (x_aload_n dX6_swaps_16 rfl) ?_
    refine G_bd (fun x8 t9 h10 => ?_)
    refine G_st (x_callV [] (c_X6_tryAsIs ids Hn  H0_0 H1 H2 H3 _ _ _ h10) dX6_swaps_17 tw_728 kc_X6_tryAsIs (H0_0 0 (Nat.le_of_ble_eq_true rfl) (Nat.le_of_ble_eq_true rfl)) rfl rfl rfl rfl ⟨Nat.le_of_ble_eq_true rfl, Nat.le_of_ble_eq_true rfl⟩ (Nat.le_of_ble_eq_true rfl) rfl) ?_
    refine G_st (x_pop dX6_swaps_20 rfl) ?_
    refine G_st (x_iload_n dX6_swaps_21 rfl) ?_
    refine G_st (x_iconst (2 : Int32) dX6_swaps_22 rfl) ?_
    refine G_ite (fun c11 => ?_) (fun c11 => ?_)
    · refine G_st (x_icmp_ne_f 33 dX6_swaps_23 (by decide) c11) ?_
      refine G_st (x_aload_n dX6_swaps_26 rfl) ?_
      refine G_bd (fun x12 t13 h14 => ?_)
      refine G_st (x_callV [] (c_X6_rings ids Hn  H0_0 H1 H2 H3 _ _ _ h14) dX6_swaps_27 tw_796 kc_X6_rings (H0_0 0 (Nat.le_of_ble_eq_true rfl) (Nat.le_of_ble_eq_true rfl)) rfl rfl rfl rfl ⟨Nat.le_of_ble_eq_true rfl, Nat.le_of_ble_eq_true rfl⟩ (Nat.le_of_ble_eq_true rfl) rfl) ?_
      refine G_st (x_goto (tgt := 47) dX6_swaps_30 (by decide)) ?_
      exact G_ret rfl ⟨dX6_swaps_47, _, rfl, rfl⟩ rfl
    · refine G_st (x_icmp_ne_t (tgt := 33) dX6_swaps_23 (by decide) c11) ?_
      refine G_st (x_aload_n dX6_swaps_33 rfl) ?_
      refine G_st (x_iload_n dX6_swaps_34 rfl) ?_
      refine G_st (x_iconst (1 : Int32) dX6_swaps_35 rfl) ?_
      have e16 : Tj mX6_swaps ids 36 [some (aR (0, 0)), some (aI v1)] [aI (1 : Int32), aI v1, aR (0, 0)] t9 44 [some (aR (0, 0)), some (aI v1)] [aI (if v1 = (1 : Int32) then (1 : Int32) else (0 : Int32)), aR (0, 0)] t9 := by
        refine Tj.dia (fun c15 => ?_) (fun c15 => ?_)
        · refine Tj.tr (x_icmp_ne_f 43 dX6_swaps_36 (by decide) c15) ?_
          refine Tj.tr (x_iconst (1 : Int32) dX6_swaps_39 rfl) ?_
          refine Tj.tr (x_goto (tgt := 44) dX6_swaps_40 (by decide)) ?_
          exact Tj.rf
        · refine Tj.tr (x_icmp_ne_t (tgt := 43) dX6_swaps_36 (by decide) c15) ?_
          refine Tj.tr (x_iconst (0 : Int32) dX6_swaps_43 rfl) ?_
          exact Tj.rf
      refine G_st e16 ?_
      refine G_bd (fun x17 t18 h19 => ?_)
      refine G_st (x_callV [] (c_X6_pairs ids Hn (if v1 = (1 : Int32) then (1 : Int32) else (0 : Int32)) H0_0 H1 H2 H3 _ _ _ h19) dX6_swaps_44 tw_804 kc_X6_pairs (H0_0 0 (Nat.le_of_ble_eq_true rfl) (Nat.le_of_ble_eq_true rfl)) rfl rfl rfl rfl ⟨Nat.le_of_ble_eq_true rfl, Nat.le_of_ble_eq_true rfl⟩ (Nat.le_of_ble_eq_true rfl) rfl) ?_
      exact G_ret rfl ⟨dX6_swaps_47, _, rfl, rfl⟩ rfl
set_option maxRecDepth 100000 in
set_option maxHeartbeats 4000000 in
theorem c_X6_swaps (ids : List (Nat × Nat)) (Hn : Ndp ids) (v1 : Int32) (H0_0 : InR ids 0 0 5) (H1 : InR ids 1 6 28) (H2 : InR ids 2 6 28) (H3 : InR ids 3 6 28) (t0 : Sg) (r : Int32) (t1 : Sg) (hf : f_X6_swaps v1 t0 = some (r, t1)) : Mt0 mX6_swaps yX6_swaps ids [aR (0, 0), aI v1] t0 (some (aI r)) t1 :=
  Mt_of (x := (r, t1)) (g_X6_swaps ids Hn v1 H0_0 H1 H2 H3 t0) hf (fun _ _ => trivial) (by decide) rfl Hn (fun _ => rfl) (fun _ => Nat.le_of_ble_eq_true rfl)
theorem dX6_peg_0 : decode cX6_peg 0 = .ok (.aload_n 0, 1) := by decide +kernel
theorem dX6_peg_1 : decode cX6_peg 1 = .ok (.getfield 12, 3) := by decide +kernel
theorem dX6_peg_4 : decode cX6_peg 4 = .ok (.getfield 67, 3) := by decide +kernel
theorem dX6_peg_7 : decode cX6_peg 7 = .ok (.iload_n 1, 1) := by decide +kernel
theorem dX6_peg_8 : decode cX6_peg 8 = .ok (.invokevirtual 147, 3) := by decide +kernel
theorem dX6_peg_11 : decode cX6_peg 11 = .ok (.istore 4, 2) := by decide +kernel
theorem dX6_peg_13 : decode cX6_peg 13 = .ok (.iload 4, 2) := by decide +kernel
theorem dX6_peg_15 : decode cX6_peg 15 = .ok (.ifCond .lt 11, 3) := by decide +kernel
theorem dX6_peg_18 : decode cX6_peg 18 = .ok (.aload_n 0, 1) := by decide +kernel
theorem dX6_peg_19 : decode cX6_peg 19 = .ok (.iload_n 2, 1) := by decide +kernel
theorem dX6_peg_20 : decode cX6_peg 20 = .ok (.invokevirtual 165, 3) := by decide +kernel
theorem dX6_peg_23 : decode cX6_peg 23 = .ok (.ifCond .ne 14, 3) := by decide +kernel
theorem dX6_peg_26 : decode cX6_peg 26 = .ok (.ldc2_w 288, 3) := by decide +kernel
theorem dX6_peg_29 : decode cX6_peg 29 = .ok (.aload_n 0, 1) := by decide +kernel
theorem dX6_peg_30 : decode cX6_peg 30 = .ok (.iconst (-1), 1) := by decide +kernel
theorem dX6_peg_31 : decode cX6_peg 31 = .ok (.invokevirtual 130, 3) := by decide +kernel
theorem dX6_peg_34 : decode cX6_peg 34 = .ok (.i2l, 1) := by decide +kernel
theorem dX6_peg_35 : decode cX6_peg 35 = .ok (.lsub, 1) := by decide +kernel
theorem dX6_peg_36 : decode cX6_peg 36 = .ok (.lreturn, 1) := by decide +kernel
theorem dX6_peg_37 : decode cX6_peg 37 = .ok (.iload_n 3, 1) := by decide +kernel
theorem dX6_peg_38 : decode cX6_peg 38 = .ok (.ifCond .eq 20, 3) := by decide +kernel
theorem dX6_peg_41 : decode cX6_peg 41 = .ok (.iload_n 3, 1) := by decide +kernel
theorem dX6_peg_42 : decode cX6_peg 42 = .ok (.iconst 1, 1) := by decide +kernel
theorem dX6_peg_43 : decode cX6_peg 43 = .ok (.if_icmp .eq 15, 3) := by decide +kernel
theorem dX6_peg_46 : decode cX6_peg 46 = .ok (.ldc2_w 288, 3) := by decide +kernel
theorem dX6_peg_49 : decode cX6_peg 49 = .ok (.aload_n 0, 1) := by decide +kernel
theorem dX6_peg_50 : decode cX6_peg 50 = .ok (.bipush (-2), 2) := by decide +kernel
theorem dX6_peg_52 : decode cX6_peg 52 = .ok (.invokevirtual 130, 3) := by decide +kernel
theorem dX6_peg_55 : decode cX6_peg 55 = .ok (.i2l, 1) := by decide +kernel
theorem dX6_peg_56 : decode cX6_peg 56 = .ok (.lsub, 1) := by decide +kernel
theorem dX6_peg_57 : decode cX6_peg 57 = .ok (.lreturn, 1) := by decide +kernel
theorem dX6_peg_58 : decode cX6_peg 58 = .ok (.iload 4, 2) := by decide +kernel
theorem dX6_peg_60 : decode cX6_peg 60 = .ok (.iconst 4, 1) := by decide +kernel
theorem dX6_peg_61 : decode cX6_peg 61 = .ok (.idiv, 1) := by decide +kernel
theorem dX6_peg_62 : decode cX6_peg 62 = .ok (.istore 5, 2) := by decide +kernel
theorem dX6_peg_64 : decode cX6_peg 64 = .ok (.aload_n 0, 1) := by decide +kernel
theorem dX6_peg_65 : decode cX6_peg 65 = .ok (.getfield 12, 3) := by decide +kernel
theorem dX6_peg_68 : decode cX6_peg 68 = .ok (.getfield 67, 3) := by decide +kernel
theorem dX6_peg_71 : decode cX6_peg 71 = .ok (.getfield 169, 3) := by decide +kernel
theorem dX6_peg_74 : decode cX6_peg 74 = .ok (.iload_n 2, 1) := by decide +kernel
theorem dX6_peg_75 : decode cX6_peg 75 = .ok (.invokestatic 59, 3) := by decide +kernel
theorem dX6_peg_78 : decode cX6_peg 78 = .ok (.istore 6, 2) := by decide +kernel
theorem dX6_peg_80 : decode cX6_peg 80 = .ok (.iload 6, 2) := by decide +kernel
theorem dX6_peg_82 : decode cX6_peg 82 = .ok (.iconst 4, 1) := by decide +kernel
theorem dX6_peg_83 : decode cX6_peg 83 = .ok (.idiv, 1) := by decide +kernel
theorem dX6_peg_84 : decode cX6_peg 84 = .ok (.iload 5, 2) := by decide +kernel
theorem dX6_peg_86 : decode cX6_peg 86 = .ok (.isub, 1) := by decide +kernel
theorem dX6_peg_87 : decode cX6_peg 87 = .ok (.istore 7, 2) := by decide +kernel
theorem dX6_peg_89 : decode cX6_peg 89 = .ok (.iload 6, 2) := by decide +kernel
theorem dX6_peg_91 : decode cX6_peg 91 = .ok (.iconst 4, 1) := by decide +kernel
theorem dX6_peg_92 : decode cX6_peg 92 = .ok (.irem, 1) := by decide +kernel
theorem dX6_peg_93 : decode cX6_peg 93 = .ok (.iload 4, 2) := by decide +kernel
theorem dX6_peg_95 : decode cX6_peg 95 = .ok (.iconst 4, 1) := by decide +kernel
theorem dX6_peg_96 : decode cX6_peg 96 = .ok (.irem, 1) := by decide +kernel
theorem dX6_peg_97 : decode cX6_peg 97 = .ok (.if_icmp .ne 8, 3) := by decide +kernel
theorem dX6_peg_100 : decode cX6_peg 100 = .ok (.iload 7, 2) := by decide +kernel
theorem dX6_peg_102 : decode cX6_peg 102 = .ok (.ifCond .gt 6, 3) := by decide +kernel
theorem dX6_peg_105 : decode cX6_peg 105 = .ok (.iload_n 3, 1) := by decide +kernel
theorem dX6_peg_106 : decode cX6_peg 106 = .ok (.i2l, 1) := by decide +kernel
theorem dX6_peg_107 : decode cX6_peg 107 = .ok (.lreturn, 1) := by decide +kernel
theorem dX6_peg_108 : decode cX6_peg 108 = .ok (.aload_n 0, 1) := by decide +kernel
theorem dX6_peg_109 : decode cX6_peg 109 = .ok (.getfield 12, 3) := by decide +kernel
theorem dX6_peg_112 : decode cX6_peg 112 = .ok (.getfield 67, 3) := by decide +kernel
theorem dX6_peg_115 : decode cX6_peg 115 = .ok (.getfield 199, 3) := by decide +kernel
theorem dX6_peg_118 : decode cX6_peg 118 = .ok (.iload 5, 2) := by decide +kernel
theorem dX6_peg_120 : decode cX6_peg 120 = .ok (.isub, 1) := by decide +kernel
theorem dX6_peg_121 : decode cX6_peg 121 = .ok (.istore 8, 2) := by decide +kernel
theorem dX6_peg_123 : decode cX6_peg 123 = .ok (.iload 7, 2) := by decide +kernel
theorem dX6_peg_125 : decode cX6_peg 125 = .ok (.iconst 1, 1) := by decide +kernel
theorem dX6_peg_126 : decode cX6_peg 126 = .ok (.if_icmp .ne 14, 3) := by decide +kernel
theorem dX6_peg_129 : decode cX6_peg 129 = .ok (.iload 8, 2) := by decide +kernel
theorem dX6_peg_131 : decode cX6_peg 131 = .ok (.iconst 2, 1) := by decide +kernel
theorem dX6_peg_132 : decode cX6_peg 132 = .ok (.irem, 1) := by decide +kernel
theorem dX6_peg_133 : decode cX6_peg 133 = .ok (.ifCond .ne 7, 3) := by decide +kernel
theorem dX6_peg_136 : decode cX6_peg 136 = .ok (.iconst 1, 1) := by decide +kernel
theorem dX6_peg_137 : decode cX6_peg 137 = .ok (.goto 4, 3) := by decide +kernel
theorem dX6_peg_140 : decode cX6_peg 140 = .ok (.iconst 0, 1) := by decide +kernel
theorem dX6_peg_141 : decode cX6_peg 141 = .ok (.istore 9, 2) := by decide +kernel
theorem dX6_peg_143 : decode cX6_peg 143 = .ok (.iload_n 3, 1) := by decide +kernel
theorem dX6_peg_144 : decode cX6_peg 144 = .ok (.iconst 1, 1) := by decide +kernel
theorem dX6_peg_145 : decode cX6_peg 145 = .ok (.if_icmp .ne 20, 3) := by decide +kernel
theorem dX6_peg_148 : decode cX6_peg 148 = .ok (.iload 9, 2) := by decide +kernel
theorem dX6_peg_150 : decode cX6_peg 150 = .ok (.ifCond .eq 11, 3) := by decide +kernel
theorem dX6_peg_153 : decode cX6_peg 153 = .ok (.iload 8, 2) := by decide +kernel
theorem dX6_peg_155 : decode cX6_peg 155 = .ok (.iconst 2, 1) := by decide +kernel
theorem dX6_peg_156 : decode cX6_peg 156 = .ok (.idiv, 1) := by decide +kernel
theorem dX6_peg_157 : decode cX6_peg 157 = .ok (.i2l, 1) := by decide +kernel
theorem dX6_peg_158 : decode cX6_peg 158 = .ok (.goto 6, 3) := by decide +kernel
theorem dX6_peg_161 : decode cX6_peg 161 = .ok (.iload 8, 2) := by decide +kernel
theorem dX6_peg_163 : decode cX6_peg 163 = .ok (.i2l, 1) := by decide +kernel
theorem dX6_peg_164 : decode cX6_peg 164 = .ok (.lreturn, 1) := by decide +kernel
theorem dX6_peg_165 : decode cX6_peg 165 = .ok (.iload 7, 2) := by decide +kernel
theorem dX6_peg_167 : decode cX6_peg 167 = .ok (.iconst 1, 1) := by decide +kernel
theorem dX6_peg_168 : decode cX6_peg 168 = .ok (.if_icmp .ne 14, 3) := by decide +kernel
theorem dX6_peg_171 : decode cX6_peg 171 = .ok (.iload 9, 2) := by decide +kernel
theorem dX6_peg_173 : decode cX6_peg 173 = .ok (.ifCond .ne 9, 3) := by decide +kernel
theorem dX6_peg_176 : decode cX6_peg 176 = .ok (.ldc2_w 290, 3) := by decide +kernel
theorem dX6_peg_179 : decode cX6_peg 179 = .ok (.goto 4, 3) := by decide +kernel
theorem dX6_peg_182 : decode cX6_peg 182 = .ok (.lconst 1, 1) := by decide +kernel
theorem dX6_peg_183 : decode cX6_peg 183 = .ok (.lreturn, 1) := by decide +kernel
set_option maxRecDepth 100000 in
set_option maxHeartbeats 4000000 in
theorem g_X6_peg_26 (ids : List (Nat × Nat)) (Hn : Ndp ids)  (H0_0 : InR ids 0 0 5) (H1 : InR ids 1 6 28) (H2 : InR ids 2 6 28) (H3 : InR ids 3 6 28)   (t0 : Sg) : Gj kL mX6_peg ids 26 [some (aR (0, 0)), none, none, none, none, none, none, none, none, none] [] t0 (f_X6_peg_26 t0) := by
  unfold f_X6_peg_26
  refine G_st (x_ldc2 dX6_peg_26 tw_812) ?_
  refine G_st (x_aload_n dX6_peg_29 rfl) ?_
  refine G_st (x_iconst (-1 : Int32) dX6_peg_30 rfl) ?_
  refine G_bd (fun x5 t6 h7 => ?_)
  refine G_st (x_callV [aL (4000000000000000000 : Int64)] (c_X6_refuse ids Hn (-1 : Int32) H0_0 H1 H2 H3 _ _ _ h7) dX6_peg_31 tw_317 kc_X6_refuse (H0_0 0 (Nat.le_of_ble_eq_true rfl) (Nat.le_of_ble_eq_true rfl)) rfl rfl rfl rfl ⟨Nat.le_of_ble_eq_true rfl, Nat.le_of_ble_eq_true rfl⟩ (Nat.le_of_ble_eq_true rfl) rfl) ?_
  refine G_st (x_i2l dX6_peg_34) ?_
  refine G_st (x_lsub dX6_peg_35) ?_
  exact G_ret rfl ⟨dX6_peg_36, rfl⟩ rfl
set_option maxRecDepth 100000 in
set_option maxHeartbeats 4000000 in
theorem g_X6_peg_141 (ids : List (Nat × Nat)) (Hn : Ndp ids)  (H0_0 : InR ids 0 0 5) (H1 : InR ids 1 6 28) (H2 : InR ids 2 6 28) (H3 : InR ids 3 6 28)  (v3 : Int32) (v7 : Int32) (v8 : Int32) (w0 : Int32) (t0 : Sg) : Gj kL mX6_peg ids 141 [none, none, none, some (aI v3), none, none, none, some (aI v7), some (aI v8), none] [aI w0] t0 (f_X6_peg_141 v3 v7 v8 w0 t0) := by
  unfold f_X6_peg_141
  refine G_st (x_istore [none, none, none, some (aI v3), none, none, none, some (aI v7), some (aI v8), some (aI w0)] dX6_peg_141 (Nat.le_of_ble_eq_true rfl) rfl rfl) ?_
  refine G_st (x_iload_n dX6_peg_143 rfl) ?_
  refine G_st (x_iconst (1 : Int32) dX6_peg_144 rfl) ?_
  refine G_ite (fun c23 => ?_) (fun c23 => ?_)
  · refine G_st (x_icmp_ne_f 165 dX6_peg_145 (by decide) c23) ?_
    refine G_st (x_iload dX6_peg_148 rfl) ?_
    refine G_ite (fun c24 => ?_) (fun c24 => ?_)
    · refine G_st (x_if_eq_t (tgt := 161) dX6_peg_150 (by decide) c24) ?_
      refine G_st (x_iload dX6_peg_161 rfl) ?_
      refine G_st (x_i2l dX6_peg_163) ?_
      exact G_ret rfl ⟨dX6_peg_164, rfl⟩ rfl
    · refine G_st (x_if_eq_f 161 dX6_peg_150 (by decide) c24) ?_
      refine G_st (x_iload dX6_peg_153 rfl) ?_
      refine G_st (x_iconst (2 : Int32) dX6_peg_155 rfl) ?_
      refine G_st (x_idiv dX6_peg_156 (by decide)) ?_
      refine G_st (x_i2l dX6_peg_157) ?_
      refine G_st (x_goto (tgt := 164) dX6_peg_158 (by decide)) ?_
      exact G_ret rfl ⟨dX6_peg_164, rfl⟩ rfl
  · refine G_st (x_icmp_ne_t (tgt := 165) dX6_peg_145 (by decide) c23) ?_
    refine G_st (x_iload dX6_peg_165 rfl) ?_
    refine G_st (x_iconst (1 : Int32) dX6_peg_167 rfl) ?_
    have e27 : Tj mX6_peg ids 168 [none, none, none, some (aI v3), none, none, none, some (aI v7), some (aI v8), some (aI w0)] [aI (1 : Int32), aI v7] t0 183 [none, none, none, some (aI v3), none, none, none, some (aI v7), some (aI v8), some (aI w0)] [aL (if v7 = (1 : Int32) then (if w0 = 0 then (2 : Int64) else (1 : Int64)) else (1 : Int64))] t0 := by
      refine Tj.diaL (fun c25 => ?_) (fun c25 => ?_)
      · refine Tj.tr (x_icmp_ne_f 182 dX6_peg_168 (by decide) c25) ?_
        refine Tj.tr (x_iload dX6_peg_171 rfl) ?_
        refine Tj.diaL (fun c26 => ?_) (fun c26 => ?_)
        · refine Tj.tr (x_if_ne_f 182 dX6_peg_173 (by decide) c26) ?_
          refine Tj.tr (x_ldc2 dX6_peg_176 tw_813) ?_
          refine Tj.tr (x_goto (tgt := 183) dX6_peg_179 (by decide)) ?_
          exact Tj.rf
        · refine Tj.tr (x_if_ne_t (tgt := 182) dX6_peg_173 (by decide) c26) ?_
          refine Tj.tr (x_lconst (1 : Int64) dX6_peg_182 rfl) ?_
          exact Tj.rf
      · refine Tj.tr (x_icmp_ne_t (tgt := 182) dX6_peg_168 (by decide) c25) ?_
        refine Tj.tr (x_lconst (1 : Int64) dX6_peg_182 rfl) ?_
        exact Tj.rf
    refine G_st e27 ?_
    exact G_ret rfl ⟨dX6_peg_183, rfl⟩ rfl
set_option maxRecDepth 100000 in
set_option maxHeartbeats 4000000 in
theorem g_X6_peg_140 (ids : List (Nat × Nat)) (Hn : Ndp ids)  (H0_0 : InR ids 0 0 5) (H1 : InR ids 1 6 28) (H2 : InR ids 2 6 28) (H3 : InR ids 3 6 28)  (v3 : Int32) (v7 : Int32) (v8 : Int32) (t0 : Sg) : Gj kL mX6_peg ids 140 [none, none, none, some (aI v3), none, none, none, some (aI v7), some (aI v8), none] [] t0 (f_X6_peg_140 v3 v7 v8 t0) := by
  unfold f_X6_peg_140
  refine G_st (x_iconst (0 : Int32) dX6_peg_140 rfl) ?_
  refine G_weak _ ?_ (g_X6_peg_141 ids Hn H0_0 H1 H2 H3 v3 v7 v8 (0 : Int32) t0)
  exact (leL_n (leL_n (leL_n (leL_s (leL_n (leL_n (leL_n (leL_s (leL_s (leL_n (leL_e _)))))))))))
set_option maxRecDepth 100000 in
set_option maxHeartbeats 4000000 in
theorem g_X6_peg_58 (ids : List (Nat × Nat)) (Hn : Ndp ids)  (H0_0 : InR ids 0 0 5) (H1 : InR ids 1 6 28) (H2 : InR ids 2 6 28) (H3 : InR ids 3 6 28)  (v2 : Int32) (v3 : Int32) (v4 : Int32) (t0 : Sg) : Gj kL mX6_peg ids 58 [some (aR (0, 0)), none, some (aI v2), some (aI v3), some (aI v4), none, none, none, none, none] [] t0 (f_X6_peg_58 v2 v3 v4 t0) := by
  unfold f_X6_peg_58
  refine G_st (x_iload dX6_peg_58 rfl) ?_
  refine G_st (x_iconst (4 : Int32) dX6_peg_60 rfl) ?_
  refine G_st (x_idiv dX6_peg_61 (by decide)) ?_
  refine G_bvI (fun x13 => ?_)
  refine G_st (x_istore [some (aR (0, 0)), none, some (aI v2), some (aI v3), some (aI v4), some (aI x13), none, none, none, none] dX6_peg_62 (Nat.le_of_ble_eq_true rfl) rfl rfl) ?_
  refine G_st (x_aload_n dX6_peg_64 rfl) ?_
  refine G_st (x_get (k := 0) (aR (1, 6)) dX6_peg_65 (H0_0 0 (Nat.le_of_ble_eq_true rfl) (Nat.le_of_ble_eq_true rfl)) rfl rfl rfl rfl inTX6 (Nat.le_of_ble_eq_true rfl) tw_285 (fun ad => rfl)) ?_
  refine G_st (x_get (k := 0) (aR (1, 7)) dX6_peg_68 (H1 6 (Nat.le_of_ble_eq_true rfl) (Nat.le_of_ble_eq_true rfl)) rfl rfl rfl rfl inTX2 (Nat.le_of_ble_eq_true rfl) tw_250 (fun ad => rfl)) ?_
  refine G_st (x_get (k := 9) (aR (1, 14)) dX6_peg_71 (H1 7 (Nat.le_of_ble_eq_true rfl) (Nat.le_of_ble_eq_true rfl)) rfl rfl rfl rfl inTX0 (Nat.le_of_ble_eq_true rfl) tw_140 (fun ad => rfl)) ?_
  refine G_st (x_iload_n dX6_peg_74 rfl) ?_
  refine G_bd (fun x14 t15 h16 => ?_)
  refine G_st (x_callS [] (c_X6_get ids Hn (1, 14) v2 (H1 14 (Nat.le_of_ble_eq_true rfl) (Nat.le_of_ble_eq_true rfl)) rfl _ _ _ h16) dX6_peg_75 tw_321 kc_X6_get rfl ⟨Nat.le_of_ble_eq_true rfl, Nat.le_of_ble_eq_true rfl⟩ (Nat.le_of_ble_eq_true rfl) rfl) ?_
  refine G_st (x_istore [some (aR (0, 0)), none, some (aI v2), some (aI v3), some (aI v4), some (aI x13), some (aI x14), none, none, none] dX6_peg_78 (Nat.le_of_ble_eq_true rfl) rfl rfl) ?_
  refine G_st (x_iload dX6_peg_80 rfl) ?_
  refine G_st (x_iconst (4 : Int32) dX6_peg_82 rfl) ?_
  refine G_st (x_idiv dX6_peg_83 (by decide)) ?_
  refine G_st (x_iload dX6_peg_84 rfl) ?_
  refine G_st (x_isub dX6_peg_86) ?_
  refine G_bvI (fun x17 => ?_)
  refine G_st (x_istore [some (aR (0, 0)), none, some (aI v2), some (aI v3), some (aI v4), some (aI x13), some (aI x14), some (aI x17), none, none] dX6_peg_87 (Nat.le_of_ble_eq_true rfl) rfl rfl) ?_
  refine G_st (x_iload dX6_peg_89 rfl) ?_
  refine G_st (x_iconst (4 : Int32) dX6_peg_91 rfl) ?_
  refine G_st (x_irem dX6_peg_92 (by decide)) ?_
  refine G_st (x_iload dX6_peg_93 rfl) ?_
  refine G_st (x_iconst (4 : Int32) dX6_peg_95 rfl) ?_
  refine G_st (x_irem dX6_peg_96 (by decide)) ?_
  refine G_ite (fun c18 => ?_) (fun c18 => ?_)
  · refine G_st (x_icmp_ne_f 105 dX6_peg_97 (by decide) c18) ?_
    refine G_st (x_iload dX6_peg_100 rfl) ?_
    refine G_ite (fun c19 => ?_) (fun c19 => ?_)
    · refine G_st (x_if_gt_t (tgt := 108) dX6_peg_102 (by decide) c19) ?_
      refine G_st (x_aload_n dX6_peg_108 rfl) ?_
      refine G_st (x_get (k := 0) (aR (1, 6)) dX6_peg_109 (H0_0 0 (Nat.le_of_ble_eq_true rfl) (Nat.le_of_ble_eq_true rfl)) rfl rfl rfl rfl inTX6 (Nat.le_of_ble_eq_true rfl) tw_285 (fun ad => rfl)) ?_
      refine G_st (x_get (k := 0) (aR (1, 7)) dX6_peg_112 (H1 6 (Nat.le_of_ble_eq_true rfl) (Nat.le_of_ble_eq_true rfl)) rfl rfl rfl rfl inTX2 (Nat.le_of_ble_eq_true rfl) tw_250 (fun ad => rfl)) ?_
      refine G_st (x_get (k := 0) (aI (t15 (1, 7) 0)) dX6_peg_115 (H1 7 (Nat.le_of_ble_eq_true rfl) (Nat.le_of_ble_eq_true rfl)) rfl rfl rfl rfl inTX0 (Nat.le_of_ble_eq_true rfl) tw_111 (fun ad => rfl)) ?_
      refine G_st (x_iload dX6_peg_118 rfl) ?_
      refine G_st (x_isub dX6_peg_120) ?_
      refine G_bvI (fun x20 => ?_)
      refine G_st (x_istore [some (aR (0, 0)), none, some (aI v2), some (aI v3), some (aI v4), some (aI x13), some (aI x14), some (aI x17), some (aI x20), none] dX6_peg_121 (Nat.le_of_ble_eq_true rfl) rfl rfl) ?_
      refine G_st (x_iload dX6_peg_123 rfl) ?_
      refine G_st (x_iconst (1 : Int32) dX6_peg_125 rfl) ?_
      refine G_ite (fun c21 => ?_) (fun c21 => ?_)
      · refine G_st (x_icmp_ne_f 140 dX6_peg_126 (by decide) c21) ?_
        refine G_st (x_iload dX6_peg_129 rfl) ?_
        refine G_st (x_iconst (2 : Int32) dX6_peg_131 rfl) ?_
        refine G_st (x_irem dX6_peg_132 (by decide)) ?_
        refine G_ite (fun c22 => ?_) (fun c22 => ?_)
        · refine G_st (x_if_ne_f 140 dX6_peg_133 (by decide) c22) ?_
          refine G_st (x_iconst (1 : Int32) dX6_peg_136 rfl) ?_
          refine G_st (x_goto (tgt := 141) dX6_peg_137 (by decide)) ?_
          refine G_weak _ ?_ (g_X6_peg_141 ids Hn H0_0 H1 H2 H3 v3 x17 x20 (1 : Int32) t15)
          exact (leL_n (leL_n (leL_n (leL_s (leL_n (leL_n (leL_n (leL_s (leL_s (leL_n (leL_e _)))))))))))
        · refine G_st (x_if_ne_t (tgt := 140) dX6_peg_133 (by decide) c22) ?_
          refine G_weak _ ?_ (g_X6_peg_140 ids Hn H0_0 H1 H2 H3 v3 x17 x20 t15)
          exact (leL_n (leL_n (leL_n (leL_s (leL_n (leL_n (leL_n (leL_s (leL_s (leL_n (leL_e _)))))))))))
      · refine G_st (x_icmp_ne_t (tgt := 140) dX6_peg_126 (by decide) c21) ?_
        refine G_weak _ ?_ (g_X6_peg_140 ids Hn H0_0 H1 H2 H3 v3 x17 x20 t15)
        exact (leL_n (leL_n (leL_n (leL_s (leL_n (leL_n (leL_n (leL_s (leL_s (leL_n (leL_e _)))))))))))
    · refine G_st (x_if_gt_f 108 dX6_peg_102 (by decide) c19) ?_
      refine G_st (x_iload_n dX6_peg_105 rfl) ?_
      refine G_st (x_i2l dX6_peg_106) ?_
      exact G_ret rfl ⟨dX6_peg_107, rfl⟩ rfl
  · refine G_st (x_icmp_ne_t (tgt := 105) dX6_peg_97 (by decide) c18) ?_
    refine G_st (x_iload_n dX6_peg_105 rfl) ?_
    refine G_st (x_i2l dX6_peg_106) ?_
    exact G_ret rfl ⟨dX6_peg_107, rfl⟩ rfl
set_option maxRecDepth 100000 in
set_option maxHeartbeats 4000000 in
theorem g_X6_peg (ids : List (Nat × Nat)) (Hn : Ndp ids) (v1 : Int32) (v2 : Int32) (v3 : Int32) (H0_0 : InR ids 0 0 5) (H1 : InR ids 1 6 28) (H2 : InR ids 2 6 28) (H3 : InR ids 3 6 28) (t0 : Sg) : Gj kL mX6_peg ids 0 [some (aR (0, 0)), some (aI v1), some (aI v2), some (aI v3), none, none, none, none, none, none] [] t0 (f_X6_peg v1 v2 v3 t0) := by
  unfold f_X6_peg
  refine G_st (x_aload_n dX6_peg_0 rfl) ?_
  refine G_st (x_get (k := 0) (aR (1, 6)) dX6_peg_1 (H0_0 0 (Nat.le_of_ble_eq_true rfl) (Nat.le_of_ble_eq_true rfl)) rfl rfl rfl rfl inTX6 (Nat.le_of_ble_eq_true rfl) tw_285 (fun ad => rfl)) ?_
  refine G_st (x_get (k := 0) (aR (1, 7)) dX6_peg_4 (H1 6 (Nat.le_of_ble_eq_true rfl) (Nat.le_of_ble_eq_true rfl)) rfl rfl rfl rfl inTX2 (Nat.le_of_ble_eq_true rfl) tw_250 (fun ad => rfl)) ?_
  refine G_st (x_iload_n dX6_peg_7 rfl) ?_
  refine G_bd (fun x1 t2 h3 => ?_)
  refine G_st (x_callV [] (c_X0_placeOf ids Hn 1 v1 (H1.sub (Nat.le_of_ble_eq_true rfl) (Nat.le_of_ble_eq_true rfl)) _ _ _ h3) dX6_peg_8 tw_521 kc_X0_placeOf (H1 7 (Nat.le_of_ble_eq_true rfl) (Nat.le_of_ble_eq_true rfl)) rfl rfl rfl rfl ⟨Nat.le_of_ble_eq_true rfl, Nat.le_of_ble_eq_true rfl⟩ (Nat.le_of_ble_eq_true rfl) rfl) ?_
  refine G_st (x_istore [some (aR (0, 0)), some (aI v1), some (aI v2), some (aI v3), some (aI x1), none, none, none, none, none] dX6_peg_11 (Nat.le_of_ble_eq_true rfl) rfl rfl) ?_
  refine G_st (x_iload dX6_peg_13 rfl) ?_
  refine G_ite (fun c4 => ?_) (fun c4 => ?_)
  · refine G_st (x_if_lt_t (tgt := 26) dX6_peg_15 (by decide) c4) ?_
    refine G_weak _ ?_ (g_X6_peg_26 ids Hn H0_0 H1 H2 H3 t2)
    exact (leL_s (leL_n (leL_n (leL_n (leL_n (leL_n (leL_n (leL_n (leL_n (leL_n (leL_e _)))))))))))
  · refine G_st (x_if_lt_f 26 dX6_peg_15 (by decide) c4) ?_
    refine G_st (x_aload_n dX6_peg_18 rfl) ?_
    refine G_st (x_iload_n dX6_peg_19 rfl) ?_
    refine G_bd (fun x8 t9 h10 => ?_)
    refine G_st (x_callV [] (c_X6_isTenant ids Hn v2 H0_0 H1 H2 H3 _ _ _ h10) dX6_peg_20 tw_530 kc_X6_isTenant (H0_0 0 (Nat.le_of_ble_eq_true rfl) (Nat.le_of_ble_eq_true rfl)) rfl rfl rfl rfl ⟨Nat.le_of_ble_eq_true rfl, Nat.le_of_ble_eq_true rfl⟩ (Nat.le_of_ble_eq_true rfl) rfl) ?_
    refine G_ite (fun c11 => ?_) (fun c11 => ?_)
    · refine G_st (x_if_ne_f 37 dX6_peg_23 (by decide) c11) ?_
      refine G_weak _ ?_ (g_X6_peg_26 ids Hn H0_0 H1 H2 H3 t9)
      exact (leL_s (leL_n (leL_n (leL_n (leL_n (leL_n (leL_n (leL_n (leL_n (leL_n (leL_e _)))))))))))
    · refine G_st (x_if_ne_t (tgt := 37) dX6_peg_23 (by decide) c11) ?_
      refine G_st (x_iload_n dX6_peg_37 rfl) ?_
      refine G_ite (fun c12 => ?_) (fun c12 => ?_)
      · refine G_st (x_if_eq_t (tgt := 58) dX6_peg_38 (by decide) c12) ?_
        refine G_weak _ ?_ (g_X6_peg_58 ids Hn H0_0 H1 H2 H3 v2 v3 x1 t9)
        exact (leL_s (leL_n (leL_s (leL_s (leL_s (leL_n (leL_n (leL_n (leL_n (leL_n (leL_e _)))))))))))
      · refine G_st (x_if_eq_f 58 dX6_peg_38 (by decide) c12) ?_
        refine G_st (x_iload_n dX6_peg_41 rfl) ?_
        refine G_st (x_iconst (1 : Int32) dX6_peg_42 rfl) ?_
        refine G_ite (fun c28 => ?_) (fun c28 => ?_)
        · refine G_st (x_icmp_eq_t (tgt := 58) dX6_peg_43 (by decide) c28) ?_
          refine G_weak _ ?_ (g_X6_peg_58 ids Hn H0_0 H1 H2 H3 v2 v3 x1 t9)
          exact (leL_s (leL_n (leL_s (leL_s (leL_s (leL_n (leL_n (leL_n (leL_n (leL_n (leL_e _)))))))))))
        · refine G_st (x_icmp_eq_f 58 dX6_peg_43 (by decide) c28) ?_
          refine G_st (x_ldc2 dX6_peg_46 tw_812) ?_
          refine G_st (x_aload_n dX6_peg_49 rfl) ?_
          refine G_st (x_bipush (-2 : Int32) dX6_peg_50 rfl) ?_
          refine G_bd (fun x29 t30 h31 => ?_)
          refine G_st (x_callV [aL (4000000000000000000 : Int64)] (c_X6_refuse ids Hn (-2 : Int32) H0_0 H1 H2 H3 _ _ _ h31) dX6_peg_52 tw_317 kc_X6_refuse (H0_0 0 (Nat.le_of_ble_eq_true rfl) (Nat.le_of_ble_eq_true rfl)) rfl rfl rfl rfl ⟨Nat.le_of_ble_eq_true rfl, Nat.le_of_ble_eq_true rfl⟩ (Nat.le_of_ble_eq_true rfl) rfl) ?_
          refine G_st (x_i2l dX6_peg_55) ?_
          refine G_st (x_lsub dX6_peg_56) ?_
          exact G_ret rfl ⟨dX6_peg_57, rfl⟩ rfl
set_option maxRecDepth 100000 in
set_option maxHeartbeats 4000000 in
theorem c_X6_peg (ids : List (Nat × Nat)) (Hn : Ndp ids) (v1 : Int32) (v2 : Int32) (v3 : Int32) (H0_0 : InR ids 0 0 5) (H1 : InR ids 1 6 28) (H2 : InR ids 2 6 28) (H3 : InR ids 3 6 28) (t0 : Sg) (r : Int64) (t1 : Sg) (hf : f_X6_peg v1 v2 v3 t0 = some (r, t1)) : Mt0 mX6_peg yX6_peg ids [aR (0, 0), aI v1, aI v2, aI v3] t0 (some (aL r)) t1 :=
  Mt_of (x := (r, t1)) (g_X6_peg ids Hn v1 v2 v3 H0_0 H1 H2 H3 t0) hf (fun _ _ => trivial) (by decide) rfl Hn (fun _ => rfl) (fun _ => Nat.le_of_ble_eq_true rfl)
theorem dX6_row_0 : decode cX6_row 0 = .ok (.iload_n 1, 1) := by decide +kernel
theorem dX6_row_1 : decode cX6_row 1 = .ok (.ifCond .ge 10, 3) := by decide +kernel
theorem dX6_row_4 : decode cX6_row 4 = .ok (.aload_n 0, 1) := by decide +kernel
theorem dX6_row_5 : decode cX6_row 5 = .ok (.bipush (-4), 2) := by decide +kernel
theorem dX6_row_7 : decode cX6_row 7 = .ok (.invokevirtual 130, 3) := by decide +kernel
theorem dX6_row_10 : decode cX6_row 10 = .ok (.ireturn, 1) := by decide +kernel
theorem dX6_row_11 : decode cX6_row 11 = .ok (.iload_n 1, 1) := by decide +kernel
theorem dX6_row_12 : decode cX6_row 12 = .ok (.sipush 999, 3) := by decide +kernel
theorem dX6_row_15 : decode cX6_row 15 = .ok (.if_icmp .gt 12, 3) := by decide +kernel
theorem dX6_row_18 : decode cX6_row 18 = .ok (.aload_n 0, 1) := by decide +kernel
theorem dX6_row_19 : decode cX6_row 19 = .ok (.getfield 39, 3) := by decide +kernel
theorem dX6_row_22 : decode cX6_row 22 = .ok (.bipush 10, 2) := by decide +kernel
theorem dX6_row_24 : decode cX6_row 24 = .ok (.if_icmp .lt 10, 3) := by decide +kernel
theorem dX6_row_27 : decode cX6_row 27 = .ok (.aload_n 0, 1) := by decide +kernel
theorem dX6_row_28 : decode cX6_row 28 = .ok (.bipush (-6), 2) := by decide +kernel
theorem dX6_row_30 : decode cX6_row 30 = .ok (.invokevirtual 130, 3) := by decide +kernel
theorem dX6_row_33 : decode cX6_row 33 = .ok (.ireturn, 1) := by decide +kernel
theorem dX6_row_34 : decode cX6_row 34 = .ok (.aload_n 0, 1) := by decide +kernel
theorem dX6_row_35 : decode cX6_row 35 = .ok (.getfield 29, 3) := by decide +kernel
theorem dX6_row_38 : decode cX6_row 38 = .ok (.aload_n 0, 1) := by decide +kernel
theorem dX6_row_39 : decode cX6_row 39 = .ok (.getfield 39, 3) := by decide +kernel
theorem dX6_row_42 : decode cX6_row 42 = .ok (.iload_n 1, 1) := by decide +kernel
theorem dX6_row_43 : decode cX6_row 43 = .ok (.invokestatic 63, 3) := by decide +kernel
theorem dX6_row_46 : decode cX6_row 46 = .ok (.aload_n 0, 1) := by decide +kernel
theorem dX6_row_47 : decode cX6_row 47 = .ok (.dup, 1) := by decide +kernel
theorem dX6_row_48 : decode cX6_row 48 = .ok (.getfield 39, 3) := by decide +kernel
theorem dX6_row_51 : decode cX6_row 51 = .ok (.iconst 1, 1) := by decide +kernel
theorem dX6_row_52 : decode cX6_row 52 = .ok (.iadd, 1) := by decide +kernel
theorem dX6_row_53 : decode cX6_row 53 = .ok (.putfield 39, 3) := by decide +kernel
theorem dX6_row_56 : decode cX6_row 56 = .ok (.aload_n 0, 1) := by decide +kernel
theorem dX6_row_57 : decode cX6_row 57 = .ok (.getfield 39, 3) := by decide +kernel
theorem dX6_row_60 : decode cX6_row 60 = .ok (.ireturn, 1) := by decide +kernel
set_option maxRecDepth 100000 in
set_option maxHeartbeats 4000000 in
theorem g_X6_row_27 (ids : List (Nat × Nat)) (Hn : Ndp ids)  (H0_0 : InR ids 0 0 5) (H1 : InR ids 1 6 28) (H2 : InR ids 2 6 28) (H3 : InR ids 3 6 28)   (t0 : Sg) : Gj kI mX6_row ids 27 [some (aR (0, 0)), none] [] t0 (f_X6_row_27 t0) := by
  unfold f_X6_row_27
  refine G_st (x_aload_n dX6_row_27 rfl) ?_
  refine G_st (x_bipush (-6 : Int32) dX6_row_28 rfl) ?_
  refine G_bd (fun x3 t4 h5 => ?_)
  refine G_st (x_callV [] (c_X6_refuse ids Hn (-6 : Int32) H0_0 H1 H2 H3 _ _ _ h5) dX6_row_30 tw_317 kc_X6_refuse (H0_0 0 (Nat.le_of_ble_eq_true rfl) (Nat.le_of_ble_eq_true rfl)) rfl rfl rfl rfl ⟨Nat.le_of_ble_eq_true rfl, Nat.le_of_ble_eq_true rfl⟩ (Nat.le_of_ble_eq_true rfl) rfl) ?_
  exact G_ret rfl ⟨dX6_row_33, _, rfl, rfl⟩ rfl
set_option maxRecDepth 100000 in
set_option maxHeartbeats 4000000 in
theorem g_X6_row (ids : List (Nat × Nat)) (Hn : Ndp ids) (v1 : Int32) (H0_0 : InR ids 0 0 5) (H1 : InR ids 1 6 28) (H2 : InR ids 2 6 28) (H3 : InR ids 3 6 28) (t0 : Sg) : Gj kI mX6_row ids 0 [some (aR (0, 0)), some (aI v1)] [] t0 (f_X6_row v1 t0) := by
  unfold f_X6_row
  refine G_st (x_iload_n dX6_row_0 rfl) ?_
  refine G_ite (fun c1 => ?_) (fun c1 => ?_)
  · refine G_st (x_if_ge_t (tgt := 11) dX6_row_1 (by decide) c1) ?_
    refine G_st (x_iload_n dX6_row_11 rfl) ?_
    refine G_st (x_sipush (999 : Int32) dX6_row_12 rfl) ?_
    refine G_ite (fun c2 => ?_) (fun c2 => ?_)
    · refine G_st (x_icmp_gt_t (tgt := 27) dX6_row_15 (by decide) c2) ?_
      refine G_weak _ ?_ (g_X6_row_27 ids Hn H0_0 H1 H2 H3 t0)
      exact (leL_s (leL_n (leL_e _)))
    · refine G_st (x_icmp_gt_f 27 dX6_row_15 (by decide) c2) ?_
      refine G_st (x_aload_n dX6_row_18 rfl) ?_
      refine G_st (x_get (k := 7) (aI (t0 (0, 0) 7)) dX6_row_19 (H0_0 0 (Nat.le_of_ble_eq_true rfl) (Nat.le_of_ble_eq_true rfl)) rfl rfl rfl rfl inTX6 (Nat.le_of_ble_eq_true rfl) tw_292 (fun ad => rfl)) ?_
      refine G_st (x_bipush (10 : Int32) dX6_row_22 rfl) ?_
      refine G_ite (fun c6 => ?_) (fun c6 => ?_)
      · refine G_st (x_icmp_lt_t (tgt := 34) dX6_row_24 (by decide) c6) ?_
        refine G_st (x_aload_n dX6_row_34 rfl) ?_
        refine G_st (x_get (k := 4) (aR (0, 1)) dX6_row_35 (H0_0 0 (Nat.le_of_ble_eq_true rfl) (Nat.le_of_ble_eq_true rfl)) rfl rfl rfl rfl inTX6 (Nat.le_of_ble_eq_true rfl) tw_289 (fun ad => rfl)) ?_
        refine G_st (x_aload_n dX6_row_38 rfl) ?_
        refine G_st (x_get (k := 7) (aI (t0 (0, 0) 7)) dX6_row_39 (H0_0 0 (Nat.le_of_ble_eq_true rfl) (Nat.le_of_ble_eq_true rfl)) rfl rfl rfl rfl inTX6 (Nat.le_of_ble_eq_true rfl) tw_292 (fun ad => rfl)) ?_
        refine G_st (x_iload_n dX6_row_42 rfl) ?_
        refine G_bd (fun _ t8 h9 => ?_)
        refine G_st (x_callS [] (c_X6_set ids Hn (0, 1) (t0 (0, 0) 7) v1 (H0_0 1 (Nat.le_of_ble_eq_true rfl) (Nat.le_of_ble_eq_true rfl)) rfl _ _ _ h9) dX6_row_43 tw_324 kc_X6_set rfl ⟨Nat.le_of_ble_eq_true rfl, Nat.le_of_ble_eq_true rfl⟩ (Nat.le_of_ble_eq_true rfl) rfl) ?_
        refine G_st (x_aload_n dX6_row_46 rfl) ?_
        refine G_st (x_dup dX6_row_47 rfl) ?_
        refine G_st (x_get (k := 7) (aI (t8 (0, 0) 7)) dX6_row_48 (H0_0 0 (Nat.le_of_ble_eq_true rfl) (Nat.le_of_ble_eq_true rfl)) rfl rfl rfl rfl inTX6 (Nat.le_of_ble_eq_true rfl) tw_292 (fun ad => rfl)) ?_
        refine G_st (x_iconst (1 : Int32) dX6_row_51 rfl) ?_
        refine G_st (x_iadd dX6_row_52) ?_
        refine G_st (x_put (k := 7) (ty := .int) (v := aI ((t8 (0, 0) 7) + (1 : Int32))) (z := ((t8 (0, 0) 7) + (1 : Int32))) (upS t8 (0, 0) 7 ((t8 (0, 0) 7) + (1 : Int32))) dX6_row_53 (H0_0 0 (Nat.le_of_ble_eq_true rfl) (Nat.le_of_ble_eq_true rfl)) rfl rfl rfl rfl inTX6 tyX6_ok nmX6 (Nat.le_of_ble_eq_true rfl) tw_292 rfl rfl (fun ad => rfl) (fun ad => rfl) (fun ad => put_i0 ad _ _ _ _ rfl) rfl) ?_
        refine G_bvS (fun t10 => ?_)
        refine G_st (x_aload_n dX6_row_56 rfl) ?_
        refine G_st (x_get (k := 7) (aI (t10 (0, 0) 7)) dX6_row_57 (H0_0 0 (Nat.le_of_ble_eq_true rfl) (Nat.le_of_ble_eq_true rfl)) rfl rfl rfl rfl inTX6 (Nat.le_of_ble_eq_true rfl) tw_292 (fun ad => rfl)) ?_
        exact G_ret rfl ⟨dX6_row_60, _, rfl, rfl⟩ rfl
      · refine G_st (x_icmp_lt_f 34 dX6_row_24 (by decide) c6) ?_
        refine G_weak _ ?_ (g_X6_row_27 ids Hn H0_0 H1 H2 H3 t0)
        exact (leL_s (leL_n (leL_e _)))
  · refine G_st (x_if_ge_f 11 dX6_row_1 (by decide) c1) ?_
    refine G_st (x_aload_n dX6_row_4 rfl) ?_
    refine G_st (x_bipush (-4 : Int32) dX6_row_5 rfl) ?_
    refine G_bd (fun x11 t12 h13 => ?_)
    refine G_st (x_callV [] (c_X6_refuse ids Hn (-4 : Int32) H0_0 H1 H2 H3 _ _ _ h13) dX6_row_7 tw_317 kc_X6_refuse (H0_0 0 (Nat.le_of_ble_eq_true rfl) (Nat.le_of_ble_eq_true rfl)) rfl rfl rfl rfl ⟨Nat.le_of_ble_eq_true rfl, Nat.le_of_ble_eq_true rfl⟩ (Nat.le_of_ble_eq_true rfl) rfl) ?_
    exact G_ret rfl ⟨dX6_row_10, _, rfl, rfl⟩ rfl
set_option maxRecDepth 100000 in
set_option maxHeartbeats 4000000 in
theorem c_X6_row (ids : List (Nat × Nat)) (Hn : Ndp ids) (v1 : Int32) (H0_0 : InR ids 0 0 5) (H1 : InR ids 1 6 28) (H2 : InR ids 2 6 28) (H3 : InR ids 3 6 28) (t0 : Sg) (r : Int32) (t1 : Sg) (hf : f_X6_row v1 t0 = some (r, t1)) : Mt0 mX6_row yX6_row ids [aR (0, 0), aI v1] t0 (some (aI r)) t1 :=
  Mt_of (x := (r, t1)) (g_X6_row ids Hn v1 H0_0 H1 H2 H3 t0) hf (fun _ _ => trivial) (by decide) rfl Hn (fun _ => rfl) (fun _ => Nat.le_of_ble_eq_true rfl)
theorem dX6_judge_0 : decode cX6_judge 0 = .ok (.aload_n 0, 1) := by decide +kernel
theorem dX6_judge_1 : decode cX6_judge 1 = .ok (.invokevirtual 97, 3) := by decide +kernel
theorem dX6_judge_4 : decode cX6_judge 4 = .ok (.bipush (-9), 2) := by decide +kernel
theorem dX6_judge_6 : decode cX6_judge 6 = .ok (.istore_n 1, 1) := by decide +kernel
theorem dX6_judge_7 : decode cX6_judge 7 = .ok (.iconst 0, 1) := by decide +kernel
theorem dX6_judge_8 : decode cX6_judge 8 = .ok (.istore_n 2, 1) := by decide +kernel
theorem dX6_judge_9 : decode cX6_judge 9 = .ok (.iload_n 2, 1) := by decide +kernel
theorem dX6_judge_10 : decode cX6_judge 10 = .ok (.aload_n 0, 1) := by decide +kernel
theorem dX6_judge_11 : decode cX6_judge 11 = .ok (.getfield 39, 3) := by decide +kernel
theorem dX6_judge_14 : decode cX6_judge 14 = .ok (.if_icmp .ge 35, 3) := by decide +kernel
theorem dX6_judge_17 : decode cX6_judge 17 = .ok (.iload_n 1, 1) := by decide +kernel
theorem dX6_judge_18 : decode cX6_judge 18 = .ok (.bipush (-9), 2) := by decide +kernel
theorem dX6_judge_20 : decode cX6_judge 20 = .ok (.if_icmp .ne 29, 3) := by decide +kernel
theorem dX6_judge_23 : decode cX6_judge 23 = .ok (.aload_n 0, 1) := by decide +kernel
theorem dX6_judge_24 : decode cX6_judge 24 = .ok (.getfield 19, 3) := by decide +kernel
theorem dX6_judge_27 : decode cX6_judge 27 = .ok (.invokevirtual 100, 3) := by decide +kernel
theorem dX6_judge_30 : decode cX6_judge 30 = .ok (.aload_n 0, 1) := by decide +kernel
theorem dX6_judge_31 : decode cX6_judge 31 = .ok (.getfield 29, 3) := by decide +kernel
theorem dX6_judge_34 : decode cX6_judge 34 = .ok (.iload_n 2, 1) := by decide +kernel
theorem dX6_judge_35 : decode cX6_judge 35 = .ok (.invokestatic 59, 3) := by decide +kernel
theorem dX6_judge_38 : decode cX6_judge 38 = .ok (.if_icmp .eq 5, 3) := by decide +kernel
theorem dX6_judge_41 : decode cX6_judge 41 = .ok (.iload_n 2, 1) := by decide +kernel
theorem dX6_judge_42 : decode cX6_judge 42 = .ok (.istore_n 1, 1) := by decide +kernel
theorem dX6_judge_43 : decode cX6_judge 43 = .ok (.iinc 2 1, 3) := by decide +kernel
theorem dX6_judge_46 : decode cX6_judge 46 = .ok (.goto (-37), 3) := by decide +kernel
theorem dX6_judge_49 : decode cX6_judge 49 = .ok (.aload_n 0, 1) := by decide +kernel
theorem dX6_judge_50 : decode cX6_judge 50 = .ok (.iconst 0, 1) := by decide +kernel
theorem dX6_judge_51 : decode cX6_judge 51 = .ok (.putfield 39, 3) := by decide +kernel
theorem dX6_judge_54 : decode cX6_judge 54 = .ok (.iload_n 1, 1) := by decide +kernel
theorem dX6_judge_55 : decode cX6_judge 55 = .ok (.ireturn, 1) := by decide +kernel
set_option maxRecDepth 100000 in
set_option maxHeartbeats 4000000 in
theorem g_X6_judge_49 (ids : List (Nat × Nat)) (Hn : Ndp ids)  (H0_0 : InR ids 0 0 5) (H1 : InR ids 1 6 28) (H2 : InR ids 2 6 28) (H3 : InR ids 3 6 28)  (v1 : Int32) (t0 : Sg) : Gj kI mX6_judge ids 49 [some (aR (0, 0)), some (aI v1), none] [] t0 (f_X6_judge_49 v1 t0) := by
  unfold f_X6_judge_49
  refine G_st (x_aload_n dX6_judge_49 rfl) ?_
  refine G_st (x_iconst (0 : Int32) dX6_judge_50 rfl) ?_
  refine G_st (x_put (k := 7) (ty := .int) (v := aI (0 : Int32)) (z := (0 : Int32)) (upS t0 (0, 0) 7 (0 : Int32)) dX6_judge_51 (H0_0 0 (Nat.le_of_ble_eq_true rfl) (Nat.le_of_ble_eq_true rfl)) rfl rfl rfl rfl inTX6 tyX6_ok nmX6 (Nat.le_of_ble_eq_true rfl) tw_292 rfl rfl (fun ad => rfl) (fun ad => rfl) (fun ad => put_i0 ad _ _ _ _ rfl) rfl) ?_
  refine G_bvS (fun t5 => ?_)
  refine G_st (x_iload_n dX6_judge_54 rfl) ?_
  exact G_ret rfl ⟨dX6_judge_55, _, rfl, rfl⟩ rfl
set_option maxRecDepth 100000 in
set_option maxHeartbeats 4000000 in
theorem g_X6_judge_43 (ids : List (Nat × Nat)) (Hn : Ndp ids)  (H0_0 : InR ids 0 0 5) (H1 : InR ids 1 6 28) (H2 : InR ids 2 6 28) (H3 : InR ids 3 6 28) (k9 : Int32 → Int32 → Sg → Option (Int32 × Sg)) (hk9 : ∀ (v1 : Int32) (v2 : Int32) (t0 : Sg), Gj kI mX6_judge ids 9 [some (aR (0, 0)), some (aI v1), some (aI v2)] [] t0 (k9 v1 v2 t0)) (v1 : Int32) (v2 : Int32) (t0 : Sg) : Gj kI mX6_judge ids 43 [some (aR (0, 0)), some (aI v1), some (aI v2)] [] t0 (f_X6_judge_43 k9 v1 v2 t0) := by
  unfold f_X6_judge_43
  refine G_st (x_iinc (v2 + (1 : Int32)) [some (aR (0, 0)), some (aI v1), some (aI (v2 + (1 : Int32)))] dX6_judge_43 (Nat.le_of_ble_eq_true rfl) rfl rfl rfl rfl) ?_
  refine G_st (x_goto (tgt := 9) dX6_judge_46 (by decide)) ?_
  refine G_weak _ ?_ (hk9 v1 (v2 + (1 : Int32)) t0)
  exact (leL_s (leL_s (leL_s (leL_e _))))
set_option maxRecDepth 100000 in
set_option maxHeartbeats 4000000 in
theorem g_X6_judge_9 (ids : List (Nat × Nat)) (Hn : Ndp ids)  (H0_0 : InR ids 0 0 5) (H1 : InR ids 1 6 28) (H2 : InR ids 2 6 28) (H3 : InR ids 3 6 28)  : ∀ (n : Nat) (v1 : Int32) (v2 : Int32) (t0 : Sg), Gj kI mX6_judge ids 9 [some (aR (0, 0)), some (aI v1), some (aI v2)] [] t0 (f_X6_judge_9 n v1 v2 t0) := by
  intro n
  induction n with
  | zero => intro v1 v2 t0; exact G_none
  | succ n ih =>
    intro v1 v2 t0
    rw [f_X6_judge_9]
    refine G_st (x_iload_n dX6_judge_9 rfl) ?_
    refine G_st (x_aload_n dX6_judge_10 rfl) ?_
    refine G_st (x_get (k := 7) (aI (t0 (0, 0) 7)) dX6_judge_11 (H0_0 0 (Nat.le_of_ble_eq_true rfl) (Nat.le_of_ble_eq_true rfl)) rfl rfl rfl rfl inTX6 (Nat.le_of_ble_eq_true rfl) tw_292 (fun ad => rfl)) ?_
    refine G_ite (fun c4 => ?_) (fun c4 => ?_)
    · refine G_st (x_icmp_ge_t (tgt := 49) dX6_judge_14 (by decide) c4) ?_
      refine G_weak _ ?_ (g_X6_judge_49 ids Hn H0_0 H1 H2 H3 v1 t0)
      exact (leL_s (leL_s (leL_n (leL_e _))))
    · refine G_st (x_icmp_ge_f 49 dX6_judge_14 (by decide) c4) ?_
      refine G_st (x_iload_n dX6_judge_17 rfl) ?_
      refine G_st (x_bipush (-9 : Int32) dX6_judge_18 rfl) ?_
      refine G_ite (fun c6 => ?_) (fun c6 => ?_)
      · refine G_st (x_icmp_ne_f 49 dX6_judge_20 (by decide) c6) ?_
        refine G_st (x_aload_n dX6_judge_23 rfl) ?_
        refine G_st (x_get (k := 2) (aR (3, 6)) dX6_judge_24 (H0_0 0 (Nat.le_of_ble_eq_true rfl) (Nat.le_of_ble_eq_true rfl)) rfl rfl rfl rfl inTX6 (Nat.le_of_ble_eq_true rfl) tw_287 (fun ad => rfl)) ?_
        refine G_bd (fun x7 t8 h9 => ?_)
        refine G_st (x_callV [] (c_X2_spendWeek ids Hn 3 H3 _ _ _ h9) dX6_judge_27 tw_605 kc_X2_spendWeek (H3 6 (Nat.le_of_ble_eq_true rfl) (Nat.le_of_ble_eq_true rfl)) rfl rfl rfl rfl ⟨Nat.le_of_ble_eq_true rfl, Nat.le_of_ble_eq_true rfl⟩ (Nat.le_of_ble_eq_true rfl) rfl) ?_
        refine G_st (x_aload_n dX6_judge_30 rfl) ?_
        refine G_st (x_get (k := 4) (aR (0, 1)) dX6_judge_31 (H0_0 0 (Nat.le_of_ble_eq_true rfl) (Nat.le_of_ble_eq_true rfl)) rfl rfl rfl rfl inTX6 (Nat.le_of_ble_eq_true rfl) tw_289 (fun ad => rfl)) ?_
        refine G_st (x_iload_n dX6_judge_34 rfl) ?_
        refine G_bd (fun x10 t11 h12 => ?_)
        refine G_st (x_callS [aI x7] (c_X6_get ids Hn (0, 1) v2 (H0_0 1 (Nat.le_of_ble_eq_true rfl) (Nat.le_of_ble_eq_true rfl)) rfl _ _ _ h12) dX6_judge_35 tw_321 kc_X6_get rfl ⟨Nat.le_of_ble_eq_true rfl, Nat.le_of_ble_eq_true rfl⟩ (Nat.le_of_ble_eq_true rfl) rfl) ?_
        refine G_ite (fun c13 => ?_) (fun c13 => ?_)
        · refine G_st (x_icmp_eq_t (tgt := 43) dX6_judge_38 (by decide) c13) ?_
          refine G_weak _ ?_ (g_X6_judge_43 ids Hn H0_0 H1 H2 H3 (f_X6_judge_9 n) (ih) v1 v2 t11)
          exact (leL_s (leL_s (leL_s (leL_e _))))
        · refine G_st (x_icmp_eq_f 43 dX6_judge_38 (by decide) c13) ?_
          refine G_st (x_iload_n dX6_judge_41 rfl) ?_
          refine G_st (x_istore_n [some (aR (0, 0)), some (aI v2), some (aI v2)] dX6_judge_42 (Nat.le_of_ble_eq_true rfl) rfl rfl) ?_
          refine G_weak _ ?_ (g_X6_judge_43 ids Hn H0_0 H1 H2 H3 (f_X6_judge_9 n) (ih) v2 v2 t11)
          exact (leL_s (leL_s (leL_s (leL_e _))))
      · refine G_st (x_icmp_ne_t (tgt := 49) dX6_judge_20 (by decide) c6) ?_
        refine G_weak _ ?_ (g_X6_judge_49 ids Hn H0_0 H1 H2 H3 v1 t0)
        exact (leL_s (leL_s (leL_n (leL_e _))))
set_option maxRecDepth 100000 in
set_option maxHeartbeats 4000000 in
theorem g_X6_judge (ids : List (Nat × Nat)) (Hn : Ndp ids)  (H0_0 : InR ids 0 0 5) (H1 : InR ids 1 6 28) (H2 : InR ids 2 6 28) (H3 : InR ids 3 6 28) (t0 : Sg) : Gj kI mX6_judge ids 0 [some (aR (0, 0)), none, none] [] t0 (f_X6_judge t0) := by
  unfold f_X6_judge
  refine G_st (x_aload_n dX6_judge_0 rfl) ?_
  refine G_bd (fun _ t2 h3 => ?_)
  refine G_st (x_callV [] (c_X6_tryAnew ids Hn  H0_0 H1 H2 H3 _ _ _ h3) dX6_judge_1 tw_689 kc_X6_tryAnew (H0_0 0 (Nat.le_of_ble_eq_true rfl) (Nat.le_of_ble_eq_true rfl)) rfl rfl rfl rfl ⟨Nat.le_of_ble_eq_true rfl, Nat.le_of_ble_eq_true rfl⟩ (Nat.le_of_ble_eq_true rfl) rfl) ?_
  refine G_st (x_bipush (-9 : Int32) dX6_judge_4 rfl) ?_
  refine G_st (x_istore_n [some (aR (0, 0)), some (aI (-9 : Int32)), none] dX6_judge_6 (Nat.le_of_ble_eq_true rfl) rfl rfl) ?_
  refine G_st (x_iconst (0 : Int32) dX6_judge_7 rfl) ?_
  refine G_st (x_istore_n [some (aR (0, 0)), some (aI (-9 : Int32)), some (aI (0 : Int32))] dX6_judge_8 (Nat.le_of_ble_eq_true rfl) rfl rfl) ?_
  refine G_weak _ ?_ (g_X6_judge_9 ids Hn H0_0 H1 H2 H3 fuel (-9 : Int32) (0 : Int32) t2)
  exact (leL_s (leL_s (leL_s (leL_e _))))
set_option maxRecDepth 100000 in
set_option maxHeartbeats 4000000 in
theorem c_X6_judge (ids : List (Nat × Nat)) (Hn : Ndp ids)  (H0_0 : InR ids 0 0 5) (H1 : InR ids 1 6 28) (H2 : InR ids 2 6 28) (H3 : InR ids 3 6 28) (t0 : Sg) (r : Int32) (t1 : Sg) (hf : f_X6_judge t0 = some (r, t1)) : Mt0 mX6_judge yX6_judge ids [aR (0, 0)] t0 (some (aI r)) t1 :=
  Mt_of (x := (r, t1)) (g_X6_judge ids Hn  H0_0 H1 H2 H3 t0) hf (fun _ _ => trivial) (by decide) rfl Hn (fun _ => rfl) (fun _ => Nat.le_of_ble_eq_true rfl)
theorem dX6_seeds_0 : decode cX6_seeds 0 = .ok (.iload_n 1, 1) := by decide +kernel
theorem dX6_seeds_1 : decode cX6_seeds 1 = .ok (.iconst 1, 1) := by decide +kernel
theorem dX6_seeds_2 : decode cX6_seeds 2 = .ok (.if_icmp .ge 10, 3) := by decide +kernel
theorem dX6_seeds_5 : decode cX6_seeds 5 = .ok (.aload_n 0, 1) := by decide +kernel
theorem dX6_seeds_6 : decode cX6_seeds 6 = .ok (.bipush (-4), 2) := by decide +kernel
theorem dX6_seeds_8 : decode cX6_seeds 8 = .ok (.invokevirtual 130, 3) := by decide +kernel
theorem dX6_seeds_11 : decode cX6_seeds 11 = .ok (.ireturn, 1) := by decide +kernel
theorem dX6_seeds_12 : decode cX6_seeds 12 = .ok (.iload_n 1, 1) := by decide +kernel
theorem dX6_seeds_13 : decode cX6_seeds 13 = .ok (.bipush 20, 2) := by decide +kernel
theorem dX6_seeds_15 : decode cX6_seeds 15 = .ok (.if_icmp .le 10, 3) := by decide +kernel
theorem dX6_seeds_18 : decode cX6_seeds 18 = .ok (.aload_n 0, 1) := by decide +kernel
theorem dX6_seeds_19 : decode cX6_seeds 19 = .ok (.bipush (-6), 2) := by decide +kernel
theorem dX6_seeds_21 : decode cX6_seeds 21 = .ok (.invokevirtual 130, 3) := by decide +kernel
theorem dX6_seeds_24 : decode cX6_seeds 24 = .ok (.ireturn, 1) := by decide +kernel
theorem dX6_seeds_25 : decode cX6_seeds 25 = .ok (.aload_n 0, 1) := by decide +kernel
theorem dX6_seeds_26 : decode cX6_seeds 26 = .ok (.invokevirtual 97, 3) := by decide +kernel
theorem dX6_seeds_29 : decode cX6_seeds 29 = .ok (.iload_n 2, 1) := by decide +kernel
theorem dX6_seeds_30 : decode cX6_seeds 30 = .ok (.istore_n 3, 1) := by decide +kernel
theorem dX6_seeds_31 : decode cX6_seeds 31 = .ok (.iconst 0, 1) := by decide +kernel
theorem dX6_seeds_32 : decode cX6_seeds 32 = .ok (.istore 4, 2) := by decide +kernel
theorem dX6_seeds_34 : decode cX6_seeds 34 = .ok (.iconst 0, 1) := by decide +kernel
theorem dX6_seeds_35 : decode cX6_seeds 35 = .ok (.istore 5, 2) := by decide +kernel
theorem dX6_seeds_37 : decode cX6_seeds 37 = .ok (.iload 5, 2) := by decide +kernel
theorem dX6_seeds_39 : decode cX6_seeds 39 = .ok (.iload_n 1, 1) := by decide +kernel
theorem dX6_seeds_40 : decode cX6_seeds 40 = .ok (.if_icmp .ge 82, 3) := by decide +kernel
theorem dX6_seeds_43 : decode cX6_seeds 43 = .ok (.iconst 0, 1) := by decide +kernel
theorem dX6_seeds_44 : decode cX6_seeds 44 = .ok (.istore 6, 2) := by decide +kernel
theorem dX6_seeds_46 : decode cX6_seeds 46 = .ok (.iload 6, 2) := by decide +kernel
theorem dX6_seeds_48 : decode cX6_seeds 48 = .ok (.aload_n 0, 1) := by decide +kernel
theorem dX6_seeds_49 : decode cX6_seeds 49 = .ok (.getfield 19, 3) := by decide +kernel
theorem dX6_seeds_52 : decode cX6_seeds 52 = .ok (.getfield 81, 3) := by decide +kernel
theorem dX6_seeds_55 : decode cX6_seeds 55 = .ok (.getfield 85, 3) := by decide +kernel
theorem dX6_seeds_58 : decode cX6_seeds 58 = .ok (.if_icmp .ge 46, 3) := by decide +kernel
theorem dX6_seeds_61 : decode cX6_seeds 61 = .ok (.iload_n 3, 1) := by decide +kernel
theorem dX6_seeds_62 : decode cX6_seeds 62 = .ok (.ldc_w 292, 3) := by decide +kernel
theorem dX6_seeds_65 : decode cX6_seeds 65 = .ok (.imul, 1) := by decide +kernel
theorem dX6_seeds_66 : decode cX6_seeds 66 = .ok (.sipush 12345, 3) := by decide +kernel
theorem dX6_seeds_69 : decode cX6_seeds 69 = .ok (.iadd, 1) := by decide +kernel
theorem dX6_seeds_70 : decode cX6_seeds 70 = .ok (.istore_n 3, 1) := by decide +kernel
theorem dX6_seeds_71 : decode cX6_seeds 71 = .ok (.aload_n 0, 1) := by decide +kernel
theorem dX6_seeds_72 : decode cX6_seeds 72 = .ok (.getfield 19, 3) := by decide +kernel
theorem dX6_seeds_75 : decode cX6_seeds 75 = .ok (.getfield 81, 3) := by decide +kernel
theorem dX6_seeds_78 : decode cX6_seeds 78 = .ok (.getfield 116, 3) := by decide +kernel
theorem dX6_seeds_81 : decode cX6_seeds 81 = .ok (.iload 6, 2) := by decide +kernel
theorem dX6_seeds_83 : decode cX6_seeds 83 = .ok (.iload_n 3, 1) := by decide +kernel
theorem dX6_seeds_84 : decode cX6_seeds 84 = .ok (.ldc_w 293, 3) := by decide +kernel
theorem dX6_seeds_87 : decode cX6_seeds 87 = .ok (.iand, 1) := by decide +kernel
theorem dX6_seeds_88 : decode cX6_seeds 88 = .ok (.ldc_w 294, 3) := by decide +kernel
theorem dX6_seeds_91 : decode cX6_seeds 91 = .ok (.idiv, 1) := by decide +kernel
theorem dX6_seeds_92 : decode cX6_seeds 92 = .ok (.bipush 8, 2) := by decide +kernel
theorem dX6_seeds_94 : decode cX6_seeds 94 = .ok (.irem, 1) := by decide +kernel
theorem dX6_seeds_95 : decode cX6_seeds 95 = .ok (.invokestatic 63, 3) := by decide +kernel
theorem dX6_seeds_98 : decode cX6_seeds 98 = .ok (.iinc 6 1, 3) := by decide +kernel
theorem dX6_seeds_101 : decode cX6_seeds 101 = .ok (.goto (-55), 3) := by decide +kernel
theorem dX6_seeds_104 : decode cX6_seeds 104 = .ok (.iload 4, 2) := by decide +kernel
theorem dX6_seeds_106 : decode cX6_seeds 106 = .ok (.aload_n 0, 1) := by decide +kernel
theorem dX6_seeds_107 : decode cX6_seeds 107 = .ok (.getfield 19, 3) := by decide +kernel
theorem dX6_seeds_110 : decode cX6_seeds 110 = .ok (.invokevirtual 100, 3) := by decide +kernel
theorem dX6_seeds_113 : decode cX6_seeds 113 = .ok (.iadd, 1) := by decide +kernel
theorem dX6_seeds_114 : decode cX6_seeds 114 = .ok (.istore 4, 2) := by decide +kernel
theorem dX6_seeds_116 : decode cX6_seeds 116 = .ok (.iinc 5 1, 3) := by decide +kernel
theorem dX6_seeds_119 : decode cX6_seeds 119 = .ok (.goto (-82), 3) := by decide +kernel
theorem dX6_seeds_122 : decode cX6_seeds 122 = .ok (.iload 4, 2) := by decide +kernel
theorem dX6_seeds_124 : decode cX6_seeds 124 = .ok (.ireturn, 1) := by decide +kernel
set_option maxRecDepth 100000 in
set_option maxHeartbeats 4000000 in
theorem g_X6_seeds_46 (ids : List (Nat × Nat)) (Hn : Ndp ids)  (H0_0 : InR ids 0 0 5) (H1 : InR ids 1 6 28) (H2 : InR ids 2 6 28) (H3 : InR ids 3 6 28) (k37 : Int32 → Int32 → Int32 → Int32 → Sg → Option (Int32 × Sg)) (hk37 : ∀ (v1 : Int32) (v3 : Int32) (v4 : Int32) (v5 : Int32) (t0 : Sg), Gj kI mX6_seeds ids 37 [some (aR (0, 0)), some (aI v1), none, some (aI v3), some (aI v4), some (aI v5), none] [] t0 (k37 v1 v3 v4 v5 t0)) : ∀ (n : Nat) (v1 : Int32) (v3 : Int32) (v4 : Int32) (v5 : Int32) (v6 : Int32) (t0 : Sg), Gj kI mX6_seeds ids 46 [some (aR (0, 0)), some (aI v1), none, some (aI v3), some (aI v4), some (aI v5), some (aI v6)] [] t0 (f_X6_seeds_46 k37 n v1 v3 v4 v5 v6 t0) := by
  intro n
  induction n with
  | zero => intro v1 v3 v4 v5 v6 t0; exact G_none
  | succ n ih =>
    intro v1 v3 v4 v5 v6 t0
    rw [f_X6_seeds_46]
    refine G_st (x_iload dX6_seeds_46 rfl) ?_
    refine G_st (x_aload_n dX6_seeds_48 rfl) ?_
    refine G_st (x_get (k := 2) (aR (3, 6)) dX6_seeds_49 (H0_0 0 (Nat.le_of_ble_eq_true rfl) (Nat.le_of_ble_eq_true rfl)) rfl rfl rfl rfl inTX6 (Nat.le_of_ble_eq_true rfl) tw_287 (fun ad => rfl)) ?_
    refine G_st (x_get (k := 1) (aR (3, 15)) dX6_seeds_52 (H3 6 (Nat.le_of_ble_eq_true rfl) (Nat.le_of_ble_eq_true rfl)) rfl rfl rfl rfl inTX2 (Nat.le_of_ble_eq_true rfl) tw_253 (fun ad => rfl)) ?_
    refine G_st (x_get (k := 0) (aI (t0 (3, 15) 0)) dX6_seeds_55 (H3 15 (Nat.le_of_ble_eq_true rfl) (Nat.le_of_ble_eq_true rfl)) rfl rfl rfl rfl inTX1 (Nat.le_of_ble_eq_true rfl) tw_171 (fun ad => rfl)) ?_
    refine G_ite (fun c7 => ?_) (fun c7 => ?_)
    · refine G_st (x_icmp_ge_t (tgt := 104) dX6_seeds_58 (by decide) c7) ?_
      refine G_st (x_iload dX6_seeds_104 rfl) ?_
      refine G_st (x_aload_n dX6_seeds_106 rfl) ?_
      refine G_st (x_get (k := 2) (aR (3, 6)) dX6_seeds_107 (H0_0 0 (Nat.le_of_ble_eq_true rfl) (Nat.le_of_ble_eq_true rfl)) rfl rfl rfl rfl inTX6 (Nat.le_of_ble_eq_true rfl) tw_287 (fun ad => rfl)) ?_
      refine G_bd (fun x8 t9 h10 => ?_)
      refine G_st (x_callV [aI v4] (c_X2_spendWeek ids Hn 3 H3 _ _ _ h10) dX6_seeds_110 tw_605 kc_X2_spendWeek (H3 6 (Nat.le_of_ble_eq_true rfl) (Nat.le_of_ble_eq_true rfl)) rfl rfl rfl rfl ⟨Nat.le_of_ble_eq_true rfl, Nat.le_of_ble_eq_true rfl⟩ (Nat.le_of_ble_eq_true rfl) rfl) ?_
      refine G_st (x_iadd dX6_seeds_113) ?_
      refine G_bvI (fun x11 => ?_)
      refine G_st (x_istore [some (aR (0, 0)), some (aI v1), none, some (aI v3), some (aI x11), some (aI v5), some (aI v6)] dX6_seeds_114 (Nat.le_of_ble_eq_true rfl) rfl rfl) ?_
      refine G_st (x_iinc (v5 + (1 : Int32)) [some (aR (0, 0)), some (aI v1), none, some (aI v3), some (aI x11), some (aI (v5 + (1 : Int32))), some (aI v6)] dX6_seeds_116 (Nat.le_of_ble_eq_true rfl) rfl rfl rfl rfl) ?_
      refine G_st (x_goto (tgt := 37) dX6_seeds_119 (by decide)) ?_
      refine G_weak _ ?_ (hk37 v1 v3 x11 (v5 + (1 : Int32)) t9)
      exact (leL_s (leL_s (leL_n (leL_s (leL_s (leL_s (leL_n (leL_e _))))))))
    · refine G_st (x_icmp_ge_f 104 dX6_seeds_58 (by decide) c7) ?_
      refine G_st (x_iload_n dX6_seeds_61 rfl) ?_
      refine G_st (x_ldcw dX6_seeds_62 tw_826) ?_
      refine G_st (x_imul dX6_seeds_65) ?_
      refine G_st (x_sipush (12345 : Int32) dX6_seeds_66 rfl) ?_
      refine G_st (x_iadd dX6_seeds_69) ?_
      refine G_bvI (fun x12 => ?_)
      refine G_st (x_istore_n [some (aR (0, 0)), some (aI v1), none, some (aI x12), some (aI v4), some (aI v5), some (aI v6)] dX6_seeds_70 (Nat.le_of_ble_eq_true rfl) rfl rfl) ?_
      refine G_st (x_aload_n dX6_seeds_71 rfl) ?_
      refine G_st (x_get (k := 2) (aR (3, 6)) dX6_seeds_72 (H0_0 0 (Nat.le_of_ble_eq_true rfl) (Nat.le_of_ble_eq_true rfl)) rfl rfl rfl rfl inTX6 (Nat.le_of_ble_eq_true rfl) tw_287 (fun ad => rfl)) ?_
      refine G_st (x_get (k := 1) (aR (3, 15)) dX6_seeds_75 (H3 6 (Nat.le_of_ble_eq_true rfl) (Nat.le_of_ble_eq_true rfl)) rfl rfl rfl rfl inTX2 (Nat.le_of_ble_eq_true rfl) tw_253 (fun ad => rfl)) ?_
      refine G_st (x_get (k := 4) (aR (3, 19)) dX6_seeds_78 (H3 15 (Nat.le_of_ble_eq_true rfl) (Nat.le_of_ble_eq_true rfl)) rfl rfl rfl rfl inTX1 (Nat.le_of_ble_eq_true rfl) tw_186 (fun ad => rfl)) ?_
      refine G_st (x_iload dX6_seeds_81 rfl) ?_
      refine G_st (x_iload_n dX6_seeds_83 rfl) ?_
      refine G_st (x_ldcw dX6_seeds_84 tw_827) ?_
      refine G_st (x_iand dX6_seeds_87) ?_
      refine G_st (x_ldcw dX6_seeds_88 tw_828) ?_
      refine G_st (x_idiv dX6_seeds_91 (by decide)) ?_
      refine G_st (x_bipush (8 : Int32) dX6_seeds_92 rfl) ?_
      refine G_st (x_irem dX6_seeds_94 (by decide)) ?_
      refine G_bd (fun _ t14 h15 => ?_)
      refine G_st (x_callS [] (c_X6_set ids Hn (3, 19) v6 (((x12 &&& (2147483647 : Int32)) / (65536 : Int32)) - ((x12 &&& (2147483647 : Int32)) / (65536 : Int32)) / (8 : Int32) * (8 : Int32)) (H3 19 (Nat.le_of_ble_eq_true rfl) (Nat.le_of_ble_eq_true rfl)) rfl _ _ _ h15) dX6_seeds_95 tw_324 kc_X6_set rfl ⟨Nat.le_of_ble_eq_true rfl, Nat.le_of_ble_eq_true rfl⟩ (Nat.le_of_ble_eq_true rfl) rfl) ?_
      refine G_st (x_iinc (v6 + (1 : Int32)) [some (aR (0, 0)), some (aI v1), none, some (aI x12), some (aI v4), some (aI v5), some (aI (v6 + (1 : Int32)))] dX6_seeds_98 (Nat.le_of_ble_eq_true rfl) rfl rfl rfl rfl) ?_
      refine G_st (x_goto (tgt := 46) dX6_seeds_101 (by decide)) ?_
      refine G_weak _ ?_ ((ih) v1 x12 v4 v5 (v6 + (1 : Int32)) t14)
      exact (leL_s (leL_s (leL_n (leL_s (leL_s (leL_s (leL_s (leL_e _))))))))
set_option maxRecDepth 100000 in
set_option maxHeartbeats 4000000 in
theorem g_X6_seeds_37 (ids : List (Nat × Nat)) (Hn : Ndp ids)  (H0_0 : InR ids 0 0 5) (H1 : InR ids 1 6 28) (H2 : InR ids 2 6 28) (H3 : InR ids 3 6 28)  : ∀ (n : Nat) (v1 : Int32) (v3 : Int32) (v4 : Int32) (v5 : Int32) (t0 : Sg), Gj kI mX6_seeds ids 37 [some (aR (0, 0)), some (aI v1), none, some (aI v3), some (aI v4), some (aI v5), none] [] t0 (f_X6_seeds_37 n v1 v3 v4 v5 t0) := by
  intro n
  induction n with
  | zero => intro v1 v3 v4 v5 t0; exact G_none
  | succ n ih =>
    intro v1 v3 v4 v5 t0
    rw [f_X6_seeds_37]
    refine G_st (x_iload dX6_seeds_37 rfl) ?_
    refine G_st (x_iload_n dX6_seeds_39 rfl) ?_
    refine G_ite (fun c6 => ?_) (fun c6 => ?_)
    · refine G_st (x_icmp_ge_t (tgt := 122) dX6_seeds_40 (by decide) c6) ?_
      refine G_st (x_iload dX6_seeds_122 rfl) ?_
      exact G_ret rfl ⟨dX6_seeds_124, _, rfl, rfl⟩ rfl
    · refine G_st (x_icmp_ge_f 122 dX6_seeds_40 (by decide) c6) ?_
      refine G_st (x_iconst (0 : Int32) dX6_seeds_43 rfl) ?_
      refine G_st (x_istore [some (aR (0, 0)), some (aI v1), none, some (aI v3), some (aI v4), some (aI v5), some (aI (0 : Int32))] dX6_seeds_44 (Nat.le_of_ble_eq_true rfl) rfl rfl) ?_
      refine G_weak _ ?_ (g_X6_seeds_46 ids Hn H0_0 H1 H2 H3 (f_X6_seeds_37 n) (ih) fuel v1 v3 v4 v5 (0 : Int32) t0)
      exact (leL_s (leL_s (leL_n (leL_s (leL_s (leL_s (leL_s (leL_e _))))))))
set_option maxRecDepth 100000 in
set_option maxHeartbeats 4000000 in
theorem g_X6_seeds (ids : List (Nat × Nat)) (Hn : Ndp ids) (v1 : Int32) (v2 : Int32) (H0_0 : InR ids 0 0 5) (H1 : InR ids 1 6 28) (H2 : InR ids 2 6 28) (H3 : InR ids 3 6 28) (t0 : Sg) : Gj kI mX6_seeds ids 0 [some (aR (0, 0)), some (aI v1), some (aI v2), none, none, none, none] [] t0 (f_X6_seeds v1 v2 t0) := by
  unfold f_X6_seeds
  refine G_st (x_iload_n dX6_seeds_0 rfl) ?_
  refine G_st (x_iconst (1 : Int32) dX6_seeds_1 rfl) ?_
  refine G_ite (fun c1 => ?_) (fun c1 => ?_)
  · refine G_st (x_icmp_ge_t (tgt := 12) dX6_seeds_2 (by decide) c1) ?_
    refine G_st (x_iload_n dX6_seeds_12 rfl) ?_
    refine G_st (x_bipush (20 : Int32) dX6_seeds_13 rfl) ?_
    refine G_ite (fun c2 => ?_) (fun c2 => ?_)
    · refine G_st (x_icmp_le_t (tgt := 25) dX6_seeds_15 (by decide) c2) ?_
      refine G_st (x_aload_n dX6_seeds_25 rfl) ?_
      refine G_bd (fun _ t4 h5 => ?_)
      refine G_st (x_callV [] (c_X6_tryAnew ids Hn  H0_0 H1 H2 H3 _ _ _ h5) dX6_seeds_26 tw_689 kc_X6_tryAnew (H0_0 0 (Nat.le_of_ble_eq_true rfl) (Nat.le_of_ble_eq_true rfl)) rfl rfl rfl rfl ⟨Nat.le_of_ble_eq_true rfl, Nat.le_of_ble_eq_true rfl⟩ (Nat.le_of_ble_eq_true rfl) rfl) ?_
      refine G_st (x_iload_n dX6_seeds_29 rfl) ?_
      refine G_st (x_istore_n [some (aR (0, 0)), some (aI v1), some (aI v2), some (aI v2), none, none, none] dX6_seeds_30 (Nat.le_of_ble_eq_true rfl) rfl rfl) ?_
      refine G_st (x_iconst (0 : Int32) dX6_seeds_31 rfl) ?_
      refine G_st (x_istore [some (aR (0, 0)), some (aI v1), some (aI v2), some (aI v2), some (aI (0 : Int32)), none, none] dX6_seeds_32 (Nat.le_of_ble_eq_true rfl) rfl rfl) ?_
      refine G_st (x_iconst (0 : Int32) dX6_seeds_34 rfl) ?_
      refine G_st (x_istore [some (aR (0, 0)), some (aI v1), some (aI v2), some (aI v2), some (aI (0 : Int32)), some (aI (0 : Int32)), none] dX6_seeds_35 (Nat.le_of_ble_eq_true rfl) rfl rfl) ?_
      refine G_weak _ ?_ (g_X6_seeds_37 ids Hn H0_0 H1 H2 H3 fuel v1 v2 (0 : Int32) (0 : Int32) t4)
      exact (leL_s (leL_s (leL_n (leL_s (leL_s (leL_s (leL_n (leL_e _))))))))
    · refine G_st (x_icmp_le_f 25 dX6_seeds_15 (by decide) c2) ?_
      refine G_st (x_aload_n dX6_seeds_18 rfl) ?_
      refine G_st (x_bipush (-6 : Int32) dX6_seeds_19 rfl) ?_
      refine G_bd (fun x16 t17 h18 => ?_)
      refine G_st (x_callV [] (c_X6_refuse ids Hn (-6 : Int32) H0_0 H1 H2 H3 _ _ _ h18) dX6_seeds_21 tw_317 kc_X6_refuse (H0_0 0 (Nat.le_of_ble_eq_true rfl) (Nat.le_of_ble_eq_true rfl)) rfl rfl rfl rfl ⟨Nat.le_of_ble_eq_true rfl, Nat.le_of_ble_eq_true rfl⟩ (Nat.le_of_ble_eq_true rfl) rfl) ?_
      exact G_ret rfl ⟨dX6_seeds_24, _, rfl, rfl⟩ rfl
  · refine G_st (x_icmp_ge_f 12 dX6_seeds_2 (by decide) c1) ?_
    refine G_st (x_aload_n dX6_seeds_5 rfl) ?_
    refine G_st (x_bipush (-4 : Int32) dX6_seeds_6 rfl) ?_
    refine G_bd (fun x19 t20 h21 => ?_)
    refine G_st (x_callV [] (c_X6_refuse ids Hn (-4 : Int32) H0_0 H1 H2 H3 _ _ _ h21) dX6_seeds_8 tw_317 kc_X6_refuse (H0_0 0 (Nat.le_of_ble_eq_true rfl) (Nat.le_of_ble_eq_true rfl)) rfl rfl rfl rfl ⟨Nat.le_of_ble_eq_true rfl, Nat.le_of_ble_eq_true rfl⟩ (Nat.le_of_ble_eq_true rfl) rfl) ?_
    exact G_ret rfl ⟨dX6_seeds_11, _, rfl, rfl⟩ rfl
set_option maxRecDepth 100000 in
set_option maxHeartbeats 4000000 in
theorem c_X6_seeds (ids : List (Nat × Nat)) (Hn : Ndp ids) (v1 : Int32) (v2 : Int32) (H0_0 : InR ids 0 0 5) (H1 : InR ids 1 6 28) (H2 : InR ids 2 6 28) (H3 : InR ids 3 6 28) (t0 : Sg) (r : Int32) (t1 : Sg) (hf : f_X6_seeds v1 v2 t0 = some (r, t1)) : Mt0 mX6_seeds yX6_seeds ids [aR (0, 0), aI v1, aI v2] t0 (some (aI r)) t1 :=
  Mt_of (x := (r, t1)) (g_X6_seeds ids Hn v1 v2 H0_0 H1 H2 H3 t0) hf (fun _ _ => trivial) (by decide) rfl Hn (fun _ => rfl) (fun _ => Nat.le_of_ble_eq_true rfl)
theorem dX6_image_0 : decode cX6_image 0 = .ok (.aload_n 0, 1) := by decide +kernel
theorem dX6_image_1 : decode cX6_image 1 = .ok (.getfield 16, 3) := by decide +kernel
theorem dX6_image_4 : decode cX6_image 4 = .ok (.aload_n 0, 1) := by decide +kernel
theorem dX6_image_5 : decode cX6_image 5 = .ok (.getfield 12, 3) := by decide +kernel
theorem dX6_image_8 : decode cX6_image 8 = .ok (.invokevirtual 140, 3) := by decide +kernel
theorem dX6_image_11 : decode cX6_image 11 = .ok (.aload_n 0, 1) := by decide +kernel
theorem dX6_image_12 : decode cX6_image 12 = .ok (.iconst 1, 1) := by decide +kernel
theorem dX6_image_13 : decode cX6_image 13 = .ok (.putfield 43, 3) := by decide +kernel
theorem dX6_image_16 : decode cX6_image 16 = .ok (.aload_n 0, 1) := by decide +kernel
theorem dX6_image_17 : decode cX6_image 17 = .ok (.getfield 12, 3) := by decide +kernel
theorem dX6_image_20 : decode cX6_image 20 = .ok (.getfield 205, 3) := by decide +kernel
theorem dX6_image_23 : decode cX6_image 23 = .ok (.ireturn, 1) := by decide +kernel
set_option maxRecDepth 100000 in
set_option maxHeartbeats 4000000 in
theorem g_X6_image (ids : List (Nat × Nat)) (Hn : Ndp ids)  (H0_0 : InR ids 0 0 5) (H1 : InR ids 1 6 28) (H2 : InR ids 2 6 28) (H3 : InR ids 3 6 28) (t0 : Sg) : Gj kI mX6_image ids 0 [some (aR (0, 0))] [] t0 (f_X6_image t0) := by
  unfold f_X6_image
  refine G_st (x_aload_n dX6_image_0 rfl) ?_
  refine G_st (x_get (k := 1) (aR (2, 6)) dX6_image_1 (H0_0 0 (Nat.le_of_ble_eq_true rfl) (Nat.le_of_ble_eq_true rfl)) rfl rfl rfl rfl inTX6 (Nat.le_of_ble_eq_true rfl) tw_286 (fun ad => rfl)) ?_
  refine G_st (x_aload_n dX6_image_4 rfl) ?_
  refine G_st (x_get (k := 0) (aR (1, 6)) dX6_image_5 (H0_0 0 (Nat.le_of_ble_eq_true rfl) (Nat.le_of_ble_eq_true rfl)) rfl rfl rfl rfl inTX6 (Nat.le_of_ble_eq_true rfl) tw_285 (fun ad => rfl)) ?_
  refine G_bd (fun _ t2 h3 => ?_)
  refine G_st (x_callV [] (c_X2_copyFrom ids Hn 2 1 H2 H1 _ _ _ h3) dX6_image_8 tw_432 kc_X2_copyFrom (H2 6 (Nat.le_of_ble_eq_true rfl) (Nat.le_of_ble_eq_true rfl)) rfl rfl rfl rfl ⟨Nat.le_of_ble_eq_true rfl, Nat.le_of_ble_eq_true rfl⟩ (Nat.le_of_ble_eq_true rfl) rfl) ?_
  refine G_st (x_aload_n dX6_image_11 rfl) ?_
  refine G_st (x_iconst (1 : Int32) dX6_image_12 rfl) ?_
  refine G_st (x_put (k := 8) (ty := .boolean) (v := aI (1 : Int32)) (z := (1 : Int32)) (upS t2 (0, 0) 8 (1 : Int32)) dX6_image_13 (H0_0 0 (Nat.le_of_ble_eq_true rfl) (Nat.le_of_ble_eq_true rfl)) rfl rfl rfl rfl inTX6 tyX6_ok nmX6 (Nat.le_of_ble_eq_true rfl) tw_293 rfl rfl (fun ad => nar_b (Or.inr rfl)) (fun ad => fit_b (Or.inr rfl)) (fun ad => put_i1 ad _ _ _ _ rfl) rfl) ?_
  refine G_bvS (fun t4 => ?_)
  refine G_st (x_aload_n dX6_image_16 rfl) ?_
  refine G_st (x_get (k := 0) (aR (1, 6)) dX6_image_17 (H0_0 0 (Nat.le_of_ble_eq_true rfl) (Nat.le_of_ble_eq_true rfl)) rfl rfl rfl rfl inTX6 (Nat.le_of_ble_eq_true rfl) tw_285 (fun ad => rfl)) ?_
  refine G_st (x_get (k := 4) (aI (t4 (1, 6) 4)) dX6_image_20 (H1 6 (Nat.le_of_ble_eq_true rfl) (Nat.le_of_ble_eq_true rfl)) rfl rfl rfl rfl inTX2 (Nat.le_of_ble_eq_true rfl) tw_259 (fun ad => rfl)) ?_
  exact G_ret rfl ⟨dX6_image_23, _, rfl, rfl⟩ rfl
set_option maxRecDepth 100000 in
set_option maxHeartbeats 4000000 in
theorem c_X6_image (ids : List (Nat × Nat)) (Hn : Ndp ids)  (H0_0 : InR ids 0 0 5) (H1 : InR ids 1 6 28) (H2 : InR ids 2 6 28) (H3 : InR ids 3 6 28) (t0 : Sg) (r : Int32) (t1 : Sg) (hf : f_X6_image t0 = some (r, t1)) : Mt0 mX6_image yX6_image ids [aR (0, 0)] t0 (some (aI r)) t1 :=
  Mt_of (x := (r, t1)) (g_X6_image ids Hn  H0_0 H1 H2 H3 t0) hf (fun _ _ => trivial) (by decide) rfl Hn (fun _ => rfl) (fun _ => Nat.le_of_ble_eq_true rfl)
theorem dX6_restore_0 : decode cX6_restore 0 = .ok (.aload_n 0, 1) := by decide +kernel
theorem dX6_restore_1 : decode cX6_restore 1 = .ok (.getfield 43, 3) := by decide +kernel
theorem dX6_restore_4 : decode cX6_restore 4 = .ok (.ifCond .ne 10, 3) := by decide +kernel
theorem dX6_restore_7 : decode cX6_restore 7 = .ok (.aload_n 0, 1) := by decide +kernel
theorem dX6_restore_8 : decode cX6_restore 8 = .ok (.bipush (-3), 2) := by decide +kernel
theorem dX6_restore_10 : decode cX6_restore 10 = .ok (.invokevirtual 130, 3) := by decide +kernel
theorem dX6_restore_13 : decode cX6_restore 13 = .ok (.ireturn, 1) := by decide +kernel
theorem dX6_restore_14 : decode cX6_restore 14 = .ok (.aload_n 0, 1) := by decide +kernel
theorem dX6_restore_15 : decode cX6_restore 15 = .ok (.getfield 12, 3) := by decide +kernel
theorem dX6_restore_18 : decode cX6_restore 18 = .ok (.aload_n 0, 1) := by decide +kernel
theorem dX6_restore_19 : decode cX6_restore 19 = .ok (.getfield 16, 3) := by decide +kernel
theorem dX6_restore_22 : decode cX6_restore 22 = .ok (.invokevirtual 140, 3) := by decide +kernel
theorem dX6_restore_25 : decode cX6_restore 25 = .ok (.aload_n 0, 1) := by decide +kernel
theorem dX6_restore_26 : decode cX6_restore 26 = .ok (.getfield 12, 3) := by decide +kernel
theorem dX6_restore_29 : decode cX6_restore 29 = .ok (.getfield 205, 3) := by decide +kernel
theorem dX6_restore_32 : decode cX6_restore 32 = .ok (.ireturn, 1) := by decide +kernel
set_option maxRecDepth 100000 in
set_option maxHeartbeats 4000000 in
theorem g_X6_restore (ids : List (Nat × Nat)) (Hn : Ndp ids)  (H0_0 : InR ids 0 0 5) (H1 : InR ids 1 6 28) (H2 : InR ids 2 6 28) (H3 : InR ids 3 6 28) (t0 : Sg) : Gj kI mX6_restore ids 0 [some (aR (0, 0))] [] t0 (f_X6_restore t0) := by
  unfold f_X6_restore
  refine G_st (x_aload_n dX6_restore_0 rfl) ?_
  refine G_st (x_get (k := 8) (aI (t0 (0, 0) 8)) dX6_restore_1 (H0_0 0 (Nat.le_of_ble_eq_true rfl) (Nat.le_of_ble_eq_true rfl)) rfl rfl rfl rfl inTX6 (Nat.le_of_ble_eq_true rfl) tw_293 (fun ad => rfl)) ?_
  refine G_ite (fun c1 => ?_) (fun c1 => ?_)
  · refine G_st (x_if_ne_f 14 dX6_restore_4 (by decide) c1) ?_
    refine G_st (x_aload_n dX6_restore_7 rfl) ?_
    refine G_st (x_bipush (-3 : Int32) dX6_restore_8 rfl) ?_
    refine G_bd (fun x2 t3 h4 => ?_)
    refine G_st (x_callV [] (c_X6_refuse ids Hn (-3 : Int32) H0_0 H1 H2 H3 _ _ _ h4) dX6_restore_10 tw_317 kc_X6_refuse (H0_0 0 (Nat.le_of_ble_eq_true rfl) (Nat.le_of_ble_eq_true rfl)) rfl rfl rfl rfl ⟨Nat.le_of_ble_eq_true rfl, Nat.le_of_ble_eq_true rfl⟩ (Nat.le_of_ble_eq_true rfl) rfl) ?_
    exact G_ret rfl ⟨dX6_restore_13, _, rfl, rfl⟩ rfl
  · refine G_st (x_if_ne_t (tgt := 14) dX6_restore_4 (by decide) c1) ?_
    refine G_st (x_aload_n dX6_restore_14 rfl) ?_
    refine G_st (x_get (k := 0) (aR (1, 6)) dX6_restore_15 (H0_0 0 (Nat.le_of_ble_eq_true rfl) (Nat.le_of_ble_eq_true rfl)) rfl rfl rfl rfl inTX6 (Nat.le_of_ble_eq_true rfl) tw_285 (fun ad => rfl)) ?_
    refine G_st (x_aload_n dX6_restore_18 rfl) ?_
    refine G_st (x_get (k := 1) (aR (2, 6)) dX6_restore_19 (H0_0 0 (Nat.le_of_ble_eq_true rfl) (Nat.le_of_ble_eq_true rfl)) rfl rfl rfl rfl inTX6 (Nat.le_of_ble_eq_true rfl) tw_286 (fun ad => rfl)) ?_
    refine G_bd (fun _ t6 h7 => ?_)
    refine G_st (x_callV [] (c_X2_copyFrom ids Hn 1 2 H1 H2 _ _ _ h7) dX6_restore_22 tw_432 kc_X2_copyFrom (H1 6 (Nat.le_of_ble_eq_true rfl) (Nat.le_of_ble_eq_true rfl)) rfl rfl rfl rfl ⟨Nat.le_of_ble_eq_true rfl, Nat.le_of_ble_eq_true rfl⟩ (Nat.le_of_ble_eq_true rfl) rfl) ?_
    refine G_st (x_aload_n dX6_restore_25 rfl) ?_
    refine G_st (x_get (k := 0) (aR (1, 6)) dX6_restore_26 (H0_0 0 (Nat.le_of_ble_eq_true rfl) (Nat.le_of_ble_eq_true rfl)) rfl rfl rfl rfl inTX6 (Nat.le_of_ble_eq_true rfl) tw_285 (fun ad => rfl)) ?_
    refine G_st (x_get (k := 4) (aI (t6 (1, 6) 4)) dX6_restore_29 (H1 6 (Nat.le_of_ble_eq_true rfl) (Nat.le_of_ble_eq_true rfl)) rfl rfl rfl rfl inTX2 (Nat.le_of_ble_eq_true rfl) tw_259 (fun ad => rfl)) ?_
    exact G_ret rfl ⟨dX6_restore_32, _, rfl, rfl⟩ rfl
set_option maxRecDepth 100000 in
set_option maxHeartbeats 4000000 in
theorem c_X6_restore (ids : List (Nat × Nat)) (Hn : Ndp ids)  (H0_0 : InR ids 0 0 5) (H1 : InR ids 1 6 28) (H2 : InR ids 2 6 28) (H3 : InR ids 3 6 28) (t0 : Sg) (r : Int32) (t1 : Sg) (hf : f_X6_restore t0 = some (r, t1)) : Mt0 mX6_restore yX6_restore ids [aR (0, 0)] t0 (some (aI r)) t1 :=
  Mt_of (x := (r, t1)) (g_X6_restore ids Hn  H0_0 H1 H2 H3 t0) hf (fun _ _ => trivial) (by decide) rfl Hn (fun _ => rfl) (fun _ => Nat.le_of_ble_eq_true rfl)
theorem dX7_clearAll_0 : decode cX7_clearAll 0 = .ok (.aload_n 0, 1) := by decide +kernel
theorem dX7_clearAll_1 : decode cX7_clearAll 1 = .ok (.iconst 0, 1) := by decide +kernel
theorem dX7_clearAll_2 : decode cX7_clearAll 2 = .ok (.putfield 104, 3) := by decide +kernel
theorem dX7_clearAll_5 : decode cX7_clearAll 5 = .ok (.iconst 0, 1) := by decide +kernel
theorem dX7_clearAll_6 : decode cX7_clearAll 6 = .ok (.istore_n 1, 1) := by decide +kernel
theorem dX7_clearAll_7 : decode cX7_clearAll 7 = .ok (.iload_n 1, 1) := by decide +kernel
theorem dX7_clearAll_8 : decode cX7_clearAll 8 = .ok (.bipush 24, 2) := by decide +kernel
theorem dX7_clearAll_10 : decode cX7_clearAll 10 = .ok (.if_icmp .ge 79, 3) := by decide +kernel
theorem dX7_clearAll_13 : decode cX7_clearAll 13 = .ok (.aload_n 0, 1) := by decide +kernel
theorem dX7_clearAll_14 : decode cX7_clearAll 14 = .ok (.getfield 16, 3) := by decide +kernel
theorem dX7_clearAll_17 : decode cX7_clearAll 17 = .ok (.iload_n 1, 1) := by decide +kernel
theorem dX7_clearAll_18 : decode cX7_clearAll 18 = .ok (.iconst 0, 1) := by decide +kernel
theorem dX7_clearAll_19 : decode cX7_clearAll 19 = .ok (.iastore, 1) := by decide +kernel
theorem dX7_clearAll_20 : decode cX7_clearAll 20 = .ok (.aload_n 0, 1) := by decide +kernel
theorem dX7_clearAll_21 : decode cX7_clearAll 21 = .ok (.getfield 20, 3) := by decide +kernel
theorem dX7_clearAll_24 : decode cX7_clearAll 24 = .ok (.iload_n 1, 1) := by decide +kernel
theorem dX7_clearAll_25 : decode cX7_clearAll 25 = .ok (.iconst 0, 1) := by decide +kernel
theorem dX7_clearAll_26 : decode cX7_clearAll 26 = .ok (.iastore, 1) := by decide +kernel
theorem dX7_clearAll_27 : decode cX7_clearAll 27 = .ok (.aload_n 0, 1) := by decide +kernel
theorem dX7_clearAll_28 : decode cX7_clearAll 28 = .ok (.getfield 23, 3) := by decide +kernel
theorem dX7_clearAll_31 : decode cX7_clearAll 31 = .ok (.iload_n 1, 1) := by decide +kernel
theorem dX7_clearAll_32 : decode cX7_clearAll 32 = .ok (.iconst 0, 1) := by decide +kernel
theorem dX7_clearAll_33 : decode cX7_clearAll 33 = .ok (.iastore, 1) := by decide +kernel
theorem dX7_clearAll_34 : decode cX7_clearAll 34 = .ok (.aload_n 0, 1) := by decide +kernel
theorem dX7_clearAll_35 : decode cX7_clearAll 35 = .ok (.getfield 26, 3) := by decide +kernel
theorem dX7_clearAll_38 : decode cX7_clearAll 38 = .ok (.iload_n 1, 1) := by decide +kernel
theorem dX7_clearAll_39 : decode cX7_clearAll 39 = .ok (.iconst 0, 1) := by decide +kernel
theorem dX7_clearAll_40 : decode cX7_clearAll 40 = .ok (.iastore, 1) := by decide +kernel
theorem dX7_clearAll_41 : decode cX7_clearAll 41 = .ok (.aload_n 0, 1) := by decide +kernel
theorem dX7_clearAll_42 : decode cX7_clearAll 42 = .ok (.getfield 29, 3) := by decide +kernel
theorem dX7_clearAll_45 : decode cX7_clearAll 45 = .ok (.iload_n 1, 1) := by decide +kernel
theorem dX7_clearAll_46 : decode cX7_clearAll 46 = .ok (.iconst 0, 1) := by decide +kernel
theorem dX7_clearAll_47 : decode cX7_clearAll 47 = .ok (.iastore, 1) := by decide +kernel
theorem dX7_clearAll_48 : decode cX7_clearAll 48 = .ok (.aload_n 0, 1) := by decide +kernel
theorem dX7_clearAll_49 : decode cX7_clearAll 49 = .ok (.getfield 32, 3) := by decide +kernel
theorem dX7_clearAll_52 : decode cX7_clearAll 52 = .ok (.iload_n 1, 1) := by decide +kernel
theorem dX7_clearAll_53 : decode cX7_clearAll 53 = .ok (.iconst 4, 1) := by decide +kernel
theorem dX7_clearAll_54 : decode cX7_clearAll 54 = .ok (.iload_n 1, 1) := by decide +kernel
theorem dX7_clearAll_55 : decode cX7_clearAll 55 = .ok (.aload_n 0, 1) := by decide +kernel
theorem dX7_clearAll_56 : decode cX7_clearAll 56 = .ok (.getfield 13, 3) := by decide +kernel
theorem dX7_clearAll_59 : decode cX7_clearAll 59 = .ok (.idiv, 1) := by decide +kernel
theorem dX7_clearAll_60 : decode cX7_clearAll 60 = .ok (.imul, 1) := by decide +kernel
theorem dX7_clearAll_61 : decode cX7_clearAll 61 = .ok (.iload_n 1, 1) := by decide +kernel
theorem dX7_clearAll_62 : decode cX7_clearAll 62 = .ok (.aload_n 0, 1) := by decide +kernel
theorem dX7_clearAll_63 : decode cX7_clearAll 63 = .ok (.getfield 13, 3) := by decide +kernel
theorem dX7_clearAll_66 : decode cX7_clearAll 66 = .ok (.irem, 1) := by decide +kernel
theorem dX7_clearAll_67 : decode cX7_clearAll 67 = .ok (.iadd, 1) := by decide +kernel
theorem dX7_clearAll_68 : decode cX7_clearAll 68 = .ok (.iastore, 1) := by decide +kernel
theorem dX7_clearAll_69 : decode cX7_clearAll 69 = .ok (.aload_n 0, 1) := by decide +kernel
theorem dX7_clearAll_70 : decode cX7_clearAll 70 = .ok (.getfield 35, 3) := by decide +kernel
theorem dX7_clearAll_73 : decode cX7_clearAll 73 = .ok (.iload_n 1, 1) := by decide +kernel
theorem dX7_clearAll_74 : decode cX7_clearAll 74 = .ok (.iconst 0, 1) := by decide +kernel
theorem dX7_clearAll_75 : decode cX7_clearAll 75 = .ok (.iastore, 1) := by decide +kernel
theorem dX7_clearAll_76 : decode cX7_clearAll 76 = .ok (.aload_n 0, 1) := by decide +kernel
theorem dX7_clearAll_77 : decode cX7_clearAll 77 = .ok (.getfield 38, 3) := by decide +kernel
theorem dX7_clearAll_80 : decode cX7_clearAll 80 = .ok (.iload_n 1, 1) := by decide +kernel
theorem dX7_clearAll_81 : decode cX7_clearAll 81 = .ok (.iconst 0, 1) := by decide +kernel
theorem dX7_clearAll_82 : decode cX7_clearAll 82 = .ok (.iastore, 1) := by decide +kernel
theorem dX7_clearAll_83 : decode cX7_clearAll 83 = .ok (.iinc 1 1, 3) := by decide +kernel
theorem dX7_clearAll_86 : decode cX7_clearAll 86 = .ok (.goto (-79), 3) := by decide +kernel
theorem dX7_clearAll_89 : decode cX7_clearAll 89 = .ok (.iconst 0, 1) := by decide +kernel
theorem dX7_clearAll_90 : decode cX7_clearAll 90 = .ok (.istore_n 1, 1) := by decide +kernel
theorem dX7_clearAll_91 : decode cX7_clearAll 91 = .ok (.iload_n 1, 1) := by decide +kernel
theorem dX7_clearAll_92 : decode cX7_clearAll 92 = .ok (.sipush 576, 3) := by decide +kernel
theorem dX7_clearAll_95 : decode cX7_clearAll 95 = .ok (.if_icmp .ge 16, 3) := by decide +kernel
theorem dX7_clearAll_98 : decode cX7_clearAll 98 = .ok (.aload_n 0, 1) := by decide +kernel
theorem dX7_clearAll_99 : decode cX7_clearAll 99 = .ok (.getfield 41, 3) := by decide +kernel
theorem dX7_clearAll_102 : decode cX7_clearAll 102 = .ok (.iload_n 1, 1) := by decide +kernel
theorem dX7_clearAll_103 : decode cX7_clearAll 103 = .ok (.iconst 0, 1) := by decide +kernel
theorem dX7_clearAll_104 : decode cX7_clearAll 104 = .ok (.iastore, 1) := by decide +kernel
theorem dX7_clearAll_105 : decode cX7_clearAll 105 = .ok (.iinc 1 1, 3) := by decide +kernel
theorem dX7_clearAll_108 : decode cX7_clearAll 108 = .ok (.goto (-17), 3) := by decide +kernel
theorem dX7_clearAll_111 : decode cX7_clearAll 111 = .ok (.return_, 1) := by decide +kernel
set_option maxRecDepth 100000 in
set_option maxHeartbeats 4000000 in
theorem g_X7_clearAll_91 (ids : List (Nat × Nat)) (Hn : Ndp ids)  (H0_29 : InR ids 0 29 56)  : ∀ (n : Nat) (v1 : Int32) (t0 : Sg), Gj kV mX7_clearAll ids 91 [some (aR (0, 29)), some (aI v1)] [] t0 (f_X7_clearAll_91 n v1 t0) := by
  intro n
  induction n with
  | zero => intro v1 t0; exact G_none
  | succ n ih =>
    intro v1 t0
    rw [f_X7_clearAll_91]
    refine G_st (x_iload_n dX7_clearAll_91 rfl) ?_
    refine G_st (x_sipush (576 : Int32) dX7_clearAll_92 rfl) ?_
    refine G_ite (fun c3 => ?_) (fun c3 => ?_)
    · refine G_st (x_icmp_ge_t (tgt := 111) dX7_clearAll_95 (by decide) c3) ?_
      exact G_ret rfl ⟨rfl, dX7_clearAll_111⟩ rfl
    · refine G_st (x_icmp_ge_f 111 dX7_clearAll_95 (by decide) c3) ?_
      refine G_st (x_aload_n dX7_clearAll_98 rfl) ?_
      refine G_st (x_get (k := 13) (aR (0, 38)) dX7_clearAll_99 (H0_29 29 (Nat.le_of_ble_eq_true rfl) (Nat.le_of_ble_eq_true rfl)) rfl rfl rfl rfl inTX7 (Nat.le_of_ble_eq_true rfl) tw_860 (fun ad => rfl)) ?_
      refine G_st (x_iload_n dX7_clearAll_102 rfl) ?_
      refine G_st (x_iconst (0 : Int32) dX7_clearAll_103 rfl) ?_
      refine G_chk (fun c4 => ?_)
      refine G_st (x_iastore dX7_clearAll_104 (H0_29 38 (Nat.le_of_ble_eq_true rfl) (Nat.le_of_ble_eq_true rfl)) rfl c4) ?_
      refine G_bvS (fun t5 => ?_)
      refine G_st (x_iinc (v1 + (1 : Int32)) [some (aR (0, 29)), some (aI (v1 + (1 : Int32)))] dX7_clearAll_105 (Nat.le_of_ble_eq_true rfl) rfl rfl rfl rfl) ?_
      refine G_st (x_goto (tgt := 91) dX7_clearAll_108 (by decide)) ?_
      refine G_weak _ ?_ ((ih) (v1 + (1 : Int32)) t5)
      exact (leL_s (leL_s (leL_e _)))
set_option maxRecDepth 100000 in
set_option maxHeartbeats 4000000 in
theorem g_X7_clearAll_7 (ids : List (Nat × Nat)) (Hn : Ndp ids)  (H0_29 : InR ids 0 29 56)  : ∀ (n : Nat) (v1 : Int32) (t0 : Sg), Gj kV mX7_clearAll ids 7 [some (aR (0, 29)), some (aI v1)] [] t0 (f_X7_clearAll_7 n v1 t0) := by
  intro n
  induction n with
  | zero => intro v1 t0; exact G_none
  | succ n ih =>
    intro v1 t0
    rw [f_X7_clearAll_7]
    refine G_st (x_iload_n dX7_clearAll_7 rfl) ?_
    refine G_st (x_bipush (24 : Int32) dX7_clearAll_8 rfl) ?_
    refine G_ite (fun c2 => ?_) (fun c2 => ?_)
    · refine G_st (x_icmp_ge_t (tgt := 89) dX7_clearAll_10 (by decide) c2) ?_
      refine G_st (x_iconst (0 : Int32) dX7_clearAll_89 rfl) ?_
      refine G_st (x_istore_n [some (aR (0, 29)), some (aI (0 : Int32))] dX7_clearAll_90 (Nat.le_of_ble_eq_true rfl) rfl rfl) ?_
      refine G_weak _ ?_ (g_X7_clearAll_91 ids Hn H0_29 fuel (0 : Int32) t0)
      exact (leL_s (leL_s (leL_e _)))
    · refine G_st (x_icmp_ge_f 89 dX7_clearAll_10 (by decide) c2) ?_
      refine G_st (x_aload_n dX7_clearAll_13 rfl) ?_
      refine G_st (x_get (k := 5) (aR (0, 30)) dX7_clearAll_14 (H0_29 29 (Nat.le_of_ble_eq_true rfl) (Nat.le_of_ble_eq_true rfl)) rfl rfl rfl rfl inTX7 (Nat.le_of_ble_eq_true rfl) tw_852 (fun ad => rfl)) ?_
      refine G_st (x_iload_n dX7_clearAll_17 rfl) ?_
      refine G_st (x_iconst (0 : Int32) dX7_clearAll_18 rfl) ?_
      refine G_chk (fun c6 => ?_)
      refine G_st (x_iastore dX7_clearAll_19 (H0_29 30 (Nat.le_of_ble_eq_true rfl) (Nat.le_of_ble_eq_true rfl)) rfl c6) ?_
      refine G_bvS (fun t7 => ?_)
      refine G_st (x_aload_n dX7_clearAll_20 rfl) ?_
      refine G_st (x_get (k := 6) (aR (0, 31)) dX7_clearAll_21 (H0_29 29 (Nat.le_of_ble_eq_true rfl) (Nat.le_of_ble_eq_true rfl)) rfl rfl rfl rfl inTX7 (Nat.le_of_ble_eq_true rfl) tw_853 (fun ad => rfl)) ?_
      refine G_st (x_iload_n dX7_clearAll_24 rfl) ?_
      refine G_st (x_iconst (0 : Int32) dX7_clearAll_25 rfl) ?_
      refine G_chk (fun c8 => ?_)
      refine G_st (x_iastore dX7_clearAll_26 (H0_29 31 (Nat.le_of_ble_eq_true rfl) (Nat.le_of_ble_eq_true rfl)) rfl c8) ?_
      refine G_bvS (fun t9 => ?_)
      refine G_st (x_aload_n dX7_clearAll_27 rfl) ?_
      refine G_st (x_get (k := 7) (aR (0, 32)) dX7_clearAll_28 (H0_29 29 (Nat.le_of_ble_eq_true rfl) (Nat.le_of_ble_eq_true rfl)) rfl rfl rfl rfl inTX7 (Nat.le_of_ble_eq_true rfl) tw_854 (fun ad => rfl)) ?_
      refine G_st (x_iload_n dX7_clearAll_31 rfl) ?_
      refine G_st (x_iconst (0 : Int32) dX7_clearAll_32 rfl) ?_
      refine G_chk (fun c10 => ?_)
      refine G_st (x_iastore dX7_clearAll_33 (H0_29 32 (Nat.le_of_ble_eq_true rfl) (Nat.le_of_ble_eq_true rfl)) rfl c10) ?_
      refine G_bvS (fun t11 => ?_)
      refine G_st (x_aload_n dX7_clearAll_34 rfl) ?_
      refine G_st (x_get (k := 8) (aR (0, 33)) dX7_clearAll_35 (H0_29 29 (Nat.le_of_ble_eq_true rfl) (Nat.le_of_ble_eq_true rfl)) rfl rfl rfl rfl inTX7 (Nat.le_of_ble_eq_true rfl) tw_855 (fun ad => rfl)) ?_
      refine G_st (x_iload_n dX7_clearAll_38 rfl) ?_
      refine G_st (x_iconst (0 : Int32) dX7_clearAll_39 rfl) ?_
      refine G_chk (fun c12 => ?_)
      refine G_st (x_iastore dX7_clearAll_40 (H0_29 33 (Nat.le_of_ble_eq_true rfl) (Nat.le_of_ble_eq_true rfl)) rfl c12) ?_
      refine G_bvS (fun t13 => ?_)
      refine G_st (x_aload_n dX7_clearAll_41 rfl) ?_
      refine G_st (x_get (k := 9) (aR (0, 34)) dX7_clearAll_42 (H0_29 29 (Nat.le_of_ble_eq_true rfl) (Nat.le_of_ble_eq_true rfl)) rfl rfl rfl rfl inTX7 (Nat.le_of_ble_eq_true rfl) tw_856 (fun ad => rfl)) ?_
      refine G_st (x_iload_n dX7_clearAll_45 rfl) ?_
      refine G_st (x_iconst (0 : Int32) dX7_clearAll_46 rfl) ?_
      refine G_chk (fun c14 => ?_)
      refine G_st (x_iastore dX7_clearAll_47 (H0_29 34 (Nat.le_of_ble_eq_true rfl) (Nat.le_of_ble_eq_true rfl)) rfl c14) ?_
      refine G_bvS (fun t15 => ?_)
      refine G_st (x_aload_n dX7_clearAll_48 rfl) ?_
      refine G_st (x_get (k := 10) (aR (0, 35)) dX7_clearAll_49 (H0_29 29 (Nat.le_of_ble_eq_true rfl) (Nat.le_of_ble_eq_true rfl)) rfl rfl rfl rfl inTX7 (Nat.le_of_ble_eq_true rfl) tw_857 (fun ad => rfl)) ?_
      refine G_st (x_iload_n dX7_clearAll_52 rfl) ?_
      refine G_st (x_iconst (4 : Int32) dX7_clearAll_53 rfl) ?_
      refine G_st (x_iload_n dX7_clearAll_54 rfl) ?_
      refine G_st (x_aload_n dX7_clearAll_55 rfl) ?_
      refine G_st (x_get (k := 1) (aI (t15 (0, 29) 1)) dX7_clearAll_56 (H0_29 29 (Nat.le_of_ble_eq_true rfl) (Nat.le_of_ble_eq_true rfl)) rfl rfl rfl rfl inTX7 (Nat.le_of_ble_eq_true rfl) tw_848 (fun ad => rfl)) ?_
      refine G_chk (fun c16 => ?_)
      refine G_st (x_idiv dX7_clearAll_59 c16) ?_
      refine G_st (x_imul dX7_clearAll_60) ?_
      refine G_st (x_iload_n dX7_clearAll_61 rfl) ?_
      refine G_st (x_aload_n dX7_clearAll_62 rfl) ?_
      refine G_st (x_get (k := 1) (aI (t15 (0, 29) 1)) dX7_clearAll_63 (H0_29 29 (Nat.le_of_ble_eq_true rfl) (Nat.le_of_ble_eq_true rfl)) rfl rfl rfl rfl inTX7 (Nat.le_of_ble_eq_true rfl) tw_848 (fun ad => rfl)) ?_
      refine G_chk (fun c17 => ?_)
      refine G_st (x_irem dX7_clearAll_66 c17) ?_
      refine G_st (x_iadd dX7_clearAll_67) ?_
      refine G_chk (fun c18 => ?_)
      refine G_st (x_iastore dX7_clearAll_68 (H0_29 35 (Nat.le_of_ble_eq_true rfl) (Nat.le_of_ble_eq_true rfl)) rfl c18) ?_
      refine G_bvS (fun t19 => ?_)
      refine G_st (x_aload_n dX7_clearAll_69 rfl) ?_
      refine G_st (x_get (k := 11) (aR (0, 36)) dX7_clearAll_70 (H0_29 29 (Nat.le_of_ble_eq_true rfl) (Nat.le_of_ble_eq_true rfl)) rfl rfl rfl rfl inTX7 (Nat.le_of_ble_eq_true rfl) tw_858 (fun ad => rfl)) ?_
      refine G_st (x_iload_n dX7_clearAll_73 rfl) ?_
      refine G_st (x_iconst (0 : Int32) dX7_clearAll_74 rfl) ?_
      refine G_chk (fun c20 => ?_)
      refine G_st (x_iastore dX7_clearAll_75 (H0_29 36 (Nat.le_of_ble_eq_true rfl) (Nat.le_of_ble_eq_true rfl)) rfl c20) ?_
      refine G_bvS (fun t21 => ?_)
      refine G_st (x_aload_n dX7_clearAll_76 rfl) ?_
      refine G_st (x_get (k := 12) (aR (0, 37)) dX7_clearAll_77 (H0_29 29 (Nat.le_of_ble_eq_true rfl) (Nat.le_of_ble_eq_true rfl)) rfl rfl rfl rfl inTX7 (Nat.le_of_ble_eq_true rfl) tw_859 (fun ad => rfl)) ?_
      refine G_st (x_iload_n dX7_clearAll_80 rfl) ?_
      refine G_st (x_iconst (0 : Int32) dX7_clearAll_81 rfl) ?_
      refine G_chk (fun c22 => ?_)
      refine G_st (x_iastore dX7_clearAll_82 (H0_29 37 (Nat.le_of_ble_eq_true rfl) (Nat.le_of_ble_eq_true rfl)) rfl c22) ?_
      refine G_bvS (fun t23 => ?_)
      refine G_st (x_iinc (v1 + (1 : Int32)) [some (aR (0, 29)), some (aI (v1 + (1 : Int32)))] dX7_clearAll_83 (Nat.le_of_ble_eq_true rfl) rfl rfl rfl rfl) ?_
      refine G_st (x_goto (tgt := 7) dX7_clearAll_86 (by decide)) ?_
      refine G_weak _ ?_ ((ih) (v1 + (1 : Int32)) t23)
      exact (leL_s (leL_s (leL_e _)))
set_option maxRecDepth 100000 in
set_option maxHeartbeats 4000000 in
theorem g_X7_clearAll (ids : List (Nat × Nat)) (Hn : Ndp ids)  (H0_29 : InR ids 0 29 56) (t0 : Sg) : Gj kV mX7_clearAll ids 0 [some (aR (0, 29)), none] [] t0 (f_X7_clearAll t0) := by
  unfold f_X7_clearAll
  refine G_st (x_aload_n dX7_clearAll_0 rfl) ?_
  refine G_st (x_iconst (0 : Int32) dX7_clearAll_1 rfl) ?_
  refine G_st (x_put (k := 4) (ty := .int) (v := aI (0 : Int32)) (z := (0 : Int32)) (upS t0 (0, 29) 4 (0 : Int32)) dX7_clearAll_2 (H0_29 29 (Nat.le_of_ble_eq_true rfl) (Nat.le_of_ble_eq_true rfl)) rfl rfl rfl rfl inTX7 tyX7_ok nmX7 (Nat.le_of_ble_eq_true rfl) tw_851 rfl rfl (fun ad => rfl) (fun ad => rfl) (fun ad => put_i0 ad _ _ _ _ rfl) rfl) ?_
  refine G_bvS (fun t1 => ?_)
  refine G_st (x_iconst (0 : Int32) dX7_clearAll_5 rfl) ?_
  refine G_st (x_istore_n [some (aR (0, 29)), some (aI (0 : Int32))] dX7_clearAll_6 (Nat.le_of_ble_eq_true rfl) rfl rfl) ?_
  refine G_weak _ ?_ (g_X7_clearAll_7 ids Hn H0_29 fuel (0 : Int32) t1)
  exact (leL_s (leL_s (leL_e _)))
set_option maxRecDepth 100000 in
set_option maxHeartbeats 4000000 in
theorem c_X7_clearAll (ids : List (Nat × Nat)) (Hn : Ndp ids)  (H0_29 : InR ids 0 29 56) (t0 : Sg) (r : Unit) (t1 : Sg) (hf : f_X7_clearAll t0 = some (r, t1)) : Mt0 mX7_clearAll yX7_clearAll ids [aR (0, 29)] t0 none t1 :=
  Mt_of (x := (r, t1)) (g_X7_clearAll ids Hn  H0_29 t0) hf (fun _ _ => trivial) (by decide) rfl Hn (fun _ => rfl) (fun _ => Nat.le_of_ble_eq_true rfl)
theorem dX7_in_0 : decode cX7_in 0 = .ok (.lload_n 0, 1) := by decide +kernel
theorem dX7_in_1 : decode cX7_in 1 = .ok (.lload_n 2, 1) := by decide +kernel
theorem dX7_in_2 : decode cX7_in 2 = .ok (.lcmp, 1) := by decide +kernel
theorem dX7_in_3 : decode cX7_in 3 = .ok (.ifCond .lt 14, 3) := by decide +kernel
theorem dX7_in_6 : decode cX7_in 6 = .ok (.lload_n 0, 1) := by decide +kernel
theorem dX7_in_7 : decode cX7_in 7 = .ok (.lload 4, 2) := by decide +kernel
theorem dX7_in_9 : decode cX7_in 9 = .ok (.lcmp, 1) := by decide +kernel
theorem dX7_in_10 : decode cX7_in 10 = .ok (.ifCond .gt 7, 3) := by decide +kernel
theorem dX7_in_13 : decode cX7_in 13 = .ok (.iconst 1, 1) := by decide +kernel
theorem dX7_in_14 : decode cX7_in 14 = .ok (.goto 4, 3) := by decide +kernel
theorem dX7_in_17 : decode cX7_in 17 = .ok (.iconst 0, 1) := by decide +kernel
theorem dX7_in_18 : decode cX7_in 18 = .ok (.ireturn, 1) := by decide +kernel
set_option maxRecDepth 100000 in
set_option maxHeartbeats 4000000 in
theorem g_X7_in (ids : List (Nat × Nat)) (Hn : Ndp ids) (v0 : Int64) (v2 : Int64) (v4 : Int64)  (t0 : Sg) : Gj kI mX7_in ids 0 [some (aL v0), none, some (aL v2), none, some (aL v4), none] [] t0 (f_X7_in v0 v2 v4 t0) := by
  unfold f_X7_in
  refine G_st (x_lload_n dX7_in_0 rfl) ?_
  refine G_st (x_lload_n dX7_in_1 rfl) ?_
  refine G_st (x_lcmp dX7_in_2) ?_
  have e3 : Tj mX7_in ids 3 [some (aL v0), none, some (aL v2), none, some (aL v4), none] [aI (lg_cmp v0 v2)] t0 18 [some (aL v0), none, some (aL v2), none, some (aL v4), none] [aI (if (lg_cmp v0 v2) < 0 then (0 : Int32) else (if 0 < (lg_cmp v0 v4) then (0 : Int32) else (1 : Int32)))] t0 := by
    refine Tj.dia (fun c1 => ?_) (fun c1 => ?_)
    · refine Tj.tr (x_if_lt_t (tgt := 17) dX7_in_3 (by decide) c1) ?_
      refine Tj.tr (x_iconst (0 : Int32) dX7_in_17 rfl) ?_
      exact Tj.rf
    · refine Tj.tr (x_if_lt_f 17 dX7_in_3 (by decide) c1) ?_
      refine Tj.tr (x_lload_n dX7_in_6 rfl) ?_
      refine Tj.tr (x_lload dX7_in_7 rfl) ?_
      refine Tj.tr (x_lcmp dX7_in_9) ?_
      refine Tj.dia (fun c2 => ?_) (fun c2 => ?_)
      · refine Tj.tr (x_if_gt_t (tgt := 17) dX7_in_10 (by decide) c2) ?_
        refine Tj.tr (x_iconst (0 : Int32) dX7_in_17 rfl) ?_
        exact Tj.rf
      · refine Tj.tr (x_if_gt_f 17 dX7_in_10 (by decide) c2) ?_
        refine Tj.tr (x_iconst (1 : Int32) dX7_in_13 rfl) ?_
        refine Tj.tr (x_goto (tgt := 18) dX7_in_14 (by decide)) ?_
        exact Tj.rf
  refine G_st e3 ?_
  exact G_ret rfl ⟨dX7_in_18, _, rfl, nar_b (b_ite (Or.inl rfl) (b_ite (Or.inl rfl) (Or.inr rfl)))⟩ rfl
set_option maxRecDepth 100000 in
set_option maxHeartbeats 4000000 in
theorem c_X7_in (ids : List (Nat × Nat)) (Hn : Ndp ids) (v0 : Int64) (v2 : Int64) (v4 : Int64)  (t0 : Sg) (r : Int32) (t1 : Sg) (hf : f_X7_in v0 v2 v4 t0 = some (r, t1)) : Mt0 mX7_in yX7_in ids [aL v0, aL v2, aL v4] t0 (some (aI r)) t1 :=
  Mt_of (x := (r, t1)) (g_X7_in ids Hn v0 v2 v4  t0) hf (fun _ _ => trivial) (by decide) rfl Hn (fun _ => rfl) (fun _ => Nat.le_of_ble_eq_true rfl)
theorem dX7_refuse_0 : decode cX7_refuse 0 = .ok (.aload_n 0, 1) := by decide +kernel
theorem dX7_refuse_1 : decode cX7_refuse 1 = .ok (.getfield 56, 3) := by decide +kernel
theorem dX7_refuse_4 : decode cX7_refuse 4 = .ok (.iload_n 1, 1) := by decide +kernel
theorem dX7_refuse_5 : decode cX7_refuse 5 = .ok (.ineg, 1) := by decide +kernel
theorem dX7_refuse_6 : decode cX7_refuse 6 = .ok (.dup2, 1) := by decide +kernel
theorem dX7_refuse_7 : decode cX7_refuse 7 = .ok (.iaload, 1) := by decide +kernel
theorem dX7_refuse_8 : decode cX7_refuse 8 = .ok (.iconst 1, 1) := by decide +kernel
theorem dX7_refuse_9 : decode cX7_refuse 9 = .ok (.iadd, 1) := by decide +kernel
theorem dX7_refuse_10 : decode cX7_refuse 10 = .ok (.iastore, 1) := by decide +kernel
theorem dX7_refuse_11 : decode cX7_refuse 11 = .ok (.iload_n 1, 1) := by decide +kernel
theorem dX7_refuse_12 : decode cX7_refuse 12 = .ok (.ireturn, 1) := by decide +kernel
set_option maxRecDepth 100000 in
set_option maxHeartbeats 4000000 in
theorem g_X7_refuse (ids : List (Nat × Nat)) (Hn : Ndp ids) (v1 : Int32) (H0_29 : InR ids 0 29 56) (t0 : Sg) : Gj kI mX7_refuse ids 0 [some (aR (0, 29)), some (aI v1)] [] t0 (f_X7_refuse v1 t0) := by
  unfold f_X7_refuse
  refine G_st (x_aload_n dX7_refuse_0 rfl) ?_
  refine G_st (x_get (k := 19) (aR (0, 43)) dX7_refuse_1 (H0_29 29 (Nat.le_of_ble_eq_true rfl) (Nat.le_of_ble_eq_true rfl)) rfl rfl rfl rfl inTX7 (Nat.le_of_ble_eq_true rfl) tw_866 (fun ad => rfl)) ?_
  refine G_st (x_iload_n dX7_refuse_4 rfl) ?_
  refine G_st (x_ineg dX7_refuse_5) ?_
  refine G_st (x_dup2 dX7_refuse_6 rfl rfl) ?_
  refine G_chk (fun c1 => ?_)
  refine G_st (x_iaload dX7_refuse_7 (H0_29 43 (Nat.le_of_ble_eq_true rfl) (Nat.le_of_ble_eq_true rfl)) rfl c1) ?_
  refine G_st (x_iconst (1 : Int32) dX7_refuse_8 rfl) ?_
  refine G_st (x_iadd dX7_refuse_9) ?_
  refine G_chk (fun c2 => ?_)
  refine G_st (x_iastore dX7_refuse_10 (H0_29 43 (Nat.le_of_ble_eq_true rfl) (Nat.le_of_ble_eq_true rfl)) rfl c2) ?_
  refine G_bvS (fun t3 => ?_)
  refine G_st (x_iload_n dX7_refuse_11 rfl) ?_
  exact G_ret rfl ⟨dX7_refuse_12, _, rfl, rfl⟩ rfl
set_option maxRecDepth 100000 in
set_option maxHeartbeats 4000000 in
theorem c_X7_refuse (ids : List (Nat × Nat)) (Hn : Ndp ids) (v1 : Int32) (H0_29 : InR ids 0 29 56) (t0 : Sg) (r : Int32) (t1 : Sg) (hf : f_X7_refuse v1 t0 = some (r, t1)) : Mt0 mX7_refuse yX7_refuse ids [aR (0, 29), aI v1] t0 (some (aI r)) t1 :=
  Mt_of (x := (r, t1)) (g_X7_refuse ids Hn v1 H0_29 t0) hf (fun _ _ => trivial) (by decide) rfl Hn (fun _ => rfl) (fun _ => Nat.le_of_ble_eq_true rfl)
theorem dX7_tenants_0 : decode cX7_tenants 0 = .ok (.aload_n 0, 1) := by decide +kernel
theorem dX7_tenants_1 : decode cX7_tenants 1 = .ok (.getfield 7, 3) := by decide +kernel
theorem dX7_tenants_4 : decode cX7_tenants 4 = .ok (.aload_n 0, 1) := by decide +kernel
theorem dX7_tenants_5 : decode cX7_tenants 5 = .ok (.getfield 13, 3) := by decide +kernel
theorem dX7_tenants_8 : decode cX7_tenants 8 = .ok (.imul, 1) := by decide +kernel
theorem dX7_tenants_9 : decode cX7_tenants 9 = .ok (.ireturn, 1) := by decide +kernel
set_option maxRecDepth 100000 in
set_option maxHeartbeats 4000000 in
theorem g_X7_tenants (ids : List (Nat × Nat)) (Hn : Ndp ids)  (H0_29 : InR ids 0 29 56) (t0 : Sg) : Gj kI mX7_tenants ids 0 [some (aR (0, 29))] [] t0 (f_X7_tenants t0) := by
  unfold f_X7_tenants
  refine G_st (x_aload_n dX7_tenants_0 rfl) ?_
  refine G_st (x_get (k := 0) (aI (t0 (0, 29) 0)) dX7_tenants_1 (H0_29 29 (Nat.le_of_ble_eq_true rfl) (Nat.le_of_ble_eq_true rfl)) rfl rfl rfl rfl inTX7 (Nat.le_of_ble_eq_true rfl) tw_847 (fun ad => rfl)) ?_
  refine G_st (x_aload_n dX7_tenants_4 rfl) ?_
  refine G_st (x_get (k := 1) (aI (t0 (0, 29) 1)) dX7_tenants_5 (H0_29 29 (Nat.le_of_ble_eq_true rfl) (Nat.le_of_ble_eq_true rfl)) rfl rfl rfl rfl inTX7 (Nat.le_of_ble_eq_true rfl) tw_848 (fun ad => rfl)) ?_
  refine G_st (x_imul dX7_tenants_8) ?_
  exact G_ret rfl ⟨dX7_tenants_9, _, rfl, rfl⟩ rfl
set_option maxRecDepth 100000 in
set_option maxHeartbeats 4000000 in
theorem c_X7_tenants (ids : List (Nat × Nat)) (Hn : Ndp ids)  (H0_29 : InR ids 0 29 56) (t0 : Sg) (r : Int32) (t1 : Sg) (hf : f_X7_tenants t0 = some (r, t1)) : Mt0 mX7_tenants yX7_tenants ids [aR (0, 29)] t0 (some (aI r)) t1 :=
  Mt_of (x := (r, t1)) (g_X7_tenants ids Hn  H0_29 t0) hf (fun _ _ => trivial) (by decide) rfl Hn (fun _ => rfl) (fun _ => Nat.le_of_ble_eq_true rfl)
theorem dX7_flatAt_0 : decode cX7_flatAt 0 = .ok (.iload_n 1, 1) := by decide +kernel
theorem dX7_flatAt_1 : decode cX7_flatAt 1 = .ok (.ifCond .lt 29, 3) := by decide +kernel
theorem dX7_flatAt_4 : decode cX7_flatAt 4 = .ok (.iload_n 1, 1) := by decide +kernel
theorem dX7_flatAt_5 : decode cX7_flatAt 5 = .ok (.bipush 10, 2) := by decide +kernel
theorem dX7_flatAt_7 : decode cX7_flatAt 7 = .ok (.idiv, 1) := by decide +kernel
theorem dX7_flatAt_8 : decode cX7_flatAt 8 = .ok (.aload_n 0, 1) := by decide +kernel
theorem dX7_flatAt_9 : decode cX7_flatAt 9 = .ok (.getfield 7, 3) := by decide +kernel
theorem dX7_flatAt_12 : decode cX7_flatAt 12 = .ok (.if_icmp .ge 18, 3) := by decide +kernel
theorem dX7_flatAt_15 : decode cX7_flatAt 15 = .ok (.iload_n 1, 1) := by decide +kernel
theorem dX7_flatAt_16 : decode cX7_flatAt 16 = .ok (.bipush 10, 2) := by decide +kernel
theorem dX7_flatAt_18 : decode cX7_flatAt 18 = .ok (.irem, 1) := by decide +kernel
theorem dX7_flatAt_19 : decode cX7_flatAt 19 = .ok (.aload_n 0, 1) := by decide +kernel
theorem dX7_flatAt_20 : decode cX7_flatAt 20 = .ok (.getfield 13, 3) := by decide +kernel
theorem dX7_flatAt_23 : decode cX7_flatAt 23 = .ok (.if_icmp .ge 7, 3) := by decide +kernel
theorem dX7_flatAt_26 : decode cX7_flatAt 26 = .ok (.iconst 1, 1) := by decide +kernel
theorem dX7_flatAt_27 : decode cX7_flatAt 27 = .ok (.goto 4, 3) := by decide +kernel
theorem dX7_flatAt_30 : decode cX7_flatAt 30 = .ok (.iconst 0, 1) := by decide +kernel
theorem dX7_flatAt_31 : decode cX7_flatAt 31 = .ok (.istore_n 2, 1) := by decide +kernel
theorem dX7_flatAt_32 : decode cX7_flatAt 32 = .ok (.iload_n 2, 1) := by decide +kernel
theorem dX7_flatAt_33 : decode cX7_flatAt 33 = .ok (.ifCond .eq 17, 3) := by decide +kernel
theorem dX7_flatAt_36 : decode cX7_flatAt 36 = .ok (.iconst 4, 1) := by decide +kernel
theorem dX7_flatAt_37 : decode cX7_flatAt 37 = .ok (.iload_n 1, 1) := by decide +kernel
theorem dX7_flatAt_38 : decode cX7_flatAt 38 = .ok (.bipush 10, 2) := by decide +kernel
theorem dX7_flatAt_40 : decode cX7_flatAt 40 = .ok (.idiv, 1) := by decide +kernel
theorem dX7_flatAt_41 : decode cX7_flatAt 41 = .ok (.imul, 1) := by decide +kernel
theorem dX7_flatAt_42 : decode cX7_flatAt 42 = .ok (.iload_n 1, 1) := by decide +kernel
theorem dX7_flatAt_43 : decode cX7_flatAt 43 = .ok (.bipush 10, 2) := by decide +kernel
theorem dX7_flatAt_45 : decode cX7_flatAt 45 = .ok (.irem, 1) := by decide +kernel
theorem dX7_flatAt_46 : decode cX7_flatAt 46 = .ok (.iadd, 1) := by decide +kernel
theorem dX7_flatAt_47 : decode cX7_flatAt 47 = .ok (.goto 4, 3) := by decide +kernel
theorem dX7_flatAt_50 : decode cX7_flatAt 50 = .ok (.iconst (-1), 1) := by decide +kernel
theorem dX7_flatAt_51 : decode cX7_flatAt 51 = .ok (.ireturn, 1) := by decide +kernel
set_option maxRecDepth 100000 in
set_option maxHeartbeats 4000000 in
theorem g_X7_flatAt_31 (ids : List (Nat × Nat)) (Hn : Ndp ids)  (H0_29 : InR ids 0 29 56)  (v1 : Int32) (w0 : Int32) (t0 : Sg) : Gj kI mX7_flatAt ids 31 [none, some (aI v1), none] [aI w0] t0 (f_X7_flatAt_31 v1 w0 t0) := by
  unfold f_X7_flatAt_31
  refine G_st (x_istore_n [none, some (aI v1), some (aI w0)] dX7_flatAt_31 (Nat.le_of_ble_eq_true rfl) rfl rfl) ?_
  refine G_st (x_iload_n dX7_flatAt_32 rfl) ?_
  refine G_ite (fun c2 => ?_) (fun c2 => ?_)
  · refine G_st (x_if_eq_t (tgt := 50) dX7_flatAt_33 (by decide) c2) ?_
    refine G_st (x_iconst (-1 : Int32) dX7_flatAt_50 rfl) ?_
    exact G_ret rfl ⟨dX7_flatAt_51, _, rfl, rfl⟩ rfl
  · refine G_st (x_if_eq_f 50 dX7_flatAt_33 (by decide) c2) ?_
    refine G_st (x_iconst (4 : Int32) dX7_flatAt_36 rfl) ?_
    refine G_st (x_iload_n dX7_flatAt_37 rfl) ?_
    refine G_st (x_bipush (10 : Int32) dX7_flatAt_38 rfl) ?_
    refine G_st (x_idiv dX7_flatAt_40 (by decide)) ?_
    refine G_st (x_imul dX7_flatAt_41) ?_
    refine G_st (x_iload_n dX7_flatAt_42 rfl) ?_
    refine G_st (x_bipush (10 : Int32) dX7_flatAt_43 rfl) ?_
    refine G_st (x_irem dX7_flatAt_45 (by decide)) ?_
    refine G_st (x_iadd dX7_flatAt_46) ?_
    refine G_st (x_goto (tgt := 51) dX7_flatAt_47 (by decide)) ?_
    exact G_ret rfl ⟨dX7_flatAt_51, _, rfl, rfl⟩ rfl
set_option maxRecDepth 100000 in
set_option maxHeartbeats 4000000 in
theorem g_X7_flatAt_30 (ids : List (Nat × Nat)) (Hn : Ndp ids)  (H0_29 : InR ids 0 29 56)  (v1 : Int32) (t0 : Sg) : Gj kI mX7_flatAt ids 30 [none, some (aI v1), none] [] t0 (f_X7_flatAt_30 v1 t0) := by
  unfold f_X7_flatAt_30
  refine G_st (x_iconst (0 : Int32) dX7_flatAt_30 rfl) ?_
  refine G_weak _ ?_ (g_X7_flatAt_31 ids Hn H0_29 v1 (0 : Int32) t0)
  exact (leL_n (leL_s (leL_n (leL_e _))))
set_option maxRecDepth 100000 in
set_option maxHeartbeats 4000000 in
theorem g_X7_flatAt (ids : List (Nat × Nat)) (Hn : Ndp ids) (v1 : Int32) (H0_29 : InR ids 0 29 56) (t0 : Sg) : Gj kI mX7_flatAt ids 0 [some (aR (0, 29)), some (aI v1), none] [] t0 (f_X7_flatAt v1 t0) := by
  unfold f_X7_flatAt
  refine G_st (x_iload_n dX7_flatAt_0 rfl) ?_
  refine G_ite (fun c1 => ?_) (fun c1 => ?_)
  · refine G_st (x_if_lt_t (tgt := 30) dX7_flatAt_1 (by decide) c1) ?_
    refine G_weak _ ?_ (g_X7_flatAt_30 ids Hn H0_29 v1 t0)
    exact (leL_n (leL_s (leL_n (leL_e _))))
  · refine G_st (x_if_lt_f 30 dX7_flatAt_1 (by decide) c1) ?_
    refine G_st (x_iload_n dX7_flatAt_4 rfl) ?_
    refine G_st (x_bipush (10 : Int32) dX7_flatAt_5 rfl) ?_
    refine G_st (x_idiv dX7_flatAt_7 (by decide)) ?_
    refine G_st (x_aload_n dX7_flatAt_8 rfl) ?_
    refine G_st (x_get (k := 0) (aI (t0 (0, 29) 0)) dX7_flatAt_9 (H0_29 29 (Nat.le_of_ble_eq_true rfl) (Nat.le_of_ble_eq_true rfl)) rfl rfl rfl rfl inTX7 (Nat.le_of_ble_eq_true rfl) tw_847 (fun ad => rfl)) ?_
    refine G_ite (fun c3 => ?_) (fun c3 => ?_)
    · refine G_st (x_icmp_ge_t (tgt := 30) dX7_flatAt_12 (by decide) c3) ?_
      refine G_weak _ ?_ (g_X7_flatAt_30 ids Hn H0_29 v1 t0)
      exact (leL_n (leL_s (leL_n (leL_e _))))
    · refine G_st (x_icmp_ge_f 30 dX7_flatAt_12 (by decide) c3) ?_
      refine G_st (x_iload_n dX7_flatAt_15 rfl) ?_
      refine G_st (x_bipush (10 : Int32) dX7_flatAt_16 rfl) ?_
      refine G_st (x_irem dX7_flatAt_18 (by decide)) ?_
      refine G_st (x_aload_n dX7_flatAt_19 rfl) ?_
      refine G_st (x_get (k := 1) (aI (t0 (0, 29) 1)) dX7_flatAt_20 (H0_29 29 (Nat.le_of_ble_eq_true rfl) (Nat.le_of_ble_eq_true rfl)) rfl rfl rfl rfl inTX7 (Nat.le_of_ble_eq_true rfl) tw_848 (fun ad => rfl)) ?_
      refine G_ite (fun c4 => ?_) (fun c4 => ?_)
      · refine G_st (x_icmp_ge_t (tgt := 30) dX7_flatAt_23 (by decide) c4) ?_
        refine G_weak _ ?_ (g_X7_flatAt_30 ids Hn H0_29 v1 t0)
        exact (leL_n (leL_s (leL_n (leL_e _))))
      · refine G_st (x_icmp_ge_f 30 dX7_flatAt_23 (by decide) c4) ?_
        refine G_st (x_iconst (1 : Int32) dX7_flatAt_26 rfl) ?_
        refine G_st (x_goto (tgt := 31) dX7_flatAt_27 (by decide)) ?_
        refine G_weak _ ?_ (g_X7_flatAt_31 ids Hn H0_29 v1 (1 : Int32) t0)
        exact (leL_n (leL_s (leL_n (leL_e _))))
set_option maxRecDepth 100000 in
set_option maxHeartbeats 4000000 in
theorem c_X7_flatAt (ids : List (Nat × Nat)) (Hn : Ndp ids) (v1 : Int32) (H0_29 : InR ids 0 29 56) (t0 : Sg) (r : Int32) (t1 : Sg) (hf : f_X7_flatAt v1 t0 = some (r, t1)) : Mt0 mX7_flatAt yX7_flatAt ids [aR (0, 29), aI v1] t0 (some (aI r)) t1 :=
  Mt_of (x := (r, t1)) (g_X7_flatAt ids Hn v1 H0_29 t0) hf (fun _ _ => trivial) (by decide) rfl Hn (fun _ => rfl) (fun _ => Nat.le_of_ble_eq_true rfl)
theorem dX7_toldAs_0 : decode cX7_toldAs 0 = .ok (.bipush 10, 2) := by decide +kernel
theorem dX7_toldAs_2 : decode cX7_toldAs 2 = .ok (.iload_n 0, 1) := by decide +kernel
theorem dX7_toldAs_3 : decode cX7_toldAs 3 = .ok (.iconst 4, 1) := by decide +kernel
theorem dX7_toldAs_4 : decode cX7_toldAs 4 = .ok (.idiv, 1) := by decide +kernel
theorem dX7_toldAs_5 : decode cX7_toldAs 5 = .ok (.imul, 1) := by decide +kernel
theorem dX7_toldAs_6 : decode cX7_toldAs 6 = .ok (.iload_n 0, 1) := by decide +kernel
theorem dX7_toldAs_7 : decode cX7_toldAs 7 = .ok (.iconst 4, 1) := by decide +kernel
theorem dX7_toldAs_8 : decode cX7_toldAs 8 = .ok (.irem, 1) := by decide +kernel
theorem dX7_toldAs_9 : decode cX7_toldAs 9 = .ok (.iadd, 1) := by decide +kernel
theorem dX7_toldAs_10 : decode cX7_toldAs 10 = .ok (.ireturn, 1) := by decide +kernel
set_option maxRecDepth 100000 in
set_option maxHeartbeats 4000000 in
theorem g_X7_toldAs (ids : List (Nat × Nat)) (Hn : Ndp ids) (v0 : Int32)  (t0 : Sg) : Gj kI mX7_toldAs ids 0 [some (aI v0)] [] t0 (f_X7_toldAs v0 t0) := by
  unfold f_X7_toldAs
  refine G_st (x_bipush (10 : Int32) dX7_toldAs_0 rfl) ?_
  refine G_st (x_iload_n dX7_toldAs_2 rfl) ?_
  refine G_st (x_iconst (4 : Int32) dX7_toldAs_3 rfl) ?_
  refine G_st (x_idiv dX7_toldAs_4 (by decide)) ?_
  refine G_st (x_imul dX7_toldAs_5) ?_
  refine G_st (x_iload_n dX7_toldAs_6 rfl) ?_
  refine G_st (x_iconst (4 : Int32) dX7_toldAs_7 rfl) ?_
  refine G_st (x_irem dX7_toldAs_8 (by decide)) ?_
  refine G_st (x_iadd dX7_toldAs_9) ?_
  exact G_ret rfl ⟨dX7_toldAs_10, _, rfl, rfl⟩ rfl
set_option maxRecDepth 100000 in
set_option maxHeartbeats 4000000 in
theorem c_X7_toldAs (ids : List (Nat × Nat)) (Hn : Ndp ids) (v0 : Int32)  (t0 : Sg) (r : Int32) (t1 : Sg) (hf : f_X7_toldAs v0 t0 = some (r, t1)) : Mt0 mX7_toldAs yX7_toldAs ids [aI v0] t0 (some (aI r)) t1 :=
  Mt_of (x := (r, t1)) (g_X7_toldAs ids Hn v0  t0) hf (fun _ _ => trivial) (by decide) rfl Hn (fun _ => rfl) (fun _ => Nat.le_of_ble_eq_true rfl)
theorem dX7_isTenant_0 : decode cX7_isTenant 0 = .ok (.iload_n 1, 1) := by decide +kernel
theorem dX7_isTenant_1 : decode cX7_isTenant 1 = .ok (.i2l, 1) := by decide +kernel
theorem dX7_isTenant_2 : decode cX7_isTenant 2 = .ok (.lconst 0, 1) := by decide +kernel
theorem dX7_isTenant_3 : decode cX7_isTenant 3 = .ok (.aload_n 0, 1) := by decide +kernel
theorem dX7_isTenant_4 : decode cX7_isTenant 4 = .ok (.invokevirtual 107, 3) := by decide +kernel
theorem dX7_isTenant_7 : decode cX7_isTenant 7 = .ok (.iconst 1, 1) := by decide +kernel
theorem dX7_isTenant_8 : decode cX7_isTenant 8 = .ok (.isub, 1) := by decide +kernel
theorem dX7_isTenant_9 : decode cX7_isTenant 9 = .ok (.i2l, 1) := by decide +kernel
theorem dX7_isTenant_10 : decode cX7_isTenant 10 = .ok (.invokestatic 111, 3) := by decide +kernel
theorem dX7_isTenant_13 : decode cX7_isTenant 13 = .ok (.ireturn, 1) := by decide +kernel
set_option maxRecDepth 100000 in
set_option maxHeartbeats 4000000 in
theorem g_X7_isTenant (ids : List (Nat × Nat)) (Hn : Ndp ids) (v1 : Int32) (H0_29 : InR ids 0 29 56) (t0 : Sg) : Gj kI mX7_isTenant ids 0 [some (aR (0, 29)), some (aI v1)] [] t0 (f_X7_isTenant v1 t0) := by
  unfold f_X7_isTenant
  refine G_st (x_iload_n dX7_isTenant_0 rfl) ?_
  refine G_st (x_i2l dX7_isTenant_1) ?_
  refine G_st (x_lconst (0 : Int64) dX7_isTenant_2 rfl) ?_
  refine G_st (x_aload_n dX7_isTenant_3 rfl) ?_
  refine G_bd (fun x1 t2 h3 => ?_)
  refine G_st (x_callV [aL (0 : Int64), aL (v1).toInt64] (c_X7_tenants ids Hn  H0_29 _ _ _ h3) dX7_isTenant_4 tw_1046 kc_X7_tenants (H0_29 29 (Nat.le_of_ble_eq_true rfl) (Nat.le_of_ble_eq_true rfl)) rfl rfl rfl rfl ⟨Nat.le_of_ble_eq_true rfl, Nat.le_of_ble_eq_true rfl⟩ (Nat.le_of_ble_eq_true rfl) rfl) ?_
  refine G_st (x_iconst (1 : Int32) dX7_isTenant_7 rfl) ?_
  refine G_st (x_isub dX7_isTenant_8) ?_
  refine G_st (x_i2l dX7_isTenant_9) ?_
  refine G_bd (fun x4 t5 h6 => ?_)
  refine G_st (x_callS [] (c_X7_in ids Hn (v1).toInt64 (0 : Int64) ((x1 - (1 : Int32))).toInt64  _ _ _ h6) dX7_isTenant_10 tw_1003 kc_X7_in rfl ⟨Nat.le_of_ble_eq_true rfl, Nat.le_of_ble_eq_true rfl⟩ (Nat.le_of_ble_eq_true rfl) rfl) ?_
  refine G_chk (fun c7 => ?_)
  exact G_ret rfl ⟨dX7_isTenant_13, _, rfl, nar_b c7⟩ rfl
set_option maxRecDepth 100000 in
set_option maxHeartbeats 4000000 in
theorem c_X7_isTenant (ids : List (Nat × Nat)) (Hn : Ndp ids) (v1 : Int32) (H0_29 : InR ids 0 29 56) (t0 : Sg) (r : Int32) (t1 : Sg) (hf : f_X7_isTenant v1 t0 = some (r, t1)) : Mt0 mX7_isTenant yX7_isTenant ids [aR (0, 29), aI v1] t0 (some (aI r)) t1 :=
  Mt_of (x := (r, t1)) (g_X7_isTenant ids Hn v1 H0_29 t0) hf (fun _ _ => trivial) (by decide) rfl Hn (fun _ => rfl) (fun _ => Nat.le_of_ble_eq_true rfl)
theorem dX7_areTenants_0 : decode cX7_areTenants 0 = .ok (.aload_n 0, 1) := by decide +kernel
theorem dX7_areTenants_1 : decode cX7_areTenants 1 = .ok (.iload_n 1, 1) := by decide +kernel
theorem dX7_areTenants_2 : decode cX7_areTenants 2 = .ok (.invokevirtual 115, 3) := by decide +kernel
theorem dX7_areTenants_5 : decode cX7_areTenants 5 = .ok (.ifCond .eq 20, 3) := by decide +kernel
theorem dX7_areTenants_8 : decode cX7_areTenants 8 = .ok (.aload_n 0, 1) := by decide +kernel
theorem dX7_areTenants_9 : decode cX7_areTenants 9 = .ok (.iload_n 2, 1) := by decide +kernel
theorem dX7_areTenants_10 : decode cX7_areTenants 10 = .ok (.invokevirtual 115, 3) := by decide +kernel
theorem dX7_areTenants_13 : decode cX7_areTenants 13 = .ok (.ifCond .eq 12, 3) := by decide +kernel
theorem dX7_areTenants_16 : decode cX7_areTenants 16 = .ok (.iload_n 1, 1) := by decide +kernel
theorem dX7_areTenants_17 : decode cX7_areTenants 17 = .ok (.iload_n 2, 1) := by decide +kernel
theorem dX7_areTenants_18 : decode cX7_areTenants 18 = .ok (.if_icmp .eq 7, 3) := by decide +kernel
theorem dX7_areTenants_21 : decode cX7_areTenants 21 = .ok (.iconst 1, 1) := by decide +kernel
theorem dX7_areTenants_22 : decode cX7_areTenants 22 = .ok (.goto 4, 3) := by decide +kernel
theorem dX7_areTenants_25 : decode cX7_areTenants 25 = .ok (.iconst 0, 1) := by decide +kernel
theorem dX7_areTenants_26 : decode cX7_areTenants 26 = .ok (.ireturn, 1) := by decide +kernel
set_option maxRecDepth 100000 in
set_option maxHeartbeats 4000000 in
theorem g_X7_areTenants (ids : List (Nat × Nat)) (Hn : Ndp ids) (v1 : Int32) (v2 : Int32) (H0_29 : InR ids 0 29 56) (t0 : Sg) : Gj kI mX7_areTenants ids 0 [some (aR (0, 29)), some (aI v1), some (aI v2)] [] t0 (f_X7_areTenants v1 v2 t0) := by
  unfold f_X7_areTenants
  refine G_st (x_aload_n dX7_areTenants_0 rfl) ?_
  refine G_st (x_iload_n dX7_areTenants_1 rfl) ?_
  refine G_bd (fun x1 t2 h3 => ?_)
  refine G_st (x_callV [] (c_X7_isTenant ids Hn v1 H0_29 _ _ _ h3) dX7_areTenants_2 tw_1086 kc_X7_isTenant (H0_29 29 (Nat.le_of_ble_eq_true rfl) (Nat.le_of_ble_eq_true rfl)) rfl rfl rfl rfl ⟨Nat.le_of_ble_eq_true rfl, Nat.le_of_ble_eq_true rfl⟩ (Nat.le_of_ble_eq_true rfl) rfl) ?_
  refine G_ite (fun c4 => ?_) (fun c4 => ?_)
  · refine G_st (x_if_eq_t (tgt := 25) dX7_areTenants_5 (by decide) c4) ?_
    refine G_st (x_iconst (0 : Int32) dX7_areTenants_25 rfl) ?_
    exact G_ret rfl ⟨dX7_areTenants_26, _, rfl, nar_b (Or.inl rfl)⟩ rfl
  · refine G_st (x_if_eq_f 25 dX7_areTenants_5 (by decide) c4) ?_
    refine G_st (x_aload_n dX7_areTenants_8 rfl) ?_
    refine G_st (x_iload_n dX7_areTenants_9 rfl) ?_
    refine G_bd (fun x5 t6 h7 => ?_)
    refine G_st (x_callV [] (c_X7_isTenant ids Hn v2 H0_29 _ _ _ h7) dX7_areTenants_10 tw_1086 kc_X7_isTenant (H0_29 29 (Nat.le_of_ble_eq_true rfl) (Nat.le_of_ble_eq_true rfl)) rfl rfl rfl rfl ⟨Nat.le_of_ble_eq_true rfl, Nat.le_of_ble_eq_true rfl⟩ (Nat.le_of_ble_eq_true rfl) rfl) ?_
    refine G_ite (fun c8 => ?_) (fun c8 => ?_)
    · refine G_st (x_if_eq_t (tgt := 25) dX7_areTenants_13 (by decide) c8) ?_
      refine G_st (x_iconst (0 : Int32) dX7_areTenants_25 rfl) ?_
      exact G_ret rfl ⟨dX7_areTenants_26, _, rfl, nar_b (Or.inl rfl)⟩ rfl
    · refine G_st (x_if_eq_f 25 dX7_areTenants_13 (by decide) c8) ?_
      refine G_st (x_iload_n dX7_areTenants_16 rfl) ?_
      refine G_st (x_iload_n dX7_areTenants_17 rfl) ?_
      refine G_ite (fun c9 => ?_) (fun c9 => ?_)
      · refine G_st (x_icmp_eq_t (tgt := 25) dX7_areTenants_18 (by decide) c9) ?_
        refine G_st (x_iconst (0 : Int32) dX7_areTenants_25 rfl) ?_
        exact G_ret rfl ⟨dX7_areTenants_26, _, rfl, nar_b (Or.inl rfl)⟩ rfl
      · refine G_st (x_icmp_eq_f 25 dX7_areTenants_18 (by decide) c9) ?_
        refine G_st (x_iconst (1 : Int32) dX7_areTenants_21 rfl) ?_
        refine G_st (x_goto (tgt := 26) dX7_areTenants_22 (by decide)) ?_
        exact G_ret rfl ⟨dX7_areTenants_26, _, rfl, nar_b (Or.inr rfl)⟩ rfl
set_option maxRecDepth 100000 in
set_option maxHeartbeats 4000000 in
theorem c_X7_areTenants (ids : List (Nat × Nat)) (Hn : Ndp ids) (v1 : Int32) (v2 : Int32) (H0_29 : InR ids 0 29 56) (t0 : Sg) (r : Int32) (t1 : Sg) (hf : f_X7_areTenants v1 v2 t0 = some (r, t1)) : Mt0 mX7_areTenants yX7_areTenants ids [aR (0, 29), aI v1, aI v2] t0 (some (aI r)) t1 :=
  Mt_of (x := (r, t1)) (g_X7_areTenants ids Hn v1 v2 H0_29 t0) hf (fun _ _ => trivial) (by decide) rfl Hn (fun _ => rfl) (fun _ => Nat.le_of_ble_eq_true rfl)
theorem dX7_isHabit_0 : decode cX7_isHabit 0 = .ok (.iload_n 1, 1) := by decide +kernel
theorem dX7_isHabit_1 : decode cX7_isHabit 1 = .ok (.i2l, 1) := by decide +kernel
theorem dX7_isHabit_2 : decode cX7_isHabit 2 = .ok (.lconst 0, 1) := by decide +kernel
theorem dX7_isHabit_3 : decode cX7_isHabit 3 = .ok (.aload_n 0, 1) := by decide +kernel
theorem dX7_isHabit_4 : decode cX7_isHabit 4 = .ok (.getfield 104, 3) := by decide +kernel
theorem dX7_isHabit_7 : decode cX7_isHabit 7 = .ok (.iconst 1, 1) := by decide +kernel
theorem dX7_isHabit_8 : decode cX7_isHabit 8 = .ok (.isub, 1) := by decide +kernel
theorem dX7_isHabit_9 : decode cX7_isHabit 9 = .ok (.i2l, 1) := by decide +kernel
theorem dX7_isHabit_10 : decode cX7_isHabit 10 = .ok (.invokestatic 111, 3) := by decide +kernel
theorem dX7_isHabit_13 : decode cX7_isHabit 13 = .ok (.ireturn, 1) := by decide +kernel
set_option maxRecDepth 100000 in
set_option maxHeartbeats 4000000 in
theorem g_X7_isHabit (ids : List (Nat × Nat)) (Hn : Ndp ids) (v1 : Int32) (H0_29 : InR ids 0 29 56) (t0 : Sg) : Gj kI mX7_isHabit ids 0 [some (aR (0, 29)), some (aI v1)] [] t0 (f_X7_isHabit v1 t0) := by
  unfold f_X7_isHabit
  refine G_st (x_iload_n dX7_isHabit_0 rfl) ?_
  refine G_st (x_i2l dX7_isHabit_1) ?_
  refine G_st (x_lconst (0 : Int64) dX7_isHabit_2 rfl) ?_
  refine G_st (x_aload_n dX7_isHabit_3 rfl) ?_
  refine G_st (x_get (k := 4) (aI (t0 (0, 29) 4)) dX7_isHabit_4 (H0_29 29 (Nat.le_of_ble_eq_true rfl) (Nat.le_of_ble_eq_true rfl)) rfl rfl rfl rfl inTX7 (Nat.le_of_ble_eq_true rfl) tw_851 (fun ad => rfl)) ?_
  refine G_st (x_iconst (1 : Int32) dX7_isHabit_7 rfl) ?_
  refine G_st (x_isub dX7_isHabit_8) ?_
  refine G_st (x_i2l dX7_isHabit_9) ?_
  refine G_bd (fun x1 t2 h3 => ?_)
  refine G_st (x_callS [] (c_X7_in ids Hn (v1).toInt64 (0 : Int64) (((t0 (0, 29) 4) - (1 : Int32))).toInt64  _ _ _ h3) dX7_isHabit_10 tw_1003 kc_X7_in rfl ⟨Nat.le_of_ble_eq_true rfl, Nat.le_of_ble_eq_true rfl⟩ (Nat.le_of_ble_eq_true rfl) rfl) ?_
  refine G_chk (fun c4 => ?_)
  exact G_ret rfl ⟨dX7_isHabit_13, _, rfl, nar_b c4⟩ rfl
set_option maxRecDepth 100000 in
set_option maxHeartbeats 4000000 in
theorem c_X7_isHabit (ids : List (Nat × Nat)) (Hn : Ndp ids) (v1 : Int32) (H0_29 : InR ids 0 29 56) (t0 : Sg) (r : Int32) (t1 : Sg) (hf : f_X7_isHabit v1 t0 = some (r, t1)) : Mt0 mX7_isHabit yX7_isHabit ids [aR (0, 29), aI v1] t0 (some (aI r)) t1 :=
  Mt_of (x := (r, t1)) (g_X7_isHabit ids Hn v1 H0_29 t0) hf (fun _ _ => trivial) (by decide) rfl Hn (fun _ => rfl) (fun _ => Nat.le_of_ble_eq_true rfl)
theorem dX7_livesIn_0 : decode cX7_livesIn 0 = .ok (.iconst 0, 1) := by decide +kernel
theorem dX7_livesIn_1 : decode cX7_livesIn 1 = .ok (.istore_n 2, 1) := by decide +kernel
theorem dX7_livesIn_2 : decode cX7_livesIn 2 = .ok (.aload_n 0, 1) := by decide +kernel
theorem dX7_livesIn_3 : decode cX7_livesIn 3 = .ok (.getfield 32, 3) := by decide +kernel
theorem dX7_livesIn_6 : decode cX7_livesIn 6 = .ok (.iload_n 2, 1) := by decide +kernel
theorem dX7_livesIn_7 : decode cX7_livesIn 7 = .ok (.iaload, 1) := by decide +kernel
theorem dX7_livesIn_8 : decode cX7_livesIn 8 = .ok (.iload_n 1, 1) := by decide +kernel
theorem dX7_livesIn_9 : decode cX7_livesIn 9 = .ok (.if_icmp .eq 9, 3) := by decide +kernel
theorem dX7_livesIn_12 : decode cX7_livesIn 12 = .ok (.iinc 2 1, 3) := by decide +kernel
theorem dX7_livesIn_15 : decode cX7_livesIn 15 = .ok (.goto (-13), 3) := by decide +kernel
theorem dX7_livesIn_18 : decode cX7_livesIn 18 = .ok (.iload_n 2, 1) := by decide +kernel
theorem dX7_livesIn_19 : decode cX7_livesIn 19 = .ok (.ireturn, 1) := by decide +kernel
set_option maxRecDepth 100000 in
set_option maxHeartbeats 4000000 in
theorem g_X7_livesIn_2 (ids : List (Nat × Nat)) (Hn : Ndp ids)  (H0_29 : InR ids 0 29 56)  : ∀ (n : Nat) (v1 : Int32) (v2 : Int32) (t0 : Sg), Gj kI mX7_livesIn ids 2 [some (aR (0, 29)), some (aI v1), some (aI v2)] [] t0 (f_X7_livesIn_2 n v1 v2 t0) := by
  intro n
  induction n with
  | zero => intro v1 v2 t0; exact G_none
  | succ n ih =>
    intro v1 v2 t0
    rw [f_X7_livesIn_2]
    refine G_st (x_aload_n dX7_livesIn_2 rfl) ?_
    refine G_st (x_get (k := 10) (aR (0, 35)) dX7_livesIn_3 (H0_29 29 (Nat.le_of_ble_eq_true rfl) (Nat.le_of_ble_eq_true rfl)) rfl rfl rfl rfl inTX7 (Nat.le_of_ble_eq_true rfl) tw_857 (fun ad => rfl)) ?_
    refine G_st (x_iload_n dX7_livesIn_6 rfl) ?_
    refine G_chk (fun c1 => ?_)
    refine G_st (x_iaload dX7_livesIn_7 (H0_29 35 (Nat.le_of_ble_eq_true rfl) (Nat.le_of_ble_eq_true rfl)) rfl c1) ?_
    refine G_st (x_iload_n dX7_livesIn_8 rfl) ?_
    refine G_ite (fun c2 => ?_) (fun c2 => ?_)
    · refine G_st (x_icmp_eq_t (tgt := 18) dX7_livesIn_9 (by decide) c2) ?_
      refine G_st (x_iload_n dX7_livesIn_18 rfl) ?_
      exact G_ret rfl ⟨dX7_livesIn_19, _, rfl, rfl⟩ rfl
    · refine G_st (x_icmp_eq_f 18 dX7_livesIn_9 (by decide) c2) ?_
      refine G_st (x_iinc (v2 + (1 : Int32)) [some (aR (0, 29)), some (aI v1), some (aI (v2 + (1 : Int32)))] dX7_livesIn_12 (Nat.le_of_ble_eq_true rfl) rfl rfl rfl rfl) ?_
      refine G_st (x_goto (tgt := 2) dX7_livesIn_15 (by decide)) ?_
      refine G_weak _ ?_ ((ih) v1 (v2 + (1 : Int32)) t0)
      exact (leL_s (leL_s (leL_s (leL_e _))))
set_option maxRecDepth 100000 in
set_option maxHeartbeats 4000000 in
theorem g_X7_livesIn (ids : List (Nat × Nat)) (Hn : Ndp ids) (v1 : Int32) (H0_29 : InR ids 0 29 56) (t0 : Sg) : Gj kI mX7_livesIn ids 0 [some (aR (0, 29)), some (aI v1), none] [] t0 (f_X7_livesIn v1 t0) := by
  unfold f_X7_livesIn
  refine G_st (x_iconst (0 : Int32) dX7_livesIn_0 rfl) ?_
  refine G_st (x_istore_n [some (aR (0, 29)), some (aI v1), some (aI (0 : Int32))] dX7_livesIn_1 (Nat.le_of_ble_eq_true rfl) rfl rfl) ?_
  refine G_weak _ ?_ (g_X7_livesIn_2 ids Hn H0_29 fuel v1 (0 : Int32) t0)
  exact (leL_s (leL_s (leL_s (leL_e _))))
set_option maxRecDepth 100000 in
set_option maxHeartbeats 4000000 in
theorem c_X7_livesIn (ids : List (Nat × Nat)) (Hn : Ndp ids) (v1 : Int32) (H0_29 : InR ids 0 29 56) (t0 : Sg) (r : Int32) (t1 : Sg) (hf : f_X7_livesIn v1 t0 = some (r, t1)) : Mt0 mX7_livesIn yX7_livesIn ids [aR (0, 29), aI v1] t0 (some (aI r)) t1 :=
  Mt_of (x := (r, t1)) (g_X7_livesIn ids Hn v1 H0_29 t0) hf (fun _ _ => trivial) (by decide) rfl Hn (fun _ => rfl) (fun _ => Nat.le_of_ble_eq_true rfl)
theorem dX7_nextOf_0 : decode cX7_nextOf 0 = .ok (.iload_n 2, 1) := by decide +kernel
theorem dX7_nextOf_1 : decode cX7_nextOf 1 = .ok (.iconst 4, 1) := by decide +kernel
theorem dX7_nextOf_2 : decode cX7_nextOf 2 = .ok (.idiv, 1) := by decide +kernel
theorem dX7_nextOf_3 : decode cX7_nextOf 3 = .ok (.iload_n 1, 1) := by decide +kernel
theorem dX7_nextOf_4 : decode cX7_nextOf 4 = .ok (.iconst 4, 1) := by decide +kernel
theorem dX7_nextOf_5 : decode cX7_nextOf 5 = .ok (.if_icmp .ne 7, 3) := by decide +kernel
theorem dX7_nextOf_8 : decode cX7_nextOf 8 = .ok (.iconst 1, 1) := by decide +kernel
theorem dX7_nextOf_9 : decode cX7_nextOf 9 = .ok (.goto 4, 3) := by decide +kernel
theorem dX7_nextOf_12 : decode cX7_nextOf 12 = .ok (.iconst (-1), 1) := by decide +kernel
theorem dX7_nextOf_13 : decode cX7_nextOf 13 = .ok (.iadd, 1) := by decide +kernel
theorem dX7_nextOf_14 : decode cX7_nextOf 14 = .ok (.istore_n 3, 1) := by decide +kernel
theorem dX7_nextOf_15 : decode cX7_nextOf 15 = .ok (.iload_n 1, 1) := by decide +kernel
theorem dX7_nextOf_16 : decode cX7_nextOf 16 = .ok (.iconst 1, 1) := by decide +kernel
theorem dX7_nextOf_17 : decode cX7_nextOf 17 = .ok (.if_icmp .eq 8, 3) := by decide +kernel
theorem dX7_nextOf_20 : decode cX7_nextOf 20 = .ok (.iload_n 1, 1) := by decide +kernel
theorem dX7_nextOf_21 : decode cX7_nextOf 21 = .ok (.iconst 5, 1) := by decide +kernel
theorem dX7_nextOf_22 : decode cX7_nextOf 22 = .ok (.if_icmp .ne 10, 3) := by decide +kernel
theorem dX7_nextOf_25 : decode cX7_nextOf 25 = .ok (.aload_n 0, 1) := by decide +kernel
theorem dX7_nextOf_26 : decode cX7_nextOf 26 = .ok (.getfield 119, 3) := by decide +kernel
theorem dX7_nextOf_29 : decode cX7_nextOf 29 = .ok (.goto 18, 3) := by decide +kernel
theorem dX7_nextOf_32 : decode cX7_nextOf 32 = .ok (.iload_n 1, 1) := by decide +kernel
theorem dX7_nextOf_33 : decode cX7_nextOf 33 = .ok (.iconst 2, 1) := by decide +kernel
theorem dX7_nextOf_34 : decode cX7_nextOf 34 = .ok (.if_icmp .ne 12, 3) := by decide +kernel
theorem dX7_nextOf_37 : decode cX7_nextOf 37 = .ok (.aload_n 0, 1) := by decide +kernel
theorem dX7_nextOf_38 : decode cX7_nextOf 38 = .ok (.getfield 23, 3) := by decide +kernel
theorem dX7_nextOf_41 : decode cX7_nextOf 41 = .ok (.iload_n 2, 1) := by decide +kernel
theorem dX7_nextOf_42 : decode cX7_nextOf 42 = .ok (.iaload, 1) := by decide +kernel
theorem dX7_nextOf_43 : decode cX7_nextOf 43 = .ok (.goto 4, 3) := by decide +kernel
theorem dX7_nextOf_46 : decode cX7_nextOf 46 = .ok (.iconst 0, 1) := by decide +kernel
theorem dX7_nextOf_47 : decode cX7_nextOf 47 = .ok (.istore 4, 2) := by decide +kernel
theorem dX7_nextOf_49 : decode cX7_nextOf 49 = .ok (.iload_n 1, 1) := by decide +kernel
theorem dX7_nextOf_50 : decode cX7_nextOf 50 = .ok (.iconst 5, 1) := by decide +kernel
theorem dX7_nextOf_51 : decode cX7_nextOf 51 = .ok (.if_icmp .ne 17, 3) := by decide +kernel
theorem dX7_nextOf_54 : decode cX7_nextOf 54 = .ok (.aload_n 0, 1) := by decide +kernel
theorem dX7_nextOf_55 : decode cX7_nextOf 55 = .ok (.getfield 119, 3) := by decide +kernel
theorem dX7_nextOf_58 : decode cX7_nextOf 58 = .ok (.ifCond .ne 10, 3) := by decide +kernel
theorem dX7_nextOf_61 : decode cX7_nextOf 61 = .ok (.iload_n 3, 1) := by decide +kernel
theorem dX7_nextOf_62 : decode cX7_nextOf 62 = .ok (.ifCond .le 6, 3) := by decide +kernel
theorem dX7_nextOf_65 : decode cX7_nextOf 65 = .ok (.iinc 3 (-1), 3) := by decide +kernel
theorem dX7_nextOf_68 : decode cX7_nextOf 68 = .ok (.iload_n 2, 1) := by decide +kernel
theorem dX7_nextOf_69 : decode cX7_nextOf 69 = .ok (.iconst 4, 1) := by decide +kernel
theorem dX7_nextOf_70 : decode cX7_nextOf 70 = .ok (.irem, 1) := by decide +kernel
theorem dX7_nextOf_71 : decode cX7_nextOf 71 = .ok (.iload 4, 2) := by decide +kernel
theorem dX7_nextOf_73 : decode cX7_nextOf 73 = .ok (.iadd, 1) := by decide +kernel
theorem dX7_nextOf_74 : decode cX7_nextOf 74 = .ok (.istore 5, 2) := by decide +kernel
theorem dX7_nextOf_76 : decode cX7_nextOf 76 = .ok (.iload_n 3, 1) := by decide +kernel
theorem dX7_nextOf_77 : decode cX7_nextOf 77 = .ok (.i2l, 1) := by decide +kernel
theorem dX7_nextOf_78 : decode cX7_nextOf 78 = .ok (.lconst 0, 1) := by decide +kernel
theorem dX7_nextOf_79 : decode cX7_nextOf 79 = .ok (.aload_n 0, 1) := by decide +kernel
theorem dX7_nextOf_80 : decode cX7_nextOf 80 = .ok (.getfield 7, 3) := by decide +kernel
theorem dX7_nextOf_83 : decode cX7_nextOf 83 = .ok (.iconst 1, 1) := by decide +kernel
theorem dX7_nextOf_84 : decode cX7_nextOf 84 = .ok (.isub, 1) := by decide +kernel
theorem dX7_nextOf_85 : decode cX7_nextOf 85 = .ok (.i2l, 1) := by decide +kernel
theorem dX7_nextOf_86 : decode cX7_nextOf 86 = .ok (.invokestatic 111, 3) := by decide +kernel
theorem dX7_nextOf_89 : decode cX7_nextOf 89 = .ok (.ifCond .eq 20, 3) := by decide +kernel
theorem dX7_nextOf_92 : decode cX7_nextOf 92 = .ok (.iload 5, 2) := by decide +kernel
theorem dX7_nextOf_94 : decode cX7_nextOf 94 = .ok (.i2l, 1) := by decide +kernel
theorem dX7_nextOf_95 : decode cX7_nextOf 95 = .ok (.lconst 0, 1) := by decide +kernel
theorem dX7_nextOf_96 : decode cX7_nextOf 96 = .ok (.aload_n 0, 1) := by decide +kernel
theorem dX7_nextOf_97 : decode cX7_nextOf 97 = .ok (.getfield 13, 3) := by decide +kernel
theorem dX7_nextOf_100 : decode cX7_nextOf 100 = .ok (.iconst 1, 1) := by decide +kernel
theorem dX7_nextOf_101 : decode cX7_nextOf 101 = .ok (.isub, 1) := by decide +kernel
theorem dX7_nextOf_102 : decode cX7_nextOf 102 = .ok (.i2l, 1) := by decide +kernel
theorem dX7_nextOf_103 : decode cX7_nextOf 103 = .ok (.invokestatic 111, 3) := by decide +kernel
theorem dX7_nextOf_106 : decode cX7_nextOf 106 = .ok (.ifCond .ne 5, 3) := by decide +kernel
theorem dX7_nextOf_109 : decode cX7_nextOf 109 = .ok (.iconst (-1), 1) := by decide +kernel
theorem dX7_nextOf_110 : decode cX7_nextOf 110 = .ok (.ireturn, 1) := by decide +kernel
theorem dX7_nextOf_111 : decode cX7_nextOf 111 = .ok (.iconst 4, 1) := by decide +kernel
theorem dX7_nextOf_112 : decode cX7_nextOf 112 = .ok (.iload_n 3, 1) := by decide +kernel
theorem dX7_nextOf_113 : decode cX7_nextOf 113 = .ok (.imul, 1) := by decide +kernel
theorem dX7_nextOf_114 : decode cX7_nextOf 114 = .ok (.iload 5, 2) := by decide +kernel
theorem dX7_nextOf_116 : decode cX7_nextOf 116 = .ok (.iadd, 1) := by decide +kernel
theorem dX7_nextOf_117 : decode cX7_nextOf 117 = .ok (.istore 6, 2) := by decide +kernel
theorem dX7_nextOf_119 : decode cX7_nextOf 119 = .ok (.iload_n 1, 1) := by decide +kernel
theorem dX7_nextOf_120 : decode cX7_nextOf 120 = .ok (.iconst 4, 1) := by decide +kernel
theorem dX7_nextOf_121 : decode cX7_nextOf 121 = .ok (.if_icmp .ne 17, 3) := by decide +kernel
theorem dX7_nextOf_124 : decode cX7_nextOf 124 = .ok (.aload_n 0, 1) := by decide +kernel
theorem dX7_nextOf_125 : decode cX7_nextOf 125 = .ok (.getfield 23, 3) := by decide +kernel
theorem dX7_nextOf_128 : decode cX7_nextOf 128 = .ok (.iload 6, 2) := by decide +kernel
theorem dX7_nextOf_130 : decode cX7_nextOf 130 = .ok (.iaload, 1) := by decide +kernel
theorem dX7_nextOf_131 : decode cX7_nextOf 131 = .ok (.ifCond .eq 7, 3) := by decide +kernel
theorem dX7_nextOf_134 : decode cX7_nextOf 134 = .ok (.iconst (-1), 1) := by decide +kernel
theorem dX7_nextOf_135 : decode cX7_nextOf 135 = .ok (.goto 5, 3) := by decide +kernel
theorem dX7_nextOf_138 : decode cX7_nextOf 138 = .ok (.iload 6, 2) := by decide +kernel
theorem dX7_nextOf_140 : decode cX7_nextOf 140 = .ok (.ireturn, 1) := by decide +kernel
set_option maxRecDepth 100000 in
set_option maxHeartbeats 4000000 in
theorem g_X7_nextOf_68 (ids : List (Nat × Nat)) (Hn : Ndp ids)  (H0_29 : InR ids 0 29 56)  (v1 : Int32) (v2 : Int32) (v3 : Int32) (v4 : Int32) (t0 : Sg) : Gj kI mX7_nextOf ids 68 [some (aR (0, 29)), some (aI v1), some (aI v2), some (aI v3), some (aI v4), none, none] [] t0 (f_X7_nextOf_68 v1 v2 v3 v4 t0) := by
  unfold f_X7_nextOf_68
  refine G_st (x_iload_n dX7_nextOf_68 rfl) ?_
  refine G_st (x_iconst (4 : Int32) dX7_nextOf_69 rfl) ?_
  refine G_st (x_irem dX7_nextOf_70 (by decide)) ?_
  refine G_st (x_iload dX7_nextOf_71 rfl) ?_
  refine G_st (x_iadd dX7_nextOf_73) ?_
  refine G_bvI (fun x8 => ?_)
  refine G_st (x_istore [some (aR (0, 29)), some (aI v1), some (aI v2), some (aI v3), some (aI v4), some (aI x8), none] dX7_nextOf_74 (Nat.le_of_ble_eq_true rfl) rfl rfl) ?_
  refine G_st (x_iload_n dX7_nextOf_76 rfl) ?_
  refine G_st (x_i2l dX7_nextOf_77) ?_
  refine G_st (x_lconst (0 : Int64) dX7_nextOf_78 rfl) ?_
  refine G_st (x_aload_n dX7_nextOf_79 rfl) ?_
  refine G_st (x_get (k := 0) (aI (t0 (0, 29) 0)) dX7_nextOf_80 (H0_29 29 (Nat.le_of_ble_eq_true rfl) (Nat.le_of_ble_eq_true rfl)) rfl rfl rfl rfl inTX7 (Nat.le_of_ble_eq_true rfl) tw_847 (fun ad => rfl)) ?_
  refine G_st (x_iconst (1 : Int32) dX7_nextOf_83 rfl) ?_
  refine G_st (x_isub dX7_nextOf_84) ?_
  refine G_st (x_i2l dX7_nextOf_85) ?_
  refine G_bd (fun x9 t10 h11 => ?_)
  refine G_st (x_callS [] (c_X7_in ids Hn (v3).toInt64 (0 : Int64) (((t0 (0, 29) 0) - (1 : Int32))).toInt64  _ _ _ h11) dX7_nextOf_86 tw_1003 kc_X7_in rfl ⟨Nat.le_of_ble_eq_true rfl, Nat.le_of_ble_eq_true rfl⟩ (Nat.le_of_ble_eq_true rfl) rfl) ?_
  refine G_ite (fun c12 => ?_) (fun c12 => ?_)
  · refine G_st (x_if_eq_t (tgt := 109) dX7_nextOf_89 (by decide) c12) ?_
    refine G_st (x_iconst (-1 : Int32) dX7_nextOf_109 rfl) ?_
    exact G_ret rfl ⟨dX7_nextOf_110, _, rfl, rfl⟩ rfl
  · refine G_st (x_if_eq_f 109 dX7_nextOf_89 (by decide) c12) ?_
    refine G_st (x_iload dX7_nextOf_92 rfl) ?_
    refine G_st (x_i2l dX7_nextOf_94) ?_
    refine G_st (x_lconst (0 : Int64) dX7_nextOf_95 rfl) ?_
    refine G_st (x_aload_n dX7_nextOf_96 rfl) ?_
    refine G_st (x_get (k := 1) (aI (t10 (0, 29) 1)) dX7_nextOf_97 (H0_29 29 (Nat.le_of_ble_eq_true rfl) (Nat.le_of_ble_eq_true rfl)) rfl rfl rfl rfl inTX7 (Nat.le_of_ble_eq_true rfl) tw_848 (fun ad => rfl)) ?_
    refine G_st (x_iconst (1 : Int32) dX7_nextOf_100 rfl) ?_
    refine G_st (x_isub dX7_nextOf_101) ?_
    refine G_st (x_i2l dX7_nextOf_102) ?_
    refine G_bd (fun x13 t14 h15 => ?_)
    refine G_st (x_callS [] (c_X7_in ids Hn (x8).toInt64 (0 : Int64) (((t10 (0, 29) 1) - (1 : Int32))).toInt64  _ _ _ h15) dX7_nextOf_103 tw_1003 kc_X7_in rfl ⟨Nat.le_of_ble_eq_true rfl, Nat.le_of_ble_eq_true rfl⟩ (Nat.le_of_ble_eq_true rfl) rfl) ?_
    refine G_ite (fun c16 => ?_) (fun c16 => ?_)
    · refine G_st (x_if_ne_f 111 dX7_nextOf_106 (by decide) c16) ?_
      refine G_st (x_iconst (-1 : Int32) dX7_nextOf_109 rfl) ?_
      exact G_ret rfl ⟨dX7_nextOf_110, _, rfl, rfl⟩ rfl
    · refine G_st (x_if_ne_t (tgt := 111) dX7_nextOf_106 (by decide) c16) ?_
      refine G_st (x_iconst (4 : Int32) dX7_nextOf_111 rfl) ?_
      refine G_st (x_iload_n dX7_nextOf_112 rfl) ?_
      refine G_st (x_imul dX7_nextOf_113) ?_
      refine G_st (x_iload dX7_nextOf_114 rfl) ?_
      refine G_st (x_iadd dX7_nextOf_116) ?_
      refine G_bvI (fun x17 => ?_)
      refine G_st (x_istore [some (aR (0, 29)), some (aI v1), some (aI v2), some (aI v3), some (aI v4), some (aI x8), some (aI x17)] dX7_nextOf_117 (Nat.le_of_ble_eq_true rfl) rfl rfl) ?_
      refine G_st (x_iload_n dX7_nextOf_119 rfl) ?_
      refine G_st (x_iconst (4 : Int32) dX7_nextOf_120 rfl) ?_
      refine G_ite (fun c18 => ?_) (fun c18 => ?_)
      · refine G_st (x_icmp_ne_f 138 dX7_nextOf_121 (by decide) c18) ?_
        refine G_st (x_aload_n dX7_nextOf_124 rfl) ?_
        refine G_st (x_get (k := 7) (aR (0, 32)) dX7_nextOf_125 (H0_29 29 (Nat.le_of_ble_eq_true rfl) (Nat.le_of_ble_eq_true rfl)) rfl rfl rfl rfl inTX7 (Nat.le_of_ble_eq_true rfl) tw_854 (fun ad => rfl)) ?_
        refine G_st (x_iload dX7_nextOf_128 rfl) ?_
        refine G_chk (fun c19 => ?_)
        refine G_st (x_iaload dX7_nextOf_130 (H0_29 32 (Nat.le_of_ble_eq_true rfl) (Nat.le_of_ble_eq_true rfl)) rfl c19) ?_
        refine G_ite (fun c20 => ?_) (fun c20 => ?_)
        · refine G_st (x_if_eq_t (tgt := 138) dX7_nextOf_131 (by decide) c20) ?_
          refine G_st (x_iload dX7_nextOf_138 rfl) ?_
          exact G_ret rfl ⟨dX7_nextOf_140, _, rfl, rfl⟩ rfl
        · refine G_st (x_if_eq_f 138 dX7_nextOf_131 (by decide) c20) ?_
          refine G_st (x_iconst (-1 : Int32) dX7_nextOf_134 rfl) ?_
          refine G_st (x_goto (tgt := 140) dX7_nextOf_135 (by decide)) ?_
          exact G_ret rfl ⟨dX7_nextOf_140, _, rfl, rfl⟩ rfl
      · refine G_st (x_icmp_ne_t (tgt := 138) dX7_nextOf_121 (by decide) c18) ?_
        refine G_st (x_iload dX7_nextOf_138 rfl) ?_
        exact G_ret rfl ⟨dX7_nextOf_140, _, rfl, rfl⟩ rfl
set_option maxRecDepth 100000 in
set_option maxHeartbeats 4000000 in
theorem g_X7_nextOf_47 (ids : List (Nat × Nat)) (Hn : Ndp ids)  (H0_29 : InR ids 0 29 56)  (v1 : Int32) (v2 : Int32) (v3 : Int32) (w0 : Int32) (t0 : Sg) : Gj kI mX7_nextOf ids 47 [some (aR (0, 29)), some (aI v1), some (aI v2), some (aI v3), none, none, none] [aI w0] t0 (f_X7_nextOf_47 v1 v2 v3 w0 t0) := by
  unfold f_X7_nextOf_47
  refine G_st (x_istore [some (aR (0, 29)), some (aI v1), some (aI v2), some (aI v3), some (aI w0), none, none] dX7_nextOf_47 (Nat.le_of_ble_eq_true rfl) rfl rfl) ?_
  refine G_st (x_iload_n dX7_nextOf_49 rfl) ?_
  refine G_st (x_iconst (5 : Int32) dX7_nextOf_50 rfl) ?_
  refine G_ite (fun c5 => ?_) (fun c5 => ?_)
  · refine G_st (x_icmp_ne_f 68 dX7_nextOf_51 (by decide) c5) ?_
    refine G_st (x_aload_n dX7_nextOf_54 rfl) ?_
    refine G_st (x_get (k := 2) (aI (t0 (0, 29) 2)) dX7_nextOf_55 (H0_29 29 (Nat.le_of_ble_eq_true rfl) (Nat.le_of_ble_eq_true rfl)) rfl rfl rfl rfl inTX7 (Nat.le_of_ble_eq_true rfl) tw_849 (fun ad => rfl)) ?_
    refine G_ite (fun c6 => ?_) (fun c6 => ?_)
    · refine G_st (x_if_ne_f 68 dX7_nextOf_58 (by decide) c6) ?_
      refine G_st (x_iload_n dX7_nextOf_61 rfl) ?_
      refine G_ite (fun c7 => ?_) (fun c7 => ?_)
      · refine G_st (x_if_le_t (tgt := 68) dX7_nextOf_62 (by decide) c7) ?_
        refine G_weak _ ?_ (g_X7_nextOf_68 ids Hn H0_29 v1 v2 v3 w0 t0)
        exact (leL_s (leL_s (leL_s (leL_s (leL_s (leL_n (leL_n (leL_e _))))))))
      · refine G_st (x_if_le_f 68 dX7_nextOf_62 (by decide) c7) ?_
        refine G_st (x_iinc (v3 + (-1 : Int32)) [some (aR (0, 29)), some (aI v1), some (aI v2), some (aI (v3 + (-1 : Int32))), some (aI w0), none, none] dX7_nextOf_65 (Nat.le_of_ble_eq_true rfl) rfl rfl rfl rfl) ?_
        refine G_weak _ ?_ (g_X7_nextOf_68 ids Hn H0_29 v1 v2 (v3 + (-1 : Int32)) w0 t0)
        exact (leL_s (leL_s (leL_s (leL_s (leL_s (leL_n (leL_n (leL_e _))))))))
    · refine G_st (x_if_ne_t (tgt := 68) dX7_nextOf_58 (by decide) c6) ?_
      refine G_weak _ ?_ (g_X7_nextOf_68 ids Hn H0_29 v1 v2 v3 w0 t0)
      exact (leL_s (leL_s (leL_s (leL_s (leL_s (leL_n (leL_n (leL_e _))))))))
  · refine G_st (x_icmp_ne_t (tgt := 68) dX7_nextOf_51 (by decide) c5) ?_
    refine G_weak _ ?_ (g_X7_nextOf_68 ids Hn H0_29 v1 v2 v3 w0 t0)
    exact (leL_s (leL_s (leL_s (leL_s (leL_s (leL_n (leL_n (leL_e _))))))))
set_option maxRecDepth 100000 in
set_option maxHeartbeats 4000000 in
theorem g_X7_nextOf_25 (ids : List (Nat × Nat)) (Hn : Ndp ids)  (H0_29 : InR ids 0 29 56)  (v1 : Int32) (v2 : Int32) (v3 : Int32) (t0 : Sg) : Gj kI mX7_nextOf ids 25 [some (aR (0, 29)), some (aI v1), some (aI v2), some (aI v3), none, none, none] [] t0 (f_X7_nextOf_25 v1 v2 v3 t0) := by
  unfold f_X7_nextOf_25
  refine G_st (x_aload_n dX7_nextOf_25 rfl) ?_
  refine G_st (x_get (k := 2) (aI (t0 (0, 29) 2)) dX7_nextOf_26 (H0_29 29 (Nat.le_of_ble_eq_true rfl) (Nat.le_of_ble_eq_true rfl)) rfl rfl rfl rfl inTX7 (Nat.le_of_ble_eq_true rfl) tw_849 (fun ad => rfl)) ?_
  refine G_st (x_goto (tgt := 47) dX7_nextOf_29 (by decide)) ?_
  refine G_weak _ ?_ (g_X7_nextOf_47 ids Hn H0_29 v1 v2 v3 (t0 (0, 29) 2) t0)
  exact (leL_s (leL_s (leL_s (leL_s (leL_n (leL_n (leL_n (leL_e _))))))))
set_option maxRecDepth 100000 in
set_option maxHeartbeats 4000000 in
theorem g_X7_nextOf (ids : List (Nat × Nat)) (Hn : Ndp ids) (v1 : Int32) (v2 : Int32) (H0_29 : InR ids 0 29 56) (t0 : Sg) : Gj kI mX7_nextOf ids 0 [some (aR (0, 29)), some (aI v1), some (aI v2), none, none, none, none] [] t0 (f_X7_nextOf v1 v2 t0) := by
  unfold f_X7_nextOf
  refine G_st (x_iload_n dX7_nextOf_0 rfl) ?_
  refine G_st (x_iconst (4 : Int32) dX7_nextOf_1 rfl) ?_
  refine G_st (x_idiv dX7_nextOf_2 (by decide)) ?_
  refine G_st (x_iload_n dX7_nextOf_3 rfl) ?_
  refine G_st (x_iconst (4 : Int32) dX7_nextOf_4 rfl) ?_
  have e2 : Tj mX7_nextOf ids 5 [some (aR (0, 29)), some (aI v1), some (aI v2), none, none, none, none] [aI (4 : Int32), aI v1, aI (v2 / (4 : Int32))] t0 13 [some (aR (0, 29)), some (aI v1), some (aI v2), none, none, none, none] [aI (if v1 = (4 : Int32) then (1 : Int32) else (-1 : Int32)), aI (v2 / (4 : Int32))] t0 := by
    refine Tj.dia (fun c1 => ?_) (fun c1 => ?_)
    · refine Tj.tr (x_icmp_ne_f 12 dX7_nextOf_5 (by decide) c1) ?_
      refine Tj.tr (x_iconst (1 : Int32) dX7_nextOf_8 rfl) ?_
      refine Tj.tr (x_goto (tgt := 13) dX7_nextOf_9 (by decide)) ?_
      exact Tj.rf
    · refine Tj.tr (x_icmp_ne_t (tgt := 12) dX7_nextOf_5 (by decide) c1) ?_
      refine Tj.tr (x_iconst (-1 : Int32) dX7_nextOf_12 rfl) ?_
      exact Tj.rf
  refine G_st e2 ?_
  refine G_st (x_iadd dX7_nextOf_13) ?_
  refine G_bvI (fun x3 => ?_)
  refine G_st (x_istore_n [some (aR (0, 29)), some (aI v1), some (aI v2), some (aI x3), none, none, none] dX7_nextOf_14 (Nat.le_of_ble_eq_true rfl) rfl rfl) ?_
  refine G_st (x_iload_n dX7_nextOf_15 rfl) ?_
  refine G_st (x_iconst (1 : Int32) dX7_nextOf_16 rfl) ?_
  refine G_ite (fun c4 => ?_) (fun c4 => ?_)
  · refine G_st (x_icmp_eq_t (tgt := 25) dX7_nextOf_17 (by decide) c4) ?_
    refine G_weak _ ?_ (g_X7_nextOf_25 ids Hn H0_29 v1 v2 x3 t0)
    exact (leL_s (leL_s (leL_s (leL_s (leL_n (leL_n (leL_n (leL_e _))))))))
  · refine G_st (x_icmp_eq_f 25 dX7_nextOf_17 (by decide) c4) ?_
    refine G_st (x_iload_n dX7_nextOf_20 rfl) ?_
    refine G_st (x_iconst (5 : Int32) dX7_nextOf_21 rfl) ?_
    refine G_ite (fun c21 => ?_) (fun c21 => ?_)
    · refine G_st (x_icmp_ne_f 32 dX7_nextOf_22 (by decide) c21) ?_
      refine G_weak _ ?_ (g_X7_nextOf_25 ids Hn H0_29 v1 v2 x3 t0)
      exact (leL_s (leL_s (leL_s (leL_s (leL_n (leL_n (leL_n (leL_e _))))))))
    · refine G_st (x_icmp_ne_t (tgt := 32) dX7_nextOf_22 (by decide) c21) ?_
      refine G_st (x_iload_n dX7_nextOf_32 rfl) ?_
      refine G_st (x_iconst (2 : Int32) dX7_nextOf_33 rfl) ?_
      refine G_ite (fun c22 => ?_) (fun c22 => ?_)
      · refine G_st (x_icmp_ne_f 46 dX7_nextOf_34 (by decide) c22) ?_
        refine G_st (x_aload_n dX7_nextOf_37 rfl) ?_
        refine G_st (x_get (k := 7) (aR (0, 32)) dX7_nextOf_38 (H0_29 29 (Nat.le_of_ble_eq_true rfl) (Nat.le_of_ble_eq_true rfl)) rfl rfl rfl rfl inTX7 (Nat.le_of_ble_eq_true rfl) tw_854 (fun ad => rfl)) ?_
        refine G_st (x_iload_n dX7_nextOf_41 rfl) ?_
        refine G_chk (fun c23 => ?_)
        refine G_st (x_iaload dX7_nextOf_42 (H0_29 32 (Nat.le_of_ble_eq_true rfl) (Nat.le_of_ble_eq_true rfl)) rfl c23) ?_
        refine G_st (x_goto (tgt := 47) dX7_nextOf_43 (by decide)) ?_
        refine G_weak _ ?_ (g_X7_nextOf_47 ids Hn H0_29 v1 v2 x3 (t0 (0, 32) (v2).toNatClampNeg) t0)
        exact (leL_s (leL_s (leL_s (leL_s (leL_n (leL_n (leL_n (leL_e _))))))))
      · refine G_st (x_icmp_ne_t (tgt := 46) dX7_nextOf_34 (by decide) c22) ?_
        refine G_st (x_iconst (0 : Int32) dX7_nextOf_46 rfl) ?_
        refine G_weak _ ?_ (g_X7_nextOf_47 ids Hn H0_29 v1 v2 x3 (0 : Int32) t0)
        exact (leL_s (leL_s (leL_s (leL_s (leL_n (leL_n (leL_n (leL_e _))))))))
set_option maxRecDepth 100000 in
set_option maxHeartbeats 4000000 in
theorem c_X7_nextOf (ids : List (Nat × Nat)) (Hn : Ndp ids) (v1 : Int32) (v2 : Int32) (H0_29 : InR ids 0 29 56) (t0 : Sg) (r : Int32) (t1 : Sg) (hf : f_X7_nextOf v1 v2 t0 = some (r, t1)) : Mt0 mX7_nextOf yX7_nextOf ids [aR (0, 29), aI v1, aI v2] t0 (some (aI r)) t1 :=
  Mt_of (x := (r, t1)) (g_X7_nextOf ids Hn v1 v2 H0_29 t0) hf (fun _ _ => trivial) (by decide) rfl Hn (fun _ => rfl) (fun _ => Nat.le_of_ble_eq_true rfl)
