theorem dX7_deal_0 : decode cX7_deal 0 = .ok (.aload_n 0, 1) := by decide +kernel
theorem dX7_deal_1 : decode cX7_deal 1 = .ok (.iconst 0, 1) := by decide +kernel
theorem dX7_deal_2 : decode cX7_deal 2 = .ok (.putfield 98, 3) := by decide +kernel
theorem dX7_deal_5 : decode cX7_deal 5 = .ok (.aload_n 0, 1) := by decide +kernel
theorem dX7_deal_6 : decode cX7_deal 6 = .ok (.iload_n 1, 1) := by decide +kernel
theorem dX7_deal_7 : decode cX7_deal 7 = .ok (.invokevirtual 266, 3) := by decide +kernel
theorem dX7_deal_10 : decode cX7_deal 10 = .ok (.ifCond .eq 10, 3) := by decide +kernel
theorem dX7_deal_13 : decode cX7_deal 13 = .ok (.iload_n 2, 1) := by decide +kernel
theorem dX7_deal_14 : decode cX7_deal 14 = .ok (.invokestatic 273, 3) := by decide +kernel
theorem dX7_deal_17 : decode cX7_deal 17 = .ok (.ifCond .ne 26, 3) := by decide +kernel
theorem dX7_deal_20 : decode cX7_deal 20 = .ok (.ldc_w 306, 3) := by decide +kernel
theorem dX7_deal_23 : decode cX7_deal 23 = .ok (.aload_n 0, 1) := by decide +kernel
theorem dX7_deal_24 : decode cX7_deal 24 = .ok (.aload_n 0, 1) := by decide +kernel
theorem dX7_deal_25 : decode cX7_deal 25 = .ok (.iload_n 1, 1) := by decide +kernel
theorem dX7_deal_26 : decode cX7_deal 26 = .ok (.invokevirtual 266, 3) := by decide +kernel
theorem dX7_deal_29 : decode cX7_deal 29 = .ok (.ifCond .eq 8, 3) := by decide +kernel
theorem dX7_deal_32 : decode cX7_deal 32 = .ok (.bipush (-2), 2) := by decide +kernel
theorem dX7_deal_34 : decode cX7_deal 34 = .ok (.goto 4, 3) := by decide +kernel
theorem dX7_deal_37 : decode cX7_deal 37 = .ok (.iconst (-1), 1) := by decide +kernel
theorem dX7_deal_38 : decode cX7_deal 38 = .ok (.invokevirtual 167, 3) := by decide +kernel
theorem dX7_deal_41 : decode cX7_deal 41 = .ok (.isub, 1) := by decide +kernel
theorem dX7_deal_42 : decode cX7_deal 42 = .ok (.ireturn, 1) := by decide +kernel
theorem dX7_deal_43 : decode cX7_deal 43 = .ok (.aload_n 0, 1) := by decide +kernel
theorem dX7_deal_44 : decode cX7_deal 44 = .ok (.iload_n 1, 1) := by decide +kernel
theorem dX7_deal_45 : decode cX7_deal 45 = .ok (.iload_n 2, 1) := by decide +kernel
theorem dX7_deal_46 : decode cX7_deal 46 = .ok (.invokevirtual 307, 3) := by decide +kernel
theorem dX7_deal_49 : decode cX7_deal 49 = .ok (.iconst 0, 1) := by decide +kernel
theorem dX7_deal_50 : decode cX7_deal 50 = .ok (.istore_n 3, 1) := by decide +kernel
theorem dX7_deal_51 : decode cX7_deal 51 = .ok (.iconst 0, 1) := by decide +kernel
theorem dX7_deal_52 : decode cX7_deal 52 = .ok (.istore 4, 2) := by decide +kernel
theorem dX7_deal_54 : decode cX7_deal 54 = .ok (.iload 4, 2) := by decide +kernel
theorem dX7_deal_56 : decode cX7_deal 56 = .ok (.aload_n 0, 1) := by decide +kernel
theorem dX7_deal_57 : decode cX7_deal 57 = .ok (.invokevirtual 107, 3) := by decide +kernel
theorem dX7_deal_60 : decode cX7_deal 60 = .ok (.if_icmp .ge 42, 3) := by decide +kernel
theorem dX7_deal_63 : decode cX7_deal 63 = .ok (.iload_n 3, 1) := by decide +kernel
theorem dX7_deal_64 : decode cX7_deal 64 = .ok (.iload 4, 2) := by decide +kernel
theorem dX7_deal_66 : decode cX7_deal 66 = .ok (.aload_n 0, 1) := by decide +kernel
theorem dX7_deal_67 : decode cX7_deal 67 = .ok (.getfield 44, 3) := by decide +kernel
theorem dX7_deal_70 : decode cX7_deal 70 = .ok (.iload_n 1, 1) := by decide +kernel
theorem dX7_deal_71 : decode cX7_deal 71 = .ok (.iaload, 1) := by decide +kernel
theorem dX7_deal_72 : decode cX7_deal 72 = .ok (.if_icmp .ne 7, 3) := by decide +kernel
theorem dX7_deal_75 : decode cX7_deal 75 = .ok (.iconst 0, 1) := by decide +kernel
theorem dX7_deal_76 : decode cX7_deal 76 = .ok (.goto 18, 3) := by decide +kernel
theorem dX7_deal_79 : decode cX7_deal 79 = .ok (.aload_n 0, 1) := by decide +kernel
theorem dX7_deal_80 : decode cX7_deal 80 = .ok (.getfield 92, 3) := by decide +kernel
theorem dX7_deal_83 : decode cX7_deal 83 = .ok (.iload 4, 2) := by decide +kernel
theorem dX7_deal_85 : decode cX7_deal 85 = .ok (.iaload, 1) := by decide +kernel
theorem dX7_deal_86 : decode cX7_deal 86 = .ok (.aload_n 0, 1) := by decide +kernel
theorem dX7_deal_87 : decode cX7_deal 87 = .ok (.getfield 62, 3) := by decide +kernel
theorem dX7_deal_90 : decode cX7_deal 90 = .ok (.iload 4, 2) := by decide +kernel
theorem dX7_deal_92 : decode cX7_deal 92 = .ok (.iaload, 1) := by decide +kernel
theorem dX7_deal_93 : decode cX7_deal 93 = .ok (.isub, 1) := by decide +kernel
theorem dX7_deal_94 : decode cX7_deal 94 = .ok (.iadd, 1) := by decide +kernel
theorem dX7_deal_95 : decode cX7_deal 95 = .ok (.istore_n 3, 1) := by decide +kernel
theorem dX7_deal_96 : decode cX7_deal 96 = .ok (.iinc 4 1, 3) := by decide +kernel
theorem dX7_deal_99 : decode cX7_deal 99 = .ok (.goto (-45), 3) := by decide +kernel
theorem dX7_deal_102 : decode cX7_deal 102 = .ok (.iload_n 3, 1) := by decide +kernel
theorem dX7_deal_103 : decode cX7_deal 103 = .ok (.aload_n 0, 1) := by decide +kernel
theorem dX7_deal_104 : decode cX7_deal 104 = .ok (.getfield 53, 3) := by decide +kernel
theorem dX7_deal_107 : decode cX7_deal 107 = .ok (.iload_n 1, 1) := by decide +kernel
theorem dX7_deal_108 : decode cX7_deal 108 = .ok (.iaload, 1) := by decide +kernel
theorem dX7_deal_109 : decode cX7_deal 109 = .ok (.iload_n 2, 1) := by decide +kernel
theorem dX7_deal_110 : decode cX7_deal 110 = .ok (.if_icmp .ge 14, 3) := by decide +kernel
theorem dX7_deal_113 : decode cX7_deal 113 = .ok (.iload_n 2, 1) := by decide +kernel
theorem dX7_deal_114 : decode cX7_deal 114 = .ok (.aload_n 0, 1) := by decide +kernel
theorem dX7_deal_115 : decode cX7_deal 115 = .ok (.getfield 53, 3) := by decide +kernel
theorem dX7_deal_118 : decode cX7_deal 118 = .ok (.iload_n 1, 1) := by decide +kernel
theorem dX7_deal_119 : decode cX7_deal 119 = .ok (.iaload, 1) := by decide +kernel
theorem dX7_deal_120 : decode cX7_deal 120 = .ok (.isub, 1) := by decide +kernel
theorem dX7_deal_121 : decode cX7_deal 121 = .ok (.goto 11, 3) := by decide +kernel
theorem dX7_deal_124 : decode cX7_deal 124 = .ok (.aload_n 0, 1) := by decide +kernel
theorem dX7_deal_125 : decode cX7_deal 125 = .ok (.getfield 53, 3) := by decide +kernel
theorem dX7_deal_128 : decode cX7_deal 128 = .ok (.iload_n 1, 1) := by decide +kernel
theorem dX7_deal_129 : decode cX7_deal 129 = .ok (.iaload, 1) := by decide +kernel
theorem dX7_deal_130 : decode cX7_deal 130 = .ok (.iload_n 2, 1) := by decide +kernel
theorem dX7_deal_131 : decode cX7_deal 131 = .ok (.isub, 1) := by decide +kernel
theorem dX7_deal_132 : decode cX7_deal 132 = .ok (.isub, 1) := by decide +kernel
theorem dX7_deal_133 : decode cX7_deal 133 = .ok (.ireturn, 1) := by decide +kernel
set_option maxRecDepth 100000 in
set_option maxHeartbeats 4000000 in
theorem g_X7_deal_20 (ids : List (Nat × Nat)) (Hn : Ndp ids)  (H0_29 : InR ids 0 29 56)  (v1 : Int32) (t0 : Sg) : Gj kI mX7_deal ids 20 [some (aR (0, 29)), some (aI v1), none, none, none] [] t0 (f_X7_deal_20 v1 t0) := by
  unfold f_X7_deal_20
  refine G_st (x_ldcw dX7_deal_20 tw_1282) ?_
  refine G_st (x_aload_n dX7_deal_23 rfl) ?_
  refine G_st (x_aload_n dX7_deal_24 rfl) ?_
  refine G_st (x_iload_n dX7_deal_25 rfl) ?_
  refine G_bd (fun x6 t7 h8 => ?_)
  refine G_st (x_callV [aR (0, 29), aI (1000000000 : Int32)] (c_X7_isHabit ids Hn v1 H0_29 _ _ _ h8) dX7_deal_26 tw_1109 kc_X7_isHabit (H0_29 29 (Nat.le_of_ble_eq_true rfl) (Nat.le_of_ble_eq_true rfl)) rfl rfl rfl rfl ⟨Nat.le_of_ble_eq_true rfl, Nat.le_of_ble_eq_true rfl⟩ (Nat.le_of_ble_eq_true rfl) rfl) ?_
  have e10 : Tj mX7_deal ids 29 [some (aR (0, 29)), some (aI v1), none, none, none] [aI x6, aR (0, 29), aI (1000000000 : Int32)] t7 38 [some (aR (0, 29)), some (aI v1), none, none, none] [aI (if x6 = 0 then (-1 : Int32) else (-2 : Int32)), aR (0, 29), aI (1000000000 : Int32)] t7 := by
    refine Tj.dia (fun c9 => ?_) (fun c9 => ?_)
    · refine Tj.tr (x_if_eq_t (tgt := 37) dX7_deal_29 (by decide) c9) ?_
      refine Tj.tr (x_iconst (-1 : Int32) dX7_deal_37 rfl) ?_
      exact Tj.rf
    · refine Tj.tr (x_if_eq_f 37 dX7_deal_29 (by decide) c9) ?_
      refine Tj.tr (x_bipush (-2 : Int32) dX7_deal_32 rfl) ?_
      refine Tj.tr (x_goto (tgt := 38) dX7_deal_34 (by decide)) ?_
      exact Tj.rf
  refine G_st e10 ?_
  refine G_bd (fun x11 t12 h13 => ?_)
  refine G_st (x_callV [aI (1000000000 : Int32)] (c_X7_refuse ids Hn (if x6 = 0 then (-1 : Int32) else (-2 : Int32)) H0_29 _ _ _ h13) dX7_deal_38 tw_981 kc_X7_refuse (H0_29 29 (Nat.le_of_ble_eq_true rfl) (Nat.le_of_ble_eq_true rfl)) rfl rfl rfl rfl ⟨Nat.le_of_ble_eq_true rfl, Nat.le_of_ble_eq_true rfl⟩ (Nat.le_of_ble_eq_true rfl) rfl) ?_
  refine G_st (x_isub dX7_deal_41) ?_
  exact G_ret rfl ⟨dX7_deal_42, _, rfl, rfl⟩ rfl
set_option maxRecDepth 100000 in
set_option maxHeartbeats 4000000 in
theorem g_X7_deal_94 (ids : List (Nat × Nat)) (Hn : Ndp ids)  (H0_29 : InR ids 0 29 56) (k54 : Int32 → Int32 → Int32 → Int32 → Sg → Option (Int32 × Sg)) (hk54 : ∀ (v1 : Int32) (v2 : Int32) (v3 : Int32) (v4 : Int32) (t0 : Sg), Gj kI mX7_deal ids 54 [some (aR (0, 29)), some (aI v1), some (aI v2), some (aI v3), some (aI v4)] [] t0 (k54 v1 v2 v3 v4 t0)) (v1 : Int32) (v2 : Int32) (v4 : Int32) (w0 : Int32) (w1 : Int32) (t0 : Sg) : Gj kI mX7_deal ids 94 [some (aR (0, 29)), some (aI v1), some (aI v2), none, some (aI v4)] [aI w0, aI w1] t0 (f_X7_deal_94 k54 v1 v2 v4 w0 w1 t0) := by
  unfold f_X7_deal_94
  refine G_st (x_iadd dX7_deal_94) ?_
  refine G_bvI (fun x31 => ?_)
  refine G_st (x_istore_n [some (aR (0, 29)), some (aI v1), some (aI v2), some (aI x31), some (aI v4)] dX7_deal_95 (Nat.le_of_ble_eq_true rfl) rfl rfl) ?_
  refine G_st (x_iinc (v4 + (1 : Int32)) [some (aR (0, 29)), some (aI v1), some (aI v2), some (aI x31), some (aI (v4 + (1 : Int32)))] dX7_deal_96 (Nat.le_of_ble_eq_true rfl) rfl rfl rfl rfl) ?_
  refine G_st (x_goto (tgt := 54) dX7_deal_99 (by decide)) ?_
  refine G_weak _ ?_ (hk54 v1 v2 x31 (v4 + (1 : Int32)) t0)
  exact (leL_s (leL_s (leL_s (leL_s (leL_s (leL_e _))))))
set_option maxRecDepth 100000 in
set_option maxHeartbeats 4000000 in
theorem g_X7_deal_54 (ids : List (Nat × Nat)) (Hn : Ndp ids)  (H0_29 : InR ids 0 29 56)  : ∀ (n : Nat) (v1 : Int32) (v2 : Int32) (v3 : Int32) (v4 : Int32) (t0 : Sg), Gj kI mX7_deal ids 54 [some (aR (0, 29)), some (aI v1), some (aI v2), some (aI v3), some (aI v4)] [] t0 (f_X7_deal_54 n v1 v2 v3 v4 t0) := by
  intro n
  induction n with
  | zero => intro v1 v2 v3 v4 t0; exact G_none
  | succ n ih =>
    intro v1 v2 v3 v4 t0
    rw [f_X7_deal_54]
    refine G_st (x_iload dX7_deal_54 rfl) ?_
    refine G_st (x_aload_n dX7_deal_56 rfl) ?_
    refine G_bd (fun x21 t22 h23 => ?_)
    refine G_st (x_callV [aI v4] (c_X7_tenants ids Hn  H0_29 _ _ _ h23) dX7_deal_57 tw_1046 kc_X7_tenants (H0_29 29 (Nat.le_of_ble_eq_true rfl) (Nat.le_of_ble_eq_true rfl)) rfl rfl rfl rfl ⟨Nat.le_of_ble_eq_true rfl, Nat.le_of_ble_eq_true rfl⟩ (Nat.le_of_ble_eq_true rfl) rfl) ?_
    refine G_ite (fun c24 => ?_) (fun c24 => ?_)
    · refine G_st (x_icmp_ge_t (tgt := 102) dX7_deal_60 (by decide) c24) ?_
      refine G_st (x_iload_n dX7_deal_102 rfl) ?_
      refine G_st (x_aload_n dX7_deal_103 rfl) ?_
      refine G_st (x_get (k := 17) (aR (0, 42)) dX7_deal_104 (H0_29 29 (Nat.le_of_ble_eq_true rfl) (Nat.le_of_ble_eq_true rfl)) rfl rfl rfl rfl inTX7 (Nat.le_of_ble_eq_true rfl) tw_864 (fun ad => rfl)) ?_
      refine G_st (x_iload_n dX7_deal_107 rfl) ?_
      refine G_chk (fun c25 => ?_)
      refine G_st (x_iaload dX7_deal_108 (H0_29 42 (Nat.le_of_ble_eq_true rfl) (Nat.le_of_ble_eq_true rfl)) rfl c25) ?_
      refine G_st (x_iload_n dX7_deal_109 rfl) ?_
      refine G_ite (fun c26 => ?_) (fun c26 => ?_)
      · refine G_st (x_icmp_ge_t (tgt := 124) dX7_deal_110 (by decide) c26) ?_
        refine G_st (x_aload_n dX7_deal_124 rfl) ?_
        refine G_st (x_get (k := 17) (aR (0, 42)) dX7_deal_125 (H0_29 29 (Nat.le_of_ble_eq_true rfl) (Nat.le_of_ble_eq_true rfl)) rfl rfl rfl rfl inTX7 (Nat.le_of_ble_eq_true rfl) tw_864 (fun ad => rfl)) ?_
        refine G_st (x_iload_n dX7_deal_128 rfl) ?_
        refine G_chk (fun c27 => ?_)
        refine G_st (x_iaload dX7_deal_129 (H0_29 42 (Nat.le_of_ble_eq_true rfl) (Nat.le_of_ble_eq_true rfl)) rfl c27) ?_
        refine G_st (x_iload_n dX7_deal_130 rfl) ?_
        refine G_st (x_isub dX7_deal_131) ?_
        refine G_st (x_isub dX7_deal_132) ?_
        exact G_ret rfl ⟨dX7_deal_133, _, rfl, rfl⟩ rfl
      · refine G_st (x_icmp_ge_f 124 dX7_deal_110 (by decide) c26) ?_
        refine G_st (x_iload_n dX7_deal_113 rfl) ?_
        refine G_st (x_aload_n dX7_deal_114 rfl) ?_
        refine G_st (x_get (k := 17) (aR (0, 42)) dX7_deal_115 (H0_29 29 (Nat.le_of_ble_eq_true rfl) (Nat.le_of_ble_eq_true rfl)) rfl rfl rfl rfl inTX7 (Nat.le_of_ble_eq_true rfl) tw_864 (fun ad => rfl)) ?_
        refine G_st (x_iload_n dX7_deal_118 rfl) ?_
        refine G_chk (fun c28 => ?_)
        refine G_st (x_iaload dX7_deal_119 (H0_29 42 (Nat.le_of_ble_eq_true rfl) (Nat.le_of_ble_eq_true rfl)) rfl c28) ?_
        refine G_st (x_isub dX7_deal_120) ?_
        refine G_st (x_goto (tgt := 132) dX7_deal_121 (by decide)) ?_
        refine G_st (x_isub dX7_deal_132) ?_
        exact G_ret rfl ⟨dX7_deal_133, _, rfl, rfl⟩ rfl
    · refine G_st (x_icmp_ge_f 102 dX7_deal_60 (by decide) c24) ?_
      refine G_st (x_iload_n dX7_deal_63 rfl) ?_
      refine G_st (x_iload dX7_deal_64 rfl) ?_
      refine G_st (x_aload_n dX7_deal_66 rfl) ?_
      refine G_st (x_get (k := 14) (aR (0, 39)) dX7_deal_67 (H0_29 29 (Nat.le_of_ble_eq_true rfl) (Nat.le_of_ble_eq_true rfl)) rfl rfl rfl rfl inTX7 (Nat.le_of_ble_eq_true rfl) tw_861 (fun ad => rfl)) ?_
      refine G_st (x_iload_n dX7_deal_70 rfl) ?_
      refine G_chk (fun c29 => ?_)
      refine G_st (x_iaload dX7_deal_71 (H0_29 39 (Nat.le_of_ble_eq_true rfl) (Nat.le_of_ble_eq_true rfl)) rfl c29) ?_
      refine G_ite (fun c30 => ?_) (fun c30 => ?_)
      · refine G_st (x_icmp_ne_f 79 dX7_deal_72 (by decide) c30) ?_
        refine G_st (x_iconst (0 : Int32) dX7_deal_75 rfl) ?_
        refine G_st (x_goto (tgt := 94) dX7_deal_76 (by decide)) ?_
        refine G_weak _ ?_ (g_X7_deal_94 ids Hn H0_29 (f_X7_deal_54 n) (ih) v1 v2 v4 (0 : Int32) v3 t22)
        exact (leL_s (leL_s (leL_s (leL_n (leL_s (leL_e _))))))
      · refine G_st (x_icmp_ne_t (tgt := 79) dX7_deal_72 (by decide) c30) ?_
        refine G_st (x_aload_n dX7_deal_79 rfl) ?_
        refine G_st (x_get (k := 40) (aR (0, 55)) dX7_deal_80 (H0_29 29 (Nat.le_of_ble_eq_true rfl) (Nat.le_of_ble_eq_true rfl)) rfl rfl rfl rfl inTX7 (Nat.le_of_ble_eq_true rfl) tw_887 (fun ad => rfl)) ?_
        refine G_st (x_iload dX7_deal_83 rfl) ?_
        refine G_chk (fun c32 => ?_)
        refine G_st (x_iaload dX7_deal_85 (H0_29 55 (Nat.le_of_ble_eq_true rfl) (Nat.le_of_ble_eq_true rfl)) rfl c32) ?_
        refine G_st (x_aload_n dX7_deal_86 rfl) ?_
        refine G_st (x_get (k := 21) (aR (0, 45)) dX7_deal_87 (H0_29 29 (Nat.le_of_ble_eq_true rfl) (Nat.le_of_ble_eq_true rfl)) rfl rfl rfl rfl inTX7 (Nat.le_of_ble_eq_true rfl) tw_868 (fun ad => rfl)) ?_
        refine G_st (x_iload dX7_deal_90 rfl) ?_
        refine G_chk (fun c33 => ?_)
        refine G_st (x_iaload dX7_deal_92 (H0_29 45 (Nat.le_of_ble_eq_true rfl) (Nat.le_of_ble_eq_true rfl)) rfl c33) ?_
        refine G_st (x_isub dX7_deal_93) ?_
        refine G_weak _ ?_ (g_X7_deal_94 ids Hn H0_29 (f_X7_deal_54 n) (ih) v1 v2 v4 ((t22 (0, 55) (v4).toNatClampNeg) - (t22 (0, 45) (v4).toNatClampNeg)) v3 t22)
        exact (leL_s (leL_s (leL_s (leL_n (leL_s (leL_e _))))))
set_option maxRecDepth 100000 in
set_option maxHeartbeats 4000000 in
theorem g_X7_deal (ids : List (Nat × Nat)) (Hn : Ndp ids) (v1 : Int32) (v2 : Int32) (H0_29 : InR ids 0 29 56) (t0 : Sg) : Gj kI mX7_deal ids 0 [some (aR (0, 29)), some (aI v1), some (aI v2), none, none] [] t0 (f_X7_deal v1 v2 t0) := by
  unfold f_X7_deal
  refine G_st (x_aload_n dX7_deal_0 rfl) ?_
  refine G_st (x_iconst (0 : Int32) dX7_deal_1 rfl) ?_
  refine G_st (x_put (k := 18) (ty := .int) (v := aI (0 : Int32)) (z := (0 : Int32)) (upS t0 (0, 29) 18 (0 : Int32)) dX7_deal_2 (H0_29 29 (Nat.le_of_ble_eq_true rfl) (Nat.le_of_ble_eq_true rfl)) rfl rfl rfl rfl inTX7 tyX7_ok nmX7 (Nat.le_of_ble_eq_true rfl) tw_865 rfl rfl (fun ad => rfl) (fun ad => rfl) (fun ad => put_i0 ad _ _ _ _ rfl) rfl) ?_
  refine G_bvS (fun t1 => ?_)
  refine G_st (x_aload_n dX7_deal_5 rfl) ?_
  refine G_st (x_iload_n dX7_deal_6 rfl) ?_
  refine G_bd (fun x2 t3 h4 => ?_)
  refine G_st (x_callV [] (c_X7_isHabit ids Hn v1 H0_29 _ _ _ h4) dX7_deal_7 tw_1109 kc_X7_isHabit (H0_29 29 (Nat.le_of_ble_eq_true rfl) (Nat.le_of_ble_eq_true rfl)) rfl rfl rfl rfl ⟨Nat.le_of_ble_eq_true rfl, Nat.le_of_ble_eq_true rfl⟩ (Nat.le_of_ble_eq_true rfl) rfl) ?_
  refine G_ite (fun c5 => ?_) (fun c5 => ?_)
  · refine G_st (x_if_eq_t (tgt := 20) dX7_deal_10 (by decide) c5) ?_
    refine G_weak _ ?_ (g_X7_deal_20 ids Hn H0_29 v1 t3)
    exact (leL_s (leL_s (leL_n (leL_n (leL_n (leL_e _))))))
  · refine G_st (x_if_eq_f 20 dX7_deal_10 (by decide) c5) ?_
    refine G_st (x_iload_n dX7_deal_13 rfl) ?_
    refine G_bd (fun x14 t15 h16 => ?_)
    refine G_st (x_callS [] (c_X7_isTime ids Hn v2  _ _ _ h16) dX7_deal_14 tw_1118 kc_X7_isTime rfl ⟨Nat.le_of_ble_eq_true rfl, Nat.le_of_ble_eq_true rfl⟩ (Nat.le_of_ble_eq_true rfl) rfl) ?_
    refine G_ite (fun c17 => ?_) (fun c17 => ?_)
    · refine G_st (x_if_ne_f 43 dX7_deal_17 (by decide) c17) ?_
      refine G_weak _ ?_ (g_X7_deal_20 ids Hn H0_29 v1 t15)
      exact (leL_s (leL_s (leL_n (leL_n (leL_n (leL_e _))))))
    · refine G_st (x_if_ne_t (tgt := 43) dX7_deal_17 (by decide) c17) ?_
      refine G_st (x_aload_n dX7_deal_43 rfl) ?_
      refine G_st (x_iload_n dX7_deal_44 rfl) ?_
      refine G_st (x_iload_n dX7_deal_45 rfl) ?_
      refine G_bd (fun _ t19 h20 => ?_)
      refine G_st (x_callV [] (c_X7_weekBoth ids Hn v1 v2 H0_29 _ _ _ h20) dX7_deal_46 tw_1283 kc_X7_weekBoth (H0_29 29 (Nat.le_of_ble_eq_true rfl) (Nat.le_of_ble_eq_true rfl)) rfl rfl rfl rfl ⟨Nat.le_of_ble_eq_true rfl, Nat.le_of_ble_eq_true rfl⟩ (Nat.le_of_ble_eq_true rfl) rfl) ?_
      refine G_st (x_iconst (0 : Int32) dX7_deal_49 rfl) ?_
      refine G_st (x_istore_n [some (aR (0, 29)), some (aI v1), some (aI v2), some (aI (0 : Int32)), none] dX7_deal_50 (Nat.le_of_ble_eq_true rfl) rfl rfl) ?_
      refine G_st (x_iconst (0 : Int32) dX7_deal_51 rfl) ?_
      refine G_st (x_istore [some (aR (0, 29)), some (aI v1), some (aI v2), some (aI (0 : Int32)), some (aI (0 : Int32))] dX7_deal_52 (Nat.le_of_ble_eq_true rfl) rfl rfl) ?_
      refine G_weak _ ?_ (g_X7_deal_54 ids Hn H0_29 fuel v1 v2 (0 : Int32) (0 : Int32) t19)
      exact (leL_s (leL_s (leL_s (leL_s (leL_s (leL_e _))))))
set_option maxRecDepth 100000 in
set_option maxHeartbeats 4000000 in
theorem c_X7_deal (ids : List (Nat × Nat)) (Hn : Ndp ids) (v1 : Int32) (v2 : Int32) (H0_29 : InR ids 0 29 56) (t0 : Sg) (r : Int32) (t1 : Sg) (hf : f_X7_deal v1 v2 t0 = some (r, t1)) : Mt0 mX7_deal yX7_deal ids [aR (0, 29), aI v1, aI v2] t0 (some (aI r)) t1 :=
  Mt_of (x := (r, t1)) (g_X7_deal ids Hn v1 v2 H0_29 t0) hf (fun _ _ => trivial) (by decide) rfl Hn (fun _ => rfl) (fun _ => Nat.le_of_ble_eq_true rfl)
theorem dX7_pays_0 : decode cX7_pays 0 = .ok (.aload_n 0, 1) := by decide +kernel
theorem dX7_pays_1 : decode cX7_pays 1 = .ok (.iconst 0, 1) := by decide +kernel
theorem dX7_pays_2 : decode cX7_pays 2 = .ok (.putfield 98, 3) := by decide +kernel
theorem dX7_pays_5 : decode cX7_pays 5 = .ok (.aload_n 0, 1) := by decide +kernel
theorem dX7_pays_6 : decode cX7_pays 6 = .ok (.iload_n 1, 1) := by decide +kernel
theorem dX7_pays_7 : decode cX7_pays 7 = .ok (.invokevirtual 266, 3) := by decide +kernel
theorem dX7_pays_10 : decode cX7_pays 10 = .ok (.ifCond .ne 9, 3) := by decide +kernel
theorem dX7_pays_13 : decode cX7_pays 13 = .ok (.aload_n 0, 1) := by decide +kernel
theorem dX7_pays_14 : decode cX7_pays 14 = .ok (.iconst (-1), 1) := by decide +kernel
theorem dX7_pays_15 : decode cX7_pays 15 = .ok (.invokevirtual 167, 3) := by decide +kernel
theorem dX7_pays_18 : decode cX7_pays 18 = .ok (.ireturn, 1) := by decide +kernel
theorem dX7_pays_19 : decode cX7_pays 19 = .ok (.iload_n 2, 1) := by decide +kernel
theorem dX7_pays_20 : decode cX7_pays 20 = .ok (.invokestatic 273, 3) := by decide +kernel
theorem dX7_pays_23 : decode cX7_pays 23 = .ok (.ifCond .eq 13, 3) := by decide +kernel
theorem dX7_pays_26 : decode cX7_pays 26 = .ok (.iload_n 3, 1) := by decide +kernel
theorem dX7_pays_27 : decode cX7_pays 27 = .ok (.i2l, 1) := by decide +kernel
theorem dX7_pays_28 : decode cX7_pays 28 = .ok (.lconst 0, 1) := by decide +kernel
theorem dX7_pays_29 : decode cX7_pays 29 = .ok (.lconst 1, 1) := by decide +kernel
theorem dX7_pays_30 : decode cX7_pays 30 = .ok (.invokestatic 111, 3) := by decide +kernel
theorem dX7_pays_33 : decode cX7_pays 33 = .ok (.ifCond .ne 10, 3) := by decide +kernel
theorem dX7_pays_36 : decode cX7_pays 36 = .ok (.aload_n 0, 1) := by decide +kernel
theorem dX7_pays_37 : decode cX7_pays 37 = .ok (.bipush (-2), 2) := by decide +kernel
theorem dX7_pays_39 : decode cX7_pays 39 = .ok (.invokevirtual 167, 3) := by decide +kernel
theorem dX7_pays_42 : decode cX7_pays 42 = .ok (.ireturn, 1) := by decide +kernel
theorem dX7_pays_43 : decode cX7_pays 43 = .ok (.aload_n 0, 1) := by decide +kernel
theorem dX7_pays_44 : decode cX7_pays 44 = .ok (.iload_n 1, 1) := by decide +kernel
theorem dX7_pays_45 : decode cX7_pays 45 = .ok (.iload_n 2, 1) := by decide +kernel
theorem dX7_pays_46 : decode cX7_pays 46 = .ok (.invokevirtual 307, 3) := by decide +kernel
theorem dX7_pays_49 : decode cX7_pays 49 = .ok (.bipush (-9), 2) := by decide +kernel
theorem dX7_pays_51 : decode cX7_pays 51 = .ok (.istore 4, 2) := by decide +kernel
theorem dX7_pays_53 : decode cX7_pays 53 = .ok (.iconst 0, 1) := by decide +kernel
theorem dX7_pays_54 : decode cX7_pays 54 = .ok (.istore 5, 2) := by decide +kernel
theorem dX7_pays_56 : decode cX7_pays 56 = .ok (.iconst 0, 1) := by decide +kernel
theorem dX7_pays_57 : decode cX7_pays 57 = .ok (.istore 6, 2) := by decide +kernel
theorem dX7_pays_59 : decode cX7_pays 59 = .ok (.iload 6, 2) := by decide +kernel
theorem dX7_pays_61 : decode cX7_pays 61 = .ok (.aload_n 0, 1) := by decide +kernel
theorem dX7_pays_62 : decode cX7_pays 62 = .ok (.invokevirtual 107, 3) := by decide +kernel
theorem dX7_pays_65 : decode cX7_pays 65 = .ok (.if_icmp .ge 58, 3) := by decide +kernel
theorem dX7_pays_68 : decode cX7_pays 68 = .ok (.aload_n 0, 1) := by decide +kernel
theorem dX7_pays_69 : decode cX7_pays 69 = .ok (.getfield 92, 3) := by decide +kernel
theorem dX7_pays_72 : decode cX7_pays 72 = .ok (.iload 6, 2) := by decide +kernel
theorem dX7_pays_74 : decode cX7_pays 74 = .ok (.iaload, 1) := by decide +kernel
theorem dX7_pays_75 : decode cX7_pays 75 = .ok (.aload_n 0, 1) := by decide +kernel
theorem dX7_pays_76 : decode cX7_pays 76 = .ok (.getfield 62, 3) := by decide +kernel
theorem dX7_pays_79 : decode cX7_pays 79 = .ok (.iload 6, 2) := by decide +kernel
theorem dX7_pays_81 : decode cX7_pays 81 = .ok (.iaload, 1) := by decide +kernel
theorem dX7_pays_82 : decode cX7_pays 82 = .ok (.isub, 1) := by decide +kernel
theorem dX7_pays_83 : decode cX7_pays 83 = .ok (.istore 7, 2) := by decide +kernel
theorem dX7_pays_85 : decode cX7_pays 85 = .ok (.iload 7, 2) := by decide +kernel
theorem dX7_pays_87 : decode cX7_pays 87 = .ok (.iload 5, 2) := by decide +kernel
theorem dX7_pays_89 : decode cX7_pays 89 = .ok (.if_icmp .le 8, 3) := by decide +kernel
theorem dX7_pays_92 : decode cX7_pays 92 = .ok (.iload 6, 2) := by decide +kernel
theorem dX7_pays_94 : decode cX7_pays 94 = .ok (.goto 5, 3) := by decide +kernel
theorem dX7_pays_97 : decode cX7_pays 97 = .ok (.iload 4, 2) := by decide +kernel
theorem dX7_pays_99 : decode cX7_pays 99 = .ok (.istore 4, 2) := by decide +kernel
theorem dX7_pays_101 : decode cX7_pays 101 = .ok (.iload 7, 2) := by decide +kernel
theorem dX7_pays_103 : decode cX7_pays 103 = .ok (.iload 5, 2) := by decide +kernel
theorem dX7_pays_105 : decode cX7_pays 105 = .ok (.if_icmp .le 8, 3) := by decide +kernel
theorem dX7_pays_108 : decode cX7_pays 108 = .ok (.iload 7, 2) := by decide +kernel
theorem dX7_pays_110 : decode cX7_pays 110 = .ok (.goto 5, 3) := by decide +kernel
theorem dX7_pays_113 : decode cX7_pays 113 = .ok (.iload 5, 2) := by decide +kernel
theorem dX7_pays_115 : decode cX7_pays 115 = .ok (.istore 5, 2) := by decide +kernel
theorem dX7_pays_117 : decode cX7_pays 117 = .ok (.iinc 6 1, 3) := by decide +kernel
theorem dX7_pays_120 : decode cX7_pays 120 = .ok (.goto (-61), 3) := by decide +kernel
theorem dX7_pays_123 : decode cX7_pays 123 = .ok (.iload_n 3, 1) := by decide +kernel
theorem dX7_pays_124 : decode cX7_pays 124 = .ok (.ifCond .ne 8, 3) := by decide +kernel
theorem dX7_pays_127 : decode cX7_pays 127 = .ok (.iload 4, 2) := by decide +kernel
theorem dX7_pays_129 : decode cX7_pays 129 = .ok (.goto 5, 3) := by decide +kernel
theorem dX7_pays_132 : decode cX7_pays 132 = .ok (.iload 5, 2) := by decide +kernel
theorem dX7_pays_134 : decode cX7_pays 134 = .ok (.ireturn, 1) := by decide +kernel
set_option maxRecDepth 100000 in
set_option maxHeartbeats 4000000 in
theorem g_X7_pays_36 (ids : List (Nat × Nat)) (Hn : Ndp ids)  (H0_29 : InR ids 0 29 56)   (t0 : Sg) : Gj kI mX7_pays ids 36 [some (aR (0, 29)), none, none, none, none, none, none, none] [] t0 (f_X7_pays_36 t0) := by
  unfold f_X7_pays_36
  refine G_st (x_aload_n dX7_pays_36 rfl) ?_
  refine G_st (x_bipush (-2 : Int32) dX7_pays_37 rfl) ?_
  refine G_bd (fun x13 t14 h15 => ?_)
  refine G_st (x_callV [] (c_X7_refuse ids Hn (-2 : Int32) H0_29 _ _ _ h15) dX7_pays_39 tw_981 kc_X7_refuse (H0_29 29 (Nat.le_of_ble_eq_true rfl) (Nat.le_of_ble_eq_true rfl)) rfl rfl rfl rfl ⟨Nat.le_of_ble_eq_true rfl, Nat.le_of_ble_eq_true rfl⟩ (Nat.le_of_ble_eq_true rfl) rfl) ?_
  exact G_ret rfl ⟨dX7_pays_42, _, rfl, rfl⟩ rfl
set_option maxRecDepth 100000 in
set_option maxHeartbeats 4000000 in
theorem g_X7_pays_59 (ids : List (Nat × Nat)) (Hn : Ndp ids)  (H0_29 : InR ids 0 29 56)  : ∀ (n : Nat) (v3 : Int32) (v4 : Int32) (v5 : Int32) (v6 : Int32) (t0 : Sg), Gj kI mX7_pays ids 59 [some (aR (0, 29)), none, none, some (aI v3), some (aI v4), some (aI v5), some (aI v6), none] [] t0 (f_X7_pays_59 n v3 v4 v5 v6 t0) := by
  intro n
  induction n with
  | zero => intro v3 v4 v5 v6 t0; exact G_none
  | succ n ih =>
    intro v3 v4 v5 v6 t0
    rw [f_X7_pays_59]
    refine G_st (x_iload dX7_pays_59 rfl) ?_
    refine G_st (x_aload_n dX7_pays_61 rfl) ?_
    refine G_bd (fun x23 t24 h25 => ?_)
    refine G_st (x_callV [aI v6] (c_X7_tenants ids Hn  H0_29 _ _ _ h25) dX7_pays_62 tw_1046 kc_X7_tenants (H0_29 29 (Nat.le_of_ble_eq_true rfl) (Nat.le_of_ble_eq_true rfl)) rfl rfl rfl rfl ⟨Nat.le_of_ble_eq_true rfl, Nat.le_of_ble_eq_true rfl⟩ (Nat.le_of_ble_eq_true rfl) rfl) ?_
    refine G_ite (fun c26 => ?_) (fun c26 => ?_)
    · refine G_st (x_icmp_ge_t (tgt := 123) dX7_pays_65 (by decide) c26) ?_
      refine G_st (x_iload_n dX7_pays_123 rfl) ?_
      have e28 : Tj mX7_pays ids 124 [some (aR (0, 29)), none, none, some (aI v3), some (aI v4), some (aI v5), some (aI v6), none] [aI v3] t24 134 [some (aR (0, 29)), none, none, some (aI v3), some (aI v4), some (aI v5), some (aI v6), none] [aI (if v3 = 0 then v4 else v5)] t24 := by
        refine Tj.dia (fun c27 => ?_) (fun c27 => ?_)
        · refine Tj.tr (x_if_ne_f 132 dX7_pays_124 (by decide) c27) ?_
          refine Tj.tr (x_iload dX7_pays_127 rfl) ?_
          refine Tj.tr (x_goto (tgt := 134) dX7_pays_129 (by decide)) ?_
          exact Tj.rf
        · refine Tj.tr (x_if_ne_t (tgt := 132) dX7_pays_124 (by decide) c27) ?_
          refine Tj.tr (x_iload dX7_pays_132 rfl) ?_
          exact Tj.rf
      refine G_st e28 ?_
      exact G_ret rfl ⟨dX7_pays_134, _, rfl, rfl⟩ rfl
    · refine G_st (x_icmp_ge_f 123 dX7_pays_65 (by decide) c26) ?_
      refine G_st (x_aload_n dX7_pays_68 rfl) ?_
      refine G_st (x_get (k := 40) (aR (0, 55)) dX7_pays_69 (H0_29 29 (Nat.le_of_ble_eq_true rfl) (Nat.le_of_ble_eq_true rfl)) rfl rfl rfl rfl inTX7 (Nat.le_of_ble_eq_true rfl) tw_887 (fun ad => rfl)) ?_
      refine G_st (x_iload dX7_pays_72 rfl) ?_
      refine G_chk (fun c29 => ?_)
      refine G_st (x_iaload dX7_pays_74 (H0_29 55 (Nat.le_of_ble_eq_true rfl) (Nat.le_of_ble_eq_true rfl)) rfl c29) ?_
      refine G_st (x_aload_n dX7_pays_75 rfl) ?_
      refine G_st (x_get (k := 21) (aR (0, 45)) dX7_pays_76 (H0_29 29 (Nat.le_of_ble_eq_true rfl) (Nat.le_of_ble_eq_true rfl)) rfl rfl rfl rfl inTX7 (Nat.le_of_ble_eq_true rfl) tw_868 (fun ad => rfl)) ?_
      refine G_st (x_iload dX7_pays_79 rfl) ?_
      refine G_chk (fun c30 => ?_)
      refine G_st (x_iaload dX7_pays_81 (H0_29 45 (Nat.le_of_ble_eq_true rfl) (Nat.le_of_ble_eq_true rfl)) rfl c30) ?_
      refine G_st (x_isub dX7_pays_82) ?_
      refine G_bvI (fun x31 => ?_)
      refine G_st (x_istore [some (aR (0, 29)), none, none, some (aI v3), some (aI v4), some (aI v5), some (aI v6), some (aI x31)] dX7_pays_83 (Nat.le_of_ble_eq_true rfl) rfl rfl) ?_
      refine G_st (x_iload dX7_pays_85 rfl) ?_
      refine G_st (x_iload dX7_pays_87 rfl) ?_
      have e33 : Tj mX7_pays ids 89 [some (aR (0, 29)), none, none, some (aI v3), some (aI v4), some (aI v5), some (aI v6), some (aI x31)] [aI v5, aI x31] t24 99 [some (aR (0, 29)), none, none, some (aI v3), some (aI v4), some (aI v5), some (aI v6), some (aI x31)] [aI (if x31 ≤ v5 then v4 else v6)] t24 := by
        refine Tj.dia (fun c32 => ?_) (fun c32 => ?_)
        · refine Tj.tr (x_icmp_le_t (tgt := 97) dX7_pays_89 (by decide) c32) ?_
          refine Tj.tr (x_iload dX7_pays_97 rfl) ?_
          exact Tj.rf
        · refine Tj.tr (x_icmp_le_f 97 dX7_pays_89 (by decide) c32) ?_
          refine Tj.tr (x_iload dX7_pays_92 rfl) ?_
          refine Tj.tr (x_goto (tgt := 99) dX7_pays_94 (by decide)) ?_
          exact Tj.rf
      refine G_st e33 ?_
      refine G_bvI (fun x34 => ?_)
      refine G_st (x_istore [some (aR (0, 29)), none, none, some (aI v3), some (aI x34), some (aI v5), some (aI v6), some (aI x31)] dX7_pays_99 (Nat.le_of_ble_eq_true rfl) rfl rfl) ?_
      refine G_st (x_iload dX7_pays_101 rfl) ?_
      refine G_st (x_iload dX7_pays_103 rfl) ?_
      have e36 : Tj mX7_pays ids 105 [some (aR (0, 29)), none, none, some (aI v3), some (aI x34), some (aI v5), some (aI v6), some (aI x31)] [aI v5, aI x31] t24 115 [some (aR (0, 29)), none, none, some (aI v3), some (aI x34), some (aI v5), some (aI v6), some (aI x31)] [aI (if x31 ≤ v5 then v5 else x31)] t24 := by
        refine Tj.dia (fun c35 => ?_) (fun c35 => ?_)
        · refine Tj.tr (x_icmp_le_t (tgt := 113) dX7_pays_105 (by decide) c35) ?_
          refine Tj.tr (x_iload dX7_pays_113 rfl) ?_
          exact Tj.rf
        · refine Tj.tr (x_icmp_le_f 113 dX7_pays_105 (by decide) c35) ?_
          refine Tj.tr (x_iload dX7_pays_108 rfl) ?_
          refine Tj.tr (x_goto (tgt := 115) dX7_pays_110 (by decide)) ?_
          exact Tj.rf
      refine G_st e36 ?_
      refine G_bvI (fun x37 => ?_)
      refine G_st (x_istore [some (aR (0, 29)), none, none, some (aI v3), some (aI x34), some (aI x37), some (aI v6), some (aI x31)] dX7_pays_115 (Nat.le_of_ble_eq_true rfl) rfl rfl) ?_
      refine G_st (x_iinc (v6 + (1 : Int32)) [some (aR (0, 29)), none, none, some (aI v3), some (aI x34), some (aI x37), some (aI (v6 + (1 : Int32))), some (aI x31)] dX7_pays_117 (Nat.le_of_ble_eq_true rfl) rfl rfl rfl rfl) ?_
      refine G_st (x_goto (tgt := 59) dX7_pays_120 (by decide)) ?_
      refine G_weak _ ?_ ((ih) v3 x34 x37 (v6 + (1 : Int32)) t24)
      exact (leL_s (leL_n (leL_n (leL_s (leL_s (leL_s (leL_s (leL_n (leL_e _)))))))))
set_option maxRecDepth 100000 in
set_option maxHeartbeats 4000000 in
theorem g_X7_pays (ids : List (Nat × Nat)) (Hn : Ndp ids) (v1 : Int32) (v2 : Int32) (v3 : Int32) (H0_29 : InR ids 0 29 56) (t0 : Sg) : Gj kI mX7_pays ids 0 [some (aR (0, 29)), some (aI v1), some (aI v2), some (aI v3), none, none, none, none] [] t0 (f_X7_pays v1 v2 v3 t0) := by
  unfold f_X7_pays
  refine G_st (x_aload_n dX7_pays_0 rfl) ?_
  refine G_st (x_iconst (0 : Int32) dX7_pays_1 rfl) ?_
  refine G_st (x_put (k := 18) (ty := .int) (v := aI (0 : Int32)) (z := (0 : Int32)) (upS t0 (0, 29) 18 (0 : Int32)) dX7_pays_2 (H0_29 29 (Nat.le_of_ble_eq_true rfl) (Nat.le_of_ble_eq_true rfl)) rfl rfl rfl rfl inTX7 tyX7_ok nmX7 (Nat.le_of_ble_eq_true rfl) tw_865 rfl rfl (fun ad => rfl) (fun ad => rfl) (fun ad => put_i0 ad _ _ _ _ rfl) rfl) ?_
  refine G_bvS (fun t1 => ?_)
  refine G_st (x_aload_n dX7_pays_5 rfl) ?_
  refine G_st (x_iload_n dX7_pays_6 rfl) ?_
  refine G_bd (fun x2 t3 h4 => ?_)
  refine G_st (x_callV [] (c_X7_isHabit ids Hn v1 H0_29 _ _ _ h4) dX7_pays_7 tw_1109 kc_X7_isHabit (H0_29 29 (Nat.le_of_ble_eq_true rfl) (Nat.le_of_ble_eq_true rfl)) rfl rfl rfl rfl ⟨Nat.le_of_ble_eq_true rfl, Nat.le_of_ble_eq_true rfl⟩ (Nat.le_of_ble_eq_true rfl) rfl) ?_
  refine G_ite (fun c5 => ?_) (fun c5 => ?_)
  · refine G_st (x_if_ne_f 19 dX7_pays_10 (by decide) c5) ?_
    refine G_st (x_aload_n dX7_pays_13 rfl) ?_
    refine G_st (x_iconst (-1 : Int32) dX7_pays_14 rfl) ?_
    refine G_bd (fun x6 t7 h8 => ?_)
    refine G_st (x_callV [] (c_X7_refuse ids Hn (-1 : Int32) H0_29 _ _ _ h8) dX7_pays_15 tw_981 kc_X7_refuse (H0_29 29 (Nat.le_of_ble_eq_true rfl) (Nat.le_of_ble_eq_true rfl)) rfl rfl rfl rfl ⟨Nat.le_of_ble_eq_true rfl, Nat.le_of_ble_eq_true rfl⟩ (Nat.le_of_ble_eq_true rfl) rfl) ?_
    exact G_ret rfl ⟨dX7_pays_18, _, rfl, rfl⟩ rfl
  · refine G_st (x_if_ne_t (tgt := 19) dX7_pays_10 (by decide) c5) ?_
    refine G_st (x_iload_n dX7_pays_19 rfl) ?_
    refine G_bd (fun x9 t10 h11 => ?_)
    refine G_st (x_callS [] (c_X7_isTime ids Hn v2  _ _ _ h11) dX7_pays_20 tw_1118 kc_X7_isTime rfl ⟨Nat.le_of_ble_eq_true rfl, Nat.le_of_ble_eq_true rfl⟩ (Nat.le_of_ble_eq_true rfl) rfl) ?_
    refine G_ite (fun c12 => ?_) (fun c12 => ?_)
    · refine G_st (x_if_eq_t (tgt := 36) dX7_pays_23 (by decide) c12) ?_
      refine G_weak _ ?_ (g_X7_pays_36 ids Hn H0_29 t10)
      exact (leL_s (leL_n (leL_n (leL_n (leL_n (leL_n (leL_n (leL_n (leL_e _)))))))))
    · refine G_st (x_if_eq_f 36 dX7_pays_23 (by decide) c12) ?_
      refine G_st (x_iload_n dX7_pays_26 rfl) ?_
      refine G_st (x_i2l dX7_pays_27) ?_
      refine G_st (x_lconst (0 : Int64) dX7_pays_28 rfl) ?_
      refine G_st (x_lconst (1 : Int64) dX7_pays_29 rfl) ?_
      refine G_bd (fun x16 t17 h18 => ?_)
      refine G_st (x_callS [] (c_X7_in ids Hn (v3).toInt64 (0 : Int64) (1 : Int64)  _ _ _ h18) dX7_pays_30 tw_1003 kc_X7_in rfl ⟨Nat.le_of_ble_eq_true rfl, Nat.le_of_ble_eq_true rfl⟩ (Nat.le_of_ble_eq_true rfl) rfl) ?_
      refine G_ite (fun c19 => ?_) (fun c19 => ?_)
      · refine G_st (x_if_ne_f 43 dX7_pays_33 (by decide) c19) ?_
        refine G_weak _ ?_ (g_X7_pays_36 ids Hn H0_29 t17)
        exact (leL_s (leL_n (leL_n (leL_n (leL_n (leL_n (leL_n (leL_n (leL_e _)))))))))
      · refine G_st (x_if_ne_t (tgt := 43) dX7_pays_33 (by decide) c19) ?_
        refine G_st (x_aload_n dX7_pays_43 rfl) ?_
        refine G_st (x_iload_n dX7_pays_44 rfl) ?_
        refine G_st (x_iload_n dX7_pays_45 rfl) ?_
        refine G_bd (fun _ t21 h22 => ?_)
        refine G_st (x_callV [] (c_X7_weekBoth ids Hn v1 v2 H0_29 _ _ _ h22) dX7_pays_46 tw_1283 kc_X7_weekBoth (H0_29 29 (Nat.le_of_ble_eq_true rfl) (Nat.le_of_ble_eq_true rfl)) rfl rfl rfl rfl ⟨Nat.le_of_ble_eq_true rfl, Nat.le_of_ble_eq_true rfl⟩ (Nat.le_of_ble_eq_true rfl) rfl) ?_
        refine G_st (x_bipush (-9 : Int32) dX7_pays_49 rfl) ?_
        refine G_st (x_istore [some (aR (0, 29)), some (aI v1), some (aI v2), some (aI v3), some (aI (-9 : Int32)), none, none, none] dX7_pays_51 (Nat.le_of_ble_eq_true rfl) rfl rfl) ?_
        refine G_st (x_iconst (0 : Int32) dX7_pays_53 rfl) ?_
        refine G_st (x_istore [some (aR (0, 29)), some (aI v1), some (aI v2), some (aI v3), some (aI (-9 : Int32)), some (aI (0 : Int32)), none, none] dX7_pays_54 (Nat.le_of_ble_eq_true rfl) rfl rfl) ?_
        refine G_st (x_iconst (0 : Int32) dX7_pays_56 rfl) ?_
        refine G_st (x_istore [some (aR (0, 29)), some (aI v1), some (aI v2), some (aI v3), some (aI (-9 : Int32)), some (aI (0 : Int32)), some (aI (0 : Int32)), none] dX7_pays_57 (Nat.le_of_ble_eq_true rfl) rfl rfl) ?_
        refine G_weak _ ?_ (g_X7_pays_59 ids Hn H0_29 fuel v3 (-9 : Int32) (0 : Int32) (0 : Int32) t21)
        exact (leL_s (leL_n (leL_n (leL_s (leL_s (leL_s (leL_s (leL_n (leL_e _)))))))))
set_option maxRecDepth 100000 in
set_option maxHeartbeats 4000000 in
theorem c_X7_pays (ids : List (Nat × Nat)) (Hn : Ndp ids) (v1 : Int32) (v2 : Int32) (v3 : Int32) (H0_29 : InR ids 0 29 56) (t0 : Sg) (r : Int32) (t1 : Sg) (hf : f_X7_pays v1 v2 v3 t0 = some (r, t1)) : Mt0 mX7_pays yX7_pays ids [aR (0, 29), aI v1, aI v2, aI v3] t0 (some (aI r)) t1 :=
  Mt_of (x := (r, t1)) (g_X7_pays ids Hn v1 v2 v3 H0_29 t0) hf (fun _ _ => trivial) (by decide) rfl Hn (fun _ => rfl) (fun _ => Nat.le_of_ble_eq_true rfl)
theorem dX7_isAngry_0 : decode cX7_isAngry 0 = .ok (.iconst 0, 1) := by decide +kernel
theorem dX7_isAngry_1 : decode cX7_isAngry 1 = .ok (.istore_n 2, 1) := by decide +kernel
theorem dX7_isAngry_2 : decode cX7_isAngry 2 = .ok (.iconst 0, 1) := by decide +kernel
theorem dX7_isAngry_3 : decode cX7_isAngry 3 = .ok (.istore_n 3, 1) := by decide +kernel
theorem dX7_isAngry_4 : decode cX7_isAngry 4 = .ok (.iload_n 3, 1) := by decide +kernel
theorem dX7_isAngry_5 : decode cX7_isAngry 5 = .ok (.bipush 24, 2) := by decide +kernel
theorem dX7_isAngry_7 : decode cX7_isAngry 7 = .ok (.if_icmp .ge 48, 3) := by decide +kernel
theorem dX7_isAngry_10 : decode cX7_isAngry 10 = .ok (.iload_n 2, 1) := by decide +kernel
theorem dX7_isAngry_11 : decode cX7_isAngry 11 = .ok (.ifCond .ne 32, 3) := by decide +kernel
theorem dX7_isAngry_14 : decode cX7_isAngry 14 = .ok (.aload_n 0, 1) := by decide +kernel
theorem dX7_isAngry_15 : decode cX7_isAngry 15 = .ok (.getfield 38, 3) := by decide +kernel
theorem dX7_isAngry_18 : decode cX7_isAngry 18 = .ok (.iload_n 1, 1) := by decide +kernel
theorem dX7_isAngry_19 : decode cX7_isAngry 19 = .ok (.iaload, 1) := by decide +kernel
theorem dX7_isAngry_20 : decode cX7_isAngry 20 = .ok (.iload_n 3, 1) := by decide +kernel
theorem dX7_isAngry_21 : decode cX7_isAngry 21 = .ok (.ishr, 1) := by decide +kernel
theorem dX7_isAngry_22 : decode cX7_isAngry 22 = .ok (.iconst 1, 1) := by decide +kernel
theorem dX7_isAngry_23 : decode cX7_isAngry 23 = .ok (.iand, 1) := by decide +kernel
theorem dX7_isAngry_24 : decode cX7_isAngry 24 = .ok (.iconst 1, 1) := by decide +kernel
theorem dX7_isAngry_25 : decode cX7_isAngry 25 = .ok (.if_icmp .ne 22, 3) := by decide +kernel
theorem dX7_isAngry_28 : decode cX7_isAngry 28 = .ok (.aload_n 0, 1) := by decide +kernel
theorem dX7_isAngry_29 : decode cX7_isAngry 29 = .ok (.getfield 41, 3) := by decide +kernel
theorem dX7_isAngry_32 : decode cX7_isAngry 32 = .ok (.bipush 24, 2) := by decide +kernel
theorem dX7_isAngry_34 : decode cX7_isAngry 34 = .ok (.iload_n 1, 1) := by decide +kernel
theorem dX7_isAngry_35 : decode cX7_isAngry 35 = .ok (.imul, 1) := by decide +kernel
theorem dX7_isAngry_36 : decode cX7_isAngry 36 = .ok (.iload_n 3, 1) := by decide +kernel
theorem dX7_isAngry_37 : decode cX7_isAngry 37 = .ok (.iadd, 1) := by decide +kernel
theorem dX7_isAngry_38 : decode cX7_isAngry 38 = .ok (.iaload, 1) := by decide +kernel
theorem dX7_isAngry_39 : decode cX7_isAngry 39 = .ok (.iconst 5, 1) := by decide +kernel
theorem dX7_isAngry_40 : decode cX7_isAngry 40 = .ok (.if_icmp .lt 7, 3) := by decide +kernel
theorem dX7_isAngry_43 : decode cX7_isAngry 43 = .ok (.iconst 1, 1) := by decide +kernel
theorem dX7_isAngry_44 : decode cX7_isAngry 44 = .ok (.goto 4, 3) := by decide +kernel
theorem dX7_isAngry_47 : decode cX7_isAngry 47 = .ok (.iconst 0, 1) := by decide +kernel
theorem dX7_isAngry_48 : decode cX7_isAngry 48 = .ok (.istore_n 2, 1) := by decide +kernel
theorem dX7_isAngry_49 : decode cX7_isAngry 49 = .ok (.iinc 3 1, 3) := by decide +kernel
theorem dX7_isAngry_52 : decode cX7_isAngry 52 = .ok (.goto (-48), 3) := by decide +kernel
theorem dX7_isAngry_55 : decode cX7_isAngry 55 = .ok (.iload_n 2, 1) := by decide +kernel
theorem dX7_isAngry_56 : decode cX7_isAngry 56 = .ok (.ireturn, 1) := by decide +kernel
set_option maxRecDepth 100000 in
set_option maxHeartbeats 4000000 in
theorem g_X7_isAngry_48 (ids : List (Nat × Nat)) (Hn : Ndp ids)  (H0_29 : InR ids 0 29 56) (k4 : Int32 → Int32 → Int32 → Sg → Option (Int32 × Sg)) (hk4 : ∀ (v1 : Int32) (v2 : Int32) (v3 : Int32) (t0 : Sg), Gj kI mX7_isAngry ids 4 [some (aR (0, 29)), some (aI v1), some (aI v2), some (aI v3)] [] t0 (k4 v1 v2 v3 t0)) (v1 : Int32) (v3 : Int32) (w0 : Int32) (t0 : Sg) : Gj kI mX7_isAngry ids 48 [some (aR (0, 29)), some (aI v1), none, some (aI v3)] [aI w0] t0 (f_X7_isAngry_48 k4 v1 v3 w0 t0) := by
  unfold f_X7_isAngry_48
  refine G_st (x_istore_n [some (aR (0, 29)), some (aI v1), some (aI w0), some (aI v3)] dX7_isAngry_48 (Nat.le_of_ble_eq_true rfl) rfl rfl) ?_
  refine G_st (x_iinc (v3 + (1 : Int32)) [some (aR (0, 29)), some (aI v1), some (aI w0), some (aI (v3 + (1 : Int32)))] dX7_isAngry_49 (Nat.le_of_ble_eq_true rfl) rfl rfl rfl rfl) ?_
  refine G_st (x_goto (tgt := 4) dX7_isAngry_52 (by decide)) ?_
  refine G_weak _ ?_ (hk4 v1 w0 (v3 + (1 : Int32)) t0)
  exact (leL_s (leL_s (leL_s (leL_s (leL_e _)))))
set_option maxRecDepth 100000 in
set_option maxHeartbeats 4000000 in
theorem g_X7_isAngry_47 (ids : List (Nat × Nat)) (Hn : Ndp ids)  (H0_29 : InR ids 0 29 56) (k4 : Int32 → Int32 → Int32 → Sg → Option (Int32 × Sg)) (hk4 : ∀ (v1 : Int32) (v2 : Int32) (v3 : Int32) (t0 : Sg), Gj kI mX7_isAngry ids 4 [some (aR (0, 29)), some (aI v1), some (aI v2), some (aI v3)] [] t0 (k4 v1 v2 v3 t0)) (v1 : Int32) (v3 : Int32) (t0 : Sg) : Gj kI mX7_isAngry ids 47 [some (aR (0, 29)), some (aI v1), none, some (aI v3)] [] t0 (f_X7_isAngry_47 k4 v1 v3 t0) := by
  unfold f_X7_isAngry_47
  refine G_st (x_iconst (0 : Int32) dX7_isAngry_47 rfl) ?_
  refine G_weak _ ?_ (g_X7_isAngry_48 ids Hn H0_29 k4 hk4 v1 v3 (0 : Int32) t0)
  exact (leL_s (leL_s (leL_n (leL_s (leL_e _)))))
set_option maxRecDepth 100000 in
set_option maxHeartbeats 4000000 in
theorem g_X7_isAngry_43 (ids : List (Nat × Nat)) (Hn : Ndp ids)  (H0_29 : InR ids 0 29 56) (k4 : Int32 → Int32 → Int32 → Sg → Option (Int32 × Sg)) (hk4 : ∀ (v1 : Int32) (v2 : Int32) (v3 : Int32) (t0 : Sg), Gj kI mX7_isAngry ids 4 [some (aR (0, 29)), some (aI v1), some (aI v2), some (aI v3)] [] t0 (k4 v1 v2 v3 t0)) (v1 : Int32) (v3 : Int32) (t0 : Sg) : Gj kI mX7_isAngry ids 43 [some (aR (0, 29)), some (aI v1), none, some (aI v3)] [] t0 (f_X7_isAngry_43 k4 v1 v3 t0) := by
  unfold f_X7_isAngry_43
  refine G_st (x_iconst (1 : Int32) dX7_isAngry_43 rfl) ?_
  refine G_st (x_goto (tgt := 48) dX7_isAngry_44 (by decide)) ?_
  refine G_weak _ ?_ (g_X7_isAngry_48 ids Hn H0_29 k4 hk4 v1 v3 (1 : Int32) t0)
  exact (leL_s (leL_s (leL_n (leL_s (leL_e _)))))
set_option maxRecDepth 100000 in
set_option maxHeartbeats 4000000 in
theorem g_X7_isAngry_4 (ids : List (Nat × Nat)) (Hn : Ndp ids)  (H0_29 : InR ids 0 29 56)  : ∀ (n : Nat) (v1 : Int32) (v2 : Int32) (v3 : Int32) (t0 : Sg), Gj kI mX7_isAngry ids 4 [some (aR (0, 29)), some (aI v1), some (aI v2), some (aI v3)] [] t0 (f_X7_isAngry_4 n v1 v2 v3 t0) := by
  intro n
  induction n with
  | zero => intro v1 v2 v3 t0; exact G_none
  | succ n ih =>
    intro v1 v2 v3 t0
    rw [f_X7_isAngry_4]
    refine G_st (x_iload_n dX7_isAngry_4 rfl) ?_
    refine G_st (x_bipush (24 : Int32) dX7_isAngry_5 rfl) ?_
    refine G_ite (fun c1 => ?_) (fun c1 => ?_)
    · refine G_st (x_icmp_ge_t (tgt := 55) dX7_isAngry_7 (by decide) c1) ?_
      refine G_st (x_iload_n dX7_isAngry_55 rfl) ?_
      refine G_chk (fun c2 => ?_)
      exact G_ret rfl ⟨dX7_isAngry_56, _, rfl, nar_b c2⟩ rfl
    · refine G_st (x_icmp_ge_f 55 dX7_isAngry_7 (by decide) c1) ?_
      refine G_st (x_iload_n dX7_isAngry_10 rfl) ?_
      refine G_ite (fun c3 => ?_) (fun c3 => ?_)
      · refine G_st (x_if_ne_f 43 dX7_isAngry_11 (by decide) c3) ?_
        refine G_st (x_aload_n dX7_isAngry_14 rfl) ?_
        refine G_st (x_get (k := 12) (aR (0, 37)) dX7_isAngry_15 (H0_29 29 (Nat.le_of_ble_eq_true rfl) (Nat.le_of_ble_eq_true rfl)) rfl rfl rfl rfl inTX7 (Nat.le_of_ble_eq_true rfl) tw_859 (fun ad => rfl)) ?_
        refine G_st (x_iload_n dX7_isAngry_18 rfl) ?_
        refine G_chk (fun c4 => ?_)
        refine G_st (x_iaload dX7_isAngry_19 (H0_29 37 (Nat.le_of_ble_eq_true rfl) (Nat.le_of_ble_eq_true rfl)) rfl c4) ?_
        refine G_st (x_iload_n dX7_isAngry_20 rfl) ?_
        refine G_st (x_ishr dX7_isAngry_21) ?_
        refine G_st (x_iconst (1 : Int32) dX7_isAngry_22 rfl) ?_
        refine G_st (x_iand dX7_isAngry_23) ?_
        refine G_st (x_iconst (1 : Int32) dX7_isAngry_24 rfl) ?_
        refine G_ite (fun c5 => ?_) (fun c5 => ?_)
        · refine G_st (x_icmp_ne_f 47 dX7_isAngry_25 (by decide) c5) ?_
          refine G_st (x_aload_n dX7_isAngry_28 rfl) ?_
          refine G_st (x_get (k := 13) (aR (0, 38)) dX7_isAngry_29 (H0_29 29 (Nat.le_of_ble_eq_true rfl) (Nat.le_of_ble_eq_true rfl)) rfl rfl rfl rfl inTX7 (Nat.le_of_ble_eq_true rfl) tw_860 (fun ad => rfl)) ?_
          refine G_st (x_bipush (24 : Int32) dX7_isAngry_32 rfl) ?_
          refine G_st (x_iload_n dX7_isAngry_34 rfl) ?_
          refine G_st (x_imul dX7_isAngry_35) ?_
          refine G_st (x_iload_n dX7_isAngry_36 rfl) ?_
          refine G_st (x_iadd dX7_isAngry_37) ?_
          refine G_chk (fun c6 => ?_)
          refine G_st (x_iaload dX7_isAngry_38 (H0_29 38 (Nat.le_of_ble_eq_true rfl) (Nat.le_of_ble_eq_true rfl)) rfl c6) ?_
          refine G_st (x_iconst (5 : Int32) dX7_isAngry_39 rfl) ?_
          refine G_ite (fun c7 => ?_) (fun c7 => ?_)
          · refine G_st (x_icmp_lt_t (tgt := 47) dX7_isAngry_40 (by decide) c7) ?_
            refine G_weak _ ?_ (g_X7_isAngry_47 ids Hn H0_29 (f_X7_isAngry_4 n) (ih) v1 v3 t0)
            exact (leL_s (leL_s (leL_n (leL_s (leL_e _)))))
          · refine G_st (x_icmp_lt_f 47 dX7_isAngry_40 (by decide) c7) ?_
            refine G_weak _ ?_ (g_X7_isAngry_43 ids Hn H0_29 (f_X7_isAngry_4 n) (ih) v1 v3 t0)
            exact (leL_s (leL_s (leL_n (leL_s (leL_e _)))))
        · refine G_st (x_icmp_ne_t (tgt := 47) dX7_isAngry_25 (by decide) c5) ?_
          refine G_weak _ ?_ (g_X7_isAngry_47 ids Hn H0_29 (f_X7_isAngry_4 n) (ih) v1 v3 t0)
          exact (leL_s (leL_s (leL_n (leL_s (leL_e _)))))
      · refine G_st (x_if_ne_t (tgt := 43) dX7_isAngry_11 (by decide) c3) ?_
        refine G_weak _ ?_ (g_X7_isAngry_43 ids Hn H0_29 (f_X7_isAngry_4 n) (ih) v1 v3 t0)
        exact (leL_s (leL_s (leL_n (leL_s (leL_e _)))))
set_option maxRecDepth 100000 in
set_option maxHeartbeats 4000000 in
theorem g_X7_isAngry (ids : List (Nat × Nat)) (Hn : Ndp ids) (v1 : Int32) (H0_29 : InR ids 0 29 56) (t0 : Sg) : Gj kI mX7_isAngry ids 0 [some (aR (0, 29)), some (aI v1), none, none] [] t0 (f_X7_isAngry v1 t0) := by
  unfold f_X7_isAngry
  refine G_st (x_iconst (0 : Int32) dX7_isAngry_0 rfl) ?_
  refine G_st (x_istore_n [some (aR (0, 29)), some (aI v1), some (aI (0 : Int32)), none] dX7_isAngry_1 (Nat.le_of_ble_eq_true rfl) rfl rfl) ?_
  refine G_st (x_iconst (0 : Int32) dX7_isAngry_2 rfl) ?_
  refine G_st (x_istore_n [some (aR (0, 29)), some (aI v1), some (aI (0 : Int32)), some (aI (0 : Int32))] dX7_isAngry_3 (Nat.le_of_ble_eq_true rfl) rfl rfl) ?_
  refine G_weak _ ?_ (g_X7_isAngry_4 ids Hn H0_29 fuel v1 (0 : Int32) (0 : Int32) t0)
  exact (leL_s (leL_s (leL_s (leL_s (leL_e _)))))
set_option maxRecDepth 100000 in
set_option maxHeartbeats 4000000 in
theorem c_X7_isAngry (ids : List (Nat × Nat)) (Hn : Ndp ids) (v1 : Int32) (H0_29 : InR ids 0 29 56) (t0 : Sg) (r : Int32) (t1 : Sg) (hf : f_X7_isAngry v1 t0 = some (r, t1)) : Mt0 mX7_isAngry yX7_isAngry ids [aR (0, 29), aI v1] t0 (some (aI r)) t1 :=
  Mt_of (x := (r, t1)) (g_X7_isAngry ids Hn v1 H0_29 t0) hf (fun _ _ => trivial) (by decide) rfl Hn (fun _ => rfl) (fun _ => Nat.le_of_ble_eq_true rfl)
theorem dX7_revenge_0 : decode cX7_revenge 0 = .ok (.iconst 0, 1) := by decide +kernel
theorem dX7_revenge_1 : decode cX7_revenge 1 = .ok (.istore_n 1, 1) := by decide +kernel
theorem dX7_revenge_2 : decode cX7_revenge 2 = .ok (.iload_n 1, 1) := by decide +kernel
theorem dX7_revenge_3 : decode cX7_revenge 3 = .ok (.aload_n 0, 1) := by decide +kernel
theorem dX7_revenge_4 : decode cX7_revenge 4 = .ok (.getfield 104, 3) := by decide +kernel
theorem dX7_revenge_7 : decode cX7_revenge 7 = .ok (.if_icmp .ge 47, 3) := by decide +kernel
theorem dX7_revenge_10 : decode cX7_revenge 10 = .ok (.aload_n 0, 1) := by decide +kernel
theorem dX7_revenge_11 : decode cX7_revenge 11 = .ok (.getfield 50, 3) := by decide +kernel
theorem dX7_revenge_14 : decode cX7_revenge 14 = .ok (.iload_n 1, 1) := by decide +kernel
theorem dX7_revenge_15 : decode cX7_revenge 15 = .ok (.dup2, 1) := by decide +kernel
theorem dX7_revenge_16 : decode cX7_revenge 16 = .ok (.iaload, 1) := by decide +kernel
theorem dX7_revenge_17 : decode cX7_revenge 17 = .ok (.aload_n 0, 1) := by decide +kernel
theorem dX7_revenge_18 : decode cX7_revenge 18 = .ok (.aload_n 0, 1) := by decide +kernel
theorem dX7_revenge_19 : decode cX7_revenge 19 = .ok (.getfield 44, 3) := by decide +kernel
theorem dX7_revenge_22 : decode cX7_revenge 22 = .ok (.iload_n 1, 1) := by decide +kernel
theorem dX7_revenge_23 : decode cX7_revenge 23 = .ok (.iaload, 1) := by decide +kernel
theorem dX7_revenge_24 : decode cX7_revenge 24 = .ok (.invokevirtual 310, 3) := by decide +kernel
theorem dX7_revenge_27 : decode cX7_revenge 27 = .ok (.ifCond .eq 18, 3) := by decide +kernel
theorem dX7_revenge_30 : decode cX7_revenge 30 = .ok (.aload_n 0, 1) := by decide +kernel
theorem dX7_revenge_31 : decode cX7_revenge 31 = .ok (.getfield 50, 3) := by decide +kernel
theorem dX7_revenge_34 : decode cX7_revenge 34 = .ok (.iload_n 1, 1) := by decide +kernel
theorem dX7_revenge_35 : decode cX7_revenge 35 = .ok (.iaload, 1) := by decide +kernel
theorem dX7_revenge_36 : decode cX7_revenge 36 = .ok (.bipush 9, 2) := by decide +kernel
theorem dX7_revenge_38 : decode cX7_revenge 38 = .ok (.if_icmp .ge 7, 3) := by decide +kernel
theorem dX7_revenge_41 : decode cX7_revenge 41 = .ok (.iconst 1, 1) := by decide +kernel
theorem dX7_revenge_42 : decode cX7_revenge 42 = .ok (.goto 4, 3) := by decide +kernel
theorem dX7_revenge_45 : decode cX7_revenge 45 = .ok (.iconst 0, 1) := by decide +kernel
theorem dX7_revenge_46 : decode cX7_revenge 46 = .ok (.iadd, 1) := by decide +kernel
theorem dX7_revenge_47 : decode cX7_revenge 47 = .ok (.iastore, 1) := by decide +kernel
theorem dX7_revenge_48 : decode cX7_revenge 48 = .ok (.iinc 1 1, 3) := by decide +kernel
theorem dX7_revenge_51 : decode cX7_revenge 51 = .ok (.goto (-49), 3) := by decide +kernel
theorem dX7_revenge_54 : decode cX7_revenge 54 = .ok (.return_, 1) := by decide +kernel
set_option maxRecDepth 100000 in
set_option maxHeartbeats 4000000 in
theorem g_X7_revenge_46 (ids : List (Nat × Nat)) (Hn : Ndp ids)  (H0_29 : InR ids 0 29 56) (k2 : Int32 → Sg → Option (Unit × Sg)) (hk2 : ∀ (v1 : Int32) (t0 : Sg), Gj kV mX7_revenge ids 2 [some (aR (0, 29)), some (aI v1)] [] t0 (k2 v1 t0)) (v1 : Int32) (w0 : Int32) (w1 : Int32) (w2 : Int32) (t0 : Sg) : Gj kV mX7_revenge ids 46 [some (aR (0, 29)), some (aI v1)] [aI w0, aI w1, aI w2, aR (0, 41)] t0 (f_X7_revenge_46 k2 v1 w0 w1 w2 t0) := by
  unfold f_X7_revenge_46
  refine G_st (x_iadd dX7_revenge_46) ?_
  refine G_chk (fun c8 => ?_)
  refine G_st (x_iastore dX7_revenge_47 (H0_29 41 (Nat.le_of_ble_eq_true rfl) (Nat.le_of_ble_eq_true rfl)) rfl c8) ?_
  refine G_bvS (fun t9 => ?_)
  refine G_st (x_iinc (v1 + (1 : Int32)) [some (aR (0, 29)), some (aI (v1 + (1 : Int32)))] dX7_revenge_48 (Nat.le_of_ble_eq_true rfl) rfl rfl rfl rfl) ?_
  refine G_st (x_goto (tgt := 2) dX7_revenge_51 (by decide)) ?_
  refine G_weak _ ?_ (hk2 (v1 + (1 : Int32)) t9)
  exact (leL_s (leL_s (leL_e _)))
set_option maxRecDepth 100000 in
set_option maxHeartbeats 4000000 in
theorem g_X7_revenge_45 (ids : List (Nat × Nat)) (Hn : Ndp ids)  (H0_29 : InR ids 0 29 56) (k2 : Int32 → Sg → Option (Unit × Sg)) (hk2 : ∀ (v1 : Int32) (t0 : Sg), Gj kV mX7_revenge ids 2 [some (aR (0, 29)), some (aI v1)] [] t0 (k2 v1 t0)) (v1 : Int32) (w0 : Int32) (w1 : Int32) (t0 : Sg) : Gj kV mX7_revenge ids 45 [some (aR (0, 29)), some (aI v1)] [aI w0, aI w1, aR (0, 41)] t0 (f_X7_revenge_45 k2 v1 w0 w1 t0) := by
  unfold f_X7_revenge_45
  refine G_st (x_iconst (0 : Int32) dX7_revenge_45 rfl) ?_
  refine G_weak _ ?_ (g_X7_revenge_46 ids Hn H0_29 k2 hk2 v1 (0 : Int32) w0 w1 t0)
  exact (leL_s (leL_s (leL_e _)))
set_option maxRecDepth 100000 in
set_option maxHeartbeats 4000000 in
theorem g_X7_revenge_2 (ids : List (Nat × Nat)) (Hn : Ndp ids)  (H0_29 : InR ids 0 29 56)  : ∀ (n : Nat) (v1 : Int32) (t0 : Sg), Gj kV mX7_revenge ids 2 [some (aR (0, 29)), some (aI v1)] [] t0 (f_X7_revenge_2 n v1 t0) := by
  intro n
  induction n with
  | zero => intro v1 t0; exact G_none
  | succ n ih =>
    intro v1 t0
    rw [f_X7_revenge_2]
    refine G_st (x_iload_n dX7_revenge_2 rfl) ?_
    refine G_st (x_aload_n dX7_revenge_3 rfl) ?_
    refine G_st (x_get (k := 4) (aI (t0 (0, 29) 4)) dX7_revenge_4 (H0_29 29 (Nat.le_of_ble_eq_true rfl) (Nat.le_of_ble_eq_true rfl)) rfl rfl rfl rfl inTX7 (Nat.le_of_ble_eq_true rfl) tw_851 (fun ad => rfl)) ?_
    refine G_ite (fun c1 => ?_) (fun c1 => ?_)
    · refine G_st (x_icmp_ge_t (tgt := 54) dX7_revenge_7 (by decide) c1) ?_
      exact G_ret rfl ⟨rfl, dX7_revenge_54⟩ rfl
    · refine G_st (x_icmp_ge_f 54 dX7_revenge_7 (by decide) c1) ?_
      refine G_st (x_aload_n dX7_revenge_10 rfl) ?_
      refine G_st (x_get (k := 16) (aR (0, 41)) dX7_revenge_11 (H0_29 29 (Nat.le_of_ble_eq_true rfl) (Nat.le_of_ble_eq_true rfl)) rfl rfl rfl rfl inTX7 (Nat.le_of_ble_eq_true rfl) tw_863 (fun ad => rfl)) ?_
      refine G_st (x_iload_n dX7_revenge_14 rfl) ?_
      refine G_st (x_dup2 dX7_revenge_15 rfl rfl) ?_
      refine G_chk (fun c2 => ?_)
      refine G_st (x_iaload dX7_revenge_16 (H0_29 41 (Nat.le_of_ble_eq_true rfl) (Nat.le_of_ble_eq_true rfl)) rfl c2) ?_
      refine G_st (x_aload_n dX7_revenge_17 rfl) ?_
      refine G_st (x_aload_n dX7_revenge_18 rfl) ?_
      refine G_st (x_get (k := 14) (aR (0, 39)) dX7_revenge_19 (H0_29 29 (Nat.le_of_ble_eq_true rfl) (Nat.le_of_ble_eq_true rfl)) rfl rfl rfl rfl inTX7 (Nat.le_of_ble_eq_true rfl) tw_861 (fun ad => rfl)) ?_
      refine G_st (x_iload_n dX7_revenge_22 rfl) ?_
      refine G_chk (fun c3 => ?_)
      refine G_st (x_iaload dX7_revenge_23 (H0_29 39 (Nat.le_of_ble_eq_true rfl) (Nat.le_of_ble_eq_true rfl)) rfl c3) ?_
      refine G_bd (fun x4 t5 h6 => ?_)
      refine G_st (x_callV [aI (t0 (0, 41) (v1).toNatClampNeg), aI v1, aR (0, 41)] (c_X7_isAngry ids Hn (t0 (0, 39) (v1).toNatClampNeg) H0_29 _ _ _ h6) dX7_revenge_24 tw_1299 kc_X7_isAngry (H0_29 29 (Nat.le_of_ble_eq_true rfl) (Nat.le_of_ble_eq_true rfl)) rfl rfl rfl rfl ⟨Nat.le_of_ble_eq_true rfl, Nat.le_of_ble_eq_true rfl⟩ (Nat.le_of_ble_eq_true rfl) rfl) ?_
      refine G_ite (fun c7 => ?_) (fun c7 => ?_)
      · refine G_st (x_if_eq_t (tgt := 45) dX7_revenge_27 (by decide) c7) ?_
        refine G_weak _ ?_ (g_X7_revenge_45 ids Hn H0_29 (f_X7_revenge_2 n) (ih) v1 (t0 (0, 41) (v1).toNatClampNeg) v1 t5)
        exact (leL_s (leL_s (leL_e _)))
      · refine G_st (x_if_eq_f 45 dX7_revenge_27 (by decide) c7) ?_
        refine G_st (x_aload_n dX7_revenge_30 rfl) ?_
        refine G_st (x_get (k := 16) (aR (0, 41)) dX7_revenge_31 (H0_29 29 (Nat.le_of_ble_eq_true rfl) (Nat.le_of_ble_eq_true rfl)) rfl rfl rfl rfl inTX7 (Nat.le_of_ble_eq_true rfl) tw_863 (fun ad => rfl)) ?_
        refine G_st (x_iload_n dX7_revenge_34 rfl) ?_
        refine G_chk (fun c10 => ?_)
        refine G_st (x_iaload dX7_revenge_35 (H0_29 41 (Nat.le_of_ble_eq_true rfl) (Nat.le_of_ble_eq_true rfl)) rfl c10) ?_
        refine G_st (x_bipush (9 : Int32) dX7_revenge_36 rfl) ?_
        refine G_ite (fun c11 => ?_) (fun c11 => ?_)
        · refine G_st (x_icmp_ge_t (tgt := 45) dX7_revenge_38 (by decide) c11) ?_
          refine G_weak _ ?_ (g_X7_revenge_45 ids Hn H0_29 (f_X7_revenge_2 n) (ih) v1 (t0 (0, 41) (v1).toNatClampNeg) v1 t5)
          exact (leL_s (leL_s (leL_e _)))
        · refine G_st (x_icmp_ge_f 45 dX7_revenge_38 (by decide) c11) ?_
          refine G_st (x_iconst (1 : Int32) dX7_revenge_41 rfl) ?_
          refine G_st (x_goto (tgt := 46) dX7_revenge_42 (by decide)) ?_
          refine G_weak _ ?_ (g_X7_revenge_46 ids Hn H0_29 (f_X7_revenge_2 n) (ih) v1 (1 : Int32) (t0 (0, 41) (v1).toNatClampNeg) v1 t5)
          exact (leL_s (leL_s (leL_e _)))
set_option maxRecDepth 100000 in
set_option maxHeartbeats 4000000 in
theorem g_X7_revenge (ids : List (Nat × Nat)) (Hn : Ndp ids)  (H0_29 : InR ids 0 29 56) (t0 : Sg) : Gj kV mX7_revenge ids 0 [some (aR (0, 29)), none] [] t0 (f_X7_revenge t0) := by
  unfold f_X7_revenge
  refine G_st (x_iconst (0 : Int32) dX7_revenge_0 rfl) ?_
  refine G_st (x_istore_n [some (aR (0, 29)), some (aI (0 : Int32))] dX7_revenge_1 (Nat.le_of_ble_eq_true rfl) rfl rfl) ?_
  refine G_weak _ ?_ (g_X7_revenge_2 ids Hn H0_29 fuel (0 : Int32) t0)
  exact (leL_s (leL_s (leL_e _)))
set_option maxRecDepth 100000 in
set_option maxHeartbeats 4000000 in
theorem c_X7_revenge (ids : List (Nat × Nat)) (Hn : Ndp ids)  (H0_29 : InR ids 0 29 56) (t0 : Sg) (r : Unit) (t1 : Sg) (hf : f_X7_revenge t0 = some (r, t1)) : Mt0 mX7_revenge yX7_revenge ids [aR (0, 29)] t0 none t1 :=
  Mt_of (x := (r, t1)) (g_X7_revenge ids Hn  H0_29 t0) hf (fun _ _ => trivial) (by decide) rfl Hn (fun _ => rfl) (fun _ => Nat.le_of_ble_eq_true rfl)
theorem dX7_climbs_0 : decode cX7_climbs 0 = .ok (.aload_n 0, 1) := by decide +kernel
theorem dX7_climbs_1 : decode cX7_climbs 1 = .ok (.iconst 0, 1) := by decide +kernel
theorem dX7_climbs_2 : decode cX7_climbs 2 = .ok (.putfield 98, 3) := by decide +kernel
theorem dX7_climbs_5 : decode cX7_climbs 5 = .ok (.aload_n 0, 1) := by decide +kernel
theorem dX7_climbs_6 : decode cX7_climbs 6 = .ok (.aload_n 0, 1) := by decide +kernel
theorem dX7_climbs_7 : decode cX7_climbs 7 = .ok (.getfield 83, 3) := by decide +kernel
theorem dX7_climbs_10 : decode cX7_climbs 10 = .ok (.iconst 1, 1) := by decide +kernel
theorem dX7_climbs_11 : decode cX7_climbs 11 = .ok (.invokevirtual 233, 3) := by decide +kernel
theorem dX7_climbs_14 : decode cX7_climbs 14 = .ok (.bipush (-9), 2) := by decide +kernel
theorem dX7_climbs_16 : decode cX7_climbs 16 = .ok (.istore_n 1, 1) := by decide +kernel
theorem dX7_climbs_17 : decode cX7_climbs 17 = .ok (.iconst 0, 1) := by decide +kernel
theorem dX7_climbs_18 : decode cX7_climbs 18 = .ok (.istore_n 2, 1) := by decide +kernel
theorem dX7_climbs_19 : decode cX7_climbs 19 = .ok (.iconst 0, 1) := by decide +kernel
theorem dX7_climbs_20 : decode cX7_climbs 20 = .ok (.istore_n 3, 1) := by decide +kernel
theorem dX7_climbs_21 : decode cX7_climbs 21 = .ok (.iload_n 3, 1) := by decide +kernel
theorem dX7_climbs_22 : decode cX7_climbs 22 = .ok (.bipush 10, 2) := by decide +kernel
theorem dX7_climbs_24 : decode cX7_climbs 24 = .ok (.if_icmp .ge 47, 3) := by decide +kernel
theorem dX7_climbs_27 : decode cX7_climbs 27 = .ok (.iload_n 1, 1) := by decide +kernel
theorem dX7_climbs_28 : decode cX7_climbs 28 = .ok (.ifCond .ge 43, 3) := by decide +kernel
theorem dX7_climbs_31 : decode cX7_climbs 31 = .ok (.aload_n 0, 1) := by decide +kernel
theorem dX7_climbs_32 : decode cX7_climbs 32 = .ok (.invokevirtual 313, 3) := by decide +kernel
theorem dX7_climbs_35 : decode cX7_climbs 35 = .ok (.aload_n 0, 1) := by decide +kernel
theorem dX7_climbs_36 : decode cX7_climbs 36 = .ok (.invokevirtual 160, 3) := by decide +kernel
theorem dX7_climbs_39 : decode cX7_climbs 39 = .ok (.istore 4, 2) := by decide +kernel
theorem dX7_climbs_41 : decode cX7_climbs 41 = .ok (.aload_n 0, 1) := by decide +kernel
theorem dX7_climbs_42 : decode cX7_climbs 42 = .ok (.invokevirtual 282, 3) := by decide +kernel
theorem dX7_climbs_45 : decode cX7_climbs 45 = .ok (.iload_n 3, 1) := by decide +kernel
theorem dX7_climbs_46 : decode cX7_climbs 46 = .ok (.ifCond .le 13, 3) := by decide +kernel
theorem dX7_climbs_49 : decode cX7_climbs 49 = .ok (.iload 4, 2) := by decide +kernel
theorem dX7_climbs_51 : decode cX7_climbs 51 = .ok (.iload_n 2, 1) := by decide +kernel
theorem dX7_climbs_52 : decode cX7_climbs 52 = .ok (.if_icmp .gt 7, 3) := by decide +kernel
theorem dX7_climbs_55 : decode cX7_climbs 55 = .ok (.iload_n 3, 1) := by decide +kernel
theorem dX7_climbs_56 : decode cX7_climbs 56 = .ok (.goto 5, 3) := by decide +kernel
theorem dX7_climbs_59 : decode cX7_climbs 59 = .ok (.bipush (-9), 2) := by decide +kernel
theorem dX7_climbs_61 : decode cX7_climbs 61 = .ok (.istore_n 1, 1) := by decide +kernel
theorem dX7_climbs_62 : decode cX7_climbs 62 = .ok (.iload 4, 2) := by decide +kernel
theorem dX7_climbs_64 : decode cX7_climbs 64 = .ok (.istore_n 2, 1) := by decide +kernel
theorem dX7_climbs_65 : decode cX7_climbs 65 = .ok (.iinc 3 1, 3) := by decide +kernel
theorem dX7_climbs_68 : decode cX7_climbs 68 = .ok (.goto (-47), 3) := by decide +kernel
theorem dX7_climbs_71 : decode cX7_climbs 71 = .ok (.aload_n 0, 1) := by decide +kernel
theorem dX7_climbs_72 : decode cX7_climbs 72 = .ok (.aload_n 0, 1) := by decide +kernel
theorem dX7_climbs_73 : decode cX7_climbs 73 = .ok (.getfield 83, 3) := by decide +kernel
theorem dX7_climbs_76 : decode cX7_climbs 76 = .ok (.iconst 0, 1) := by decide +kernel
theorem dX7_climbs_77 : decode cX7_climbs 77 = .ok (.invokevirtual 233, 3) := by decide +kernel
theorem dX7_climbs_80 : decode cX7_climbs 80 = .ok (.iload_n 1, 1) := by decide +kernel
theorem dX7_climbs_81 : decode cX7_climbs 81 = .ok (.ireturn, 1) := by decide +kernel
set_option maxRecDepth 100000 in
set_option maxHeartbeats 4000000 in
theorem g_X7_climbs_71 (ids : List (Nat × Nat)) (Hn : Ndp ids)  (H0_29 : InR ids 0 29 56)  (v1 : Int32) (t0 : Sg) : Gj kI mX7_climbs ids 71 [some (aR (0, 29)), some (aI v1), none, none, none] [] t0 (f_X7_climbs_71 v1 t0) := by
  unfold f_X7_climbs_71
  refine G_st (x_aload_n dX7_climbs_71 rfl) ?_
  refine G_st (x_aload_n dX7_climbs_72 rfl) ?_
  refine G_st (x_get (k := 33) (aR (0, 52)) dX7_climbs_73 (H0_29 29 (Nat.le_of_ble_eq_true rfl) (Nat.le_of_ble_eq_true rfl)) rfl rfl rfl rfl inTX7 (Nat.le_of_ble_eq_true rfl) tw_880 (fun ad => rfl)) ?_
  refine G_st (x_iconst (0 : Int32) dX7_climbs_76 rfl) ?_
  refine G_bd (fun _ t7 h8 => ?_)
  refine G_st (x_callV [] (c_X7_carryAll ids Hn (0, 52) (0 : Int32) H0_29 (H0_29 52 (Nat.le_of_ble_eq_true rfl) (Nat.le_of_ble_eq_true rfl)) rfl _ _ _ h8) dX7_climbs_77 tw_1023 kc_X7_carryAll (H0_29 29 (Nat.le_of_ble_eq_true rfl) (Nat.le_of_ble_eq_true rfl)) rfl rfl rfl rfl ⟨Nat.le_of_ble_eq_true rfl, Nat.le_of_ble_eq_true rfl⟩ (Nat.le_of_ble_eq_true rfl) rfl) ?_
  refine G_st (x_iload_n dX7_climbs_80 rfl) ?_
  exact G_ret rfl ⟨dX7_climbs_81, _, rfl, rfl⟩ rfl
set_option maxRecDepth 100000 in
set_option maxHeartbeats 4000000 in
theorem g_X7_climbs_21 (ids : List (Nat × Nat)) (Hn : Ndp ids)  (H0_29 : InR ids 0 29 56)  : ∀ (n : Nat) (v1 : Int32) (v2 : Int32) (v3 : Int32) (t0 : Sg), Gj kI mX7_climbs ids 21 [some (aR (0, 29)), some (aI v1), some (aI v2), some (aI v3), none] [] t0 (f_X7_climbs_21 n v1 v2 v3 t0) := by
  intro n
  induction n with
  | zero => intro v1 v2 v3 t0; exact G_none
  | succ n ih =>
    intro v1 v2 v3 t0
    rw [f_X7_climbs_21]
    refine G_st (x_iload_n dX7_climbs_21 rfl) ?_
    refine G_st (x_bipush (10 : Int32) dX7_climbs_22 rfl) ?_
    refine G_ite (fun c5 => ?_) (fun c5 => ?_)
    · refine G_st (x_icmp_ge_t (tgt := 71) dX7_climbs_24 (by decide) c5) ?_
      refine G_weak _ ?_ (g_X7_climbs_71 ids Hn H0_29 v1 t0)
      exact (leL_s (leL_s (leL_n (leL_n (leL_n (leL_e _))))))
    · refine G_st (x_icmp_ge_f 71 dX7_climbs_24 (by decide) c5) ?_
      refine G_st (x_iload_n dX7_climbs_27 rfl) ?_
      refine G_ite (fun c9 => ?_) (fun c9 => ?_)
      · refine G_st (x_if_ge_t (tgt := 71) dX7_climbs_28 (by decide) c9) ?_
        refine G_weak _ ?_ (g_X7_climbs_71 ids Hn H0_29 v1 t0)
        exact (leL_s (leL_s (leL_n (leL_n (leL_n (leL_e _))))))
      · refine G_st (x_if_ge_f 71 dX7_climbs_28 (by decide) c9) ?_
        refine G_st (x_aload_n dX7_climbs_31 rfl) ?_
        refine G_bd (fun _ t11 h12 => ?_)
        refine G_st (x_callV [] (c_X7_revenge ids Hn  H0_29 _ _ _ h12) dX7_climbs_32 tw_1295 kc_X7_revenge (H0_29 29 (Nat.le_of_ble_eq_true rfl) (Nat.le_of_ble_eq_true rfl)) rfl rfl rfl rfl ⟨Nat.le_of_ble_eq_true rfl, Nat.le_of_ble_eq_true rfl⟩ (Nat.le_of_ble_eq_true rfl) rfl) ?_
        refine G_st (x_aload_n dX7_climbs_35 rfl) ?_
        refine G_bd (fun x13 t14 h15 => ?_)
        refine G_st (x_callV [] (c_X7_oneWeek ids Hn  H0_29 _ _ _ h15) dX7_climbs_36 tw_1157 kc_X7_oneWeek (H0_29 29 (Nat.le_of_ble_eq_true rfl) (Nat.le_of_ble_eq_true rfl)) rfl rfl rfl rfl ⟨Nat.le_of_ble_eq_true rfl, Nat.le_of_ble_eq_true rfl⟩ (Nat.le_of_ble_eq_true rfl) rfl) ?_
        refine G_st (x_istore [some (aR (0, 29)), some (aI v1), some (aI v2), some (aI v3), some (aI x13)] dX7_climbs_39 (Nat.le_of_ble_eq_true rfl) rfl rfl) ?_
        refine G_st (x_aload_n dX7_climbs_41 rfl) ?_
        refine G_bd (fun _ t17 h18 => ?_)
        refine G_st (x_callV [] (c_X7_keepWeek ids Hn  H0_29 _ _ _ h18) dX7_climbs_42 tw_1193 kc_X7_keepWeek (H0_29 29 (Nat.le_of_ble_eq_true rfl) (Nat.le_of_ble_eq_true rfl)) rfl rfl rfl rfl ⟨Nat.le_of_ble_eq_true rfl, Nat.le_of_ble_eq_true rfl⟩ (Nat.le_of_ble_eq_true rfl) rfl) ?_
        refine G_st (x_iload_n dX7_climbs_45 rfl) ?_
        have e21 : Tj mX7_climbs ids 46 [some (aR (0, 29)), some (aI v1), some (aI v2), some (aI v3), some (aI x13)] [aI v3] t17 61 [some (aR (0, 29)), some (aI v1), some (aI v2), some (aI v3), some (aI x13)] [aI (if v3 ≤ 0 then (-9 : Int32) else (if v2 < x13 then (-9 : Int32) else v3))] t17 := by
          refine Tj.dia (fun c19 => ?_) (fun c19 => ?_)
          · refine Tj.tr (x_if_le_t (tgt := 59) dX7_climbs_46 (by decide) c19) ?_
            refine Tj.tr (x_bipush (-9 : Int32) dX7_climbs_59 rfl) ?_
            exact Tj.rf
          · refine Tj.tr (x_if_le_f 59 dX7_climbs_46 (by decide) c19) ?_
            refine Tj.tr (x_iload dX7_climbs_49 rfl) ?_
            refine Tj.tr (x_iload_n dX7_climbs_51 rfl) ?_
            refine Tj.dia (fun c20 => ?_) (fun c20 => ?_)
            · refine Tj.tr (x_icmp_gt_t (tgt := 59) dX7_climbs_52 (by decide) c20) ?_
              refine Tj.tr (x_bipush (-9 : Int32) dX7_climbs_59 rfl) ?_
              exact Tj.rf
            · refine Tj.tr (x_icmp_gt_f 59 dX7_climbs_52 (by decide) c20) ?_
              refine Tj.tr (x_iload_n dX7_climbs_55 rfl) ?_
              refine Tj.tr (x_goto (tgt := 61) dX7_climbs_56 (by decide)) ?_
              exact Tj.rf
        refine G_st e21 ?_
        refine G_bvI (fun x22 => ?_)
        refine G_st (x_istore_n [some (aR (0, 29)), some (aI x22), some (aI v2), some (aI v3), some (aI x13)] dX7_climbs_61 (Nat.le_of_ble_eq_true rfl) rfl rfl) ?_
        refine G_st (x_iload dX7_climbs_62 rfl) ?_
        refine G_st (x_istore_n [some (aR (0, 29)), some (aI x22), some (aI x13), some (aI v3), some (aI x13)] dX7_climbs_64 (Nat.le_of_ble_eq_true rfl) rfl rfl) ?_
        refine G_st (x_iinc (v3 + (1 : Int32)) [some (aR (0, 29)), some (aI x22), some (aI x13), some (aI (v3 + (1 : Int32))), some (aI x13)] dX7_climbs_65 (Nat.le_of_ble_eq_true rfl) rfl rfl rfl rfl) ?_
        refine G_st (x_goto (tgt := 21) dX7_climbs_68 (by decide)) ?_
        refine G_weak _ ?_ ((ih) x22 x13 (v3 + (1 : Int32)) t17)
        exact (leL_s (leL_s (leL_s (leL_s (leL_n (leL_e _))))))
set_option maxRecDepth 100000 in
set_option maxHeartbeats 4000000 in
theorem g_X7_climbs (ids : List (Nat × Nat)) (Hn : Ndp ids)  (H0_29 : InR ids 0 29 56) (t0 : Sg) : Gj kI mX7_climbs ids 0 [some (aR (0, 29)), none, none, none, none] [] t0 (f_X7_climbs t0) := by
  unfold f_X7_climbs
  refine G_st (x_aload_n dX7_climbs_0 rfl) ?_
  refine G_st (x_iconst (0 : Int32) dX7_climbs_1 rfl) ?_
  refine G_st (x_put (k := 18) (ty := .int) (v := aI (0 : Int32)) (z := (0 : Int32)) (upS t0 (0, 29) 18 (0 : Int32)) dX7_climbs_2 (H0_29 29 (Nat.le_of_ble_eq_true rfl) (Nat.le_of_ble_eq_true rfl)) rfl rfl rfl rfl inTX7 tyX7_ok nmX7 (Nat.le_of_ble_eq_true rfl) tw_865 rfl rfl (fun ad => rfl) (fun ad => rfl) (fun ad => put_i0 ad _ _ _ _ rfl) rfl) ?_
  refine G_bvS (fun t1 => ?_)
  refine G_st (x_aload_n dX7_climbs_5 rfl) ?_
  refine G_st (x_aload_n dX7_climbs_6 rfl) ?_
  refine G_st (x_get (k := 33) (aR (0, 52)) dX7_climbs_7 (H0_29 29 (Nat.le_of_ble_eq_true rfl) (Nat.le_of_ble_eq_true rfl)) rfl rfl rfl rfl inTX7 (Nat.le_of_ble_eq_true rfl) tw_880 (fun ad => rfl)) ?_
  refine G_st (x_iconst (1 : Int32) dX7_climbs_10 rfl) ?_
  refine G_bd (fun _ t3 h4 => ?_)
  refine G_st (x_callV [] (c_X7_carryAll ids Hn (0, 52) (1 : Int32) H0_29 (H0_29 52 (Nat.le_of_ble_eq_true rfl) (Nat.le_of_ble_eq_true rfl)) rfl _ _ _ h4) dX7_climbs_11 tw_1023 kc_X7_carryAll (H0_29 29 (Nat.le_of_ble_eq_true rfl) (Nat.le_of_ble_eq_true rfl)) rfl rfl rfl rfl ⟨Nat.le_of_ble_eq_true rfl, Nat.le_of_ble_eq_true rfl⟩ (Nat.le_of_ble_eq_true rfl) rfl) ?_
  refine G_st (x_bipush (-9 : Int32) dX7_climbs_14 rfl) ?_
  refine G_st (x_istore_n [some (aR (0, 29)), some (aI (-9 : Int32)), none, none, none] dX7_climbs_16 (Nat.le_of_ble_eq_true rfl) rfl rfl) ?_
  refine G_st (x_iconst (0 : Int32) dX7_climbs_17 rfl) ?_
  refine G_st (x_istore_n [some (aR (0, 29)), some (aI (-9 : Int32)), some (aI (0 : Int32)), none, none] dX7_climbs_18 (Nat.le_of_ble_eq_true rfl) rfl rfl) ?_
  refine G_st (x_iconst (0 : Int32) dX7_climbs_19 rfl) ?_
  refine G_st (x_istore_n [some (aR (0, 29)), some (aI (-9 : Int32)), some (aI (0 : Int32)), some (aI (0 : Int32)), none] dX7_climbs_20 (Nat.le_of_ble_eq_true rfl) rfl rfl) ?_
  refine G_weak _ ?_ (g_X7_climbs_21 ids Hn H0_29 fuel (-9 : Int32) (0 : Int32) (0 : Int32) t3)
  exact (leL_s (leL_s (leL_s (leL_s (leL_n (leL_e _))))))
set_option maxRecDepth 100000 in
set_option maxHeartbeats 4000000 in
theorem c_X7_climbs (ids : List (Nat × Nat)) (Hn : Ndp ids)  (H0_29 : InR ids 0 29 56) (t0 : Sg) (r : Int32) (t1 : Sg) (hf : f_X7_climbs t0 = some (r, t1)) : Mt0 mX7_climbs yX7_climbs ids [aR (0, 29)] t0 (some (aI r)) t1 :=
  Mt_of (x := (r, t1)) (g_X7_climbs ids Hn  H0_29 t0) hf (fun _ _ => trivial) (by decide) rfl Hn (fun _ => rfl) (fun _ => Nat.le_of_ble_eq_true rfl)
theorem dX7_worth_0 : decode cX7_worth 0 = .ok (.aload_n 0, 1) := by decide +kernel
theorem dX7_worth_1 : decode cX7_worth 1 = .ok (.iconst 0, 1) := by decide +kernel
theorem dX7_worth_2 : decode cX7_worth 2 = .ok (.putfield 98, 3) := by decide +kernel
theorem dX7_worth_5 : decode cX7_worth 5 = .ok (.aload_n 0, 1) := by decide +kernel
theorem dX7_worth_6 : decode cX7_worth 6 = .ok (.iload_n 1, 1) := by decide +kernel
theorem dX7_worth_7 : decode cX7_worth 7 = .ok (.invokevirtual 213, 3) := by decide +kernel
theorem dX7_worth_10 : decode cX7_worth 10 = .ok (.istore_n 2, 1) := by decide +kernel
theorem dX7_worth_11 : decode cX7_worth 11 = .ok (.iload_n 2, 1) := by decide +kernel
theorem dX7_worth_12 : decode cX7_worth 12 = .ok (.ifCond .ge 9, 3) := by decide +kernel
theorem dX7_worth_15 : decode cX7_worth 15 = .ok (.aload_n 0, 1) := by decide +kernel
theorem dX7_worth_16 : decode cX7_worth 16 = .ok (.iconst (-1), 1) := by decide +kernel
theorem dX7_worth_17 : decode cX7_worth 17 = .ok (.invokevirtual 167, 3) := by decide +kernel
theorem dX7_worth_20 : decode cX7_worth 20 = .ok (.ireturn, 1) := by decide +kernel
theorem dX7_worth_21 : decode cX7_worth 21 = .ok (.bipush 100, 2) := by decide +kernel
theorem dX7_worth_23 : decode cX7_worth 23 = .ok (.iconst 5, 1) := by decide +kernel
theorem dX7_worth_24 : decode cX7_worth 24 = .ok (.iload_n 2, 1) := by decide +kernel
theorem dX7_worth_25 : decode cX7_worth 25 = .ok (.iconst 4, 1) := by decide +kernel
theorem dX7_worth_26 : decode cX7_worth 26 = .ok (.idiv, 1) := by decide +kernel
theorem dX7_worth_27 : decode cX7_worth 27 = .ok (.imul, 1) := by decide +kernel
theorem dX7_worth_28 : decode cX7_worth 28 = .ok (.iadd, 1) := by decide +kernel
theorem dX7_worth_29 : decode cX7_worth 29 = .ok (.aload_n 0, 1) := by decide +kernel
theorem dX7_worth_30 : decode cX7_worth 30 = .ok (.aload_n 0, 1) := by decide +kernel
theorem dX7_worth_31 : decode cX7_worth 31 = .ok (.iload_n 2, 1) := by decide +kernel
theorem dX7_worth_32 : decode cX7_worth 32 = .ok (.invokevirtual 135, 3) := by decide +kernel
theorem dX7_worth_35 : decode cX7_worth 35 = .ok (.invokevirtual 300, 3) := by decide +kernel
theorem dX7_worth_38 : decode cX7_worth 38 = .ok (.isub, 1) := by decide +kernel
theorem dX7_worth_39 : decode cX7_worth 39 = .ok (.istore_n 3, 1) := by decide +kernel
theorem dX7_worth_40 : decode cX7_worth 40 = .ok (.iload_n 3, 1) := by decide +kernel
theorem dX7_worth_41 : decode cX7_worth 41 = .ok (.ifCond .ge 7, 3) := by decide +kernel
theorem dX7_worth_44 : decode cX7_worth 44 = .ok (.iconst 0, 1) := by decide +kernel
theorem dX7_worth_45 : decode cX7_worth 45 = .ok (.goto 4, 3) := by decide +kernel
theorem dX7_worth_48 : decode cX7_worth 48 = .ok (.iload_n 3, 1) := by decide +kernel
theorem dX7_worth_49 : decode cX7_worth 49 = .ok (.ireturn, 1) := by decide +kernel
set_option maxRecDepth 100000 in
set_option maxHeartbeats 4000000 in
theorem g_X7_worth (ids : List (Nat × Nat)) (Hn : Ndp ids) (v1 : Int32) (H0_29 : InR ids 0 29 56) (t0 : Sg) : Gj kI mX7_worth ids 0 [some (aR (0, 29)), some (aI v1), none, none] [] t0 (f_X7_worth v1 t0) := by
  unfold f_X7_worth
  refine G_st (x_aload_n dX7_worth_0 rfl) ?_
  refine G_st (x_iconst (0 : Int32) dX7_worth_1 rfl) ?_
  refine G_st (x_put (k := 18) (ty := .int) (v := aI (0 : Int32)) (z := (0 : Int32)) (upS t0 (0, 29) 18 (0 : Int32)) dX7_worth_2 (H0_29 29 (Nat.le_of_ble_eq_true rfl) (Nat.le_of_ble_eq_true rfl)) rfl rfl rfl rfl inTX7 tyX7_ok nmX7 (Nat.le_of_ble_eq_true rfl) tw_865 rfl rfl (fun ad => rfl) (fun ad => rfl) (fun ad => put_i0 ad _ _ _ _ rfl) rfl) ?_
  refine G_bvS (fun t1 => ?_)
  refine G_st (x_aload_n dX7_worth_5 rfl) ?_
  refine G_st (x_iload_n dX7_worth_6 rfl) ?_
  refine G_bd (fun x2 t3 h4 => ?_)
  refine G_st (x_callV [] (c_X7_flatAt ids Hn v1 H0_29 _ _ _ h4) dX7_worth_7 tw_1054 kc_X7_flatAt (H0_29 29 (Nat.le_of_ble_eq_true rfl) (Nat.le_of_ble_eq_true rfl)) rfl rfl rfl rfl ⟨Nat.le_of_ble_eq_true rfl, Nat.le_of_ble_eq_true rfl⟩ (Nat.le_of_ble_eq_true rfl) rfl) ?_
  refine G_st (x_istore_n [some (aR (0, 29)), some (aI v1), some (aI x2), none] dX7_worth_10 (Nat.le_of_ble_eq_true rfl) rfl rfl) ?_
  refine G_st (x_iload_n dX7_worth_11 rfl) ?_
  refine G_ite (fun c5 => ?_) (fun c5 => ?_)
  · refine G_st (x_if_ge_t (tgt := 21) dX7_worth_12 (by decide) c5) ?_
    refine G_st (x_bipush (100 : Int32) dX7_worth_21 rfl) ?_
    refine G_st (x_iconst (5 : Int32) dX7_worth_23 rfl) ?_
    refine G_st (x_iload_n dX7_worth_24 rfl) ?_
    refine G_st (x_iconst (4 : Int32) dX7_worth_25 rfl) ?_
    refine G_st (x_idiv dX7_worth_26 (by decide)) ?_
    refine G_st (x_imul dX7_worth_27) ?_
    refine G_st (x_iadd dX7_worth_28) ?_
    refine G_st (x_aload_n dX7_worth_29 rfl) ?_
    refine G_st (x_aload_n dX7_worth_30 rfl) ?_
    refine G_st (x_iload_n dX7_worth_31 rfl) ?_
    refine G_bd (fun x6 t7 h8 => ?_)
    refine G_st (x_callV [aR (0, 29), aI ((100 : Int32) + ((5 : Int32) * (x2 / (4 : Int32))))] (c_X7_livesIn ids Hn x2 H0_29 _ _ _ h8) dX7_worth_32 tw_1078 kc_X7_livesIn (H0_29 29 (Nat.le_of_ble_eq_true rfl) (Nat.le_of_ble_eq_true rfl)) rfl rfl rfl rfl ⟨Nat.le_of_ble_eq_true rfl, Nat.le_of_ble_eq_true rfl⟩ (Nat.le_of_ble_eq_true rfl) rfl) ?_
    refine G_bd (fun x9 t10 h11 => ?_)
    refine G_st (x_callV [aI ((100 : Int32) + ((5 : Int32) * (x2 / (4 : Int32))))] (c_X7_oneWeekOf ids Hn x6 H0_29 _ _ _ h11) dX7_worth_35 tw_1258 kc_X7_oneWeekOf (H0_29 29 (Nat.le_of_ble_eq_true rfl) (Nat.le_of_ble_eq_true rfl)) rfl rfl rfl rfl ⟨Nat.le_of_ble_eq_true rfl, Nat.le_of_ble_eq_true rfl⟩ (Nat.le_of_ble_eq_true rfl) rfl) ?_
    refine G_st (x_isub dX7_worth_38) ?_
    refine G_bvI (fun x12 => ?_)
    refine G_st (x_istore_n [some (aR (0, 29)), some (aI v1), some (aI x2), some (aI x12)] dX7_worth_39 (Nat.le_of_ble_eq_true rfl) rfl rfl) ?_
    refine G_st (x_iload_n dX7_worth_40 rfl) ?_
    have e14 : Tj mX7_worth ids 41 [some (aR (0, 29)), some (aI v1), some (aI x2), some (aI x12)] [aI x12] t10 49 [some (aR (0, 29)), some (aI v1), some (aI x2), some (aI x12)] [aI (if 0 ≤ x12 then x12 else (0 : Int32))] t10 := by
      refine Tj.dia (fun c13 => ?_) (fun c13 => ?_)
      · refine Tj.tr (x_if_ge_t (tgt := 48) dX7_worth_41 (by decide) c13) ?_
        refine Tj.tr (x_iload_n dX7_worth_48 rfl) ?_
        exact Tj.rf
      · refine Tj.tr (x_if_ge_f 48 dX7_worth_41 (by decide) c13) ?_
        refine Tj.tr (x_iconst (0 : Int32) dX7_worth_44 rfl) ?_
        refine Tj.tr (x_goto (tgt := 49) dX7_worth_45 (by decide)) ?_
        exact Tj.rf
    refine G_st e14 ?_
    exact G_ret rfl ⟨dX7_worth_49, _, rfl, rfl⟩ rfl
  · refine G_st (x_if_ge_f 21 dX7_worth_12 (by decide) c5) ?_
    refine G_st (x_aload_n dX7_worth_15 rfl) ?_
    refine G_st (x_iconst (-1 : Int32) dX7_worth_16 rfl) ?_
    refine G_bd (fun x15 t16 h17 => ?_)
    refine G_st (x_callV [] (c_X7_refuse ids Hn (-1 : Int32) H0_29 _ _ _ h17) dX7_worth_17 tw_981 kc_X7_refuse (H0_29 29 (Nat.le_of_ble_eq_true rfl) (Nat.le_of_ble_eq_true rfl)) rfl rfl rfl rfl ⟨Nat.le_of_ble_eq_true rfl, Nat.le_of_ble_eq_true rfl⟩ (Nat.le_of_ble_eq_true rfl) rfl) ?_
    exact G_ret rfl ⟨dX7_worth_20, _, rfl, rfl⟩ rfl
set_option maxRecDepth 100000 in
set_option maxHeartbeats 4000000 in
theorem c_X7_worth (ids : List (Nat × Nat)) (Hn : Ndp ids) (v1 : Int32) (H0_29 : InR ids 0 29 56) (t0 : Sg) (r : Int32) (t1 : Sg) (hf : f_X7_worth v1 t0 = some (r, t1)) : Mt0 mX7_worth yX7_worth ids [aR (0, 29), aI v1] t0 (some (aI r)) t1 :=
  Mt_of (x := (r, t1)) (g_X7_worth ids Hn v1 H0_29 t0) hf (fun _ _ => trivial) (by decide) rfl Hn (fun _ => rfl) (fun _ => Nat.le_of_ble_eq_true rfl)
theorem dX7_haveLess_0 : decode cX7_haveLess 0 = .ok (.aload_n 0, 1) := by decide +kernel
theorem dX7_haveLess_1 : decode cX7_haveLess 1 = .ok (.invokevirtual 160, 3) := by decide +kernel
theorem dX7_haveLess_4 : decode cX7_haveLess 4 = .ok (.pop, 1) := by decide +kernel
theorem dX7_haveLess_5 : decode cX7_haveLess 5 = .ok (.aload_n 0, 1) := by decide +kernel
theorem dX7_haveLess_6 : decode cX7_haveLess 6 = .ok (.getfield 62, 3) := by decide +kernel
theorem dX7_haveLess_9 : decode cX7_haveLess 9 = .ok (.iload_n 1, 1) := by decide +kernel
theorem dX7_haveLess_10 : decode cX7_haveLess 10 = .ok (.iaload, 1) := by decide +kernel
theorem dX7_haveLess_11 : decode cX7_haveLess 11 = .ok (.aload_n 0, 1) := by decide +kernel
theorem dX7_haveLess_12 : decode cX7_haveLess 12 = .ok (.getfield 92, 3) := by decide +kernel
theorem dX7_haveLess_15 : decode cX7_haveLess 15 = .ok (.iload_n 1, 1) := by decide +kernel
theorem dX7_haveLess_16 : decode cX7_haveLess 16 = .ok (.iaload, 1) := by decide +kernel
theorem dX7_haveLess_17 : decode cX7_haveLess 17 = .ok (.if_icmp .ge 22, 3) := by decide +kernel
theorem dX7_haveLess_20 : decode cX7_haveLess 20 = .ok (.aload_n 0, 1) := by decide +kernel
theorem dX7_haveLess_21 : decode cX7_haveLess 21 = .ok (.getfield 62, 3) := by decide +kernel
theorem dX7_haveLess_24 : decode cX7_haveLess 24 = .ok (.iload_n 2, 1) := by decide +kernel
theorem dX7_haveLess_25 : decode cX7_haveLess 25 = .ok (.iaload, 1) := by decide +kernel
theorem dX7_haveLess_26 : decode cX7_haveLess 26 = .ok (.aload_n 0, 1) := by decide +kernel
theorem dX7_haveLess_27 : decode cX7_haveLess 27 = .ok (.getfield 92, 3) := by decide +kernel
theorem dX7_haveLess_30 : decode cX7_haveLess 30 = .ok (.iload_n 2, 1) := by decide +kernel
theorem dX7_haveLess_31 : decode cX7_haveLess 31 = .ok (.iaload, 1) := by decide +kernel
theorem dX7_haveLess_32 : decode cX7_haveLess 32 = .ok (.if_icmp .ge 7, 3) := by decide +kernel
theorem dX7_haveLess_35 : decode cX7_haveLess 35 = .ok (.iconst 1, 1) := by decide +kernel
theorem dX7_haveLess_36 : decode cX7_haveLess 36 = .ok (.goto 4, 3) := by decide +kernel
theorem dX7_haveLess_39 : decode cX7_haveLess 39 = .ok (.iconst 0, 1) := by decide +kernel
theorem dX7_haveLess_40 : decode cX7_haveLess 40 = .ok (.ireturn, 1) := by decide +kernel
set_option maxRecDepth 100000 in
set_option maxHeartbeats 4000000 in
theorem g_X7_haveLess (ids : List (Nat × Nat)) (Hn : Ndp ids) (v1 : Int32) (v2 : Int32) (H0_29 : InR ids 0 29 56) (t0 : Sg) : Gj kI mX7_haveLess ids 0 [some (aR (0, 29)), some (aI v1), some (aI v2)] [] t0 (f_X7_haveLess v1 v2 t0) := by
  unfold f_X7_haveLess
  refine G_st (x_aload_n dX7_haveLess_0 rfl) ?_
  refine G_bd (fun x1 t2 h3 => ?_)
  refine G_st (x_callV [] (c_X7_oneWeek ids Hn  H0_29 _ _ _ h3) dX7_haveLess_1 tw_1157 kc_X7_oneWeek (H0_29 29 (Nat.le_of_ble_eq_true rfl) (Nat.le_of_ble_eq_true rfl)) rfl rfl rfl rfl ⟨Nat.le_of_ble_eq_true rfl, Nat.le_of_ble_eq_true rfl⟩ (Nat.le_of_ble_eq_true rfl) rfl) ?_
  refine G_st (x_pop dX7_haveLess_4 rfl) ?_
  refine G_st (x_aload_n dX7_haveLess_5 rfl) ?_
  refine G_st (x_get (k := 21) (aR (0, 45)) dX7_haveLess_6 (H0_29 29 (Nat.le_of_ble_eq_true rfl) (Nat.le_of_ble_eq_true rfl)) rfl rfl rfl rfl inTX7 (Nat.le_of_ble_eq_true rfl) tw_868 (fun ad => rfl)) ?_
  refine G_st (x_iload_n dX7_haveLess_9 rfl) ?_
  refine G_chk (fun c4 => ?_)
  refine G_st (x_iaload dX7_haveLess_10 (H0_29 45 (Nat.le_of_ble_eq_true rfl) (Nat.le_of_ble_eq_true rfl)) rfl c4) ?_
  refine G_st (x_aload_n dX7_haveLess_11 rfl) ?_
  refine G_st (x_get (k := 40) (aR (0, 55)) dX7_haveLess_12 (H0_29 29 (Nat.le_of_ble_eq_true rfl) (Nat.le_of_ble_eq_true rfl)) rfl rfl rfl rfl inTX7 (Nat.le_of_ble_eq_true rfl) tw_887 (fun ad => rfl)) ?_
  refine G_st (x_iload_n dX7_haveLess_15 rfl) ?_
  refine G_chk (fun c5 => ?_)
  refine G_st (x_iaload dX7_haveLess_16 (H0_29 55 (Nat.le_of_ble_eq_true rfl) (Nat.le_of_ble_eq_true rfl)) rfl c5) ?_
  refine G_ite (fun c6 => ?_) (fun c6 => ?_)
  · refine G_st (x_icmp_ge_t (tgt := 39) dX7_haveLess_17 (by decide) c6) ?_
    refine G_st (x_iconst (0 : Int32) dX7_haveLess_39 rfl) ?_
    exact G_ret rfl ⟨dX7_haveLess_40, _, rfl, nar_b (Or.inl rfl)⟩ rfl
  · refine G_st (x_icmp_ge_f 39 dX7_haveLess_17 (by decide) c6) ?_
    refine G_st (x_aload_n dX7_haveLess_20 rfl) ?_
    refine G_st (x_get (k := 21) (aR (0, 45)) dX7_haveLess_21 (H0_29 29 (Nat.le_of_ble_eq_true rfl) (Nat.le_of_ble_eq_true rfl)) rfl rfl rfl rfl inTX7 (Nat.le_of_ble_eq_true rfl) tw_868 (fun ad => rfl)) ?_
    refine G_st (x_iload_n dX7_haveLess_24 rfl) ?_
    refine G_chk (fun c7 => ?_)
    refine G_st (x_iaload dX7_haveLess_25 (H0_29 45 (Nat.le_of_ble_eq_true rfl) (Nat.le_of_ble_eq_true rfl)) rfl c7) ?_
    refine G_st (x_aload_n dX7_haveLess_26 rfl) ?_
    refine G_st (x_get (k := 40) (aR (0, 55)) dX7_haveLess_27 (H0_29 29 (Nat.le_of_ble_eq_true rfl) (Nat.le_of_ble_eq_true rfl)) rfl rfl rfl rfl inTX7 (Nat.le_of_ble_eq_true rfl) tw_887 (fun ad => rfl)) ?_
    refine G_st (x_iload_n dX7_haveLess_30 rfl) ?_
    refine G_chk (fun c8 => ?_)
    refine G_st (x_iaload dX7_haveLess_31 (H0_29 55 (Nat.le_of_ble_eq_true rfl) (Nat.le_of_ble_eq_true rfl)) rfl c8) ?_
    refine G_ite (fun c9 => ?_) (fun c9 => ?_)
    · refine G_st (x_icmp_ge_t (tgt := 39) dX7_haveLess_32 (by decide) c9) ?_
      refine G_st (x_iconst (0 : Int32) dX7_haveLess_39 rfl) ?_
      exact G_ret rfl ⟨dX7_haveLess_40, _, rfl, nar_b (Or.inl rfl)⟩ rfl
    · refine G_st (x_icmp_ge_f 39 dX7_haveLess_32 (by decide) c9) ?_
      refine G_st (x_iconst (1 : Int32) dX7_haveLess_35 rfl) ?_
      refine G_st (x_goto (tgt := 40) dX7_haveLess_36 (by decide)) ?_
      exact G_ret rfl ⟨dX7_haveLess_40, _, rfl, nar_b (Or.inr rfl)⟩ rfl
set_option maxRecDepth 100000 in
set_option maxHeartbeats 4000000 in
theorem c_X7_haveLess (ids : List (Nat × Nat)) (Hn : Ndp ids) (v1 : Int32) (v2 : Int32) (H0_29 : InR ids 0 29 56) (t0 : Sg) (r : Int32) (t1 : Sg) (hf : f_X7_haveLess v1 v2 t0 = some (r, t1)) : Mt0 mX7_haveLess yX7_haveLess ids [aR (0, 29), aI v1, aI v2] t0 (some (aI r)) t1 :=
  Mt_of (x := (r, t1)) (g_X7_haveLess ids Hn v1 v2 H0_29 t0) hf (fun _ _ => trivial) (by decide) rfl Hn (fun _ => rfl) (fun _ => Nat.le_of_ble_eq_true rfl)
theorem dX7_pairsOf_0 : decode cX7_pairsOf 0 = .ok (.iconst 0, 1) := by decide +kernel
theorem dX7_pairsOf_1 : decode cX7_pairsOf 1 = .ok (.istore_n 2, 1) := by decide +kernel
theorem dX7_pairsOf_2 : decode cX7_pairsOf 2 = .ok (.bipush (-9), 2) := by decide +kernel
theorem dX7_pairsOf_4 : decode cX7_pairsOf 4 = .ok (.istore_n 3, 1) := by decide +kernel
theorem dX7_pairsOf_5 : decode cX7_pairsOf 5 = .ok (.iconst 0, 1) := by decide +kernel
theorem dX7_pairsOf_6 : decode cX7_pairsOf 6 = .ok (.istore 4, 2) := by decide +kernel
theorem dX7_pairsOf_8 : decode cX7_pairsOf 8 = .ok (.iload 4, 2) := by decide +kernel
theorem dX7_pairsOf_10 : decode cX7_pairsOf 10 = .ok (.aload_n 0, 1) := by decide +kernel
theorem dX7_pairsOf_11 : decode cX7_pairsOf 11 = .ok (.invokevirtual 107, 3) := by decide +kernel
theorem dX7_pairsOf_14 : decode cX7_pairsOf 14 = .ok (.if_icmp .ge 91, 3) := by decide +kernel
theorem dX7_pairsOf_17 : decode cX7_pairsOf 17 = .ok (.iload 4, 2) := by decide +kernel
theorem dX7_pairsOf_19 : decode cX7_pairsOf 19 = .ok (.iconst 1, 1) := by decide +kernel
theorem dX7_pairsOf_20 : decode cX7_pairsOf 20 = .ok (.iadd, 1) := by decide +kernel
theorem dX7_pairsOf_21 : decode cX7_pairsOf 21 = .ok (.istore 5, 2) := by decide +kernel
theorem dX7_pairsOf_23 : decode cX7_pairsOf 23 = .ok (.iload 5, 2) := by decide +kernel
theorem dX7_pairsOf_25 : decode cX7_pairsOf 25 = .ok (.aload_n 0, 1) := by decide +kernel
theorem dX7_pairsOf_26 : decode cX7_pairsOf 26 = .ok (.invokevirtual 107, 3) := by decide +kernel
theorem dX7_pairsOf_29 : decode cX7_pairsOf 29 = .ok (.if_icmp .ge 70, 3) := by decide +kernel
theorem dX7_pairsOf_32 : decode cX7_pairsOf 32 = .ok (.aload_n 0, 1) := by decide +kernel
theorem dX7_pairsOf_33 : decode cX7_pairsOf 33 = .ok (.iload 4, 2) := by decide +kernel
theorem dX7_pairsOf_35 : decode cX7_pairsOf 35 = .ok (.iload 5, 2) := by decide +kernel
theorem dX7_pairsOf_37 : decode cX7_pairsOf 37 = .ok (.invokevirtual 279, 3) := by decide +kernel
theorem dX7_pairsOf_40 : decode cX7_pairsOf 40 = .ok (.aload_n 0, 1) := by decide +kernel
theorem dX7_pairsOf_41 : decode cX7_pairsOf 41 = .ok (.iload 4, 2) := by decide +kernel
theorem dX7_pairsOf_43 : decode cX7_pairsOf 43 = .ok (.iload 5, 2) := by decide +kernel
theorem dX7_pairsOf_45 : decode cX7_pairsOf 45 = .ok (.invokevirtual 316, 3) := by decide +kernel
theorem dX7_pairsOf_48 : decode cX7_pairsOf 48 = .ok (.istore 6, 2) := by decide +kernel
theorem dX7_pairsOf_50 : decode cX7_pairsOf 50 = .ok (.aload_n 0, 1) := by decide +kernel
theorem dX7_pairsOf_51 : decode cX7_pairsOf 51 = .ok (.iload 4, 2) := by decide +kernel
theorem dX7_pairsOf_53 : decode cX7_pairsOf 53 = .ok (.iload 5, 2) := by decide +kernel
theorem dX7_pairsOf_55 : decode cX7_pairsOf 55 = .ok (.invokevirtual 279, 3) := by decide +kernel
theorem dX7_pairsOf_58 : decode cX7_pairsOf 58 = .ok (.iload 6, 2) := by decide +kernel
theorem dX7_pairsOf_60 : decode cX7_pairsOf 60 = .ok (.ifCond .eq 18, 3) := by decide +kernel
theorem dX7_pairsOf_63 : decode cX7_pairsOf 63 = .ok (.iload_n 2, 1) := by decide +kernel
theorem dX7_pairsOf_64 : decode cX7_pairsOf 64 = .ok (.ifCond .ne 14, 3) := by decide +kernel
theorem dX7_pairsOf_67 : decode cX7_pairsOf 67 = .ok (.bipush 100, 2) := by decide +kernel
theorem dX7_pairsOf_69 : decode cX7_pairsOf 69 = .ok (.iload 4, 2) := by decide +kernel
theorem dX7_pairsOf_71 : decode cX7_pairsOf 71 = .ok (.imul, 1) := by decide +kernel
theorem dX7_pairsOf_72 : decode cX7_pairsOf 72 = .ok (.iload 5, 2) := by decide +kernel
theorem dX7_pairsOf_74 : decode cX7_pairsOf 74 = .ok (.iadd, 1) := by decide +kernel
theorem dX7_pairsOf_75 : decode cX7_pairsOf 75 = .ok (.goto 4, 3) := by decide +kernel
theorem dX7_pairsOf_78 : decode cX7_pairsOf 78 = .ok (.iload_n 3, 1) := by decide +kernel
theorem dX7_pairsOf_79 : decode cX7_pairsOf 79 = .ok (.istore_n 3, 1) := by decide +kernel
theorem dX7_pairsOf_80 : decode cX7_pairsOf 80 = .ok (.iload_n 2, 1) := by decide +kernel
theorem dX7_pairsOf_81 : decode cX7_pairsOf 81 = .ok (.iload 6, 2) := by decide +kernel
theorem dX7_pairsOf_83 : decode cX7_pairsOf 83 = .ok (.ifCond .eq 7, 3) := by decide +kernel
theorem dX7_pairsOf_86 : decode cX7_pairsOf 86 = .ok (.iconst 1, 1) := by decide +kernel
theorem dX7_pairsOf_87 : decode cX7_pairsOf 87 = .ok (.goto 4, 3) := by decide +kernel
theorem dX7_pairsOf_90 : decode cX7_pairsOf 90 = .ok (.iconst 0, 1) := by decide +kernel
theorem dX7_pairsOf_91 : decode cX7_pairsOf 91 = .ok (.iadd, 1) := by decide +kernel
theorem dX7_pairsOf_92 : decode cX7_pairsOf 92 = .ok (.istore_n 2, 1) := by decide +kernel
theorem dX7_pairsOf_93 : decode cX7_pairsOf 93 = .ok (.iinc 5 1, 3) := by decide +kernel
theorem dX7_pairsOf_96 : decode cX7_pairsOf 96 = .ok (.goto (-73), 3) := by decide +kernel
theorem dX7_pairsOf_99 : decode cX7_pairsOf 99 = .ok (.iinc 4 1, 3) := by decide +kernel
theorem dX7_pairsOf_102 : decode cX7_pairsOf 102 = .ok (.goto (-94), 3) := by decide +kernel
theorem dX7_pairsOf_105 : decode cX7_pairsOf 105 = .ok (.iload_n 1, 1) := by decide +kernel
theorem dX7_pairsOf_106 : decode cX7_pairsOf 106 = .ok (.ifCond .ne 7, 3) := by decide +kernel
theorem dX7_pairsOf_109 : decode cX7_pairsOf 109 = .ok (.iload_n 2, 1) := by decide +kernel
theorem dX7_pairsOf_110 : decode cX7_pairsOf 110 = .ok (.goto 4, 3) := by decide +kernel
theorem dX7_pairsOf_113 : decode cX7_pairsOf 113 = .ok (.iload_n 3, 1) := by decide +kernel
theorem dX7_pairsOf_114 : decode cX7_pairsOf 114 = .ok (.ireturn, 1) := by decide +kernel
set_option maxRecDepth 100000 in
set_option maxHeartbeats 4000000 in
theorem g_X7_pairsOf_23 (ids : List (Nat × Nat)) (Hn : Ndp ids)  (H0_29 : InR ids 0 29 56) (k8 : Int32 → Int32 → Int32 → Int32 → Sg → Option (Int32 × Sg)) (hk8 : ∀ (v1 : Int32) (v2 : Int32) (v3 : Int32) (v4 : Int32) (t0 : Sg), Gj kI mX7_pairsOf ids 8 [some (aR (0, 29)), some (aI v1), some (aI v2), some (aI v3), some (aI v4), none, none] [] t0 (k8 v1 v2 v3 v4 t0)) : ∀ (n : Nat) (v1 : Int32) (v2 : Int32) (v3 : Int32) (v4 : Int32) (v5 : Int32) (t0 : Sg), Gj kI mX7_pairsOf ids 23 [some (aR (0, 29)), some (aI v1), some (aI v2), some (aI v3), some (aI v4), some (aI v5), none] [] t0 (f_X7_pairsOf_23 k8 n v1 v2 v3 v4 v5 t0) := by
  intro n
  induction n with
  | zero => intro v1 v2 v3 v4 v5 t0; exact G_none
  | succ n ih =>
    intro v1 v2 v3 v4 v5 t0
    rw [f_X7_pairsOf_23]
    refine G_st (x_iload dX7_pairsOf_23 rfl) ?_
    refine G_st (x_aload_n dX7_pairsOf_25 rfl) ?_
    refine G_bd (fun x8 t9 h10 => ?_)
    refine G_st (x_callV [aI v5] (c_X7_tenants ids Hn  H0_29 _ _ _ h10) dX7_pairsOf_26 tw_1046 kc_X7_tenants (H0_29 29 (Nat.le_of_ble_eq_true rfl) (Nat.le_of_ble_eq_true rfl)) rfl rfl rfl rfl ⟨Nat.le_of_ble_eq_true rfl, Nat.le_of_ble_eq_true rfl⟩ (Nat.le_of_ble_eq_true rfl) rfl) ?_
    refine G_ite (fun c11 => ?_) (fun c11 => ?_)
    · refine G_st (x_icmp_ge_t (tgt := 99) dX7_pairsOf_29 (by decide) c11) ?_
      refine G_st (x_iinc (v4 + (1 : Int32)) [some (aR (0, 29)), some (aI v1), some (aI v2), some (aI v3), some (aI (v4 + (1 : Int32))), some (aI v5), none] dX7_pairsOf_99 (Nat.le_of_ble_eq_true rfl) rfl rfl rfl rfl) ?_
      refine G_st (x_goto (tgt := 8) dX7_pairsOf_102 (by decide)) ?_
      refine G_weak _ ?_ (hk8 v1 v2 v3 (v4 + (1 : Int32)) t9)
      exact (leL_s (leL_s (leL_s (leL_s (leL_s (leL_n (leL_n (leL_e _))))))))
    · refine G_st (x_icmp_ge_f 99 dX7_pairsOf_29 (by decide) c11) ?_
      refine G_st (x_aload_n dX7_pairsOf_32 rfl) ?_
      refine G_st (x_iload dX7_pairsOf_33 rfl) ?_
      refine G_st (x_iload dX7_pairsOf_35 rfl) ?_
      refine G_bd (fun _ t13 h14 => ?_)
      refine G_st (x_callV [] (c_X7_change ids Hn v4 v5 H0_29 _ _ _ h14) dX7_pairsOf_37 tw_1145 kc_X7_change (H0_29 29 (Nat.le_of_ble_eq_true rfl) (Nat.le_of_ble_eq_true rfl)) rfl rfl rfl rfl ⟨Nat.le_of_ble_eq_true rfl, Nat.le_of_ble_eq_true rfl⟩ (Nat.le_of_ble_eq_true rfl) rfl) ?_
      refine G_st (x_aload_n dX7_pairsOf_40 rfl) ?_
      refine G_st (x_iload dX7_pairsOf_41 rfl) ?_
      refine G_st (x_iload dX7_pairsOf_43 rfl) ?_
      refine G_bd (fun x15 t16 h17 => ?_)
      refine G_st (x_callV [] (c_X7_haveLess ids Hn v4 v5 H0_29 _ _ _ h17) dX7_pairsOf_45 tw_1315 kc_X7_haveLess (H0_29 29 (Nat.le_of_ble_eq_true rfl) (Nat.le_of_ble_eq_true rfl)) rfl rfl rfl rfl ⟨Nat.le_of_ble_eq_true rfl, Nat.le_of_ble_eq_true rfl⟩ (Nat.le_of_ble_eq_true rfl) rfl) ?_
      refine G_st (x_istore [some (aR (0, 29)), some (aI v1), some (aI v2), some (aI v3), some (aI v4), some (aI v5), some (aI x15)] dX7_pairsOf_48 (Nat.le_of_ble_eq_true rfl) rfl rfl) ?_
      refine G_st (x_aload_n dX7_pairsOf_50 rfl) ?_
      refine G_st (x_iload dX7_pairsOf_51 rfl) ?_
      refine G_st (x_iload dX7_pairsOf_53 rfl) ?_
      refine G_bd (fun _ t19 h20 => ?_)
      refine G_st (x_callV [] (c_X7_change ids Hn v4 v5 H0_29 _ _ _ h20) dX7_pairsOf_55 tw_1145 kc_X7_change (H0_29 29 (Nat.le_of_ble_eq_true rfl) (Nat.le_of_ble_eq_true rfl)) rfl rfl rfl rfl ⟨Nat.le_of_ble_eq_true rfl, Nat.le_of_ble_eq_true rfl⟩ (Nat.le_of_ble_eq_true rfl) rfl) ?_
      refine G_st (x_iload dX7_pairsOf_58 rfl) ?_
      have e23 : Tj mX7_pairsOf ids 60 [some (aR (0, 29)), some (aI v1), some (aI v2), some (aI v3), some (aI v4), some (aI v5), some (aI x15)] [aI x15] t19 79 [some (aR (0, 29)), some (aI v1), some (aI v2), some (aI v3), some (aI v4), some (aI v5), some (aI x15)] [aI (if x15 = 0 then v3 else (if v2 = 0 then (((100 : Int32) * v4) + v5) else v3))] t19 := by
        refine Tj.dia (fun c21 => ?_) (fun c21 => ?_)
        · refine Tj.tr (x_if_eq_t (tgt := 78) dX7_pairsOf_60 (by decide) c21) ?_
          refine Tj.tr (x_iload_n dX7_pairsOf_78 rfl) ?_
          exact Tj.rf
        · refine Tj.tr (x_if_eq_f 78 dX7_pairsOf_60 (by decide) c21) ?_
          refine Tj.tr (x_iload_n dX7_pairsOf_63 rfl) ?_
          refine Tj.dia (fun c22 => ?_) (fun c22 => ?_)
          · refine Tj.tr (x_if_ne_f 78 dX7_pairsOf_64 (by decide) c22) ?_
            refine Tj.tr (x_bipush (100 : Int32) dX7_pairsOf_67 rfl) ?_
            refine Tj.tr (x_iload dX7_pairsOf_69 rfl) ?_
            refine Tj.tr (x_imul dX7_pairsOf_71) ?_
            refine Tj.tr (x_iload dX7_pairsOf_72 rfl) ?_
            refine Tj.tr (x_iadd dX7_pairsOf_74) ?_
            refine Tj.tr (x_goto (tgt := 79) dX7_pairsOf_75 (by decide)) ?_
            exact Tj.rf
          · refine Tj.tr (x_if_ne_t (tgt := 78) dX7_pairsOf_64 (by decide) c22) ?_
            refine Tj.tr (x_iload_n dX7_pairsOf_78 rfl) ?_
            exact Tj.rf
      refine G_st e23 ?_
      refine G_bvI (fun x24 => ?_)
      refine G_st (x_istore_n [some (aR (0, 29)), some (aI v1), some (aI v2), some (aI x24), some (aI v4), some (aI v5), some (aI x15)] dX7_pairsOf_79 (Nat.le_of_ble_eq_true rfl) rfl rfl) ?_
      refine G_st (x_iload_n dX7_pairsOf_80 rfl) ?_
      refine G_st (x_iload dX7_pairsOf_81 rfl) ?_
      have e26 : Tj mX7_pairsOf ids 83 [some (aR (0, 29)), some (aI v1), some (aI v2), some (aI x24), some (aI v4), some (aI v5), some (aI x15)] [aI x15, aI v2] t19 91 [some (aR (0, 29)), some (aI v1), some (aI v2), some (aI x24), some (aI v4), some (aI v5), some (aI x15)] [aI (if x15 = 0 then (0 : Int32) else (1 : Int32)), aI v2] t19 := by
        refine Tj.dia (fun c25 => ?_) (fun c25 => ?_)
        · refine Tj.tr (x_if_eq_t (tgt := 90) dX7_pairsOf_83 (by decide) c25) ?_
          refine Tj.tr (x_iconst (0 : Int32) dX7_pairsOf_90 rfl) ?_
          exact Tj.rf
        · refine Tj.tr (x_if_eq_f 90 dX7_pairsOf_83 (by decide) c25) ?_
          refine Tj.tr (x_iconst (1 : Int32) dX7_pairsOf_86 rfl) ?_
          refine Tj.tr (x_goto (tgt := 91) dX7_pairsOf_87 (by decide)) ?_
          exact Tj.rf
      refine G_st e26 ?_
      refine G_st (x_iadd dX7_pairsOf_91) ?_
      refine G_bvI (fun x27 => ?_)
      refine G_st (x_istore_n [some (aR (0, 29)), some (aI v1), some (aI x27), some (aI x24), some (aI v4), some (aI v5), some (aI x15)] dX7_pairsOf_92 (Nat.le_of_ble_eq_true rfl) rfl rfl) ?_
      refine G_st (x_iinc (v5 + (1 : Int32)) [some (aR (0, 29)), some (aI v1), some (aI x27), some (aI x24), some (aI v4), some (aI (v5 + (1 : Int32))), some (aI x15)] dX7_pairsOf_93 (Nat.le_of_ble_eq_true rfl) rfl rfl rfl rfl) ?_
      refine G_st (x_goto (tgt := 23) dX7_pairsOf_96 (by decide)) ?_
      refine G_weak _ ?_ ((ih) v1 x27 x24 v4 (v5 + (1 : Int32)) t19)
      exact (leL_s (leL_s (leL_s (leL_s (leL_s (leL_s (leL_n (leL_e _))))))))
set_option maxRecDepth 100000 in
set_option maxHeartbeats 4000000 in
theorem g_X7_pairsOf_8 (ids : List (Nat × Nat)) (Hn : Ndp ids)  (H0_29 : InR ids 0 29 56)  : ∀ (n : Nat) (v1 : Int32) (v2 : Int32) (v3 : Int32) (v4 : Int32) (t0 : Sg), Gj kI mX7_pairsOf ids 8 [some (aR (0, 29)), some (aI v1), some (aI v2), some (aI v3), some (aI v4), none, none] [] t0 (f_X7_pairsOf_8 n v1 v2 v3 v4 t0) := by
  intro n
  induction n with
  | zero => intro v1 v2 v3 v4 t0; exact G_none
  | succ n ih =>
    intro v1 v2 v3 v4 t0
    rw [f_X7_pairsOf_8]
    refine G_st (x_iload dX7_pairsOf_8 rfl) ?_
    refine G_st (x_aload_n dX7_pairsOf_10 rfl) ?_
    refine G_bd (fun x1 t2 h3 => ?_)
    refine G_st (x_callV [aI v4] (c_X7_tenants ids Hn  H0_29 _ _ _ h3) dX7_pairsOf_11 tw_1046 kc_X7_tenants (H0_29 29 (Nat.le_of_ble_eq_true rfl) (Nat.le_of_ble_eq_true rfl)) rfl rfl rfl rfl ⟨Nat.le_of_ble_eq_true rfl, Nat.le_of_ble_eq_true rfl⟩ (Nat.le_of_ble_eq_true rfl) rfl) ?_
    refine G_ite (fun c4 => ?_) (fun c4 => ?_)
    · refine G_st (x_icmp_ge_t (tgt := 105) dX7_pairsOf_14 (by decide) c4) ?_
      refine G_st (x_iload_n dX7_pairsOf_105 rfl) ?_
      have e6 : Tj mX7_pairsOf ids 106 [some (aR (0, 29)), some (aI v1), some (aI v2), some (aI v3), some (aI v4), none, none] [aI v1] t2 114 [some (aR (0, 29)), some (aI v1), some (aI v2), some (aI v3), some (aI v4), none, none] [aI (if v1 = 0 then v2 else v3)] t2 := by
        refine Tj.dia (fun c5 => ?_) (fun c5 => ?_)
        · refine Tj.tr (x_if_ne_f 113 dX7_pairsOf_106 (by decide) c5) ?_
          refine Tj.tr (x_iload_n dX7_pairsOf_109 rfl) ?_
          refine Tj.tr (x_goto (tgt := 114) dX7_pairsOf_110 (by decide)) ?_
          exact Tj.rf
        · refine Tj.tr (x_if_ne_t (tgt := 113) dX7_pairsOf_106 (by decide) c5) ?_
          refine Tj.tr (x_iload_n dX7_pairsOf_113 rfl) ?_
          exact Tj.rf
      refine G_st e6 ?_
      exact G_ret rfl ⟨dX7_pairsOf_114, _, rfl, rfl⟩ rfl
    · refine G_st (x_icmp_ge_f 105 dX7_pairsOf_14 (by decide) c4) ?_
      refine G_st (x_iload dX7_pairsOf_17 rfl) ?_
      refine G_st (x_iconst (1 : Int32) dX7_pairsOf_19 rfl) ?_
      refine G_st (x_iadd dX7_pairsOf_20) ?_
      refine G_bvI (fun x7 => ?_)
      refine G_st (x_istore [some (aR (0, 29)), some (aI v1), some (aI v2), some (aI v3), some (aI v4), some (aI x7), none] dX7_pairsOf_21 (Nat.le_of_ble_eq_true rfl) rfl rfl) ?_
      refine G_weak _ ?_ (g_X7_pairsOf_23 ids Hn H0_29 (f_X7_pairsOf_8 n) (ih) fuel v1 v2 v3 v4 x7 t2)
      exact (leL_s (leL_s (leL_s (leL_s (leL_s (leL_s (leL_n (leL_e _))))))))
set_option maxRecDepth 100000 in
set_option maxHeartbeats 4000000 in
theorem g_X7_pairsOf (ids : List (Nat × Nat)) (Hn : Ndp ids) (v1 : Int32) (H0_29 : InR ids 0 29 56) (t0 : Sg) : Gj kI mX7_pairsOf ids 0 [some (aR (0, 29)), some (aI v1), none, none, none, none, none] [] t0 (f_X7_pairsOf v1 t0) := by
  unfold f_X7_pairsOf
  refine G_st (x_iconst (0 : Int32) dX7_pairsOf_0 rfl) ?_
  refine G_st (x_istore_n [some (aR (0, 29)), some (aI v1), some (aI (0 : Int32)), none, none, none, none] dX7_pairsOf_1 (Nat.le_of_ble_eq_true rfl) rfl rfl) ?_
  refine G_st (x_bipush (-9 : Int32) dX7_pairsOf_2 rfl) ?_
  refine G_st (x_istore_n [some (aR (0, 29)), some (aI v1), some (aI (0 : Int32)), some (aI (-9 : Int32)), none, none, none] dX7_pairsOf_4 (Nat.le_of_ble_eq_true rfl) rfl rfl) ?_
  refine G_st (x_iconst (0 : Int32) dX7_pairsOf_5 rfl) ?_
  refine G_st (x_istore [some (aR (0, 29)), some (aI v1), some (aI (0 : Int32)), some (aI (-9 : Int32)), some (aI (0 : Int32)), none, none] dX7_pairsOf_6 (Nat.le_of_ble_eq_true rfl) rfl rfl) ?_
  refine G_weak _ ?_ (g_X7_pairsOf_8 ids Hn H0_29 fuel v1 (0 : Int32) (-9 : Int32) (0 : Int32) t0)
  exact (leL_s (leL_s (leL_s (leL_s (leL_s (leL_n (leL_n (leL_e _))))))))
set_option maxRecDepth 100000 in
set_option maxHeartbeats 4000000 in
theorem c_X7_pairsOf (ids : List (Nat × Nat)) (Hn : Ndp ids) (v1 : Int32) (H0_29 : InR ids 0 29 56) (t0 : Sg) (r : Int32) (t1 : Sg) (hf : f_X7_pairsOf v1 t0 = some (r, t1)) : Mt0 mX7_pairsOf yX7_pairsOf ids [aR (0, 29), aI v1] t0 (some (aI r)) t1 :=
  Mt_of (x := (r, t1)) (g_X7_pairsOf ids Hn v1 H0_29 t0) hf (fun _ _ => trivial) (by decide) rfl Hn (fun _ => rfl) (fun _ => Nat.le_of_ble_eq_true rfl)
theorem dX7_isRing_0 : decode cX7_isRing 0 = .ok (.aload_n 0, 1) := by decide +kernel
theorem dX7_isRing_1 : decode cX7_isRing 1 = .ok (.getfield 32, 3) := by decide +kernel
theorem dX7_isRing_4 : decode cX7_isRing 4 = .ok (.iload_n 1, 1) := by decide +kernel
theorem dX7_isRing_5 : decode cX7_isRing 5 = .ok (.iaload, 1) := by decide +kernel
theorem dX7_isRing_6 : decode cX7_isRing 6 = .ok (.istore 4, 2) := by decide +kernel
theorem dX7_isRing_8 : decode cX7_isRing 8 = .ok (.aload_n 0, 1) := by decide +kernel
theorem dX7_isRing_9 : decode cX7_isRing 9 = .ok (.getfield 32, 3) := by decide +kernel
theorem dX7_isRing_12 : decode cX7_isRing 12 = .ok (.iload_n 1, 1) := by decide +kernel
theorem dX7_isRing_13 : decode cX7_isRing 13 = .ok (.aload_n 0, 1) := by decide +kernel
theorem dX7_isRing_14 : decode cX7_isRing 14 = .ok (.getfield 32, 3) := by decide +kernel
theorem dX7_isRing_17 : decode cX7_isRing 17 = .ok (.iload_n 2, 1) := by decide +kernel
theorem dX7_isRing_18 : decode cX7_isRing 18 = .ok (.iaload, 1) := by decide +kernel
theorem dX7_isRing_19 : decode cX7_isRing 19 = .ok (.iastore, 1) := by decide +kernel
theorem dX7_isRing_20 : decode cX7_isRing 20 = .ok (.aload_n 0, 1) := by decide +kernel
theorem dX7_isRing_21 : decode cX7_isRing 21 = .ok (.getfield 32, 3) := by decide +kernel
theorem dX7_isRing_24 : decode cX7_isRing 24 = .ok (.iload_n 2, 1) := by decide +kernel
theorem dX7_isRing_25 : decode cX7_isRing 25 = .ok (.aload_n 0, 1) := by decide +kernel
theorem dX7_isRing_26 : decode cX7_isRing 26 = .ok (.getfield 32, 3) := by decide +kernel
theorem dX7_isRing_29 : decode cX7_isRing 29 = .ok (.iload_n 3, 1) := by decide +kernel
theorem dX7_isRing_30 : decode cX7_isRing 30 = .ok (.iaload, 1) := by decide +kernel
theorem dX7_isRing_31 : decode cX7_isRing 31 = .ok (.iastore, 1) := by decide +kernel
theorem dX7_isRing_32 : decode cX7_isRing 32 = .ok (.aload_n 0, 1) := by decide +kernel
theorem dX7_isRing_33 : decode cX7_isRing 33 = .ok (.getfield 32, 3) := by decide +kernel
theorem dX7_isRing_36 : decode cX7_isRing 36 = .ok (.iload_n 3, 1) := by decide +kernel
theorem dX7_isRing_37 : decode cX7_isRing 37 = .ok (.iload 4, 2) := by decide +kernel
theorem dX7_isRing_39 : decode cX7_isRing 39 = .ok (.iastore, 1) := by decide +kernel
theorem dX7_isRing_40 : decode cX7_isRing 40 = .ok (.aload_n 0, 1) := by decide +kernel
theorem dX7_isRing_41 : decode cX7_isRing 41 = .ok (.iload_n 1, 1) := by decide +kernel
theorem dX7_isRing_42 : decode cX7_isRing 42 = .ok (.iload_n 2, 1) := by decide +kernel
theorem dX7_isRing_43 : decode cX7_isRing 43 = .ok (.invokevirtual 316, 3) := by decide +kernel
theorem dX7_isRing_46 : decode cX7_isRing 46 = .ok (.ifCond .eq 22, 3) := by decide +kernel
theorem dX7_isRing_49 : decode cX7_isRing 49 = .ok (.aload_n 0, 1) := by decide +kernel
theorem dX7_isRing_50 : decode cX7_isRing 50 = .ok (.getfield 62, 3) := by decide +kernel
theorem dX7_isRing_53 : decode cX7_isRing 53 = .ok (.iload_n 3, 1) := by decide +kernel
theorem dX7_isRing_54 : decode cX7_isRing 54 = .ok (.iaload, 1) := by decide +kernel
theorem dX7_isRing_55 : decode cX7_isRing 55 = .ok (.aload_n 0, 1) := by decide +kernel
theorem dX7_isRing_56 : decode cX7_isRing 56 = .ok (.getfield 92, 3) := by decide +kernel
theorem dX7_isRing_59 : decode cX7_isRing 59 = .ok (.iload_n 3, 1) := by decide +kernel
theorem dX7_isRing_60 : decode cX7_isRing 60 = .ok (.iaload, 1) := by decide +kernel
theorem dX7_isRing_61 : decode cX7_isRing 61 = .ok (.if_icmp .ge 7, 3) := by decide +kernel
theorem dX7_isRing_64 : decode cX7_isRing 64 = .ok (.iconst 1, 1) := by decide +kernel
theorem dX7_isRing_65 : decode cX7_isRing 65 = .ok (.goto 4, 3) := by decide +kernel
theorem dX7_isRing_68 : decode cX7_isRing 68 = .ok (.iconst 0, 1) := by decide +kernel
theorem dX7_isRing_69 : decode cX7_isRing 69 = .ok (.istore 5, 2) := by decide +kernel
theorem dX7_isRing_71 : decode cX7_isRing 71 = .ok (.aload_n 0, 1) := by decide +kernel
theorem dX7_isRing_72 : decode cX7_isRing 72 = .ok (.getfield 32, 3) := by decide +kernel
theorem dX7_isRing_75 : decode cX7_isRing 75 = .ok (.iload_n 3, 1) := by decide +kernel
theorem dX7_isRing_76 : decode cX7_isRing 76 = .ok (.aload_n 0, 1) := by decide +kernel
theorem dX7_isRing_77 : decode cX7_isRing 77 = .ok (.getfield 32, 3) := by decide +kernel
theorem dX7_isRing_80 : decode cX7_isRing 80 = .ok (.iload_n 2, 1) := by decide +kernel
theorem dX7_isRing_81 : decode cX7_isRing 81 = .ok (.iaload, 1) := by decide +kernel
theorem dX7_isRing_82 : decode cX7_isRing 82 = .ok (.iastore, 1) := by decide +kernel
theorem dX7_isRing_83 : decode cX7_isRing 83 = .ok (.aload_n 0, 1) := by decide +kernel
theorem dX7_isRing_84 : decode cX7_isRing 84 = .ok (.getfield 32, 3) := by decide +kernel
theorem dX7_isRing_87 : decode cX7_isRing 87 = .ok (.iload_n 2, 1) := by decide +kernel
theorem dX7_isRing_88 : decode cX7_isRing 88 = .ok (.aload_n 0, 1) := by decide +kernel
theorem dX7_isRing_89 : decode cX7_isRing 89 = .ok (.getfield 32, 3) := by decide +kernel
theorem dX7_isRing_92 : decode cX7_isRing 92 = .ok (.iload_n 1, 1) := by decide +kernel
theorem dX7_isRing_93 : decode cX7_isRing 93 = .ok (.iaload, 1) := by decide +kernel
theorem dX7_isRing_94 : decode cX7_isRing 94 = .ok (.iastore, 1) := by decide +kernel
theorem dX7_isRing_95 : decode cX7_isRing 95 = .ok (.aload_n 0, 1) := by decide +kernel
theorem dX7_isRing_96 : decode cX7_isRing 96 = .ok (.getfield 32, 3) := by decide +kernel
theorem dX7_isRing_99 : decode cX7_isRing 99 = .ok (.iload_n 1, 1) := by decide +kernel
theorem dX7_isRing_100 : decode cX7_isRing 100 = .ok (.iload 4, 2) := by decide +kernel
theorem dX7_isRing_102 : decode cX7_isRing 102 = .ok (.iastore, 1) := by decide +kernel
theorem dX7_isRing_103 : decode cX7_isRing 103 = .ok (.iload 5, 2) := by decide +kernel
theorem dX7_isRing_105 : decode cX7_isRing 105 = .ok (.ireturn, 1) := by decide +kernel
set_option maxRecDepth 100000 in
set_option maxHeartbeats 4000000 in
theorem g_X7_isRing_69 (ids : List (Nat × Nat)) (Hn : Ndp ids)  (H0_29 : InR ids 0 29 56)  (v1 : Int32) (v2 : Int32) (v3 : Int32) (v4 : Int32) (w0 : Int32) (t0 : Sg) : Gj kI mX7_isRing ids 69 [some (aR (0, 29)), some (aI v1), some (aI v2), some (aI v3), some (aI v4), none] [aI w0] t0 (f_X7_isRing_69 v1 v2 v3 v4 w0 t0) := by
  unfold f_X7_isRing_69
  refine G_st (x_istore [some (aR (0, 29)), some (aI v1), some (aI v2), some (aI v3), some (aI v4), some (aI w0)] dX7_isRing_69 (Nat.le_of_ble_eq_true rfl) rfl rfl) ?_
  refine G_st (x_aload_n dX7_isRing_71 rfl) ?_
  refine G_st (x_get (k := 10) (aR (0, 35)) dX7_isRing_72 (H0_29 29 (Nat.le_of_ble_eq_true rfl) (Nat.le_of_ble_eq_true rfl)) rfl rfl rfl rfl inTX7 (Nat.le_of_ble_eq_true rfl) tw_857 (fun ad => rfl)) ?_
  refine G_st (x_iload_n dX7_isRing_75 rfl) ?_
  refine G_st (x_aload_n dX7_isRing_76 rfl) ?_
  refine G_st (x_get (k := 10) (aR (0, 35)) dX7_isRing_77 (H0_29 29 (Nat.le_of_ble_eq_true rfl) (Nat.le_of_ble_eq_true rfl)) rfl rfl rfl rfl inTX7 (Nat.le_of_ble_eq_true rfl) tw_857 (fun ad => rfl)) ?_
  refine G_st (x_iload_n dX7_isRing_80 rfl) ?_
  refine G_chk (fun c15 => ?_)
  refine G_st (x_iaload dX7_isRing_81 (H0_29 35 (Nat.le_of_ble_eq_true rfl) (Nat.le_of_ble_eq_true rfl)) rfl c15) ?_
  refine G_chk (fun c16 => ?_)
  refine G_st (x_iastore dX7_isRing_82 (H0_29 35 (Nat.le_of_ble_eq_true rfl) (Nat.le_of_ble_eq_true rfl)) rfl c16) ?_
  refine G_bvS (fun t17 => ?_)
  refine G_st (x_aload_n dX7_isRing_83 rfl) ?_
  refine G_st (x_get (k := 10) (aR (0, 35)) dX7_isRing_84 (H0_29 29 (Nat.le_of_ble_eq_true rfl) (Nat.le_of_ble_eq_true rfl)) rfl rfl rfl rfl inTX7 (Nat.le_of_ble_eq_true rfl) tw_857 (fun ad => rfl)) ?_
  refine G_st (x_iload_n dX7_isRing_87 rfl) ?_
  refine G_st (x_aload_n dX7_isRing_88 rfl) ?_
  refine G_st (x_get (k := 10) (aR (0, 35)) dX7_isRing_89 (H0_29 29 (Nat.le_of_ble_eq_true rfl) (Nat.le_of_ble_eq_true rfl)) rfl rfl rfl rfl inTX7 (Nat.le_of_ble_eq_true rfl) tw_857 (fun ad => rfl)) ?_
  refine G_st (x_iload_n dX7_isRing_92 rfl) ?_
  refine G_chk (fun c18 => ?_)
  refine G_st (x_iaload dX7_isRing_93 (H0_29 35 (Nat.le_of_ble_eq_true rfl) (Nat.le_of_ble_eq_true rfl)) rfl c18) ?_
  refine G_chk (fun c19 => ?_)
  refine G_st (x_iastore dX7_isRing_94 (H0_29 35 (Nat.le_of_ble_eq_true rfl) (Nat.le_of_ble_eq_true rfl)) rfl c19) ?_
  refine G_bvS (fun t20 => ?_)
  refine G_st (x_aload_n dX7_isRing_95 rfl) ?_
  refine G_st (x_get (k := 10) (aR (0, 35)) dX7_isRing_96 (H0_29 29 (Nat.le_of_ble_eq_true rfl) (Nat.le_of_ble_eq_true rfl)) rfl rfl rfl rfl inTX7 (Nat.le_of_ble_eq_true rfl) tw_857 (fun ad => rfl)) ?_
  refine G_st (x_iload_n dX7_isRing_99 rfl) ?_
  refine G_st (x_iload dX7_isRing_100 rfl) ?_
  refine G_chk (fun c21 => ?_)
  refine G_st (x_iastore dX7_isRing_102 (H0_29 35 (Nat.le_of_ble_eq_true rfl) (Nat.le_of_ble_eq_true rfl)) rfl c21) ?_
  refine G_bvS (fun t22 => ?_)
  refine G_st (x_iload dX7_isRing_103 rfl) ?_
  refine G_chk (fun c23 => ?_)
  exact G_ret rfl ⟨dX7_isRing_105, _, rfl, nar_b c23⟩ rfl
set_option maxRecDepth 100000 in
set_option maxHeartbeats 4000000 in
theorem g_X7_isRing_68 (ids : List (Nat × Nat)) (Hn : Ndp ids)  (H0_29 : InR ids 0 29 56)  (v1 : Int32) (v2 : Int32) (v3 : Int32) (v4 : Int32) (t0 : Sg) : Gj kI mX7_isRing ids 68 [some (aR (0, 29)), some (aI v1), some (aI v2), some (aI v3), some (aI v4), none] [] t0 (f_X7_isRing_68 v1 v2 v3 v4 t0) := by
  unfold f_X7_isRing_68
  refine G_st (x_iconst (0 : Int32) dX7_isRing_68 rfl) ?_
  refine G_weak _ ?_ (g_X7_isRing_69 ids Hn H0_29 v1 v2 v3 v4 (0 : Int32) t0)
  exact (leL_s (leL_s (leL_s (leL_s (leL_s (leL_n (leL_e _)))))))
set_option maxRecDepth 100000 in
set_option maxHeartbeats 4000000 in
theorem g_X7_isRing (ids : List (Nat × Nat)) (Hn : Ndp ids) (v1 : Int32) (v2 : Int32) (v3 : Int32) (H0_29 : InR ids 0 29 56) (t0 : Sg) : Gj kI mX7_isRing ids 0 [some (aR (0, 29)), some (aI v1), some (aI v2), some (aI v3), none, none] [] t0 (f_X7_isRing v1 v2 v3 t0) := by
  unfold f_X7_isRing
  refine G_st (x_aload_n dX7_isRing_0 rfl) ?_
  refine G_st (x_get (k := 10) (aR (0, 35)) dX7_isRing_1 (H0_29 29 (Nat.le_of_ble_eq_true rfl) (Nat.le_of_ble_eq_true rfl)) rfl rfl rfl rfl inTX7 (Nat.le_of_ble_eq_true rfl) tw_857 (fun ad => rfl)) ?_
  refine G_st (x_iload_n dX7_isRing_4 rfl) ?_
  refine G_chk (fun c1 => ?_)
  refine G_st (x_iaload dX7_isRing_5 (H0_29 35 (Nat.le_of_ble_eq_true rfl) (Nat.le_of_ble_eq_true rfl)) rfl c1) ?_
  refine G_bvI (fun x2 => ?_)
  refine G_st (x_istore [some (aR (0, 29)), some (aI v1), some (aI v2), some (aI v3), some (aI x2), none] dX7_isRing_6 (Nat.le_of_ble_eq_true rfl) rfl rfl) ?_
  refine G_st (x_aload_n dX7_isRing_8 rfl) ?_
  refine G_st (x_get (k := 10) (aR (0, 35)) dX7_isRing_9 (H0_29 29 (Nat.le_of_ble_eq_true rfl) (Nat.le_of_ble_eq_true rfl)) rfl rfl rfl rfl inTX7 (Nat.le_of_ble_eq_true rfl) tw_857 (fun ad => rfl)) ?_
  refine G_st (x_iload_n dX7_isRing_12 rfl) ?_
  refine G_st (x_aload_n dX7_isRing_13 rfl) ?_
  refine G_st (x_get (k := 10) (aR (0, 35)) dX7_isRing_14 (H0_29 29 (Nat.le_of_ble_eq_true rfl) (Nat.le_of_ble_eq_true rfl)) rfl rfl rfl rfl inTX7 (Nat.le_of_ble_eq_true rfl) tw_857 (fun ad => rfl)) ?_
  refine G_st (x_iload_n dX7_isRing_17 rfl) ?_
  refine G_chk (fun c3 => ?_)
  refine G_st (x_iaload dX7_isRing_18 (H0_29 35 (Nat.le_of_ble_eq_true rfl) (Nat.le_of_ble_eq_true rfl)) rfl c3) ?_
  refine G_chk (fun c4 => ?_)
  refine G_st (x_iastore dX7_isRing_19 (H0_29 35 (Nat.le_of_ble_eq_true rfl) (Nat.le_of_ble_eq_true rfl)) rfl c4) ?_
  refine G_bvS (fun t5 => ?_)
  refine G_st (x_aload_n dX7_isRing_20 rfl) ?_
  refine G_st (x_get (k := 10) (aR (0, 35)) dX7_isRing_21 (H0_29 29 (Nat.le_of_ble_eq_true rfl) (Nat.le_of_ble_eq_true rfl)) rfl rfl rfl rfl inTX7 (Nat.le_of_ble_eq_true rfl) tw_857 (fun ad => rfl)) ?_
  refine G_st (x_iload_n dX7_isRing_24 rfl) ?_
  refine G_st (x_aload_n dX7_isRing_25 rfl) ?_
  refine G_st (x_get (k := 10) (aR (0, 35)) dX7_isRing_26 (H0_29 29 (Nat.le_of_ble_eq_true rfl) (Nat.le_of_ble_eq_true rfl)) rfl rfl rfl rfl inTX7 (Nat.le_of_ble_eq_true rfl) tw_857 (fun ad => rfl)) ?_
  refine G_st (x_iload_n dX7_isRing_29 rfl) ?_
  refine G_chk (fun c6 => ?_)
  refine G_st (x_iaload dX7_isRing_30 (H0_29 35 (Nat.le_of_ble_eq_true rfl) (Nat.le_of_ble_eq_true rfl)) rfl c6) ?_
  refine G_chk (fun c7 => ?_)
  refine G_st (x_iastore dX7_isRing_31 (H0_29 35 (Nat.le_of_ble_eq_true rfl) (Nat.le_of_ble_eq_true rfl)) rfl c7) ?_
  refine G_bvS (fun t8 => ?_)
  refine G_st (x_aload_n dX7_isRing_32 rfl) ?_
  refine G_st (x_get (k := 10) (aR (0, 35)) dX7_isRing_33 (H0_29 29 (Nat.le_of_ble_eq_true rfl) (Nat.le_of_ble_eq_true rfl)) rfl rfl rfl rfl inTX7 (Nat.le_of_ble_eq_true rfl) tw_857 (fun ad => rfl)) ?_
  refine G_st (x_iload_n dX7_isRing_36 rfl) ?_
  refine G_st (x_iload dX7_isRing_37 rfl) ?_
  refine G_chk (fun c9 => ?_)
  refine G_st (x_iastore dX7_isRing_39 (H0_29 35 (Nat.le_of_ble_eq_true rfl) (Nat.le_of_ble_eq_true rfl)) rfl c9) ?_
  refine G_bvS (fun t10 => ?_)
  refine G_st (x_aload_n dX7_isRing_40 rfl) ?_
  refine G_st (x_iload_n dX7_isRing_41 rfl) ?_
  refine G_st (x_iload_n dX7_isRing_42 rfl) ?_
  refine G_bd (fun x11 t12 h13 => ?_)
  refine G_st (x_callV [] (c_X7_haveLess ids Hn v1 v2 H0_29 _ _ _ h13) dX7_isRing_43 tw_1315 kc_X7_haveLess (H0_29 29 (Nat.le_of_ble_eq_true rfl) (Nat.le_of_ble_eq_true rfl)) rfl rfl rfl rfl ⟨Nat.le_of_ble_eq_true rfl, Nat.le_of_ble_eq_true rfl⟩ (Nat.le_of_ble_eq_true rfl) rfl) ?_
  refine G_ite (fun c14 => ?_) (fun c14 => ?_)
  · refine G_st (x_if_eq_t (tgt := 68) dX7_isRing_46 (by decide) c14) ?_
    refine G_weak _ ?_ (g_X7_isRing_68 ids Hn H0_29 v1 v2 v3 x2 t12)
    exact (leL_s (leL_s (leL_s (leL_s (leL_s (leL_n (leL_e _)))))))
  · refine G_st (x_if_eq_f 68 dX7_isRing_46 (by decide) c14) ?_
    refine G_st (x_aload_n dX7_isRing_49 rfl) ?_
    refine G_st (x_get (k := 21) (aR (0, 45)) dX7_isRing_50 (H0_29 29 (Nat.le_of_ble_eq_true rfl) (Nat.le_of_ble_eq_true rfl)) rfl rfl rfl rfl inTX7 (Nat.le_of_ble_eq_true rfl) tw_868 (fun ad => rfl)) ?_
    refine G_st (x_iload_n dX7_isRing_53 rfl) ?_
    refine G_chk (fun c24 => ?_)
    refine G_st (x_iaload dX7_isRing_54 (H0_29 45 (Nat.le_of_ble_eq_true rfl) (Nat.le_of_ble_eq_true rfl)) rfl c24) ?_
    refine G_st (x_aload_n dX7_isRing_55 rfl) ?_
    refine G_st (x_get (k := 40) (aR (0, 55)) dX7_isRing_56 (H0_29 29 (Nat.le_of_ble_eq_true rfl) (Nat.le_of_ble_eq_true rfl)) rfl rfl rfl rfl inTX7 (Nat.le_of_ble_eq_true rfl) tw_887 (fun ad => rfl)) ?_
    refine G_st (x_iload_n dX7_isRing_59 rfl) ?_
    refine G_chk (fun c25 => ?_)
    refine G_st (x_iaload dX7_isRing_60 (H0_29 55 (Nat.le_of_ble_eq_true rfl) (Nat.le_of_ble_eq_true rfl)) rfl c25) ?_
    refine G_ite (fun c26 => ?_) (fun c26 => ?_)
    · refine G_st (x_icmp_ge_t (tgt := 68) dX7_isRing_61 (by decide) c26) ?_
      refine G_weak _ ?_ (g_X7_isRing_68 ids Hn H0_29 v1 v2 v3 x2 t12)
      exact (leL_s (leL_s (leL_s (leL_s (leL_s (leL_n (leL_e _)))))))
    · refine G_st (x_icmp_ge_f 68 dX7_isRing_61 (by decide) c26) ?_
      refine G_st (x_iconst (1 : Int32) dX7_isRing_64 rfl) ?_
      refine G_st (x_goto (tgt := 69) dX7_isRing_65 (by decide)) ?_
      refine G_weak _ ?_ (g_X7_isRing_69 ids Hn H0_29 v1 v2 v3 x2 (1 : Int32) t12)
      exact (leL_s (leL_s (leL_s (leL_s (leL_s (leL_n (leL_e _)))))))
set_option maxRecDepth 100000 in
set_option maxHeartbeats 4000000 in
theorem c_X7_isRing (ids : List (Nat × Nat)) (Hn : Ndp ids) (v1 : Int32) (v2 : Int32) (v3 : Int32) (H0_29 : InR ids 0 29 56) (t0 : Sg) (r : Int32) (t1 : Sg) (hf : f_X7_isRing v1 v2 v3 t0 = some (r, t1)) : Mt0 mX7_isRing yX7_isRing ids [aR (0, 29), aI v1, aI v2, aI v3] t0 (some (aI r)) t1 :=
  Mt_of (x := (r, t1)) (g_X7_isRing ids Hn v1 v2 v3 H0_29 t0) hf (fun _ _ => trivial) (by decide) rfl Hn (fun _ => rfl) (fun _ => Nat.le_of_ble_eq_true rfl)
theorem dX7_ringsOf_0 : decode cX7_ringsOf 0 = .ok (.iconst 0, 1) := by decide +kernel
theorem dX7_ringsOf_1 : decode cX7_ringsOf 1 = .ok (.istore_n 1, 1) := by decide +kernel
theorem dX7_ringsOf_2 : decode cX7_ringsOf 2 = .ok (.iconst 0, 1) := by decide +kernel
theorem dX7_ringsOf_3 : decode cX7_ringsOf 3 = .ok (.istore_n 2, 1) := by decide +kernel
theorem dX7_ringsOf_4 : decode cX7_ringsOf 4 = .ok (.iload_n 2, 1) := by decide +kernel
theorem dX7_ringsOf_5 : decode cX7_ringsOf 5 = .ok (.aload_n 0, 1) := by decide +kernel
theorem dX7_ringsOf_6 : decode cX7_ringsOf 6 = .ok (.invokevirtual 107, 3) := by decide +kernel
theorem dX7_ringsOf_9 : decode cX7_ringsOf 9 = .ok (.if_icmp .ge 72, 3) := by decide +kernel
theorem dX7_ringsOf_12 : decode cX7_ringsOf 12 = .ok (.iload_n 2, 1) := by decide +kernel
theorem dX7_ringsOf_13 : decode cX7_ringsOf 13 = .ok (.iconst 1, 1) := by decide +kernel
theorem dX7_ringsOf_14 : decode cX7_ringsOf 14 = .ok (.iadd, 1) := by decide +kernel
theorem dX7_ringsOf_15 : decode cX7_ringsOf 15 = .ok (.istore_n 3, 1) := by decide +kernel
theorem dX7_ringsOf_16 : decode cX7_ringsOf 16 = .ok (.iload_n 3, 1) := by decide +kernel
theorem dX7_ringsOf_17 : decode cX7_ringsOf 17 = .ok (.aload_n 0, 1) := by decide +kernel
theorem dX7_ringsOf_18 : decode cX7_ringsOf 18 = .ok (.invokevirtual 107, 3) := by decide +kernel
theorem dX7_ringsOf_21 : decode cX7_ringsOf 21 = .ok (.if_icmp .ge 54, 3) := by decide +kernel
theorem dX7_ringsOf_24 : decode cX7_ringsOf 24 = .ok (.iload_n 2, 1) := by decide +kernel
theorem dX7_ringsOf_25 : decode cX7_ringsOf 25 = .ok (.iconst 1, 1) := by decide +kernel
theorem dX7_ringsOf_26 : decode cX7_ringsOf 26 = .ok (.iadd, 1) := by decide +kernel
theorem dX7_ringsOf_27 : decode cX7_ringsOf 27 = .ok (.istore 4, 2) := by decide +kernel
theorem dX7_ringsOf_29 : decode cX7_ringsOf 29 = .ok (.iload 4, 2) := by decide +kernel
theorem dX7_ringsOf_31 : decode cX7_ringsOf 31 = .ok (.aload_n 0, 1) := by decide +kernel
theorem dX7_ringsOf_32 : decode cX7_ringsOf 32 = .ok (.invokevirtual 107, 3) := by decide +kernel
theorem dX7_ringsOf_35 : decode cX7_ringsOf 35 = .ok (.if_icmp .ge 34, 3) := by decide +kernel
theorem dX7_ringsOf_38 : decode cX7_ringsOf 38 = .ok (.iload_n 1, 1) := by decide +kernel
theorem dX7_ringsOf_39 : decode cX7_ringsOf 39 = .ok (.iload_n 3, 1) := by decide +kernel
theorem dX7_ringsOf_40 : decode cX7_ringsOf 40 = .ok (.iload 4, 2) := by decide +kernel
theorem dX7_ringsOf_42 : decode cX7_ringsOf 42 = .ok (.if_icmp .eq 18, 3) := by decide +kernel
theorem dX7_ringsOf_45 : decode cX7_ringsOf 45 = .ok (.aload_n 0, 1) := by decide +kernel
theorem dX7_ringsOf_46 : decode cX7_ringsOf 46 = .ok (.iload_n 2, 1) := by decide +kernel
theorem dX7_ringsOf_47 : decode cX7_ringsOf 47 = .ok (.iload_n 3, 1) := by decide +kernel
theorem dX7_ringsOf_48 : decode cX7_ringsOf 48 = .ok (.iload 4, 2) := by decide +kernel
theorem dX7_ringsOf_50 : decode cX7_ringsOf 50 = .ok (.invokevirtual 319, 3) := by decide +kernel
theorem dX7_ringsOf_53 : decode cX7_ringsOf 53 = .ok (.ifCond .eq 7, 3) := by decide +kernel
theorem dX7_ringsOf_56 : decode cX7_ringsOf 56 = .ok (.iconst 1, 1) := by decide +kernel
theorem dX7_ringsOf_57 : decode cX7_ringsOf 57 = .ok (.goto 4, 3) := by decide +kernel
theorem dX7_ringsOf_60 : decode cX7_ringsOf 60 = .ok (.iconst 0, 1) := by decide +kernel
theorem dX7_ringsOf_61 : decode cX7_ringsOf 61 = .ok (.iadd, 1) := by decide +kernel
theorem dX7_ringsOf_62 : decode cX7_ringsOf 62 = .ok (.istore_n 1, 1) := by decide +kernel
theorem dX7_ringsOf_63 : decode cX7_ringsOf 63 = .ok (.iinc 4 1, 3) := by decide +kernel
theorem dX7_ringsOf_66 : decode cX7_ringsOf 66 = .ok (.goto (-37), 3) := by decide +kernel
theorem dX7_ringsOf_69 : decode cX7_ringsOf 69 = .ok (.iinc 3 1, 3) := by decide +kernel
theorem dX7_ringsOf_72 : decode cX7_ringsOf 72 = .ok (.goto (-56), 3) := by decide +kernel
theorem dX7_ringsOf_75 : decode cX7_ringsOf 75 = .ok (.iinc 2 1, 3) := by decide +kernel
theorem dX7_ringsOf_78 : decode cX7_ringsOf 78 = .ok (.goto (-74), 3) := by decide +kernel
theorem dX7_ringsOf_81 : decode cX7_ringsOf 81 = .ok (.iload_n 1, 1) := by decide +kernel
theorem dX7_ringsOf_82 : decode cX7_ringsOf 82 = .ok (.ireturn, 1) := by decide +kernel
set_option maxRecDepth 100000 in
set_option maxHeartbeats 4000000 in
theorem g_X7_ringsOf_61 (ids : List (Nat × Nat)) (Hn : Ndp ids)  (H0_29 : InR ids 0 29 56) (k4 : Int32 → Int32 → Sg → Option (Int32 × Sg)) (hk4 : ∀ (v1 : Int32) (v2 : Int32) (t0 : Sg), Gj kI mX7_ringsOf ids 4 [some (aR (0, 29)), some (aI v1), some (aI v2), none, none] [] t0 (k4 v1 v2 t0)) (k16 : Int32 → Int32 → Int32 → Sg → Option (Int32 × Sg)) (hk16 : ∀ (v1 : Int32) (v2 : Int32) (v3 : Int32) (t0 : Sg), Gj kI mX7_ringsOf ids 16 [some (aR (0, 29)), some (aI v1), some (aI v2), some (aI v3), none] [] t0 (k16 v1 v2 v3 t0)) (k29 : Int32 → Int32 → Int32 → Int32 → Sg → Option (Int32 × Sg)) (hk29 : ∀ (v1 : Int32) (v2 : Int32) (v3 : Int32) (v4 : Int32) (t0 : Sg), Gj kI mX7_ringsOf ids 29 [some (aR (0, 29)), some (aI v1), some (aI v2), some (aI v3), some (aI v4)] [] t0 (k29 v1 v2 v3 v4 t0)) (v2 : Int32) (v3 : Int32) (v4 : Int32) (w0 : Int32) (w1 : Int32) (t0 : Sg) : Gj kI mX7_ringsOf ids 61 [some (aR (0, 29)), none, some (aI v2), some (aI v3), some (aI v4)] [aI w0, aI w1] t0 (f_X7_ringsOf_61 k4 k16 k29 v2 v3 v4 w0 w1 t0) := by
  unfold f_X7_ringsOf_61
  refine G_st (x_iadd dX7_ringsOf_61) ?_
  refine G_bvI (fun x16 => ?_)
  refine G_st (x_istore_n [some (aR (0, 29)), some (aI x16), some (aI v2), some (aI v3), some (aI v4)] dX7_ringsOf_62 (Nat.le_of_ble_eq_true rfl) rfl rfl) ?_
  refine G_st (x_iinc (v4 + (1 : Int32)) [some (aR (0, 29)), some (aI x16), some (aI v2), some (aI v3), some (aI (v4 + (1 : Int32)))] dX7_ringsOf_63 (Nat.le_of_ble_eq_true rfl) rfl rfl rfl rfl) ?_
  refine G_st (x_goto (tgt := 29) dX7_ringsOf_66 (by decide)) ?_
  refine G_weak _ ?_ (hk29 x16 v2 v3 (v4 + (1 : Int32)) t0)
  exact (leL_s (leL_s (leL_s (leL_s (leL_s (leL_e _))))))
set_option maxRecDepth 100000 in
set_option maxHeartbeats 4000000 in
theorem g_X7_ringsOf_60 (ids : List (Nat × Nat)) (Hn : Ndp ids)  (H0_29 : InR ids 0 29 56) (k4 : Int32 → Int32 → Sg → Option (Int32 × Sg)) (hk4 : ∀ (v1 : Int32) (v2 : Int32) (t0 : Sg), Gj kI mX7_ringsOf ids 4 [some (aR (0, 29)), some (aI v1), some (aI v2), none, none] [] t0 (k4 v1 v2 t0)) (k16 : Int32 → Int32 → Int32 → Sg → Option (Int32 × Sg)) (hk16 : ∀ (v1 : Int32) (v2 : Int32) (v3 : Int32) (t0 : Sg), Gj kI mX7_ringsOf ids 16 [some (aR (0, 29)), some (aI v1), some (aI v2), some (aI v3), none] [] t0 (k16 v1 v2 v3 t0)) (k29 : Int32 → Int32 → Int32 → Int32 → Sg → Option (Int32 × Sg)) (hk29 : ∀ (v1 : Int32) (v2 : Int32) (v3 : Int32) (v4 : Int32) (t0 : Sg), Gj kI mX7_ringsOf ids 29 [some (aR (0, 29)), some (aI v1), some (aI v2), some (aI v3), some (aI v4)] [] t0 (k29 v1 v2 v3 v4 t0)) (v2 : Int32) (v3 : Int32) (v4 : Int32) (w0 : Int32) (t0 : Sg) : Gj kI mX7_ringsOf ids 60 [some (aR (0, 29)), none, some (aI v2), some (aI v3), some (aI v4)] [aI w0] t0 (f_X7_ringsOf_60 k4 k16 k29 v2 v3 v4 w0 t0) := by
  unfold f_X7_ringsOf_60
  refine G_st (x_iconst (0 : Int32) dX7_ringsOf_60 rfl) ?_
  refine G_weak _ ?_ (g_X7_ringsOf_61 ids Hn H0_29 k4 hk4 k16 hk16 k29 hk29 v2 v3 v4 (0 : Int32) w0 t0)
  exact (leL_s (leL_n (leL_s (leL_s (leL_s (leL_e _))))))
set_option maxRecDepth 100000 in
set_option maxHeartbeats 4000000 in
theorem g_X7_ringsOf_29 (ids : List (Nat × Nat)) (Hn : Ndp ids)  (H0_29 : InR ids 0 29 56) (k4 : Int32 → Int32 → Sg → Option (Int32 × Sg)) (hk4 : ∀ (v1 : Int32) (v2 : Int32) (t0 : Sg), Gj kI mX7_ringsOf ids 4 [some (aR (0, 29)), some (aI v1), some (aI v2), none, none] [] t0 (k4 v1 v2 t0)) (k16 : Int32 → Int32 → Int32 → Sg → Option (Int32 × Sg)) (hk16 : ∀ (v1 : Int32) (v2 : Int32) (v3 : Int32) (t0 : Sg), Gj kI mX7_ringsOf ids 16 [some (aR (0, 29)), some (aI v1), some (aI v2), some (aI v3), none] [] t0 (k16 v1 v2 v3 t0)) : ∀ (n : Nat) (v1 : Int32) (v2 : Int32) (v3 : Int32) (v4 : Int32) (t0 : Sg), Gj kI mX7_ringsOf ids 29 [some (aR (0, 29)), some (aI v1), some (aI v2), some (aI v3), some (aI v4)] [] t0 (f_X7_ringsOf_29 k4 k16 n v1 v2 v3 v4 t0) := by
  intro n
  induction n with
  | zero => intro v1 v2 v3 v4 t0; exact G_none
  | succ n ih =>
    intro v1 v2 v3 v4 t0
    rw [f_X7_ringsOf_29]
    refine G_st (x_iload dX7_ringsOf_29 rfl) ?_
    refine G_st (x_aload_n dX7_ringsOf_31 rfl) ?_
    refine G_bd (fun x11 t12 h13 => ?_)
    refine G_st (x_callV [aI v4] (c_X7_tenants ids Hn  H0_29 _ _ _ h13) dX7_ringsOf_32 tw_1046 kc_X7_tenants (H0_29 29 (Nat.le_of_ble_eq_true rfl) (Nat.le_of_ble_eq_true rfl)) rfl rfl rfl rfl ⟨Nat.le_of_ble_eq_true rfl, Nat.le_of_ble_eq_true rfl⟩ (Nat.le_of_ble_eq_true rfl) rfl) ?_
    refine G_ite (fun c14 => ?_) (fun c14 => ?_)
    · refine G_st (x_icmp_ge_t (tgt := 69) dX7_ringsOf_35 (by decide) c14) ?_
      refine G_st (x_iinc (v3 + (1 : Int32)) [some (aR (0, 29)), some (aI v1), some (aI v2), some (aI (v3 + (1 : Int32))), some (aI v4)] dX7_ringsOf_69 (Nat.le_of_ble_eq_true rfl) rfl rfl rfl rfl) ?_
      refine G_st (x_goto (tgt := 16) dX7_ringsOf_72 (by decide)) ?_
      refine G_weak _ ?_ (hk16 v1 v2 (v3 + (1 : Int32)) t12)
      exact (leL_s (leL_s (leL_s (leL_s (leL_n (leL_e _))))))
    · refine G_st (x_icmp_ge_f 69 dX7_ringsOf_35 (by decide) c14) ?_
      refine G_st (x_iload_n dX7_ringsOf_38 rfl) ?_
      refine G_st (x_iload_n dX7_ringsOf_39 rfl) ?_
      refine G_st (x_iload dX7_ringsOf_40 rfl) ?_
      refine G_ite (fun c15 => ?_) (fun c15 => ?_)
      · refine G_st (x_icmp_eq_t (tgt := 60) dX7_ringsOf_42 (by decide) c15) ?_
        refine G_weak _ ?_ (g_X7_ringsOf_60 ids Hn H0_29 k4 hk4 k16 hk16 (f_X7_ringsOf_29 k4 k16 n) (ih) v2 v3 v4 v1 t12)
        exact (leL_s (leL_n (leL_s (leL_s (leL_s (leL_e _))))))
      · refine G_st (x_icmp_eq_f 60 dX7_ringsOf_42 (by decide) c15) ?_
        refine G_st (x_aload_n dX7_ringsOf_45 rfl) ?_
        refine G_st (x_iload_n dX7_ringsOf_46 rfl) ?_
        refine G_st (x_iload_n dX7_ringsOf_47 rfl) ?_
        refine G_st (x_iload dX7_ringsOf_48 rfl) ?_
        refine G_bd (fun x17 t18 h19 => ?_)
        refine G_st (x_callV [aI v1] (c_X7_isRing ids Hn v2 v3 v4 H0_29 _ _ _ h19) dX7_ringsOf_50 tw_1323 kc_X7_isRing (H0_29 29 (Nat.le_of_ble_eq_true rfl) (Nat.le_of_ble_eq_true rfl)) rfl rfl rfl rfl ⟨Nat.le_of_ble_eq_true rfl, Nat.le_of_ble_eq_true rfl⟩ (Nat.le_of_ble_eq_true rfl) rfl) ?_
        refine G_ite (fun c20 => ?_) (fun c20 => ?_)
        · refine G_st (x_if_eq_t (tgt := 60) dX7_ringsOf_53 (by decide) c20) ?_
          refine G_weak _ ?_ (g_X7_ringsOf_60 ids Hn H0_29 k4 hk4 k16 hk16 (f_X7_ringsOf_29 k4 k16 n) (ih) v2 v3 v4 v1 t18)
          exact (leL_s (leL_n (leL_s (leL_s (leL_s (leL_e _))))))
        · refine G_st (x_if_eq_f 60 dX7_ringsOf_53 (by decide) c20) ?_
          refine G_st (x_iconst (1 : Int32) dX7_ringsOf_56 rfl) ?_
          refine G_st (x_goto (tgt := 61) dX7_ringsOf_57 (by decide)) ?_
          refine G_weak _ ?_ (g_X7_ringsOf_61 ids Hn H0_29 k4 hk4 k16 hk16 (f_X7_ringsOf_29 k4 k16 n) (ih) v2 v3 v4 (1 : Int32) v1 t18)
          exact (leL_s (leL_n (leL_s (leL_s (leL_s (leL_e _))))))
set_option maxRecDepth 100000 in
set_option maxHeartbeats 4000000 in
theorem g_X7_ringsOf_16 (ids : List (Nat × Nat)) (Hn : Ndp ids)  (H0_29 : InR ids 0 29 56) (k4 : Int32 → Int32 → Sg → Option (Int32 × Sg)) (hk4 : ∀ (v1 : Int32) (v2 : Int32) (t0 : Sg), Gj kI mX7_ringsOf ids 4 [some (aR (0, 29)), some (aI v1), some (aI v2), none, none] [] t0 (k4 v1 v2 t0)) : ∀ (n : Nat) (v1 : Int32) (v2 : Int32) (v3 : Int32) (t0 : Sg), Gj kI mX7_ringsOf ids 16 [some (aR (0, 29)), some (aI v1), some (aI v2), some (aI v3), none] [] t0 (f_X7_ringsOf_16 k4 n v1 v2 v3 t0) := by
  intro n
  induction n with
  | zero => intro v1 v2 v3 t0; exact G_none
  | succ n ih =>
    intro v1 v2 v3 t0
    rw [f_X7_ringsOf_16]
    refine G_st (x_iload_n dX7_ringsOf_16 rfl) ?_
    refine G_st (x_aload_n dX7_ringsOf_17 rfl) ?_
    refine G_bd (fun x6 t7 h8 => ?_)
    refine G_st (x_callV [aI v3] (c_X7_tenants ids Hn  H0_29 _ _ _ h8) dX7_ringsOf_18 tw_1046 kc_X7_tenants (H0_29 29 (Nat.le_of_ble_eq_true rfl) (Nat.le_of_ble_eq_true rfl)) rfl rfl rfl rfl ⟨Nat.le_of_ble_eq_true rfl, Nat.le_of_ble_eq_true rfl⟩ (Nat.le_of_ble_eq_true rfl) rfl) ?_
    refine G_ite (fun c9 => ?_) (fun c9 => ?_)
    · refine G_st (x_icmp_ge_t (tgt := 75) dX7_ringsOf_21 (by decide) c9) ?_
      refine G_st (x_iinc (v2 + (1 : Int32)) [some (aR (0, 29)), some (aI v1), some (aI (v2 + (1 : Int32))), some (aI v3), none] dX7_ringsOf_75 (Nat.le_of_ble_eq_true rfl) rfl rfl rfl rfl) ?_
      refine G_st (x_goto (tgt := 4) dX7_ringsOf_78 (by decide)) ?_
      refine G_weak _ ?_ (hk4 v1 (v2 + (1 : Int32)) t7)
      exact (leL_s (leL_s (leL_s (leL_n (leL_n (leL_e _))))))
    · refine G_st (x_icmp_ge_f 75 dX7_ringsOf_21 (by decide) c9) ?_
      refine G_st (x_iload_n dX7_ringsOf_24 rfl) ?_
      refine G_st (x_iconst (1 : Int32) dX7_ringsOf_25 rfl) ?_
      refine G_st (x_iadd dX7_ringsOf_26) ?_
      refine G_bvI (fun x10 => ?_)
      refine G_st (x_istore [some (aR (0, 29)), some (aI v1), some (aI v2), some (aI v3), some (aI x10)] dX7_ringsOf_27 (Nat.le_of_ble_eq_true rfl) rfl rfl) ?_
      refine G_weak _ ?_ (g_X7_ringsOf_29 ids Hn H0_29 k4 hk4 (f_X7_ringsOf_16 k4 n) (ih) fuel v1 v2 v3 x10 t7)
      exact (leL_s (leL_s (leL_s (leL_s (leL_s (leL_e _))))))
set_option maxRecDepth 100000 in
set_option maxHeartbeats 4000000 in
theorem g_X7_ringsOf_4 (ids : List (Nat × Nat)) (Hn : Ndp ids)  (H0_29 : InR ids 0 29 56)  : ∀ (n : Nat) (v1 : Int32) (v2 : Int32) (t0 : Sg), Gj kI mX7_ringsOf ids 4 [some (aR (0, 29)), some (aI v1), some (aI v2), none, none] [] t0 (f_X7_ringsOf_4 n v1 v2 t0) := by
  intro n
  induction n with
  | zero => intro v1 v2 t0; exact G_none
  | succ n ih =>
    intro v1 v2 t0
    rw [f_X7_ringsOf_4]
    refine G_st (x_iload_n dX7_ringsOf_4 rfl) ?_
    refine G_st (x_aload_n dX7_ringsOf_5 rfl) ?_
    refine G_bd (fun x1 t2 h3 => ?_)
    refine G_st (x_callV [aI v2] (c_X7_tenants ids Hn  H0_29 _ _ _ h3) dX7_ringsOf_6 tw_1046 kc_X7_tenants (H0_29 29 (Nat.le_of_ble_eq_true rfl) (Nat.le_of_ble_eq_true rfl)) rfl rfl rfl rfl ⟨Nat.le_of_ble_eq_true rfl, Nat.le_of_ble_eq_true rfl⟩ (Nat.le_of_ble_eq_true rfl) rfl) ?_
    refine G_ite (fun c4 => ?_) (fun c4 => ?_)
    · refine G_st (x_icmp_ge_t (tgt := 81) dX7_ringsOf_9 (by decide) c4) ?_
      refine G_st (x_iload_n dX7_ringsOf_81 rfl) ?_
      exact G_ret rfl ⟨dX7_ringsOf_82, _, rfl, rfl⟩ rfl
    · refine G_st (x_icmp_ge_f 81 dX7_ringsOf_9 (by decide) c4) ?_
      refine G_st (x_iload_n dX7_ringsOf_12 rfl) ?_
      refine G_st (x_iconst (1 : Int32) dX7_ringsOf_13 rfl) ?_
      refine G_st (x_iadd dX7_ringsOf_14) ?_
      refine G_bvI (fun x5 => ?_)
      refine G_st (x_istore_n [some (aR (0, 29)), some (aI v1), some (aI v2), some (aI x5), none] dX7_ringsOf_15 (Nat.le_of_ble_eq_true rfl) rfl rfl) ?_
      refine G_weak _ ?_ (g_X7_ringsOf_16 ids Hn H0_29 (f_X7_ringsOf_4 n) (ih) fuel v1 v2 x5 t2)
      exact (leL_s (leL_s (leL_s (leL_s (leL_n (leL_e _))))))
set_option maxRecDepth 100000 in
set_option maxHeartbeats 4000000 in
theorem g_X7_ringsOf (ids : List (Nat × Nat)) (Hn : Ndp ids)  (H0_29 : InR ids 0 29 56) (t0 : Sg) : Gj kI mX7_ringsOf ids 0 [some (aR (0, 29)), none, none, none, none] [] t0 (f_X7_ringsOf t0) := by
  unfold f_X7_ringsOf
  refine G_st (x_iconst (0 : Int32) dX7_ringsOf_0 rfl) ?_
  refine G_st (x_istore_n [some (aR (0, 29)), some (aI (0 : Int32)), none, none, none] dX7_ringsOf_1 (Nat.le_of_ble_eq_true rfl) rfl rfl) ?_
  refine G_st (x_iconst (0 : Int32) dX7_ringsOf_2 rfl) ?_
  refine G_st (x_istore_n [some (aR (0, 29)), some (aI (0 : Int32)), some (aI (0 : Int32)), none, none] dX7_ringsOf_3 (Nat.le_of_ble_eq_true rfl) rfl rfl) ?_
  refine G_weak _ ?_ (g_X7_ringsOf_4 ids Hn H0_29 fuel (0 : Int32) (0 : Int32) t0)
  exact (leL_s (leL_s (leL_s (leL_n (leL_n (leL_e _))))))
set_option maxRecDepth 100000 in
set_option maxHeartbeats 4000000 in
theorem c_X7_ringsOf (ids : List (Nat × Nat)) (Hn : Ndp ids)  (H0_29 : InR ids 0 29 56) (t0 : Sg) (r : Int32) (t1 : Sg) (hf : f_X7_ringsOf t0 = some (r, t1)) : Mt0 mX7_ringsOf yX7_ringsOf ids [aR (0, 29)] t0 (some (aI r)) t1 :=
  Mt_of (x := (r, t1)) (g_X7_ringsOf ids Hn  H0_29 t0) hf (fun _ _ => trivial) (by decide) rfl Hn (fun _ => rfl) (fun _ => Nat.le_of_ble_eq_true rfl)
theorem dX7_swaps_0 : decode cX7_swaps 0 = .ok (.aload_n 0, 1) := by decide +kernel
theorem dX7_swaps_1 : decode cX7_swaps 1 = .ok (.iconst 0, 1) := by decide +kernel
theorem dX7_swaps_2 : decode cX7_swaps 2 = .ok (.putfield 98, 3) := by decide +kernel
theorem dX7_swaps_5 : decode cX7_swaps 5 = .ok (.iload_n 1, 1) := by decide +kernel
theorem dX7_swaps_6 : decode cX7_swaps 6 = .ok (.i2l, 1) := by decide +kernel
theorem dX7_swaps_7 : decode cX7_swaps 7 = .ok (.lconst 0, 1) := by decide +kernel
theorem dX7_swaps_8 : decode cX7_swaps 8 = .ok (.ldc2_w 207, 3) := by decide +kernel
theorem dX7_swaps_11 : decode cX7_swaps 11 = .ok (.invokestatic 111, 3) := by decide +kernel
theorem dX7_swaps_14 : decode cX7_swaps 14 = .ok (.ifCond .ne 10, 3) := by decide +kernel
theorem dX7_swaps_17 : decode cX7_swaps 17 = .ok (.aload_n 0, 1) := by decide +kernel
theorem dX7_swaps_18 : decode cX7_swaps 18 = .ok (.bipush (-2), 2) := by decide +kernel
theorem dX7_swaps_20 : decode cX7_swaps 20 = .ok (.invokevirtual 167, 3) := by decide +kernel
theorem dX7_swaps_23 : decode cX7_swaps 23 = .ok (.ireturn, 1) := by decide +kernel
theorem dX7_swaps_24 : decode cX7_swaps 24 = .ok (.aload_n 0, 1) := by decide +kernel
theorem dX7_swaps_25 : decode cX7_swaps 25 = .ok (.invokevirtual 160, 3) := by decide +kernel
theorem dX7_swaps_28 : decode cX7_swaps 28 = .ok (.pop, 1) := by decide +kernel
theorem dX7_swaps_29 : decode cX7_swaps 29 = .ok (.aload_n 0, 1) := by decide +kernel
theorem dX7_swaps_30 : decode cX7_swaps 30 = .ok (.invokevirtual 303, 3) := by decide +kernel
theorem dX7_swaps_33 : decode cX7_swaps 33 = .ok (.iload_n 1, 1) := by decide +kernel
theorem dX7_swaps_34 : decode cX7_swaps 34 = .ok (.iconst 2, 1) := by decide +kernel
theorem dX7_swaps_35 : decode cX7_swaps 35 = .ok (.if_icmp .ge 11, 3) := by decide +kernel
theorem dX7_swaps_38 : decode cX7_swaps 38 = .ok (.aload_n 0, 1) := by decide +kernel
theorem dX7_swaps_39 : decode cX7_swaps 39 = .ok (.iload_n 1, 1) := by decide +kernel
theorem dX7_swaps_40 : decode cX7_swaps 40 = .ok (.invokevirtual 323, 3) := by decide +kernel
theorem dX7_swaps_43 : decode cX7_swaps 43 = .ok (.goto 7, 3) := by decide +kernel
theorem dX7_swaps_46 : decode cX7_swaps 46 = .ok (.aload_n 0, 1) := by decide +kernel
theorem dX7_swaps_47 : decode cX7_swaps 47 = .ok (.invokevirtual 326, 3) := by decide +kernel
theorem dX7_swaps_50 : decode cX7_swaps 50 = .ok (.ireturn, 1) := by decide +kernel
set_option maxRecDepth 100000 in
set_option maxHeartbeats 4000000 in
theorem g_X7_swaps (ids : List (Nat × Nat)) (Hn : Ndp ids) (v1 : Int32) (H0_29 : InR ids 0 29 56) (t0 : Sg) : Gj kI mX7_swaps ids 0 [some (aR (0, 29)), some (aI v1)] [] t0 (f_X7_swaps v1 t0) := by
  unfold f_X7_swaps
  refine G_st (x_aload_n dX7_swaps_0 rfl) ?_
  refine G_st (x_iconst (0 : Int32) dX7_swaps_1 rfl) ?_
  refine G_st (x_put (k := 18) (ty := .int) (v := aI (0 : Int32)) (z := (0 : Int32)) (upS t0 (0, 29) 18 (0 : Int32)) dX7_swaps_2 (H0_29 29 (Nat.le_of_ble_eq_true rfl) (Nat.le_of_ble_eq_true rfl)) rfl rfl rfl rfl inTX7 tyX7_ok nmX7 (Nat.le_of_ble_eq_true rfl) tw_865 rfl rfl (fun ad => rfl) (fun ad => rfl) (fun ad => put_i0 ad _ _ _ _ rfl) rfl) ?_
  refine G_bvS (fun t1 => ?_)
  refine G_st (x_iload_n dX7_swaps_5 rfl) ?_
  refine G_st (x_i2l dX7_swaps_6) ?_
  refine G_st (x_lconst (0 : Int64) dX7_swaps_7 rfl) ?_
  refine G_st (x_ldc2 dX7_swaps_8 tw_1039) ?_
  refine G_bd (fun x2 t3 h4 => ?_)
  refine G_st (x_callS [] (c_X7_in ids Hn (v1).toInt64 (0 : Int64) (2 : Int64)  _ _ _ h4) dX7_swaps_11 tw_1003 kc_X7_in rfl ⟨Nat.le_of_ble_eq_true rfl, Nat.le_of_ble_eq_true rfl⟩ (Nat.le_of_ble_eq_true rfl) rfl) ?_
  refine G_ite (fun c5 => ?_) (fun c5 => ?_)
  · refine G_st (x_if_ne_f 24 dX7_swaps_14 (by decide) c5) ?_
    refine G_st (x_aload_n dX7_swaps_17 rfl) ?_
    refine G_st (x_bipush (-2 : Int32) dX7_swaps_18 rfl) ?_
    refine G_bd (fun x6 t7 h8 => ?_)
    refine G_st (x_callV [] (c_X7_refuse ids Hn (-2 : Int32) H0_29 _ _ _ h8) dX7_swaps_20 tw_981 kc_X7_refuse (H0_29 29 (Nat.le_of_ble_eq_true rfl) (Nat.le_of_ble_eq_true rfl)) rfl rfl rfl rfl ⟨Nat.le_of_ble_eq_true rfl, Nat.le_of_ble_eq_true rfl⟩ (Nat.le_of_ble_eq_true rfl) rfl) ?_
    exact G_ret rfl ⟨dX7_swaps_23, _, rfl, rfl⟩ rfl
  · refine G_st (x_if_ne_t (tgt := 24) dX7_swaps_14 (by decide) c5) ?_
    refine G_st (x_aload_n dX7_swaps_24 rfl) ?_
    refine G_bd (fun x9 t10 h11 => ?_)
    refine G_st (x_callV [] (c_X7_oneWeek ids Hn  H0_29 _ _ _ h11) dX7_swaps_25 tw_1157 kc_X7_oneWeek (H0_29 29 (Nat.le_of_ble_eq_true rfl) (Nat.le_of_ble_eq_true rfl)) rfl rfl rfl rfl ⟨Nat.le_of_ble_eq_true rfl, Nat.le_of_ble_eq_true rfl⟩ (Nat.le_of_ble_eq_true rfl) rfl) ?_
    refine G_st (x_pop dX7_swaps_28 rfl) ?_
    refine G_st (x_aload_n dX7_swaps_29 rfl) ?_
    refine G_bd (fun _ t13 h14 => ?_)
    refine G_st (x_callV [] (c_X7_keepHarm ids Hn  H0_29 _ _ _ h14) dX7_swaps_30 tw_1274 kc_X7_keepHarm (H0_29 29 (Nat.le_of_ble_eq_true rfl) (Nat.le_of_ble_eq_true rfl)) rfl rfl rfl rfl ⟨Nat.le_of_ble_eq_true rfl, Nat.le_of_ble_eq_true rfl⟩ (Nat.le_of_ble_eq_true rfl) rfl) ?_
    refine G_st (x_iload_n dX7_swaps_33 rfl) ?_
    refine G_st (x_iconst (2 : Int32) dX7_swaps_34 rfl) ?_
    refine G_ite (fun c15 => ?_) (fun c15 => ?_)
    · refine G_st (x_icmp_ge_t (tgt := 46) dX7_swaps_35 (by decide) c15) ?_
      refine G_st (x_aload_n dX7_swaps_46 rfl) ?_
      refine G_bd (fun x16 t17 h18 => ?_)
      refine G_st (x_callV [] (c_X7_ringsOf ids Hn  H0_29 _ _ _ h18) dX7_swaps_47 tw_1319 kc_X7_ringsOf (H0_29 29 (Nat.le_of_ble_eq_true rfl) (Nat.le_of_ble_eq_true rfl)) rfl rfl rfl rfl ⟨Nat.le_of_ble_eq_true rfl, Nat.le_of_ble_eq_true rfl⟩ (Nat.le_of_ble_eq_true rfl) rfl) ?_
      exact G_ret rfl ⟨dX7_swaps_50, _, rfl, rfl⟩ rfl
    · refine G_st (x_icmp_ge_f 46 dX7_swaps_35 (by decide) c15) ?_
      refine G_st (x_aload_n dX7_swaps_38 rfl) ?_
      refine G_st (x_iload_n dX7_swaps_39 rfl) ?_
      refine G_bd (fun x19 t20 h21 => ?_)
      refine G_st (x_callV [] (c_X7_pairsOf ids Hn v1 H0_29 _ _ _ h21) dX7_swaps_40 tw_1311 kc_X7_pairsOf (H0_29 29 (Nat.le_of_ble_eq_true rfl) (Nat.le_of_ble_eq_true rfl)) rfl rfl rfl rfl ⟨Nat.le_of_ble_eq_true rfl, Nat.le_of_ble_eq_true rfl⟩ (Nat.le_of_ble_eq_true rfl) rfl) ?_
      refine G_st (x_goto (tgt := 50) dX7_swaps_43 (by decide)) ?_
      exact G_ret rfl ⟨dX7_swaps_50, _, rfl, rfl⟩ rfl
set_option maxRecDepth 100000 in
set_option maxHeartbeats 4000000 in
theorem c_X7_swaps (ids : List (Nat × Nat)) (Hn : Ndp ids) (v1 : Int32) (H0_29 : InR ids 0 29 56) (t0 : Sg) (r : Int32) (t1 : Sg) (hf : f_X7_swaps v1 t0 = some (r, t1)) : Mt0 mX7_swaps yX7_swaps ids [aR (0, 29), aI v1] t0 (some (aI r)) t1 :=
  Mt_of (x := (r, t1)) (g_X7_swaps ids Hn v1 H0_29 t0) hf (fun _ _ => trivial) (by decide) rfl Hn (fun _ => rfl) (fun _ => Nat.le_of_ble_eq_true rfl)
theorem dX7_divisor_0 : decode cX7_divisor 0 = .ok (.iload_n 0, 1) := by decide +kernel
theorem dX7_divisor_1 : decode cX7_divisor 1 = .ok (.istore_n 2, 1) := by decide +kernel
theorem dX7_divisor_2 : decode cX7_divisor 2 = .ok (.iload_n 1, 1) := by decide +kernel
theorem dX7_divisor_3 : decode cX7_divisor 3 = .ok (.istore_n 3, 1) := by decide +kernel
theorem dX7_divisor_4 : decode cX7_divisor 4 = .ok (.iload_n 3, 1) := by decide +kernel
theorem dX7_divisor_5 : decode cX7_divisor 5 = .ok (.ifCond .eq 16, 3) := by decide +kernel
theorem dX7_divisor_8 : decode cX7_divisor 8 = .ok (.iload_n 2, 1) := by decide +kernel
theorem dX7_divisor_9 : decode cX7_divisor 9 = .ok (.iload_n 3, 1) := by decide +kernel
theorem dX7_divisor_10 : decode cX7_divisor 10 = .ok (.irem, 1) := by decide +kernel
theorem dX7_divisor_11 : decode cX7_divisor 11 = .ok (.istore 4, 2) := by decide +kernel
theorem dX7_divisor_13 : decode cX7_divisor 13 = .ok (.iload_n 3, 1) := by decide +kernel
theorem dX7_divisor_14 : decode cX7_divisor 14 = .ok (.istore_n 2, 1) := by decide +kernel
theorem dX7_divisor_15 : decode cX7_divisor 15 = .ok (.iload 4, 2) := by decide +kernel
theorem dX7_divisor_17 : decode cX7_divisor 17 = .ok (.istore_n 3, 1) := by decide +kernel
theorem dX7_divisor_18 : decode cX7_divisor 18 = .ok (.goto (-14), 3) := by decide +kernel
theorem dX7_divisor_21 : decode cX7_divisor 21 = .ok (.iload_n 2, 1) := by decide +kernel
theorem dX7_divisor_22 : decode cX7_divisor 22 = .ok (.ireturn, 1) := by decide +kernel
set_option maxRecDepth 100000 in
set_option maxHeartbeats 4000000 in
theorem g_X7_divisor_4 (ids : List (Nat × Nat)) (Hn : Ndp ids)    : ∀ (n : Nat) (v2 : Int32) (v3 : Int32) (t0 : Sg), Gj kI mX7_divisor ids 4 [none, none, some (aI v2), some (aI v3), none] [] t0 (f_X7_divisor_4 n v2 v3 t0) := by
  intro n
  induction n with
  | zero => intro v2 v3 t0; exact G_none
  | succ n ih =>
    intro v2 v3 t0
    rw [f_X7_divisor_4]
    refine G_st (x_iload_n dX7_divisor_4 rfl) ?_
    refine G_ite (fun c1 => ?_) (fun c1 => ?_)
    · refine G_st (x_if_eq_t (tgt := 21) dX7_divisor_5 (by decide) c1) ?_
      refine G_st (x_iload_n dX7_divisor_21 rfl) ?_
      exact G_ret rfl ⟨dX7_divisor_22, _, rfl, rfl⟩ rfl
    · refine G_st (x_if_eq_f 21 dX7_divisor_5 (by decide) c1) ?_
      refine G_st (x_iload_n dX7_divisor_8 rfl) ?_
      refine G_st (x_iload_n dX7_divisor_9 rfl) ?_
      refine G_chk (fun c2 => ?_)
      refine G_st (x_irem dX7_divisor_10 c2) ?_
      refine G_bvI (fun x3 => ?_)
      refine G_st (x_istore [none, none, some (aI v2), some (aI v3), some (aI x3)] dX7_divisor_11 (Nat.le_of_ble_eq_true rfl) rfl rfl) ?_
      refine G_st (x_iload_n dX7_divisor_13 rfl) ?_
      refine G_st (x_istore_n [none, none, some (aI v3), some (aI v3), some (aI x3)] dX7_divisor_14 (Nat.le_of_ble_eq_true rfl) rfl rfl) ?_
      refine G_st (x_iload dX7_divisor_15 rfl) ?_
      refine G_st (x_istore_n [none, none, some (aI v3), some (aI x3), some (aI x3)] dX7_divisor_17 (Nat.le_of_ble_eq_true rfl) rfl rfl) ?_
      refine G_st (x_goto (tgt := 4) dX7_divisor_18 (by decide)) ?_
      refine G_weak _ ?_ ((ih) v3 x3 t0)
      exact (leL_n (leL_n (leL_s (leL_s (leL_n (leL_e _))))))
set_option maxRecDepth 100000 in
set_option maxHeartbeats 4000000 in
theorem g_X7_divisor (ids : List (Nat × Nat)) (Hn : Ndp ids) (v0 : Int32) (v1 : Int32)  (t0 : Sg) : Gj kI mX7_divisor ids 0 [some (aI v0), some (aI v1), none, none, none] [] t0 (f_X7_divisor v0 v1 t0) := by
  unfold f_X7_divisor
  refine G_st (x_iload_n dX7_divisor_0 rfl) ?_
  refine G_st (x_istore_n [some (aI v0), some (aI v1), some (aI v0), none, none] dX7_divisor_1 (Nat.le_of_ble_eq_true rfl) rfl rfl) ?_
  refine G_st (x_iload_n dX7_divisor_2 rfl) ?_
  refine G_st (x_istore_n [some (aI v0), some (aI v1), some (aI v0), some (aI v1), none] dX7_divisor_3 (Nat.le_of_ble_eq_true rfl) rfl rfl) ?_
  refine G_weak _ ?_ (g_X7_divisor_4 ids Hn fuel v0 v1 t0)
  exact (leL_n (leL_n (leL_s (leL_s (leL_n (leL_e _))))))
set_option maxRecDepth 100000 in
set_option maxHeartbeats 4000000 in
theorem c_X7_divisor (ids : List (Nat × Nat)) (Hn : Ndp ids) (v0 : Int32) (v1 : Int32)  (t0 : Sg) (r : Int32) (t1 : Sg) (hf : f_X7_divisor v0 v1 t0 = some (r, t1)) : Mt0 mX7_divisor yX7_divisor ids [aI v0, aI v1] t0 (some (aI r)) t1 :=
  Mt_of (x := (r, t1)) (g_X7_divisor ids Hn v0 v1  t0) hf (fun _ _ => trivial) (by decide) rfl Hn (fun _ => rfl) (fun _ => Nat.le_of_ble_eq_true rfl)
theorem dX7_peg_0 : decode cX7_peg 0 = .ok (.aload_n 0, 1) := by decide +kernel
theorem dX7_peg_1 : decode cX7_peg 1 = .ok (.iconst 0, 1) := by decide +kernel
theorem dX7_peg_2 : decode cX7_peg 2 = .ok (.putfield 98, 3) := by decide +kernel
theorem dX7_peg_5 : decode cX7_peg 5 = .ok (.aload_n 0, 1) := by decide +kernel
theorem dX7_peg_6 : decode cX7_peg 6 = .ok (.iload_n 1, 1) := by decide +kernel
theorem dX7_peg_7 : decode cX7_peg 7 = .ok (.invokevirtual 213, 3) := by decide +kernel
theorem dX7_peg_10 : decode cX7_peg 10 = .ok (.istore 4, 2) := by decide +kernel
theorem dX7_peg_12 : decode cX7_peg 12 = .ok (.iload 4, 2) := by decide +kernel
theorem dX7_peg_14 : decode cX7_peg 14 = .ok (.ifCond .lt 11, 3) := by decide +kernel
theorem dX7_peg_17 : decode cX7_peg 17 = .ok (.aload_n 0, 1) := by decide +kernel
theorem dX7_peg_18 : decode cX7_peg 18 = .ok (.iload_n 2, 1) := by decide +kernel
theorem dX7_peg_19 : decode cX7_peg 19 = .ok (.invokevirtual 115, 3) := by decide +kernel
theorem dX7_peg_22 : decode cX7_peg 22 = .ok (.ifCond .ne 14, 3) := by decide +kernel
theorem dX7_peg_25 : decode cX7_peg 25 = .ok (.ldc2_w 329, 3) := by decide +kernel
theorem dX7_peg_28 : decode cX7_peg 28 = .ok (.aload_n 0, 1) := by decide +kernel
theorem dX7_peg_29 : decode cX7_peg 29 = .ok (.iconst (-1), 1) := by decide +kernel
theorem dX7_peg_30 : decode cX7_peg 30 = .ok (.invokevirtual 167, 3) := by decide +kernel
theorem dX7_peg_33 : decode cX7_peg 33 = .ok (.i2l, 1) := by decide +kernel
theorem dX7_peg_34 : decode cX7_peg 34 = .ok (.lsub, 1) := by decide +kernel
theorem dX7_peg_35 : decode cX7_peg 35 = .ok (.lreturn, 1) := by decide +kernel
theorem dX7_peg_36 : decode cX7_peg 36 = .ok (.iload_n 3, 1) := by decide +kernel
theorem dX7_peg_37 : decode cX7_peg 37 = .ok (.i2l, 1) := by decide +kernel
theorem dX7_peg_38 : decode cX7_peg 38 = .ok (.lconst 0, 1) := by decide +kernel
theorem dX7_peg_39 : decode cX7_peg 39 = .ok (.lconst 1, 1) := by decide +kernel
theorem dX7_peg_40 : decode cX7_peg 40 = .ok (.invokestatic 111, 3) := by decide +kernel
theorem dX7_peg_43 : decode cX7_peg 43 = .ok (.ifCond .ne 15, 3) := by decide +kernel
theorem dX7_peg_46 : decode cX7_peg 46 = .ok (.ldc2_w 329, 3) := by decide +kernel
theorem dX7_peg_49 : decode cX7_peg 49 = .ok (.aload_n 0, 1) := by decide +kernel
theorem dX7_peg_50 : decode cX7_peg 50 = .ok (.bipush (-2), 2) := by decide +kernel
theorem dX7_peg_52 : decode cX7_peg 52 = .ok (.invokevirtual 167, 3) := by decide +kernel
theorem dX7_peg_55 : decode cX7_peg 55 = .ok (.i2l, 1) := by decide +kernel
theorem dX7_peg_56 : decode cX7_peg 56 = .ok (.lsub, 1) := by decide +kernel
theorem dX7_peg_57 : decode cX7_peg 57 = .ok (.lreturn, 1) := by decide +kernel
theorem dX7_peg_58 : decode cX7_peg 58 = .ok (.iconst 0, 1) := by decide +kernel
theorem dX7_peg_59 : decode cX7_peg 59 = .ok (.istore 5, 2) := by decide +kernel
theorem dX7_peg_61 : decode cX7_peg 61 = .ok (.iconst 0, 1) := by decide +kernel
theorem dX7_peg_62 : decode cX7_peg 62 = .ok (.istore 6, 2) := by decide +kernel
theorem dX7_peg_64 : decode cX7_peg 64 = .ok (.iload 4, 2) := by decide +kernel
theorem dX7_peg_66 : decode cX7_peg 66 = .ok (.iconst 4, 1) := by decide +kernel
theorem dX7_peg_67 : decode cX7_peg 67 = .ok (.iadd, 1) := by decide +kernel
theorem dX7_peg_68 : decode cX7_peg 68 = .ok (.istore 7, 2) := by decide +kernel
theorem dX7_peg_70 : decode cX7_peg 70 = .ok (.iload 7, 2) := by decide +kernel
theorem dX7_peg_72 : decode cX7_peg 72 = .ok (.iconst 4, 1) := by decide +kernel
theorem dX7_peg_73 : decode cX7_peg 73 = .ok (.aload_n 0, 1) := by decide +kernel
theorem dX7_peg_74 : decode cX7_peg 74 = .ok (.getfield 7, 3) := by decide +kernel
theorem dX7_peg_77 : decode cX7_peg 77 = .ok (.imul, 1) := by decide +kernel
theorem dX7_peg_78 : decode cX7_peg 78 = .ok (.if_icmp .ge 53, 3) := by decide +kernel
theorem dX7_peg_81 : decode cX7_peg 81 = .ok (.iload 7, 2) := by decide +kernel
theorem dX7_peg_83 : decode cX7_peg 83 = .ok (.iload 4, 2) := by decide +kernel
theorem dX7_peg_85 : decode cX7_peg 85 = .ok (.iconst 4, 1) := by decide +kernel
theorem dX7_peg_86 : decode cX7_peg 86 = .ok (.iadd, 1) := by decide +kernel
theorem dX7_peg_87 : decode cX7_peg 87 = .ok (.if_icmp .ne 7, 3) := by decide +kernel
theorem dX7_peg_90 : decode cX7_peg 90 = .ok (.iconst 2, 1) := by decide +kernel
theorem dX7_peg_91 : decode cX7_peg 91 = .ok (.goto 4, 3) := by decide +kernel
theorem dX7_peg_94 : decode cX7_peg 94 = .ok (.iconst 1, 1) := by decide +kernel
theorem dX7_peg_95 : decode cX7_peg 95 = .ok (.istore 8, 2) := by decide +kernel
theorem dX7_peg_97 : decode cX7_peg 97 = .ok (.iload 5, 2) := by decide +kernel
theorem dX7_peg_99 : decode cX7_peg 99 = .ok (.iload 8, 2) := by decide +kernel
theorem dX7_peg_101 : decode cX7_peg 101 = .ok (.iadd, 1) := by decide +kernel
theorem dX7_peg_102 : decode cX7_peg 102 = .ok (.istore 5, 2) := by decide +kernel
theorem dX7_peg_104 : decode cX7_peg 104 = .ok (.iload 6, 2) := by decide +kernel
theorem dX7_peg_106 : decode cX7_peg 106 = .ok (.aload_n 0, 1) := by decide +kernel
theorem dX7_peg_107 : decode cX7_peg 107 = .ok (.iload 7, 2) := by decide +kernel
theorem dX7_peg_109 : decode cX7_peg 109 = .ok (.invokevirtual 135, 3) := by decide +kernel
theorem dX7_peg_112 : decode cX7_peg 112 = .ok (.iload_n 2, 1) := by decide +kernel
theorem dX7_peg_113 : decode cX7_peg 113 = .ok (.if_icmp .ne 8, 3) := by decide +kernel
theorem dX7_peg_116 : decode cX7_peg 116 = .ok (.iload 8, 2) := by decide +kernel
theorem dX7_peg_118 : decode cX7_peg 118 = .ok (.goto 4, 3) := by decide +kernel
theorem dX7_peg_121 : decode cX7_peg 121 = .ok (.iconst 0, 1) := by decide +kernel
theorem dX7_peg_122 : decode cX7_peg 122 = .ok (.iadd, 1) := by decide +kernel
theorem dX7_peg_123 : decode cX7_peg 123 = .ok (.istore 6, 2) := by decide +kernel
theorem dX7_peg_125 : decode cX7_peg 125 = .ok (.iinc 7 4, 3) := by decide +kernel
theorem dX7_peg_128 : decode cX7_peg 128 = .ok (.goto (-58), 3) := by decide +kernel
theorem dX7_peg_131 : decode cX7_peg 131 = .ok (.iload 6, 2) := by decide +kernel
theorem dX7_peg_133 : decode cX7_peg 133 = .ok (.ifCond .ne 6, 3) := by decide +kernel
theorem dX7_peg_136 : decode cX7_peg 136 = .ok (.iload_n 3, 1) := by decide +kernel
theorem dX7_peg_137 : decode cX7_peg 137 = .ok (.i2l, 1) := by decide +kernel
theorem dX7_peg_138 : decode cX7_peg 138 = .ok (.lreturn, 1) := by decide +kernel
theorem dX7_peg_139 : decode cX7_peg 139 = .ok (.iload 5, 2) := by decide +kernel
theorem dX7_peg_141 : decode cX7_peg 141 = .ok (.iload 6, 2) := by decide +kernel
theorem dX7_peg_143 : decode cX7_peg 143 = .ok (.invokestatic 331, 3) := by decide +kernel
theorem dX7_peg_146 : decode cX7_peg 146 = .ok (.istore 7, 2) := by decide +kernel
theorem dX7_peg_148 : decode cX7_peg 148 = .ok (.iload_n 3, 1) := by decide +kernel
theorem dX7_peg_149 : decode cX7_peg 149 = .ok (.ifCond .ne 12, 3) := by decide +kernel
theorem dX7_peg_152 : decode cX7_peg 152 = .ok (.iload 6, 2) := by decide +kernel
theorem dX7_peg_154 : decode cX7_peg 154 = .ok (.iload 7, 2) := by decide +kernel
theorem dX7_peg_156 : decode cX7_peg 156 = .ok (.idiv, 1) := by decide +kernel
theorem dX7_peg_157 : decode cX7_peg 157 = .ok (.i2l, 1) := by decide +kernel
theorem dX7_peg_158 : decode cX7_peg 158 = .ok (.goto 9, 3) := by decide +kernel
theorem dX7_peg_161 : decode cX7_peg 161 = .ok (.iload 5, 2) := by decide +kernel
theorem dX7_peg_163 : decode cX7_peg 163 = .ok (.iload 7, 2) := by decide +kernel
theorem dX7_peg_165 : decode cX7_peg 165 = .ok (.idiv, 1) := by decide +kernel
theorem dX7_peg_166 : decode cX7_peg 166 = .ok (.i2l, 1) := by decide +kernel
theorem dX7_peg_167 : decode cX7_peg 167 = .ok (.lreturn, 1) := by decide +kernel
set_option maxRecDepth 100000 in
set_option maxHeartbeats 4000000 in
theorem g_X7_peg_25 (ids : List (Nat × Nat)) (Hn : Ndp ids)  (H0_29 : InR ids 0 29 56)   (t0 : Sg) : Gj kL mX7_peg ids 25 [some (aR (0, 29)), none, none, none, none, none, none, none, none] [] t0 (f_X7_peg_25 t0) := by
  unfold f_X7_peg_25
  refine G_st (x_ldc2 dX7_peg_25 tw_1331) ?_
  refine G_st (x_aload_n dX7_peg_28 rfl) ?_
  refine G_st (x_iconst (-1 : Int32) dX7_peg_29 rfl) ?_
  refine G_bd (fun x6 t7 h8 => ?_)
  refine G_st (x_callV [aL (4000000000000000000 : Int64)] (c_X7_refuse ids Hn (-1 : Int32) H0_29 _ _ _ h8) dX7_peg_30 tw_981 kc_X7_refuse (H0_29 29 (Nat.le_of_ble_eq_true rfl) (Nat.le_of_ble_eq_true rfl)) rfl rfl rfl rfl ⟨Nat.le_of_ble_eq_true rfl, Nat.le_of_ble_eq_true rfl⟩ (Nat.le_of_ble_eq_true rfl) rfl) ?_
  refine G_st (x_i2l dX7_peg_33) ?_
  refine G_st (x_lsub dX7_peg_34) ?_
  exact G_ret rfl ⟨dX7_peg_35, rfl⟩ rfl
set_option maxRecDepth 100000 in
set_option maxHeartbeats 4000000 in
theorem g_X7_peg_70 (ids : List (Nat × Nat)) (Hn : Ndp ids)  (H0_29 : InR ids 0 29 56)  : ∀ (n : Nat) (v2 : Int32) (v3 : Int32) (v4 : Int32) (v5 : Int32) (v6 : Int32) (v7 : Int32) (t0 : Sg), Gj kL mX7_peg ids 70 [some (aR (0, 29)), none, some (aI v2), some (aI v3), some (aI v4), some (aI v5), some (aI v6), some (aI v7), none] [] t0 (f_X7_peg_70 n v2 v3 v4 v5 v6 v7 t0) := by
  intro n
  induction n with
  | zero => intro v2 v3 v4 v5 v6 v7 t0; exact G_none
  | succ n ih =>
    intro v2 v3 v4 v5 v6 v7 t0
    rw [f_X7_peg_70]
    refine G_st (x_iload dX7_peg_70 rfl) ?_
    refine G_st (x_iconst (4 : Int32) dX7_peg_72 rfl) ?_
    refine G_st (x_aload_n dX7_peg_73 rfl) ?_
    refine G_st (x_get (k := 0) (aI (t0 (0, 29) 0)) dX7_peg_74 (H0_29 29 (Nat.le_of_ble_eq_true rfl) (Nat.le_of_ble_eq_true rfl)) rfl rfl rfl rfl inTX7 (Nat.le_of_ble_eq_true rfl) tw_847 (fun ad => rfl)) ?_
    refine G_st (x_imul dX7_peg_77) ?_
    refine G_ite (fun c21 => ?_) (fun c21 => ?_)
    · refine G_st (x_icmp_ge_t (tgt := 131) dX7_peg_78 (by decide) c21) ?_
      refine G_st (x_iload dX7_peg_131 rfl) ?_
      refine G_ite (fun c22 => ?_) (fun c22 => ?_)
      · refine G_st (x_if_ne_f 139 dX7_peg_133 (by decide) c22) ?_
        refine G_st (x_iload_n dX7_peg_136 rfl) ?_
        refine G_st (x_i2l dX7_peg_137) ?_
        exact G_ret rfl ⟨dX7_peg_138, rfl⟩ rfl
      · refine G_st (x_if_ne_t (tgt := 139) dX7_peg_133 (by decide) c22) ?_
        refine G_st (x_iload dX7_peg_139 rfl) ?_
        refine G_st (x_iload dX7_peg_141 rfl) ?_
        refine G_bd (fun x23 t24 h25 => ?_)
        refine G_st (x_callS [] (c_X7_divisor ids Hn v5 v6  _ _ _ h25) dX7_peg_143 tw_1332 kc_X7_divisor rfl ⟨Nat.le_of_ble_eq_true rfl, Nat.le_of_ble_eq_true rfl⟩ (Nat.le_of_ble_eq_true rfl) rfl) ?_
        refine G_st (x_istore [some (aR (0, 29)), none, some (aI v2), some (aI v3), some (aI v4), some (aI v5), some (aI v6), some (aI x23), none] dX7_peg_146 (Nat.le_of_ble_eq_true rfl) rfl rfl) ?_
        refine G_st (x_iload_n dX7_peg_148 rfl) ?_
        refine G_ite (fun c26 => ?_) (fun c26 => ?_)
        · refine G_st (x_if_ne_f 161 dX7_peg_149 (by decide) c26) ?_
          refine G_st (x_iload dX7_peg_152 rfl) ?_
          refine G_st (x_iload dX7_peg_154 rfl) ?_
          refine G_chk (fun c27 => ?_)
          refine G_st (x_idiv dX7_peg_156 c27) ?_
          refine G_st (x_i2l dX7_peg_157) ?_
          refine G_st (x_goto (tgt := 167) dX7_peg_158 (by decide)) ?_
          exact G_ret rfl ⟨dX7_peg_167, rfl⟩ rfl
        · refine G_st (x_if_ne_t (tgt := 161) dX7_peg_149 (by decide) c26) ?_
          refine G_st (x_iload dX7_peg_161 rfl) ?_
          refine G_st (x_iload dX7_peg_163 rfl) ?_
          refine G_chk (fun c28 => ?_)
          refine G_st (x_idiv dX7_peg_165 c28) ?_
          refine G_st (x_i2l dX7_peg_166) ?_
          exact G_ret rfl ⟨dX7_peg_167, rfl⟩ rfl
    · refine G_st (x_icmp_ge_f 131 dX7_peg_78 (by decide) c21) ?_
      refine G_st (x_iload dX7_peg_81 rfl) ?_
      refine G_st (x_iload dX7_peg_83 rfl) ?_
      refine G_st (x_iconst (4 : Int32) dX7_peg_85 rfl) ?_
      refine G_st (x_iadd dX7_peg_86) ?_
      have e30 : Tj mX7_peg ids 87 [some (aR (0, 29)), none, some (aI v2), some (aI v3), some (aI v4), some (aI v5), some (aI v6), some (aI v7), none] [aI (v4 + (4 : Int32)), aI v7] t0 95 [some (aR (0, 29)), none, some (aI v2), some (aI v3), some (aI v4), some (aI v5), some (aI v6), some (aI v7), none] [aI (if v7 = (v4 + (4 : Int32)) then (2 : Int32) else (1 : Int32))] t0 := by
        refine Tj.dia (fun c29 => ?_) (fun c29 => ?_)
        · refine Tj.tr (x_icmp_ne_f 94 dX7_peg_87 (by decide) c29) ?_
          refine Tj.tr (x_iconst (2 : Int32) dX7_peg_90 rfl) ?_
          refine Tj.tr (x_goto (tgt := 95) dX7_peg_91 (by decide)) ?_
          exact Tj.rf
        · refine Tj.tr (x_icmp_ne_t (tgt := 94) dX7_peg_87 (by decide) c29) ?_
          refine Tj.tr (x_iconst (1 : Int32) dX7_peg_94 rfl) ?_
          exact Tj.rf
      refine G_st e30 ?_
      refine G_bvI (fun x31 => ?_)
      refine G_st (x_istore [some (aR (0, 29)), none, some (aI v2), some (aI v3), some (aI v4), some (aI v5), some (aI v6), some (aI v7), some (aI x31)] dX7_peg_95 (Nat.le_of_ble_eq_true rfl) rfl rfl) ?_
      refine G_st (x_iload dX7_peg_97 rfl) ?_
      refine G_st (x_iload dX7_peg_99 rfl) ?_
      refine G_st (x_iadd dX7_peg_101) ?_
      refine G_bvI (fun x32 => ?_)
      refine G_st (x_istore [some (aR (0, 29)), none, some (aI v2), some (aI v3), some (aI v4), some (aI x32), some (aI v6), some (aI v7), some (aI x31)] dX7_peg_102 (Nat.le_of_ble_eq_true rfl) rfl rfl) ?_
      refine G_st (x_iload dX7_peg_104 rfl) ?_
      refine G_st (x_aload_n dX7_peg_106 rfl) ?_
      refine G_st (x_iload dX7_peg_107 rfl) ?_
      refine G_bd (fun x33 t34 h35 => ?_)
      refine G_st (x_callV [aI v6] (c_X7_livesIn ids Hn v7 H0_29 _ _ _ h35) dX7_peg_109 tw_1078 kc_X7_livesIn (H0_29 29 (Nat.le_of_ble_eq_true rfl) (Nat.le_of_ble_eq_true rfl)) rfl rfl rfl rfl ⟨Nat.le_of_ble_eq_true rfl, Nat.le_of_ble_eq_true rfl⟩ (Nat.le_of_ble_eq_true rfl) rfl) ?_
      refine G_st (x_iload_n dX7_peg_112 rfl) ?_
      have e37 : Tj mX7_peg ids 113 [some (aR (0, 29)), none, some (aI v2), some (aI v3), some (aI v4), some (aI x32), some (aI v6), some (aI v7), some (aI x31)] [aI v2, aI x33, aI v6] t34 122 [some (aR (0, 29)), none, some (aI v2), some (aI v3), some (aI v4), some (aI x32), some (aI v6), some (aI v7), some (aI x31)] [aI (if x33 = v2 then x31 else (0 : Int32)), aI v6] t34 := by
        refine Tj.dia (fun c36 => ?_) (fun c36 => ?_)
        · refine Tj.tr (x_icmp_ne_f 121 dX7_peg_113 (by decide) c36) ?_
          refine Tj.tr (x_iload dX7_peg_116 rfl) ?_
          refine Tj.tr (x_goto (tgt := 122) dX7_peg_118 (by decide)) ?_
          exact Tj.rf
        · refine Tj.tr (x_icmp_ne_t (tgt := 121) dX7_peg_113 (by decide) c36) ?_
          refine Tj.tr (x_iconst (0 : Int32) dX7_peg_121 rfl) ?_
          exact Tj.rf
      refine G_st e37 ?_
      refine G_st (x_iadd dX7_peg_122) ?_
      refine G_bvI (fun x38 => ?_)
      refine G_st (x_istore [some (aR (0, 29)), none, some (aI v2), some (aI v3), some (aI v4), some (aI x32), some (aI x38), some (aI v7), some (aI x31)] dX7_peg_123 (Nat.le_of_ble_eq_true rfl) rfl rfl) ?_
      refine G_st (x_iinc (v7 + (4 : Int32)) [some (aR (0, 29)), none, some (aI v2), some (aI v3), some (aI v4), some (aI x32), some (aI x38), some (aI (v7 + (4 : Int32))), some (aI x31)] dX7_peg_125 (Nat.le_of_ble_eq_true rfl) rfl rfl rfl rfl) ?_
      refine G_st (x_goto (tgt := 70) dX7_peg_128 (by decide)) ?_
      refine G_weak _ ?_ ((ih) v2 v3 v4 x32 x38 (v7 + (4 : Int32)) t34)
      exact (leL_s (leL_n (leL_s (leL_s (leL_s (leL_s (leL_s (leL_s (leL_n (leL_e _))))))))))
set_option maxRecDepth 100000 in
set_option maxHeartbeats 4000000 in
theorem g_X7_peg (ids : List (Nat × Nat)) (Hn : Ndp ids) (v1 : Int32) (v2 : Int32) (v3 : Int32) (H0_29 : InR ids 0 29 56) (t0 : Sg) : Gj kL mX7_peg ids 0 [some (aR (0, 29)), some (aI v1), some (aI v2), some (aI v3), none, none, none, none, none] [] t0 (f_X7_peg v1 v2 v3 t0) := by
  unfold f_X7_peg
  refine G_st (x_aload_n dX7_peg_0 rfl) ?_
  refine G_st (x_iconst (0 : Int32) dX7_peg_1 rfl) ?_
  refine G_st (x_put (k := 18) (ty := .int) (v := aI (0 : Int32)) (z := (0 : Int32)) (upS t0 (0, 29) 18 (0 : Int32)) dX7_peg_2 (H0_29 29 (Nat.le_of_ble_eq_true rfl) (Nat.le_of_ble_eq_true rfl)) rfl rfl rfl rfl inTX7 tyX7_ok nmX7 (Nat.le_of_ble_eq_true rfl) tw_865 rfl rfl (fun ad => rfl) (fun ad => rfl) (fun ad => put_i0 ad _ _ _ _ rfl) rfl) ?_
  refine G_bvS (fun t1 => ?_)
  refine G_st (x_aload_n dX7_peg_5 rfl) ?_
  refine G_st (x_iload_n dX7_peg_6 rfl) ?_
  refine G_bd (fun x2 t3 h4 => ?_)
  refine G_st (x_callV [] (c_X7_flatAt ids Hn v1 H0_29 _ _ _ h4) dX7_peg_7 tw_1054 kc_X7_flatAt (H0_29 29 (Nat.le_of_ble_eq_true rfl) (Nat.le_of_ble_eq_true rfl)) rfl rfl rfl rfl ⟨Nat.le_of_ble_eq_true rfl, Nat.le_of_ble_eq_true rfl⟩ (Nat.le_of_ble_eq_true rfl) rfl) ?_
  refine G_st (x_istore [some (aR (0, 29)), some (aI v1), some (aI v2), some (aI v3), some (aI x2), none, none, none, none] dX7_peg_10 (Nat.le_of_ble_eq_true rfl) rfl rfl) ?_
  refine G_st (x_iload dX7_peg_12 rfl) ?_
  refine G_ite (fun c5 => ?_) (fun c5 => ?_)
  · refine G_st (x_if_lt_t (tgt := 25) dX7_peg_14 (by decide) c5) ?_
    refine G_weak _ ?_ (g_X7_peg_25 ids Hn H0_29 t3)
    exact (leL_s (leL_n (leL_n (leL_n (leL_n (leL_n (leL_n (leL_n (leL_n (leL_e _))))))))))
  · refine G_st (x_if_lt_f 25 dX7_peg_14 (by decide) c5) ?_
    refine G_st (x_aload_n dX7_peg_17 rfl) ?_
    refine G_st (x_iload_n dX7_peg_18 rfl) ?_
    refine G_bd (fun x9 t10 h11 => ?_)
    refine G_st (x_callV [] (c_X7_isTenant ids Hn v2 H0_29 _ _ _ h11) dX7_peg_19 tw_1086 kc_X7_isTenant (H0_29 29 (Nat.le_of_ble_eq_true rfl) (Nat.le_of_ble_eq_true rfl)) rfl rfl rfl rfl ⟨Nat.le_of_ble_eq_true rfl, Nat.le_of_ble_eq_true rfl⟩ (Nat.le_of_ble_eq_true rfl) rfl) ?_
    refine G_ite (fun c12 => ?_) (fun c12 => ?_)
    · refine G_st (x_if_ne_f 36 dX7_peg_22 (by decide) c12) ?_
      refine G_weak _ ?_ (g_X7_peg_25 ids Hn H0_29 t10)
      exact (leL_s (leL_n (leL_n (leL_n (leL_n (leL_n (leL_n (leL_n (leL_n (leL_e _))))))))))
    · refine G_st (x_if_ne_t (tgt := 36) dX7_peg_22 (by decide) c12) ?_
      refine G_st (x_iload_n dX7_peg_36 rfl) ?_
      refine G_st (x_i2l dX7_peg_37) ?_
      refine G_st (x_lconst (0 : Int64) dX7_peg_38 rfl) ?_
      refine G_st (x_lconst (1 : Int64) dX7_peg_39 rfl) ?_
      refine G_bd (fun x13 t14 h15 => ?_)
      refine G_st (x_callS [] (c_X7_in ids Hn (v3).toInt64 (0 : Int64) (1 : Int64)  _ _ _ h15) dX7_peg_40 tw_1003 kc_X7_in rfl ⟨Nat.le_of_ble_eq_true rfl, Nat.le_of_ble_eq_true rfl⟩ (Nat.le_of_ble_eq_true rfl) rfl) ?_
      refine G_ite (fun c16 => ?_) (fun c16 => ?_)
      · refine G_st (x_if_ne_f 58 dX7_peg_43 (by decide) c16) ?_
        refine G_st (x_ldc2 dX7_peg_46 tw_1331) ?_
        refine G_st (x_aload_n dX7_peg_49 rfl) ?_
        refine G_st (x_bipush (-2 : Int32) dX7_peg_50 rfl) ?_
        refine G_bd (fun x17 t18 h19 => ?_)
        refine G_st (x_callV [aL (4000000000000000000 : Int64)] (c_X7_refuse ids Hn (-2 : Int32) H0_29 _ _ _ h19) dX7_peg_52 tw_981 kc_X7_refuse (H0_29 29 (Nat.le_of_ble_eq_true rfl) (Nat.le_of_ble_eq_true rfl)) rfl rfl rfl rfl ⟨Nat.le_of_ble_eq_true rfl, Nat.le_of_ble_eq_true rfl⟩ (Nat.le_of_ble_eq_true rfl) rfl) ?_
        refine G_st (x_i2l dX7_peg_55) ?_
        refine G_st (x_lsub dX7_peg_56) ?_
        exact G_ret rfl ⟨dX7_peg_57, rfl⟩ rfl
      · refine G_st (x_if_ne_t (tgt := 58) dX7_peg_43 (by decide) c16) ?_
        refine G_st (x_iconst (0 : Int32) dX7_peg_58 rfl) ?_
        refine G_st (x_istore [some (aR (0, 29)), some (aI v1), some (aI v2), some (aI v3), some (aI x2), some (aI (0 : Int32)), none, none, none] dX7_peg_59 (Nat.le_of_ble_eq_true rfl) rfl rfl) ?_
        refine G_st (x_iconst (0 : Int32) dX7_peg_61 rfl) ?_
        refine G_st (x_istore [some (aR (0, 29)), some (aI v1), some (aI v2), some (aI v3), some (aI x2), some (aI (0 : Int32)), some (aI (0 : Int32)), none, none] dX7_peg_62 (Nat.le_of_ble_eq_true rfl) rfl rfl) ?_
        refine G_st (x_iload dX7_peg_64 rfl) ?_
        refine G_st (x_iconst (4 : Int32) dX7_peg_66 rfl) ?_
        refine G_st (x_iadd dX7_peg_67) ?_
        refine G_bvI (fun x20 => ?_)
        refine G_st (x_istore [some (aR (0, 29)), some (aI v1), some (aI v2), some (aI v3), some (aI x2), some (aI (0 : Int32)), some (aI (0 : Int32)), some (aI x20), none] dX7_peg_68 (Nat.le_of_ble_eq_true rfl) rfl rfl) ?_
        refine G_weak _ ?_ (g_X7_peg_70 ids Hn H0_29 fuel v2 v3 x2 (0 : Int32) (0 : Int32) x20 t14)
        exact (leL_s (leL_n (leL_s (leL_s (leL_s (leL_s (leL_s (leL_s (leL_n (leL_e _))))))))))
set_option maxRecDepth 100000 in
set_option maxHeartbeats 4000000 in
theorem c_X7_peg (ids : List (Nat × Nat)) (Hn : Ndp ids) (v1 : Int32) (v2 : Int32) (v3 : Int32) (H0_29 : InR ids 0 29 56) (t0 : Sg) (r : Int64) (t1 : Sg) (hf : f_X7_peg v1 v2 v3 t0 = some (r, t1)) : Mt0 mX7_peg yX7_peg ids [aR (0, 29), aI v1, aI v2, aI v3] t0 (some (aL r)) t1 :=
  Mt_of (x := (r, t1)) (g_X7_peg ids Hn v1 v2 v3 H0_29 t0) hf (fun _ _ => trivial) (by decide) rfl Hn (fun _ => rfl) (fun _ => Nat.le_of_ble_eq_true rfl)
theorem dX7_row_0 : decode cX7_row 0 = .ok (.aload_n 0, 1) := by decide +kernel
theorem dX7_row_1 : decode cX7_row 1 = .ok (.iconst 0, 1) := by decide +kernel
theorem dX7_row_2 : decode cX7_row 2 = .ok (.putfield 98, 3) := by decide +kernel
theorem dX7_row_5 : decode cX7_row 5 = .ok (.iload_n 1, 1) := by decide +kernel
theorem dX7_row_6 : decode cX7_row 6 = .ok (.ifCond .ge 10, 3) := by decide +kernel
theorem dX7_row_9 : decode cX7_row 9 = .ok (.aload_n 0, 1) := by decide +kernel
theorem dX7_row_10 : decode cX7_row 10 = .ok (.bipush (-4), 2) := by decide +kernel
theorem dX7_row_12 : decode cX7_row 12 = .ok (.invokevirtual 167, 3) := by decide +kernel
theorem dX7_row_15 : decode cX7_row 15 = .ok (.ireturn, 1) := by decide +kernel
theorem dX7_row_16 : decode cX7_row 16 = .ok (.iload_n 1, 1) := by decide +kernel
theorem dX7_row_17 : decode cX7_row 17 = .ok (.sipush 999, 3) := by decide +kernel
theorem dX7_row_20 : decode cX7_row 20 = .ok (.if_icmp .gt 12, 3) := by decide +kernel
theorem dX7_row_23 : decode cX7_row 23 = .ok (.aload_n 0, 1) := by decide +kernel
theorem dX7_row_24 : decode cX7_row 24 = .ok (.getfield 334, 3) := by decide +kernel
theorem dX7_row_27 : decode cX7_row 27 = .ok (.bipush 10, 2) := by decide +kernel
theorem dX7_row_29 : decode cX7_row 29 = .ok (.if_icmp .ne 10, 3) := by decide +kernel
theorem dX7_row_32 : decode cX7_row 32 = .ok (.aload_n 0, 1) := by decide +kernel
theorem dX7_row_33 : decode cX7_row 33 = .ok (.bipush (-6), 2) := by decide +kernel
theorem dX7_row_35 : decode cX7_row 35 = .ok (.invokevirtual 167, 3) := by decide +kernel
theorem dX7_row_38 : decode cX7_row 38 = .ok (.ireturn, 1) := by decide +kernel
theorem dX7_row_39 : decode cX7_row 39 = .ok (.aload_n 0, 1) := by decide +kernel
theorem dX7_row_40 : decode cX7_row 40 = .ok (.getfield 95, 3) := by decide +kernel
theorem dX7_row_43 : decode cX7_row 43 = .ok (.aload_n 0, 1) := by decide +kernel
theorem dX7_row_44 : decode cX7_row 44 = .ok (.getfield 334, 3) := by decide +kernel
theorem dX7_row_47 : decode cX7_row 47 = .ok (.iload_n 1, 1) := by decide +kernel
theorem dX7_row_48 : decode cX7_row 48 = .ok (.iastore, 1) := by decide +kernel
theorem dX7_row_49 : decode cX7_row 49 = .ok (.aload_n 0, 1) := by decide +kernel
theorem dX7_row_50 : decode cX7_row 50 = .ok (.dup, 1) := by decide +kernel
theorem dX7_row_51 : decode cX7_row 51 = .ok (.getfield 334, 3) := by decide +kernel
theorem dX7_row_54 : decode cX7_row 54 = .ok (.iconst 1, 1) := by decide +kernel
theorem dX7_row_55 : decode cX7_row 55 = .ok (.iadd, 1) := by decide +kernel
theorem dX7_row_56 : decode cX7_row 56 = .ok (.putfield 334, 3) := by decide +kernel
theorem dX7_row_59 : decode cX7_row 59 = .ok (.aload_n 0, 1) := by decide +kernel
theorem dX7_row_60 : decode cX7_row 60 = .ok (.getfield 334, 3) := by decide +kernel
theorem dX7_row_63 : decode cX7_row 63 = .ok (.ireturn, 1) := by decide +kernel
set_option maxRecDepth 100000 in
set_option maxHeartbeats 4000000 in
theorem g_X7_row_32 (ids : List (Nat × Nat)) (Hn : Ndp ids)  (H0_29 : InR ids 0 29 56)   (t0 : Sg) : Gj kI mX7_row ids 32 [some (aR (0, 29)), none] [] t0 (f_X7_row_32 t0) := by
  unfold f_X7_row_32
  refine G_st (x_aload_n dX7_row_32 rfl) ?_
  refine G_st (x_bipush (-6 : Int32) dX7_row_33 rfl) ?_
  refine G_bd (fun x4 t5 h6 => ?_)
  refine G_st (x_callV [] (c_X7_refuse ids Hn (-6 : Int32) H0_29 _ _ _ h6) dX7_row_35 tw_981 kc_X7_refuse (H0_29 29 (Nat.le_of_ble_eq_true rfl) (Nat.le_of_ble_eq_true rfl)) rfl rfl rfl rfl ⟨Nat.le_of_ble_eq_true rfl, Nat.le_of_ble_eq_true rfl⟩ (Nat.le_of_ble_eq_true rfl) rfl) ?_
  exact G_ret rfl ⟨dX7_row_38, _, rfl, rfl⟩ rfl
set_option maxRecDepth 100000 in
set_option maxHeartbeats 4000000 in
theorem g_X7_row (ids : List (Nat × Nat)) (Hn : Ndp ids) (v1 : Int32) (H0_29 : InR ids 0 29 56) (t0 : Sg) : Gj kI mX7_row ids 0 [some (aR (0, 29)), some (aI v1)] [] t0 (f_X7_row v1 t0) := by
  unfold f_X7_row
  refine G_st (x_aload_n dX7_row_0 rfl) ?_
  refine G_st (x_iconst (0 : Int32) dX7_row_1 rfl) ?_
  refine G_st (x_put (k := 18) (ty := .int) (v := aI (0 : Int32)) (z := (0 : Int32)) (upS t0 (0, 29) 18 (0 : Int32)) dX7_row_2 (H0_29 29 (Nat.le_of_ble_eq_true rfl) (Nat.le_of_ble_eq_true rfl)) rfl rfl rfl rfl inTX7 tyX7_ok nmX7 (Nat.le_of_ble_eq_true rfl) tw_865 rfl rfl (fun ad => rfl) (fun ad => rfl) (fun ad => put_i0 ad _ _ _ _ rfl) rfl) ?_
  refine G_bvS (fun t1 => ?_)
  refine G_st (x_iload_n dX7_row_5 rfl) ?_
  refine G_ite (fun c2 => ?_) (fun c2 => ?_)
  · refine G_st (x_if_ge_t (tgt := 16) dX7_row_6 (by decide) c2) ?_
    refine G_st (x_iload_n dX7_row_16 rfl) ?_
    refine G_st (x_sipush (999 : Int32) dX7_row_17 rfl) ?_
    refine G_ite (fun c3 => ?_) (fun c3 => ?_)
    · refine G_st (x_icmp_gt_t (tgt := 32) dX7_row_20 (by decide) c3) ?_
      refine G_weak _ ?_ (g_X7_row_32 ids Hn H0_29 t1)
      exact (leL_s (leL_n (leL_e _)))
    · refine G_st (x_icmp_gt_f 32 dX7_row_20 (by decide) c3) ?_
      refine G_st (x_aload_n dX7_row_23 rfl) ?_
      refine G_st (x_get (k := 42) (aI (t1 (0, 29) 42)) dX7_row_24 (H0_29 29 (Nat.le_of_ble_eq_true rfl) (Nat.le_of_ble_eq_true rfl)) rfl rfl rfl rfl inTX7 (Nat.le_of_ble_eq_true rfl) tw_889 (fun ad => rfl)) ?_
      refine G_st (x_bipush (10 : Int32) dX7_row_27 rfl) ?_
      refine G_ite (fun c7 => ?_) (fun c7 => ?_)
      · refine G_st (x_icmp_ne_f 39 dX7_row_29 (by decide) c7) ?_
        refine G_weak _ ?_ (g_X7_row_32 ids Hn H0_29 t1)
        exact (leL_s (leL_n (leL_e _)))
      · refine G_st (x_icmp_ne_t (tgt := 39) dX7_row_29 (by decide) c7) ?_
        refine G_st (x_aload_n dX7_row_39 rfl) ?_
        refine G_st (x_get (k := 41) (aR (0, 56)) dX7_row_40 (H0_29 29 (Nat.le_of_ble_eq_true rfl) (Nat.le_of_ble_eq_true rfl)) rfl rfl rfl rfl inTX7 (Nat.le_of_ble_eq_true rfl) tw_888 (fun ad => rfl)) ?_
        refine G_st (x_aload_n dX7_row_43 rfl) ?_
        refine G_st (x_get (k := 42) (aI (t1 (0, 29) 42)) dX7_row_44 (H0_29 29 (Nat.le_of_ble_eq_true rfl) (Nat.le_of_ble_eq_true rfl)) rfl rfl rfl rfl inTX7 (Nat.le_of_ble_eq_true rfl) tw_889 (fun ad => rfl)) ?_
        refine G_st (x_iload_n dX7_row_47 rfl) ?_
        refine G_chk (fun c8 => ?_)
        refine G_st (x_iastore dX7_row_48 (H0_29 56 (Nat.le_of_ble_eq_true rfl) (Nat.le_of_ble_eq_true rfl)) rfl c8) ?_
        refine G_bvS (fun t9 => ?_)
        refine G_st (x_aload_n dX7_row_49 rfl) ?_
        refine G_st (x_dup dX7_row_50 rfl) ?_
        refine G_st (x_get (k := 42) (aI (t9 (0, 29) 42)) dX7_row_51 (H0_29 29 (Nat.le_of_ble_eq_true rfl) (Nat.le_of_ble_eq_true rfl)) rfl rfl rfl rfl inTX7 (Nat.le_of_ble_eq_true rfl) tw_889 (fun ad => rfl)) ?_
        refine G_st (x_iconst (1 : Int32) dX7_row_54 rfl) ?_
        refine G_st (x_iadd dX7_row_55) ?_
        refine G_st (x_put (k := 42) (ty := .int) (v := aI ((t9 (0, 29) 42) + (1 : Int32))) (z := ((t9 (0, 29) 42) + (1 : Int32))) (upS t9 (0, 29) 42 ((t9 (0, 29) 42) + (1 : Int32))) dX7_row_56 (H0_29 29 (Nat.le_of_ble_eq_true rfl) (Nat.le_of_ble_eq_true rfl)) rfl rfl rfl rfl inTX7 tyX7_ok nmX7 (Nat.le_of_ble_eq_true rfl) tw_889 rfl rfl (fun ad => rfl) (fun ad => rfl) (fun ad => put_i0 ad _ _ _ _ rfl) rfl) ?_
        refine G_bvS (fun t10 => ?_)
        refine G_st (x_aload_n dX7_row_59 rfl) ?_
        refine G_st (x_get (k := 42) (aI (t10 (0, 29) 42)) dX7_row_60 (H0_29 29 (Nat.le_of_ble_eq_true rfl) (Nat.le_of_ble_eq_true rfl)) rfl rfl rfl rfl inTX7 (Nat.le_of_ble_eq_true rfl) tw_889 (fun ad => rfl)) ?_
        exact G_ret rfl ⟨dX7_row_63, _, rfl, rfl⟩ rfl
  · refine G_st (x_if_ge_f 16 dX7_row_6 (by decide) c2) ?_
    refine G_st (x_aload_n dX7_row_9 rfl) ?_
    refine G_st (x_bipush (-4 : Int32) dX7_row_10 rfl) ?_
    refine G_bd (fun x11 t12 h13 => ?_)
    refine G_st (x_callV [] (c_X7_refuse ids Hn (-4 : Int32) H0_29 _ _ _ h13) dX7_row_12 tw_981 kc_X7_refuse (H0_29 29 (Nat.le_of_ble_eq_true rfl) (Nat.le_of_ble_eq_true rfl)) rfl rfl rfl rfl ⟨Nat.le_of_ble_eq_true rfl, Nat.le_of_ble_eq_true rfl⟩ (Nat.le_of_ble_eq_true rfl) rfl) ?_
    exact G_ret rfl ⟨dX7_row_15, _, rfl, rfl⟩ rfl
set_option maxRecDepth 100000 in
set_option maxHeartbeats 4000000 in
theorem c_X7_row (ids : List (Nat × Nat)) (Hn : Ndp ids) (v1 : Int32) (H0_29 : InR ids 0 29 56) (t0 : Sg) (r : Int32) (t1 : Sg) (hf : f_X7_row v1 t0 = some (r, t1)) : Mt0 mX7_row yX7_row ids [aR (0, 29), aI v1] t0 (some (aI r)) t1 :=
  Mt_of (x := (r, t1)) (g_X7_row ids Hn v1 H0_29 t0) hf (fun _ _ => trivial) (by decide) rfl Hn (fun _ => rfl) (fun _ => Nat.le_of_ble_eq_true rfl)
theorem dX7_judge_0 : decode cX7_judge 0 = .ok (.aload_n 0, 1) := by decide +kernel
theorem dX7_judge_1 : decode cX7_judge 1 = .ok (.iconst 0, 1) := by decide +kernel
theorem dX7_judge_2 : decode cX7_judge 2 = .ok (.putfield 98, 3) := by decide +kernel
theorem dX7_judge_5 : decode cX7_judge 5 = .ok (.aload_n 0, 1) := by decide +kernel
theorem dX7_judge_6 : decode cX7_judge 6 = .ok (.getfield 334, 3) := by decide +kernel
theorem dX7_judge_9 : decode cX7_judge 9 = .ok (.istore_n 1, 1) := by decide +kernel
theorem dX7_judge_10 : decode cX7_judge 10 = .ok (.aload_n 0, 1) := by decide +kernel
theorem dX7_judge_11 : decode cX7_judge 11 = .ok (.iconst 0, 1) := by decide +kernel
theorem dX7_judge_12 : decode cX7_judge 12 = .ok (.putfield 334, 3) := by decide +kernel
theorem dX7_judge_15 : decode cX7_judge 15 = .ok (.aload_n 0, 1) := by decide +kernel
theorem dX7_judge_16 : decode cX7_judge 16 = .ok (.invokevirtual 154, 3) := by decide +kernel
theorem dX7_judge_19 : decode cX7_judge 19 = .ok (.iconst 0, 1) := by decide +kernel
theorem dX7_judge_20 : decode cX7_judge 20 = .ok (.istore_n 2, 1) := by decide +kernel
theorem dX7_judge_21 : decode cX7_judge 21 = .ok (.iload_n 2, 1) := by decide +kernel
theorem dX7_judge_22 : decode cX7_judge 22 = .ok (.iload_n 1, 1) := by decide +kernel
theorem dX7_judge_23 : decode cX7_judge 23 = .ok (.if_icmp .ge 24, 3) := by decide +kernel
theorem dX7_judge_26 : decode cX7_judge 26 = .ok (.aload_n 0, 1) := by decide +kernel
theorem dX7_judge_27 : decode cX7_judge 27 = .ok (.invokevirtual 157, 3) := by decide +kernel
theorem dX7_judge_30 : decode cX7_judge 30 = .ok (.aload_n 0, 1) := by decide +kernel
theorem dX7_judge_31 : decode cX7_judge 31 = .ok (.getfield 95, 3) := by decide +kernel
theorem dX7_judge_34 : decode cX7_judge 34 = .ok (.iload_n 2, 1) := by decide +kernel
theorem dX7_judge_35 : decode cX7_judge 35 = .ok (.iaload, 1) := by decide +kernel
theorem dX7_judge_36 : decode cX7_judge 36 = .ok (.if_icmp .eq 5, 3) := by decide +kernel
theorem dX7_judge_39 : decode cX7_judge 39 = .ok (.iload_n 2, 1) := by decide +kernel
theorem dX7_judge_40 : decode cX7_judge 40 = .ok (.ireturn, 1) := by decide +kernel
theorem dX7_judge_41 : decode cX7_judge 41 = .ok (.iinc 2 1, 3) := by decide +kernel
theorem dX7_judge_44 : decode cX7_judge 44 = .ok (.goto (-23), 3) := by decide +kernel
theorem dX7_judge_47 : decode cX7_judge 47 = .ok (.bipush (-9), 2) := by decide +kernel
theorem dX7_judge_49 : decode cX7_judge 49 = .ok (.ireturn, 1) := by decide +kernel
set_option maxRecDepth 100000 in
set_option maxHeartbeats 4000000 in
theorem g_X7_judge_21 (ids : List (Nat × Nat)) (Hn : Ndp ids)  (H0_29 : InR ids 0 29 56)  : ∀ (n : Nat) (v1 : Int32) (v2 : Int32) (t0 : Sg), Gj kI mX7_judge ids 21 [some (aR (0, 29)), some (aI v1), some (aI v2)] [] t0 (f_X7_judge_21 n v1 v2 t0) := by
  intro n
  induction n with
  | zero => intro v1 v2 t0; exact G_none
  | succ n ih =>
    intro v1 v2 t0
    rw [f_X7_judge_21]
    refine G_st (x_iload_n dX7_judge_21 rfl) ?_
    refine G_st (x_iload_n dX7_judge_22 rfl) ?_
    refine G_ite (fun c7 => ?_) (fun c7 => ?_)
    · refine G_st (x_icmp_ge_t (tgt := 47) dX7_judge_23 (by decide) c7) ?_
      refine G_st (x_bipush (-9 : Int32) dX7_judge_47 rfl) ?_
      exact G_ret rfl ⟨dX7_judge_49, _, rfl, rfl⟩ rfl
    · refine G_st (x_icmp_ge_f 47 dX7_judge_23 (by decide) c7) ?_
      refine G_st (x_aload_n dX7_judge_26 rfl) ?_
      refine G_bd (fun x8 t9 h10 => ?_)
      refine G_st (x_callV [] (c_X7_weekOn ids Hn  H0_29 _ _ _ h10) dX7_judge_27 tw_1169 kc_X7_weekOn (H0_29 29 (Nat.le_of_ble_eq_true rfl) (Nat.le_of_ble_eq_true rfl)) rfl rfl rfl rfl ⟨Nat.le_of_ble_eq_true rfl, Nat.le_of_ble_eq_true rfl⟩ (Nat.le_of_ble_eq_true rfl) rfl) ?_
      refine G_st (x_aload_n dX7_judge_30 rfl) ?_
      refine G_st (x_get (k := 41) (aR (0, 56)) dX7_judge_31 (H0_29 29 (Nat.le_of_ble_eq_true rfl) (Nat.le_of_ble_eq_true rfl)) rfl rfl rfl rfl inTX7 (Nat.le_of_ble_eq_true rfl) tw_888 (fun ad => rfl)) ?_
      refine G_st (x_iload_n dX7_judge_34 rfl) ?_
      refine G_chk (fun c11 => ?_)
      refine G_st (x_iaload dX7_judge_35 (H0_29 56 (Nat.le_of_ble_eq_true rfl) (Nat.le_of_ble_eq_true rfl)) rfl c11) ?_
      refine G_ite (fun c12 => ?_) (fun c12 => ?_)
      · refine G_st (x_icmp_eq_t (tgt := 41) dX7_judge_36 (by decide) c12) ?_
        refine G_st (x_iinc (v2 + (1 : Int32)) [some (aR (0, 29)), some (aI v1), some (aI (v2 + (1 : Int32)))] dX7_judge_41 (Nat.le_of_ble_eq_true rfl) rfl rfl rfl rfl) ?_
        refine G_st (x_goto (tgt := 21) dX7_judge_44 (by decide)) ?_
        refine G_weak _ ?_ ((ih) v1 (v2 + (1 : Int32)) t9)
        exact (leL_s (leL_s (leL_s (leL_e _))))
      · refine G_st (x_icmp_eq_f 41 dX7_judge_36 (by decide) c12) ?_
        refine G_st (x_iload_n dX7_judge_39 rfl) ?_
        exact G_ret rfl ⟨dX7_judge_40, _, rfl, rfl⟩ rfl
set_option maxRecDepth 100000 in
set_option maxHeartbeats 4000000 in
theorem g_X7_judge (ids : List (Nat × Nat)) (Hn : Ndp ids)  (H0_29 : InR ids 0 29 56) (t0 : Sg) : Gj kI mX7_judge ids 0 [some (aR (0, 29)), none, none] [] t0 (f_X7_judge t0) := by
  unfold f_X7_judge
  refine G_st (x_aload_n dX7_judge_0 rfl) ?_
  refine G_st (x_iconst (0 : Int32) dX7_judge_1 rfl) ?_
  refine G_st (x_put (k := 18) (ty := .int) (v := aI (0 : Int32)) (z := (0 : Int32)) (upS t0 (0, 29) 18 (0 : Int32)) dX7_judge_2 (H0_29 29 (Nat.le_of_ble_eq_true rfl) (Nat.le_of_ble_eq_true rfl)) rfl rfl rfl rfl inTX7 tyX7_ok nmX7 (Nat.le_of_ble_eq_true rfl) tw_865 rfl rfl (fun ad => rfl) (fun ad => rfl) (fun ad => put_i0 ad _ _ _ _ rfl) rfl) ?_
  refine G_bvS (fun t1 => ?_)
  refine G_st (x_aload_n dX7_judge_5 rfl) ?_
  refine G_st (x_get (k := 42) (aI (t1 (0, 29) 42)) dX7_judge_6 (H0_29 29 (Nat.le_of_ble_eq_true rfl) (Nat.le_of_ble_eq_true rfl)) rfl rfl rfl rfl inTX7 (Nat.le_of_ble_eq_true rfl) tw_889 (fun ad => rfl)) ?_
  refine G_bvI (fun x2 => ?_)
  refine G_st (x_istore_n [some (aR (0, 29)), some (aI x2), none] dX7_judge_9 (Nat.le_of_ble_eq_true rfl) rfl rfl) ?_
  refine G_st (x_aload_n dX7_judge_10 rfl) ?_
  refine G_st (x_iconst (0 : Int32) dX7_judge_11 rfl) ?_
  refine G_st (x_put (k := 42) (ty := .int) (v := aI (0 : Int32)) (z := (0 : Int32)) (upS t1 (0, 29) 42 (0 : Int32)) dX7_judge_12 (H0_29 29 (Nat.le_of_ble_eq_true rfl) (Nat.le_of_ble_eq_true rfl)) rfl rfl rfl rfl inTX7 tyX7_ok nmX7 (Nat.le_of_ble_eq_true rfl) tw_889 rfl rfl (fun ad => rfl) (fun ad => rfl) (fun ad => put_i0 ad _ _ _ _ rfl) rfl) ?_
  refine G_bvS (fun t3 => ?_)
  refine G_st (x_aload_n dX7_judge_15 rfl) ?_
  refine G_bd (fun _ t5 h6 => ?_)
  refine G_st (x_callV [] (c_X7_beginMind ids Hn  H0_29 _ _ _ h6) dX7_judge_16 tw_1161 kc_X7_beginMind (H0_29 29 (Nat.le_of_ble_eq_true rfl) (Nat.le_of_ble_eq_true rfl)) rfl rfl rfl rfl ⟨Nat.le_of_ble_eq_true rfl, Nat.le_of_ble_eq_true rfl⟩ (Nat.le_of_ble_eq_true rfl) rfl) ?_
  refine G_st (x_iconst (0 : Int32) dX7_judge_19 rfl) ?_
  refine G_st (x_istore_n [some (aR (0, 29)), some (aI x2), some (aI (0 : Int32))] dX7_judge_20 (Nat.le_of_ble_eq_true rfl) rfl rfl) ?_
  refine G_weak _ ?_ (g_X7_judge_21 ids Hn H0_29 fuel x2 (0 : Int32) t5)
  exact (leL_s (leL_s (leL_s (leL_e _))))
set_option maxRecDepth 100000 in
set_option maxHeartbeats 4000000 in
theorem c_X7_judge (ids : List (Nat × Nat)) (Hn : Ndp ids)  (H0_29 : InR ids 0 29 56) (t0 : Sg) (r : Int32) (t1 : Sg) (hf : f_X7_judge t0 = some (r, t1)) : Mt0 mX7_judge yX7_judge ids [aR (0, 29)] t0 (some (aI r)) t1 :=
  Mt_of (x := (r, t1)) (g_X7_judge ids Hn  H0_29 t0) hf (fun _ _ => trivial) (by decide) rfl Hn (fun _ => rfl) (fun _ => Nat.le_of_ble_eq_true rfl)
theorem dX7_seeds_0 : decode cX7_seeds 0 = .ok (.aload_n 0, 1) := by decide +kernel
theorem dX7_seeds_1 : decode cX7_seeds 1 = .ok (.iconst 0, 1) := by decide +kernel
theorem dX7_seeds_2 : decode cX7_seeds 2 = .ok (.putfield 98, 3) := by decide +kernel
theorem dX7_seeds_5 : decode cX7_seeds 5 = .ok (.iload_n 1, 1) := by decide +kernel
theorem dX7_seeds_6 : decode cX7_seeds 6 = .ok (.iconst 1, 1) := by decide +kernel
theorem dX7_seeds_7 : decode cX7_seeds 7 = .ok (.bipush 20, 2) := by decide +kernel
theorem dX7_seeds_9 : decode cX7_seeds 9 = .ok (.invokestatic 276, 3) := by decide +kernel
theorem dX7_seeds_12 : decode cX7_seeds 12 = .ok (.ifCond .ge 15, 3) := by decide +kernel
theorem dX7_seeds_15 : decode cX7_seeds 15 = .ok (.aload_n 0, 1) := by decide +kernel
theorem dX7_seeds_16 : decode cX7_seeds 16 = .ok (.iload_n 1, 1) := by decide +kernel
theorem dX7_seeds_17 : decode cX7_seeds 17 = .ok (.iconst 1, 1) := by decide +kernel
theorem dX7_seeds_18 : decode cX7_seeds 18 = .ok (.bipush 20, 2) := by decide +kernel
theorem dX7_seeds_20 : decode cX7_seeds 20 = .ok (.invokestatic 276, 3) := by decide +kernel
theorem dX7_seeds_23 : decode cX7_seeds 23 = .ok (.invokevirtual 167, 3) := by decide +kernel
theorem dX7_seeds_26 : decode cX7_seeds 26 = .ok (.ireturn, 1) := by decide +kernel
theorem dX7_seeds_27 : decode cX7_seeds 27 = .ok (.aload_n 0, 1) := by decide +kernel
theorem dX7_seeds_28 : decode cX7_seeds 28 = .ok (.invokevirtual 291, 3) := by decide +kernel
theorem dX7_seeds_31 : decode cX7_seeds 31 = .ok (.aload_n 0, 1) := by decide +kernel
theorem dX7_seeds_32 : decode cX7_seeds 32 = .ok (.invokevirtual 154, 3) := by decide +kernel
theorem dX7_seeds_35 : decode cX7_seeds 35 = .ok (.iload_n 2, 1) := by decide +kernel
theorem dX7_seeds_36 : decode cX7_seeds 36 = .ok (.istore_n 3, 1) := by decide +kernel
theorem dX7_seeds_37 : decode cX7_seeds 37 = .ok (.iconst 0, 1) := by decide +kernel
theorem dX7_seeds_38 : decode cX7_seeds 38 = .ok (.istore 4, 2) := by decide +kernel
theorem dX7_seeds_40 : decode cX7_seeds 40 = .ok (.iconst 0, 1) := by decide +kernel
theorem dX7_seeds_41 : decode cX7_seeds 41 = .ok (.istore 5, 2) := by decide +kernel
theorem dX7_seeds_43 : decode cX7_seeds 43 = .ok (.iload 5, 2) := by decide +kernel
theorem dX7_seeds_45 : decode cX7_seeds 45 = .ok (.iload_n 1, 1) := by decide +kernel
theorem dX7_seeds_46 : decode cX7_seeds 46 = .ok (.if_icmp .ge 65, 3) := by decide +kernel
theorem dX7_seeds_49 : decode cX7_seeds 49 = .ok (.iconst 0, 1) := by decide +kernel
theorem dX7_seeds_50 : decode cX7_seeds 50 = .ok (.istore 6, 2) := by decide +kernel
theorem dX7_seeds_52 : decode cX7_seeds 52 = .ok (.iload 6, 2) := by decide +kernel
theorem dX7_seeds_54 : decode cX7_seeds 54 = .ok (.aload_n 0, 1) := by decide +kernel
theorem dX7_seeds_55 : decode cX7_seeds 55 = .ok (.getfield 104, 3) := by decide +kernel
theorem dX7_seeds_58 : decode cX7_seeds 58 = .ok (.if_icmp .ge 38, 3) := by decide +kernel
theorem dX7_seeds_61 : decode cX7_seeds 61 = .ok (.iload_n 3, 1) := by decide +kernel
theorem dX7_seeds_62 : decode cX7_seeds 62 = .ok (.ldc_w 337, 3) := by decide +kernel
theorem dX7_seeds_65 : decode cX7_seeds 65 = .ok (.imul, 1) := by decide +kernel
theorem dX7_seeds_66 : decode cX7_seeds 66 = .ok (.sipush 12345, 3) := by decide +kernel
theorem dX7_seeds_69 : decode cX7_seeds 69 = .ok (.iadd, 1) := by decide +kernel
theorem dX7_seeds_70 : decode cX7_seeds 70 = .ok (.istore_n 3, 1) := by decide +kernel
theorem dX7_seeds_71 : decode cX7_seeds 71 = .ok (.aload_n 0, 1) := by decide +kernel
theorem dX7_seeds_72 : decode cX7_seeds 72 = .ok (.getfield 53, 3) := by decide +kernel
theorem dX7_seeds_75 : decode cX7_seeds 75 = .ok (.iload 6, 2) := by decide +kernel
theorem dX7_seeds_77 : decode cX7_seeds 77 = .ok (.iload_n 3, 1) := by decide +kernel
theorem dX7_seeds_78 : decode cX7_seeds 78 = .ok (.ldc_w 338, 3) := by decide +kernel
theorem dX7_seeds_81 : decode cX7_seeds 81 = .ok (.iand, 1) := by decide +kernel
theorem dX7_seeds_82 : decode cX7_seeds 82 = .ok (.ldc_w 339, 3) := by decide +kernel
theorem dX7_seeds_85 : decode cX7_seeds 85 = .ok (.idiv, 1) := by decide +kernel
theorem dX7_seeds_86 : decode cX7_seeds 86 = .ok (.bipush 8, 2) := by decide +kernel
theorem dX7_seeds_88 : decode cX7_seeds 88 = .ok (.irem, 1) := by decide +kernel
theorem dX7_seeds_89 : decode cX7_seeds 89 = .ok (.iastore, 1) := by decide +kernel
theorem dX7_seeds_90 : decode cX7_seeds 90 = .ok (.iinc 6 1, 3) := by decide +kernel
theorem dX7_seeds_93 : decode cX7_seeds 93 = .ok (.goto (-41), 3) := by decide +kernel
theorem dX7_seeds_96 : decode cX7_seeds 96 = .ok (.iload 4, 2) := by decide +kernel
theorem dX7_seeds_98 : decode cX7_seeds 98 = .ok (.aload_n 0, 1) := by decide +kernel
theorem dX7_seeds_99 : decode cX7_seeds 99 = .ok (.invokevirtual 157, 3) := by decide +kernel
theorem dX7_seeds_102 : decode cX7_seeds 102 = .ok (.iadd, 1) := by decide +kernel
theorem dX7_seeds_103 : decode cX7_seeds 103 = .ok (.istore 4, 2) := by decide +kernel
theorem dX7_seeds_105 : decode cX7_seeds 105 = .ok (.iinc 5 1, 3) := by decide +kernel
theorem dX7_seeds_108 : decode cX7_seeds 108 = .ok (.goto (-65), 3) := by decide +kernel
theorem dX7_seeds_111 : decode cX7_seeds 111 = .ok (.aload_n 0, 1) := by decide +kernel
theorem dX7_seeds_112 : decode cX7_seeds 112 = .ok (.invokevirtual 294, 3) := by decide +kernel
theorem dX7_seeds_115 : decode cX7_seeds 115 = .ok (.iload 4, 2) := by decide +kernel
theorem dX7_seeds_117 : decode cX7_seeds 117 = .ok (.ireturn, 1) := by decide +kernel
set_option maxRecDepth 100000 in
set_option maxHeartbeats 4000000 in
theorem g_X7_seeds_52 (ids : List (Nat × Nat)) (Hn : Ndp ids)  (H0_29 : InR ids 0 29 56) (k43 : Int32 → Int32 → Int32 → Int32 → Sg → Option (Int32 × Sg)) (hk43 : ∀ (v1 : Int32) (v3 : Int32) (v4 : Int32) (v5 : Int32) (t0 : Sg), Gj kI mX7_seeds ids 43 [some (aR (0, 29)), some (aI v1), none, some (aI v3), some (aI v4), some (aI v5), none] [] t0 (k43 v1 v3 v4 v5 t0)) : ∀ (n : Nat) (v1 : Int32) (v3 : Int32) (v4 : Int32) (v5 : Int32) (v6 : Int32) (t0 : Sg), Gj kI mX7_seeds ids 52 [some (aR (0, 29)), some (aI v1), none, some (aI v3), some (aI v4), some (aI v5), some (aI v6)] [] t0 (f_X7_seeds_52 k43 n v1 v3 v4 v5 v6 t0) := by
  intro n
  induction n with
  | zero => intro v1 v3 v4 v5 v6 t0; exact G_none
  | succ n ih =>
    intro v1 v3 v4 v5 v6 t0
    rw [f_X7_seeds_52]
    refine G_st (x_iload dX7_seeds_52 rfl) ?_
    refine G_st (x_aload_n dX7_seeds_54 rfl) ?_
    refine G_st (x_get (k := 4) (aI (t0 (0, 29) 4)) dX7_seeds_55 (H0_29 29 (Nat.le_of_ble_eq_true rfl) (Nat.le_of_ble_eq_true rfl)) rfl rfl rfl rfl inTX7 (Nat.le_of_ble_eq_true rfl) tw_851 (fun ad => rfl)) ?_
    refine G_ite (fun c16 => ?_) (fun c16 => ?_)
    · refine G_st (x_icmp_ge_t (tgt := 96) dX7_seeds_58 (by decide) c16) ?_
      refine G_st (x_iload dX7_seeds_96 rfl) ?_
      refine G_st (x_aload_n dX7_seeds_98 rfl) ?_
      refine G_bd (fun x17 t18 h19 => ?_)
      refine G_st (x_callV [aI v4] (c_X7_weekOn ids Hn  H0_29 _ _ _ h19) dX7_seeds_99 tw_1169 kc_X7_weekOn (H0_29 29 (Nat.le_of_ble_eq_true rfl) (Nat.le_of_ble_eq_true rfl)) rfl rfl rfl rfl ⟨Nat.le_of_ble_eq_true rfl, Nat.le_of_ble_eq_true rfl⟩ (Nat.le_of_ble_eq_true rfl) rfl) ?_
      refine G_st (x_iadd dX7_seeds_102) ?_
      refine G_bvI (fun x20 => ?_)
      refine G_st (x_istore [some (aR (0, 29)), some (aI v1), none, some (aI v3), some (aI x20), some (aI v5), some (aI v6)] dX7_seeds_103 (Nat.le_of_ble_eq_true rfl) rfl rfl) ?_
      refine G_st (x_iinc (v5 + (1 : Int32)) [some (aR (0, 29)), some (aI v1), none, some (aI v3), some (aI x20), some (aI (v5 + (1 : Int32))), some (aI v6)] dX7_seeds_105 (Nat.le_of_ble_eq_true rfl) rfl rfl rfl rfl) ?_
      refine G_st (x_goto (tgt := 43) dX7_seeds_108 (by decide)) ?_
      refine G_weak _ ?_ (hk43 v1 v3 x20 (v5 + (1 : Int32)) t18)
      exact (leL_s (leL_s (leL_n (leL_s (leL_s (leL_s (leL_n (leL_e _))))))))
    · refine G_st (x_icmp_ge_f 96 dX7_seeds_58 (by decide) c16) ?_
      refine G_st (x_iload_n dX7_seeds_61 rfl) ?_
      refine G_st (x_ldcw dX7_seeds_62 tw_1347) ?_
      refine G_st (x_imul dX7_seeds_65) ?_
      refine G_st (x_sipush (12345 : Int32) dX7_seeds_66 rfl) ?_
      refine G_st (x_iadd dX7_seeds_69) ?_
      refine G_bvI (fun x21 => ?_)
      refine G_st (x_istore_n [some (aR (0, 29)), some (aI v1), none, some (aI x21), some (aI v4), some (aI v5), some (aI v6)] dX7_seeds_70 (Nat.le_of_ble_eq_true rfl) rfl rfl) ?_
      refine G_st (x_aload_n dX7_seeds_71 rfl) ?_
      refine G_st (x_get (k := 17) (aR (0, 42)) dX7_seeds_72 (H0_29 29 (Nat.le_of_ble_eq_true rfl) (Nat.le_of_ble_eq_true rfl)) rfl rfl rfl rfl inTX7 (Nat.le_of_ble_eq_true rfl) tw_864 (fun ad => rfl)) ?_
      refine G_st (x_iload dX7_seeds_75 rfl) ?_
      refine G_st (x_iload_n dX7_seeds_77 rfl) ?_
      refine G_st (x_ldcw dX7_seeds_78 tw_1348) ?_
      refine G_st (x_iand dX7_seeds_81) ?_
      refine G_st (x_ldcw dX7_seeds_82 tw_1349) ?_
      refine G_st (x_idiv dX7_seeds_85 (by decide)) ?_
      refine G_st (x_bipush (8 : Int32) dX7_seeds_86 rfl) ?_
      refine G_st (x_irem dX7_seeds_88 (by decide)) ?_
      refine G_chk (fun c22 => ?_)
      refine G_st (x_iastore dX7_seeds_89 (H0_29 42 (Nat.le_of_ble_eq_true rfl) (Nat.le_of_ble_eq_true rfl)) rfl c22) ?_
      refine G_bvS (fun t23 => ?_)
      refine G_st (x_iinc (v6 + (1 : Int32)) [some (aR (0, 29)), some (aI v1), none, some (aI x21), some (aI v4), some (aI v5), some (aI (v6 + (1 : Int32)))] dX7_seeds_90 (Nat.le_of_ble_eq_true rfl) rfl rfl rfl rfl) ?_
      refine G_st (x_goto (tgt := 52) dX7_seeds_93 (by decide)) ?_
      refine G_weak _ ?_ ((ih) v1 x21 v4 v5 (v6 + (1 : Int32)) t23)
      exact (leL_s (leL_s (leL_n (leL_s (leL_s (leL_s (leL_s (leL_e _))))))))
set_option maxRecDepth 100000 in
set_option maxHeartbeats 4000000 in
theorem g_X7_seeds_43 (ids : List (Nat × Nat)) (Hn : Ndp ids)  (H0_29 : InR ids 0 29 56)  : ∀ (n : Nat) (v1 : Int32) (v3 : Int32) (v4 : Int32) (v5 : Int32) (t0 : Sg), Gj kI mX7_seeds ids 43 [some (aR (0, 29)), some (aI v1), none, some (aI v3), some (aI v4), some (aI v5), none] [] t0 (f_X7_seeds_43 n v1 v3 v4 v5 t0) := by
  intro n
  induction n with
  | zero => intro v1 v3 v4 v5 t0; exact G_none
  | succ n ih =>
    intro v1 v3 v4 v5 t0
    rw [f_X7_seeds_43]
    refine G_st (x_iload dX7_seeds_43 rfl) ?_
    refine G_st (x_iload_n dX7_seeds_45 rfl) ?_
    refine G_ite (fun c12 => ?_) (fun c12 => ?_)
    · refine G_st (x_icmp_ge_t (tgt := 111) dX7_seeds_46 (by decide) c12) ?_
      refine G_st (x_aload_n dX7_seeds_111 rfl) ?_
      refine G_bd (fun _ t14 h15 => ?_)
      refine G_st (x_callV [] (c_X7_timesBack ids Hn  H0_29 _ _ _ h15) dX7_seeds_112 tw_1246 kc_X7_timesBack (H0_29 29 (Nat.le_of_ble_eq_true rfl) (Nat.le_of_ble_eq_true rfl)) rfl rfl rfl rfl ⟨Nat.le_of_ble_eq_true rfl, Nat.le_of_ble_eq_true rfl⟩ (Nat.le_of_ble_eq_true rfl) rfl) ?_
      refine G_st (x_iload dX7_seeds_115 rfl) ?_
      exact G_ret rfl ⟨dX7_seeds_117, _, rfl, rfl⟩ rfl
    · refine G_st (x_icmp_ge_f 111 dX7_seeds_46 (by decide) c12) ?_
      refine G_st (x_iconst (0 : Int32) dX7_seeds_49 rfl) ?_
      refine G_st (x_istore [some (aR (0, 29)), some (aI v1), none, some (aI v3), some (aI v4), some (aI v5), some (aI (0 : Int32))] dX7_seeds_50 (Nat.le_of_ble_eq_true rfl) rfl rfl) ?_
      refine G_weak _ ?_ (g_X7_seeds_52 ids Hn H0_29 (f_X7_seeds_43 n) (ih) fuel v1 v3 v4 v5 (0 : Int32) t0)
      exact (leL_s (leL_s (leL_n (leL_s (leL_s (leL_s (leL_s (leL_e _))))))))
set_option maxRecDepth 100000 in
set_option maxHeartbeats 4000000 in
theorem g_X7_seeds (ids : List (Nat × Nat)) (Hn : Ndp ids) (v1 : Int32) (v2 : Int32) (H0_29 : InR ids 0 29 56) (t0 : Sg) : Gj kI mX7_seeds ids 0 [some (aR (0, 29)), some (aI v1), some (aI v2), none, none, none, none] [] t0 (f_X7_seeds v1 v2 t0) := by
  unfold f_X7_seeds
  refine G_st (x_aload_n dX7_seeds_0 rfl) ?_
  refine G_st (x_iconst (0 : Int32) dX7_seeds_1 rfl) ?_
  refine G_st (x_put (k := 18) (ty := .int) (v := aI (0 : Int32)) (z := (0 : Int32)) (upS t0 (0, 29) 18 (0 : Int32)) dX7_seeds_2 (H0_29 29 (Nat.le_of_ble_eq_true rfl) (Nat.le_of_ble_eq_true rfl)) rfl rfl rfl rfl inTX7 tyX7_ok nmX7 (Nat.le_of_ble_eq_true rfl) tw_865 rfl rfl (fun ad => rfl) (fun ad => rfl) (fun ad => put_i0 ad _ _ _ _ rfl) rfl) ?_
  refine G_bvS (fun t1 => ?_)
  refine G_st (x_iload_n dX7_seeds_5 rfl) ?_
  refine G_st (x_iconst (1 : Int32) dX7_seeds_6 rfl) ?_
  refine G_st (x_bipush (20 : Int32) dX7_seeds_7 rfl) ?_
  refine G_bd (fun x2 t3 h4 => ?_)
  refine G_st (x_callS [] (c_X7_wrongNumber ids Hn v1 (1 : Int32) (20 : Int32)  _ _ _ h4) dX7_seeds_9 tw_1126 kc_X7_wrongNumber rfl ⟨Nat.le_of_ble_eq_true rfl, Nat.le_of_ble_eq_true rfl⟩ (Nat.le_of_ble_eq_true rfl) rfl) ?_
  refine G_ite (fun c5 => ?_) (fun c5 => ?_)
  · refine G_st (x_if_ge_t (tgt := 27) dX7_seeds_12 (by decide) c5) ?_
    refine G_st (x_aload_n dX7_seeds_27 rfl) ?_
    refine G_bd (fun _ t7 h8 => ?_)
    refine G_st (x_callV [] (c_X7_keepTimes ids Hn  H0_29 _ _ _ h8) dX7_seeds_28 tw_1242 kc_X7_keepTimes (H0_29 29 (Nat.le_of_ble_eq_true rfl) (Nat.le_of_ble_eq_true rfl)) rfl rfl rfl rfl ⟨Nat.le_of_ble_eq_true rfl, Nat.le_of_ble_eq_true rfl⟩ (Nat.le_of_ble_eq_true rfl) rfl) ?_
    refine G_st (x_aload_n dX7_seeds_31 rfl) ?_
    refine G_bd (fun _ t10 h11 => ?_)
    refine G_st (x_callV [] (c_X7_beginMind ids Hn  H0_29 _ _ _ h11) dX7_seeds_32 tw_1161 kc_X7_beginMind (H0_29 29 (Nat.le_of_ble_eq_true rfl) (Nat.le_of_ble_eq_true rfl)) rfl rfl rfl rfl ⟨Nat.le_of_ble_eq_true rfl, Nat.le_of_ble_eq_true rfl⟩ (Nat.le_of_ble_eq_true rfl) rfl) ?_
    refine G_st (x_iload_n dX7_seeds_35 rfl) ?_
    refine G_st (x_istore_n [some (aR (0, 29)), some (aI v1), some (aI v2), some (aI v2), none, none, none] dX7_seeds_36 (Nat.le_of_ble_eq_true rfl) rfl rfl) ?_
    refine G_st (x_iconst (0 : Int32) dX7_seeds_37 rfl) ?_
    refine G_st (x_istore [some (aR (0, 29)), some (aI v1), some (aI v2), some (aI v2), some (aI (0 : Int32)), none, none] dX7_seeds_38 (Nat.le_of_ble_eq_true rfl) rfl rfl) ?_
    refine G_st (x_iconst (0 : Int32) dX7_seeds_40 rfl) ?_
    refine G_st (x_istore [some (aR (0, 29)), some (aI v1), some (aI v2), some (aI v2), some (aI (0 : Int32)), some (aI (0 : Int32)), none] dX7_seeds_41 (Nat.le_of_ble_eq_true rfl) rfl rfl) ?_
    refine G_weak _ ?_ (g_X7_seeds_43 ids Hn H0_29 fuel v1 v2 (0 : Int32) (0 : Int32) t10)
    exact (leL_s (leL_s (leL_n (leL_s (leL_s (leL_s (leL_n (leL_e _))))))))
  · refine G_st (x_if_ge_f 27 dX7_seeds_12 (by decide) c5) ?_
    refine G_st (x_aload_n dX7_seeds_15 rfl) ?_
    refine G_st (x_iload_n dX7_seeds_16 rfl) ?_
    refine G_st (x_iconst (1 : Int32) dX7_seeds_17 rfl) ?_
    refine G_st (x_bipush (20 : Int32) dX7_seeds_18 rfl) ?_
    refine G_bd (fun x24 t25 h26 => ?_)
    refine G_st (x_callS [aR (0, 29)] (c_X7_wrongNumber ids Hn v1 (1 : Int32) (20 : Int32)  _ _ _ h26) dX7_seeds_20 tw_1126 kc_X7_wrongNumber rfl ⟨Nat.le_of_ble_eq_true rfl, Nat.le_of_ble_eq_true rfl⟩ (Nat.le_of_ble_eq_true rfl) rfl) ?_
    refine G_bd (fun x27 t28 h29 => ?_)
    refine G_st (x_callV [] (c_X7_refuse ids Hn x24 H0_29 _ _ _ h29) dX7_seeds_23 tw_981 kc_X7_refuse (H0_29 29 (Nat.le_of_ble_eq_true rfl) (Nat.le_of_ble_eq_true rfl)) rfl rfl rfl rfl ⟨Nat.le_of_ble_eq_true rfl, Nat.le_of_ble_eq_true rfl⟩ (Nat.le_of_ble_eq_true rfl) rfl) ?_
    exact G_ret rfl ⟨dX7_seeds_26, _, rfl, rfl⟩ rfl
set_option maxRecDepth 100000 in
set_option maxHeartbeats 4000000 in
theorem c_X7_seeds (ids : List (Nat × Nat)) (Hn : Ndp ids) (v1 : Int32) (v2 : Int32) (H0_29 : InR ids 0 29 56) (t0 : Sg) (r : Int32) (t1 : Sg) (hf : f_X7_seeds v1 v2 t0 = some (r, t1)) : Mt0 mX7_seeds yX7_seeds ids [aR (0, 29), aI v1, aI v2] t0 (some (aI r)) t1 :=
  Mt_of (x := (r, t1)) (g_X7_seeds ids Hn v1 v2 H0_29 t0) hf (fun _ _ => trivial) (by decide) rfl Hn (fun _ => rfl) (fun _ => Nat.le_of_ble_eq_true rfl)
theorem dX7_sumOf_0 : decode cX7_sumOf 0 = .ok (.iconst 0, 1) := by decide +kernel
theorem dX7_sumOf_1 : decode cX7_sumOf 1 = .ok (.istore_n 2, 1) := by decide +kernel
theorem dX7_sumOf_2 : decode cX7_sumOf 2 = .ok (.iconst 0, 1) := by decide +kernel
theorem dX7_sumOf_3 : decode cX7_sumOf 3 = .ok (.istore_n 3, 1) := by decide +kernel
theorem dX7_sumOf_4 : decode cX7_sumOf 4 = .ok (.iload_n 3, 1) := by decide +kernel
theorem dX7_sumOf_5 : decode cX7_sumOf 5 = .ok (.iload_n 1, 1) := by decide +kernel
theorem dX7_sumOf_6 : decode cX7_sumOf 6 = .ok (.if_icmp .ge 15, 3) := by decide +kernel
theorem dX7_sumOf_9 : decode cX7_sumOf 9 = .ok (.iload_n 2, 1) := by decide +kernel
theorem dX7_sumOf_10 : decode cX7_sumOf 10 = .ok (.aload_n 0, 1) := by decide +kernel
theorem dX7_sumOf_11 : decode cX7_sumOf 11 = .ok (.iload_n 3, 1) := by decide +kernel
theorem dX7_sumOf_12 : decode cX7_sumOf 12 = .ok (.iaload, 1) := by decide +kernel
theorem dX7_sumOf_13 : decode cX7_sumOf 13 = .ok (.iadd, 1) := by decide +kernel
theorem dX7_sumOf_14 : decode cX7_sumOf 14 = .ok (.istore_n 2, 1) := by decide +kernel
theorem dX7_sumOf_15 : decode cX7_sumOf 15 = .ok (.iinc 3 1, 3) := by decide +kernel
theorem dX7_sumOf_18 : decode cX7_sumOf 18 = .ok (.goto (-14), 3) := by decide +kernel
theorem dX7_sumOf_21 : decode cX7_sumOf 21 = .ok (.iload_n 2, 1) := by decide +kernel
theorem dX7_sumOf_22 : decode cX7_sumOf 22 = .ok (.ireturn, 1) := by decide +kernel
set_option maxRecDepth 100000 in
set_option maxHeartbeats 4000000 in
theorem g_X7_sumOf_4 (ids : List (Nat × Nat)) (Hn : Ndp ids) (i0 : Nat × Nat) (Ki0 : i0 ∈ ids) (Ni0 : ly_len i0.2 = some (alen i0))  : ∀ (n : Nat) (v1 : Int32) (v2 : Int32) (v3 : Int32) (t0 : Sg), Gj kI mX7_sumOf ids 4 [some (aR i0), some (aI v1), some (aI v2), some (aI v3)] [] t0 (f_X7_sumOf_4 i0 n v1 v2 v3 t0) := by
  intro n
  induction n with
  | zero => intro v1 v2 v3 t0; exact G_none
  | succ n ih =>
    intro v1 v2 v3 t0
    rw [f_X7_sumOf_4]
    refine G_st (x_iload_n dX7_sumOf_4 rfl) ?_
    refine G_st (x_iload_n dX7_sumOf_5 rfl) ?_
    refine G_ite (fun c1 => ?_) (fun c1 => ?_)
    · refine G_st (x_icmp_ge_t (tgt := 21) dX7_sumOf_6 (by decide) c1) ?_
      refine G_st (x_iload_n dX7_sumOf_21 rfl) ?_
      exact G_ret rfl ⟨dX7_sumOf_22, _, rfl, rfl⟩ rfl
    · refine G_st (x_icmp_ge_f 21 dX7_sumOf_6 (by decide) c1) ?_
      refine G_st (x_iload_n dX7_sumOf_9 rfl) ?_
      refine G_st (x_aload_n dX7_sumOf_10 rfl) ?_
      refine G_st (x_iload_n dX7_sumOf_11 rfl) ?_
      refine G_chk (fun c2 => ?_)
      refine G_st (x_iaload dX7_sumOf_12 Ki0 Ni0 c2) ?_
      refine G_st (x_iadd dX7_sumOf_13) ?_
      refine G_bvI (fun x3 => ?_)
      refine G_st (x_istore_n [some (aR i0), some (aI v1), some (aI x3), some (aI v3)] dX7_sumOf_14 (Nat.le_of_ble_eq_true rfl) rfl rfl) ?_
      refine G_st (x_iinc (v3 + (1 : Int32)) [some (aR i0), some (aI v1), some (aI x3), some (aI (v3 + (1 : Int32)))] dX7_sumOf_15 (Nat.le_of_ble_eq_true rfl) rfl rfl rfl rfl) ?_
      refine G_st (x_goto (tgt := 4) dX7_sumOf_18 (by decide)) ?_
      refine G_weak _ ?_ ((ih) v1 x3 (v3 + (1 : Int32)) t0)
      exact (leL_s (leL_s (leL_s (leL_s (leL_e _)))))
set_option maxRecDepth 100000 in
set_option maxHeartbeats 4000000 in
theorem g_X7_sumOf (ids : List (Nat × Nat)) (Hn : Ndp ids) (i0 : Nat × Nat) (v1 : Int32) (Ki0 : i0 ∈ ids) (Ni0 : ly_len i0.2 = some (alen i0)) (t0 : Sg) : Gj kI mX7_sumOf ids 0 [some (aR i0), some (aI v1), none, none] [] t0 (f_X7_sumOf i0 v1 t0) := by
  unfold f_X7_sumOf
  refine G_st (x_iconst (0 : Int32) dX7_sumOf_0 rfl) ?_
  refine G_st (x_istore_n [some (aR i0), some (aI v1), some (aI (0 : Int32)), none] dX7_sumOf_1 (Nat.le_of_ble_eq_true rfl) rfl rfl) ?_
  refine G_st (x_iconst (0 : Int32) dX7_sumOf_2 rfl) ?_
  refine G_st (x_istore_n [some (aR i0), some (aI v1), some (aI (0 : Int32)), some (aI (0 : Int32))] dX7_sumOf_3 (Nat.le_of_ble_eq_true rfl) rfl rfl) ?_
  refine G_weak _ ?_ (g_X7_sumOf_4 ids Hn i0 Ki0 Ni0 fuel v1 (0 : Int32) (0 : Int32) t0)
  exact (leL_s (leL_s (leL_s (leL_s (leL_e _)))))
set_option maxRecDepth 100000 in
set_option maxHeartbeats 4000000 in
theorem c_X7_sumOf (ids : List (Nat × Nat)) (Hn : Ndp ids) (i0 : Nat × Nat) (v1 : Int32) (Ki0 : i0 ∈ ids) (Ni0 : ly_len i0.2 = some (alen i0)) (t0 : Sg) (r : Int32) (t1 : Sg) (hf : f_X7_sumOf i0 v1 t0 = some (r, t1)) : Mt0 mX7_sumOf yX7_sumOf ids [aR i0, aI v1] t0 (some (aI r)) t1 :=
  Mt_of (x := (r, t1)) (g_X7_sumOf ids Hn i0 v1 Ki0 Ni0 t0) hf (fun _ _ => trivial) (by decide) rfl Hn (fun _ => rfl) (fun _ => Nat.le_of_ble_eq_true rfl)
theorem dX7_count_0 : decode cX7_count 0 = .ok (.aload_n 0, 1) := by decide +kernel
theorem dX7_count_1 : decode cX7_count 1 = .ok (.iconst 0, 1) := by decide +kernel
theorem dX7_count_2 : decode cX7_count 2 = .ok (.putfield 98, 3) := by decide +kernel
theorem dX7_count_5 : decode cX7_count 5 = .ok (.iload_n 1, 1) := by decide +kernel
theorem dX7_count_6 : decode cX7_count 6 = .ok (.tableswitch 122 0 9 #[54, 59, 64, 69, 74, 81, 91, 101, 112, 117], 54) := by decide +kernel
theorem dX7_count_60 : decode cX7_count 60 = .ok (.aload_n 0, 1) := by decide +kernel
theorem dX7_count_61 : decode cX7_count 61 = .ok (.getfield 7, 3) := by decide +kernel
theorem dX7_count_64 : decode cX7_count 64 = .ok (.ireturn, 1) := by decide +kernel
theorem dX7_count_65 : decode cX7_count 65 = .ok (.aload_n 0, 1) := by decide +kernel
theorem dX7_count_66 : decode cX7_count 66 = .ok (.getfield 13, 3) := by decide +kernel
theorem dX7_count_69 : decode cX7_count 69 = .ok (.ireturn, 1) := by decide +kernel
theorem dX7_count_70 : decode cX7_count 70 = .ok (.aload_n 0, 1) := by decide +kernel
theorem dX7_count_71 : decode cX7_count 71 = .ok (.getfield 104, 3) := by decide +kernel
theorem dX7_count_74 : decode cX7_count 74 = .ok (.ireturn, 1) := by decide +kernel
theorem dX7_count_75 : decode cX7_count 75 = .ok (.aload_n 0, 1) := by decide +kernel
theorem dX7_count_76 : decode cX7_count 76 = .ok (.getfield 164, 3) := by decide +kernel
theorem dX7_count_79 : decode cX7_count 79 = .ok (.ireturn, 1) := by decide +kernel
theorem dX7_count_80 : decode cX7_count 80 = .ok (.iconst 1, 1) := by decide +kernel
theorem dX7_count_81 : decode cX7_count 81 = .ok (.aload_n 0, 1) := by decide +kernel
theorem dX7_count_82 : decode cX7_count 82 = .ok (.getfield 119, 3) := by decide +kernel
theorem dX7_count_85 : decode cX7_count 85 = .ok (.iadd, 1) := by decide +kernel
theorem dX7_count_86 : decode cX7_count 86 = .ok (.ireturn, 1) := by decide +kernel
theorem dX7_count_87 : decode cX7_count 87 = .ok (.aload_n 0, 1) := by decide +kernel
theorem dX7_count_88 : decode cX7_count 88 = .ok (.getfield 20, 3) := by decide +kernel
theorem dX7_count_91 : decode cX7_count 91 = .ok (.bipush 24, 2) := by decide +kernel
theorem dX7_count_93 : decode cX7_count 93 = .ok (.invokestatic 340, 3) := by decide +kernel
theorem dX7_count_96 : decode cX7_count 96 = .ok (.ireturn, 1) := by decide +kernel
theorem dX7_count_97 : decode cX7_count 97 = .ok (.aload_n 0, 1) := by decide +kernel
theorem dX7_count_98 : decode cX7_count 98 = .ok (.getfield 35, 3) := by decide +kernel
theorem dX7_count_101 : decode cX7_count 101 = .ok (.bipush 24, 2) := by decide +kernel
theorem dX7_count_103 : decode cX7_count 103 = .ok (.invokestatic 340, 3) := by decide +kernel
theorem dX7_count_106 : decode cX7_count 106 = .ok (.ireturn, 1) := by decide +kernel
theorem dX7_count_107 : decode cX7_count 107 = .ok (.aload_n 0, 1) := by decide +kernel
theorem dX7_count_108 : decode cX7_count 108 = .ok (.getfield 41, 3) := by decide +kernel
theorem dX7_count_111 : decode cX7_count 111 = .ok (.sipush 576, 3) := by decide +kernel
theorem dX7_count_114 : decode cX7_count 114 = .ok (.invokestatic 340, 3) := by decide +kernel
theorem dX7_count_117 : decode cX7_count 117 = .ok (.ireturn, 1) := by decide +kernel
theorem dX7_count_118 : decode cX7_count 118 = .ok (.aload_n 0, 1) := by decide +kernel
theorem dX7_count_119 : decode cX7_count 119 = .ok (.getfield 170, 3) := by decide +kernel
theorem dX7_count_122 : decode cX7_count 122 = .ok (.ireturn, 1) := by decide +kernel
theorem dX7_count_123 : decode cX7_count 123 = .ok (.aload_n 0, 1) := by decide +kernel
theorem dX7_count_124 : decode cX7_count 124 = .ok (.getfield 334, 3) := by decide +kernel
theorem dX7_count_127 : decode cX7_count 127 = .ok (.ireturn, 1) := by decide +kernel
theorem dX7_count_128 : decode cX7_count 128 = .ok (.iload_n 1, 1) := by decide +kernel
theorem dX7_count_129 : decode cX7_count 129 = .ok (.i2l, 1) := by decide +kernel
theorem dX7_count_130 : decode cX7_count 130 = .ok (.ldc2_w 344, 3) := by decide +kernel
theorem dX7_count_133 : decode cX7_count 133 = .ok (.ldc2_w 346, 3) := by decide +kernel
theorem dX7_count_136 : decode cX7_count 136 = .ok (.invokestatic 111, 3) := by decide +kernel
theorem dX7_count_139 : decode cX7_count 139 = .ok (.ifCond .eq 15, 3) := by decide +kernel
theorem dX7_count_142 : decode cX7_count 142 = .ok (.aload_n 0, 1) := by decide +kernel
theorem dX7_count_143 : decode cX7_count 143 = .ok (.getfield 56, 3) := by decide +kernel
theorem dX7_count_146 : decode cX7_count 146 = .ok (.iload_n 1, 1) := by decide +kernel
theorem dX7_count_147 : decode cX7_count 147 = .ok (.bipush 10, 2) := by decide +kernel
theorem dX7_count_149 : decode cX7_count 149 = .ok (.isub, 1) := by decide +kernel
theorem dX7_count_150 : decode cX7_count 150 = .ok (.iaload, 1) := by decide +kernel
theorem dX7_count_151 : decode cX7_count 151 = .ok (.goto 5, 3) := by decide +kernel
theorem dX7_count_154 : decode cX7_count 154 = .ok (.bipush (-9), 2) := by decide +kernel
theorem dX7_count_156 : decode cX7_count 156 = .ok (.ireturn, 1) := by decide +kernel
set_option maxRecDepth 100000 in
set_option maxHeartbeats 4000000 in
theorem g_X7_count (ids : List (Nat × Nat)) (Hn : Ndp ids) (v1 : Int32) (H0_29 : InR ids 0 29 56) (t0 : Sg) : Gj kI mX7_count ids 0 [some (aR (0, 29)), some (aI v1)] [] t0 (f_X7_count v1 t0) := by
  unfold f_X7_count
  refine G_st (x_aload_n dX7_count_0 rfl) ?_
  refine G_st (x_iconst (0 : Int32) dX7_count_1 rfl) ?_
  refine G_st (x_put (k := 18) (ty := .int) (v := aI (0 : Int32)) (z := (0 : Int32)) (upS t0 (0, 29) 18 (0 : Int32)) dX7_count_2 (H0_29 29 (Nat.le_of_ble_eq_true rfl) (Nat.le_of_ble_eq_true rfl)) rfl rfl rfl rfl inTX7 tyX7_ok nmX7 (Nat.le_of_ble_eq_true rfl) tw_865 rfl rfl (fun ad => rfl) (fun ad => rfl) (fun ad => put_i0 ad _ _ _ _ rfl) rfl) ?_
  refine G_bvS (fun t1 => ?_)
  refine G_st (x_iload_n dX7_count_5 rfl) ?_
  refine G_ite (fun c2 => ?_) (fun c2 => ?_)
  · refine G_st (x_tabIn (tgt := 60) (0 : Int32) dX7_count_6 c2 (by decide) (by decide) rfl (by decide)) ?_
    refine G_st (x_aload_n dX7_count_60 rfl) ?_
    refine G_st (x_get (k := 0) (aI (t1 (0, 29) 0)) dX7_count_61 (H0_29 29 (Nat.le_of_ble_eq_true rfl) (Nat.le_of_ble_eq_true rfl)) rfl rfl rfl rfl inTX7 (Nat.le_of_ble_eq_true rfl) tw_847 (fun ad => rfl)) ?_
    exact G_ret rfl ⟨dX7_count_64, _, rfl, rfl⟩ rfl
  refine G_ite (fun c3 => ?_) (fun c3 => ?_)
  · refine G_st (x_tabIn (tgt := 65) (1 : Int32) dX7_count_6 c3 (by decide) (by decide) rfl (by decide)) ?_
    refine G_st (x_aload_n dX7_count_65 rfl) ?_
    refine G_st (x_get (k := 1) (aI (t1 (0, 29) 1)) dX7_count_66 (H0_29 29 (Nat.le_of_ble_eq_true rfl) (Nat.le_of_ble_eq_true rfl)) rfl rfl rfl rfl inTX7 (Nat.le_of_ble_eq_true rfl) tw_848 (fun ad => rfl)) ?_
    exact G_ret rfl ⟨dX7_count_69, _, rfl, rfl⟩ rfl
  refine G_ite (fun c4 => ?_) (fun c4 => ?_)
  · refine G_st (x_tabIn (tgt := 70) (2 : Int32) dX7_count_6 c4 (by decide) (by decide) rfl (by decide)) ?_
    refine G_st (x_aload_n dX7_count_70 rfl) ?_
    refine G_st (x_get (k := 4) (aI (t1 (0, 29) 4)) dX7_count_71 (H0_29 29 (Nat.le_of_ble_eq_true rfl) (Nat.le_of_ble_eq_true rfl)) rfl rfl rfl rfl inTX7 (Nat.le_of_ble_eq_true rfl) tw_851 (fun ad => rfl)) ?_
    exact G_ret rfl ⟨dX7_count_74, _, rfl, rfl⟩ rfl
  refine G_ite (fun c5 => ?_) (fun c5 => ?_)
  · refine G_st (x_tabIn (tgt := 75) (3 : Int32) dX7_count_6 c5 (by decide) (by decide) rfl (by decide)) ?_
    refine G_st (x_aload_n dX7_count_75 rfl) ?_
    refine G_st (x_get (k := 3) (aI (t1 (0, 29) 3)) dX7_count_76 (H0_29 29 (Nat.le_of_ble_eq_true rfl) (Nat.le_of_ble_eq_true rfl)) rfl rfl rfl rfl inTX7 (Nat.le_of_ble_eq_true rfl) tw_850 (fun ad => rfl)) ?_
    exact G_ret rfl ⟨dX7_count_79, _, rfl, rfl⟩ rfl
  refine G_ite (fun c6 => ?_) (fun c6 => ?_)
  · refine G_st (x_tabIn (tgt := 80) (4 : Int32) dX7_count_6 c6 (by decide) (by decide) rfl (by decide)) ?_
    refine G_st (x_iconst (1 : Int32) dX7_count_80 rfl) ?_
    refine G_st (x_aload_n dX7_count_81 rfl) ?_
    refine G_st (x_get (k := 2) (aI (t1 (0, 29) 2)) dX7_count_82 (H0_29 29 (Nat.le_of_ble_eq_true rfl) (Nat.le_of_ble_eq_true rfl)) rfl rfl rfl rfl inTX7 (Nat.le_of_ble_eq_true rfl) tw_849 (fun ad => rfl)) ?_
    refine G_st (x_iadd dX7_count_85) ?_
    exact G_ret rfl ⟨dX7_count_86, _, rfl, rfl⟩ rfl
  refine G_ite (fun c7 => ?_) (fun c7 => ?_)
  · refine G_st (x_tabIn (tgt := 87) (5 : Int32) dX7_count_6 c7 (by decide) (by decide) rfl (by decide)) ?_
    refine G_st (x_aload_n dX7_count_87 rfl) ?_
    refine G_st (x_get (k := 6) (aR (0, 31)) dX7_count_88 (H0_29 29 (Nat.le_of_ble_eq_true rfl) (Nat.le_of_ble_eq_true rfl)) rfl rfl rfl rfl inTX7 (Nat.le_of_ble_eq_true rfl) tw_853 (fun ad => rfl)) ?_
    refine G_st (x_bipush (24 : Int32) dX7_count_91 rfl) ?_
    refine G_bd (fun x8 t9 h10 => ?_)
    refine G_st (x_callS [] (c_X7_sumOf ids Hn (0, 31) (24 : Int32) (H0_29 31 (Nat.le_of_ble_eq_true rfl) (Nat.le_of_ble_eq_true rfl)) rfl _ _ _ h10) dX7_count_93 tw_1354 kc_X7_sumOf rfl ⟨Nat.le_of_ble_eq_true rfl, Nat.le_of_ble_eq_true rfl⟩ (Nat.le_of_ble_eq_true rfl) rfl) ?_
    exact G_ret rfl ⟨dX7_count_96, _, rfl, rfl⟩ rfl
  refine G_ite (fun c11 => ?_) (fun c11 => ?_)
  · refine G_st (x_tabIn (tgt := 97) (6 : Int32) dX7_count_6 c11 (by decide) (by decide) rfl (by decide)) ?_
    refine G_st (x_aload_n dX7_count_97 rfl) ?_
    refine G_st (x_get (k := 11) (aR (0, 36)) dX7_count_98 (H0_29 29 (Nat.le_of_ble_eq_true rfl) (Nat.le_of_ble_eq_true rfl)) rfl rfl rfl rfl inTX7 (Nat.le_of_ble_eq_true rfl) tw_858 (fun ad => rfl)) ?_
    refine G_st (x_bipush (24 : Int32) dX7_count_101 rfl) ?_
    refine G_bd (fun x12 t13 h14 => ?_)
    refine G_st (x_callS [] (c_X7_sumOf ids Hn (0, 36) (24 : Int32) (H0_29 36 (Nat.le_of_ble_eq_true rfl) (Nat.le_of_ble_eq_true rfl)) rfl _ _ _ h14) dX7_count_103 tw_1354 kc_X7_sumOf rfl ⟨Nat.le_of_ble_eq_true rfl, Nat.le_of_ble_eq_true rfl⟩ (Nat.le_of_ble_eq_true rfl) rfl) ?_
    exact G_ret rfl ⟨dX7_count_106, _, rfl, rfl⟩ rfl
  refine G_ite (fun c15 => ?_) (fun c15 => ?_)
  · refine G_st (x_tabIn (tgt := 107) (7 : Int32) dX7_count_6 c15 (by decide) (by decide) rfl (by decide)) ?_
    refine G_st (x_aload_n dX7_count_107 rfl) ?_
    refine G_st (x_get (k := 13) (aR (0, 38)) dX7_count_108 (H0_29 29 (Nat.le_of_ble_eq_true rfl) (Nat.le_of_ble_eq_true rfl)) rfl rfl rfl rfl inTX7 (Nat.le_of_ble_eq_true rfl) tw_860 (fun ad => rfl)) ?_
    refine G_st (x_sipush (576 : Int32) dX7_count_111 rfl) ?_
    refine G_bd (fun x16 t17 h18 => ?_)
    refine G_st (x_callS [] (c_X7_sumOf ids Hn (0, 38) (576 : Int32) (H0_29 38 (Nat.le_of_ble_eq_true rfl) (Nat.le_of_ble_eq_true rfl)) rfl _ _ _ h18) dX7_count_114 tw_1354 kc_X7_sumOf rfl ⟨Nat.le_of_ble_eq_true rfl, Nat.le_of_ble_eq_true rfl⟩ (Nat.le_of_ble_eq_true rfl) rfl) ?_
    exact G_ret rfl ⟨dX7_count_117, _, rfl, rfl⟩ rfl
  refine G_ite (fun c19 => ?_) (fun c19 => ?_)
  · refine G_st (x_tabIn (tgt := 118) (8 : Int32) dX7_count_6 c19 (by decide) (by decide) rfl (by decide)) ?_
    refine G_st (x_aload_n dX7_count_118 rfl) ?_
    refine G_st (x_get (k := 26) (aI (t1 (0, 29) 26)) dX7_count_119 (H0_29 29 (Nat.le_of_ble_eq_true rfl) (Nat.le_of_ble_eq_true rfl)) rfl rfl rfl rfl inTX7 (Nat.le_of_ble_eq_true rfl) tw_873 (fun ad => rfl)) ?_
    exact G_ret rfl ⟨dX7_count_122, _, rfl, rfl⟩ rfl
  refine G_ite (fun c20 => ?_) (fun c20 => ?_)
  · refine G_st (x_tabIn (tgt := 123) (9 : Int32) dX7_count_6 c20 (by decide) (by decide) rfl (by decide)) ?_
    refine G_st (x_aload_n dX7_count_123 rfl) ?_
    refine G_st (x_get (k := 42) (aI (t1 (0, 29) 42)) dX7_count_124 (H0_29 29 (Nat.le_of_ble_eq_true rfl) (Nat.le_of_ble_eq_true rfl)) rfl rfl rfl rfl inTX7 (Nat.le_of_ble_eq_true rfl) tw_889 (fun ad => rfl)) ?_
    exact G_ret rfl ⟨dX7_count_127, _, rfl, rfl⟩ rfl
  refine G_st (x_tabOut (tgt := 128) dX7_count_6 (by have c2q : ¬ (v1).toInt = (0 : Int) := lv_neT c2 rfl; have c3q : ¬ (v1).toInt = (1 : Int) := lv_neT c3 rfl; have c4q : ¬ (v1).toInt = (2 : Int) := lv_neT c4 rfl; have c5q : ¬ (v1).toInt = (3 : Int) := lv_neT c5 rfl; have c6q : ¬ (v1).toInt = (4 : Int) := lv_neT c6 rfl; have c7q : ¬ (v1).toInt = (5 : Int) := lv_neT c7 rfl; have c11q : ¬ (v1).toInt = (6 : Int) := lv_neT c11 rfl; have c15q : ¬ (v1).toInt = (7 : Int) := lv_neT c15 rfl; have c19q : ¬ (v1).toInt = (8 : Int) := lv_neT c19 rfl; have c20q : ¬ (v1).toInt = (9 : Int) := lv_neT c20 rfl; omega) (by decide)) ?_
  refine G_st (x_iload_n dX7_count_128 rfl) ?_
  refine G_st (x_i2l dX7_count_129) ?_
  refine G_st (x_ldc2 dX7_count_130 tw_1357) ?_
  refine G_st (x_ldc2 dX7_count_133 tw_1358) ?_
  refine G_bd (fun x21 t22 h23 => ?_)
  refine G_st (x_callS [] (c_X7_in ids Hn (v1).toInt64 (11 : Int64) (16 : Int64)  _ _ _ h23) dX7_count_136 tw_1003 kc_X7_in rfl ⟨Nat.le_of_ble_eq_true rfl, Nat.le_of_ble_eq_true rfl⟩ (Nat.le_of_ble_eq_true rfl) rfl) ?_
  refine G_ite (fun c24 => ?_) (fun c24 => ?_)
  · refine G_st (x_if_eq_t (tgt := 154) dX7_count_139 (by decide) c24) ?_
    refine G_st (x_bipush (-9 : Int32) dX7_count_154 rfl) ?_
    exact G_ret rfl ⟨dX7_count_156, _, rfl, rfl⟩ rfl
  · refine G_st (x_if_eq_f 154 dX7_count_139 (by decide) c24) ?_
    refine G_st (x_aload_n dX7_count_142 rfl) ?_
    refine G_st (x_get (k := 19) (aR (0, 43)) dX7_count_143 (H0_29 29 (Nat.le_of_ble_eq_true rfl) (Nat.le_of_ble_eq_true rfl)) rfl rfl rfl rfl inTX7 (Nat.le_of_ble_eq_true rfl) tw_866 (fun ad => rfl)) ?_
    refine G_st (x_iload_n dX7_count_146 rfl) ?_
    refine G_st (x_bipush (10 : Int32) dX7_count_147 rfl) ?_
    refine G_st (x_isub dX7_count_149) ?_
    refine G_chk (fun c25 => ?_)
    refine G_st (x_iaload dX7_count_150 (H0_29 43 (Nat.le_of_ble_eq_true rfl) (Nat.le_of_ble_eq_true rfl)) rfl c25) ?_
    refine G_st (x_goto (tgt := 156) dX7_count_151 (by decide)) ?_
    exact G_ret rfl ⟨dX7_count_156, _, rfl, rfl⟩ rfl
set_option maxRecDepth 100000 in
set_option maxHeartbeats 4000000 in
theorem c_X7_count (ids : List (Nat × Nat)) (Hn : Ndp ids) (v1 : Int32) (H0_29 : InR ids 0 29 56) (t0 : Sg) (r : Int32) (t1 : Sg) (hf : f_X7_count v1 t0 = some (r, t1)) : Mt0 mX7_count yX7_count ids [aR (0, 29), aI v1] t0 (some (aI r)) t1 :=
  Mt_of (x := (r, t1)) (g_X7_count ids Hn v1 H0_29 t0) hf (fun _ _ => trivial) (by decide) rfl Hn (fun _ => rfl) (fun _ => Nat.le_of_ble_eq_true rfl)
