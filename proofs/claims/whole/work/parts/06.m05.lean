theorem dX7_saucerIs_0 : decode cX7_saucerIs 0 = .ok (.aload_n 0, 1) := by decide +kernel
theorem dX7_saucerIs_1 : decode cX7_saucerIs 1 = .ok (.getfield 16, 3) := by decide +kernel
theorem dX7_saucerIs_4 : decode cX7_saucerIs 4 = .ok (.iload_n 1, 1) := by decide +kernel
theorem dX7_saucerIs_5 : decode cX7_saucerIs 5 = .ok (.iload_n 2, 1) := by decide +kernel
theorem dX7_saucerIs_6 : decode cX7_saucerIs 6 = .ok (.iastore, 1) := by decide +kernel
theorem dX7_saucerIs_7 : decode cX7_saucerIs 7 = .ok (.aload_n 0, 1) := by decide +kernel
theorem dX7_saucerIs_8 : decode cX7_saucerIs 8 = .ok (.getfield 20, 3) := by decide +kernel
theorem dX7_saucerIs_11 : decode cX7_saucerIs 11 = .ok (.iload_n 1, 1) := by decide +kernel
theorem dX7_saucerIs_12 : decode cX7_saucerIs 12 = .ok (.aload_n 0, 1) := by decide +kernel
theorem dX7_saucerIs_13 : decode cX7_saucerIs 13 = .ok (.getfield 20, 3) := by decide +kernel
theorem dX7_saucerIs_16 : decode cX7_saucerIs 16 = .ok (.iload_n 1, 1) := by decide +kernel
theorem dX7_saucerIs_17 : decode cX7_saucerIs 17 = .ok (.iaload, 1) := by decide +kernel
theorem dX7_saucerIs_18 : decode cX7_saucerIs 18 = .ok (.iload_n 2, 1) := by decide +kernel
theorem dX7_saucerIs_19 : decode cX7_saucerIs 19 = .ok (.invokestatic 122, 3) := by decide +kernel
theorem dX7_saucerIs_22 : decode cX7_saucerIs 22 = .ok (.iastore, 1) := by decide +kernel
theorem dX7_saucerIs_23 : decode cX7_saucerIs 23 = .ok (.return_, 1) := by decide +kernel
set_option maxRecDepth 100000 in
set_option maxHeartbeats 4000000 in
theorem g_X7_saucerIs (ids : List (Nat × Nat)) (Hn : Ndp ids) (v1 : Int32) (v2 : Int32) (H0_29 : InR ids 0 29 56) (t0 : Sg) : Gj kV mX7_saucerIs ids 0 [some (aR (0, 29)), some (aI v1), some (aI v2)] [] t0 (f_X7_saucerIs v1 v2 t0) := by
  unfold f_X7_saucerIs
  refine G_st (x_aload_n dX7_saucerIs_0 rfl) ?_
  refine G_st (x_get (k := 5) (aR (0, 30)) dX7_saucerIs_1 (H0_29 29 (Nat.le_of_ble_eq_true rfl) (Nat.le_of_ble_eq_true rfl)) rfl rfl rfl rfl inTX7 (Nat.le_of_ble_eq_true rfl) tw_852 (fun ad => rfl)) ?_
  refine G_st (x_iload_n dX7_saucerIs_4 rfl) ?_
  refine G_st (x_iload_n dX7_saucerIs_5 rfl) ?_
  refine G_chk (fun c1 => ?_)
  refine G_st (x_iastore dX7_saucerIs_6 (H0_29 30 (Nat.le_of_ble_eq_true rfl) (Nat.le_of_ble_eq_true rfl)) rfl c1) ?_
  refine G_bvS (fun t2 => ?_)
  refine G_st (x_aload_n dX7_saucerIs_7 rfl) ?_
  refine G_st (x_get (k := 6) (aR (0, 31)) dX7_saucerIs_8 (H0_29 29 (Nat.le_of_ble_eq_true rfl) (Nat.le_of_ble_eq_true rfl)) rfl rfl rfl rfl inTX7 (Nat.le_of_ble_eq_true rfl) tw_853 (fun ad => rfl)) ?_
  refine G_st (x_iload_n dX7_saucerIs_11 rfl) ?_
  refine G_st (x_aload_n dX7_saucerIs_12 rfl) ?_
  refine G_st (x_get (k := 6) (aR (0, 31)) dX7_saucerIs_13 (H0_29 29 (Nat.le_of_ble_eq_true rfl) (Nat.le_of_ble_eq_true rfl)) rfl rfl rfl rfl inTX7 (Nat.le_of_ble_eq_true rfl) tw_853 (fun ad => rfl)) ?_
  refine G_st (x_iload_n dX7_saucerIs_16 rfl) ?_
  refine G_chk (fun c3 => ?_)
  refine G_st (x_iaload dX7_saucerIs_17 (H0_29 31 (Nat.le_of_ble_eq_true rfl) (Nat.le_of_ble_eq_true rfl)) rfl c3) ?_
  refine G_st (x_iload_n dX7_saucerIs_18 rfl) ?_
  refine G_bd (fun x4 t5 h6 => ?_)
  refine G_st (x_callS [aI v1, aR (0, 31)] (c_X7_lesser ids Hn (t2 (0, 31) (v1).toNatClampNeg) v2  _ _ _ h6) dX7_saucerIs_19 tw_1062 kc_X7_lesser rfl ⟨Nat.le_of_ble_eq_true rfl, Nat.le_of_ble_eq_true rfl⟩ (Nat.le_of_ble_eq_true rfl) rfl) ?_
  refine G_chk (fun c7 => ?_)
  refine G_st (x_iastore dX7_saucerIs_22 (H0_29 31 (Nat.le_of_ble_eq_true rfl) (Nat.le_of_ble_eq_true rfl)) rfl c7) ?_
  refine G_bvS (fun t8 => ?_)
  exact G_ret rfl ⟨rfl, dX7_saucerIs_23⟩ rfl
set_option maxRecDepth 100000 in
set_option maxHeartbeats 4000000 in
theorem c_X7_saucerIs (ids : List (Nat × Nat)) (Hn : Ndp ids) (v1 : Int32) (v2 : Int32) (H0_29 : InR ids 0 29 56) (t0 : Sg) (r : Unit) (t1 : Sg) (hf : f_X7_saucerIs v1 v2 t0 = some (r, t1)) : Mt0 mX7_saucerIs yX7_saucerIs ids [aR (0, 29), aI v1, aI v2] t0 none t1 :=
  Mt_of (x := (r, t1)) (g_X7_saucerIs ids Hn v1 v2 H0_29 t0) hf (fun _ _ => trivial) (by decide) rfl Hn (fun _ => rfl) (fun _ => Nat.le_of_ble_eq_true rfl)
theorem dX7_flatComes_0 : decode cX7_flatComes 0 = .ok (.aload_n 0, 1) := by decide +kernel
theorem dX7_flatComes_1 : decode cX7_flatComes 1 = .ok (.aload_n 0, 1) := by decide +kernel
theorem dX7_flatComes_2 : decode cX7_flatComes 2 = .ok (.getfield 80, 3) := by decide +kernel
theorem dX7_flatComes_5 : decode cX7_flatComes 5 = .ok (.iload_n 2, 1) := by decide +kernel
theorem dX7_flatComes_6 : decode cX7_flatComes 6 = .ok (.iaload, 1) := by decide +kernel
theorem dX7_flatComes_7 : decode cX7_flatComes 7 = .ok (.invokevirtual 213, 3) := by decide +kernel
theorem dX7_flatComes_10 : decode cX7_flatComes 10 = .ok (.istore_n 3, 1) := by decide +kernel
theorem dX7_flatComes_11 : decode cX7_flatComes 11 = .ok (.iload_n 3, 1) := by decide +kernel
theorem dX7_flatComes_12 : decode cX7_flatComes 12 = .ok (.ifCond .ge 5, 3) := by decide +kernel
theorem dX7_flatComes_15 : decode cX7_flatComes 15 = .ok (.iconst 0, 1) := by decide +kernel
theorem dX7_flatComes_16 : decode cX7_flatComes 16 = .ok (.ireturn, 1) := by decide +kernel
theorem dX7_flatComes_17 : decode cX7_flatComes 17 = .ok (.iload_n 1, 1) := by decide +kernel
theorem dX7_flatComes_18 : decode cX7_flatComes 18 = .ok (.bipush 115, 2) := by decide +kernel
theorem dX7_flatComes_20 : decode cX7_flatComes 20 = .ok (.if_icmp .ne 19, 3) := by decide +kernel
theorem dX7_flatComes_23 : decode cX7_flatComes 23 = .ok (.aload_n 0, 1) := by decide +kernel
theorem dX7_flatComes_24 : decode cX7_flatComes 24 = .ok (.iload_n 3, 1) := by decide +kernel
theorem dX7_flatComes_25 : decode cX7_flatComes 25 = .ok (.aload_n 0, 1) := by decide +kernel
theorem dX7_flatComes_26 : decode cX7_flatComes 26 = .ok (.getfield 80, 3) := by decide +kernel
theorem dX7_flatComes_29 : decode cX7_flatComes 29 = .ok (.iload_n 2, 1) := by decide +kernel
theorem dX7_flatComes_30 : decode cX7_flatComes 30 = .ok (.iconst 1, 1) := by decide +kernel
theorem dX7_flatComes_31 : decode cX7_flatComes 31 = .ok (.iadd, 1) := by decide +kernel
theorem dX7_flatComes_32 : decode cX7_flatComes 32 = .ok (.iaload, 1) := by decide +kernel
theorem dX7_flatComes_33 : decode cX7_flatComes 33 = .ok (.invokevirtual 216, 3) := by decide +kernel
theorem dX7_flatComes_36 : decode cX7_flatComes 36 = .ok (.goto 54, 3) := by decide +kernel
theorem dX7_flatComes_39 : decode cX7_flatComes 39 = .ok (.iload_n 1, 1) := by decide +kernel
theorem dX7_flatComes_40 : decode cX7_flatComes 40 = .ok (.bipush 97, 2) := by decide +kernel
theorem dX7_flatComes_42 : decode cX7_flatComes 42 = .ok (.if_icmp .ne 20, 3) := by decide +kernel
theorem dX7_flatComes_45 : decode cX7_flatComes 45 = .ok (.aload_n 0, 1) := by decide +kernel
theorem dX7_flatComes_46 : decode cX7_flatComes 46 = .ok (.getfield 23, 3) := by decide +kernel
theorem dX7_flatComes_49 : decode cX7_flatComes 49 = .ok (.iload_n 3, 1) := by decide +kernel
theorem dX7_flatComes_50 : decode cX7_flatComes 50 = .ok (.aload_n 0, 1) := by decide +kernel
theorem dX7_flatComes_51 : decode cX7_flatComes 51 = .ok (.getfield 80, 3) := by decide +kernel
theorem dX7_flatComes_54 : decode cX7_flatComes 54 = .ok (.iload_n 2, 1) := by decide +kernel
theorem dX7_flatComes_55 : decode cX7_flatComes 55 = .ok (.iconst 1, 1) := by decide +kernel
theorem dX7_flatComes_56 : decode cX7_flatComes 56 = .ok (.iadd, 1) := by decide +kernel
theorem dX7_flatComes_57 : decode cX7_flatComes 57 = .ok (.iaload, 1) := by decide +kernel
theorem dX7_flatComes_58 : decode cX7_flatComes 58 = .ok (.iastore, 1) := by decide +kernel
theorem dX7_flatComes_59 : decode cX7_flatComes 59 = .ok (.goto 31, 3) := by decide +kernel
theorem dX7_flatComes_62 : decode cX7_flatComes 62 = .ok (.aload_n 0, 1) := by decide +kernel
theorem dX7_flatComes_63 : decode cX7_flatComes 63 = .ok (.getfield 26, 3) := by decide +kernel
theorem dX7_flatComes_66 : decode cX7_flatComes 66 = .ok (.iload_n 3, 1) := by decide +kernel
theorem dX7_flatComes_67 : decode cX7_flatComes 67 = .ok (.aload_n 0, 1) := by decide +kernel
theorem dX7_flatComes_68 : decode cX7_flatComes 68 = .ok (.getfield 80, 3) := by decide +kernel
theorem dX7_flatComes_71 : decode cX7_flatComes 71 = .ok (.iload_n 2, 1) := by decide +kernel
theorem dX7_flatComes_72 : decode cX7_flatComes 72 = .ok (.iconst 1, 1) := by decide +kernel
theorem dX7_flatComes_73 : decode cX7_flatComes 73 = .ok (.iadd, 1) := by decide +kernel
theorem dX7_flatComes_74 : decode cX7_flatComes 74 = .ok (.iaload, 1) := by decide +kernel
theorem dX7_flatComes_75 : decode cX7_flatComes 75 = .ok (.iastore, 1) := by decide +kernel
theorem dX7_flatComes_76 : decode cX7_flatComes 76 = .ok (.aload_n 0, 1) := by decide +kernel
theorem dX7_flatComes_77 : decode cX7_flatComes 77 = .ok (.getfield 29, 3) := by decide +kernel
theorem dX7_flatComes_80 : decode cX7_flatComes 80 = .ok (.iload_n 3, 1) := by decide +kernel
theorem dX7_flatComes_81 : decode cX7_flatComes 81 = .ok (.aload_n 0, 1) := by decide +kernel
theorem dX7_flatComes_82 : decode cX7_flatComes 82 = .ok (.getfield 80, 3) := by decide +kernel
theorem dX7_flatComes_85 : decode cX7_flatComes 85 = .ok (.iload_n 2, 1) := by decide +kernel
theorem dX7_flatComes_86 : decode cX7_flatComes 86 = .ok (.iconst 2, 1) := by decide +kernel
theorem dX7_flatComes_87 : decode cX7_flatComes 87 = .ok (.iadd, 1) := by decide +kernel
theorem dX7_flatComes_88 : decode cX7_flatComes 88 = .ok (.iaload, 1) := by decide +kernel
theorem dX7_flatComes_89 : decode cX7_flatComes 89 = .ok (.iastore, 1) := by decide +kernel
theorem dX7_flatComes_90 : decode cX7_flatComes 90 = .ok (.iconst 1, 1) := by decide +kernel
theorem dX7_flatComes_91 : decode cX7_flatComes 91 = .ok (.ireturn, 1) := by decide +kernel
set_option maxRecDepth 100000 in
set_option maxHeartbeats 4000000 in
theorem g_X7_flatComes (ids : List (Nat × Nat)) (Hn : Ndp ids) (v1 : Int32) (v2 : Int32) (H0_29 : InR ids 0 29 56) (t0 : Sg) : Gj kI mX7_flatComes ids 0 [some (aR (0, 29)), some (aI v1), some (aI v2), none] [] t0 (f_X7_flatComes v1 v2 t0) := by
  unfold f_X7_flatComes
  refine G_st (x_aload_n dX7_flatComes_0 rfl) ?_
  refine G_st (x_aload_n dX7_flatComes_1 rfl) ?_
  refine G_st (x_get (k := 32) (aR (0, 51)) dX7_flatComes_2 (H0_29 29 (Nat.le_of_ble_eq_true rfl) (Nat.le_of_ble_eq_true rfl)) rfl rfl rfl rfl inTX7 (Nat.le_of_ble_eq_true rfl) tw_879 (fun ad => rfl)) ?_
  refine G_st (x_iload_n dX7_flatComes_5 rfl) ?_
  refine G_chk (fun c1 => ?_)
  refine G_st (x_iaload dX7_flatComes_6 (H0_29 51 (Nat.le_of_ble_eq_true rfl) (Nat.le_of_ble_eq_true rfl)) rfl c1) ?_
  refine G_bd (fun x2 t3 h4 => ?_)
  refine G_st (x_callV [] (c_X7_flatAt ids Hn (t0 (0, 51) (v2).toNatClampNeg) H0_29 _ _ _ h4) dX7_flatComes_7 tw_1054 kc_X7_flatAt (H0_29 29 (Nat.le_of_ble_eq_true rfl) (Nat.le_of_ble_eq_true rfl)) rfl rfl rfl rfl ⟨Nat.le_of_ble_eq_true rfl, Nat.le_of_ble_eq_true rfl⟩ (Nat.le_of_ble_eq_true rfl) rfl) ?_
  refine G_st (x_istore_n [some (aR (0, 29)), some (aI v1), some (aI v2), some (aI x2)] dX7_flatComes_10 (Nat.le_of_ble_eq_true rfl) rfl rfl) ?_
  refine G_st (x_iload_n dX7_flatComes_11 rfl) ?_
  refine G_ite (fun c5 => ?_) (fun c5 => ?_)
  · refine G_st (x_if_ge_t (tgt := 17) dX7_flatComes_12 (by decide) c5) ?_
    refine G_st (x_iload_n dX7_flatComes_17 rfl) ?_
    refine G_st (x_bipush (115 : Int32) dX7_flatComes_18 rfl) ?_
    refine G_ite (fun c6 => ?_) (fun c6 => ?_)
    · refine G_st (x_icmp_ne_f 39 dX7_flatComes_20 (by decide) c6) ?_
      refine G_st (x_aload_n dX7_flatComes_23 rfl) ?_
      refine G_st (x_iload_n dX7_flatComes_24 rfl) ?_
      refine G_st (x_aload_n dX7_flatComes_25 rfl) ?_
      refine G_st (x_get (k := 32) (aR (0, 51)) dX7_flatComes_26 (H0_29 29 (Nat.le_of_ble_eq_true rfl) (Nat.le_of_ble_eq_true rfl)) rfl rfl rfl rfl inTX7 (Nat.le_of_ble_eq_true rfl) tw_879 (fun ad => rfl)) ?_
      refine G_st (x_iload_n dX7_flatComes_29 rfl) ?_
      refine G_st (x_iconst (1 : Int32) dX7_flatComes_30 rfl) ?_
      refine G_st (x_iadd dX7_flatComes_31) ?_
      refine G_chk (fun c7 => ?_)
      refine G_st (x_iaload dX7_flatComes_32 (H0_29 51 (Nat.le_of_ble_eq_true rfl) (Nat.le_of_ble_eq_true rfl)) rfl c7) ?_
      refine G_bd (fun _ t9 h10 => ?_)
      refine G_st (x_callV [] (c_X7_saucerIs ids Hn x2 (t3 (0, 51) ((v2 + (1 : Int32))).toNatClampNeg) H0_29 _ _ _ h10) dX7_flatComes_33 tw_1058 kc_X7_saucerIs (H0_29 29 (Nat.le_of_ble_eq_true rfl) (Nat.le_of_ble_eq_true rfl)) rfl rfl rfl rfl ⟨Nat.le_of_ble_eq_true rfl, Nat.le_of_ble_eq_true rfl⟩ (Nat.le_of_ble_eq_true rfl) rfl) ?_
      refine G_st (x_goto (tgt := 90) dX7_flatComes_36 (by decide)) ?_
      refine G_st (x_iconst (1 : Int32) dX7_flatComes_90 rfl) ?_
      exact G_ret rfl ⟨dX7_flatComes_91, _, rfl, nar_b (Or.inr rfl)⟩ rfl
    · refine G_st (x_icmp_ne_t (tgt := 39) dX7_flatComes_20 (by decide) c6) ?_
      refine G_st (x_iload_n dX7_flatComes_39 rfl) ?_
      refine G_st (x_bipush (97 : Int32) dX7_flatComes_40 rfl) ?_
      refine G_ite (fun c11 => ?_) (fun c11 => ?_)
      · refine G_st (x_icmp_ne_f 62 dX7_flatComes_42 (by decide) c11) ?_
        refine G_st (x_aload_n dX7_flatComes_45 rfl) ?_
        refine G_st (x_get (k := 7) (aR (0, 32)) dX7_flatComes_46 (H0_29 29 (Nat.le_of_ble_eq_true rfl) (Nat.le_of_ble_eq_true rfl)) rfl rfl rfl rfl inTX7 (Nat.le_of_ble_eq_true rfl) tw_854 (fun ad => rfl)) ?_
        refine G_st (x_iload_n dX7_flatComes_49 rfl) ?_
        refine G_st (x_aload_n dX7_flatComes_50 rfl) ?_
        refine G_st (x_get (k := 32) (aR (0, 51)) dX7_flatComes_51 (H0_29 29 (Nat.le_of_ble_eq_true rfl) (Nat.le_of_ble_eq_true rfl)) rfl rfl rfl rfl inTX7 (Nat.le_of_ble_eq_true rfl) tw_879 (fun ad => rfl)) ?_
        refine G_st (x_iload_n dX7_flatComes_54 rfl) ?_
        refine G_st (x_iconst (1 : Int32) dX7_flatComes_55 rfl) ?_
        refine G_st (x_iadd dX7_flatComes_56) ?_
        refine G_chk (fun c12 => ?_)
        refine G_st (x_iaload dX7_flatComes_57 (H0_29 51 (Nat.le_of_ble_eq_true rfl) (Nat.le_of_ble_eq_true rfl)) rfl c12) ?_
        refine G_chk (fun c13 => ?_)
        refine G_st (x_iastore dX7_flatComes_58 (H0_29 32 (Nat.le_of_ble_eq_true rfl) (Nat.le_of_ble_eq_true rfl)) rfl c13) ?_
        refine G_bvS (fun t14 => ?_)
        refine G_st (x_goto (tgt := 90) dX7_flatComes_59 (by decide)) ?_
        refine G_st (x_iconst (1 : Int32) dX7_flatComes_90 rfl) ?_
        exact G_ret rfl ⟨dX7_flatComes_91, _, rfl, nar_b (Or.inr rfl)⟩ rfl
      · refine G_st (x_icmp_ne_t (tgt := 62) dX7_flatComes_42 (by decide) c11) ?_
        refine G_st (x_aload_n dX7_flatComes_62 rfl) ?_
        refine G_st (x_get (k := 8) (aR (0, 33)) dX7_flatComes_63 (H0_29 29 (Nat.le_of_ble_eq_true rfl) (Nat.le_of_ble_eq_true rfl)) rfl rfl rfl rfl inTX7 (Nat.le_of_ble_eq_true rfl) tw_855 (fun ad => rfl)) ?_
        refine G_st (x_iload_n dX7_flatComes_66 rfl) ?_
        refine G_st (x_aload_n dX7_flatComes_67 rfl) ?_
        refine G_st (x_get (k := 32) (aR (0, 51)) dX7_flatComes_68 (H0_29 29 (Nat.le_of_ble_eq_true rfl) (Nat.le_of_ble_eq_true rfl)) rfl rfl rfl rfl inTX7 (Nat.le_of_ble_eq_true rfl) tw_879 (fun ad => rfl)) ?_
        refine G_st (x_iload_n dX7_flatComes_71 rfl) ?_
        refine G_st (x_iconst (1 : Int32) dX7_flatComes_72 rfl) ?_
        refine G_st (x_iadd dX7_flatComes_73) ?_
        refine G_chk (fun c15 => ?_)
        refine G_st (x_iaload dX7_flatComes_74 (H0_29 51 (Nat.le_of_ble_eq_true rfl) (Nat.le_of_ble_eq_true rfl)) rfl c15) ?_
        refine G_chk (fun c16 => ?_)
        refine G_st (x_iastore dX7_flatComes_75 (H0_29 33 (Nat.le_of_ble_eq_true rfl) (Nat.le_of_ble_eq_true rfl)) rfl c16) ?_
        refine G_bvS (fun t17 => ?_)
        refine G_st (x_aload_n dX7_flatComes_76 rfl) ?_
        refine G_st (x_get (k := 9) (aR (0, 34)) dX7_flatComes_77 (H0_29 29 (Nat.le_of_ble_eq_true rfl) (Nat.le_of_ble_eq_true rfl)) rfl rfl rfl rfl inTX7 (Nat.le_of_ble_eq_true rfl) tw_856 (fun ad => rfl)) ?_
        refine G_st (x_iload_n dX7_flatComes_80 rfl) ?_
        refine G_st (x_aload_n dX7_flatComes_81 rfl) ?_
        refine G_st (x_get (k := 32) (aR (0, 51)) dX7_flatComes_82 (H0_29 29 (Nat.le_of_ble_eq_true rfl) (Nat.le_of_ble_eq_true rfl)) rfl rfl rfl rfl inTX7 (Nat.le_of_ble_eq_true rfl) tw_879 (fun ad => rfl)) ?_
        refine G_st (x_iload_n dX7_flatComes_85 rfl) ?_
        refine G_st (x_iconst (2 : Int32) dX7_flatComes_86 rfl) ?_
        refine G_st (x_iadd dX7_flatComes_87) ?_
        refine G_chk (fun c18 => ?_)
        refine G_st (x_iaload dX7_flatComes_88 (H0_29 51 (Nat.le_of_ble_eq_true rfl) (Nat.le_of_ble_eq_true rfl)) rfl c18) ?_
        refine G_chk (fun c19 => ?_)
        refine G_st (x_iastore dX7_flatComes_89 (H0_29 34 (Nat.le_of_ble_eq_true rfl) (Nat.le_of_ble_eq_true rfl)) rfl c19) ?_
        refine G_bvS (fun t20 => ?_)
        refine G_st (x_iconst (1 : Int32) dX7_flatComes_90 rfl) ?_
        exact G_ret rfl ⟨dX7_flatComes_91, _, rfl, nar_b (Or.inr rfl)⟩ rfl
  · refine G_st (x_if_ge_f 17 dX7_flatComes_12 (by decide) c5) ?_
    refine G_st (x_iconst (0 : Int32) dX7_flatComes_15 rfl) ?_
    exact G_ret rfl ⟨dX7_flatComes_16, _, rfl, nar_b (Or.inl rfl)⟩ rfl
set_option maxRecDepth 100000 in
set_option maxHeartbeats 4000000 in
theorem c_X7_flatComes (ids : List (Nat × Nat)) (Hn : Ndp ids) (v1 : Int32) (v2 : Int32) (H0_29 : InR ids 0 29 56) (t0 : Sg) (r : Int32) (t1 : Sg) (hf : f_X7_flatComes v1 v2 t0 = some (r, t1)) : Mt0 mX7_flatComes yX7_flatComes ids [aR (0, 29), aI v1, aI v2] t0 (some (aI r)) t1 :=
  Mt_of (x := (r, t1)) (g_X7_flatComes ids Hn v1 v2 H0_29 t0) hf (fun _ _ => trivial) (by decide) rfl Hn (fun _ => rfl) (fun _ => Nat.le_of_ble_eq_true rfl)
theorem dX7_comes_0 : decode cX7_comes 0 = .ok (.iconst 4, 1) := by decide +kernel
theorem dX7_comes_1 : decode cX7_comes 1 = .ok (.iload_n 1, 1) := by decide +kernel
theorem dX7_comes_2 : decode cX7_comes 2 = .ok (.imul, 1) := by decide +kernel
theorem dX7_comes_3 : decode cX7_comes 3 = .ok (.istore_n 2, 1) := by decide +kernel
theorem dX7_comes_4 : decode cX7_comes 4 = .ok (.aload_n 0, 1) := by decide +kernel
theorem dX7_comes_5 : decode cX7_comes 5 = .ok (.getfield 77, 3) := by decide +kernel
theorem dX7_comes_8 : decode cX7_comes 8 = .ok (.iload_n 1, 1) := by decide +kernel
theorem dX7_comes_9 : decode cX7_comes 9 = .ok (.iaload, 1) := by decide +kernel
theorem dX7_comes_10 : decode cX7_comes 10 = .ok (.lookupswitch 71 #[(98, 53), (102, 34), (104, 65)], 34) := by decide +kernel
theorem dX7_comes_44 : decode cX7_comes 44 = .ok (.aload_n 0, 1) := by decide +kernel
theorem dX7_comes_45 : decode cX7_comes 45 = .ok (.aload_n 0, 1) := by decide +kernel
theorem dX7_comes_46 : decode cX7_comes 46 = .ok (.getfield 80, 3) := by decide +kernel
theorem dX7_comes_49 : decode cX7_comes 49 = .ok (.iload_n 2, 1) := by decide +kernel
theorem dX7_comes_50 : decode cX7_comes 50 = .ok (.iaload, 1) := by decide +kernel
theorem dX7_comes_51 : decode cX7_comes 51 = .ok (.aload_n 0, 1) := by decide +kernel
theorem dX7_comes_52 : decode cX7_comes 52 = .ok (.getfield 80, 3) := by decide +kernel
theorem dX7_comes_55 : decode cX7_comes 55 = .ok (.iload_n 2, 1) := by decide +kernel
theorem dX7_comes_56 : decode cX7_comes 56 = .ok (.iconst 1, 1) := by decide +kernel
theorem dX7_comes_57 : decode cX7_comes 57 = .ok (.iadd, 1) := by decide +kernel
theorem dX7_comes_58 : decode cX7_comes 58 = .ok (.iaload, 1) := by decide +kernel
theorem dX7_comes_59 : decode cX7_comes 59 = .ok (.invokevirtual 220, 3) := by decide +kernel
theorem dX7_comes_62 : decode cX7_comes 62 = .ok (.ireturn, 1) := by decide +kernel
theorem dX7_comes_63 : decode cX7_comes 63 = .ok (.aload_n 0, 1) := by decide +kernel
theorem dX7_comes_64 : decode cX7_comes 64 = .ok (.aload_n 0, 1) := by decide +kernel
theorem dX7_comes_65 : decode cX7_comes 65 = .ok (.getfield 80, 3) := by decide +kernel
theorem dX7_comes_68 : decode cX7_comes 68 = .ok (.iload_n 2, 1) := by decide +kernel
theorem dX7_comes_69 : decode cX7_comes 69 = .ok (.iaload, 1) := by decide +kernel
theorem dX7_comes_70 : decode cX7_comes 70 = .ok (.putfield 119, 3) := by decide +kernel
theorem dX7_comes_73 : decode cX7_comes 73 = .ok (.iconst 1, 1) := by decide +kernel
theorem dX7_comes_74 : decode cX7_comes 74 = .ok (.ireturn, 1) := by decide +kernel
theorem dX7_comes_75 : decode cX7_comes 75 = .ok (.aload_n 0, 1) := by decide +kernel
theorem dX7_comes_76 : decode cX7_comes 76 = .ok (.iload_n 2, 1) := by decide +kernel
theorem dX7_comes_77 : decode cX7_comes 77 = .ok (.invokevirtual 224, 3) := by decide +kernel
theorem dX7_comes_80 : decode cX7_comes 80 = .ok (.ireturn, 1) := by decide +kernel
theorem dX7_comes_81 : decode cX7_comes 81 = .ok (.aload_n 0, 1) := by decide +kernel
theorem dX7_comes_82 : decode cX7_comes 82 = .ok (.aload_n 0, 1) := by decide +kernel
theorem dX7_comes_83 : decode cX7_comes 83 = .ok (.getfield 77, 3) := by decide +kernel
theorem dX7_comes_86 : decode cX7_comes 86 = .ok (.iload_n 1, 1) := by decide +kernel
theorem dX7_comes_87 : decode cX7_comes 87 = .ok (.iaload, 1) := by decide +kernel
theorem dX7_comes_88 : decode cX7_comes 88 = .ok (.iload_n 2, 1) := by decide +kernel
theorem dX7_comes_89 : decode cX7_comes 89 = .ok (.invokevirtual 227, 3) := by decide +kernel
theorem dX7_comes_92 : decode cX7_comes 92 = .ok (.ireturn, 1) := by decide +kernel
set_option maxRecDepth 100000 in
set_option maxHeartbeats 4000000 in
theorem g_X7_comes (ids : List (Nat × Nat)) (Hn : Ndp ids) (v1 : Int32) (H0_29 : InR ids 0 29 56) (t0 : Sg) : Gj kI mX7_comes ids 0 [some (aR (0, 29)), some (aI v1), none] [] t0 (f_X7_comes v1 t0) := by
  unfold f_X7_comes
  refine G_st (x_iconst (4 : Int32) dX7_comes_0 rfl) ?_
  refine G_st (x_iload_n dX7_comes_1 rfl) ?_
  refine G_st (x_imul dX7_comes_2) ?_
  refine G_bvI (fun x1 => ?_)
  refine G_st (x_istore_n [some (aR (0, 29)), some (aI v1), some (aI x1)] dX7_comes_3 (Nat.le_of_ble_eq_true rfl) rfl rfl) ?_
  refine G_st (x_aload_n dX7_comes_4 rfl) ?_
  refine G_st (x_get (k := 31) (aR (0, 50)) dX7_comes_5 (H0_29 29 (Nat.le_of_ble_eq_true rfl) (Nat.le_of_ble_eq_true rfl)) rfl rfl rfl rfl inTX7 (Nat.le_of_ble_eq_true rfl) tw_878 (fun ad => rfl)) ?_
  refine G_st (x_iload_n dX7_comes_8 rfl) ?_
  refine G_chk (fun c2 => ?_)
  refine G_st (x_iaload dX7_comes_9 (H0_29 50 (Nat.le_of_ble_eq_true rfl) (Nat.le_of_ble_eq_true rfl)) rfl c2) ?_
  refine G_bvI (fun x3 => ?_)
  refine G_ite (fun c4 => ?_) (fun c4 => ?_)
  · refine G_st (x_look (off := (53)) (tgt := 63) dX7_comes_10 (by decide) (by rw [c4] <;> rfl) (by decide)) ?_
    refine G_st (x_aload_n dX7_comes_63 rfl) ?_
    refine G_st (x_aload_n dX7_comes_64 rfl) ?_
    refine G_st (x_get (k := 32) (aR (0, 51)) dX7_comes_65 (H0_29 29 (Nat.le_of_ble_eq_true rfl) (Nat.le_of_ble_eq_true rfl)) rfl rfl rfl rfl inTX7 (Nat.le_of_ble_eq_true rfl) tw_879 (fun ad => rfl)) ?_
    refine G_st (x_iload_n dX7_comes_68 rfl) ?_
    refine G_chk (fun c5 => ?_)
    refine G_st (x_iaload dX7_comes_69 (H0_29 51 (Nat.le_of_ble_eq_true rfl) (Nat.le_of_ble_eq_true rfl)) rfl c5) ?_
    refine G_st (x_put (k := 2) (ty := .int) (v := aI (t0 (0, 51) (x1).toNatClampNeg)) (z := (t0 (0, 51) (x1).toNatClampNeg)) (upS t0 (0, 29) 2 (t0 (0, 51) (x1).toNatClampNeg)) dX7_comes_70 (H0_29 29 (Nat.le_of_ble_eq_true rfl) (Nat.le_of_ble_eq_true rfl)) rfl rfl rfl rfl inTX7 tyX7_ok nmX7 (Nat.le_of_ble_eq_true rfl) tw_849 rfl rfl (fun ad => rfl) (fun ad => rfl) (fun ad => put_i0 ad _ _ _ _ rfl) rfl) ?_
    refine G_bvS (fun t6 => ?_)
    refine G_st (x_iconst (1 : Int32) dX7_comes_73 rfl) ?_
    exact G_ret rfl ⟨dX7_comes_74, _, rfl, nar_b (Or.inr rfl)⟩ rfl
  refine G_ite (fun c7 => ?_) (fun c7 => ?_)
  · refine G_st (x_look (off := (34)) (tgt := 44) dX7_comes_10 (by decide) (by rw [c7] <;> rfl) (by decide)) ?_
    refine G_st (x_aload_n dX7_comes_44 rfl) ?_
    refine G_st (x_aload_n dX7_comes_45 rfl) ?_
    refine G_st (x_get (k := 32) (aR (0, 51)) dX7_comes_46 (H0_29 29 (Nat.le_of_ble_eq_true rfl) (Nat.le_of_ble_eq_true rfl)) rfl rfl rfl rfl inTX7 (Nat.le_of_ble_eq_true rfl) tw_879 (fun ad => rfl)) ?_
    refine G_st (x_iload_n dX7_comes_49 rfl) ?_
    refine G_chk (fun c8 => ?_)
    refine G_st (x_iaload dX7_comes_50 (H0_29 51 (Nat.le_of_ble_eq_true rfl) (Nat.le_of_ble_eq_true rfl)) rfl c8) ?_
    refine G_st (x_aload_n dX7_comes_51 rfl) ?_
    refine G_st (x_get (k := 32) (aR (0, 51)) dX7_comes_52 (H0_29 29 (Nat.le_of_ble_eq_true rfl) (Nat.le_of_ble_eq_true rfl)) rfl rfl rfl rfl inTX7 (Nat.le_of_ble_eq_true rfl) tw_879 (fun ad => rfl)) ?_
    refine G_st (x_iload_n dX7_comes_55 rfl) ?_
    refine G_st (x_iconst (1 : Int32) dX7_comes_56 rfl) ?_
    refine G_st (x_iadd dX7_comes_57) ?_
    refine G_chk (fun c9 => ?_)
    refine G_st (x_iaload dX7_comes_58 (H0_29 51 (Nat.le_of_ble_eq_true rfl) (Nat.le_of_ble_eq_true rfl)) rfl c9) ?_
    refine G_bd (fun x10 t11 h12 => ?_)
    refine G_st (x_callV [] (c_X7_frontComes ids Hn (t0 (0, 51) (x1).toNatClampNeg) (t0 (0, 51) ((x1 + (1 : Int32))).toNatClampNeg) H0_29 _ _ _ h12) dX7_comes_59 tw_1035 kc_X7_frontComes (H0_29 29 (Nat.le_of_ble_eq_true rfl) (Nat.le_of_ble_eq_true rfl)) rfl rfl rfl rfl ⟨Nat.le_of_ble_eq_true rfl, Nat.le_of_ble_eq_true rfl⟩ (Nat.le_of_ble_eq_true rfl) rfl) ?_
    refine G_chk (fun c13 => ?_)
    exact G_ret rfl ⟨dX7_comes_62, _, rfl, nar_b c13⟩ rfl
  refine G_ite (fun c14 => ?_) (fun c14 => ?_)
  · refine G_st (x_look (off := (65)) (tgt := 75) dX7_comes_10 (by decide) (by rw [c14] <;> rfl) (by decide)) ?_
    refine G_st (x_aload_n dX7_comes_75 rfl) ?_
    refine G_st (x_iload_n dX7_comes_76 rfl) ?_
    refine G_bd (fun x15 t16 h17 => ?_)
    refine G_st (x_callV [] (c_X7_habitComes ids Hn x1 H0_29 _ _ _ h17) dX7_comes_77 tw_1042 kc_X7_habitComes (H0_29 29 (Nat.le_of_ble_eq_true rfl) (Nat.le_of_ble_eq_true rfl)) rfl rfl rfl rfl ⟨Nat.le_of_ble_eq_true rfl, Nat.le_of_ble_eq_true rfl⟩ (Nat.le_of_ble_eq_true rfl) rfl) ?_
    refine G_chk (fun c18 => ?_)
    exact G_ret rfl ⟨dX7_comes_80, _, rfl, nar_b c18⟩ rfl
  refine G_st (x_look (off := (71)) (tgt := 81) dX7_comes_10 (by decide) (by refine (lv_osw c4 rfl).trans ?_; refine (lv_osw c7 rfl).trans ?_; refine (lv_osw c14 rfl).trans ?_; rfl) (by decide)) ?_
  refine G_st (x_aload_n dX7_comes_81 rfl) ?_
  refine G_st (x_aload_n dX7_comes_82 rfl) ?_
  refine G_st (x_get (k := 31) (aR (0, 50)) dX7_comes_83 (H0_29 29 (Nat.le_of_ble_eq_true rfl) (Nat.le_of_ble_eq_true rfl)) rfl rfl rfl rfl inTX7 (Nat.le_of_ble_eq_true rfl) tw_878 (fun ad => rfl)) ?_
  refine G_st (x_iload_n dX7_comes_86 rfl) ?_
  refine G_chk (fun c19 => ?_)
  refine G_st (x_iaload dX7_comes_87 (H0_29 50 (Nat.le_of_ble_eq_true rfl) (Nat.le_of_ble_eq_true rfl)) rfl c19) ?_
  refine G_st (x_iload_n dX7_comes_88 rfl) ?_
  refine G_bd (fun x20 t21 h22 => ?_)
  refine G_st (x_callV [] (c_X7_flatComes ids Hn (t0 (0, 50) (v1).toNatClampNeg) x1 H0_29 _ _ _ h22) dX7_comes_89 tw_1050 kc_X7_flatComes (H0_29 29 (Nat.le_of_ble_eq_true rfl) (Nat.le_of_ble_eq_true rfl)) rfl rfl rfl rfl ⟨Nat.le_of_ble_eq_true rfl, Nat.le_of_ble_eq_true rfl⟩ (Nat.le_of_ble_eq_true rfl) rfl) ?_
  refine G_chk (fun c23 => ?_)
  exact G_ret rfl ⟨dX7_comes_92, _, rfl, nar_b c23⟩ rfl
set_option maxRecDepth 100000 in
set_option maxHeartbeats 4000000 in
theorem c_X7_comes (ids : List (Nat × Nat)) (Hn : Ndp ids) (v1 : Int32) (H0_29 : InR ids 0 29 56) (t0 : Sg) (r : Int32) (t1 : Sg) (hf : f_X7_comes v1 t0 = some (r, t1)) : Mt0 mX7_comes yX7_comes ids [aR (0, 29), aI v1] t0 (some (aI r)) t1 :=
  Mt_of (x := (r, t1)) (g_X7_comes ids Hn v1 H0_29 t0) hf (fun _ _ => trivial) (by decide) rfl Hn (fun _ => rfl) (fun _ => Nat.le_of_ble_eq_true rfl)
theorem dX7_carry_0 : decode cX7_carry 0 = .ok (.aload_n 0, 1) := by decide +kernel
theorem dX7_carry_1 : decode cX7_carry 1 = .ok (.getfield 240, 3) := by decide +kernel
theorem dX7_carry_4 : decode cX7_carry 4 = .ok (.ifCond .eq 13, 3) := by decide +kernel
theorem dX7_carry_7 : decode cX7_carry 7 = .ok (.aload_n 0, 1) := by decide +kernel
theorem dX7_carry_8 : decode cX7_carry 8 = .ok (.getfield 243, 3) := by decide +kernel
theorem dX7_carry_11 : decode cX7_carry 11 = .ok (.aload_n 0, 1) := by decide +kernel
theorem dX7_carry_12 : decode cX7_carry 12 = .ok (.getfield 246, 3) := by decide +kernel
theorem dX7_carry_15 : decode cX7_carry 15 = .ok (.iload_n 1, 1) := by decide +kernel
theorem dX7_carry_16 : decode cX7_carry 16 = .ok (.iastore, 1) := by decide +kernel
theorem dX7_carry_17 : decode cX7_carry 17 = .ok (.aload_n 0, 1) := by decide +kernel
theorem dX7_carry_18 : decode cX7_carry 18 = .ok (.dup, 1) := by decide +kernel
theorem dX7_carry_19 : decode cX7_carry 19 = .ok (.getfield 246, 3) := by decide +kernel
theorem dX7_carry_22 : decode cX7_carry 22 = .ok (.iconst 1, 1) := by decide +kernel
theorem dX7_carry_23 : decode cX7_carry 23 = .ok (.iadd, 1) := by decide +kernel
theorem dX7_carry_24 : decode cX7_carry 24 = .ok (.putfield 246, 3) := by decide +kernel
theorem dX7_carry_27 : decode cX7_carry 27 = .ok (.aload_n 0, 1) := by decide +kernel
theorem dX7_carry_28 : decode cX7_carry 28 = .ok (.getfield 243, 3) := by decide +kernel
theorem dX7_carry_31 : decode cX7_carry 31 = .ok (.aload_n 0, 1) := by decide +kernel
theorem dX7_carry_32 : decode cX7_carry 32 = .ok (.getfield 246, 3) := by decide +kernel
theorem dX7_carry_35 : decode cX7_carry 35 = .ok (.iconst 1, 1) := by decide +kernel
theorem dX7_carry_36 : decode cX7_carry 36 = .ok (.isub, 1) := by decide +kernel
theorem dX7_carry_37 : decode cX7_carry 37 = .ok (.iaload, 1) := by decide +kernel
theorem dX7_carry_38 : decode cX7_carry 38 = .ok (.ireturn, 1) := by decide +kernel
set_option maxRecDepth 100000 in
set_option maxHeartbeats 4000000 in
theorem g_X7_carry_17 (ids : List (Nat × Nat)) (Hn : Ndp ids)  (H0_29 : InR ids 0 29 56)   (t0 : Sg) : Gj kI mX7_carry ids 17 [some (aR (0, 29)), none] [] t0 (f_X7_carry_17 t0) := by
  unfold f_X7_carry_17
  refine G_st (x_aload_n dX7_carry_17 rfl) ?_
  refine G_st (x_dup dX7_carry_18 rfl) ?_
  refine G_st (x_get (k := 36) (aI (t0 (0, 29) 36)) dX7_carry_19 (H0_29 29 (Nat.le_of_ble_eq_true rfl) (Nat.le_of_ble_eq_true rfl)) rfl rfl rfl rfl inTX7 (Nat.le_of_ble_eq_true rfl) tw_883 (fun ad => rfl)) ?_
  refine G_st (x_iconst (1 : Int32) dX7_carry_22 rfl) ?_
  refine G_st (x_iadd dX7_carry_23) ?_
  refine G_st (x_put (k := 36) (ty := .int) (v := aI ((t0 (0, 29) 36) + (1 : Int32))) (z := ((t0 (0, 29) 36) + (1 : Int32))) (upS t0 (0, 29) 36 ((t0 (0, 29) 36) + (1 : Int32))) dX7_carry_24 (H0_29 29 (Nat.le_of_ble_eq_true rfl) (Nat.le_of_ble_eq_true rfl)) rfl rfl rfl rfl inTX7 tyX7_ok nmX7 (Nat.le_of_ble_eq_true rfl) tw_883 rfl rfl (fun ad => rfl) (fun ad => rfl) (fun ad => put_i0 ad _ _ _ _ rfl) rfl) ?_
  refine G_bvS (fun t2 => ?_)
  refine G_st (x_aload_n dX7_carry_27 rfl) ?_
  refine G_chk (fun c3 => ?_)
  refine G_st (x_get (k := 38) (aR (dynId (t2 (0, 29) 38))) dX7_carry_28 (H0_29 29 (Nat.le_of_ble_eq_true rfl) (Nat.le_of_ble_eq_true rfl)) rfl rfl rfl rfl inTX7 (Nat.le_of_ble_eq_true rfl) tw_885 (fun ad => dyn_v c3 ad)) ?_
  refine G_st (x_aload_n dX7_carry_31 rfl) ?_
  refine G_st (x_get (k := 36) (aI (t2 (0, 29) 36)) dX7_carry_32 (H0_29 29 (Nat.le_of_ble_eq_true rfl) (Nat.le_of_ble_eq_true rfl)) rfl rfl rfl rfl inTX7 (Nat.le_of_ble_eq_true rfl) tw_883 (fun ad => rfl)) ?_
  refine G_st (x_iconst (1 : Int32) dX7_carry_35 rfl) ?_
  refine G_st (x_isub dX7_carry_36) ?_
  refine G_chk (fun c4 => ?_)
  refine G_st (x_iaload dX7_carry_37 (dyn_in (H0_29 52 (Nat.le_of_ble_eq_true rfl) (Nat.le_of_ble_eq_true rfl)) (H0_29 53 (Nat.le_of_ble_eq_true rfl) (Nat.le_of_ble_eq_true rfl))) dyn_len c4) ?_
  exact G_ret rfl ⟨dX7_carry_38, _, rfl, rfl⟩ rfl
set_option maxRecDepth 100000 in
set_option maxHeartbeats 4000000 in
theorem g_X7_carry (ids : List (Nat × Nat)) (Hn : Ndp ids) (v1 : Int32) (H0_29 : InR ids 0 29 56) (t0 : Sg) : Gj kI mX7_carry ids 0 [some (aR (0, 29)), some (aI v1)] [] t0 (f_X7_carry v1 t0) := by
  unfold f_X7_carry
  refine G_st (x_aload_n dX7_carry_0 rfl) ?_
  refine G_st (x_get (k := 37) (aI (t0 (0, 29) 37)) dX7_carry_1 (H0_29 29 (Nat.le_of_ble_eq_true rfl) (Nat.le_of_ble_eq_true rfl)) rfl rfl rfl rfl inTX7 (Nat.le_of_ble_eq_true rfl) tw_884 (fun ad => rfl)) ?_
  refine G_ite (fun c1 => ?_) (fun c1 => ?_)
  · refine G_st (x_if_eq_t (tgt := 17) dX7_carry_4 (by decide) c1) ?_
    refine G_weak _ ?_ (g_X7_carry_17 ids Hn H0_29 t0)
    exact (leL_s (leL_n (leL_e _)))
  · refine G_st (x_if_eq_f 17 dX7_carry_4 (by decide) c1) ?_
    refine G_st (x_aload_n dX7_carry_7 rfl) ?_
    refine G_chk (fun c5 => ?_)
    refine G_st (x_get (k := 38) (aR (dynId (t0 (0, 29) 38))) dX7_carry_8 (H0_29 29 (Nat.le_of_ble_eq_true rfl) (Nat.le_of_ble_eq_true rfl)) rfl rfl rfl rfl inTX7 (Nat.le_of_ble_eq_true rfl) tw_885 (fun ad => dyn_v c5 ad)) ?_
    refine G_st (x_aload_n dX7_carry_11 rfl) ?_
    refine G_st (x_get (k := 36) (aI (t0 (0, 29) 36)) dX7_carry_12 (H0_29 29 (Nat.le_of_ble_eq_true rfl) (Nat.le_of_ble_eq_true rfl)) rfl rfl rfl rfl inTX7 (Nat.le_of_ble_eq_true rfl) tw_883 (fun ad => rfl)) ?_
    refine G_st (x_iload_n dX7_carry_15 rfl) ?_
    refine G_chk (fun c6 => ?_)
    refine G_st (x_iastore dX7_carry_16 (dyn_in (H0_29 52 (Nat.le_of_ble_eq_true rfl) (Nat.le_of_ble_eq_true rfl)) (H0_29 53 (Nat.le_of_ble_eq_true rfl) (Nat.le_of_ble_eq_true rfl))) dyn_len c6) ?_
    refine G_bvS (fun t7 => ?_)
    refine G_weak _ ?_ (g_X7_carry_17 ids Hn H0_29 t7)
    exact (leL_s (leL_n (leL_e _)))
set_option maxRecDepth 100000 in
set_option maxHeartbeats 4000000 in
theorem c_X7_carry (ids : List (Nat × Nat)) (Hn : Ndp ids) (v1 : Int32) (H0_29 : InR ids 0 29 56) (t0 : Sg) (r : Int32) (t1 : Sg) (hf : f_X7_carry v1 t0 = some (r, t1)) : Mt0 mX7_carry yX7_carry ids [aR (0, 29), aI v1] t0 (some (aI r)) t1 :=
  Mt_of (x := (r, t1)) (g_X7_carry ids Hn v1 H0_29 t0) hf (fun _ _ => trivial) (by decide) rfl Hn (fun _ => rfl) (fun _ => Nat.le_of_ble_eq_true rfl)
theorem dX7_carryAll_0 : decode cX7_carryAll 0 = .ok (.aload_n 0, 1) := by decide +kernel
theorem dX7_carryAll_1 : decode cX7_carryAll 1 = .ok (.aload_n 1, 1) := by decide +kernel
theorem dX7_carryAll_2 : decode cX7_carryAll 2 = .ok (.putfield 243, 3) := by decide +kernel
theorem dX7_carryAll_5 : decode cX7_carryAll 5 = .ok (.aload_n 0, 1) := by decide +kernel
theorem dX7_carryAll_6 : decode cX7_carryAll 6 = .ok (.iload_n 2, 1) := by decide +kernel
theorem dX7_carryAll_7 : decode cX7_carryAll 7 = .ok (.putfield 240, 3) := by decide +kernel
theorem dX7_carryAll_10 : decode cX7_carryAll 10 = .ok (.aload_n 0, 1) := by decide +kernel
theorem dX7_carryAll_11 : decode cX7_carryAll 11 = .ok (.iconst 0, 1) := by decide +kernel
theorem dX7_carryAll_12 : decode cX7_carryAll 12 = .ok (.putfield 246, 3) := by decide +kernel
theorem dX7_carryAll_15 : decode cX7_carryAll 15 = .ok (.aload_n 0, 1) := by decide +kernel
theorem dX7_carryAll_16 : decode cX7_carryAll 16 = .ok (.aload_n 0, 1) := by decide +kernel
theorem dX7_carryAll_17 : decode cX7_carryAll 17 = .ok (.aload_n 0, 1) := by decide +kernel
theorem dX7_carryAll_18 : decode cX7_carryAll 18 = .ok (.getfield 7, 3) := by decide +kernel
theorem dX7_carryAll_21 : decode cX7_carryAll 21 = .ok (.invokevirtual 249, 3) := by decide +kernel
theorem dX7_carryAll_24 : decode cX7_carryAll 24 = .ok (.putfield 7, 3) := by decide +kernel
theorem dX7_carryAll_27 : decode cX7_carryAll 27 = .ok (.aload_n 0, 1) := by decide +kernel
theorem dX7_carryAll_28 : decode cX7_carryAll 28 = .ok (.aload_n 0, 1) := by decide +kernel
theorem dX7_carryAll_29 : decode cX7_carryAll 29 = .ok (.aload_n 0, 1) := by decide +kernel
theorem dX7_carryAll_30 : decode cX7_carryAll 30 = .ok (.getfield 13, 3) := by decide +kernel
theorem dX7_carryAll_33 : decode cX7_carryAll 33 = .ok (.invokevirtual 249, 3) := by decide +kernel
theorem dX7_carryAll_36 : decode cX7_carryAll 36 = .ok (.putfield 13, 3) := by decide +kernel
theorem dX7_carryAll_39 : decode cX7_carryAll 39 = .ok (.aload_n 0, 1) := by decide +kernel
theorem dX7_carryAll_40 : decode cX7_carryAll 40 = .ok (.aload_n 0, 1) := by decide +kernel
theorem dX7_carryAll_41 : decode cX7_carryAll 41 = .ok (.aload_n 0, 1) := by decide +kernel
theorem dX7_carryAll_42 : decode cX7_carryAll 42 = .ok (.getfield 119, 3) := by decide +kernel
theorem dX7_carryAll_45 : decode cX7_carryAll 45 = .ok (.invokevirtual 249, 3) := by decide +kernel
theorem dX7_carryAll_48 : decode cX7_carryAll 48 = .ok (.putfield 119, 3) := by decide +kernel
theorem dX7_carryAll_51 : decode cX7_carryAll 51 = .ok (.aload_n 0, 1) := by decide +kernel
theorem dX7_carryAll_52 : decode cX7_carryAll 52 = .ok (.aload_n 0, 1) := by decide +kernel
theorem dX7_carryAll_53 : decode cX7_carryAll 53 = .ok (.aload_n 0, 1) := by decide +kernel
theorem dX7_carryAll_54 : decode cX7_carryAll 54 = .ok (.getfield 164, 3) := by decide +kernel
theorem dX7_carryAll_57 : decode cX7_carryAll 57 = .ok (.invokevirtual 249, 3) := by decide +kernel
theorem dX7_carryAll_60 : decode cX7_carryAll 60 = .ok (.putfield 164, 3) := by decide +kernel
theorem dX7_carryAll_63 : decode cX7_carryAll 63 = .ok (.aload_n 0, 1) := by decide +kernel
theorem dX7_carryAll_64 : decode cX7_carryAll 64 = .ok (.aload_n 0, 1) := by decide +kernel
theorem dX7_carryAll_65 : decode cX7_carryAll 65 = .ok (.aload_n 0, 1) := by decide +kernel
theorem dX7_carryAll_66 : decode cX7_carryAll 66 = .ok (.getfield 104, 3) := by decide +kernel
theorem dX7_carryAll_69 : decode cX7_carryAll 69 = .ok (.invokevirtual 249, 3) := by decide +kernel
theorem dX7_carryAll_72 : decode cX7_carryAll 72 = .ok (.putfield 104, 3) := by decide +kernel
theorem dX7_carryAll_75 : decode cX7_carryAll 75 = .ok (.iconst 0, 1) := by decide +kernel
theorem dX7_carryAll_76 : decode cX7_carryAll 76 = .ok (.istore_n 3, 1) := by decide +kernel
theorem dX7_carryAll_77 : decode cX7_carryAll 77 = .ok (.iload_n 3, 1) := by decide +kernel
theorem dX7_carryAll_78 : decode cX7_carryAll 78 = .ok (.bipush 24, 2) := by decide +kernel
theorem dX7_carryAll_80 : decode cX7_carryAll 80 = .ok (.if_icmp .ge 137, 3) := by decide +kernel
theorem dX7_carryAll_83 : decode cX7_carryAll 83 = .ok (.aload_n 0, 1) := by decide +kernel
theorem dX7_carryAll_84 : decode cX7_carryAll 84 = .ok (.getfield 16, 3) := by decide +kernel
theorem dX7_carryAll_87 : decode cX7_carryAll 87 = .ok (.iload_n 3, 1) := by decide +kernel
theorem dX7_carryAll_88 : decode cX7_carryAll 88 = .ok (.aload_n 0, 1) := by decide +kernel
theorem dX7_carryAll_89 : decode cX7_carryAll 89 = .ok (.aload_n 0, 1) := by decide +kernel
theorem dX7_carryAll_90 : decode cX7_carryAll 90 = .ok (.getfield 16, 3) := by decide +kernel
theorem dX7_carryAll_93 : decode cX7_carryAll 93 = .ok (.iload_n 3, 1) := by decide +kernel
theorem dX7_carryAll_94 : decode cX7_carryAll 94 = .ok (.iaload, 1) := by decide +kernel
theorem dX7_carryAll_95 : decode cX7_carryAll 95 = .ok (.invokevirtual 249, 3) := by decide +kernel
theorem dX7_carryAll_98 : decode cX7_carryAll 98 = .ok (.iastore, 1) := by decide +kernel
theorem dX7_carryAll_99 : decode cX7_carryAll 99 = .ok (.aload_n 0, 1) := by decide +kernel
theorem dX7_carryAll_100 : decode cX7_carryAll 100 = .ok (.getfield 20, 3) := by decide +kernel
theorem dX7_carryAll_103 : decode cX7_carryAll 103 = .ok (.iload_n 3, 1) := by decide +kernel
theorem dX7_carryAll_104 : decode cX7_carryAll 104 = .ok (.aload_n 0, 1) := by decide +kernel
theorem dX7_carryAll_105 : decode cX7_carryAll 105 = .ok (.aload_n 0, 1) := by decide +kernel
theorem dX7_carryAll_106 : decode cX7_carryAll 106 = .ok (.getfield 20, 3) := by decide +kernel
theorem dX7_carryAll_109 : decode cX7_carryAll 109 = .ok (.iload_n 3, 1) := by decide +kernel
theorem dX7_carryAll_110 : decode cX7_carryAll 110 = .ok (.iaload, 1) := by decide +kernel
theorem dX7_carryAll_111 : decode cX7_carryAll 111 = .ok (.invokevirtual 249, 3) := by decide +kernel
theorem dX7_carryAll_114 : decode cX7_carryAll 114 = .ok (.iastore, 1) := by decide +kernel
theorem dX7_carryAll_115 : decode cX7_carryAll 115 = .ok (.aload_n 0, 1) := by decide +kernel
theorem dX7_carryAll_116 : decode cX7_carryAll 116 = .ok (.getfield 23, 3) := by decide +kernel
theorem dX7_carryAll_119 : decode cX7_carryAll 119 = .ok (.iload_n 3, 1) := by decide +kernel
theorem dX7_carryAll_120 : decode cX7_carryAll 120 = .ok (.aload_n 0, 1) := by decide +kernel
theorem dX7_carryAll_121 : decode cX7_carryAll 121 = .ok (.aload_n 0, 1) := by decide +kernel
theorem dX7_carryAll_122 : decode cX7_carryAll 122 = .ok (.getfield 23, 3) := by decide +kernel
theorem dX7_carryAll_125 : decode cX7_carryAll 125 = .ok (.iload_n 3, 1) := by decide +kernel
theorem dX7_carryAll_126 : decode cX7_carryAll 126 = .ok (.iaload, 1) := by decide +kernel
theorem dX7_carryAll_127 : decode cX7_carryAll 127 = .ok (.invokevirtual 249, 3) := by decide +kernel
theorem dX7_carryAll_130 : decode cX7_carryAll 130 = .ok (.iastore, 1) := by decide +kernel
theorem dX7_carryAll_131 : decode cX7_carryAll 131 = .ok (.aload_n 0, 1) := by decide +kernel
theorem dX7_carryAll_132 : decode cX7_carryAll 132 = .ok (.getfield 26, 3) := by decide +kernel
theorem dX7_carryAll_135 : decode cX7_carryAll 135 = .ok (.iload_n 3, 1) := by decide +kernel
theorem dX7_carryAll_136 : decode cX7_carryAll 136 = .ok (.aload_n 0, 1) := by decide +kernel
theorem dX7_carryAll_137 : decode cX7_carryAll 137 = .ok (.aload_n 0, 1) := by decide +kernel
theorem dX7_carryAll_138 : decode cX7_carryAll 138 = .ok (.getfield 26, 3) := by decide +kernel
theorem dX7_carryAll_141 : decode cX7_carryAll 141 = .ok (.iload_n 3, 1) := by decide +kernel
theorem dX7_carryAll_142 : decode cX7_carryAll 142 = .ok (.iaload, 1) := by decide +kernel
theorem dX7_carryAll_143 : decode cX7_carryAll 143 = .ok (.invokevirtual 249, 3) := by decide +kernel
theorem dX7_carryAll_146 : decode cX7_carryAll 146 = .ok (.iastore, 1) := by decide +kernel
theorem dX7_carryAll_147 : decode cX7_carryAll 147 = .ok (.aload_n 0, 1) := by decide +kernel
theorem dX7_carryAll_148 : decode cX7_carryAll 148 = .ok (.getfield 29, 3) := by decide +kernel
theorem dX7_carryAll_151 : decode cX7_carryAll 151 = .ok (.iload_n 3, 1) := by decide +kernel
theorem dX7_carryAll_152 : decode cX7_carryAll 152 = .ok (.aload_n 0, 1) := by decide +kernel
theorem dX7_carryAll_153 : decode cX7_carryAll 153 = .ok (.aload_n 0, 1) := by decide +kernel
theorem dX7_carryAll_154 : decode cX7_carryAll 154 = .ok (.getfield 29, 3) := by decide +kernel
theorem dX7_carryAll_157 : decode cX7_carryAll 157 = .ok (.iload_n 3, 1) := by decide +kernel
theorem dX7_carryAll_158 : decode cX7_carryAll 158 = .ok (.iaload, 1) := by decide +kernel
theorem dX7_carryAll_159 : decode cX7_carryAll 159 = .ok (.invokevirtual 249, 3) := by decide +kernel
theorem dX7_carryAll_162 : decode cX7_carryAll 162 = .ok (.iastore, 1) := by decide +kernel
theorem dX7_carryAll_163 : decode cX7_carryAll 163 = .ok (.aload_n 0, 1) := by decide +kernel
theorem dX7_carryAll_164 : decode cX7_carryAll 164 = .ok (.getfield 32, 3) := by decide +kernel
theorem dX7_carryAll_167 : decode cX7_carryAll 167 = .ok (.iload_n 3, 1) := by decide +kernel
theorem dX7_carryAll_168 : decode cX7_carryAll 168 = .ok (.aload_n 0, 1) := by decide +kernel
theorem dX7_carryAll_169 : decode cX7_carryAll 169 = .ok (.aload_n 0, 1) := by decide +kernel
theorem dX7_carryAll_170 : decode cX7_carryAll 170 = .ok (.getfield 32, 3) := by decide +kernel
theorem dX7_carryAll_173 : decode cX7_carryAll 173 = .ok (.iload_n 3, 1) := by decide +kernel
theorem dX7_carryAll_174 : decode cX7_carryAll 174 = .ok (.iaload, 1) := by decide +kernel
theorem dX7_carryAll_175 : decode cX7_carryAll 175 = .ok (.invokevirtual 249, 3) := by decide +kernel
theorem dX7_carryAll_178 : decode cX7_carryAll 178 = .ok (.iastore, 1) := by decide +kernel
theorem dX7_carryAll_179 : decode cX7_carryAll 179 = .ok (.aload_n 0, 1) := by decide +kernel
theorem dX7_carryAll_180 : decode cX7_carryAll 180 = .ok (.getfield 35, 3) := by decide +kernel
theorem dX7_carryAll_183 : decode cX7_carryAll 183 = .ok (.iload_n 3, 1) := by decide +kernel
theorem dX7_carryAll_184 : decode cX7_carryAll 184 = .ok (.aload_n 0, 1) := by decide +kernel
theorem dX7_carryAll_185 : decode cX7_carryAll 185 = .ok (.aload_n 0, 1) := by decide +kernel
theorem dX7_carryAll_186 : decode cX7_carryAll 186 = .ok (.getfield 35, 3) := by decide +kernel
theorem dX7_carryAll_189 : decode cX7_carryAll 189 = .ok (.iload_n 3, 1) := by decide +kernel
theorem dX7_carryAll_190 : decode cX7_carryAll 190 = .ok (.iaload, 1) := by decide +kernel
theorem dX7_carryAll_191 : decode cX7_carryAll 191 = .ok (.invokevirtual 249, 3) := by decide +kernel
theorem dX7_carryAll_194 : decode cX7_carryAll 194 = .ok (.iastore, 1) := by decide +kernel
theorem dX7_carryAll_195 : decode cX7_carryAll 195 = .ok (.aload_n 0, 1) := by decide +kernel
theorem dX7_carryAll_196 : decode cX7_carryAll 196 = .ok (.getfield 38, 3) := by decide +kernel
theorem dX7_carryAll_199 : decode cX7_carryAll 199 = .ok (.iload_n 3, 1) := by decide +kernel
theorem dX7_carryAll_200 : decode cX7_carryAll 200 = .ok (.aload_n 0, 1) := by decide +kernel
theorem dX7_carryAll_201 : decode cX7_carryAll 201 = .ok (.aload_n 0, 1) := by decide +kernel
theorem dX7_carryAll_202 : decode cX7_carryAll 202 = .ok (.getfield 38, 3) := by decide +kernel
theorem dX7_carryAll_205 : decode cX7_carryAll 205 = .ok (.iload_n 3, 1) := by decide +kernel
theorem dX7_carryAll_206 : decode cX7_carryAll 206 = .ok (.iaload, 1) := by decide +kernel
theorem dX7_carryAll_207 : decode cX7_carryAll 207 = .ok (.invokevirtual 249, 3) := by decide +kernel
theorem dX7_carryAll_210 : decode cX7_carryAll 210 = .ok (.iastore, 1) := by decide +kernel
theorem dX7_carryAll_211 : decode cX7_carryAll 211 = .ok (.iinc 3 1, 3) := by decide +kernel
theorem dX7_carryAll_214 : decode cX7_carryAll 214 = .ok (.goto (-137), 3) := by decide +kernel
theorem dX7_carryAll_217 : decode cX7_carryAll 217 = .ok (.iconst 0, 1) := by decide +kernel
theorem dX7_carryAll_218 : decode cX7_carryAll 218 = .ok (.istore_n 3, 1) := by decide +kernel
theorem dX7_carryAll_219 : decode cX7_carryAll 219 = .ok (.iload_n 3, 1) := by decide +kernel
theorem dX7_carryAll_220 : decode cX7_carryAll 220 = .ok (.sipush 576, 3) := by decide +kernel
theorem dX7_carryAll_223 : decode cX7_carryAll 223 = .ok (.if_icmp .ge 25, 3) := by decide +kernel
theorem dX7_carryAll_226 : decode cX7_carryAll 226 = .ok (.aload_n 0, 1) := by decide +kernel
theorem dX7_carryAll_227 : decode cX7_carryAll 227 = .ok (.getfield 41, 3) := by decide +kernel
theorem dX7_carryAll_230 : decode cX7_carryAll 230 = .ok (.iload_n 3, 1) := by decide +kernel
theorem dX7_carryAll_231 : decode cX7_carryAll 231 = .ok (.aload_n 0, 1) := by decide +kernel
theorem dX7_carryAll_232 : decode cX7_carryAll 232 = .ok (.aload_n 0, 1) := by decide +kernel
theorem dX7_carryAll_233 : decode cX7_carryAll 233 = .ok (.getfield 41, 3) := by decide +kernel
theorem dX7_carryAll_236 : decode cX7_carryAll 236 = .ok (.iload_n 3, 1) := by decide +kernel
theorem dX7_carryAll_237 : decode cX7_carryAll 237 = .ok (.iaload, 1) := by decide +kernel
theorem dX7_carryAll_238 : decode cX7_carryAll 238 = .ok (.invokevirtual 249, 3) := by decide +kernel
theorem dX7_carryAll_241 : decode cX7_carryAll 241 = .ok (.iastore, 1) := by decide +kernel
theorem dX7_carryAll_242 : decode cX7_carryAll 242 = .ok (.iinc 3 1, 3) := by decide +kernel
theorem dX7_carryAll_245 : decode cX7_carryAll 245 = .ok (.goto (-26), 3) := by decide +kernel
theorem dX7_carryAll_248 : decode cX7_carryAll 248 = .ok (.iconst 0, 1) := by decide +kernel
theorem dX7_carryAll_249 : decode cX7_carryAll 249 = .ok (.istore_n 3, 1) := by decide +kernel
theorem dX7_carryAll_250 : decode cX7_carryAll 250 = .ok (.iload_n 3, 1) := by decide +kernel
theorem dX7_carryAll_251 : decode cX7_carryAll 251 = .ok (.bipush 8, 2) := by decide +kernel
theorem dX7_carryAll_253 : decode cX7_carryAll 253 = .ok (.if_icmp .ge 73, 3) := by decide +kernel
theorem dX7_carryAll_256 : decode cX7_carryAll 256 = .ok (.aload_n 0, 1) := by decide +kernel
theorem dX7_carryAll_257 : decode cX7_carryAll 257 = .ok (.getfield 44, 3) := by decide +kernel
theorem dX7_carryAll_260 : decode cX7_carryAll 260 = .ok (.iload_n 3, 1) := by decide +kernel
theorem dX7_carryAll_261 : decode cX7_carryAll 261 = .ok (.aload_n 0, 1) := by decide +kernel
theorem dX7_carryAll_262 : decode cX7_carryAll 262 = .ok (.aload_n 0, 1) := by decide +kernel
theorem dX7_carryAll_263 : decode cX7_carryAll 263 = .ok (.getfield 44, 3) := by decide +kernel
theorem dX7_carryAll_266 : decode cX7_carryAll 266 = .ok (.iload_n 3, 1) := by decide +kernel
theorem dX7_carryAll_267 : decode cX7_carryAll 267 = .ok (.iaload, 1) := by decide +kernel
theorem dX7_carryAll_268 : decode cX7_carryAll 268 = .ok (.invokevirtual 249, 3) := by decide +kernel
theorem dX7_carryAll_271 : decode cX7_carryAll 271 = .ok (.iastore, 1) := by decide +kernel
theorem dX7_carryAll_272 : decode cX7_carryAll 272 = .ok (.aload_n 0, 1) := by decide +kernel
theorem dX7_carryAll_273 : decode cX7_carryAll 273 = .ok (.getfield 47, 3) := by decide +kernel
theorem dX7_carryAll_276 : decode cX7_carryAll 276 = .ok (.iload_n 3, 1) := by decide +kernel
theorem dX7_carryAll_277 : decode cX7_carryAll 277 = .ok (.aload_n 0, 1) := by decide +kernel
theorem dX7_carryAll_278 : decode cX7_carryAll 278 = .ok (.aload_n 0, 1) := by decide +kernel
theorem dX7_carryAll_279 : decode cX7_carryAll 279 = .ok (.getfield 47, 3) := by decide +kernel
theorem dX7_carryAll_282 : decode cX7_carryAll 282 = .ok (.iload_n 3, 1) := by decide +kernel
theorem dX7_carryAll_283 : decode cX7_carryAll 283 = .ok (.iaload, 1) := by decide +kernel
theorem dX7_carryAll_284 : decode cX7_carryAll 284 = .ok (.invokevirtual 249, 3) := by decide +kernel
theorem dX7_carryAll_287 : decode cX7_carryAll 287 = .ok (.iastore, 1) := by decide +kernel
theorem dX7_carryAll_288 : decode cX7_carryAll 288 = .ok (.aload_n 0, 1) := by decide +kernel
theorem dX7_carryAll_289 : decode cX7_carryAll 289 = .ok (.getfield 50, 3) := by decide +kernel
theorem dX7_carryAll_292 : decode cX7_carryAll 292 = .ok (.iload_n 3, 1) := by decide +kernel
theorem dX7_carryAll_293 : decode cX7_carryAll 293 = .ok (.aload_n 0, 1) := by decide +kernel
theorem dX7_carryAll_294 : decode cX7_carryAll 294 = .ok (.aload_n 0, 1) := by decide +kernel
theorem dX7_carryAll_295 : decode cX7_carryAll 295 = .ok (.getfield 50, 3) := by decide +kernel
theorem dX7_carryAll_298 : decode cX7_carryAll 298 = .ok (.iload_n 3, 1) := by decide +kernel
theorem dX7_carryAll_299 : decode cX7_carryAll 299 = .ok (.iaload, 1) := by decide +kernel
theorem dX7_carryAll_300 : decode cX7_carryAll 300 = .ok (.invokevirtual 249, 3) := by decide +kernel
theorem dX7_carryAll_303 : decode cX7_carryAll 303 = .ok (.iastore, 1) := by decide +kernel
theorem dX7_carryAll_304 : decode cX7_carryAll 304 = .ok (.aload_n 0, 1) := by decide +kernel
theorem dX7_carryAll_305 : decode cX7_carryAll 305 = .ok (.getfield 53, 3) := by decide +kernel
theorem dX7_carryAll_308 : decode cX7_carryAll 308 = .ok (.iload_n 3, 1) := by decide +kernel
theorem dX7_carryAll_309 : decode cX7_carryAll 309 = .ok (.aload_n 0, 1) := by decide +kernel
theorem dX7_carryAll_310 : decode cX7_carryAll 310 = .ok (.aload_n 0, 1) := by decide +kernel
theorem dX7_carryAll_311 : decode cX7_carryAll 311 = .ok (.getfield 53, 3) := by decide +kernel
theorem dX7_carryAll_314 : decode cX7_carryAll 314 = .ok (.iload_n 3, 1) := by decide +kernel
theorem dX7_carryAll_315 : decode cX7_carryAll 315 = .ok (.iaload, 1) := by decide +kernel
theorem dX7_carryAll_316 : decode cX7_carryAll 316 = .ok (.invokevirtual 249, 3) := by decide +kernel
theorem dX7_carryAll_319 : decode cX7_carryAll 319 = .ok (.iastore, 1) := by decide +kernel
theorem dX7_carryAll_320 : decode cX7_carryAll 320 = .ok (.iinc 3 1, 3) := by decide +kernel
theorem dX7_carryAll_323 : decode cX7_carryAll 323 = .ok (.goto (-73), 3) := by decide +kernel
theorem dX7_carryAll_326 : decode cX7_carryAll 326 = .ok (.return_, 1) := by decide +kernel
set_option maxRecDepth 100000 in
set_option maxHeartbeats 4000000 in
theorem g_X7_carryAll_250 (ids : List (Nat × Nat)) (Hn : Ndp ids) (i1 : Nat × Nat) (H0_29 : InR ids 0 29 56) (Ki1 : i1 ∈ ids) (Ni1 : ly_len i1.2 = some (alen i1))  : ∀ (n : Nat) (v3 : Int32) (t0 : Sg), Gj kV mX7_carryAll ids 250 [some (aR (0, 29)), none, none, some (aI v3)] [] t0 (f_X7_carryAll_250 i1 n v3 t0) := by
  intro n
  induction n with
  | zero => intro v3 t0; exact G_none
  | succ n ih =>
    intro v3 t0
    rw [f_X7_carryAll_250]
    refine G_st (x_iload_n dX7_carryAll_250 rfl) ?_
    refine G_st (x_bipush (8 : Int32) dX7_carryAll_251 rfl) ?_
    refine G_ite (fun c28 => ?_) (fun c28 => ?_)
    · refine G_st (x_icmp_ge_t (tgt := 326) dX7_carryAll_253 (by decide) c28) ?_
      exact G_ret rfl ⟨rfl, dX7_carryAll_326⟩ rfl
    · refine G_st (x_icmp_ge_f 326 dX7_carryAll_253 (by decide) c28) ?_
      refine G_st (x_aload_n dX7_carryAll_256 rfl) ?_
      refine G_st (x_get (k := 14) (aR (0, 39)) dX7_carryAll_257 (H0_29 29 (Nat.le_of_ble_eq_true rfl) (Nat.le_of_ble_eq_true rfl)) rfl rfl rfl rfl inTX7 (Nat.le_of_ble_eq_true rfl) tw_861 (fun ad => rfl)) ?_
      refine G_st (x_iload_n dX7_carryAll_260 rfl) ?_
      refine G_st (x_aload_n dX7_carryAll_261 rfl) ?_
      refine G_st (x_aload_n dX7_carryAll_262 rfl) ?_
      refine G_st (x_get (k := 14) (aR (0, 39)) dX7_carryAll_263 (H0_29 29 (Nat.le_of_ble_eq_true rfl) (Nat.le_of_ble_eq_true rfl)) rfl rfl rfl rfl inTX7 (Nat.le_of_ble_eq_true rfl) tw_861 (fun ad => rfl)) ?_
      refine G_st (x_iload_n dX7_carryAll_266 rfl) ?_
      refine G_chk (fun c29 => ?_)
      refine G_st (x_iaload dX7_carryAll_267 (H0_29 39 (Nat.le_of_ble_eq_true rfl) (Nat.le_of_ble_eq_true rfl)) rfl c29) ?_
      refine G_bd (fun x30 t31 h32 => ?_)
      refine G_st (x_callV [aI v3, aR (0, 39)] (c_X7_carry ids Hn (t0 (0, 39) (v3).toNatClampNeg) H0_29 _ _ _ h32) dX7_carryAll_268 tw_1027 kc_X7_carry (H0_29 29 (Nat.le_of_ble_eq_true rfl) (Nat.le_of_ble_eq_true rfl)) rfl rfl rfl rfl ⟨Nat.le_of_ble_eq_true rfl, Nat.le_of_ble_eq_true rfl⟩ (Nat.le_of_ble_eq_true rfl) rfl) ?_
      refine G_chk (fun c33 => ?_)
      refine G_st (x_iastore dX7_carryAll_271 (H0_29 39 (Nat.le_of_ble_eq_true rfl) (Nat.le_of_ble_eq_true rfl)) rfl c33) ?_
      refine G_bvS (fun t34 => ?_)
      refine G_st (x_aload_n dX7_carryAll_272 rfl) ?_
      refine G_st (x_get (k := 15) (aR (0, 40)) dX7_carryAll_273 (H0_29 29 (Nat.le_of_ble_eq_true rfl) (Nat.le_of_ble_eq_true rfl)) rfl rfl rfl rfl inTX7 (Nat.le_of_ble_eq_true rfl) tw_862 (fun ad => rfl)) ?_
      refine G_st (x_iload_n dX7_carryAll_276 rfl) ?_
      refine G_st (x_aload_n dX7_carryAll_277 rfl) ?_
      refine G_st (x_aload_n dX7_carryAll_278 rfl) ?_
      refine G_st (x_get (k := 15) (aR (0, 40)) dX7_carryAll_279 (H0_29 29 (Nat.le_of_ble_eq_true rfl) (Nat.le_of_ble_eq_true rfl)) rfl rfl rfl rfl inTX7 (Nat.le_of_ble_eq_true rfl) tw_862 (fun ad => rfl)) ?_
      refine G_st (x_iload_n dX7_carryAll_282 rfl) ?_
      refine G_chk (fun c35 => ?_)
      refine G_st (x_iaload dX7_carryAll_283 (H0_29 40 (Nat.le_of_ble_eq_true rfl) (Nat.le_of_ble_eq_true rfl)) rfl c35) ?_
      refine G_bd (fun x36 t37 h38 => ?_)
      refine G_st (x_callV [aI v3, aR (0, 40)] (c_X7_carry ids Hn (t34 (0, 40) (v3).toNatClampNeg) H0_29 _ _ _ h38) dX7_carryAll_284 tw_1027 kc_X7_carry (H0_29 29 (Nat.le_of_ble_eq_true rfl) (Nat.le_of_ble_eq_true rfl)) rfl rfl rfl rfl ⟨Nat.le_of_ble_eq_true rfl, Nat.le_of_ble_eq_true rfl⟩ (Nat.le_of_ble_eq_true rfl) rfl) ?_
      refine G_chk (fun c39 => ?_)
      refine G_st (x_iastore dX7_carryAll_287 (H0_29 40 (Nat.le_of_ble_eq_true rfl) (Nat.le_of_ble_eq_true rfl)) rfl c39) ?_
      refine G_bvS (fun t40 => ?_)
      refine G_st (x_aload_n dX7_carryAll_288 rfl) ?_
      refine G_st (x_get (k := 16) (aR (0, 41)) dX7_carryAll_289 (H0_29 29 (Nat.le_of_ble_eq_true rfl) (Nat.le_of_ble_eq_true rfl)) rfl rfl rfl rfl inTX7 (Nat.le_of_ble_eq_true rfl) tw_863 (fun ad => rfl)) ?_
      refine G_st (x_iload_n dX7_carryAll_292 rfl) ?_
      refine G_st (x_aload_n dX7_carryAll_293 rfl) ?_
      refine G_st (x_aload_n dX7_carryAll_294 rfl) ?_
      refine G_st (x_get (k := 16) (aR (0, 41)) dX7_carryAll_295 (H0_29 29 (Nat.le_of_ble_eq_true rfl) (Nat.le_of_ble_eq_true rfl)) rfl rfl rfl rfl inTX7 (Nat.le_of_ble_eq_true rfl) tw_863 (fun ad => rfl)) ?_
      refine G_st (x_iload_n dX7_carryAll_298 rfl) ?_
      refine G_chk (fun c41 => ?_)
      refine G_st (x_iaload dX7_carryAll_299 (H0_29 41 (Nat.le_of_ble_eq_true rfl) (Nat.le_of_ble_eq_true rfl)) rfl c41) ?_
      refine G_bd (fun x42 t43 h44 => ?_)
      refine G_st (x_callV [aI v3, aR (0, 41)] (c_X7_carry ids Hn (t40 (0, 41) (v3).toNatClampNeg) H0_29 _ _ _ h44) dX7_carryAll_300 tw_1027 kc_X7_carry (H0_29 29 (Nat.le_of_ble_eq_true rfl) (Nat.le_of_ble_eq_true rfl)) rfl rfl rfl rfl ⟨Nat.le_of_ble_eq_true rfl, Nat.le_of_ble_eq_true rfl⟩ (Nat.le_of_ble_eq_true rfl) rfl) ?_
      refine G_chk (fun c45 => ?_)
      refine G_st (x_iastore dX7_carryAll_303 (H0_29 41 (Nat.le_of_ble_eq_true rfl) (Nat.le_of_ble_eq_true rfl)) rfl c45) ?_
      refine G_bvS (fun t46 => ?_)
      refine G_st (x_aload_n dX7_carryAll_304 rfl) ?_
      refine G_st (x_get (k := 17) (aR (0, 42)) dX7_carryAll_305 (H0_29 29 (Nat.le_of_ble_eq_true rfl) (Nat.le_of_ble_eq_true rfl)) rfl rfl rfl rfl inTX7 (Nat.le_of_ble_eq_true rfl) tw_864 (fun ad => rfl)) ?_
      refine G_st (x_iload_n dX7_carryAll_308 rfl) ?_
      refine G_st (x_aload_n dX7_carryAll_309 rfl) ?_
      refine G_st (x_aload_n dX7_carryAll_310 rfl) ?_
      refine G_st (x_get (k := 17) (aR (0, 42)) dX7_carryAll_311 (H0_29 29 (Nat.le_of_ble_eq_true rfl) (Nat.le_of_ble_eq_true rfl)) rfl rfl rfl rfl inTX7 (Nat.le_of_ble_eq_true rfl) tw_864 (fun ad => rfl)) ?_
      refine G_st (x_iload_n dX7_carryAll_314 rfl) ?_
      refine G_chk (fun c47 => ?_)
      refine G_st (x_iaload dX7_carryAll_315 (H0_29 42 (Nat.le_of_ble_eq_true rfl) (Nat.le_of_ble_eq_true rfl)) rfl c47) ?_
      refine G_bd (fun x48 t49 h50 => ?_)
      refine G_st (x_callV [aI v3, aR (0, 42)] (c_X7_carry ids Hn (t46 (0, 42) (v3).toNatClampNeg) H0_29 _ _ _ h50) dX7_carryAll_316 tw_1027 kc_X7_carry (H0_29 29 (Nat.le_of_ble_eq_true rfl) (Nat.le_of_ble_eq_true rfl)) rfl rfl rfl rfl ⟨Nat.le_of_ble_eq_true rfl, Nat.le_of_ble_eq_true rfl⟩ (Nat.le_of_ble_eq_true rfl) rfl) ?_
      refine G_chk (fun c51 => ?_)
      refine G_st (x_iastore dX7_carryAll_319 (H0_29 42 (Nat.le_of_ble_eq_true rfl) (Nat.le_of_ble_eq_true rfl)) rfl c51) ?_
      refine G_bvS (fun t52 => ?_)
      refine G_st (x_iinc (v3 + (1 : Int32)) [some (aR (0, 29)), none, none, some (aI (v3 + (1 : Int32)))] dX7_carryAll_320 (Nat.le_of_ble_eq_true rfl) rfl rfl rfl rfl) ?_
      refine G_st (x_goto (tgt := 250) dX7_carryAll_323 (by decide)) ?_
      refine G_weak _ ?_ ((ih) (v3 + (1 : Int32)) t52)
      exact (leL_s (leL_n (leL_n (leL_s (leL_e _)))))
set_option maxRecDepth 100000 in
set_option maxHeartbeats 4000000 in
theorem g_X7_carryAll_219 (ids : List (Nat × Nat)) (Hn : Ndp ids) (i1 : Nat × Nat) (H0_29 : InR ids 0 29 56) (Ki1 : i1 ∈ ids) (Ni1 : ly_len i1.2 = some (alen i1))  : ∀ (n : Nat) (v3 : Int32) (t0 : Sg), Gj kV mX7_carryAll ids 219 [some (aR (0, 29)), none, none, some (aI v3)] [] t0 (f_X7_carryAll_219 i1 n v3 t0) := by
  intro n
  induction n with
  | zero => intro v3 t0; exact G_none
  | succ n ih =>
    intro v3 t0
    rw [f_X7_carryAll_219]
    refine G_st (x_iload_n dX7_carryAll_219 rfl) ?_
    refine G_st (x_sipush (576 : Int32) dX7_carryAll_220 rfl) ?_
    refine G_ite (fun c27 => ?_) (fun c27 => ?_)
    · refine G_st (x_icmp_ge_t (tgt := 248) dX7_carryAll_223 (by decide) c27) ?_
      refine G_st (x_iconst (0 : Int32) dX7_carryAll_248 rfl) ?_
      refine G_st (x_istore_n [some (aR (0, 29)), none, none, some (aI (0 : Int32))] dX7_carryAll_249 (Nat.le_of_ble_eq_true rfl) rfl rfl) ?_
      refine G_weak _ ?_ (g_X7_carryAll_250 ids Hn i1 H0_29 Ki1 Ni1 fuel (0 : Int32) t0)
      exact (leL_s (leL_n (leL_n (leL_s (leL_e _)))))
    · refine G_st (x_icmp_ge_f 248 dX7_carryAll_223 (by decide) c27) ?_
      refine G_st (x_aload_n dX7_carryAll_226 rfl) ?_
      refine G_st (x_get (k := 13) (aR (0, 38)) dX7_carryAll_227 (H0_29 29 (Nat.le_of_ble_eq_true rfl) (Nat.le_of_ble_eq_true rfl)) rfl rfl rfl rfl inTX7 (Nat.le_of_ble_eq_true rfl) tw_860 (fun ad => rfl)) ?_
      refine G_st (x_iload_n dX7_carryAll_230 rfl) ?_
      refine G_st (x_aload_n dX7_carryAll_231 rfl) ?_
      refine G_st (x_aload_n dX7_carryAll_232 rfl) ?_
      refine G_st (x_get (k := 13) (aR (0, 38)) dX7_carryAll_233 (H0_29 29 (Nat.le_of_ble_eq_true rfl) (Nat.le_of_ble_eq_true rfl)) rfl rfl rfl rfl inTX7 (Nat.le_of_ble_eq_true rfl) tw_860 (fun ad => rfl)) ?_
      refine G_st (x_iload_n dX7_carryAll_236 rfl) ?_
      refine G_chk (fun c53 => ?_)
      refine G_st (x_iaload dX7_carryAll_237 (H0_29 38 (Nat.le_of_ble_eq_true rfl) (Nat.le_of_ble_eq_true rfl)) rfl c53) ?_
      refine G_bd (fun x54 t55 h56 => ?_)
      refine G_st (x_callV [aI v3, aR (0, 38)] (c_X7_carry ids Hn (t0 (0, 38) (v3).toNatClampNeg) H0_29 _ _ _ h56) dX7_carryAll_238 tw_1027 kc_X7_carry (H0_29 29 (Nat.le_of_ble_eq_true rfl) (Nat.le_of_ble_eq_true rfl)) rfl rfl rfl rfl ⟨Nat.le_of_ble_eq_true rfl, Nat.le_of_ble_eq_true rfl⟩ (Nat.le_of_ble_eq_true rfl) rfl) ?_
      refine G_chk (fun c57 => ?_)
      refine G_st (x_iastore dX7_carryAll_241 (H0_29 38 (Nat.le_of_ble_eq_true rfl) (Nat.le_of_ble_eq_true rfl)) rfl c57) ?_
      refine G_bvS (fun t58 => ?_)
      refine G_st (x_iinc (v3 + (1 : Int32)) [some (aR (0, 29)), none, none, some (aI (v3 + (1 : Int32)))] dX7_carryAll_242 (Nat.le_of_ble_eq_true rfl) rfl rfl rfl rfl) ?_
      refine G_st (x_goto (tgt := 219) dX7_carryAll_245 (by decide)) ?_
      refine G_weak _ ?_ ((ih) (v3 + (1 : Int32)) t58)
      exact (leL_s (leL_n (leL_n (leL_s (leL_e _)))))
set_option maxRecDepth 100000 in
set_option maxHeartbeats 4000000 in
theorem g_X7_carryAll_77 (ids : List (Nat × Nat)) (Hn : Ndp ids) (i1 : Nat × Nat) (H0_29 : InR ids 0 29 56) (Ki1 : i1 ∈ ids) (Ni1 : ly_len i1.2 = some (alen i1))  : ∀ (n : Nat) (v3 : Int32) (t0 : Sg), Gj kV mX7_carryAll ids 77 [some (aR (0, 29)), none, none, some (aI v3)] [] t0 (f_X7_carryAll_77 i1 n v3 t0) := by
  intro n
  induction n with
  | zero => intro v3 t0; exact G_none
  | succ n ih =>
    intro v3 t0
    rw [f_X7_carryAll_77]
    refine G_st (x_iload_n dX7_carryAll_77 rfl) ?_
    refine G_st (x_bipush (24 : Int32) dX7_carryAll_78 rfl) ?_
    refine G_ite (fun c26 => ?_) (fun c26 => ?_)
    · refine G_st (x_icmp_ge_t (tgt := 217) dX7_carryAll_80 (by decide) c26) ?_
      refine G_st (x_iconst (0 : Int32) dX7_carryAll_217 rfl) ?_
      refine G_st (x_istore_n [some (aR (0, 29)), none, none, some (aI (0 : Int32))] dX7_carryAll_218 (Nat.le_of_ble_eq_true rfl) rfl rfl) ?_
      refine G_weak _ ?_ (g_X7_carryAll_219 ids Hn i1 H0_29 Ki1 Ni1 fuel (0 : Int32) t0)
      exact (leL_s (leL_n (leL_n (leL_s (leL_e _)))))
    · refine G_st (x_icmp_ge_f 217 dX7_carryAll_80 (by decide) c26) ?_
      refine G_st (x_aload_n dX7_carryAll_83 rfl) ?_
      refine G_st (x_get (k := 5) (aR (0, 30)) dX7_carryAll_84 (H0_29 29 (Nat.le_of_ble_eq_true rfl) (Nat.le_of_ble_eq_true rfl)) rfl rfl rfl rfl inTX7 (Nat.le_of_ble_eq_true rfl) tw_852 (fun ad => rfl)) ?_
      refine G_st (x_iload_n dX7_carryAll_87 rfl) ?_
      refine G_st (x_aload_n dX7_carryAll_88 rfl) ?_
      refine G_st (x_aload_n dX7_carryAll_89 rfl) ?_
      refine G_st (x_get (k := 5) (aR (0, 30)) dX7_carryAll_90 (H0_29 29 (Nat.le_of_ble_eq_true rfl) (Nat.le_of_ble_eq_true rfl)) rfl rfl rfl rfl inTX7 (Nat.le_of_ble_eq_true rfl) tw_852 (fun ad => rfl)) ?_
      refine G_st (x_iload_n dX7_carryAll_93 rfl) ?_
      refine G_chk (fun c59 => ?_)
      refine G_st (x_iaload dX7_carryAll_94 (H0_29 30 (Nat.le_of_ble_eq_true rfl) (Nat.le_of_ble_eq_true rfl)) rfl c59) ?_
      refine G_bd (fun x60 t61 h62 => ?_)
      refine G_st (x_callV [aI v3, aR (0, 30)] (c_X7_carry ids Hn (t0 (0, 30) (v3).toNatClampNeg) H0_29 _ _ _ h62) dX7_carryAll_95 tw_1027 kc_X7_carry (H0_29 29 (Nat.le_of_ble_eq_true rfl) (Nat.le_of_ble_eq_true rfl)) rfl rfl rfl rfl ⟨Nat.le_of_ble_eq_true rfl, Nat.le_of_ble_eq_true rfl⟩ (Nat.le_of_ble_eq_true rfl) rfl) ?_
      refine G_chk (fun c63 => ?_)
      refine G_st (x_iastore dX7_carryAll_98 (H0_29 30 (Nat.le_of_ble_eq_true rfl) (Nat.le_of_ble_eq_true rfl)) rfl c63) ?_
      refine G_bvS (fun t64 => ?_)
      refine G_st (x_aload_n dX7_carryAll_99 rfl) ?_
      refine G_st (x_get (k := 6) (aR (0, 31)) dX7_carryAll_100 (H0_29 29 (Nat.le_of_ble_eq_true rfl) (Nat.le_of_ble_eq_true rfl)) rfl rfl rfl rfl inTX7 (Nat.le_of_ble_eq_true rfl) tw_853 (fun ad => rfl)) ?_
      refine G_st (x_iload_n dX7_carryAll_103 rfl) ?_
      refine G_st (x_aload_n dX7_carryAll_104 rfl) ?_
      refine G_st (x_aload_n dX7_carryAll_105 rfl) ?_
      refine G_st (x_get (k := 6) (aR (0, 31)) dX7_carryAll_106 (H0_29 29 (Nat.le_of_ble_eq_true rfl) (Nat.le_of_ble_eq_true rfl)) rfl rfl rfl rfl inTX7 (Nat.le_of_ble_eq_true rfl) tw_853 (fun ad => rfl)) ?_
      refine G_st (x_iload_n dX7_carryAll_109 rfl) ?_
      refine G_chk (fun c65 => ?_)
      refine G_st (x_iaload dX7_carryAll_110 (H0_29 31 (Nat.le_of_ble_eq_true rfl) (Nat.le_of_ble_eq_true rfl)) rfl c65) ?_
      refine G_bd (fun x66 t67 h68 => ?_)
      refine G_st (x_callV [aI v3, aR (0, 31)] (c_X7_carry ids Hn (t64 (0, 31) (v3).toNatClampNeg) H0_29 _ _ _ h68) dX7_carryAll_111 tw_1027 kc_X7_carry (H0_29 29 (Nat.le_of_ble_eq_true rfl) (Nat.le_of_ble_eq_true rfl)) rfl rfl rfl rfl ⟨Nat.le_of_ble_eq_true rfl, Nat.le_of_ble_eq_true rfl⟩ (Nat.le_of_ble_eq_true rfl) rfl) ?_
      refine G_chk (fun c69 => ?_)
      refine G_st (x_iastore dX7_carryAll_114 (H0_29 31 (Nat.le_of_ble_eq_true rfl) (Nat.le_of_ble_eq_true rfl)) rfl c69) ?_
      refine G_bvS (fun t70 => ?_)
      refine G_st (x_aload_n dX7_carryAll_115 rfl) ?_
      refine G_st (x_get (k := 7) (aR (0, 32)) dX7_carryAll_116 (H0_29 29 (Nat.le_of_ble_eq_true rfl) (Nat.le_of_ble_eq_true rfl)) rfl rfl rfl rfl inTX7 (Nat.le_of_ble_eq_true rfl) tw_854 (fun ad => rfl)) ?_
      refine G_st (x_iload_n dX7_carryAll_119 rfl) ?_
      refine G_st (x_aload_n dX7_carryAll_120 rfl) ?_
      refine G_st (x_aload_n dX7_carryAll_121 rfl) ?_
      refine G_st (x_get (k := 7) (aR (0, 32)) dX7_carryAll_122 (H0_29 29 (Nat.le_of_ble_eq_true rfl) (Nat.le_of_ble_eq_true rfl)) rfl rfl rfl rfl inTX7 (Nat.le_of_ble_eq_true rfl) tw_854 (fun ad => rfl)) ?_
      refine G_st (x_iload_n dX7_carryAll_125 rfl) ?_
      refine G_chk (fun c71 => ?_)
      refine G_st (x_iaload dX7_carryAll_126 (H0_29 32 (Nat.le_of_ble_eq_true rfl) (Nat.le_of_ble_eq_true rfl)) rfl c71) ?_
      refine G_bd (fun x72 t73 h74 => ?_)
      refine G_st (x_callV [aI v3, aR (0, 32)] (c_X7_carry ids Hn (t70 (0, 32) (v3).toNatClampNeg) H0_29 _ _ _ h74) dX7_carryAll_127 tw_1027 kc_X7_carry (H0_29 29 (Nat.le_of_ble_eq_true rfl) (Nat.le_of_ble_eq_true rfl)) rfl rfl rfl rfl ⟨Nat.le_of_ble_eq_true rfl, Nat.le_of_ble_eq_true rfl⟩ (Nat.le_of_ble_eq_true rfl) rfl) ?_
      refine G_chk (fun c75 => ?_)
      refine G_st (x_iastore dX7_carryAll_130 (H0_29 32 (Nat.le_of_ble_eq_true rfl) (Nat.le_of_ble_eq_true rfl)) rfl c75) ?_
      refine G_bvS (fun t76 => ?_)
      refine G_st (x_aload_n dX7_carryAll_131 rfl) ?_
      refine G_st (x_get (k := 8) (aR (0, 33)) dX7_carryAll_132 (H0_29 29 (Nat.le_of_ble_eq_true rfl) (Nat.le_of_ble_eq_true rfl)) rfl rfl rfl rfl inTX7 (Nat.le_of_ble_eq_true rfl) tw_855 (fun ad => rfl)) ?_
      refine G_st (x_iload_n dX7_carryAll_135 rfl) ?_
      refine G_st (x_aload_n dX7_carryAll_136 rfl) ?_
      refine G_st (x_aload_n dX7_carryAll_137 rfl) ?_
      refine G_st (x_get (k := 8) (aR (0, 33)) dX7_carryAll_138 (H0_29 29 (Nat.le_of_ble_eq_true rfl) (Nat.le_of_ble_eq_true rfl)) rfl rfl rfl rfl inTX7 (Nat.le_of_ble_eq_true rfl) tw_855 (fun ad => rfl)) ?_
      refine G_st (x_iload_n dX7_carryAll_141 rfl) ?_
      refine G_chk (fun c77 => ?_)
      refine G_st (x_iaload dX7_carryAll_142 (H0_29 33 (Nat.le_of_ble_eq_true rfl) (Nat.le_of_ble_eq_true rfl)) rfl c77) ?_
      refine G_bd (fun x78 t79 h80 => ?_)
      refine G_st (x_callV [aI v3, aR (0, 33)] (c_X7_carry ids Hn (t76 (0, 33) (v3).toNatClampNeg) H0_29 _ _ _ h80) dX7_carryAll_143 tw_1027 kc_X7_carry (H0_29 29 (Nat.le_of_ble_eq_true rfl) (Nat.le_of_ble_eq_true rfl)) rfl rfl rfl rfl ⟨Nat.le_of_ble_eq_true rfl, Nat.le_of_ble_eq_true rfl⟩ (Nat.le_of_ble_eq_true rfl) rfl) ?_
      refine G_chk (fun c81 => ?_)
      refine G_st (x_iastore dX7_carryAll_146 (H0_29 33 (Nat.le_of_ble_eq_true rfl) (Nat.le_of_ble_eq_true rfl)) rfl c81) ?_
      refine G_bvS (fun t82 => ?_)
      refine G_st (x_aload_n dX7_carryAll_147 rfl) ?_
      refine G_st (x_get (k := 9) (aR (0, 34)) dX7_carryAll_148 (H0_29 29 (Nat.le_of_ble_eq_true rfl) (Nat.le_of_ble_eq_true rfl)) rfl rfl rfl rfl inTX7 (Nat.le_of_ble_eq_true rfl) tw_856 (fun ad => rfl)) ?_
      refine G_st (x_iload_n dX7_carryAll_151 rfl) ?_
      refine G_st (x_aload_n dX7_carryAll_152 rfl) ?_
      refine G_st (x_aload_n dX7_carryAll_153 rfl) ?_
      refine G_st (x_get (k := 9) (aR (0, 34)) dX7_carryAll_154 (H0_29 29 (Nat.le_of_ble_eq_true rfl) (Nat.le_of_ble_eq_true rfl)) rfl rfl rfl rfl inTX7 (Nat.le_of_ble_eq_true rfl) tw_856 (fun ad => rfl)) ?_
      refine G_st (x_iload_n dX7_carryAll_157 rfl) ?_
      refine G_chk (fun c83 => ?_)
      refine G_st (x_iaload dX7_carryAll_158 (H0_29 34 (Nat.le_of_ble_eq_true rfl) (Nat.le_of_ble_eq_true rfl)) rfl c83) ?_
      refine G_bd (fun x84 t85 h86 => ?_)
      refine G_st (x_callV [aI v3, aR (0, 34)] (c_X7_carry ids Hn (t82 (0, 34) (v3).toNatClampNeg) H0_29 _ _ _ h86) dX7_carryAll_159 tw_1027 kc_X7_carry (H0_29 29 (Nat.le_of_ble_eq_true rfl) (Nat.le_of_ble_eq_true rfl)) rfl rfl rfl rfl ⟨Nat.le_of_ble_eq_true rfl, Nat.le_of_ble_eq_true rfl⟩ (Nat.le_of_ble_eq_true rfl) rfl) ?_
      refine G_chk (fun c87 => ?_)
      refine G_st (x_iastore dX7_carryAll_162 (H0_29 34 (Nat.le_of_ble_eq_true rfl) (Nat.le_of_ble_eq_true rfl)) rfl c87) ?_
      refine G_bvS (fun t88 => ?_)
      refine G_st (x_aload_n dX7_carryAll_163 rfl) ?_
      refine G_st (x_get (k := 10) (aR (0, 35)) dX7_carryAll_164 (H0_29 29 (Nat.le_of_ble_eq_true rfl) (Nat.le_of_ble_eq_true rfl)) rfl rfl rfl rfl inTX7 (Nat.le_of_ble_eq_true rfl) tw_857 (fun ad => rfl)) ?_
      refine G_st (x_iload_n dX7_carryAll_167 rfl) ?_
      refine G_st (x_aload_n dX7_carryAll_168 rfl) ?_
      refine G_st (x_aload_n dX7_carryAll_169 rfl) ?_
      refine G_st (x_get (k := 10) (aR (0, 35)) dX7_carryAll_170 (H0_29 29 (Nat.le_of_ble_eq_true rfl) (Nat.le_of_ble_eq_true rfl)) rfl rfl rfl rfl inTX7 (Nat.le_of_ble_eq_true rfl) tw_857 (fun ad => rfl)) ?_
      refine G_st (x_iload_n dX7_carryAll_173 rfl) ?_
      refine G_chk (fun c89 => ?_)
      refine G_st (x_iaload dX7_carryAll_174 (H0_29 35 (Nat.le_of_ble_eq_true rfl) (Nat.le_of_ble_eq_true rfl)) rfl c89) ?_
      refine G_bd (fun x90 t91 h92 => ?_)
      refine G_st (x_callV [aI v3, aR (0, 35)] (c_X7_carry ids Hn (t88 (0, 35) (v3).toNatClampNeg) H0_29 _ _ _ h92) dX7_carryAll_175 tw_1027 kc_X7_carry (H0_29 29 (Nat.le_of_ble_eq_true rfl) (Nat.le_of_ble_eq_true rfl)) rfl rfl rfl rfl ⟨Nat.le_of_ble_eq_true rfl, Nat.le_of_ble_eq_true rfl⟩ (Nat.le_of_ble_eq_true rfl) rfl) ?_
      refine G_chk (fun c93 => ?_)
      refine G_st (x_iastore dX7_carryAll_178 (H0_29 35 (Nat.le_of_ble_eq_true rfl) (Nat.le_of_ble_eq_true rfl)) rfl c93) ?_
      refine G_bvS (fun t94 => ?_)
      refine G_st (x_aload_n dX7_carryAll_179 rfl) ?_
      refine G_st (x_get (k := 11) (aR (0, 36)) dX7_carryAll_180 (H0_29 29 (Nat.le_of_ble_eq_true rfl) (Nat.le_of_ble_eq_true rfl)) rfl rfl rfl rfl inTX7 (Nat.le_of_ble_eq_true rfl) tw_858 (fun ad => rfl)) ?_
      refine G_st (x_iload_n dX7_carryAll_183 rfl) ?_
      refine G_st (x_aload_n dX7_carryAll_184 rfl) ?_
      refine G_st (x_aload_n dX7_carryAll_185 rfl) ?_
      refine G_st (x_get (k := 11) (aR (0, 36)) dX7_carryAll_186 (H0_29 29 (Nat.le_of_ble_eq_true rfl) (Nat.le_of_ble_eq_true rfl)) rfl rfl rfl rfl inTX7 (Nat.le_of_ble_eq_true rfl) tw_858 (fun ad => rfl)) ?_
      refine G_st (x_iload_n dX7_carryAll_189 rfl) ?_
      refine G_chk (fun c95 => ?_)
      refine G_st (x_iaload dX7_carryAll_190 (H0_29 36 (Nat.le_of_ble_eq_true rfl) (Nat.le_of_ble_eq_true rfl)) rfl c95) ?_
      refine G_bd (fun x96 t97 h98 => ?_)
      refine G_st (x_callV [aI v3, aR (0, 36)] (c_X7_carry ids Hn (t94 (0, 36) (v3).toNatClampNeg) H0_29 _ _ _ h98) dX7_carryAll_191 tw_1027 kc_X7_carry (H0_29 29 (Nat.le_of_ble_eq_true rfl) (Nat.le_of_ble_eq_true rfl)) rfl rfl rfl rfl ⟨Nat.le_of_ble_eq_true rfl, Nat.le_of_ble_eq_true rfl⟩ (Nat.le_of_ble_eq_true rfl) rfl) ?_
      refine G_chk (fun c99 => ?_)
      refine G_st (x_iastore dX7_carryAll_194 (H0_29 36 (Nat.le_of_ble_eq_true rfl) (Nat.le_of_ble_eq_true rfl)) rfl c99) ?_
      refine G_bvS (fun t100 => ?_)
      refine G_st (x_aload_n dX7_carryAll_195 rfl) ?_
      refine G_st (x_get (k := 12) (aR (0, 37)) dX7_carryAll_196 (H0_29 29 (Nat.le_of_ble_eq_true rfl) (Nat.le_of_ble_eq_true rfl)) rfl rfl rfl rfl inTX7 (Nat.le_of_ble_eq_true rfl) tw_859 (fun ad => rfl)) ?_
      refine G_st (x_iload_n dX7_carryAll_199 rfl) ?_
      refine G_st (x_aload_n dX7_carryAll_200 rfl) ?_
      refine G_st (x_aload_n dX7_carryAll_201 rfl) ?_
      refine G_st (x_get (k := 12) (aR (0, 37)) dX7_carryAll_202 (H0_29 29 (Nat.le_of_ble_eq_true rfl) (Nat.le_of_ble_eq_true rfl)) rfl rfl rfl rfl inTX7 (Nat.le_of_ble_eq_true rfl) tw_859 (fun ad => rfl)) ?_
      refine G_st (x_iload_n dX7_carryAll_205 rfl) ?_
      refine G_chk (fun c101 => ?_)
      refine G_st (x_iaload dX7_carryAll_206 (H0_29 37 (Nat.le_of_ble_eq_true rfl) (Nat.le_of_ble_eq_true rfl)) rfl c101) ?_
      refine G_bd (fun x102 t103 h104 => ?_)
      refine G_st (x_callV [aI v3, aR (0, 37)] (c_X7_carry ids Hn (t100 (0, 37) (v3).toNatClampNeg) H0_29 _ _ _ h104) dX7_carryAll_207 tw_1027 kc_X7_carry (H0_29 29 (Nat.le_of_ble_eq_true rfl) (Nat.le_of_ble_eq_true rfl)) rfl rfl rfl rfl ⟨Nat.le_of_ble_eq_true rfl, Nat.le_of_ble_eq_true rfl⟩ (Nat.le_of_ble_eq_true rfl) rfl) ?_
      refine G_chk (fun c105 => ?_)
      refine G_st (x_iastore dX7_carryAll_210 (H0_29 37 (Nat.le_of_ble_eq_true rfl) (Nat.le_of_ble_eq_true rfl)) rfl c105) ?_
      refine G_bvS (fun t106 => ?_)
      refine G_st (x_iinc (v3 + (1 : Int32)) [some (aR (0, 29)), none, none, some (aI (v3 + (1 : Int32)))] dX7_carryAll_211 (Nat.le_of_ble_eq_true rfl) rfl rfl rfl rfl) ?_
      refine G_st (x_goto (tgt := 77) dX7_carryAll_214 (by decide)) ?_
      refine G_weak _ ?_ ((ih) (v3 + (1 : Int32)) t106)
      exact (leL_s (leL_n (leL_n (leL_s (leL_e _)))))
set_option maxRecDepth 100000 in
set_option maxHeartbeats 4000000 in
theorem g_X7_carryAll (ids : List (Nat × Nat)) (Hn : Ndp ids) (i1 : Nat × Nat) (v2 : Int32) (H0_29 : InR ids 0 29 56) (Ki1 : i1 ∈ ids) (Ni1 : ly_len i1.2 = some (alen i1)) (t0 : Sg) : Gj kV mX7_carryAll ids 0 [some (aR (0, 29)), some (aR i1), some (aI v2), none] [] t0 (f_X7_carryAll i1 v2 t0) := by
  unfold f_X7_carryAll
  refine G_st (x_aload_n dX7_carryAll_0 rfl) ?_
  refine G_st (x_aload_n dX7_carryAll_1 rfl) ?_
  refine G_chk (fun c2 => ?_)
  refine G_st (x_put (k := 38) (ty := .array .int) (v := aR i1) (z := (if i1 = (0, ly_kept) then (1 : Int32) else 2)) (upS t0 (0, 29) 38 (if i1 = (0, ly_kept) then (1 : Int32) else 2)) dX7_carryAll_2 (H0_29 29 (Nat.le_of_ble_eq_true rfl) (Nat.le_of_ble_eq_true rfl)) rfl rfl rfl rfl inTX7 tyX7_ok nmX7 (Nat.le_of_ble_eq_true rfl) tw_885 rfl rfl (fun ad => rfl) (fun ad => rfl) (fun ad => put_dyn c2 ad _ rfl) rfl) ?_
  refine G_bvS (fun t1 => ?_)
  refine G_st (x_aload_n dX7_carryAll_5 rfl) ?_
  refine G_st (x_iload_n dX7_carryAll_6 rfl) ?_
  refine G_chk (fun c4 => ?_)
  refine G_st (x_put (k := 37) (ty := .boolean) (v := aI v2) (z := v2) (upS t1 (0, 29) 37 v2) dX7_carryAll_7 (H0_29 29 (Nat.le_of_ble_eq_true rfl) (Nat.le_of_ble_eq_true rfl)) rfl rfl rfl rfl inTX7 tyX7_ok nmX7 (Nat.le_of_ble_eq_true rfl) tw_884 rfl rfl (fun ad => nar_b c4) (fun ad => fit_b c4) (fun ad => put_i1 ad _ _ _ _ rfl) rfl) ?_
  refine G_bvS (fun t3 => ?_)
  refine G_st (x_aload_n dX7_carryAll_10 rfl) ?_
  refine G_st (x_iconst (0 : Int32) dX7_carryAll_11 rfl) ?_
  refine G_st (x_put (k := 36) (ty := .int) (v := aI (0 : Int32)) (z := (0 : Int32)) (upS t3 (0, 29) 36 (0 : Int32)) dX7_carryAll_12 (H0_29 29 (Nat.le_of_ble_eq_true rfl) (Nat.le_of_ble_eq_true rfl)) rfl rfl rfl rfl inTX7 tyX7_ok nmX7 (Nat.le_of_ble_eq_true rfl) tw_883 rfl rfl (fun ad => rfl) (fun ad => rfl) (fun ad => put_i0 ad _ _ _ _ rfl) rfl) ?_
  refine G_bvS (fun t5 => ?_)
  refine G_st (x_aload_n dX7_carryAll_15 rfl) ?_
  refine G_st (x_aload_n dX7_carryAll_16 rfl) ?_
  refine G_st (x_aload_n dX7_carryAll_17 rfl) ?_
  refine G_st (x_get (k := 0) (aI (t5 (0, 29) 0)) dX7_carryAll_18 (H0_29 29 (Nat.le_of_ble_eq_true rfl) (Nat.le_of_ble_eq_true rfl)) rfl rfl rfl rfl inTX7 (Nat.le_of_ble_eq_true rfl) tw_847 (fun ad => rfl)) ?_
  refine G_bd (fun x6 t7 h8 => ?_)
  refine G_st (x_callV [aR (0, 29)] (c_X7_carry ids Hn (t5 (0, 29) 0) H0_29 _ _ _ h8) dX7_carryAll_21 tw_1027 kc_X7_carry (H0_29 29 (Nat.le_of_ble_eq_true rfl) (Nat.le_of_ble_eq_true rfl)) rfl rfl rfl rfl ⟨Nat.le_of_ble_eq_true rfl, Nat.le_of_ble_eq_true rfl⟩ (Nat.le_of_ble_eq_true rfl) rfl) ?_
  refine G_st (x_put (k := 0) (ty := .int) (v := aI x6) (z := x6) (upS t7 (0, 29) 0 x6) dX7_carryAll_24 (H0_29 29 (Nat.le_of_ble_eq_true rfl) (Nat.le_of_ble_eq_true rfl)) rfl rfl rfl rfl inTX7 tyX7_ok nmX7 (Nat.le_of_ble_eq_true rfl) tw_847 rfl rfl (fun ad => rfl) (fun ad => rfl) (fun ad => put_i0 ad _ _ _ _ rfl) rfl) ?_
  refine G_bvS (fun t9 => ?_)
  refine G_st (x_aload_n dX7_carryAll_27 rfl) ?_
  refine G_st (x_aload_n dX7_carryAll_28 rfl) ?_
  refine G_st (x_aload_n dX7_carryAll_29 rfl) ?_
  refine G_st (x_get (k := 1) (aI (t9 (0, 29) 1)) dX7_carryAll_30 (H0_29 29 (Nat.le_of_ble_eq_true rfl) (Nat.le_of_ble_eq_true rfl)) rfl rfl rfl rfl inTX7 (Nat.le_of_ble_eq_true rfl) tw_848 (fun ad => rfl)) ?_
  refine G_bd (fun x10 t11 h12 => ?_)
  refine G_st (x_callV [aR (0, 29)] (c_X7_carry ids Hn (t9 (0, 29) 1) H0_29 _ _ _ h12) dX7_carryAll_33 tw_1027 kc_X7_carry (H0_29 29 (Nat.le_of_ble_eq_true rfl) (Nat.le_of_ble_eq_true rfl)) rfl rfl rfl rfl ⟨Nat.le_of_ble_eq_true rfl, Nat.le_of_ble_eq_true rfl⟩ (Nat.le_of_ble_eq_true rfl) rfl) ?_
  refine G_st (x_put (k := 1) (ty := .int) (v := aI x10) (z := x10) (upS t11 (0, 29) 1 x10) dX7_carryAll_36 (H0_29 29 (Nat.le_of_ble_eq_true rfl) (Nat.le_of_ble_eq_true rfl)) rfl rfl rfl rfl inTX7 tyX7_ok nmX7 (Nat.le_of_ble_eq_true rfl) tw_848 rfl rfl (fun ad => rfl) (fun ad => rfl) (fun ad => put_i0 ad _ _ _ _ rfl) rfl) ?_
  refine G_bvS (fun t13 => ?_)
  refine G_st (x_aload_n dX7_carryAll_39 rfl) ?_
  refine G_st (x_aload_n dX7_carryAll_40 rfl) ?_
  refine G_st (x_aload_n dX7_carryAll_41 rfl) ?_
  refine G_st (x_get (k := 2) (aI (t13 (0, 29) 2)) dX7_carryAll_42 (H0_29 29 (Nat.le_of_ble_eq_true rfl) (Nat.le_of_ble_eq_true rfl)) rfl rfl rfl rfl inTX7 (Nat.le_of_ble_eq_true rfl) tw_849 (fun ad => rfl)) ?_
  refine G_bd (fun x14 t15 h16 => ?_)
  refine G_st (x_callV [aR (0, 29)] (c_X7_carry ids Hn (t13 (0, 29) 2) H0_29 _ _ _ h16) dX7_carryAll_45 tw_1027 kc_X7_carry (H0_29 29 (Nat.le_of_ble_eq_true rfl) (Nat.le_of_ble_eq_true rfl)) rfl rfl rfl rfl ⟨Nat.le_of_ble_eq_true rfl, Nat.le_of_ble_eq_true rfl⟩ (Nat.le_of_ble_eq_true rfl) rfl) ?_
  refine G_st (x_put (k := 2) (ty := .int) (v := aI x14) (z := x14) (upS t15 (0, 29) 2 x14) dX7_carryAll_48 (H0_29 29 (Nat.le_of_ble_eq_true rfl) (Nat.le_of_ble_eq_true rfl)) rfl rfl rfl rfl inTX7 tyX7_ok nmX7 (Nat.le_of_ble_eq_true rfl) tw_849 rfl rfl (fun ad => rfl) (fun ad => rfl) (fun ad => put_i0 ad _ _ _ _ rfl) rfl) ?_
  refine G_bvS (fun t17 => ?_)
  refine G_st (x_aload_n dX7_carryAll_51 rfl) ?_
  refine G_st (x_aload_n dX7_carryAll_52 rfl) ?_
  refine G_st (x_aload_n dX7_carryAll_53 rfl) ?_
  refine G_st (x_get (k := 3) (aI (t17 (0, 29) 3)) dX7_carryAll_54 (H0_29 29 (Nat.le_of_ble_eq_true rfl) (Nat.le_of_ble_eq_true rfl)) rfl rfl rfl rfl inTX7 (Nat.le_of_ble_eq_true rfl) tw_850 (fun ad => rfl)) ?_
  refine G_bd (fun x18 t19 h20 => ?_)
  refine G_st (x_callV [aR (0, 29)] (c_X7_carry ids Hn (t17 (0, 29) 3) H0_29 _ _ _ h20) dX7_carryAll_57 tw_1027 kc_X7_carry (H0_29 29 (Nat.le_of_ble_eq_true rfl) (Nat.le_of_ble_eq_true rfl)) rfl rfl rfl rfl ⟨Nat.le_of_ble_eq_true rfl, Nat.le_of_ble_eq_true rfl⟩ (Nat.le_of_ble_eq_true rfl) rfl) ?_
  refine G_st (x_put (k := 3) (ty := .int) (v := aI x18) (z := x18) (upS t19 (0, 29) 3 x18) dX7_carryAll_60 (H0_29 29 (Nat.le_of_ble_eq_true rfl) (Nat.le_of_ble_eq_true rfl)) rfl rfl rfl rfl inTX7 tyX7_ok nmX7 (Nat.le_of_ble_eq_true rfl) tw_850 rfl rfl (fun ad => rfl) (fun ad => rfl) (fun ad => put_i0 ad _ _ _ _ rfl) rfl) ?_
  refine G_bvS (fun t21 => ?_)
  refine G_st (x_aload_n dX7_carryAll_63 rfl) ?_
  refine G_st (x_aload_n dX7_carryAll_64 rfl) ?_
  refine G_st (x_aload_n dX7_carryAll_65 rfl) ?_
  refine G_st (x_get (k := 4) (aI (t21 (0, 29) 4)) dX7_carryAll_66 (H0_29 29 (Nat.le_of_ble_eq_true rfl) (Nat.le_of_ble_eq_true rfl)) rfl rfl rfl rfl inTX7 (Nat.le_of_ble_eq_true rfl) tw_851 (fun ad => rfl)) ?_
  refine G_bd (fun x22 t23 h24 => ?_)
  refine G_st (x_callV [aR (0, 29)] (c_X7_carry ids Hn (t21 (0, 29) 4) H0_29 _ _ _ h24) dX7_carryAll_69 tw_1027 kc_X7_carry (H0_29 29 (Nat.le_of_ble_eq_true rfl) (Nat.le_of_ble_eq_true rfl)) rfl rfl rfl rfl ⟨Nat.le_of_ble_eq_true rfl, Nat.le_of_ble_eq_true rfl⟩ (Nat.le_of_ble_eq_true rfl) rfl) ?_
  refine G_st (x_put (k := 4) (ty := .int) (v := aI x22) (z := x22) (upS t23 (0, 29) 4 x22) dX7_carryAll_72 (H0_29 29 (Nat.le_of_ble_eq_true rfl) (Nat.le_of_ble_eq_true rfl)) rfl rfl rfl rfl inTX7 tyX7_ok nmX7 (Nat.le_of_ble_eq_true rfl) tw_851 rfl rfl (fun ad => rfl) (fun ad => rfl) (fun ad => put_i0 ad _ _ _ _ rfl) rfl) ?_
  refine G_bvS (fun t25 => ?_)
  refine G_st (x_iconst (0 : Int32) dX7_carryAll_75 rfl) ?_
  refine G_st (x_istore_n [some (aR (0, 29)), some (aR i1), some (aI v2), some (aI (0 : Int32))] dX7_carryAll_76 (Nat.le_of_ble_eq_true rfl) rfl rfl) ?_
  refine G_weak _ ?_ (g_X7_carryAll_77 ids Hn i1 H0_29 Ki1 Ni1 fuel (0 : Int32) t25)
  exact (leL_s (leL_n (leL_n (leL_s (leL_e _)))))
set_option maxRecDepth 100000 in
set_option maxHeartbeats 4000000 in
theorem c_X7_carryAll (ids : List (Nat × Nat)) (Hn : Ndp ids) (i1 : Nat × Nat) (v2 : Int32) (H0_29 : InR ids 0 29 56) (Ki1 : i1 ∈ ids) (Ni1 : ly_len i1.2 = some (alen i1)) (t0 : Sg) (r : Unit) (t1 : Sg) (hf : f_X7_carryAll i1 v2 t0 = some (r, t1)) : Mt0 mX7_carryAll yX7_carryAll ids [aR (0, 29), aR i1, aI v2] t0 none t1 :=
  Mt_of (x := (r, t1)) (g_X7_carryAll ids Hn i1 v2 H0_29 Ki1 Ni1 t0) hf (fun _ _ => trivial) (by decide) rfl Hn (fun _ => rfl) (fun _ => Nat.le_of_ble_eq_true rfl)
theorem dX7_front_0 : decode cX7_front 0 = .ok (.aload_n 0, 1) := by decide +kernel
theorem dX7_front_1 : decode cX7_front 1 = .ok (.iconst 0, 1) := by decide +kernel
theorem dX7_front_2 : decode cX7_front 2 = .ok (.putfield 98, 3) := by decide +kernel
theorem dX7_front_5 : decode cX7_front 5 = .ok (.aload_n 0, 1) := by decide +kernel
theorem dX7_front_6 : decode cX7_front 6 = .ok (.iconst 0, 1) := by decide +kernel
theorem dX7_front_7 : decode cX7_front 7 = .ok (.putfield 173, 3) := by decide +kernel
theorem dX7_front_10 : decode cX7_front 10 = .ok (.aload_n 0, 1) := by decide +kernel
theorem dX7_front_11 : decode cX7_front 11 = .ok (.iconst 0, 1) := by decide +kernel
theorem dX7_front_12 : decode cX7_front 12 = .ok (.putfield 176, 3) := by decide +kernel
theorem dX7_front_15 : decode cX7_front 15 = .ok (.aload_n 0, 1) := by decide +kernel
theorem dX7_front_16 : decode cX7_front 16 = .ok (.iconst 0, 1) := by decide +kernel
theorem dX7_front_17 : decode cX7_front 17 = .ok (.putfield 192, 3) := by decide +kernel
theorem dX7_front_20 : decode cX7_front 20 = .ok (.aload_n 0, 1) := by decide +kernel
theorem dX7_front_21 : decode cX7_front 21 = .ok (.getfield 176, 3) := by decide +kernel
theorem dX7_front_24 : decode cX7_front 24 = .ok (.ifCond .ne 28, 3) := by decide +kernel
theorem dX7_front_27 : decode cX7_front 27 = .ok (.aload_n 0, 1) := by decide +kernel
theorem dX7_front_28 : decode cX7_front 28 = .ok (.getfield 192, 3) := by decide +kernel
theorem dX7_front_31 : decode cX7_front 31 = .ok (.ifCond .eq 14, 3) := by decide +kernel
theorem dX7_front_34 : decode cX7_front 34 = .ok (.aload_n 0, 1) := by decide +kernel
theorem dX7_front_35 : decode cX7_front 35 = .ok (.getfield 173, 3) := by decide +kernel
theorem dX7_front_38 : decode cX7_front 38 = .ok (.aload_n 0, 1) := by decide +kernel
theorem dX7_front_39 : decode cX7_front 39 = .ok (.getfield 170, 3) := by decide +kernel
theorem dX7_front_42 : decode cX7_front 42 = .ok (.if_icmp .ge 10, 3) := by decide +kernel
theorem dX7_front_45 : decode cX7_front 45 = .ok (.aload_n 0, 1) := by decide +kernel
theorem dX7_front_46 : decode cX7_front 46 = .ok (.invokevirtual 230, 3) := by decide +kernel
theorem dX7_front_49 : decode cX7_front 49 = .ok (.goto (-29), 3) := by decide +kernel
theorem dX7_front_52 : decode cX7_front 52 = .ok (.aload_n 0, 1) := by decide +kernel
theorem dX7_front_53 : decode cX7_front 53 = .ok (.iconst 0, 1) := by decide +kernel
theorem dX7_front_54 : decode cX7_front 54 = .ok (.putfield 170, 3) := by decide +kernel
theorem dX7_front_57 : decode cX7_front 57 = .ok (.aload_n 0, 1) := by decide +kernel
theorem dX7_front_58 : decode cX7_front 58 = .ok (.getfield 176, 3) := by decide +kernel
theorem dX7_front_61 : decode cX7_front 61 = .ok (.ifCond .eq 12, 3) := by decide +kernel
theorem dX7_front_64 : decode cX7_front 64 = .ok (.sipush (-1000), 3) := by decide +kernel
theorem dX7_front_67 : decode cX7_front 67 = .ok (.aload_n 0, 1) := by decide +kernel
theorem dX7_front_68 : decode cX7_front 68 = .ok (.getfield 173, 3) := by decide +kernel
theorem dX7_front_71 : decode cX7_front 71 = .ok (.isub, 1) := by decide +kernel
theorem dX7_front_72 : decode cX7_front 72 = .ok (.ireturn, 1) := by decide +kernel
theorem dX7_front_73 : decode cX7_front 73 = .ok (.aload_n 0, 1) := by decide +kernel
theorem dX7_front_74 : decode cX7_front 74 = .ok (.aload_n 0, 1) := by decide +kernel
theorem dX7_front_75 : decode cX7_front 75 = .ok (.getfield 83, 3) := by decide +kernel
theorem dX7_front_78 : decode cX7_front 78 = .ok (.iconst 1, 1) := by decide +kernel
theorem dX7_front_79 : decode cX7_front 79 = .ok (.invokevirtual 233, 3) := by decide +kernel
theorem dX7_front_82 : decode cX7_front 82 = .ok (.iconst 0, 1) := by decide +kernel
theorem dX7_front_83 : decode cX7_front 83 = .ok (.istore_n 1, 1) := by decide +kernel
theorem dX7_front_84 : decode cX7_front 84 = .ok (.iload_n 1, 1) := by decide +kernel
theorem dX7_front_85 : decode cX7_front 85 = .ok (.aload_n 0, 1) := by decide +kernel
theorem dX7_front_86 : decode cX7_front 86 = .ok (.getfield 192, 3) := by decide +kernel
theorem dX7_front_89 : decode cX7_front 89 = .ok (.if_icmp .ge 37, 3) := by decide +kernel
theorem dX7_front_92 : decode cX7_front 92 = .ok (.aload_n 0, 1) := by decide +kernel
theorem dX7_front_93 : decode cX7_front 93 = .ok (.iload_n 1, 1) := by decide +kernel
theorem dX7_front_94 : decode cX7_front 94 = .ok (.invokevirtual 237, 3) := by decide +kernel
theorem dX7_front_97 : decode cX7_front 97 = .ok (.ifCond .ne 23, 3) := by decide +kernel
theorem dX7_front_100 : decode cX7_front 100 = .ok (.aload_n 0, 1) := by decide +kernel
theorem dX7_front_101 : decode cX7_front 101 = .ok (.aload_n 0, 1) := by decide +kernel
theorem dX7_front_102 : decode cX7_front 102 = .ok (.getfield 83, 3) := by decide +kernel
theorem dX7_front_105 : decode cX7_front 105 = .ok (.iconst 0, 1) := by decide +kernel
theorem dX7_front_106 : decode cX7_front 106 = .ok (.invokevirtual 233, 3) := by decide +kernel
theorem dX7_front_109 : decode cX7_front 109 = .ok (.sipush (-2000), 3) := by decide +kernel
theorem dX7_front_112 : decode cX7_front 112 = .ok (.aload_n 0, 1) := by decide +kernel
theorem dX7_front_113 : decode cX7_front 113 = .ok (.getfield 74, 3) := by decide +kernel
theorem dX7_front_116 : decode cX7_front 116 = .ok (.iload_n 1, 1) := by decide +kernel
theorem dX7_front_117 : decode cX7_front 117 = .ok (.iaload, 1) := by decide +kernel
theorem dX7_front_118 : decode cX7_front 118 = .ok (.isub, 1) := by decide +kernel
theorem dX7_front_119 : decode cX7_front 119 = .ok (.ireturn, 1) := by decide +kernel
theorem dX7_front_120 : decode cX7_front 120 = .ok (.iinc 1 1, 3) := by decide +kernel
theorem dX7_front_123 : decode cX7_front 123 = .ok (.goto (-39), 3) := by decide +kernel
theorem dX7_front_126 : decode cX7_front 126 = .ok (.aload_n 0, 1) := by decide +kernel
theorem dX7_front_127 : decode cX7_front 127 = .ok (.getfield 192, 3) := by decide +kernel
theorem dX7_front_130 : decode cX7_front 130 = .ok (.ireturn, 1) := by decide +kernel
set_option maxRecDepth 100000 in
set_option maxHeartbeats 4000000 in
theorem g_X7_front_45 (ids : List (Nat × Nat)) (Hn : Ndp ids)  (H0_29 : InR ids 0 29 56) (k20 : Sg → Option (Int32 × Sg)) (hk20 : ∀  (t0 : Sg), Gj kI mX7_front ids 20 [some (aR (0, 29)), none] [] t0 (k20  t0))  (t0 : Sg) : Gj kI mX7_front ids 45 [some (aR (0, 29)), none] [] t0 (f_X7_front_45 k20 t0) := by
  unfold f_X7_front_45
  refine G_st (x_aload_n dX7_front_45 rfl) ?_
  refine G_bd (fun _ t8 h9 => ?_)
  refine G_st (x_callV [] (c_X7_readStatement ids Hn  H0_29 _ _ _ h9) dX7_front_46 tw_989 kc_X7_readStatement (H0_29 29 (Nat.le_of_ble_eq_true rfl) (Nat.le_of_ble_eq_true rfl)) rfl rfl rfl rfl ⟨Nat.le_of_ble_eq_true rfl, Nat.le_of_ble_eq_true rfl⟩ (Nat.le_of_ble_eq_true rfl) rfl) ?_
  refine G_st (x_goto (tgt := 20) dX7_front_49 (by decide)) ?_
  refine G_weak _ ?_ (hk20 t8)
  exact (leL_s (leL_n (leL_e _)))
set_option maxRecDepth 100000 in
set_option maxHeartbeats 4000000 in
theorem g_X7_front_84 (ids : List (Nat × Nat)) (Hn : Ndp ids)  (H0_29 : InR ids 0 29 56)  : ∀ (n : Nat) (v1 : Int32) (t0 : Sg), Gj kI mX7_front ids 84 [some (aR (0, 29)), some (aI v1)] [] t0 (f_X7_front_84 n v1 t0) := by
  intro n
  induction n with
  | zero => intro v1 t0; exact G_none
  | succ n ih =>
    intro v1 t0
    rw [f_X7_front_84]
    refine G_st (x_iload_n dX7_front_84 rfl) ?_
    refine G_st (x_aload_n dX7_front_85 rfl) ?_
    refine G_st (x_get (k := 29) (aI (t0 (0, 29) 29)) dX7_front_86 (H0_29 29 (Nat.le_of_ble_eq_true rfl) (Nat.le_of_ble_eq_true rfl)) rfl rfl rfl rfl inTX7 (Nat.le_of_ble_eq_true rfl) tw_876 (fun ad => rfl)) ?_
    refine G_ite (fun c16 => ?_) (fun c16 => ?_)
    · refine G_st (x_icmp_ge_t (tgt := 126) dX7_front_89 (by decide) c16) ?_
      refine G_st (x_aload_n dX7_front_126 rfl) ?_
      refine G_st (x_get (k := 29) (aI (t0 (0, 29) 29)) dX7_front_127 (H0_29 29 (Nat.le_of_ble_eq_true rfl) (Nat.le_of_ble_eq_true rfl)) rfl rfl rfl rfl inTX7 (Nat.le_of_ble_eq_true rfl) tw_876 (fun ad => rfl)) ?_
      exact G_ret rfl ⟨dX7_front_130, _, rfl, rfl⟩ rfl
    · refine G_st (x_icmp_ge_f 126 dX7_front_89 (by decide) c16) ?_
      refine G_st (x_aload_n dX7_front_92 rfl) ?_
      refine G_st (x_iload_n dX7_front_93 rfl) ?_
      refine G_bd (fun x17 t18 h19 => ?_)
      refine G_st (x_callV [] (c_X7_comes ids Hn v1 H0_29 _ _ _ h19) dX7_front_94 tw_1031 kc_X7_comes (H0_29 29 (Nat.le_of_ble_eq_true rfl) (Nat.le_of_ble_eq_true rfl)) rfl rfl rfl rfl ⟨Nat.le_of_ble_eq_true rfl, Nat.le_of_ble_eq_true rfl⟩ (Nat.le_of_ble_eq_true rfl) rfl) ?_
      refine G_ite (fun c20 => ?_) (fun c20 => ?_)
      · refine G_st (x_if_ne_f 120 dX7_front_97 (by decide) c20) ?_
        refine G_st (x_aload_n dX7_front_100 rfl) ?_
        refine G_st (x_aload_n dX7_front_101 rfl) ?_
        refine G_st (x_get (k := 33) (aR (0, 52)) dX7_front_102 (H0_29 29 (Nat.le_of_ble_eq_true rfl) (Nat.le_of_ble_eq_true rfl)) rfl rfl rfl rfl inTX7 (Nat.le_of_ble_eq_true rfl) tw_880 (fun ad => rfl)) ?_
        refine G_st (x_iconst (0 : Int32) dX7_front_105 rfl) ?_
        refine G_bd (fun _ t22 h23 => ?_)
        refine G_st (x_callV [] (c_X7_carryAll ids Hn (0, 52) (0 : Int32) H0_29 (H0_29 52 (Nat.le_of_ble_eq_true rfl) (Nat.le_of_ble_eq_true rfl)) rfl _ _ _ h23) dX7_front_106 tw_1023 kc_X7_carryAll (H0_29 29 (Nat.le_of_ble_eq_true rfl) (Nat.le_of_ble_eq_true rfl)) rfl rfl rfl rfl ⟨Nat.le_of_ble_eq_true rfl, Nat.le_of_ble_eq_true rfl⟩ (Nat.le_of_ble_eq_true rfl) rfl) ?_
        refine G_st (x_sipush (-2000 : Int32) dX7_front_109 rfl) ?_
        refine G_st (x_aload_n dX7_front_112 rfl) ?_
        refine G_st (x_get (k := 30) (aR (0, 49)) dX7_front_113 (H0_29 29 (Nat.le_of_ble_eq_true rfl) (Nat.le_of_ble_eq_true rfl)) rfl rfl rfl rfl inTX7 (Nat.le_of_ble_eq_true rfl) tw_877 (fun ad => rfl)) ?_
        refine G_st (x_iload_n dX7_front_116 rfl) ?_
        refine G_chk (fun c24 => ?_)
        refine G_st (x_iaload dX7_front_117 (H0_29 49 (Nat.le_of_ble_eq_true rfl) (Nat.le_of_ble_eq_true rfl)) rfl c24) ?_
        refine G_st (x_isub dX7_front_118) ?_
        exact G_ret rfl ⟨dX7_front_119, _, rfl, rfl⟩ rfl
      · refine G_st (x_if_ne_t (tgt := 120) dX7_front_97 (by decide) c20) ?_
        refine G_st (x_iinc (v1 + (1 : Int32)) [some (aR (0, 29)), some (aI (v1 + (1 : Int32)))] dX7_front_120 (Nat.le_of_ble_eq_true rfl) rfl rfl rfl rfl) ?_
        refine G_st (x_goto (tgt := 84) dX7_front_123 (by decide)) ?_
        refine G_weak _ ?_ ((ih) (v1 + (1 : Int32)) t18)
        exact (leL_s (leL_s (leL_e _)))
set_option maxRecDepth 100000 in
set_option maxHeartbeats 4000000 in
theorem g_X7_front_52 (ids : List (Nat × Nat)) (Hn : Ndp ids)  (H0_29 : InR ids 0 29 56)   (t0 : Sg) : Gj kI mX7_front ids 52 [some (aR (0, 29)), none] [] t0 (f_X7_front_52 t0) := by
  unfold f_X7_front_52
  refine G_st (x_aload_n dX7_front_52 rfl) ?_
  refine G_st (x_iconst (0 : Int32) dX7_front_53 rfl) ?_
  refine G_st (x_put (k := 26) (ty := .int) (v := aI (0 : Int32)) (z := (0 : Int32)) (upS t0 (0, 29) 26 (0 : Int32)) dX7_front_54 (H0_29 29 (Nat.le_of_ble_eq_true rfl) (Nat.le_of_ble_eq_true rfl)) rfl rfl rfl rfl inTX7 tyX7_ok nmX7 (Nat.le_of_ble_eq_true rfl) tw_873 rfl rfl (fun ad => rfl) (fun ad => rfl) (fun ad => put_i0 ad _ _ _ _ rfl) rfl) ?_
  refine G_bvS (fun t11 => ?_)
  refine G_st (x_aload_n dX7_front_57 rfl) ?_
  refine G_st (x_get (k := 28) (aI (t11 (0, 29) 28)) dX7_front_58 (H0_29 29 (Nat.le_of_ble_eq_true rfl) (Nat.le_of_ble_eq_true rfl)) rfl rfl rfl rfl inTX7 (Nat.le_of_ble_eq_true rfl) tw_875 (fun ad => rfl)) ?_
  refine G_ite (fun c12 => ?_) (fun c12 => ?_)
  · refine G_st (x_if_eq_t (tgt := 73) dX7_front_61 (by decide) c12) ?_
    refine G_st (x_aload_n dX7_front_73 rfl) ?_
    refine G_st (x_aload_n dX7_front_74 rfl) ?_
    refine G_st (x_get (k := 33) (aR (0, 52)) dX7_front_75 (H0_29 29 (Nat.le_of_ble_eq_true rfl) (Nat.le_of_ble_eq_true rfl)) rfl rfl rfl rfl inTX7 (Nat.le_of_ble_eq_true rfl) tw_880 (fun ad => rfl)) ?_
    refine G_st (x_iconst (1 : Int32) dX7_front_78 rfl) ?_
    refine G_bd (fun _ t14 h15 => ?_)
    refine G_st (x_callV [] (c_X7_carryAll ids Hn (0, 52) (1 : Int32) H0_29 (H0_29 52 (Nat.le_of_ble_eq_true rfl) (Nat.le_of_ble_eq_true rfl)) rfl _ _ _ h15) dX7_front_79 tw_1023 kc_X7_carryAll (H0_29 29 (Nat.le_of_ble_eq_true rfl) (Nat.le_of_ble_eq_true rfl)) rfl rfl rfl rfl ⟨Nat.le_of_ble_eq_true rfl, Nat.le_of_ble_eq_true rfl⟩ (Nat.le_of_ble_eq_true rfl) rfl) ?_
    refine G_st (x_iconst (0 : Int32) dX7_front_82 rfl) ?_
    refine G_st (x_istore_n [some (aR (0, 29)), some (aI (0 : Int32))] dX7_front_83 (Nat.le_of_ble_eq_true rfl) rfl rfl) ?_
    refine G_weak _ ?_ (g_X7_front_84 ids Hn H0_29 fuel (0 : Int32) t14)
    exact (leL_s (leL_s (leL_e _)))
  · refine G_st (x_if_eq_f 73 dX7_front_61 (by decide) c12) ?_
    refine G_st (x_sipush (-1000 : Int32) dX7_front_64 rfl) ?_
    refine G_st (x_aload_n dX7_front_67 rfl) ?_
    refine G_st (x_get (k := 27) (aI (t11 (0, 29) 27)) dX7_front_68 (H0_29 29 (Nat.le_of_ble_eq_true rfl) (Nat.le_of_ble_eq_true rfl)) rfl rfl rfl rfl inTX7 (Nat.le_of_ble_eq_true rfl) tw_874 (fun ad => rfl)) ?_
    refine G_st (x_isub dX7_front_71) ?_
    exact G_ret rfl ⟨dX7_front_72, _, rfl, rfl⟩ rfl
set_option maxRecDepth 100000 in
set_option maxHeartbeats 4000000 in
theorem g_X7_front_20 (ids : List (Nat × Nat)) (Hn : Ndp ids)  (H0_29 : InR ids 0 29 56)  : ∀ (n : Nat)  (t0 : Sg), Gj kI mX7_front ids 20 [some (aR (0, 29)), none] [] t0 (f_X7_front_20 n t0) := by
  intro n
  induction n with
  | zero => intro  t0; exact G_none
  | succ n ih =>
    intro  t0
    rw [f_X7_front_20]
    refine G_st (x_aload_n dX7_front_20 rfl) ?_
    refine G_st (x_get (k := 28) (aI (t0 (0, 29) 28)) dX7_front_21 (H0_29 29 (Nat.le_of_ble_eq_true rfl) (Nat.le_of_ble_eq_true rfl)) rfl rfl rfl rfl inTX7 (Nat.le_of_ble_eq_true rfl) tw_875 (fun ad => rfl)) ?_
    refine G_ite (fun c5 => ?_) (fun c5 => ?_)
    · refine G_st (x_if_ne_f 52 dX7_front_24 (by decide) c5) ?_
      refine G_st (x_aload_n dX7_front_27 rfl) ?_
      refine G_st (x_get (k := 29) (aI (t0 (0, 29) 29)) dX7_front_28 (H0_29 29 (Nat.le_of_ble_eq_true rfl) (Nat.le_of_ble_eq_true rfl)) rfl rfl rfl rfl inTX7 (Nat.le_of_ble_eq_true rfl) tw_876 (fun ad => rfl)) ?_
      refine G_ite (fun c6 => ?_) (fun c6 => ?_)
      · refine G_st (x_if_eq_t (tgt := 45) dX7_front_31 (by decide) c6) ?_
        refine G_weak _ ?_ (g_X7_front_45 ids Hn H0_29 (f_X7_front_20 n) (ih) t0)
        exact (leL_s (leL_n (leL_e _)))
      · refine G_st (x_if_eq_f 45 dX7_front_31 (by decide) c6) ?_
        refine G_st (x_aload_n dX7_front_34 rfl) ?_
        refine G_st (x_get (k := 27) (aI (t0 (0, 29) 27)) dX7_front_35 (H0_29 29 (Nat.le_of_ble_eq_true rfl) (Nat.le_of_ble_eq_true rfl)) rfl rfl rfl rfl inTX7 (Nat.le_of_ble_eq_true rfl) tw_874 (fun ad => rfl)) ?_
        refine G_st (x_aload_n dX7_front_38 rfl) ?_
        refine G_st (x_get (k := 26) (aI (t0 (0, 29) 26)) dX7_front_39 (H0_29 29 (Nat.le_of_ble_eq_true rfl) (Nat.le_of_ble_eq_true rfl)) rfl rfl rfl rfl inTX7 (Nat.le_of_ble_eq_true rfl) tw_873 (fun ad => rfl)) ?_
        refine G_ite (fun c10 => ?_) (fun c10 => ?_)
        · refine G_st (x_icmp_ge_t (tgt := 52) dX7_front_42 (by decide) c10) ?_
          refine G_weak _ ?_ (g_X7_front_52 ids Hn H0_29 t0)
          exact (leL_s (leL_n (leL_e _)))
        · refine G_st (x_icmp_ge_f 52 dX7_front_42 (by decide) c10) ?_
          refine G_weak _ ?_ (g_X7_front_45 ids Hn H0_29 (f_X7_front_20 n) (ih) t0)
          exact (leL_s (leL_n (leL_e _)))
    · refine G_st (x_if_ne_t (tgt := 52) dX7_front_24 (by decide) c5) ?_
      refine G_weak _ ?_ (g_X7_front_52 ids Hn H0_29 t0)
      exact (leL_s (leL_n (leL_e _)))
set_option maxRecDepth 100000 in
set_option maxHeartbeats 4000000 in
theorem g_X7_front (ids : List (Nat × Nat)) (Hn : Ndp ids)  (H0_29 : InR ids 0 29 56) (t0 : Sg) : Gj kI mX7_front ids 0 [some (aR (0, 29)), none] [] t0 (f_X7_front t0) := by
  unfold f_X7_front
  refine G_st (x_aload_n dX7_front_0 rfl) ?_
  refine G_st (x_iconst (0 : Int32) dX7_front_1 rfl) ?_
  refine G_st (x_put (k := 18) (ty := .int) (v := aI (0 : Int32)) (z := (0 : Int32)) (upS t0 (0, 29) 18 (0 : Int32)) dX7_front_2 (H0_29 29 (Nat.le_of_ble_eq_true rfl) (Nat.le_of_ble_eq_true rfl)) rfl rfl rfl rfl inTX7 tyX7_ok nmX7 (Nat.le_of_ble_eq_true rfl) tw_865 rfl rfl (fun ad => rfl) (fun ad => rfl) (fun ad => put_i0 ad _ _ _ _ rfl) rfl) ?_
  refine G_bvS (fun t1 => ?_)
  refine G_st (x_aload_n dX7_front_5 rfl) ?_
  refine G_st (x_iconst (0 : Int32) dX7_front_6 rfl) ?_
  refine G_st (x_put (k := 27) (ty := .int) (v := aI (0 : Int32)) (z := (0 : Int32)) (upS t1 (0, 29) 27 (0 : Int32)) dX7_front_7 (H0_29 29 (Nat.le_of_ble_eq_true rfl) (Nat.le_of_ble_eq_true rfl)) rfl rfl rfl rfl inTX7 tyX7_ok nmX7 (Nat.le_of_ble_eq_true rfl) tw_874 rfl rfl (fun ad => rfl) (fun ad => rfl) (fun ad => put_i0 ad _ _ _ _ rfl) rfl) ?_
  refine G_bvS (fun t2 => ?_)
  refine G_st (x_aload_n dX7_front_10 rfl) ?_
  refine G_st (x_iconst (0 : Int32) dX7_front_11 rfl) ?_
  refine G_st (x_put (k := 28) (ty := .boolean) (v := aI (0 : Int32)) (z := (0 : Int32)) (upS t2 (0, 29) 28 (0 : Int32)) dX7_front_12 (H0_29 29 (Nat.le_of_ble_eq_true rfl) (Nat.le_of_ble_eq_true rfl)) rfl rfl rfl rfl inTX7 tyX7_ok nmX7 (Nat.le_of_ble_eq_true rfl) tw_875 rfl rfl (fun ad => nar_b (Or.inl rfl)) (fun ad => fit_b (Or.inl rfl)) (fun ad => put_i1 ad _ _ _ _ rfl) rfl) ?_
  refine G_bvS (fun t3 => ?_)
  refine G_st (x_aload_n dX7_front_15 rfl) ?_
  refine G_st (x_iconst (0 : Int32) dX7_front_16 rfl) ?_
  refine G_st (x_put (k := 29) (ty := .int) (v := aI (0 : Int32)) (z := (0 : Int32)) (upS t3 (0, 29) 29 (0 : Int32)) dX7_front_17 (H0_29 29 (Nat.le_of_ble_eq_true rfl) (Nat.le_of_ble_eq_true rfl)) rfl rfl rfl rfl inTX7 tyX7_ok nmX7 (Nat.le_of_ble_eq_true rfl) tw_876 rfl rfl (fun ad => rfl) (fun ad => rfl) (fun ad => put_i0 ad _ _ _ _ rfl) rfl) ?_
  refine G_bvS (fun t4 => ?_)
  refine G_weak _ ?_ (g_X7_front_20 ids Hn H0_29 fuel t4)
  exact (leL_s (leL_n (leL_e _)))
set_option maxRecDepth 100000 in
set_option maxHeartbeats 4000000 in
theorem c_X7_front (ids : List (Nat × Nat)) (Hn : Ndp ids)  (H0_29 : InR ids 0 29 56) (t0 : Sg) (r : Int32) (t1 : Sg) (hf : f_X7_front t0 = some (r, t1)) : Mt0 mX7_front yX7_front ids [aR (0, 29)] t0 (some (aI r)) t1 :=
  Mt_of (x := (r, t1)) (g_X7_front ids Hn  H0_29 t0) hf (fun _ _ => trivial) (by decide) rfl Hn (fun _ => rfl) (fun _ => Nat.le_of_ble_eq_true rfl)
theorem dX7_image_0 : decode cX7_image 0 = .ok (.aload_n 0, 1) := by decide +kernel
theorem dX7_image_1 : decode cX7_image 1 = .ok (.iconst 0, 1) := by decide +kernel
theorem dX7_image_2 : decode cX7_image 2 = .ok (.putfield 98, 3) := by decide +kernel
theorem dX7_image_5 : decode cX7_image 5 = .ok (.aload_n 0, 1) := by decide +kernel
theorem dX7_image_6 : decode cX7_image 6 = .ok (.iconst 1, 1) := by decide +kernel
theorem dX7_image_7 : decode cX7_image 7 = .ok (.putfield 252, 3) := by decide +kernel
theorem dX7_image_10 : decode cX7_image 10 = .ok (.aload_n 0, 1) := by decide +kernel
theorem dX7_image_11 : decode cX7_image 11 = .ok (.aload_n 0, 1) := by decide +kernel
theorem dX7_image_12 : decode cX7_image 12 = .ok (.getfield 86, 3) := by decide +kernel
theorem dX7_image_15 : decode cX7_image 15 = .ok (.iconst 1, 1) := by decide +kernel
theorem dX7_image_16 : decode cX7_image 16 = .ok (.invokevirtual 233, 3) := by decide +kernel
theorem dX7_image_19 : decode cX7_image 19 = .ok (.aload_n 0, 1) := by decide +kernel
theorem dX7_image_20 : decode cX7_image 20 = .ok (.getfield 164, 3) := by decide +kernel
theorem dX7_image_23 : decode cX7_image 23 = .ok (.ireturn, 1) := by decide +kernel
set_option maxRecDepth 100000 in
set_option maxHeartbeats 4000000 in
theorem g_X7_image (ids : List (Nat × Nat)) (Hn : Ndp ids)  (H0_29 : InR ids 0 29 56) (t0 : Sg) : Gj kI mX7_image ids 0 [some (aR (0, 29))] [] t0 (f_X7_image t0) := by
  unfold f_X7_image
  refine G_st (x_aload_n dX7_image_0 rfl) ?_
  refine G_st (x_iconst (0 : Int32) dX7_image_1 rfl) ?_
  refine G_st (x_put (k := 18) (ty := .int) (v := aI (0 : Int32)) (z := (0 : Int32)) (upS t0 (0, 29) 18 (0 : Int32)) dX7_image_2 (H0_29 29 (Nat.le_of_ble_eq_true rfl) (Nat.le_of_ble_eq_true rfl)) rfl rfl rfl rfl inTX7 tyX7_ok nmX7 (Nat.le_of_ble_eq_true rfl) tw_865 rfl rfl (fun ad => rfl) (fun ad => rfl) (fun ad => put_i0 ad _ _ _ _ rfl) rfl) ?_
  refine G_bvS (fun t1 => ?_)
  refine G_st (x_aload_n dX7_image_5 rfl) ?_
  refine G_st (x_iconst (1 : Int32) dX7_image_6 rfl) ?_
  refine G_st (x_put (k := 35) (ty := .boolean) (v := aI (1 : Int32)) (z := (1 : Int32)) (upS t1 (0, 29) 35 (1 : Int32)) dX7_image_7 (H0_29 29 (Nat.le_of_ble_eq_true rfl) (Nat.le_of_ble_eq_true rfl)) rfl rfl rfl rfl inTX7 tyX7_ok nmX7 (Nat.le_of_ble_eq_true rfl) tw_882 rfl rfl (fun ad => nar_b (Or.inr rfl)) (fun ad => fit_b (Or.inr rfl)) (fun ad => put_i1 ad _ _ _ _ rfl) rfl) ?_
  refine G_bvS (fun t2 => ?_)
  refine G_st (x_aload_n dX7_image_10 rfl) ?_
  refine G_st (x_aload_n dX7_image_11 rfl) ?_
  refine G_st (x_get (k := 34) (aR (0, 53)) dX7_image_12 (H0_29 29 (Nat.le_of_ble_eq_true rfl) (Nat.le_of_ble_eq_true rfl)) rfl rfl rfl rfl inTX7 (Nat.le_of_ble_eq_true rfl) tw_881 (fun ad => rfl)) ?_
  refine G_st (x_iconst (1 : Int32) dX7_image_15 rfl) ?_
  refine G_bd (fun _ t4 h5 => ?_)
  refine G_st (x_callV [] (c_X7_carryAll ids Hn (0, 53) (1 : Int32) H0_29 (H0_29 53 (Nat.le_of_ble_eq_true rfl) (Nat.le_of_ble_eq_true rfl)) rfl _ _ _ h5) dX7_image_16 tw_1023 kc_X7_carryAll (H0_29 29 (Nat.le_of_ble_eq_true rfl) (Nat.le_of_ble_eq_true rfl)) rfl rfl rfl rfl ⟨Nat.le_of_ble_eq_true rfl, Nat.le_of_ble_eq_true rfl⟩ (Nat.le_of_ble_eq_true rfl) rfl) ?_
  refine G_st (x_aload_n dX7_image_19 rfl) ?_
  refine G_st (x_get (k := 3) (aI (t4 (0, 29) 3)) dX7_image_20 (H0_29 29 (Nat.le_of_ble_eq_true rfl) (Nat.le_of_ble_eq_true rfl)) rfl rfl rfl rfl inTX7 (Nat.le_of_ble_eq_true rfl) tw_850 (fun ad => rfl)) ?_
  exact G_ret rfl ⟨dX7_image_23, _, rfl, rfl⟩ rfl
set_option maxRecDepth 100000 in
set_option maxHeartbeats 4000000 in
theorem c_X7_image (ids : List (Nat × Nat)) (Hn : Ndp ids)  (H0_29 : InR ids 0 29 56) (t0 : Sg) (r : Int32) (t1 : Sg) (hf : f_X7_image t0 = some (r, t1)) : Mt0 mX7_image yX7_image ids [aR (0, 29)] t0 (some (aI r)) t1 :=
  Mt_of (x := (r, t1)) (g_X7_image ids Hn  H0_29 t0) hf (fun _ _ => trivial) (by decide) rfl Hn (fun _ => rfl) (fun _ => Nat.le_of_ble_eq_true rfl)
theorem dX7_restore_0 : decode cX7_restore 0 = .ok (.aload_n 0, 1) := by decide +kernel
theorem dX7_restore_1 : decode cX7_restore 1 = .ok (.iconst 0, 1) := by decide +kernel
theorem dX7_restore_2 : decode cX7_restore 2 = .ok (.putfield 98, 3) := by decide +kernel
theorem dX7_restore_5 : decode cX7_restore 5 = .ok (.aload_n 0, 1) := by decide +kernel
theorem dX7_restore_6 : decode cX7_restore 6 = .ok (.getfield 252, 3) := by decide +kernel
theorem dX7_restore_9 : decode cX7_restore 9 = .ok (.ifCond .ne 10, 3) := by decide +kernel
theorem dX7_restore_12 : decode cX7_restore 12 = .ok (.aload_n 0, 1) := by decide +kernel
theorem dX7_restore_13 : decode cX7_restore 13 = .ok (.bipush (-3), 2) := by decide +kernel
theorem dX7_restore_15 : decode cX7_restore 15 = .ok (.invokevirtual 167, 3) := by decide +kernel
theorem dX7_restore_18 : decode cX7_restore 18 = .ok (.ireturn, 1) := by decide +kernel
theorem dX7_restore_19 : decode cX7_restore 19 = .ok (.aload_n 0, 1) := by decide +kernel
theorem dX7_restore_20 : decode cX7_restore 20 = .ok (.aload_n 0, 1) := by decide +kernel
theorem dX7_restore_21 : decode cX7_restore 21 = .ok (.getfield 86, 3) := by decide +kernel
theorem dX7_restore_24 : decode cX7_restore 24 = .ok (.iconst 0, 1) := by decide +kernel
theorem dX7_restore_25 : decode cX7_restore 25 = .ok (.invokevirtual 233, 3) := by decide +kernel
theorem dX7_restore_28 : decode cX7_restore 28 = .ok (.aload_n 0, 1) := by decide +kernel
theorem dX7_restore_29 : decode cX7_restore 29 = .ok (.getfield 164, 3) := by decide +kernel
theorem dX7_restore_32 : decode cX7_restore 32 = .ok (.ireturn, 1) := by decide +kernel
set_option maxRecDepth 100000 in
set_option maxHeartbeats 4000000 in
theorem g_X7_restore (ids : List (Nat × Nat)) (Hn : Ndp ids)  (H0_29 : InR ids 0 29 56) (t0 : Sg) : Gj kI mX7_restore ids 0 [some (aR (0, 29))] [] t0 (f_X7_restore t0) := by
  unfold f_X7_restore
  refine G_st (x_aload_n dX7_restore_0 rfl) ?_
  refine G_st (x_iconst (0 : Int32) dX7_restore_1 rfl) ?_
  refine G_st (x_put (k := 18) (ty := .int) (v := aI (0 : Int32)) (z := (0 : Int32)) (upS t0 (0, 29) 18 (0 : Int32)) dX7_restore_2 (H0_29 29 (Nat.le_of_ble_eq_true rfl) (Nat.le_of_ble_eq_true rfl)) rfl rfl rfl rfl inTX7 tyX7_ok nmX7 (Nat.le_of_ble_eq_true rfl) tw_865 rfl rfl (fun ad => rfl) (fun ad => rfl) (fun ad => put_i0 ad _ _ _ _ rfl) rfl) ?_
  refine G_bvS (fun t1 => ?_)
  refine G_st (x_aload_n dX7_restore_5 rfl) ?_
  refine G_st (x_get (k := 35) (aI (t1 (0, 29) 35)) dX7_restore_6 (H0_29 29 (Nat.le_of_ble_eq_true rfl) (Nat.le_of_ble_eq_true rfl)) rfl rfl rfl rfl inTX7 (Nat.le_of_ble_eq_true rfl) tw_882 (fun ad => rfl)) ?_
  refine G_ite (fun c2 => ?_) (fun c2 => ?_)
  · refine G_st (x_if_ne_f 19 dX7_restore_9 (by decide) c2) ?_
    refine G_st (x_aload_n dX7_restore_12 rfl) ?_
    refine G_st (x_bipush (-3 : Int32) dX7_restore_13 rfl) ?_
    refine G_bd (fun x3 t4 h5 => ?_)
    refine G_st (x_callV [] (c_X7_refuse ids Hn (-3 : Int32) H0_29 _ _ _ h5) dX7_restore_15 tw_981 kc_X7_refuse (H0_29 29 (Nat.le_of_ble_eq_true rfl) (Nat.le_of_ble_eq_true rfl)) rfl rfl rfl rfl ⟨Nat.le_of_ble_eq_true rfl, Nat.le_of_ble_eq_true rfl⟩ (Nat.le_of_ble_eq_true rfl) rfl) ?_
    exact G_ret rfl ⟨dX7_restore_18, _, rfl, rfl⟩ rfl
  · refine G_st (x_if_ne_t (tgt := 19) dX7_restore_9 (by decide) c2) ?_
    refine G_st (x_aload_n dX7_restore_19 rfl) ?_
    refine G_st (x_aload_n dX7_restore_20 rfl) ?_
    refine G_st (x_get (k := 34) (aR (0, 53)) dX7_restore_21 (H0_29 29 (Nat.le_of_ble_eq_true rfl) (Nat.le_of_ble_eq_true rfl)) rfl rfl rfl rfl inTX7 (Nat.le_of_ble_eq_true rfl) tw_881 (fun ad => rfl)) ?_
    refine G_st (x_iconst (0 : Int32) dX7_restore_24 rfl) ?_
    refine G_bd (fun _ t7 h8 => ?_)
    refine G_st (x_callV [] (c_X7_carryAll ids Hn (0, 53) (0 : Int32) H0_29 (H0_29 53 (Nat.le_of_ble_eq_true rfl) (Nat.le_of_ble_eq_true rfl)) rfl _ _ _ h8) dX7_restore_25 tw_1023 kc_X7_carryAll (H0_29 29 (Nat.le_of_ble_eq_true rfl) (Nat.le_of_ble_eq_true rfl)) rfl rfl rfl rfl ⟨Nat.le_of_ble_eq_true rfl, Nat.le_of_ble_eq_true rfl⟩ (Nat.le_of_ble_eq_true rfl) rfl) ?_
    refine G_st (x_aload_n dX7_restore_28 rfl) ?_
    refine G_st (x_get (k := 3) (aI (t7 (0, 29) 3)) dX7_restore_29 (H0_29 29 (Nat.le_of_ble_eq_true rfl) (Nat.le_of_ble_eq_true rfl)) rfl rfl rfl rfl inTX7 (Nat.le_of_ble_eq_true rfl) tw_850 (fun ad => rfl)) ?_
    exact G_ret rfl ⟨dX7_restore_32, _, rfl, rfl⟩ rfl
set_option maxRecDepth 100000 in
set_option maxHeartbeats 4000000 in
theorem c_X7_restore (ids : List (Nat × Nat)) (Hn : Ndp ids)  (H0_29 : InR ids 0 29 56) (t0 : Sg) (r : Int32) (t1 : Sg) (hf : f_X7_restore t0 = some (r, t1)) : Mt0 mX7_restore yX7_restore ids [aR (0, 29)] t0 (some (aI r)) t1 :=
  Mt_of (x := (r, t1)) (g_X7_restore ids Hn  H0_29 t0) hf (fun _ _ => trivial) (by decide) rfl Hn (fun _ => rfl) (fun _ => Nat.le_of_ble_eq_true rfl)
theorem dX7_flat_0 : decode cX7_flat 0 = .ok (.aload_n 0, 1) := by decide +kernel
theorem dX7_flat_1 : decode cX7_flat 1 = .ok (.iconst 0, 1) := by decide +kernel
theorem dX7_flat_2 : decode cX7_flat 2 = .ok (.putfield 98, 3) := by decide +kernel
theorem dX7_flat_5 : decode cX7_flat 5 = .ok (.aload_n 0, 1) := by decide +kernel
theorem dX7_flat_6 : decode cX7_flat 6 = .ok (.iload_n 1, 1) := by decide +kernel
theorem dX7_flat_7 : decode cX7_flat 7 = .ok (.invokevirtual 213, 3) := by decide +kernel
theorem dX7_flat_10 : decode cX7_flat 10 = .ok (.istore_n 3, 1) := by decide +kernel
theorem dX7_flat_11 : decode cX7_flat 11 = .ok (.iload_n 3, 1) := by decide +kernel
theorem dX7_flat_12 : decode cX7_flat 12 = .ok (.ifCond .lt 15, 3) := by decide +kernel
theorem dX7_flat_15 : decode cX7_flat 15 = .ok (.iload_n 2, 1) := by decide +kernel
theorem dX7_flat_16 : decode cX7_flat 16 = .ok (.i2l, 1) := by decide +kernel
theorem dX7_flat_17 : decode cX7_flat 17 = .ok (.lconst 0, 1) := by decide +kernel
theorem dX7_flat_18 : decode cX7_flat 18 = .ok (.ldc2_w 255, 3) := by decide +kernel
theorem dX7_flat_21 : decode cX7_flat 21 = .ok (.invokestatic 111, 3) := by decide +kernel
theorem dX7_flat_24 : decode cX7_flat 24 = .ok (.ifCond .ne 18, 3) := by decide +kernel
theorem dX7_flat_27 : decode cX7_flat 27 = .ok (.aload_n 0, 1) := by decide +kernel
theorem dX7_flat_28 : decode cX7_flat 28 = .ok (.iload_n 3, 1) := by decide +kernel
theorem dX7_flat_29 : decode cX7_flat 29 = .ok (.ifCond .ge 7, 3) := by decide +kernel
theorem dX7_flat_32 : decode cX7_flat 32 = .ok (.iconst (-1), 1) := by decide +kernel
theorem dX7_flat_33 : decode cX7_flat 33 = .ok (.goto 5, 3) := by decide +kernel
theorem dX7_flat_36 : decode cX7_flat 36 = .ok (.bipush (-2), 2) := by decide +kernel
theorem dX7_flat_38 : decode cX7_flat 38 = .ok (.invokevirtual 167, 3) := by decide +kernel
theorem dX7_flat_41 : decode cX7_flat 41 = .ok (.ireturn, 1) := by decide +kernel
theorem dX7_flat_42 : decode cX7_flat 42 = .ok (.iload_n 2, 1) := by decide +kernel
theorem dX7_flat_43 : decode cX7_flat 43 = .ok (.tableswitch 70 0 4 #[33, 40, 47, 56, 63], 33) := by decide +kernel
theorem dX7_flat_76 : decode cX7_flat 76 = .ok (.aload_n 0, 1) := by decide +kernel
theorem dX7_flat_77 : decode cX7_flat 77 = .ok (.getfield 16, 3) := by decide +kernel
theorem dX7_flat_80 : decode cX7_flat 80 = .ok (.iload_n 3, 1) := by decide +kernel
theorem dX7_flat_81 : decode cX7_flat 81 = .ok (.iaload, 1) := by decide +kernel
theorem dX7_flat_82 : decode cX7_flat 82 = .ok (.ireturn, 1) := by decide +kernel
theorem dX7_flat_83 : decode cX7_flat 83 = .ok (.aload_n 0, 1) := by decide +kernel
theorem dX7_flat_84 : decode cX7_flat 84 = .ok (.getfield 20, 3) := by decide +kernel
theorem dX7_flat_87 : decode cX7_flat 87 = .ok (.iload_n 3, 1) := by decide +kernel
theorem dX7_flat_88 : decode cX7_flat 88 = .ok (.iaload, 1) := by decide +kernel
theorem dX7_flat_89 : decode cX7_flat 89 = .ok (.ireturn, 1) := by decide +kernel
theorem dX7_flat_90 : decode cX7_flat 90 = .ok (.iconst 1, 1) := by decide +kernel
theorem dX7_flat_91 : decode cX7_flat 91 = .ok (.aload_n 0, 1) := by decide +kernel
theorem dX7_flat_92 : decode cX7_flat 92 = .ok (.getfield 23, 3) := by decide +kernel
theorem dX7_flat_95 : decode cX7_flat 95 = .ok (.iload_n 3, 1) := by decide +kernel
theorem dX7_flat_96 : decode cX7_flat 96 = .ok (.iaload, 1) := by decide +kernel
theorem dX7_flat_97 : decode cX7_flat 97 = .ok (.iadd, 1) := by decide +kernel
theorem dX7_flat_98 : decode cX7_flat 98 = .ok (.ireturn, 1) := by decide +kernel
theorem dX7_flat_99 : decode cX7_flat 99 = .ok (.aload_n 0, 1) := by decide +kernel
theorem dX7_flat_100 : decode cX7_flat 100 = .ok (.getfield 26, 3) := by decide +kernel
theorem dX7_flat_103 : decode cX7_flat 103 = .ok (.iload_n 3, 1) := by decide +kernel
theorem dX7_flat_104 : decode cX7_flat 104 = .ok (.iaload, 1) := by decide +kernel
theorem dX7_flat_105 : decode cX7_flat 105 = .ok (.ireturn, 1) := by decide +kernel
theorem dX7_flat_106 : decode cX7_flat 106 = .ok (.aload_n 0, 1) := by decide +kernel
theorem dX7_flat_107 : decode cX7_flat 107 = .ok (.getfield 29, 3) := by decide +kernel
theorem dX7_flat_110 : decode cX7_flat 110 = .ok (.iload_n 3, 1) := by decide +kernel
theorem dX7_flat_111 : decode cX7_flat 111 = .ok (.iaload, 1) := by decide +kernel
theorem dX7_flat_112 : decode cX7_flat 112 = .ok (.ireturn, 1) := by decide +kernel
theorem dX7_flat_113 : decode cX7_flat 113 = .ok (.aload_n 0, 1) := by decide +kernel
theorem dX7_flat_114 : decode cX7_flat 114 = .ok (.iload_n 3, 1) := by decide +kernel
theorem dX7_flat_115 : decode cX7_flat 115 = .ok (.invokevirtual 135, 3) := by decide +kernel
theorem dX7_flat_118 : decode cX7_flat 118 = .ok (.ireturn, 1) := by decide +kernel
set_option maxRecDepth 100000 in
set_option maxHeartbeats 4000000 in
theorem g_X7_flat_27 (ids : List (Nat × Nat)) (Hn : Ndp ids)  (H0_29 : InR ids 0 29 56)  (v3 : Int32) (t0 : Sg) : Gj kI mX7_flat ids 27 [some (aR (0, 29)), none, none, some (aI v3)] [] t0 (f_X7_flat_27 v3 t0) := by
  unfold f_X7_flat_27
  refine G_st (x_aload_n dX7_flat_27 rfl) ?_
  refine G_st (x_iload_n dX7_flat_28 rfl) ?_
  have e7 : Tj mX7_flat ids 29 [some (aR (0, 29)), none, none, some (aI v3)] [aI v3, aR (0, 29)] t0 38 [some (aR (0, 29)), none, none, some (aI v3)] [aI (if 0 ≤ v3 then (-2 : Int32) else (-1 : Int32)), aR (0, 29)] t0 := by
    refine Tj.dia (fun c6 => ?_) (fun c6 => ?_)
    · refine Tj.tr (x_if_ge_t (tgt := 36) dX7_flat_29 (by decide) c6) ?_
      refine Tj.tr (x_bipush (-2 : Int32) dX7_flat_36 rfl) ?_
      exact Tj.rf
    · refine Tj.tr (x_if_ge_f 36 dX7_flat_29 (by decide) c6) ?_
      refine Tj.tr (x_iconst (-1 : Int32) dX7_flat_32 rfl) ?_
      refine Tj.tr (x_goto (tgt := 38) dX7_flat_33 (by decide)) ?_
      exact Tj.rf
  refine G_st e7 ?_
  refine G_bd (fun x8 t9 h10 => ?_)
  refine G_st (x_callV [] (c_X7_refuse ids Hn (if 0 ≤ v3 then (-2 : Int32) else (-1 : Int32)) H0_29 _ _ _ h10) dX7_flat_38 tw_981 kc_X7_refuse (H0_29 29 (Nat.le_of_ble_eq_true rfl) (Nat.le_of_ble_eq_true rfl)) rfl rfl rfl rfl ⟨Nat.le_of_ble_eq_true rfl, Nat.le_of_ble_eq_true rfl⟩ (Nat.le_of_ble_eq_true rfl) rfl) ?_
  exact G_ret rfl ⟨dX7_flat_41, _, rfl, rfl⟩ rfl
set_option maxRecDepth 100000 in
set_option maxHeartbeats 4000000 in
theorem g_X7_flat (ids : List (Nat × Nat)) (Hn : Ndp ids) (v1 : Int32) (v2 : Int32) (H0_29 : InR ids 0 29 56) (t0 : Sg) : Gj kI mX7_flat ids 0 [some (aR (0, 29)), some (aI v1), some (aI v2), none] [] t0 (f_X7_flat v1 v2 t0) := by
  unfold f_X7_flat
  refine G_st (x_aload_n dX7_flat_0 rfl) ?_
  refine G_st (x_iconst (0 : Int32) dX7_flat_1 rfl) ?_
  refine G_st (x_put (k := 18) (ty := .int) (v := aI (0 : Int32)) (z := (0 : Int32)) (upS t0 (0, 29) 18 (0 : Int32)) dX7_flat_2 (H0_29 29 (Nat.le_of_ble_eq_true rfl) (Nat.le_of_ble_eq_true rfl)) rfl rfl rfl rfl inTX7 tyX7_ok nmX7 (Nat.le_of_ble_eq_true rfl) tw_865 rfl rfl (fun ad => rfl) (fun ad => rfl) (fun ad => put_i0 ad _ _ _ _ rfl) rfl) ?_
  refine G_bvS (fun t1 => ?_)
  refine G_st (x_aload_n dX7_flat_5 rfl) ?_
  refine G_st (x_iload_n dX7_flat_6 rfl) ?_
  refine G_bd (fun x2 t3 h4 => ?_)
  refine G_st (x_callV [] (c_X7_flatAt ids Hn v1 H0_29 _ _ _ h4) dX7_flat_7 tw_1054 kc_X7_flatAt (H0_29 29 (Nat.le_of_ble_eq_true rfl) (Nat.le_of_ble_eq_true rfl)) rfl rfl rfl rfl ⟨Nat.le_of_ble_eq_true rfl, Nat.le_of_ble_eq_true rfl⟩ (Nat.le_of_ble_eq_true rfl) rfl) ?_
  refine G_st (x_istore_n [some (aR (0, 29)), some (aI v1), some (aI v2), some (aI x2)] dX7_flat_10 (Nat.le_of_ble_eq_true rfl) rfl rfl) ?_
  refine G_st (x_iload_n dX7_flat_11 rfl) ?_
  refine G_ite (fun c5 => ?_) (fun c5 => ?_)
  · refine G_st (x_if_lt_t (tgt := 27) dX7_flat_12 (by decide) c5) ?_
    refine G_weak _ ?_ (g_X7_flat_27 ids Hn H0_29 x2 t3)
    exact (leL_s (leL_n (leL_n (leL_s (leL_e _)))))
  · refine G_st (x_if_lt_f 27 dX7_flat_12 (by decide) c5) ?_
    refine G_st (x_iload_n dX7_flat_15 rfl) ?_
    refine G_st (x_i2l dX7_flat_16) ?_
    refine G_st (x_lconst (0 : Int64) dX7_flat_17 rfl) ?_
    refine G_st (x_ldc2 dX7_flat_18 tw_1077) ?_
    refine G_bd (fun x11 t12 h13 => ?_)
    refine G_st (x_callS [] (c_X7_in ids Hn (v2).toInt64 (0 : Int64) (5 : Int64)  _ _ _ h13) dX7_flat_21 tw_1003 kc_X7_in rfl ⟨Nat.le_of_ble_eq_true rfl, Nat.le_of_ble_eq_true rfl⟩ (Nat.le_of_ble_eq_true rfl) rfl) ?_
    refine G_ite (fun c14 => ?_) (fun c14 => ?_)
    · refine G_st (x_if_ne_f 42 dX7_flat_24 (by decide) c14) ?_
      refine G_weak _ ?_ (g_X7_flat_27 ids Hn H0_29 x2 t12)
      exact (leL_s (leL_n (leL_n (leL_s (leL_e _)))))
    · refine G_st (x_if_ne_t (tgt := 42) dX7_flat_24 (by decide) c14) ?_
      refine G_st (x_iload_n dX7_flat_42 rfl) ?_
      refine G_ite (fun c15 => ?_) (fun c15 => ?_)
      · refine G_st (x_tabIn (tgt := 76) (0 : Int32) dX7_flat_43 c15 (by decide) (by decide) rfl (by decide)) ?_
        refine G_st (x_aload_n dX7_flat_76 rfl) ?_
        refine G_st (x_get (k := 5) (aR (0, 30)) dX7_flat_77 (H0_29 29 (Nat.le_of_ble_eq_true rfl) (Nat.le_of_ble_eq_true rfl)) rfl rfl rfl rfl inTX7 (Nat.le_of_ble_eq_true rfl) tw_852 (fun ad => rfl)) ?_
        refine G_st (x_iload_n dX7_flat_80 rfl) ?_
        refine G_chk (fun c16 => ?_)
        refine G_st (x_iaload dX7_flat_81 (H0_29 30 (Nat.le_of_ble_eq_true rfl) (Nat.le_of_ble_eq_true rfl)) rfl c16) ?_
        exact G_ret rfl ⟨dX7_flat_82, _, rfl, rfl⟩ rfl
      refine G_ite (fun c17 => ?_) (fun c17 => ?_)
      · refine G_st (x_tabIn (tgt := 83) (1 : Int32) dX7_flat_43 c17 (by decide) (by decide) rfl (by decide)) ?_
        refine G_st (x_aload_n dX7_flat_83 rfl) ?_
        refine G_st (x_get (k := 6) (aR (0, 31)) dX7_flat_84 (H0_29 29 (Nat.le_of_ble_eq_true rfl) (Nat.le_of_ble_eq_true rfl)) rfl rfl rfl rfl inTX7 (Nat.le_of_ble_eq_true rfl) tw_853 (fun ad => rfl)) ?_
        refine G_st (x_iload_n dX7_flat_87 rfl) ?_
        refine G_chk (fun c18 => ?_)
        refine G_st (x_iaload dX7_flat_88 (H0_29 31 (Nat.le_of_ble_eq_true rfl) (Nat.le_of_ble_eq_true rfl)) rfl c18) ?_
        exact G_ret rfl ⟨dX7_flat_89, _, rfl, rfl⟩ rfl
      refine G_ite (fun c19 => ?_) (fun c19 => ?_)
      · refine G_st (x_tabIn (tgt := 90) (2 : Int32) dX7_flat_43 c19 (by decide) (by decide) rfl (by decide)) ?_
        refine G_st (x_iconst (1 : Int32) dX7_flat_90 rfl) ?_
        refine G_st (x_aload_n dX7_flat_91 rfl) ?_
        refine G_st (x_get (k := 7) (aR (0, 32)) dX7_flat_92 (H0_29 29 (Nat.le_of_ble_eq_true rfl) (Nat.le_of_ble_eq_true rfl)) rfl rfl rfl rfl inTX7 (Nat.le_of_ble_eq_true rfl) tw_854 (fun ad => rfl)) ?_
        refine G_st (x_iload_n dX7_flat_95 rfl) ?_
        refine G_chk (fun c20 => ?_)
        refine G_st (x_iaload dX7_flat_96 (H0_29 32 (Nat.le_of_ble_eq_true rfl) (Nat.le_of_ble_eq_true rfl)) rfl c20) ?_
        refine G_st (x_iadd dX7_flat_97) ?_
        exact G_ret rfl ⟨dX7_flat_98, _, rfl, rfl⟩ rfl
      refine G_ite (fun c21 => ?_) (fun c21 => ?_)
      · refine G_st (x_tabIn (tgt := 99) (3 : Int32) dX7_flat_43 c21 (by decide) (by decide) rfl (by decide)) ?_
        refine G_st (x_aload_n dX7_flat_99 rfl) ?_
        refine G_st (x_get (k := 8) (aR (0, 33)) dX7_flat_100 (H0_29 29 (Nat.le_of_ble_eq_true rfl) (Nat.le_of_ble_eq_true rfl)) rfl rfl rfl rfl inTX7 (Nat.le_of_ble_eq_true rfl) tw_855 (fun ad => rfl)) ?_
        refine G_st (x_iload_n dX7_flat_103 rfl) ?_
        refine G_chk (fun c22 => ?_)
        refine G_st (x_iaload dX7_flat_104 (H0_29 33 (Nat.le_of_ble_eq_true rfl) (Nat.le_of_ble_eq_true rfl)) rfl c22) ?_
        exact G_ret rfl ⟨dX7_flat_105, _, rfl, rfl⟩ rfl
      refine G_ite (fun c23 => ?_) (fun c23 => ?_)
      · refine G_st (x_tabIn (tgt := 106) (4 : Int32) dX7_flat_43 c23 (by decide) (by decide) rfl (by decide)) ?_
        refine G_st (x_aload_n dX7_flat_106 rfl) ?_
        refine G_st (x_get (k := 9) (aR (0, 34)) dX7_flat_107 (H0_29 29 (Nat.le_of_ble_eq_true rfl) (Nat.le_of_ble_eq_true rfl)) rfl rfl rfl rfl inTX7 (Nat.le_of_ble_eq_true rfl) tw_856 (fun ad => rfl)) ?_
        refine G_st (x_iload_n dX7_flat_110 rfl) ?_
        refine G_chk (fun c24 => ?_)
        refine G_st (x_iaload dX7_flat_111 (H0_29 34 (Nat.le_of_ble_eq_true rfl) (Nat.le_of_ble_eq_true rfl)) rfl c24) ?_
        exact G_ret rfl ⟨dX7_flat_112, _, rfl, rfl⟩ rfl
      refine G_st (x_tabOut (tgt := 113) dX7_flat_43 (by have c15q : ¬ (v2).toInt = (0 : Int) := lv_neT c15 rfl; have c17q : ¬ (v2).toInt = (1 : Int) := lv_neT c17 rfl; have c19q : ¬ (v2).toInt = (2 : Int) := lv_neT c19 rfl; have c21q : ¬ (v2).toInt = (3 : Int) := lv_neT c21 rfl; have c23q : ¬ (v2).toInt = (4 : Int) := lv_neT c23 rfl; omega) (by decide)) ?_
      refine G_st (x_aload_n dX7_flat_113 rfl) ?_
      refine G_st (x_iload_n dX7_flat_114 rfl) ?_
      refine G_bd (fun x25 t26 h27 => ?_)
      refine G_st (x_callV [] (c_X7_livesIn ids Hn x2 H0_29 _ _ _ h27) dX7_flat_115 tw_1078 kc_X7_livesIn (H0_29 29 (Nat.le_of_ble_eq_true rfl) (Nat.le_of_ble_eq_true rfl)) rfl rfl rfl rfl ⟨Nat.le_of_ble_eq_true rfl, Nat.le_of_ble_eq_true rfl⟩ (Nat.le_of_ble_eq_true rfl) rfl) ?_
      exact G_ret rfl ⟨dX7_flat_118, _, rfl, rfl⟩ rfl
set_option maxRecDepth 100000 in
set_option maxHeartbeats 4000000 in
theorem c_X7_flat (ids : List (Nat × Nat)) (Hn : Ndp ids) (v1 : Int32) (v2 : Int32) (H0_29 : InR ids 0 29 56) (t0 : Sg) (r : Int32) (t1 : Sg) (hf : f_X7_flat v1 v2 t0 = some (r, t1)) : Mt0 mX7_flat yX7_flat ids [aR (0, 29), aI v1, aI v2] t0 (some (aI r)) t1 :=
  Mt_of (x := (r, t1)) (g_X7_flat ids Hn v1 v2 H0_29 t0) hf (fun _ _ => trivial) (by decide) rfl Hn (fun _ => rfl) (fun _ => Nat.le_of_ble_eq_true rfl)
theorem dX7_habitsOf_0 : decode cX7_habitsOf 0 = .ok (.iconst 0, 1) := by decide +kernel
theorem dX7_habitsOf_1 : decode cX7_habitsOf 1 = .ok (.istore_n 2, 1) := by decide +kernel
theorem dX7_habitsOf_2 : decode cX7_habitsOf 2 = .ok (.iconst 0, 1) := by decide +kernel
theorem dX7_habitsOf_3 : decode cX7_habitsOf 3 = .ok (.istore_n 3, 1) := by decide +kernel
theorem dX7_habitsOf_4 : decode cX7_habitsOf 4 = .ok (.iload_n 3, 1) := by decide +kernel
theorem dX7_habitsOf_5 : decode cX7_habitsOf 5 = .ok (.aload_n 0, 1) := by decide +kernel
theorem dX7_habitsOf_6 : decode cX7_habitsOf 6 = .ok (.getfield 104, 3) := by decide +kernel
theorem dX7_habitsOf_9 : decode cX7_habitsOf 9 = .ok (.if_icmp .ge 27, 3) := by decide +kernel
theorem dX7_habitsOf_12 : decode cX7_habitsOf 12 = .ok (.iload_n 2, 1) := by decide +kernel
theorem dX7_habitsOf_13 : decode cX7_habitsOf 13 = .ok (.aload_n 0, 1) := by decide +kernel
theorem dX7_habitsOf_14 : decode cX7_habitsOf 14 = .ok (.getfield 44, 3) := by decide +kernel
theorem dX7_habitsOf_17 : decode cX7_habitsOf 17 = .ok (.iload_n 3, 1) := by decide +kernel
theorem dX7_habitsOf_18 : decode cX7_habitsOf 18 = .ok (.iaload, 1) := by decide +kernel
theorem dX7_habitsOf_19 : decode cX7_habitsOf 19 = .ok (.iload_n 1, 1) := by decide +kernel
theorem dX7_habitsOf_20 : decode cX7_habitsOf 20 = .ok (.if_icmp .ne 7, 3) := by decide +kernel
theorem dX7_habitsOf_23 : decode cX7_habitsOf 23 = .ok (.iconst 1, 1) := by decide +kernel
theorem dX7_habitsOf_24 : decode cX7_habitsOf 24 = .ok (.goto 4, 3) := by decide +kernel
theorem dX7_habitsOf_27 : decode cX7_habitsOf 27 = .ok (.iconst 0, 1) := by decide +kernel
theorem dX7_habitsOf_28 : decode cX7_habitsOf 28 = .ok (.iadd, 1) := by decide +kernel
theorem dX7_habitsOf_29 : decode cX7_habitsOf 29 = .ok (.istore_n 2, 1) := by decide +kernel
theorem dX7_habitsOf_30 : decode cX7_habitsOf 30 = .ok (.iinc 3 1, 3) := by decide +kernel
theorem dX7_habitsOf_33 : decode cX7_habitsOf 33 = .ok (.goto (-29), 3) := by decide +kernel
theorem dX7_habitsOf_36 : decode cX7_habitsOf 36 = .ok (.iload_n 2, 1) := by decide +kernel
theorem dX7_habitsOf_37 : decode cX7_habitsOf 37 = .ok (.ireturn, 1) := by decide +kernel
set_option maxRecDepth 100000 in
set_option maxHeartbeats 4000000 in
theorem g_X7_habitsOf_4 (ids : List (Nat × Nat)) (Hn : Ndp ids)  (H0_29 : InR ids 0 29 56)  : ∀ (n : Nat) (v1 : Int32) (v2 : Int32) (v3 : Int32) (t0 : Sg), Gj kI mX7_habitsOf ids 4 [some (aR (0, 29)), some (aI v1), some (aI v2), some (aI v3)] [] t0 (f_X7_habitsOf_4 n v1 v2 v3 t0) := by
  intro n
  induction n with
  | zero => intro v1 v2 v3 t0; exact G_none
  | succ n ih =>
    intro v1 v2 v3 t0
    rw [f_X7_habitsOf_4]
    refine G_st (x_iload_n dX7_habitsOf_4 rfl) ?_
    refine G_st (x_aload_n dX7_habitsOf_5 rfl) ?_
    refine G_st (x_get (k := 4) (aI (t0 (0, 29) 4)) dX7_habitsOf_6 (H0_29 29 (Nat.le_of_ble_eq_true rfl) (Nat.le_of_ble_eq_true rfl)) rfl rfl rfl rfl inTX7 (Nat.le_of_ble_eq_true rfl) tw_851 (fun ad => rfl)) ?_
    refine G_ite (fun c1 => ?_) (fun c1 => ?_)
    · refine G_st (x_icmp_ge_t (tgt := 36) dX7_habitsOf_9 (by decide) c1) ?_
      refine G_st (x_iload_n dX7_habitsOf_36 rfl) ?_
      exact G_ret rfl ⟨dX7_habitsOf_37, _, rfl, rfl⟩ rfl
    · refine G_st (x_icmp_ge_f 36 dX7_habitsOf_9 (by decide) c1) ?_
      refine G_st (x_iload_n dX7_habitsOf_12 rfl) ?_
      refine G_st (x_aload_n dX7_habitsOf_13 rfl) ?_
      refine G_st (x_get (k := 14) (aR (0, 39)) dX7_habitsOf_14 (H0_29 29 (Nat.le_of_ble_eq_true rfl) (Nat.le_of_ble_eq_true rfl)) rfl rfl rfl rfl inTX7 (Nat.le_of_ble_eq_true rfl) tw_861 (fun ad => rfl)) ?_
      refine G_st (x_iload_n dX7_habitsOf_17 rfl) ?_
      refine G_chk (fun c2 => ?_)
      refine G_st (x_iaload dX7_habitsOf_18 (H0_29 39 (Nat.le_of_ble_eq_true rfl) (Nat.le_of_ble_eq_true rfl)) rfl c2) ?_
      refine G_st (x_iload_n dX7_habitsOf_19 rfl) ?_
      have e4 : Tj mX7_habitsOf ids 20 [some (aR (0, 29)), some (aI v1), some (aI v2), some (aI v3)] [aI v1, aI (t0 (0, 39) (v3).toNatClampNeg), aI v2] t0 28 [some (aR (0, 29)), some (aI v1), some (aI v2), some (aI v3)] [aI (if (t0 (0, 39) (v3).toNatClampNeg) = v1 then (1 : Int32) else (0 : Int32)), aI v2] t0 := by
        refine Tj.dia (fun c3 => ?_) (fun c3 => ?_)
        · refine Tj.tr (x_icmp_ne_f 27 dX7_habitsOf_20 (by decide) c3) ?_
          refine Tj.tr (x_iconst (1 : Int32) dX7_habitsOf_23 rfl) ?_
          refine Tj.tr (x_goto (tgt := 28) dX7_habitsOf_24 (by decide)) ?_
          exact Tj.rf
        · refine Tj.tr (x_icmp_ne_t (tgt := 27) dX7_habitsOf_20 (by decide) c3) ?_
          refine Tj.tr (x_iconst (0 : Int32) dX7_habitsOf_27 rfl) ?_
          exact Tj.rf
      refine G_st e4 ?_
      refine G_st (x_iadd dX7_habitsOf_28) ?_
      refine G_bvI (fun x5 => ?_)
      refine G_st (x_istore_n [some (aR (0, 29)), some (aI v1), some (aI x5), some (aI v3)] dX7_habitsOf_29 (Nat.le_of_ble_eq_true rfl) rfl rfl) ?_
      refine G_st (x_iinc (v3 + (1 : Int32)) [some (aR (0, 29)), some (aI v1), some (aI x5), some (aI (v3 + (1 : Int32)))] dX7_habitsOf_30 (Nat.le_of_ble_eq_true rfl) rfl rfl rfl rfl) ?_
      refine G_st (x_goto (tgt := 4) dX7_habitsOf_33 (by decide)) ?_
      refine G_weak _ ?_ ((ih) v1 x5 (v3 + (1 : Int32)) t0)
      exact (leL_s (leL_s (leL_s (leL_s (leL_e _)))))
set_option maxRecDepth 100000 in
set_option maxHeartbeats 4000000 in
theorem g_X7_habitsOf (ids : List (Nat × Nat)) (Hn : Ndp ids) (v1 : Int32) (H0_29 : InR ids 0 29 56) (t0 : Sg) : Gj kI mX7_habitsOf ids 0 [some (aR (0, 29)), some (aI v1), none, none] [] t0 (f_X7_habitsOf v1 t0) := by
  unfold f_X7_habitsOf
  refine G_st (x_iconst (0 : Int32) dX7_habitsOf_0 rfl) ?_
  refine G_st (x_istore_n [some (aR (0, 29)), some (aI v1), some (aI (0 : Int32)), none] dX7_habitsOf_1 (Nat.le_of_ble_eq_true rfl) rfl rfl) ?_
  refine G_st (x_iconst (0 : Int32) dX7_habitsOf_2 rfl) ?_
  refine G_st (x_istore_n [some (aR (0, 29)), some (aI v1), some (aI (0 : Int32)), some (aI (0 : Int32))] dX7_habitsOf_3 (Nat.le_of_ble_eq_true rfl) rfl rfl) ?_
  refine G_weak _ ?_ (g_X7_habitsOf_4 ids Hn H0_29 fuel v1 (0 : Int32) (0 : Int32) t0)
  exact (leL_s (leL_s (leL_s (leL_s (leL_e _)))))
set_option maxRecDepth 100000 in
set_option maxHeartbeats 4000000 in
theorem c_X7_habitsOf (ids : List (Nat × Nat)) (Hn : Ndp ids) (v1 : Int32) (H0_29 : InR ids 0 29 56) (t0 : Sg) (r : Int32) (t1 : Sg) (hf : f_X7_habitsOf v1 t0 = some (r, t1)) : Mt0 mX7_habitsOf yX7_habitsOf ids [aR (0, 29), aI v1] t0 (some (aI r)) t1 :=
  Mt_of (x := (r, t1)) (g_X7_habitsOf ids Hn v1 H0_29 t0) hf (fun _ _ => trivial) (by decide) rfl Hn (fun _ => rfl) (fun _ => Nat.le_of_ble_eq_true rfl)
theorem dX7_tenant_0 : decode cX7_tenant 0 = .ok (.aload_n 0, 1) := by decide +kernel
theorem dX7_tenant_1 : decode cX7_tenant 1 = .ok (.iconst 0, 1) := by decide +kernel
theorem dX7_tenant_2 : decode cX7_tenant 2 = .ok (.putfield 98, 3) := by decide +kernel
theorem dX7_tenant_5 : decode cX7_tenant 5 = .ok (.aload_n 0, 1) := by decide +kernel
theorem dX7_tenant_6 : decode cX7_tenant 6 = .ok (.iload_n 1, 1) := by decide +kernel
theorem dX7_tenant_7 : decode cX7_tenant 7 = .ok (.invokevirtual 115, 3) := by decide +kernel
theorem dX7_tenant_10 : decode cX7_tenant 10 = .ok (.ifCond .eq 15, 3) := by decide +kernel
theorem dX7_tenant_13 : decode cX7_tenant 13 = .ok (.iload_n 2, 1) := by decide +kernel
theorem dX7_tenant_14 : decode cX7_tenant 14 = .ok (.i2l, 1) := by decide +kernel
theorem dX7_tenant_15 : decode cX7_tenant 15 = .ok (.lconst 0, 1) := by decide +kernel
theorem dX7_tenant_16 : decode cX7_tenant 16 = .ok (.ldc2_w 207, 3) := by decide +kernel
theorem dX7_tenant_19 : decode cX7_tenant 19 = .ok (.invokestatic 111, 3) := by decide +kernel
theorem dX7_tenant_22 : decode cX7_tenant 22 = .ok (.ifCond .ne 22, 3) := by decide +kernel
theorem dX7_tenant_25 : decode cX7_tenant 25 = .ok (.aload_n 0, 1) := by decide +kernel
theorem dX7_tenant_26 : decode cX7_tenant 26 = .ok (.aload_n 0, 1) := by decide +kernel
theorem dX7_tenant_27 : decode cX7_tenant 27 = .ok (.iload_n 1, 1) := by decide +kernel
theorem dX7_tenant_28 : decode cX7_tenant 28 = .ok (.invokevirtual 115, 3) := by decide +kernel
theorem dX7_tenant_31 : decode cX7_tenant 31 = .ok (.ifCond .eq 8, 3) := by decide +kernel
theorem dX7_tenant_34 : decode cX7_tenant 34 = .ok (.bipush (-2), 2) := by decide +kernel
theorem dX7_tenant_36 : decode cX7_tenant 36 = .ok (.goto 4, 3) := by decide +kernel
theorem dX7_tenant_39 : decode cX7_tenant 39 = .ok (.iconst (-1), 1) := by decide +kernel
theorem dX7_tenant_40 : decode cX7_tenant 40 = .ok (.invokevirtual 167, 3) := by decide +kernel
theorem dX7_tenant_43 : decode cX7_tenant 43 = .ok (.ireturn, 1) := by decide +kernel
theorem dX7_tenant_44 : decode cX7_tenant 44 = .ok (.iload_n 2, 1) := by decide +kernel
theorem dX7_tenant_45 : decode cX7_tenant 45 = .ok (.ifCond .ne 15, 3) := by decide +kernel
theorem dX7_tenant_48 : decode cX7_tenant 48 = .ok (.aload_n 0, 1) := by decide +kernel
theorem dX7_tenant_49 : decode cX7_tenant 49 = .ok (.getfield 32, 3) := by decide +kernel
theorem dX7_tenant_52 : decode cX7_tenant 52 = .ok (.iload_n 1, 1) := by decide +kernel
theorem dX7_tenant_53 : decode cX7_tenant 53 = .ok (.iaload, 1) := by decide +kernel
theorem dX7_tenant_54 : decode cX7_tenant 54 = .ok (.invokestatic 257, 3) := by decide +kernel
theorem dX7_tenant_57 : decode cX7_tenant 57 = .ok (.goto 22, 3) := by decide +kernel
theorem dX7_tenant_60 : decode cX7_tenant 60 = .ok (.iload_n 2, 1) := by decide +kernel
theorem dX7_tenant_61 : decode cX7_tenant 61 = .ok (.iconst 1, 1) := by decide +kernel
theorem dX7_tenant_62 : decode cX7_tenant 62 = .ok (.if_icmp .ne 12, 3) := by decide +kernel
theorem dX7_tenant_65 : decode cX7_tenant 65 = .ok (.aload_n 0, 1) := by decide +kernel
theorem dX7_tenant_66 : decode cX7_tenant 66 = .ok (.getfield 35, 3) := by decide +kernel
theorem dX7_tenant_69 : decode cX7_tenant 69 = .ok (.iload_n 1, 1) := by decide +kernel
theorem dX7_tenant_70 : decode cX7_tenant 70 = .ok (.iaload, 1) := by decide +kernel
theorem dX7_tenant_71 : decode cX7_tenant 71 = .ok (.goto 8, 3) := by decide +kernel
theorem dX7_tenant_74 : decode cX7_tenant 74 = .ok (.aload_n 0, 1) := by decide +kernel
theorem dX7_tenant_75 : decode cX7_tenant 75 = .ok (.iload_n 1, 1) := by decide +kernel
theorem dX7_tenant_76 : decode cX7_tenant 76 = .ok (.invokevirtual 260, 3) := by decide +kernel
theorem dX7_tenant_79 : decode cX7_tenant 79 = .ok (.ireturn, 1) := by decide +kernel
set_option maxRecDepth 100000 in
set_option maxHeartbeats 4000000 in
theorem g_X7_tenant_25 (ids : List (Nat × Nat)) (Hn : Ndp ids)  (H0_29 : InR ids 0 29 56)  (v1 : Int32) (t0 : Sg) : Gj kI mX7_tenant ids 25 [some (aR (0, 29)), some (aI v1), none] [] t0 (f_X7_tenant_25 v1 t0) := by
  unfold f_X7_tenant_25
  refine G_st (x_aload_n dX7_tenant_25 rfl) ?_
  refine G_st (x_aload_n dX7_tenant_26 rfl) ?_
  refine G_st (x_iload_n dX7_tenant_27 rfl) ?_
  refine G_bd (fun x6 t7 h8 => ?_)
  refine G_st (x_callV [aR (0, 29)] (c_X7_isTenant ids Hn v1 H0_29 _ _ _ h8) dX7_tenant_28 tw_1086 kc_X7_isTenant (H0_29 29 (Nat.le_of_ble_eq_true rfl) (Nat.le_of_ble_eq_true rfl)) rfl rfl rfl rfl ⟨Nat.le_of_ble_eq_true rfl, Nat.le_of_ble_eq_true rfl⟩ (Nat.le_of_ble_eq_true rfl) rfl) ?_
  have e10 : Tj mX7_tenant ids 31 [some (aR (0, 29)), some (aI v1), none] [aI x6, aR (0, 29)] t7 40 [some (aR (0, 29)), some (aI v1), none] [aI (if x6 = 0 then (-1 : Int32) else (-2 : Int32)), aR (0, 29)] t7 := by
    refine Tj.dia (fun c9 => ?_) (fun c9 => ?_)
    · refine Tj.tr (x_if_eq_t (tgt := 39) dX7_tenant_31 (by decide) c9) ?_
      refine Tj.tr (x_iconst (-1 : Int32) dX7_tenant_39 rfl) ?_
      exact Tj.rf
    · refine Tj.tr (x_if_eq_f 39 dX7_tenant_31 (by decide) c9) ?_
      refine Tj.tr (x_bipush (-2 : Int32) dX7_tenant_34 rfl) ?_
      refine Tj.tr (x_goto (tgt := 40) dX7_tenant_36 (by decide)) ?_
      exact Tj.rf
  refine G_st e10 ?_
  refine G_bd (fun x11 t12 h13 => ?_)
  refine G_st (x_callV [] (c_X7_refuse ids Hn (if x6 = 0 then (-1 : Int32) else (-2 : Int32)) H0_29 _ _ _ h13) dX7_tenant_40 tw_981 kc_X7_refuse (H0_29 29 (Nat.le_of_ble_eq_true rfl) (Nat.le_of_ble_eq_true rfl)) rfl rfl rfl rfl ⟨Nat.le_of_ble_eq_true rfl, Nat.le_of_ble_eq_true rfl⟩ (Nat.le_of_ble_eq_true rfl) rfl) ?_
  exact G_ret rfl ⟨dX7_tenant_43, _, rfl, rfl⟩ rfl
set_option maxRecDepth 100000 in
set_option maxHeartbeats 4000000 in
theorem g_X7_tenant (ids : List (Nat × Nat)) (Hn : Ndp ids) (v1 : Int32) (v2 : Int32) (H0_29 : InR ids 0 29 56) (t0 : Sg) : Gj kI mX7_tenant ids 0 [some (aR (0, 29)), some (aI v1), some (aI v2)] [] t0 (f_X7_tenant v1 v2 t0) := by
  unfold f_X7_tenant
  refine G_st (x_aload_n dX7_tenant_0 rfl) ?_
  refine G_st (x_iconst (0 : Int32) dX7_tenant_1 rfl) ?_
  refine G_st (x_put (k := 18) (ty := .int) (v := aI (0 : Int32)) (z := (0 : Int32)) (upS t0 (0, 29) 18 (0 : Int32)) dX7_tenant_2 (H0_29 29 (Nat.le_of_ble_eq_true rfl) (Nat.le_of_ble_eq_true rfl)) rfl rfl rfl rfl inTX7 tyX7_ok nmX7 (Nat.le_of_ble_eq_true rfl) tw_865 rfl rfl (fun ad => rfl) (fun ad => rfl) (fun ad => put_i0 ad _ _ _ _ rfl) rfl) ?_
  refine G_bvS (fun t1 => ?_)
  refine G_st (x_aload_n dX7_tenant_5 rfl) ?_
  refine G_st (x_iload_n dX7_tenant_6 rfl) ?_
  refine G_bd (fun x2 t3 h4 => ?_)
  refine G_st (x_callV [] (c_X7_isTenant ids Hn v1 H0_29 _ _ _ h4) dX7_tenant_7 tw_1086 kc_X7_isTenant (H0_29 29 (Nat.le_of_ble_eq_true rfl) (Nat.le_of_ble_eq_true rfl)) rfl rfl rfl rfl ⟨Nat.le_of_ble_eq_true rfl, Nat.le_of_ble_eq_true rfl⟩ (Nat.le_of_ble_eq_true rfl) rfl) ?_
  refine G_ite (fun c5 => ?_) (fun c5 => ?_)
  · refine G_st (x_if_eq_t (tgt := 25) dX7_tenant_10 (by decide) c5) ?_
    refine G_weak _ ?_ (g_X7_tenant_25 ids Hn H0_29 v1 t3)
    exact (leL_s (leL_s (leL_n (leL_e _))))
  · refine G_st (x_if_eq_f 25 dX7_tenant_10 (by decide) c5) ?_
    refine G_st (x_iload_n dX7_tenant_13 rfl) ?_
    refine G_st (x_i2l dX7_tenant_14) ?_
    refine G_st (x_lconst (0 : Int64) dX7_tenant_15 rfl) ?_
    refine G_st (x_ldc2 dX7_tenant_16 tw_1039) ?_
    refine G_bd (fun x14 t15 h16 => ?_)
    refine G_st (x_callS [] (c_X7_in ids Hn (v2).toInt64 (0 : Int64) (2 : Int64)  _ _ _ h16) dX7_tenant_19 tw_1003 kc_X7_in rfl ⟨Nat.le_of_ble_eq_true rfl, Nat.le_of_ble_eq_true rfl⟩ (Nat.le_of_ble_eq_true rfl) rfl) ?_
    refine G_ite (fun c17 => ?_) (fun c17 => ?_)
    · refine G_st (x_if_ne_f 44 dX7_tenant_22 (by decide) c17) ?_
      refine G_weak _ ?_ (g_X7_tenant_25 ids Hn H0_29 v1 t15)
      exact (leL_s (leL_s (leL_n (leL_e _))))
    · refine G_st (x_if_ne_t (tgt := 44) dX7_tenant_22 (by decide) c17) ?_
      refine G_st (x_iload_n dX7_tenant_44 rfl) ?_
      refine G_ite (fun c18 => ?_) (fun c18 => ?_)
      · refine G_st (x_if_ne_f 60 dX7_tenant_45 (by decide) c18) ?_
        refine G_st (x_aload_n dX7_tenant_48 rfl) ?_
        refine G_st (x_get (k := 10) (aR (0, 35)) dX7_tenant_49 (H0_29 29 (Nat.le_of_ble_eq_true rfl) (Nat.le_of_ble_eq_true rfl)) rfl rfl rfl rfl inTX7 (Nat.le_of_ble_eq_true rfl) tw_857 (fun ad => rfl)) ?_
        refine G_st (x_iload_n dX7_tenant_52 rfl) ?_
        refine G_chk (fun c19 => ?_)
        refine G_st (x_iaload dX7_tenant_53 (H0_29 35 (Nat.le_of_ble_eq_true rfl) (Nat.le_of_ble_eq_true rfl)) rfl c19) ?_
        refine G_bd (fun x20 t21 h22 => ?_)
        refine G_st (x_callS [] (c_X7_toldAs ids Hn (t15 (0, 35) (v1).toNatClampNeg)  _ _ _ h22) dX7_tenant_54 tw_1090 kc_X7_toldAs rfl ⟨Nat.le_of_ble_eq_true rfl, Nat.le_of_ble_eq_true rfl⟩ (Nat.le_of_ble_eq_true rfl) rfl) ?_
        refine G_st (x_goto (tgt := 79) dX7_tenant_57 (by decide)) ?_
        exact G_ret rfl ⟨dX7_tenant_79, _, rfl, rfl⟩ rfl
      · refine G_st (x_if_ne_t (tgt := 60) dX7_tenant_45 (by decide) c18) ?_
        refine G_st (x_iload_n dX7_tenant_60 rfl) ?_
        refine G_st (x_iconst (1 : Int32) dX7_tenant_61 rfl) ?_
        refine G_ite (fun c23 => ?_) (fun c23 => ?_)
        · refine G_st (x_icmp_ne_f 74 dX7_tenant_62 (by decide) c23) ?_
          refine G_st (x_aload_n dX7_tenant_65 rfl) ?_
          refine G_st (x_get (k := 11) (aR (0, 36)) dX7_tenant_66 (H0_29 29 (Nat.le_of_ble_eq_true rfl) (Nat.le_of_ble_eq_true rfl)) rfl rfl rfl rfl inTX7 (Nat.le_of_ble_eq_true rfl) tw_858 (fun ad => rfl)) ?_
          refine G_st (x_iload_n dX7_tenant_69 rfl) ?_
          refine G_chk (fun c24 => ?_)
          refine G_st (x_iaload dX7_tenant_70 (H0_29 36 (Nat.le_of_ble_eq_true rfl) (Nat.le_of_ble_eq_true rfl)) rfl c24) ?_
          refine G_st (x_goto (tgt := 79) dX7_tenant_71 (by decide)) ?_
          exact G_ret rfl ⟨dX7_tenant_79, _, rfl, rfl⟩ rfl
        · refine G_st (x_icmp_ne_t (tgt := 74) dX7_tenant_62 (by decide) c23) ?_
          refine G_st (x_aload_n dX7_tenant_74 rfl) ?_
          refine G_st (x_iload_n dX7_tenant_75 rfl) ?_
          refine G_bd (fun x25 t26 h27 => ?_)
          refine G_st (x_callV [] (c_X7_habitsOf ids Hn v1 H0_29 _ _ _ h27) dX7_tenant_76 tw_1093 kc_X7_habitsOf (H0_29 29 (Nat.le_of_ble_eq_true rfl) (Nat.le_of_ble_eq_true rfl)) rfl rfl rfl rfl ⟨Nat.le_of_ble_eq_true rfl, Nat.le_of_ble_eq_true rfl⟩ (Nat.le_of_ble_eq_true rfl) rfl) ?_
          exact G_ret rfl ⟨dX7_tenant_79, _, rfl, rfl⟩ rfl
set_option maxRecDepth 100000 in
set_option maxHeartbeats 4000000 in
theorem c_X7_tenant (ids : List (Nat × Nat)) (Hn : Ndp ids) (v1 : Int32) (v2 : Int32) (H0_29 : InR ids 0 29 56) (t0 : Sg) (r : Int32) (t1 : Sg) (hf : f_X7_tenant v1 v2 t0 = some (r, t1)) : Mt0 mX7_tenant yX7_tenant ids [aR (0, 29), aI v1, aI v2] t0 (some (aI r)) t1 :=
  Mt_of (x := (r, t1)) (g_X7_tenant ids Hn v1 v2 H0_29 t0) hf (fun _ _ => trivial) (by decide) rfl Hn (fun _ => rfl) (fun _ => Nat.le_of_ble_eq_true rfl)
theorem dX7_anger_0 : decode cX7_anger 0 = .ok (.aload_n 0, 1) := by decide +kernel
theorem dX7_anger_1 : decode cX7_anger 1 = .ok (.iconst 0, 1) := by decide +kernel
theorem dX7_anger_2 : decode cX7_anger 2 = .ok (.putfield 98, 3) := by decide +kernel
theorem dX7_anger_5 : decode cX7_anger 5 = .ok (.aload_n 0, 1) := by decide +kernel
theorem dX7_anger_6 : decode cX7_anger 6 = .ok (.iload_n 1, 1) := by decide +kernel
theorem dX7_anger_7 : decode cX7_anger 7 = .ok (.iload_n 2, 1) := by decide +kernel
theorem dX7_anger_8 : decode cX7_anger 8 = .ok (.invokevirtual 263, 3) := by decide +kernel
theorem dX7_anger_11 : decode cX7_anger 11 = .ok (.ifCond .eq 17, 3) := by decide +kernel
theorem dX7_anger_14 : decode cX7_anger 14 = .ok (.aload_n 0, 1) := by decide +kernel
theorem dX7_anger_15 : decode cX7_anger 15 = .ok (.getfield 41, 3) := by decide +kernel
theorem dX7_anger_18 : decode cX7_anger 18 = .ok (.bipush 24, 2) := by decide +kernel
theorem dX7_anger_20 : decode cX7_anger 20 = .ok (.iload_n 1, 1) := by decide +kernel
theorem dX7_anger_21 : decode cX7_anger 21 = .ok (.imul, 1) := by decide +kernel
theorem dX7_anger_22 : decode cX7_anger 22 = .ok (.iload_n 2, 1) := by decide +kernel
theorem dX7_anger_23 : decode cX7_anger 23 = .ok (.iadd, 1) := by decide +kernel
theorem dX7_anger_24 : decode cX7_anger 24 = .ok (.iaload, 1) := by decide +kernel
theorem dX7_anger_25 : decode cX7_anger 25 = .ok (.goto 8, 3) := by decide +kernel
theorem dX7_anger_28 : decode cX7_anger 28 = .ok (.aload_n 0, 1) := by decide +kernel
theorem dX7_anger_29 : decode cX7_anger 29 = .ok (.iconst (-1), 1) := by decide +kernel
theorem dX7_anger_30 : decode cX7_anger 30 = .ok (.invokevirtual 167, 3) := by decide +kernel
theorem dX7_anger_33 : decode cX7_anger 33 = .ok (.ireturn, 1) := by decide +kernel
set_option maxRecDepth 100000 in
set_option maxHeartbeats 4000000 in
theorem g_X7_anger (ids : List (Nat × Nat)) (Hn : Ndp ids) (v1 : Int32) (v2 : Int32) (H0_29 : InR ids 0 29 56) (t0 : Sg) : Gj kI mX7_anger ids 0 [some (aR (0, 29)), some (aI v1), some (aI v2)] [] t0 (f_X7_anger v1 v2 t0) := by
  unfold f_X7_anger
  refine G_st (x_aload_n dX7_anger_0 rfl) ?_
  refine G_st (x_iconst (0 : Int32) dX7_anger_1 rfl) ?_
  refine G_st (x_put (k := 18) (ty := .int) (v := aI (0 : Int32)) (z := (0 : Int32)) (upS t0 (0, 29) 18 (0 : Int32)) dX7_anger_2 (H0_29 29 (Nat.le_of_ble_eq_true rfl) (Nat.le_of_ble_eq_true rfl)) rfl rfl rfl rfl inTX7 tyX7_ok nmX7 (Nat.le_of_ble_eq_true rfl) tw_865 rfl rfl (fun ad => rfl) (fun ad => rfl) (fun ad => put_i0 ad _ _ _ _ rfl) rfl) ?_
  refine G_bvS (fun t1 => ?_)
  refine G_st (x_aload_n dX7_anger_5 rfl) ?_
  refine G_st (x_iload_n dX7_anger_6 rfl) ?_
  refine G_st (x_iload_n dX7_anger_7 rfl) ?_
  refine G_bd (fun x2 t3 h4 => ?_)
  refine G_st (x_callV [] (c_X7_areTenants ids Hn v1 v2 H0_29 _ _ _ h4) dX7_anger_8 tw_1101 kc_X7_areTenants (H0_29 29 (Nat.le_of_ble_eq_true rfl) (Nat.le_of_ble_eq_true rfl)) rfl rfl rfl rfl ⟨Nat.le_of_ble_eq_true rfl, Nat.le_of_ble_eq_true rfl⟩ (Nat.le_of_ble_eq_true rfl) rfl) ?_
  refine G_ite (fun c5 => ?_) (fun c5 => ?_)
  · refine G_st (x_if_eq_t (tgt := 28) dX7_anger_11 (by decide) c5) ?_
    refine G_st (x_aload_n dX7_anger_28 rfl) ?_
    refine G_st (x_iconst (-1 : Int32) dX7_anger_29 rfl) ?_
    refine G_bd (fun x6 t7 h8 => ?_)
    refine G_st (x_callV [] (c_X7_refuse ids Hn (-1 : Int32) H0_29 _ _ _ h8) dX7_anger_30 tw_981 kc_X7_refuse (H0_29 29 (Nat.le_of_ble_eq_true rfl) (Nat.le_of_ble_eq_true rfl)) rfl rfl rfl rfl ⟨Nat.le_of_ble_eq_true rfl, Nat.le_of_ble_eq_true rfl⟩ (Nat.le_of_ble_eq_true rfl) rfl) ?_
    exact G_ret rfl ⟨dX7_anger_33, _, rfl, rfl⟩ rfl
  · refine G_st (x_if_eq_f 28 dX7_anger_11 (by decide) c5) ?_
    refine G_st (x_aload_n dX7_anger_14 rfl) ?_
    refine G_st (x_get (k := 13) (aR (0, 38)) dX7_anger_15 (H0_29 29 (Nat.le_of_ble_eq_true rfl) (Nat.le_of_ble_eq_true rfl)) rfl rfl rfl rfl inTX7 (Nat.le_of_ble_eq_true rfl) tw_860 (fun ad => rfl)) ?_
    refine G_st (x_bipush (24 : Int32) dX7_anger_18 rfl) ?_
    refine G_st (x_iload_n dX7_anger_20 rfl) ?_
    refine G_st (x_imul dX7_anger_21) ?_
    refine G_st (x_iload_n dX7_anger_22 rfl) ?_
    refine G_st (x_iadd dX7_anger_23) ?_
    refine G_chk (fun c9 => ?_)
    refine G_st (x_iaload dX7_anger_24 (H0_29 38 (Nat.le_of_ble_eq_true rfl) (Nat.le_of_ble_eq_true rfl)) rfl c9) ?_
    refine G_st (x_goto (tgt := 33) dX7_anger_25 (by decide)) ?_
    exact G_ret rfl ⟨dX7_anger_33, _, rfl, rfl⟩ rfl
set_option maxRecDepth 100000 in
set_option maxHeartbeats 4000000 in
theorem c_X7_anger (ids : List (Nat × Nat)) (Hn : Ndp ids) (v1 : Int32) (v2 : Int32) (H0_29 : InR ids 0 29 56) (t0 : Sg) (r : Int32) (t1 : Sg) (hf : f_X7_anger v1 v2 t0 = some (r, t1)) : Mt0 mX7_anger yX7_anger ids [aR (0, 29), aI v1, aI v2] t0 (some (aI r)) t1 :=
  Mt_of (x := (r, t1)) (g_X7_anger ids Hn v1 v2 H0_29 t0) hf (fun _ _ => trivial) (by decide) rfl Hn (fun _ => rfl) (fun _ => Nat.le_of_ble_eq_true rfl)
theorem dX7_habit_0 : decode cX7_habit 0 = .ok (.aload_n 0, 1) := by decide +kernel
theorem dX7_habit_1 : decode cX7_habit 1 = .ok (.iconst 0, 1) := by decide +kernel
theorem dX7_habit_2 : decode cX7_habit 2 = .ok (.putfield 98, 3) := by decide +kernel
theorem dX7_habit_5 : decode cX7_habit 5 = .ok (.aload_n 0, 1) := by decide +kernel
theorem dX7_habit_6 : decode cX7_habit 6 = .ok (.iload_n 1, 1) := by decide +kernel
theorem dX7_habit_7 : decode cX7_habit 7 = .ok (.invokevirtual 266, 3) := by decide +kernel
theorem dX7_habit_10 : decode cX7_habit 10 = .ok (.ifCond .eq 15, 3) := by decide +kernel
theorem dX7_habit_13 : decode cX7_habit 13 = .ok (.iload_n 2, 1) := by decide +kernel
theorem dX7_habit_14 : decode cX7_habit 14 = .ok (.i2l, 1) := by decide +kernel
theorem dX7_habit_15 : decode cX7_habit 15 = .ok (.lconst 0, 1) := by decide +kernel
theorem dX7_habit_16 : decode cX7_habit 16 = .ok (.ldc2_w 269, 3) := by decide +kernel
theorem dX7_habit_19 : decode cX7_habit 19 = .ok (.invokestatic 111, 3) := by decide +kernel
theorem dX7_habit_22 : decode cX7_habit 22 = .ok (.ifCond .ne 22, 3) := by decide +kernel
theorem dX7_habit_25 : decode cX7_habit 25 = .ok (.aload_n 0, 1) := by decide +kernel
theorem dX7_habit_26 : decode cX7_habit 26 = .ok (.aload_n 0, 1) := by decide +kernel
theorem dX7_habit_27 : decode cX7_habit 27 = .ok (.iload_n 1, 1) := by decide +kernel
theorem dX7_habit_28 : decode cX7_habit 28 = .ok (.invokevirtual 266, 3) := by decide +kernel
theorem dX7_habit_31 : decode cX7_habit 31 = .ok (.ifCond .eq 8, 3) := by decide +kernel
theorem dX7_habit_34 : decode cX7_habit 34 = .ok (.bipush (-2), 2) := by decide +kernel
theorem dX7_habit_36 : decode cX7_habit 36 = .ok (.goto 4, 3) := by decide +kernel
theorem dX7_habit_39 : decode cX7_habit 39 = .ok (.iconst (-1), 1) := by decide +kernel
theorem dX7_habit_40 : decode cX7_habit 40 = .ok (.invokevirtual 167, 3) := by decide +kernel
theorem dX7_habit_43 : decode cX7_habit 43 = .ok (.ireturn, 1) := by decide +kernel
theorem dX7_habit_44 : decode cX7_habit 44 = .ok (.iload_n 2, 1) := by decide +kernel
theorem dX7_habit_45 : decode cX7_habit 45 = .ok (.ifCond .ne 12, 3) := by decide +kernel
theorem dX7_habit_48 : decode cX7_habit 48 = .ok (.aload_n 0, 1) := by decide +kernel
theorem dX7_habit_49 : decode cX7_habit 49 = .ok (.getfield 44, 3) := by decide +kernel
theorem dX7_habit_52 : decode cX7_habit 52 = .ok (.iload_n 1, 1) := by decide +kernel
theorem dX7_habit_53 : decode cX7_habit 53 = .ok (.iaload, 1) := by decide +kernel
theorem dX7_habit_54 : decode cX7_habit 54 = .ok (.goto 37, 3) := by decide +kernel
theorem dX7_habit_57 : decode cX7_habit 57 = .ok (.iload_n 2, 1) := by decide +kernel
theorem dX7_habit_58 : decode cX7_habit 58 = .ok (.iconst 1, 1) := by decide +kernel
theorem dX7_habit_59 : decode cX7_habit 59 = .ok (.if_icmp .ne 12, 3) := by decide +kernel
theorem dX7_habit_62 : decode cX7_habit 62 = .ok (.aload_n 0, 1) := by decide +kernel
theorem dX7_habit_63 : decode cX7_habit 63 = .ok (.getfield 47, 3) := by decide +kernel
theorem dX7_habit_66 : decode cX7_habit 66 = .ok (.iload_n 1, 1) := by decide +kernel
theorem dX7_habit_67 : decode cX7_habit 67 = .ok (.iaload, 1) := by decide +kernel
theorem dX7_habit_68 : decode cX7_habit 68 = .ok (.goto 23, 3) := by decide +kernel
theorem dX7_habit_71 : decode cX7_habit 71 = .ok (.iload_n 2, 1) := by decide +kernel
theorem dX7_habit_72 : decode cX7_habit 72 = .ok (.iconst 2, 1) := by decide +kernel
theorem dX7_habit_73 : decode cX7_habit 73 = .ok (.if_icmp .ne 12, 3) := by decide +kernel
theorem dX7_habit_76 : decode cX7_habit 76 = .ok (.aload_n 0, 1) := by decide +kernel
theorem dX7_habit_77 : decode cX7_habit 77 = .ok (.getfield 50, 3) := by decide +kernel
theorem dX7_habit_80 : decode cX7_habit 80 = .ok (.iload_n 1, 1) := by decide +kernel
theorem dX7_habit_81 : decode cX7_habit 81 = .ok (.iaload, 1) := by decide +kernel
theorem dX7_habit_82 : decode cX7_habit 82 = .ok (.goto 9, 3) := by decide +kernel
theorem dX7_habit_85 : decode cX7_habit 85 = .ok (.aload_n 0, 1) := by decide +kernel
theorem dX7_habit_86 : decode cX7_habit 86 = .ok (.getfield 53, 3) := by decide +kernel
theorem dX7_habit_89 : decode cX7_habit 89 = .ok (.iload_n 1, 1) := by decide +kernel
theorem dX7_habit_90 : decode cX7_habit 90 = .ok (.iaload, 1) := by decide +kernel
theorem dX7_habit_91 : decode cX7_habit 91 = .ok (.ireturn, 1) := by decide +kernel
set_option maxRecDepth 100000 in
set_option maxHeartbeats 4000000 in
theorem g_X7_habit_25 (ids : List (Nat × Nat)) (Hn : Ndp ids)  (H0_29 : InR ids 0 29 56)  (v1 : Int32) (t0 : Sg) : Gj kI mX7_habit ids 25 [some (aR (0, 29)), some (aI v1), none] [] t0 (f_X7_habit_25 v1 t0) := by
  unfold f_X7_habit_25
  refine G_st (x_aload_n dX7_habit_25 rfl) ?_
  refine G_st (x_aload_n dX7_habit_26 rfl) ?_
  refine G_st (x_iload_n dX7_habit_27 rfl) ?_
  refine G_bd (fun x6 t7 h8 => ?_)
  refine G_st (x_callV [aR (0, 29)] (c_X7_isHabit ids Hn v1 H0_29 _ _ _ h8) dX7_habit_28 tw_1109 kc_X7_isHabit (H0_29 29 (Nat.le_of_ble_eq_true rfl) (Nat.le_of_ble_eq_true rfl)) rfl rfl rfl rfl ⟨Nat.le_of_ble_eq_true rfl, Nat.le_of_ble_eq_true rfl⟩ (Nat.le_of_ble_eq_true rfl) rfl) ?_
  have e10 : Tj mX7_habit ids 31 [some (aR (0, 29)), some (aI v1), none] [aI x6, aR (0, 29)] t7 40 [some (aR (0, 29)), some (aI v1), none] [aI (if x6 = 0 then (-1 : Int32) else (-2 : Int32)), aR (0, 29)] t7 := by
    refine Tj.dia (fun c9 => ?_) (fun c9 => ?_)
    · refine Tj.tr (x_if_eq_t (tgt := 39) dX7_habit_31 (by decide) c9) ?_
      refine Tj.tr (x_iconst (-1 : Int32) dX7_habit_39 rfl) ?_
      exact Tj.rf
    · refine Tj.tr (x_if_eq_f 39 dX7_habit_31 (by decide) c9) ?_
      refine Tj.tr (x_bipush (-2 : Int32) dX7_habit_34 rfl) ?_
      refine Tj.tr (x_goto (tgt := 40) dX7_habit_36 (by decide)) ?_
      exact Tj.rf
  refine G_st e10 ?_
  refine G_bd (fun x11 t12 h13 => ?_)
  refine G_st (x_callV [] (c_X7_refuse ids Hn (if x6 = 0 then (-1 : Int32) else (-2 : Int32)) H0_29 _ _ _ h13) dX7_habit_40 tw_981 kc_X7_refuse (H0_29 29 (Nat.le_of_ble_eq_true rfl) (Nat.le_of_ble_eq_true rfl)) rfl rfl rfl rfl ⟨Nat.le_of_ble_eq_true rfl, Nat.le_of_ble_eq_true rfl⟩ (Nat.le_of_ble_eq_true rfl) rfl) ?_
  exact G_ret rfl ⟨dX7_habit_43, _, rfl, rfl⟩ rfl
set_option maxRecDepth 100000 in
set_option maxHeartbeats 4000000 in
theorem g_X7_habit (ids : List (Nat × Nat)) (Hn : Ndp ids) (v1 : Int32) (v2 : Int32) (H0_29 : InR ids 0 29 56) (t0 : Sg) : Gj kI mX7_habit ids 0 [some (aR (0, 29)), some (aI v1), some (aI v2)] [] t0 (f_X7_habit v1 v2 t0) := by
  unfold f_X7_habit
  refine G_st (x_aload_n dX7_habit_0 rfl) ?_
  refine G_st (x_iconst (0 : Int32) dX7_habit_1 rfl) ?_
  refine G_st (x_put (k := 18) (ty := .int) (v := aI (0 : Int32)) (z := (0 : Int32)) (upS t0 (0, 29) 18 (0 : Int32)) dX7_habit_2 (H0_29 29 (Nat.le_of_ble_eq_true rfl) (Nat.le_of_ble_eq_true rfl)) rfl rfl rfl rfl inTX7 tyX7_ok nmX7 (Nat.le_of_ble_eq_true rfl) tw_865 rfl rfl (fun ad => rfl) (fun ad => rfl) (fun ad => put_i0 ad _ _ _ _ rfl) rfl) ?_
  refine G_bvS (fun t1 => ?_)
  refine G_st (x_aload_n dX7_habit_5 rfl) ?_
  refine G_st (x_iload_n dX7_habit_6 rfl) ?_
  refine G_bd (fun x2 t3 h4 => ?_)
  refine G_st (x_callV [] (c_X7_isHabit ids Hn v1 H0_29 _ _ _ h4) dX7_habit_7 tw_1109 kc_X7_isHabit (H0_29 29 (Nat.le_of_ble_eq_true rfl) (Nat.le_of_ble_eq_true rfl)) rfl rfl rfl rfl ⟨Nat.le_of_ble_eq_true rfl, Nat.le_of_ble_eq_true rfl⟩ (Nat.le_of_ble_eq_true rfl) rfl) ?_
  refine G_ite (fun c5 => ?_) (fun c5 => ?_)
  · refine G_st (x_if_eq_t (tgt := 25) dX7_habit_10 (by decide) c5) ?_
    refine G_weak _ ?_ (g_X7_habit_25 ids Hn H0_29 v1 t3)
    exact (leL_s (leL_s (leL_n (leL_e _))))
  · refine G_st (x_if_eq_f 25 dX7_habit_10 (by decide) c5) ?_
    refine G_st (x_iload_n dX7_habit_13 rfl) ?_
    refine G_st (x_i2l dX7_habit_14) ?_
    refine G_st (x_lconst (0 : Int64) dX7_habit_15 rfl) ?_
    refine G_st (x_ldc2 dX7_habit_16 tw_1113) ?_
    refine G_bd (fun x14 t15 h16 => ?_)
    refine G_st (x_callS [] (c_X7_in ids Hn (v2).toInt64 (0 : Int64) (3 : Int64)  _ _ _ h16) dX7_habit_19 tw_1003 kc_X7_in rfl ⟨Nat.le_of_ble_eq_true rfl, Nat.le_of_ble_eq_true rfl⟩ (Nat.le_of_ble_eq_true rfl) rfl) ?_
    refine G_ite (fun c17 => ?_) (fun c17 => ?_)
    · refine G_st (x_if_ne_f 44 dX7_habit_22 (by decide) c17) ?_
      refine G_weak _ ?_ (g_X7_habit_25 ids Hn H0_29 v1 t15)
      exact (leL_s (leL_s (leL_n (leL_e _))))
    · refine G_st (x_if_ne_t (tgt := 44) dX7_habit_22 (by decide) c17) ?_
      refine G_st (x_iload_n dX7_habit_44 rfl) ?_
      refine G_ite (fun c18 => ?_) (fun c18 => ?_)
      · refine G_st (x_if_ne_f 57 dX7_habit_45 (by decide) c18) ?_
        refine G_st (x_aload_n dX7_habit_48 rfl) ?_
        refine G_st (x_get (k := 14) (aR (0, 39)) dX7_habit_49 (H0_29 29 (Nat.le_of_ble_eq_true rfl) (Nat.le_of_ble_eq_true rfl)) rfl rfl rfl rfl inTX7 (Nat.le_of_ble_eq_true rfl) tw_861 (fun ad => rfl)) ?_
        refine G_st (x_iload_n dX7_habit_52 rfl) ?_
        refine G_chk (fun c19 => ?_)
        refine G_st (x_iaload dX7_habit_53 (H0_29 39 (Nat.le_of_ble_eq_true rfl) (Nat.le_of_ble_eq_true rfl)) rfl c19) ?_
        refine G_st (x_goto (tgt := 91) dX7_habit_54 (by decide)) ?_
        exact G_ret rfl ⟨dX7_habit_91, _, rfl, rfl⟩ rfl
      · refine G_st (x_if_ne_t (tgt := 57) dX7_habit_45 (by decide) c18) ?_
        refine G_st (x_iload_n dX7_habit_57 rfl) ?_
        refine G_st (x_iconst (1 : Int32) dX7_habit_58 rfl) ?_
        refine G_ite (fun c20 => ?_) (fun c20 => ?_)
        · refine G_st (x_icmp_ne_f 71 dX7_habit_59 (by decide) c20) ?_
          refine G_st (x_aload_n dX7_habit_62 rfl) ?_
          refine G_st (x_get (k := 15) (aR (0, 40)) dX7_habit_63 (H0_29 29 (Nat.le_of_ble_eq_true rfl) (Nat.le_of_ble_eq_true rfl)) rfl rfl rfl rfl inTX7 (Nat.le_of_ble_eq_true rfl) tw_862 (fun ad => rfl)) ?_
          refine G_st (x_iload_n dX7_habit_66 rfl) ?_
          refine G_chk (fun c21 => ?_)
          refine G_st (x_iaload dX7_habit_67 (H0_29 40 (Nat.le_of_ble_eq_true rfl) (Nat.le_of_ble_eq_true rfl)) rfl c21) ?_
          refine G_st (x_goto (tgt := 91) dX7_habit_68 (by decide)) ?_
          exact G_ret rfl ⟨dX7_habit_91, _, rfl, rfl⟩ rfl
        · refine G_st (x_icmp_ne_t (tgt := 71) dX7_habit_59 (by decide) c20) ?_
          refine G_st (x_iload_n dX7_habit_71 rfl) ?_
          refine G_st (x_iconst (2 : Int32) dX7_habit_72 rfl) ?_
          refine G_ite (fun c22 => ?_) (fun c22 => ?_)
          · refine G_st (x_icmp_ne_f 85 dX7_habit_73 (by decide) c22) ?_
            refine G_st (x_aload_n dX7_habit_76 rfl) ?_
            refine G_st (x_get (k := 16) (aR (0, 41)) dX7_habit_77 (H0_29 29 (Nat.le_of_ble_eq_true rfl) (Nat.le_of_ble_eq_true rfl)) rfl rfl rfl rfl inTX7 (Nat.le_of_ble_eq_true rfl) tw_863 (fun ad => rfl)) ?_
            refine G_st (x_iload_n dX7_habit_80 rfl) ?_
            refine G_chk (fun c23 => ?_)
            refine G_st (x_iaload dX7_habit_81 (H0_29 41 (Nat.le_of_ble_eq_true rfl) (Nat.le_of_ble_eq_true rfl)) rfl c23) ?_
            refine G_st (x_goto (tgt := 91) dX7_habit_82 (by decide)) ?_
            exact G_ret rfl ⟨dX7_habit_91, _, rfl, rfl⟩ rfl
          · refine G_st (x_icmp_ne_t (tgt := 85) dX7_habit_73 (by decide) c22) ?_
            refine G_st (x_aload_n dX7_habit_85 rfl) ?_
            refine G_st (x_get (k := 17) (aR (0, 42)) dX7_habit_86 (H0_29 29 (Nat.le_of_ble_eq_true rfl) (Nat.le_of_ble_eq_true rfl)) rfl rfl rfl rfl inTX7 (Nat.le_of_ble_eq_true rfl) tw_864 (fun ad => rfl)) ?_
            refine G_st (x_iload_n dX7_habit_89 rfl) ?_
            refine G_chk (fun c24 => ?_)
            refine G_st (x_iaload dX7_habit_90 (H0_29 42 (Nat.le_of_ble_eq_true rfl) (Nat.le_of_ble_eq_true rfl)) rfl c24) ?_
            exact G_ret rfl ⟨dX7_habit_91, _, rfl, rfl⟩ rfl
set_option maxRecDepth 100000 in
set_option maxHeartbeats 4000000 in
theorem c_X7_habit (ids : List (Nat × Nat)) (Hn : Ndp ids) (v1 : Int32) (v2 : Int32) (H0_29 : InR ids 0 29 56) (t0 : Sg) (r : Int32) (t1 : Sg) (hf : f_X7_habit v1 v2 t0 = some (r, t1)) : Mt0 mX7_habit yX7_habit ids [aR (0, 29), aI v1, aI v2] t0 (some (aI r)) t1 :=
  Mt_of (x := (r, t1)) (g_X7_habit ids Hn v1 v2 H0_29 t0) hf (fun _ _ => trivial) (by decide) rfl Hn (fun _ => rfl) (fun _ => Nat.le_of_ble_eq_true rfl)
theorem dX7_isTime_0 : decode cX7_isTime 0 = .ok (.iload_n 0, 1) := by decide +kernel
theorem dX7_isTime_1 : decode cX7_isTime 1 = .ok (.i2l, 1) := by decide +kernel
theorem dX7_isTime_2 : decode cX7_isTime 2 = .ok (.lconst 0, 1) := by decide +kernel
theorem dX7_isTime_3 : decode cX7_isTime 3 = .ok (.ldc2_w 271, 3) := by decide +kernel
theorem dX7_isTime_6 : decode cX7_isTime 6 = .ok (.invokestatic 111, 3) := by decide +kernel
theorem dX7_isTime_9 : decode cX7_isTime 9 = .ok (.ireturn, 1) := by decide +kernel
set_option maxRecDepth 100000 in
set_option maxHeartbeats 4000000 in
theorem g_X7_isTime (ids : List (Nat × Nat)) (Hn : Ndp ids) (v0 : Int32)  (t0 : Sg) : Gj kI mX7_isTime ids 0 [some (aI v0)] [] t0 (f_X7_isTime v0 t0) := by
  unfold f_X7_isTime
  refine G_st (x_iload_n dX7_isTime_0 rfl) ?_
  refine G_st (x_i2l dX7_isTime_1) ?_
  refine G_st (x_lconst (0 : Int64) dX7_isTime_2 rfl) ?_
  refine G_st (x_ldc2 dX7_isTime_3 tw_1121) ?_
  refine G_bd (fun x1 t2 h3 => ?_)
  refine G_st (x_callS [] (c_X7_in ids Hn (v0).toInt64 (0 : Int64) (7 : Int64)  _ _ _ h3) dX7_isTime_6 tw_1003 kc_X7_in rfl ⟨Nat.le_of_ble_eq_true rfl, Nat.le_of_ble_eq_true rfl⟩ (Nat.le_of_ble_eq_true rfl) rfl) ?_
  refine G_chk (fun c4 => ?_)
  exact G_ret rfl ⟨dX7_isTime_9, _, rfl, nar_b c4⟩ rfl
set_option maxRecDepth 100000 in
set_option maxHeartbeats 4000000 in
theorem c_X7_isTime (ids : List (Nat × Nat)) (Hn : Ndp ids) (v0 : Int32)  (t0 : Sg) (r : Int32) (t1 : Sg) (hf : f_X7_isTime v0 t0 = some (r, t1)) : Mt0 mX7_isTime yX7_isTime ids [aI v0] t0 (some (aI r)) t1 :=
  Mt_of (x := (r, t1)) (g_X7_isTime ids Hn v0  t0) hf (fun _ _ => trivial) (by decide) rfl Hn (fun _ => rfl) (fun _ => Nat.le_of_ble_eq_true rfl)
theorem dX7_put_0 : decode cX7_put 0 = .ok (.aload_n 0, 1) := by decide +kernel
theorem dX7_put_1 : decode cX7_put 1 = .ok (.iconst 0, 1) := by decide +kernel
theorem dX7_put_2 : decode cX7_put 2 = .ok (.putfield 98, 3) := by decide +kernel
theorem dX7_put_5 : decode cX7_put 5 = .ok (.aload_n 0, 1) := by decide +kernel
theorem dX7_put_6 : decode cX7_put 6 = .ok (.iload_n 1, 1) := by decide +kernel
theorem dX7_put_7 : decode cX7_put 7 = .ok (.invokevirtual 266, 3) := by decide +kernel
theorem dX7_put_10 : decode cX7_put 10 = .ok (.ifCond .eq 10, 3) := by decide +kernel
theorem dX7_put_13 : decode cX7_put 13 = .ok (.iload_n 2, 1) := by decide +kernel
theorem dX7_put_14 : decode cX7_put 14 = .ok (.invokestatic 273, 3) := by decide +kernel
theorem dX7_put_17 : decode cX7_put 17 = .ok (.ifCond .ne 22, 3) := by decide +kernel
theorem dX7_put_20 : decode cX7_put 20 = .ok (.aload_n 0, 1) := by decide +kernel
theorem dX7_put_21 : decode cX7_put 21 = .ok (.aload_n 0, 1) := by decide +kernel
theorem dX7_put_22 : decode cX7_put 22 = .ok (.iload_n 1, 1) := by decide +kernel
theorem dX7_put_23 : decode cX7_put 23 = .ok (.invokevirtual 266, 3) := by decide +kernel
theorem dX7_put_26 : decode cX7_put 26 = .ok (.ifCond .eq 8, 3) := by decide +kernel
theorem dX7_put_29 : decode cX7_put 29 = .ok (.bipush (-2), 2) := by decide +kernel
theorem dX7_put_31 : decode cX7_put 31 = .ok (.goto 4, 3) := by decide +kernel
theorem dX7_put_34 : decode cX7_put 34 = .ok (.iconst (-1), 1) := by decide +kernel
theorem dX7_put_35 : decode cX7_put 35 = .ok (.invokevirtual 167, 3) := by decide +kernel
theorem dX7_put_38 : decode cX7_put 38 = .ok (.ireturn, 1) := by decide +kernel
theorem dX7_put_39 : decode cX7_put 39 = .ok (.aload_n 0, 1) := by decide +kernel
theorem dX7_put_40 : decode cX7_put 40 = .ok (.getfield 53, 3) := by decide +kernel
theorem dX7_put_43 : decode cX7_put 43 = .ok (.iload_n 1, 1) := by decide +kernel
theorem dX7_put_44 : decode cX7_put 44 = .ok (.iaload, 1) := by decide +kernel
theorem dX7_put_45 : decode cX7_put 45 = .ok (.istore_n 3, 1) := by decide +kernel
theorem dX7_put_46 : decode cX7_put 46 = .ok (.aload_n 0, 1) := by decide +kernel
theorem dX7_put_47 : decode cX7_put 47 = .ok (.getfield 53, 3) := by decide +kernel
theorem dX7_put_50 : decode cX7_put 50 = .ok (.iload_n 1, 1) := by decide +kernel
theorem dX7_put_51 : decode cX7_put 51 = .ok (.iload_n 2, 1) := by decide +kernel
theorem dX7_put_52 : decode cX7_put 52 = .ok (.iastore, 1) := by decide +kernel
theorem dX7_put_53 : decode cX7_put 53 = .ok (.iload_n 3, 1) := by decide +kernel
theorem dX7_put_54 : decode cX7_put 54 = .ok (.ireturn, 1) := by decide +kernel
set_option maxRecDepth 100000 in
set_option maxHeartbeats 4000000 in
theorem g_X7_put_20 (ids : List (Nat × Nat)) (Hn : Ndp ids)  (H0_29 : InR ids 0 29 56)  (v1 : Int32) (t0 : Sg) : Gj kI mX7_put ids 20 [some (aR (0, 29)), some (aI v1), none, none] [] t0 (f_X7_put_20 v1 t0) := by
  unfold f_X7_put_20
  refine G_st (x_aload_n dX7_put_20 rfl) ?_
  refine G_st (x_aload_n dX7_put_21 rfl) ?_
  refine G_st (x_iload_n dX7_put_22 rfl) ?_
  refine G_bd (fun x6 t7 h8 => ?_)
  refine G_st (x_callV [aR (0, 29)] (c_X7_isHabit ids Hn v1 H0_29 _ _ _ h8) dX7_put_23 tw_1109 kc_X7_isHabit (H0_29 29 (Nat.le_of_ble_eq_true rfl) (Nat.le_of_ble_eq_true rfl)) rfl rfl rfl rfl ⟨Nat.le_of_ble_eq_true rfl, Nat.le_of_ble_eq_true rfl⟩ (Nat.le_of_ble_eq_true rfl) rfl) ?_
  have e10 : Tj mX7_put ids 26 [some (aR (0, 29)), some (aI v1), none, none] [aI x6, aR (0, 29)] t7 35 [some (aR (0, 29)), some (aI v1), none, none] [aI (if x6 = 0 then (-1 : Int32) else (-2 : Int32)), aR (0, 29)] t7 := by
    refine Tj.dia (fun c9 => ?_) (fun c9 => ?_)
    · refine Tj.tr (x_if_eq_t (tgt := 34) dX7_put_26 (by decide) c9) ?_
      refine Tj.tr (x_iconst (-1 : Int32) dX7_put_34 rfl) ?_
      exact Tj.rf
    · refine Tj.tr (x_if_eq_f 34 dX7_put_26 (by decide) c9) ?_
      refine Tj.tr (x_bipush (-2 : Int32) dX7_put_29 rfl) ?_
      refine Tj.tr (x_goto (tgt := 35) dX7_put_31 (by decide)) ?_
      exact Tj.rf
  refine G_st e10 ?_
  refine G_bd (fun x11 t12 h13 => ?_)
  refine G_st (x_callV [] (c_X7_refuse ids Hn (if x6 = 0 then (-1 : Int32) else (-2 : Int32)) H0_29 _ _ _ h13) dX7_put_35 tw_981 kc_X7_refuse (H0_29 29 (Nat.le_of_ble_eq_true rfl) (Nat.le_of_ble_eq_true rfl)) rfl rfl rfl rfl ⟨Nat.le_of_ble_eq_true rfl, Nat.le_of_ble_eq_true rfl⟩ (Nat.le_of_ble_eq_true rfl) rfl) ?_
  exact G_ret rfl ⟨dX7_put_38, _, rfl, rfl⟩ rfl
set_option maxRecDepth 100000 in
set_option maxHeartbeats 4000000 in
theorem g_X7_put (ids : List (Nat × Nat)) (Hn : Ndp ids) (v1 : Int32) (v2 : Int32) (H0_29 : InR ids 0 29 56) (t0 : Sg) : Gj kI mX7_put ids 0 [some (aR (0, 29)), some (aI v1), some (aI v2), none] [] t0 (f_X7_put v1 v2 t0) := by
  unfold f_X7_put
  refine G_st (x_aload_n dX7_put_0 rfl) ?_
  refine G_st (x_iconst (0 : Int32) dX7_put_1 rfl) ?_
  refine G_st (x_put (k := 18) (ty := .int) (v := aI (0 : Int32)) (z := (0 : Int32)) (upS t0 (0, 29) 18 (0 : Int32)) dX7_put_2 (H0_29 29 (Nat.le_of_ble_eq_true rfl) (Nat.le_of_ble_eq_true rfl)) rfl rfl rfl rfl inTX7 tyX7_ok nmX7 (Nat.le_of_ble_eq_true rfl) tw_865 rfl rfl (fun ad => rfl) (fun ad => rfl) (fun ad => put_i0 ad _ _ _ _ rfl) rfl) ?_
  refine G_bvS (fun t1 => ?_)
  refine G_st (x_aload_n dX7_put_5 rfl) ?_
  refine G_st (x_iload_n dX7_put_6 rfl) ?_
  refine G_bd (fun x2 t3 h4 => ?_)
  refine G_st (x_callV [] (c_X7_isHabit ids Hn v1 H0_29 _ _ _ h4) dX7_put_7 tw_1109 kc_X7_isHabit (H0_29 29 (Nat.le_of_ble_eq_true rfl) (Nat.le_of_ble_eq_true rfl)) rfl rfl rfl rfl ⟨Nat.le_of_ble_eq_true rfl, Nat.le_of_ble_eq_true rfl⟩ (Nat.le_of_ble_eq_true rfl) rfl) ?_
  refine G_ite (fun c5 => ?_) (fun c5 => ?_)
  · refine G_st (x_if_eq_t (tgt := 20) dX7_put_10 (by decide) c5) ?_
    refine G_weak _ ?_ (g_X7_put_20 ids Hn H0_29 v1 t3)
    exact (leL_s (leL_s (leL_n (leL_n (leL_e _)))))
  · refine G_st (x_if_eq_f 20 dX7_put_10 (by decide) c5) ?_
    refine G_st (x_iload_n dX7_put_13 rfl) ?_
    refine G_bd (fun x14 t15 h16 => ?_)
    refine G_st (x_callS [] (c_X7_isTime ids Hn v2  _ _ _ h16) dX7_put_14 tw_1118 kc_X7_isTime rfl ⟨Nat.le_of_ble_eq_true rfl, Nat.le_of_ble_eq_true rfl⟩ (Nat.le_of_ble_eq_true rfl) rfl) ?_
    refine G_ite (fun c17 => ?_) (fun c17 => ?_)
    · refine G_st (x_if_ne_f 39 dX7_put_17 (by decide) c17) ?_
      refine G_weak _ ?_ (g_X7_put_20 ids Hn H0_29 v1 t15)
      exact (leL_s (leL_s (leL_n (leL_n (leL_e _)))))
    · refine G_st (x_if_ne_t (tgt := 39) dX7_put_17 (by decide) c17) ?_
      refine G_st (x_aload_n dX7_put_39 rfl) ?_
      refine G_st (x_get (k := 17) (aR (0, 42)) dX7_put_40 (H0_29 29 (Nat.le_of_ble_eq_true rfl) (Nat.le_of_ble_eq_true rfl)) rfl rfl rfl rfl inTX7 (Nat.le_of_ble_eq_true rfl) tw_864 (fun ad => rfl)) ?_
      refine G_st (x_iload_n dX7_put_43 rfl) ?_
      refine G_chk (fun c18 => ?_)
      refine G_st (x_iaload dX7_put_44 (H0_29 42 (Nat.le_of_ble_eq_true rfl) (Nat.le_of_ble_eq_true rfl)) rfl c18) ?_
      refine G_bvI (fun x19 => ?_)
      refine G_st (x_istore_n [some (aR (0, 29)), some (aI v1), some (aI v2), some (aI x19)] dX7_put_45 (Nat.le_of_ble_eq_true rfl) rfl rfl) ?_
      refine G_st (x_aload_n dX7_put_46 rfl) ?_
      refine G_st (x_get (k := 17) (aR (0, 42)) dX7_put_47 (H0_29 29 (Nat.le_of_ble_eq_true rfl) (Nat.le_of_ble_eq_true rfl)) rfl rfl rfl rfl inTX7 (Nat.le_of_ble_eq_true rfl) tw_864 (fun ad => rfl)) ?_
      refine G_st (x_iload_n dX7_put_50 rfl) ?_
      refine G_st (x_iload_n dX7_put_51 rfl) ?_
      refine G_chk (fun c20 => ?_)
      refine G_st (x_iastore dX7_put_52 (H0_29 42 (Nat.le_of_ble_eq_true rfl) (Nat.le_of_ble_eq_true rfl)) rfl c20) ?_
      refine G_bvS (fun t21 => ?_)
      refine G_st (x_iload_n dX7_put_53 rfl) ?_
      exact G_ret rfl ⟨dX7_put_54, _, rfl, rfl⟩ rfl
set_option maxRecDepth 100000 in
set_option maxHeartbeats 4000000 in
theorem c_X7_put (ids : List (Nat × Nat)) (Hn : Ndp ids) (v1 : Int32) (v2 : Int32) (H0_29 : InR ids 0 29 56) (t0 : Sg) (r : Int32) (t1 : Sg) (hf : f_X7_put v1 v2 t0 = some (r, t1)) : Mt0 mX7_put yX7_put ids [aR (0, 29), aI v1, aI v2] t0 (some (aI r)) t1 :=
  Mt_of (x := (r, t1)) (g_X7_put ids Hn v1 v2 H0_29 t0) hf (fun _ _ => trivial) (by decide) rfl Hn (fun _ => rfl) (fun _ => Nat.le_of_ble_eq_true rfl)
theorem dX7_wrongNumber_0 : decode cX7_wrongNumber 0 = .ok (.iload_n 0, 1) := by decide +kernel
theorem dX7_wrongNumber_1 : decode cX7_wrongNumber 1 = .ok (.iload_n 1, 1) := by decide +kernel
theorem dX7_wrongNumber_2 : decode cX7_wrongNumber 2 = .ok (.if_icmp .ge 8, 3) := by decide +kernel
theorem dX7_wrongNumber_5 : decode cX7_wrongNumber 5 = .ok (.bipush (-4), 2) := by decide +kernel
theorem dX7_wrongNumber_7 : decode cX7_wrongNumber 7 = .ok (.goto 14, 3) := by decide +kernel
theorem dX7_wrongNumber_10 : decode cX7_wrongNumber 10 = .ok (.iload_n 0, 1) := by decide +kernel
theorem dX7_wrongNumber_11 : decode cX7_wrongNumber 11 = .ok (.iload_n 2, 1) := by decide +kernel
theorem dX7_wrongNumber_12 : decode cX7_wrongNumber 12 = .ok (.if_icmp .le 8, 3) := by decide +kernel
theorem dX7_wrongNumber_15 : decode cX7_wrongNumber 15 = .ok (.bipush (-6), 2) := by decide +kernel
theorem dX7_wrongNumber_17 : decode cX7_wrongNumber 17 = .ok (.goto 4, 3) := by decide +kernel
theorem dX7_wrongNumber_20 : decode cX7_wrongNumber 20 = .ok (.iconst 0, 1) := by decide +kernel
theorem dX7_wrongNumber_21 : decode cX7_wrongNumber 21 = .ok (.ireturn, 1) := by decide +kernel
set_option maxRecDepth 100000 in
set_option maxHeartbeats 4000000 in
theorem g_X7_wrongNumber (ids : List (Nat × Nat)) (Hn : Ndp ids) (v0 : Int32) (v1 : Int32) (v2 : Int32)  (t0 : Sg) : Gj kI mX7_wrongNumber ids 0 [some (aI v0), some (aI v1), some (aI v2)] [] t0 (f_X7_wrongNumber v0 v1 v2 t0) := by
  unfold f_X7_wrongNumber
  refine G_st (x_iload_n dX7_wrongNumber_0 rfl) ?_
  refine G_st (x_iload_n dX7_wrongNumber_1 rfl) ?_
  have e3 : Tj mX7_wrongNumber ids 2 [some (aI v0), some (aI v1), some (aI v2)] [aI v1, aI v0] t0 21 [some (aI v0), some (aI v1), some (aI v2)] [aI (if v1 ≤ v0 then (if v0 ≤ v2 then (0 : Int32) else (-6 : Int32)) else (-4 : Int32))] t0 := by
    refine Tj.dia (fun c1 => ?_) (fun c1 => ?_)
    · refine Tj.tr (x_icmp_ge_t (tgt := 10) dX7_wrongNumber_2 (by decide) c1) ?_
      refine Tj.tr (x_iload_n dX7_wrongNumber_10 rfl) ?_
      refine Tj.tr (x_iload_n dX7_wrongNumber_11 rfl) ?_
      refine Tj.dia (fun c2 => ?_) (fun c2 => ?_)
      · refine Tj.tr (x_icmp_le_t (tgt := 20) dX7_wrongNumber_12 (by decide) c2) ?_
        refine Tj.tr (x_iconst (0 : Int32) dX7_wrongNumber_20 rfl) ?_
        exact Tj.rf
      · refine Tj.tr (x_icmp_le_f 20 dX7_wrongNumber_12 (by decide) c2) ?_
        refine Tj.tr (x_bipush (-6 : Int32) dX7_wrongNumber_15 rfl) ?_
        refine Tj.tr (x_goto (tgt := 21) dX7_wrongNumber_17 (by decide)) ?_
        exact Tj.rf
    · refine Tj.tr (x_icmp_ge_f 10 dX7_wrongNumber_2 (by decide) c1) ?_
      refine Tj.tr (x_bipush (-4 : Int32) dX7_wrongNumber_5 rfl) ?_
      refine Tj.tr (x_goto (tgt := 21) dX7_wrongNumber_7 (by decide)) ?_
      exact Tj.rf
  refine G_st e3 ?_
  exact G_ret rfl ⟨dX7_wrongNumber_21, _, rfl, rfl⟩ rfl
set_option maxRecDepth 100000 in
set_option maxHeartbeats 4000000 in
theorem c_X7_wrongNumber (ids : List (Nat × Nat)) (Hn : Ndp ids) (v0 : Int32) (v1 : Int32) (v2 : Int32)  (t0 : Sg) (r : Int32) (t1 : Sg) (hf : f_X7_wrongNumber v0 v1 v2 t0 = some (r, t1)) : Mt0 mX7_wrongNumber yX7_wrongNumber ids [aI v0, aI v1, aI v2] t0 (some (aI r)) t1 :=
  Mt_of (x := (r, t1)) (g_X7_wrongNumber ids Hn v0 v1 v2  t0) hf (fun _ _ => trivial) (by decide) rfl Hn (fun _ => rfl) (fun _ => Nat.le_of_ble_eq_true rfl)
theorem dX7_saucer_0 : decode cX7_saucer 0 = .ok (.aload_n 0, 1) := by decide +kernel
theorem dX7_saucer_1 : decode cX7_saucer 1 = .ok (.iconst 0, 1) := by decide +kernel
theorem dX7_saucer_2 : decode cX7_saucer 2 = .ok (.putfield 98, 3) := by decide +kernel
theorem dX7_saucer_5 : decode cX7_saucer 5 = .ok (.aload_n 0, 1) := by decide +kernel
theorem dX7_saucer_6 : decode cX7_saucer 6 = .ok (.iload_n 1, 1) := by decide +kernel
theorem dX7_saucer_7 : decode cX7_saucer 7 = .ok (.invokevirtual 213, 3) := by decide +kernel
theorem dX7_saucer_10 : decode cX7_saucer 10 = .ok (.istore_n 3, 1) := by decide +kernel
theorem dX7_saucer_11 : decode cX7_saucer 11 = .ok (.iload_n 3, 1) := by decide +kernel
theorem dX7_saucer_12 : decode cX7_saucer 12 = .ok (.ifCond .ge 7, 3) := by decide +kernel
theorem dX7_saucer_15 : decode cX7_saucer 15 = .ok (.iconst (-1), 1) := by decide +kernel
theorem dX7_saucer_16 : decode cX7_saucer 16 = .ok (.goto 10, 3) := by decide +kernel
theorem dX7_saucer_19 : decode cX7_saucer 19 = .ok (.iload_n 2, 1) := by decide +kernel
theorem dX7_saucer_20 : decode cX7_saucer 20 = .ok (.iconst 0, 1) := by decide +kernel
theorem dX7_saucer_21 : decode cX7_saucer 21 = .ok (.bipush 9, 2) := by decide +kernel
theorem dX7_saucer_23 : decode cX7_saucer 23 = .ok (.invokestatic 276, 3) := by decide +kernel
theorem dX7_saucer_26 : decode cX7_saucer 26 = .ok (.istore 4, 2) := by decide +kernel
theorem dX7_saucer_28 : decode cX7_saucer 28 = .ok (.iload 4, 2) := by decide +kernel
theorem dX7_saucer_30 : decode cX7_saucer 30 = .ok (.ifCond .ge 10, 3) := by decide +kernel
theorem dX7_saucer_33 : decode cX7_saucer 33 = .ok (.aload_n 0, 1) := by decide +kernel
theorem dX7_saucer_34 : decode cX7_saucer 34 = .ok (.iload 4, 2) := by decide +kernel
theorem dX7_saucer_36 : decode cX7_saucer 36 = .ok (.invokevirtual 167, 3) := by decide +kernel
theorem dX7_saucer_39 : decode cX7_saucer 39 = .ok (.ireturn, 1) := by decide +kernel
theorem dX7_saucer_40 : decode cX7_saucer 40 = .ok (.aload_n 0, 1) := by decide +kernel
theorem dX7_saucer_41 : decode cX7_saucer 41 = .ok (.getfield 16, 3) := by decide +kernel
theorem dX7_saucer_44 : decode cX7_saucer 44 = .ok (.iload_n 3, 1) := by decide +kernel
theorem dX7_saucer_45 : decode cX7_saucer 45 = .ok (.iaload, 1) := by decide +kernel
theorem dX7_saucer_46 : decode cX7_saucer 46 = .ok (.istore 5, 2) := by decide +kernel
theorem dX7_saucer_48 : decode cX7_saucer 48 = .ok (.aload_n 0, 1) := by decide +kernel
theorem dX7_saucer_49 : decode cX7_saucer 49 = .ok (.iload_n 3, 1) := by decide +kernel
theorem dX7_saucer_50 : decode cX7_saucer 50 = .ok (.iload_n 2, 1) := by decide +kernel
theorem dX7_saucer_51 : decode cX7_saucer 51 = .ok (.invokevirtual 216, 3) := by decide +kernel
theorem dX7_saucer_54 : decode cX7_saucer 54 = .ok (.iload 5, 2) := by decide +kernel
theorem dX7_saucer_56 : decode cX7_saucer 56 = .ok (.ireturn, 1) := by decide +kernel
set_option maxRecDepth 100000 in
set_option maxHeartbeats 4000000 in
theorem g_X7_saucer_26 (ids : List (Nat × Nat)) (Hn : Ndp ids)  (H0_29 : InR ids 0 29 56)  (v2 : Int32) (v3 : Int32) (w0 : Int32) (t0 : Sg) : Gj kI mX7_saucer ids 26 [some (aR (0, 29)), none, some (aI v2), some (aI v3), none, none] [aI w0] t0 (f_X7_saucer_26 v2 v3 w0 t0) := by
  unfold f_X7_saucer_26
  refine G_st (x_istore [some (aR (0, 29)), none, some (aI v2), some (aI v3), some (aI w0), none] dX7_saucer_26 (Nat.le_of_ble_eq_true rfl) rfl rfl) ?_
  refine G_st (x_iload dX7_saucer_28 rfl) ?_
  refine G_ite (fun c9 => ?_) (fun c9 => ?_)
  · refine G_st (x_if_ge_t (tgt := 40) dX7_saucer_30 (by decide) c9) ?_
    refine G_st (x_aload_n dX7_saucer_40 rfl) ?_
    refine G_st (x_get (k := 5) (aR (0, 30)) dX7_saucer_41 (H0_29 29 (Nat.le_of_ble_eq_true rfl) (Nat.le_of_ble_eq_true rfl)) rfl rfl rfl rfl inTX7 (Nat.le_of_ble_eq_true rfl) tw_852 (fun ad => rfl)) ?_
    refine G_st (x_iload_n dX7_saucer_44 rfl) ?_
    refine G_chk (fun c10 => ?_)
    refine G_st (x_iaload dX7_saucer_45 (H0_29 30 (Nat.le_of_ble_eq_true rfl) (Nat.le_of_ble_eq_true rfl)) rfl c10) ?_
    refine G_bvI (fun x11 => ?_)
    refine G_st (x_istore [some (aR (0, 29)), none, some (aI v2), some (aI v3), some (aI w0), some (aI x11)] dX7_saucer_46 (Nat.le_of_ble_eq_true rfl) rfl rfl) ?_
    refine G_st (x_aload_n dX7_saucer_48 rfl) ?_
    refine G_st (x_iload_n dX7_saucer_49 rfl) ?_
    refine G_st (x_iload_n dX7_saucer_50 rfl) ?_
    refine G_bd (fun _ t13 h14 => ?_)
    refine G_st (x_callV [] (c_X7_saucerIs ids Hn v3 v2 H0_29 _ _ _ h14) dX7_saucer_51 tw_1058 kc_X7_saucerIs (H0_29 29 (Nat.le_of_ble_eq_true rfl) (Nat.le_of_ble_eq_true rfl)) rfl rfl rfl rfl ⟨Nat.le_of_ble_eq_true rfl, Nat.le_of_ble_eq_true rfl⟩ (Nat.le_of_ble_eq_true rfl) rfl) ?_
    refine G_st (x_iload dX7_saucer_54 rfl) ?_
    exact G_ret rfl ⟨dX7_saucer_56, _, rfl, rfl⟩ rfl
  · refine G_st (x_if_ge_f 40 dX7_saucer_30 (by decide) c9) ?_
    refine G_st (x_aload_n dX7_saucer_33 rfl) ?_
    refine G_st (x_iload dX7_saucer_34 rfl) ?_
    refine G_bd (fun x15 t16 h17 => ?_)
    refine G_st (x_callV [] (c_X7_refuse ids Hn w0 H0_29 _ _ _ h17) dX7_saucer_36 tw_981 kc_X7_refuse (H0_29 29 (Nat.le_of_ble_eq_true rfl) (Nat.le_of_ble_eq_true rfl)) rfl rfl rfl rfl ⟨Nat.le_of_ble_eq_true rfl, Nat.le_of_ble_eq_true rfl⟩ (Nat.le_of_ble_eq_true rfl) rfl) ?_
    exact G_ret rfl ⟨dX7_saucer_39, _, rfl, rfl⟩ rfl
set_option maxRecDepth 100000 in
set_option maxHeartbeats 4000000 in
theorem g_X7_saucer (ids : List (Nat × Nat)) (Hn : Ndp ids) (v1 : Int32) (v2 : Int32) (H0_29 : InR ids 0 29 56) (t0 : Sg) : Gj kI mX7_saucer ids 0 [some (aR (0, 29)), some (aI v1), some (aI v2), none, none, none] [] t0 (f_X7_saucer v1 v2 t0) := by
  unfold f_X7_saucer
  refine G_st (x_aload_n dX7_saucer_0 rfl) ?_
  refine G_st (x_iconst (0 : Int32) dX7_saucer_1 rfl) ?_
  refine G_st (x_put (k := 18) (ty := .int) (v := aI (0 : Int32)) (z := (0 : Int32)) (upS t0 (0, 29) 18 (0 : Int32)) dX7_saucer_2 (H0_29 29 (Nat.le_of_ble_eq_true rfl) (Nat.le_of_ble_eq_true rfl)) rfl rfl rfl rfl inTX7 tyX7_ok nmX7 (Nat.le_of_ble_eq_true rfl) tw_865 rfl rfl (fun ad => rfl) (fun ad => rfl) (fun ad => put_i0 ad _ _ _ _ rfl) rfl) ?_
  refine G_bvS (fun t1 => ?_)
  refine G_st (x_aload_n dX7_saucer_5 rfl) ?_
  refine G_st (x_iload_n dX7_saucer_6 rfl) ?_
  refine G_bd (fun x2 t3 h4 => ?_)
  refine G_st (x_callV [] (c_X7_flatAt ids Hn v1 H0_29 _ _ _ h4) dX7_saucer_7 tw_1054 kc_X7_flatAt (H0_29 29 (Nat.le_of_ble_eq_true rfl) (Nat.le_of_ble_eq_true rfl)) rfl rfl rfl rfl ⟨Nat.le_of_ble_eq_true rfl, Nat.le_of_ble_eq_true rfl⟩ (Nat.le_of_ble_eq_true rfl) rfl) ?_
  refine G_st (x_istore_n [some (aR (0, 29)), some (aI v1), some (aI v2), some (aI x2), none, none] dX7_saucer_10 (Nat.le_of_ble_eq_true rfl) rfl rfl) ?_
  refine G_st (x_iload_n dX7_saucer_11 rfl) ?_
  refine G_ite (fun c5 => ?_) (fun c5 => ?_)
  · refine G_st (x_if_ge_t (tgt := 19) dX7_saucer_12 (by decide) c5) ?_
    refine G_st (x_iload_n dX7_saucer_19 rfl) ?_
    refine G_st (x_iconst (0 : Int32) dX7_saucer_20 rfl) ?_
    refine G_st (x_bipush (9 : Int32) dX7_saucer_21 rfl) ?_
    refine G_bd (fun x6 t7 h8 => ?_)
    refine G_st (x_callS [] (c_X7_wrongNumber ids Hn v2 (0 : Int32) (9 : Int32)  _ _ _ h8) dX7_saucer_23 tw_1126 kc_X7_wrongNumber rfl ⟨Nat.le_of_ble_eq_true rfl, Nat.le_of_ble_eq_true rfl⟩ (Nat.le_of_ble_eq_true rfl) rfl) ?_
    refine G_weak _ ?_ (g_X7_saucer_26 ids Hn H0_29 v2 x2 x6 t7)
    exact (leL_s (leL_n (leL_s (leL_s (leL_n (leL_n (leL_e _)))))))
  · refine G_st (x_if_ge_f 19 dX7_saucer_12 (by decide) c5) ?_
    refine G_st (x_iconst (-1 : Int32) dX7_saucer_15 rfl) ?_
    refine G_st (x_goto (tgt := 26) dX7_saucer_16 (by decide)) ?_
    refine G_weak _ ?_ (g_X7_saucer_26 ids Hn H0_29 v2 x2 (-1 : Int32) t3)
    exact (leL_s (leL_n (leL_s (leL_s (leL_n (leL_n (leL_e _)))))))
set_option maxRecDepth 100000 in
set_option maxHeartbeats 4000000 in
theorem c_X7_saucer (ids : List (Nat × Nat)) (Hn : Ndp ids) (v1 : Int32) (v2 : Int32) (H0_29 : InR ids 0 29 56) (t0 : Sg) (r : Int32) (t1 : Sg) (hf : f_X7_saucer v1 v2 t0 = some (r, t1)) : Mt0 mX7_saucer yX7_saucer ids [aR (0, 29), aI v1, aI v2] t0 (some (aI r)) t1 :=
  Mt_of (x := (r, t1)) (g_X7_saucer ids Hn v1 v2 H0_29 t0) hf (fun _ _ => trivial) (by decide) rfl Hn (fun _ => rfl) (fun _ => Nat.le_of_ble_eq_true rfl)
theorem dX7_awning_0 : decode cX7_awning 0 = .ok (.aload_n 0, 1) := by decide +kernel
theorem dX7_awning_1 : decode cX7_awning 1 = .ok (.iconst 0, 1) := by decide +kernel
theorem dX7_awning_2 : decode cX7_awning 2 = .ok (.putfield 98, 3) := by decide +kernel
theorem dX7_awning_5 : decode cX7_awning 5 = .ok (.aload_n 0, 1) := by decide +kernel
theorem dX7_awning_6 : decode cX7_awning 6 = .ok (.iload_n 1, 1) := by decide +kernel
theorem dX7_awning_7 : decode cX7_awning 7 = .ok (.invokevirtual 213, 3) := by decide +kernel
theorem dX7_awning_10 : decode cX7_awning 10 = .ok (.istore_n 3, 1) := by decide +kernel
theorem dX7_awning_11 : decode cX7_awning 11 = .ok (.iload_n 3, 1) := by decide +kernel
theorem dX7_awning_12 : decode cX7_awning 12 = .ok (.ifCond .ge 7, 3) := by decide +kernel
theorem dX7_awning_15 : decode cX7_awning 15 = .ok (.iconst (-1), 1) := by decide +kernel
theorem dX7_awning_16 : decode cX7_awning 16 = .ok (.goto 9, 3) := by decide +kernel
theorem dX7_awning_19 : decode cX7_awning 19 = .ok (.iload_n 2, 1) := by decide +kernel
theorem dX7_awning_20 : decode cX7_awning 20 = .ok (.iconst (-1), 1) := by decide +kernel
theorem dX7_awning_21 : decode cX7_awning 21 = .ok (.iconst 1, 1) := by decide +kernel
theorem dX7_awning_22 : decode cX7_awning 22 = .ok (.invokestatic 276, 3) := by decide +kernel
theorem dX7_awning_25 : decode cX7_awning 25 = .ok (.istore 4, 2) := by decide +kernel
theorem dX7_awning_27 : decode cX7_awning 27 = .ok (.iload 4, 2) := by decide +kernel
theorem dX7_awning_29 : decode cX7_awning 29 = .ok (.ifCond .ge 10, 3) := by decide +kernel
theorem dX7_awning_32 : decode cX7_awning 32 = .ok (.aload_n 0, 1) := by decide +kernel
theorem dX7_awning_33 : decode cX7_awning 33 = .ok (.iload 4, 2) := by decide +kernel
theorem dX7_awning_35 : decode cX7_awning 35 = .ok (.invokevirtual 167, 3) := by decide +kernel
theorem dX7_awning_38 : decode cX7_awning 38 = .ok (.ireturn, 1) := by decide +kernel
theorem dX7_awning_39 : decode cX7_awning 39 = .ok (.aload_n 0, 1) := by decide +kernel
theorem dX7_awning_40 : decode cX7_awning 40 = .ok (.getfield 23, 3) := by decide +kernel
theorem dX7_awning_43 : decode cX7_awning 43 = .ok (.iload_n 3, 1) := by decide +kernel
theorem dX7_awning_44 : decode cX7_awning 44 = .ok (.iaload, 1) := by decide +kernel
theorem dX7_awning_45 : decode cX7_awning 45 = .ok (.istore 5, 2) := by decide +kernel
theorem dX7_awning_47 : decode cX7_awning 47 = .ok (.aload_n 0, 1) := by decide +kernel
theorem dX7_awning_48 : decode cX7_awning 48 = .ok (.getfield 23, 3) := by decide +kernel
theorem dX7_awning_51 : decode cX7_awning 51 = .ok (.iload_n 3, 1) := by decide +kernel
theorem dX7_awning_52 : decode cX7_awning 52 = .ok (.iload_n 2, 1) := by decide +kernel
theorem dX7_awning_53 : decode cX7_awning 53 = .ok (.iastore, 1) := by decide +kernel
theorem dX7_awning_54 : decode cX7_awning 54 = .ok (.iconst 1, 1) := by decide +kernel
theorem dX7_awning_55 : decode cX7_awning 55 = .ok (.iload 5, 2) := by decide +kernel
theorem dX7_awning_57 : decode cX7_awning 57 = .ok (.iadd, 1) := by decide +kernel
theorem dX7_awning_58 : decode cX7_awning 58 = .ok (.ireturn, 1) := by decide +kernel
set_option maxRecDepth 100000 in
set_option maxHeartbeats 4000000 in
theorem g_X7_awning_25 (ids : List (Nat × Nat)) (Hn : Ndp ids)  (H0_29 : InR ids 0 29 56)  (v2 : Int32) (v3 : Int32) (w0 : Int32) (t0 : Sg) : Gj kI mX7_awning ids 25 [some (aR (0, 29)), none, some (aI v2), some (aI v3), none, none] [aI w0] t0 (f_X7_awning_25 v2 v3 w0 t0) := by
  unfold f_X7_awning_25
  refine G_st (x_istore [some (aR (0, 29)), none, some (aI v2), some (aI v3), some (aI w0), none] dX7_awning_25 (Nat.le_of_ble_eq_true rfl) rfl rfl) ?_
  refine G_st (x_iload dX7_awning_27 rfl) ?_
  refine G_ite (fun c9 => ?_) (fun c9 => ?_)
  · refine G_st (x_if_ge_t (tgt := 39) dX7_awning_29 (by decide) c9) ?_
    refine G_st (x_aload_n dX7_awning_39 rfl) ?_
    refine G_st (x_get (k := 7) (aR (0, 32)) dX7_awning_40 (H0_29 29 (Nat.le_of_ble_eq_true rfl) (Nat.le_of_ble_eq_true rfl)) rfl rfl rfl rfl inTX7 (Nat.le_of_ble_eq_true rfl) tw_854 (fun ad => rfl)) ?_
    refine G_st (x_iload_n dX7_awning_43 rfl) ?_
    refine G_chk (fun c10 => ?_)
    refine G_st (x_iaload dX7_awning_44 (H0_29 32 (Nat.le_of_ble_eq_true rfl) (Nat.le_of_ble_eq_true rfl)) rfl c10) ?_
    refine G_bvI (fun x11 => ?_)
    refine G_st (x_istore [some (aR (0, 29)), none, some (aI v2), some (aI v3), some (aI w0), some (aI x11)] dX7_awning_45 (Nat.le_of_ble_eq_true rfl) rfl rfl) ?_
    refine G_st (x_aload_n dX7_awning_47 rfl) ?_
    refine G_st (x_get (k := 7) (aR (0, 32)) dX7_awning_48 (H0_29 29 (Nat.le_of_ble_eq_true rfl) (Nat.le_of_ble_eq_true rfl)) rfl rfl rfl rfl inTX7 (Nat.le_of_ble_eq_true rfl) tw_854 (fun ad => rfl)) ?_
    refine G_st (x_iload_n dX7_awning_51 rfl) ?_
    refine G_st (x_iload_n dX7_awning_52 rfl) ?_
    refine G_chk (fun c12 => ?_)
    refine G_st (x_iastore dX7_awning_53 (H0_29 32 (Nat.le_of_ble_eq_true rfl) (Nat.le_of_ble_eq_true rfl)) rfl c12) ?_
    refine G_bvS (fun t13 => ?_)
    refine G_st (x_iconst (1 : Int32) dX7_awning_54 rfl) ?_
    refine G_st (x_iload dX7_awning_55 rfl) ?_
    refine G_st (x_iadd dX7_awning_57) ?_
    exact G_ret rfl ⟨dX7_awning_58, _, rfl, rfl⟩ rfl
  · refine G_st (x_if_ge_f 39 dX7_awning_29 (by decide) c9) ?_
    refine G_st (x_aload_n dX7_awning_32 rfl) ?_
    refine G_st (x_iload dX7_awning_33 rfl) ?_
    refine G_bd (fun x14 t15 h16 => ?_)
    refine G_st (x_callV [] (c_X7_refuse ids Hn w0 H0_29 _ _ _ h16) dX7_awning_35 tw_981 kc_X7_refuse (H0_29 29 (Nat.le_of_ble_eq_true rfl) (Nat.le_of_ble_eq_true rfl)) rfl rfl rfl rfl ⟨Nat.le_of_ble_eq_true rfl, Nat.le_of_ble_eq_true rfl⟩ (Nat.le_of_ble_eq_true rfl) rfl) ?_
    exact G_ret rfl ⟨dX7_awning_38, _, rfl, rfl⟩ rfl
set_option maxRecDepth 100000 in
set_option maxHeartbeats 4000000 in
theorem g_X7_awning (ids : List (Nat × Nat)) (Hn : Ndp ids) (v1 : Int32) (v2 : Int32) (H0_29 : InR ids 0 29 56) (t0 : Sg) : Gj kI mX7_awning ids 0 [some (aR (0, 29)), some (aI v1), some (aI v2), none, none, none] [] t0 (f_X7_awning v1 v2 t0) := by
  unfold f_X7_awning
  refine G_st (x_aload_n dX7_awning_0 rfl) ?_
  refine G_st (x_iconst (0 : Int32) dX7_awning_1 rfl) ?_
  refine G_st (x_put (k := 18) (ty := .int) (v := aI (0 : Int32)) (z := (0 : Int32)) (upS t0 (0, 29) 18 (0 : Int32)) dX7_awning_2 (H0_29 29 (Nat.le_of_ble_eq_true rfl) (Nat.le_of_ble_eq_true rfl)) rfl rfl rfl rfl inTX7 tyX7_ok nmX7 (Nat.le_of_ble_eq_true rfl) tw_865 rfl rfl (fun ad => rfl) (fun ad => rfl) (fun ad => put_i0 ad _ _ _ _ rfl) rfl) ?_
  refine G_bvS (fun t1 => ?_)
  refine G_st (x_aload_n dX7_awning_5 rfl) ?_
  refine G_st (x_iload_n dX7_awning_6 rfl) ?_
  refine G_bd (fun x2 t3 h4 => ?_)
  refine G_st (x_callV [] (c_X7_flatAt ids Hn v1 H0_29 _ _ _ h4) dX7_awning_7 tw_1054 kc_X7_flatAt (H0_29 29 (Nat.le_of_ble_eq_true rfl) (Nat.le_of_ble_eq_true rfl)) rfl rfl rfl rfl ⟨Nat.le_of_ble_eq_true rfl, Nat.le_of_ble_eq_true rfl⟩ (Nat.le_of_ble_eq_true rfl) rfl) ?_
  refine G_st (x_istore_n [some (aR (0, 29)), some (aI v1), some (aI v2), some (aI x2), none, none] dX7_awning_10 (Nat.le_of_ble_eq_true rfl) rfl rfl) ?_
  refine G_st (x_iload_n dX7_awning_11 rfl) ?_
  refine G_ite (fun c5 => ?_) (fun c5 => ?_)
  · refine G_st (x_if_ge_t (tgt := 19) dX7_awning_12 (by decide) c5) ?_
    refine G_st (x_iload_n dX7_awning_19 rfl) ?_
    refine G_st (x_iconst (-1 : Int32) dX7_awning_20 rfl) ?_
    refine G_st (x_iconst (1 : Int32) dX7_awning_21 rfl) ?_
    refine G_bd (fun x6 t7 h8 => ?_)
    refine G_st (x_callS [] (c_X7_wrongNumber ids Hn v2 (-1 : Int32) (1 : Int32)  _ _ _ h8) dX7_awning_22 tw_1126 kc_X7_wrongNumber rfl ⟨Nat.le_of_ble_eq_true rfl, Nat.le_of_ble_eq_true rfl⟩ (Nat.le_of_ble_eq_true rfl) rfl) ?_
    refine G_weak _ ?_ (g_X7_awning_25 ids Hn H0_29 v2 x2 x6 t7)
    exact (leL_s (leL_n (leL_s (leL_s (leL_n (leL_n (leL_e _)))))))
  · refine G_st (x_if_ge_f 19 dX7_awning_12 (by decide) c5) ?_
    refine G_st (x_iconst (-1 : Int32) dX7_awning_15 rfl) ?_
    refine G_st (x_goto (tgt := 25) dX7_awning_16 (by decide)) ?_
    refine G_weak _ ?_ (g_X7_awning_25 ids Hn H0_29 v2 x2 (-1 : Int32) t3)
    exact (leL_s (leL_n (leL_s (leL_s (leL_n (leL_n (leL_e _)))))))
set_option maxRecDepth 100000 in
set_option maxHeartbeats 4000000 in
theorem c_X7_awning (ids : List (Nat × Nat)) (Hn : Ndp ids) (v1 : Int32) (v2 : Int32) (H0_29 : InR ids 0 29 56) (t0 : Sg) (r : Int32) (t1 : Sg) (hf : f_X7_awning v1 v2 t0 = some (r, t1)) : Mt0 mX7_awning yX7_awning ids [aR (0, 29), aI v1, aI v2] t0 (some (aI r)) t1 :=
  Mt_of (x := (r, t1)) (g_X7_awning ids Hn v1 v2 H0_29 t0) hf (fun _ _ => trivial) (by decide) rfl Hn (fun _ => rfl) (fun _ => Nat.le_of_ble_eq_true rfl)
theorem dX7_wash_0 : decode cX7_wash 0 = .ok (.aload_n 0, 1) := by decide +kernel
theorem dX7_wash_1 : decode cX7_wash 1 = .ok (.iconst 0, 1) := by decide +kernel
theorem dX7_wash_2 : decode cX7_wash 2 = .ok (.putfield 98, 3) := by decide +kernel
theorem dX7_wash_5 : decode cX7_wash 5 = .ok (.aload_n 0, 1) := by decide +kernel
theorem dX7_wash_6 : decode cX7_wash 6 = .ok (.iload_n 1, 1) := by decide +kernel
theorem dX7_wash_7 : decode cX7_wash 7 = .ok (.invokevirtual 213, 3) := by decide +kernel
theorem dX7_wash_10 : decode cX7_wash 10 = .ok (.istore 4, 2) := by decide +kernel
theorem dX7_wash_12 : decode cX7_wash 12 = .ok (.iload 4, 2) := by decide +kernel
theorem dX7_wash_14 : decode cX7_wash 14 = .ok (.ifCond .ge 7, 3) := by decide +kernel
theorem dX7_wash_17 : decode cX7_wash 17 = .ok (.iconst (-1), 1) := by decide +kernel
theorem dX7_wash_18 : decode cX7_wash 18 = .ok (.goto 35, 3) := by decide +kernel
theorem dX7_wash_21 : decode cX7_wash 21 = .ok (.iload_n 2, 1) := by decide +kernel
theorem dX7_wash_22 : decode cX7_wash 22 = .ok (.ifCond .lt 7, 3) := by decide +kernel
theorem dX7_wash_25 : decode cX7_wash 25 = .ok (.iload_n 3, 1) := by decide +kernel
theorem dX7_wash_26 : decode cX7_wash 26 = .ok (.ifCond .ge 8, 3) := by decide +kernel
theorem dX7_wash_29 : decode cX7_wash 29 = .ok (.bipush (-4), 2) := by decide +kernel
theorem dX7_wash_31 : decode cX7_wash 31 = .ok (.goto 22, 3) := by decide +kernel
theorem dX7_wash_34 : decode cX7_wash 34 = .ok (.iload_n 2, 1) := by decide +kernel
theorem dX7_wash_35 : decode cX7_wash 35 = .ok (.bipush 9, 2) := by decide +kernel
theorem dX7_wash_37 : decode cX7_wash 37 = .ok (.if_icmp .gt 10, 3) := by decide +kernel
theorem dX7_wash_40 : decode cX7_wash 40 = .ok (.iload_n 3, 1) := by decide +kernel
theorem dX7_wash_41 : decode cX7_wash 41 = .ok (.sipush 255, 3) := by decide +kernel
theorem dX7_wash_44 : decode cX7_wash 44 = .ok (.if_icmp .le 8, 3) := by decide +kernel
theorem dX7_wash_47 : decode cX7_wash 47 = .ok (.bipush (-6), 2) := by decide +kernel
theorem dX7_wash_49 : decode cX7_wash 49 = .ok (.goto 4, 3) := by decide +kernel
theorem dX7_wash_52 : decode cX7_wash 52 = .ok (.iconst 0, 1) := by decide +kernel
theorem dX7_wash_53 : decode cX7_wash 53 = .ok (.istore 5, 2) := by decide +kernel
theorem dX7_wash_55 : decode cX7_wash 55 = .ok (.iload 5, 2) := by decide +kernel
theorem dX7_wash_57 : decode cX7_wash 57 = .ok (.ifCond .ge 10, 3) := by decide +kernel
theorem dX7_wash_60 : decode cX7_wash 60 = .ok (.aload_n 0, 1) := by decide +kernel
theorem dX7_wash_61 : decode cX7_wash 61 = .ok (.iload 5, 2) := by decide +kernel
theorem dX7_wash_63 : decode cX7_wash 63 = .ok (.invokevirtual 167, 3) := by decide +kernel
theorem dX7_wash_66 : decode cX7_wash 66 = .ok (.ireturn, 1) := by decide +kernel
theorem dX7_wash_67 : decode cX7_wash 67 = .ok (.aload_n 0, 1) := by decide +kernel
theorem dX7_wash_68 : decode cX7_wash 68 = .ok (.getfield 26, 3) := by decide +kernel
theorem dX7_wash_71 : decode cX7_wash 71 = .ok (.iload 4, 2) := by decide +kernel
theorem dX7_wash_73 : decode cX7_wash 73 = .ok (.iaload, 1) := by decide +kernel
theorem dX7_wash_74 : decode cX7_wash 74 = .ok (.istore 6, 2) := by decide +kernel
theorem dX7_wash_76 : decode cX7_wash 76 = .ok (.aload_n 0, 1) := by decide +kernel
theorem dX7_wash_77 : decode cX7_wash 77 = .ok (.getfield 26, 3) := by decide +kernel
theorem dX7_wash_80 : decode cX7_wash 80 = .ok (.iload 4, 2) := by decide +kernel
theorem dX7_wash_82 : decode cX7_wash 82 = .ok (.iload_n 2, 1) := by decide +kernel
theorem dX7_wash_83 : decode cX7_wash 83 = .ok (.iastore, 1) := by decide +kernel
theorem dX7_wash_84 : decode cX7_wash 84 = .ok (.aload_n 0, 1) := by decide +kernel
theorem dX7_wash_85 : decode cX7_wash 85 = .ok (.getfield 29, 3) := by decide +kernel
theorem dX7_wash_88 : decode cX7_wash 88 = .ok (.iload 4, 2) := by decide +kernel
theorem dX7_wash_90 : decode cX7_wash 90 = .ok (.iload_n 3, 1) := by decide +kernel
theorem dX7_wash_91 : decode cX7_wash 91 = .ok (.iastore, 1) := by decide +kernel
theorem dX7_wash_92 : decode cX7_wash 92 = .ok (.iload 6, 2) := by decide +kernel
theorem dX7_wash_94 : decode cX7_wash 94 = .ok (.ireturn, 1) := by decide +kernel
set_option maxRecDepth 100000 in
set_option maxHeartbeats 4000000 in
theorem g_X7_wash (ids : List (Nat × Nat)) (Hn : Ndp ids) (v1 : Int32) (v2 : Int32) (v3 : Int32) (H0_29 : InR ids 0 29 56) (t0 : Sg) : Gj kI mX7_wash ids 0 [some (aR (0, 29)), some (aI v1), some (aI v2), some (aI v3), none, none, none] [] t0 (f_X7_wash v1 v2 v3 t0) := by
  unfold f_X7_wash
  refine G_st (x_aload_n dX7_wash_0 rfl) ?_
  refine G_st (x_iconst (0 : Int32) dX7_wash_1 rfl) ?_
  refine G_st (x_put (k := 18) (ty := .int) (v := aI (0 : Int32)) (z := (0 : Int32)) (upS t0 (0, 29) 18 (0 : Int32)) dX7_wash_2 (H0_29 29 (Nat.le_of_ble_eq_true rfl) (Nat.le_of_ble_eq_true rfl)) rfl rfl rfl rfl inTX7 tyX7_ok nmX7 (Nat.le_of_ble_eq_true rfl) tw_865 rfl rfl (fun ad => rfl) (fun ad => rfl) (fun ad => put_i0 ad _ _ _ _ rfl) rfl) ?_
  refine G_bvS (fun t1 => ?_)
  refine G_st (x_aload_n dX7_wash_5 rfl) ?_
  refine G_st (x_iload_n dX7_wash_6 rfl) ?_
  refine G_bd (fun x2 t3 h4 => ?_)
  refine G_st (x_callV [] (c_X7_flatAt ids Hn v1 H0_29 _ _ _ h4) dX7_wash_7 tw_1054 kc_X7_flatAt (H0_29 29 (Nat.le_of_ble_eq_true rfl) (Nat.le_of_ble_eq_true rfl)) rfl rfl rfl rfl ⟨Nat.le_of_ble_eq_true rfl, Nat.le_of_ble_eq_true rfl⟩ (Nat.le_of_ble_eq_true rfl) rfl) ?_
  refine G_st (x_istore [some (aR (0, 29)), some (aI v1), some (aI v2), some (aI v3), some (aI x2), none, none] dX7_wash_10 (Nat.le_of_ble_eq_true rfl) rfl rfl) ?_
  refine G_st (x_iload dX7_wash_12 rfl) ?_
  have e10 : Tj mX7_wash ids 14 [some (aR (0, 29)), some (aI v1), some (aI v2), some (aI v3), some (aI x2), none, none] [aI x2] t3 53 [some (aR (0, 29)), some (aI v1), some (aI v2), some (aI v3), some (aI x2), none, none] [aI (if 0 ≤ x2 then (if v2 < 0 then (-4 : Int32) else (if 0 ≤ v3 then (if (9 : Int32) < v2 then (-6 : Int32) else (if v3 ≤ (255 : Int32) then (0 : Int32) else (-6 : Int32))) else (-4 : Int32))) else (-1 : Int32))] t3 := by
    refine Tj.dia (fun c5 => ?_) (fun c5 => ?_)
    · refine Tj.tr (x_if_ge_t (tgt := 21) dX7_wash_14 (by decide) c5) ?_
      refine Tj.tr (x_iload_n dX7_wash_21 rfl) ?_
      refine Tj.dia (fun c6 => ?_) (fun c6 => ?_)
      · refine Tj.tr (x_if_lt_t (tgt := 29) dX7_wash_22 (by decide) c6) ?_
        refine Tj.tr (x_bipush (-4 : Int32) dX7_wash_29 rfl) ?_
        refine Tj.tr (x_goto (tgt := 53) dX7_wash_31 (by decide)) ?_
        exact Tj.rf
      · refine Tj.tr (x_if_lt_f 29 dX7_wash_22 (by decide) c6) ?_
        refine Tj.tr (x_iload_n dX7_wash_25 rfl) ?_
        refine Tj.dia (fun c7 => ?_) (fun c7 => ?_)
        · refine Tj.tr (x_if_ge_t (tgt := 34) dX7_wash_26 (by decide) c7) ?_
          refine Tj.tr (x_iload_n dX7_wash_34 rfl) ?_
          refine Tj.tr (x_bipush (9 : Int32) dX7_wash_35 rfl) ?_
          refine Tj.dia (fun c8 => ?_) (fun c8 => ?_)
          · refine Tj.tr (x_icmp_gt_t (tgt := 47) dX7_wash_37 (by decide) c8) ?_
            refine Tj.tr (x_bipush (-6 : Int32) dX7_wash_47 rfl) ?_
            refine Tj.tr (x_goto (tgt := 53) dX7_wash_49 (by decide)) ?_
            exact Tj.rf
          · refine Tj.tr (x_icmp_gt_f 47 dX7_wash_37 (by decide) c8) ?_
            refine Tj.tr (x_iload_n dX7_wash_40 rfl) ?_
            refine Tj.tr (x_sipush (255 : Int32) dX7_wash_41 rfl) ?_
            refine Tj.dia (fun c9 => ?_) (fun c9 => ?_)
            · refine Tj.tr (x_icmp_le_t (tgt := 52) dX7_wash_44 (by decide) c9) ?_
              refine Tj.tr (x_iconst (0 : Int32) dX7_wash_52 rfl) ?_
              exact Tj.rf
            · refine Tj.tr (x_icmp_le_f 52 dX7_wash_44 (by decide) c9) ?_
              refine Tj.tr (x_bipush (-6 : Int32) dX7_wash_47 rfl) ?_
              refine Tj.tr (x_goto (tgt := 53) dX7_wash_49 (by decide)) ?_
              exact Tj.rf
        · refine Tj.tr (x_if_ge_f 34 dX7_wash_26 (by decide) c7) ?_
          refine Tj.tr (x_bipush (-4 : Int32) dX7_wash_29 rfl) ?_
          refine Tj.tr (x_goto (tgt := 53) dX7_wash_31 (by decide)) ?_
          exact Tj.rf
    · refine Tj.tr (x_if_ge_f 21 dX7_wash_14 (by decide) c5) ?_
      refine Tj.tr (x_iconst (-1 : Int32) dX7_wash_17 rfl) ?_
      refine Tj.tr (x_goto (tgt := 53) dX7_wash_18 (by decide)) ?_
      exact Tj.rf
  refine G_st e10 ?_
  refine G_bvI (fun x11 => ?_)
  refine G_st (x_istore [some (aR (0, 29)), some (aI v1), some (aI v2), some (aI v3), some (aI x2), some (aI x11), none] dX7_wash_53 (Nat.le_of_ble_eq_true rfl) rfl rfl) ?_
  refine G_st (x_iload dX7_wash_55 rfl) ?_
  refine G_ite (fun c12 => ?_) (fun c12 => ?_)
  · refine G_st (x_if_ge_t (tgt := 67) dX7_wash_57 (by decide) c12) ?_
    refine G_st (x_aload_n dX7_wash_67 rfl) ?_
    refine G_st (x_get (k := 8) (aR (0, 33)) dX7_wash_68 (H0_29 29 (Nat.le_of_ble_eq_true rfl) (Nat.le_of_ble_eq_true rfl)) rfl rfl rfl rfl inTX7 (Nat.le_of_ble_eq_true rfl) tw_855 (fun ad => rfl)) ?_
    refine G_st (x_iload dX7_wash_71 rfl) ?_
    refine G_chk (fun c13 => ?_)
    refine G_st (x_iaload dX7_wash_73 (H0_29 33 (Nat.le_of_ble_eq_true rfl) (Nat.le_of_ble_eq_true rfl)) rfl c13) ?_
    refine G_bvI (fun x14 => ?_)
    refine G_st (x_istore [some (aR (0, 29)), some (aI v1), some (aI v2), some (aI v3), some (aI x2), some (aI x11), some (aI x14)] dX7_wash_74 (Nat.le_of_ble_eq_true rfl) rfl rfl) ?_
    refine G_st (x_aload_n dX7_wash_76 rfl) ?_
    refine G_st (x_get (k := 8) (aR (0, 33)) dX7_wash_77 (H0_29 29 (Nat.le_of_ble_eq_true rfl) (Nat.le_of_ble_eq_true rfl)) rfl rfl rfl rfl inTX7 (Nat.le_of_ble_eq_true rfl) tw_855 (fun ad => rfl)) ?_
    refine G_st (x_iload dX7_wash_80 rfl) ?_
    refine G_st (x_iload_n dX7_wash_82 rfl) ?_
    refine G_chk (fun c15 => ?_)
    refine G_st (x_iastore dX7_wash_83 (H0_29 33 (Nat.le_of_ble_eq_true rfl) (Nat.le_of_ble_eq_true rfl)) rfl c15) ?_
    refine G_bvS (fun t16 => ?_)
    refine G_st (x_aload_n dX7_wash_84 rfl) ?_
    refine G_st (x_get (k := 9) (aR (0, 34)) dX7_wash_85 (H0_29 29 (Nat.le_of_ble_eq_true rfl) (Nat.le_of_ble_eq_true rfl)) rfl rfl rfl rfl inTX7 (Nat.le_of_ble_eq_true rfl) tw_856 (fun ad => rfl)) ?_
    refine G_st (x_iload dX7_wash_88 rfl) ?_
    refine G_st (x_iload_n dX7_wash_90 rfl) ?_
    refine G_chk (fun c17 => ?_)
    refine G_st (x_iastore dX7_wash_91 (H0_29 34 (Nat.le_of_ble_eq_true rfl) (Nat.le_of_ble_eq_true rfl)) rfl c17) ?_
    refine G_bvS (fun t18 => ?_)
    refine G_st (x_iload dX7_wash_92 rfl) ?_
    exact G_ret rfl ⟨dX7_wash_94, _, rfl, rfl⟩ rfl
  · refine G_st (x_if_ge_f 67 dX7_wash_57 (by decide) c12) ?_
    refine G_st (x_aload_n dX7_wash_60 rfl) ?_
    refine G_st (x_iload dX7_wash_61 rfl) ?_
    refine G_bd (fun x19 t20 h21 => ?_)
    refine G_st (x_callV [] (c_X7_refuse ids Hn x11 H0_29 _ _ _ h21) dX7_wash_63 tw_981 kc_X7_refuse (H0_29 29 (Nat.le_of_ble_eq_true rfl) (Nat.le_of_ble_eq_true rfl)) rfl rfl rfl rfl ⟨Nat.le_of_ble_eq_true rfl, Nat.le_of_ble_eq_true rfl⟩ (Nat.le_of_ble_eq_true rfl) rfl) ?_
    exact G_ret rfl ⟨dX7_wash_66, _, rfl, rfl⟩ rfl
set_option maxRecDepth 100000 in
set_option maxHeartbeats 4000000 in
theorem c_X7_wash (ids : List (Nat × Nat)) (Hn : Ndp ids) (v1 : Int32) (v2 : Int32) (v3 : Int32) (H0_29 : InR ids 0 29 56) (t0 : Sg) (r : Int32) (t1 : Sg) (hf : f_X7_wash v1 v2 v3 t0 = some (r, t1)) : Mt0 mX7_wash yX7_wash ids [aR (0, 29), aI v1, aI v2, aI v3] t0 (some (aI r)) t1 :=
  Mt_of (x := (r, t1)) (g_X7_wash ids Hn v1 v2 v3 H0_29 t0) hf (fun _ _ => trivial) (by decide) rfl Hn (fun _ => rfl) (fun _ => Nat.le_of_ble_eq_true rfl)
theorem dX7_wind_0 : decode cX7_wind 0 = .ok (.aload_n 0, 1) := by decide +kernel
theorem dX7_wind_1 : decode cX7_wind 1 = .ok (.iconst 0, 1) := by decide +kernel
theorem dX7_wind_2 : decode cX7_wind 2 = .ok (.putfield 98, 3) := by decide +kernel
theorem dX7_wind_5 : decode cX7_wind 5 = .ok (.iload_n 1, 1) := by decide +kernel
theorem dX7_wind_6 : decode cX7_wind 6 = .ok (.iconst (-1), 1) := by decide +kernel
theorem dX7_wind_7 : decode cX7_wind 7 = .ok (.iconst 1, 1) := by decide +kernel
theorem dX7_wind_8 : decode cX7_wind 8 = .ok (.invokestatic 276, 3) := by decide +kernel
theorem dX7_wind_11 : decode cX7_wind 11 = .ok (.ifCond .ge 14, 3) := by decide +kernel
theorem dX7_wind_14 : decode cX7_wind 14 = .ok (.aload_n 0, 1) := by decide +kernel
theorem dX7_wind_15 : decode cX7_wind 15 = .ok (.iload_n 1, 1) := by decide +kernel
theorem dX7_wind_16 : decode cX7_wind 16 = .ok (.iconst (-1), 1) := by decide +kernel
theorem dX7_wind_17 : decode cX7_wind 17 = .ok (.iconst 1, 1) := by decide +kernel
theorem dX7_wind_18 : decode cX7_wind 18 = .ok (.invokestatic 276, 3) := by decide +kernel
theorem dX7_wind_21 : decode cX7_wind 21 = .ok (.invokevirtual 167, 3) := by decide +kernel
theorem dX7_wind_24 : decode cX7_wind 24 = .ok (.ireturn, 1) := by decide +kernel
theorem dX7_wind_25 : decode cX7_wind 25 = .ok (.aload_n 0, 1) := by decide +kernel
theorem dX7_wind_26 : decode cX7_wind 26 = .ok (.getfield 119, 3) := by decide +kernel
theorem dX7_wind_29 : decode cX7_wind 29 = .ok (.istore_n 2, 1) := by decide +kernel
theorem dX7_wind_30 : decode cX7_wind 30 = .ok (.aload_n 0, 1) := by decide +kernel
theorem dX7_wind_31 : decode cX7_wind 31 = .ok (.iload_n 1, 1) := by decide +kernel
theorem dX7_wind_32 : decode cX7_wind 32 = .ok (.putfield 119, 3) := by decide +kernel
theorem dX7_wind_35 : decode cX7_wind 35 = .ok (.iconst 1, 1) := by decide +kernel
theorem dX7_wind_36 : decode cX7_wind 36 = .ok (.iload_n 2, 1) := by decide +kernel
theorem dX7_wind_37 : decode cX7_wind 37 = .ok (.iadd, 1) := by decide +kernel
theorem dX7_wind_38 : decode cX7_wind 38 = .ok (.ireturn, 1) := by decide +kernel
set_option maxRecDepth 100000 in
set_option maxHeartbeats 4000000 in
theorem g_X7_wind (ids : List (Nat × Nat)) (Hn : Ndp ids) (v1 : Int32) (H0_29 : InR ids 0 29 56) (t0 : Sg) : Gj kI mX7_wind ids 0 [some (aR (0, 29)), some (aI v1), none] [] t0 (f_X7_wind v1 t0) := by
  unfold f_X7_wind
  refine G_st (x_aload_n dX7_wind_0 rfl) ?_
  refine G_st (x_iconst (0 : Int32) dX7_wind_1 rfl) ?_
  refine G_st (x_put (k := 18) (ty := .int) (v := aI (0 : Int32)) (z := (0 : Int32)) (upS t0 (0, 29) 18 (0 : Int32)) dX7_wind_2 (H0_29 29 (Nat.le_of_ble_eq_true rfl) (Nat.le_of_ble_eq_true rfl)) rfl rfl rfl rfl inTX7 tyX7_ok nmX7 (Nat.le_of_ble_eq_true rfl) tw_865 rfl rfl (fun ad => rfl) (fun ad => rfl) (fun ad => put_i0 ad _ _ _ _ rfl) rfl) ?_
  refine G_bvS (fun t1 => ?_)
  refine G_st (x_iload_n dX7_wind_5 rfl) ?_
  refine G_st (x_iconst (-1 : Int32) dX7_wind_6 rfl) ?_
  refine G_st (x_iconst (1 : Int32) dX7_wind_7 rfl) ?_
  refine G_bd (fun x2 t3 h4 => ?_)
  refine G_st (x_callS [] (c_X7_wrongNumber ids Hn v1 (-1 : Int32) (1 : Int32)  _ _ _ h4) dX7_wind_8 tw_1126 kc_X7_wrongNumber rfl ⟨Nat.le_of_ble_eq_true rfl, Nat.le_of_ble_eq_true rfl⟩ (Nat.le_of_ble_eq_true rfl) rfl) ?_
  refine G_ite (fun c5 => ?_) (fun c5 => ?_)
  · refine G_st (x_if_ge_t (tgt := 25) dX7_wind_11 (by decide) c5) ?_
    refine G_st (x_aload_n dX7_wind_25 rfl) ?_
    refine G_st (x_get (k := 2) (aI (t3 (0, 29) 2)) dX7_wind_26 (H0_29 29 (Nat.le_of_ble_eq_true rfl) (Nat.le_of_ble_eq_true rfl)) rfl rfl rfl rfl inTX7 (Nat.le_of_ble_eq_true rfl) tw_849 (fun ad => rfl)) ?_
    refine G_bvI (fun x6 => ?_)
    refine G_st (x_istore_n [some (aR (0, 29)), some (aI v1), some (aI x6)] dX7_wind_29 (Nat.le_of_ble_eq_true rfl) rfl rfl) ?_
    refine G_st (x_aload_n dX7_wind_30 rfl) ?_
    refine G_st (x_iload_n dX7_wind_31 rfl) ?_
    refine G_st (x_put (k := 2) (ty := .int) (v := aI v1) (z := v1) (upS t3 (0, 29) 2 v1) dX7_wind_32 (H0_29 29 (Nat.le_of_ble_eq_true rfl) (Nat.le_of_ble_eq_true rfl)) rfl rfl rfl rfl inTX7 tyX7_ok nmX7 (Nat.le_of_ble_eq_true rfl) tw_849 rfl rfl (fun ad => rfl) (fun ad => rfl) (fun ad => put_i0 ad _ _ _ _ rfl) rfl) ?_
    refine G_bvS (fun t7 => ?_)
    refine G_st (x_iconst (1 : Int32) dX7_wind_35 rfl) ?_
    refine G_st (x_iload_n dX7_wind_36 rfl) ?_
    refine G_st (x_iadd dX7_wind_37) ?_
    exact G_ret rfl ⟨dX7_wind_38, _, rfl, rfl⟩ rfl
  · refine G_st (x_if_ge_f 25 dX7_wind_11 (by decide) c5) ?_
    refine G_st (x_aload_n dX7_wind_14 rfl) ?_
    refine G_st (x_iload_n dX7_wind_15 rfl) ?_
    refine G_st (x_iconst (-1 : Int32) dX7_wind_16 rfl) ?_
    refine G_st (x_iconst (1 : Int32) dX7_wind_17 rfl) ?_
    refine G_bd (fun x8 t9 h10 => ?_)
    refine G_st (x_callS [aR (0, 29)] (c_X7_wrongNumber ids Hn v1 (-1 : Int32) (1 : Int32)  _ _ _ h10) dX7_wind_18 tw_1126 kc_X7_wrongNumber rfl ⟨Nat.le_of_ble_eq_true rfl, Nat.le_of_ble_eq_true rfl⟩ (Nat.le_of_ble_eq_true rfl) rfl) ?_
    refine G_bd (fun x11 t12 h13 => ?_)
    refine G_st (x_callV [] (c_X7_refuse ids Hn x8 H0_29 _ _ _ h13) dX7_wind_21 tw_981 kc_X7_refuse (H0_29 29 (Nat.le_of_ble_eq_true rfl) (Nat.le_of_ble_eq_true rfl)) rfl rfl rfl rfl ⟨Nat.le_of_ble_eq_true rfl, Nat.le_of_ble_eq_true rfl⟩ (Nat.le_of_ble_eq_true rfl) rfl) ?_
    exact G_ret rfl ⟨dX7_wind_24, _, rfl, rfl⟩ rfl
set_option maxRecDepth 100000 in
set_option maxHeartbeats 4000000 in
theorem c_X7_wind (ids : List (Nat × Nat)) (Hn : Ndp ids) (v1 : Int32) (H0_29 : InR ids 0 29 56) (t0 : Sg) (r : Int32) (t1 : Sg) (hf : f_X7_wind v1 t0 = some (r, t1)) : Mt0 mX7_wind yX7_wind ids [aR (0, 29), aI v1] t0 (some (aI r)) t1 :=
  Mt_of (x := (r, t1)) (g_X7_wind ids Hn v1 H0_29 t0) hf (fun _ _ => trivial) (by decide) rfl Hn (fun _ => rfl) (fun _ => Nat.le_of_ble_eq_true rfl)
theorem dX7_change_0 : decode cX7_change 0 = .ok (.aload_n 0, 1) := by decide +kernel
theorem dX7_change_1 : decode cX7_change 1 = .ok (.getfield 32, 3) := by decide +kernel
theorem dX7_change_4 : decode cX7_change 4 = .ok (.iload_n 1, 1) := by decide +kernel
theorem dX7_change_5 : decode cX7_change 5 = .ok (.iaload, 1) := by decide +kernel
theorem dX7_change_6 : decode cX7_change 6 = .ok (.istore_n 3, 1) := by decide +kernel
theorem dX7_change_7 : decode cX7_change 7 = .ok (.aload_n 0, 1) := by decide +kernel
theorem dX7_change_8 : decode cX7_change 8 = .ok (.getfield 32, 3) := by decide +kernel
theorem dX7_change_11 : decode cX7_change 11 = .ok (.iload_n 1, 1) := by decide +kernel
theorem dX7_change_12 : decode cX7_change 12 = .ok (.aload_n 0, 1) := by decide +kernel
theorem dX7_change_13 : decode cX7_change 13 = .ok (.getfield 32, 3) := by decide +kernel
theorem dX7_change_16 : decode cX7_change 16 = .ok (.iload_n 2, 1) := by decide +kernel
theorem dX7_change_17 : decode cX7_change 17 = .ok (.iaload, 1) := by decide +kernel
theorem dX7_change_18 : decode cX7_change 18 = .ok (.iastore, 1) := by decide +kernel
theorem dX7_change_19 : decode cX7_change 19 = .ok (.aload_n 0, 1) := by decide +kernel
theorem dX7_change_20 : decode cX7_change 20 = .ok (.getfield 32, 3) := by decide +kernel
theorem dX7_change_23 : decode cX7_change 23 = .ok (.iload_n 2, 1) := by decide +kernel
theorem dX7_change_24 : decode cX7_change 24 = .ok (.iload_n 3, 1) := by decide +kernel
theorem dX7_change_25 : decode cX7_change 25 = .ok (.iastore, 1) := by decide +kernel
theorem dX7_change_26 : decode cX7_change 26 = .ok (.return_, 1) := by decide +kernel
set_option maxRecDepth 100000 in
set_option maxHeartbeats 4000000 in
theorem g_X7_change (ids : List (Nat × Nat)) (Hn : Ndp ids) (v1 : Int32) (v2 : Int32) (H0_29 : InR ids 0 29 56) (t0 : Sg) : Gj kV mX7_change ids 0 [some (aR (0, 29)), some (aI v1), some (aI v2), none] [] t0 (f_X7_change v1 v2 t0) := by
  unfold f_X7_change
  refine G_st (x_aload_n dX7_change_0 rfl) ?_
  refine G_st (x_get (k := 10) (aR (0, 35)) dX7_change_1 (H0_29 29 (Nat.le_of_ble_eq_true rfl) (Nat.le_of_ble_eq_true rfl)) rfl rfl rfl rfl inTX7 (Nat.le_of_ble_eq_true rfl) tw_857 (fun ad => rfl)) ?_
  refine G_st (x_iload_n dX7_change_4 rfl) ?_
  refine G_chk (fun c1 => ?_)
  refine G_st (x_iaload dX7_change_5 (H0_29 35 (Nat.le_of_ble_eq_true rfl) (Nat.le_of_ble_eq_true rfl)) rfl c1) ?_
  refine G_bvI (fun x2 => ?_)
  refine G_st (x_istore_n [some (aR (0, 29)), some (aI v1), some (aI v2), some (aI x2)] dX7_change_6 (Nat.le_of_ble_eq_true rfl) rfl rfl) ?_
  refine G_st (x_aload_n dX7_change_7 rfl) ?_
  refine G_st (x_get (k := 10) (aR (0, 35)) dX7_change_8 (H0_29 29 (Nat.le_of_ble_eq_true rfl) (Nat.le_of_ble_eq_true rfl)) rfl rfl rfl rfl inTX7 (Nat.le_of_ble_eq_true rfl) tw_857 (fun ad => rfl)) ?_
  refine G_st (x_iload_n dX7_change_11 rfl) ?_
  refine G_st (x_aload_n dX7_change_12 rfl) ?_
  refine G_st (x_get (k := 10) (aR (0, 35)) dX7_change_13 (H0_29 29 (Nat.le_of_ble_eq_true rfl) (Nat.le_of_ble_eq_true rfl)) rfl rfl rfl rfl inTX7 (Nat.le_of_ble_eq_true rfl) tw_857 (fun ad => rfl)) ?_
  refine G_st (x_iload_n dX7_change_16 rfl) ?_
  refine G_chk (fun c3 => ?_)
  refine G_st (x_iaload dX7_change_17 (H0_29 35 (Nat.le_of_ble_eq_true rfl) (Nat.le_of_ble_eq_true rfl)) rfl c3) ?_
  refine G_chk (fun c4 => ?_)
  refine G_st (x_iastore dX7_change_18 (H0_29 35 (Nat.le_of_ble_eq_true rfl) (Nat.le_of_ble_eq_true rfl)) rfl c4) ?_
  refine G_bvS (fun t5 => ?_)
  refine G_st (x_aload_n dX7_change_19 rfl) ?_
  refine G_st (x_get (k := 10) (aR (0, 35)) dX7_change_20 (H0_29 29 (Nat.le_of_ble_eq_true rfl) (Nat.le_of_ble_eq_true rfl)) rfl rfl rfl rfl inTX7 (Nat.le_of_ble_eq_true rfl) tw_857 (fun ad => rfl)) ?_
  refine G_st (x_iload_n dX7_change_23 rfl) ?_
  refine G_st (x_iload_n dX7_change_24 rfl) ?_
  refine G_chk (fun c6 => ?_)
  refine G_st (x_iastore dX7_change_25 (H0_29 35 (Nat.le_of_ble_eq_true rfl) (Nat.le_of_ble_eq_true rfl)) rfl c6) ?_
  refine G_bvS (fun t7 => ?_)
  exact G_ret rfl ⟨rfl, dX7_change_26⟩ rfl
set_option maxRecDepth 100000 in
set_option maxHeartbeats 4000000 in
theorem c_X7_change (ids : List (Nat × Nat)) (Hn : Ndp ids) (v1 : Int32) (v2 : Int32) (H0_29 : InR ids 0 29 56) (t0 : Sg) (r : Unit) (t1 : Sg) (hf : f_X7_change v1 v2 t0 = some (r, t1)) : Mt0 mX7_change yX7_change ids [aR (0, 29), aI v1, aI v2] t0 none t1 :=
  Mt_of (x := (r, t1)) (g_X7_change ids Hn v1 v2 H0_29 t0) hf (fun _ _ => trivial) (by decide) rfl Hn (fun _ => rfl) (fun _ => Nat.le_of_ble_eq_true rfl)
theorem dX7_move_0 : decode cX7_move 0 = .ok (.aload_n 0, 1) := by decide +kernel
theorem dX7_move_1 : decode cX7_move 1 = .ok (.iconst 0, 1) := by decide +kernel
theorem dX7_move_2 : decode cX7_move 2 = .ok (.putfield 98, 3) := by decide +kernel
theorem dX7_move_5 : decode cX7_move 5 = .ok (.aload_n 0, 1) := by decide +kernel
theorem dX7_move_6 : decode cX7_move 6 = .ok (.iload_n 1, 1) := by decide +kernel
theorem dX7_move_7 : decode cX7_move 7 = .ok (.iload_n 2, 1) := by decide +kernel
theorem dX7_move_8 : decode cX7_move 8 = .ok (.invokevirtual 263, 3) := by decide +kernel
theorem dX7_move_11 : decode cX7_move 11 = .ok (.ifCond .ne 9, 3) := by decide +kernel
theorem dX7_move_14 : decode cX7_move 14 = .ok (.aload_n 0, 1) := by decide +kernel
theorem dX7_move_15 : decode cX7_move 15 = .ok (.iconst (-1), 1) := by decide +kernel
theorem dX7_move_16 : decode cX7_move 16 = .ok (.invokevirtual 167, 3) := by decide +kernel
theorem dX7_move_19 : decode cX7_move 19 = .ok (.ireturn, 1) := by decide +kernel
theorem dX7_move_20 : decode cX7_move 20 = .ok (.aload_n 0, 1) := by decide +kernel
theorem dX7_move_21 : decode cX7_move 21 = .ok (.iload_n 1, 1) := by decide +kernel
theorem dX7_move_22 : decode cX7_move 22 = .ok (.iload_n 2, 1) := by decide +kernel
theorem dX7_move_23 : decode cX7_move 23 = .ok (.invokevirtual 279, 3) := by decide +kernel
theorem dX7_move_26 : decode cX7_move 26 = .ok (.aload_n 0, 1) := by decide +kernel
theorem dX7_move_27 : decode cX7_move 27 = .ok (.getfield 32, 3) := by decide +kernel
theorem dX7_move_30 : decode cX7_move 30 = .ok (.iload_n 1, 1) := by decide +kernel
theorem dX7_move_31 : decode cX7_move 31 = .ok (.iaload, 1) := by decide +kernel
theorem dX7_move_32 : decode cX7_move 32 = .ok (.invokestatic 257, 3) := by decide +kernel
theorem dX7_move_35 : decode cX7_move 35 = .ok (.ireturn, 1) := by decide +kernel
set_option maxRecDepth 100000 in
set_option maxHeartbeats 4000000 in
theorem g_X7_move (ids : List (Nat × Nat)) (Hn : Ndp ids) (v1 : Int32) (v2 : Int32) (H0_29 : InR ids 0 29 56) (t0 : Sg) : Gj kI mX7_move ids 0 [some (aR (0, 29)), some (aI v1), some (aI v2)] [] t0 (f_X7_move v1 v2 t0) := by
  unfold f_X7_move
  refine G_st (x_aload_n dX7_move_0 rfl) ?_
  refine G_st (x_iconst (0 : Int32) dX7_move_1 rfl) ?_
  refine G_st (x_put (k := 18) (ty := .int) (v := aI (0 : Int32)) (z := (0 : Int32)) (upS t0 (0, 29) 18 (0 : Int32)) dX7_move_2 (H0_29 29 (Nat.le_of_ble_eq_true rfl) (Nat.le_of_ble_eq_true rfl)) rfl rfl rfl rfl inTX7 tyX7_ok nmX7 (Nat.le_of_ble_eq_true rfl) tw_865 rfl rfl (fun ad => rfl) (fun ad => rfl) (fun ad => put_i0 ad _ _ _ _ rfl) rfl) ?_
  refine G_bvS (fun t1 => ?_)
  refine G_st (x_aload_n dX7_move_5 rfl) ?_
  refine G_st (x_iload_n dX7_move_6 rfl) ?_
  refine G_st (x_iload_n dX7_move_7 rfl) ?_
  refine G_bd (fun x2 t3 h4 => ?_)
  refine G_st (x_callV [] (c_X7_areTenants ids Hn v1 v2 H0_29 _ _ _ h4) dX7_move_8 tw_1101 kc_X7_areTenants (H0_29 29 (Nat.le_of_ble_eq_true rfl) (Nat.le_of_ble_eq_true rfl)) rfl rfl rfl rfl ⟨Nat.le_of_ble_eq_true rfl, Nat.le_of_ble_eq_true rfl⟩ (Nat.le_of_ble_eq_true rfl) rfl) ?_
  refine G_ite (fun c5 => ?_) (fun c5 => ?_)
  · refine G_st (x_if_ne_f 20 dX7_move_11 (by decide) c5) ?_
    refine G_st (x_aload_n dX7_move_14 rfl) ?_
    refine G_st (x_iconst (-1 : Int32) dX7_move_15 rfl) ?_
    refine G_bd (fun x6 t7 h8 => ?_)
    refine G_st (x_callV [] (c_X7_refuse ids Hn (-1 : Int32) H0_29 _ _ _ h8) dX7_move_16 tw_981 kc_X7_refuse (H0_29 29 (Nat.le_of_ble_eq_true rfl) (Nat.le_of_ble_eq_true rfl)) rfl rfl rfl rfl ⟨Nat.le_of_ble_eq_true rfl, Nat.le_of_ble_eq_true rfl⟩ (Nat.le_of_ble_eq_true rfl) rfl) ?_
    exact G_ret rfl ⟨dX7_move_19, _, rfl, rfl⟩ rfl
  · refine G_st (x_if_ne_t (tgt := 20) dX7_move_11 (by decide) c5) ?_
    refine G_st (x_aload_n dX7_move_20 rfl) ?_
    refine G_st (x_iload_n dX7_move_21 rfl) ?_
    refine G_st (x_iload_n dX7_move_22 rfl) ?_
    refine G_bd (fun _ t10 h11 => ?_)
    refine G_st (x_callV [] (c_X7_change ids Hn v1 v2 H0_29 _ _ _ h11) dX7_move_23 tw_1145 kc_X7_change (H0_29 29 (Nat.le_of_ble_eq_true rfl) (Nat.le_of_ble_eq_true rfl)) rfl rfl rfl rfl ⟨Nat.le_of_ble_eq_true rfl, Nat.le_of_ble_eq_true rfl⟩ (Nat.le_of_ble_eq_true rfl) rfl) ?_
    refine G_st (x_aload_n dX7_move_26 rfl) ?_
    refine G_st (x_get (k := 10) (aR (0, 35)) dX7_move_27 (H0_29 29 (Nat.le_of_ble_eq_true rfl) (Nat.le_of_ble_eq_true rfl)) rfl rfl rfl rfl inTX7 (Nat.le_of_ble_eq_true rfl) tw_857 (fun ad => rfl)) ?_
    refine G_st (x_iload_n dX7_move_30 rfl) ?_
    refine G_chk (fun c12 => ?_)
    refine G_st (x_iaload dX7_move_31 (H0_29 35 (Nat.le_of_ble_eq_true rfl) (Nat.le_of_ble_eq_true rfl)) rfl c12) ?_
    refine G_bd (fun x13 t14 h15 => ?_)
    refine G_st (x_callS [] (c_X7_toldAs ids Hn (t10 (0, 35) (v1).toNatClampNeg)  _ _ _ h15) dX7_move_32 tw_1090 kc_X7_toldAs rfl ⟨Nat.le_of_ble_eq_true rfl, Nat.le_of_ble_eq_true rfl⟩ (Nat.le_of_ble_eq_true rfl) rfl) ?_
    exact G_ret rfl ⟨dX7_move_35, _, rfl, rfl⟩ rfl
set_option maxRecDepth 100000 in
set_option maxHeartbeats 4000000 in
theorem c_X7_move (ids : List (Nat × Nat)) (Hn : Ndp ids) (v1 : Int32) (v2 : Int32) (H0_29 : InR ids 0 29 56) (t0 : Sg) (r : Int32) (t1 : Sg) (hf : f_X7_move v1 v2 t0 = some (r, t1)) : Mt0 mX7_move yX7_move ids [aR (0, 29), aI v1, aI v2] t0 (some (aI r)) t1 :=
  Mt_of (x := (r, t1)) (g_X7_move ids Hn v1 v2 H0_29 t0) hf (fun _ _ => trivial) (by decide) rfl Hn (fun _ => rfl) (fun _ => Nat.le_of_ble_eq_true rfl)
theorem dX7_rain_0 : decode cX7_rain 0 = .ok (.aload_n 0, 1) := by decide +kernel
theorem dX7_rain_1 : decode cX7_rain 1 = .ok (.iconst 0, 1) := by decide +kernel
theorem dX7_rain_2 : decode cX7_rain 2 = .ok (.putfield 98, 3) := by decide +kernel
theorem dX7_rain_5 : decode cX7_rain 5 = .ok (.iconst 0, 1) := by decide +kernel
theorem dX7_rain_6 : decode cX7_rain 6 = .ok (.istore_n 1, 1) := by decide +kernel
theorem dX7_rain_7 : decode cX7_rain 7 = .ok (.iconst 0, 1) := by decide +kernel
theorem dX7_rain_8 : decode cX7_rain 8 = .ok (.istore_n 2, 1) := by decide +kernel
theorem dX7_rain_9 : decode cX7_rain 9 = .ok (.iload_n 2, 1) := by decide +kernel
theorem dX7_rain_10 : decode cX7_rain 10 = .ok (.bipush 24, 2) := by decide +kernel
theorem dX7_rain_12 : decode cX7_rain 12 = .ok (.if_icmp .ge 25, 3) := by decide +kernel
theorem dX7_rain_15 : decode cX7_rain 15 = .ok (.iload_n 1, 1) := by decide +kernel
theorem dX7_rain_16 : decode cX7_rain 16 = .ok (.aload_n 0, 1) := by decide +kernel
theorem dX7_rain_17 : decode cX7_rain 17 = .ok (.getfield 20, 3) := by decide +kernel
theorem dX7_rain_20 : decode cX7_rain 20 = .ok (.iload_n 2, 1) := by decide +kernel
theorem dX7_rain_21 : decode cX7_rain 21 = .ok (.iaload, 1) := by decide +kernel
theorem dX7_rain_22 : decode cX7_rain 22 = .ok (.iadd, 1) := by decide +kernel
theorem dX7_rain_23 : decode cX7_rain 23 = .ok (.istore_n 1, 1) := by decide +kernel
theorem dX7_rain_24 : decode cX7_rain 24 = .ok (.aload_n 0, 1) := by decide +kernel
theorem dX7_rain_25 : decode cX7_rain 25 = .ok (.getfield 20, 3) := by decide +kernel
theorem dX7_rain_28 : decode cX7_rain 28 = .ok (.iload_n 2, 1) := by decide +kernel
theorem dX7_rain_29 : decode cX7_rain 29 = .ok (.iconst 0, 1) := by decide +kernel
theorem dX7_rain_30 : decode cX7_rain 30 = .ok (.iastore, 1) := by decide +kernel
theorem dX7_rain_31 : decode cX7_rain 31 = .ok (.iinc 2 1, 3) := by decide +kernel
theorem dX7_rain_34 : decode cX7_rain 34 = .ok (.goto (-25), 3) := by decide +kernel
theorem dX7_rain_37 : decode cX7_rain 37 = .ok (.iload_n 1, 1) := by decide +kernel
theorem dX7_rain_38 : decode cX7_rain 38 = .ok (.ireturn, 1) := by decide +kernel
set_option maxRecDepth 100000 in
set_option maxHeartbeats 4000000 in
theorem g_X7_rain_9 (ids : List (Nat × Nat)) (Hn : Ndp ids)  (H0_29 : InR ids 0 29 56)  : ∀ (n : Nat) (v1 : Int32) (v2 : Int32) (t0 : Sg), Gj kI mX7_rain ids 9 [some (aR (0, 29)), some (aI v1), some (aI v2)] [] t0 (f_X7_rain_9 n v1 v2 t0) := by
  intro n
  induction n with
  | zero => intro v1 v2 t0; exact G_none
  | succ n ih =>
    intro v1 v2 t0
    rw [f_X7_rain_9]
    refine G_st (x_iload_n dX7_rain_9 rfl) ?_
    refine G_st (x_bipush (24 : Int32) dX7_rain_10 rfl) ?_
    refine G_ite (fun c2 => ?_) (fun c2 => ?_)
    · refine G_st (x_icmp_ge_t (tgt := 37) dX7_rain_12 (by decide) c2) ?_
      refine G_st (x_iload_n dX7_rain_37 rfl) ?_
      exact G_ret rfl ⟨dX7_rain_38, _, rfl, rfl⟩ rfl
    · refine G_st (x_icmp_ge_f 37 dX7_rain_12 (by decide) c2) ?_
      refine G_st (x_iload_n dX7_rain_15 rfl) ?_
      refine G_st (x_aload_n dX7_rain_16 rfl) ?_
      refine G_st (x_get (k := 6) (aR (0, 31)) dX7_rain_17 (H0_29 29 (Nat.le_of_ble_eq_true rfl) (Nat.le_of_ble_eq_true rfl)) rfl rfl rfl rfl inTX7 (Nat.le_of_ble_eq_true rfl) tw_853 (fun ad => rfl)) ?_
      refine G_st (x_iload_n dX7_rain_20 rfl) ?_
      refine G_chk (fun c3 => ?_)
      refine G_st (x_iaload dX7_rain_21 (H0_29 31 (Nat.le_of_ble_eq_true rfl) (Nat.le_of_ble_eq_true rfl)) rfl c3) ?_
      refine G_st (x_iadd dX7_rain_22) ?_
      refine G_bvI (fun x4 => ?_)
      refine G_st (x_istore_n [some (aR (0, 29)), some (aI x4), some (aI v2)] dX7_rain_23 (Nat.le_of_ble_eq_true rfl) rfl rfl) ?_
      refine G_st (x_aload_n dX7_rain_24 rfl) ?_
      refine G_st (x_get (k := 6) (aR (0, 31)) dX7_rain_25 (H0_29 29 (Nat.le_of_ble_eq_true rfl) (Nat.le_of_ble_eq_true rfl)) rfl rfl rfl rfl inTX7 (Nat.le_of_ble_eq_true rfl) tw_853 (fun ad => rfl)) ?_
      refine G_st (x_iload_n dX7_rain_28 rfl) ?_
      refine G_st (x_iconst (0 : Int32) dX7_rain_29 rfl) ?_
      refine G_chk (fun c5 => ?_)
      refine G_st (x_iastore dX7_rain_30 (H0_29 31 (Nat.le_of_ble_eq_true rfl) (Nat.le_of_ble_eq_true rfl)) rfl c5) ?_
      refine G_bvS (fun t6 => ?_)
      refine G_st (x_iinc (v2 + (1 : Int32)) [some (aR (0, 29)), some (aI x4), some (aI (v2 + (1 : Int32)))] dX7_rain_31 (Nat.le_of_ble_eq_true rfl) rfl rfl rfl rfl) ?_
      refine G_st (x_goto (tgt := 9) dX7_rain_34 (by decide)) ?_
      refine G_weak _ ?_ ((ih) x4 (v2 + (1 : Int32)) t6)
      exact (leL_s (leL_s (leL_s (leL_e _))))
set_option maxRecDepth 100000 in
set_option maxHeartbeats 4000000 in
theorem g_X7_rain (ids : List (Nat × Nat)) (Hn : Ndp ids)  (H0_29 : InR ids 0 29 56) (t0 : Sg) : Gj kI mX7_rain ids 0 [some (aR (0, 29)), none, none] [] t0 (f_X7_rain t0) := by
  unfold f_X7_rain
  refine G_st (x_aload_n dX7_rain_0 rfl) ?_
  refine G_st (x_iconst (0 : Int32) dX7_rain_1 rfl) ?_
  refine G_st (x_put (k := 18) (ty := .int) (v := aI (0 : Int32)) (z := (0 : Int32)) (upS t0 (0, 29) 18 (0 : Int32)) dX7_rain_2 (H0_29 29 (Nat.le_of_ble_eq_true rfl) (Nat.le_of_ble_eq_true rfl)) rfl rfl rfl rfl inTX7 tyX7_ok nmX7 (Nat.le_of_ble_eq_true rfl) tw_865 rfl rfl (fun ad => rfl) (fun ad => rfl) (fun ad => put_i0 ad _ _ _ _ rfl) rfl) ?_
  refine G_bvS (fun t1 => ?_)
  refine G_st (x_iconst (0 : Int32) dX7_rain_5 rfl) ?_
  refine G_st (x_istore_n [some (aR (0, 29)), some (aI (0 : Int32)), none] dX7_rain_6 (Nat.le_of_ble_eq_true rfl) rfl rfl) ?_
  refine G_st (x_iconst (0 : Int32) dX7_rain_7 rfl) ?_
  refine G_st (x_istore_n [some (aR (0, 29)), some (aI (0 : Int32)), some (aI (0 : Int32))] dX7_rain_8 (Nat.le_of_ble_eq_true rfl) rfl rfl) ?_
  refine G_weak _ ?_ (g_X7_rain_9 ids Hn H0_29 fuel (0 : Int32) (0 : Int32) t1)
  exact (leL_s (leL_s (leL_s (leL_e _))))
set_option maxRecDepth 100000 in
set_option maxHeartbeats 4000000 in
theorem c_X7_rain (ids : List (Nat × Nat)) (Hn : Ndp ids)  (H0_29 : InR ids 0 29 56) (t0 : Sg) (r : Int32) (t1 : Sg) (hf : f_X7_rain t0 = some (r, t1)) : Mt0 mX7_rain yX7_rain ids [aR (0, 29)] t0 (some (aI r)) t1 :=
  Mt_of (x := (r, t1)) (g_X7_rain ids Hn  H0_29 t0) hf (fun _ _ => trivial) (by decide) rfl Hn (fun _ => rfl) (fun _ => Nat.le_of_ble_eq_true rfl)
theorem dX7_week_0 : decode cX7_week 0 = .ok (.aload_n 0, 1) := by decide +kernel
theorem dX7_week_1 : decode cX7_week 1 = .ok (.iconst 0, 1) := by decide +kernel
theorem dX7_week_2 : decode cX7_week 2 = .ok (.putfield 98, 3) := by decide +kernel
theorem dX7_week_5 : decode cX7_week 5 = .ok (.aload_n 0, 1) := by decide +kernel
theorem dX7_week_6 : decode cX7_week 6 = .ok (.getfield 164, 3) := by decide +kernel
theorem dX7_week_9 : decode cX7_week 9 = .ok (.sipush 9999, 3) := by decide +kernel
theorem dX7_week_12 : decode cX7_week 12 = .ok (.if_icmp .ne 10, 3) := by decide +kernel
theorem dX7_week_15 : decode cX7_week 15 = .ok (.aload_n 0, 1) := by decide +kernel
theorem dX7_week_16 : decode cX7_week 16 = .ok (.bipush (-6), 2) := by decide +kernel
theorem dX7_week_18 : decode cX7_week 18 = .ok (.invokevirtual 167, 3) := by decide +kernel
theorem dX7_week_21 : decode cX7_week 21 = .ok (.ireturn, 1) := by decide +kernel
theorem dX7_week_22 : decode cX7_week 22 = .ok (.aload_n 0, 1) := by decide +kernel
theorem dX7_week_23 : decode cX7_week 23 = .ok (.invokevirtual 160, 3) := by decide +kernel
theorem dX7_week_26 : decode cX7_week 26 = .ok (.istore_n 1, 1) := by decide +kernel
theorem dX7_week_27 : decode cX7_week 27 = .ok (.aload_n 0, 1) := by decide +kernel
theorem dX7_week_28 : decode cX7_week 28 = .ok (.invokevirtual 282, 3) := by decide +kernel
theorem dX7_week_31 : decode cX7_week 31 = .ok (.iload_n 1, 1) := by decide +kernel
theorem dX7_week_32 : decode cX7_week 32 = .ok (.ireturn, 1) := by decide +kernel
set_option maxRecDepth 100000 in
set_option maxHeartbeats 4000000 in
theorem g_X7_week (ids : List (Nat × Nat)) (Hn : Ndp ids)  (H0_29 : InR ids 0 29 56) (t0 : Sg) : Gj kI mX7_week ids 0 [some (aR (0, 29)), none] [] t0 (f_X7_week t0) := by
  unfold f_X7_week
  refine G_st (x_aload_n dX7_week_0 rfl) ?_
  refine G_st (x_iconst (0 : Int32) dX7_week_1 rfl) ?_
  refine G_st (x_put (k := 18) (ty := .int) (v := aI (0 : Int32)) (z := (0 : Int32)) (upS t0 (0, 29) 18 (0 : Int32)) dX7_week_2 (H0_29 29 (Nat.le_of_ble_eq_true rfl) (Nat.le_of_ble_eq_true rfl)) rfl rfl rfl rfl inTX7 tyX7_ok nmX7 (Nat.le_of_ble_eq_true rfl) tw_865 rfl rfl (fun ad => rfl) (fun ad => rfl) (fun ad => put_i0 ad _ _ _ _ rfl) rfl) ?_
  refine G_bvS (fun t1 => ?_)
  refine G_st (x_aload_n dX7_week_5 rfl) ?_
  refine G_st (x_get (k := 3) (aI (t1 (0, 29) 3)) dX7_week_6 (H0_29 29 (Nat.le_of_ble_eq_true rfl) (Nat.le_of_ble_eq_true rfl)) rfl rfl rfl rfl inTX7 (Nat.le_of_ble_eq_true rfl) tw_850 (fun ad => rfl)) ?_
  refine G_st (x_sipush (9999 : Int32) dX7_week_9 rfl) ?_
  refine G_ite (fun c2 => ?_) (fun c2 => ?_)
  · refine G_st (x_icmp_ne_f 22 dX7_week_12 (by decide) c2) ?_
    refine G_st (x_aload_n dX7_week_15 rfl) ?_
    refine G_st (x_bipush (-6 : Int32) dX7_week_16 rfl) ?_
    refine G_bd (fun x3 t4 h5 => ?_)
    refine G_st (x_callV [] (c_X7_refuse ids Hn (-6 : Int32) H0_29 _ _ _ h5) dX7_week_18 tw_981 kc_X7_refuse (H0_29 29 (Nat.le_of_ble_eq_true rfl) (Nat.le_of_ble_eq_true rfl)) rfl rfl rfl rfl ⟨Nat.le_of_ble_eq_true rfl, Nat.le_of_ble_eq_true rfl⟩ (Nat.le_of_ble_eq_true rfl) rfl) ?_
    exact G_ret rfl ⟨dX7_week_21, _, rfl, rfl⟩ rfl
  · refine G_st (x_icmp_ne_t (tgt := 22) dX7_week_12 (by decide) c2) ?_
    refine G_st (x_aload_n dX7_week_22 rfl) ?_
    refine G_bd (fun x6 t7 h8 => ?_)
    refine G_st (x_callV [] (c_X7_oneWeek ids Hn  H0_29 _ _ _ h8) dX7_week_23 tw_1157 kc_X7_oneWeek (H0_29 29 (Nat.le_of_ble_eq_true rfl) (Nat.le_of_ble_eq_true rfl)) rfl rfl rfl rfl ⟨Nat.le_of_ble_eq_true rfl, Nat.le_of_ble_eq_true rfl⟩ (Nat.le_of_ble_eq_true rfl) rfl) ?_
    refine G_st (x_istore_n [some (aR (0, 29)), some (aI x6)] dX7_week_26 (Nat.le_of_ble_eq_true rfl) rfl rfl) ?_
    refine G_st (x_aload_n dX7_week_27 rfl) ?_
    refine G_bd (fun _ t10 h11 => ?_)
    refine G_st (x_callV [] (c_X7_keepWeek ids Hn  H0_29 _ _ _ h11) dX7_week_28 tw_1193 kc_X7_keepWeek (H0_29 29 (Nat.le_of_ble_eq_true rfl) (Nat.le_of_ble_eq_true rfl)) rfl rfl rfl rfl ⟨Nat.le_of_ble_eq_true rfl, Nat.le_of_ble_eq_true rfl⟩ (Nat.le_of_ble_eq_true rfl) rfl) ?_
    refine G_st (x_iload_n dX7_week_31 rfl) ?_
    exact G_ret rfl ⟨dX7_week_32, _, rfl, rfl⟩ rfl
set_option maxRecDepth 100000 in
set_option maxHeartbeats 4000000 in
theorem c_X7_week (ids : List (Nat × Nat)) (Hn : Ndp ids)  (H0_29 : InR ids 0 29 56) (t0 : Sg) (r : Int32) (t1 : Sg) (hf : f_X7_week t0 = some (r, t1)) : Mt0 mX7_week yX7_week ids [aR (0, 29)] t0 (some (aI r)) t1 :=
  Mt_of (x := (r, t1)) (g_X7_week ids Hn  H0_29 t0) hf (fun _ _ => trivial) (by decide) rfl Hn (fun _ => rfl) (fun _ => Nat.le_of_ble_eq_true rfl)
