theorem dX6_tenant_0 : decode cX6_tenant 0 = .ok (.aload_n 0, 1) := by decide +kernel
theorem dX6_tenant_1 : decode cX6_tenant 1 = .ok (.iload_n 1, 1) := by decide +kernel
theorem dX6_tenant_2 : decode cX6_tenant 2 = .ok (.invokevirtual 165, 3) := by decide +kernel
theorem dX6_tenant_5 : decode cX6_tenant 5 = .ok (.ifCond .ne 9, 3) := by decide +kernel
theorem dX6_tenant_8 : decode cX6_tenant 8 = .ok (.aload_n 0, 1) := by decide +kernel
theorem dX6_tenant_9 : decode cX6_tenant 9 = .ok (.iconst (-1), 1) := by decide +kernel
theorem dX6_tenant_10 : decode cX6_tenant 10 = .ok (.invokevirtual 130, 3) := by decide +kernel
theorem dX6_tenant_13 : decode cX6_tenant 13 = .ok (.ireturn, 1) := by decide +kernel
theorem dX6_tenant_14 : decode cX6_tenant 14 = .ok (.iload_n 2, 1) := by decide +kernel
theorem dX6_tenant_15 : decode cX6_tenant 15 = .ok (.tableswitch 70 0 2 #[25, 43, 58], 25) := by decide +kernel
theorem dX6_tenant_40 : decode cX6_tenant 40 = .ok (.aload_n 0, 1) := by decide +kernel
theorem dX6_tenant_41 : decode cX6_tenant 41 = .ok (.getfield 12, 3) := by decide +kernel
theorem dX6_tenant_44 : decode cX6_tenant 44 = .ok (.getfield 67, 3) := by decide +kernel
theorem dX6_tenant_47 : decode cX6_tenant 47 = .ok (.getfield 169, 3) := by decide +kernel
theorem dX6_tenant_50 : decode cX6_tenant 50 = .ok (.iload_n 1, 1) := by decide +kernel
theorem dX6_tenant_51 : decode cX6_tenant 51 = .ok (.invokestatic 59, 3) := by decide +kernel
theorem dX6_tenant_54 : decode cX6_tenant 54 = .ok (.invokestatic 172, 3) := by decide +kernel
theorem dX6_tenant_57 : decode cX6_tenant 57 = .ok (.ireturn, 1) := by decide +kernel
theorem dX6_tenant_58 : decode cX6_tenant 58 = .ok (.aload_n 0, 1) := by decide +kernel
theorem dX6_tenant_59 : decode cX6_tenant 59 = .ok (.getfield 12, 3) := by decide +kernel
theorem dX6_tenant_62 : decode cX6_tenant 62 = .ok (.getfield 103, 3) := by decide +kernel
theorem dX6_tenant_65 : decode cX6_tenant 65 = .ok (.getfield 175, 3) := by decide +kernel
theorem dX6_tenant_68 : decode cX6_tenant 68 = .ok (.iload_n 1, 1) := by decide +kernel
theorem dX6_tenant_69 : decode cX6_tenant 69 = .ok (.invokestatic 59, 3) := by decide +kernel
theorem dX6_tenant_72 : decode cX6_tenant 72 = .ok (.ireturn, 1) := by decide +kernel
theorem dX6_tenant_73 : decode cX6_tenant 73 = .ok (.aload_n 0, 1) := by decide +kernel
theorem dX6_tenant_74 : decode cX6_tenant 74 = .ok (.getfield 12, 3) := by decide +kernel
theorem dX6_tenant_77 : decode cX6_tenant 77 = .ok (.getfield 81, 3) := by decide +kernel
theorem dX6_tenant_80 : decode cX6_tenant 80 = .ok (.iload_n 1, 1) := by decide +kernel
theorem dX6_tenant_81 : decode cX6_tenant 81 = .ok (.invokevirtual 178, 3) := by decide +kernel
theorem dX6_tenant_84 : decode cX6_tenant 84 = .ok (.ireturn, 1) := by decide +kernel
theorem dX6_tenant_85 : decode cX6_tenant 85 = .ok (.aload_n 0, 1) := by decide +kernel
theorem dX6_tenant_86 : decode cX6_tenant 86 = .ok (.bipush (-2), 2) := by decide +kernel
theorem dX6_tenant_88 : decode cX6_tenant 88 = .ok (.invokevirtual 130, 3) := by decide +kernel
theorem dX6_tenant_91 : decode cX6_tenant 91 = .ok (.ireturn, 1) := by decide +kernel
set_option maxRecDepth 100000 in
set_option maxHeartbeats 4000000 in
theorem g_X6_tenant (ids : List (Nat × Nat)) (Hn : Ndp ids) (v1 : Int32) (v2 : Int32) (H0_0 : InR ids 0 0 5) (H1 : InR ids 1 6 28) (H2 : InR ids 2 6 28) (H3 : InR ids 3 6 28) (t0 : Sg) : Gj kI mX6_tenant ids 0 [some (aR (0, 0)), some (aI v1), some (aI v2)] [] t0 (f_X6_tenant v1 v2 t0) := by
  unfold f_X6_tenant
  refine G_st (x_aload_n dX6_tenant_0 rfl) ?_
  refine G_st (x_iload_n dX6_tenant_1 rfl) ?_
  refine G_bd (fun x1 t2 h3 => ?_)
  refine G_st (x_callV [] (c_X6_isTenant ids Hn v1 H0_0 H1 H2 H3 _ _ _ h3) dX6_tenant_2 tw_530 kc_X6_isTenant (H0_0 0 (Nat.le_of_ble_eq_true rfl) (Nat.le_of_ble_eq_true rfl)) rfl rfl rfl rfl ⟨Nat.le_of_ble_eq_true rfl, Nat.le_of_ble_eq_true rfl⟩ (Nat.le_of_ble_eq_true rfl) rfl) ?_
  refine G_ite (fun c4 => ?_) (fun c4 => ?_)
  · refine G_st (x_if_ne_f 14 dX6_tenant_5 (by decide) c4) ?_
    refine G_st (x_aload_n dX6_tenant_8 rfl) ?_
    refine G_st (x_iconst (-1 : Int32) dX6_tenant_9 rfl) ?_
    refine G_bd (fun x5 t6 h7 => ?_)
    refine G_st (x_callV [] (c_X6_refuse ids Hn (-1 : Int32) H0_0 H1 H2 H3 _ _ _ h7) dX6_tenant_10 tw_317 kc_X6_refuse (H0_0 0 (Nat.le_of_ble_eq_true rfl) (Nat.le_of_ble_eq_true rfl)) rfl rfl rfl rfl ⟨Nat.le_of_ble_eq_true rfl, Nat.le_of_ble_eq_true rfl⟩ (Nat.le_of_ble_eq_true rfl) rfl) ?_
    exact G_ret rfl ⟨dX6_tenant_13, _, rfl, rfl⟩ rfl
  · refine G_st (x_if_ne_t (tgt := 14) dX6_tenant_5 (by decide) c4) ?_
    refine G_st (x_iload_n dX6_tenant_14 rfl) ?_
    refine G_ite (fun c8 => ?_) (fun c8 => ?_)
    · refine G_st (x_tabIn (tgt := 40) (0 : Int32) dX6_tenant_15 c8 (by decide) (by decide) rfl (by decide)) ?_
      refine G_st (x_aload_n dX6_tenant_40 rfl) ?_
      refine G_st (x_get (k := 0) (aR (1, 6)) dX6_tenant_41 (H0_0 0 (Nat.le_of_ble_eq_true rfl) (Nat.le_of_ble_eq_true rfl)) rfl rfl rfl rfl inTX6 (Nat.le_of_ble_eq_true rfl) tw_285 (fun ad => rfl)) ?_
      refine G_st (x_get (k := 0) (aR (1, 7)) dX6_tenant_44 (H1 6 (Nat.le_of_ble_eq_true rfl) (Nat.le_of_ble_eq_true rfl)) rfl rfl rfl rfl inTX2 (Nat.le_of_ble_eq_true rfl) tw_250 (fun ad => rfl)) ?_
      refine G_st (x_get (k := 9) (aR (1, 14)) dX6_tenant_47 (H1 7 (Nat.le_of_ble_eq_true rfl) (Nat.le_of_ble_eq_true rfl)) rfl rfl rfl rfl inTX0 (Nat.le_of_ble_eq_true rfl) tw_140 (fun ad => rfl)) ?_
      refine G_st (x_iload_n dX6_tenant_50 rfl) ?_
      refine G_bd (fun x9 t10 h11 => ?_)
      refine G_st (x_callS [] (c_X6_get ids Hn (1, 14) v1 (H1 14 (Nat.le_of_ble_eq_true rfl) (Nat.le_of_ble_eq_true rfl)) rfl _ _ _ h11) dX6_tenant_51 tw_321 kc_X6_get rfl ⟨Nat.le_of_ble_eq_true rfl, Nat.le_of_ble_eq_true rfl⟩ (Nat.le_of_ble_eq_true rfl) rfl) ?_
      refine G_bd (fun x12 t13 h14 => ?_)
      refine G_st (x_callS [] (c_X0_flatAt ids Hn x9  _ _ _ h14) dX6_tenant_54 tw_535 kc_X0_flatAt rfl ⟨Nat.le_of_ble_eq_true rfl, Nat.le_of_ble_eq_true rfl⟩ (Nat.le_of_ble_eq_true rfl) rfl) ?_
      exact G_ret rfl ⟨dX6_tenant_57, _, rfl, rfl⟩ rfl
    refine G_ite (fun c15 => ?_) (fun c15 => ?_)
    · refine G_st (x_tabIn (tgt := 58) (1 : Int32) dX6_tenant_15 c15 (by decide) (by decide) rfl (by decide)) ?_
      refine G_st (x_aload_n dX6_tenant_58 rfl) ?_
      refine G_st (x_get (k := 0) (aR (1, 6)) dX6_tenant_59 (H0_0 0 (Nat.le_of_ble_eq_true rfl) (Nat.le_of_ble_eq_true rfl)) rfl rfl rfl rfl inTX6 (Nat.le_of_ble_eq_true rfl) tw_285 (fun ad => rfl)) ?_
      refine G_st (x_get (k := 2) (aR (1, 20)) dX6_tenant_62 (H1 6 (Nat.le_of_ble_eq_true rfl) (Nat.le_of_ble_eq_true rfl)) rfl rfl rfl rfl inTX2 (Nat.le_of_ble_eq_true rfl) tw_256 (fun ad => rfl)) ?_
      refine G_st (x_get (k := 0) (aR (1, 21)) dX6_tenant_65 (H1 20 (Nat.le_of_ble_eq_true rfl) (Nat.le_of_ble_eq_true rfl)) rfl rfl rfl rfl inTX3 (Nat.le_of_ble_eq_true rfl) tw_205 (fun ad => rfl)) ?_
      refine G_st (x_iload_n dX6_tenant_68 rfl) ?_
      refine G_bd (fun x16 t17 h18 => ?_)
      refine G_st (x_callS [] (c_X6_get ids Hn (1, 21) v1 (H1 21 (Nat.le_of_ble_eq_true rfl) (Nat.le_of_ble_eq_true rfl)) rfl _ _ _ h18) dX6_tenant_69 tw_321 kc_X6_get rfl ⟨Nat.le_of_ble_eq_true rfl, Nat.le_of_ble_eq_true rfl⟩ (Nat.le_of_ble_eq_true rfl) rfl) ?_
      exact G_ret rfl ⟨dX6_tenant_72, _, rfl, rfl⟩ rfl
    refine G_ite (fun c19 => ?_) (fun c19 => ?_)
    · refine G_st (x_tabIn (tgt := 73) (2 : Int32) dX6_tenant_15 c19 (by decide) (by decide) rfl (by decide)) ?_
      refine G_st (x_aload_n dX6_tenant_73 rfl) ?_
      refine G_st (x_get (k := 0) (aR (1, 6)) dX6_tenant_74 (H0_0 0 (Nat.le_of_ble_eq_true rfl) (Nat.le_of_ble_eq_true rfl)) rfl rfl rfl rfl inTX6 (Nat.le_of_ble_eq_true rfl) tw_285 (fun ad => rfl)) ?_
      refine G_st (x_get (k := 1) (aR (1, 15)) dX6_tenant_77 (H1 6 (Nat.le_of_ble_eq_true rfl) (Nat.le_of_ble_eq_true rfl)) rfl rfl rfl rfl inTX2 (Nat.le_of_ble_eq_true rfl) tw_253 (fun ad => rfl)) ?_
      refine G_st (x_iload_n dX6_tenant_80 rfl) ?_
      refine G_bd (fun x20 t21 h22 => ?_)
      refine G_st (x_callV [] (c_X1_countOf ids Hn 1 v1 (H1.sub (Nat.le_of_ble_eq_true rfl) (Nat.le_of_ble_eq_true rfl)) _ _ _ h22) dX6_tenant_81 tw_538 kc_X1_countOf (H1 15 (Nat.le_of_ble_eq_true rfl) (Nat.le_of_ble_eq_true rfl)) rfl rfl rfl rfl ⟨Nat.le_of_ble_eq_true rfl, Nat.le_of_ble_eq_true rfl⟩ (Nat.le_of_ble_eq_true rfl) rfl) ?_
      exact G_ret rfl ⟨dX6_tenant_84, _, rfl, rfl⟩ rfl
    refine G_st (x_tabOut (tgt := 85) dX6_tenant_15 (by have c8q : ¬ (v2).toInt = (0 : Int) := lv_neT c8 rfl; have c15q : ¬ (v2).toInt = (1 : Int) := lv_neT c15 rfl; have c19q : ¬ (v2).toInt = (2 : Int) := lv_neT c19 rfl; omega) (by decide)) ?_
    refine G_st (x_aload_n dX6_tenant_85 rfl) ?_
    refine G_st (x_bipush (-2 : Int32) dX6_tenant_86 rfl) ?_
    refine G_bd (fun x23 t24 h25 => ?_)
    refine G_st (x_callV [] (c_X6_refuse ids Hn (-2 : Int32) H0_0 H1 H2 H3 _ _ _ h25) dX6_tenant_88 tw_317 kc_X6_refuse (H0_0 0 (Nat.le_of_ble_eq_true rfl) (Nat.le_of_ble_eq_true rfl)) rfl rfl rfl rfl ⟨Nat.le_of_ble_eq_true rfl, Nat.le_of_ble_eq_true rfl⟩ (Nat.le_of_ble_eq_true rfl) rfl) ?_
    exact G_ret rfl ⟨dX6_tenant_91, _, rfl, rfl⟩ rfl
set_option maxRecDepth 100000 in
set_option maxHeartbeats 4000000 in
theorem c_X6_tenant (ids : List (Nat × Nat)) (Hn : Ndp ids) (v1 : Int32) (v2 : Int32) (H0_0 : InR ids 0 0 5) (H1 : InR ids 1 6 28) (H2 : InR ids 2 6 28) (H3 : InR ids 3 6 28) (t0 : Sg) (r : Int32) (t1 : Sg) (hf : f_X6_tenant v1 v2 t0 = some (r, t1)) : Mt0 mX6_tenant yX6_tenant ids [aR (0, 0), aI v1, aI v2] t0 (some (aI r)) t1 :=
  Mt_of (x := (r, t1)) (g_X6_tenant ids Hn v1 v2 H0_0 H1 H2 H3 t0) hf (fun _ _ => trivial) (by decide) rfl Hn (fun _ => rfl) (fun _ => Nat.le_of_ble_eq_true rfl)
theorem dX6_anger_0 : decode cX6_anger 0 = .ok (.aload_n 0, 1) := by decide +kernel
theorem dX6_anger_1 : decode cX6_anger 1 = .ok (.iload_n 1, 1) := by decide +kernel
theorem dX6_anger_2 : decode cX6_anger 2 = .ok (.invokevirtual 165, 3) := by decide +kernel
theorem dX6_anger_5 : decode cX6_anger 5 = .ok (.ifCond .eq 16, 3) := by decide +kernel
theorem dX6_anger_8 : decode cX6_anger 8 = .ok (.aload_n 0, 1) := by decide +kernel
theorem dX6_anger_9 : decode cX6_anger 9 = .ok (.iload_n 2, 1) := by decide +kernel
theorem dX6_anger_10 : decode cX6_anger 10 = .ok (.invokevirtual 165, 3) := by decide +kernel
theorem dX6_anger_13 : decode cX6_anger 13 = .ok (.ifCond .eq 8, 3) := by decide +kernel
theorem dX6_anger_16 : decode cX6_anger 16 = .ok (.iload_n 1, 1) := by decide +kernel
theorem dX6_anger_17 : decode cX6_anger 17 = .ok (.iload_n 2, 1) := by decide +kernel
theorem dX6_anger_18 : decode cX6_anger 18 = .ok (.if_icmp .ne 9, 3) := by decide +kernel
theorem dX6_anger_21 : decode cX6_anger 21 = .ok (.aload_n 0, 1) := by decide +kernel
theorem dX6_anger_22 : decode cX6_anger 22 = .ok (.iconst (-1), 1) := by decide +kernel
theorem dX6_anger_23 : decode cX6_anger 23 = .ok (.invokevirtual 130, 3) := by decide +kernel
theorem dX6_anger_26 : decode cX6_anger 26 = .ok (.ireturn, 1) := by decide +kernel
theorem dX6_anger_27 : decode cX6_anger 27 = .ok (.aload_n 0, 1) := by decide +kernel
theorem dX6_anger_28 : decode cX6_anger 28 = .ok (.getfield 12, 3) := by decide +kernel
theorem dX6_anger_31 : decode cX6_anger 31 = .ok (.getfield 103, 3) := by decide +kernel
theorem dX6_anger_34 : decode cX6_anger 34 = .ok (.getfield 181, 3) := by decide +kernel
theorem dX6_anger_37 : decode cX6_anger 37 = .ok (.iload_n 1, 1) := by decide +kernel
theorem dX6_anger_38 : decode cX6_anger 38 = .ok (.iload_n 2, 1) := by decide +kernel
theorem dX6_anger_39 : decode cX6_anger 39 = .ok (.invokestatic 184, 3) := by decide +kernel
theorem dX6_anger_42 : decode cX6_anger 42 = .ok (.invokestatic 59, 3) := by decide +kernel
theorem dX6_anger_45 : decode cX6_anger 45 = .ok (.ireturn, 1) := by decide +kernel
set_option maxRecDepth 100000 in
set_option maxHeartbeats 4000000 in
theorem g_X6_anger_21 (ids : List (Nat × Nat)) (Hn : Ndp ids)  (H0_0 : InR ids 0 0 5) (H1 : InR ids 1 6 28) (H2 : InR ids 2 6 28) (H3 : InR ids 3 6 28)   (t0 : Sg) : Gj kI mX6_anger ids 21 [some (aR (0, 0)), none, none] [] t0 (f_X6_anger_21 t0) := by
  unfold f_X6_anger_21
  refine G_st (x_aload_n dX6_anger_21 rfl) ?_
  refine G_st (x_iconst (-1 : Int32) dX6_anger_22 rfl) ?_
  refine G_bd (fun x5 t6 h7 => ?_)
  refine G_st (x_callV [] (c_X6_refuse ids Hn (-1 : Int32) H0_0 H1 H2 H3 _ _ _ h7) dX6_anger_23 tw_317 kc_X6_refuse (H0_0 0 (Nat.le_of_ble_eq_true rfl) (Nat.le_of_ble_eq_true rfl)) rfl rfl rfl rfl ⟨Nat.le_of_ble_eq_true rfl, Nat.le_of_ble_eq_true rfl⟩ (Nat.le_of_ble_eq_true rfl) rfl) ?_
  exact G_ret rfl ⟨dX6_anger_26, _, rfl, rfl⟩ rfl
set_option maxRecDepth 100000 in
set_option maxHeartbeats 4000000 in
theorem g_X6_anger (ids : List (Nat × Nat)) (Hn : Ndp ids) (v1 : Int32) (v2 : Int32) (H0_0 : InR ids 0 0 5) (H1 : InR ids 1 6 28) (H2 : InR ids 2 6 28) (H3 : InR ids 3 6 28) (t0 : Sg) : Gj kI mX6_anger ids 0 [some (aR (0, 0)), some (aI v1), some (aI v2)] [] t0 (f_X6_anger v1 v2 t0) := by
  unfold f_X6_anger
  refine G_st (x_aload_n dX6_anger_0 rfl) ?_
  refine G_st (x_iload_n dX6_anger_1 rfl) ?_
  refine G_bd (fun x1 t2 h3 => ?_)
  refine G_st (x_callV [] (c_X6_isTenant ids Hn v1 H0_0 H1 H2 H3 _ _ _ h3) dX6_anger_2 tw_530 kc_X6_isTenant (H0_0 0 (Nat.le_of_ble_eq_true rfl) (Nat.le_of_ble_eq_true rfl)) rfl rfl rfl rfl ⟨Nat.le_of_ble_eq_true rfl, Nat.le_of_ble_eq_true rfl⟩ (Nat.le_of_ble_eq_true rfl) rfl) ?_
  refine G_ite (fun c4 => ?_) (fun c4 => ?_)
  · refine G_st (x_if_eq_t (tgt := 21) dX6_anger_5 (by decide) c4) ?_
    refine G_weak _ ?_ (g_X6_anger_21 ids Hn H0_0 H1 H2 H3 t2)
    exact (leL_s (leL_n (leL_n (leL_e _))))
  · refine G_st (x_if_eq_f 21 dX6_anger_5 (by decide) c4) ?_
    refine G_st (x_aload_n dX6_anger_8 rfl) ?_
    refine G_st (x_iload_n dX6_anger_9 rfl) ?_
    refine G_bd (fun x8 t9 h10 => ?_)
    refine G_st (x_callV [] (c_X6_isTenant ids Hn v2 H0_0 H1 H2 H3 _ _ _ h10) dX6_anger_10 tw_530 kc_X6_isTenant (H0_0 0 (Nat.le_of_ble_eq_true rfl) (Nat.le_of_ble_eq_true rfl)) rfl rfl rfl rfl ⟨Nat.le_of_ble_eq_true rfl, Nat.le_of_ble_eq_true rfl⟩ (Nat.le_of_ble_eq_true rfl) rfl) ?_
    refine G_ite (fun c11 => ?_) (fun c11 => ?_)
    · refine G_st (x_if_eq_t (tgt := 21) dX6_anger_13 (by decide) c11) ?_
      refine G_weak _ ?_ (g_X6_anger_21 ids Hn H0_0 H1 H2 H3 t9)
      exact (leL_s (leL_n (leL_n (leL_e _))))
    · refine G_st (x_if_eq_f 21 dX6_anger_13 (by decide) c11) ?_
      refine G_st (x_iload_n dX6_anger_16 rfl) ?_
      refine G_st (x_iload_n dX6_anger_17 rfl) ?_
      refine G_ite (fun c12 => ?_) (fun c12 => ?_)
      · refine G_st (x_icmp_ne_f 27 dX6_anger_18 (by decide) c12) ?_
        refine G_weak _ ?_ (g_X6_anger_21 ids Hn H0_0 H1 H2 H3 t9)
        exact (leL_s (leL_n (leL_n (leL_e _))))
      · refine G_st (x_icmp_ne_t (tgt := 27) dX6_anger_18 (by decide) c12) ?_
        refine G_st (x_aload_n dX6_anger_27 rfl) ?_
        refine G_st (x_get (k := 0) (aR (1, 6)) dX6_anger_28 (H0_0 0 (Nat.le_of_ble_eq_true rfl) (Nat.le_of_ble_eq_true rfl)) rfl rfl rfl rfl inTX6 (Nat.le_of_ble_eq_true rfl) tw_285 (fun ad => rfl)) ?_
        refine G_st (x_get (k := 2) (aR (1, 20)) dX6_anger_31 (H1 6 (Nat.le_of_ble_eq_true rfl) (Nat.le_of_ble_eq_true rfl)) rfl rfl rfl rfl inTX2 (Nat.le_of_ble_eq_true rfl) tw_256 (fun ad => rfl)) ?_
        refine G_st (x_get (k := 1) (aR (1, 22)) dX6_anger_34 (H1 20 (Nat.le_of_ble_eq_true rfl) (Nat.le_of_ble_eq_true rfl)) rfl rfl rfl rfl inTX3 (Nat.le_of_ble_eq_true rfl) tw_207 (fun ad => rfl)) ?_
        refine G_st (x_iload_n dX6_anger_37 rfl) ?_
        refine G_st (x_iload_n dX6_anger_38 rfl) ?_
        refine G_bd (fun x13 t14 h15 => ?_)
        refine G_st (x_callS [aR (1, 22)] (c_X3_pair ids Hn v1 v2  _ _ _ h15) dX6_anger_39 tw_547 kc_X3_pair rfl ⟨Nat.le_of_ble_eq_true rfl, Nat.le_of_ble_eq_true rfl⟩ (Nat.le_of_ble_eq_true rfl) rfl) ?_
        refine G_bd (fun x16 t17 h18 => ?_)
        refine G_st (x_callS [] (c_X6_get ids Hn (1, 22) x13 (H1 22 (Nat.le_of_ble_eq_true rfl) (Nat.le_of_ble_eq_true rfl)) rfl _ _ _ h18) dX6_anger_42 tw_321 kc_X6_get rfl ⟨Nat.le_of_ble_eq_true rfl, Nat.le_of_ble_eq_true rfl⟩ (Nat.le_of_ble_eq_true rfl) rfl) ?_
        exact G_ret rfl ⟨dX6_anger_45, _, rfl, rfl⟩ rfl
set_option maxRecDepth 100000 in
set_option maxHeartbeats 4000000 in
theorem c_X6_anger (ids : List (Nat × Nat)) (Hn : Ndp ids) (v1 : Int32) (v2 : Int32) (H0_0 : InR ids 0 0 5) (H1 : InR ids 1 6 28) (H2 : InR ids 2 6 28) (H3 : InR ids 3 6 28) (t0 : Sg) (r : Int32) (t1 : Sg) (hf : f_X6_anger v1 v2 t0 = some (r, t1)) : Mt0 mX6_anger yX6_anger ids [aR (0, 0), aI v1, aI v2] t0 (some (aI r)) t1 :=
  Mt_of (x := (r, t1)) (g_X6_anger ids Hn v1 v2 H0_0 H1 H2 H3 t0) hf (fun _ _ => trivial) (by decide) rfl Hn (fun _ => rfl) (fun _ => Nat.le_of_ble_eq_true rfl)
theorem dX6_habit_0 : decode cX6_habit 0 = .ok (.aload_n 0, 1) := by decide +kernel
theorem dX6_habit_1 : decode cX6_habit 1 = .ok (.iload_n 1, 1) := by decide +kernel
theorem dX6_habit_2 : decode cX6_habit 2 = .ok (.invokevirtual 187, 3) := by decide +kernel
theorem dX6_habit_5 : decode cX6_habit 5 = .ok (.ifCond .ne 9, 3) := by decide +kernel
theorem dX6_habit_8 : decode cX6_habit 8 = .ok (.aload_n 0, 1) := by decide +kernel
theorem dX6_habit_9 : decode cX6_habit 9 = .ok (.iconst (-1), 1) := by decide +kernel
theorem dX6_habit_10 : decode cX6_habit 10 = .ok (.invokevirtual 130, 3) := by decide +kernel
theorem dX6_habit_13 : decode cX6_habit 13 = .ok (.ireturn, 1) := by decide +kernel
theorem dX6_habit_14 : decode cX6_habit 14 = .ok (.iload_n 2, 1) := by decide +kernel
theorem dX6_habit_15 : decode cX6_habit 15 = .ok (.tableswitch 89 0 3 #[29, 44, 59, 74], 29) := by decide +kernel
theorem dX6_habit_44 : decode cX6_habit 44 = .ok (.aload_n 0, 1) := by decide +kernel
theorem dX6_habit_45 : decode cX6_habit 45 = .ok (.getfield 12, 3) := by decide +kernel
theorem dX6_habit_48 : decode cX6_habit 48 = .ok (.getfield 81, 3) := by decide +kernel
theorem dX6_habit_51 : decode cX6_habit 51 = .ok (.getfield 190, 3) := by decide +kernel
theorem dX6_habit_54 : decode cX6_habit 54 = .ok (.iload_n 1, 1) := by decide +kernel
theorem dX6_habit_55 : decode cX6_habit 55 = .ok (.invokestatic 59, 3) := by decide +kernel
theorem dX6_habit_58 : decode cX6_habit 58 = .ok (.ireturn, 1) := by decide +kernel
theorem dX6_habit_59 : decode cX6_habit 59 = .ok (.aload_n 0, 1) := by decide +kernel
theorem dX6_habit_60 : decode cX6_habit 60 = .ok (.getfield 12, 3) := by decide +kernel
theorem dX6_habit_63 : decode cX6_habit 63 = .ok (.getfield 81, 3) := by decide +kernel
theorem dX6_habit_66 : decode cX6_habit 66 = .ok (.getfield 193, 3) := by decide +kernel
theorem dX6_habit_69 : decode cX6_habit 69 = .ok (.iload_n 1, 1) := by decide +kernel
theorem dX6_habit_70 : decode cX6_habit 70 = .ok (.invokestatic 59, 3) := by decide +kernel
theorem dX6_habit_73 : decode cX6_habit 73 = .ok (.ireturn, 1) := by decide +kernel
theorem dX6_habit_74 : decode cX6_habit 74 = .ok (.aload_n 0, 1) := by decide +kernel
theorem dX6_habit_75 : decode cX6_habit 75 = .ok (.getfield 12, 3) := by decide +kernel
theorem dX6_habit_78 : decode cX6_habit 78 = .ok (.getfield 81, 3) := by decide +kernel
theorem dX6_habit_81 : decode cX6_habit 81 = .ok (.getfield 196, 3) := by decide +kernel
theorem dX6_habit_84 : decode cX6_habit 84 = .ok (.iload_n 1, 1) := by decide +kernel
theorem dX6_habit_85 : decode cX6_habit 85 = .ok (.invokestatic 59, 3) := by decide +kernel
theorem dX6_habit_88 : decode cX6_habit 88 = .ok (.ireturn, 1) := by decide +kernel
theorem dX6_habit_89 : decode cX6_habit 89 = .ok (.aload_n 0, 1) := by decide +kernel
theorem dX6_habit_90 : decode cX6_habit 90 = .ok (.getfield 12, 3) := by decide +kernel
theorem dX6_habit_93 : decode cX6_habit 93 = .ok (.getfield 81, 3) := by decide +kernel
theorem dX6_habit_96 : decode cX6_habit 96 = .ok (.getfield 116, 3) := by decide +kernel
theorem dX6_habit_99 : decode cX6_habit 99 = .ok (.iload_n 1, 1) := by decide +kernel
theorem dX6_habit_100 : decode cX6_habit 100 = .ok (.invokestatic 59, 3) := by decide +kernel
theorem dX6_habit_103 : decode cX6_habit 103 = .ok (.ireturn, 1) := by decide +kernel
theorem dX6_habit_104 : decode cX6_habit 104 = .ok (.aload_n 0, 1) := by decide +kernel
theorem dX6_habit_105 : decode cX6_habit 105 = .ok (.bipush (-2), 2) := by decide +kernel
theorem dX6_habit_107 : decode cX6_habit 107 = .ok (.invokevirtual 130, 3) := by decide +kernel
theorem dX6_habit_110 : decode cX6_habit 110 = .ok (.ireturn, 1) := by decide +kernel
set_option maxRecDepth 100000 in
set_option maxHeartbeats 4000000 in
theorem g_X6_habit (ids : List (Nat × Nat)) (Hn : Ndp ids) (v1 : Int32) (v2 : Int32) (H0_0 : InR ids 0 0 5) (H1 : InR ids 1 6 28) (H2 : InR ids 2 6 28) (H3 : InR ids 3 6 28) (t0 : Sg) : Gj kI mX6_habit ids 0 [some (aR (0, 0)), some (aI v1), some (aI v2)] [] t0 (f_X6_habit v1 v2 t0) := by
  unfold f_X6_habit
  refine G_st (x_aload_n dX6_habit_0 rfl) ?_
  refine G_st (x_iload_n dX6_habit_1 rfl) ?_
  refine G_bd (fun x1 t2 h3 => ?_)
  refine G_st (x_callV [] (c_X6_isHabit ids Hn v1 H0_0 H1 H2 H3 _ _ _ h3) dX6_habit_2 tw_554 kc_X6_isHabit (H0_0 0 (Nat.le_of_ble_eq_true rfl) (Nat.le_of_ble_eq_true rfl)) rfl rfl rfl rfl ⟨Nat.le_of_ble_eq_true rfl, Nat.le_of_ble_eq_true rfl⟩ (Nat.le_of_ble_eq_true rfl) rfl) ?_
  refine G_ite (fun c4 => ?_) (fun c4 => ?_)
  · refine G_st (x_if_ne_f 14 dX6_habit_5 (by decide) c4) ?_
    refine G_st (x_aload_n dX6_habit_8 rfl) ?_
    refine G_st (x_iconst (-1 : Int32) dX6_habit_9 rfl) ?_
    refine G_bd (fun x5 t6 h7 => ?_)
    refine G_st (x_callV [] (c_X6_refuse ids Hn (-1 : Int32) H0_0 H1 H2 H3 _ _ _ h7) dX6_habit_10 tw_317 kc_X6_refuse (H0_0 0 (Nat.le_of_ble_eq_true rfl) (Nat.le_of_ble_eq_true rfl)) rfl rfl rfl rfl ⟨Nat.le_of_ble_eq_true rfl, Nat.le_of_ble_eq_true rfl⟩ (Nat.le_of_ble_eq_true rfl) rfl) ?_
    exact G_ret rfl ⟨dX6_habit_13, _, rfl, rfl⟩ rfl
  · refine G_st (x_if_ne_t (tgt := 14) dX6_habit_5 (by decide) c4) ?_
    refine G_st (x_iload_n dX6_habit_14 rfl) ?_
    refine G_ite (fun c8 => ?_) (fun c8 => ?_)
    · refine G_st (x_tabIn (tgt := 44) (0 : Int32) dX6_habit_15 c8 (by decide) (by decide) rfl (by decide)) ?_
      refine G_st (x_aload_n dX6_habit_44 rfl) ?_
      refine G_st (x_get (k := 0) (aR (1, 6)) dX6_habit_45 (H0_0 0 (Nat.le_of_ble_eq_true rfl) (Nat.le_of_ble_eq_true rfl)) rfl rfl rfl rfl inTX6 (Nat.le_of_ble_eq_true rfl) tw_285 (fun ad => rfl)) ?_
      refine G_st (x_get (k := 1) (aR (1, 15)) dX6_habit_48 (H1 6 (Nat.le_of_ble_eq_true rfl) (Nat.le_of_ble_eq_true rfl)) rfl rfl rfl rfl inTX2 (Nat.le_of_ble_eq_true rfl) tw_253 (fun ad => rfl)) ?_
      refine G_st (x_get (k := 1) (aR (1, 16)) dX6_habit_51 (H1 15 (Nat.le_of_ble_eq_true rfl) (Nat.le_of_ble_eq_true rfl)) rfl rfl rfl rfl inTX1 (Nat.le_of_ble_eq_true rfl) tw_176 (fun ad => rfl)) ?_
      refine G_st (x_iload_n dX6_habit_54 rfl) ?_
      refine G_bd (fun x9 t10 h11 => ?_)
      refine G_st (x_callS [] (c_X6_get ids Hn (1, 16) v1 (H1 16 (Nat.le_of_ble_eq_true rfl) (Nat.le_of_ble_eq_true rfl)) rfl _ _ _ h11) dX6_habit_55 tw_321 kc_X6_get rfl ⟨Nat.le_of_ble_eq_true rfl, Nat.le_of_ble_eq_true rfl⟩ (Nat.le_of_ble_eq_true rfl) rfl) ?_
      exact G_ret rfl ⟨dX6_habit_58, _, rfl, rfl⟩ rfl
    refine G_ite (fun c12 => ?_) (fun c12 => ?_)
    · refine G_st (x_tabIn (tgt := 59) (1 : Int32) dX6_habit_15 c12 (by decide) (by decide) rfl (by decide)) ?_
      refine G_st (x_aload_n dX6_habit_59 rfl) ?_
      refine G_st (x_get (k := 0) (aR (1, 6)) dX6_habit_60 (H0_0 0 (Nat.le_of_ble_eq_true rfl) (Nat.le_of_ble_eq_true rfl)) rfl rfl rfl rfl inTX6 (Nat.le_of_ble_eq_true rfl) tw_285 (fun ad => rfl)) ?_
      refine G_st (x_get (k := 1) (aR (1, 15)) dX6_habit_63 (H1 6 (Nat.le_of_ble_eq_true rfl) (Nat.le_of_ble_eq_true rfl)) rfl rfl rfl rfl inTX2 (Nat.le_of_ble_eq_true rfl) tw_253 (fun ad => rfl)) ?_
      refine G_st (x_get (k := 2) (aR (1, 17)) dX6_habit_66 (H1 15 (Nat.le_of_ble_eq_true rfl) (Nat.le_of_ble_eq_true rfl)) rfl rfl rfl rfl inTX1 (Nat.le_of_ble_eq_true rfl) tw_180 (fun ad => rfl)) ?_
      refine G_st (x_iload_n dX6_habit_69 rfl) ?_
      refine G_bd (fun x13 t14 h15 => ?_)
      refine G_st (x_callS [] (c_X6_get ids Hn (1, 17) v1 (H1 17 (Nat.le_of_ble_eq_true rfl) (Nat.le_of_ble_eq_true rfl)) rfl _ _ _ h15) dX6_habit_70 tw_321 kc_X6_get rfl ⟨Nat.le_of_ble_eq_true rfl, Nat.le_of_ble_eq_true rfl⟩ (Nat.le_of_ble_eq_true rfl) rfl) ?_
      exact G_ret rfl ⟨dX6_habit_73, _, rfl, rfl⟩ rfl
    refine G_ite (fun c16 => ?_) (fun c16 => ?_)
    · refine G_st (x_tabIn (tgt := 74) (2 : Int32) dX6_habit_15 c16 (by decide) (by decide) rfl (by decide)) ?_
      refine G_st (x_aload_n dX6_habit_74 rfl) ?_
      refine G_st (x_get (k := 0) (aR (1, 6)) dX6_habit_75 (H0_0 0 (Nat.le_of_ble_eq_true rfl) (Nat.le_of_ble_eq_true rfl)) rfl rfl rfl rfl inTX6 (Nat.le_of_ble_eq_true rfl) tw_285 (fun ad => rfl)) ?_
      refine G_st (x_get (k := 1) (aR (1, 15)) dX6_habit_78 (H1 6 (Nat.le_of_ble_eq_true rfl) (Nat.le_of_ble_eq_true rfl)) rfl rfl rfl rfl inTX2 (Nat.le_of_ble_eq_true rfl) tw_253 (fun ad => rfl)) ?_
      refine G_st (x_get (k := 3) (aR (1, 18)) dX6_habit_81 (H1 15 (Nat.le_of_ble_eq_true rfl) (Nat.le_of_ble_eq_true rfl)) rfl rfl rfl rfl inTX1 (Nat.le_of_ble_eq_true rfl) tw_183 (fun ad => rfl)) ?_
      refine G_st (x_iload_n dX6_habit_84 rfl) ?_
      refine G_bd (fun x17 t18 h19 => ?_)
      refine G_st (x_callS [] (c_X6_get ids Hn (1, 18) v1 (H1 18 (Nat.le_of_ble_eq_true rfl) (Nat.le_of_ble_eq_true rfl)) rfl _ _ _ h19) dX6_habit_85 tw_321 kc_X6_get rfl ⟨Nat.le_of_ble_eq_true rfl, Nat.le_of_ble_eq_true rfl⟩ (Nat.le_of_ble_eq_true rfl) rfl) ?_
      exact G_ret rfl ⟨dX6_habit_88, _, rfl, rfl⟩ rfl
    refine G_ite (fun c20 => ?_) (fun c20 => ?_)
    · refine G_st (x_tabIn (tgt := 89) (3 : Int32) dX6_habit_15 c20 (by decide) (by decide) rfl (by decide)) ?_
      refine G_st (x_aload_n dX6_habit_89 rfl) ?_
      refine G_st (x_get (k := 0) (aR (1, 6)) dX6_habit_90 (H0_0 0 (Nat.le_of_ble_eq_true rfl) (Nat.le_of_ble_eq_true rfl)) rfl rfl rfl rfl inTX6 (Nat.le_of_ble_eq_true rfl) tw_285 (fun ad => rfl)) ?_
      refine G_st (x_get (k := 1) (aR (1, 15)) dX6_habit_93 (H1 6 (Nat.le_of_ble_eq_true rfl) (Nat.le_of_ble_eq_true rfl)) rfl rfl rfl rfl inTX2 (Nat.le_of_ble_eq_true rfl) tw_253 (fun ad => rfl)) ?_
      refine G_st (x_get (k := 4) (aR (1, 19)) dX6_habit_96 (H1 15 (Nat.le_of_ble_eq_true rfl) (Nat.le_of_ble_eq_true rfl)) rfl rfl rfl rfl inTX1 (Nat.le_of_ble_eq_true rfl) tw_186 (fun ad => rfl)) ?_
      refine G_st (x_iload_n dX6_habit_99 rfl) ?_
      refine G_bd (fun x21 t22 h23 => ?_)
      refine G_st (x_callS [] (c_X6_get ids Hn (1, 19) v1 (H1 19 (Nat.le_of_ble_eq_true rfl) (Nat.le_of_ble_eq_true rfl)) rfl _ _ _ h23) dX6_habit_100 tw_321 kc_X6_get rfl ⟨Nat.le_of_ble_eq_true rfl, Nat.le_of_ble_eq_true rfl⟩ (Nat.le_of_ble_eq_true rfl) rfl) ?_
      exact G_ret rfl ⟨dX6_habit_103, _, rfl, rfl⟩ rfl
    refine G_st (x_tabOut (tgt := 104) dX6_habit_15 (by have c8q : ¬ (v2).toInt = (0 : Int) := lv_neT c8 rfl; have c12q : ¬ (v2).toInt = (1 : Int) := lv_neT c12 rfl; have c16q : ¬ (v2).toInt = (2 : Int) := lv_neT c16 rfl; have c20q : ¬ (v2).toInt = (3 : Int) := lv_neT c20 rfl; omega) (by decide)) ?_
    refine G_st (x_aload_n dX6_habit_104 rfl) ?_
    refine G_st (x_bipush (-2 : Int32) dX6_habit_105 rfl) ?_
    refine G_bd (fun x24 t25 h26 => ?_)
    refine G_st (x_callV [] (c_X6_refuse ids Hn (-2 : Int32) H0_0 H1 H2 H3 _ _ _ h26) dX6_habit_107 tw_317 kc_X6_refuse (H0_0 0 (Nat.le_of_ble_eq_true rfl) (Nat.le_of_ble_eq_true rfl)) rfl rfl rfl rfl ⟨Nat.le_of_ble_eq_true rfl, Nat.le_of_ble_eq_true rfl⟩ (Nat.le_of_ble_eq_true rfl) rfl) ?_
    exact G_ret rfl ⟨dX6_habit_110, _, rfl, rfl⟩ rfl
set_option maxRecDepth 100000 in
set_option maxHeartbeats 4000000 in
theorem c_X6_habit (ids : List (Nat × Nat)) (Hn : Ndp ids) (v1 : Int32) (v2 : Int32) (H0_0 : InR ids 0 0 5) (H1 : InR ids 1 6 28) (H2 : InR ids 2 6 28) (H3 : InR ids 3 6 28) (t0 : Sg) (r : Int32) (t1 : Sg) (hf : f_X6_habit v1 v2 t0 = some (r, t1)) : Mt0 mX6_habit yX6_habit ids [aR (0, 0), aI v1, aI v2] t0 (some (aI r)) t1 :=
  Mt_of (x := (r, t1)) (g_X6_habit ids Hn v1 v2 H0_0 H1 H2 H3 t0) hf (fun _ _ => trivial) (by decide) rfl Hn (fun _ => rfl) (fun _ => Nat.le_of_ble_eq_true rfl)
theorem dX6_count_0 : decode cX6_count 0 = .ok (.iload_n 1, 1) := by decide +kernel
theorem dX6_count_1 : decode cX6_count 1 = .ok (.bipush 11, 2) := by decide +kernel
theorem dX6_count_3 : decode cX6_count 3 = .ok (.bipush 16, 2) := by decide +kernel
theorem dX6_count_5 : decode cX6_count 5 = .ok (.invokestatic 77, 3) := by decide +kernel
theorem dX6_count_8 : decode cX6_count 8 = .ok (.ifCond .eq 15, 3) := by decide +kernel
theorem dX6_count_11 : decode cX6_count 11 = .ok (.aload_n 0, 1) := by decide +kernel
theorem dX6_count_12 : decode cX6_count 12 = .ok (.getfield 33, 3) := by decide +kernel
theorem dX6_count_15 : decode cX6_count 15 = .ok (.iload_n 1, 1) := by decide +kernel
theorem dX6_count_16 : decode cX6_count 16 = .ok (.bipush 10, 2) := by decide +kernel
theorem dX6_count_18 : decode cX6_count 18 = .ok (.isub, 1) := by decide +kernel
theorem dX6_count_19 : decode cX6_count 19 = .ok (.invokestatic 59, 3) := by decide +kernel
theorem dX6_count_22 : decode cX6_count 22 = .ok (.ireturn, 1) := by decide +kernel
theorem dX6_count_23 : decode cX6_count 23 = .ok (.iload_n 1, 1) := by decide +kernel
theorem dX6_count_24 : decode cX6_count 24 = .ok (.tableswitch 165 0 9 #[56, 67, 78, 89, 97, 110, 124, 138, 152, 160], 56) := by decide +kernel
theorem dX6_count_80 : decode cX6_count 80 = .ok (.aload_n 0, 1) := by decide +kernel
theorem dX6_count_81 : decode cX6_count 81 = .ok (.getfield 12, 3) := by decide +kernel
theorem dX6_count_84 : decode cX6_count 84 = .ok (.getfield 67, 3) := by decide +kernel
theorem dX6_count_87 : decode cX6_count 87 = .ok (.getfield 199, 3) := by decide +kernel
theorem dX6_count_90 : decode cX6_count 90 = .ok (.ireturn, 1) := by decide +kernel
theorem dX6_count_91 : decode cX6_count 91 = .ok (.aload_n 0, 1) := by decide +kernel
theorem dX6_count_92 : decode cX6_count 92 = .ok (.getfield 12, 3) := by decide +kernel
theorem dX6_count_95 : decode cX6_count 95 = .ok (.getfield 67, 3) := by decide +kernel
theorem dX6_count_98 : decode cX6_count 98 = .ok (.getfield 202, 3) := by decide +kernel
theorem dX6_count_101 : decode cX6_count 101 = .ok (.ireturn, 1) := by decide +kernel
theorem dX6_count_102 : decode cX6_count 102 = .ok (.aload_n 0, 1) := by decide +kernel
theorem dX6_count_103 : decode cX6_count 103 = .ok (.getfield 12, 3) := by decide +kernel
theorem dX6_count_106 : decode cX6_count 106 = .ok (.getfield 81, 3) := by decide +kernel
theorem dX6_count_109 : decode cX6_count 109 = .ok (.getfield 85, 3) := by decide +kernel
theorem dX6_count_112 : decode cX6_count 112 = .ok (.ireturn, 1) := by decide +kernel
theorem dX6_count_113 : decode cX6_count 113 = .ok (.aload_n 0, 1) := by decide +kernel
theorem dX6_count_114 : decode cX6_count 114 = .ok (.getfield 12, 3) := by decide +kernel
theorem dX6_count_117 : decode cX6_count 117 = .ok (.getfield 205, 3) := by decide +kernel
theorem dX6_count_120 : decode cX6_count 120 = .ok (.ireturn, 1) := by decide +kernel
theorem dX6_count_121 : decode cX6_count 121 = .ok (.aload_n 0, 1) := by decide +kernel
theorem dX6_count_122 : decode cX6_count 122 = .ok (.getfield 12, 3) := by decide +kernel
theorem dX6_count_125 : decode cX6_count 125 = .ok (.getfield 67, 3) := by decide +kernel
theorem dX6_count_128 : decode cX6_count 128 = .ok (.getfield 208, 3) := by decide +kernel
theorem dX6_count_131 : decode cX6_count 131 = .ok (.iconst 1, 1) := by decide +kernel
theorem dX6_count_132 : decode cX6_count 132 = .ok (.iadd, 1) := by decide +kernel
theorem dX6_count_133 : decode cX6_count 133 = .ok (.ireturn, 1) := by decide +kernel
theorem dX6_count_134 : decode cX6_count 134 = .ok (.aload_n 0, 1) := by decide +kernel
theorem dX6_count_135 : decode cX6_count 135 = .ok (.getfield 12, 3) := by decide +kernel
theorem dX6_count_138 : decode cX6_count 138 = .ok (.getfield 67, 3) := by decide +kernel
theorem dX6_count_141 : decode cX6_count 141 = .ok (.getfield 153, 3) := by decide +kernel
theorem dX6_count_144 : decode cX6_count 144 = .ok (.invokestatic 211, 3) := by decide +kernel
theorem dX6_count_147 : decode cX6_count 147 = .ok (.ireturn, 1) := by decide +kernel
theorem dX6_count_148 : decode cX6_count 148 = .ok (.aload_n 0, 1) := by decide +kernel
theorem dX6_count_149 : decode cX6_count 149 = .ok (.getfield 12, 3) := by decide +kernel
theorem dX6_count_152 : decode cX6_count 152 = .ok (.getfield 103, 3) := by decide +kernel
theorem dX6_count_155 : decode cX6_count 155 = .ok (.getfield 175, 3) := by decide +kernel
theorem dX6_count_158 : decode cX6_count 158 = .ok (.invokestatic 211, 3) := by decide +kernel
theorem dX6_count_161 : decode cX6_count 161 = .ok (.ireturn, 1) := by decide +kernel
theorem dX6_count_162 : decode cX6_count 162 = .ok (.aload_n 0, 1) := by decide +kernel
theorem dX6_count_163 : decode cX6_count 163 = .ok (.getfield 12, 3) := by decide +kernel
theorem dX6_count_166 : decode cX6_count 166 = .ok (.getfield 103, 3) := by decide +kernel
theorem dX6_count_169 : decode cX6_count 169 = .ok (.getfield 181, 3) := by decide +kernel
theorem dX6_count_172 : decode cX6_count 172 = .ok (.invokestatic 211, 3) := by decide +kernel
theorem dX6_count_175 : decode cX6_count 175 = .ok (.ireturn, 1) := by decide +kernel
theorem dX6_count_176 : decode cX6_count 176 = .ok (.aload_n 0, 1) := by decide +kernel
theorem dX6_count_177 : decode cX6_count 177 = .ok (.getfield 25, 3) := by decide +kernel
theorem dX6_count_180 : decode cX6_count 180 = .ok (.getfield 133, 3) := by decide +kernel
theorem dX6_count_183 : decode cX6_count 183 = .ok (.ireturn, 1) := by decide +kernel
theorem dX6_count_184 : decode cX6_count 184 = .ok (.aload_n 0, 1) := by decide +kernel
theorem dX6_count_185 : decode cX6_count 185 = .ok (.getfield 39, 3) := by decide +kernel
theorem dX6_count_188 : decode cX6_count 188 = .ok (.ireturn, 1) := by decide +kernel
theorem dX6_count_189 : decode cX6_count 189 = .ok (.bipush (-9), 2) := by decide +kernel
theorem dX6_count_191 : decode cX6_count 191 = .ok (.ireturn, 1) := by decide +kernel
set_option maxRecDepth 100000 in
set_option maxHeartbeats 4000000 in
theorem g_X6_count (ids : List (Nat × Nat)) (Hn : Ndp ids) (v1 : Int32) (H0_0 : InR ids 0 0 5) (H1 : InR ids 1 6 28) (H2 : InR ids 2 6 28) (H3 : InR ids 3 6 28) (t0 : Sg) : Gj kI mX6_count ids 0 [some (aR (0, 0)), some (aI v1)] [] t0 (f_X6_count v1 t0) := by
  unfold f_X6_count
  refine G_st (x_iload_n dX6_count_0 rfl) ?_
  refine G_st (x_bipush (11 : Int32) dX6_count_1 rfl) ?_
  refine G_st (x_bipush (16 : Int32) dX6_count_3 rfl) ?_
  refine G_bd (fun x1 t2 h3 => ?_)
  refine G_st (x_callS [] (c_X6_within ids Hn v1 (11 : Int32) (16 : Int32)  _ _ _ h3) dX6_count_5 tw_431 kc_X6_within rfl ⟨Nat.le_of_ble_eq_true rfl, Nat.le_of_ble_eq_true rfl⟩ (Nat.le_of_ble_eq_true rfl) rfl) ?_
  refine G_ite (fun c4 => ?_) (fun c4 => ?_)
  · refine G_st (x_if_eq_t (tgt := 23) dX6_count_8 (by decide) c4) ?_
    refine G_st (x_iload_n dX6_count_23 rfl) ?_
    refine G_ite (fun c5 => ?_) (fun c5 => ?_)
    · refine G_st (x_tabIn (tgt := 80) (0 : Int32) dX6_count_24 c5 (by decide) (by decide) rfl (by decide)) ?_
      refine G_st (x_aload_n dX6_count_80 rfl) ?_
      refine G_st (x_get (k := 0) (aR (1, 6)) dX6_count_81 (H0_0 0 (Nat.le_of_ble_eq_true rfl) (Nat.le_of_ble_eq_true rfl)) rfl rfl rfl rfl inTX6 (Nat.le_of_ble_eq_true rfl) tw_285 (fun ad => rfl)) ?_
      refine G_st (x_get (k := 0) (aR (1, 7)) dX6_count_84 (H1 6 (Nat.le_of_ble_eq_true rfl) (Nat.le_of_ble_eq_true rfl)) rfl rfl rfl rfl inTX2 (Nat.le_of_ble_eq_true rfl) tw_250 (fun ad => rfl)) ?_
      refine G_st (x_get (k := 0) (aI (t2 (1, 7) 0)) dX6_count_87 (H1 7 (Nat.le_of_ble_eq_true rfl) (Nat.le_of_ble_eq_true rfl)) rfl rfl rfl rfl inTX0 (Nat.le_of_ble_eq_true rfl) tw_111 (fun ad => rfl)) ?_
      exact G_ret rfl ⟨dX6_count_90, _, rfl, rfl⟩ rfl
    refine G_ite (fun c6 => ?_) (fun c6 => ?_)
    · refine G_st (x_tabIn (tgt := 91) (1 : Int32) dX6_count_24 c6 (by decide) (by decide) rfl (by decide)) ?_
      refine G_st (x_aload_n dX6_count_91 rfl) ?_
      refine G_st (x_get (k := 0) (aR (1, 6)) dX6_count_92 (H0_0 0 (Nat.le_of_ble_eq_true rfl) (Nat.le_of_ble_eq_true rfl)) rfl rfl rfl rfl inTX6 (Nat.le_of_ble_eq_true rfl) tw_285 (fun ad => rfl)) ?_
      refine G_st (x_get (k := 0) (aR (1, 7)) dX6_count_95 (H1 6 (Nat.le_of_ble_eq_true rfl) (Nat.le_of_ble_eq_true rfl)) rfl rfl rfl rfl inTX2 (Nat.le_of_ble_eq_true rfl) tw_250 (fun ad => rfl)) ?_
      refine G_st (x_get (k := 1) (aI (t2 (1, 7) 1)) dX6_count_98 (H1 7 (Nat.le_of_ble_eq_true rfl) (Nat.le_of_ble_eq_true rfl)) rfl rfl rfl rfl inTX0 (Nat.le_of_ble_eq_true rfl) tw_113 (fun ad => rfl)) ?_
      exact G_ret rfl ⟨dX6_count_101, _, rfl, rfl⟩ rfl
    refine G_ite (fun c7 => ?_) (fun c7 => ?_)
    · refine G_st (x_tabIn (tgt := 102) (2 : Int32) dX6_count_24 c7 (by decide) (by decide) rfl (by decide)) ?_
      refine G_st (x_aload_n dX6_count_102 rfl) ?_
      refine G_st (x_get (k := 0) (aR (1, 6)) dX6_count_103 (H0_0 0 (Nat.le_of_ble_eq_true rfl) (Nat.le_of_ble_eq_true rfl)) rfl rfl rfl rfl inTX6 (Nat.le_of_ble_eq_true rfl) tw_285 (fun ad => rfl)) ?_
      refine G_st (x_get (k := 1) (aR (1, 15)) dX6_count_106 (H1 6 (Nat.le_of_ble_eq_true rfl) (Nat.le_of_ble_eq_true rfl)) rfl rfl rfl rfl inTX2 (Nat.le_of_ble_eq_true rfl) tw_253 (fun ad => rfl)) ?_
      refine G_st (x_get (k := 0) (aI (t2 (1, 15) 0)) dX6_count_109 (H1 15 (Nat.le_of_ble_eq_true rfl) (Nat.le_of_ble_eq_true rfl)) rfl rfl rfl rfl inTX1 (Nat.le_of_ble_eq_true rfl) tw_171 (fun ad => rfl)) ?_
      exact G_ret rfl ⟨dX6_count_112, _, rfl, rfl⟩ rfl
    refine G_ite (fun c8 => ?_) (fun c8 => ?_)
    · refine G_st (x_tabIn (tgt := 113) (3 : Int32) dX6_count_24 c8 (by decide) (by decide) rfl (by decide)) ?_
      refine G_st (x_aload_n dX6_count_113 rfl) ?_
      refine G_st (x_get (k := 0) (aR (1, 6)) dX6_count_114 (H0_0 0 (Nat.le_of_ble_eq_true rfl) (Nat.le_of_ble_eq_true rfl)) rfl rfl rfl rfl inTX6 (Nat.le_of_ble_eq_true rfl) tw_285 (fun ad => rfl)) ?_
      refine G_st (x_get (k := 4) (aI (t2 (1, 6) 4)) dX6_count_117 (H1 6 (Nat.le_of_ble_eq_true rfl) (Nat.le_of_ble_eq_true rfl)) rfl rfl rfl rfl inTX2 (Nat.le_of_ble_eq_true rfl) tw_259 (fun ad => rfl)) ?_
      exact G_ret rfl ⟨dX6_count_120, _, rfl, rfl⟩ rfl
    refine G_ite (fun c9 => ?_) (fun c9 => ?_)
    · refine G_st (x_tabIn (tgt := 121) (4 : Int32) dX6_count_24 c9 (by decide) (by decide) rfl (by decide)) ?_
      refine G_st (x_aload_n dX6_count_121 rfl) ?_
      refine G_st (x_get (k := 0) (aR (1, 6)) dX6_count_122 (H0_0 0 (Nat.le_of_ble_eq_true rfl) (Nat.le_of_ble_eq_true rfl)) rfl rfl rfl rfl inTX6 (Nat.le_of_ble_eq_true rfl) tw_285 (fun ad => rfl)) ?_
      refine G_st (x_get (k := 0) (aR (1, 7)) dX6_count_125 (H1 6 (Nat.le_of_ble_eq_true rfl) (Nat.le_of_ble_eq_true rfl)) rfl rfl rfl rfl inTX2 (Nat.le_of_ble_eq_true rfl) tw_250 (fun ad => rfl)) ?_
      refine G_st (x_get (k := 2) (aI (t2 (1, 7) 2)) dX6_count_128 (H1 7 (Nat.le_of_ble_eq_true rfl) (Nat.le_of_ble_eq_true rfl)) rfl rfl rfl rfl inTX0 (Nat.le_of_ble_eq_true rfl) tw_117 (fun ad => rfl)) ?_
      refine G_st (x_iconst (1 : Int32) dX6_count_131 rfl) ?_
      refine G_st (x_iadd dX6_count_132) ?_
      exact G_ret rfl ⟨dX6_count_133, _, rfl, rfl⟩ rfl
    refine G_ite (fun c10 => ?_) (fun c10 => ?_)
    · refine G_st (x_tabIn (tgt := 134) (5 : Int32) dX6_count_24 c10 (by decide) (by decide) rfl (by decide)) ?_
      refine G_st (x_aload_n dX6_count_134 rfl) ?_
      refine G_st (x_get (k := 0) (aR (1, 6)) dX6_count_135 (H0_0 0 (Nat.le_of_ble_eq_true rfl) (Nat.le_of_ble_eq_true rfl)) rfl rfl rfl rfl inTX6 (Nat.le_of_ble_eq_true rfl) tw_285 (fun ad => rfl)) ?_
      refine G_st (x_get (k := 0) (aR (1, 7)) dX6_count_138 (H1 6 (Nat.le_of_ble_eq_true rfl) (Nat.le_of_ble_eq_true rfl)) rfl rfl rfl rfl inTX2 (Nat.le_of_ble_eq_true rfl) tw_250 (fun ad => rfl)) ?_
      refine G_st (x_get (k := 4) (aR (1, 9)) dX6_count_141 (H1 7 (Nat.le_of_ble_eq_true rfl) (Nat.le_of_ble_eq_true rfl)) rfl rfl rfl rfl inTX0 (Nat.le_of_ble_eq_true rfl) tw_124 (fun ad => rfl)) ?_
      refine G_bd (fun x11 t12 h13 => ?_)
      refine G_st (x_callS [] (c_X6_sum ids Hn (1, 9) (H1 9 (Nat.le_of_ble_eq_true rfl) (Nat.le_of_ble_eq_true rfl)) rfl _ _ _ h13) dX6_count_144 tw_562 kc_X6_sum rfl ⟨Nat.le_of_ble_eq_true rfl, Nat.le_of_ble_eq_true rfl⟩ (Nat.le_of_ble_eq_true rfl) rfl) ?_
      exact G_ret rfl ⟨dX6_count_147, _, rfl, rfl⟩ rfl
    refine G_ite (fun c14 => ?_) (fun c14 => ?_)
    · refine G_st (x_tabIn (tgt := 148) (6 : Int32) dX6_count_24 c14 (by decide) (by decide) rfl (by decide)) ?_
      refine G_st (x_aload_n dX6_count_148 rfl) ?_
      refine G_st (x_get (k := 0) (aR (1, 6)) dX6_count_149 (H0_0 0 (Nat.le_of_ble_eq_true rfl) (Nat.le_of_ble_eq_true rfl)) rfl rfl rfl rfl inTX6 (Nat.le_of_ble_eq_true rfl) tw_285 (fun ad => rfl)) ?_
      refine G_st (x_get (k := 2) (aR (1, 20)) dX6_count_152 (H1 6 (Nat.le_of_ble_eq_true rfl) (Nat.le_of_ble_eq_true rfl)) rfl rfl rfl rfl inTX2 (Nat.le_of_ble_eq_true rfl) tw_256 (fun ad => rfl)) ?_
      refine G_st (x_get (k := 0) (aR (1, 21)) dX6_count_155 (H1 20 (Nat.le_of_ble_eq_true rfl) (Nat.le_of_ble_eq_true rfl)) rfl rfl rfl rfl inTX3 (Nat.le_of_ble_eq_true rfl) tw_205 (fun ad => rfl)) ?_
      refine G_bd (fun x15 t16 h17 => ?_)
      refine G_st (x_callS [] (c_X6_sum ids Hn (1, 21) (H1 21 (Nat.le_of_ble_eq_true rfl) (Nat.le_of_ble_eq_true rfl)) rfl _ _ _ h17) dX6_count_158 tw_562 kc_X6_sum rfl ⟨Nat.le_of_ble_eq_true rfl, Nat.le_of_ble_eq_true rfl⟩ (Nat.le_of_ble_eq_true rfl) rfl) ?_
      exact G_ret rfl ⟨dX6_count_161, _, rfl, rfl⟩ rfl
    refine G_ite (fun c18 => ?_) (fun c18 => ?_)
    · refine G_st (x_tabIn (tgt := 162) (7 : Int32) dX6_count_24 c18 (by decide) (by decide) rfl (by decide)) ?_
      refine G_st (x_aload_n dX6_count_162 rfl) ?_
      refine G_st (x_get (k := 0) (aR (1, 6)) dX6_count_163 (H0_0 0 (Nat.le_of_ble_eq_true rfl) (Nat.le_of_ble_eq_true rfl)) rfl rfl rfl rfl inTX6 (Nat.le_of_ble_eq_true rfl) tw_285 (fun ad => rfl)) ?_
      refine G_st (x_get (k := 2) (aR (1, 20)) dX6_count_166 (H1 6 (Nat.le_of_ble_eq_true rfl) (Nat.le_of_ble_eq_true rfl)) rfl rfl rfl rfl inTX2 (Nat.le_of_ble_eq_true rfl) tw_256 (fun ad => rfl)) ?_
      refine G_st (x_get (k := 1) (aR (1, 22)) dX6_count_169 (H1 20 (Nat.le_of_ble_eq_true rfl) (Nat.le_of_ble_eq_true rfl)) rfl rfl rfl rfl inTX3 (Nat.le_of_ble_eq_true rfl) tw_207 (fun ad => rfl)) ?_
      refine G_bd (fun x19 t20 h21 => ?_)
      refine G_st (x_callS [] (c_X6_sum ids Hn (1, 22) (H1 22 (Nat.le_of_ble_eq_true rfl) (Nat.le_of_ble_eq_true rfl)) rfl _ _ _ h21) dX6_count_172 tw_562 kc_X6_sum rfl ⟨Nat.le_of_ble_eq_true rfl, Nat.le_of_ble_eq_true rfl⟩ (Nat.le_of_ble_eq_true rfl) rfl) ?_
      exact G_ret rfl ⟨dX6_count_175, _, rfl, rfl⟩ rfl
    refine G_ite (fun c22 => ?_) (fun c22 => ?_)
    · refine G_st (x_tabIn (tgt := 176) (8 : Int32) dX6_count_24 c22 (by decide) (by decide) rfl (by decide)) ?_
      refine G_st (x_aload_n dX6_count_176 rfl) ?_
      refine G_st (x_get (k := 3) (aR (0, 4)) dX6_count_177 (H0_0 0 (Nat.le_of_ble_eq_true rfl) (Nat.le_of_ble_eq_true rfl)) rfl rfl rfl rfl inTX6 (Nat.le_of_ble_eq_true rfl) tw_288 (fun ad => rfl)) ?_
      refine G_st (x_get (k := 1) (aI (t2 (0, 4) 1)) dX6_count_180 (H0_0 4 (Nat.le_of_ble_eq_true rfl) (Nat.le_of_ble_eq_true rfl)) rfl rfl rfl rfl inTX4 (Nat.le_of_ble_eq_true rfl) tw_279 (fun ad => rfl)) ?_
      exact G_ret rfl ⟨dX6_count_183, _, rfl, rfl⟩ rfl
    refine G_ite (fun c23 => ?_) (fun c23 => ?_)
    · refine G_st (x_tabIn (tgt := 184) (9 : Int32) dX6_count_24 c23 (by decide) (by decide) rfl (by decide)) ?_
      refine G_st (x_aload_n dX6_count_184 rfl) ?_
      refine G_st (x_get (k := 7) (aI (t2 (0, 0) 7)) dX6_count_185 (H0_0 0 (Nat.le_of_ble_eq_true rfl) (Nat.le_of_ble_eq_true rfl)) rfl rfl rfl rfl inTX6 (Nat.le_of_ble_eq_true rfl) tw_292 (fun ad => rfl)) ?_
      exact G_ret rfl ⟨dX6_count_188, _, rfl, rfl⟩ rfl
    refine G_st (x_tabOut (tgt := 189) dX6_count_24 (by have c5q : ¬ (v1).toInt = (0 : Int) := lv_neT c5 rfl; have c6q : ¬ (v1).toInt = (1 : Int) := lv_neT c6 rfl; have c7q : ¬ (v1).toInt = (2 : Int) := lv_neT c7 rfl; have c8q : ¬ (v1).toInt = (3 : Int) := lv_neT c8 rfl; have c9q : ¬ (v1).toInt = (4 : Int) := lv_neT c9 rfl; have c10q : ¬ (v1).toInt = (5 : Int) := lv_neT c10 rfl; have c14q : ¬ (v1).toInt = (6 : Int) := lv_neT c14 rfl; have c18q : ¬ (v1).toInt = (7 : Int) := lv_neT c18 rfl; have c22q : ¬ (v1).toInt = (8 : Int) := lv_neT c22 rfl; have c23q : ¬ (v1).toInt = (9 : Int) := lv_neT c23 rfl; omega) (by decide)) ?_
    refine G_st (x_bipush (-9 : Int32) dX6_count_189 rfl) ?_
    exact G_ret rfl ⟨dX6_count_191, _, rfl, rfl⟩ rfl
  · refine G_st (x_if_eq_f 23 dX6_count_8 (by decide) c4) ?_
    refine G_st (x_aload_n dX6_count_11 rfl) ?_
    refine G_st (x_get (k := 5) (aR (0, 2)) dX6_count_12 (H0_0 0 (Nat.le_of_ble_eq_true rfl) (Nat.le_of_ble_eq_true rfl)) rfl rfl rfl rfl inTX6 (Nat.le_of_ble_eq_true rfl) tw_290 (fun ad => rfl)) ?_
    refine G_st (x_iload_n dX6_count_15 rfl) ?_
    refine G_st (x_bipush (10 : Int32) dX6_count_16 rfl) ?_
    refine G_st (x_isub dX6_count_18) ?_
    refine G_bd (fun x24 t25 h26 => ?_)
    refine G_st (x_callS [] (c_X6_get ids Hn (0, 2) (v1 - (10 : Int32)) (H0_0 2 (Nat.le_of_ble_eq_true rfl) (Nat.le_of_ble_eq_true rfl)) rfl _ _ _ h26) dX6_count_19 tw_321 kc_X6_get rfl ⟨Nat.le_of_ble_eq_true rfl, Nat.le_of_ble_eq_true rfl⟩ (Nat.le_of_ble_eq_true rfl) rfl) ?_
    exact G_ret rfl ⟨dX6_count_22, _, rfl, rfl⟩ rfl
set_option maxRecDepth 100000 in
set_option maxHeartbeats 4000000 in
theorem c_X6_count (ids : List (Nat × Nat)) (Hn : Ndp ids) (v1 : Int32) (H0_0 : InR ids 0 0 5) (H1 : InR ids 1 6 28) (H2 : InR ids 2 6 28) (H3 : InR ids 3 6 28) (t0 : Sg) (r : Int32) (t1 : Sg) (hf : f_X6_count v1 t0 = some (r, t1)) : Mt0 mX6_count yX6_count ids [aR (0, 0), aI v1] t0 (some (aI r)) t1 :=
  Mt_of (x := (r, t1)) (g_X6_count ids Hn v1 H0_0 H1 H2 H3 t0) hf (fun _ _ => trivial) (by decide) rfl Hn (fun _ => rfl) (fun _ => Nat.le_of_ble_eq_true rfl)
theorem dX6_put_0 : decode cX6_put 0 = .ok (.aload_n 0, 1) := by decide +kernel
theorem dX6_put_1 : decode cX6_put 1 = .ok (.iload_n 1, 1) := by decide +kernel
theorem dX6_put_2 : decode cX6_put 2 = .ok (.invokevirtual 187, 3) := by decide +kernel
theorem dX6_put_5 : decode cX6_put 5 = .ok (.ifCond .ne 9, 3) := by decide +kernel
theorem dX6_put_8 : decode cX6_put 8 = .ok (.aload_n 0, 1) := by decide +kernel
theorem dX6_put_9 : decode cX6_put 9 = .ok (.iconst (-1), 1) := by decide +kernel
theorem dX6_put_10 : decode cX6_put 10 = .ok (.invokevirtual 130, 3) := by decide +kernel
theorem dX6_put_13 : decode cX6_put 13 = .ok (.ireturn, 1) := by decide +kernel
theorem dX6_put_14 : decode cX6_put 14 = .ok (.iload_n 2, 1) := by decide +kernel
theorem dX6_put_15 : decode cX6_put 15 = .ok (.invokestatic 215, 3) := by decide +kernel
theorem dX6_put_18 : decode cX6_put 18 = .ok (.ifCond .ne 10, 3) := by decide +kernel
theorem dX6_put_21 : decode cX6_put 21 = .ok (.aload_n 0, 1) := by decide +kernel
theorem dX6_put_22 : decode cX6_put 22 = .ok (.bipush (-2), 2) := by decide +kernel
theorem dX6_put_24 : decode cX6_put 24 = .ok (.invokevirtual 130, 3) := by decide +kernel
theorem dX6_put_27 : decode cX6_put 27 = .ok (.ireturn, 1) := by decide +kernel
theorem dX6_put_28 : decode cX6_put 28 = .ok (.aload_n 0, 1) := by decide +kernel
theorem dX6_put_29 : decode cX6_put 29 = .ok (.getfield 12, 3) := by decide +kernel
theorem dX6_put_32 : decode cX6_put 32 = .ok (.getfield 81, 3) := by decide +kernel
theorem dX6_put_35 : decode cX6_put 35 = .ok (.getfield 116, 3) := by decide +kernel
theorem dX6_put_38 : decode cX6_put 38 = .ok (.iload_n 1, 1) := by decide +kernel
theorem dX6_put_39 : decode cX6_put 39 = .ok (.invokestatic 59, 3) := by decide +kernel
theorem dX6_put_42 : decode cX6_put 42 = .ok (.istore_n 3, 1) := by decide +kernel
theorem dX6_put_43 : decode cX6_put 43 = .ok (.aload_n 0, 1) := by decide +kernel
theorem dX6_put_44 : decode cX6_put 44 = .ok (.getfield 12, 3) := by decide +kernel
theorem dX6_put_47 : decode cX6_put 47 = .ok (.getfield 81, 3) := by decide +kernel
theorem dX6_put_50 : decode cX6_put 50 = .ok (.getfield 116, 3) := by decide +kernel
theorem dX6_put_53 : decode cX6_put 53 = .ok (.iload_n 1, 1) := by decide +kernel
theorem dX6_put_54 : decode cX6_put 54 = .ok (.iload_n 2, 1) := by decide +kernel
theorem dX6_put_55 : decode cX6_put 55 = .ok (.invokestatic 63, 3) := by decide +kernel
theorem dX6_put_58 : decode cX6_put 58 = .ok (.iload_n 3, 1) := by decide +kernel
theorem dX6_put_59 : decode cX6_put 59 = .ok (.ireturn, 1) := by decide +kernel
set_option maxRecDepth 100000 in
set_option maxHeartbeats 4000000 in
theorem g_X6_put (ids : List (Nat × Nat)) (Hn : Ndp ids) (v1 : Int32) (v2 : Int32) (H0_0 : InR ids 0 0 5) (H1 : InR ids 1 6 28) (H2 : InR ids 2 6 28) (H3 : InR ids 3 6 28) (t0 : Sg) : Gj kI mX6_put ids 0 [some (aR (0, 0)), some (aI v1), some (aI v2), none] [] t0 (f_X6_put v1 v2 t0) := by
  unfold f_X6_put
  refine G_st (x_aload_n dX6_put_0 rfl) ?_
  refine G_st (x_iload_n dX6_put_1 rfl) ?_
  refine G_bd (fun x1 t2 h3 => ?_)
  refine G_st (x_callV [] (c_X6_isHabit ids Hn v1 H0_0 H1 H2 H3 _ _ _ h3) dX6_put_2 tw_554 kc_X6_isHabit (H0_0 0 (Nat.le_of_ble_eq_true rfl) (Nat.le_of_ble_eq_true rfl)) rfl rfl rfl rfl ⟨Nat.le_of_ble_eq_true rfl, Nat.le_of_ble_eq_true rfl⟩ (Nat.le_of_ble_eq_true rfl) rfl) ?_
  refine G_ite (fun c4 => ?_) (fun c4 => ?_)
  · refine G_st (x_if_ne_f 14 dX6_put_5 (by decide) c4) ?_
    refine G_st (x_aload_n dX6_put_8 rfl) ?_
    refine G_st (x_iconst (-1 : Int32) dX6_put_9 rfl) ?_
    refine G_bd (fun x5 t6 h7 => ?_)
    refine G_st (x_callV [] (c_X6_refuse ids Hn (-1 : Int32) H0_0 H1 H2 H3 _ _ _ h7) dX6_put_10 tw_317 kc_X6_refuse (H0_0 0 (Nat.le_of_ble_eq_true rfl) (Nat.le_of_ble_eq_true rfl)) rfl rfl rfl rfl ⟨Nat.le_of_ble_eq_true rfl, Nat.le_of_ble_eq_true rfl⟩ (Nat.le_of_ble_eq_true rfl) rfl) ?_
    exact G_ret rfl ⟨dX6_put_13, _, rfl, rfl⟩ rfl
  · refine G_st (x_if_ne_t (tgt := 14) dX6_put_5 (by decide) c4) ?_
    refine G_st (x_iload_n dX6_put_14 rfl) ?_
    refine G_bd (fun x8 t9 h10 => ?_)
    refine G_st (x_callS [] (c_X6_isHour ids Hn v2  _ _ _ h10) dX6_put_15 tw_569 kc_X6_isHour rfl ⟨Nat.le_of_ble_eq_true rfl, Nat.le_of_ble_eq_true rfl⟩ (Nat.le_of_ble_eq_true rfl) rfl) ?_
    refine G_ite (fun c11 => ?_) (fun c11 => ?_)
    · refine G_st (x_if_ne_f 28 dX6_put_18 (by decide) c11) ?_
      refine G_st (x_aload_n dX6_put_21 rfl) ?_
      refine G_st (x_bipush (-2 : Int32) dX6_put_22 rfl) ?_
      refine G_bd (fun x12 t13 h14 => ?_)
      refine G_st (x_callV [] (c_X6_refuse ids Hn (-2 : Int32) H0_0 H1 H2 H3 _ _ _ h14) dX6_put_24 tw_317 kc_X6_refuse (H0_0 0 (Nat.le_of_ble_eq_true rfl) (Nat.le_of_ble_eq_true rfl)) rfl rfl rfl rfl ⟨Nat.le_of_ble_eq_true rfl, Nat.le_of_ble_eq_true rfl⟩ (Nat.le_of_ble_eq_true rfl) rfl) ?_
      exact G_ret rfl ⟨dX6_put_27, _, rfl, rfl⟩ rfl
    · refine G_st (x_if_ne_t (tgt := 28) dX6_put_18 (by decide) c11) ?_
      refine G_st (x_aload_n dX6_put_28 rfl) ?_
      refine G_st (x_get (k := 0) (aR (1, 6)) dX6_put_29 (H0_0 0 (Nat.le_of_ble_eq_true rfl) (Nat.le_of_ble_eq_true rfl)) rfl rfl rfl rfl inTX6 (Nat.le_of_ble_eq_true rfl) tw_285 (fun ad => rfl)) ?_
      refine G_st (x_get (k := 1) (aR (1, 15)) dX6_put_32 (H1 6 (Nat.le_of_ble_eq_true rfl) (Nat.le_of_ble_eq_true rfl)) rfl rfl rfl rfl inTX2 (Nat.le_of_ble_eq_true rfl) tw_253 (fun ad => rfl)) ?_
      refine G_st (x_get (k := 4) (aR (1, 19)) dX6_put_35 (H1 15 (Nat.le_of_ble_eq_true rfl) (Nat.le_of_ble_eq_true rfl)) rfl rfl rfl rfl inTX1 (Nat.le_of_ble_eq_true rfl) tw_186 (fun ad => rfl)) ?_
      refine G_st (x_iload_n dX6_put_38 rfl) ?_
      refine G_bd (fun x15 t16 h17 => ?_)
      refine G_st (x_callS [] (c_X6_get ids Hn (1, 19) v1 (H1 19 (Nat.le_of_ble_eq_true rfl) (Nat.le_of_ble_eq_true rfl)) rfl _ _ _ h17) dX6_put_39 tw_321 kc_X6_get rfl ⟨Nat.le_of_ble_eq_true rfl, Nat.le_of_ble_eq_true rfl⟩ (Nat.le_of_ble_eq_true rfl) rfl) ?_
      refine G_st (x_istore_n [some (aR (0, 0)), some (aI v1), some (aI v2), some (aI x15)] dX6_put_42 (Nat.le_of_ble_eq_true rfl) rfl rfl) ?_
      refine G_st (x_aload_n dX6_put_43 rfl) ?_
      refine G_st (x_get (k := 0) (aR (1, 6)) dX6_put_44 (H0_0 0 (Nat.le_of_ble_eq_true rfl) (Nat.le_of_ble_eq_true rfl)) rfl rfl rfl rfl inTX6 (Nat.le_of_ble_eq_true rfl) tw_285 (fun ad => rfl)) ?_
      refine G_st (x_get (k := 1) (aR (1, 15)) dX6_put_47 (H1 6 (Nat.le_of_ble_eq_true rfl) (Nat.le_of_ble_eq_true rfl)) rfl rfl rfl rfl inTX2 (Nat.le_of_ble_eq_true rfl) tw_253 (fun ad => rfl)) ?_
      refine G_st (x_get (k := 4) (aR (1, 19)) dX6_put_50 (H1 15 (Nat.le_of_ble_eq_true rfl) (Nat.le_of_ble_eq_true rfl)) rfl rfl rfl rfl inTX1 (Nat.le_of_ble_eq_true rfl) tw_186 (fun ad => rfl)) ?_
      refine G_st (x_iload_n dX6_put_53 rfl) ?_
      refine G_st (x_iload_n dX6_put_54 rfl) ?_
      refine G_bd (fun _ t19 h20 => ?_)
      refine G_st (x_callS [] (c_X6_set ids Hn (1, 19) v1 v2 (H1 19 (Nat.le_of_ble_eq_true rfl) (Nat.le_of_ble_eq_true rfl)) rfl _ _ _ h20) dX6_put_55 tw_324 kc_X6_set rfl ⟨Nat.le_of_ble_eq_true rfl, Nat.le_of_ble_eq_true rfl⟩ (Nat.le_of_ble_eq_true rfl) rfl) ?_
      refine G_st (x_iload_n dX6_put_58 rfl) ?_
      exact G_ret rfl ⟨dX6_put_59, _, rfl, rfl⟩ rfl
set_option maxRecDepth 100000 in
set_option maxHeartbeats 4000000 in
theorem c_X6_put (ids : List (Nat × Nat)) (Hn : Ndp ids) (v1 : Int32) (v2 : Int32) (H0_0 : InR ids 0 0 5) (H1 : InR ids 1 6 28) (H2 : InR ids 2 6 28) (H3 : InR ids 3 6 28) (t0 : Sg) (r : Int32) (t1 : Sg) (hf : f_X6_put v1 v2 t0 = some (r, t1)) : Mt0 mX6_put yX6_put ids [aR (0, 0), aI v1, aI v2] t0 (some (aI r)) t1 :=
  Mt_of (x := (r, t1)) (g_X6_put ids Hn v1 v2 H0_0 H1 H2 H3 t0) hf (fun _ _ => trivial) (by decide) rfl Hn (fun _ => rfl) (fun _ => Nat.le_of_ble_eq_true rfl)
theorem dX6_saucer_0 : decode cX6_saucer 0 = .ok (.aload_n 0, 1) := by decide +kernel
theorem dX6_saucer_1 : decode cX6_saucer 1 = .ok (.getfield 12, 3) := by decide +kernel
theorem dX6_saucer_4 : decode cX6_saucer 4 = .ok (.getfield 67, 3) := by decide +kernel
theorem dX6_saucer_7 : decode cX6_saucer 7 = .ok (.iload_n 1, 1) := by decide +kernel
theorem dX6_saucer_8 : decode cX6_saucer 8 = .ok (.invokevirtual 147, 3) := by decide +kernel
theorem dX6_saucer_11 : decode cX6_saucer 11 = .ok (.istore_n 3, 1) := by decide +kernel
theorem dX6_saucer_12 : decode cX6_saucer 12 = .ok (.iload_n 3, 1) := by decide +kernel
theorem dX6_saucer_13 : decode cX6_saucer 13 = .ok (.ifCond .ge 9, 3) := by decide +kernel
theorem dX6_saucer_16 : decode cX6_saucer 16 = .ok (.aload_n 0, 1) := by decide +kernel
theorem dX6_saucer_17 : decode cX6_saucer 17 = .ok (.iconst (-1), 1) := by decide +kernel
theorem dX6_saucer_18 : decode cX6_saucer 18 = .ok (.invokevirtual 130, 3) := by decide +kernel
theorem dX6_saucer_21 : decode cX6_saucer 21 = .ok (.ireturn, 1) := by decide +kernel
theorem dX6_saucer_22 : decode cX6_saucer 22 = .ok (.iload_n 2, 1) := by decide +kernel
theorem dX6_saucer_23 : decode cX6_saucer 23 = .ok (.ifCond .ge 10, 3) := by decide +kernel
theorem dX6_saucer_26 : decode cX6_saucer 26 = .ok (.aload_n 0, 1) := by decide +kernel
theorem dX6_saucer_27 : decode cX6_saucer 27 = .ok (.bipush (-4), 2) := by decide +kernel
theorem dX6_saucer_29 : decode cX6_saucer 29 = .ok (.invokevirtual 130, 3) := by decide +kernel
theorem dX6_saucer_32 : decode cX6_saucer 32 = .ok (.ireturn, 1) := by decide +kernel
theorem dX6_saucer_33 : decode cX6_saucer 33 = .ok (.iload_n 2, 1) := by decide +kernel
theorem dX6_saucer_34 : decode cX6_saucer 34 = .ok (.bipush 9, 2) := by decide +kernel
theorem dX6_saucer_36 : decode cX6_saucer 36 = .ok (.if_icmp .le 10, 3) := by decide +kernel
theorem dX6_saucer_39 : decode cX6_saucer 39 = .ok (.aload_n 0, 1) := by decide +kernel
theorem dX6_saucer_40 : decode cX6_saucer 40 = .ok (.bipush (-6), 2) := by decide +kernel
theorem dX6_saucer_42 : decode cX6_saucer 42 = .ok (.invokevirtual 130, 3) := by decide +kernel
theorem dX6_saucer_45 : decode cX6_saucer 45 = .ok (.ireturn, 1) := by decide +kernel
theorem dX6_saucer_46 : decode cX6_saucer 46 = .ok (.aload_n 0, 1) := by decide +kernel
theorem dX6_saucer_47 : decode cX6_saucer 47 = .ok (.getfield 12, 3) := by decide +kernel
theorem dX6_saucer_50 : decode cX6_saucer 50 = .ok (.getfield 67, 3) := by decide +kernel
theorem dX6_saucer_53 : decode cX6_saucer 53 = .ok (.getfield 150, 3) := by decide +kernel
theorem dX6_saucer_56 : decode cX6_saucer 56 = .ok (.iload_n 3, 1) := by decide +kernel
theorem dX6_saucer_57 : decode cX6_saucer 57 = .ok (.invokestatic 59, 3) := by decide +kernel
theorem dX6_saucer_60 : decode cX6_saucer 60 = .ok (.istore 4, 2) := by decide +kernel
theorem dX6_saucer_62 : decode cX6_saucer 62 = .ok (.aload_n 0, 1) := by decide +kernel
theorem dX6_saucer_63 : decode cX6_saucer 63 = .ok (.getfield 12, 3) := by decide +kernel
theorem dX6_saucer_66 : decode cX6_saucer 66 = .ok (.getfield 67, 3) := by decide +kernel
theorem dX6_saucer_69 : decode cX6_saucer 69 = .ok (.iload_n 3, 1) := by decide +kernel
theorem dX6_saucer_70 : decode cX6_saucer 70 = .ok (.iload_n 2, 1) := by decide +kernel
theorem dX6_saucer_71 : decode cX6_saucer 71 = .ok (.invokevirtual 218, 3) := by decide +kernel
theorem dX6_saucer_74 : decode cX6_saucer 74 = .ok (.iload 4, 2) := by decide +kernel
theorem dX6_saucer_76 : decode cX6_saucer 76 = .ok (.ireturn, 1) := by decide +kernel
set_option maxRecDepth 100000 in
set_option maxHeartbeats 4000000 in
theorem g_X6_saucer (ids : List (Nat × Nat)) (Hn : Ndp ids) (v1 : Int32) (v2 : Int32) (H0_0 : InR ids 0 0 5) (H1 : InR ids 1 6 28) (H2 : InR ids 2 6 28) (H3 : InR ids 3 6 28) (t0 : Sg) : Gj kI mX6_saucer ids 0 [some (aR (0, 0)), some (aI v1), some (aI v2), none, none] [] t0 (f_X6_saucer v1 v2 t0) := by
  unfold f_X6_saucer
  refine G_st (x_aload_n dX6_saucer_0 rfl) ?_
  refine G_st (x_get (k := 0) (aR (1, 6)) dX6_saucer_1 (H0_0 0 (Nat.le_of_ble_eq_true rfl) (Nat.le_of_ble_eq_true rfl)) rfl rfl rfl rfl inTX6 (Nat.le_of_ble_eq_true rfl) tw_285 (fun ad => rfl)) ?_
  refine G_st (x_get (k := 0) (aR (1, 7)) dX6_saucer_4 (H1 6 (Nat.le_of_ble_eq_true rfl) (Nat.le_of_ble_eq_true rfl)) rfl rfl rfl rfl inTX2 (Nat.le_of_ble_eq_true rfl) tw_250 (fun ad => rfl)) ?_
  refine G_st (x_iload_n dX6_saucer_7 rfl) ?_
  refine G_bd (fun x1 t2 h3 => ?_)
  refine G_st (x_callV [] (c_X0_placeOf ids Hn 1 v1 (H1.sub (Nat.le_of_ble_eq_true rfl) (Nat.le_of_ble_eq_true rfl)) _ _ _ h3) dX6_saucer_8 tw_521 kc_X0_placeOf (H1 7 (Nat.le_of_ble_eq_true rfl) (Nat.le_of_ble_eq_true rfl)) rfl rfl rfl rfl ⟨Nat.le_of_ble_eq_true rfl, Nat.le_of_ble_eq_true rfl⟩ (Nat.le_of_ble_eq_true rfl) rfl) ?_
  refine G_st (x_istore_n [some (aR (0, 0)), some (aI v1), some (aI v2), some (aI x1), none] dX6_saucer_11 (Nat.le_of_ble_eq_true rfl) rfl rfl) ?_
  refine G_st (x_iload_n dX6_saucer_12 rfl) ?_
  refine G_ite (fun c4 => ?_) (fun c4 => ?_)
  · refine G_st (x_if_ge_t (tgt := 22) dX6_saucer_13 (by decide) c4) ?_
    refine G_st (x_iload_n dX6_saucer_22 rfl) ?_
    refine G_ite (fun c5 => ?_) (fun c5 => ?_)
    · refine G_st (x_if_ge_t (tgt := 33) dX6_saucer_23 (by decide) c5) ?_
      refine G_st (x_iload_n dX6_saucer_33 rfl) ?_
      refine G_st (x_bipush (9 : Int32) dX6_saucer_34 rfl) ?_
      refine G_ite (fun c6 => ?_) (fun c6 => ?_)
      · refine G_st (x_icmp_le_t (tgt := 46) dX6_saucer_36 (by decide) c6) ?_
        refine G_st (x_aload_n dX6_saucer_46 rfl) ?_
        refine G_st (x_get (k := 0) (aR (1, 6)) dX6_saucer_47 (H0_0 0 (Nat.le_of_ble_eq_true rfl) (Nat.le_of_ble_eq_true rfl)) rfl rfl rfl rfl inTX6 (Nat.le_of_ble_eq_true rfl) tw_285 (fun ad => rfl)) ?_
        refine G_st (x_get (k := 0) (aR (1, 7)) dX6_saucer_50 (H1 6 (Nat.le_of_ble_eq_true rfl) (Nat.le_of_ble_eq_true rfl)) rfl rfl rfl rfl inTX2 (Nat.le_of_ble_eq_true rfl) tw_250 (fun ad => rfl)) ?_
        refine G_st (x_get (k := 3) (aR (1, 8)) dX6_saucer_53 (H1 7 (Nat.le_of_ble_eq_true rfl) (Nat.le_of_ble_eq_true rfl)) rfl rfl rfl rfl inTX0 (Nat.le_of_ble_eq_true rfl) tw_120 (fun ad => rfl)) ?_
        refine G_st (x_iload_n dX6_saucer_56 rfl) ?_
        refine G_bd (fun x7 t8 h9 => ?_)
        refine G_st (x_callS [] (c_X6_get ids Hn (1, 8) x1 (H1 8 (Nat.le_of_ble_eq_true rfl) (Nat.le_of_ble_eq_true rfl)) rfl _ _ _ h9) dX6_saucer_57 tw_321 kc_X6_get rfl ⟨Nat.le_of_ble_eq_true rfl, Nat.le_of_ble_eq_true rfl⟩ (Nat.le_of_ble_eq_true rfl) rfl) ?_
        refine G_st (x_istore [some (aR (0, 0)), some (aI v1), some (aI v2), some (aI x1), some (aI x7)] dX6_saucer_60 (Nat.le_of_ble_eq_true rfl) rfl rfl) ?_
        refine G_st (x_aload_n dX6_saucer_62 rfl) ?_
        refine G_st (x_get (k := 0) (aR (1, 6)) dX6_saucer_63 (H0_0 0 (Nat.le_of_ble_eq_true rfl) (Nat.le_of_ble_eq_true rfl)) rfl rfl rfl rfl inTX6 (Nat.le_of_ble_eq_true rfl) tw_285 (fun ad => rfl)) ?_
        refine G_st (x_get (k := 0) (aR (1, 7)) dX6_saucer_66 (H1 6 (Nat.le_of_ble_eq_true rfl) (Nat.le_of_ble_eq_true rfl)) rfl rfl rfl rfl inTX2 (Nat.le_of_ble_eq_true rfl) tw_250 (fun ad => rfl)) ?_
        refine G_st (x_iload_n dX6_saucer_69 rfl) ?_
        refine G_st (x_iload_n dX6_saucer_70 rfl) ?_
        refine G_bd (fun _ t11 h12 => ?_)
        refine G_st (x_callV [] (c_X0_setSaucer ids Hn 1 x1 v2 (H1.sub (Nat.le_of_ble_eq_true rfl) (Nat.le_of_ble_eq_true rfl)) _ _ _ h12) dX6_saucer_71 tw_574 kc_X0_setSaucer (H1 7 (Nat.le_of_ble_eq_true rfl) (Nat.le_of_ble_eq_true rfl)) rfl rfl rfl rfl ⟨Nat.le_of_ble_eq_true rfl, Nat.le_of_ble_eq_true rfl⟩ (Nat.le_of_ble_eq_true rfl) rfl) ?_
        refine G_st (x_iload dX6_saucer_74 rfl) ?_
        exact G_ret rfl ⟨dX6_saucer_76, _, rfl, rfl⟩ rfl
      · refine G_st (x_icmp_le_f 46 dX6_saucer_36 (by decide) c6) ?_
        refine G_st (x_aload_n dX6_saucer_39 rfl) ?_
        refine G_st (x_bipush (-6 : Int32) dX6_saucer_40 rfl) ?_
        refine G_bd (fun x13 t14 h15 => ?_)
        refine G_st (x_callV [] (c_X6_refuse ids Hn (-6 : Int32) H0_0 H1 H2 H3 _ _ _ h15) dX6_saucer_42 tw_317 kc_X6_refuse (H0_0 0 (Nat.le_of_ble_eq_true rfl) (Nat.le_of_ble_eq_true rfl)) rfl rfl rfl rfl ⟨Nat.le_of_ble_eq_true rfl, Nat.le_of_ble_eq_true rfl⟩ (Nat.le_of_ble_eq_true rfl) rfl) ?_
        exact G_ret rfl ⟨dX6_saucer_45, _, rfl, rfl⟩ rfl
    · refine G_st (x_if_ge_f 33 dX6_saucer_23 (by decide) c5) ?_
      refine G_st (x_aload_n dX6_saucer_26 rfl) ?_
      refine G_st (x_bipush (-4 : Int32) dX6_saucer_27 rfl) ?_
      refine G_bd (fun x16 t17 h18 => ?_)
      refine G_st (x_callV [] (c_X6_refuse ids Hn (-4 : Int32) H0_0 H1 H2 H3 _ _ _ h18) dX6_saucer_29 tw_317 kc_X6_refuse (H0_0 0 (Nat.le_of_ble_eq_true rfl) (Nat.le_of_ble_eq_true rfl)) rfl rfl rfl rfl ⟨Nat.le_of_ble_eq_true rfl, Nat.le_of_ble_eq_true rfl⟩ (Nat.le_of_ble_eq_true rfl) rfl) ?_
      exact G_ret rfl ⟨dX6_saucer_32, _, rfl, rfl⟩ rfl
  · refine G_st (x_if_ge_f 22 dX6_saucer_13 (by decide) c4) ?_
    refine G_st (x_aload_n dX6_saucer_16 rfl) ?_
    refine G_st (x_iconst (-1 : Int32) dX6_saucer_17 rfl) ?_
    refine G_bd (fun x19 t20 h21 => ?_)
    refine G_st (x_callV [] (c_X6_refuse ids Hn (-1 : Int32) H0_0 H1 H2 H3 _ _ _ h21) dX6_saucer_18 tw_317 kc_X6_refuse (H0_0 0 (Nat.le_of_ble_eq_true rfl) (Nat.le_of_ble_eq_true rfl)) rfl rfl rfl rfl ⟨Nat.le_of_ble_eq_true rfl, Nat.le_of_ble_eq_true rfl⟩ (Nat.le_of_ble_eq_true rfl) rfl) ?_
    exact G_ret rfl ⟨dX6_saucer_21, _, rfl, rfl⟩ rfl
set_option maxRecDepth 100000 in
set_option maxHeartbeats 4000000 in
theorem c_X6_saucer (ids : List (Nat × Nat)) (Hn : Ndp ids) (v1 : Int32) (v2 : Int32) (H0_0 : InR ids 0 0 5) (H1 : InR ids 1 6 28) (H2 : InR ids 2 6 28) (H3 : InR ids 3 6 28) (t0 : Sg) (r : Int32) (t1 : Sg) (hf : f_X6_saucer v1 v2 t0 = some (r, t1)) : Mt0 mX6_saucer yX6_saucer ids [aR (0, 0), aI v1, aI v2] t0 (some (aI r)) t1 :=
  Mt_of (x := (r, t1)) (g_X6_saucer ids Hn v1 v2 H0_0 H1 H2 H3 t0) hf (fun _ _ => trivial) (by decide) rfl Hn (fun _ => rfl) (fun _ => Nat.le_of_ble_eq_true rfl)
theorem dX6_awning_0 : decode cX6_awning 0 = .ok (.aload_n 0, 1) := by decide +kernel
theorem dX6_awning_1 : decode cX6_awning 1 = .ok (.getfield 12, 3) := by decide +kernel
theorem dX6_awning_4 : decode cX6_awning 4 = .ok (.getfield 67, 3) := by decide +kernel
theorem dX6_awning_7 : decode cX6_awning 7 = .ok (.iload_n 1, 1) := by decide +kernel
theorem dX6_awning_8 : decode cX6_awning 8 = .ok (.invokevirtual 147, 3) := by decide +kernel
theorem dX6_awning_11 : decode cX6_awning 11 = .ok (.istore_n 3, 1) := by decide +kernel
theorem dX6_awning_12 : decode cX6_awning 12 = .ok (.iload_n 3, 1) := by decide +kernel
theorem dX6_awning_13 : decode cX6_awning 13 = .ok (.ifCond .ge 9, 3) := by decide +kernel
theorem dX6_awning_16 : decode cX6_awning 16 = .ok (.aload_n 0, 1) := by decide +kernel
theorem dX6_awning_17 : decode cX6_awning 17 = .ok (.iconst (-1), 1) := by decide +kernel
theorem dX6_awning_18 : decode cX6_awning 18 = .ok (.invokevirtual 130, 3) := by decide +kernel
theorem dX6_awning_21 : decode cX6_awning 21 = .ok (.ireturn, 1) := by decide +kernel
theorem dX6_awning_22 : decode cX6_awning 22 = .ok (.iload_n 2, 1) := by decide +kernel
theorem dX6_awning_23 : decode cX6_awning 23 = .ok (.iconst (-1), 1) := by decide +kernel
theorem dX6_awning_24 : decode cX6_awning 24 = .ok (.if_icmp .ge 10, 3) := by decide +kernel
theorem dX6_awning_27 : decode cX6_awning 27 = .ok (.aload_n 0, 1) := by decide +kernel
theorem dX6_awning_28 : decode cX6_awning 28 = .ok (.bipush (-4), 2) := by decide +kernel
theorem dX6_awning_30 : decode cX6_awning 30 = .ok (.invokevirtual 130, 3) := by decide +kernel
theorem dX6_awning_33 : decode cX6_awning 33 = .ok (.ireturn, 1) := by decide +kernel
theorem dX6_awning_34 : decode cX6_awning 34 = .ok (.iload_n 2, 1) := by decide +kernel
theorem dX6_awning_35 : decode cX6_awning 35 = .ok (.iconst 1, 1) := by decide +kernel
theorem dX6_awning_36 : decode cX6_awning 36 = .ok (.if_icmp .le 10, 3) := by decide +kernel
theorem dX6_awning_39 : decode cX6_awning 39 = .ok (.aload_n 0, 1) := by decide +kernel
theorem dX6_awning_40 : decode cX6_awning 40 = .ok (.bipush (-6), 2) := by decide +kernel
theorem dX6_awning_42 : decode cX6_awning 42 = .ok (.invokevirtual 130, 3) := by decide +kernel
theorem dX6_awning_45 : decode cX6_awning 45 = .ok (.ireturn, 1) := by decide +kernel
theorem dX6_awning_46 : decode cX6_awning 46 = .ok (.aload_n 0, 1) := by decide +kernel
theorem dX6_awning_47 : decode cX6_awning 47 = .ok (.getfield 12, 3) := by decide +kernel
theorem dX6_awning_50 : decode cX6_awning 50 = .ok (.getfield 67, 3) := by decide +kernel
theorem dX6_awning_53 : decode cX6_awning 53 = .ok (.getfield 123, 3) := by decide +kernel
theorem dX6_awning_56 : decode cX6_awning 56 = .ok (.iload_n 3, 1) := by decide +kernel
theorem dX6_awning_57 : decode cX6_awning 57 = .ok (.invokestatic 59, 3) := by decide +kernel
theorem dX6_awning_60 : decode cX6_awning 60 = .ok (.istore 4, 2) := by decide +kernel
theorem dX6_awning_62 : decode cX6_awning 62 = .ok (.aload_n 0, 1) := by decide +kernel
theorem dX6_awning_63 : decode cX6_awning 63 = .ok (.getfield 12, 3) := by decide +kernel
theorem dX6_awning_66 : decode cX6_awning 66 = .ok (.getfield 67, 3) := by decide +kernel
theorem dX6_awning_69 : decode cX6_awning 69 = .ok (.getfield 123, 3) := by decide +kernel
theorem dX6_awning_72 : decode cX6_awning 72 = .ok (.iload_n 3, 1) := by decide +kernel
theorem dX6_awning_73 : decode cX6_awning 73 = .ok (.iload_n 2, 1) := by decide +kernel
theorem dX6_awning_74 : decode cX6_awning 74 = .ok (.invokestatic 63, 3) := by decide +kernel
theorem dX6_awning_77 : decode cX6_awning 77 = .ok (.iload 4, 2) := by decide +kernel
theorem dX6_awning_79 : decode cX6_awning 79 = .ok (.iconst 1, 1) := by decide +kernel
theorem dX6_awning_80 : decode cX6_awning 80 = .ok (.iadd, 1) := by decide +kernel
theorem dX6_awning_81 : decode cX6_awning 81 = .ok (.ireturn, 1) := by decide +kernel
set_option maxRecDepth 100000 in
set_option maxHeartbeats 4000000 in
theorem g_X6_awning (ids : List (Nat × Nat)) (Hn : Ndp ids) (v1 : Int32) (v2 : Int32) (H0_0 : InR ids 0 0 5) (H1 : InR ids 1 6 28) (H2 : InR ids 2 6 28) (H3 : InR ids 3 6 28) (t0 : Sg) : Gj kI mX6_awning ids 0 [some (aR (0, 0)), some (aI v1), some (aI v2), none, none] [] t0 (f_X6_awning v1 v2 t0) := by
  unfold f_X6_awning
  refine G_st (x_aload_n dX6_awning_0 rfl) ?_
  refine G_st (x_get (k := 0) (aR (1, 6)) dX6_awning_1 (H0_0 0 (Nat.le_of_ble_eq_true rfl) (Nat.le_of_ble_eq_true rfl)) rfl rfl rfl rfl inTX6 (Nat.le_of_ble_eq_true rfl) tw_285 (fun ad => rfl)) ?_
  refine G_st (x_get (k := 0) (aR (1, 7)) dX6_awning_4 (H1 6 (Nat.le_of_ble_eq_true rfl) (Nat.le_of_ble_eq_true rfl)) rfl rfl rfl rfl inTX2 (Nat.le_of_ble_eq_true rfl) tw_250 (fun ad => rfl)) ?_
  refine G_st (x_iload_n dX6_awning_7 rfl) ?_
  refine G_bd (fun x1 t2 h3 => ?_)
  refine G_st (x_callV [] (c_X0_placeOf ids Hn 1 v1 (H1.sub (Nat.le_of_ble_eq_true rfl) (Nat.le_of_ble_eq_true rfl)) _ _ _ h3) dX6_awning_8 tw_521 kc_X0_placeOf (H1 7 (Nat.le_of_ble_eq_true rfl) (Nat.le_of_ble_eq_true rfl)) rfl rfl rfl rfl ⟨Nat.le_of_ble_eq_true rfl, Nat.le_of_ble_eq_true rfl⟩ (Nat.le_of_ble_eq_true rfl) rfl) ?_
  refine G_st (x_istore_n [some (aR (0, 0)), some (aI v1), some (aI v2), some (aI x1), none] dX6_awning_11 (Nat.le_of_ble_eq_true rfl) rfl rfl) ?_
  refine G_st (x_iload_n dX6_awning_12 rfl) ?_
  refine G_ite (fun c4 => ?_) (fun c4 => ?_)
  · refine G_st (x_if_ge_t (tgt := 22) dX6_awning_13 (by decide) c4) ?_
    refine G_st (x_iload_n dX6_awning_22 rfl) ?_
    refine G_st (x_iconst (-1 : Int32) dX6_awning_23 rfl) ?_
    refine G_ite (fun c5 => ?_) (fun c5 => ?_)
    · refine G_st (x_icmp_ge_t (tgt := 34) dX6_awning_24 (by decide) c5) ?_
      refine G_st (x_iload_n dX6_awning_34 rfl) ?_
      refine G_st (x_iconst (1 : Int32) dX6_awning_35 rfl) ?_
      refine G_ite (fun c6 => ?_) (fun c6 => ?_)
      · refine G_st (x_icmp_le_t (tgt := 46) dX6_awning_36 (by decide) c6) ?_
        refine G_st (x_aload_n dX6_awning_46 rfl) ?_
        refine G_st (x_get (k := 0) (aR (1, 6)) dX6_awning_47 (H0_0 0 (Nat.le_of_ble_eq_true rfl) (Nat.le_of_ble_eq_true rfl)) rfl rfl rfl rfl inTX6 (Nat.le_of_ble_eq_true rfl) tw_285 (fun ad => rfl)) ?_
        refine G_st (x_get (k := 0) (aR (1, 7)) dX6_awning_50 (H1 6 (Nat.le_of_ble_eq_true rfl) (Nat.le_of_ble_eq_true rfl)) rfl rfl rfl rfl inTX2 (Nat.le_of_ble_eq_true rfl) tw_250 (fun ad => rfl)) ?_
        refine G_st (x_get (k := 5) (aR (1, 10)) dX6_awning_53 (H1 7 (Nat.le_of_ble_eq_true rfl) (Nat.le_of_ble_eq_true rfl)) rfl rfl rfl rfl inTX0 (Nat.le_of_ble_eq_true rfl) tw_128 (fun ad => rfl)) ?_
        refine G_st (x_iload_n dX6_awning_56 rfl) ?_
        refine G_bd (fun x7 t8 h9 => ?_)
        refine G_st (x_callS [] (c_X6_get ids Hn (1, 10) x1 (H1 10 (Nat.le_of_ble_eq_true rfl) (Nat.le_of_ble_eq_true rfl)) rfl _ _ _ h9) dX6_awning_57 tw_321 kc_X6_get rfl ⟨Nat.le_of_ble_eq_true rfl, Nat.le_of_ble_eq_true rfl⟩ (Nat.le_of_ble_eq_true rfl) rfl) ?_
        refine G_st (x_istore [some (aR (0, 0)), some (aI v1), some (aI v2), some (aI x1), some (aI x7)] dX6_awning_60 (Nat.le_of_ble_eq_true rfl) rfl rfl) ?_
        refine G_st (x_aload_n dX6_awning_62 rfl) ?_
        refine G_st (x_get (k := 0) (aR (1, 6)) dX6_awning_63 (H0_0 0 (Nat.le_of_ble_eq_true rfl) (Nat.le_of_ble_eq_true rfl)) rfl rfl rfl rfl inTX6 (Nat.le_of_ble_eq_true rfl) tw_285 (fun ad => rfl)) ?_
        refine G_st (x_get (k := 0) (aR (1, 7)) dX6_awning_66 (H1 6 (Nat.le_of_ble_eq_true rfl) (Nat.le_of_ble_eq_true rfl)) rfl rfl rfl rfl inTX2 (Nat.le_of_ble_eq_true rfl) tw_250 (fun ad => rfl)) ?_
        refine G_st (x_get (k := 5) (aR (1, 10)) dX6_awning_69 (H1 7 (Nat.le_of_ble_eq_true rfl) (Nat.le_of_ble_eq_true rfl)) rfl rfl rfl rfl inTX0 (Nat.le_of_ble_eq_true rfl) tw_128 (fun ad => rfl)) ?_
        refine G_st (x_iload_n dX6_awning_72 rfl) ?_
        refine G_st (x_iload_n dX6_awning_73 rfl) ?_
        refine G_bd (fun _ t11 h12 => ?_)
        refine G_st (x_callS [] (c_X6_set ids Hn (1, 10) x1 v2 (H1 10 (Nat.le_of_ble_eq_true rfl) (Nat.le_of_ble_eq_true rfl)) rfl _ _ _ h12) dX6_awning_74 tw_324 kc_X6_set rfl ⟨Nat.le_of_ble_eq_true rfl, Nat.le_of_ble_eq_true rfl⟩ (Nat.le_of_ble_eq_true rfl) rfl) ?_
        refine G_st (x_iload dX6_awning_77 rfl) ?_
        refine G_st (x_iconst (1 : Int32) dX6_awning_79 rfl) ?_
        refine G_st (x_iadd dX6_awning_80) ?_
        exact G_ret rfl ⟨dX6_awning_81, _, rfl, rfl⟩ rfl
      · refine G_st (x_icmp_le_f 46 dX6_awning_36 (by decide) c6) ?_
        refine G_st (x_aload_n dX6_awning_39 rfl) ?_
        refine G_st (x_bipush (-6 : Int32) dX6_awning_40 rfl) ?_
        refine G_bd (fun x13 t14 h15 => ?_)
        refine G_st (x_callV [] (c_X6_refuse ids Hn (-6 : Int32) H0_0 H1 H2 H3 _ _ _ h15) dX6_awning_42 tw_317 kc_X6_refuse (H0_0 0 (Nat.le_of_ble_eq_true rfl) (Nat.le_of_ble_eq_true rfl)) rfl rfl rfl rfl ⟨Nat.le_of_ble_eq_true rfl, Nat.le_of_ble_eq_true rfl⟩ (Nat.le_of_ble_eq_true rfl) rfl) ?_
        exact G_ret rfl ⟨dX6_awning_45, _, rfl, rfl⟩ rfl
    · refine G_st (x_icmp_ge_f 34 dX6_awning_24 (by decide) c5) ?_
      refine G_st (x_aload_n dX6_awning_27 rfl) ?_
      refine G_st (x_bipush (-4 : Int32) dX6_awning_28 rfl) ?_
      refine G_bd (fun x16 t17 h18 => ?_)
      refine G_st (x_callV [] (c_X6_refuse ids Hn (-4 : Int32) H0_0 H1 H2 H3 _ _ _ h18) dX6_awning_30 tw_317 kc_X6_refuse (H0_0 0 (Nat.le_of_ble_eq_true rfl) (Nat.le_of_ble_eq_true rfl)) rfl rfl rfl rfl ⟨Nat.le_of_ble_eq_true rfl, Nat.le_of_ble_eq_true rfl⟩ (Nat.le_of_ble_eq_true rfl) rfl) ?_
      exact G_ret rfl ⟨dX6_awning_33, _, rfl, rfl⟩ rfl
  · refine G_st (x_if_ge_f 22 dX6_awning_13 (by decide) c4) ?_
    refine G_st (x_aload_n dX6_awning_16 rfl) ?_
    refine G_st (x_iconst (-1 : Int32) dX6_awning_17 rfl) ?_
    refine G_bd (fun x19 t20 h21 => ?_)
    refine G_st (x_callV [] (c_X6_refuse ids Hn (-1 : Int32) H0_0 H1 H2 H3 _ _ _ h21) dX6_awning_18 tw_317 kc_X6_refuse (H0_0 0 (Nat.le_of_ble_eq_true rfl) (Nat.le_of_ble_eq_true rfl)) rfl rfl rfl rfl ⟨Nat.le_of_ble_eq_true rfl, Nat.le_of_ble_eq_true rfl⟩ (Nat.le_of_ble_eq_true rfl) rfl) ?_
    exact G_ret rfl ⟨dX6_awning_21, _, rfl, rfl⟩ rfl
set_option maxRecDepth 100000 in
set_option maxHeartbeats 4000000 in
theorem c_X6_awning (ids : List (Nat × Nat)) (Hn : Ndp ids) (v1 : Int32) (v2 : Int32) (H0_0 : InR ids 0 0 5) (H1 : InR ids 1 6 28) (H2 : InR ids 2 6 28) (H3 : InR ids 3 6 28) (t0 : Sg) (r : Int32) (t1 : Sg) (hf : f_X6_awning v1 v2 t0 = some (r, t1)) : Mt0 mX6_awning yX6_awning ids [aR (0, 0), aI v1, aI v2] t0 (some (aI r)) t1 :=
  Mt_of (x := (r, t1)) (g_X6_awning ids Hn v1 v2 H0_0 H1 H2 H3 t0) hf (fun _ _ => trivial) (by decide) rfl Hn (fun _ => rfl) (fun _ => Nat.le_of_ble_eq_true rfl)
theorem dX6_wash_0 : decode cX6_wash 0 = .ok (.aload_n 0, 1) := by decide +kernel
theorem dX6_wash_1 : decode cX6_wash 1 = .ok (.getfield 12, 3) := by decide +kernel
theorem dX6_wash_4 : decode cX6_wash 4 = .ok (.getfield 67, 3) := by decide +kernel
theorem dX6_wash_7 : decode cX6_wash 7 = .ok (.iload_n 1, 1) := by decide +kernel
theorem dX6_wash_8 : decode cX6_wash 8 = .ok (.invokevirtual 147, 3) := by decide +kernel
theorem dX6_wash_11 : decode cX6_wash 11 = .ok (.istore 4, 2) := by decide +kernel
theorem dX6_wash_13 : decode cX6_wash 13 = .ok (.iload 4, 2) := by decide +kernel
theorem dX6_wash_15 : decode cX6_wash 15 = .ok (.ifCond .ge 9, 3) := by decide +kernel
theorem dX6_wash_18 : decode cX6_wash 18 = .ok (.aload_n 0, 1) := by decide +kernel
theorem dX6_wash_19 : decode cX6_wash 19 = .ok (.iconst (-1), 1) := by decide +kernel
theorem dX6_wash_20 : decode cX6_wash 20 = .ok (.invokevirtual 130, 3) := by decide +kernel
theorem dX6_wash_23 : decode cX6_wash 23 = .ok (.ireturn, 1) := by decide +kernel
theorem dX6_wash_24 : decode cX6_wash 24 = .ok (.iload_n 2, 1) := by decide +kernel
theorem dX6_wash_25 : decode cX6_wash 25 = .ok (.ifCond .lt 7, 3) := by decide +kernel
theorem dX6_wash_28 : decode cX6_wash 28 = .ok (.iload_n 3, 1) := by decide +kernel
theorem dX6_wash_29 : decode cX6_wash 29 = .ok (.ifCond .ge 10, 3) := by decide +kernel
theorem dX6_wash_32 : decode cX6_wash 32 = .ok (.aload_n 0, 1) := by decide +kernel
theorem dX6_wash_33 : decode cX6_wash 33 = .ok (.bipush (-4), 2) := by decide +kernel
theorem dX6_wash_35 : decode cX6_wash 35 = .ok (.invokevirtual 130, 3) := by decide +kernel
theorem dX6_wash_38 : decode cX6_wash 38 = .ok (.ireturn, 1) := by decide +kernel
theorem dX6_wash_39 : decode cX6_wash 39 = .ok (.iload_n 2, 1) := by decide +kernel
theorem dX6_wash_40 : decode cX6_wash 40 = .ok (.bipush 9, 2) := by decide +kernel
theorem dX6_wash_42 : decode cX6_wash 42 = .ok (.if_icmp .gt 10, 3) := by decide +kernel
theorem dX6_wash_45 : decode cX6_wash 45 = .ok (.iload_n 3, 1) := by decide +kernel
theorem dX6_wash_46 : decode cX6_wash 46 = .ok (.sipush 255, 3) := by decide +kernel
theorem dX6_wash_49 : decode cX6_wash 49 = .ok (.if_icmp .le 10, 3) := by decide +kernel
theorem dX6_wash_52 : decode cX6_wash 52 = .ok (.aload_n 0, 1) := by decide +kernel
theorem dX6_wash_53 : decode cX6_wash 53 = .ok (.bipush (-6), 2) := by decide +kernel
theorem dX6_wash_55 : decode cX6_wash 55 = .ok (.invokevirtual 130, 3) := by decide +kernel
theorem dX6_wash_58 : decode cX6_wash 58 = .ok (.ireturn, 1) := by decide +kernel
theorem dX6_wash_59 : decode cX6_wash 59 = .ok (.aload_n 0, 1) := by decide +kernel
theorem dX6_wash_60 : decode cX6_wash 60 = .ok (.getfield 12, 3) := by decide +kernel
theorem dX6_wash_63 : decode cX6_wash 63 = .ok (.getfield 67, 3) := by decide +kernel
theorem dX6_wash_66 : decode cX6_wash 66 = .ok (.getfield 156, 3) := by decide +kernel
theorem dX6_wash_69 : decode cX6_wash 69 = .ok (.iload 4, 2) := by decide +kernel
theorem dX6_wash_71 : decode cX6_wash 71 = .ok (.invokestatic 59, 3) := by decide +kernel
theorem dX6_wash_74 : decode cX6_wash 74 = .ok (.istore 5, 2) := by decide +kernel
theorem dX6_wash_76 : decode cX6_wash 76 = .ok (.aload_n 0, 1) := by decide +kernel
theorem dX6_wash_77 : decode cX6_wash 77 = .ok (.getfield 12, 3) := by decide +kernel
theorem dX6_wash_80 : decode cX6_wash 80 = .ok (.getfield 67, 3) := by decide +kernel
theorem dX6_wash_83 : decode cX6_wash 83 = .ok (.iload 4, 2) := by decide +kernel
theorem dX6_wash_85 : decode cX6_wash 85 = .ok (.iload_n 2, 1) := by decide +kernel
theorem dX6_wash_86 : decode cX6_wash 86 = .ok (.iload_n 3, 1) := by decide +kernel
theorem dX6_wash_87 : decode cX6_wash 87 = .ok (.invokevirtual 221, 3) := by decide +kernel
theorem dX6_wash_90 : decode cX6_wash 90 = .ok (.iload 5, 2) := by decide +kernel
theorem dX6_wash_92 : decode cX6_wash 92 = .ok (.ireturn, 1) := by decide +kernel
set_option maxRecDepth 100000 in
set_option maxHeartbeats 4000000 in
theorem g_X6_wash_32 (ids : List (Nat × Nat)) (Hn : Ndp ids)  (H0_0 : InR ids 0 0 5) (H1 : InR ids 1 6 28) (H2 : InR ids 2 6 28) (H3 : InR ids 3 6 28)   (t0 : Sg) : Gj kI mX6_wash ids 32 [some (aR (0, 0)), none, none, none, none, none] [] t0 (f_X6_wash_32 t0) := by
  unfold f_X6_wash_32
  refine G_st (x_aload_n dX6_wash_32 rfl) ?_
  refine G_st (x_bipush (-4 : Int32) dX6_wash_33 rfl) ?_
  refine G_bd (fun x6 t7 h8 => ?_)
  refine G_st (x_callV [] (c_X6_refuse ids Hn (-4 : Int32) H0_0 H1 H2 H3 _ _ _ h8) dX6_wash_35 tw_317 kc_X6_refuse (H0_0 0 (Nat.le_of_ble_eq_true rfl) (Nat.le_of_ble_eq_true rfl)) rfl rfl rfl rfl ⟨Nat.le_of_ble_eq_true rfl, Nat.le_of_ble_eq_true rfl⟩ (Nat.le_of_ble_eq_true rfl) rfl) ?_
  exact G_ret rfl ⟨dX6_wash_38, _, rfl, rfl⟩ rfl
set_option maxRecDepth 100000 in
set_option maxHeartbeats 4000000 in
theorem g_X6_wash_52 (ids : List (Nat × Nat)) (Hn : Ndp ids)  (H0_0 : InR ids 0 0 5) (H1 : InR ids 1 6 28) (H2 : InR ids 2 6 28) (H3 : InR ids 3 6 28)   (t0 : Sg) : Gj kI mX6_wash ids 52 [some (aR (0, 0)), none, none, none, none, none] [] t0 (f_X6_wash_52 t0) := by
  unfold f_X6_wash_52
  refine G_st (x_aload_n dX6_wash_52 rfl) ?_
  refine G_st (x_bipush (-6 : Int32) dX6_wash_53 rfl) ?_
  refine G_bd (fun x11 t12 h13 => ?_)
  refine G_st (x_callV [] (c_X6_refuse ids Hn (-6 : Int32) H0_0 H1 H2 H3 _ _ _ h13) dX6_wash_55 tw_317 kc_X6_refuse (H0_0 0 (Nat.le_of_ble_eq_true rfl) (Nat.le_of_ble_eq_true rfl)) rfl rfl rfl rfl ⟨Nat.le_of_ble_eq_true rfl, Nat.le_of_ble_eq_true rfl⟩ (Nat.le_of_ble_eq_true rfl) rfl) ?_
  exact G_ret rfl ⟨dX6_wash_58, _, rfl, rfl⟩ rfl
set_option maxRecDepth 100000 in
set_option maxHeartbeats 4000000 in
theorem g_X6_wash (ids : List (Nat × Nat)) (Hn : Ndp ids) (v1 : Int32) (v2 : Int32) (v3 : Int32) (H0_0 : InR ids 0 0 5) (H1 : InR ids 1 6 28) (H2 : InR ids 2 6 28) (H3 : InR ids 3 6 28) (t0 : Sg) : Gj kI mX6_wash ids 0 [some (aR (0, 0)), some (aI v1), some (aI v2), some (aI v3), none, none] [] t0 (f_X6_wash v1 v2 v3 t0) := by
  unfold f_X6_wash
  refine G_st (x_aload_n dX6_wash_0 rfl) ?_
  refine G_st (x_get (k := 0) (aR (1, 6)) dX6_wash_1 (H0_0 0 (Nat.le_of_ble_eq_true rfl) (Nat.le_of_ble_eq_true rfl)) rfl rfl rfl rfl inTX6 (Nat.le_of_ble_eq_true rfl) tw_285 (fun ad => rfl)) ?_
  refine G_st (x_get (k := 0) (aR (1, 7)) dX6_wash_4 (H1 6 (Nat.le_of_ble_eq_true rfl) (Nat.le_of_ble_eq_true rfl)) rfl rfl rfl rfl inTX2 (Nat.le_of_ble_eq_true rfl) tw_250 (fun ad => rfl)) ?_
  refine G_st (x_iload_n dX6_wash_7 rfl) ?_
  refine G_bd (fun x1 t2 h3 => ?_)
  refine G_st (x_callV [] (c_X0_placeOf ids Hn 1 v1 (H1.sub (Nat.le_of_ble_eq_true rfl) (Nat.le_of_ble_eq_true rfl)) _ _ _ h3) dX6_wash_8 tw_521 kc_X0_placeOf (H1 7 (Nat.le_of_ble_eq_true rfl) (Nat.le_of_ble_eq_true rfl)) rfl rfl rfl rfl ⟨Nat.le_of_ble_eq_true rfl, Nat.le_of_ble_eq_true rfl⟩ (Nat.le_of_ble_eq_true rfl) rfl) ?_
  refine G_st (x_istore [some (aR (0, 0)), some (aI v1), some (aI v2), some (aI v3), some (aI x1), none] dX6_wash_11 (Nat.le_of_ble_eq_true rfl) rfl rfl) ?_
  refine G_st (x_iload dX6_wash_13 rfl) ?_
  refine G_ite (fun c4 => ?_) (fun c4 => ?_)
  · refine G_st (x_if_ge_t (tgt := 24) dX6_wash_15 (by decide) c4) ?_
    refine G_st (x_iload_n dX6_wash_24 rfl) ?_
    refine G_ite (fun c5 => ?_) (fun c5 => ?_)
    · refine G_st (x_if_lt_t (tgt := 32) dX6_wash_25 (by decide) c5) ?_
      refine G_weak _ ?_ (g_X6_wash_32 ids Hn H0_0 H1 H2 H3 t2)
      exact (leL_s (leL_n (leL_n (leL_n (leL_n (leL_n (leL_e _)))))))
    · refine G_st (x_if_lt_f 32 dX6_wash_25 (by decide) c5) ?_
      refine G_st (x_iload_n dX6_wash_28 rfl) ?_
      refine G_ite (fun c9 => ?_) (fun c9 => ?_)
      · refine G_st (x_if_ge_t (tgt := 39) dX6_wash_29 (by decide) c9) ?_
        refine G_st (x_iload_n dX6_wash_39 rfl) ?_
        refine G_st (x_bipush (9 : Int32) dX6_wash_40 rfl) ?_
        refine G_ite (fun c10 => ?_) (fun c10 => ?_)
        · refine G_st (x_icmp_gt_t (tgt := 52) dX6_wash_42 (by decide) c10) ?_
          refine G_weak _ ?_ (g_X6_wash_52 ids Hn H0_0 H1 H2 H3 t2)
          exact (leL_s (leL_n (leL_n (leL_n (leL_n (leL_n (leL_e _)))))))
        · refine G_st (x_icmp_gt_f 52 dX6_wash_42 (by decide) c10) ?_
          refine G_st (x_iload_n dX6_wash_45 rfl) ?_
          refine G_st (x_sipush (255 : Int32) dX6_wash_46 rfl) ?_
          refine G_ite (fun c14 => ?_) (fun c14 => ?_)
          · refine G_st (x_icmp_le_t (tgt := 59) dX6_wash_49 (by decide) c14) ?_
            refine G_st (x_aload_n dX6_wash_59 rfl) ?_
            refine G_st (x_get (k := 0) (aR (1, 6)) dX6_wash_60 (H0_0 0 (Nat.le_of_ble_eq_true rfl) (Nat.le_of_ble_eq_true rfl)) rfl rfl rfl rfl inTX6 (Nat.le_of_ble_eq_true rfl) tw_285 (fun ad => rfl)) ?_
            refine G_st (x_get (k := 0) (aR (1, 7)) dX6_wash_63 (H1 6 (Nat.le_of_ble_eq_true rfl) (Nat.le_of_ble_eq_true rfl)) rfl rfl rfl rfl inTX2 (Nat.le_of_ble_eq_true rfl) tw_250 (fun ad => rfl)) ?_
            refine G_st (x_get (k := 6) (aR (1, 11)) dX6_wash_66 (H1 7 (Nat.le_of_ble_eq_true rfl) (Nat.le_of_ble_eq_true rfl)) rfl rfl rfl rfl inTX0 (Nat.le_of_ble_eq_true rfl) tw_131 (fun ad => rfl)) ?_
            refine G_st (x_iload dX6_wash_69 rfl) ?_
            refine G_bd (fun x15 t16 h17 => ?_)
            refine G_st (x_callS [] (c_X6_get ids Hn (1, 11) x1 (H1 11 (Nat.le_of_ble_eq_true rfl) (Nat.le_of_ble_eq_true rfl)) rfl _ _ _ h17) dX6_wash_71 tw_321 kc_X6_get rfl ⟨Nat.le_of_ble_eq_true rfl, Nat.le_of_ble_eq_true rfl⟩ (Nat.le_of_ble_eq_true rfl) rfl) ?_
            refine G_st (x_istore [some (aR (0, 0)), some (aI v1), some (aI v2), some (aI v3), some (aI x1), some (aI x15)] dX6_wash_74 (Nat.le_of_ble_eq_true rfl) rfl rfl) ?_
            refine G_st (x_aload_n dX6_wash_76 rfl) ?_
            refine G_st (x_get (k := 0) (aR (1, 6)) dX6_wash_77 (H0_0 0 (Nat.le_of_ble_eq_true rfl) (Nat.le_of_ble_eq_true rfl)) rfl rfl rfl rfl inTX6 (Nat.le_of_ble_eq_true rfl) tw_285 (fun ad => rfl)) ?_
            refine G_st (x_get (k := 0) (aR (1, 7)) dX6_wash_80 (H1 6 (Nat.le_of_ble_eq_true rfl) (Nat.le_of_ble_eq_true rfl)) rfl rfl rfl rfl inTX2 (Nat.le_of_ble_eq_true rfl) tw_250 (fun ad => rfl)) ?_
            refine G_st (x_iload dX6_wash_83 rfl) ?_
            refine G_st (x_iload_n dX6_wash_85 rfl) ?_
            refine G_st (x_iload_n dX6_wash_86 rfl) ?_
            refine G_bd (fun _ t19 h20 => ?_)
            refine G_st (x_callV [] (c_X0_setWashing ids Hn 1 x1 v2 v3 (H1.sub (Nat.le_of_ble_eq_true rfl) (Nat.le_of_ble_eq_true rfl)) _ _ _ h20) dX6_wash_87 tw_583 kc_X0_setWashing (H1 7 (Nat.le_of_ble_eq_true rfl) (Nat.le_of_ble_eq_true rfl)) rfl rfl rfl rfl ⟨Nat.le_of_ble_eq_true rfl, Nat.le_of_ble_eq_true rfl⟩ (Nat.le_of_ble_eq_true rfl) rfl) ?_
            refine G_st (x_iload dX6_wash_90 rfl) ?_
            exact G_ret rfl ⟨dX6_wash_92, _, rfl, rfl⟩ rfl
          · refine G_st (x_icmp_le_f 59 dX6_wash_49 (by decide) c14) ?_
            refine G_weak _ ?_ (g_X6_wash_52 ids Hn H0_0 H1 H2 H3 t2)
            exact (leL_s (leL_n (leL_n (leL_n (leL_n (leL_n (leL_e _)))))))
      · refine G_st (x_if_ge_f 39 dX6_wash_29 (by decide) c9) ?_
        refine G_weak _ ?_ (g_X6_wash_32 ids Hn H0_0 H1 H2 H3 t2)
        exact (leL_s (leL_n (leL_n (leL_n (leL_n (leL_n (leL_e _)))))))
  · refine G_st (x_if_ge_f 24 dX6_wash_15 (by decide) c4) ?_
    refine G_st (x_aload_n dX6_wash_18 rfl) ?_
    refine G_st (x_iconst (-1 : Int32) dX6_wash_19 rfl) ?_
    refine G_bd (fun x21 t22 h23 => ?_)
    refine G_st (x_callV [] (c_X6_refuse ids Hn (-1 : Int32) H0_0 H1 H2 H3 _ _ _ h23) dX6_wash_20 tw_317 kc_X6_refuse (H0_0 0 (Nat.le_of_ble_eq_true rfl) (Nat.le_of_ble_eq_true rfl)) rfl rfl rfl rfl ⟨Nat.le_of_ble_eq_true rfl, Nat.le_of_ble_eq_true rfl⟩ (Nat.le_of_ble_eq_true rfl) rfl) ?_
    exact G_ret rfl ⟨dX6_wash_23, _, rfl, rfl⟩ rfl
set_option maxRecDepth 100000 in
set_option maxHeartbeats 4000000 in
theorem c_X6_wash (ids : List (Nat × Nat)) (Hn : Ndp ids) (v1 : Int32) (v2 : Int32) (v3 : Int32) (H0_0 : InR ids 0 0 5) (H1 : InR ids 1 6 28) (H2 : InR ids 2 6 28) (H3 : InR ids 3 6 28) (t0 : Sg) (r : Int32) (t1 : Sg) (hf : f_X6_wash v1 v2 v3 t0 = some (r, t1)) : Mt0 mX6_wash yX6_wash ids [aR (0, 0), aI v1, aI v2, aI v3] t0 (some (aI r)) t1 :=
  Mt_of (x := (r, t1)) (g_X6_wash ids Hn v1 v2 v3 H0_0 H1 H2 H3 t0) hf (fun _ _ => trivial) (by decide) rfl Hn (fun _ => rfl) (fun _ => Nat.le_of_ble_eq_true rfl)
theorem dX6_wind_0 : decode cX6_wind 0 = .ok (.iload_n 1, 1) := by decide +kernel
theorem dX6_wind_1 : decode cX6_wind 1 = .ok (.iconst (-1), 1) := by decide +kernel
theorem dX6_wind_2 : decode cX6_wind 2 = .ok (.if_icmp .ge 10, 3) := by decide +kernel
theorem dX6_wind_5 : decode cX6_wind 5 = .ok (.aload_n 0, 1) := by decide +kernel
theorem dX6_wind_6 : decode cX6_wind 6 = .ok (.bipush (-4), 2) := by decide +kernel
theorem dX6_wind_8 : decode cX6_wind 8 = .ok (.invokevirtual 130, 3) := by decide +kernel
theorem dX6_wind_11 : decode cX6_wind 11 = .ok (.ireturn, 1) := by decide +kernel
theorem dX6_wind_12 : decode cX6_wind 12 = .ok (.iload_n 1, 1) := by decide +kernel
theorem dX6_wind_13 : decode cX6_wind 13 = .ok (.iconst 1, 1) := by decide +kernel
theorem dX6_wind_14 : decode cX6_wind 14 = .ok (.if_icmp .le 10, 3) := by decide +kernel
theorem dX6_wind_17 : decode cX6_wind 17 = .ok (.aload_n 0, 1) := by decide +kernel
theorem dX6_wind_18 : decode cX6_wind 18 = .ok (.bipush (-6), 2) := by decide +kernel
theorem dX6_wind_20 : decode cX6_wind 20 = .ok (.invokevirtual 130, 3) := by decide +kernel
theorem dX6_wind_23 : decode cX6_wind 23 = .ok (.ireturn, 1) := by decide +kernel
theorem dX6_wind_24 : decode cX6_wind 24 = .ok (.aload_n 0, 1) := by decide +kernel
theorem dX6_wind_25 : decode cX6_wind 25 = .ok (.getfield 12, 3) := by decide +kernel
theorem dX6_wind_28 : decode cX6_wind 28 = .ok (.getfield 67, 3) := by decide +kernel
theorem dX6_wind_31 : decode cX6_wind 31 = .ok (.getfield 208, 3) := by decide +kernel
theorem dX6_wind_34 : decode cX6_wind 34 = .ok (.istore_n 2, 1) := by decide +kernel
theorem dX6_wind_35 : decode cX6_wind 35 = .ok (.aload_n 0, 1) := by decide +kernel
theorem dX6_wind_36 : decode cX6_wind 36 = .ok (.getfield 12, 3) := by decide +kernel
theorem dX6_wind_39 : decode cX6_wind 39 = .ok (.getfield 67, 3) := by decide +kernel
theorem dX6_wind_42 : decode cX6_wind 42 = .ok (.iload_n 1, 1) := by decide +kernel
theorem dX6_wind_43 : decode cX6_wind 43 = .ok (.putfield 208, 3) := by decide +kernel
theorem dX6_wind_46 : decode cX6_wind 46 = .ok (.iload_n 2, 1) := by decide +kernel
theorem dX6_wind_47 : decode cX6_wind 47 = .ok (.iconst 1, 1) := by decide +kernel
theorem dX6_wind_48 : decode cX6_wind 48 = .ok (.iadd, 1) := by decide +kernel
theorem dX6_wind_49 : decode cX6_wind 49 = .ok (.ireturn, 1) := by decide +kernel
set_option maxRecDepth 100000 in
set_option maxHeartbeats 4000000 in
theorem g_X6_wind (ids : List (Nat × Nat)) (Hn : Ndp ids) (v1 : Int32) (H0_0 : InR ids 0 0 5) (H1 : InR ids 1 6 28) (H2 : InR ids 2 6 28) (H3 : InR ids 3 6 28) (t0 : Sg) : Gj kI mX6_wind ids 0 [some (aR (0, 0)), some (aI v1), none] [] t0 (f_X6_wind v1 t0) := by
  unfold f_X6_wind
  refine G_st (x_iload_n dX6_wind_0 rfl) ?_
  refine G_st (x_iconst (-1 : Int32) dX6_wind_1 rfl) ?_
  refine G_ite (fun c1 => ?_) (fun c1 => ?_)
  · refine G_st (x_icmp_ge_t (tgt := 12) dX6_wind_2 (by decide) c1) ?_
    refine G_st (x_iload_n dX6_wind_12 rfl) ?_
    refine G_st (x_iconst (1 : Int32) dX6_wind_13 rfl) ?_
    refine G_ite (fun c2 => ?_) (fun c2 => ?_)
    · refine G_st (x_icmp_le_t (tgt := 24) dX6_wind_14 (by decide) c2) ?_
      refine G_st (x_aload_n dX6_wind_24 rfl) ?_
      refine G_st (x_get (k := 0) (aR (1, 6)) dX6_wind_25 (H0_0 0 (Nat.le_of_ble_eq_true rfl) (Nat.le_of_ble_eq_true rfl)) rfl rfl rfl rfl inTX6 (Nat.le_of_ble_eq_true rfl) tw_285 (fun ad => rfl)) ?_
      refine G_st (x_get (k := 0) (aR (1, 7)) dX6_wind_28 (H1 6 (Nat.le_of_ble_eq_true rfl) (Nat.le_of_ble_eq_true rfl)) rfl rfl rfl rfl inTX2 (Nat.le_of_ble_eq_true rfl) tw_250 (fun ad => rfl)) ?_
      refine G_st (x_get (k := 2) (aI (t0 (1, 7) 2)) dX6_wind_31 (H1 7 (Nat.le_of_ble_eq_true rfl) (Nat.le_of_ble_eq_true rfl)) rfl rfl rfl rfl inTX0 (Nat.le_of_ble_eq_true rfl) tw_117 (fun ad => rfl)) ?_
      refine G_bvI (fun x3 => ?_)
      refine G_st (x_istore_n [some (aR (0, 0)), some (aI v1), some (aI x3)] dX6_wind_34 (Nat.le_of_ble_eq_true rfl) rfl rfl) ?_
      refine G_st (x_aload_n dX6_wind_35 rfl) ?_
      refine G_st (x_get (k := 0) (aR (1, 6)) dX6_wind_36 (H0_0 0 (Nat.le_of_ble_eq_true rfl) (Nat.le_of_ble_eq_true rfl)) rfl rfl rfl rfl inTX6 (Nat.le_of_ble_eq_true rfl) tw_285 (fun ad => rfl)) ?_
      refine G_st (x_get (k := 0) (aR (1, 7)) dX6_wind_39 (H1 6 (Nat.le_of_ble_eq_true rfl) (Nat.le_of_ble_eq_true rfl)) rfl rfl rfl rfl inTX2 (Nat.le_of_ble_eq_true rfl) tw_250 (fun ad => rfl)) ?_
      refine G_st (x_iload_n dX6_wind_42 rfl) ?_
      refine G_st (x_put (k := 2) (ty := .int) (v := aI v1) (z := v1) (upS t0 (1, 7) 2 v1) dX6_wind_43 (H1 7 (Nat.le_of_ble_eq_true rfl) (Nat.le_of_ble_eq_true rfl)) rfl rfl rfl rfl inTX0 tyX0_ok nmX0 (Nat.le_of_ble_eq_true rfl) tw_117 rfl rfl (fun ad => rfl) (fun ad => rfl) (fun ad => put_i0 ad _ _ _ _ rfl) rfl) ?_
      refine G_bvS (fun t4 => ?_)
      refine G_st (x_iload_n dX6_wind_46 rfl) ?_
      refine G_st (x_iconst (1 : Int32) dX6_wind_47 rfl) ?_
      refine G_st (x_iadd dX6_wind_48) ?_
      exact G_ret rfl ⟨dX6_wind_49, _, rfl, rfl⟩ rfl
    · refine G_st (x_icmp_le_f 24 dX6_wind_14 (by decide) c2) ?_
      refine G_st (x_aload_n dX6_wind_17 rfl) ?_
      refine G_st (x_bipush (-6 : Int32) dX6_wind_18 rfl) ?_
      refine G_bd (fun x5 t6 h7 => ?_)
      refine G_st (x_callV [] (c_X6_refuse ids Hn (-6 : Int32) H0_0 H1 H2 H3 _ _ _ h7) dX6_wind_20 tw_317 kc_X6_refuse (H0_0 0 (Nat.le_of_ble_eq_true rfl) (Nat.le_of_ble_eq_true rfl)) rfl rfl rfl rfl ⟨Nat.le_of_ble_eq_true rfl, Nat.le_of_ble_eq_true rfl⟩ (Nat.le_of_ble_eq_true rfl) rfl) ?_
      exact G_ret rfl ⟨dX6_wind_23, _, rfl, rfl⟩ rfl
  · refine G_st (x_icmp_ge_f 12 dX6_wind_2 (by decide) c1) ?_
    refine G_st (x_aload_n dX6_wind_5 rfl) ?_
    refine G_st (x_bipush (-4 : Int32) dX6_wind_6 rfl) ?_
    refine G_bd (fun x8 t9 h10 => ?_)
    refine G_st (x_callV [] (c_X6_refuse ids Hn (-4 : Int32) H0_0 H1 H2 H3 _ _ _ h10) dX6_wind_8 tw_317 kc_X6_refuse (H0_0 0 (Nat.le_of_ble_eq_true rfl) (Nat.le_of_ble_eq_true rfl)) rfl rfl rfl rfl ⟨Nat.le_of_ble_eq_true rfl, Nat.le_of_ble_eq_true rfl⟩ (Nat.le_of_ble_eq_true rfl) rfl) ?_
    exact G_ret rfl ⟨dX6_wind_11, _, rfl, rfl⟩ rfl
set_option maxRecDepth 100000 in
set_option maxHeartbeats 4000000 in
theorem c_X6_wind (ids : List (Nat × Nat)) (Hn : Ndp ids) (v1 : Int32) (H0_0 : InR ids 0 0 5) (H1 : InR ids 1 6 28) (H2 : InR ids 2 6 28) (H3 : InR ids 3 6 28) (t0 : Sg) (r : Int32) (t1 : Sg) (hf : f_X6_wind v1 t0 = some (r, t1)) : Mt0 mX6_wind yX6_wind ids [aR (0, 0), aI v1] t0 (some (aI r)) t1 :=
  Mt_of (x := (r, t1)) (g_X6_wind ids Hn v1 H0_0 H1 H2 H3 t0) hf (fun _ _ => trivial) (by decide) rfl Hn (fun _ => rfl) (fun _ => Nat.le_of_ble_eq_true rfl)
theorem dX6_move_0 : decode cX6_move 0 = .ok (.aload_n 0, 1) := by decide +kernel
theorem dX6_move_1 : decode cX6_move 1 = .ok (.iload_n 1, 1) := by decide +kernel
theorem dX6_move_2 : decode cX6_move 2 = .ok (.invokevirtual 165, 3) := by decide +kernel
theorem dX6_move_5 : decode cX6_move 5 = .ok (.ifCond .eq 16, 3) := by decide +kernel
theorem dX6_move_8 : decode cX6_move 8 = .ok (.aload_n 0, 1) := by decide +kernel
theorem dX6_move_9 : decode cX6_move 9 = .ok (.iload_n 2, 1) := by decide +kernel
theorem dX6_move_10 : decode cX6_move 10 = .ok (.invokevirtual 165, 3) := by decide +kernel
theorem dX6_move_13 : decode cX6_move 13 = .ok (.ifCond .eq 8, 3) := by decide +kernel
theorem dX6_move_16 : decode cX6_move 16 = .ok (.iload_n 1, 1) := by decide +kernel
theorem dX6_move_17 : decode cX6_move 17 = .ok (.iload_n 2, 1) := by decide +kernel
theorem dX6_move_18 : decode cX6_move 18 = .ok (.if_icmp .ne 9, 3) := by decide +kernel
theorem dX6_move_21 : decode cX6_move 21 = .ok (.aload_n 0, 1) := by decide +kernel
theorem dX6_move_22 : decode cX6_move 22 = .ok (.iconst (-1), 1) := by decide +kernel
theorem dX6_move_23 : decode cX6_move 23 = .ok (.invokevirtual 130, 3) := by decide +kernel
theorem dX6_move_26 : decode cX6_move 26 = .ok (.ireturn, 1) := by decide +kernel
theorem dX6_move_27 : decode cX6_move 27 = .ok (.aload_n 0, 1) := by decide +kernel
theorem dX6_move_28 : decode cX6_move 28 = .ok (.getfield 12, 3) := by decide +kernel
theorem dX6_move_31 : decode cX6_move 31 = .ok (.getfield 67, 3) := by decide +kernel
theorem dX6_move_34 : decode cX6_move 34 = .ok (.iload_n 1, 1) := by decide +kernel
theorem dX6_move_35 : decode cX6_move 35 = .ok (.iload_n 2, 1) := by decide +kernel
theorem dX6_move_36 : decode cX6_move 36 = .ok (.invokevirtual 225, 3) := by decide +kernel
theorem dX6_move_39 : decode cX6_move 39 = .ok (.aload_n 0, 1) := by decide +kernel
theorem dX6_move_40 : decode cX6_move 40 = .ok (.getfield 12, 3) := by decide +kernel
theorem dX6_move_43 : decode cX6_move 43 = .ok (.getfield 67, 3) := by decide +kernel
theorem dX6_move_46 : decode cX6_move 46 = .ok (.getfield 169, 3) := by decide +kernel
theorem dX6_move_49 : decode cX6_move 49 = .ok (.iload_n 1, 1) := by decide +kernel
theorem dX6_move_50 : decode cX6_move 50 = .ok (.invokestatic 59, 3) := by decide +kernel
theorem dX6_move_53 : decode cX6_move 53 = .ok (.invokestatic 172, 3) := by decide +kernel
theorem dX6_move_56 : decode cX6_move 56 = .ok (.ireturn, 1) := by decide +kernel
set_option maxRecDepth 100000 in
set_option maxHeartbeats 4000000 in
theorem g_X6_move_21 (ids : List (Nat × Nat)) (Hn : Ndp ids)  (H0_0 : InR ids 0 0 5) (H1 : InR ids 1 6 28) (H2 : InR ids 2 6 28) (H3 : InR ids 3 6 28)   (t0 : Sg) : Gj kI mX6_move ids 21 [some (aR (0, 0)), none, none] [] t0 (f_X6_move_21 t0) := by
  unfold f_X6_move_21
  refine G_st (x_aload_n dX6_move_21 rfl) ?_
  refine G_st (x_iconst (-1 : Int32) dX6_move_22 rfl) ?_
  refine G_bd (fun x5 t6 h7 => ?_)
  refine G_st (x_callV [] (c_X6_refuse ids Hn (-1 : Int32) H0_0 H1 H2 H3 _ _ _ h7) dX6_move_23 tw_317 kc_X6_refuse (H0_0 0 (Nat.le_of_ble_eq_true rfl) (Nat.le_of_ble_eq_true rfl)) rfl rfl rfl rfl ⟨Nat.le_of_ble_eq_true rfl, Nat.le_of_ble_eq_true rfl⟩ (Nat.le_of_ble_eq_true rfl) rfl) ?_
  exact G_ret rfl ⟨dX6_move_26, _, rfl, rfl⟩ rfl
set_option maxRecDepth 100000 in
set_option maxHeartbeats 4000000 in
theorem g_X6_move (ids : List (Nat × Nat)) (Hn : Ndp ids) (v1 : Int32) (v2 : Int32) (H0_0 : InR ids 0 0 5) (H1 : InR ids 1 6 28) (H2 : InR ids 2 6 28) (H3 : InR ids 3 6 28) (t0 : Sg) : Gj kI mX6_move ids 0 [some (aR (0, 0)), some (aI v1), some (aI v2)] [] t0 (f_X6_move v1 v2 t0) := by
  unfold f_X6_move
  refine G_st (x_aload_n dX6_move_0 rfl) ?_
  refine G_st (x_iload_n dX6_move_1 rfl) ?_
  refine G_bd (fun x1 t2 h3 => ?_)
  refine G_st (x_callV [] (c_X6_isTenant ids Hn v1 H0_0 H1 H2 H3 _ _ _ h3) dX6_move_2 tw_530 kc_X6_isTenant (H0_0 0 (Nat.le_of_ble_eq_true rfl) (Nat.le_of_ble_eq_true rfl)) rfl rfl rfl rfl ⟨Nat.le_of_ble_eq_true rfl, Nat.le_of_ble_eq_true rfl⟩ (Nat.le_of_ble_eq_true rfl) rfl) ?_
  refine G_ite (fun c4 => ?_) (fun c4 => ?_)
  · refine G_st (x_if_eq_t (tgt := 21) dX6_move_5 (by decide) c4) ?_
    refine G_weak _ ?_ (g_X6_move_21 ids Hn H0_0 H1 H2 H3 t2)
    exact (leL_s (leL_n (leL_n (leL_e _))))
  · refine G_st (x_if_eq_f 21 dX6_move_5 (by decide) c4) ?_
    refine G_st (x_aload_n dX6_move_8 rfl) ?_
    refine G_st (x_iload_n dX6_move_9 rfl) ?_
    refine G_bd (fun x8 t9 h10 => ?_)
    refine G_st (x_callV [] (c_X6_isTenant ids Hn v2 H0_0 H1 H2 H3 _ _ _ h10) dX6_move_10 tw_530 kc_X6_isTenant (H0_0 0 (Nat.le_of_ble_eq_true rfl) (Nat.le_of_ble_eq_true rfl)) rfl rfl rfl rfl ⟨Nat.le_of_ble_eq_true rfl, Nat.le_of_ble_eq_true rfl⟩ (Nat.le_of_ble_eq_true rfl) rfl) ?_
    refine G_ite (fun c11 => ?_) (fun c11 => ?_)
    · refine G_st (x_if_eq_t (tgt := 21) dX6_move_13 (by decide) c11) ?_
      refine G_weak _ ?_ (g_X6_move_21 ids Hn H0_0 H1 H2 H3 t9)
      exact (leL_s (leL_n (leL_n (leL_e _))))
    · refine G_st (x_if_eq_f 21 dX6_move_13 (by decide) c11) ?_
      refine G_st (x_iload_n dX6_move_16 rfl) ?_
      refine G_st (x_iload_n dX6_move_17 rfl) ?_
      refine G_ite (fun c12 => ?_) (fun c12 => ?_)
      · refine G_st (x_icmp_ne_f 27 dX6_move_18 (by decide) c12) ?_
        refine G_weak _ ?_ (g_X6_move_21 ids Hn H0_0 H1 H2 H3 t9)
        exact (leL_s (leL_n (leL_n (leL_e _))))
      · refine G_st (x_icmp_ne_t (tgt := 27) dX6_move_18 (by decide) c12) ?_
        refine G_st (x_aload_n dX6_move_27 rfl) ?_
        refine G_st (x_get (k := 0) (aR (1, 6)) dX6_move_28 (H0_0 0 (Nat.le_of_ble_eq_true rfl) (Nat.le_of_ble_eq_true rfl)) rfl rfl rfl rfl inTX6 (Nat.le_of_ble_eq_true rfl) tw_285 (fun ad => rfl)) ?_
        refine G_st (x_get (k := 0) (aR (1, 7)) dX6_move_31 (H1 6 (Nat.le_of_ble_eq_true rfl) (Nat.le_of_ble_eq_true rfl)) rfl rfl rfl rfl inTX2 (Nat.le_of_ble_eq_true rfl) tw_250 (fun ad => rfl)) ?_
        refine G_st (x_iload_n dX6_move_34 rfl) ?_
        refine G_st (x_iload_n dX6_move_35 rfl) ?_
        refine G_bd (fun _ t14 h15 => ?_)
        refine G_st (x_callV [] (c_X0_change ids Hn 1 v1 v2 (H1.sub (Nat.le_of_ble_eq_true rfl) (Nat.le_of_ble_eq_true rfl)) _ _ _ h15) dX6_move_36 tw_592 kc_X0_change (H1 7 (Nat.le_of_ble_eq_true rfl) (Nat.le_of_ble_eq_true rfl)) rfl rfl rfl rfl ⟨Nat.le_of_ble_eq_true rfl, Nat.le_of_ble_eq_true rfl⟩ (Nat.le_of_ble_eq_true rfl) rfl) ?_
        refine G_st (x_aload_n dX6_move_39 rfl) ?_
        refine G_st (x_get (k := 0) (aR (1, 6)) dX6_move_40 (H0_0 0 (Nat.le_of_ble_eq_true rfl) (Nat.le_of_ble_eq_true rfl)) rfl rfl rfl rfl inTX6 (Nat.le_of_ble_eq_true rfl) tw_285 (fun ad => rfl)) ?_
        refine G_st (x_get (k := 0) (aR (1, 7)) dX6_move_43 (H1 6 (Nat.le_of_ble_eq_true rfl) (Nat.le_of_ble_eq_true rfl)) rfl rfl rfl rfl inTX2 (Nat.le_of_ble_eq_true rfl) tw_250 (fun ad => rfl)) ?_
        refine G_st (x_get (k := 9) (aR (1, 14)) dX6_move_46 (H1 7 (Nat.le_of_ble_eq_true rfl) (Nat.le_of_ble_eq_true rfl)) rfl rfl rfl rfl inTX0 (Nat.le_of_ble_eq_true rfl) tw_140 (fun ad => rfl)) ?_
        refine G_st (x_iload_n dX6_move_49 rfl) ?_
        refine G_bd (fun x16 t17 h18 => ?_)
        refine G_st (x_callS [] (c_X6_get ids Hn (1, 14) v1 (H1 14 (Nat.le_of_ble_eq_true rfl) (Nat.le_of_ble_eq_true rfl)) rfl _ _ _ h18) dX6_move_50 tw_321 kc_X6_get rfl ⟨Nat.le_of_ble_eq_true rfl, Nat.le_of_ble_eq_true rfl⟩ (Nat.le_of_ble_eq_true rfl) rfl) ?_
        refine G_bd (fun x19 t20 h21 => ?_)
        refine G_st (x_callS [] (c_X0_flatAt ids Hn x16  _ _ _ h21) dX6_move_53 tw_535 kc_X0_flatAt rfl ⟨Nat.le_of_ble_eq_true rfl, Nat.le_of_ble_eq_true rfl⟩ (Nat.le_of_ble_eq_true rfl) rfl) ?_
        exact G_ret rfl ⟨dX6_move_56, _, rfl, rfl⟩ rfl
set_option maxRecDepth 100000 in
set_option maxHeartbeats 4000000 in
theorem c_X6_move (ids : List (Nat × Nat)) (Hn : Ndp ids) (v1 : Int32) (v2 : Int32) (H0_0 : InR ids 0 0 5) (H1 : InR ids 1 6 28) (H2 : InR ids 2 6 28) (H3 : InR ids 3 6 28) (t0 : Sg) (r : Int32) (t1 : Sg) (hf : f_X6_move v1 v2 t0 = some (r, t1)) : Mt0 mX6_move yX6_move ids [aR (0, 0), aI v1, aI v2] t0 (some (aI r)) t1 :=
  Mt_of (x := (r, t1)) (g_X6_move ids Hn v1 v2 H0_0 H1 H2 H3 t0) hf (fun _ _ => trivial) (by decide) rfl Hn (fun _ => rfl) (fun _ => Nat.le_of_ble_eq_true rfl)
theorem dX6_rain_0 : decode cX6_rain 0 = .ok (.aload_n 0, 1) := by decide +kernel
theorem dX6_rain_1 : decode cX6_rain 1 = .ok (.getfield 12, 3) := by decide +kernel
theorem dX6_rain_4 : decode cX6_rain 4 = .ok (.getfield 67, 3) := by decide +kernel
theorem dX6_rain_7 : decode cX6_rain 7 = .ok (.getfield 153, 3) := by decide +kernel
theorem dX6_rain_10 : decode cX6_rain 10 = .ok (.invokestatic 211, 3) := by decide +kernel
theorem dX6_rain_13 : decode cX6_rain 13 = .ok (.istore_n 1, 1) := by decide +kernel
theorem dX6_rain_14 : decode cX6_rain 14 = .ok (.aload_n 0, 1) := by decide +kernel
theorem dX6_rain_15 : decode cX6_rain 15 = .ok (.getfield 12, 3) := by decide +kernel
theorem dX6_rain_18 : decode cX6_rain 18 = .ok (.getfield 67, 3) := by decide +kernel
theorem dX6_rain_21 : decode cX6_rain 21 = .ok (.getfield 153, 3) := by decide +kernel
theorem dX6_rain_24 : decode cX6_rain 24 = .ok (.iconst 0, 1) := by decide +kernel
theorem dX6_rain_25 : decode cX6_rain 25 = .ok (.invokestatic 228, 3) := by decide +kernel
theorem dX6_rain_28 : decode cX6_rain 28 = .ok (.iload_n 1, 1) := by decide +kernel
theorem dX6_rain_29 : decode cX6_rain 29 = .ok (.ireturn, 1) := by decide +kernel
set_option maxRecDepth 100000 in
set_option maxHeartbeats 4000000 in
theorem g_X6_rain (ids : List (Nat × Nat)) (Hn : Ndp ids)  (H0_0 : InR ids 0 0 5) (H1 : InR ids 1 6 28) (H2 : InR ids 2 6 28) (H3 : InR ids 3 6 28) (t0 : Sg) : Gj kI mX6_rain ids 0 [some (aR (0, 0)), none] [] t0 (f_X6_rain t0) := by
  unfold f_X6_rain
  refine G_st (x_aload_n dX6_rain_0 rfl) ?_
  refine G_st (x_get (k := 0) (aR (1, 6)) dX6_rain_1 (H0_0 0 (Nat.le_of_ble_eq_true rfl) (Nat.le_of_ble_eq_true rfl)) rfl rfl rfl rfl inTX6 (Nat.le_of_ble_eq_true rfl) tw_285 (fun ad => rfl)) ?_
  refine G_st (x_get (k := 0) (aR (1, 7)) dX6_rain_4 (H1 6 (Nat.le_of_ble_eq_true rfl) (Nat.le_of_ble_eq_true rfl)) rfl rfl rfl rfl inTX2 (Nat.le_of_ble_eq_true rfl) tw_250 (fun ad => rfl)) ?_
  refine G_st (x_get (k := 4) (aR (1, 9)) dX6_rain_7 (H1 7 (Nat.le_of_ble_eq_true rfl) (Nat.le_of_ble_eq_true rfl)) rfl rfl rfl rfl inTX0 (Nat.le_of_ble_eq_true rfl) tw_124 (fun ad => rfl)) ?_
  refine G_bd (fun x1 t2 h3 => ?_)
  refine G_st (x_callS [] (c_X6_sum ids Hn (1, 9) (H1 9 (Nat.le_of_ble_eq_true rfl) (Nat.le_of_ble_eq_true rfl)) rfl _ _ _ h3) dX6_rain_10 tw_562 kc_X6_sum rfl ⟨Nat.le_of_ble_eq_true rfl, Nat.le_of_ble_eq_true rfl⟩ (Nat.le_of_ble_eq_true rfl) rfl) ?_
  refine G_st (x_istore_n [some (aR (0, 0)), some (aI x1)] dX6_rain_13 (Nat.le_of_ble_eq_true rfl) rfl rfl) ?_
  refine G_st (x_aload_n dX6_rain_14 rfl) ?_
  refine G_st (x_get (k := 0) (aR (1, 6)) dX6_rain_15 (H0_0 0 (Nat.le_of_ble_eq_true rfl) (Nat.le_of_ble_eq_true rfl)) rfl rfl rfl rfl inTX6 (Nat.le_of_ble_eq_true rfl) tw_285 (fun ad => rfl)) ?_
  refine G_st (x_get (k := 0) (aR (1, 7)) dX6_rain_18 (H1 6 (Nat.le_of_ble_eq_true rfl) (Nat.le_of_ble_eq_true rfl)) rfl rfl rfl rfl inTX2 (Nat.le_of_ble_eq_true rfl) tw_250 (fun ad => rfl)) ?_
  refine G_st (x_get (k := 4) (aR (1, 9)) dX6_rain_21 (H1 7 (Nat.le_of_ble_eq_true rfl) (Nat.le_of_ble_eq_true rfl)) rfl rfl rfl rfl inTX0 (Nat.le_of_ble_eq_true rfl) tw_124 (fun ad => rfl)) ?_
  refine G_st (x_iconst (0 : Int32) dX6_rain_24 rfl) ?_
  refine G_bd (fun _ t5 h6 => ?_)
  refine G_st (x_callS [] (c_J7_fill_53178 ids Hn (1, 9) (0 : Int32) (H1 9 (Nat.le_of_ble_eq_true rfl) (Nat.le_of_ble_eq_true rfl)) rfl _ _ _ h6) dX6_rain_25 tw_600 kc_J7_fill_53178 rfl ⟨Nat.le_of_ble_eq_true rfl, Nat.le_of_ble_eq_true rfl⟩ (Nat.le_of_ble_eq_true rfl) rfl) ?_
  refine G_st (x_iload_n dX6_rain_28 rfl) ?_
  exact G_ret rfl ⟨dX6_rain_29, _, rfl, rfl⟩ rfl
set_option maxRecDepth 100000 in
set_option maxHeartbeats 4000000 in
theorem c_X6_rain (ids : List (Nat × Nat)) (Hn : Ndp ids)  (H0_0 : InR ids 0 0 5) (H1 : InR ids 1 6 28) (H2 : InR ids 2 6 28) (H3 : InR ids 3 6 28) (t0 : Sg) (r : Int32) (t1 : Sg) (hf : f_X6_rain t0 = some (r, t1)) : Mt0 mX6_rain yX6_rain ids [aR (0, 0)] t0 (some (aI r)) t1 :=
  Mt_of (x := (r, t1)) (g_X6_rain ids Hn  H0_0 H1 H2 H3 t0) hf (fun _ _ => trivial) (by decide) rfl Hn (fun _ => rfl) (fun _ => Nat.le_of_ble_eq_true rfl)
theorem dX6_week_0 : decode cX6_week 0 = .ok (.aload_n 0, 1) := by decide +kernel
theorem dX6_week_1 : decode cX6_week 1 = .ok (.getfield 12, 3) := by decide +kernel
theorem dX6_week_4 : decode cX6_week 4 = .ok (.getfield 205, 3) := by decide +kernel
theorem dX6_week_7 : decode cX6_week 7 = .ok (.sipush 9999, 3) := by decide +kernel
theorem dX6_week_10 : decode cX6_week 10 = .ok (.if_icmp .lt 10, 3) := by decide +kernel
theorem dX6_week_13 : decode cX6_week 13 = .ok (.aload_n 0, 1) := by decide +kernel
theorem dX6_week_14 : decode cX6_week 14 = .ok (.bipush (-6), 2) := by decide +kernel
theorem dX6_week_16 : decode cX6_week 16 = .ok (.invokevirtual 130, 3) := by decide +kernel
theorem dX6_week_19 : decode cX6_week 19 = .ok (.ireturn, 1) := by decide +kernel
theorem dX6_week_20 : decode cX6_week 20 = .ok (.aload_n 0, 1) := by decide +kernel
theorem dX6_week_21 : decode cX6_week 21 = .ok (.getfield 12, 3) := by decide +kernel
theorem dX6_week_24 : decode cX6_week 24 = .ok (.invokevirtual 100, 3) := by decide +kernel
theorem dX6_week_27 : decode cX6_week 27 = .ok (.ireturn, 1) := by decide +kernel
set_option maxRecDepth 100000 in
set_option maxHeartbeats 4000000 in
theorem g_X6_week (ids : List (Nat × Nat)) (Hn : Ndp ids)  (H0_0 : InR ids 0 0 5) (H1 : InR ids 1 6 28) (H2 : InR ids 2 6 28) (H3 : InR ids 3 6 28) (t0 : Sg) : Gj kI mX6_week ids 0 [some (aR (0, 0))] [] t0 (f_X6_week t0) := by
  unfold f_X6_week
  refine G_st (x_aload_n dX6_week_0 rfl) ?_
  refine G_st (x_get (k := 0) (aR (1, 6)) dX6_week_1 (H0_0 0 (Nat.le_of_ble_eq_true rfl) (Nat.le_of_ble_eq_true rfl)) rfl rfl rfl rfl inTX6 (Nat.le_of_ble_eq_true rfl) tw_285 (fun ad => rfl)) ?_
  refine G_st (x_get (k := 4) (aI (t0 (1, 6) 4)) dX6_week_4 (H1 6 (Nat.le_of_ble_eq_true rfl) (Nat.le_of_ble_eq_true rfl)) rfl rfl rfl rfl inTX2 (Nat.le_of_ble_eq_true rfl) tw_259 (fun ad => rfl)) ?_
  refine G_st (x_sipush (9999 : Int32) dX6_week_7 rfl) ?_
  refine G_ite (fun c1 => ?_) (fun c1 => ?_)
  · refine G_st (x_icmp_lt_t (tgt := 20) dX6_week_10 (by decide) c1) ?_
    refine G_st (x_aload_n dX6_week_20 rfl) ?_
    refine G_st (x_get (k := 0) (aR (1, 6)) dX6_week_21 (H0_0 0 (Nat.le_of_ble_eq_true rfl) (Nat.le_of_ble_eq_true rfl)) rfl rfl rfl rfl inTX6 (Nat.le_of_ble_eq_true rfl) tw_285 (fun ad => rfl)) ?_
    refine G_bd (fun x2 t3 h4 => ?_)
    refine G_st (x_callV [] (c_X2_spendWeek ids Hn 1 H1 _ _ _ h4) dX6_week_24 tw_605 kc_X2_spendWeek (H1 6 (Nat.le_of_ble_eq_true rfl) (Nat.le_of_ble_eq_true rfl)) rfl rfl rfl rfl ⟨Nat.le_of_ble_eq_true rfl, Nat.le_of_ble_eq_true rfl⟩ (Nat.le_of_ble_eq_true rfl) rfl) ?_
    exact G_ret rfl ⟨dX6_week_27, _, rfl, rfl⟩ rfl
  · refine G_st (x_icmp_lt_f 20 dX6_week_10 (by decide) c1) ?_
    refine G_st (x_aload_n dX6_week_13 rfl) ?_
    refine G_st (x_bipush (-6 : Int32) dX6_week_14 rfl) ?_
    refine G_bd (fun x5 t6 h7 => ?_)
    refine G_st (x_callV [] (c_X6_refuse ids Hn (-6 : Int32) H0_0 H1 H2 H3 _ _ _ h7) dX6_week_16 tw_317 kc_X6_refuse (H0_0 0 (Nat.le_of_ble_eq_true rfl) (Nat.le_of_ble_eq_true rfl)) rfl rfl rfl rfl ⟨Nat.le_of_ble_eq_true rfl, Nat.le_of_ble_eq_true rfl⟩ (Nat.le_of_ble_eq_true rfl) rfl) ?_
    exact G_ret rfl ⟨dX6_week_19, _, rfl, rfl⟩ rfl
set_option maxRecDepth 100000 in
set_option maxHeartbeats 4000000 in
theorem c_X6_week (ids : List (Nat × Nat)) (Hn : Ndp ids)  (H0_0 : InR ids 0 0 5) (H1 : InR ids 1 6 28) (H2 : InR ids 2 6 28) (H3 : InR ids 3 6 28) (t0 : Sg) (r : Int32) (t1 : Sg) (hf : f_X6_week t0 = some (r, t1)) : Mt0 mX6_week yX6_week ids [aR (0, 0)] t0 (some (aI r)) t1 :=
  Mt_of (x := (r, t1)) (g_X6_week ids Hn  H0_0 H1 H2 H3 t0) hf (fun _ _ => trivial) (by decide) rfl Hn (fun _ => rfl) (fun _ => Nat.le_of_ble_eq_true rfl)
theorem dX6_steps_0 : decode cX6_steps 0 = .ok (.aload_n 0, 1) := by decide +kernel
theorem dX6_steps_1 : decode cX6_steps 1 = .ok (.iload_n 1, 1) := by decide +kernel
theorem dX6_steps_2 : decode cX6_steps 2 = .ok (.invokevirtual 187, 3) := by decide +kernel
theorem dX6_steps_5 : decode cX6_steps 5 = .ok (.ifCond .ne 9, 3) := by decide +kernel
theorem dX6_steps_8 : decode cX6_steps 8 = .ok (.aload_n 0, 1) := by decide +kernel
theorem dX6_steps_9 : decode cX6_steps 9 = .ok (.iconst (-1), 1) := by decide +kernel
theorem dX6_steps_10 : decode cX6_steps 10 = .ok (.invokevirtual 130, 3) := by decide +kernel
theorem dX6_steps_13 : decode cX6_steps 13 = .ok (.ireturn, 1) := by decide +kernel
theorem dX6_steps_14 : decode cX6_steps 14 = .ok (.iload_n 2, 1) := by decide +kernel
theorem dX6_steps_15 : decode cX6_steps 15 = .ok (.iconst (-1), 1) := by decide +kernel
theorem dX6_steps_16 : decode cX6_steps 16 = .ok (.if_icmp .ge 10, 3) := by decide +kernel
theorem dX6_steps_19 : decode cX6_steps 19 = .ok (.aload_n 0, 1) := by decide +kernel
theorem dX6_steps_20 : decode cX6_steps 20 = .ok (.bipush (-4), 2) := by decide +kernel
theorem dX6_steps_22 : decode cX6_steps 22 = .ok (.invokevirtual 130, 3) := by decide +kernel
theorem dX6_steps_25 : decode cX6_steps 25 = .ok (.ireturn, 1) := by decide +kernel
theorem dX6_steps_26 : decode cX6_steps 26 = .ok (.aload_n 0, 1) := by decide +kernel
theorem dX6_steps_27 : decode cX6_steps 27 = .ok (.getfield 12, 3) := by decide +kernel
theorem dX6_steps_30 : decode cX6_steps 30 = .ok (.iload_n 1, 1) := by decide +kernel
theorem dX6_steps_31 : decode cX6_steps 31 = .ok (.invokevirtual 234, 3) := by decide +kernel
theorem dX6_steps_34 : decode cX6_steps 34 = .ok (.astore_n 3, 1) := by decide +kernel
theorem dX6_steps_35 : decode cX6_steps 35 = .ok (.iload_n 2, 1) := by decide +kernel
theorem dX6_steps_36 : decode cX6_steps 36 = .ok (.iconst (-1), 1) := by decide +kernel
theorem dX6_steps_37 : decode cX6_steps 37 = .ok (.if_icmp .ne 8, 3) := by decide +kernel
theorem dX6_steps_40 : decode cX6_steps 40 = .ok (.aload_n 3, 1) := by decide +kernel
theorem dX6_steps_41 : decode cX6_steps 41 = .ok (.getfield 238, 3) := by decide +kernel
theorem dX6_steps_44 : decode cX6_steps 44 = .ok (.ireturn, 1) := by decide +kernel
theorem dX6_steps_45 : decode cX6_steps 45 = .ok (.iload_n 2, 1) := by decide +kernel
theorem dX6_steps_46 : decode cX6_steps 46 = .ok (.aload_n 3, 1) := by decide +kernel
theorem dX6_steps_47 : decode cX6_steps 47 = .ok (.getfield 238, 3) := by decide +kernel
theorem dX6_steps_50 : decode cX6_steps 50 = .ok (.if_icmp .ge 17, 3) := by decide +kernel
theorem dX6_steps_53 : decode cX6_steps 53 = .ok (.aload_n 3, 1) := by decide +kernel
theorem dX6_steps_54 : decode cX6_steps 54 = .ok (.getfield 241, 3) := by decide +kernel
theorem dX6_steps_57 : decode cX6_steps 57 = .ok (.iload_n 2, 1) := by decide +kernel
theorem dX6_steps_58 : decode cX6_steps 58 = .ok (.invokestatic 59, 3) := by decide +kernel
theorem dX6_steps_61 : decode cX6_steps 61 = .ok (.invokestatic 172, 3) := by decide +kernel
theorem dX6_steps_64 : decode cX6_steps 64 = .ok (.goto 5, 3) := by decide +kernel
theorem dX6_steps_67 : decode cX6_steps 67 = .ok (.bipush (-9), 2) := by decide +kernel
theorem dX6_steps_69 : decode cX6_steps 69 = .ok (.ireturn, 1) := by decide +kernel
set_option maxRecDepth 100000 in
set_option maxHeartbeats 4000000 in
theorem g_X6_steps (ids : List (Nat × Nat)) (Hn : Ndp ids) (v1 : Int32) (v2 : Int32) (H0_0 : InR ids 0 0 5) (H1 : InR ids 1 6 28) (H2 : InR ids 2 6 28) (H3 : InR ids 3 6 28) (t0 : Sg) : Gj kI mX6_steps ids 0 [some (aR (0, 0)), some (aI v1), some (aI v2), none] [] t0 (f_X6_steps v1 v2 t0) := by
  unfold f_X6_steps
  refine G_st (x_aload_n dX6_steps_0 rfl) ?_
  refine G_st (x_iload_n dX6_steps_1 rfl) ?_
  refine G_bd (fun x1 t2 h3 => ?_)
  refine G_st (x_callV [] (c_X6_isHabit ids Hn v1 H0_0 H1 H2 H3 _ _ _ h3) dX6_steps_2 tw_554 kc_X6_isHabit (H0_0 0 (Nat.le_of_ble_eq_true rfl) (Nat.le_of_ble_eq_true rfl)) rfl rfl rfl rfl ⟨Nat.le_of_ble_eq_true rfl, Nat.le_of_ble_eq_true rfl⟩ (Nat.le_of_ble_eq_true rfl) rfl) ?_
  refine G_ite (fun c4 => ?_) (fun c4 => ?_)
  · refine G_st (x_if_ne_f 14 dX6_steps_5 (by decide) c4) ?_
    refine G_st (x_aload_n dX6_steps_8 rfl) ?_
    refine G_st (x_iconst (-1 : Int32) dX6_steps_9 rfl) ?_
    refine G_bd (fun x5 t6 h7 => ?_)
    refine G_st (x_callV [] (c_X6_refuse ids Hn (-1 : Int32) H0_0 H1 H2 H3 _ _ _ h7) dX6_steps_10 tw_317 kc_X6_refuse (H0_0 0 (Nat.le_of_ble_eq_true rfl) (Nat.le_of_ble_eq_true rfl)) rfl rfl rfl rfl ⟨Nat.le_of_ble_eq_true rfl, Nat.le_of_ble_eq_true rfl⟩ (Nat.le_of_ble_eq_true rfl) rfl) ?_
    exact G_ret rfl ⟨dX6_steps_13, _, rfl, rfl⟩ rfl
  · refine G_st (x_if_ne_t (tgt := 14) dX6_steps_5 (by decide) c4) ?_
    refine G_st (x_iload_n dX6_steps_14 rfl) ?_
    refine G_st (x_iconst (-1 : Int32) dX6_steps_15 rfl) ?_
    refine G_ite (fun c8 => ?_) (fun c8 => ?_)
    · refine G_st (x_icmp_ge_t (tgt := 26) dX6_steps_16 (by decide) c8) ?_
      refine G_st (x_aload_n dX6_steps_26 rfl) ?_
      refine G_st (x_get (k := 0) (aR (1, 6)) dX6_steps_27 (H0_0 0 (Nat.le_of_ble_eq_true rfl) (Nat.le_of_ble_eq_true rfl)) rfl rfl rfl rfl inTX6 (Nat.le_of_ble_eq_true rfl) tw_285 (fun ad => rfl)) ?_
      refine G_st (x_iload_n dX6_steps_30 rfl) ?_
      refine G_bd (fun _ t10 h11 => ?_)
      refine G_st (x_callV [] (c_X2_follow ids Hn 1 v1 H1 _ _ _ h11) dX6_steps_31 tw_660 kc_X2_follow (H1 6 (Nat.le_of_ble_eq_true rfl) (Nat.le_of_ble_eq_true rfl)) rfl rfl rfl rfl ⟨Nat.le_of_ble_eq_true rfl, Nat.le_of_ble_eq_true rfl⟩ (Nat.le_of_ble_eq_true rfl) rfl) ?_
      refine G_st (x_astore_n [some (aR (0, 0)), some (aI v1), some (aI v2), some (aR (1, 25))] dX6_steps_34 (Nat.le_of_ble_eq_true rfl) rfl rfl) ?_
      refine G_st (x_iload_n dX6_steps_35 rfl) ?_
      refine G_st (x_iconst (-1 : Int32) dX6_steps_36 rfl) ?_
      refine G_ite (fun c12 => ?_) (fun c12 => ?_)
      · refine G_st (x_icmp_ne_f 45 dX6_steps_37 (by decide) c12) ?_
        refine G_st (x_aload_n dX6_steps_40 rfl) ?_
        refine G_st (x_get (k := 3) (aI (t10 (1, 25) 3)) dX6_steps_41 (H1 25 (Nat.le_of_ble_eq_true rfl) (Nat.le_of_ble_eq_true rfl)) rfl rfl rfl rfl inTX5 (Nat.le_of_ble_eq_true rfl) tw_239 (fun ad => rfl)) ?_
        exact G_ret rfl ⟨dX6_steps_44, _, rfl, rfl⟩ rfl
      · refine G_st (x_icmp_ne_t (tgt := 45) dX6_steps_37 (by decide) c12) ?_
        refine G_st (x_iload_n dX6_steps_45 rfl) ?_
        refine G_st (x_aload_n dX6_steps_46 rfl) ?_
        refine G_st (x_get (k := 3) (aI (t10 (1, 25) 3)) dX6_steps_47 (H1 25 (Nat.le_of_ble_eq_true rfl) (Nat.le_of_ble_eq_true rfl)) rfl rfl rfl rfl inTX5 (Nat.le_of_ble_eq_true rfl) tw_239 (fun ad => rfl)) ?_
        refine G_ite (fun c13 => ?_) (fun c13 => ?_)
        · refine G_st (x_icmp_ge_t (tgt := 67) dX6_steps_50 (by decide) c13) ?_
          refine G_st (x_bipush (-9 : Int32) dX6_steps_67 rfl) ?_
          exact G_ret rfl ⟨dX6_steps_69, _, rfl, rfl⟩ rfl
        · refine G_st (x_icmp_ge_f 67 dX6_steps_50 (by decide) c13) ?_
          refine G_st (x_aload_n dX6_steps_53 rfl) ?_
          refine G_st (x_get (k := 0) (aR (1, 26)) dX6_steps_54 (H1 25 (Nat.le_of_ble_eq_true rfl) (Nat.le_of_ble_eq_true rfl)) rfl rfl rfl rfl inTX5 (Nat.le_of_ble_eq_true rfl) tw_232 (fun ad => rfl)) ?_
          refine G_st (x_iload_n dX6_steps_57 rfl) ?_
          refine G_bd (fun x14 t15 h16 => ?_)
          refine G_st (x_callS [] (c_X6_get ids Hn (1, 26) v2 (H1 26 (Nat.le_of_ble_eq_true rfl) (Nat.le_of_ble_eq_true rfl)) rfl _ _ _ h16) dX6_steps_58 tw_321 kc_X6_get rfl ⟨Nat.le_of_ble_eq_true rfl, Nat.le_of_ble_eq_true rfl⟩ (Nat.le_of_ble_eq_true rfl) rfl) ?_
          refine G_bd (fun x17 t18 h19 => ?_)
          refine G_st (x_callS [] (c_X0_flatAt ids Hn x14  _ _ _ h19) dX6_steps_61 tw_535 kc_X0_flatAt rfl ⟨Nat.le_of_ble_eq_true rfl, Nat.le_of_ble_eq_true rfl⟩ (Nat.le_of_ble_eq_true rfl) rfl) ?_
          refine G_st (x_goto (tgt := 69) dX6_steps_64 (by decide)) ?_
          exact G_ret rfl ⟨dX6_steps_69, _, rfl, rfl⟩ rfl
    · refine G_st (x_icmp_ge_f 26 dX6_steps_16 (by decide) c8) ?_
      refine G_st (x_aload_n dX6_steps_19 rfl) ?_
      refine G_st (x_bipush (-4 : Int32) dX6_steps_20 rfl) ?_
      refine G_bd (fun x20 t21 h22 => ?_)
      refine G_st (x_callV [] (c_X6_refuse ids Hn (-4 : Int32) H0_0 H1 H2 H3 _ _ _ h22) dX6_steps_22 tw_317 kc_X6_refuse (H0_0 0 (Nat.le_of_ble_eq_true rfl) (Nat.le_of_ble_eq_true rfl)) rfl rfl rfl rfl ⟨Nat.le_of_ble_eq_true rfl, Nat.le_of_ble_eq_true rfl⟩ (Nat.le_of_ble_eq_true rfl) rfl) ?_
      exact G_ret rfl ⟨dX6_steps_25, _, rfl, rfl⟩ rfl
set_option maxRecDepth 100000 in
set_option maxHeartbeats 4000000 in
theorem c_X6_steps (ids : List (Nat × Nat)) (Hn : Ndp ids) (v1 : Int32) (v2 : Int32) (H0_0 : InR ids 0 0 5) (H1 : InR ids 1 6 28) (H2 : InR ids 2 6 28) (H3 : InR ids 3 6 28) (t0 : Sg) (r : Int32) (t1 : Sg) (hf : f_X6_steps v1 v2 t0 = some (r, t1)) : Mt0 mX6_steps yX6_steps ids [aR (0, 0), aI v1, aI v2] t0 (some (aI r)) t1 :=
  Mt_of (x := (r, t1)) (g_X6_steps ids Hn v1 v2 H0_0 H1 H2 H3 t0) hf (fun _ _ => trivial) (by decide) rfl Hn (fun _ => rfl) (fun _ => Nat.le_of_ble_eq_true rfl)
theorem dX6_down_0 : decode cX6_down 0 = .ok (.aload_n 0, 1) := by decide +kernel
theorem dX6_down_1 : decode cX6_down 1 = .ok (.iload_n 1, 1) := by decide +kernel
theorem dX6_down_2 : decode cX6_down 2 = .ok (.invokevirtual 187, 3) := by decide +kernel
theorem dX6_down_5 : decode cX6_down 5 = .ok (.ifCond .ne 9, 3) := by decide +kernel
theorem dX6_down_8 : decode cX6_down 8 = .ok (.aload_n 0, 1) := by decide +kernel
theorem dX6_down_9 : decode cX6_down 9 = .ok (.iconst (-1), 1) := by decide +kernel
theorem dX6_down_10 : decode cX6_down 10 = .ok (.invokevirtual 130, 3) := by decide +kernel
theorem dX6_down_13 : decode cX6_down 13 = .ok (.ireturn, 1) := by decide +kernel
theorem dX6_down_14 : decode cX6_down 14 = .ok (.aload_n 0, 1) := by decide +kernel
theorem dX6_down_15 : decode cX6_down 15 = .ok (.getfield 12, 3) := by decide +kernel
theorem dX6_down_18 : decode cX6_down 18 = .ok (.iload_n 1, 1) := by decide +kernel
theorem dX6_down_19 : decode cX6_down 19 = .ok (.invokevirtual 234, 3) := by decide +kernel
theorem dX6_down_22 : decode cX6_down 22 = .ok (.astore_n 2, 1) := by decide +kernel
theorem dX6_down_23 : decode cX6_down 23 = .ok (.aload_n 2, 1) := by decide +kernel
theorem dX6_down_24 : decode cX6_down 24 = .ok (.getfield 238, 3) := by decide +kernel
theorem dX6_down_27 : decode cX6_down 27 = .ok (.ifCond .le 22, 3) := by decide +kernel
theorem dX6_down_30 : decode cX6_down 30 = .ok (.aload_n 2, 1) := by decide +kernel
theorem dX6_down_31 : decode cX6_down 31 = .ok (.getfield 241, 3) := by decide +kernel
theorem dX6_down_34 : decode cX6_down 34 = .ok (.aload_n 2, 1) := by decide +kernel
theorem dX6_down_35 : decode cX6_down 35 = .ok (.getfield 238, 3) := by decide +kernel
theorem dX6_down_38 : decode cX6_down 38 = .ok (.iconst 1, 1) := by decide +kernel
theorem dX6_down_39 : decode cX6_down 39 = .ok (.isub, 1) := by decide +kernel
theorem dX6_down_40 : decode cX6_down 40 = .ok (.invokestatic 59, 3) := by decide +kernel
theorem dX6_down_43 : decode cX6_down 43 = .ok (.invokestatic 172, 3) := by decide +kernel
theorem dX6_down_46 : decode cX6_down 46 = .ok (.goto 5, 3) := by decide +kernel
theorem dX6_down_49 : decode cX6_down 49 = .ok (.bipush (-9), 2) := by decide +kernel
theorem dX6_down_51 : decode cX6_down 51 = .ok (.ireturn, 1) := by decide +kernel
set_option maxRecDepth 100000 in
set_option maxHeartbeats 4000000 in
theorem g_X6_down (ids : List (Nat × Nat)) (Hn : Ndp ids) (v1 : Int32) (H0_0 : InR ids 0 0 5) (H1 : InR ids 1 6 28) (H2 : InR ids 2 6 28) (H3 : InR ids 3 6 28) (t0 : Sg) : Gj kI mX6_down ids 0 [some (aR (0, 0)), some (aI v1), none] [] t0 (f_X6_down v1 t0) := by
  unfold f_X6_down
  refine G_st (x_aload_n dX6_down_0 rfl) ?_
  refine G_st (x_iload_n dX6_down_1 rfl) ?_
  refine G_bd (fun x1 t2 h3 => ?_)
  refine G_st (x_callV [] (c_X6_isHabit ids Hn v1 H0_0 H1 H2 H3 _ _ _ h3) dX6_down_2 tw_554 kc_X6_isHabit (H0_0 0 (Nat.le_of_ble_eq_true rfl) (Nat.le_of_ble_eq_true rfl)) rfl rfl rfl rfl ⟨Nat.le_of_ble_eq_true rfl, Nat.le_of_ble_eq_true rfl⟩ (Nat.le_of_ble_eq_true rfl) rfl) ?_
  refine G_ite (fun c4 => ?_) (fun c4 => ?_)
  · refine G_st (x_if_ne_f 14 dX6_down_5 (by decide) c4) ?_
    refine G_st (x_aload_n dX6_down_8 rfl) ?_
    refine G_st (x_iconst (-1 : Int32) dX6_down_9 rfl) ?_
    refine G_bd (fun x5 t6 h7 => ?_)
    refine G_st (x_callV [] (c_X6_refuse ids Hn (-1 : Int32) H0_0 H1 H2 H3 _ _ _ h7) dX6_down_10 tw_317 kc_X6_refuse (H0_0 0 (Nat.le_of_ble_eq_true rfl) (Nat.le_of_ble_eq_true rfl)) rfl rfl rfl rfl ⟨Nat.le_of_ble_eq_true rfl, Nat.le_of_ble_eq_true rfl⟩ (Nat.le_of_ble_eq_true rfl) rfl) ?_
    exact G_ret rfl ⟨dX6_down_13, _, rfl, rfl⟩ rfl
  · refine G_st (x_if_ne_t (tgt := 14) dX6_down_5 (by decide) c4) ?_
    refine G_st (x_aload_n dX6_down_14 rfl) ?_
    refine G_st (x_get (k := 0) (aR (1, 6)) dX6_down_15 (H0_0 0 (Nat.le_of_ble_eq_true rfl) (Nat.le_of_ble_eq_true rfl)) rfl rfl rfl rfl inTX6 (Nat.le_of_ble_eq_true rfl) tw_285 (fun ad => rfl)) ?_
    refine G_st (x_iload_n dX6_down_18 rfl) ?_
    refine G_bd (fun _ t9 h10 => ?_)
    refine G_st (x_callV [] (c_X2_follow ids Hn 1 v1 H1 _ _ _ h10) dX6_down_19 tw_660 kc_X2_follow (H1 6 (Nat.le_of_ble_eq_true rfl) (Nat.le_of_ble_eq_true rfl)) rfl rfl rfl rfl ⟨Nat.le_of_ble_eq_true rfl, Nat.le_of_ble_eq_true rfl⟩ (Nat.le_of_ble_eq_true rfl) rfl) ?_
    refine G_st (x_astore_n [some (aR (0, 0)), some (aI v1), some (aR (1, 25))] dX6_down_22 (Nat.le_of_ble_eq_true rfl) rfl rfl) ?_
    refine G_st (x_aload_n dX6_down_23 rfl) ?_
    refine G_st (x_get (k := 3) (aI (t9 (1, 25) 3)) dX6_down_24 (H1 25 (Nat.le_of_ble_eq_true rfl) (Nat.le_of_ble_eq_true rfl)) rfl rfl rfl rfl inTX5 (Nat.le_of_ble_eq_true rfl) tw_239 (fun ad => rfl)) ?_
    refine G_ite (fun c11 => ?_) (fun c11 => ?_)
    · refine G_st (x_if_le_t (tgt := 49) dX6_down_27 (by decide) c11) ?_
      refine G_st (x_bipush (-9 : Int32) dX6_down_49 rfl) ?_
      exact G_ret rfl ⟨dX6_down_51, _, rfl, rfl⟩ rfl
    · refine G_st (x_if_le_f 49 dX6_down_27 (by decide) c11) ?_
      refine G_st (x_aload_n dX6_down_30 rfl) ?_
      refine G_st (x_get (k := 0) (aR (1, 26)) dX6_down_31 (H1 25 (Nat.le_of_ble_eq_true rfl) (Nat.le_of_ble_eq_true rfl)) rfl rfl rfl rfl inTX5 (Nat.le_of_ble_eq_true rfl) tw_232 (fun ad => rfl)) ?_
      refine G_st (x_aload_n dX6_down_34 rfl) ?_
      refine G_st (x_get (k := 3) (aI (t9 (1, 25) 3)) dX6_down_35 (H1 25 (Nat.le_of_ble_eq_true rfl) (Nat.le_of_ble_eq_true rfl)) rfl rfl rfl rfl inTX5 (Nat.le_of_ble_eq_true rfl) tw_239 (fun ad => rfl)) ?_
      refine G_st (x_iconst (1 : Int32) dX6_down_38 rfl) ?_
      refine G_st (x_isub dX6_down_39) ?_
      refine G_bd (fun x12 t13 h14 => ?_)
      refine G_st (x_callS [] (c_X6_get ids Hn (1, 26) ((t9 (1, 25) 3) - (1 : Int32)) (H1 26 (Nat.le_of_ble_eq_true rfl) (Nat.le_of_ble_eq_true rfl)) rfl _ _ _ h14) dX6_down_40 tw_321 kc_X6_get rfl ⟨Nat.le_of_ble_eq_true rfl, Nat.le_of_ble_eq_true rfl⟩ (Nat.le_of_ble_eq_true rfl) rfl) ?_
      refine G_bd (fun x15 t16 h17 => ?_)
      refine G_st (x_callS [] (c_X0_flatAt ids Hn x12  _ _ _ h17) dX6_down_43 tw_535 kc_X0_flatAt rfl ⟨Nat.le_of_ble_eq_true rfl, Nat.le_of_ble_eq_true rfl⟩ (Nat.le_of_ble_eq_true rfl) rfl) ?_
      refine G_st (x_goto (tgt := 51) dX6_down_46 (by decide)) ?_
      exact G_ret rfl ⟨dX6_down_51, _, rfl, rfl⟩ rfl
set_option maxRecDepth 100000 in
set_option maxHeartbeats 4000000 in
theorem c_X6_down (ids : List (Nat × Nat)) (Hn : Ndp ids) (v1 : Int32) (H0_0 : InR ids 0 0 5) (H1 : InR ids 1 6 28) (H2 : InR ids 2 6 28) (H3 : InR ids 3 6 28) (t0 : Sg) (r : Int32) (t1 : Sg) (hf : f_X6_down v1 t0 = some (r, t1)) : Mt0 mX6_down yX6_down ids [aR (0, 0), aI v1] t0 (some (aI r)) t1 :=
  Mt_of (x := (r, t1)) (g_X6_down ids Hn v1 H0_0 H1 H2 H3 t0) hf (fun _ _ => trivial) (by decide) rfl Hn (fun _ => rfl) (fun _ => Nat.le_of_ble_eq_true rfl)
theorem dX6_whom_0 : decode cX6_whom 0 = .ok (.aload_n 0, 1) := by decide +kernel
theorem dX6_whom_1 : decode cX6_whom 1 = .ok (.getfield 12, 3) := by decide +kernel
theorem dX6_whom_4 : decode cX6_whom 4 = .ok (.getfield 67, 3) := by decide +kernel
theorem dX6_whom_7 : decode cX6_whom 7 = .ok (.iload_n 1, 1) := by decide +kernel
theorem dX6_whom_8 : decode cX6_whom 8 = .ok (.invokevirtual 147, 3) := by decide +kernel
theorem dX6_whom_11 : decode cX6_whom 11 = .ok (.istore_n 3, 1) := by decide +kernel
theorem dX6_whom_12 : decode cX6_whom 12 = .ok (.iload_n 3, 1) := by decide +kernel
theorem dX6_whom_13 : decode cX6_whom 13 = .ok (.ifCond .ge 9, 3) := by decide +kernel
theorem dX6_whom_16 : decode cX6_whom 16 = .ok (.aload_n 0, 1) := by decide +kernel
theorem dX6_whom_17 : decode cX6_whom 17 = .ok (.iconst (-1), 1) := by decide +kernel
theorem dX6_whom_18 : decode cX6_whom 18 = .ok (.invokevirtual 130, 3) := by decide +kernel
theorem dX6_whom_21 : decode cX6_whom 21 = .ok (.ireturn, 1) := by decide +kernel
theorem dX6_whom_22 : decode cX6_whom 22 = .ok (.iload_n 2, 1) := by decide +kernel
theorem dX6_whom_23 : decode cX6_whom 23 = .ok (.invokestatic 215, 3) := by decide +kernel
theorem dX6_whom_26 : decode cX6_whom 26 = .ok (.ifCond .ne 10, 3) := by decide +kernel
theorem dX6_whom_29 : decode cX6_whom 29 = .ok (.aload_n 0, 1) := by decide +kernel
theorem dX6_whom_30 : decode cX6_whom 30 = .ok (.bipush (-2), 2) := by decide +kernel
theorem dX6_whom_32 : decode cX6_whom 32 = .ok (.invokevirtual 130, 3) := by decide +kernel
theorem dX6_whom_35 : decode cX6_whom 35 = .ok (.ireturn, 1) := by decide +kernel
theorem dX6_whom_36 : decode cX6_whom 36 = .ok (.iconst 0, 1) := by decide +kernel
theorem dX6_whom_37 : decode cX6_whom 37 = .ok (.istore 4, 2) := by decide +kernel
theorem dX6_whom_39 : decode cX6_whom 39 = .ok (.iconst 0, 1) := by decide +kernel
theorem dX6_whom_40 : decode cX6_whom 40 = .ok (.istore 5, 2) := by decide +kernel
theorem dX6_whom_42 : decode cX6_whom 42 = .ok (.iload 5, 2) := by decide +kernel
theorem dX6_whom_44 : decode cX6_whom 44 = .ok (.aload_n 0, 1) := by decide +kernel
theorem dX6_whom_45 : decode cX6_whom 45 = .ok (.getfield 12, 3) := by decide +kernel
theorem dX6_whom_48 : decode cX6_whom 48 = .ok (.getfield 81, 3) := by decide +kernel
theorem dX6_whom_51 : decode cX6_whom 51 = .ok (.getfield 85, 3) := by decide +kernel
theorem dX6_whom_54 : decode cX6_whom 54 = .ok (.if_icmp .ge 53, 3) := by decide +kernel
theorem dX6_whom_57 : decode cX6_whom 57 = .ok (.aload_n 0, 1) := by decide +kernel
theorem dX6_whom_58 : decode cX6_whom 58 = .ok (.getfield 12, 3) := by decide +kernel
theorem dX6_whom_61 : decode cX6_whom 61 = .ok (.getfield 81, 3) := by decide +kernel
theorem dX6_whom_64 : decode cX6_whom 64 = .ok (.getfield 116, 3) := by decide +kernel
theorem dX6_whom_67 : decode cX6_whom 67 = .ok (.iload 5, 2) := by decide +kernel
theorem dX6_whom_69 : decode cX6_whom 69 = .ok (.invokestatic 59, 3) := by decide +kernel
theorem dX6_whom_72 : decode cX6_whom 72 = .ok (.iload_n 2, 1) := by decide +kernel
theorem dX6_whom_73 : decode cX6_whom 73 = .ok (.if_icmp .ne 28, 3) := by decide +kernel
theorem dX6_whom_76 : decode cX6_whom 76 = .ok (.aload_n 0, 1) := by decide +kernel
theorem dX6_whom_77 : decode cX6_whom 77 = .ok (.getfield 12, 3) := by decide +kernel
theorem dX6_whom_80 : decode cX6_whom 80 = .ok (.iload 5, 2) := by decide +kernel
theorem dX6_whom_82 : decode cX6_whom 82 = .ok (.invokevirtual 244, 3) := by decide +kernel
theorem dX6_whom_85 : decode cX6_whom 85 = .ok (.iload_n 3, 1) := by decide +kernel
theorem dX6_whom_86 : decode cX6_whom 86 = .ok (.invokevirtual 247, 3) := by decide +kernel
theorem dX6_whom_89 : decode cX6_whom 89 = .ok (.ifCond .eq 12, 3) := by decide +kernel
theorem dX6_whom_92 : decode cX6_whom 92 = .ok (.iload 4, 2) := by decide +kernel
theorem dX6_whom_94 : decode cX6_whom 94 = .ok (.iconst 1, 1) := by decide +kernel
theorem dX6_whom_95 : decode cX6_whom 95 = .ok (.iload 5, 2) := by decide +kernel
theorem dX6_whom_97 : decode cX6_whom 97 = .ok (.ishl, 1) := by decide +kernel
theorem dX6_whom_98 : decode cX6_whom 98 = .ok (.ior, 1) := by decide +kernel
theorem dX6_whom_99 : decode cX6_whom 99 = .ok (.istore 4, 2) := by decide +kernel
theorem dX6_whom_101 : decode cX6_whom 101 = .ok (.iinc 5 1, 3) := by decide +kernel
theorem dX6_whom_104 : decode cX6_whom 104 = .ok (.goto (-62), 3) := by decide +kernel
theorem dX6_whom_107 : decode cX6_whom 107 = .ok (.iload 4, 2) := by decide +kernel
theorem dX6_whom_109 : decode cX6_whom 109 = .ok (.ireturn, 1) := by decide +kernel
set_option maxRecDepth 100000 in
set_option maxHeartbeats 4000000 in
theorem g_X6_whom_101 (ids : List (Nat × Nat)) (Hn : Ndp ids)  (H0_0 : InR ids 0 0 5) (H1 : InR ids 1 6 28) (H2 : InR ids 2 6 28) (H3 : InR ids 3 6 28) (k42 : Int32 → Int32 → Int32 → Int32 → Sg → Option (Int32 × Sg)) (hk42 : ∀ (v2 : Int32) (v3 : Int32) (v4 : Int32) (v5 : Int32) (t0 : Sg), Gj kI mX6_whom ids 42 [some (aR (0, 0)), none, some (aI v2), some (aI v3), some (aI v4), some (aI v5)] [] t0 (k42 v2 v3 v4 v5 t0)) (v2 : Int32) (v3 : Int32) (v4 : Int32) (v5 : Int32) (t0 : Sg) : Gj kI mX6_whom ids 101 [some (aR (0, 0)), none, some (aI v2), some (aI v3), some (aI v4), some (aI v5)] [] t0 (f_X6_whom_101 k42 v2 v3 v4 v5 t0) := by
  unfold f_X6_whom_101
  refine G_st (x_iinc (v5 + (1 : Int32)) [some (aR (0, 0)), none, some (aI v2), some (aI v3), some (aI v4), some (aI (v5 + (1 : Int32)))] dX6_whom_101 (Nat.le_of_ble_eq_true rfl) rfl rfl rfl rfl) ?_
  refine G_st (x_goto (tgt := 42) dX6_whom_104 (by decide)) ?_
  refine G_weak _ ?_ (hk42 v2 v3 v4 (v5 + (1 : Int32)) t0)
  exact (leL_s (leL_n (leL_s (leL_s (leL_s (leL_s (leL_e _)))))))
set_option maxRecDepth 100000 in
set_option maxHeartbeats 4000000 in
theorem g_X6_whom_42 (ids : List (Nat × Nat)) (Hn : Ndp ids)  (H0_0 : InR ids 0 0 5) (H1 : InR ids 1 6 28) (H2 : InR ids 2 6 28) (H3 : InR ids 3 6 28)  : ∀ (n : Nat) (v2 : Int32) (v3 : Int32) (v4 : Int32) (v5 : Int32) (t0 : Sg), Gj kI mX6_whom ids 42 [some (aR (0, 0)), none, some (aI v2), some (aI v3), some (aI v4), some (aI v5)] [] t0 (f_X6_whom_42 n v2 v3 v4 v5 t0) := by
  intro n
  induction n with
  | zero => intro v2 v3 v4 v5 t0; exact G_none
  | succ n ih =>
    intro v2 v3 v4 v5 t0
    rw [f_X6_whom_42]
    refine G_st (x_iload dX6_whom_42 rfl) ?_
    refine G_st (x_aload_n dX6_whom_44 rfl) ?_
    refine G_st (x_get (k := 0) (aR (1, 6)) dX6_whom_45 (H0_0 0 (Nat.le_of_ble_eq_true rfl) (Nat.le_of_ble_eq_true rfl)) rfl rfl rfl rfl inTX6 (Nat.le_of_ble_eq_true rfl) tw_285 (fun ad => rfl)) ?_
    refine G_st (x_get (k := 1) (aR (1, 15)) dX6_whom_48 (H1 6 (Nat.le_of_ble_eq_true rfl) (Nat.le_of_ble_eq_true rfl)) rfl rfl rfl rfl inTX2 (Nat.le_of_ble_eq_true rfl) tw_253 (fun ad => rfl)) ?_
    refine G_st (x_get (k := 0) (aI (t0 (1, 15) 0)) dX6_whom_51 (H1 15 (Nat.le_of_ble_eq_true rfl) (Nat.le_of_ble_eq_true rfl)) rfl rfl rfl rfl inTX1 (Nat.le_of_ble_eq_true rfl) tw_171 (fun ad => rfl)) ?_
    refine G_ite (fun c12 => ?_) (fun c12 => ?_)
    · refine G_st (x_icmp_ge_t (tgt := 107) dX6_whom_54 (by decide) c12) ?_
      refine G_st (x_iload dX6_whom_107 rfl) ?_
      exact G_ret rfl ⟨dX6_whom_109, _, rfl, rfl⟩ rfl
    · refine G_st (x_icmp_ge_f 107 dX6_whom_54 (by decide) c12) ?_
      refine G_st (x_aload_n dX6_whom_57 rfl) ?_
      refine G_st (x_get (k := 0) (aR (1, 6)) dX6_whom_58 (H0_0 0 (Nat.le_of_ble_eq_true rfl) (Nat.le_of_ble_eq_true rfl)) rfl rfl rfl rfl inTX6 (Nat.le_of_ble_eq_true rfl) tw_285 (fun ad => rfl)) ?_
      refine G_st (x_get (k := 1) (aR (1, 15)) dX6_whom_61 (H1 6 (Nat.le_of_ble_eq_true rfl) (Nat.le_of_ble_eq_true rfl)) rfl rfl rfl rfl inTX2 (Nat.le_of_ble_eq_true rfl) tw_253 (fun ad => rfl)) ?_
      refine G_st (x_get (k := 4) (aR (1, 19)) dX6_whom_64 (H1 15 (Nat.le_of_ble_eq_true rfl) (Nat.le_of_ble_eq_true rfl)) rfl rfl rfl rfl inTX1 (Nat.le_of_ble_eq_true rfl) tw_186 (fun ad => rfl)) ?_
      refine G_st (x_iload dX6_whom_67 rfl) ?_
      refine G_bd (fun x13 t14 h15 => ?_)
      refine G_st (x_callS [] (c_X6_get ids Hn (1, 19) v5 (H1 19 (Nat.le_of_ble_eq_true rfl) (Nat.le_of_ble_eq_true rfl)) rfl _ _ _ h15) dX6_whom_69 tw_321 kc_X6_get rfl ⟨Nat.le_of_ble_eq_true rfl, Nat.le_of_ble_eq_true rfl⟩ (Nat.le_of_ble_eq_true rfl) rfl) ?_
      refine G_st (x_iload_n dX6_whom_72 rfl) ?_
      refine G_ite (fun c16 => ?_) (fun c16 => ?_)
      · refine G_st (x_icmp_ne_f 101 dX6_whom_73 (by decide) c16) ?_
        refine G_st (x_aload_n dX6_whom_76 rfl) ?_
        refine G_st (x_get (k := 0) (aR (1, 6)) dX6_whom_77 (H0_0 0 (Nat.le_of_ble_eq_true rfl) (Nat.le_of_ble_eq_true rfl)) rfl rfl rfl rfl inTX6 (Nat.le_of_ble_eq_true rfl) tw_285 (fun ad => rfl)) ?_
        refine G_st (x_iload dX6_whom_80 rfl) ?_
        refine G_bd (fun _ t18 h19 => ?_)
        refine G_st (x_callV [] (c_X2_trace ids Hn 1 v5 H1 _ _ _ h19) dX6_whom_82 tw_672 kc_X2_trace (H1 6 (Nat.le_of_ble_eq_true rfl) (Nat.le_of_ble_eq_true rfl)) rfl rfl rfl rfl ⟨Nat.le_of_ble_eq_true rfl, Nat.le_of_ble_eq_true rfl⟩ (Nat.le_of_ble_eq_true rfl) rfl) ?_
        refine G_st (x_iload_n dX6_whom_85 rfl) ?_
        refine G_bd (fun x20 t21 h22 => ?_)
        refine G_st (x_callV [] (c_X5_comesTo ids Hn 1 v3 (H1.sub (Nat.le_of_ble_eq_true rfl) (Nat.le_of_ble_eq_true rfl)) _ _ _ h22) dX6_whom_86 tw_676 kc_X5_comesTo (H1 25 (Nat.le_of_ble_eq_true rfl) (Nat.le_of_ble_eq_true rfl)) rfl rfl rfl rfl ⟨Nat.le_of_ble_eq_true rfl, Nat.le_of_ble_eq_true rfl⟩ (Nat.le_of_ble_eq_true rfl) rfl) ?_
        refine G_ite (fun c23 => ?_) (fun c23 => ?_)
        · refine G_st (x_if_eq_t (tgt := 101) dX6_whom_89 (by decide) c23) ?_
          refine G_weak _ ?_ (g_X6_whom_101 ids Hn H0_0 H1 H2 H3 (f_X6_whom_42 n) (ih) v2 v3 v4 v5 t21)
          exact (leL_s (leL_n (leL_s (leL_s (leL_s (leL_s (leL_e _)))))))
        · refine G_st (x_if_eq_f 101 dX6_whom_89 (by decide) c23) ?_
          refine G_st (x_iload dX6_whom_92 rfl) ?_
          refine G_st (x_iconst (1 : Int32) dX6_whom_94 rfl) ?_
          refine G_st (x_iload dX6_whom_95 rfl) ?_
          refine G_st (x_ishl dX6_whom_97) ?_
          refine G_st (x_ior dX6_whom_98) ?_
          refine G_bvI (fun x24 => ?_)
          refine G_st (x_istore [some (aR (0, 0)), none, some (aI v2), some (aI v3), some (aI x24), some (aI v5)] dX6_whom_99 (Nat.le_of_ble_eq_true rfl) rfl rfl) ?_
          refine G_weak _ ?_ (g_X6_whom_101 ids Hn H0_0 H1 H2 H3 (f_X6_whom_42 n) (ih) v2 v3 x24 v5 t21)
          exact (leL_s (leL_n (leL_s (leL_s (leL_s (leL_s (leL_e _)))))))
      · refine G_st (x_icmp_ne_t (tgt := 101) dX6_whom_73 (by decide) c16) ?_
        refine G_weak _ ?_ (g_X6_whom_101 ids Hn H0_0 H1 H2 H3 (f_X6_whom_42 n) (ih) v2 v3 v4 v5 t14)
        exact (leL_s (leL_n (leL_s (leL_s (leL_s (leL_s (leL_e _)))))))
set_option maxRecDepth 100000 in
set_option maxHeartbeats 4000000 in
theorem g_X6_whom (ids : List (Nat × Nat)) (Hn : Ndp ids) (v1 : Int32) (v2 : Int32) (H0_0 : InR ids 0 0 5) (H1 : InR ids 1 6 28) (H2 : InR ids 2 6 28) (H3 : InR ids 3 6 28) (t0 : Sg) : Gj kI mX6_whom ids 0 [some (aR (0, 0)), some (aI v1), some (aI v2), none, none, none] [] t0 (f_X6_whom v1 v2 t0) := by
  unfold f_X6_whom
  refine G_st (x_aload_n dX6_whom_0 rfl) ?_
  refine G_st (x_get (k := 0) (aR (1, 6)) dX6_whom_1 (H0_0 0 (Nat.le_of_ble_eq_true rfl) (Nat.le_of_ble_eq_true rfl)) rfl rfl rfl rfl inTX6 (Nat.le_of_ble_eq_true rfl) tw_285 (fun ad => rfl)) ?_
  refine G_st (x_get (k := 0) (aR (1, 7)) dX6_whom_4 (H1 6 (Nat.le_of_ble_eq_true rfl) (Nat.le_of_ble_eq_true rfl)) rfl rfl rfl rfl inTX2 (Nat.le_of_ble_eq_true rfl) tw_250 (fun ad => rfl)) ?_
  refine G_st (x_iload_n dX6_whom_7 rfl) ?_
  refine G_bd (fun x1 t2 h3 => ?_)
  refine G_st (x_callV [] (c_X0_placeOf ids Hn 1 v1 (H1.sub (Nat.le_of_ble_eq_true rfl) (Nat.le_of_ble_eq_true rfl)) _ _ _ h3) dX6_whom_8 tw_521 kc_X0_placeOf (H1 7 (Nat.le_of_ble_eq_true rfl) (Nat.le_of_ble_eq_true rfl)) rfl rfl rfl rfl ⟨Nat.le_of_ble_eq_true rfl, Nat.le_of_ble_eq_true rfl⟩ (Nat.le_of_ble_eq_true rfl) rfl) ?_
  refine G_st (x_istore_n [some (aR (0, 0)), some (aI v1), some (aI v2), some (aI x1), none, none] dX6_whom_11 (Nat.le_of_ble_eq_true rfl) rfl rfl) ?_
  refine G_st (x_iload_n dX6_whom_12 rfl) ?_
  refine G_ite (fun c4 => ?_) (fun c4 => ?_)
  · refine G_st (x_if_ge_t (tgt := 22) dX6_whom_13 (by decide) c4) ?_
    refine G_st (x_iload_n dX6_whom_22 rfl) ?_
    refine G_bd (fun x5 t6 h7 => ?_)
    refine G_st (x_callS [] (c_X6_isHour ids Hn v2  _ _ _ h7) dX6_whom_23 tw_569 kc_X6_isHour rfl ⟨Nat.le_of_ble_eq_true rfl, Nat.le_of_ble_eq_true rfl⟩ (Nat.le_of_ble_eq_true rfl) rfl) ?_
    refine G_ite (fun c8 => ?_) (fun c8 => ?_)
    · refine G_st (x_if_ne_f 36 dX6_whom_26 (by decide) c8) ?_
      refine G_st (x_aload_n dX6_whom_29 rfl) ?_
      refine G_st (x_bipush (-2 : Int32) dX6_whom_30 rfl) ?_
      refine G_bd (fun x9 t10 h11 => ?_)
      refine G_st (x_callV [] (c_X6_refuse ids Hn (-2 : Int32) H0_0 H1 H2 H3 _ _ _ h11) dX6_whom_32 tw_317 kc_X6_refuse (H0_0 0 (Nat.le_of_ble_eq_true rfl) (Nat.le_of_ble_eq_true rfl)) rfl rfl rfl rfl ⟨Nat.le_of_ble_eq_true rfl, Nat.le_of_ble_eq_true rfl⟩ (Nat.le_of_ble_eq_true rfl) rfl) ?_
      exact G_ret rfl ⟨dX6_whom_35, _, rfl, rfl⟩ rfl
    · refine G_st (x_if_ne_t (tgt := 36) dX6_whom_26 (by decide) c8) ?_
      refine G_st (x_iconst (0 : Int32) dX6_whom_36 rfl) ?_
      refine G_st (x_istore [some (aR (0, 0)), some (aI v1), some (aI v2), some (aI x1), some (aI (0 : Int32)), none] dX6_whom_37 (Nat.le_of_ble_eq_true rfl) rfl rfl) ?_
      refine G_st (x_iconst (0 : Int32) dX6_whom_39 rfl) ?_
      refine G_st (x_istore [some (aR (0, 0)), some (aI v1), some (aI v2), some (aI x1), some (aI (0 : Int32)), some (aI (0 : Int32))] dX6_whom_40 (Nat.le_of_ble_eq_true rfl) rfl rfl) ?_
      refine G_weak _ ?_ (g_X6_whom_42 ids Hn H0_0 H1 H2 H3 fuel v2 x1 (0 : Int32) (0 : Int32) t6)
      exact (leL_s (leL_n (leL_s (leL_s (leL_s (leL_s (leL_e _)))))))
  · refine G_st (x_if_ge_f 22 dX6_whom_13 (by decide) c4) ?_
    refine G_st (x_aload_n dX6_whom_16 rfl) ?_
    refine G_st (x_iconst (-1 : Int32) dX6_whom_17 rfl) ?_
    refine G_bd (fun x25 t26 h27 => ?_)
    refine G_st (x_callV [] (c_X6_refuse ids Hn (-1 : Int32) H0_0 H1 H2 H3 _ _ _ h27) dX6_whom_18 tw_317 kc_X6_refuse (H0_0 0 (Nat.le_of_ble_eq_true rfl) (Nat.le_of_ble_eq_true rfl)) rfl rfl rfl rfl ⟨Nat.le_of_ble_eq_true rfl, Nat.le_of_ble_eq_true rfl⟩ (Nat.le_of_ble_eq_true rfl) rfl) ?_
    exact G_ret rfl ⟨dX6_whom_21, _, rfl, rfl⟩ rfl
set_option maxRecDepth 100000 in
set_option maxHeartbeats 4000000 in
theorem c_X6_whom (ids : List (Nat × Nat)) (Hn : Ndp ids) (v1 : Int32) (v2 : Int32) (H0_0 : InR ids 0 0 5) (H1 : InR ids 1 6 28) (H2 : InR ids 2 6 28) (H3 : InR ids 3 6 28) (t0 : Sg) (r : Int32) (t1 : Sg) (hf : f_X6_whom v1 v2 t0 = some (r, t1)) : Mt0 mX6_whom yX6_whom ids [aR (0, 0), aI v1, aI v2] t0 (some (aI r)) t1 :=
  Mt_of (x := (r, t1)) (g_X6_whom ids Hn v1 v2 H0_0 H1 H2 H3 t0) hf (fun _ _ => trivial) (by decide) rfl Hn (fun _ => rfl) (fun _ => Nat.le_of_ble_eq_true rfl)
theorem dX6_does_0 : decode cX6_does 0 = .ok (.aload_n 0, 1) := by decide +kernel
theorem dX6_does_1 : decode cX6_does 1 = .ok (.iload_n 1, 1) := by decide +kernel
theorem dX6_does_2 : decode cX6_does 2 = .ok (.invokevirtual 187, 3) := by decide +kernel
theorem dX6_does_5 : decode cX6_does 5 = .ok (.ifCond .eq 11, 3) := by decide +kernel
theorem dX6_does_8 : decode cX6_does 8 = .ok (.aload_n 0, 1) := by decide +kernel
theorem dX6_does_9 : decode cX6_does 9 = .ok (.iload_n 2, 1) := by decide +kernel
theorem dX6_does_10 : decode cX6_does 10 = .ok (.invokevirtual 165, 3) := by decide +kernel
theorem dX6_does_13 : decode cX6_does 13 = .ok (.ifCond .ne 9, 3) := by decide +kernel
theorem dX6_does_16 : decode cX6_does 16 = .ok (.aload_n 0, 1) := by decide +kernel
theorem dX6_does_17 : decode cX6_does 17 = .ok (.iconst (-1), 1) := by decide +kernel
theorem dX6_does_18 : decode cX6_does 18 = .ok (.invokevirtual 130, 3) := by decide +kernel
theorem dX6_does_21 : decode cX6_does 21 = .ok (.ireturn, 1) := by decide +kernel
theorem dX6_does_22 : decode cX6_does 22 = .ok (.aload_n 0, 1) := by decide +kernel
theorem dX6_does_23 : decode cX6_does 23 = .ok (.getfield 12, 3) := by decide +kernel
theorem dX6_does_26 : decode cX6_does 26 = .ok (.iload_n 1, 1) := by decide +kernel
theorem dX6_does_27 : decode cX6_does 27 = .ok (.invokevirtual 234, 3) := by decide +kernel
theorem dX6_does_30 : decode cX6_does 30 = .ok (.astore_n 3, 1) := by decide +kernel
theorem dX6_does_31 : decode cX6_does 31 = .ok (.iconst 0, 1) := by decide +kernel
theorem dX6_does_32 : decode cX6_does 32 = .ok (.istore 4, 2) := by decide +kernel
theorem dX6_does_34 : decode cX6_does 34 = .ok (.iconst 0, 1) := by decide +kernel
theorem dX6_does_35 : decode cX6_does 35 = .ok (.istore 5, 2) := by decide +kernel
theorem dX6_does_37 : decode cX6_does 37 = .ok (.iload 5, 2) := by decide +kernel
theorem dX6_does_39 : decode cX6_does 39 = .ok (.aload_n 3, 1) := by decide +kernel
theorem dX6_does_40 : decode cX6_does 40 = .ok (.getfield 238, 3) := by decide +kernel
theorem dX6_does_43 : decode cX6_does 43 = .ok (.if_icmp .ge 50, 3) := by decide +kernel
theorem dX6_does_46 : decode cX6_does 46 = .ok (.aload_n 0, 1) := by decide +kernel
theorem dX6_does_47 : decode cX6_does 47 = .ok (.getfield 12, 3) := by decide +kernel
theorem dX6_does_50 : decode cX6_does 50 = .ok (.getfield 67, 3) := by decide +kernel
theorem dX6_does_53 : decode cX6_does 53 = .ok (.getfield 162, 3) := by decide +kernel
theorem dX6_does_56 : decode cX6_does 56 = .ok (.aload_n 3, 1) := by decide +kernel
theorem dX6_does_57 : decode cX6_does 57 = .ok (.getfield 241, 3) := by decide +kernel
theorem dX6_does_60 : decode cX6_does 60 = .ok (.iload 5, 2) := by decide +kernel
theorem dX6_does_62 : decode cX6_does 62 = .ok (.invokestatic 59, 3) := by decide +kernel
theorem dX6_does_65 : decode cX6_does 65 = .ok (.invokestatic 59, 3) := by decide +kernel
theorem dX6_does_68 : decode cX6_does 68 = .ok (.iload_n 2, 1) := by decide +kernel
theorem dX6_does_69 : decode cX6_does 69 = .ok (.if_icmp .ne 18, 3) := by decide +kernel
theorem dX6_does_72 : decode cX6_does 72 = .ok (.iload 4, 2) := by decide +kernel
theorem dX6_does_74 : decode cX6_does 74 = .ok (.aload_n 0, 1) := by decide +kernel
theorem dX6_does_75 : decode cX6_does 75 = .ok (.getfield 12, 3) := by decide +kernel
theorem dX6_does_78 : decode cX6_does 78 = .ok (.iload_n 1, 1) := by decide +kernel
theorem dX6_does_79 : decode cX6_does 79 = .ok (.iload 5, 2) := by decide +kernel
theorem dX6_does_81 : decode cX6_does 81 = .ok (.invokevirtual 250, 3) := by decide +kernel
theorem dX6_does_84 : decode cX6_does 84 = .ok (.iadd, 1) := by decide +kernel
theorem dX6_does_85 : decode cX6_does 85 = .ok (.istore 4, 2) := by decide +kernel
theorem dX6_does_87 : decode cX6_does 87 = .ok (.iinc 5 1, 3) := by decide +kernel
theorem dX6_does_90 : decode cX6_does 90 = .ok (.goto (-53), 3) := by decide +kernel
theorem dX6_does_93 : decode cX6_does 93 = .ok (.iload 4, 2) := by decide +kernel
theorem dX6_does_95 : decode cX6_does 95 = .ok (.ireturn, 1) := by decide +kernel
set_option maxRecDepth 100000 in
set_option maxHeartbeats 4000000 in
theorem g_X6_does_16 (ids : List (Nat × Nat)) (Hn : Ndp ids)  (H0_0 : InR ids 0 0 5) (H1 : InR ids 1 6 28) (H2 : InR ids 2 6 28) (H3 : InR ids 3 6 28)   (t0 : Sg) : Gj kI mX6_does ids 16 [some (aR (0, 0)), none, none, none, none, none] [] t0 (f_X6_does_16 t0) := by
  unfold f_X6_does_16
  refine G_st (x_aload_n dX6_does_16 rfl) ?_
  refine G_st (x_iconst (-1 : Int32) dX6_does_17 rfl) ?_
  refine G_bd (fun x5 t6 h7 => ?_)
  refine G_st (x_callV [] (c_X6_refuse ids Hn (-1 : Int32) H0_0 H1 H2 H3 _ _ _ h7) dX6_does_18 tw_317 kc_X6_refuse (H0_0 0 (Nat.le_of_ble_eq_true rfl) (Nat.le_of_ble_eq_true rfl)) rfl rfl rfl rfl ⟨Nat.le_of_ble_eq_true rfl, Nat.le_of_ble_eq_true rfl⟩ (Nat.le_of_ble_eq_true rfl) rfl) ?_
  exact G_ret rfl ⟨dX6_does_21, _, rfl, rfl⟩ rfl
set_option maxRecDepth 100000 in
set_option maxHeartbeats 4000000 in
theorem g_X6_does_87 (ids : List (Nat × Nat)) (Hn : Ndp ids)  (H0_0 : InR ids 0 0 5) (H1 : InR ids 1 6 28) (H2 : InR ids 2 6 28) (H3 : InR ids 3 6 28) (k37 : Int32 → Int32 → Int32 → Int32 → Sg → Option (Int32 × Sg)) (hk37 : ∀ (v1 : Int32) (v2 : Int32) (v4 : Int32) (v5 : Int32) (t0 : Sg), Gj kI mX6_does ids 37 [some (aR (0, 0)), some (aI v1), some (aI v2), some (aR (1, 25)), some (aI v4), some (aI v5)] [] t0 (k37 v1 v2 v4 v5 t0)) (v1 : Int32) (v2 : Int32) (v4 : Int32) (v5 : Int32) (t0 : Sg) : Gj kI mX6_does ids 87 [some (aR (0, 0)), some (aI v1), some (aI v2), some (aR (1, 25)), some (aI v4), some (aI v5)] [] t0 (f_X6_does_87 k37 v1 v2 v4 v5 t0) := by
  unfold f_X6_does_87
  refine G_st (x_iinc (v5 + (1 : Int32)) [some (aR (0, 0)), some (aI v1), some (aI v2), some (aR (1, 25)), some (aI v4), some (aI (v5 + (1 : Int32)))] dX6_does_87 (Nat.le_of_ble_eq_true rfl) rfl rfl rfl rfl) ?_
  refine G_st (x_goto (tgt := 37) dX6_does_90 (by decide)) ?_
  refine G_weak _ ?_ (hk37 v1 v2 v4 (v5 + (1 : Int32)) t0)
  exact (leL_s (leL_s (leL_s (leL_s (leL_s (leL_s (leL_e _)))))))
set_option maxRecDepth 100000 in
set_option maxHeartbeats 4000000 in
theorem g_X6_does_37 (ids : List (Nat × Nat)) (Hn : Ndp ids)  (H0_0 : InR ids 0 0 5) (H1 : InR ids 1 6 28) (H2 : InR ids 2 6 28) (H3 : InR ids 3 6 28)  : ∀ (n : Nat) (v1 : Int32) (v2 : Int32) (v4 : Int32) (v5 : Int32) (t0 : Sg), Gj kI mX6_does ids 37 [some (aR (0, 0)), some (aI v1), some (aI v2), some (aR (1, 25)), some (aI v4), some (aI v5)] [] t0 (f_X6_does_37 n v1 v2 v4 v5 t0) := by
  intro n
  induction n with
  | zero => intro v1 v2 v4 v5 t0; exact G_none
  | succ n ih =>
    intro v1 v2 v4 v5 t0
    rw [f_X6_does_37]
    refine G_st (x_iload dX6_does_37 rfl) ?_
    refine G_st (x_aload_n dX6_does_39 rfl) ?_
    refine G_st (x_get (k := 3) (aI (t0 (1, 25) 3)) dX6_does_40 (H1 25 (Nat.le_of_ble_eq_true rfl) (Nat.le_of_ble_eq_true rfl)) rfl rfl rfl rfl inTX5 (Nat.le_of_ble_eq_true rfl) tw_239 (fun ad => rfl)) ?_
    refine G_ite (fun c15 => ?_) (fun c15 => ?_)
    · refine G_st (x_icmp_ge_t (tgt := 93) dX6_does_43 (by decide) c15) ?_
      refine G_st (x_iload dX6_does_93 rfl) ?_
      exact G_ret rfl ⟨dX6_does_95, _, rfl, rfl⟩ rfl
    · refine G_st (x_icmp_ge_f 93 dX6_does_43 (by decide) c15) ?_
      refine G_st (x_aload_n dX6_does_46 rfl) ?_
      refine G_st (x_get (k := 0) (aR (1, 6)) dX6_does_47 (H0_0 0 (Nat.le_of_ble_eq_true rfl) (Nat.le_of_ble_eq_true rfl)) rfl rfl rfl rfl inTX6 (Nat.le_of_ble_eq_true rfl) tw_285 (fun ad => rfl)) ?_
      refine G_st (x_get (k := 0) (aR (1, 7)) dX6_does_50 (H1 6 (Nat.le_of_ble_eq_true rfl) (Nat.le_of_ble_eq_true rfl)) rfl rfl rfl rfl inTX2 (Nat.le_of_ble_eq_true rfl) tw_250 (fun ad => rfl)) ?_
      refine G_st (x_get (k := 8) (aR (1, 13)) dX6_does_53 (H1 7 (Nat.le_of_ble_eq_true rfl) (Nat.le_of_ble_eq_true rfl)) rfl rfl rfl rfl inTX0 (Nat.le_of_ble_eq_true rfl) tw_137 (fun ad => rfl)) ?_
      refine G_st (x_aload_n dX6_does_56 rfl) ?_
      refine G_st (x_get (k := 0) (aR (1, 26)) dX6_does_57 (H1 25 (Nat.le_of_ble_eq_true rfl) (Nat.le_of_ble_eq_true rfl)) rfl rfl rfl rfl inTX5 (Nat.le_of_ble_eq_true rfl) tw_232 (fun ad => rfl)) ?_
      refine G_st (x_iload dX6_does_60 rfl) ?_
      refine G_bd (fun x16 t17 h18 => ?_)
      refine G_st (x_callS [aR (1, 13)] (c_X6_get ids Hn (1, 26) v5 (H1 26 (Nat.le_of_ble_eq_true rfl) (Nat.le_of_ble_eq_true rfl)) rfl _ _ _ h18) dX6_does_62 tw_321 kc_X6_get rfl ⟨Nat.le_of_ble_eq_true rfl, Nat.le_of_ble_eq_true rfl⟩ (Nat.le_of_ble_eq_true rfl) rfl) ?_
      refine G_bd (fun x19 t20 h21 => ?_)
      refine G_st (x_callS [] (c_X6_get ids Hn (1, 13) x16 (H1 13 (Nat.le_of_ble_eq_true rfl) (Nat.le_of_ble_eq_true rfl)) rfl _ _ _ h21) dX6_does_65 tw_321 kc_X6_get rfl ⟨Nat.le_of_ble_eq_true rfl, Nat.le_of_ble_eq_true rfl⟩ (Nat.le_of_ble_eq_true rfl) rfl) ?_
      refine G_st (x_iload_n dX6_does_68 rfl) ?_
      refine G_ite (fun c22 => ?_) (fun c22 => ?_)
      · refine G_st (x_icmp_ne_f 87 dX6_does_69 (by decide) c22) ?_
        refine G_st (x_iload dX6_does_72 rfl) ?_
        refine G_st (x_aload_n dX6_does_74 rfl) ?_
        refine G_st (x_get (k := 0) (aR (1, 6)) dX6_does_75 (H0_0 0 (Nat.le_of_ble_eq_true rfl) (Nat.le_of_ble_eq_true rfl)) rfl rfl rfl rfl inTX6 (Nat.le_of_ble_eq_true rfl) tw_285 (fun ad => rfl)) ?_
        refine G_st (x_iload_n dX6_does_78 rfl) ?_
        refine G_st (x_iload dX6_does_79 rfl) ?_
        refine G_bd (fun x23 t24 h25 => ?_)
        refine G_st (x_callV [aI v4] (c_X2_harmAt ids Hn 1 v1 v5 H1 _ _ _ h25) dX6_does_81 tw_684 kc_X2_harmAt (H1 6 (Nat.le_of_ble_eq_true rfl) (Nat.le_of_ble_eq_true rfl)) rfl rfl rfl rfl ⟨Nat.le_of_ble_eq_true rfl, Nat.le_of_ble_eq_true rfl⟩ (Nat.le_of_ble_eq_true rfl) rfl) ?_
        refine G_st (x_iadd dX6_does_84) ?_
        refine G_bvI (fun x26 => ?_)
        refine G_st (x_istore [some (aR (0, 0)), some (aI v1), some (aI v2), some (aR (1, 25)), some (aI x26), some (aI v5)] dX6_does_85 (Nat.le_of_ble_eq_true rfl) rfl rfl) ?_
        refine G_weak _ ?_ (g_X6_does_87 ids Hn H0_0 H1 H2 H3 (f_X6_does_37 n) (ih) v1 v2 x26 v5 t24)
        exact (leL_s (leL_s (leL_s (leL_s (leL_s (leL_s (leL_e _)))))))
      · refine G_st (x_icmp_ne_t (tgt := 87) dX6_does_69 (by decide) c22) ?_
        refine G_weak _ ?_ (g_X6_does_87 ids Hn H0_0 H1 H2 H3 (f_X6_does_37 n) (ih) v1 v2 v4 v5 t20)
        exact (leL_s (leL_s (leL_s (leL_s (leL_s (leL_s (leL_e _)))))))
set_option maxRecDepth 100000 in
set_option maxHeartbeats 4000000 in
theorem g_X6_does (ids : List (Nat × Nat)) (Hn : Ndp ids) (v1 : Int32) (v2 : Int32) (H0_0 : InR ids 0 0 5) (H1 : InR ids 1 6 28) (H2 : InR ids 2 6 28) (H3 : InR ids 3 6 28) (t0 : Sg) : Gj kI mX6_does ids 0 [some (aR (0, 0)), some (aI v1), some (aI v2), none, none, none] [] t0 (f_X6_does v1 v2 t0) := by
  unfold f_X6_does
  refine G_st (x_aload_n dX6_does_0 rfl) ?_
  refine G_st (x_iload_n dX6_does_1 rfl) ?_
  refine G_bd (fun x1 t2 h3 => ?_)
  refine G_st (x_callV [] (c_X6_isHabit ids Hn v1 H0_0 H1 H2 H3 _ _ _ h3) dX6_does_2 tw_554 kc_X6_isHabit (H0_0 0 (Nat.le_of_ble_eq_true rfl) (Nat.le_of_ble_eq_true rfl)) rfl rfl rfl rfl ⟨Nat.le_of_ble_eq_true rfl, Nat.le_of_ble_eq_true rfl⟩ (Nat.le_of_ble_eq_true rfl) rfl) ?_
  refine G_ite (fun c4 => ?_) (fun c4 => ?_)
  · refine G_st (x_if_eq_t (tgt := 16) dX6_does_5 (by decide) c4) ?_
    refine G_weak _ ?_ (g_X6_does_16 ids Hn H0_0 H1 H2 H3 t2)
    exact (leL_s (leL_n (leL_n (leL_n (leL_n (leL_n (leL_e _)))))))
  · refine G_st (x_if_eq_f 16 dX6_does_5 (by decide) c4) ?_
    refine G_st (x_aload_n dX6_does_8 rfl) ?_
    refine G_st (x_iload_n dX6_does_9 rfl) ?_
    refine G_bd (fun x8 t9 h10 => ?_)
    refine G_st (x_callV [] (c_X6_isTenant ids Hn v2 H0_0 H1 H2 H3 _ _ _ h10) dX6_does_10 tw_530 kc_X6_isTenant (H0_0 0 (Nat.le_of_ble_eq_true rfl) (Nat.le_of_ble_eq_true rfl)) rfl rfl rfl rfl ⟨Nat.le_of_ble_eq_true rfl, Nat.le_of_ble_eq_true rfl⟩ (Nat.le_of_ble_eq_true rfl) rfl) ?_
    refine G_ite (fun c11 => ?_) (fun c11 => ?_)
    · refine G_st (x_if_ne_f 22 dX6_does_13 (by decide) c11) ?_
      refine G_weak _ ?_ (g_X6_does_16 ids Hn H0_0 H1 H2 H3 t9)
      exact (leL_s (leL_n (leL_n (leL_n (leL_n (leL_n (leL_e _)))))))
    · refine G_st (x_if_ne_t (tgt := 22) dX6_does_13 (by decide) c11) ?_
      refine G_st (x_aload_n dX6_does_22 rfl) ?_
      refine G_st (x_get (k := 0) (aR (1, 6)) dX6_does_23 (H0_0 0 (Nat.le_of_ble_eq_true rfl) (Nat.le_of_ble_eq_true rfl)) rfl rfl rfl rfl inTX6 (Nat.le_of_ble_eq_true rfl) tw_285 (fun ad => rfl)) ?_
      refine G_st (x_iload_n dX6_does_26 rfl) ?_
      refine G_bd (fun _ t13 h14 => ?_)
      refine G_st (x_callV [] (c_X2_follow ids Hn 1 v1 H1 _ _ _ h14) dX6_does_27 tw_660 kc_X2_follow (H1 6 (Nat.le_of_ble_eq_true rfl) (Nat.le_of_ble_eq_true rfl)) rfl rfl rfl rfl ⟨Nat.le_of_ble_eq_true rfl, Nat.le_of_ble_eq_true rfl⟩ (Nat.le_of_ble_eq_true rfl) rfl) ?_
      refine G_st (x_astore_n [some (aR (0, 0)), some (aI v1), some (aI v2), some (aR (1, 25)), none, none] dX6_does_30 (Nat.le_of_ble_eq_true rfl) rfl rfl) ?_
      refine G_st (x_iconst (0 : Int32) dX6_does_31 rfl) ?_
      refine G_st (x_istore [some (aR (0, 0)), some (aI v1), some (aI v2), some (aR (1, 25)), some (aI (0 : Int32)), none] dX6_does_32 (Nat.le_of_ble_eq_true rfl) rfl rfl) ?_
      refine G_st (x_iconst (0 : Int32) dX6_does_34 rfl) ?_
      refine G_st (x_istore [some (aR (0, 0)), some (aI v1), some (aI v2), some (aR (1, 25)), some (aI (0 : Int32)), some (aI (0 : Int32))] dX6_does_35 (Nat.le_of_ble_eq_true rfl) rfl rfl) ?_
      refine G_weak _ ?_ (g_X6_does_37 ids Hn H0_0 H1 H2 H3 fuel v1 v2 (0 : Int32) (0 : Int32) t13)
      exact (leL_s (leL_s (leL_s (leL_s (leL_s (leL_s (leL_e _)))))))
set_option maxRecDepth 100000 in
set_option maxHeartbeats 4000000 in
theorem c_X6_does (ids : List (Nat × Nat)) (Hn : Ndp ids) (v1 : Int32) (v2 : Int32) (H0_0 : InR ids 0 0 5) (H1 : InR ids 1 6 28) (H2 : InR ids 2 6 28) (H3 : InR ids 3 6 28) (t0 : Sg) (r : Int32) (t1 : Sg) (hf : f_X6_does v1 v2 t0 = some (r, t1)) : Mt0 mX6_does yX6_does ids [aR (0, 0), aI v1, aI v2] t0 (some (aI r)) t1 :=
  Mt_of (x := (r, t1)) (g_X6_does ids Hn v1 v2 H0_0 H1 H2 H3 t0) hf (fun _ _ => trivial) (by decide) rfl Hn (fun _ => rfl) (fun _ => Nat.le_of_ble_eq_true rfl)
theorem dX6_harmed_0 : decode cX6_harmed 0 = .ok (.iload_n 1, 1) := by decide +kernel
theorem dX6_harmed_1 : decode cX6_harmed 1 = .ok (.iconst (-1), 1) := by decide +kernel
theorem dX6_harmed_2 : decode cX6_harmed 2 = .ok (.if_icmp .eq 17, 3) := by decide +kernel
theorem dX6_harmed_5 : decode cX6_harmed 5 = .ok (.aload_n 0, 1) := by decide +kernel
theorem dX6_harmed_6 : decode cX6_harmed 6 = .ok (.iload_n 1, 1) := by decide +kernel
theorem dX6_harmed_7 : decode cX6_harmed 7 = .ok (.invokevirtual 165, 3) := by decide +kernel
theorem dX6_harmed_10 : decode cX6_harmed 10 = .ok (.ifCond .ne 9, 3) := by decide +kernel
theorem dX6_harmed_13 : decode cX6_harmed 13 = .ok (.aload_n 0, 1) := by decide +kernel
theorem dX6_harmed_14 : decode cX6_harmed 14 = .ok (.iconst (-1), 1) := by decide +kernel
theorem dX6_harmed_15 : decode cX6_harmed 15 = .ok (.invokevirtual 130, 3) := by decide +kernel
theorem dX6_harmed_18 : decode cX6_harmed 18 = .ok (.ireturn, 1) := by decide +kernel
theorem dX6_harmed_19 : decode cX6_harmed 19 = .ok (.iload_n 2, 1) := by decide +kernel
theorem dX6_harmed_20 : decode cX6_harmed 20 = .ok (.iconst 1, 1) := by decide +kernel
theorem dX6_harmed_21 : decode cX6_harmed 21 = .ok (.if_icmp .ge 10, 3) := by decide +kernel
theorem dX6_harmed_24 : decode cX6_harmed 24 = .ok (.aload_n 0, 1) := by decide +kernel
theorem dX6_harmed_25 : decode cX6_harmed 25 = .ok (.bipush (-4), 2) := by decide +kernel
theorem dX6_harmed_27 : decode cX6_harmed 27 = .ok (.invokevirtual 130, 3) := by decide +kernel
theorem dX6_harmed_30 : decode cX6_harmed 30 = .ok (.ireturn, 1) := by decide +kernel
theorem dX6_harmed_31 : decode cX6_harmed 31 = .ok (.iload_n 2, 1) := by decide +kernel
theorem dX6_harmed_32 : decode cX6_harmed 32 = .ok (.bipush 20, 2) := by decide +kernel
theorem dX6_harmed_34 : decode cX6_harmed 34 = .ok (.if_icmp .le 10, 3) := by decide +kernel
theorem dX6_harmed_37 : decode cX6_harmed 37 = .ok (.aload_n 0, 1) := by decide +kernel
theorem dX6_harmed_38 : decode cX6_harmed 38 = .ok (.bipush (-6), 2) := by decide +kernel
theorem dX6_harmed_40 : decode cX6_harmed 40 = .ok (.invokevirtual 130, 3) := by decide +kernel
theorem dX6_harmed_43 : decode cX6_harmed 43 = .ok (.ireturn, 1) := by decide +kernel
theorem dX6_harmed_44 : decode cX6_harmed 44 = .ok (.aload_n 0, 1) := by decide +kernel
theorem dX6_harmed_45 : decode cX6_harmed 45 = .ok (.invokevirtual 97, 3) := by decide +kernel
theorem dX6_harmed_48 : decode cX6_harmed 48 = .ok (.iconst 0, 1) := by decide +kernel
theorem dX6_harmed_49 : decode cX6_harmed 49 = .ok (.istore_n 3, 1) := by decide +kernel
theorem dX6_harmed_50 : decode cX6_harmed 50 = .ok (.iconst 0, 1) := by decide +kernel
theorem dX6_harmed_51 : decode cX6_harmed 51 = .ok (.istore 4, 2) := by decide +kernel
theorem dX6_harmed_53 : decode cX6_harmed 53 = .ok (.iload 4, 2) := by decide +kernel
theorem dX6_harmed_55 : decode cX6_harmed 55 = .ok (.iload_n 2, 1) := by decide +kernel
theorem dX6_harmed_56 : decode cX6_harmed 56 = .ok (.if_icmp .ge 36, 3) := by decide +kernel
theorem dX6_harmed_59 : decode cX6_harmed 59 = .ok (.aload_n 0, 1) := by decide +kernel
theorem dX6_harmed_60 : decode cX6_harmed 60 = .ok (.getfield 19, 3) := by decide +kernel
theorem dX6_harmed_63 : decode cX6_harmed 63 = .ok (.invokevirtual 100, 3) := by decide +kernel
theorem dX6_harmed_66 : decode cX6_harmed 66 = .ok (.istore 5, 2) := by decide +kernel
theorem dX6_harmed_68 : decode cX6_harmed 68 = .ok (.iload_n 3, 1) := by decide +kernel
theorem dX6_harmed_69 : decode cX6_harmed 69 = .ok (.iload_n 1, 1) := by decide +kernel
theorem dX6_harmed_70 : decode cX6_harmed 70 = .ok (.iconst (-1), 1) := by decide +kernel
theorem dX6_harmed_71 : decode cX6_harmed 71 = .ok (.if_icmp .ne 8, 3) := by decide +kernel
theorem dX6_harmed_74 : decode cX6_harmed 74 = .ok (.iload 5, 2) := by decide +kernel
theorem dX6_harmed_76 : decode cX6_harmed 76 = .ok (.goto 8, 3) := by decide +kernel
theorem dX6_harmed_79 : decode cX6_harmed 79 = .ok (.aload_n 0, 1) := by decide +kernel
theorem dX6_harmed_80 : decode cX6_harmed 80 = .ok (.iload_n 1, 1) := by decide +kernel
theorem dX6_harmed_81 : decode cX6_harmed 81 = .ok (.invokevirtual 126, 3) := by decide +kernel
theorem dX6_harmed_84 : decode cX6_harmed 84 = .ok (.iadd, 1) := by decide +kernel
theorem dX6_harmed_85 : decode cX6_harmed 85 = .ok (.istore_n 3, 1) := by decide +kernel
theorem dX6_harmed_86 : decode cX6_harmed 86 = .ok (.iinc 4 1, 3) := by decide +kernel
theorem dX6_harmed_89 : decode cX6_harmed 89 = .ok (.goto (-36), 3) := by decide +kernel
theorem dX6_harmed_92 : decode cX6_harmed 92 = .ok (.iload_n 3, 1) := by decide +kernel
theorem dX6_harmed_93 : decode cX6_harmed 93 = .ok (.ireturn, 1) := by decide +kernel
set_option maxRecDepth 100000 in
set_option maxHeartbeats 4000000 in
theorem g_X6_harmed_84 (ids : List (Nat × Nat)) (Hn : Ndp ids)  (H0_0 : InR ids 0 0 5) (H1 : InR ids 1 6 28) (H2 : InR ids 2 6 28) (H3 : InR ids 3 6 28) (k53 : Int32 → Int32 → Int32 → Int32 → Sg → Option (Int32 × Sg)) (hk53 : ∀ (v1 : Int32) (v2 : Int32) (v3 : Int32) (v4 : Int32) (t0 : Sg), Gj kI mX6_harmed ids 53 [some (aR (0, 0)), some (aI v1), some (aI v2), some (aI v3), some (aI v4), none] [] t0 (k53 v1 v2 v3 v4 t0)) (v1 : Int32) (v2 : Int32) (v4 : Int32) (w0 : Int32) (w1 : Int32) (t0 : Sg) : Gj kI mX6_harmed ids 84 [some (aR (0, 0)), some (aI v1), some (aI v2), none, some (aI v4), none] [aI w0, aI w1] t0 (f_X6_harmed_84 k53 v1 v2 v4 w0 w1 t0) := by
  unfold f_X6_harmed_84
  refine G_st (x_iadd dX6_harmed_84) ?_
  refine G_bvI (fun x12 => ?_)
  refine G_st (x_istore_n [some (aR (0, 0)), some (aI v1), some (aI v2), some (aI x12), some (aI v4), none] dX6_harmed_85 (Nat.le_of_ble_eq_true rfl) rfl rfl) ?_
  refine G_st (x_iinc (v4 + (1 : Int32)) [some (aR (0, 0)), some (aI v1), some (aI v2), some (aI x12), some (aI (v4 + (1 : Int32))), none] dX6_harmed_86 (Nat.le_of_ble_eq_true rfl) rfl rfl rfl rfl) ?_
  refine G_st (x_goto (tgt := 53) dX6_harmed_89 (by decide)) ?_
  refine G_weak _ ?_ (hk53 v1 v2 x12 (v4 + (1 : Int32)) t0)
  exact (leL_s (leL_s (leL_s (leL_s (leL_s (leL_n (leL_e _)))))))
set_option maxRecDepth 100000 in
set_option maxHeartbeats 4000000 in
theorem g_X6_harmed_53 (ids : List (Nat × Nat)) (Hn : Ndp ids)  (H0_0 : InR ids 0 0 5) (H1 : InR ids 1 6 28) (H2 : InR ids 2 6 28) (H3 : InR ids 3 6 28)  : ∀ (n : Nat) (v1 : Int32) (v2 : Int32) (v3 : Int32) (v4 : Int32) (t0 : Sg), Gj kI mX6_harmed ids 53 [some (aR (0, 0)), some (aI v1), some (aI v2), some (aI v3), some (aI v4), none] [] t0 (f_X6_harmed_53 n v1 v2 v3 v4 t0) := by
  intro n
  induction n with
  | zero => intro v1 v2 v3 v4 t0; exact G_none
  | succ n ih =>
    intro v1 v2 v3 v4 t0
    rw [f_X6_harmed_53]
    refine G_st (x_iload dX6_harmed_53 rfl) ?_
    refine G_st (x_iload_n dX6_harmed_55 rfl) ?_
    refine G_ite (fun c7 => ?_) (fun c7 => ?_)
    · refine G_st (x_icmp_ge_t (tgt := 92) dX6_harmed_56 (by decide) c7) ?_
      refine G_st (x_iload_n dX6_harmed_92 rfl) ?_
      exact G_ret rfl ⟨dX6_harmed_93, _, rfl, rfl⟩ rfl
    · refine G_st (x_icmp_ge_f 92 dX6_harmed_56 (by decide) c7) ?_
      refine G_st (x_aload_n dX6_harmed_59 rfl) ?_
      refine G_st (x_get (k := 2) (aR (3, 6)) dX6_harmed_60 (H0_0 0 (Nat.le_of_ble_eq_true rfl) (Nat.le_of_ble_eq_true rfl)) rfl rfl rfl rfl inTX6 (Nat.le_of_ble_eq_true rfl) tw_287 (fun ad => rfl)) ?_
      refine G_bd (fun x8 t9 h10 => ?_)
      refine G_st (x_callV [] (c_X2_spendWeek ids Hn 3 H3 _ _ _ h10) dX6_harmed_63 tw_605 kc_X2_spendWeek (H3 6 (Nat.le_of_ble_eq_true rfl) (Nat.le_of_ble_eq_true rfl)) rfl rfl rfl rfl ⟨Nat.le_of_ble_eq_true rfl, Nat.le_of_ble_eq_true rfl⟩ (Nat.le_of_ble_eq_true rfl) rfl) ?_
      refine G_st (x_istore [some (aR (0, 0)), some (aI v1), some (aI v2), some (aI v3), some (aI v4), some (aI x8)] dX6_harmed_66 (Nat.le_of_ble_eq_true rfl) rfl rfl) ?_
      refine G_st (x_iload_n dX6_harmed_68 rfl) ?_
      refine G_st (x_iload_n dX6_harmed_69 rfl) ?_
      refine G_st (x_iconst (-1 : Int32) dX6_harmed_70 rfl) ?_
      refine G_ite (fun c11 => ?_) (fun c11 => ?_)
      · refine G_st (x_icmp_ne_f 79 dX6_harmed_71 (by decide) c11) ?_
        refine G_st (x_iload dX6_harmed_74 rfl) ?_
        refine G_st (x_goto (tgt := 84) dX6_harmed_76 (by decide)) ?_
        refine G_weak _ ?_ (g_X6_harmed_84 ids Hn H0_0 H1 H2 H3 (f_X6_harmed_53 n) (ih) v1 v2 v4 x8 v3 t9)
        exact (leL_s (leL_s (leL_s (leL_n (leL_s (leL_n (leL_e _)))))))
      · refine G_st (x_icmp_ne_t (tgt := 79) dX6_harmed_71 (by decide) c11) ?_
        refine G_st (x_aload_n dX6_harmed_79 rfl) ?_
        refine G_st (x_iload_n dX6_harmed_80 rfl) ?_
        refine G_bd (fun x13 t14 h15 => ?_)
        refine G_st (x_callV [aI v3] (c_X6_doneTo ids Hn v1 H0_0 H1 H2 H3 _ _ _ h15) dX6_harmed_81 tw_695 kc_X6_doneTo (H0_0 0 (Nat.le_of_ble_eq_true rfl) (Nat.le_of_ble_eq_true rfl)) rfl rfl rfl rfl ⟨Nat.le_of_ble_eq_true rfl, Nat.le_of_ble_eq_true rfl⟩ (Nat.le_of_ble_eq_true rfl) rfl) ?_
        refine G_weak _ ?_ (g_X6_harmed_84 ids Hn H0_0 H1 H2 H3 (f_X6_harmed_53 n) (ih) v1 v2 v4 x13 v3 t14)
        exact (leL_s (leL_s (leL_s (leL_n (leL_s (leL_n (leL_e _)))))))
set_option maxRecDepth 100000 in
set_option maxHeartbeats 4000000 in
theorem g_X6_harmed_19 (ids : List (Nat × Nat)) (Hn : Ndp ids)  (H0_0 : InR ids 0 0 5) (H1 : InR ids 1 6 28) (H2 : InR ids 2 6 28) (H3 : InR ids 3 6 28)  (v1 : Int32) (v2 : Int32) (t0 : Sg) : Gj kI mX6_harmed ids 19 [some (aR (0, 0)), some (aI v1), some (aI v2), none, none, none] [] t0 (f_X6_harmed_19 v1 v2 t0) := by
  unfold f_X6_harmed_19
  refine G_st (x_iload_n dX6_harmed_19 rfl) ?_
  refine G_st (x_iconst (1 : Int32) dX6_harmed_20 rfl) ?_
  refine G_ite (fun c2 => ?_) (fun c2 => ?_)
  · refine G_st (x_icmp_ge_t (tgt := 31) dX6_harmed_21 (by decide) c2) ?_
    refine G_st (x_iload_n dX6_harmed_31 rfl) ?_
    refine G_st (x_bipush (20 : Int32) dX6_harmed_32 rfl) ?_
    refine G_ite (fun c3 => ?_) (fun c3 => ?_)
    · refine G_st (x_icmp_le_t (tgt := 44) dX6_harmed_34 (by decide) c3) ?_
      refine G_st (x_aload_n dX6_harmed_44 rfl) ?_
      refine G_bd (fun _ t5 h6 => ?_)
      refine G_st (x_callV [] (c_X6_tryAnew ids Hn  H0_0 H1 H2 H3 _ _ _ h6) dX6_harmed_45 tw_689 kc_X6_tryAnew (H0_0 0 (Nat.le_of_ble_eq_true rfl) (Nat.le_of_ble_eq_true rfl)) rfl rfl rfl rfl ⟨Nat.le_of_ble_eq_true rfl, Nat.le_of_ble_eq_true rfl⟩ (Nat.le_of_ble_eq_true rfl) rfl) ?_
      refine G_st (x_iconst (0 : Int32) dX6_harmed_48 rfl) ?_
      refine G_st (x_istore_n [some (aR (0, 0)), some (aI v1), some (aI v2), some (aI (0 : Int32)), none, none] dX6_harmed_49 (Nat.le_of_ble_eq_true rfl) rfl rfl) ?_
      refine G_st (x_iconst (0 : Int32) dX6_harmed_50 rfl) ?_
      refine G_st (x_istore [some (aR (0, 0)), some (aI v1), some (aI v2), some (aI (0 : Int32)), some (aI (0 : Int32)), none] dX6_harmed_51 (Nat.le_of_ble_eq_true rfl) rfl rfl) ?_
      refine G_weak _ ?_ (g_X6_harmed_53 ids Hn H0_0 H1 H2 H3 fuel v1 v2 (0 : Int32) (0 : Int32) t5)
      exact (leL_s (leL_s (leL_s (leL_s (leL_s (leL_n (leL_e _)))))))
    · refine G_st (x_icmp_le_f 44 dX6_harmed_34 (by decide) c3) ?_
      refine G_st (x_aload_n dX6_harmed_37 rfl) ?_
      refine G_st (x_bipush (-6 : Int32) dX6_harmed_38 rfl) ?_
      refine G_bd (fun x16 t17 h18 => ?_)
      refine G_st (x_callV [] (c_X6_refuse ids Hn (-6 : Int32) H0_0 H1 H2 H3 _ _ _ h18) dX6_harmed_40 tw_317 kc_X6_refuse (H0_0 0 (Nat.le_of_ble_eq_true rfl) (Nat.le_of_ble_eq_true rfl)) rfl rfl rfl rfl ⟨Nat.le_of_ble_eq_true rfl, Nat.le_of_ble_eq_true rfl⟩ (Nat.le_of_ble_eq_true rfl) rfl) ?_
      exact G_ret rfl ⟨dX6_harmed_43, _, rfl, rfl⟩ rfl
  · refine G_st (x_icmp_ge_f 31 dX6_harmed_21 (by decide) c2) ?_
    refine G_st (x_aload_n dX6_harmed_24 rfl) ?_
    refine G_st (x_bipush (-4 : Int32) dX6_harmed_25 rfl) ?_
    refine G_bd (fun x19 t20 h21 => ?_)
    refine G_st (x_callV [] (c_X6_refuse ids Hn (-4 : Int32) H0_0 H1 H2 H3 _ _ _ h21) dX6_harmed_27 tw_317 kc_X6_refuse (H0_0 0 (Nat.le_of_ble_eq_true rfl) (Nat.le_of_ble_eq_true rfl)) rfl rfl rfl rfl ⟨Nat.le_of_ble_eq_true rfl, Nat.le_of_ble_eq_true rfl⟩ (Nat.le_of_ble_eq_true rfl) rfl) ?_
    exact G_ret rfl ⟨dX6_harmed_30, _, rfl, rfl⟩ rfl
set_option maxRecDepth 100000 in
set_option maxHeartbeats 4000000 in
theorem g_X6_harmed (ids : List (Nat × Nat)) (Hn : Ndp ids) (v1 : Int32) (v2 : Int32) (H0_0 : InR ids 0 0 5) (H1 : InR ids 1 6 28) (H2 : InR ids 2 6 28) (H3 : InR ids 3 6 28) (t0 : Sg) : Gj kI mX6_harmed ids 0 [some (aR (0, 0)), some (aI v1), some (aI v2), none, none, none] [] t0 (f_X6_harmed v1 v2 t0) := by
  unfold f_X6_harmed
  refine G_st (x_iload_n dX6_harmed_0 rfl) ?_
  refine G_st (x_iconst (-1 : Int32) dX6_harmed_1 rfl) ?_
  refine G_ite (fun c1 => ?_) (fun c1 => ?_)
  · refine G_st (x_icmp_eq_t (tgt := 19) dX6_harmed_2 (by decide) c1) ?_
    refine G_weak _ ?_ (g_X6_harmed_19 ids Hn H0_0 H1 H2 H3 v1 v2 t0)
    exact (leL_s (leL_s (leL_s (leL_n (leL_n (leL_n (leL_e _)))))))
  · refine G_st (x_icmp_eq_f 19 dX6_harmed_2 (by decide) c1) ?_
    refine G_st (x_aload_n dX6_harmed_5 rfl) ?_
    refine G_st (x_iload_n dX6_harmed_6 rfl) ?_
    refine G_bd (fun x22 t23 h24 => ?_)
    refine G_st (x_callV [] (c_X6_isTenant ids Hn v1 H0_0 H1 H2 H3 _ _ _ h24) dX6_harmed_7 tw_530 kc_X6_isTenant (H0_0 0 (Nat.le_of_ble_eq_true rfl) (Nat.le_of_ble_eq_true rfl)) rfl rfl rfl rfl ⟨Nat.le_of_ble_eq_true rfl, Nat.le_of_ble_eq_true rfl⟩ (Nat.le_of_ble_eq_true rfl) rfl) ?_
    refine G_ite (fun c25 => ?_) (fun c25 => ?_)
    · refine G_st (x_if_ne_f 19 dX6_harmed_10 (by decide) c25) ?_
      refine G_st (x_aload_n dX6_harmed_13 rfl) ?_
      refine G_st (x_iconst (-1 : Int32) dX6_harmed_14 rfl) ?_
      refine G_bd (fun x26 t27 h28 => ?_)
      refine G_st (x_callV [] (c_X6_refuse ids Hn (-1 : Int32) H0_0 H1 H2 H3 _ _ _ h28) dX6_harmed_15 tw_317 kc_X6_refuse (H0_0 0 (Nat.le_of_ble_eq_true rfl) (Nat.le_of_ble_eq_true rfl)) rfl rfl rfl rfl ⟨Nat.le_of_ble_eq_true rfl, Nat.le_of_ble_eq_true rfl⟩ (Nat.le_of_ble_eq_true rfl) rfl) ?_
      exact G_ret rfl ⟨dX6_harmed_18, _, rfl, rfl⟩ rfl
    · refine G_st (x_if_ne_t (tgt := 19) dX6_harmed_10 (by decide) c25) ?_
      refine G_weak _ ?_ (g_X6_harmed_19 ids Hn H0_0 H1 H2 H3 v1 v2 t23)
      exact (leL_s (leL_s (leL_s (leL_n (leL_n (leL_n (leL_e _)))))))
set_option maxRecDepth 100000 in
set_option maxHeartbeats 4000000 in
theorem c_X6_harmed (ids : List (Nat × Nat)) (Hn : Ndp ids) (v1 : Int32) (v2 : Int32) (H0_0 : InR ids 0 0 5) (H1 : InR ids 1 6 28) (H2 : InR ids 2 6 28) (H3 : InR ids 3 6 28) (t0 : Sg) (r : Int32) (t1 : Sg) (hf : f_X6_harmed v1 v2 t0 = some (r, t1)) : Mt0 mX6_harmed yX6_harmed ids [aR (0, 0), aI v1, aI v2] t0 (some (aI r)) t1 :=
  Mt_of (x := (r, t1)) (g_X6_harmed ids Hn v1 v2 H0_0 H1 H2 H3 t0) hf (fun _ _ => trivial) (by decide) rfl Hn (fun _ => rfl) (fun _ => Nat.le_of_ble_eq_true rfl)
theorem dX6_least_0 : decode cX6_least 0 = .ok (.aload_n 0, 1) := by decide +kernel
theorem dX6_least_1 : decode cX6_least 1 = .ok (.iload_n 1, 1) := by decide +kernel
theorem dX6_least_2 : decode cX6_least 2 = .ok (.invokevirtual 187, 3) := by decide +kernel
theorem dX6_least_5 : decode cX6_least 5 = .ok (.ifCond .ne 9, 3) := by decide +kernel
theorem dX6_least_8 : decode cX6_least 8 = .ok (.aload_n 0, 1) := by decide +kernel
theorem dX6_least_9 : decode cX6_least 9 = .ok (.iconst (-1), 1) := by decide +kernel
theorem dX6_least_10 : decode cX6_least 10 = .ok (.invokevirtual 130, 3) := by decide +kernel
theorem dX6_least_13 : decode cX6_least 13 = .ok (.ireturn, 1) := by decide +kernel
theorem dX6_least_14 : decode cX6_least 14 = .ok (.iload_n 2, 1) := by decide +kernel
theorem dX6_least_15 : decode cX6_least 15 = .ok (.ifCond .eq 15, 3) := by decide +kernel
theorem dX6_least_18 : decode cX6_least 18 = .ok (.iload_n 2, 1) := by decide +kernel
theorem dX6_least_19 : decode cX6_least 19 = .ok (.iconst 1, 1) := by decide +kernel
theorem dX6_least_20 : decode cX6_least 20 = .ok (.if_icmp .eq 10, 3) := by decide +kernel
theorem dX6_least_23 : decode cX6_least 23 = .ok (.aload_n 0, 1) := by decide +kernel
theorem dX6_least_24 : decode cX6_least 24 = .ok (.bipush (-2), 2) := by decide +kernel
theorem dX6_least_26 : decode cX6_least 26 = .ok (.invokevirtual 130, 3) := by decide +kernel
theorem dX6_least_29 : decode cX6_least 29 = .ok (.ireturn, 1) := by decide +kernel
theorem dX6_least_30 : decode cX6_least 30 = .ok (.iconst 0, 1) := by decide +kernel
theorem dX6_least_31 : decode cX6_least 31 = .ok (.istore_n 3, 1) := by decide +kernel
theorem dX6_least_32 : decode cX6_least 32 = .ok (.aload_n 0, 1) := by decide +kernel
theorem dX6_least_33 : decode cX6_least 33 = .ok (.iload_n 1, 1) := by decide +kernel
theorem dX6_least_34 : decode cX6_least 34 = .ok (.iconst 0, 1) := by decide +kernel
theorem dX6_least_35 : decode cX6_least 35 = .ok (.invokevirtual 253, 3) := by decide +kernel
theorem dX6_least_38 : decode cX6_least 38 = .ok (.istore 4, 2) := by decide +kernel
theorem dX6_least_40 : decode cX6_least 40 = .ok (.iconst 1, 1) := by decide +kernel
theorem dX6_least_41 : decode cX6_least 41 = .ok (.istore 5, 2) := by decide +kernel
theorem dX6_least_43 : decode cX6_least 43 = .ok (.iload 5, 2) := by decide +kernel
theorem dX6_least_45 : decode cX6_least 45 = .ok (.bipush 8, 2) := by decide +kernel
theorem dX6_least_47 : decode cX6_least 47 = .ok (.if_icmp .ge 32, 3) := by decide +kernel
theorem dX6_least_50 : decode cX6_least 50 = .ok (.aload_n 0, 1) := by decide +kernel
theorem dX6_least_51 : decode cX6_least 51 = .ok (.iload_n 1, 1) := by decide +kernel
theorem dX6_least_52 : decode cX6_least 52 = .ok (.iload 5, 2) := by decide +kernel
theorem dX6_least_54 : decode cX6_least 54 = .ok (.invokevirtual 253, 3) := by decide +kernel
theorem dX6_least_57 : decode cX6_least 57 = .ok (.istore 6, 2) := by decide +kernel
theorem dX6_least_59 : decode cX6_least 59 = .ok (.iload 6, 2) := by decide +kernel
theorem dX6_least_61 : decode cX6_least 61 = .ok (.iload 4, 2) := by decide +kernel
theorem dX6_least_63 : decode cX6_least 63 = .ok (.if_icmp .ge 10, 3) := by decide +kernel
theorem dX6_least_66 : decode cX6_least 66 = .ok (.iload 6, 2) := by decide +kernel
theorem dX6_least_68 : decode cX6_least 68 = .ok (.istore 4, 2) := by decide +kernel
theorem dX6_least_70 : decode cX6_least 70 = .ok (.iload 5, 2) := by decide +kernel
theorem dX6_least_72 : decode cX6_least 72 = .ok (.istore_n 3, 1) := by decide +kernel
theorem dX6_least_73 : decode cX6_least 73 = .ok (.iinc 5 1, 3) := by decide +kernel
theorem dX6_least_76 : decode cX6_least 76 = .ok (.goto (-33), 3) := by decide +kernel
theorem dX6_least_79 : decode cX6_least 79 = .ok (.iload_n 2, 1) := by decide +kernel
theorem dX6_least_80 : decode cX6_least 80 = .ok (.ifCond .ne 7, 3) := by decide +kernel
theorem dX6_least_83 : decode cX6_least 83 = .ok (.iload_n 3, 1) := by decide +kernel
theorem dX6_least_84 : decode cX6_least 84 = .ok (.goto 5, 3) := by decide +kernel
theorem dX6_least_87 : decode cX6_least 87 = .ok (.iload 4, 2) := by decide +kernel
theorem dX6_least_89 : decode cX6_least 89 = .ok (.ireturn, 1) := by decide +kernel
set_option maxRecDepth 100000 in
set_option maxHeartbeats 4000000 in
theorem g_X6_least_73 (ids : List (Nat × Nat)) (Hn : Ndp ids)  (H0_0 : InR ids 0 0 5) (H1 : InR ids 1 6 28) (H2 : InR ids 2 6 28) (H3 : InR ids 3 6 28) (k43 : Int32 → Int32 → Int32 → Int32 → Int32 → Sg → Option (Int32 × Sg)) (hk43 : ∀ (v1 : Int32) (v2 : Int32) (v3 : Int32) (v4 : Int32) (v5 : Int32) (t0 : Sg), Gj kI mX6_least ids 43 [some (aR (0, 0)), some (aI v1), some (aI v2), some (aI v3), some (aI v4), some (aI v5), none] [] t0 (k43 v1 v2 v3 v4 v5 t0)) (v1 : Int32) (v2 : Int32) (v3 : Int32) (v4 : Int32) (v5 : Int32) (t0 : Sg) : Gj kI mX6_least ids 73 [some (aR (0, 0)), some (aI v1), some (aI v2), some (aI v3), some (aI v4), some (aI v5), none] [] t0 (f_X6_least_73 k43 v1 v2 v3 v4 v5 t0) := by
  unfold f_X6_least_73
  refine G_st (x_iinc (v5 + (1 : Int32)) [some (aR (0, 0)), some (aI v1), some (aI v2), some (aI v3), some (aI v4), some (aI (v5 + (1 : Int32))), none] dX6_least_73 (Nat.le_of_ble_eq_true rfl) rfl rfl rfl rfl) ?_
  refine G_st (x_goto (tgt := 43) dX6_least_76 (by decide)) ?_
  refine G_weak _ ?_ (hk43 v1 v2 v3 v4 (v5 + (1 : Int32)) t0)
  exact (leL_s (leL_s (leL_s (leL_s (leL_s (leL_s (leL_n (leL_e _))))))))
set_option maxRecDepth 100000 in
set_option maxHeartbeats 4000000 in
theorem g_X6_least_43 (ids : List (Nat × Nat)) (Hn : Ndp ids)  (H0_0 : InR ids 0 0 5) (H1 : InR ids 1 6 28) (H2 : InR ids 2 6 28) (H3 : InR ids 3 6 28)  : ∀ (n : Nat) (v1 : Int32) (v2 : Int32) (v3 : Int32) (v4 : Int32) (v5 : Int32) (t0 : Sg), Gj kI mX6_least ids 43 [some (aR (0, 0)), some (aI v1), some (aI v2), some (aI v3), some (aI v4), some (aI v5), none] [] t0 (f_X6_least_43 n v1 v2 v3 v4 v5 t0) := by
  intro n
  induction n with
  | zero => intro v1 v2 v3 v4 v5 t0; exact G_none
  | succ n ih =>
    intro v1 v2 v3 v4 v5 t0
    rw [f_X6_least_43]
    refine G_st (x_iload dX6_least_43 rfl) ?_
    refine G_st (x_bipush (8 : Int32) dX6_least_45 rfl) ?_
    refine G_ite (fun c12 => ?_) (fun c12 => ?_)
    · refine G_st (x_icmp_ge_t (tgt := 79) dX6_least_47 (by decide) c12) ?_
      refine G_st (x_iload_n dX6_least_79 rfl) ?_
      have e14 : Tj mX6_least ids 80 [some (aR (0, 0)), some (aI v1), some (aI v2), some (aI v3), some (aI v4), some (aI v5), none] [aI v2] t0 89 [some (aR (0, 0)), some (aI v1), some (aI v2), some (aI v3), some (aI v4), some (aI v5), none] [aI (if v2 = 0 then v3 else v4)] t0 := by
        refine Tj.dia (fun c13 => ?_) (fun c13 => ?_)
        · refine Tj.tr (x_if_ne_f 87 dX6_least_80 (by decide) c13) ?_
          refine Tj.tr (x_iload_n dX6_least_83 rfl) ?_
          refine Tj.tr (x_goto (tgt := 89) dX6_least_84 (by decide)) ?_
          exact Tj.rf
        · refine Tj.tr (x_if_ne_t (tgt := 87) dX6_least_80 (by decide) c13) ?_
          refine Tj.tr (x_iload dX6_least_87 rfl) ?_
          exact Tj.rf
      refine G_st e14 ?_
      exact G_ret rfl ⟨dX6_least_89, _, rfl, rfl⟩ rfl
    · refine G_st (x_icmp_ge_f 79 dX6_least_47 (by decide) c12) ?_
      refine G_st (x_aload_n dX6_least_50 rfl) ?_
      refine G_st (x_iload_n dX6_least_51 rfl) ?_
      refine G_st (x_iload dX6_least_52 rfl) ?_
      refine G_bd (fun x15 t16 h17 => ?_)
      refine G_st (x_callV [] (c_X6_tryHour ids Hn v1 v5 H0_0 H1 H2 H3 _ _ _ h17) dX6_least_54 tw_703 kc_X6_tryHour (H0_0 0 (Nat.le_of_ble_eq_true rfl) (Nat.le_of_ble_eq_true rfl)) rfl rfl rfl rfl ⟨Nat.le_of_ble_eq_true rfl, Nat.le_of_ble_eq_true rfl⟩ (Nat.le_of_ble_eq_true rfl) rfl) ?_
      refine G_st (x_istore [some (aR (0, 0)), some (aI v1), some (aI v2), some (aI v3), some (aI v4), some (aI v5), some (aI x15)] dX6_least_57 (Nat.le_of_ble_eq_true rfl) rfl rfl) ?_
      refine G_st (x_iload dX6_least_59 rfl) ?_
      refine G_st (x_iload dX6_least_61 rfl) ?_
      refine G_ite (fun c18 => ?_) (fun c18 => ?_)
      · refine G_st (x_icmp_ge_t (tgt := 73) dX6_least_63 (by decide) c18) ?_
        refine G_weak _ ?_ (g_X6_least_73 ids Hn H0_0 H1 H2 H3 (f_X6_least_43 n) (ih) v1 v2 v3 v4 v5 t16)
        exact (leL_s (leL_s (leL_s (leL_s (leL_s (leL_s (leL_n (leL_e _))))))))
      · refine G_st (x_icmp_ge_f 73 dX6_least_63 (by decide) c18) ?_
        refine G_st (x_iload dX6_least_66 rfl) ?_
        refine G_st (x_istore [some (aR (0, 0)), some (aI v1), some (aI v2), some (aI v3), some (aI x15), some (aI v5), some (aI x15)] dX6_least_68 (Nat.le_of_ble_eq_true rfl) rfl rfl) ?_
        refine G_st (x_iload dX6_least_70 rfl) ?_
        refine G_st (x_istore_n [some (aR (0, 0)), some (aI v1), some (aI v2), some (aI v5), some (aI x15), some (aI v5), some (aI x15)] dX6_least_72 (Nat.le_of_ble_eq_true rfl) rfl rfl) ?_
        refine G_weak _ ?_ (g_X6_least_73 ids Hn H0_0 H1 H2 H3 (f_X6_least_43 n) (ih) v1 v2 v5 x15 v5 t16)
        exact (leL_s (leL_s (leL_s (leL_s (leL_s (leL_s (leL_n (leL_e _))))))))
set_option maxRecDepth 100000 in
set_option maxHeartbeats 4000000 in
theorem g_X6_least_30 (ids : List (Nat × Nat)) (Hn : Ndp ids)  (H0_0 : InR ids 0 0 5) (H1 : InR ids 1 6 28) (H2 : InR ids 2 6 28) (H3 : InR ids 3 6 28)  (v1 : Int32) (v2 : Int32) (t0 : Sg) : Gj kI mX6_least ids 30 [some (aR (0, 0)), some (aI v1), some (aI v2), none, none, none, none] [] t0 (f_X6_least_30 v1 v2 t0) := by
  unfold f_X6_least_30
  refine G_st (x_iconst (0 : Int32) dX6_least_30 rfl) ?_
  refine G_st (x_istore_n [some (aR (0, 0)), some (aI v1), some (aI v2), some (aI (0 : Int32)), none, none, none] dX6_least_31 (Nat.le_of_ble_eq_true rfl) rfl rfl) ?_
  refine G_st (x_aload_n dX6_least_32 rfl) ?_
  refine G_st (x_iload_n dX6_least_33 rfl) ?_
  refine G_st (x_iconst (0 : Int32) dX6_least_34 rfl) ?_
  refine G_bd (fun x9 t10 h11 => ?_)
  refine G_st (x_callV [] (c_X6_tryHour ids Hn v1 (0 : Int32) H0_0 H1 H2 H3 _ _ _ h11) dX6_least_35 tw_703 kc_X6_tryHour (H0_0 0 (Nat.le_of_ble_eq_true rfl) (Nat.le_of_ble_eq_true rfl)) rfl rfl rfl rfl ⟨Nat.le_of_ble_eq_true rfl, Nat.le_of_ble_eq_true rfl⟩ (Nat.le_of_ble_eq_true rfl) rfl) ?_
  refine G_st (x_istore [some (aR (0, 0)), some (aI v1), some (aI v2), some (aI (0 : Int32)), some (aI x9), none, none] dX6_least_38 (Nat.le_of_ble_eq_true rfl) rfl rfl) ?_
  refine G_st (x_iconst (1 : Int32) dX6_least_40 rfl) ?_
  refine G_st (x_istore [some (aR (0, 0)), some (aI v1), some (aI v2), some (aI (0 : Int32)), some (aI x9), some (aI (1 : Int32)), none] dX6_least_41 (Nat.le_of_ble_eq_true rfl) rfl rfl) ?_
  refine G_weak _ ?_ (g_X6_least_43 ids Hn H0_0 H1 H2 H3 fuel v1 v2 (0 : Int32) x9 (1 : Int32) t10)
  exact (leL_s (leL_s (leL_s (leL_s (leL_s (leL_s (leL_n (leL_e _))))))))
set_option maxRecDepth 100000 in
set_option maxHeartbeats 4000000 in
theorem g_X6_least (ids : List (Nat × Nat)) (Hn : Ndp ids) (v1 : Int32) (v2 : Int32) (H0_0 : InR ids 0 0 5) (H1 : InR ids 1 6 28) (H2 : InR ids 2 6 28) (H3 : InR ids 3 6 28) (t0 : Sg) : Gj kI mX6_least ids 0 [some (aR (0, 0)), some (aI v1), some (aI v2), none, none, none, none] [] t0 (f_X6_least v1 v2 t0) := by
  unfold f_X6_least
  refine G_st (x_aload_n dX6_least_0 rfl) ?_
  refine G_st (x_iload_n dX6_least_1 rfl) ?_
  refine G_bd (fun x1 t2 h3 => ?_)
  refine G_st (x_callV [] (c_X6_isHabit ids Hn v1 H0_0 H1 H2 H3 _ _ _ h3) dX6_least_2 tw_554 kc_X6_isHabit (H0_0 0 (Nat.le_of_ble_eq_true rfl) (Nat.le_of_ble_eq_true rfl)) rfl rfl rfl rfl ⟨Nat.le_of_ble_eq_true rfl, Nat.le_of_ble_eq_true rfl⟩ (Nat.le_of_ble_eq_true rfl) rfl) ?_
  refine G_ite (fun c4 => ?_) (fun c4 => ?_)
  · refine G_st (x_if_ne_f 14 dX6_least_5 (by decide) c4) ?_
    refine G_st (x_aload_n dX6_least_8 rfl) ?_
    refine G_st (x_iconst (-1 : Int32) dX6_least_9 rfl) ?_
    refine G_bd (fun x5 t6 h7 => ?_)
    refine G_st (x_callV [] (c_X6_refuse ids Hn (-1 : Int32) H0_0 H1 H2 H3 _ _ _ h7) dX6_least_10 tw_317 kc_X6_refuse (H0_0 0 (Nat.le_of_ble_eq_true rfl) (Nat.le_of_ble_eq_true rfl)) rfl rfl rfl rfl ⟨Nat.le_of_ble_eq_true rfl, Nat.le_of_ble_eq_true rfl⟩ (Nat.le_of_ble_eq_true rfl) rfl) ?_
    exact G_ret rfl ⟨dX6_least_13, _, rfl, rfl⟩ rfl
  · refine G_st (x_if_ne_t (tgt := 14) dX6_least_5 (by decide) c4) ?_
    refine G_st (x_iload_n dX6_least_14 rfl) ?_
    refine G_ite (fun c8 => ?_) (fun c8 => ?_)
    · refine G_st (x_if_eq_t (tgt := 30) dX6_least_15 (by decide) c8) ?_
      refine G_weak _ ?_ (g_X6_least_30 ids Hn H0_0 H1 H2 H3 v1 v2 t2)
      exact (leL_s (leL_s (leL_s (leL_n (leL_n (leL_n (leL_n (leL_e _))))))))
    · refine G_st (x_if_eq_f 30 dX6_least_15 (by decide) c8) ?_
      refine G_st (x_iload_n dX6_least_18 rfl) ?_
      refine G_st (x_iconst (1 : Int32) dX6_least_19 rfl) ?_
      refine G_ite (fun c19 => ?_) (fun c19 => ?_)
      · refine G_st (x_icmp_eq_t (tgt := 30) dX6_least_20 (by decide) c19) ?_
        refine G_weak _ ?_ (g_X6_least_30 ids Hn H0_0 H1 H2 H3 v1 v2 t2)
        exact (leL_s (leL_s (leL_s (leL_n (leL_n (leL_n (leL_n (leL_e _))))))))
      · refine G_st (x_icmp_eq_f 30 dX6_least_20 (by decide) c19) ?_
        refine G_st (x_aload_n dX6_least_23 rfl) ?_
        refine G_st (x_bipush (-2 : Int32) dX6_least_24 rfl) ?_
        refine G_bd (fun x20 t21 h22 => ?_)
        refine G_st (x_callV [] (c_X6_refuse ids Hn (-2 : Int32) H0_0 H1 H2 H3 _ _ _ h22) dX6_least_26 tw_317 kc_X6_refuse (H0_0 0 (Nat.le_of_ble_eq_true rfl) (Nat.le_of_ble_eq_true rfl)) rfl rfl rfl rfl ⟨Nat.le_of_ble_eq_true rfl, Nat.le_of_ble_eq_true rfl⟩ (Nat.le_of_ble_eq_true rfl) rfl) ?_
        exact G_ret rfl ⟨dX6_least_29, _, rfl, rfl⟩ rfl
set_option maxRecDepth 100000 in
set_option maxHeartbeats 4000000 in
theorem c_X6_least (ids : List (Nat × Nat)) (Hn : Ndp ids) (v1 : Int32) (v2 : Int32) (H0_0 : InR ids 0 0 5) (H1 : InR ids 1 6 28) (H2 : InR ids 2 6 28) (H3 : InR ids 3 6 28) (t0 : Sg) (r : Int32) (t1 : Sg) (hf : f_X6_least v1 v2 t0 = some (r, t1)) : Mt0 mX6_least yX6_least ids [aR (0, 0), aI v1, aI v2] t0 (some (aI r)) t1 :=
  Mt_of (x := (r, t1)) (g_X6_least ids Hn v1 v2 H0_0 H1 H2 H3 t0) hf (fun _ _ => trivial) (by decide) rfl Hn (fun _ => rfl) (fun _ => Nat.le_of_ble_eq_true rfl)
theorem dX6_hours_0 : decode cX6_hours 0 = .ok (.aload_n 0, 1) := by decide +kernel
theorem dX6_hours_1 : decode cX6_hours 1 = .ok (.iload_n 1, 1) := by decide +kernel
theorem dX6_hours_2 : decode cX6_hours 2 = .ok (.invokevirtual 187, 3) := by decide +kernel
theorem dX6_hours_5 : decode cX6_hours 5 = .ok (.ifCond .eq 16, 3) := by decide +kernel
theorem dX6_hours_8 : decode cX6_hours 8 = .ok (.aload_n 0, 1) := by decide +kernel
theorem dX6_hours_9 : decode cX6_hours 9 = .ok (.iload_n 2, 1) := by decide +kernel
theorem dX6_hours_10 : decode cX6_hours 10 = .ok (.invokevirtual 187, 3) := by decide +kernel
theorem dX6_hours_13 : decode cX6_hours 13 = .ok (.ifCond .eq 8, 3) := by decide +kernel
theorem dX6_hours_16 : decode cX6_hours 16 = .ok (.iload_n 1, 1) := by decide +kernel
theorem dX6_hours_17 : decode cX6_hours 17 = .ok (.iload_n 2, 1) := by decide +kernel
theorem dX6_hours_18 : decode cX6_hours 18 = .ok (.if_icmp .ne 9, 3) := by decide +kernel
theorem dX6_hours_21 : decode cX6_hours 21 = .ok (.aload_n 0, 1) := by decide +kernel
theorem dX6_hours_22 : decode cX6_hours 22 = .ok (.iconst (-1), 1) := by decide +kernel
theorem dX6_hours_23 : decode cX6_hours 23 = .ok (.invokevirtual 130, 3) := by decide +kernel
theorem dX6_hours_26 : decode cX6_hours 26 = .ok (.ireturn, 1) := by decide +kernel
theorem dX6_hours_27 : decode cX6_hours 27 = .ok (.iload_n 3, 1) := by decide +kernel
theorem dX6_hours_28 : decode cX6_hours 28 = .ok (.ifCond .eq 15, 3) := by decide +kernel
theorem dX6_hours_31 : decode cX6_hours 31 = .ok (.iload_n 3, 1) := by decide +kernel
theorem dX6_hours_32 : decode cX6_hours 32 = .ok (.iconst 1, 1) := by decide +kernel
theorem dX6_hours_33 : decode cX6_hours 33 = .ok (.if_icmp .eq 10, 3) := by decide +kernel
theorem dX6_hours_36 : decode cX6_hours 36 = .ok (.aload_n 0, 1) := by decide +kernel
theorem dX6_hours_37 : decode cX6_hours 37 = .ok (.bipush (-2), 2) := by decide +kernel
theorem dX6_hours_39 : decode cX6_hours 39 = .ok (.invokevirtual 130, 3) := by decide +kernel
theorem dX6_hours_42 : decode cX6_hours 42 = .ok (.ireturn, 1) := by decide +kernel
theorem dX6_hours_43 : decode cX6_hours 43 = .ok (.bipush (-9), 2) := by decide +kernel
theorem dX6_hours_45 : decode cX6_hours 45 = .ok (.istore 4, 2) := by decide +kernel
theorem dX6_hours_47 : decode cX6_hours 47 = .ok (.iconst 0, 1) := by decide +kernel
theorem dX6_hours_48 : decode cX6_hours 48 = .ok (.istore 5, 2) := by decide +kernel
theorem dX6_hours_50 : decode cX6_hours 50 = .ok (.iconst 0, 1) := by decide +kernel
theorem dX6_hours_51 : decode cX6_hours 51 = .ok (.istore 6, 2) := by decide +kernel
theorem dX6_hours_53 : decode cX6_hours 53 = .ok (.iload 6, 2) := by decide +kernel
theorem dX6_hours_55 : decode cX6_hours 55 = .ok (.bipush 8, 2) := by decide +kernel
theorem dX6_hours_57 : decode cX6_hours 57 = .ok (.if_icmp .ge 98, 3) := by decide +kernel
theorem dX6_hours_60 : decode cX6_hours 60 = .ok (.iconst 0, 1) := by decide +kernel
theorem dX6_hours_61 : decode cX6_hours 61 = .ok (.istore 7, 2) := by decide +kernel
theorem dX6_hours_63 : decode cX6_hours 63 = .ok (.iload 7, 2) := by decide +kernel
theorem dX6_hours_65 : decode cX6_hours 65 = .ok (.bipush 8, 2) := by decide +kernel
theorem dX6_hours_67 : decode cX6_hours 67 = .ok (.if_icmp .ge 82, 3) := by decide +kernel
theorem dX6_hours_70 : decode cX6_hours 70 = .ok (.aload_n 0, 1) := by decide +kernel
theorem dX6_hours_71 : decode cX6_hours 71 = .ok (.invokevirtual 97, 3) := by decide +kernel
theorem dX6_hours_74 : decode cX6_hours 74 = .ok (.aload_n 0, 1) := by decide +kernel
theorem dX6_hours_75 : decode cX6_hours 75 = .ok (.getfield 19, 3) := by decide +kernel
theorem dX6_hours_78 : decode cX6_hours 78 = .ok (.getfield 81, 3) := by decide +kernel
theorem dX6_hours_81 : decode cX6_hours 81 = .ok (.getfield 116, 3) := by decide +kernel
theorem dX6_hours_84 : decode cX6_hours 84 = .ok (.iload_n 1, 1) := by decide +kernel
theorem dX6_hours_85 : decode cX6_hours 85 = .ok (.iload 6, 2) := by decide +kernel
theorem dX6_hours_87 : decode cX6_hours 87 = .ok (.invokestatic 63, 3) := by decide +kernel
theorem dX6_hours_90 : decode cX6_hours 90 = .ok (.aload_n 0, 1) := by decide +kernel
theorem dX6_hours_91 : decode cX6_hours 91 = .ok (.getfield 19, 3) := by decide +kernel
theorem dX6_hours_94 : decode cX6_hours 94 = .ok (.getfield 81, 3) := by decide +kernel
theorem dX6_hours_97 : decode cX6_hours 97 = .ok (.getfield 116, 3) := by decide +kernel
theorem dX6_hours_100 : decode cX6_hours 100 = .ok (.iload_n 2, 1) := by decide +kernel
theorem dX6_hours_101 : decode cX6_hours 101 = .ok (.iload 7, 2) := by decide +kernel
theorem dX6_hours_103 : decode cX6_hours 103 = .ok (.invokestatic 63, 3) := by decide +kernel
theorem dX6_hours_106 : decode cX6_hours 106 = .ok (.aload_n 0, 1) := by decide +kernel
theorem dX6_hours_107 : decode cX6_hours 107 = .ok (.getfield 19, 3) := by decide +kernel
theorem dX6_hours_110 : decode cX6_hours 110 = .ok (.invokevirtual 100, 3) := by decide +kernel
theorem dX6_hours_113 : decode cX6_hours 113 = .ok (.istore 8, 2) := by decide +kernel
theorem dX6_hours_115 : decode cX6_hours 115 = .ok (.iload 4, 2) := by decide +kernel
theorem dX6_hours_117 : decode cX6_hours 117 = .ok (.bipush (-9), 2) := by decide +kernel
theorem dX6_hours_119 : decode cX6_hours 119 = .ok (.if_icmp .eq 10, 3) := by decide +kernel
theorem dX6_hours_122 : decode cX6_hours 122 = .ok (.iload 8, 2) := by decide +kernel
theorem dX6_hours_124 : decode cX6_hours 124 = .ok (.iload 5, 2) := by decide +kernel
theorem dX6_hours_126 : decode cX6_hours 126 = .ok (.if_icmp .ge 17, 3) := by decide +kernel
theorem dX6_hours_129 : decode cX6_hours 129 = .ok (.iload 8, 2) := by decide +kernel
theorem dX6_hours_131 : decode cX6_hours 131 = .ok (.istore 5, 2) := by decide +kernel
theorem dX6_hours_133 : decode cX6_hours 133 = .ok (.bipush 10, 2) := by decide +kernel
theorem dX6_hours_135 : decode cX6_hours 135 = .ok (.iload 6, 2) := by decide +kernel
theorem dX6_hours_137 : decode cX6_hours 137 = .ok (.imul, 1) := by decide +kernel
theorem dX6_hours_138 : decode cX6_hours 138 = .ok (.iload 7, 2) := by decide +kernel
theorem dX6_hours_140 : decode cX6_hours 140 = .ok (.iadd, 1) := by decide +kernel
theorem dX6_hours_141 : decode cX6_hours 141 = .ok (.istore 4, 2) := by decide +kernel
theorem dX6_hours_143 : decode cX6_hours 143 = .ok (.iinc 7 1, 3) := by decide +kernel
theorem dX6_hours_146 : decode cX6_hours 146 = .ok (.goto (-83), 3) := by decide +kernel
theorem dX6_hours_149 : decode cX6_hours 149 = .ok (.iinc 6 1, 3) := by decide +kernel
theorem dX6_hours_152 : decode cX6_hours 152 = .ok (.goto (-99), 3) := by decide +kernel
theorem dX6_hours_155 : decode cX6_hours 155 = .ok (.iload_n 3, 1) := by decide +kernel
theorem dX6_hours_156 : decode cX6_hours 156 = .ok (.ifCond .ne 8, 3) := by decide +kernel
theorem dX6_hours_159 : decode cX6_hours 159 = .ok (.iload 4, 2) := by decide +kernel
theorem dX6_hours_161 : decode cX6_hours 161 = .ok (.goto 5, 3) := by decide +kernel
theorem dX6_hours_164 : decode cX6_hours 164 = .ok (.iload 5, 2) := by decide +kernel
theorem dX6_hours_166 : decode cX6_hours 166 = .ok (.ireturn, 1) := by decide +kernel
set_option maxRecDepth 100000 in
set_option maxHeartbeats 4000000 in
theorem g_X6_hours_21 (ids : List (Nat × Nat)) (Hn : Ndp ids)  (H0_0 : InR ids 0 0 5) (H1 : InR ids 1 6 28) (H2 : InR ids 2 6 28) (H3 : InR ids 3 6 28)   (t0 : Sg) : Gj kI mX6_hours ids 21 [some (aR (0, 0)), none, none, none, none, none, none, none, none] [] t0 (f_X6_hours_21 t0) := by
  unfold f_X6_hours_21
  refine G_st (x_aload_n dX6_hours_21 rfl) ?_
  refine G_st (x_iconst (-1 : Int32) dX6_hours_22 rfl) ?_
  refine G_bd (fun x5 t6 h7 => ?_)
  refine G_st (x_callV [] (c_X6_refuse ids Hn (-1 : Int32) H0_0 H1 H2 H3 _ _ _ h7) dX6_hours_23 tw_317 kc_X6_refuse (H0_0 0 (Nat.le_of_ble_eq_true rfl) (Nat.le_of_ble_eq_true rfl)) rfl rfl rfl rfl ⟨Nat.le_of_ble_eq_true rfl, Nat.le_of_ble_eq_true rfl⟩ (Nat.le_of_ble_eq_true rfl) rfl) ?_
  exact G_ret rfl ⟨dX6_hours_26, _, rfl, rfl⟩ rfl
set_option maxRecDepth 100000 in
set_option maxHeartbeats 4000000 in
theorem g_X6_hours_143 (ids : List (Nat × Nat)) (Hn : Ndp ids)  (H0_0 : InR ids 0 0 5) (H1 : InR ids 1 6 28) (H2 : InR ids 2 6 28) (H3 : InR ids 3 6 28) (k53 : Int32 → Int32 → Int32 → Int32 → Int32 → Int32 → Sg → Option (Int32 × Sg)) (hk53 : ∀ (v1 : Int32) (v2 : Int32) (v3 : Int32) (v4 : Int32) (v5 : Int32) (v6 : Int32) (t0 : Sg), Gj kI mX6_hours ids 53 [some (aR (0, 0)), some (aI v1), some (aI v2), some (aI v3), some (aI v4), some (aI v5), some (aI v6), none, none] [] t0 (k53 v1 v2 v3 v4 v5 v6 t0)) (k63 : Int32 → Int32 → Int32 → Int32 → Int32 → Int32 → Int32 → Sg → Option (Int32 × Sg)) (hk63 : ∀ (v1 : Int32) (v2 : Int32) (v3 : Int32) (v4 : Int32) (v5 : Int32) (v6 : Int32) (v7 : Int32) (t0 : Sg), Gj kI mX6_hours ids 63 [some (aR (0, 0)), some (aI v1), some (aI v2), some (aI v3), some (aI v4), some (aI v5), some (aI v6), some (aI v7), none] [] t0 (k63 v1 v2 v3 v4 v5 v6 v7 t0)) (v1 : Int32) (v2 : Int32) (v3 : Int32) (v4 : Int32) (v5 : Int32) (v6 : Int32) (v7 : Int32) (t0 : Sg) : Gj kI mX6_hours ids 143 [some (aR (0, 0)), some (aI v1), some (aI v2), some (aI v3), some (aI v4), some (aI v5), some (aI v6), some (aI v7), none] [] t0 (f_X6_hours_143 k53 k63 v1 v2 v3 v4 v5 v6 v7 t0) := by
  unfold f_X6_hours_143
  refine G_st (x_iinc (v7 + (1 : Int32)) [some (aR (0, 0)), some (aI v1), some (aI v2), some (aI v3), some (aI v4), some (aI v5), some (aI v6), some (aI (v7 + (1 : Int32))), none] dX6_hours_143 (Nat.le_of_ble_eq_true rfl) rfl rfl rfl rfl) ?_
  refine G_st (x_goto (tgt := 63) dX6_hours_146 (by decide)) ?_
  refine G_weak _ ?_ (hk63 v1 v2 v3 v4 v5 v6 (v7 + (1 : Int32)) t0)
  exact (leL_s (leL_s (leL_s (leL_s (leL_s (leL_s (leL_s (leL_s (leL_n (leL_e _))))))))))
set_option maxRecDepth 100000 in
set_option maxHeartbeats 4000000 in
theorem g_X6_hours_129 (ids : List (Nat × Nat)) (Hn : Ndp ids)  (H0_0 : InR ids 0 0 5) (H1 : InR ids 1 6 28) (H2 : InR ids 2 6 28) (H3 : InR ids 3 6 28) (k53 : Int32 → Int32 → Int32 → Int32 → Int32 → Int32 → Sg → Option (Int32 × Sg)) (hk53 : ∀ (v1 : Int32) (v2 : Int32) (v3 : Int32) (v4 : Int32) (v5 : Int32) (v6 : Int32) (t0 : Sg), Gj kI mX6_hours ids 53 [some (aR (0, 0)), some (aI v1), some (aI v2), some (aI v3), some (aI v4), some (aI v5), some (aI v6), none, none] [] t0 (k53 v1 v2 v3 v4 v5 v6 t0)) (k63 : Int32 → Int32 → Int32 → Int32 → Int32 → Int32 → Int32 → Sg → Option (Int32 × Sg)) (hk63 : ∀ (v1 : Int32) (v2 : Int32) (v3 : Int32) (v4 : Int32) (v5 : Int32) (v6 : Int32) (v7 : Int32) (t0 : Sg), Gj kI mX6_hours ids 63 [some (aR (0, 0)), some (aI v1), some (aI v2), some (aI v3), some (aI v4), some (aI v5), some (aI v6), some (aI v7), none] [] t0 (k63 v1 v2 v3 v4 v5 v6 v7 t0)) (v1 : Int32) (v2 : Int32) (v3 : Int32) (v6 : Int32) (v7 : Int32) (v8 : Int32) (t0 : Sg) : Gj kI mX6_hours ids 129 [some (aR (0, 0)), some (aI v1), some (aI v2), some (aI v3), none, none, some (aI v6), some (aI v7), some (aI v8)] [] t0 (f_X6_hours_129 k53 k63 v1 v2 v3 v6 v7 v8 t0) := by
  unfold f_X6_hours_129
  refine G_st (x_iload dX6_hours_129 rfl) ?_
  refine G_st (x_istore [some (aR (0, 0)), some (aI v1), some (aI v2), some (aI v3), none, some (aI v8), some (aI v6), some (aI v7), some (aI v8)] dX6_hours_131 (Nat.le_of_ble_eq_true rfl) rfl rfl) ?_
  refine G_st (x_bipush (10 : Int32) dX6_hours_133 rfl) ?_
  refine G_st (x_iload dX6_hours_135 rfl) ?_
  refine G_st (x_imul dX6_hours_137) ?_
  refine G_st (x_iload dX6_hours_138 rfl) ?_
  refine G_st (x_iadd dX6_hours_140) ?_
  refine G_bvI (fun x31 => ?_)
  refine G_st (x_istore [some (aR (0, 0)), some (aI v1), some (aI v2), some (aI v3), some (aI x31), some (aI v8), some (aI v6), some (aI v7), some (aI v8)] dX6_hours_141 (Nat.le_of_ble_eq_true rfl) rfl rfl) ?_
  refine G_weak _ ?_ (g_X6_hours_143 ids Hn H0_0 H1 H2 H3 k53 hk53 k63 hk63 v1 v2 v3 x31 v8 v6 v7 t0)
  exact (leL_s (leL_s (leL_s (leL_s (leL_s (leL_s (leL_s (leL_s (leL_n (leL_e _))))))))))
set_option maxRecDepth 100000 in
set_option maxHeartbeats 4000000 in
theorem g_X6_hours_63 (ids : List (Nat × Nat)) (Hn : Ndp ids)  (H0_0 : InR ids 0 0 5) (H1 : InR ids 1 6 28) (H2 : InR ids 2 6 28) (H3 : InR ids 3 6 28) (k53 : Int32 → Int32 → Int32 → Int32 → Int32 → Int32 → Sg → Option (Int32 × Sg)) (hk53 : ∀ (v1 : Int32) (v2 : Int32) (v3 : Int32) (v4 : Int32) (v5 : Int32) (v6 : Int32) (t0 : Sg), Gj kI mX6_hours ids 53 [some (aR (0, 0)), some (aI v1), some (aI v2), some (aI v3), some (aI v4), some (aI v5), some (aI v6), none, none] [] t0 (k53 v1 v2 v3 v4 v5 v6 t0)) : ∀ (n : Nat) (v1 : Int32) (v2 : Int32) (v3 : Int32) (v4 : Int32) (v5 : Int32) (v6 : Int32) (v7 : Int32) (t0 : Sg), Gj kI mX6_hours ids 63 [some (aR (0, 0)), some (aI v1), some (aI v2), some (aI v3), some (aI v4), some (aI v5), some (aI v6), some (aI v7), none] [] t0 (f_X6_hours_63 k53 n v1 v2 v3 v4 v5 v6 v7 t0) := by
  intro n
  induction n with
  | zero => intro v1 v2 v3 v4 v5 v6 v7 t0; exact G_none
  | succ n ih =>
    intro v1 v2 v3 v4 v5 v6 v7 t0
    rw [f_X6_hours_63]
    refine G_st (x_iload dX6_hours_63 rfl) ?_
    refine G_st (x_bipush (8 : Int32) dX6_hours_65 rfl) ?_
    refine G_ite (fun c17 => ?_) (fun c17 => ?_)
    · refine G_st (x_icmp_ge_t (tgt := 149) dX6_hours_67 (by decide) c17) ?_
      refine G_st (x_iinc (v6 + (1 : Int32)) [some (aR (0, 0)), some (aI v1), some (aI v2), some (aI v3), some (aI v4), some (aI v5), some (aI (v6 + (1 : Int32))), some (aI v7), none] dX6_hours_149 (Nat.le_of_ble_eq_true rfl) rfl rfl rfl rfl) ?_
      refine G_st (x_goto (tgt := 53) dX6_hours_152 (by decide)) ?_
      refine G_weak _ ?_ (hk53 v1 v2 v3 v4 v5 (v6 + (1 : Int32)) t0)
      exact (leL_s (leL_s (leL_s (leL_s (leL_s (leL_s (leL_s (leL_n (leL_n (leL_e _))))))))))
    · refine G_st (x_icmp_ge_f 149 dX6_hours_67 (by decide) c17) ?_
      refine G_st (x_aload_n dX6_hours_70 rfl) ?_
      refine G_bd (fun _ t19 h20 => ?_)
      refine G_st (x_callV [] (c_X6_tryAnew ids Hn  H0_0 H1 H2 H3 _ _ _ h20) dX6_hours_71 tw_689 kc_X6_tryAnew (H0_0 0 (Nat.le_of_ble_eq_true rfl) (Nat.le_of_ble_eq_true rfl)) rfl rfl rfl rfl ⟨Nat.le_of_ble_eq_true rfl, Nat.le_of_ble_eq_true rfl⟩ (Nat.le_of_ble_eq_true rfl) rfl) ?_
      refine G_st (x_aload_n dX6_hours_74 rfl) ?_
      refine G_st (x_get (k := 2) (aR (3, 6)) dX6_hours_75 (H0_0 0 (Nat.le_of_ble_eq_true rfl) (Nat.le_of_ble_eq_true rfl)) rfl rfl rfl rfl inTX6 (Nat.le_of_ble_eq_true rfl) tw_287 (fun ad => rfl)) ?_
      refine G_st (x_get (k := 1) (aR (3, 15)) dX6_hours_78 (H3 6 (Nat.le_of_ble_eq_true rfl) (Nat.le_of_ble_eq_true rfl)) rfl rfl rfl rfl inTX2 (Nat.le_of_ble_eq_true rfl) tw_253 (fun ad => rfl)) ?_
      refine G_st (x_get (k := 4) (aR (3, 19)) dX6_hours_81 (H3 15 (Nat.le_of_ble_eq_true rfl) (Nat.le_of_ble_eq_true rfl)) rfl rfl rfl rfl inTX1 (Nat.le_of_ble_eq_true rfl) tw_186 (fun ad => rfl)) ?_
      refine G_st (x_iload_n dX6_hours_84 rfl) ?_
      refine G_st (x_iload dX6_hours_85 rfl) ?_
      refine G_bd (fun _ t22 h23 => ?_)
      refine G_st (x_callS [] (c_X6_set ids Hn (3, 19) v1 v6 (H3 19 (Nat.le_of_ble_eq_true rfl) (Nat.le_of_ble_eq_true rfl)) rfl _ _ _ h23) dX6_hours_87 tw_324 kc_X6_set rfl ⟨Nat.le_of_ble_eq_true rfl, Nat.le_of_ble_eq_true rfl⟩ (Nat.le_of_ble_eq_true rfl) rfl) ?_
      refine G_st (x_aload_n dX6_hours_90 rfl) ?_
      refine G_st (x_get (k := 2) (aR (3, 6)) dX6_hours_91 (H0_0 0 (Nat.le_of_ble_eq_true rfl) (Nat.le_of_ble_eq_true rfl)) rfl rfl rfl rfl inTX6 (Nat.le_of_ble_eq_true rfl) tw_287 (fun ad => rfl)) ?_
      refine G_st (x_get (k := 1) (aR (3, 15)) dX6_hours_94 (H3 6 (Nat.le_of_ble_eq_true rfl) (Nat.le_of_ble_eq_true rfl)) rfl rfl rfl rfl inTX2 (Nat.le_of_ble_eq_true rfl) tw_253 (fun ad => rfl)) ?_
      refine G_st (x_get (k := 4) (aR (3, 19)) dX6_hours_97 (H3 15 (Nat.le_of_ble_eq_true rfl) (Nat.le_of_ble_eq_true rfl)) rfl rfl rfl rfl inTX1 (Nat.le_of_ble_eq_true rfl) tw_186 (fun ad => rfl)) ?_
      refine G_st (x_iload_n dX6_hours_100 rfl) ?_
      refine G_st (x_iload dX6_hours_101 rfl) ?_
      refine G_bd (fun _ t25 h26 => ?_)
      refine G_st (x_callS [] (c_X6_set ids Hn (3, 19) v2 v7 (H3 19 (Nat.le_of_ble_eq_true rfl) (Nat.le_of_ble_eq_true rfl)) rfl _ _ _ h26) dX6_hours_103 tw_324 kc_X6_set rfl ⟨Nat.le_of_ble_eq_true rfl, Nat.le_of_ble_eq_true rfl⟩ (Nat.le_of_ble_eq_true rfl) rfl) ?_
      refine G_st (x_aload_n dX6_hours_106 rfl) ?_
      refine G_st (x_get (k := 2) (aR (3, 6)) dX6_hours_107 (H0_0 0 (Nat.le_of_ble_eq_true rfl) (Nat.le_of_ble_eq_true rfl)) rfl rfl rfl rfl inTX6 (Nat.le_of_ble_eq_true rfl) tw_287 (fun ad => rfl)) ?_
      refine G_bd (fun x27 t28 h29 => ?_)
      refine G_st (x_callV [] (c_X2_spendWeek ids Hn 3 H3 _ _ _ h29) dX6_hours_110 tw_605 kc_X2_spendWeek (H3 6 (Nat.le_of_ble_eq_true rfl) (Nat.le_of_ble_eq_true rfl)) rfl rfl rfl rfl ⟨Nat.le_of_ble_eq_true rfl, Nat.le_of_ble_eq_true rfl⟩ (Nat.le_of_ble_eq_true rfl) rfl) ?_
      refine G_st (x_istore [some (aR (0, 0)), some (aI v1), some (aI v2), some (aI v3), some (aI v4), some (aI v5), some (aI v6), some (aI v7), some (aI x27)] dX6_hours_113 (Nat.le_of_ble_eq_true rfl) rfl rfl) ?_
      refine G_st (x_iload dX6_hours_115 rfl) ?_
      refine G_st (x_bipush (-9 : Int32) dX6_hours_117 rfl) ?_
      refine G_ite (fun c30 => ?_) (fun c30 => ?_)
      · refine G_st (x_icmp_eq_t (tgt := 129) dX6_hours_119 (by decide) c30) ?_
        refine G_weak _ ?_ (g_X6_hours_129 ids Hn H0_0 H1 H2 H3 k53 hk53 (f_X6_hours_63 k53 n) (ih) v1 v2 v3 v6 v7 x27 t28)
        exact (leL_s (leL_s (leL_s (leL_s (leL_n (leL_n (leL_s (leL_s (leL_s (leL_e _))))))))))
      · refine G_st (x_icmp_eq_f 129 dX6_hours_119 (by decide) c30) ?_
        refine G_st (x_iload dX6_hours_122 rfl) ?_
        refine G_st (x_iload dX6_hours_124 rfl) ?_
        refine G_ite (fun c32 => ?_) (fun c32 => ?_)
        · refine G_st (x_icmp_ge_t (tgt := 143) dX6_hours_126 (by decide) c32) ?_
          refine G_weak _ ?_ (g_X6_hours_143 ids Hn H0_0 H1 H2 H3 k53 hk53 (f_X6_hours_63 k53 n) (ih) v1 v2 v3 v4 v5 v6 v7 t28)
          exact (leL_s (leL_s (leL_s (leL_s (leL_s (leL_s (leL_s (leL_s (leL_n (leL_e _))))))))))
        · refine G_st (x_icmp_ge_f 143 dX6_hours_126 (by decide) c32) ?_
          refine G_weak _ ?_ (g_X6_hours_129 ids Hn H0_0 H1 H2 H3 k53 hk53 (f_X6_hours_63 k53 n) (ih) v1 v2 v3 v6 v7 x27 t28)
          exact (leL_s (leL_s (leL_s (leL_s (leL_n (leL_n (leL_s (leL_s (leL_s (leL_e _))))))))))
set_option maxRecDepth 100000 in
set_option maxHeartbeats 4000000 in
theorem g_X6_hours_53 (ids : List (Nat × Nat)) (Hn : Ndp ids)  (H0_0 : InR ids 0 0 5) (H1 : InR ids 1 6 28) (H2 : InR ids 2 6 28) (H3 : InR ids 3 6 28)  : ∀ (n : Nat) (v1 : Int32) (v2 : Int32) (v3 : Int32) (v4 : Int32) (v5 : Int32) (v6 : Int32) (t0 : Sg), Gj kI mX6_hours ids 53 [some (aR (0, 0)), some (aI v1), some (aI v2), some (aI v3), some (aI v4), some (aI v5), some (aI v6), none, none] [] t0 (f_X6_hours_53 n v1 v2 v3 v4 v5 v6 t0) := by
  intro n
  induction n with
  | zero => intro v1 v2 v3 v4 v5 v6 t0; exact G_none
  | succ n ih =>
    intro v1 v2 v3 v4 v5 v6 t0
    rw [f_X6_hours_53]
    refine G_st (x_iload dX6_hours_53 rfl) ?_
    refine G_st (x_bipush (8 : Int32) dX6_hours_55 rfl) ?_
    refine G_ite (fun c14 => ?_) (fun c14 => ?_)
    · refine G_st (x_icmp_ge_t (tgt := 155) dX6_hours_57 (by decide) c14) ?_
      refine G_st (x_iload_n dX6_hours_155 rfl) ?_
      have e16 : Tj mX6_hours ids 156 [some (aR (0, 0)), some (aI v1), some (aI v2), some (aI v3), some (aI v4), some (aI v5), some (aI v6), none, none] [aI v3] t0 166 [some (aR (0, 0)), some (aI v1), some (aI v2), some (aI v3), some (aI v4), some (aI v5), some (aI v6), none, none] [aI (if v3 = 0 then v4 else v5)] t0 := by
        refine Tj.dia (fun c15 => ?_) (fun c15 => ?_)
        · refine Tj.tr (x_if_ne_f 164 dX6_hours_156 (by decide) c15) ?_
          refine Tj.tr (x_iload dX6_hours_159 rfl) ?_
          refine Tj.tr (x_goto (tgt := 166) dX6_hours_161 (by decide)) ?_
          exact Tj.rf
        · refine Tj.tr (x_if_ne_t (tgt := 164) dX6_hours_156 (by decide) c15) ?_
          refine Tj.tr (x_iload dX6_hours_164 rfl) ?_
          exact Tj.rf
      refine G_st e16 ?_
      exact G_ret rfl ⟨dX6_hours_166, _, rfl, rfl⟩ rfl
    · refine G_st (x_icmp_ge_f 155 dX6_hours_57 (by decide) c14) ?_
      refine G_st (x_iconst (0 : Int32) dX6_hours_60 rfl) ?_
      refine G_st (x_istore [some (aR (0, 0)), some (aI v1), some (aI v2), some (aI v3), some (aI v4), some (aI v5), some (aI v6), some (aI (0 : Int32)), none] dX6_hours_61 (Nat.le_of_ble_eq_true rfl) rfl rfl) ?_
      refine G_weak _ ?_ (g_X6_hours_63 ids Hn H0_0 H1 H2 H3 (f_X6_hours_53 n) (ih) fuel v1 v2 v3 v4 v5 v6 (0 : Int32) t0)
      exact (leL_s (leL_s (leL_s (leL_s (leL_s (leL_s (leL_s (leL_s (leL_n (leL_e _))))))))))
set_option maxRecDepth 100000 in
set_option maxHeartbeats 4000000 in
theorem g_X6_hours_43 (ids : List (Nat × Nat)) (Hn : Ndp ids)  (H0_0 : InR ids 0 0 5) (H1 : InR ids 1 6 28) (H2 : InR ids 2 6 28) (H3 : InR ids 3 6 28)  (v1 : Int32) (v2 : Int32) (v3 : Int32) (t0 : Sg) : Gj kI mX6_hours ids 43 [some (aR (0, 0)), some (aI v1), some (aI v2), some (aI v3), none, none, none, none, none] [] t0 (f_X6_hours_43 v1 v2 v3 t0) := by
  unfold f_X6_hours_43
  refine G_st (x_bipush (-9 : Int32) dX6_hours_43 rfl) ?_
  refine G_st (x_istore [some (aR (0, 0)), some (aI v1), some (aI v2), some (aI v3), some (aI (-9 : Int32)), none, none, none, none] dX6_hours_45 (Nat.le_of_ble_eq_true rfl) rfl rfl) ?_
  refine G_st (x_iconst (0 : Int32) dX6_hours_47 rfl) ?_
  refine G_st (x_istore [some (aR (0, 0)), some (aI v1), some (aI v2), some (aI v3), some (aI (-9 : Int32)), some (aI (0 : Int32)), none, none, none] dX6_hours_48 (Nat.le_of_ble_eq_true rfl) rfl rfl) ?_
  refine G_st (x_iconst (0 : Int32) dX6_hours_50 rfl) ?_
  refine G_st (x_istore [some (aR (0, 0)), some (aI v1), some (aI v2), some (aI v3), some (aI (-9 : Int32)), some (aI (0 : Int32)), some (aI (0 : Int32)), none, none] dX6_hours_51 (Nat.le_of_ble_eq_true rfl) rfl rfl) ?_
  refine G_weak _ ?_ (g_X6_hours_53 ids Hn H0_0 H1 H2 H3 fuel v1 v2 v3 (-9 : Int32) (0 : Int32) (0 : Int32) t0)
  exact (leL_s (leL_s (leL_s (leL_s (leL_s (leL_s (leL_s (leL_n (leL_n (leL_e _))))))))))
set_option maxRecDepth 100000 in
set_option maxHeartbeats 4000000 in
theorem g_X6_hours (ids : List (Nat × Nat)) (Hn : Ndp ids) (v1 : Int32) (v2 : Int32) (v3 : Int32) (H0_0 : InR ids 0 0 5) (H1 : InR ids 1 6 28) (H2 : InR ids 2 6 28) (H3 : InR ids 3 6 28) (t0 : Sg) : Gj kI mX6_hours ids 0 [some (aR (0, 0)), some (aI v1), some (aI v2), some (aI v3), none, none, none, none, none] [] t0 (f_X6_hours v1 v2 v3 t0) := by
  unfold f_X6_hours
  refine G_st (x_aload_n dX6_hours_0 rfl) ?_
  refine G_st (x_iload_n dX6_hours_1 rfl) ?_
  refine G_bd (fun x1 t2 h3 => ?_)
  refine G_st (x_callV [] (c_X6_isHabit ids Hn v1 H0_0 H1 H2 H3 _ _ _ h3) dX6_hours_2 tw_554 kc_X6_isHabit (H0_0 0 (Nat.le_of_ble_eq_true rfl) (Nat.le_of_ble_eq_true rfl)) rfl rfl rfl rfl ⟨Nat.le_of_ble_eq_true rfl, Nat.le_of_ble_eq_true rfl⟩ (Nat.le_of_ble_eq_true rfl) rfl) ?_
  refine G_ite (fun c4 => ?_) (fun c4 => ?_)
  · refine G_st (x_if_eq_t (tgt := 21) dX6_hours_5 (by decide) c4) ?_
    refine G_weak _ ?_ (g_X6_hours_21 ids Hn H0_0 H1 H2 H3 t2)
    exact (leL_s (leL_n (leL_n (leL_n (leL_n (leL_n (leL_n (leL_n (leL_n (leL_e _))))))))))
  · refine G_st (x_if_eq_f 21 dX6_hours_5 (by decide) c4) ?_
    refine G_st (x_aload_n dX6_hours_8 rfl) ?_
    refine G_st (x_iload_n dX6_hours_9 rfl) ?_
    refine G_bd (fun x8 t9 h10 => ?_)
    refine G_st (x_callV [] (c_X6_isHabit ids Hn v2 H0_0 H1 H2 H3 _ _ _ h10) dX6_hours_10 tw_554 kc_X6_isHabit (H0_0 0 (Nat.le_of_ble_eq_true rfl) (Nat.le_of_ble_eq_true rfl)) rfl rfl rfl rfl ⟨Nat.le_of_ble_eq_true rfl, Nat.le_of_ble_eq_true rfl⟩ (Nat.le_of_ble_eq_true rfl) rfl) ?_
    refine G_ite (fun c11 => ?_) (fun c11 => ?_)
    · refine G_st (x_if_eq_t (tgt := 21) dX6_hours_13 (by decide) c11) ?_
      refine G_weak _ ?_ (g_X6_hours_21 ids Hn H0_0 H1 H2 H3 t9)
      exact (leL_s (leL_n (leL_n (leL_n (leL_n (leL_n (leL_n (leL_n (leL_n (leL_e _))))))))))
    · refine G_st (x_if_eq_f 21 dX6_hours_13 (by decide) c11) ?_
      refine G_st (x_iload_n dX6_hours_16 rfl) ?_
      refine G_st (x_iload_n dX6_hours_17 rfl) ?_
      refine G_ite (fun c12 => ?_) (fun c12 => ?_)
      · refine G_st (x_icmp_ne_f 27 dX6_hours_18 (by decide) c12) ?_
        refine G_weak _ ?_ (g_X6_hours_21 ids Hn H0_0 H1 H2 H3 t9)
        exact (leL_s (leL_n (leL_n (leL_n (leL_n (leL_n (leL_n (leL_n (leL_n (leL_e _))))))))))
      · refine G_st (x_icmp_ne_t (tgt := 27) dX6_hours_18 (by decide) c12) ?_
        refine G_st (x_iload_n dX6_hours_27 rfl) ?_
        refine G_ite (fun c13 => ?_) (fun c13 => ?_)
        · refine G_st (x_if_eq_t (tgt := 43) dX6_hours_28 (by decide) c13) ?_
          refine G_weak _ ?_ (g_X6_hours_43 ids Hn H0_0 H1 H2 H3 v1 v2 v3 t9)
          exact (leL_s (leL_s (leL_s (leL_s (leL_n (leL_n (leL_n (leL_n (leL_n (leL_e _))))))))))
        · refine G_st (x_if_eq_f 43 dX6_hours_28 (by decide) c13) ?_
          refine G_st (x_iload_n dX6_hours_31 rfl) ?_
          refine G_st (x_iconst (1 : Int32) dX6_hours_32 rfl) ?_
          refine G_ite (fun c33 => ?_) (fun c33 => ?_)
          · refine G_st (x_icmp_eq_t (tgt := 43) dX6_hours_33 (by decide) c33) ?_
            refine G_weak _ ?_ (g_X6_hours_43 ids Hn H0_0 H1 H2 H3 v1 v2 v3 t9)
            exact (leL_s (leL_s (leL_s (leL_s (leL_n (leL_n (leL_n (leL_n (leL_n (leL_e _))))))))))
          · refine G_st (x_icmp_eq_f 43 dX6_hours_33 (by decide) c33) ?_
            refine G_st (x_aload_n dX6_hours_36 rfl) ?_
            refine G_st (x_bipush (-2 : Int32) dX6_hours_37 rfl) ?_
            refine G_bd (fun x34 t35 h36 => ?_)
            refine G_st (x_callV [] (c_X6_refuse ids Hn (-2 : Int32) H0_0 H1 H2 H3 _ _ _ h36) dX6_hours_39 tw_317 kc_X6_refuse (H0_0 0 (Nat.le_of_ble_eq_true rfl) (Nat.le_of_ble_eq_true rfl)) rfl rfl rfl rfl ⟨Nat.le_of_ble_eq_true rfl, Nat.le_of_ble_eq_true rfl⟩ (Nat.le_of_ble_eq_true rfl) rfl) ?_
            exact G_ret rfl ⟨dX6_hours_42, _, rfl, rfl⟩ rfl
set_option maxRecDepth 100000 in
set_option maxHeartbeats 4000000 in
theorem c_X6_hours (ids : List (Nat × Nat)) (Hn : Ndp ids) (v1 : Int32) (v2 : Int32) (v3 : Int32) (H0_0 : InR ids 0 0 5) (H1 : InR ids 1 6 28) (H2 : InR ids 2 6 28) (H3 : InR ids 3 6 28) (t0 : Sg) (r : Int32) (t1 : Sg) (hf : f_X6_hours v1 v2 v3 t0 = some (r, t1)) : Mt0 mX6_hours yX6_hours ids [aR (0, 0), aI v1, aI v2, aI v3] t0 (some (aI r)) t1 :=
  Mt_of (x := (r, t1)) (g_X6_hours ids Hn v1 v2 v3 H0_0 H1 H2 H3 t0) hf (fun _ _ => trivial) (by decide) rfl Hn (fun _ => rfl) (fun _ => Nat.le_of_ble_eq_true rfl)
theorem dX6_quiet_0 : decode cX6_quiet 0 = .ok (.iload_n 1, 1) := by decide +kernel
theorem dX6_quiet_1 : decode cX6_quiet 1 = .ok (.invokestatic 215, 3) := by decide +kernel
theorem dX6_quiet_4 : decode cX6_quiet 4 = .ok (.ifCond .eq 10, 3) := by decide +kernel
theorem dX6_quiet_7 : decode cX6_quiet 7 = .ok (.iload_n 2, 1) := by decide +kernel
theorem dX6_quiet_8 : decode cX6_quiet 8 = .ok (.invokestatic 215, 3) := by decide +kernel
theorem dX6_quiet_11 : decode cX6_quiet 11 = .ok (.ifCond .ne 10, 3) := by decide +kernel
theorem dX6_quiet_14 : decode cX6_quiet 14 = .ok (.aload_n 0, 1) := by decide +kernel
theorem dX6_quiet_15 : decode cX6_quiet 15 = .ok (.bipush (-2), 2) := by decide +kernel
theorem dX6_quiet_17 : decode cX6_quiet 17 = .ok (.invokevirtual 130, 3) := by decide +kernel
theorem dX6_quiet_20 : decode cX6_quiet 20 = .ok (.ireturn, 1) := by decide +kernel
theorem dX6_quiet_21 : decode cX6_quiet 21 = .ok (.iload_n 2, 1) := by decide +kernel
theorem dX6_quiet_22 : decode cX6_quiet 22 = .ok (.iload_n 1, 1) := by decide +kernel
theorem dX6_quiet_23 : decode cX6_quiet 23 = .ok (.if_icmp .ge 10, 3) := by decide +kernel
theorem dX6_quiet_26 : decode cX6_quiet 26 = .ok (.aload_n 0, 1) := by decide +kernel
theorem dX6_quiet_27 : decode cX6_quiet 27 = .ok (.bipush (-3), 2) := by decide +kernel
theorem dX6_quiet_29 : decode cX6_quiet 29 = .ok (.invokevirtual 130, 3) := by decide +kernel
theorem dX6_quiet_32 : decode cX6_quiet 32 = .ok (.ireturn, 1) := by decide +kernel
theorem dX6_quiet_33 : decode cX6_quiet 33 = .ok (.aload_n 0, 1) := by decide +kernel
theorem dX6_quiet_34 : decode cX6_quiet 34 = .ok (.iload_n 1, 1) := by decide +kernel
theorem dX6_quiet_35 : decode cX6_quiet 35 = .ok (.iload_n 2, 1) := by decide +kernel
theorem dX6_quiet_36 : decode cX6_quiet 36 = .ok (.invokevirtual 256, 3) := by decide +kernel
theorem dX6_quiet_39 : decode cX6_quiet 39 = .ok (.ireturn, 1) := by decide +kernel
set_option maxRecDepth 100000 in
set_option maxHeartbeats 4000000 in
theorem g_X6_quiet_14 (ids : List (Nat × Nat)) (Hn : Ndp ids)  (H0_0 : InR ids 0 0 5) (H1 : InR ids 1 6 28) (H2 : InR ids 2 6 28) (H3 : InR ids 3 6 28)   (t0 : Sg) : Gj kI mX6_quiet ids 14 [some (aR (0, 0)), none, none] [] t0 (f_X6_quiet_14 t0) := by
  unfold f_X6_quiet_14
  refine G_st (x_aload_n dX6_quiet_14 rfl) ?_
  refine G_st (x_bipush (-2 : Int32) dX6_quiet_15 rfl) ?_
  refine G_bd (fun x5 t6 h7 => ?_)
  refine G_st (x_callV [] (c_X6_refuse ids Hn (-2 : Int32) H0_0 H1 H2 H3 _ _ _ h7) dX6_quiet_17 tw_317 kc_X6_refuse (H0_0 0 (Nat.le_of_ble_eq_true rfl) (Nat.le_of_ble_eq_true rfl)) rfl rfl rfl rfl ⟨Nat.le_of_ble_eq_true rfl, Nat.le_of_ble_eq_true rfl⟩ (Nat.le_of_ble_eq_true rfl) rfl) ?_
  exact G_ret rfl ⟨dX6_quiet_20, _, rfl, rfl⟩ rfl
set_option maxRecDepth 100000 in
set_option maxHeartbeats 4000000 in
theorem g_X6_quiet (ids : List (Nat × Nat)) (Hn : Ndp ids) (v1 : Int32) (v2 : Int32) (H0_0 : InR ids 0 0 5) (H1 : InR ids 1 6 28) (H2 : InR ids 2 6 28) (H3 : InR ids 3 6 28) (t0 : Sg) : Gj kI mX6_quiet ids 0 [some (aR (0, 0)), some (aI v1), some (aI v2)] [] t0 (f_X6_quiet v1 v2 t0) := by
  unfold f_X6_quiet
  refine G_st (x_iload_n dX6_quiet_0 rfl) ?_
  refine G_bd (fun x1 t2 h3 => ?_)
  refine G_st (x_callS [] (c_X6_isHour ids Hn v1  _ _ _ h3) dX6_quiet_1 tw_569 kc_X6_isHour rfl ⟨Nat.le_of_ble_eq_true rfl, Nat.le_of_ble_eq_true rfl⟩ (Nat.le_of_ble_eq_true rfl) rfl) ?_
  refine G_ite (fun c4 => ?_) (fun c4 => ?_)
  · refine G_st (x_if_eq_t (tgt := 14) dX6_quiet_4 (by decide) c4) ?_
    refine G_weak _ ?_ (g_X6_quiet_14 ids Hn H0_0 H1 H2 H3 t2)
    exact (leL_s (leL_n (leL_n (leL_e _))))
  · refine G_st (x_if_eq_f 14 dX6_quiet_4 (by decide) c4) ?_
    refine G_st (x_iload_n dX6_quiet_7 rfl) ?_
    refine G_bd (fun x8 t9 h10 => ?_)
    refine G_st (x_callS [] (c_X6_isHour ids Hn v2  _ _ _ h10) dX6_quiet_8 tw_569 kc_X6_isHour rfl ⟨Nat.le_of_ble_eq_true rfl, Nat.le_of_ble_eq_true rfl⟩ (Nat.le_of_ble_eq_true rfl) rfl) ?_
    refine G_ite (fun c11 => ?_) (fun c11 => ?_)
    · refine G_st (x_if_ne_f 21 dX6_quiet_11 (by decide) c11) ?_
      refine G_weak _ ?_ (g_X6_quiet_14 ids Hn H0_0 H1 H2 H3 t9)
      exact (leL_s (leL_n (leL_n (leL_e _))))
    · refine G_st (x_if_ne_t (tgt := 21) dX6_quiet_11 (by decide) c11) ?_
      refine G_st (x_iload_n dX6_quiet_21 rfl) ?_
      refine G_st (x_iload_n dX6_quiet_22 rfl) ?_
      refine G_ite (fun c12 => ?_) (fun c12 => ?_)
      · refine G_st (x_icmp_ge_t (tgt := 33) dX6_quiet_23 (by decide) c12) ?_
        refine G_st (x_aload_n dX6_quiet_33 rfl) ?_
        refine G_st (x_iload_n dX6_quiet_34 rfl) ?_
        refine G_st (x_iload_n dX6_quiet_35 rfl) ?_
        refine G_bd (fun x13 t14 h15 => ?_)
        refine G_st (x_callV [] (c_X6_tryQuiet ids Hn v1 v2 H0_0 H1 H2 H3 _ _ _ h15) dX6_quiet_36 tw_715 kc_X6_tryQuiet (H0_0 0 (Nat.le_of_ble_eq_true rfl) (Nat.le_of_ble_eq_true rfl)) rfl rfl rfl rfl ⟨Nat.le_of_ble_eq_true rfl, Nat.le_of_ble_eq_true rfl⟩ (Nat.le_of_ble_eq_true rfl) rfl) ?_
        exact G_ret rfl ⟨dX6_quiet_39, _, rfl, rfl⟩ rfl
      · refine G_st (x_icmp_ge_f 33 dX6_quiet_23 (by decide) c12) ?_
        refine G_st (x_aload_n dX6_quiet_26 rfl) ?_
        refine G_st (x_bipush (-3 : Int32) dX6_quiet_27 rfl) ?_
        refine G_bd (fun x16 t17 h18 => ?_)
        refine G_st (x_callV [] (c_X6_refuse ids Hn (-3 : Int32) H0_0 H1 H2 H3 _ _ _ h18) dX6_quiet_29 tw_317 kc_X6_refuse (H0_0 0 (Nat.le_of_ble_eq_true rfl) (Nat.le_of_ble_eq_true rfl)) rfl rfl rfl rfl ⟨Nat.le_of_ble_eq_true rfl, Nat.le_of_ble_eq_true rfl⟩ (Nat.le_of_ble_eq_true rfl) rfl) ?_
        exact G_ret rfl ⟨dX6_quiet_32, _, rfl, rfl⟩ rfl
set_option maxRecDepth 100000 in
set_option maxHeartbeats 4000000 in
theorem c_X6_quiet (ids : List (Nat × Nat)) (Hn : Ndp ids) (v1 : Int32) (v2 : Int32) (H0_0 : InR ids 0 0 5) (H1 : InR ids 1 6 28) (H2 : InR ids 2 6 28) (H3 : InR ids 3 6 28) (t0 : Sg) (r : Int32) (t1 : Sg) (hf : f_X6_quiet v1 v2 t0 = some (r, t1)) : Mt0 mX6_quiet yX6_quiet ids [aR (0, 0), aI v1, aI v2] t0 (some (aI r)) t1 :=
  Mt_of (x := (r, t1)) (g_X6_quiet ids Hn v1 v2 H0_0 H1 H2 H3 t0) hf (fun _ _ => trivial) (by decide) rfl Hn (fun _ => rfl) (fun _ => Nat.le_of_ble_eq_true rfl)
theorem dX6_rule_0 : decode cX6_rule 0 = .ok (.bipush (-9), 2) := by decide +kernel
theorem dX6_rule_2 : decode cX6_rule 2 = .ok (.istore_n 1, 1) := by decide +kernel
theorem dX6_rule_3 : decode cX6_rule 3 = .ok (.aload_n 0, 1) := by decide +kernel
theorem dX6_rule_4 : decode cX6_rule 4 = .ok (.invokevirtual 259, 3) := by decide +kernel
theorem dX6_rule_7 : decode cX6_rule 7 = .ok (.istore_n 2, 1) := by decide +kernel
theorem dX6_rule_8 : decode cX6_rule 8 = .ok (.iconst 0, 1) := by decide +kernel
theorem dX6_rule_9 : decode cX6_rule 9 = .ok (.istore_n 3, 1) := by decide +kernel
theorem dX6_rule_10 : decode cX6_rule 10 = .ok (.iload_n 3, 1) := by decide +kernel
theorem dX6_rule_11 : decode cX6_rule 11 = .ok (.bipush 8, 2) := by decide +kernel
theorem dX6_rule_13 : decode cX6_rule 13 = .ok (.if_icmp .ge 51, 3) := by decide +kernel
theorem dX6_rule_16 : decode cX6_rule 16 = .ok (.iload_n 3, 1) := by decide +kernel
theorem dX6_rule_17 : decode cX6_rule 17 = .ok (.istore 4, 2) := by decide +kernel
theorem dX6_rule_19 : decode cX6_rule 19 = .ok (.iload 4, 2) := by decide +kernel
theorem dX6_rule_21 : decode cX6_rule 21 = .ok (.bipush 8, 2) := by decide +kernel
theorem dX6_rule_23 : decode cX6_rule 23 = .ok (.if_icmp .ge 35, 3) := by decide +kernel
theorem dX6_rule_26 : decode cX6_rule 26 = .ok (.aload_n 0, 1) := by decide +kernel
theorem dX6_rule_27 : decode cX6_rule 27 = .ok (.iload_n 3, 1) := by decide +kernel
theorem dX6_rule_28 : decode cX6_rule 28 = .ok (.iload 4, 2) := by decide +kernel
theorem dX6_rule_30 : decode cX6_rule 30 = .ok (.invokevirtual 256, 3) := by decide +kernel
theorem dX6_rule_33 : decode cX6_rule 33 = .ok (.istore 5, 2) := by decide +kernel
theorem dX6_rule_35 : decode cX6_rule 35 = .ok (.iload 5, 2) := by decide +kernel
theorem dX6_rule_37 : decode cX6_rule 37 = .ok (.iload_n 2, 1) := by decide +kernel
theorem dX6_rule_38 : decode cX6_rule 38 = .ok (.if_icmp .ge 14, 3) := by decide +kernel
theorem dX6_rule_41 : decode cX6_rule 41 = .ok (.iload 5, 2) := by decide +kernel
theorem dX6_rule_43 : decode cX6_rule 43 = .ok (.istore_n 2, 1) := by decide +kernel
theorem dX6_rule_44 : decode cX6_rule 44 = .ok (.bipush 10, 2) := by decide +kernel
theorem dX6_rule_46 : decode cX6_rule 46 = .ok (.iload_n 3, 1) := by decide +kernel
theorem dX6_rule_47 : decode cX6_rule 47 = .ok (.imul, 1) := by decide +kernel
theorem dX6_rule_48 : decode cX6_rule 48 = .ok (.iload 4, 2) := by decide +kernel
theorem dX6_rule_50 : decode cX6_rule 50 = .ok (.iadd, 1) := by decide +kernel
theorem dX6_rule_51 : decode cX6_rule 51 = .ok (.istore_n 1, 1) := by decide +kernel
theorem dX6_rule_52 : decode cX6_rule 52 = .ok (.iinc 4 1, 3) := by decide +kernel
theorem dX6_rule_55 : decode cX6_rule 55 = .ok (.goto (-36), 3) := by decide +kernel
theorem dX6_rule_58 : decode cX6_rule 58 = .ok (.iinc 3 1, 3) := by decide +kernel
theorem dX6_rule_61 : decode cX6_rule 61 = .ok (.goto (-51), 3) := by decide +kernel
theorem dX6_rule_64 : decode cX6_rule 64 = .ok (.iload_n 1, 1) := by decide +kernel
theorem dX6_rule_65 : decode cX6_rule 65 = .ok (.ireturn, 1) := by decide +kernel
set_option maxRecDepth 100000 in
set_option maxHeartbeats 4000000 in
theorem g_X6_rule_52 (ids : List (Nat × Nat)) (Hn : Ndp ids)  (H0_0 : InR ids 0 0 5) (H1 : InR ids 1 6 28) (H2 : InR ids 2 6 28) (H3 : InR ids 3 6 28) (k10 : Int32 → Int32 → Int32 → Sg → Option (Int32 × Sg)) (hk10 : ∀ (v1 : Int32) (v2 : Int32) (v3 : Int32) (t0 : Sg), Gj kI mX6_rule ids 10 [some (aR (0, 0)), some (aI v1), some (aI v2), some (aI v3), none, none] [] t0 (k10 v1 v2 v3 t0)) (k19 : Int32 → Int32 → Int32 → Int32 → Sg → Option (Int32 × Sg)) (hk19 : ∀ (v1 : Int32) (v2 : Int32) (v3 : Int32) (v4 : Int32) (t0 : Sg), Gj kI mX6_rule ids 19 [some (aR (0, 0)), some (aI v1), some (aI v2), some (aI v3), some (aI v4), none] [] t0 (k19 v1 v2 v3 v4 t0)) (v1 : Int32) (v2 : Int32) (v3 : Int32) (v4 : Int32) (t0 : Sg) : Gj kI mX6_rule ids 52 [some (aR (0, 0)), some (aI v1), some (aI v2), some (aI v3), some (aI v4), none] [] t0 (f_X6_rule_52 k10 k19 v1 v2 v3 v4 t0) := by
  unfold f_X6_rule_52
  refine G_st (x_iinc (v4 + (1 : Int32)) [some (aR (0, 0)), some (aI v1), some (aI v2), some (aI v3), some (aI (v4 + (1 : Int32))), none] dX6_rule_52 (Nat.le_of_ble_eq_true rfl) rfl rfl rfl rfl) ?_
  refine G_st (x_goto (tgt := 19) dX6_rule_55 (by decide)) ?_
  refine G_weak _ ?_ (hk19 v1 v2 v3 (v4 + (1 : Int32)) t0)
  exact (leL_s (leL_s (leL_s (leL_s (leL_s (leL_n (leL_e _)))))))
set_option maxRecDepth 100000 in
set_option maxHeartbeats 4000000 in
theorem g_X6_rule_19 (ids : List (Nat × Nat)) (Hn : Ndp ids)  (H0_0 : InR ids 0 0 5) (H1 : InR ids 1 6 28) (H2 : InR ids 2 6 28) (H3 : InR ids 3 6 28) (k10 : Int32 → Int32 → Int32 → Sg → Option (Int32 × Sg)) (hk10 : ∀ (v1 : Int32) (v2 : Int32) (v3 : Int32) (t0 : Sg), Gj kI mX6_rule ids 10 [some (aR (0, 0)), some (aI v1), some (aI v2), some (aI v3), none, none] [] t0 (k10 v1 v2 v3 t0)) : ∀ (n : Nat) (v1 : Int32) (v2 : Int32) (v3 : Int32) (v4 : Int32) (t0 : Sg), Gj kI mX6_rule ids 19 [some (aR (0, 0)), some (aI v1), some (aI v2), some (aI v3), some (aI v4), none] [] t0 (f_X6_rule_19 k10 n v1 v2 v3 v4 t0) := by
  intro n
  induction n with
  | zero => intro v1 v2 v3 v4 t0; exact G_none
  | succ n ih =>
    intro v1 v2 v3 v4 t0
    rw [f_X6_rule_19]
    refine G_st (x_iload dX6_rule_19 rfl) ?_
    refine G_st (x_bipush (8 : Int32) dX6_rule_21 rfl) ?_
    refine G_ite (fun c5 => ?_) (fun c5 => ?_)
    · refine G_st (x_icmp_ge_t (tgt := 58) dX6_rule_23 (by decide) c5) ?_
      refine G_st (x_iinc (v3 + (1 : Int32)) [some (aR (0, 0)), some (aI v1), some (aI v2), some (aI (v3 + (1 : Int32))), some (aI v4), none] dX6_rule_58 (Nat.le_of_ble_eq_true rfl) rfl rfl rfl rfl) ?_
      refine G_st (x_goto (tgt := 10) dX6_rule_61 (by decide)) ?_
      refine G_weak _ ?_ (hk10 v1 v2 (v3 + (1 : Int32)) t0)
      exact (leL_s (leL_s (leL_s (leL_s (leL_n (leL_n (leL_e _)))))))
    · refine G_st (x_icmp_ge_f 58 dX6_rule_23 (by decide) c5) ?_
      refine G_st (x_aload_n dX6_rule_26 rfl) ?_
      refine G_st (x_iload_n dX6_rule_27 rfl) ?_
      refine G_st (x_iload dX6_rule_28 rfl) ?_
      refine G_bd (fun x6 t7 h8 => ?_)
      refine G_st (x_callV [] (c_X6_tryQuiet ids Hn v3 v4 H0_0 H1 H2 H3 _ _ _ h8) dX6_rule_30 tw_715 kc_X6_tryQuiet (H0_0 0 (Nat.le_of_ble_eq_true rfl) (Nat.le_of_ble_eq_true rfl)) rfl rfl rfl rfl ⟨Nat.le_of_ble_eq_true rfl, Nat.le_of_ble_eq_true rfl⟩ (Nat.le_of_ble_eq_true rfl) rfl) ?_
      refine G_st (x_istore [some (aR (0, 0)), some (aI v1), some (aI v2), some (aI v3), some (aI v4), some (aI x6)] dX6_rule_33 (Nat.le_of_ble_eq_true rfl) rfl rfl) ?_
      refine G_st (x_iload dX6_rule_35 rfl) ?_
      refine G_st (x_iload_n dX6_rule_37 rfl) ?_
      refine G_ite (fun c9 => ?_) (fun c9 => ?_)
      · refine G_st (x_icmp_ge_t (tgt := 52) dX6_rule_38 (by decide) c9) ?_
        refine G_weak _ ?_ (g_X6_rule_52 ids Hn H0_0 H1 H2 H3 k10 hk10 (f_X6_rule_19 k10 n) (ih) v1 v2 v3 v4 t7)
        exact (leL_s (leL_s (leL_s (leL_s (leL_s (leL_n (leL_e _)))))))
      · refine G_st (x_icmp_ge_f 52 dX6_rule_38 (by decide) c9) ?_
        refine G_st (x_iload dX6_rule_41 rfl) ?_
        refine G_st (x_istore_n [some (aR (0, 0)), some (aI v1), some (aI x6), some (aI v3), some (aI v4), some (aI x6)] dX6_rule_43 (Nat.le_of_ble_eq_true rfl) rfl rfl) ?_
        refine G_st (x_bipush (10 : Int32) dX6_rule_44 rfl) ?_
        refine G_st (x_iload_n dX6_rule_46 rfl) ?_
        refine G_st (x_imul dX6_rule_47) ?_
        refine G_st (x_iload dX6_rule_48 rfl) ?_
        refine G_st (x_iadd dX6_rule_50) ?_
        refine G_bvI (fun x10 => ?_)
        refine G_st (x_istore_n [some (aR (0, 0)), some (aI x10), some (aI x6), some (aI v3), some (aI v4), some (aI x6)] dX6_rule_51 (Nat.le_of_ble_eq_true rfl) rfl rfl) ?_
        refine G_weak _ ?_ (g_X6_rule_52 ids Hn H0_0 H1 H2 H3 k10 hk10 (f_X6_rule_19 k10 n) (ih) x10 x6 v3 v4 t7)
        exact (leL_s (leL_s (leL_s (leL_s (leL_s (leL_n (leL_e _)))))))
set_option maxRecDepth 100000 in
set_option maxHeartbeats 4000000 in
theorem g_X6_rule_10 (ids : List (Nat × Nat)) (Hn : Ndp ids)  (H0_0 : InR ids 0 0 5) (H1 : InR ids 1 6 28) (H2 : InR ids 2 6 28) (H3 : InR ids 3 6 28)  : ∀ (n : Nat) (v1 : Int32) (v2 : Int32) (v3 : Int32) (t0 : Sg), Gj kI mX6_rule ids 10 [some (aR (0, 0)), some (aI v1), some (aI v2), some (aI v3), none, none] [] t0 (f_X6_rule_10 n v1 v2 v3 t0) := by
  intro n
  induction n with
  | zero => intro v1 v2 v3 t0; exact G_none
  | succ n ih =>
    intro v1 v2 v3 t0
    rw [f_X6_rule_10]
    refine G_st (x_iload_n dX6_rule_10 rfl) ?_
    refine G_st (x_bipush (8 : Int32) dX6_rule_11 rfl) ?_
    refine G_ite (fun c4 => ?_) (fun c4 => ?_)
    · refine G_st (x_icmp_ge_t (tgt := 64) dX6_rule_13 (by decide) c4) ?_
      refine G_st (x_iload_n dX6_rule_64 rfl) ?_
      exact G_ret rfl ⟨dX6_rule_65, _, rfl, rfl⟩ rfl
    · refine G_st (x_icmp_ge_f 64 dX6_rule_13 (by decide) c4) ?_
      refine G_st (x_iload_n dX6_rule_16 rfl) ?_
      refine G_st (x_istore [some (aR (0, 0)), some (aI v1), some (aI v2), some (aI v3), some (aI v3), none] dX6_rule_17 (Nat.le_of_ble_eq_true rfl) rfl rfl) ?_
      refine G_weak _ ?_ (g_X6_rule_19 ids Hn H0_0 H1 H2 H3 (f_X6_rule_10 n) (ih) fuel v1 v2 v3 v3 t0)
      exact (leL_s (leL_s (leL_s (leL_s (leL_s (leL_n (leL_e _)))))))
set_option maxRecDepth 100000 in
set_option maxHeartbeats 4000000 in
theorem g_X6_rule (ids : List (Nat × Nat)) (Hn : Ndp ids)  (H0_0 : InR ids 0 0 5) (H1 : InR ids 1 6 28) (H2 : InR ids 2 6 28) (H3 : InR ids 3 6 28) (t0 : Sg) : Gj kI mX6_rule ids 0 [some (aR (0, 0)), none, none, none, none, none] [] t0 (f_X6_rule t0) := by
  unfold f_X6_rule
  refine G_st (x_bipush (-9 : Int32) dX6_rule_0 rfl) ?_
  refine G_st (x_istore_n [some (aR (0, 0)), some (aI (-9 : Int32)), none, none, none, none] dX6_rule_2 (Nat.le_of_ble_eq_true rfl) rfl rfl) ?_
  refine G_st (x_aload_n dX6_rule_3 rfl) ?_
  refine G_bd (fun x1 t2 h3 => ?_)
  refine G_st (x_callV [] (c_X6_tryAsIs ids Hn  H0_0 H1 H2 H3 _ _ _ h3) dX6_rule_4 tw_728 kc_X6_tryAsIs (H0_0 0 (Nat.le_of_ble_eq_true rfl) (Nat.le_of_ble_eq_true rfl)) rfl rfl rfl rfl ⟨Nat.le_of_ble_eq_true rfl, Nat.le_of_ble_eq_true rfl⟩ (Nat.le_of_ble_eq_true rfl) rfl) ?_
  refine G_st (x_istore_n [some (aR (0, 0)), some (aI (-9 : Int32)), some (aI x1), none, none, none] dX6_rule_7 (Nat.le_of_ble_eq_true rfl) rfl rfl) ?_
  refine G_st (x_iconst (0 : Int32) dX6_rule_8 rfl) ?_
  refine G_st (x_istore_n [some (aR (0, 0)), some (aI (-9 : Int32)), some (aI x1), some (aI (0 : Int32)), none, none] dX6_rule_9 (Nat.le_of_ble_eq_true rfl) rfl rfl) ?_
  refine G_weak _ ?_ (g_X6_rule_10 ids Hn H0_0 H1 H2 H3 fuel (-9 : Int32) x1 (0 : Int32) t2)
  exact (leL_s (leL_s (leL_s (leL_s (leL_n (leL_n (leL_e _)))))))
set_option maxRecDepth 100000 in
set_option maxHeartbeats 4000000 in
theorem c_X6_rule (ids : List (Nat × Nat)) (Hn : Ndp ids)  (H0_0 : InR ids 0 0 5) (H1 : InR ids 1 6 28) (H2 : InR ids 2 6 28) (H3 : InR ids 3 6 28) (t0 : Sg) (r : Int32) (t1 : Sg) (hf : f_X6_rule t0 = some (r, t1)) : Mt0 mX6_rule yX6_rule ids [aR (0, 0)] t0 (some (aI r)) t1 :=
  Mt_of (x := (r, t1)) (g_X6_rule ids Hn  H0_0 H1 H2 H3 t0) hf (fun _ _ => trivial) (by decide) rfl Hn (fun _ => rfl) (fun _ => Nat.le_of_ble_eq_true rfl)
theorem dX6_hang_0 : decode cX6_hang 0 = .ok (.aload_n 0, 1) := by decide +kernel
theorem dX6_hang_1 : decode cX6_hang 1 = .ok (.getfield 12, 3) := by decide +kernel
theorem dX6_hang_4 : decode cX6_hang 4 = .ok (.getfield 67, 3) := by decide +kernel
theorem dX6_hang_7 : decode cX6_hang 7 = .ok (.iload_n 1, 1) := by decide +kernel
theorem dX6_hang_8 : decode cX6_hang 8 = .ok (.invokevirtual 147, 3) := by decide +kernel
theorem dX6_hang_11 : decode cX6_hang 11 = .ok (.istore_n 2, 1) := by decide +kernel
theorem dX6_hang_12 : decode cX6_hang 12 = .ok (.iload_n 2, 1) := by decide +kernel
theorem dX6_hang_13 : decode cX6_hang 13 = .ok (.ifCond .ge 9, 3) := by decide +kernel
theorem dX6_hang_16 : decode cX6_hang 16 = .ok (.aload_n 0, 1) := by decide +kernel
theorem dX6_hang_17 : decode cX6_hang 17 = .ok (.iconst (-1), 1) := by decide +kernel
theorem dX6_hang_18 : decode cX6_hang 18 = .ok (.invokevirtual 130, 3) := by decide +kernel
theorem dX6_hang_21 : decode cX6_hang 21 = .ok (.ireturn, 1) := by decide +kernel
theorem dX6_hang_22 : decode cX6_hang 22 = .ok (.aload_n 0, 1) := by decide +kernel
theorem dX6_hang_23 : decode cX6_hang 23 = .ok (.getfield 12, 3) := by decide +kernel
theorem dX6_hang_26 : decode cX6_hang 26 = .ok (.getfield 67, 3) := by decide +kernel
theorem dX6_hang_29 : decode cX6_hang 29 = .ok (.getfield 162, 3) := by decide +kernel
theorem dX6_hang_32 : decode cX6_hang 32 = .ok (.iload_n 2, 1) := by decide +kernel
theorem dX6_hang_33 : decode cX6_hang 33 = .ok (.invokestatic 59, 3) := by decide +kernel
theorem dX6_hang_36 : decode cX6_hang 36 = .ok (.istore_n 3, 1) := by decide +kernel
theorem dX6_hang_37 : decode cX6_hang 37 = .ok (.bipush (-9), 2) := by decide +kernel
theorem dX6_hang_39 : decode cX6_hang 39 = .ok (.istore 4, 2) := by decide +kernel
theorem dX6_hang_41 : decode cX6_hang 41 = .ok (.iconst 0, 1) := by decide +kernel
theorem dX6_hang_42 : decode cX6_hang 42 = .ok (.istore 5, 2) := by decide +kernel
theorem dX6_hang_44 : decode cX6_hang 44 = .ok (.iconst 0, 1) := by decide +kernel
theorem dX6_hang_45 : decode cX6_hang 45 = .ok (.istore 6, 2) := by decide +kernel
theorem dX6_hang_47 : decode cX6_hang 47 = .ok (.iload 6, 2) := by decide +kernel
theorem dX6_hang_49 : decode cX6_hang 49 = .ok (.bipush 8, 2) := by decide +kernel
theorem dX6_hang_51 : decode cX6_hang 51 = .ok (.if_icmp .ge 67, 3) := by decide +kernel
theorem dX6_hang_54 : decode cX6_hang 54 = .ok (.aload_n 0, 1) := by decide +kernel
theorem dX6_hang_55 : decode cX6_hang 55 = .ok (.invokevirtual 97, 3) := by decide +kernel
theorem dX6_hang_58 : decode cX6_hang 58 = .ok (.aload_n 0, 1) := by decide +kernel
theorem dX6_hang_59 : decode cX6_hang 59 = .ok (.getfield 19, 3) := by decide +kernel
theorem dX6_hang_62 : decode cX6_hang 62 = .ok (.getfield 67, 3) := by decide +kernel
theorem dX6_hang_65 : decode cX6_hang 65 = .ok (.getfield 159, 3) := by decide +kernel
theorem dX6_hang_68 : decode cX6_hang 68 = .ok (.iload_n 2, 1) := by decide +kernel
theorem dX6_hang_69 : decode cX6_hang 69 = .ok (.iconst 1, 1) := by decide +kernel
theorem dX6_hang_70 : decode cX6_hang 70 = .ok (.iload 6, 2) := by decide +kernel
theorem dX6_hang_72 : decode cX6_hang 72 = .ok (.ishl, 1) := by decide +kernel
theorem dX6_hang_73 : decode cX6_hang 73 = .ok (.invokestatic 63, 3) := by decide +kernel
theorem dX6_hang_76 : decode cX6_hang 76 = .ok (.aload_n 0, 1) := by decide +kernel
theorem dX6_hang_77 : decode cX6_hang 77 = .ok (.getfield 19, 3) := by decide +kernel
theorem dX6_hang_80 : decode cX6_hang 80 = .ok (.invokevirtual 100, 3) := by decide +kernel
theorem dX6_hang_83 : decode cX6_hang 83 = .ok (.pop, 1) := by decide +kernel
theorem dX6_hang_84 : decode cX6_hang 84 = .ok (.iload 4, 2) := by decide +kernel
theorem dX6_hang_86 : decode cX6_hang 86 = .ok (.bipush (-9), 2) := by decide +kernel
theorem dX6_hang_88 : decode cX6_hang 88 = .ok (.if_icmp .eq 13, 3) := by decide +kernel
theorem dX6_hang_91 : decode cX6_hang 91 = .ok (.aload_n 0, 1) := by decide +kernel
theorem dX6_hang_92 : decode cX6_hang 92 = .ok (.iload_n 3, 1) := by decide +kernel
theorem dX6_hang_93 : decode cX6_hang 93 = .ok (.invokevirtual 126, 3) := by decide +kernel
theorem dX6_hang_96 : decode cX6_hang 96 = .ok (.iload 5, 2) := by decide +kernel
theorem dX6_hang_98 : decode cX6_hang 98 = .ok (.if_icmp .ge 14, 3) := by decide +kernel
theorem dX6_hang_101 : decode cX6_hang 101 = .ok (.aload_n 0, 1) := by decide +kernel
theorem dX6_hang_102 : decode cX6_hang 102 = .ok (.iload_n 3, 1) := by decide +kernel
theorem dX6_hang_103 : decode cX6_hang 103 = .ok (.invokevirtual 126, 3) := by decide +kernel
theorem dX6_hang_106 : decode cX6_hang 106 = .ok (.istore 5, 2) := by decide +kernel
theorem dX6_hang_108 : decode cX6_hang 108 = .ok (.iload 6, 2) := by decide +kernel
theorem dX6_hang_110 : decode cX6_hang 110 = .ok (.istore 4, 2) := by decide +kernel
theorem dX6_hang_112 : decode cX6_hang 112 = .ok (.iinc 6 1, 3) := by decide +kernel
theorem dX6_hang_115 : decode cX6_hang 115 = .ok (.goto (-68), 3) := by decide +kernel
theorem dX6_hang_118 : decode cX6_hang 118 = .ok (.iload 4, 2) := by decide +kernel
theorem dX6_hang_120 : decode cX6_hang 120 = .ok (.ireturn, 1) := by decide +kernel
set_option maxRecDepth 100000 in
set_option maxHeartbeats 4000000 in
theorem g_X6_hang_112 (ids : List (Nat × Nat)) (Hn : Ndp ids)  (H0_0 : InR ids 0 0 5) (H1 : InR ids 1 6 28) (H2 : InR ids 2 6 28) (H3 : InR ids 3 6 28) (k47 : Int32 → Int32 → Int32 → Int32 → Int32 → Sg → Option (Int32 × Sg)) (hk47 : ∀ (v2 : Int32) (v3 : Int32) (v4 : Int32) (v5 : Int32) (v6 : Int32) (t0 : Sg), Gj kI mX6_hang ids 47 [some (aR (0, 0)), none, some (aI v2), some (aI v3), some (aI v4), some (aI v5), some (aI v6)] [] t0 (k47 v2 v3 v4 v5 v6 t0)) (v2 : Int32) (v3 : Int32) (v4 : Int32) (v5 : Int32) (v6 : Int32) (t0 : Sg) : Gj kI mX6_hang ids 112 [some (aR (0, 0)), none, some (aI v2), some (aI v3), some (aI v4), some (aI v5), some (aI v6)] [] t0 (f_X6_hang_112 k47 v2 v3 v4 v5 v6 t0) := by
  unfold f_X6_hang_112
  refine G_st (x_iinc (v6 + (1 : Int32)) [some (aR (0, 0)), none, some (aI v2), some (aI v3), some (aI v4), some (aI v5), some (aI (v6 + (1 : Int32)))] dX6_hang_112 (Nat.le_of_ble_eq_true rfl) rfl rfl rfl rfl) ?_
  refine G_st (x_goto (tgt := 47) dX6_hang_115 (by decide)) ?_
  refine G_weak _ ?_ (hk47 v2 v3 v4 v5 (v6 + (1 : Int32)) t0)
  exact (leL_s (leL_n (leL_s (leL_s (leL_s (leL_s (leL_s (leL_e _))))))))
set_option maxRecDepth 100000 in
set_option maxHeartbeats 4000000 in
theorem g_X6_hang_101 (ids : List (Nat × Nat)) (Hn : Ndp ids)  (H0_0 : InR ids 0 0 5) (H1 : InR ids 1 6 28) (H2 : InR ids 2 6 28) (H3 : InR ids 3 6 28) (k47 : Int32 → Int32 → Int32 → Int32 → Int32 → Sg → Option (Int32 × Sg)) (hk47 : ∀ (v2 : Int32) (v3 : Int32) (v4 : Int32) (v5 : Int32) (v6 : Int32) (t0 : Sg), Gj kI mX6_hang ids 47 [some (aR (0, 0)), none, some (aI v2), some (aI v3), some (aI v4), some (aI v5), some (aI v6)] [] t0 (k47 v2 v3 v4 v5 v6 t0)) (v2 : Int32) (v3 : Int32) (v6 : Int32) (t0 : Sg) : Gj kI mX6_hang ids 101 [some (aR (0, 0)), none, some (aI v2), some (aI v3), none, none, some (aI v6)] [] t0 (f_X6_hang_101 k47 v2 v3 v6 t0) := by
  unfold f_X6_hang_101
  refine G_st (x_aload_n dX6_hang_101 rfl) ?_
  refine G_st (x_iload_n dX6_hang_102 rfl) ?_
  refine G_bd (fun x19 t20 h21 => ?_)
  refine G_st (x_callV [] (c_X6_doneTo ids Hn v3 H0_0 H1 H2 H3 _ _ _ h21) dX6_hang_103 tw_695 kc_X6_doneTo (H0_0 0 (Nat.le_of_ble_eq_true rfl) (Nat.le_of_ble_eq_true rfl)) rfl rfl rfl rfl ⟨Nat.le_of_ble_eq_true rfl, Nat.le_of_ble_eq_true rfl⟩ (Nat.le_of_ble_eq_true rfl) rfl) ?_
  refine G_st (x_istore [some (aR (0, 0)), none, some (aI v2), some (aI v3), none, some (aI x19), some (aI v6)] dX6_hang_106 (Nat.le_of_ble_eq_true rfl) rfl rfl) ?_
  refine G_st (x_iload dX6_hang_108 rfl) ?_
  refine G_st (x_istore [some (aR (0, 0)), none, some (aI v2), some (aI v3), some (aI v6), some (aI x19), some (aI v6)] dX6_hang_110 (Nat.le_of_ble_eq_true rfl) rfl rfl) ?_
  refine G_weak _ ?_ (g_X6_hang_112 ids Hn H0_0 H1 H2 H3 k47 hk47 v2 v3 v6 x19 v6 t20)
  exact (leL_s (leL_n (leL_s (leL_s (leL_s (leL_s (leL_s (leL_e _))))))))
set_option maxRecDepth 100000 in
set_option maxHeartbeats 4000000 in
theorem g_X6_hang_47 (ids : List (Nat × Nat)) (Hn : Ndp ids)  (H0_0 : InR ids 0 0 5) (H1 : InR ids 1 6 28) (H2 : InR ids 2 6 28) (H3 : InR ids 3 6 28)  : ∀ (n : Nat) (v2 : Int32) (v3 : Int32) (v4 : Int32) (v5 : Int32) (v6 : Int32) (t0 : Sg), Gj kI mX6_hang ids 47 [some (aR (0, 0)), none, some (aI v2), some (aI v3), some (aI v4), some (aI v5), some (aI v6)] [] t0 (f_X6_hang_47 n v2 v3 v4 v5 v6 t0) := by
  intro n
  induction n with
  | zero => intro v2 v3 v4 v5 v6 t0; exact G_none
  | succ n ih =>
    intro v2 v3 v4 v5 v6 t0
    rw [f_X6_hang_47]
    refine G_st (x_iload dX6_hang_47 rfl) ?_
    refine G_st (x_bipush (8 : Int32) dX6_hang_49 rfl) ?_
    refine G_ite (fun c8 => ?_) (fun c8 => ?_)
    · refine G_st (x_icmp_ge_t (tgt := 118) dX6_hang_51 (by decide) c8) ?_
      refine G_st (x_iload dX6_hang_118 rfl) ?_
      exact G_ret rfl ⟨dX6_hang_120, _, rfl, rfl⟩ rfl
    · refine G_st (x_icmp_ge_f 118 dX6_hang_51 (by decide) c8) ?_
      refine G_st (x_aload_n dX6_hang_54 rfl) ?_
      refine G_bd (fun _ t10 h11 => ?_)
      refine G_st (x_callV [] (c_X6_tryAnew ids Hn  H0_0 H1 H2 H3 _ _ _ h11) dX6_hang_55 tw_689 kc_X6_tryAnew (H0_0 0 (Nat.le_of_ble_eq_true rfl) (Nat.le_of_ble_eq_true rfl)) rfl rfl rfl rfl ⟨Nat.le_of_ble_eq_true rfl, Nat.le_of_ble_eq_true rfl⟩ (Nat.le_of_ble_eq_true rfl) rfl) ?_
      refine G_st (x_aload_n dX6_hang_58 rfl) ?_
      refine G_st (x_get (k := 2) (aR (3, 6)) dX6_hang_59 (H0_0 0 (Nat.le_of_ble_eq_true rfl) (Nat.le_of_ble_eq_true rfl)) rfl rfl rfl rfl inTX6 (Nat.le_of_ble_eq_true rfl) tw_287 (fun ad => rfl)) ?_
      refine G_st (x_get (k := 0) (aR (3, 7)) dX6_hang_62 (H3 6 (Nat.le_of_ble_eq_true rfl) (Nat.le_of_ble_eq_true rfl)) rfl rfl rfl rfl inTX2 (Nat.le_of_ble_eq_true rfl) tw_250 (fun ad => rfl)) ?_
      refine G_st (x_get (k := 7) (aR (3, 12)) dX6_hang_65 (H3 7 (Nat.le_of_ble_eq_true rfl) (Nat.le_of_ble_eq_true rfl)) rfl rfl rfl rfl inTX0 (Nat.le_of_ble_eq_true rfl) tw_134 (fun ad => rfl)) ?_
      refine G_st (x_iload_n dX6_hang_68 rfl) ?_
      refine G_st (x_iconst (1 : Int32) dX6_hang_69 rfl) ?_
      refine G_st (x_iload dX6_hang_70 rfl) ?_
      refine G_st (x_ishl dX6_hang_72) ?_
      refine G_bd (fun _ t13 h14 => ?_)
      refine G_st (x_callS [] (c_X6_set ids Hn (3, 12) v2 ((1 : Int32) <<< (v6 &&& 31)) (H3 12 (Nat.le_of_ble_eq_true rfl) (Nat.le_of_ble_eq_true rfl)) rfl _ _ _ h14) dX6_hang_73 tw_324 kc_X6_set rfl ⟨Nat.le_of_ble_eq_true rfl, Nat.le_of_ble_eq_true rfl⟩ (Nat.le_of_ble_eq_true rfl) rfl) ?_
      refine G_st (x_aload_n dX6_hang_76 rfl) ?_
      refine G_st (x_get (k := 2) (aR (3, 6)) dX6_hang_77 (H0_0 0 (Nat.le_of_ble_eq_true rfl) (Nat.le_of_ble_eq_true rfl)) rfl rfl rfl rfl inTX6 (Nat.le_of_ble_eq_true rfl) tw_287 (fun ad => rfl)) ?_
      refine G_bd (fun x15 t16 h17 => ?_)
      refine G_st (x_callV [] (c_X2_spendWeek ids Hn 3 H3 _ _ _ h17) dX6_hang_80 tw_605 kc_X2_spendWeek (H3 6 (Nat.le_of_ble_eq_true rfl) (Nat.le_of_ble_eq_true rfl)) rfl rfl rfl rfl ⟨Nat.le_of_ble_eq_true rfl, Nat.le_of_ble_eq_true rfl⟩ (Nat.le_of_ble_eq_true rfl) rfl) ?_
      refine G_st (x_pop dX6_hang_83 rfl) ?_
      refine G_st (x_iload dX6_hang_84 rfl) ?_
      refine G_st (x_bipush (-9 : Int32) dX6_hang_86 rfl) ?_
      refine G_ite (fun c18 => ?_) (fun c18 => ?_)
      · refine G_st (x_icmp_eq_t (tgt := 101) dX6_hang_88 (by decide) c18) ?_
        refine G_weak _ ?_ (g_X6_hang_101 ids Hn H0_0 H1 H2 H3 (f_X6_hang_47 n) (ih) v2 v3 v6 t16)
        exact (leL_s (leL_n (leL_s (leL_s (leL_n (leL_n (leL_s (leL_e _))))))))
      · refine G_st (x_icmp_eq_f 101 dX6_hang_88 (by decide) c18) ?_
        refine G_st (x_aload_n dX6_hang_91 rfl) ?_
        refine G_st (x_iload_n dX6_hang_92 rfl) ?_
        refine G_bd (fun x22 t23 h24 => ?_)
        refine G_st (x_callV [] (c_X6_doneTo ids Hn v3 H0_0 H1 H2 H3 _ _ _ h24) dX6_hang_93 tw_695 kc_X6_doneTo (H0_0 0 (Nat.le_of_ble_eq_true rfl) (Nat.le_of_ble_eq_true rfl)) rfl rfl rfl rfl ⟨Nat.le_of_ble_eq_true rfl, Nat.le_of_ble_eq_true rfl⟩ (Nat.le_of_ble_eq_true rfl) rfl) ?_
        refine G_st (x_iload dX6_hang_96 rfl) ?_
        refine G_ite (fun c25 => ?_) (fun c25 => ?_)
        · refine G_st (x_icmp_ge_t (tgt := 112) dX6_hang_98 (by decide) c25) ?_
          refine G_weak _ ?_ (g_X6_hang_112 ids Hn H0_0 H1 H2 H3 (f_X6_hang_47 n) (ih) v2 v3 v4 v5 v6 t23)
          exact (leL_s (leL_n (leL_s (leL_s (leL_s (leL_s (leL_s (leL_e _))))))))
        · refine G_st (x_icmp_ge_f 112 dX6_hang_98 (by decide) c25) ?_
          refine G_weak _ ?_ (g_X6_hang_101 ids Hn H0_0 H1 H2 H3 (f_X6_hang_47 n) (ih) v2 v3 v6 t23)
          exact (leL_s (leL_n (leL_s (leL_s (leL_n (leL_n (leL_s (leL_e _))))))))
set_option maxRecDepth 100000 in
set_option maxHeartbeats 4000000 in
theorem g_X6_hang (ids : List (Nat × Nat)) (Hn : Ndp ids) (v1 : Int32) (H0_0 : InR ids 0 0 5) (H1 : InR ids 1 6 28) (H2 : InR ids 2 6 28) (H3 : InR ids 3 6 28) (t0 : Sg) : Gj kI mX6_hang ids 0 [some (aR (0, 0)), some (aI v1), none, none, none, none, none] [] t0 (f_X6_hang v1 t0) := by
  unfold f_X6_hang
  refine G_st (x_aload_n dX6_hang_0 rfl) ?_
  refine G_st (x_get (k := 0) (aR (1, 6)) dX6_hang_1 (H0_0 0 (Nat.le_of_ble_eq_true rfl) (Nat.le_of_ble_eq_true rfl)) rfl rfl rfl rfl inTX6 (Nat.le_of_ble_eq_true rfl) tw_285 (fun ad => rfl)) ?_
  refine G_st (x_get (k := 0) (aR (1, 7)) dX6_hang_4 (H1 6 (Nat.le_of_ble_eq_true rfl) (Nat.le_of_ble_eq_true rfl)) rfl rfl rfl rfl inTX2 (Nat.le_of_ble_eq_true rfl) tw_250 (fun ad => rfl)) ?_
  refine G_st (x_iload_n dX6_hang_7 rfl) ?_
  refine G_bd (fun x1 t2 h3 => ?_)
  refine G_st (x_callV [] (c_X0_placeOf ids Hn 1 v1 (H1.sub (Nat.le_of_ble_eq_true rfl) (Nat.le_of_ble_eq_true rfl)) _ _ _ h3) dX6_hang_8 tw_521 kc_X0_placeOf (H1 7 (Nat.le_of_ble_eq_true rfl) (Nat.le_of_ble_eq_true rfl)) rfl rfl rfl rfl ⟨Nat.le_of_ble_eq_true rfl, Nat.le_of_ble_eq_true rfl⟩ (Nat.le_of_ble_eq_true rfl) rfl) ?_
  refine G_st (x_istore_n [some (aR (0, 0)), some (aI v1), some (aI x1), none, none, none, none] dX6_hang_11 (Nat.le_of_ble_eq_true rfl) rfl rfl) ?_
  refine G_st (x_iload_n dX6_hang_12 rfl) ?_
  refine G_ite (fun c4 => ?_) (fun c4 => ?_)
  · refine G_st (x_if_ge_t (tgt := 22) dX6_hang_13 (by decide) c4) ?_
    refine G_st (x_aload_n dX6_hang_22 rfl) ?_
    refine G_st (x_get (k := 0) (aR (1, 6)) dX6_hang_23 (H0_0 0 (Nat.le_of_ble_eq_true rfl) (Nat.le_of_ble_eq_true rfl)) rfl rfl rfl rfl inTX6 (Nat.le_of_ble_eq_true rfl) tw_285 (fun ad => rfl)) ?_
    refine G_st (x_get (k := 0) (aR (1, 7)) dX6_hang_26 (H1 6 (Nat.le_of_ble_eq_true rfl) (Nat.le_of_ble_eq_true rfl)) rfl rfl rfl rfl inTX2 (Nat.le_of_ble_eq_true rfl) tw_250 (fun ad => rfl)) ?_
    refine G_st (x_get (k := 8) (aR (1, 13)) dX6_hang_29 (H1 7 (Nat.le_of_ble_eq_true rfl) (Nat.le_of_ble_eq_true rfl)) rfl rfl rfl rfl inTX0 (Nat.le_of_ble_eq_true rfl) tw_137 (fun ad => rfl)) ?_
    refine G_st (x_iload_n dX6_hang_32 rfl) ?_
    refine G_bd (fun x5 t6 h7 => ?_)
    refine G_st (x_callS [] (c_X6_get ids Hn (1, 13) x1 (H1 13 (Nat.le_of_ble_eq_true rfl) (Nat.le_of_ble_eq_true rfl)) rfl _ _ _ h7) dX6_hang_33 tw_321 kc_X6_get rfl ⟨Nat.le_of_ble_eq_true rfl, Nat.le_of_ble_eq_true rfl⟩ (Nat.le_of_ble_eq_true rfl) rfl) ?_
    refine G_st (x_istore_n [some (aR (0, 0)), some (aI v1), some (aI x1), some (aI x5), none, none, none] dX6_hang_36 (Nat.le_of_ble_eq_true rfl) rfl rfl) ?_
    refine G_st (x_bipush (-9 : Int32) dX6_hang_37 rfl) ?_
    refine G_st (x_istore [some (aR (0, 0)), some (aI v1), some (aI x1), some (aI x5), some (aI (-9 : Int32)), none, none] dX6_hang_39 (Nat.le_of_ble_eq_true rfl) rfl rfl) ?_
    refine G_st (x_iconst (0 : Int32) dX6_hang_41 rfl) ?_
    refine G_st (x_istore [some (aR (0, 0)), some (aI v1), some (aI x1), some (aI x5), some (aI (-9 : Int32)), some (aI (0 : Int32)), none] dX6_hang_42 (Nat.le_of_ble_eq_true rfl) rfl rfl) ?_
    refine G_st (x_iconst (0 : Int32) dX6_hang_44 rfl) ?_
    refine G_st (x_istore [some (aR (0, 0)), some (aI v1), some (aI x1), some (aI x5), some (aI (-9 : Int32)), some (aI (0 : Int32)), some (aI (0 : Int32))] dX6_hang_45 (Nat.le_of_ble_eq_true rfl) rfl rfl) ?_
    refine G_weak _ ?_ (g_X6_hang_47 ids Hn H0_0 H1 H2 H3 fuel x1 x5 (-9 : Int32) (0 : Int32) (0 : Int32) t6)
    exact (leL_s (leL_n (leL_s (leL_s (leL_s (leL_s (leL_s (leL_e _))))))))
  · refine G_st (x_if_ge_f 22 dX6_hang_13 (by decide) c4) ?_
    refine G_st (x_aload_n dX6_hang_16 rfl) ?_
    refine G_st (x_iconst (-1 : Int32) dX6_hang_17 rfl) ?_
    refine G_bd (fun x26 t27 h28 => ?_)
    refine G_st (x_callV [] (c_X6_refuse ids Hn (-1 : Int32) H0_0 H1 H2 H3 _ _ _ h28) dX6_hang_18 tw_317 kc_X6_refuse (H0_0 0 (Nat.le_of_ble_eq_true rfl) (Nat.le_of_ble_eq_true rfl)) rfl rfl rfl rfl ⟨Nat.le_of_ble_eq_true rfl, Nat.le_of_ble_eq_true rfl⟩ (Nat.le_of_ble_eq_true rfl) rfl) ?_
    exact G_ret rfl ⟨dX6_hang_21, _, rfl, rfl⟩ rfl
set_option maxRecDepth 100000 in
set_option maxHeartbeats 4000000 in
theorem c_X6_hang (ids : List (Nat × Nat)) (Hn : Ndp ids) (v1 : Int32) (H0_0 : InR ids 0 0 5) (H1 : InR ids 1 6 28) (H2 : InR ids 2 6 28) (H3 : InR ids 3 6 28) (t0 : Sg) (r : Int32) (t1 : Sg) (hf : f_X6_hang v1 t0 = some (r, t1)) : Mt0 mX6_hang yX6_hang ids [aR (0, 0), aI v1] t0 (some (aI r)) t1 :=
  Mt_of (x := (r, t1)) (g_X6_hang ids Hn v1 H0_0 H1 H2 H3 t0) hf (fun _ _ => trivial) (by decide) rfl Hn (fun _ => rfl) (fun _ => Nat.le_of_ble_eq_true rfl)
theorem dX6_big_0 : decode cX6_big 0 = .ok (.aload_n 0, 1) := by decide +kernel
theorem dX6_big_1 : decode cX6_big 1 = .ok (.getfield 12, 3) := by decide +kernel
theorem dX6_big_4 : decode cX6_big 4 = .ok (.getfield 67, 3) := by decide +kernel
theorem dX6_big_7 : decode cX6_big 7 = .ok (.iload_n 1, 1) := by decide +kernel
theorem dX6_big_8 : decode cX6_big 8 = .ok (.invokevirtual 147, 3) := by decide +kernel
theorem dX6_big_11 : decode cX6_big 11 = .ok (.istore_n 2, 1) := by decide +kernel
theorem dX6_big_12 : decode cX6_big 12 = .ok (.iload_n 2, 1) := by decide +kernel
theorem dX6_big_13 : decode cX6_big 13 = .ok (.ifCond .ge 9, 3) := by decide +kernel
theorem dX6_big_16 : decode cX6_big 16 = .ok (.aload_n 0, 1) := by decide +kernel
theorem dX6_big_17 : decode cX6_big 17 = .ok (.iconst (-1), 1) := by decide +kernel
theorem dX6_big_18 : decode cX6_big 18 = .ok (.invokevirtual 130, 3) := by decide +kernel
theorem dX6_big_21 : decode cX6_big 21 = .ok (.ireturn, 1) := by decide +kernel
theorem dX6_big_22 : decode cX6_big 22 = .ok (.bipush (-9), 2) := by decide +kernel
theorem dX6_big_24 : decode cX6_big 24 = .ok (.istore_n 3, 1) := by decide +kernel
theorem dX6_big_25 : decode cX6_big 25 = .ok (.iconst 0, 1) := by decide +kernel
theorem dX6_big_26 : decode cX6_big 26 = .ok (.istore 4, 2) := by decide +kernel
theorem dX6_big_28 : decode cX6_big 28 = .ok (.iconst 0, 1) := by decide +kernel
theorem dX6_big_29 : decode cX6_big 29 = .ok (.istore 5, 2) := by decide +kernel
theorem dX6_big_31 : decode cX6_big 31 = .ok (.iload 5, 2) := by decide +kernel
theorem dX6_big_33 : decode cX6_big 33 = .ok (.bipush 9, 2) := by decide +kernel
theorem dX6_big_35 : decode cX6_big 35 = .ok (.if_icmp .gt 73, 3) := by decide +kernel
theorem dX6_big_38 : decode cX6_big 38 = .ok (.aload_n 0, 1) := by decide +kernel
theorem dX6_big_39 : decode cX6_big 39 = .ok (.invokevirtual 97, 3) := by decide +kernel
theorem dX6_big_42 : decode cX6_big 42 = .ok (.aload_n 0, 1) := by decide +kernel
theorem dX6_big_43 : decode cX6_big 43 = .ok (.getfield 19, 3) := by decide +kernel
theorem dX6_big_46 : decode cX6_big 46 = .ok (.getfield 67, 3) := by decide +kernel
theorem dX6_big_49 : decode cX6_big 49 = .ok (.getfield 150, 3) := by decide +kernel
theorem dX6_big_52 : decode cX6_big 52 = .ok (.iload_n 2, 1) := by decide +kernel
theorem dX6_big_53 : decode cX6_big 53 = .ok (.iload 5, 2) := by decide +kernel
theorem dX6_big_55 : decode cX6_big 55 = .ok (.invokestatic 63, 3) := by decide +kernel
theorem dX6_big_58 : decode cX6_big 58 = .ok (.aload_n 0, 1) := by decide +kernel
theorem dX6_big_59 : decode cX6_big 59 = .ok (.getfield 19, 3) := by decide +kernel
theorem dX6_big_62 : decode cX6_big 62 = .ok (.getfield 67, 3) := by decide +kernel
theorem dX6_big_65 : decode cX6_big 65 = .ok (.getfield 153, 3) := by decide +kernel
theorem dX6_big_68 : decode cX6_big 68 = .ok (.iload_n 2, 1) := by decide +kernel
theorem dX6_big_69 : decode cX6_big 69 = .ok (.iconst 0, 1) := by decide +kernel
theorem dX6_big_70 : decode cX6_big 70 = .ok (.invokestatic 63, 3) := by decide +kernel
theorem dX6_big_73 : decode cX6_big 73 = .ok (.aload_n 0, 1) := by decide +kernel
theorem dX6_big_74 : decode cX6_big 74 = .ok (.getfield 19, 3) := by decide +kernel
theorem dX6_big_77 : decode cX6_big 77 = .ok (.invokevirtual 100, 3) := by decide +kernel
theorem dX6_big_80 : decode cX6_big 80 = .ok (.istore 6, 2) := by decide +kernel
theorem dX6_big_82 : decode cX6_big 82 = .ok (.iload_n 3, 1) := by decide +kernel
theorem dX6_big_83 : decode cX6_big 83 = .ok (.bipush (-9), 2) := by decide +kernel
theorem dX6_big_85 : decode cX6_big 85 = .ok (.if_icmp .eq 10, 3) := by decide +kernel
theorem dX6_big_88 : decode cX6_big 88 = .ok (.iload 6, 2) := by decide +kernel
theorem dX6_big_90 : decode cX6_big 90 = .ok (.iload 4, 2) := by decide +kernel
theorem dX6_big_92 : decode cX6_big 92 = .ok (.if_icmp .ge 10, 3) := by decide +kernel
theorem dX6_big_95 : decode cX6_big 95 = .ok (.iload 6, 2) := by decide +kernel
theorem dX6_big_97 : decode cX6_big 97 = .ok (.istore 4, 2) := by decide +kernel
theorem dX6_big_99 : decode cX6_big 99 = .ok (.iload 5, 2) := by decide +kernel
theorem dX6_big_101 : decode cX6_big 101 = .ok (.istore_n 3, 1) := by decide +kernel
theorem dX6_big_102 : decode cX6_big 102 = .ok (.iinc 5 1, 3) := by decide +kernel
theorem dX6_big_105 : decode cX6_big 105 = .ok (.goto (-74), 3) := by decide +kernel
theorem dX6_big_108 : decode cX6_big 108 = .ok (.iload_n 3, 1) := by decide +kernel
theorem dX6_big_109 : decode cX6_big 109 = .ok (.ireturn, 1) := by decide +kernel
set_option maxRecDepth 100000 in
set_option maxHeartbeats 4000000 in
theorem g_X6_big_102 (ids : List (Nat × Nat)) (Hn : Ndp ids)  (H0_0 : InR ids 0 0 5) (H1 : InR ids 1 6 28) (H2 : InR ids 2 6 28) (H3 : InR ids 3 6 28) (k31 : Int32 → Int32 → Int32 → Int32 → Sg → Option (Int32 × Sg)) (hk31 : ∀ (v2 : Int32) (v3 : Int32) (v4 : Int32) (v5 : Int32) (t0 : Sg), Gj kI mX6_big ids 31 [some (aR (0, 0)), none, some (aI v2), some (aI v3), some (aI v4), some (aI v5), none] [] t0 (k31 v2 v3 v4 v5 t0)) (v2 : Int32) (v3 : Int32) (v4 : Int32) (v5 : Int32) (t0 : Sg) : Gj kI mX6_big ids 102 [some (aR (0, 0)), none, some (aI v2), some (aI v3), some (aI v4), some (aI v5), none] [] t0 (f_X6_big_102 k31 v2 v3 v4 v5 t0) := by
  unfold f_X6_big_102
  refine G_st (x_iinc (v5 + (1 : Int32)) [some (aR (0, 0)), none, some (aI v2), some (aI v3), some (aI v4), some (aI (v5 + (1 : Int32))), none] dX6_big_102 (Nat.le_of_ble_eq_true rfl) rfl rfl rfl rfl) ?_
  refine G_st (x_goto (tgt := 31) dX6_big_105 (by decide)) ?_
  refine G_weak _ ?_ (hk31 v2 v3 v4 (v5 + (1 : Int32)) t0)
  exact (leL_s (leL_n (leL_s (leL_s (leL_s (leL_s (leL_n (leL_e _))))))))
set_option maxRecDepth 100000 in
set_option maxHeartbeats 4000000 in
theorem g_X6_big_95 (ids : List (Nat × Nat)) (Hn : Ndp ids)  (H0_0 : InR ids 0 0 5) (H1 : InR ids 1 6 28) (H2 : InR ids 2 6 28) (H3 : InR ids 3 6 28) (k31 : Int32 → Int32 → Int32 → Int32 → Sg → Option (Int32 × Sg)) (hk31 : ∀ (v2 : Int32) (v3 : Int32) (v4 : Int32) (v5 : Int32) (t0 : Sg), Gj kI mX6_big ids 31 [some (aR (0, 0)), none, some (aI v2), some (aI v3), some (aI v4), some (aI v5), none] [] t0 (k31 v2 v3 v4 v5 t0)) (v2 : Int32) (v5 : Int32) (v6 : Int32) (t0 : Sg) : Gj kI mX6_big ids 95 [some (aR (0, 0)), none, some (aI v2), none, none, some (aI v5), some (aI v6)] [] t0 (f_X6_big_95 k31 v2 v5 v6 t0) := by
  unfold f_X6_big_95
  refine G_st (x_iload dX6_big_95 rfl) ?_
  refine G_st (x_istore [some (aR (0, 0)), none, some (aI v2), none, some (aI v6), some (aI v5), some (aI v6)] dX6_big_97 (Nat.le_of_ble_eq_true rfl) rfl rfl) ?_
  refine G_st (x_iload dX6_big_99 rfl) ?_
  refine G_st (x_istore_n [some (aR (0, 0)), none, some (aI v2), some (aI v5), some (aI v6), some (aI v5), some (aI v6)] dX6_big_101 (Nat.le_of_ble_eq_true rfl) rfl rfl) ?_
  refine G_weak _ ?_ (g_X6_big_102 ids Hn H0_0 H1 H2 H3 k31 hk31 v2 v5 v6 v5 t0)
  exact (leL_s (leL_n (leL_s (leL_s (leL_s (leL_s (leL_n (leL_e _))))))))
set_option maxRecDepth 100000 in
set_option maxHeartbeats 4000000 in
theorem g_X6_big_31 (ids : List (Nat × Nat)) (Hn : Ndp ids)  (H0_0 : InR ids 0 0 5) (H1 : InR ids 1 6 28) (H2 : InR ids 2 6 28) (H3 : InR ids 3 6 28)  : ∀ (n : Nat) (v2 : Int32) (v3 : Int32) (v4 : Int32) (v5 : Int32) (t0 : Sg), Gj kI mX6_big ids 31 [some (aR (0, 0)), none, some (aI v2), some (aI v3), some (aI v4), some (aI v5), none] [] t0 (f_X6_big_31 n v2 v3 v4 v5 t0) := by
  intro n
  induction n with
  | zero => intro v2 v3 v4 v5 t0; exact G_none
  | succ n ih =>
    intro v2 v3 v4 v5 t0
    rw [f_X6_big_31]
    refine G_st (x_iload dX6_big_31 rfl) ?_
    refine G_st (x_bipush (9 : Int32) dX6_big_33 rfl) ?_
    refine G_ite (fun c5 => ?_) (fun c5 => ?_)
    · refine G_st (x_icmp_gt_t (tgt := 108) dX6_big_35 (by decide) c5) ?_
      refine G_st (x_iload_n dX6_big_108 rfl) ?_
      exact G_ret rfl ⟨dX6_big_109, _, rfl, rfl⟩ rfl
    · refine G_st (x_icmp_gt_f 108 dX6_big_35 (by decide) c5) ?_
      refine G_st (x_aload_n dX6_big_38 rfl) ?_
      refine G_bd (fun _ t7 h8 => ?_)
      refine G_st (x_callV [] (c_X6_tryAnew ids Hn  H0_0 H1 H2 H3 _ _ _ h8) dX6_big_39 tw_689 kc_X6_tryAnew (H0_0 0 (Nat.le_of_ble_eq_true rfl) (Nat.le_of_ble_eq_true rfl)) rfl rfl rfl rfl ⟨Nat.le_of_ble_eq_true rfl, Nat.le_of_ble_eq_true rfl⟩ (Nat.le_of_ble_eq_true rfl) rfl) ?_
      refine G_st (x_aload_n dX6_big_42 rfl) ?_
      refine G_st (x_get (k := 2) (aR (3, 6)) dX6_big_43 (H0_0 0 (Nat.le_of_ble_eq_true rfl) (Nat.le_of_ble_eq_true rfl)) rfl rfl rfl rfl inTX6 (Nat.le_of_ble_eq_true rfl) tw_287 (fun ad => rfl)) ?_
      refine G_st (x_get (k := 0) (aR (3, 7)) dX6_big_46 (H3 6 (Nat.le_of_ble_eq_true rfl) (Nat.le_of_ble_eq_true rfl)) rfl rfl rfl rfl inTX2 (Nat.le_of_ble_eq_true rfl) tw_250 (fun ad => rfl)) ?_
      refine G_st (x_get (k := 3) (aR (3, 8)) dX6_big_49 (H3 7 (Nat.le_of_ble_eq_true rfl) (Nat.le_of_ble_eq_true rfl)) rfl rfl rfl rfl inTX0 (Nat.le_of_ble_eq_true rfl) tw_120 (fun ad => rfl)) ?_
      refine G_st (x_iload_n dX6_big_52 rfl) ?_
      refine G_st (x_iload dX6_big_53 rfl) ?_
      refine G_bd (fun _ t10 h11 => ?_)
      refine G_st (x_callS [] (c_X6_set ids Hn (3, 8) v2 v5 (H3 8 (Nat.le_of_ble_eq_true rfl) (Nat.le_of_ble_eq_true rfl)) rfl _ _ _ h11) dX6_big_55 tw_324 kc_X6_set rfl ⟨Nat.le_of_ble_eq_true rfl, Nat.le_of_ble_eq_true rfl⟩ (Nat.le_of_ble_eq_true rfl) rfl) ?_
      refine G_st (x_aload_n dX6_big_58 rfl) ?_
      refine G_st (x_get (k := 2) (aR (3, 6)) dX6_big_59 (H0_0 0 (Nat.le_of_ble_eq_true rfl) (Nat.le_of_ble_eq_true rfl)) rfl rfl rfl rfl inTX6 (Nat.le_of_ble_eq_true rfl) tw_287 (fun ad => rfl)) ?_
      refine G_st (x_get (k := 0) (aR (3, 7)) dX6_big_62 (H3 6 (Nat.le_of_ble_eq_true rfl) (Nat.le_of_ble_eq_true rfl)) rfl rfl rfl rfl inTX2 (Nat.le_of_ble_eq_true rfl) tw_250 (fun ad => rfl)) ?_
      refine G_st (x_get (k := 4) (aR (3, 9)) dX6_big_65 (H3 7 (Nat.le_of_ble_eq_true rfl) (Nat.le_of_ble_eq_true rfl)) rfl rfl rfl rfl inTX0 (Nat.le_of_ble_eq_true rfl) tw_124 (fun ad => rfl)) ?_
      refine G_st (x_iload_n dX6_big_68 rfl) ?_
      refine G_st (x_iconst (0 : Int32) dX6_big_69 rfl) ?_
      refine G_bd (fun _ t13 h14 => ?_)
      refine G_st (x_callS [] (c_X6_set ids Hn (3, 9) v2 (0 : Int32) (H3 9 (Nat.le_of_ble_eq_true rfl) (Nat.le_of_ble_eq_true rfl)) rfl _ _ _ h14) dX6_big_70 tw_324 kc_X6_set rfl ⟨Nat.le_of_ble_eq_true rfl, Nat.le_of_ble_eq_true rfl⟩ (Nat.le_of_ble_eq_true rfl) rfl) ?_
      refine G_st (x_aload_n dX6_big_73 rfl) ?_
      refine G_st (x_get (k := 2) (aR (3, 6)) dX6_big_74 (H0_0 0 (Nat.le_of_ble_eq_true rfl) (Nat.le_of_ble_eq_true rfl)) rfl rfl rfl rfl inTX6 (Nat.le_of_ble_eq_true rfl) tw_287 (fun ad => rfl)) ?_
      refine G_bd (fun x15 t16 h17 => ?_)
      refine G_st (x_callV [] (c_X2_spendWeek ids Hn 3 H3 _ _ _ h17) dX6_big_77 tw_605 kc_X2_spendWeek (H3 6 (Nat.le_of_ble_eq_true rfl) (Nat.le_of_ble_eq_true rfl)) rfl rfl rfl rfl ⟨Nat.le_of_ble_eq_true rfl, Nat.le_of_ble_eq_true rfl⟩ (Nat.le_of_ble_eq_true rfl) rfl) ?_
      refine G_st (x_istore [some (aR (0, 0)), none, some (aI v2), some (aI v3), some (aI v4), some (aI v5), some (aI x15)] dX6_big_80 (Nat.le_of_ble_eq_true rfl) rfl rfl) ?_
      refine G_st (x_iload_n dX6_big_82 rfl) ?_
      refine G_st (x_bipush (-9 : Int32) dX6_big_83 rfl) ?_
      refine G_ite (fun c18 => ?_) (fun c18 => ?_)
      · refine G_st (x_icmp_eq_t (tgt := 95) dX6_big_85 (by decide) c18) ?_
        refine G_weak _ ?_ (g_X6_big_95 ids Hn H0_0 H1 H2 H3 (f_X6_big_31 n) (ih) v2 v5 x15 t16)
        exact (leL_s (leL_n (leL_s (leL_n (leL_n (leL_s (leL_s (leL_e _))))))))
      · refine G_st (x_icmp_eq_f 95 dX6_big_85 (by decide) c18) ?_
        refine G_st (x_iload dX6_big_88 rfl) ?_
        refine G_st (x_iload dX6_big_90 rfl) ?_
        refine G_ite (fun c19 => ?_) (fun c19 => ?_)
        · refine G_st (x_icmp_ge_t (tgt := 102) dX6_big_92 (by decide) c19) ?_
          refine G_weak _ ?_ (g_X6_big_102 ids Hn H0_0 H1 H2 H3 (f_X6_big_31 n) (ih) v2 v3 v4 v5 t16)
          exact (leL_s (leL_n (leL_s (leL_s (leL_s (leL_s (leL_n (leL_e _))))))))
        · refine G_st (x_icmp_ge_f 102 dX6_big_92 (by decide) c19) ?_
          refine G_weak _ ?_ (g_X6_big_95 ids Hn H0_0 H1 H2 H3 (f_X6_big_31 n) (ih) v2 v5 x15 t16)
          exact (leL_s (leL_n (leL_s (leL_n (leL_n (leL_s (leL_s (leL_e _))))))))
set_option maxRecDepth 100000 in
set_option maxHeartbeats 4000000 in
theorem g_X6_big (ids : List (Nat × Nat)) (Hn : Ndp ids) (v1 : Int32) (H0_0 : InR ids 0 0 5) (H1 : InR ids 1 6 28) (H2 : InR ids 2 6 28) (H3 : InR ids 3 6 28) (t0 : Sg) : Gj kI mX6_big ids 0 [some (aR (0, 0)), some (aI v1), none, none, none, none, none] [] t0 (f_X6_big v1 t0) := by
  unfold f_X6_big
  refine G_st (x_aload_n dX6_big_0 rfl) ?_
  refine G_st (x_get (k := 0) (aR (1, 6)) dX6_big_1 (H0_0 0 (Nat.le_of_ble_eq_true rfl) (Nat.le_of_ble_eq_true rfl)) rfl rfl rfl rfl inTX6 (Nat.le_of_ble_eq_true rfl) tw_285 (fun ad => rfl)) ?_
  refine G_st (x_get (k := 0) (aR (1, 7)) dX6_big_4 (H1 6 (Nat.le_of_ble_eq_true rfl) (Nat.le_of_ble_eq_true rfl)) rfl rfl rfl rfl inTX2 (Nat.le_of_ble_eq_true rfl) tw_250 (fun ad => rfl)) ?_
  refine G_st (x_iload_n dX6_big_7 rfl) ?_
  refine G_bd (fun x1 t2 h3 => ?_)
  refine G_st (x_callV [] (c_X0_placeOf ids Hn 1 v1 (H1.sub (Nat.le_of_ble_eq_true rfl) (Nat.le_of_ble_eq_true rfl)) _ _ _ h3) dX6_big_8 tw_521 kc_X0_placeOf (H1 7 (Nat.le_of_ble_eq_true rfl) (Nat.le_of_ble_eq_true rfl)) rfl rfl rfl rfl ⟨Nat.le_of_ble_eq_true rfl, Nat.le_of_ble_eq_true rfl⟩ (Nat.le_of_ble_eq_true rfl) rfl) ?_
  refine G_st (x_istore_n [some (aR (0, 0)), some (aI v1), some (aI x1), none, none, none, none] dX6_big_11 (Nat.le_of_ble_eq_true rfl) rfl rfl) ?_
  refine G_st (x_iload_n dX6_big_12 rfl) ?_
  refine G_ite (fun c4 => ?_) (fun c4 => ?_)
  · refine G_st (x_if_ge_t (tgt := 22) dX6_big_13 (by decide) c4) ?_
    refine G_st (x_bipush (-9 : Int32) dX6_big_22 rfl) ?_
    refine G_st (x_istore_n [some (aR (0, 0)), some (aI v1), some (aI x1), some (aI (-9 : Int32)), none, none, none] dX6_big_24 (Nat.le_of_ble_eq_true rfl) rfl rfl) ?_
    refine G_st (x_iconst (0 : Int32) dX6_big_25 rfl) ?_
    refine G_st (x_istore [some (aR (0, 0)), some (aI v1), some (aI x1), some (aI (-9 : Int32)), some (aI (0 : Int32)), none, none] dX6_big_26 (Nat.le_of_ble_eq_true rfl) rfl rfl) ?_
    refine G_st (x_iconst (0 : Int32) dX6_big_28 rfl) ?_
    refine G_st (x_istore [some (aR (0, 0)), some (aI v1), some (aI x1), some (aI (-9 : Int32)), some (aI (0 : Int32)), some (aI (0 : Int32)), none] dX6_big_29 (Nat.le_of_ble_eq_true rfl) rfl rfl) ?_
    refine G_weak _ ?_ (g_X6_big_31 ids Hn H0_0 H1 H2 H3 fuel x1 (-9 : Int32) (0 : Int32) (0 : Int32) t2)
    exact (leL_s (leL_n (leL_s (leL_s (leL_s (leL_s (leL_n (leL_e _))))))))
  · refine G_st (x_if_ge_f 22 dX6_big_13 (by decide) c4) ?_
    refine G_st (x_aload_n dX6_big_16 rfl) ?_
    refine G_st (x_iconst (-1 : Int32) dX6_big_17 rfl) ?_
    refine G_bd (fun x20 t21 h22 => ?_)
    refine G_st (x_callV [] (c_X6_refuse ids Hn (-1 : Int32) H0_0 H1 H2 H3 _ _ _ h22) dX6_big_18 tw_317 kc_X6_refuse (H0_0 0 (Nat.le_of_ble_eq_true rfl) (Nat.le_of_ble_eq_true rfl)) rfl rfl rfl rfl ⟨Nat.le_of_ble_eq_true rfl, Nat.le_of_ble_eq_true rfl⟩ (Nat.le_of_ble_eq_true rfl) rfl) ?_
    exact G_ret rfl ⟨dX6_big_21, _, rfl, rfl⟩ rfl
set_option maxRecDepth 100000 in
set_option maxHeartbeats 4000000 in
theorem c_X6_big (ids : List (Nat × Nat)) (Hn : Ndp ids) (v1 : Int32) (H0_0 : InR ids 0 0 5) (H1 : InR ids 1 6 28) (H2 : InR ids 2 6 28) (H3 : InR ids 3 6 28) (t0 : Sg) (r : Int32) (t1 : Sg) (hf : f_X6_big v1 t0 = some (r, t1)) : Mt0 mX6_big yX6_big ids [aR (0, 0), aI v1] t0 (some (aI r)) t1 :=
  Mt_of (x := (r, t1)) (g_X6_big ids Hn v1 H0_0 H1 H2 H3 t0) hf (fun _ _ => trivial) (by decide) rfl Hn (fun _ => rfl) (fun _ => Nat.le_of_ble_eq_true rfl)
