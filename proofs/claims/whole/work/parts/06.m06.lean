theorem dX7_fallAlone_0 : decode cX7_fallAlone 0 = .ok (.aload_n 0, 1) := by decide +kernel
theorem dX7_fallAlone_1 : decode cX7_fallAlone 1 = .ok (.invokevirtual 154, 3) := by decide +kernel
theorem dX7_fallAlone_4 : decode cX7_fallAlone 4 = .ok (.aload_n 0, 1) := by decide +kernel
theorem dX7_fallAlone_5 : decode cX7_fallAlone 5 = .ok (.iload_n 1, 1) := by decide +kernel
theorem dX7_fallAlone_6 : decode cX7_fallAlone 6 = .ok (.invokevirtual 147, 3) := by decide +kernel
theorem dX7_fallAlone_9 : decode cX7_fallAlone 9 = .ok (.return_, 1) := by decide +kernel
set_option maxRecDepth 100000 in
set_option maxHeartbeats 4000000 in
theorem g_X7_fallAlone (ids : List (Nat × Nat)) (Hn : Ndp ids) (v1 : Int32) (H0_29 : InR ids 0 29 56) (t0 : Sg) : Gj kV mX7_fallAlone ids 0 [some (aR (0, 29)), some (aI v1)] [] t0 (f_X7_fallAlone v1 t0) := by
  unfold f_X7_fallAlone
  refine G_st (x_aload_n dX7_fallAlone_0 rfl) ?_
  refine G_bd (fun _ t2 h3 => ?_)
  refine G_st (x_callV [] (c_X7_beginMind ids Hn  H0_29 _ _ _ h3) dX7_fallAlone_1 tw_1161 kc_X7_beginMind (H0_29 29 (Nat.le_of_ble_eq_true rfl) (Nat.le_of_ble_eq_true rfl)) rfl rfl rfl rfl ⟨Nat.le_of_ble_eq_true rfl, Nat.le_of_ble_eq_true rfl⟩ (Nat.le_of_ble_eq_true rfl) rfl) ?_
  refine G_st (x_aload_n dX7_fallAlone_4 rfl) ?_
  refine G_st (x_iload_n dX7_fallAlone_5 rfl) ?_
  refine G_bd (fun _ t5 h6 => ?_)
  refine G_st (x_callV [] (c_X7_fall ids Hn v1 H0_29 _ _ _ h6) dX7_fallAlone_6 tw_1173 kc_X7_fall (H0_29 29 (Nat.le_of_ble_eq_true rfl) (Nat.le_of_ble_eq_true rfl)) rfl rfl rfl rfl ⟨Nat.le_of_ble_eq_true rfl, Nat.le_of_ble_eq_true rfl⟩ (Nat.le_of_ble_eq_true rfl) rfl) ?_
  exact G_ret rfl ⟨rfl, dX7_fallAlone_9⟩ rfl
set_option maxRecDepth 100000 in
set_option maxHeartbeats 4000000 in
theorem c_X7_fallAlone (ids : List (Nat × Nat)) (Hn : Ndp ids) (v1 : Int32) (H0_29 : InR ids 0 29 56) (t0 : Sg) (r : Unit) (t1 : Sg) (hf : f_X7_fallAlone v1 t0 = some (r, t1)) : Mt0 mX7_fallAlone yX7_fallAlone ids [aR (0, 29), aI v1] t0 none t1 :=
  Mt_of (x := (r, t1)) (g_X7_fallAlone ids Hn v1 H0_29 t0) hf (fun _ _ => trivial) (by decide) rfl Hn (fun _ => rfl) (fun _ => Nat.le_of_ble_eq_true rfl)
theorem dX7_steps_0 : decode cX7_steps 0 = .ok (.aload_n 0, 1) := by decide +kernel
theorem dX7_steps_1 : decode cX7_steps 1 = .ok (.iconst 0, 1) := by decide +kernel
theorem dX7_steps_2 : decode cX7_steps 2 = .ok (.putfield 98, 3) := by decide +kernel
theorem dX7_steps_5 : decode cX7_steps 5 = .ok (.aload_n 0, 1) := by decide +kernel
theorem dX7_steps_6 : decode cX7_steps 6 = .ok (.iload_n 1, 1) := by decide +kernel
theorem dX7_steps_7 : decode cX7_steps 7 = .ok (.invokevirtual 266, 3) := by decide +kernel
theorem dX7_steps_10 : decode cX7_steps 10 = .ok (.ifCond .eq 8, 3) := by decide +kernel
theorem dX7_steps_13 : decode cX7_steps 13 = .ok (.iload_n 2, 1) := by decide +kernel
theorem dX7_steps_14 : decode cX7_steps 14 = .ok (.iconst (-1), 1) := by decide +kernel
theorem dX7_steps_15 : decode cX7_steps 15 = .ok (.if_icmp .ge 22, 3) := by decide +kernel
theorem dX7_steps_18 : decode cX7_steps 18 = .ok (.aload_n 0, 1) := by decide +kernel
theorem dX7_steps_19 : decode cX7_steps 19 = .ok (.aload_n 0, 1) := by decide +kernel
theorem dX7_steps_20 : decode cX7_steps 20 = .ok (.iload_n 1, 1) := by decide +kernel
theorem dX7_steps_21 : decode cX7_steps 21 = .ok (.invokevirtual 266, 3) := by decide +kernel
theorem dX7_steps_24 : decode cX7_steps 24 = .ok (.ifCond .eq 8, 3) := by decide +kernel
theorem dX7_steps_27 : decode cX7_steps 27 = .ok (.bipush (-4), 2) := by decide +kernel
theorem dX7_steps_29 : decode cX7_steps 29 = .ok (.goto 4, 3) := by decide +kernel
theorem dX7_steps_32 : decode cX7_steps 32 = .ok (.iconst (-1), 1) := by decide +kernel
theorem dX7_steps_33 : decode cX7_steps 33 = .ok (.invokevirtual 167, 3) := by decide +kernel
theorem dX7_steps_36 : decode cX7_steps 36 = .ok (.ireturn, 1) := by decide +kernel
theorem dX7_steps_37 : decode cX7_steps 37 = .ok (.aload_n 0, 1) := by decide +kernel
theorem dX7_steps_38 : decode cX7_steps 38 = .ok (.iload_n 1, 1) := by decide +kernel
theorem dX7_steps_39 : decode cX7_steps 39 = .ok (.invokevirtual 285, 3) := by decide +kernel
theorem dX7_steps_42 : decode cX7_steps 42 = .ok (.iload_n 2, 1) := by decide +kernel
theorem dX7_steps_43 : decode cX7_steps 43 = .ok (.ifCond .ge 10, 3) := by decide +kernel
theorem dX7_steps_46 : decode cX7_steps 46 = .ok (.aload_n 0, 1) := by decide +kernel
theorem dX7_steps_47 : decode cX7_steps 47 = .ok (.getfield 132, 3) := by decide +kernel
theorem dX7_steps_50 : decode cX7_steps 50 = .ok (.goto 25, 3) := by decide +kernel
theorem dX7_steps_53 : decode cX7_steps 53 = .ok (.iload_n 2, 1) := by decide +kernel
theorem dX7_steps_54 : decode cX7_steps 54 = .ok (.aload_n 0, 1) := by decide +kernel
theorem dX7_steps_55 : decode cX7_steps 55 = .ok (.getfield 132, 3) := by decide +kernel
theorem dX7_steps_58 : decode cX7_steps 58 = .ok (.if_icmp .ge 15, 3) := by decide +kernel
theorem dX7_steps_61 : decode cX7_steps 61 = .ok (.aload_n 0, 1) := by decide +kernel
theorem dX7_steps_62 : decode cX7_steps 62 = .ok (.getfield 68, 3) := by decide +kernel
theorem dX7_steps_65 : decode cX7_steps 65 = .ok (.iload_n 2, 1) := by decide +kernel
theorem dX7_steps_66 : decode cX7_steps 66 = .ok (.iaload, 1) := by decide +kernel
theorem dX7_steps_67 : decode cX7_steps 67 = .ok (.invokestatic 257, 3) := by decide +kernel
theorem dX7_steps_70 : decode cX7_steps 70 = .ok (.goto 5, 3) := by decide +kernel
theorem dX7_steps_73 : decode cX7_steps 73 = .ok (.bipush (-9), 2) := by decide +kernel
theorem dX7_steps_75 : decode cX7_steps 75 = .ok (.ireturn, 1) := by decide +kernel
set_option maxRecDepth 100000 in
set_option maxHeartbeats 4000000 in
theorem g_X7_steps_18 (ids : List (Nat × Nat)) (Hn : Ndp ids)  (H0_29 : InR ids 0 29 56)  (v1 : Int32) (t0 : Sg) : Gj kI mX7_steps ids 18 [some (aR (0, 29)), some (aI v1), none] [] t0 (f_X7_steps_18 v1 t0) := by
  unfold f_X7_steps_18
  refine G_st (x_aload_n dX7_steps_18 rfl) ?_
  refine G_st (x_aload_n dX7_steps_19 rfl) ?_
  refine G_st (x_iload_n dX7_steps_20 rfl) ?_
  refine G_bd (fun x6 t7 h8 => ?_)
  refine G_st (x_callV [aR (0, 29)] (c_X7_isHabit ids Hn v1 H0_29 _ _ _ h8) dX7_steps_21 tw_1109 kc_X7_isHabit (H0_29 29 (Nat.le_of_ble_eq_true rfl) (Nat.le_of_ble_eq_true rfl)) rfl rfl rfl rfl ⟨Nat.le_of_ble_eq_true rfl, Nat.le_of_ble_eq_true rfl⟩ (Nat.le_of_ble_eq_true rfl) rfl) ?_
  have e10 : Tj mX7_steps ids 24 [some (aR (0, 29)), some (aI v1), none] [aI x6, aR (0, 29)] t7 33 [some (aR (0, 29)), some (aI v1), none] [aI (if x6 = 0 then (-1 : Int32) else (-4 : Int32)), aR (0, 29)] t7 := by
    refine Tj.dia (fun c9 => ?_) (fun c9 => ?_)
    · refine Tj.tr (x_if_eq_t (tgt := 32) dX7_steps_24 (by decide) c9) ?_
      refine Tj.tr (x_iconst (-1 : Int32) dX7_steps_32 rfl) ?_
      exact Tj.rf
    · refine Tj.tr (x_if_eq_f 32 dX7_steps_24 (by decide) c9) ?_
      refine Tj.tr (x_bipush (-4 : Int32) dX7_steps_27 rfl) ?_
      refine Tj.tr (x_goto (tgt := 33) dX7_steps_29 (by decide)) ?_
      exact Tj.rf
  refine G_st e10 ?_
  refine G_bd (fun x11 t12 h13 => ?_)
  refine G_st (x_callV [] (c_X7_refuse ids Hn (if x6 = 0 then (-1 : Int32) else (-4 : Int32)) H0_29 _ _ _ h13) dX7_steps_33 tw_981 kc_X7_refuse (H0_29 29 (Nat.le_of_ble_eq_true rfl) (Nat.le_of_ble_eq_true rfl)) rfl rfl rfl rfl ⟨Nat.le_of_ble_eq_true rfl, Nat.le_of_ble_eq_true rfl⟩ (Nat.le_of_ble_eq_true rfl) rfl) ?_
  exact G_ret rfl ⟨dX7_steps_36, _, rfl, rfl⟩ rfl
set_option maxRecDepth 100000 in
set_option maxHeartbeats 4000000 in
theorem g_X7_steps (ids : List (Nat × Nat)) (Hn : Ndp ids) (v1 : Int32) (v2 : Int32) (H0_29 : InR ids 0 29 56) (t0 : Sg) : Gj kI mX7_steps ids 0 [some (aR (0, 29)), some (aI v1), some (aI v2)] [] t0 (f_X7_steps v1 v2 t0) := by
  unfold f_X7_steps
  refine G_st (x_aload_n dX7_steps_0 rfl) ?_
  refine G_st (x_iconst (0 : Int32) dX7_steps_1 rfl) ?_
  refine G_st (x_put (k := 18) (ty := .int) (v := aI (0 : Int32)) (z := (0 : Int32)) (upS t0 (0, 29) 18 (0 : Int32)) dX7_steps_2 (H0_29 29 (Nat.le_of_ble_eq_true rfl) (Nat.le_of_ble_eq_true rfl)) rfl rfl rfl rfl inTX7 tyX7_ok nmX7 (Nat.le_of_ble_eq_true rfl) tw_865 rfl rfl (fun ad => rfl) (fun ad => rfl) (fun ad => put_i0 ad _ _ _ _ rfl) rfl) ?_
  refine G_bvS (fun t1 => ?_)
  refine G_st (x_aload_n dX7_steps_5 rfl) ?_
  refine G_st (x_iload_n dX7_steps_6 rfl) ?_
  refine G_bd (fun x2 t3 h4 => ?_)
  refine G_st (x_callV [] (c_X7_isHabit ids Hn v1 H0_29 _ _ _ h4) dX7_steps_7 tw_1109 kc_X7_isHabit (H0_29 29 (Nat.le_of_ble_eq_true rfl) (Nat.le_of_ble_eq_true rfl)) rfl rfl rfl rfl ⟨Nat.le_of_ble_eq_true rfl, Nat.le_of_ble_eq_true rfl⟩ (Nat.le_of_ble_eq_true rfl) rfl) ?_
  refine G_ite (fun c5 => ?_) (fun c5 => ?_)
  · refine G_st (x_if_eq_t (tgt := 18) dX7_steps_10 (by decide) c5) ?_
    refine G_weak _ ?_ (g_X7_steps_18 ids Hn H0_29 v1 t3)
    exact (leL_s (leL_s (leL_n (leL_e _))))
  · refine G_st (x_if_eq_f 18 dX7_steps_10 (by decide) c5) ?_
    refine G_st (x_iload_n dX7_steps_13 rfl) ?_
    refine G_st (x_iconst (-1 : Int32) dX7_steps_14 rfl) ?_
    refine G_ite (fun c14 => ?_) (fun c14 => ?_)
    · refine G_st (x_icmp_ge_t (tgt := 37) dX7_steps_15 (by decide) c14) ?_
      refine G_st (x_aload_n dX7_steps_37 rfl) ?_
      refine G_st (x_iload_n dX7_steps_38 rfl) ?_
      refine G_bd (fun _ t16 h17 => ?_)
      refine G_st (x_callV [] (c_X7_fallAlone ids Hn v1 H0_29 _ _ _ h17) dX7_steps_39 tw_1202 kc_X7_fallAlone (H0_29 29 (Nat.le_of_ble_eq_true rfl) (Nat.le_of_ble_eq_true rfl)) rfl rfl rfl rfl ⟨Nat.le_of_ble_eq_true rfl, Nat.le_of_ble_eq_true rfl⟩ (Nat.le_of_ble_eq_true rfl) rfl) ?_
      refine G_st (x_iload_n dX7_steps_42 rfl) ?_
      refine G_ite (fun c18 => ?_) (fun c18 => ?_)
      · refine G_st (x_if_ge_t (tgt := 53) dX7_steps_43 (by decide) c18) ?_
        refine G_st (x_iload_n dX7_steps_53 rfl) ?_
        refine G_st (x_aload_n dX7_steps_54 rfl) ?_
        refine G_st (x_get (k := 24) (aI (t16 (0, 29) 24)) dX7_steps_55 (H0_29 29 (Nat.le_of_ble_eq_true rfl) (Nat.le_of_ble_eq_true rfl)) rfl rfl rfl rfl inTX7 (Nat.le_of_ble_eq_true rfl) tw_871 (fun ad => rfl)) ?_
        refine G_ite (fun c19 => ?_) (fun c19 => ?_)
        · refine G_st (x_icmp_ge_t (tgt := 73) dX7_steps_58 (by decide) c19) ?_
          refine G_st (x_bipush (-9 : Int32) dX7_steps_73 rfl) ?_
          exact G_ret rfl ⟨dX7_steps_75, _, rfl, rfl⟩ rfl
        · refine G_st (x_icmp_ge_f 73 dX7_steps_58 (by decide) c19) ?_
          refine G_st (x_aload_n dX7_steps_61 rfl) ?_
          refine G_st (x_get (k := 23) (aR (0, 47)) dX7_steps_62 (H0_29 29 (Nat.le_of_ble_eq_true rfl) (Nat.le_of_ble_eq_true rfl)) rfl rfl rfl rfl inTX7 (Nat.le_of_ble_eq_true rfl) tw_870 (fun ad => rfl)) ?_
          refine G_st (x_iload_n dX7_steps_65 rfl) ?_
          refine G_chk (fun c20 => ?_)
          refine G_st (x_iaload dX7_steps_66 (H0_29 47 (Nat.le_of_ble_eq_true rfl) (Nat.le_of_ble_eq_true rfl)) rfl c20) ?_
          refine G_bd (fun x21 t22 h23 => ?_)
          refine G_st (x_callS [] (c_X7_toldAs ids Hn (t16 (0, 47) (v2).toNatClampNeg)  _ _ _ h23) dX7_steps_67 tw_1090 kc_X7_toldAs rfl ⟨Nat.le_of_ble_eq_true rfl, Nat.le_of_ble_eq_true rfl⟩ (Nat.le_of_ble_eq_true rfl) rfl) ?_
          refine G_st (x_goto (tgt := 75) dX7_steps_70 (by decide)) ?_
          exact G_ret rfl ⟨dX7_steps_75, _, rfl, rfl⟩ rfl
      · refine G_st (x_if_ge_f 53 dX7_steps_43 (by decide) c18) ?_
        refine G_st (x_aload_n dX7_steps_46 rfl) ?_
        refine G_st (x_get (k := 24) (aI (t16 (0, 29) 24)) dX7_steps_47 (H0_29 29 (Nat.le_of_ble_eq_true rfl) (Nat.le_of_ble_eq_true rfl)) rfl rfl rfl rfl inTX7 (Nat.le_of_ble_eq_true rfl) tw_871 (fun ad => rfl)) ?_
        refine G_st (x_goto (tgt := 75) dX7_steps_50 (by decide)) ?_
        exact G_ret rfl ⟨dX7_steps_75, _, rfl, rfl⟩ rfl
    · refine G_st (x_icmp_ge_f 37 dX7_steps_15 (by decide) c14) ?_
      refine G_weak _ ?_ (g_X7_steps_18 ids Hn H0_29 v1 t3)
      exact (leL_s (leL_s (leL_n (leL_e _))))
set_option maxRecDepth 100000 in
set_option maxHeartbeats 4000000 in
theorem c_X7_steps (ids : List (Nat × Nat)) (Hn : Ndp ids) (v1 : Int32) (v2 : Int32) (H0_29 : InR ids 0 29 56) (t0 : Sg) (r : Int32) (t1 : Sg) (hf : f_X7_steps v1 v2 t0 = some (r, t1)) : Mt0 mX7_steps yX7_steps ids [aR (0, 29), aI v1, aI v2] t0 (some (aI r)) t1 :=
  Mt_of (x := (r, t1)) (g_X7_steps ids Hn v1 v2 H0_29 t0) hf (fun _ _ => trivial) (by decide) rfl Hn (fun _ => rfl) (fun _ => Nat.le_of_ble_eq_true rfl)
theorem dX7_down_0 : decode cX7_down 0 = .ok (.aload_n 0, 1) := by decide +kernel
theorem dX7_down_1 : decode cX7_down 1 = .ok (.iconst 0, 1) := by decide +kernel
theorem dX7_down_2 : decode cX7_down 2 = .ok (.putfield 98, 3) := by decide +kernel
theorem dX7_down_5 : decode cX7_down 5 = .ok (.aload_n 0, 1) := by decide +kernel
theorem dX7_down_6 : decode cX7_down 6 = .ok (.iload_n 1, 1) := by decide +kernel
theorem dX7_down_7 : decode cX7_down 7 = .ok (.invokevirtual 266, 3) := by decide +kernel
theorem dX7_down_10 : decode cX7_down 10 = .ok (.ifCond .ne 9, 3) := by decide +kernel
theorem dX7_down_13 : decode cX7_down 13 = .ok (.aload_n 0, 1) := by decide +kernel
theorem dX7_down_14 : decode cX7_down 14 = .ok (.iconst (-1), 1) := by decide +kernel
theorem dX7_down_15 : decode cX7_down 15 = .ok (.invokevirtual 167, 3) := by decide +kernel
theorem dX7_down_18 : decode cX7_down 18 = .ok (.ireturn, 1) := by decide +kernel
theorem dX7_down_19 : decode cX7_down 19 = .ok (.aload_n 0, 1) := by decide +kernel
theorem dX7_down_20 : decode cX7_down 20 = .ok (.iload_n 1, 1) := by decide +kernel
theorem dX7_down_21 : decode cX7_down 21 = .ok (.invokevirtual 285, 3) := by decide +kernel
theorem dX7_down_24 : decode cX7_down 24 = .ok (.aload_n 0, 1) := by decide +kernel
theorem dX7_down_25 : decode cX7_down 25 = .ok (.getfield 132, 3) := by decide +kernel
theorem dX7_down_28 : decode cX7_down 28 = .ok (.ifCond .ne 8, 3) := by decide +kernel
theorem dX7_down_31 : decode cX7_down 31 = .ok (.bipush (-9), 2) := by decide +kernel
theorem dX7_down_33 : decode cX7_down 33 = .ok (.goto 17, 3) := by decide +kernel
theorem dX7_down_36 : decode cX7_down 36 = .ok (.aload_n 0, 1) := by decide +kernel
theorem dX7_down_37 : decode cX7_down 37 = .ok (.getfield 68, 3) := by decide +kernel
theorem dX7_down_40 : decode cX7_down 40 = .ok (.aload_n 0, 1) := by decide +kernel
theorem dX7_down_41 : decode cX7_down 41 = .ok (.getfield 132, 3) := by decide +kernel
theorem dX7_down_44 : decode cX7_down 44 = .ok (.iconst 1, 1) := by decide +kernel
theorem dX7_down_45 : decode cX7_down 45 = .ok (.isub, 1) := by decide +kernel
theorem dX7_down_46 : decode cX7_down 46 = .ok (.iaload, 1) := by decide +kernel
theorem dX7_down_47 : decode cX7_down 47 = .ok (.invokestatic 257, 3) := by decide +kernel
theorem dX7_down_50 : decode cX7_down 50 = .ok (.ireturn, 1) := by decide +kernel
set_option maxRecDepth 100000 in
set_option maxHeartbeats 4000000 in
theorem g_X7_down (ids : List (Nat × Nat)) (Hn : Ndp ids) (v1 : Int32) (H0_29 : InR ids 0 29 56) (t0 : Sg) : Gj kI mX7_down ids 0 [some (aR (0, 29)), some (aI v1)] [] t0 (f_X7_down v1 t0) := by
  unfold f_X7_down
  refine G_st (x_aload_n dX7_down_0 rfl) ?_
  refine G_st (x_iconst (0 : Int32) dX7_down_1 rfl) ?_
  refine G_st (x_put (k := 18) (ty := .int) (v := aI (0 : Int32)) (z := (0 : Int32)) (upS t0 (0, 29) 18 (0 : Int32)) dX7_down_2 (H0_29 29 (Nat.le_of_ble_eq_true rfl) (Nat.le_of_ble_eq_true rfl)) rfl rfl rfl rfl inTX7 tyX7_ok nmX7 (Nat.le_of_ble_eq_true rfl) tw_865 rfl rfl (fun ad => rfl) (fun ad => rfl) (fun ad => put_i0 ad _ _ _ _ rfl) rfl) ?_
  refine G_bvS (fun t1 => ?_)
  refine G_st (x_aload_n dX7_down_5 rfl) ?_
  refine G_st (x_iload_n dX7_down_6 rfl) ?_
  refine G_bd (fun x2 t3 h4 => ?_)
  refine G_st (x_callV [] (c_X7_isHabit ids Hn v1 H0_29 _ _ _ h4) dX7_down_7 tw_1109 kc_X7_isHabit (H0_29 29 (Nat.le_of_ble_eq_true rfl) (Nat.le_of_ble_eq_true rfl)) rfl rfl rfl rfl ⟨Nat.le_of_ble_eq_true rfl, Nat.le_of_ble_eq_true rfl⟩ (Nat.le_of_ble_eq_true rfl) rfl) ?_
  refine G_ite (fun c5 => ?_) (fun c5 => ?_)
  · refine G_st (x_if_ne_f 19 dX7_down_10 (by decide) c5) ?_
    refine G_st (x_aload_n dX7_down_13 rfl) ?_
    refine G_st (x_iconst (-1 : Int32) dX7_down_14 rfl) ?_
    refine G_bd (fun x6 t7 h8 => ?_)
    refine G_st (x_callV [] (c_X7_refuse ids Hn (-1 : Int32) H0_29 _ _ _ h8) dX7_down_15 tw_981 kc_X7_refuse (H0_29 29 (Nat.le_of_ble_eq_true rfl) (Nat.le_of_ble_eq_true rfl)) rfl rfl rfl rfl ⟨Nat.le_of_ble_eq_true rfl, Nat.le_of_ble_eq_true rfl⟩ (Nat.le_of_ble_eq_true rfl) rfl) ?_
    exact G_ret rfl ⟨dX7_down_18, _, rfl, rfl⟩ rfl
  · refine G_st (x_if_ne_t (tgt := 19) dX7_down_10 (by decide) c5) ?_
    refine G_st (x_aload_n dX7_down_19 rfl) ?_
    refine G_st (x_iload_n dX7_down_20 rfl) ?_
    refine G_bd (fun _ t10 h11 => ?_)
    refine G_st (x_callV [] (c_X7_fallAlone ids Hn v1 H0_29 _ _ _ h11) dX7_down_21 tw_1202 kc_X7_fallAlone (H0_29 29 (Nat.le_of_ble_eq_true rfl) (Nat.le_of_ble_eq_true rfl)) rfl rfl rfl rfl ⟨Nat.le_of_ble_eq_true rfl, Nat.le_of_ble_eq_true rfl⟩ (Nat.le_of_ble_eq_true rfl) rfl) ?_
    refine G_st (x_aload_n dX7_down_24 rfl) ?_
    refine G_st (x_get (k := 24) (aI (t10 (0, 29) 24)) dX7_down_25 (H0_29 29 (Nat.le_of_ble_eq_true rfl) (Nat.le_of_ble_eq_true rfl)) rfl rfl rfl rfl inTX7 (Nat.le_of_ble_eq_true rfl) tw_871 (fun ad => rfl)) ?_
    refine G_ite (fun c12 => ?_) (fun c12 => ?_)
    · refine G_st (x_if_ne_f 36 dX7_down_28 (by decide) c12) ?_
      refine G_st (x_bipush (-9 : Int32) dX7_down_31 rfl) ?_
      refine G_st (x_goto (tgt := 50) dX7_down_33 (by decide)) ?_
      exact G_ret rfl ⟨dX7_down_50, _, rfl, rfl⟩ rfl
    · refine G_st (x_if_ne_t (tgt := 36) dX7_down_28 (by decide) c12) ?_
      refine G_st (x_aload_n dX7_down_36 rfl) ?_
      refine G_st (x_get (k := 23) (aR (0, 47)) dX7_down_37 (H0_29 29 (Nat.le_of_ble_eq_true rfl) (Nat.le_of_ble_eq_true rfl)) rfl rfl rfl rfl inTX7 (Nat.le_of_ble_eq_true rfl) tw_870 (fun ad => rfl)) ?_
      refine G_st (x_aload_n dX7_down_40 rfl) ?_
      refine G_st (x_get (k := 24) (aI (t10 (0, 29) 24)) dX7_down_41 (H0_29 29 (Nat.le_of_ble_eq_true rfl) (Nat.le_of_ble_eq_true rfl)) rfl rfl rfl rfl inTX7 (Nat.le_of_ble_eq_true rfl) tw_871 (fun ad => rfl)) ?_
      refine G_st (x_iconst (1 : Int32) dX7_down_44 rfl) ?_
      refine G_st (x_isub dX7_down_45) ?_
      refine G_chk (fun c13 => ?_)
      refine G_st (x_iaload dX7_down_46 (H0_29 47 (Nat.le_of_ble_eq_true rfl) (Nat.le_of_ble_eq_true rfl)) rfl c13) ?_
      refine G_bd (fun x14 t15 h16 => ?_)
      refine G_st (x_callS [] (c_X7_toldAs ids Hn (t10 (0, 47) (((t10 (0, 29) 24) - (1 : Int32))).toNatClampNeg)  _ _ _ h16) dX7_down_47 tw_1090 kc_X7_toldAs rfl ⟨Nat.le_of_ble_eq_true rfl, Nat.le_of_ble_eq_true rfl⟩ (Nat.le_of_ble_eq_true rfl) rfl) ?_
      exact G_ret rfl ⟨dX7_down_50, _, rfl, rfl⟩ rfl
set_option maxRecDepth 100000 in
set_option maxHeartbeats 4000000 in
theorem c_X7_down (ids : List (Nat × Nat)) (Hn : Ndp ids) (v1 : Int32) (H0_29 : InR ids 0 29 56) (t0 : Sg) (r : Int32) (t1 : Sg) (hf : f_X7_down v1 t0 = some (r, t1)) : Mt0 mX7_down yX7_down ids [aR (0, 29), aI v1] t0 (some (aI r)) t1 :=
  Mt_of (x := (r, t1)) (g_X7_down ids Hn v1 H0_29 t0) hf (fun _ _ => trivial) (by decide) rfl Hn (fun _ => rfl) (fun _ => Nat.le_of_ble_eq_true rfl)
theorem dX7_comesTo_0 : decode cX7_comesTo 0 = .ok (.aload_n 0, 1) := by decide +kernel
theorem dX7_comesTo_1 : decode cX7_comesTo 1 = .ok (.aload_n 0, 1) := by decide +kernel
theorem dX7_comesTo_2 : decode cX7_comesTo 2 = .ok (.getfield 47, 3) := by decide +kernel
theorem dX7_comesTo_5 : decode cX7_comesTo 5 = .ok (.iload_n 1, 1) := by decide +kernel
theorem dX7_comesTo_6 : decode cX7_comesTo 6 = .ok (.iaload, 1) := by decide +kernel
theorem dX7_comesTo_7 : decode cX7_comesTo 7 = .ok (.aload_n 0, 1) := by decide +kernel
theorem dX7_comesTo_8 : decode cX7_comesTo 8 = .ok (.getfield 32, 3) := by decide +kernel
theorem dX7_comesTo_11 : decode cX7_comesTo 11 = .ok (.aload_n 0, 1) := by decide +kernel
theorem dX7_comesTo_12 : decode cX7_comesTo 12 = .ok (.getfield 44, 3) := by decide +kernel
theorem dX7_comesTo_15 : decode cX7_comesTo 15 = .ok (.iload_n 1, 1) := by decide +kernel
theorem dX7_comesTo_16 : decode cX7_comesTo 16 = .ok (.iaload, 1) := by decide +kernel
theorem dX7_comesTo_17 : decode cX7_comesTo 17 = .ok (.iaload, 1) := by decide +kernel
theorem dX7_comesTo_18 : decode cX7_comesTo 18 = .ok (.invokevirtual 129, 3) := by decide +kernel
theorem dX7_comesTo_21 : decode cX7_comesTo 21 = .ok (.istore_n 3, 1) := by decide +kernel
theorem dX7_comesTo_22 : decode cX7_comesTo 22 = .ok (.iload_n 3, 1) := by decide +kernel
theorem dX7_comesTo_23 : decode cX7_comesTo 23 = .ok (.ifCond .lt 23, 3) := by decide +kernel
theorem dX7_comesTo_26 : decode cX7_comesTo 26 = .ok (.iload_n 3, 1) := by decide +kernel
theorem dX7_comesTo_27 : decode cX7_comesTo 27 = .ok (.iload_n 2, 1) := by decide +kernel
theorem dX7_comesTo_28 : decode cX7_comesTo 28 = .ok (.if_icmp .eq 18, 3) := by decide +kernel
theorem dX7_comesTo_31 : decode cX7_comesTo 31 = .ok (.aload_n 0, 1) := by decide +kernel
theorem dX7_comesTo_32 : decode cX7_comesTo 32 = .ok (.aload_n 0, 1) := by decide +kernel
theorem dX7_comesTo_33 : decode cX7_comesTo 33 = .ok (.getfield 47, 3) := by decide +kernel
theorem dX7_comesTo_36 : decode cX7_comesTo 36 = .ok (.iload_n 1, 1) := by decide +kernel
theorem dX7_comesTo_37 : decode cX7_comesTo 37 = .ok (.iaload, 1) := by decide +kernel
theorem dX7_comesTo_38 : decode cX7_comesTo 38 = .ok (.iload_n 3, 1) := by decide +kernel
theorem dX7_comesTo_39 : decode cX7_comesTo 39 = .ok (.invokevirtual 129, 3) := by decide +kernel
theorem dX7_comesTo_42 : decode cX7_comesTo 42 = .ok (.istore_n 3, 1) := by decide +kernel
theorem dX7_comesTo_43 : decode cX7_comesTo 43 = .ok (.goto (-21), 3) := by decide +kernel
theorem dX7_comesTo_46 : decode cX7_comesTo 46 = .ok (.iload_n 3, 1) := by decide +kernel
theorem dX7_comesTo_47 : decode cX7_comesTo 47 = .ok (.ifCond .lt 7, 3) := by decide +kernel
theorem dX7_comesTo_50 : decode cX7_comesTo 50 = .ok (.iconst 1, 1) := by decide +kernel
theorem dX7_comesTo_51 : decode cX7_comesTo 51 = .ok (.goto 4, 3) := by decide +kernel
theorem dX7_comesTo_54 : decode cX7_comesTo 54 = .ok (.iconst 0, 1) := by decide +kernel
theorem dX7_comesTo_55 : decode cX7_comesTo 55 = .ok (.ireturn, 1) := by decide +kernel
set_option maxRecDepth 100000 in
set_option maxHeartbeats 4000000 in
theorem g_X7_comesTo_46 (ids : List (Nat × Nat)) (Hn : Ndp ids)  (H0_29 : InR ids 0 29 56)  (v3 : Int32) (t0 : Sg) : Gj kI mX7_comesTo ids 46 [none, none, none, some (aI v3)] [] t0 (f_X7_comesTo_46 v3 t0) := by
  unfold f_X7_comesTo_46
  refine G_st (x_iload_n dX7_comesTo_46 rfl) ?_
  have e9 : Tj mX7_comesTo ids 47 [none, none, none, some (aI v3)] [aI v3] t0 55 [none, none, none, some (aI v3)] [aI (if v3 < 0 then (0 : Int32) else (1 : Int32))] t0 := by
    refine Tj.dia (fun c8 => ?_) (fun c8 => ?_)
    · refine Tj.tr (x_if_lt_t (tgt := 54) dX7_comesTo_47 (by decide) c8) ?_
      refine Tj.tr (x_iconst (0 : Int32) dX7_comesTo_54 rfl) ?_
      exact Tj.rf
    · refine Tj.tr (x_if_lt_f 54 dX7_comesTo_47 (by decide) c8) ?_
      refine Tj.tr (x_iconst (1 : Int32) dX7_comesTo_50 rfl) ?_
      refine Tj.tr (x_goto (tgt := 55) dX7_comesTo_51 (by decide)) ?_
      exact Tj.rf
  refine G_st e9 ?_
  exact G_ret rfl ⟨dX7_comesTo_55, _, rfl, nar_b (b_ite (Or.inl rfl) (Or.inr rfl))⟩ rfl
set_option maxRecDepth 100000 in
set_option maxHeartbeats 4000000 in
theorem g_X7_comesTo_22 (ids : List (Nat × Nat)) (Hn : Ndp ids)  (H0_29 : InR ids 0 29 56)  : ∀ (n : Nat) (v1 : Int32) (v2 : Int32) (v3 : Int32) (t0 : Sg), Gj kI mX7_comesTo ids 22 [some (aR (0, 29)), some (aI v1), some (aI v2), some (aI v3)] [] t0 (f_X7_comesTo_22 n v1 v2 v3 t0) := by
  intro n
  induction n with
  | zero => intro v1 v2 v3 t0; exact G_none
  | succ n ih =>
    intro v1 v2 v3 t0
    rw [f_X7_comesTo_22]
    refine G_st (x_iload_n dX7_comesTo_22 rfl) ?_
    refine G_ite (fun c7 => ?_) (fun c7 => ?_)
    · refine G_st (x_if_lt_t (tgt := 46) dX7_comesTo_23 (by decide) c7) ?_
      refine G_weak _ ?_ (g_X7_comesTo_46 ids Hn H0_29 v3 t0)
      exact (leL_n (leL_n (leL_n (leL_s (leL_e _)))))
    · refine G_st (x_if_lt_f 46 dX7_comesTo_23 (by decide) c7) ?_
      refine G_st (x_iload_n dX7_comesTo_26 rfl) ?_
      refine G_st (x_iload_n dX7_comesTo_27 rfl) ?_
      refine G_ite (fun c10 => ?_) (fun c10 => ?_)
      · refine G_st (x_icmp_eq_t (tgt := 46) dX7_comesTo_28 (by decide) c10) ?_
        refine G_weak _ ?_ (g_X7_comesTo_46 ids Hn H0_29 v3 t0)
        exact (leL_n (leL_n (leL_n (leL_s (leL_e _)))))
      · refine G_st (x_icmp_eq_f 46 dX7_comesTo_28 (by decide) c10) ?_
        refine G_st (x_aload_n dX7_comesTo_31 rfl) ?_
        refine G_st (x_aload_n dX7_comesTo_32 rfl) ?_
        refine G_st (x_get (k := 15) (aR (0, 40)) dX7_comesTo_33 (H0_29 29 (Nat.le_of_ble_eq_true rfl) (Nat.le_of_ble_eq_true rfl)) rfl rfl rfl rfl inTX7 (Nat.le_of_ble_eq_true rfl) tw_862 (fun ad => rfl)) ?_
        refine G_st (x_iload_n dX7_comesTo_36 rfl) ?_
        refine G_chk (fun c11 => ?_)
        refine G_st (x_iaload dX7_comesTo_37 (H0_29 40 (Nat.le_of_ble_eq_true rfl) (Nat.le_of_ble_eq_true rfl)) rfl c11) ?_
        refine G_st (x_iload_n dX7_comesTo_38 rfl) ?_
        refine G_bd (fun x12 t13 h14 => ?_)
        refine G_st (x_callV [] (c_X7_nextOf ids Hn (t0 (0, 40) (v1).toNatClampNeg) v3 H0_29 _ _ _ h14) dX7_comesTo_39 tw_1177 kc_X7_nextOf (H0_29 29 (Nat.le_of_ble_eq_true rfl) (Nat.le_of_ble_eq_true rfl)) rfl rfl rfl rfl ⟨Nat.le_of_ble_eq_true rfl, Nat.le_of_ble_eq_true rfl⟩ (Nat.le_of_ble_eq_true rfl) rfl) ?_
        refine G_st (x_istore_n [some (aR (0, 29)), some (aI v1), some (aI v2), some (aI x12)] dX7_comesTo_42 (Nat.le_of_ble_eq_true rfl) rfl rfl) ?_
        refine G_st (x_goto (tgt := 22) dX7_comesTo_43 (by decide)) ?_
        refine G_weak _ ?_ ((ih) v1 v2 x12 t13)
        exact (leL_s (leL_s (leL_s (leL_s (leL_e _)))))
set_option maxRecDepth 100000 in
set_option maxHeartbeats 4000000 in
theorem g_X7_comesTo (ids : List (Nat × Nat)) (Hn : Ndp ids) (v1 : Int32) (v2 : Int32) (H0_29 : InR ids 0 29 56) (t0 : Sg) : Gj kI mX7_comesTo ids 0 [some (aR (0, 29)), some (aI v1), some (aI v2), none] [] t0 (f_X7_comesTo v1 v2 t0) := by
  unfold f_X7_comesTo
  refine G_st (x_aload_n dX7_comesTo_0 rfl) ?_
  refine G_st (x_aload_n dX7_comesTo_1 rfl) ?_
  refine G_st (x_get (k := 15) (aR (0, 40)) dX7_comesTo_2 (H0_29 29 (Nat.le_of_ble_eq_true rfl) (Nat.le_of_ble_eq_true rfl)) rfl rfl rfl rfl inTX7 (Nat.le_of_ble_eq_true rfl) tw_862 (fun ad => rfl)) ?_
  refine G_st (x_iload_n dX7_comesTo_5 rfl) ?_
  refine G_chk (fun c1 => ?_)
  refine G_st (x_iaload dX7_comesTo_6 (H0_29 40 (Nat.le_of_ble_eq_true rfl) (Nat.le_of_ble_eq_true rfl)) rfl c1) ?_
  refine G_st (x_aload_n dX7_comesTo_7 rfl) ?_
  refine G_st (x_get (k := 10) (aR (0, 35)) dX7_comesTo_8 (H0_29 29 (Nat.le_of_ble_eq_true rfl) (Nat.le_of_ble_eq_true rfl)) rfl rfl rfl rfl inTX7 (Nat.le_of_ble_eq_true rfl) tw_857 (fun ad => rfl)) ?_
  refine G_st (x_aload_n dX7_comesTo_11 rfl) ?_
  refine G_st (x_get (k := 14) (aR (0, 39)) dX7_comesTo_12 (H0_29 29 (Nat.le_of_ble_eq_true rfl) (Nat.le_of_ble_eq_true rfl)) rfl rfl rfl rfl inTX7 (Nat.le_of_ble_eq_true rfl) tw_861 (fun ad => rfl)) ?_
  refine G_st (x_iload_n dX7_comesTo_15 rfl) ?_
  refine G_chk (fun c2 => ?_)
  refine G_st (x_iaload dX7_comesTo_16 (H0_29 39 (Nat.le_of_ble_eq_true rfl) (Nat.le_of_ble_eq_true rfl)) rfl c2) ?_
  refine G_chk (fun c3 => ?_)
  refine G_st (x_iaload dX7_comesTo_17 (H0_29 35 (Nat.le_of_ble_eq_true rfl) (Nat.le_of_ble_eq_true rfl)) rfl c3) ?_
  refine G_bd (fun x4 t5 h6 => ?_)
  refine G_st (x_callV [] (c_X7_nextOf ids Hn (t0 (0, 40) (v1).toNatClampNeg) (t0 (0, 35) ((t0 (0, 39) (v1).toNatClampNeg)).toNatClampNeg) H0_29 _ _ _ h6) dX7_comesTo_18 tw_1177 kc_X7_nextOf (H0_29 29 (Nat.le_of_ble_eq_true rfl) (Nat.le_of_ble_eq_true rfl)) rfl rfl rfl rfl ⟨Nat.le_of_ble_eq_true rfl, Nat.le_of_ble_eq_true rfl⟩ (Nat.le_of_ble_eq_true rfl) rfl) ?_
  refine G_st (x_istore_n [some (aR (0, 29)), some (aI v1), some (aI v2), some (aI x4)] dX7_comesTo_21 (Nat.le_of_ble_eq_true rfl) rfl rfl) ?_
  refine G_weak _ ?_ (g_X7_comesTo_22 ids Hn H0_29 fuel v1 v2 x4 t5)
  exact (leL_s (leL_s (leL_s (leL_s (leL_e _)))))
set_option maxRecDepth 100000 in
set_option maxHeartbeats 4000000 in
theorem c_X7_comesTo (ids : List (Nat × Nat)) (Hn : Ndp ids) (v1 : Int32) (v2 : Int32) (H0_29 : InR ids 0 29 56) (t0 : Sg) (r : Int32) (t1 : Sg) (hf : f_X7_comesTo v1 v2 t0 = some (r, t1)) : Mt0 mX7_comesTo yX7_comesTo ids [aR (0, 29), aI v1, aI v2] t0 (some (aI r)) t1 :=
  Mt_of (x := (r, t1)) (g_X7_comesTo ids Hn v1 v2 H0_29 t0) hf (fun _ _ => trivial) (by decide) rfl Hn (fun _ => rfl) (fun _ => Nat.le_of_ble_eq_true rfl)
theorem dX7_whom_0 : decode cX7_whom 0 = .ok (.aload_n 0, 1) := by decide +kernel
theorem dX7_whom_1 : decode cX7_whom 1 = .ok (.iconst 0, 1) := by decide +kernel
theorem dX7_whom_2 : decode cX7_whom 2 = .ok (.putfield 98, 3) := by decide +kernel
theorem dX7_whom_5 : decode cX7_whom 5 = .ok (.aload_n 0, 1) := by decide +kernel
theorem dX7_whom_6 : decode cX7_whom 6 = .ok (.iload_n 1, 1) := by decide +kernel
theorem dX7_whom_7 : decode cX7_whom 7 = .ok (.invokevirtual 213, 3) := by decide +kernel
theorem dX7_whom_10 : decode cX7_whom 10 = .ok (.istore_n 3, 1) := by decide +kernel
theorem dX7_whom_11 : decode cX7_whom 11 = .ok (.iload_n 3, 1) := by decide +kernel
theorem dX7_whom_12 : decode cX7_whom 12 = .ok (.ifCond .lt 10, 3) := by decide +kernel
theorem dX7_whom_15 : decode cX7_whom 15 = .ok (.iload_n 2, 1) := by decide +kernel
theorem dX7_whom_16 : decode cX7_whom 16 = .ok (.invokestatic 273, 3) := by decide +kernel
theorem dX7_whom_19 : decode cX7_whom 19 = .ok (.ifCond .ne 18, 3) := by decide +kernel
theorem dX7_whom_22 : decode cX7_whom 22 = .ok (.aload_n 0, 1) := by decide +kernel
theorem dX7_whom_23 : decode cX7_whom 23 = .ok (.iload_n 3, 1) := by decide +kernel
theorem dX7_whom_24 : decode cX7_whom 24 = .ok (.ifCond .ge 7, 3) := by decide +kernel
theorem dX7_whom_27 : decode cX7_whom 27 = .ok (.iconst (-1), 1) := by decide +kernel
theorem dX7_whom_28 : decode cX7_whom 28 = .ok (.goto 5, 3) := by decide +kernel
theorem dX7_whom_31 : decode cX7_whom 31 = .ok (.bipush (-2), 2) := by decide +kernel
theorem dX7_whom_33 : decode cX7_whom 33 = .ok (.invokevirtual 167, 3) := by decide +kernel
theorem dX7_whom_36 : decode cX7_whom 36 = .ok (.ireturn, 1) := by decide +kernel
theorem dX7_whom_37 : decode cX7_whom 37 = .ok (.iconst 0, 1) := by decide +kernel
theorem dX7_whom_38 : decode cX7_whom 38 = .ok (.istore 4, 2) := by decide +kernel
theorem dX7_whom_40 : decode cX7_whom 40 = .ok (.iconst 0, 1) := by decide +kernel
theorem dX7_whom_41 : decode cX7_whom 41 = .ok (.istore 5, 2) := by decide +kernel
theorem dX7_whom_43 : decode cX7_whom 43 = .ok (.iload 5, 2) := by decide +kernel
theorem dX7_whom_45 : decode cX7_whom 45 = .ok (.aload_n 0, 1) := by decide +kernel
theorem dX7_whom_46 : decode cX7_whom 46 = .ok (.getfield 104, 3) := by decide +kernel
theorem dX7_whom_49 : decode cX7_whom 49 = .ok (.if_icmp .ge 43, 3) := by decide +kernel
theorem dX7_whom_52 : decode cX7_whom 52 = .ok (.iload 4, 2) := by decide +kernel
theorem dX7_whom_54 : decode cX7_whom 54 = .ok (.aload_n 0, 1) := by decide +kernel
theorem dX7_whom_55 : decode cX7_whom 55 = .ok (.getfield 53, 3) := by decide +kernel
theorem dX7_whom_58 : decode cX7_whom 58 = .ok (.iload 5, 2) := by decide +kernel
theorem dX7_whom_60 : decode cX7_whom 60 = .ok (.iaload, 1) := by decide +kernel
theorem dX7_whom_61 : decode cX7_whom 61 = .ok (.iload_n 2, 1) := by decide +kernel
theorem dX7_whom_62 : decode cX7_whom 62 = .ok (.if_icmp .ne 20, 3) := by decide +kernel
theorem dX7_whom_65 : decode cX7_whom 65 = .ok (.aload_n 0, 1) := by decide +kernel
theorem dX7_whom_66 : decode cX7_whom 66 = .ok (.iload 5, 2) := by decide +kernel
theorem dX7_whom_68 : decode cX7_whom 68 = .ok (.iload_n 3, 1) := by decide +kernel
theorem dX7_whom_69 : decode cX7_whom 69 = .ok (.invokevirtual 288, 3) := by decide +kernel
theorem dX7_whom_72 : decode cX7_whom 72 = .ok (.ifCond .eq 10, 3) := by decide +kernel
theorem dX7_whom_75 : decode cX7_whom 75 = .ok (.iconst 1, 1) := by decide +kernel
theorem dX7_whom_76 : decode cX7_whom 76 = .ok (.iload 5, 2) := by decide +kernel
theorem dX7_whom_78 : decode cX7_whom 78 = .ok (.ishl, 1) := by decide +kernel
theorem dX7_whom_79 : decode cX7_whom 79 = .ok (.goto 4, 3) := by decide +kernel
theorem dX7_whom_82 : decode cX7_whom 82 = .ok (.iconst 0, 1) := by decide +kernel
theorem dX7_whom_83 : decode cX7_whom 83 = .ok (.ior, 1) := by decide +kernel
theorem dX7_whom_84 : decode cX7_whom 84 = .ok (.istore 4, 2) := by decide +kernel
theorem dX7_whom_86 : decode cX7_whom 86 = .ok (.iinc 5 1, 3) := by decide +kernel
theorem dX7_whom_89 : decode cX7_whom 89 = .ok (.goto (-46), 3) := by decide +kernel
theorem dX7_whom_92 : decode cX7_whom 92 = .ok (.iload 4, 2) := by decide +kernel
theorem dX7_whom_94 : decode cX7_whom 94 = .ok (.ireturn, 1) := by decide +kernel
set_option maxRecDepth 100000 in
set_option maxHeartbeats 4000000 in
theorem g_X7_whom_22 (ids : List (Nat × Nat)) (Hn : Ndp ids)  (H0_29 : InR ids 0 29 56)  (v3 : Int32) (t0 : Sg) : Gj kI mX7_whom ids 22 [some (aR (0, 29)), none, none, some (aI v3), none, none] [] t0 (f_X7_whom_22 v3 t0) := by
  unfold f_X7_whom_22
  refine G_st (x_aload_n dX7_whom_22 rfl) ?_
  refine G_st (x_iload_n dX7_whom_23 rfl) ?_
  have e7 : Tj mX7_whom ids 24 [some (aR (0, 29)), none, none, some (aI v3), none, none] [aI v3, aR (0, 29)] t0 33 [some (aR (0, 29)), none, none, some (aI v3), none, none] [aI (if 0 ≤ v3 then (-2 : Int32) else (-1 : Int32)), aR (0, 29)] t0 := by
    refine Tj.dia (fun c6 => ?_) (fun c6 => ?_)
    · refine Tj.tr (x_if_ge_t (tgt := 31) dX7_whom_24 (by decide) c6) ?_
      refine Tj.tr (x_bipush (-2 : Int32) dX7_whom_31 rfl) ?_
      exact Tj.rf
    · refine Tj.tr (x_if_ge_f 31 dX7_whom_24 (by decide) c6) ?_
      refine Tj.tr (x_iconst (-1 : Int32) dX7_whom_27 rfl) ?_
      refine Tj.tr (x_goto (tgt := 33) dX7_whom_28 (by decide)) ?_
      exact Tj.rf
  refine G_st e7 ?_
  refine G_bd (fun x8 t9 h10 => ?_)
  refine G_st (x_callV [] (c_X7_refuse ids Hn (if 0 ≤ v3 then (-2 : Int32) else (-1 : Int32)) H0_29 _ _ _ h10) dX7_whom_33 tw_981 kc_X7_refuse (H0_29 29 (Nat.le_of_ble_eq_true rfl) (Nat.le_of_ble_eq_true rfl)) rfl rfl rfl rfl ⟨Nat.le_of_ble_eq_true rfl, Nat.le_of_ble_eq_true rfl⟩ (Nat.le_of_ble_eq_true rfl) rfl) ?_
  exact G_ret rfl ⟨dX7_whom_36, _, rfl, rfl⟩ rfl
set_option maxRecDepth 100000 in
set_option maxHeartbeats 4000000 in
theorem g_X7_whom_83 (ids : List (Nat × Nat)) (Hn : Ndp ids)  (H0_29 : InR ids 0 29 56) (k43 : Int32 → Int32 → Int32 → Int32 → Sg → Option (Int32 × Sg)) (hk43 : ∀ (v2 : Int32) (v3 : Int32) (v4 : Int32) (v5 : Int32) (t0 : Sg), Gj kI mX7_whom ids 43 [some (aR (0, 29)), none, some (aI v2), some (aI v3), some (aI v4), some (aI v5)] [] t0 (k43 v2 v3 v4 v5 t0)) (v2 : Int32) (v3 : Int32) (v5 : Int32) (w0 : Int32) (w1 : Int32) (t0 : Sg) : Gj kI mX7_whom ids 83 [some (aR (0, 29)), none, some (aI v2), some (aI v3), none, some (aI v5)] [aI w0, aI w1] t0 (f_X7_whom_83 k43 v2 v3 v5 w0 w1 t0) := by
  unfold f_X7_whom_83
  refine G_st (x_ior dX7_whom_83) ?_
  refine G_bvI (fun x22 => ?_)
  refine G_st (x_istore [some (aR (0, 29)), none, some (aI v2), some (aI v3), some (aI x22), some (aI v5)] dX7_whom_84 (Nat.le_of_ble_eq_true rfl) rfl rfl) ?_
  refine G_st (x_iinc (v5 + (1 : Int32)) [some (aR (0, 29)), none, some (aI v2), some (aI v3), some (aI x22), some (aI (v5 + (1 : Int32)))] dX7_whom_86 (Nat.le_of_ble_eq_true rfl) rfl rfl rfl rfl) ?_
  refine G_st (x_goto (tgt := 43) dX7_whom_89 (by decide)) ?_
  refine G_weak _ ?_ (hk43 v2 v3 x22 (v5 + (1 : Int32)) t0)
  exact (leL_s (leL_n (leL_s (leL_s (leL_s (leL_s (leL_e _)))))))
set_option maxRecDepth 100000 in
set_option maxHeartbeats 4000000 in
theorem g_X7_whom_82 (ids : List (Nat × Nat)) (Hn : Ndp ids)  (H0_29 : InR ids 0 29 56) (k43 : Int32 → Int32 → Int32 → Int32 → Sg → Option (Int32 × Sg)) (hk43 : ∀ (v2 : Int32) (v3 : Int32) (v4 : Int32) (v5 : Int32) (t0 : Sg), Gj kI mX7_whom ids 43 [some (aR (0, 29)), none, some (aI v2), some (aI v3), some (aI v4), some (aI v5)] [] t0 (k43 v2 v3 v4 v5 t0)) (v2 : Int32) (v3 : Int32) (v5 : Int32) (w0 : Int32) (t0 : Sg) : Gj kI mX7_whom ids 82 [some (aR (0, 29)), none, some (aI v2), some (aI v3), none, some (aI v5)] [aI w0] t0 (f_X7_whom_82 k43 v2 v3 v5 w0 t0) := by
  unfold f_X7_whom_82
  refine G_st (x_iconst (0 : Int32) dX7_whom_82 rfl) ?_
  refine G_weak _ ?_ (g_X7_whom_83 ids Hn H0_29 k43 hk43 v2 v3 v5 (0 : Int32) w0 t0)
  exact (leL_s (leL_n (leL_s (leL_s (leL_n (leL_s (leL_e _)))))))
set_option maxRecDepth 100000 in
set_option maxHeartbeats 4000000 in
theorem g_X7_whom_43 (ids : List (Nat × Nat)) (Hn : Ndp ids)  (H0_29 : InR ids 0 29 56)  : ∀ (n : Nat) (v2 : Int32) (v3 : Int32) (v4 : Int32) (v5 : Int32) (t0 : Sg), Gj kI mX7_whom ids 43 [some (aR (0, 29)), none, some (aI v2), some (aI v3), some (aI v4), some (aI v5)] [] t0 (f_X7_whom_43 n v2 v3 v4 v5 t0) := by
  intro n
  induction n with
  | zero => intro v2 v3 v4 v5 t0; exact G_none
  | succ n ih =>
    intro v2 v3 v4 v5 t0
    rw [f_X7_whom_43]
    refine G_st (x_iload dX7_whom_43 rfl) ?_
    refine G_st (x_aload_n dX7_whom_45 rfl) ?_
    refine G_st (x_get (k := 4) (aI (t0 (0, 29) 4)) dX7_whom_46 (H0_29 29 (Nat.le_of_ble_eq_true rfl) (Nat.le_of_ble_eq_true rfl)) rfl rfl rfl rfl inTX7 (Nat.le_of_ble_eq_true rfl) tw_851 (fun ad => rfl)) ?_
    refine G_ite (fun c15 => ?_) (fun c15 => ?_)
    · refine G_st (x_icmp_ge_t (tgt := 92) dX7_whom_49 (by decide) c15) ?_
      refine G_st (x_iload dX7_whom_92 rfl) ?_
      exact G_ret rfl ⟨dX7_whom_94, _, rfl, rfl⟩ rfl
    · refine G_st (x_icmp_ge_f 92 dX7_whom_49 (by decide) c15) ?_
      refine G_st (x_iload dX7_whom_52 rfl) ?_
      refine G_st (x_aload_n dX7_whom_54 rfl) ?_
      refine G_st (x_get (k := 17) (aR (0, 42)) dX7_whom_55 (H0_29 29 (Nat.le_of_ble_eq_true rfl) (Nat.le_of_ble_eq_true rfl)) rfl rfl rfl rfl inTX7 (Nat.le_of_ble_eq_true rfl) tw_864 (fun ad => rfl)) ?_
      refine G_st (x_iload dX7_whom_58 rfl) ?_
      refine G_chk (fun c16 => ?_)
      refine G_st (x_iaload dX7_whom_60 (H0_29 42 (Nat.le_of_ble_eq_true rfl) (Nat.le_of_ble_eq_true rfl)) rfl c16) ?_
      refine G_st (x_iload_n dX7_whom_61 rfl) ?_
      refine G_ite (fun c17 => ?_) (fun c17 => ?_)
      · refine G_st (x_icmp_ne_f 82 dX7_whom_62 (by decide) c17) ?_
        refine G_st (x_aload_n dX7_whom_65 rfl) ?_
        refine G_st (x_iload dX7_whom_66 rfl) ?_
        refine G_st (x_iload_n dX7_whom_68 rfl) ?_
        refine G_bd (fun x18 t19 h20 => ?_)
        refine G_st (x_callV [aI v4] (c_X7_comesTo ids Hn v5 v3 H0_29 _ _ _ h20) dX7_whom_69 tw_1214 kc_X7_comesTo (H0_29 29 (Nat.le_of_ble_eq_true rfl) (Nat.le_of_ble_eq_true rfl)) rfl rfl rfl rfl ⟨Nat.le_of_ble_eq_true rfl, Nat.le_of_ble_eq_true rfl⟩ (Nat.le_of_ble_eq_true rfl) rfl) ?_
        refine G_ite (fun c21 => ?_) (fun c21 => ?_)
        · refine G_st (x_if_eq_t (tgt := 82) dX7_whom_72 (by decide) c21) ?_
          refine G_weak _ ?_ (g_X7_whom_82 ids Hn H0_29 (f_X7_whom_43 n) (ih) v2 v3 v5 v4 t19)
          exact (leL_s (leL_n (leL_s (leL_s (leL_n (leL_s (leL_e _)))))))
        · refine G_st (x_if_eq_f 82 dX7_whom_72 (by decide) c21) ?_
          refine G_st (x_iconst (1 : Int32) dX7_whom_75 rfl) ?_
          refine G_st (x_iload dX7_whom_76 rfl) ?_
          refine G_st (x_ishl dX7_whom_78) ?_
          refine G_st (x_goto (tgt := 83) dX7_whom_79 (by decide)) ?_
          refine G_weak _ ?_ (g_X7_whom_83 ids Hn H0_29 (f_X7_whom_43 n) (ih) v2 v3 v5 ((1 : Int32) <<< (v5 &&& 31)) v4 t19)
          exact (leL_s (leL_n (leL_s (leL_s (leL_n (leL_s (leL_e _)))))))
      · refine G_st (x_icmp_ne_t (tgt := 82) dX7_whom_62 (by decide) c17) ?_
        refine G_weak _ ?_ (g_X7_whom_82 ids Hn H0_29 (f_X7_whom_43 n) (ih) v2 v3 v5 v4 t0)
        exact (leL_s (leL_n (leL_s (leL_s (leL_n (leL_s (leL_e _)))))))
set_option maxRecDepth 100000 in
set_option maxHeartbeats 4000000 in
theorem g_X7_whom (ids : List (Nat × Nat)) (Hn : Ndp ids) (v1 : Int32) (v2 : Int32) (H0_29 : InR ids 0 29 56) (t0 : Sg) : Gj kI mX7_whom ids 0 [some (aR (0, 29)), some (aI v1), some (aI v2), none, none, none] [] t0 (f_X7_whom v1 v2 t0) := by
  unfold f_X7_whom
  refine G_st (x_aload_n dX7_whom_0 rfl) ?_
  refine G_st (x_iconst (0 : Int32) dX7_whom_1 rfl) ?_
  refine G_st (x_put (k := 18) (ty := .int) (v := aI (0 : Int32)) (z := (0 : Int32)) (upS t0 (0, 29) 18 (0 : Int32)) dX7_whom_2 (H0_29 29 (Nat.le_of_ble_eq_true rfl) (Nat.le_of_ble_eq_true rfl)) rfl rfl rfl rfl inTX7 tyX7_ok nmX7 (Nat.le_of_ble_eq_true rfl) tw_865 rfl rfl (fun ad => rfl) (fun ad => rfl) (fun ad => put_i0 ad _ _ _ _ rfl) rfl) ?_
  refine G_bvS (fun t1 => ?_)
  refine G_st (x_aload_n dX7_whom_5 rfl) ?_
  refine G_st (x_iload_n dX7_whom_6 rfl) ?_
  refine G_bd (fun x2 t3 h4 => ?_)
  refine G_st (x_callV [] (c_X7_flatAt ids Hn v1 H0_29 _ _ _ h4) dX7_whom_7 tw_1054 kc_X7_flatAt (H0_29 29 (Nat.le_of_ble_eq_true rfl) (Nat.le_of_ble_eq_true rfl)) rfl rfl rfl rfl ⟨Nat.le_of_ble_eq_true rfl, Nat.le_of_ble_eq_true rfl⟩ (Nat.le_of_ble_eq_true rfl) rfl) ?_
  refine G_st (x_istore_n [some (aR (0, 29)), some (aI v1), some (aI v2), some (aI x2), none, none] dX7_whom_10 (Nat.le_of_ble_eq_true rfl) rfl rfl) ?_
  refine G_st (x_iload_n dX7_whom_11 rfl) ?_
  refine G_ite (fun c5 => ?_) (fun c5 => ?_)
  · refine G_st (x_if_lt_t (tgt := 22) dX7_whom_12 (by decide) c5) ?_
    refine G_weak _ ?_ (g_X7_whom_22 ids Hn H0_29 x2 t3)
    exact (leL_s (leL_n (leL_n (leL_s (leL_n (leL_n (leL_e _)))))))
  · refine G_st (x_if_lt_f 22 dX7_whom_12 (by decide) c5) ?_
    refine G_st (x_iload_n dX7_whom_15 rfl) ?_
    refine G_bd (fun x11 t12 h13 => ?_)
    refine G_st (x_callS [] (c_X7_isTime ids Hn v2  _ _ _ h13) dX7_whom_16 tw_1118 kc_X7_isTime rfl ⟨Nat.le_of_ble_eq_true rfl, Nat.le_of_ble_eq_true rfl⟩ (Nat.le_of_ble_eq_true rfl) rfl) ?_
    refine G_ite (fun c14 => ?_) (fun c14 => ?_)
    · refine G_st (x_if_ne_f 37 dX7_whom_19 (by decide) c14) ?_
      refine G_weak _ ?_ (g_X7_whom_22 ids Hn H0_29 x2 t12)
      exact (leL_s (leL_n (leL_n (leL_s (leL_n (leL_n (leL_e _)))))))
    · refine G_st (x_if_ne_t (tgt := 37) dX7_whom_19 (by decide) c14) ?_
      refine G_st (x_iconst (0 : Int32) dX7_whom_37 rfl) ?_
      refine G_st (x_istore [some (aR (0, 29)), some (aI v1), some (aI v2), some (aI x2), some (aI (0 : Int32)), none] dX7_whom_38 (Nat.le_of_ble_eq_true rfl) rfl rfl) ?_
      refine G_st (x_iconst (0 : Int32) dX7_whom_40 rfl) ?_
      refine G_st (x_istore [some (aR (0, 29)), some (aI v1), some (aI v2), some (aI x2), some (aI (0 : Int32)), some (aI (0 : Int32))] dX7_whom_41 (Nat.le_of_ble_eq_true rfl) rfl rfl) ?_
      refine G_weak _ ?_ (g_X7_whom_43 ids Hn H0_29 fuel v2 x2 (0 : Int32) (0 : Int32) t12)
      exact (leL_s (leL_n (leL_s (leL_s (leL_s (leL_s (leL_e _)))))))
set_option maxRecDepth 100000 in
set_option maxHeartbeats 4000000 in
theorem c_X7_whom (ids : List (Nat × Nat)) (Hn : Ndp ids) (v1 : Int32) (v2 : Int32) (H0_29 : InR ids 0 29 56) (t0 : Sg) (r : Int32) (t1 : Sg) (hf : f_X7_whom v1 v2 t0 = some (r, t1)) : Mt0 mX7_whom yX7_whom ids [aR (0, 29), aI v1, aI v2] t0 (some (aI r)) t1 :=
  Mt_of (x := (r, t1)) (g_X7_whom ids Hn v1 v2 H0_29 t0) hf (fun _ _ => trivial) (by decide) rfl Hn (fun _ => rfl) (fun _ => Nat.le_of_ble_eq_true rfl)
theorem dX7_does_0 : decode cX7_does 0 = .ok (.aload_n 0, 1) := by decide +kernel
theorem dX7_does_1 : decode cX7_does 1 = .ok (.iconst 0, 1) := by decide +kernel
theorem dX7_does_2 : decode cX7_does 2 = .ok (.putfield 98, 3) := by decide +kernel
theorem dX7_does_5 : decode cX7_does 5 = .ok (.aload_n 0, 1) := by decide +kernel
theorem dX7_does_6 : decode cX7_does 6 = .ok (.iload_n 1, 1) := by decide +kernel
theorem dX7_does_7 : decode cX7_does 7 = .ok (.invokevirtual 266, 3) := by decide +kernel
theorem dX7_does_10 : decode cX7_does 10 = .ok (.ifCond .eq 11, 3) := by decide +kernel
theorem dX7_does_13 : decode cX7_does 13 = .ok (.aload_n 0, 1) := by decide +kernel
theorem dX7_does_14 : decode cX7_does 14 = .ok (.iload_n 2, 1) := by decide +kernel
theorem dX7_does_15 : decode cX7_does 15 = .ok (.invokevirtual 115, 3) := by decide +kernel
theorem dX7_does_18 : decode cX7_does 18 = .ok (.ifCond .ne 9, 3) := by decide +kernel
theorem dX7_does_21 : decode cX7_does 21 = .ok (.aload_n 0, 1) := by decide +kernel
theorem dX7_does_22 : decode cX7_does 22 = .ok (.iconst (-1), 1) := by decide +kernel
theorem dX7_does_23 : decode cX7_does 23 = .ok (.invokevirtual 167, 3) := by decide +kernel
theorem dX7_does_26 : decode cX7_does 26 = .ok (.ireturn, 1) := by decide +kernel
theorem dX7_does_27 : decode cX7_does 27 = .ok (.aload_n 0, 1) := by decide +kernel
theorem dX7_does_28 : decode cX7_does 28 = .ok (.iload_n 1, 1) := by decide +kernel
theorem dX7_does_29 : decode cX7_does 29 = .ok (.invokevirtual 285, 3) := by decide +kernel
theorem dX7_does_32 : decode cX7_does 32 = .ok (.aload_n 0, 1) := by decide +kernel
theorem dX7_does_33 : decode cX7_does 33 = .ok (.getfield 62, 3) := by decide +kernel
theorem dX7_does_36 : decode cX7_does 36 = .ok (.iload_n 2, 1) := by decide +kernel
theorem dX7_does_37 : decode cX7_does 37 = .ok (.iaload, 1) := by decide +kernel
theorem dX7_does_38 : decode cX7_does 38 = .ok (.ireturn, 1) := by decide +kernel
set_option maxRecDepth 100000 in
set_option maxHeartbeats 4000000 in
theorem g_X7_does_21 (ids : List (Nat × Nat)) (Hn : Ndp ids)  (H0_29 : InR ids 0 29 56)   (t0 : Sg) : Gj kI mX7_does ids 21 [some (aR (0, 29)), none, none] [] t0 (f_X7_does_21 t0) := by
  unfold f_X7_does_21
  refine G_st (x_aload_n dX7_does_21 rfl) ?_
  refine G_st (x_iconst (-1 : Int32) dX7_does_22 rfl) ?_
  refine G_bd (fun x6 t7 h8 => ?_)
  refine G_st (x_callV [] (c_X7_refuse ids Hn (-1 : Int32) H0_29 _ _ _ h8) dX7_does_23 tw_981 kc_X7_refuse (H0_29 29 (Nat.le_of_ble_eq_true rfl) (Nat.le_of_ble_eq_true rfl)) rfl rfl rfl rfl ⟨Nat.le_of_ble_eq_true rfl, Nat.le_of_ble_eq_true rfl⟩ (Nat.le_of_ble_eq_true rfl) rfl) ?_
  exact G_ret rfl ⟨dX7_does_26, _, rfl, rfl⟩ rfl
set_option maxRecDepth 100000 in
set_option maxHeartbeats 4000000 in
theorem g_X7_does (ids : List (Nat × Nat)) (Hn : Ndp ids) (v1 : Int32) (v2 : Int32) (H0_29 : InR ids 0 29 56) (t0 : Sg) : Gj kI mX7_does ids 0 [some (aR (0, 29)), some (aI v1), some (aI v2)] [] t0 (f_X7_does v1 v2 t0) := by
  unfold f_X7_does
  refine G_st (x_aload_n dX7_does_0 rfl) ?_
  refine G_st (x_iconst (0 : Int32) dX7_does_1 rfl) ?_
  refine G_st (x_put (k := 18) (ty := .int) (v := aI (0 : Int32)) (z := (0 : Int32)) (upS t0 (0, 29) 18 (0 : Int32)) dX7_does_2 (H0_29 29 (Nat.le_of_ble_eq_true rfl) (Nat.le_of_ble_eq_true rfl)) rfl rfl rfl rfl inTX7 tyX7_ok nmX7 (Nat.le_of_ble_eq_true rfl) tw_865 rfl rfl (fun ad => rfl) (fun ad => rfl) (fun ad => put_i0 ad _ _ _ _ rfl) rfl) ?_
  refine G_bvS (fun t1 => ?_)
  refine G_st (x_aload_n dX7_does_5 rfl) ?_
  refine G_st (x_iload_n dX7_does_6 rfl) ?_
  refine G_bd (fun x2 t3 h4 => ?_)
  refine G_st (x_callV [] (c_X7_isHabit ids Hn v1 H0_29 _ _ _ h4) dX7_does_7 tw_1109 kc_X7_isHabit (H0_29 29 (Nat.le_of_ble_eq_true rfl) (Nat.le_of_ble_eq_true rfl)) rfl rfl rfl rfl ⟨Nat.le_of_ble_eq_true rfl, Nat.le_of_ble_eq_true rfl⟩ (Nat.le_of_ble_eq_true rfl) rfl) ?_
  refine G_ite (fun c5 => ?_) (fun c5 => ?_)
  · refine G_st (x_if_eq_t (tgt := 21) dX7_does_10 (by decide) c5) ?_
    refine G_weak _ ?_ (g_X7_does_21 ids Hn H0_29 t3)
    exact (leL_s (leL_n (leL_n (leL_e _))))
  · refine G_st (x_if_eq_f 21 dX7_does_10 (by decide) c5) ?_
    refine G_st (x_aload_n dX7_does_13 rfl) ?_
    refine G_st (x_iload_n dX7_does_14 rfl) ?_
    refine G_bd (fun x9 t10 h11 => ?_)
    refine G_st (x_callV [] (c_X7_isTenant ids Hn v2 H0_29 _ _ _ h11) dX7_does_15 tw_1086 kc_X7_isTenant (H0_29 29 (Nat.le_of_ble_eq_true rfl) (Nat.le_of_ble_eq_true rfl)) rfl rfl rfl rfl ⟨Nat.le_of_ble_eq_true rfl, Nat.le_of_ble_eq_true rfl⟩ (Nat.le_of_ble_eq_true rfl) rfl) ?_
    refine G_ite (fun c12 => ?_) (fun c12 => ?_)
    · refine G_st (x_if_ne_f 27 dX7_does_18 (by decide) c12) ?_
      refine G_weak _ ?_ (g_X7_does_21 ids Hn H0_29 t10)
      exact (leL_s (leL_n (leL_n (leL_e _))))
    · refine G_st (x_if_ne_t (tgt := 27) dX7_does_18 (by decide) c12) ?_
      refine G_st (x_aload_n dX7_does_27 rfl) ?_
      refine G_st (x_iload_n dX7_does_28 rfl) ?_
      refine G_bd (fun _ t14 h15 => ?_)
      refine G_st (x_callV [] (c_X7_fallAlone ids Hn v1 H0_29 _ _ _ h15) dX7_does_29 tw_1202 kc_X7_fallAlone (H0_29 29 (Nat.le_of_ble_eq_true rfl) (Nat.le_of_ble_eq_true rfl)) rfl rfl rfl rfl ⟨Nat.le_of_ble_eq_true rfl, Nat.le_of_ble_eq_true rfl⟩ (Nat.le_of_ble_eq_true rfl) rfl) ?_
      refine G_st (x_aload_n dX7_does_32 rfl) ?_
      refine G_st (x_get (k := 21) (aR (0, 45)) dX7_does_33 (H0_29 29 (Nat.le_of_ble_eq_true rfl) (Nat.le_of_ble_eq_true rfl)) rfl rfl rfl rfl inTX7 (Nat.le_of_ble_eq_true rfl) tw_868 (fun ad => rfl)) ?_
      refine G_st (x_iload_n dX7_does_36 rfl) ?_
      refine G_chk (fun c16 => ?_)
      refine G_st (x_iaload dX7_does_37 (H0_29 45 (Nat.le_of_ble_eq_true rfl) (Nat.le_of_ble_eq_true rfl)) rfl c16) ?_
      exact G_ret rfl ⟨dX7_does_38, _, rfl, rfl⟩ rfl
set_option maxRecDepth 100000 in
set_option maxHeartbeats 4000000 in
theorem c_X7_does (ids : List (Nat × Nat)) (Hn : Ndp ids) (v1 : Int32) (v2 : Int32) (H0_29 : InR ids 0 29 56) (t0 : Sg) (r : Int32) (t1 : Sg) (hf : f_X7_does v1 v2 t0 = some (r, t1)) : Mt0 mX7_does yX7_does ids [aR (0, 29), aI v1, aI v2] t0 (some (aI r)) t1 :=
  Mt_of (x := (r, t1)) (g_X7_does ids Hn v1 v2 H0_29 t0) hf (fun _ _ => trivial) (by decide) rfl Hn (fun _ => rfl) (fun _ => Nat.le_of_ble_eq_true rfl)
theorem dX7_harmed_0 : decode cX7_harmed 0 = .ok (.aload_n 0, 1) := by decide +kernel
theorem dX7_harmed_1 : decode cX7_harmed 1 = .ok (.iconst 0, 1) := by decide +kernel
theorem dX7_harmed_2 : decode cX7_harmed 2 = .ok (.putfield 98, 3) := by decide +kernel
theorem dX7_harmed_5 : decode cX7_harmed 5 = .ok (.iload_n 1, 1) := by decide +kernel
theorem dX7_harmed_6 : decode cX7_harmed 6 = .ok (.iconst (-1), 1) := by decide +kernel
theorem dX7_harmed_7 : decode cX7_harmed 7 = .ok (.if_icmp .eq 11, 3) := by decide +kernel
theorem dX7_harmed_10 : decode cX7_harmed 10 = .ok (.aload_n 0, 1) := by decide +kernel
theorem dX7_harmed_11 : decode cX7_harmed 11 = .ok (.iload_n 1, 1) := by decide +kernel
theorem dX7_harmed_12 : decode cX7_harmed 12 = .ok (.invokevirtual 115, 3) := by decide +kernel
theorem dX7_harmed_15 : decode cX7_harmed 15 = .ok (.ifCond .eq 13, 3) := by decide +kernel
theorem dX7_harmed_18 : decode cX7_harmed 18 = .ok (.iload_n 2, 1) := by decide +kernel
theorem dX7_harmed_19 : decode cX7_harmed 19 = .ok (.iconst 1, 1) := by decide +kernel
theorem dX7_harmed_20 : decode cX7_harmed 20 = .ok (.bipush 20, 2) := by decide +kernel
theorem dX7_harmed_22 : decode cX7_harmed 22 = .ok (.invokestatic 276, 3) := by decide +kernel
theorem dX7_harmed_25 : decode cX7_harmed 25 = .ok (.goto 4, 3) := by decide +kernel
theorem dX7_harmed_28 : decode cX7_harmed 28 = .ok (.iconst (-1), 1) := by decide +kernel
theorem dX7_harmed_29 : decode cX7_harmed 29 = .ok (.istore_n 3, 1) := by decide +kernel
theorem dX7_harmed_30 : decode cX7_harmed 30 = .ok (.iload_n 3, 1) := by decide +kernel
theorem dX7_harmed_31 : decode cX7_harmed 31 = .ok (.ifCond .ge 9, 3) := by decide +kernel
theorem dX7_harmed_34 : decode cX7_harmed 34 = .ok (.aload_n 0, 1) := by decide +kernel
theorem dX7_harmed_35 : decode cX7_harmed 35 = .ok (.iload_n 3, 1) := by decide +kernel
theorem dX7_harmed_36 : decode cX7_harmed 36 = .ok (.invokevirtual 167, 3) := by decide +kernel
theorem dX7_harmed_39 : decode cX7_harmed 39 = .ok (.ireturn, 1) := by decide +kernel
theorem dX7_harmed_40 : decode cX7_harmed 40 = .ok (.aload_n 0, 1) := by decide +kernel
theorem dX7_harmed_41 : decode cX7_harmed 41 = .ok (.invokevirtual 154, 3) := by decide +kernel
theorem dX7_harmed_44 : decode cX7_harmed 44 = .ok (.iconst 0, 1) := by decide +kernel
theorem dX7_harmed_45 : decode cX7_harmed 45 = .ok (.istore 4, 2) := by decide +kernel
theorem dX7_harmed_47 : decode cX7_harmed 47 = .ok (.iconst 0, 1) := by decide +kernel
theorem dX7_harmed_48 : decode cX7_harmed 48 = .ok (.istore 5, 2) := by decide +kernel
theorem dX7_harmed_50 : decode cX7_harmed 50 = .ok (.iload 5, 2) := by decide +kernel
theorem dX7_harmed_52 : decode cX7_harmed 52 = .ok (.iload_n 2, 1) := by decide +kernel
theorem dX7_harmed_53 : decode cX7_harmed 53 = .ok (.if_icmp .ge 35, 3) := by decide +kernel
theorem dX7_harmed_56 : decode cX7_harmed 56 = .ok (.aload_n 0, 1) := by decide +kernel
theorem dX7_harmed_57 : decode cX7_harmed 57 = .ok (.invokevirtual 157, 3) := by decide +kernel
theorem dX7_harmed_60 : decode cX7_harmed 60 = .ok (.istore 6, 2) := by decide +kernel
theorem dX7_harmed_62 : decode cX7_harmed 62 = .ok (.iload 4, 2) := by decide +kernel
theorem dX7_harmed_64 : decode cX7_harmed 64 = .ok (.iload_n 1, 1) := by decide +kernel
theorem dX7_harmed_65 : decode cX7_harmed 65 = .ok (.ifCond .ge 8, 3) := by decide +kernel
theorem dX7_harmed_68 : decode cX7_harmed 68 = .ok (.iload 6, 2) := by decide +kernel
theorem dX7_harmed_70 : decode cX7_harmed 70 = .ok (.goto 9, 3) := by decide +kernel
theorem dX7_harmed_73 : decode cX7_harmed 73 = .ok (.aload_n 0, 1) := by decide +kernel
theorem dX7_harmed_74 : decode cX7_harmed 74 = .ok (.getfield 62, 3) := by decide +kernel
theorem dX7_harmed_77 : decode cX7_harmed 77 = .ok (.iload_n 1, 1) := by decide +kernel
theorem dX7_harmed_78 : decode cX7_harmed 78 = .ok (.iaload, 1) := by decide +kernel
theorem dX7_harmed_79 : decode cX7_harmed 79 = .ok (.iadd, 1) := by decide +kernel
theorem dX7_harmed_80 : decode cX7_harmed 80 = .ok (.istore 4, 2) := by decide +kernel
theorem dX7_harmed_82 : decode cX7_harmed 82 = .ok (.iinc 5 1, 3) := by decide +kernel
theorem dX7_harmed_85 : decode cX7_harmed 85 = .ok (.goto (-35), 3) := by decide +kernel
theorem dX7_harmed_88 : decode cX7_harmed 88 = .ok (.iload 4, 2) := by decide +kernel
theorem dX7_harmed_90 : decode cX7_harmed 90 = .ok (.ireturn, 1) := by decide +kernel
set_option maxRecDepth 100000 in
set_option maxHeartbeats 4000000 in
theorem g_X7_harmed_79 (ids : List (Nat × Nat)) (Hn : Ndp ids)  (H0_29 : InR ids 0 29 56) (k50 : Int32 → Int32 → Int32 → Int32 → Sg → Option (Int32 × Sg)) (hk50 : ∀ (v1 : Int32) (v2 : Int32) (v4 : Int32) (v5 : Int32) (t0 : Sg), Gj kI mX7_harmed ids 50 [some (aR (0, 29)), some (aI v1), some (aI v2), none, some (aI v4), some (aI v5), none] [] t0 (k50 v1 v2 v4 v5 t0)) (v1 : Int32) (v2 : Int32) (v5 : Int32) (w0 : Int32) (w1 : Int32) (t0 : Sg) : Gj kI mX7_harmed ids 79 [some (aR (0, 29)), some (aI v1), some (aI v2), none, none, some (aI v5), none] [aI w0, aI w1] t0 (f_X7_harmed_79 k50 v1 v2 v5 w0 w1 t0) := by
  unfold f_X7_harmed_79
  refine G_st (x_iadd dX7_harmed_79) ?_
  refine G_bvI (fun x16 => ?_)
  refine G_st (x_istore [some (aR (0, 29)), some (aI v1), some (aI v2), none, some (aI x16), some (aI v5), none] dX7_harmed_80 (Nat.le_of_ble_eq_true rfl) rfl rfl) ?_
  refine G_st (x_iinc (v5 + (1 : Int32)) [some (aR (0, 29)), some (aI v1), some (aI v2), none, some (aI x16), some (aI (v5 + (1 : Int32))), none] dX7_harmed_82 (Nat.le_of_ble_eq_true rfl) rfl rfl rfl rfl) ?_
  refine G_st (x_goto (tgt := 50) dX7_harmed_85 (by decide)) ?_
  refine G_weak _ ?_ (hk50 v1 v2 x16 (v5 + (1 : Int32)) t0)
  exact (leL_s (leL_s (leL_s (leL_n (leL_s (leL_s (leL_n (leL_e _))))))))
set_option maxRecDepth 100000 in
set_option maxHeartbeats 4000000 in
theorem g_X7_harmed_50 (ids : List (Nat × Nat)) (Hn : Ndp ids)  (H0_29 : InR ids 0 29 56)  : ∀ (n : Nat) (v1 : Int32) (v2 : Int32) (v4 : Int32) (v5 : Int32) (t0 : Sg), Gj kI mX7_harmed ids 50 [some (aR (0, 29)), some (aI v1), some (aI v2), none, some (aI v4), some (aI v5), none] [] t0 (f_X7_harmed_50 n v1 v2 v4 v5 t0) := by
  intro n
  induction n with
  | zero => intro v1 v2 v4 v5 t0; exact G_none
  | succ n ih =>
    intro v1 v2 v4 v5 t0
    rw [f_X7_harmed_50]
    refine G_st (x_iload dX7_harmed_50 rfl) ?_
    refine G_st (x_iload_n dX7_harmed_52 rfl) ?_
    refine G_ite (fun c10 => ?_) (fun c10 => ?_)
    · refine G_st (x_icmp_ge_t (tgt := 88) dX7_harmed_53 (by decide) c10) ?_
      refine G_st (x_iload dX7_harmed_88 rfl) ?_
      exact G_ret rfl ⟨dX7_harmed_90, _, rfl, rfl⟩ rfl
    · refine G_st (x_icmp_ge_f 88 dX7_harmed_53 (by decide) c10) ?_
      refine G_st (x_aload_n dX7_harmed_56 rfl) ?_
      refine G_bd (fun x11 t12 h13 => ?_)
      refine G_st (x_callV [] (c_X7_weekOn ids Hn  H0_29 _ _ _ h13) dX7_harmed_57 tw_1169 kc_X7_weekOn (H0_29 29 (Nat.le_of_ble_eq_true rfl) (Nat.le_of_ble_eq_true rfl)) rfl rfl rfl rfl ⟨Nat.le_of_ble_eq_true rfl, Nat.le_of_ble_eq_true rfl⟩ (Nat.le_of_ble_eq_true rfl) rfl) ?_
      refine G_st (x_istore [some (aR (0, 29)), some (aI v1), some (aI v2), none, some (aI v4), some (aI v5), some (aI x11)] dX7_harmed_60 (Nat.le_of_ble_eq_true rfl) rfl rfl) ?_
      refine G_st (x_iload dX7_harmed_62 rfl) ?_
      refine G_st (x_iload_n dX7_harmed_64 rfl) ?_
      refine G_ite (fun c14 => ?_) (fun c14 => ?_)
      · refine G_st (x_if_ge_t (tgt := 73) dX7_harmed_65 (by decide) c14) ?_
        refine G_st (x_aload_n dX7_harmed_73 rfl) ?_
        refine G_st (x_get (k := 21) (aR (0, 45)) dX7_harmed_74 (H0_29 29 (Nat.le_of_ble_eq_true rfl) (Nat.le_of_ble_eq_true rfl)) rfl rfl rfl rfl inTX7 (Nat.le_of_ble_eq_true rfl) tw_868 (fun ad => rfl)) ?_
        refine G_st (x_iload_n dX7_harmed_77 rfl) ?_
        refine G_chk (fun c15 => ?_)
        refine G_st (x_iaload dX7_harmed_78 (H0_29 45 (Nat.le_of_ble_eq_true rfl) (Nat.le_of_ble_eq_true rfl)) rfl c15) ?_
        refine G_weak _ ?_ (g_X7_harmed_79 ids Hn H0_29 (f_X7_harmed_50 n) (ih) v1 v2 v5 (t12 (0, 45) (v1).toNatClampNeg) v4 t12)
        exact (leL_s (leL_s (leL_s (leL_n (leL_n (leL_s (leL_n (leL_e _))))))))
      · refine G_st (x_if_ge_f 73 dX7_harmed_65 (by decide) c14) ?_
        refine G_st (x_iload dX7_harmed_68 rfl) ?_
        refine G_st (x_goto (tgt := 79) dX7_harmed_70 (by decide)) ?_
        refine G_weak _ ?_ (g_X7_harmed_79 ids Hn H0_29 (f_X7_harmed_50 n) (ih) v1 v2 v5 x11 v4 t12)
        exact (leL_s (leL_s (leL_s (leL_n (leL_n (leL_s (leL_n (leL_e _))))))))
set_option maxRecDepth 100000 in
set_option maxHeartbeats 4000000 in
theorem g_X7_harmed_29 (ids : List (Nat × Nat)) (Hn : Ndp ids)  (H0_29 : InR ids 0 29 56)  (v1 : Int32) (v2 : Int32) (w0 : Int32) (t0 : Sg) : Gj kI mX7_harmed ids 29 [some (aR (0, 29)), some (aI v1), some (aI v2), none, none, none, none] [aI w0] t0 (f_X7_harmed_29 v1 v2 w0 t0) := by
  unfold f_X7_harmed_29
  refine G_st (x_istore_n [some (aR (0, 29)), some (aI v1), some (aI v2), some (aI w0), none, none, none] dX7_harmed_29 (Nat.le_of_ble_eq_true rfl) rfl rfl) ?_
  refine G_st (x_iload_n dX7_harmed_30 rfl) ?_
  refine G_ite (fun c6 => ?_) (fun c6 => ?_)
  · refine G_st (x_if_ge_t (tgt := 40) dX7_harmed_31 (by decide) c6) ?_
    refine G_st (x_aload_n dX7_harmed_40 rfl) ?_
    refine G_bd (fun _ t8 h9 => ?_)
    refine G_st (x_callV [] (c_X7_beginMind ids Hn  H0_29 _ _ _ h9) dX7_harmed_41 tw_1161 kc_X7_beginMind (H0_29 29 (Nat.le_of_ble_eq_true rfl) (Nat.le_of_ble_eq_true rfl)) rfl rfl rfl rfl ⟨Nat.le_of_ble_eq_true rfl, Nat.le_of_ble_eq_true rfl⟩ (Nat.le_of_ble_eq_true rfl) rfl) ?_
    refine G_st (x_iconst (0 : Int32) dX7_harmed_44 rfl) ?_
    refine G_st (x_istore [some (aR (0, 29)), some (aI v1), some (aI v2), some (aI w0), some (aI (0 : Int32)), none, none] dX7_harmed_45 (Nat.le_of_ble_eq_true rfl) rfl rfl) ?_
    refine G_st (x_iconst (0 : Int32) dX7_harmed_47 rfl) ?_
    refine G_st (x_istore [some (aR (0, 29)), some (aI v1), some (aI v2), some (aI w0), some (aI (0 : Int32)), some (aI (0 : Int32)), none] dX7_harmed_48 (Nat.le_of_ble_eq_true rfl) rfl rfl) ?_
    refine G_weak _ ?_ (g_X7_harmed_50 ids Hn H0_29 fuel v1 v2 (0 : Int32) (0 : Int32) t8)
    exact (leL_s (leL_s (leL_s (leL_n (leL_s (leL_s (leL_n (leL_e _))))))))
  · refine G_st (x_if_ge_f 40 dX7_harmed_31 (by decide) c6) ?_
    refine G_st (x_aload_n dX7_harmed_34 rfl) ?_
    refine G_st (x_iload_n dX7_harmed_35 rfl) ?_
    refine G_bd (fun x17 t18 h19 => ?_)
    refine G_st (x_callV [] (c_X7_refuse ids Hn w0 H0_29 _ _ _ h19) dX7_harmed_36 tw_981 kc_X7_refuse (H0_29 29 (Nat.le_of_ble_eq_true rfl) (Nat.le_of_ble_eq_true rfl)) rfl rfl rfl rfl ⟨Nat.le_of_ble_eq_true rfl, Nat.le_of_ble_eq_true rfl⟩ (Nat.le_of_ble_eq_true rfl) rfl) ?_
    exact G_ret rfl ⟨dX7_harmed_39, _, rfl, rfl⟩ rfl
set_option maxRecDepth 100000 in
set_option maxHeartbeats 4000000 in
theorem g_X7_harmed_18 (ids : List (Nat × Nat)) (Hn : Ndp ids)  (H0_29 : InR ids 0 29 56)  (v1 : Int32) (v2 : Int32) (t0 : Sg) : Gj kI mX7_harmed ids 18 [some (aR (0, 29)), some (aI v1), some (aI v2), none, none, none, none] [] t0 (f_X7_harmed_18 v1 v2 t0) := by
  unfold f_X7_harmed_18
  refine G_st (x_iload_n dX7_harmed_18 rfl) ?_
  refine G_st (x_iconst (1 : Int32) dX7_harmed_19 rfl) ?_
  refine G_st (x_bipush (20 : Int32) dX7_harmed_20 rfl) ?_
  refine G_bd (fun x3 t4 h5 => ?_)
  refine G_st (x_callS [] (c_X7_wrongNumber ids Hn v2 (1 : Int32) (20 : Int32)  _ _ _ h5) dX7_harmed_22 tw_1126 kc_X7_wrongNumber rfl ⟨Nat.le_of_ble_eq_true rfl, Nat.le_of_ble_eq_true rfl⟩ (Nat.le_of_ble_eq_true rfl) rfl) ?_
  refine G_st (x_goto (tgt := 29) dX7_harmed_25 (by decide)) ?_
  refine G_weak _ ?_ (g_X7_harmed_29 ids Hn H0_29 v1 v2 x3 t4)
  exact (leL_s (leL_s (leL_s (leL_n (leL_n (leL_n (leL_n (leL_e _))))))))
set_option maxRecDepth 100000 in
set_option maxHeartbeats 4000000 in
theorem g_X7_harmed (ids : List (Nat × Nat)) (Hn : Ndp ids) (v1 : Int32) (v2 : Int32) (H0_29 : InR ids 0 29 56) (t0 : Sg) : Gj kI mX7_harmed ids 0 [some (aR (0, 29)), some (aI v1), some (aI v2), none, none, none, none] [] t0 (f_X7_harmed v1 v2 t0) := by
  unfold f_X7_harmed
  refine G_st (x_aload_n dX7_harmed_0 rfl) ?_
  refine G_st (x_iconst (0 : Int32) dX7_harmed_1 rfl) ?_
  refine G_st (x_put (k := 18) (ty := .int) (v := aI (0 : Int32)) (z := (0 : Int32)) (upS t0 (0, 29) 18 (0 : Int32)) dX7_harmed_2 (H0_29 29 (Nat.le_of_ble_eq_true rfl) (Nat.le_of_ble_eq_true rfl)) rfl rfl rfl rfl inTX7 tyX7_ok nmX7 (Nat.le_of_ble_eq_true rfl) tw_865 rfl rfl (fun ad => rfl) (fun ad => rfl) (fun ad => put_i0 ad _ _ _ _ rfl) rfl) ?_
  refine G_bvS (fun t1 => ?_)
  refine G_st (x_iload_n dX7_harmed_5 rfl) ?_
  refine G_st (x_iconst (-1 : Int32) dX7_harmed_6 rfl) ?_
  refine G_ite (fun c2 => ?_) (fun c2 => ?_)
  · refine G_st (x_icmp_eq_t (tgt := 18) dX7_harmed_7 (by decide) c2) ?_
    refine G_weak _ ?_ (g_X7_harmed_18 ids Hn H0_29 v1 v2 t1)
    exact (leL_s (leL_s (leL_s (leL_n (leL_n (leL_n (leL_n (leL_e _))))))))
  · refine G_st (x_icmp_eq_f 18 dX7_harmed_7 (by decide) c2) ?_
    refine G_st (x_aload_n dX7_harmed_10 rfl) ?_
    refine G_st (x_iload_n dX7_harmed_11 rfl) ?_
    refine G_bd (fun x20 t21 h22 => ?_)
    refine G_st (x_callV [] (c_X7_isTenant ids Hn v1 H0_29 _ _ _ h22) dX7_harmed_12 tw_1086 kc_X7_isTenant (H0_29 29 (Nat.le_of_ble_eq_true rfl) (Nat.le_of_ble_eq_true rfl)) rfl rfl rfl rfl ⟨Nat.le_of_ble_eq_true rfl, Nat.le_of_ble_eq_true rfl⟩ (Nat.le_of_ble_eq_true rfl) rfl) ?_
    refine G_ite (fun c23 => ?_) (fun c23 => ?_)
    · refine G_st (x_if_eq_t (tgt := 28) dX7_harmed_15 (by decide) c23) ?_
      refine G_st (x_iconst (-1 : Int32) dX7_harmed_28 rfl) ?_
      refine G_weak _ ?_ (g_X7_harmed_29 ids Hn H0_29 v1 v2 (-1 : Int32) t21)
      exact (leL_s (leL_s (leL_s (leL_n (leL_n (leL_n (leL_n (leL_e _))))))))
    · refine G_st (x_if_eq_f 28 dX7_harmed_15 (by decide) c23) ?_
      refine G_weak _ ?_ (g_X7_harmed_18 ids Hn H0_29 v1 v2 t21)
      exact (leL_s (leL_s (leL_s (leL_n (leL_n (leL_n (leL_n (leL_e _))))))))
set_option maxRecDepth 100000 in
set_option maxHeartbeats 4000000 in
theorem c_X7_harmed (ids : List (Nat × Nat)) (Hn : Ndp ids) (v1 : Int32) (v2 : Int32) (H0_29 : InR ids 0 29 56) (t0 : Sg) (r : Int32) (t1 : Sg) (hf : f_X7_harmed v1 v2 t0 = some (r, t1)) : Mt0 mX7_harmed yX7_harmed ids [aR (0, 29), aI v1, aI v2] t0 (some (aI r)) t1 :=
  Mt_of (x := (r, t1)) (g_X7_harmed ids Hn v1 v2 H0_29 t0) hf (fun _ _ => trivial) (by decide) rfl Hn (fun _ => rfl) (fun _ => Nat.le_of_ble_eq_true rfl)
theorem dX7_least_0 : decode cX7_least 0 = .ok (.aload_n 0, 1) := by decide +kernel
theorem dX7_least_1 : decode cX7_least 1 = .ok (.iconst 0, 1) := by decide +kernel
theorem dX7_least_2 : decode cX7_least 2 = .ok (.putfield 98, 3) := by decide +kernel
theorem dX7_least_5 : decode cX7_least 5 = .ok (.aload_n 0, 1) := by decide +kernel
theorem dX7_least_6 : decode cX7_least 6 = .ok (.iload_n 1, 1) := by decide +kernel
theorem dX7_least_7 : decode cX7_least 7 = .ok (.invokevirtual 266, 3) := by decide +kernel
theorem dX7_least_10 : decode cX7_least 10 = .ok (.ifCond .eq 13, 3) := by decide +kernel
theorem dX7_least_13 : decode cX7_least 13 = .ok (.iload_n 2, 1) := by decide +kernel
theorem dX7_least_14 : decode cX7_least 14 = .ok (.i2l, 1) := by decide +kernel
theorem dX7_least_15 : decode cX7_least 15 = .ok (.lconst 0, 1) := by decide +kernel
theorem dX7_least_16 : decode cX7_least 16 = .ok (.lconst 1, 1) := by decide +kernel
theorem dX7_least_17 : decode cX7_least 17 = .ok (.invokestatic 111, 3) := by decide +kernel
theorem dX7_least_20 : decode cX7_least 20 = .ok (.ifCond .ne 22, 3) := by decide +kernel
theorem dX7_least_23 : decode cX7_least 23 = .ok (.aload_n 0, 1) := by decide +kernel
theorem dX7_least_24 : decode cX7_least 24 = .ok (.aload_n 0, 1) := by decide +kernel
theorem dX7_least_25 : decode cX7_least 25 = .ok (.iload_n 1, 1) := by decide +kernel
theorem dX7_least_26 : decode cX7_least 26 = .ok (.invokevirtual 266, 3) := by decide +kernel
theorem dX7_least_29 : decode cX7_least 29 = .ok (.ifCond .eq 8, 3) := by decide +kernel
theorem dX7_least_32 : decode cX7_least 32 = .ok (.bipush (-2), 2) := by decide +kernel
theorem dX7_least_34 : decode cX7_least 34 = .ok (.goto 4, 3) := by decide +kernel
theorem dX7_least_37 : decode cX7_least 37 = .ok (.iconst (-1), 1) := by decide +kernel
theorem dX7_least_38 : decode cX7_least 38 = .ok (.invokevirtual 167, 3) := by decide +kernel
theorem dX7_least_41 : decode cX7_least 41 = .ok (.ireturn, 1) := by decide +kernel
theorem dX7_least_42 : decode cX7_least 42 = .ok (.aload_n 0, 1) := by decide +kernel
theorem dX7_least_43 : decode cX7_least 43 = .ok (.getfield 53, 3) := by decide +kernel
theorem dX7_least_46 : decode cX7_least 46 = .ok (.iload_n 1, 1) := by decide +kernel
theorem dX7_least_47 : decode cX7_least 47 = .ok (.iaload, 1) := by decide +kernel
theorem dX7_least_48 : decode cX7_least 48 = .ok (.istore_n 3, 1) := by decide +kernel
theorem dX7_least_49 : decode cX7_least 49 = .ok (.iconst (-1), 1) := by decide +kernel
theorem dX7_least_50 : decode cX7_least 50 = .ok (.istore 4, 2) := by decide +kernel
theorem dX7_least_52 : decode cX7_least 52 = .ok (.iconst 0, 1) := by decide +kernel
theorem dX7_least_53 : decode cX7_least 53 = .ok (.istore 5, 2) := by decide +kernel
theorem dX7_least_55 : decode cX7_least 55 = .ok (.iconst 0, 1) := by decide +kernel
theorem dX7_least_56 : decode cX7_least 56 = .ok (.istore 6, 2) := by decide +kernel
theorem dX7_least_58 : decode cX7_least 58 = .ok (.iload 6, 2) := by decide +kernel
theorem dX7_least_60 : decode cX7_least 60 = .ok (.bipush 8, 2) := by decide +kernel
theorem dX7_least_62 : decode cX7_least 62 = .ok (.if_icmp .ge 70, 3) := by decide +kernel
theorem dX7_least_65 : decode cX7_least 65 = .ok (.aload_n 0, 1) := by decide +kernel
theorem dX7_least_66 : decode cX7_least 66 = .ok (.getfield 53, 3) := by decide +kernel
theorem dX7_least_69 : decode cX7_least 69 = .ok (.iload_n 1, 1) := by decide +kernel
theorem dX7_least_70 : decode cX7_least 70 = .ok (.iload 6, 2) := by decide +kernel
theorem dX7_least_72 : decode cX7_least 72 = .ok (.iastore, 1) := by decide +kernel
theorem dX7_least_73 : decode cX7_least 73 = .ok (.aload_n 0, 1) := by decide +kernel
theorem dX7_least_74 : decode cX7_least 74 = .ok (.invokevirtual 160, 3) := by decide +kernel
theorem dX7_least_77 : decode cX7_least 77 = .ok (.istore 7, 2) := by decide +kernel
theorem dX7_least_79 : decode cX7_least 79 = .ok (.iload 4, 2) := by decide +kernel
theorem dX7_least_81 : decode cX7_least 81 = .ok (.ifCond .lt 10, 3) := by decide +kernel
theorem dX7_least_84 : decode cX7_least 84 = .ok (.iload 7, 2) := by decide +kernel
theorem dX7_least_86 : decode cX7_least 86 = .ok (.iload 5, 2) := by decide +kernel
theorem dX7_least_88 : decode cX7_least 88 = .ok (.if_icmp .ge 7, 3) := by decide +kernel
theorem dX7_least_91 : decode cX7_least 91 = .ok (.iconst 1, 1) := by decide +kernel
theorem dX7_least_92 : decode cX7_least 92 = .ok (.goto 4, 3) := by decide +kernel
theorem dX7_least_95 : decode cX7_least 95 = .ok (.iconst 0, 1) := by decide +kernel
theorem dX7_least_96 : decode cX7_least 96 = .ok (.istore 8, 2) := by decide +kernel
theorem dX7_least_98 : decode cX7_least 98 = .ok (.iload 8, 2) := by decide +kernel
theorem dX7_least_100 : decode cX7_least 100 = .ok (.ifCond .eq 8, 3) := by decide +kernel
theorem dX7_least_103 : decode cX7_least 103 = .ok (.iload 6, 2) := by decide +kernel
theorem dX7_least_105 : decode cX7_least 105 = .ok (.goto 5, 3) := by decide +kernel
theorem dX7_least_108 : decode cX7_least 108 = .ok (.iload 4, 2) := by decide +kernel
theorem dX7_least_110 : decode cX7_least 110 = .ok (.istore 4, 2) := by decide +kernel
theorem dX7_least_112 : decode cX7_least 112 = .ok (.iload 8, 2) := by decide +kernel
theorem dX7_least_114 : decode cX7_least 114 = .ok (.ifCond .eq 8, 3) := by decide +kernel
theorem dX7_least_117 : decode cX7_least 117 = .ok (.iload 7, 2) := by decide +kernel
theorem dX7_least_119 : decode cX7_least 119 = .ok (.goto 5, 3) := by decide +kernel
theorem dX7_least_122 : decode cX7_least 122 = .ok (.iload 5, 2) := by decide +kernel
theorem dX7_least_124 : decode cX7_least 124 = .ok (.istore 5, 2) := by decide +kernel
theorem dX7_least_126 : decode cX7_least 126 = .ok (.iinc 6 1, 3) := by decide +kernel
theorem dX7_least_129 : decode cX7_least 129 = .ok (.goto (-71), 3) := by decide +kernel
theorem dX7_least_132 : decode cX7_least 132 = .ok (.aload_n 0, 1) := by decide +kernel
theorem dX7_least_133 : decode cX7_least 133 = .ok (.getfield 53, 3) := by decide +kernel
theorem dX7_least_136 : decode cX7_least 136 = .ok (.iload_n 1, 1) := by decide +kernel
theorem dX7_least_137 : decode cX7_least 137 = .ok (.iload_n 3, 1) := by decide +kernel
theorem dX7_least_138 : decode cX7_least 138 = .ok (.iastore, 1) := by decide +kernel
theorem dX7_least_139 : decode cX7_least 139 = .ok (.iload_n 2, 1) := by decide +kernel
theorem dX7_least_140 : decode cX7_least 140 = .ok (.ifCond .ne 8, 3) := by decide +kernel
theorem dX7_least_143 : decode cX7_least 143 = .ok (.iload 4, 2) := by decide +kernel
theorem dX7_least_145 : decode cX7_least 145 = .ok (.goto 5, 3) := by decide +kernel
theorem dX7_least_148 : decode cX7_least 148 = .ok (.iload 5, 2) := by decide +kernel
theorem dX7_least_150 : decode cX7_least 150 = .ok (.ireturn, 1) := by decide +kernel
set_option maxRecDepth 100000 in
set_option maxHeartbeats 4000000 in
theorem g_X7_least_23 (ids : List (Nat × Nat)) (Hn : Ndp ids)  (H0_29 : InR ids 0 29 56)  (v1 : Int32) (t0 : Sg) : Gj kI mX7_least ids 23 [some (aR (0, 29)), some (aI v1), none, none, none, none, none, none, none] [] t0 (f_X7_least_23 v1 t0) := by
  unfold f_X7_least_23
  refine G_st (x_aload_n dX7_least_23 rfl) ?_
  refine G_st (x_aload_n dX7_least_24 rfl) ?_
  refine G_st (x_iload_n dX7_least_25 rfl) ?_
  refine G_bd (fun x6 t7 h8 => ?_)
  refine G_st (x_callV [aR (0, 29)] (c_X7_isHabit ids Hn v1 H0_29 _ _ _ h8) dX7_least_26 tw_1109 kc_X7_isHabit (H0_29 29 (Nat.le_of_ble_eq_true rfl) (Nat.le_of_ble_eq_true rfl)) rfl rfl rfl rfl ⟨Nat.le_of_ble_eq_true rfl, Nat.le_of_ble_eq_true rfl⟩ (Nat.le_of_ble_eq_true rfl) rfl) ?_
  have e10 : Tj mX7_least ids 29 [some (aR (0, 29)), some (aI v1), none, none, none, none, none, none, none] [aI x6, aR (0, 29)] t7 38 [some (aR (0, 29)), some (aI v1), none, none, none, none, none, none, none] [aI (if x6 = 0 then (-1 : Int32) else (-2 : Int32)), aR (0, 29)] t7 := by
    refine Tj.dia (fun c9 => ?_) (fun c9 => ?_)
    · refine Tj.tr (x_if_eq_t (tgt := 37) dX7_least_29 (by decide) c9) ?_
      refine Tj.tr (x_iconst (-1 : Int32) dX7_least_37 rfl) ?_
      exact Tj.rf
    · refine Tj.tr (x_if_eq_f 37 dX7_least_29 (by decide) c9) ?_
      refine Tj.tr (x_bipush (-2 : Int32) dX7_least_32 rfl) ?_
      refine Tj.tr (x_goto (tgt := 38) dX7_least_34 (by decide)) ?_
      exact Tj.rf
  refine G_st e10 ?_
  refine G_bd (fun x11 t12 h13 => ?_)
  refine G_st (x_callV [] (c_X7_refuse ids Hn (if x6 = 0 then (-1 : Int32) else (-2 : Int32)) H0_29 _ _ _ h13) dX7_least_38 tw_981 kc_X7_refuse (H0_29 29 (Nat.le_of_ble_eq_true rfl) (Nat.le_of_ble_eq_true rfl)) rfl rfl rfl rfl ⟨Nat.le_of_ble_eq_true rfl, Nat.le_of_ble_eq_true rfl⟩ (Nat.le_of_ble_eq_true rfl) rfl) ?_
  exact G_ret rfl ⟨dX7_least_41, _, rfl, rfl⟩ rfl
set_option maxRecDepth 100000 in
set_option maxHeartbeats 4000000 in
theorem g_X7_least_58 (ids : List (Nat × Nat)) (Hn : Ndp ids)  (H0_29 : InR ids 0 29 56)  : ∀ (n : Nat) (v1 : Int32) (v2 : Int32) (v3 : Int32) (v4 : Int32) (v5 : Int32) (v6 : Int32) (t0 : Sg), Gj kI mX7_least ids 58 [some (aR (0, 29)), some (aI v1), some (aI v2), some (aI v3), some (aI v4), some (aI v5), some (aI v6), none, none] [] t0 (f_X7_least_58 n v1 v2 v3 v4 v5 v6 t0) := by
  intro n
  induction n with
  | zero => intro v1 v2 v3 v4 v5 v6 t0; exact G_none
  | succ n ih =>
    intro v1 v2 v3 v4 v5 v6 t0
    rw [f_X7_least_58]
    refine G_st (x_iload dX7_least_58 rfl) ?_
    refine G_st (x_bipush (8 : Int32) dX7_least_60 rfl) ?_
    refine G_ite (fun c20 => ?_) (fun c20 => ?_)
    · refine G_st (x_icmp_ge_t (tgt := 132) dX7_least_62 (by decide) c20) ?_
      refine G_st (x_aload_n dX7_least_132 rfl) ?_
      refine G_st (x_get (k := 17) (aR (0, 42)) dX7_least_133 (H0_29 29 (Nat.le_of_ble_eq_true rfl) (Nat.le_of_ble_eq_true rfl)) rfl rfl rfl rfl inTX7 (Nat.le_of_ble_eq_true rfl) tw_864 (fun ad => rfl)) ?_
      refine G_st (x_iload_n dX7_least_136 rfl) ?_
      refine G_st (x_iload_n dX7_least_137 rfl) ?_
      refine G_chk (fun c21 => ?_)
      refine G_st (x_iastore dX7_least_138 (H0_29 42 (Nat.le_of_ble_eq_true rfl) (Nat.le_of_ble_eq_true rfl)) rfl c21) ?_
      refine G_bvS (fun t22 => ?_)
      refine G_st (x_iload_n dX7_least_139 rfl) ?_
      have e24 : Tj mX7_least ids 140 [some (aR (0, 29)), some (aI v1), some (aI v2), some (aI v3), some (aI v4), some (aI v5), some (aI v6), none, none] [aI v2] t22 150 [some (aR (0, 29)), some (aI v1), some (aI v2), some (aI v3), some (aI v4), some (aI v5), some (aI v6), none, none] [aI (if v2 = 0 then v4 else v5)] t22 := by
        refine Tj.dia (fun c23 => ?_) (fun c23 => ?_)
        · refine Tj.tr (x_if_ne_f 148 dX7_least_140 (by decide) c23) ?_
          refine Tj.tr (x_iload dX7_least_143 rfl) ?_
          refine Tj.tr (x_goto (tgt := 150) dX7_least_145 (by decide)) ?_
          exact Tj.rf
        · refine Tj.tr (x_if_ne_t (tgt := 148) dX7_least_140 (by decide) c23) ?_
          refine Tj.tr (x_iload dX7_least_148 rfl) ?_
          exact Tj.rf
      refine G_st e24 ?_
      exact G_ret rfl ⟨dX7_least_150, _, rfl, rfl⟩ rfl
    · refine G_st (x_icmp_ge_f 132 dX7_least_62 (by decide) c20) ?_
      refine G_st (x_aload_n dX7_least_65 rfl) ?_
      refine G_st (x_get (k := 17) (aR (0, 42)) dX7_least_66 (H0_29 29 (Nat.le_of_ble_eq_true rfl) (Nat.le_of_ble_eq_true rfl)) rfl rfl rfl rfl inTX7 (Nat.le_of_ble_eq_true rfl) tw_864 (fun ad => rfl)) ?_
      refine G_st (x_iload_n dX7_least_69 rfl) ?_
      refine G_st (x_iload dX7_least_70 rfl) ?_
      refine G_chk (fun c25 => ?_)
      refine G_st (x_iastore dX7_least_72 (H0_29 42 (Nat.le_of_ble_eq_true rfl) (Nat.le_of_ble_eq_true rfl)) rfl c25) ?_
      refine G_bvS (fun t26 => ?_)
      refine G_st (x_aload_n dX7_least_73 rfl) ?_
      refine G_bd (fun x27 t28 h29 => ?_)
      refine G_st (x_callV [] (c_X7_oneWeek ids Hn  H0_29 _ _ _ h29) dX7_least_74 tw_1157 kc_X7_oneWeek (H0_29 29 (Nat.le_of_ble_eq_true rfl) (Nat.le_of_ble_eq_true rfl)) rfl rfl rfl rfl ⟨Nat.le_of_ble_eq_true rfl, Nat.le_of_ble_eq_true rfl⟩ (Nat.le_of_ble_eq_true rfl) rfl) ?_
      refine G_st (x_istore [some (aR (0, 29)), some (aI v1), some (aI v2), some (aI v3), some (aI v4), some (aI v5), some (aI v6), some (aI x27), none] dX7_least_77 (Nat.le_of_ble_eq_true rfl) rfl rfl) ?_
      refine G_st (x_iload dX7_least_79 rfl) ?_
      have e32 : Tj mX7_least ids 81 [some (aR (0, 29)), some (aI v1), some (aI v2), some (aI v3), some (aI v4), some (aI v5), some (aI v6), some (aI x27), none] [aI v4] t28 96 [some (aR (0, 29)), some (aI v1), some (aI v2), some (aI v3), some (aI v4), some (aI v5), some (aI v6), some (aI x27), none] [aI (if v4 < 0 then (1 : Int32) else (if v5 ≤ x27 then (0 : Int32) else (1 : Int32)))] t28 := by
        refine Tj.dia (fun c30 => ?_) (fun c30 => ?_)
        · refine Tj.tr (x_if_lt_t (tgt := 91) dX7_least_81 (by decide) c30) ?_
          refine Tj.tr (x_iconst (1 : Int32) dX7_least_91 rfl) ?_
          refine Tj.tr (x_goto (tgt := 96) dX7_least_92 (by decide)) ?_
          exact Tj.rf
        · refine Tj.tr (x_if_lt_f 91 dX7_least_81 (by decide) c30) ?_
          refine Tj.tr (x_iload dX7_least_84 rfl) ?_
          refine Tj.tr (x_iload dX7_least_86 rfl) ?_
          refine Tj.dia (fun c31 => ?_) (fun c31 => ?_)
          · refine Tj.tr (x_icmp_ge_t (tgt := 95) dX7_least_88 (by decide) c31) ?_
            refine Tj.tr (x_iconst (0 : Int32) dX7_least_95 rfl) ?_
            exact Tj.rf
          · refine Tj.tr (x_icmp_ge_f 95 dX7_least_88 (by decide) c31) ?_
            refine Tj.tr (x_iconst (1 : Int32) dX7_least_91 rfl) ?_
            refine Tj.tr (x_goto (tgt := 96) dX7_least_92 (by decide)) ?_
            exact Tj.rf
      refine G_st e32 ?_
      refine G_bvI (fun x33 => ?_)
      refine G_st (x_istore [some (aR (0, 29)), some (aI v1), some (aI v2), some (aI v3), some (aI v4), some (aI v5), some (aI v6), some (aI x27), some (aI x33)] dX7_least_96 (Nat.le_of_ble_eq_true rfl) rfl rfl) ?_
      refine G_st (x_iload dX7_least_98 rfl) ?_
      have e35 : Tj mX7_least ids 100 [some (aR (0, 29)), some (aI v1), some (aI v2), some (aI v3), some (aI v4), some (aI v5), some (aI v6), some (aI x27), some (aI x33)] [aI x33] t28 110 [some (aR (0, 29)), some (aI v1), some (aI v2), some (aI v3), some (aI v4), some (aI v5), some (aI v6), some (aI x27), some (aI x33)] [aI (if x33 = 0 then v4 else v6)] t28 := by
        refine Tj.dia (fun c34 => ?_) (fun c34 => ?_)
        · refine Tj.tr (x_if_eq_t (tgt := 108) dX7_least_100 (by decide) c34) ?_
          refine Tj.tr (x_iload dX7_least_108 rfl) ?_
          exact Tj.rf
        · refine Tj.tr (x_if_eq_f 108 dX7_least_100 (by decide) c34) ?_
          refine Tj.tr (x_iload dX7_least_103 rfl) ?_
          refine Tj.tr (x_goto (tgt := 110) dX7_least_105 (by decide)) ?_
          exact Tj.rf
      refine G_st e35 ?_
      refine G_bvI (fun x36 => ?_)
      refine G_st (x_istore [some (aR (0, 29)), some (aI v1), some (aI v2), some (aI v3), some (aI x36), some (aI v5), some (aI v6), some (aI x27), some (aI x33)] dX7_least_110 (Nat.le_of_ble_eq_true rfl) rfl rfl) ?_
      refine G_st (x_iload dX7_least_112 rfl) ?_
      have e38 : Tj mX7_least ids 114 [some (aR (0, 29)), some (aI v1), some (aI v2), some (aI v3), some (aI x36), some (aI v5), some (aI v6), some (aI x27), some (aI x33)] [aI x33] t28 124 [some (aR (0, 29)), some (aI v1), some (aI v2), some (aI v3), some (aI x36), some (aI v5), some (aI v6), some (aI x27), some (aI x33)] [aI (if x33 = 0 then v5 else x27)] t28 := by
        refine Tj.dia (fun c37 => ?_) (fun c37 => ?_)
        · refine Tj.tr (x_if_eq_t (tgt := 122) dX7_least_114 (by decide) c37) ?_
          refine Tj.tr (x_iload dX7_least_122 rfl) ?_
          exact Tj.rf
        · refine Tj.tr (x_if_eq_f 122 dX7_least_114 (by decide) c37) ?_
          refine Tj.tr (x_iload dX7_least_117 rfl) ?_
          refine Tj.tr (x_goto (tgt := 124) dX7_least_119 (by decide)) ?_
          exact Tj.rf
      refine G_st e38 ?_
      refine G_bvI (fun x39 => ?_)
      refine G_st (x_istore [some (aR (0, 29)), some (aI v1), some (aI v2), some (aI v3), some (aI x36), some (aI x39), some (aI v6), some (aI x27), some (aI x33)] dX7_least_124 (Nat.le_of_ble_eq_true rfl) rfl rfl) ?_
      refine G_st (x_iinc (v6 + (1 : Int32)) [some (aR (0, 29)), some (aI v1), some (aI v2), some (aI v3), some (aI x36), some (aI x39), some (aI (v6 + (1 : Int32))), some (aI x27), some (aI x33)] dX7_least_126 (Nat.le_of_ble_eq_true rfl) rfl rfl rfl rfl) ?_
      refine G_st (x_goto (tgt := 58) dX7_least_129 (by decide)) ?_
      refine G_weak _ ?_ ((ih) v1 v2 v3 x36 x39 (v6 + (1 : Int32)) t28)
      exact (leL_s (leL_s (leL_s (leL_s (leL_s (leL_s (leL_s (leL_n (leL_n (leL_e _))))))))))
set_option maxRecDepth 100000 in
set_option maxHeartbeats 4000000 in
theorem g_X7_least (ids : List (Nat × Nat)) (Hn : Ndp ids) (v1 : Int32) (v2 : Int32) (H0_29 : InR ids 0 29 56) (t0 : Sg) : Gj kI mX7_least ids 0 [some (aR (0, 29)), some (aI v1), some (aI v2), none, none, none, none, none, none] [] t0 (f_X7_least v1 v2 t0) := by
  unfold f_X7_least
  refine G_st (x_aload_n dX7_least_0 rfl) ?_
  refine G_st (x_iconst (0 : Int32) dX7_least_1 rfl) ?_
  refine G_st (x_put (k := 18) (ty := .int) (v := aI (0 : Int32)) (z := (0 : Int32)) (upS t0 (0, 29) 18 (0 : Int32)) dX7_least_2 (H0_29 29 (Nat.le_of_ble_eq_true rfl) (Nat.le_of_ble_eq_true rfl)) rfl rfl rfl rfl inTX7 tyX7_ok nmX7 (Nat.le_of_ble_eq_true rfl) tw_865 rfl rfl (fun ad => rfl) (fun ad => rfl) (fun ad => put_i0 ad _ _ _ _ rfl) rfl) ?_
  refine G_bvS (fun t1 => ?_)
  refine G_st (x_aload_n dX7_least_5 rfl) ?_
  refine G_st (x_iload_n dX7_least_6 rfl) ?_
  refine G_bd (fun x2 t3 h4 => ?_)
  refine G_st (x_callV [] (c_X7_isHabit ids Hn v1 H0_29 _ _ _ h4) dX7_least_7 tw_1109 kc_X7_isHabit (H0_29 29 (Nat.le_of_ble_eq_true rfl) (Nat.le_of_ble_eq_true rfl)) rfl rfl rfl rfl ⟨Nat.le_of_ble_eq_true rfl, Nat.le_of_ble_eq_true rfl⟩ (Nat.le_of_ble_eq_true rfl) rfl) ?_
  refine G_ite (fun c5 => ?_) (fun c5 => ?_)
  · refine G_st (x_if_eq_t (tgt := 23) dX7_least_10 (by decide) c5) ?_
    refine G_weak _ ?_ (g_X7_least_23 ids Hn H0_29 v1 t3)
    exact (leL_s (leL_s (leL_n (leL_n (leL_n (leL_n (leL_n (leL_n (leL_n (leL_e _))))))))))
  · refine G_st (x_if_eq_f 23 dX7_least_10 (by decide) c5) ?_
    refine G_st (x_iload_n dX7_least_13 rfl) ?_
    refine G_st (x_i2l dX7_least_14) ?_
    refine G_st (x_lconst (0 : Int64) dX7_least_15 rfl) ?_
    refine G_st (x_lconst (1 : Int64) dX7_least_16 rfl) ?_
    refine G_bd (fun x14 t15 h16 => ?_)
    refine G_st (x_callS [] (c_X7_in ids Hn (v2).toInt64 (0 : Int64) (1 : Int64)  _ _ _ h16) dX7_least_17 tw_1003 kc_X7_in rfl ⟨Nat.le_of_ble_eq_true rfl, Nat.le_of_ble_eq_true rfl⟩ (Nat.le_of_ble_eq_true rfl) rfl) ?_
    refine G_ite (fun c17 => ?_) (fun c17 => ?_)
    · refine G_st (x_if_ne_f 42 dX7_least_20 (by decide) c17) ?_
      refine G_weak _ ?_ (g_X7_least_23 ids Hn H0_29 v1 t15)
      exact (leL_s (leL_s (leL_n (leL_n (leL_n (leL_n (leL_n (leL_n (leL_n (leL_e _))))))))))
    · refine G_st (x_if_ne_t (tgt := 42) dX7_least_20 (by decide) c17) ?_
      refine G_st (x_aload_n dX7_least_42 rfl) ?_
      refine G_st (x_get (k := 17) (aR (0, 42)) dX7_least_43 (H0_29 29 (Nat.le_of_ble_eq_true rfl) (Nat.le_of_ble_eq_true rfl)) rfl rfl rfl rfl inTX7 (Nat.le_of_ble_eq_true rfl) tw_864 (fun ad => rfl)) ?_
      refine G_st (x_iload_n dX7_least_46 rfl) ?_
      refine G_chk (fun c18 => ?_)
      refine G_st (x_iaload dX7_least_47 (H0_29 42 (Nat.le_of_ble_eq_true rfl) (Nat.le_of_ble_eq_true rfl)) rfl c18) ?_
      refine G_bvI (fun x19 => ?_)
      refine G_st (x_istore_n [some (aR (0, 29)), some (aI v1), some (aI v2), some (aI x19), none, none, none, none, none] dX7_least_48 (Nat.le_of_ble_eq_true rfl) rfl rfl) ?_
      refine G_st (x_iconst (-1 : Int32) dX7_least_49 rfl) ?_
      refine G_st (x_istore [some (aR (0, 29)), some (aI v1), some (aI v2), some (aI x19), some (aI (-1 : Int32)), none, none, none, none] dX7_least_50 (Nat.le_of_ble_eq_true rfl) rfl rfl) ?_
      refine G_st (x_iconst (0 : Int32) dX7_least_52 rfl) ?_
      refine G_st (x_istore [some (aR (0, 29)), some (aI v1), some (aI v2), some (aI x19), some (aI (-1 : Int32)), some (aI (0 : Int32)), none, none, none] dX7_least_53 (Nat.le_of_ble_eq_true rfl) rfl rfl) ?_
      refine G_st (x_iconst (0 : Int32) dX7_least_55 rfl) ?_
      refine G_st (x_istore [some (aR (0, 29)), some (aI v1), some (aI v2), some (aI x19), some (aI (-1 : Int32)), some (aI (0 : Int32)), some (aI (0 : Int32)), none, none] dX7_least_56 (Nat.le_of_ble_eq_true rfl) rfl rfl) ?_
      refine G_weak _ ?_ (g_X7_least_58 ids Hn H0_29 fuel v1 v2 x19 (-1 : Int32) (0 : Int32) (0 : Int32) t15)
      exact (leL_s (leL_s (leL_s (leL_s (leL_s (leL_s (leL_s (leL_n (leL_n (leL_e _))))))))))
set_option maxRecDepth 100000 in
set_option maxHeartbeats 4000000 in
theorem c_X7_least (ids : List (Nat × Nat)) (Hn : Ndp ids) (v1 : Int32) (v2 : Int32) (H0_29 : InR ids 0 29 56) (t0 : Sg) (r : Int32) (t1 : Sg) (hf : f_X7_least v1 v2 t0 = some (r, t1)) : Mt0 mX7_least yX7_least ids [aR (0, 29), aI v1, aI v2] t0 (some (aI r)) t1 :=
  Mt_of (x := (r, t1)) (g_X7_least ids Hn v1 v2 H0_29 t0) hf (fun _ _ => trivial) (by decide) rfl Hn (fun _ => rfl) (fun _ => Nat.le_of_ble_eq_true rfl)
theorem dX7_hours_0 : decode cX7_hours 0 = .ok (.aload_n 0, 1) := by decide +kernel
theorem dX7_hours_1 : decode cX7_hours 1 = .ok (.iconst 0, 1) := by decide +kernel
theorem dX7_hours_2 : decode cX7_hours 2 = .ok (.putfield 98, 3) := by decide +kernel
theorem dX7_hours_5 : decode cX7_hours 5 = .ok (.aload_n 0, 1) := by decide +kernel
theorem dX7_hours_6 : decode cX7_hours 6 = .ok (.iload_n 1, 1) := by decide +kernel
theorem dX7_hours_7 : decode cX7_hours 7 = .ok (.invokevirtual 266, 3) := by decide +kernel
theorem dX7_hours_10 : decode cX7_hours 10 = .ok (.ifCond .eq 16, 3) := by decide +kernel
theorem dX7_hours_13 : decode cX7_hours 13 = .ok (.aload_n 0, 1) := by decide +kernel
theorem dX7_hours_14 : decode cX7_hours 14 = .ok (.iload_n 2, 1) := by decide +kernel
theorem dX7_hours_15 : decode cX7_hours 15 = .ok (.invokevirtual 266, 3) := by decide +kernel
theorem dX7_hours_18 : decode cX7_hours 18 = .ok (.ifCond .eq 8, 3) := by decide +kernel
theorem dX7_hours_21 : decode cX7_hours 21 = .ok (.iload_n 1, 1) := by decide +kernel
theorem dX7_hours_22 : decode cX7_hours 22 = .ok (.iload_n 2, 1) := by decide +kernel
theorem dX7_hours_23 : decode cX7_hours 23 = .ok (.if_icmp .ne 9, 3) := by decide +kernel
theorem dX7_hours_26 : decode cX7_hours 26 = .ok (.aload_n 0, 1) := by decide +kernel
theorem dX7_hours_27 : decode cX7_hours 27 = .ok (.iconst (-1), 1) := by decide +kernel
theorem dX7_hours_28 : decode cX7_hours 28 = .ok (.invokevirtual 167, 3) := by decide +kernel
theorem dX7_hours_31 : decode cX7_hours 31 = .ok (.ireturn, 1) := by decide +kernel
theorem dX7_hours_32 : decode cX7_hours 32 = .ok (.iload_n 3, 1) := by decide +kernel
theorem dX7_hours_33 : decode cX7_hours 33 = .ok (.i2l, 1) := by decide +kernel
theorem dX7_hours_34 : decode cX7_hours 34 = .ok (.lconst 0, 1) := by decide +kernel
theorem dX7_hours_35 : decode cX7_hours 35 = .ok (.lconst 1, 1) := by decide +kernel
theorem dX7_hours_36 : decode cX7_hours 36 = .ok (.invokestatic 111, 3) := by decide +kernel
theorem dX7_hours_39 : decode cX7_hours 39 = .ok (.ifCond .ne 10, 3) := by decide +kernel
theorem dX7_hours_42 : decode cX7_hours 42 = .ok (.aload_n 0, 1) := by decide +kernel
theorem dX7_hours_43 : decode cX7_hours 43 = .ok (.bipush (-2), 2) := by decide +kernel
theorem dX7_hours_45 : decode cX7_hours 45 = .ok (.invokevirtual 167, 3) := by decide +kernel
theorem dX7_hours_48 : decode cX7_hours 48 = .ok (.ireturn, 1) := by decide +kernel
theorem dX7_hours_49 : decode cX7_hours 49 = .ok (.aload_n 0, 1) := by decide +kernel
theorem dX7_hours_50 : decode cX7_hours 50 = .ok (.getfield 53, 3) := by decide +kernel
theorem dX7_hours_53 : decode cX7_hours 53 = .ok (.iload_n 1, 1) := by decide +kernel
theorem dX7_hours_54 : decode cX7_hours 54 = .ok (.iaload, 1) := by decide +kernel
theorem dX7_hours_55 : decode cX7_hours 55 = .ok (.istore 4, 2) := by decide +kernel
theorem dX7_hours_57 : decode cX7_hours 57 = .ok (.aload_n 0, 1) := by decide +kernel
theorem dX7_hours_58 : decode cX7_hours 58 = .ok (.getfield 53, 3) := by decide +kernel
theorem dX7_hours_61 : decode cX7_hours 61 = .ok (.iload_n 2, 1) := by decide +kernel
theorem dX7_hours_62 : decode cX7_hours 62 = .ok (.iaload, 1) := by decide +kernel
theorem dX7_hours_63 : decode cX7_hours 63 = .ok (.istore 5, 2) := by decide +kernel
theorem dX7_hours_65 : decode cX7_hours 65 = .ok (.iconst (-1), 1) := by decide +kernel
theorem dX7_hours_66 : decode cX7_hours 66 = .ok (.istore 6, 2) := by decide +kernel
theorem dX7_hours_68 : decode cX7_hours 68 = .ok (.iconst 0, 1) := by decide +kernel
theorem dX7_hours_69 : decode cX7_hours 69 = .ok (.istore 7, 2) := by decide +kernel
theorem dX7_hours_71 : decode cX7_hours 71 = .ok (.iconst 0, 1) := by decide +kernel
theorem dX7_hours_72 : decode cX7_hours 72 = .ok (.istore 8, 2) := by decide +kernel
theorem dX7_hours_74 : decode cX7_hours 74 = .ok (.iload 8, 2) := by decide +kernel
theorem dX7_hours_76 : decode cX7_hours 76 = .ok (.bipush 64, 2) := by decide +kernel
theorem dX7_hours_78 : decode cX7_hours 78 = .ok (.if_icmp .ge 96, 3) := by decide +kernel
theorem dX7_hours_81 : decode cX7_hours 81 = .ok (.aload_n 0, 1) := by decide +kernel
theorem dX7_hours_82 : decode cX7_hours 82 = .ok (.getfield 53, 3) := by decide +kernel
theorem dX7_hours_85 : decode cX7_hours 85 = .ok (.iload_n 1, 1) := by decide +kernel
theorem dX7_hours_86 : decode cX7_hours 86 = .ok (.iload 8, 2) := by decide +kernel
theorem dX7_hours_88 : decode cX7_hours 88 = .ok (.bipush 8, 2) := by decide +kernel
theorem dX7_hours_90 : decode cX7_hours 90 = .ok (.idiv, 1) := by decide +kernel
theorem dX7_hours_91 : decode cX7_hours 91 = .ok (.iastore, 1) := by decide +kernel
theorem dX7_hours_92 : decode cX7_hours 92 = .ok (.aload_n 0, 1) := by decide +kernel
theorem dX7_hours_93 : decode cX7_hours 93 = .ok (.getfield 53, 3) := by decide +kernel
theorem dX7_hours_96 : decode cX7_hours 96 = .ok (.iload_n 2, 1) := by decide +kernel
theorem dX7_hours_97 : decode cX7_hours 97 = .ok (.iload 8, 2) := by decide +kernel
theorem dX7_hours_99 : decode cX7_hours 99 = .ok (.bipush 8, 2) := by decide +kernel
theorem dX7_hours_101 : decode cX7_hours 101 = .ok (.irem, 1) := by decide +kernel
theorem dX7_hours_102 : decode cX7_hours 102 = .ok (.iastore, 1) := by decide +kernel
theorem dX7_hours_103 : decode cX7_hours 103 = .ok (.aload_n 0, 1) := by decide +kernel
theorem dX7_hours_104 : decode cX7_hours 104 = .ok (.invokevirtual 160, 3) := by decide +kernel
theorem dX7_hours_107 : decode cX7_hours 107 = .ok (.istore 9, 2) := by decide +kernel
theorem dX7_hours_109 : decode cX7_hours 109 = .ok (.iload 6, 2) := by decide +kernel
theorem dX7_hours_111 : decode cX7_hours 111 = .ok (.ifCond .lt 10, 3) := by decide +kernel
theorem dX7_hours_114 : decode cX7_hours 114 = .ok (.iload 9, 2) := by decide +kernel
theorem dX7_hours_116 : decode cX7_hours 116 = .ok (.iload 7, 2) := by decide +kernel
theorem dX7_hours_118 : decode cX7_hours 118 = .ok (.if_icmp .ge 7, 3) := by decide +kernel
theorem dX7_hours_121 : decode cX7_hours 121 = .ok (.iconst 1, 1) := by decide +kernel
theorem dX7_hours_122 : decode cX7_hours 122 = .ok (.goto 4, 3) := by decide +kernel
theorem dX7_hours_125 : decode cX7_hours 125 = .ok (.iconst 0, 1) := by decide +kernel
theorem dX7_hours_126 : decode cX7_hours 126 = .ok (.istore 10, 2) := by decide +kernel
theorem dX7_hours_128 : decode cX7_hours 128 = .ok (.iload 10, 2) := by decide +kernel
theorem dX7_hours_130 : decode cX7_hours 130 = .ok (.ifCond .eq 20, 3) := by decide +kernel
theorem dX7_hours_133 : decode cX7_hours 133 = .ok (.bipush 10, 2) := by decide +kernel
theorem dX7_hours_135 : decode cX7_hours 135 = .ok (.iload 8, 2) := by decide +kernel
theorem dX7_hours_137 : decode cX7_hours 137 = .ok (.bipush 8, 2) := by decide +kernel
theorem dX7_hours_139 : decode cX7_hours 139 = .ok (.idiv, 1) := by decide +kernel
theorem dX7_hours_140 : decode cX7_hours 140 = .ok (.imul, 1) := by decide +kernel
theorem dX7_hours_141 : decode cX7_hours 141 = .ok (.iload 8, 2) := by decide +kernel
theorem dX7_hours_143 : decode cX7_hours 143 = .ok (.bipush 8, 2) := by decide +kernel
theorem dX7_hours_145 : decode cX7_hours 145 = .ok (.irem, 1) := by decide +kernel
theorem dX7_hours_146 : decode cX7_hours 146 = .ok (.iadd, 1) := by decide +kernel
theorem dX7_hours_147 : decode cX7_hours 147 = .ok (.goto 5, 3) := by decide +kernel
theorem dX7_hours_150 : decode cX7_hours 150 = .ok (.iload 6, 2) := by decide +kernel
theorem dX7_hours_152 : decode cX7_hours 152 = .ok (.istore 6, 2) := by decide +kernel
theorem dX7_hours_154 : decode cX7_hours 154 = .ok (.iload 10, 2) := by decide +kernel
theorem dX7_hours_156 : decode cX7_hours 156 = .ok (.ifCond .eq 8, 3) := by decide +kernel
theorem dX7_hours_159 : decode cX7_hours 159 = .ok (.iload 9, 2) := by decide +kernel
theorem dX7_hours_161 : decode cX7_hours 161 = .ok (.goto 5, 3) := by decide +kernel
theorem dX7_hours_164 : decode cX7_hours 164 = .ok (.iload 7, 2) := by decide +kernel
theorem dX7_hours_166 : decode cX7_hours 166 = .ok (.istore 7, 2) := by decide +kernel
theorem dX7_hours_168 : decode cX7_hours 168 = .ok (.iinc 8 1, 3) := by decide +kernel
theorem dX7_hours_171 : decode cX7_hours 171 = .ok (.goto (-97), 3) := by decide +kernel
theorem dX7_hours_174 : decode cX7_hours 174 = .ok (.aload_n 0, 1) := by decide +kernel
theorem dX7_hours_175 : decode cX7_hours 175 = .ok (.getfield 53, 3) := by decide +kernel
theorem dX7_hours_178 : decode cX7_hours 178 = .ok (.iload_n 1, 1) := by decide +kernel
theorem dX7_hours_179 : decode cX7_hours 179 = .ok (.iload 4, 2) := by decide +kernel
theorem dX7_hours_181 : decode cX7_hours 181 = .ok (.iastore, 1) := by decide +kernel
theorem dX7_hours_182 : decode cX7_hours 182 = .ok (.aload_n 0, 1) := by decide +kernel
theorem dX7_hours_183 : decode cX7_hours 183 = .ok (.getfield 53, 3) := by decide +kernel
theorem dX7_hours_186 : decode cX7_hours 186 = .ok (.iload_n 2, 1) := by decide +kernel
theorem dX7_hours_187 : decode cX7_hours 187 = .ok (.iload 5, 2) := by decide +kernel
theorem dX7_hours_189 : decode cX7_hours 189 = .ok (.iastore, 1) := by decide +kernel
theorem dX7_hours_190 : decode cX7_hours 190 = .ok (.iload_n 3, 1) := by decide +kernel
theorem dX7_hours_191 : decode cX7_hours 191 = .ok (.ifCond .ne 8, 3) := by decide +kernel
theorem dX7_hours_194 : decode cX7_hours 194 = .ok (.iload 6, 2) := by decide +kernel
theorem dX7_hours_196 : decode cX7_hours 196 = .ok (.goto 5, 3) := by decide +kernel
theorem dX7_hours_199 : decode cX7_hours 199 = .ok (.iload 7, 2) := by decide +kernel
theorem dX7_hours_201 : decode cX7_hours 201 = .ok (.ireturn, 1) := by decide +kernel
set_option maxRecDepth 100000 in
set_option maxHeartbeats 4000000 in
theorem g_X7_hours_26 (ids : List (Nat × Nat)) (Hn : Ndp ids)  (H0_29 : InR ids 0 29 56)   (t0 : Sg) : Gj kI mX7_hours ids 26 [some (aR (0, 29)), none, none, none, none, none, none, none, none, none, none] [] t0 (f_X7_hours_26 t0) := by
  unfold f_X7_hours_26
  refine G_st (x_aload_n dX7_hours_26 rfl) ?_
  refine G_st (x_iconst (-1 : Int32) dX7_hours_27 rfl) ?_
  refine G_bd (fun x6 t7 h8 => ?_)
  refine G_st (x_callV [] (c_X7_refuse ids Hn (-1 : Int32) H0_29 _ _ _ h8) dX7_hours_28 tw_981 kc_X7_refuse (H0_29 29 (Nat.le_of_ble_eq_true rfl) (Nat.le_of_ble_eq_true rfl)) rfl rfl rfl rfl ⟨Nat.le_of_ble_eq_true rfl, Nat.le_of_ble_eq_true rfl⟩ (Nat.le_of_ble_eq_true rfl) rfl) ?_
  exact G_ret rfl ⟨dX7_hours_31, _, rfl, rfl⟩ rfl
set_option maxRecDepth 100000 in
set_option maxHeartbeats 4000000 in
theorem g_X7_hours_152 (ids : List (Nat × Nat)) (Hn : Ndp ids)  (H0_29 : InR ids 0 29 56) (k74 : Int32 → Int32 → Int32 → Int32 → Int32 → Int32 → Int32 → Int32 → Sg → Option (Int32 × Sg)) (hk74 : ∀ (v1 : Int32) (v2 : Int32) (v3 : Int32) (v4 : Int32) (v5 : Int32) (v6 : Int32) (v7 : Int32) (v8 : Int32) (t0 : Sg), Gj kI mX7_hours ids 74 [some (aR (0, 29)), some (aI v1), some (aI v2), some (aI v3), some (aI v4), some (aI v5), some (aI v6), some (aI v7), some (aI v8), none, none] [] t0 (k74 v1 v2 v3 v4 v5 v6 v7 v8 t0)) (v1 : Int32) (v2 : Int32) (v3 : Int32) (v4 : Int32) (v5 : Int32) (v7 : Int32) (v8 : Int32) (v9 : Int32) (v10 : Int32) (w0 : Int32) (t0 : Sg) : Gj kI mX7_hours ids 152 [some (aR (0, 29)), some (aI v1), some (aI v2), some (aI v3), some (aI v4), some (aI v5), none, some (aI v7), some (aI v8), some (aI v9), some (aI v10)] [aI w0] t0 (f_X7_hours_152 k74 v1 v2 v3 v4 v5 v7 v8 v9 v10 w0 t0) := by
  unfold f_X7_hours_152
  refine G_st (x_istore [some (aR (0, 29)), some (aI v1), some (aI v2), some (aI v3), some (aI v4), some (aI v5), some (aI w0), some (aI v7), some (aI v8), some (aI v9), some (aI v10)] dX7_hours_152 (Nat.le_of_ble_eq_true rfl) rfl rfl) ?_
  refine G_st (x_iload dX7_hours_154 rfl) ?_
  have e45 : Tj mX7_hours ids 156 [some (aR (0, 29)), some (aI v1), some (aI v2), some (aI v3), some (aI v4), some (aI v5), some (aI w0), some (aI v7), some (aI v8), some (aI v9), some (aI v10)] [aI v10] t0 166 [some (aR (0, 29)), some (aI v1), some (aI v2), some (aI v3), some (aI v4), some (aI v5), some (aI w0), some (aI v7), some (aI v8), some (aI v9), some (aI v10)] [aI (if v10 = 0 then v7 else v9)] t0 := by
    refine Tj.dia (fun c44 => ?_) (fun c44 => ?_)
    · refine Tj.tr (x_if_eq_t (tgt := 164) dX7_hours_156 (by decide) c44) ?_
      refine Tj.tr (x_iload dX7_hours_164 rfl) ?_
      exact Tj.rf
    · refine Tj.tr (x_if_eq_f 164 dX7_hours_156 (by decide) c44) ?_
      refine Tj.tr (x_iload dX7_hours_159 rfl) ?_
      refine Tj.tr (x_goto (tgt := 166) dX7_hours_161 (by decide)) ?_
      exact Tj.rf
  refine G_st e45 ?_
  refine G_bvI (fun x46 => ?_)
  refine G_st (x_istore [some (aR (0, 29)), some (aI v1), some (aI v2), some (aI v3), some (aI v4), some (aI v5), some (aI w0), some (aI x46), some (aI v8), some (aI v9), some (aI v10)] dX7_hours_166 (Nat.le_of_ble_eq_true rfl) rfl rfl) ?_
  refine G_st (x_iinc (v8 + (1 : Int32)) [some (aR (0, 29)), some (aI v1), some (aI v2), some (aI v3), some (aI v4), some (aI v5), some (aI w0), some (aI x46), some (aI (v8 + (1 : Int32))), some (aI v9), some (aI v10)] dX7_hours_168 (Nat.le_of_ble_eq_true rfl) rfl rfl rfl rfl) ?_
  refine G_st (x_goto (tgt := 74) dX7_hours_171 (by decide)) ?_
  refine G_weak _ ?_ (hk74 v1 v2 v3 v4 v5 w0 x46 (v8 + (1 : Int32)) t0)
  exact (leL_s (leL_s (leL_s (leL_s (leL_s (leL_s (leL_s (leL_s (leL_s (leL_n (leL_n (leL_e _))))))))))))
set_option maxRecDepth 100000 in
set_option maxHeartbeats 4000000 in
theorem g_X7_hours_74 (ids : List (Nat × Nat)) (Hn : Ndp ids)  (H0_29 : InR ids 0 29 56)  : ∀ (n : Nat) (v1 : Int32) (v2 : Int32) (v3 : Int32) (v4 : Int32) (v5 : Int32) (v6 : Int32) (v7 : Int32) (v8 : Int32) (t0 : Sg), Gj kI mX7_hours ids 74 [some (aR (0, 29)), some (aI v1), some (aI v2), some (aI v3), some (aI v4), some (aI v5), some (aI v6), some (aI v7), some (aI v8), none, none] [] t0 (f_X7_hours_74 n v1 v2 v3 v4 v5 v6 v7 v8 t0) := by
  intro n
  induction n with
  | zero => intro v1 v2 v3 v4 v5 v6 v7 v8 t0; exact G_none
  | succ n ih =>
    intro v1 v2 v3 v4 v5 v6 v7 v8 t0
    rw [f_X7_hours_74]
    refine G_st (x_iload dX7_hours_74 rfl) ?_
    refine G_st (x_bipush (64 : Int32) dX7_hours_76 rfl) ?_
    refine G_ite (fun c25 => ?_) (fun c25 => ?_)
    · refine G_st (x_icmp_ge_t (tgt := 174) dX7_hours_78 (by decide) c25) ?_
      refine G_st (x_aload_n dX7_hours_174 rfl) ?_
      refine G_st (x_get (k := 17) (aR (0, 42)) dX7_hours_175 (H0_29 29 (Nat.le_of_ble_eq_true rfl) (Nat.le_of_ble_eq_true rfl)) rfl rfl rfl rfl inTX7 (Nat.le_of_ble_eq_true rfl) tw_864 (fun ad => rfl)) ?_
      refine G_st (x_iload_n dX7_hours_178 rfl) ?_
      refine G_st (x_iload dX7_hours_179 rfl) ?_
      refine G_chk (fun c26 => ?_)
      refine G_st (x_iastore dX7_hours_181 (H0_29 42 (Nat.le_of_ble_eq_true rfl) (Nat.le_of_ble_eq_true rfl)) rfl c26) ?_
      refine G_bvS (fun t27 => ?_)
      refine G_st (x_aload_n dX7_hours_182 rfl) ?_
      refine G_st (x_get (k := 17) (aR (0, 42)) dX7_hours_183 (H0_29 29 (Nat.le_of_ble_eq_true rfl) (Nat.le_of_ble_eq_true rfl)) rfl rfl rfl rfl inTX7 (Nat.le_of_ble_eq_true rfl) tw_864 (fun ad => rfl)) ?_
      refine G_st (x_iload_n dX7_hours_186 rfl) ?_
      refine G_st (x_iload dX7_hours_187 rfl) ?_
      refine G_chk (fun c28 => ?_)
      refine G_st (x_iastore dX7_hours_189 (H0_29 42 (Nat.le_of_ble_eq_true rfl) (Nat.le_of_ble_eq_true rfl)) rfl c28) ?_
      refine G_bvS (fun t29 => ?_)
      refine G_st (x_iload_n dX7_hours_190 rfl) ?_
      have e31 : Tj mX7_hours ids 191 [some (aR (0, 29)), some (aI v1), some (aI v2), some (aI v3), some (aI v4), some (aI v5), some (aI v6), some (aI v7), some (aI v8), none, none] [aI v3] t29 201 [some (aR (0, 29)), some (aI v1), some (aI v2), some (aI v3), some (aI v4), some (aI v5), some (aI v6), some (aI v7), some (aI v8), none, none] [aI (if v3 = 0 then v6 else v7)] t29 := by
        refine Tj.dia (fun c30 => ?_) (fun c30 => ?_)
        · refine Tj.tr (x_if_ne_f 199 dX7_hours_191 (by decide) c30) ?_
          refine Tj.tr (x_iload dX7_hours_194 rfl) ?_
          refine Tj.tr (x_goto (tgt := 201) dX7_hours_196 (by decide)) ?_
          exact Tj.rf
        · refine Tj.tr (x_if_ne_t (tgt := 199) dX7_hours_191 (by decide) c30) ?_
          refine Tj.tr (x_iload dX7_hours_199 rfl) ?_
          exact Tj.rf
      refine G_st e31 ?_
      exact G_ret rfl ⟨dX7_hours_201, _, rfl, rfl⟩ rfl
    · refine G_st (x_icmp_ge_f 174 dX7_hours_78 (by decide) c25) ?_
      refine G_st (x_aload_n dX7_hours_81 rfl) ?_
      refine G_st (x_get (k := 17) (aR (0, 42)) dX7_hours_82 (H0_29 29 (Nat.le_of_ble_eq_true rfl) (Nat.le_of_ble_eq_true rfl)) rfl rfl rfl rfl inTX7 (Nat.le_of_ble_eq_true rfl) tw_864 (fun ad => rfl)) ?_
      refine G_st (x_iload_n dX7_hours_85 rfl) ?_
      refine G_st (x_iload dX7_hours_86 rfl) ?_
      refine G_st (x_bipush (8 : Int32) dX7_hours_88 rfl) ?_
      refine G_st (x_idiv dX7_hours_90 (by decide)) ?_
      refine G_chk (fun c32 => ?_)
      refine G_st (x_iastore dX7_hours_91 (H0_29 42 (Nat.le_of_ble_eq_true rfl) (Nat.le_of_ble_eq_true rfl)) rfl c32) ?_
      refine G_bvS (fun t33 => ?_)
      refine G_st (x_aload_n dX7_hours_92 rfl) ?_
      refine G_st (x_get (k := 17) (aR (0, 42)) dX7_hours_93 (H0_29 29 (Nat.le_of_ble_eq_true rfl) (Nat.le_of_ble_eq_true rfl)) rfl rfl rfl rfl inTX7 (Nat.le_of_ble_eq_true rfl) tw_864 (fun ad => rfl)) ?_
      refine G_st (x_iload_n dX7_hours_96 rfl) ?_
      refine G_st (x_iload dX7_hours_97 rfl) ?_
      refine G_st (x_bipush (8 : Int32) dX7_hours_99 rfl) ?_
      refine G_st (x_irem dX7_hours_101 (by decide)) ?_
      refine G_chk (fun c34 => ?_)
      refine G_st (x_iastore dX7_hours_102 (H0_29 42 (Nat.le_of_ble_eq_true rfl) (Nat.le_of_ble_eq_true rfl)) rfl c34) ?_
      refine G_bvS (fun t35 => ?_)
      refine G_st (x_aload_n dX7_hours_103 rfl) ?_
      refine G_bd (fun x36 t37 h38 => ?_)
      refine G_st (x_callV [] (c_X7_oneWeek ids Hn  H0_29 _ _ _ h38) dX7_hours_104 tw_1157 kc_X7_oneWeek (H0_29 29 (Nat.le_of_ble_eq_true rfl) (Nat.le_of_ble_eq_true rfl)) rfl rfl rfl rfl ⟨Nat.le_of_ble_eq_true rfl, Nat.le_of_ble_eq_true rfl⟩ (Nat.le_of_ble_eq_true rfl) rfl) ?_
      refine G_st (x_istore [some (aR (0, 29)), some (aI v1), some (aI v2), some (aI v3), some (aI v4), some (aI v5), some (aI v6), some (aI v7), some (aI v8), some (aI x36), none] dX7_hours_107 (Nat.le_of_ble_eq_true rfl) rfl rfl) ?_
      refine G_st (x_iload dX7_hours_109 rfl) ?_
      have e41 : Tj mX7_hours ids 111 [some (aR (0, 29)), some (aI v1), some (aI v2), some (aI v3), some (aI v4), some (aI v5), some (aI v6), some (aI v7), some (aI v8), some (aI x36), none] [aI v6] t37 126 [some (aR (0, 29)), some (aI v1), some (aI v2), some (aI v3), some (aI v4), some (aI v5), some (aI v6), some (aI v7), some (aI v8), some (aI x36), none] [aI (if v6 < 0 then (1 : Int32) else (if v7 ≤ x36 then (0 : Int32) else (1 : Int32)))] t37 := by
        refine Tj.dia (fun c39 => ?_) (fun c39 => ?_)
        · refine Tj.tr (x_if_lt_t (tgt := 121) dX7_hours_111 (by decide) c39) ?_
          refine Tj.tr (x_iconst (1 : Int32) dX7_hours_121 rfl) ?_
          refine Tj.tr (x_goto (tgt := 126) dX7_hours_122 (by decide)) ?_
          exact Tj.rf
        · refine Tj.tr (x_if_lt_f 121 dX7_hours_111 (by decide) c39) ?_
          refine Tj.tr (x_iload dX7_hours_114 rfl) ?_
          refine Tj.tr (x_iload dX7_hours_116 rfl) ?_
          refine Tj.dia (fun c40 => ?_) (fun c40 => ?_)
          · refine Tj.tr (x_icmp_ge_t (tgt := 125) dX7_hours_118 (by decide) c40) ?_
            refine Tj.tr (x_iconst (0 : Int32) dX7_hours_125 rfl) ?_
            exact Tj.rf
          · refine Tj.tr (x_icmp_ge_f 125 dX7_hours_118 (by decide) c40) ?_
            refine Tj.tr (x_iconst (1 : Int32) dX7_hours_121 rfl) ?_
            refine Tj.tr (x_goto (tgt := 126) dX7_hours_122 (by decide)) ?_
            exact Tj.rf
      refine G_st e41 ?_
      refine G_bvI (fun x42 => ?_)
      refine G_st (x_istore [some (aR (0, 29)), some (aI v1), some (aI v2), some (aI v3), some (aI v4), some (aI v5), some (aI v6), some (aI v7), some (aI v8), some (aI x36), some (aI x42)] dX7_hours_126 (Nat.le_of_ble_eq_true rfl) rfl rfl) ?_
      refine G_st (x_iload dX7_hours_128 rfl) ?_
      refine G_ite (fun c43 => ?_) (fun c43 => ?_)
      · refine G_st (x_if_eq_t (tgt := 150) dX7_hours_130 (by decide) c43) ?_
        refine G_st (x_iload dX7_hours_150 rfl) ?_
        refine G_weak _ ?_ (g_X7_hours_152 ids Hn H0_29 (f_X7_hours_74 n) (ih) v1 v2 v3 v4 v5 v7 v8 x36 x42 v6 t37)
        exact (leL_s (leL_s (leL_s (leL_s (leL_s (leL_s (leL_n (leL_s (leL_s (leL_s (leL_s (leL_e _))))))))))))
      · refine G_st (x_if_eq_f 150 dX7_hours_130 (by decide) c43) ?_
        refine G_st (x_bipush (10 : Int32) dX7_hours_133 rfl) ?_
        refine G_st (x_iload dX7_hours_135 rfl) ?_
        refine G_st (x_bipush (8 : Int32) dX7_hours_137 rfl) ?_
        refine G_st (x_idiv dX7_hours_139 (by decide)) ?_
        refine G_st (x_imul dX7_hours_140) ?_
        refine G_st (x_iload dX7_hours_141 rfl) ?_
        refine G_st (x_bipush (8 : Int32) dX7_hours_143 rfl) ?_
        refine G_st (x_irem dX7_hours_145 (by decide)) ?_
        refine G_st (x_iadd dX7_hours_146) ?_
        refine G_st (x_goto (tgt := 152) dX7_hours_147 (by decide)) ?_
        refine G_weak _ ?_ (g_X7_hours_152 ids Hn H0_29 (f_X7_hours_74 n) (ih) v1 v2 v3 v4 v5 v7 v8 x36 x42 (((10 : Int32) * (v8 / (8 : Int32))) + (v8 - v8 / (8 : Int32) * (8 : Int32))) t37)
        exact (leL_s (leL_s (leL_s (leL_s (leL_s (leL_s (leL_n (leL_s (leL_s (leL_s (leL_s (leL_e _))))))))))))
set_option maxRecDepth 100000 in
set_option maxHeartbeats 4000000 in
theorem g_X7_hours (ids : List (Nat × Nat)) (Hn : Ndp ids) (v1 : Int32) (v2 : Int32) (v3 : Int32) (H0_29 : InR ids 0 29 56) (t0 : Sg) : Gj kI mX7_hours ids 0 [some (aR (0, 29)), some (aI v1), some (aI v2), some (aI v3), none, none, none, none, none, none, none] [] t0 (f_X7_hours v1 v2 v3 t0) := by
  unfold f_X7_hours
  refine G_st (x_aload_n dX7_hours_0 rfl) ?_
  refine G_st (x_iconst (0 : Int32) dX7_hours_1 rfl) ?_
  refine G_st (x_put (k := 18) (ty := .int) (v := aI (0 : Int32)) (z := (0 : Int32)) (upS t0 (0, 29) 18 (0 : Int32)) dX7_hours_2 (H0_29 29 (Nat.le_of_ble_eq_true rfl) (Nat.le_of_ble_eq_true rfl)) rfl rfl rfl rfl inTX7 tyX7_ok nmX7 (Nat.le_of_ble_eq_true rfl) tw_865 rfl rfl (fun ad => rfl) (fun ad => rfl) (fun ad => put_i0 ad _ _ _ _ rfl) rfl) ?_
  refine G_bvS (fun t1 => ?_)
  refine G_st (x_aload_n dX7_hours_5 rfl) ?_
  refine G_st (x_iload_n dX7_hours_6 rfl) ?_
  refine G_bd (fun x2 t3 h4 => ?_)
  refine G_st (x_callV [] (c_X7_isHabit ids Hn v1 H0_29 _ _ _ h4) dX7_hours_7 tw_1109 kc_X7_isHabit (H0_29 29 (Nat.le_of_ble_eq_true rfl) (Nat.le_of_ble_eq_true rfl)) rfl rfl rfl rfl ⟨Nat.le_of_ble_eq_true rfl, Nat.le_of_ble_eq_true rfl⟩ (Nat.le_of_ble_eq_true rfl) rfl) ?_
  refine G_ite (fun c5 => ?_) (fun c5 => ?_)
  · refine G_st (x_if_eq_t (tgt := 26) dX7_hours_10 (by decide) c5) ?_
    refine G_weak _ ?_ (g_X7_hours_26 ids Hn H0_29 t3)
    exact (leL_s (leL_n (leL_n (leL_n (leL_n (leL_n (leL_n (leL_n (leL_n (leL_n (leL_n (leL_e _))))))))))))
  · refine G_st (x_if_eq_f 26 dX7_hours_10 (by decide) c5) ?_
    refine G_st (x_aload_n dX7_hours_13 rfl) ?_
    refine G_st (x_iload_n dX7_hours_14 rfl) ?_
    refine G_bd (fun x9 t10 h11 => ?_)
    refine G_st (x_callV [] (c_X7_isHabit ids Hn v2 H0_29 _ _ _ h11) dX7_hours_15 tw_1109 kc_X7_isHabit (H0_29 29 (Nat.le_of_ble_eq_true rfl) (Nat.le_of_ble_eq_true rfl)) rfl rfl rfl rfl ⟨Nat.le_of_ble_eq_true rfl, Nat.le_of_ble_eq_true rfl⟩ (Nat.le_of_ble_eq_true rfl) rfl) ?_
    refine G_ite (fun c12 => ?_) (fun c12 => ?_)
    · refine G_st (x_if_eq_t (tgt := 26) dX7_hours_18 (by decide) c12) ?_
      refine G_weak _ ?_ (g_X7_hours_26 ids Hn H0_29 t10)
      exact (leL_s (leL_n (leL_n (leL_n (leL_n (leL_n (leL_n (leL_n (leL_n (leL_n (leL_n (leL_e _))))))))))))
    · refine G_st (x_if_eq_f 26 dX7_hours_18 (by decide) c12) ?_
      refine G_st (x_iload_n dX7_hours_21 rfl) ?_
      refine G_st (x_iload_n dX7_hours_22 rfl) ?_
      refine G_ite (fun c13 => ?_) (fun c13 => ?_)
      · refine G_st (x_icmp_ne_f 32 dX7_hours_23 (by decide) c13) ?_
        refine G_weak _ ?_ (g_X7_hours_26 ids Hn H0_29 t10)
        exact (leL_s (leL_n (leL_n (leL_n (leL_n (leL_n (leL_n (leL_n (leL_n (leL_n (leL_n (leL_e _))))))))))))
      · refine G_st (x_icmp_ne_t (tgt := 32) dX7_hours_23 (by decide) c13) ?_
        refine G_st (x_iload_n dX7_hours_32 rfl) ?_
        refine G_st (x_i2l dX7_hours_33) ?_
        refine G_st (x_lconst (0 : Int64) dX7_hours_34 rfl) ?_
        refine G_st (x_lconst (1 : Int64) dX7_hours_35 rfl) ?_
        refine G_bd (fun x14 t15 h16 => ?_)
        refine G_st (x_callS [] (c_X7_in ids Hn (v3).toInt64 (0 : Int64) (1 : Int64)  _ _ _ h16) dX7_hours_36 tw_1003 kc_X7_in rfl ⟨Nat.le_of_ble_eq_true rfl, Nat.le_of_ble_eq_true rfl⟩ (Nat.le_of_ble_eq_true rfl) rfl) ?_
        refine G_ite (fun c17 => ?_) (fun c17 => ?_)
        · refine G_st (x_if_ne_f 49 dX7_hours_39 (by decide) c17) ?_
          refine G_st (x_aload_n dX7_hours_42 rfl) ?_
          refine G_st (x_bipush (-2 : Int32) dX7_hours_43 rfl) ?_
          refine G_bd (fun x18 t19 h20 => ?_)
          refine G_st (x_callV [] (c_X7_refuse ids Hn (-2 : Int32) H0_29 _ _ _ h20) dX7_hours_45 tw_981 kc_X7_refuse (H0_29 29 (Nat.le_of_ble_eq_true rfl) (Nat.le_of_ble_eq_true rfl)) rfl rfl rfl rfl ⟨Nat.le_of_ble_eq_true rfl, Nat.le_of_ble_eq_true rfl⟩ (Nat.le_of_ble_eq_true rfl) rfl) ?_
          exact G_ret rfl ⟨dX7_hours_48, _, rfl, rfl⟩ rfl
        · refine G_st (x_if_ne_t (tgt := 49) dX7_hours_39 (by decide) c17) ?_
          refine G_st (x_aload_n dX7_hours_49 rfl) ?_
          refine G_st (x_get (k := 17) (aR (0, 42)) dX7_hours_50 (H0_29 29 (Nat.le_of_ble_eq_true rfl) (Nat.le_of_ble_eq_true rfl)) rfl rfl rfl rfl inTX7 (Nat.le_of_ble_eq_true rfl) tw_864 (fun ad => rfl)) ?_
          refine G_st (x_iload_n dX7_hours_53 rfl) ?_
          refine G_chk (fun c21 => ?_)
          refine G_st (x_iaload dX7_hours_54 (H0_29 42 (Nat.le_of_ble_eq_true rfl) (Nat.le_of_ble_eq_true rfl)) rfl c21) ?_
          refine G_bvI (fun x22 => ?_)
          refine G_st (x_istore [some (aR (0, 29)), some (aI v1), some (aI v2), some (aI v3), some (aI x22), none, none, none, none, none, none] dX7_hours_55 (Nat.le_of_ble_eq_true rfl) rfl rfl) ?_
          refine G_st (x_aload_n dX7_hours_57 rfl) ?_
          refine G_st (x_get (k := 17) (aR (0, 42)) dX7_hours_58 (H0_29 29 (Nat.le_of_ble_eq_true rfl) (Nat.le_of_ble_eq_true rfl)) rfl rfl rfl rfl inTX7 (Nat.le_of_ble_eq_true rfl) tw_864 (fun ad => rfl)) ?_
          refine G_st (x_iload_n dX7_hours_61 rfl) ?_
          refine G_chk (fun c23 => ?_)
          refine G_st (x_iaload dX7_hours_62 (H0_29 42 (Nat.le_of_ble_eq_true rfl) (Nat.le_of_ble_eq_true rfl)) rfl c23) ?_
          refine G_bvI (fun x24 => ?_)
          refine G_st (x_istore [some (aR (0, 29)), some (aI v1), some (aI v2), some (aI v3), some (aI x22), some (aI x24), none, none, none, none, none] dX7_hours_63 (Nat.le_of_ble_eq_true rfl) rfl rfl) ?_
          refine G_st (x_iconst (-1 : Int32) dX7_hours_65 rfl) ?_
          refine G_st (x_istore [some (aR (0, 29)), some (aI v1), some (aI v2), some (aI v3), some (aI x22), some (aI x24), some (aI (-1 : Int32)), none, none, none, none] dX7_hours_66 (Nat.le_of_ble_eq_true rfl) rfl rfl) ?_
          refine G_st (x_iconst (0 : Int32) dX7_hours_68 rfl) ?_
          refine G_st (x_istore [some (aR (0, 29)), some (aI v1), some (aI v2), some (aI v3), some (aI x22), some (aI x24), some (aI (-1 : Int32)), some (aI (0 : Int32)), none, none, none] dX7_hours_69 (Nat.le_of_ble_eq_true rfl) rfl rfl) ?_
          refine G_st (x_iconst (0 : Int32) dX7_hours_71 rfl) ?_
          refine G_st (x_istore [some (aR (0, 29)), some (aI v1), some (aI v2), some (aI v3), some (aI x22), some (aI x24), some (aI (-1 : Int32)), some (aI (0 : Int32)), some (aI (0 : Int32)), none, none] dX7_hours_72 (Nat.le_of_ble_eq_true rfl) rfl rfl) ?_
          refine G_weak _ ?_ (g_X7_hours_74 ids Hn H0_29 fuel v1 v2 v3 x22 x24 (-1 : Int32) (0 : Int32) (0 : Int32) t15)
          exact (leL_s (leL_s (leL_s (leL_s (leL_s (leL_s (leL_s (leL_s (leL_s (leL_n (leL_n (leL_e _))))))))))))
set_option maxRecDepth 100000 in
set_option maxHeartbeats 4000000 in
theorem c_X7_hours (ids : List (Nat × Nat)) (Hn : Ndp ids) (v1 : Int32) (v2 : Int32) (v3 : Int32) (H0_29 : InR ids 0 29 56) (t0 : Sg) (r : Int32) (t1 : Sg) (hf : f_X7_hours v1 v2 v3 t0 = some (r, t1)) : Mt0 mX7_hours yX7_hours ids [aR (0, 29), aI v1, aI v2, aI v3] t0 (some (aI r)) t1 :=
  Mt_of (x := (r, t1)) (g_X7_hours ids Hn v1 v2 v3 H0_29 t0) hf (fun _ _ => trivial) (by decide) rfl Hn (fun _ => rfl) (fun _ => Nat.le_of_ble_eq_true rfl)
theorem dX7_keepTimes_0 : decode cX7_keepTimes 0 = .ok (.iconst 0, 1) := by decide +kernel
theorem dX7_keepTimes_1 : decode cX7_keepTimes 1 = .ok (.istore_n 1, 1) := by decide +kernel
theorem dX7_keepTimes_2 : decode cX7_keepTimes 2 = .ok (.iload_n 1, 1) := by decide +kernel
theorem dX7_keepTimes_3 : decode cX7_keepTimes 3 = .ok (.bipush 8, 2) := by decide +kernel
theorem dX7_keepTimes_5 : decode cX7_keepTimes 5 = .ok (.if_icmp .ge 21, 3) := by decide +kernel
theorem dX7_keepTimes_8 : decode cX7_keepTimes 8 = .ok (.aload_n 0, 1) := by decide +kernel
theorem dX7_keepTimes_9 : decode cX7_keepTimes 9 = .ok (.getfield 89, 3) := by decide +kernel
theorem dX7_keepTimes_12 : decode cX7_keepTimes 12 = .ok (.iload_n 1, 1) := by decide +kernel
theorem dX7_keepTimes_13 : decode cX7_keepTimes 13 = .ok (.aload_n 0, 1) := by decide +kernel
theorem dX7_keepTimes_14 : decode cX7_keepTimes 14 = .ok (.getfield 53, 3) := by decide +kernel
theorem dX7_keepTimes_17 : decode cX7_keepTimes 17 = .ok (.iload_n 1, 1) := by decide +kernel
theorem dX7_keepTimes_18 : decode cX7_keepTimes 18 = .ok (.iaload, 1) := by decide +kernel
theorem dX7_keepTimes_19 : decode cX7_keepTimes 19 = .ok (.iastore, 1) := by decide +kernel
theorem dX7_keepTimes_20 : decode cX7_keepTimes 20 = .ok (.iinc 1 1, 3) := by decide +kernel
theorem dX7_keepTimes_23 : decode cX7_keepTimes 23 = .ok (.goto (-21), 3) := by decide +kernel
theorem dX7_keepTimes_26 : decode cX7_keepTimes 26 = .ok (.return_, 1) := by decide +kernel
set_option maxRecDepth 100000 in
set_option maxHeartbeats 4000000 in
theorem g_X7_keepTimes_2 (ids : List (Nat × Nat)) (Hn : Ndp ids)  (H0_29 : InR ids 0 29 56)  : ∀ (n : Nat) (v1 : Int32) (t0 : Sg), Gj kV mX7_keepTimes ids 2 [some (aR (0, 29)), some (aI v1)] [] t0 (f_X7_keepTimes_2 n v1 t0) := by
  intro n
  induction n with
  | zero => intro v1 t0; exact G_none
  | succ n ih =>
    intro v1 t0
    rw [f_X7_keepTimes_2]
    refine G_st (x_iload_n dX7_keepTimes_2 rfl) ?_
    refine G_st (x_bipush (8 : Int32) dX7_keepTimes_3 rfl) ?_
    refine G_ite (fun c1 => ?_) (fun c1 => ?_)
    · refine G_st (x_icmp_ge_t (tgt := 26) dX7_keepTimes_5 (by decide) c1) ?_
      exact G_ret rfl ⟨rfl, dX7_keepTimes_26⟩ rfl
    · refine G_st (x_icmp_ge_f 26 dX7_keepTimes_5 (by decide) c1) ?_
      refine G_st (x_aload_n dX7_keepTimes_8 rfl) ?_
      refine G_st (x_get (k := 39) (aR (0, 54)) dX7_keepTimes_9 (H0_29 29 (Nat.le_of_ble_eq_true rfl) (Nat.le_of_ble_eq_true rfl)) rfl rfl rfl rfl inTX7 (Nat.le_of_ble_eq_true rfl) tw_886 (fun ad => rfl)) ?_
      refine G_st (x_iload_n dX7_keepTimes_12 rfl) ?_
      refine G_st (x_aload_n dX7_keepTimes_13 rfl) ?_
      refine G_st (x_get (k := 17) (aR (0, 42)) dX7_keepTimes_14 (H0_29 29 (Nat.le_of_ble_eq_true rfl) (Nat.le_of_ble_eq_true rfl)) rfl rfl rfl rfl inTX7 (Nat.le_of_ble_eq_true rfl) tw_864 (fun ad => rfl)) ?_
      refine G_st (x_iload_n dX7_keepTimes_17 rfl) ?_
      refine G_chk (fun c2 => ?_)
      refine G_st (x_iaload dX7_keepTimes_18 (H0_29 42 (Nat.le_of_ble_eq_true rfl) (Nat.le_of_ble_eq_true rfl)) rfl c2) ?_
      refine G_chk (fun c3 => ?_)
      refine G_st (x_iastore dX7_keepTimes_19 (H0_29 54 (Nat.le_of_ble_eq_true rfl) (Nat.le_of_ble_eq_true rfl)) rfl c3) ?_
      refine G_bvS (fun t4 => ?_)
      refine G_st (x_iinc (v1 + (1 : Int32)) [some (aR (0, 29)), some (aI (v1 + (1 : Int32)))] dX7_keepTimes_20 (Nat.le_of_ble_eq_true rfl) rfl rfl rfl rfl) ?_
      refine G_st (x_goto (tgt := 2) dX7_keepTimes_23 (by decide)) ?_
      refine G_weak _ ?_ ((ih) (v1 + (1 : Int32)) t4)
      exact (leL_s (leL_s (leL_e _)))
set_option maxRecDepth 100000 in
set_option maxHeartbeats 4000000 in
theorem g_X7_keepTimes (ids : List (Nat × Nat)) (Hn : Ndp ids)  (H0_29 : InR ids 0 29 56) (t0 : Sg) : Gj kV mX7_keepTimes ids 0 [some (aR (0, 29)), none] [] t0 (f_X7_keepTimes t0) := by
  unfold f_X7_keepTimes
  refine G_st (x_iconst (0 : Int32) dX7_keepTimes_0 rfl) ?_
  refine G_st (x_istore_n [some (aR (0, 29)), some (aI (0 : Int32))] dX7_keepTimes_1 (Nat.le_of_ble_eq_true rfl) rfl rfl) ?_
  refine G_weak _ ?_ (g_X7_keepTimes_2 ids Hn H0_29 fuel (0 : Int32) t0)
  exact (leL_s (leL_s (leL_e _)))
set_option maxRecDepth 100000 in
set_option maxHeartbeats 4000000 in
theorem c_X7_keepTimes (ids : List (Nat × Nat)) (Hn : Ndp ids)  (H0_29 : InR ids 0 29 56) (t0 : Sg) (r : Unit) (t1 : Sg) (hf : f_X7_keepTimes t0 = some (r, t1)) : Mt0 mX7_keepTimes yX7_keepTimes ids [aR (0, 29)] t0 none t1 :=
  Mt_of (x := (r, t1)) (g_X7_keepTimes ids Hn  H0_29 t0) hf (fun _ _ => trivial) (by decide) rfl Hn (fun _ => rfl) (fun _ => Nat.le_of_ble_eq_true rfl)
theorem dX7_timesBack_0 : decode cX7_timesBack 0 = .ok (.iconst 0, 1) := by decide +kernel
theorem dX7_timesBack_1 : decode cX7_timesBack 1 = .ok (.istore_n 1, 1) := by decide +kernel
theorem dX7_timesBack_2 : decode cX7_timesBack 2 = .ok (.iload_n 1, 1) := by decide +kernel
theorem dX7_timesBack_3 : decode cX7_timesBack 3 = .ok (.bipush 8, 2) := by decide +kernel
theorem dX7_timesBack_5 : decode cX7_timesBack 5 = .ok (.if_icmp .ge 21, 3) := by decide +kernel
theorem dX7_timesBack_8 : decode cX7_timesBack 8 = .ok (.aload_n 0, 1) := by decide +kernel
theorem dX7_timesBack_9 : decode cX7_timesBack 9 = .ok (.getfield 53, 3) := by decide +kernel
theorem dX7_timesBack_12 : decode cX7_timesBack 12 = .ok (.iload_n 1, 1) := by decide +kernel
theorem dX7_timesBack_13 : decode cX7_timesBack 13 = .ok (.aload_n 0, 1) := by decide +kernel
theorem dX7_timesBack_14 : decode cX7_timesBack 14 = .ok (.getfield 89, 3) := by decide +kernel
theorem dX7_timesBack_17 : decode cX7_timesBack 17 = .ok (.iload_n 1, 1) := by decide +kernel
theorem dX7_timesBack_18 : decode cX7_timesBack 18 = .ok (.iaload, 1) := by decide +kernel
theorem dX7_timesBack_19 : decode cX7_timesBack 19 = .ok (.iastore, 1) := by decide +kernel
theorem dX7_timesBack_20 : decode cX7_timesBack 20 = .ok (.iinc 1 1, 3) := by decide +kernel
theorem dX7_timesBack_23 : decode cX7_timesBack 23 = .ok (.goto (-21), 3) := by decide +kernel
theorem dX7_timesBack_26 : decode cX7_timesBack 26 = .ok (.return_, 1) := by decide +kernel
set_option maxRecDepth 100000 in
set_option maxHeartbeats 4000000 in
theorem g_X7_timesBack_2 (ids : List (Nat × Nat)) (Hn : Ndp ids)  (H0_29 : InR ids 0 29 56)  : ∀ (n : Nat) (v1 : Int32) (t0 : Sg), Gj kV mX7_timesBack ids 2 [some (aR (0, 29)), some (aI v1)] [] t0 (f_X7_timesBack_2 n v1 t0) := by
  intro n
  induction n with
  | zero => intro v1 t0; exact G_none
  | succ n ih =>
    intro v1 t0
    rw [f_X7_timesBack_2]
    refine G_st (x_iload_n dX7_timesBack_2 rfl) ?_
    refine G_st (x_bipush (8 : Int32) dX7_timesBack_3 rfl) ?_
    refine G_ite (fun c1 => ?_) (fun c1 => ?_)
    · refine G_st (x_icmp_ge_t (tgt := 26) dX7_timesBack_5 (by decide) c1) ?_
      exact G_ret rfl ⟨rfl, dX7_timesBack_26⟩ rfl
    · refine G_st (x_icmp_ge_f 26 dX7_timesBack_5 (by decide) c1) ?_
      refine G_st (x_aload_n dX7_timesBack_8 rfl) ?_
      refine G_st (x_get (k := 17) (aR (0, 42)) dX7_timesBack_9 (H0_29 29 (Nat.le_of_ble_eq_true rfl) (Nat.le_of_ble_eq_true rfl)) rfl rfl rfl rfl inTX7 (Nat.le_of_ble_eq_true rfl) tw_864 (fun ad => rfl)) ?_
      refine G_st (x_iload_n dX7_timesBack_12 rfl) ?_
      refine G_st (x_aload_n dX7_timesBack_13 rfl) ?_
      refine G_st (x_get (k := 39) (aR (0, 54)) dX7_timesBack_14 (H0_29 29 (Nat.le_of_ble_eq_true rfl) (Nat.le_of_ble_eq_true rfl)) rfl rfl rfl rfl inTX7 (Nat.le_of_ble_eq_true rfl) tw_886 (fun ad => rfl)) ?_
      refine G_st (x_iload_n dX7_timesBack_17 rfl) ?_
      refine G_chk (fun c2 => ?_)
      refine G_st (x_iaload dX7_timesBack_18 (H0_29 54 (Nat.le_of_ble_eq_true rfl) (Nat.le_of_ble_eq_true rfl)) rfl c2) ?_
      refine G_chk (fun c3 => ?_)
      refine G_st (x_iastore dX7_timesBack_19 (H0_29 42 (Nat.le_of_ble_eq_true rfl) (Nat.le_of_ble_eq_true rfl)) rfl c3) ?_
      refine G_bvS (fun t4 => ?_)
      refine G_st (x_iinc (v1 + (1 : Int32)) [some (aR (0, 29)), some (aI (v1 + (1 : Int32)))] dX7_timesBack_20 (Nat.le_of_ble_eq_true rfl) rfl rfl rfl rfl) ?_
      refine G_st (x_goto (tgt := 2) dX7_timesBack_23 (by decide)) ?_
      refine G_weak _ ?_ ((ih) (v1 + (1 : Int32)) t4)
      exact (leL_s (leL_s (leL_e _)))
set_option maxRecDepth 100000 in
set_option maxHeartbeats 4000000 in
theorem g_X7_timesBack (ids : List (Nat × Nat)) (Hn : Ndp ids)  (H0_29 : InR ids 0 29 56) (t0 : Sg) : Gj kV mX7_timesBack ids 0 [some (aR (0, 29)), none] [] t0 (f_X7_timesBack t0) := by
  unfold f_X7_timesBack
  refine G_st (x_iconst (0 : Int32) dX7_timesBack_0 rfl) ?_
  refine G_st (x_istore_n [some (aR (0, 29)), some (aI (0 : Int32))] dX7_timesBack_1 (Nat.le_of_ble_eq_true rfl) rfl rfl) ?_
  refine G_weak _ ?_ (g_X7_timesBack_2 ids Hn H0_29 fuel (0 : Int32) t0)
  exact (leL_s (leL_s (leL_e _)))
set_option maxRecDepth 100000 in
set_option maxHeartbeats 4000000 in
theorem c_X7_timesBack (ids : List (Nat × Nat)) (Hn : Ndp ids)  (H0_29 : InR ids 0 29 56) (t0 : Sg) (r : Unit) (t1 : Sg) (hf : f_X7_timesBack t0 = some (r, t1)) : Mt0 mX7_timesBack yX7_timesBack ids [aR (0, 29)] t0 none t1 :=
  Mt_of (x := (r, t1)) (g_X7_timesBack ids Hn  H0_29 t0) hf (fun _ _ => trivial) (by decide) rfl Hn (fun _ => rfl) (fun _ => Nat.le_of_ble_eq_true rfl)
theorem dX7_quietHarm_0 : decode cX7_quietHarm 0 = .ok (.aload_n 0, 1) := by decide +kernel
theorem dX7_quietHarm_1 : decode cX7_quietHarm 1 = .ok (.invokevirtual 291, 3) := by decide +kernel
theorem dX7_quietHarm_4 : decode cX7_quietHarm 4 = .ok (.iconst 0, 1) := by decide +kernel
theorem dX7_quietHarm_5 : decode cX7_quietHarm 5 = .ok (.istore_n 3, 1) := by decide +kernel
theorem dX7_quietHarm_6 : decode cX7_quietHarm 6 = .ok (.iload_n 3, 1) := by decide +kernel
theorem dX7_quietHarm_7 : decode cX7_quietHarm 7 = .ok (.aload_n 0, 1) := by decide +kernel
theorem dX7_quietHarm_8 : decode cX7_quietHarm 8 = .ok (.getfield 104, 3) := by decide +kernel
theorem dX7_quietHarm_11 : decode cX7_quietHarm 11 = .ok (.if_icmp .ge 67, 3) := by decide +kernel
theorem dX7_quietHarm_14 : decode cX7_quietHarm 14 = .ok (.aload_n 0, 1) := by decide +kernel
theorem dX7_quietHarm_15 : decode cX7_quietHarm 15 = .ok (.getfield 53, 3) := by decide +kernel
theorem dX7_quietHarm_18 : decode cX7_quietHarm 18 = .ok (.iload_n 3, 1) := by decide +kernel
theorem dX7_quietHarm_19 : decode cX7_quietHarm 19 = .ok (.iaload, 1) := by decide +kernel
theorem dX7_quietHarm_20 : decode cX7_quietHarm 20 = .ok (.i2l, 1) := by decide +kernel
theorem dX7_quietHarm_21 : decode cX7_quietHarm 21 = .ok (.iload_n 1, 1) := by decide +kernel
theorem dX7_quietHarm_22 : decode cX7_quietHarm 22 = .ok (.i2l, 1) := by decide +kernel
theorem dX7_quietHarm_23 : decode cX7_quietHarm 23 = .ok (.iload_n 2, 1) := by decide +kernel
theorem dX7_quietHarm_24 : decode cX7_quietHarm 24 = .ok (.i2l, 1) := by decide +kernel
theorem dX7_quietHarm_25 : decode cX7_quietHarm 25 = .ok (.invokestatic 111, 3) := by decide +kernel
theorem dX7_quietHarm_28 : decode cX7_quietHarm 28 = .ok (.ifCond .eq 15, 3) := by decide +kernel
theorem dX7_quietHarm_31 : decode cX7_quietHarm 31 = .ok (.iload_n 2, 1) := by decide +kernel
theorem dX7_quietHarm_32 : decode cX7_quietHarm 32 = .ok (.iload_n 1, 1) := by decide +kernel
theorem dX7_quietHarm_33 : decode cX7_quietHarm 33 = .ok (.isub, 1) := by decide +kernel
theorem dX7_quietHarm_34 : decode cX7_quietHarm 34 = .ok (.bipush 7, 2) := by decide +kernel
theorem dX7_quietHarm_36 : decode cX7_quietHarm 36 = .ok (.if_icmp .ge 7, 3) := by decide +kernel
theorem dX7_quietHarm_39 : decode cX7_quietHarm 39 = .ok (.iconst 1, 1) := by decide +kernel
theorem dX7_quietHarm_40 : decode cX7_quietHarm 40 = .ok (.goto 4, 3) := by decide +kernel
theorem dX7_quietHarm_43 : decode cX7_quietHarm 43 = .ok (.iconst 0, 1) := by decide +kernel
theorem dX7_quietHarm_44 : decode cX7_quietHarm 44 = .ok (.istore 4, 2) := by decide +kernel
theorem dX7_quietHarm_46 : decode cX7_quietHarm 46 = .ok (.aload_n 0, 1) := by decide +kernel
theorem dX7_quietHarm_47 : decode cX7_quietHarm 47 = .ok (.getfield 53, 3) := by decide +kernel
theorem dX7_quietHarm_50 : decode cX7_quietHarm 50 = .ok (.iload_n 3, 1) := by decide +kernel
theorem dX7_quietHarm_51 : decode cX7_quietHarm 51 = .ok (.iload 4, 2) := by decide +kernel
theorem dX7_quietHarm_53 : decode cX7_quietHarm 53 = .ok (.ifCond .eq 12, 3) := by decide +kernel
theorem dX7_quietHarm_56 : decode cX7_quietHarm 56 = .ok (.iload_n 2, 1) := by decide +kernel
theorem dX7_quietHarm_57 : decode cX7_quietHarm 57 = .ok (.iconst 1, 1) := by decide +kernel
theorem dX7_quietHarm_58 : decode cX7_quietHarm 58 = .ok (.iadd, 1) := by decide +kernel
theorem dX7_quietHarm_59 : decode cX7_quietHarm 59 = .ok (.bipush 8, 2) := by decide +kernel
theorem dX7_quietHarm_61 : decode cX7_quietHarm 61 = .ok (.irem, 1) := by decide +kernel
theorem dX7_quietHarm_62 : decode cX7_quietHarm 62 = .ok (.goto 9, 3) := by decide +kernel
theorem dX7_quietHarm_65 : decode cX7_quietHarm 65 = .ok (.aload_n 0, 1) := by decide +kernel
theorem dX7_quietHarm_66 : decode cX7_quietHarm 66 = .ok (.getfield 53, 3) := by decide +kernel
theorem dX7_quietHarm_69 : decode cX7_quietHarm 69 = .ok (.iload_n 3, 1) := by decide +kernel
theorem dX7_quietHarm_70 : decode cX7_quietHarm 70 = .ok (.iaload, 1) := by decide +kernel
theorem dX7_quietHarm_71 : decode cX7_quietHarm 71 = .ok (.iastore, 1) := by decide +kernel
theorem dX7_quietHarm_72 : decode cX7_quietHarm 72 = .ok (.iinc 3 1, 3) := by decide +kernel
theorem dX7_quietHarm_75 : decode cX7_quietHarm 75 = .ok (.goto (-69), 3) := by decide +kernel
theorem dX7_quietHarm_78 : decode cX7_quietHarm 78 = .ok (.aload_n 0, 1) := by decide +kernel
theorem dX7_quietHarm_79 : decode cX7_quietHarm 79 = .ok (.invokevirtual 160, 3) := by decide +kernel
theorem dX7_quietHarm_82 : decode cX7_quietHarm 82 = .ok (.istore_n 3, 1) := by decide +kernel
theorem dX7_quietHarm_83 : decode cX7_quietHarm 83 = .ok (.aload_n 0, 1) := by decide +kernel
theorem dX7_quietHarm_84 : decode cX7_quietHarm 84 = .ok (.invokevirtual 294, 3) := by decide +kernel
theorem dX7_quietHarm_87 : decode cX7_quietHarm 87 = .ok (.iload_n 3, 1) := by decide +kernel
theorem dX7_quietHarm_88 : decode cX7_quietHarm 88 = .ok (.ireturn, 1) := by decide +kernel
set_option maxRecDepth 100000 in
set_option maxHeartbeats 4000000 in
theorem g_X7_quietHarm_71 (ids : List (Nat × Nat)) (Hn : Ndp ids)  (H0_29 : InR ids 0 29 56) (k6 : Int32 → Int32 → Int32 → Sg → Option (Int32 × Sg)) (hk6 : ∀ (v1 : Int32) (v2 : Int32) (v3 : Int32) (t0 : Sg), Gj kI mX7_quietHarm ids 6 [some (aR (0, 29)), some (aI v1), some (aI v2), some (aI v3), none] [] t0 (k6 v1 v2 v3 t0)) (v1 : Int32) (v2 : Int32) (v3 : Int32) (w0 : Int32) (w1 : Int32) (t0 : Sg) : Gj kI mX7_quietHarm ids 71 [some (aR (0, 29)), some (aI v1), some (aI v2), some (aI v3), none] [aI w0, aI w1, aR (0, 42)] t0 (f_X7_quietHarm_71 k6 v1 v2 v3 w0 w1 t0) := by
  unfold f_X7_quietHarm_71
  refine G_chk (fun c21 => ?_)
  refine G_st (x_iastore dX7_quietHarm_71 (H0_29 42 (Nat.le_of_ble_eq_true rfl) (Nat.le_of_ble_eq_true rfl)) rfl c21) ?_
  refine G_bvS (fun t22 => ?_)
  refine G_st (x_iinc (v3 + (1 : Int32)) [some (aR (0, 29)), some (aI v1), some (aI v2), some (aI (v3 + (1 : Int32))), none] dX7_quietHarm_72 (Nat.le_of_ble_eq_true rfl) rfl rfl rfl rfl) ?_
  refine G_st (x_goto (tgt := 6) dX7_quietHarm_75 (by decide)) ?_
  refine G_weak _ ?_ (hk6 v1 v2 (v3 + (1 : Int32)) t22)
  exact (leL_s (leL_s (leL_s (leL_s (leL_n (leL_e _))))))
set_option maxRecDepth 100000 in
set_option maxHeartbeats 4000000 in
theorem g_X7_quietHarm_6 (ids : List (Nat × Nat)) (Hn : Ndp ids)  (H0_29 : InR ids 0 29 56)  : ∀ (n : Nat) (v1 : Int32) (v2 : Int32) (v3 : Int32) (t0 : Sg), Gj kI mX7_quietHarm ids 6 [some (aR (0, 29)), some (aI v1), some (aI v2), some (aI v3), none] [] t0 (f_X7_quietHarm_6 n v1 v2 v3 t0) := by
  intro n
  induction n with
  | zero => intro v1 v2 v3 t0; exact G_none
  | succ n ih =>
    intro v1 v2 v3 t0
    rw [f_X7_quietHarm_6]
    refine G_st (x_iload_n dX7_quietHarm_6 rfl) ?_
    refine G_st (x_aload_n dX7_quietHarm_7 rfl) ?_
    refine G_st (x_get (k := 4) (aI (t0 (0, 29) 4)) dX7_quietHarm_8 (H0_29 29 (Nat.le_of_ble_eq_true rfl) (Nat.le_of_ble_eq_true rfl)) rfl rfl rfl rfl inTX7 (Nat.le_of_ble_eq_true rfl) tw_851 (fun ad => rfl)) ?_
    refine G_ite (fun c4 => ?_) (fun c4 => ?_)
    · refine G_st (x_icmp_ge_t (tgt := 78) dX7_quietHarm_11 (by decide) c4) ?_
      refine G_st (x_aload_n dX7_quietHarm_78 rfl) ?_
      refine G_bd (fun x5 t6 h7 => ?_)
      refine G_st (x_callV [] (c_X7_oneWeek ids Hn  H0_29 _ _ _ h7) dX7_quietHarm_79 tw_1157 kc_X7_oneWeek (H0_29 29 (Nat.le_of_ble_eq_true rfl) (Nat.le_of_ble_eq_true rfl)) rfl rfl rfl rfl ⟨Nat.le_of_ble_eq_true rfl, Nat.le_of_ble_eq_true rfl⟩ (Nat.le_of_ble_eq_true rfl) rfl) ?_
      refine G_st (x_istore_n [some (aR (0, 29)), some (aI v1), some (aI v2), some (aI x5), none] dX7_quietHarm_82 (Nat.le_of_ble_eq_true rfl) rfl rfl) ?_
      refine G_st (x_aload_n dX7_quietHarm_83 rfl) ?_
      refine G_bd (fun _ t9 h10 => ?_)
      refine G_st (x_callV [] (c_X7_timesBack ids Hn  H0_29 _ _ _ h10) dX7_quietHarm_84 tw_1246 kc_X7_timesBack (H0_29 29 (Nat.le_of_ble_eq_true rfl) (Nat.le_of_ble_eq_true rfl)) rfl rfl rfl rfl ⟨Nat.le_of_ble_eq_true rfl, Nat.le_of_ble_eq_true rfl⟩ (Nat.le_of_ble_eq_true rfl) rfl) ?_
      refine G_st (x_iload_n dX7_quietHarm_87 rfl) ?_
      exact G_ret rfl ⟨dX7_quietHarm_88, _, rfl, rfl⟩ rfl
    · refine G_st (x_icmp_ge_f 78 dX7_quietHarm_11 (by decide) c4) ?_
      refine G_st (x_aload_n dX7_quietHarm_14 rfl) ?_
      refine G_st (x_get (k := 17) (aR (0, 42)) dX7_quietHarm_15 (H0_29 29 (Nat.le_of_ble_eq_true rfl) (Nat.le_of_ble_eq_true rfl)) rfl rfl rfl rfl inTX7 (Nat.le_of_ble_eq_true rfl) tw_864 (fun ad => rfl)) ?_
      refine G_st (x_iload_n dX7_quietHarm_18 rfl) ?_
      refine G_chk (fun c11 => ?_)
      refine G_st (x_iaload dX7_quietHarm_19 (H0_29 42 (Nat.le_of_ble_eq_true rfl) (Nat.le_of_ble_eq_true rfl)) rfl c11) ?_
      refine G_st (x_i2l dX7_quietHarm_20) ?_
      refine G_st (x_iload_n dX7_quietHarm_21 rfl) ?_
      refine G_st (x_i2l dX7_quietHarm_22) ?_
      refine G_st (x_iload_n dX7_quietHarm_23 rfl) ?_
      refine G_st (x_i2l dX7_quietHarm_24) ?_
      refine G_bd (fun x12 t13 h14 => ?_)
      refine G_st (x_callS [] (c_X7_in ids Hn ((t0 (0, 42) (v3).toNatClampNeg)).toInt64 (v1).toInt64 (v2).toInt64  _ _ _ h14) dX7_quietHarm_25 tw_1003 kc_X7_in rfl ⟨Nat.le_of_ble_eq_true rfl, Nat.le_of_ble_eq_true rfl⟩ (Nat.le_of_ble_eq_true rfl) rfl) ?_
      have e17 : Tj mX7_quietHarm ids 28 [some (aR (0, 29)), some (aI v1), some (aI v2), some (aI v3), none] [aI x12] t13 44 [some (aR (0, 29)), some (aI v1), some (aI v2), some (aI v3), none] [aI (if x12 = 0 then (0 : Int32) else (if (7 : Int32) ≤ (v2 - v1) then (0 : Int32) else (1 : Int32)))] t13 := by
        refine Tj.dia (fun c15 => ?_) (fun c15 => ?_)
        · refine Tj.tr (x_if_eq_t (tgt := 43) dX7_quietHarm_28 (by decide) c15) ?_
          refine Tj.tr (x_iconst (0 : Int32) dX7_quietHarm_43 rfl) ?_
          exact Tj.rf
        · refine Tj.tr (x_if_eq_f 43 dX7_quietHarm_28 (by decide) c15) ?_
          refine Tj.tr (x_iload_n dX7_quietHarm_31 rfl) ?_
          refine Tj.tr (x_iload_n dX7_quietHarm_32 rfl) ?_
          refine Tj.tr (x_isub dX7_quietHarm_33) ?_
          refine Tj.tr (x_bipush (7 : Int32) dX7_quietHarm_34 rfl) ?_
          refine Tj.dia (fun c16 => ?_) (fun c16 => ?_)
          · refine Tj.tr (x_icmp_ge_t (tgt := 43) dX7_quietHarm_36 (by decide) c16) ?_
            refine Tj.tr (x_iconst (0 : Int32) dX7_quietHarm_43 rfl) ?_
            exact Tj.rf
          · refine Tj.tr (x_icmp_ge_f 43 dX7_quietHarm_36 (by decide) c16) ?_
            refine Tj.tr (x_iconst (1 : Int32) dX7_quietHarm_39 rfl) ?_
            refine Tj.tr (x_goto (tgt := 44) dX7_quietHarm_40 (by decide)) ?_
            exact Tj.rf
      refine G_st e17 ?_
      refine G_bvI (fun x18 => ?_)
      refine G_st (x_istore [some (aR (0, 29)), some (aI v1), some (aI v2), some (aI v3), some (aI x18)] dX7_quietHarm_44 (Nat.le_of_ble_eq_true rfl) rfl rfl) ?_
      refine G_st (x_aload_n dX7_quietHarm_46 rfl) ?_
      refine G_st (x_get (k := 17) (aR (0, 42)) dX7_quietHarm_47 (H0_29 29 (Nat.le_of_ble_eq_true rfl) (Nat.le_of_ble_eq_true rfl)) rfl rfl rfl rfl inTX7 (Nat.le_of_ble_eq_true rfl) tw_864 (fun ad => rfl)) ?_
      refine G_st (x_iload_n dX7_quietHarm_50 rfl) ?_
      refine G_st (x_iload dX7_quietHarm_51 rfl) ?_
      refine G_ite (fun c19 => ?_) (fun c19 => ?_)
      · refine G_st (x_if_eq_t (tgt := 65) dX7_quietHarm_53 (by decide) c19) ?_
        refine G_st (x_aload_n dX7_quietHarm_65 rfl) ?_
        refine G_st (x_get (k := 17) (aR (0, 42)) dX7_quietHarm_66 (H0_29 29 (Nat.le_of_ble_eq_true rfl) (Nat.le_of_ble_eq_true rfl)) rfl rfl rfl rfl inTX7 (Nat.le_of_ble_eq_true rfl) tw_864 (fun ad => rfl)) ?_
        refine G_st (x_iload_n dX7_quietHarm_69 rfl) ?_
        refine G_chk (fun c20 => ?_)
        refine G_st (x_iaload dX7_quietHarm_70 (H0_29 42 (Nat.le_of_ble_eq_true rfl) (Nat.le_of_ble_eq_true rfl)) rfl c20) ?_
        refine G_weak _ ?_ (g_X7_quietHarm_71 ids Hn H0_29 (f_X7_quietHarm_6 n) (ih) v1 v2 v3 (t13 (0, 42) (v3).toNatClampNeg) v3 t13)
        exact (leL_s (leL_s (leL_s (leL_s (leL_n (leL_e _))))))
      · refine G_st (x_if_eq_f 65 dX7_quietHarm_53 (by decide) c19) ?_
        refine G_st (x_iload_n dX7_quietHarm_56 rfl) ?_
        refine G_st (x_iconst (1 : Int32) dX7_quietHarm_57 rfl) ?_
        refine G_st (x_iadd dX7_quietHarm_58) ?_
        refine G_st (x_bipush (8 : Int32) dX7_quietHarm_59 rfl) ?_
        refine G_st (x_irem dX7_quietHarm_61 (by decide)) ?_
        refine G_st (x_goto (tgt := 71) dX7_quietHarm_62 (by decide)) ?_
        refine G_weak _ ?_ (g_X7_quietHarm_71 ids Hn H0_29 (f_X7_quietHarm_6 n) (ih) v1 v2 v3 ((v2 + (1 : Int32)) - (v2 + (1 : Int32)) / (8 : Int32) * (8 : Int32)) v3 t13)
        exact (leL_s (leL_s (leL_s (leL_s (leL_n (leL_e _))))))
set_option maxRecDepth 100000 in
set_option maxHeartbeats 4000000 in
theorem g_X7_quietHarm (ids : List (Nat × Nat)) (Hn : Ndp ids) (v1 : Int32) (v2 : Int32) (H0_29 : InR ids 0 29 56) (t0 : Sg) : Gj kI mX7_quietHarm ids 0 [some (aR (0, 29)), some (aI v1), some (aI v2), none, none] [] t0 (f_X7_quietHarm v1 v2 t0) := by
  unfold f_X7_quietHarm
  refine G_st (x_aload_n dX7_quietHarm_0 rfl) ?_
  refine G_bd (fun _ t2 h3 => ?_)
  refine G_st (x_callV [] (c_X7_keepTimes ids Hn  H0_29 _ _ _ h3) dX7_quietHarm_1 tw_1242 kc_X7_keepTimes (H0_29 29 (Nat.le_of_ble_eq_true rfl) (Nat.le_of_ble_eq_true rfl)) rfl rfl rfl rfl ⟨Nat.le_of_ble_eq_true rfl, Nat.le_of_ble_eq_true rfl⟩ (Nat.le_of_ble_eq_true rfl) rfl) ?_
  refine G_st (x_iconst (0 : Int32) dX7_quietHarm_4 rfl) ?_
  refine G_st (x_istore_n [some (aR (0, 29)), some (aI v1), some (aI v2), some (aI (0 : Int32)), none] dX7_quietHarm_5 (Nat.le_of_ble_eq_true rfl) rfl rfl) ?_
  refine G_weak _ ?_ (g_X7_quietHarm_6 ids Hn H0_29 fuel v1 v2 (0 : Int32) t2)
  exact (leL_s (leL_s (leL_s (leL_s (leL_n (leL_e _))))))
set_option maxRecDepth 100000 in
set_option maxHeartbeats 4000000 in
theorem c_X7_quietHarm (ids : List (Nat × Nat)) (Hn : Ndp ids) (v1 : Int32) (v2 : Int32) (H0_29 : InR ids 0 29 56) (t0 : Sg) (r : Int32) (t1 : Sg) (hf : f_X7_quietHarm v1 v2 t0 = some (r, t1)) : Mt0 mX7_quietHarm yX7_quietHarm ids [aR (0, 29), aI v1, aI v2] t0 (some (aI r)) t1 :=
  Mt_of (x := (r, t1)) (g_X7_quietHarm ids Hn v1 v2 H0_29 t0) hf (fun _ _ => trivial) (by decide) rfl Hn (fun _ => rfl) (fun _ => Nat.le_of_ble_eq_true rfl)
theorem dX7_quiet_0 : decode cX7_quiet 0 = .ok (.aload_n 0, 1) := by decide +kernel
theorem dX7_quiet_1 : decode cX7_quiet 1 = .ok (.iconst 0, 1) := by decide +kernel
theorem dX7_quiet_2 : decode cX7_quiet 2 = .ok (.putfield 98, 3) := by decide +kernel
theorem dX7_quiet_5 : decode cX7_quiet 5 = .ok (.iload_n 1, 1) := by decide +kernel
theorem dX7_quiet_6 : decode cX7_quiet 6 = .ok (.invokestatic 273, 3) := by decide +kernel
theorem dX7_quiet_9 : decode cX7_quiet 9 = .ok (.ifCond .eq 10, 3) := by decide +kernel
theorem dX7_quiet_12 : decode cX7_quiet 12 = .ok (.iload_n 2, 1) := by decide +kernel
theorem dX7_quiet_13 : decode cX7_quiet 13 = .ok (.invokestatic 273, 3) := by decide +kernel
theorem dX7_quiet_16 : decode cX7_quiet 16 = .ok (.ifCond .ne 10, 3) := by decide +kernel
theorem dX7_quiet_19 : decode cX7_quiet 19 = .ok (.aload_n 0, 1) := by decide +kernel
theorem dX7_quiet_20 : decode cX7_quiet 20 = .ok (.bipush (-2), 2) := by decide +kernel
theorem dX7_quiet_22 : decode cX7_quiet 22 = .ok (.invokevirtual 167, 3) := by decide +kernel
theorem dX7_quiet_25 : decode cX7_quiet 25 = .ok (.ireturn, 1) := by decide +kernel
theorem dX7_quiet_26 : decode cX7_quiet 26 = .ok (.iload_n 2, 1) := by decide +kernel
theorem dX7_quiet_27 : decode cX7_quiet 27 = .ok (.iload_n 1, 1) := by decide +kernel
theorem dX7_quiet_28 : decode cX7_quiet 28 = .ok (.if_icmp .ge 12, 3) := by decide +kernel
theorem dX7_quiet_31 : decode cX7_quiet 31 = .ok (.aload_n 0, 1) := by decide +kernel
theorem dX7_quiet_32 : decode cX7_quiet 32 = .ok (.bipush (-3), 2) := by decide +kernel
theorem dX7_quiet_34 : decode cX7_quiet 34 = .ok (.invokevirtual 167, 3) := by decide +kernel
theorem dX7_quiet_37 : decode cX7_quiet 37 = .ok (.goto 9, 3) := by decide +kernel
theorem dX7_quiet_40 : decode cX7_quiet 40 = .ok (.aload_n 0, 1) := by decide +kernel
theorem dX7_quiet_41 : decode cX7_quiet 41 = .ok (.iload_n 1, 1) := by decide +kernel
theorem dX7_quiet_42 : decode cX7_quiet 42 = .ok (.iload_n 2, 1) := by decide +kernel
theorem dX7_quiet_43 : decode cX7_quiet 43 = .ok (.invokevirtual 297, 3) := by decide +kernel
theorem dX7_quiet_46 : decode cX7_quiet 46 = .ok (.ireturn, 1) := by decide +kernel
set_option maxRecDepth 100000 in
set_option maxHeartbeats 4000000 in
theorem g_X7_quiet_19 (ids : List (Nat × Nat)) (Hn : Ndp ids)  (H0_29 : InR ids 0 29 56)   (t0 : Sg) : Gj kI mX7_quiet ids 19 [some (aR (0, 29)), none, none] [] t0 (f_X7_quiet_19 t0) := by
  unfold f_X7_quiet_19
  refine G_st (x_aload_n dX7_quiet_19 rfl) ?_
  refine G_st (x_bipush (-2 : Int32) dX7_quiet_20 rfl) ?_
  refine G_bd (fun x6 t7 h8 => ?_)
  refine G_st (x_callV [] (c_X7_refuse ids Hn (-2 : Int32) H0_29 _ _ _ h8) dX7_quiet_22 tw_981 kc_X7_refuse (H0_29 29 (Nat.le_of_ble_eq_true rfl) (Nat.le_of_ble_eq_true rfl)) rfl rfl rfl rfl ⟨Nat.le_of_ble_eq_true rfl, Nat.le_of_ble_eq_true rfl⟩ (Nat.le_of_ble_eq_true rfl) rfl) ?_
  exact G_ret rfl ⟨dX7_quiet_25, _, rfl, rfl⟩ rfl
set_option maxRecDepth 100000 in
set_option maxHeartbeats 4000000 in
theorem g_X7_quiet (ids : List (Nat × Nat)) (Hn : Ndp ids) (v1 : Int32) (v2 : Int32) (H0_29 : InR ids 0 29 56) (t0 : Sg) : Gj kI mX7_quiet ids 0 [some (aR (0, 29)), some (aI v1), some (aI v2)] [] t0 (f_X7_quiet v1 v2 t0) := by
  unfold f_X7_quiet
  refine G_st (x_aload_n dX7_quiet_0 rfl) ?_
  refine G_st (x_iconst (0 : Int32) dX7_quiet_1 rfl) ?_
  refine G_st (x_put (k := 18) (ty := .int) (v := aI (0 : Int32)) (z := (0 : Int32)) (upS t0 (0, 29) 18 (0 : Int32)) dX7_quiet_2 (H0_29 29 (Nat.le_of_ble_eq_true rfl) (Nat.le_of_ble_eq_true rfl)) rfl rfl rfl rfl inTX7 tyX7_ok nmX7 (Nat.le_of_ble_eq_true rfl) tw_865 rfl rfl (fun ad => rfl) (fun ad => rfl) (fun ad => put_i0 ad _ _ _ _ rfl) rfl) ?_
  refine G_bvS (fun t1 => ?_)
  refine G_st (x_iload_n dX7_quiet_5 rfl) ?_
  refine G_bd (fun x2 t3 h4 => ?_)
  refine G_st (x_callS [] (c_X7_isTime ids Hn v1  _ _ _ h4) dX7_quiet_6 tw_1118 kc_X7_isTime rfl ⟨Nat.le_of_ble_eq_true rfl, Nat.le_of_ble_eq_true rfl⟩ (Nat.le_of_ble_eq_true rfl) rfl) ?_
  refine G_ite (fun c5 => ?_) (fun c5 => ?_)
  · refine G_st (x_if_eq_t (tgt := 19) dX7_quiet_9 (by decide) c5) ?_
    refine G_weak _ ?_ (g_X7_quiet_19 ids Hn H0_29 t3)
    exact (leL_s (leL_n (leL_n (leL_e _))))
  · refine G_st (x_if_eq_f 19 dX7_quiet_9 (by decide) c5) ?_
    refine G_st (x_iload_n dX7_quiet_12 rfl) ?_
    refine G_bd (fun x9 t10 h11 => ?_)
    refine G_st (x_callS [] (c_X7_isTime ids Hn v2  _ _ _ h11) dX7_quiet_13 tw_1118 kc_X7_isTime rfl ⟨Nat.le_of_ble_eq_true rfl, Nat.le_of_ble_eq_true rfl⟩ (Nat.le_of_ble_eq_true rfl) rfl) ?_
    refine G_ite (fun c12 => ?_) (fun c12 => ?_)
    · refine G_st (x_if_ne_f 26 dX7_quiet_16 (by decide) c12) ?_
      refine G_weak _ ?_ (g_X7_quiet_19 ids Hn H0_29 t10)
      exact (leL_s (leL_n (leL_n (leL_e _))))
    · refine G_st (x_if_ne_t (tgt := 26) dX7_quiet_16 (by decide) c12) ?_
      refine G_st (x_iload_n dX7_quiet_26 rfl) ?_
      refine G_st (x_iload_n dX7_quiet_27 rfl) ?_
      refine G_ite (fun c13 => ?_) (fun c13 => ?_)
      · refine G_st (x_icmp_ge_t (tgt := 40) dX7_quiet_28 (by decide) c13) ?_
        refine G_st (x_aload_n dX7_quiet_40 rfl) ?_
        refine G_st (x_iload_n dX7_quiet_41 rfl) ?_
        refine G_st (x_iload_n dX7_quiet_42 rfl) ?_
        refine G_bd (fun x14 t15 h16 => ?_)
        refine G_st (x_callV [] (c_X7_quietHarm ids Hn v1 v2 H0_29 _ _ _ h16) dX7_quiet_43 tw_1238 kc_X7_quietHarm (H0_29 29 (Nat.le_of_ble_eq_true rfl) (Nat.le_of_ble_eq_true rfl)) rfl rfl rfl rfl ⟨Nat.le_of_ble_eq_true rfl, Nat.le_of_ble_eq_true rfl⟩ (Nat.le_of_ble_eq_true rfl) rfl) ?_
        exact G_ret rfl ⟨dX7_quiet_46, _, rfl, rfl⟩ rfl
      · refine G_st (x_icmp_ge_f 40 dX7_quiet_28 (by decide) c13) ?_
        refine G_st (x_aload_n dX7_quiet_31 rfl) ?_
        refine G_st (x_bipush (-3 : Int32) dX7_quiet_32 rfl) ?_
        refine G_bd (fun x17 t18 h19 => ?_)
        refine G_st (x_callV [] (c_X7_refuse ids Hn (-3 : Int32) H0_29 _ _ _ h19) dX7_quiet_34 tw_981 kc_X7_refuse (H0_29 29 (Nat.le_of_ble_eq_true rfl) (Nat.le_of_ble_eq_true rfl)) rfl rfl rfl rfl ⟨Nat.le_of_ble_eq_true rfl, Nat.le_of_ble_eq_true rfl⟩ (Nat.le_of_ble_eq_true rfl) rfl) ?_
        refine G_st (x_goto (tgt := 46) dX7_quiet_37 (by decide)) ?_
        exact G_ret rfl ⟨dX7_quiet_46, _, rfl, rfl⟩ rfl
set_option maxRecDepth 100000 in
set_option maxHeartbeats 4000000 in
theorem c_X7_quiet (ids : List (Nat × Nat)) (Hn : Ndp ids) (v1 : Int32) (v2 : Int32) (H0_29 : InR ids 0 29 56) (t0 : Sg) (r : Int32) (t1 : Sg) (hf : f_X7_quiet v1 v2 t0 = some (r, t1)) : Mt0 mX7_quiet yX7_quiet ids [aR (0, 29), aI v1, aI v2] t0 (some (aI r)) t1 :=
  Mt_of (x := (r, t1)) (g_X7_quiet ids Hn v1 v2 H0_29 t0) hf (fun _ _ => trivial) (by decide) rfl Hn (fun _ => rfl) (fun _ => Nat.le_of_ble_eq_true rfl)
theorem dX7_rule_0 : decode cX7_rule 0 = .ok (.aload_n 0, 1) := by decide +kernel
theorem dX7_rule_1 : decode cX7_rule 1 = .ok (.iconst 0, 1) := by decide +kernel
theorem dX7_rule_2 : decode cX7_rule 2 = .ok (.putfield 98, 3) := by decide +kernel
theorem dX7_rule_5 : decode cX7_rule 5 = .ok (.aload_n 0, 1) := by decide +kernel
theorem dX7_rule_6 : decode cX7_rule 6 = .ok (.invokevirtual 160, 3) := by decide +kernel
theorem dX7_rule_9 : decode cX7_rule 9 = .ok (.istore_n 1, 1) := by decide +kernel
theorem dX7_rule_10 : decode cX7_rule 10 = .ok (.bipush (-9), 2) := by decide +kernel
theorem dX7_rule_12 : decode cX7_rule 12 = .ok (.istore_n 2, 1) := by decide +kernel
theorem dX7_rule_13 : decode cX7_rule 13 = .ok (.iconst 0, 1) := by decide +kernel
theorem dX7_rule_14 : decode cX7_rule 14 = .ok (.istore_n 3, 1) := by decide +kernel
theorem dX7_rule_15 : decode cX7_rule 15 = .ok (.iload_n 3, 1) := by decide +kernel
theorem dX7_rule_16 : decode cX7_rule 16 = .ok (.bipush 8, 2) := by decide +kernel
theorem dX7_rule_18 : decode cX7_rule 18 = .ok (.if_icmp .ge 65, 3) := by decide +kernel
theorem dX7_rule_21 : decode cX7_rule 21 = .ok (.iload_n 3, 1) := by decide +kernel
theorem dX7_rule_22 : decode cX7_rule 22 = .ok (.istore 4, 2) := by decide +kernel
theorem dX7_rule_24 : decode cX7_rule 24 = .ok (.iload 4, 2) := by decide +kernel
theorem dX7_rule_26 : decode cX7_rule 26 = .ok (.bipush 8, 2) := by decide +kernel
theorem dX7_rule_28 : decode cX7_rule 28 = .ok (.if_icmp .ge 49, 3) := by decide +kernel
theorem dX7_rule_31 : decode cX7_rule 31 = .ok (.aload_n 0, 1) := by decide +kernel
theorem dX7_rule_32 : decode cX7_rule 32 = .ok (.iload_n 3, 1) := by decide +kernel
theorem dX7_rule_33 : decode cX7_rule 33 = .ok (.iload 4, 2) := by decide +kernel
theorem dX7_rule_35 : decode cX7_rule 35 = .ok (.invokevirtual 297, 3) := by decide +kernel
theorem dX7_rule_38 : decode cX7_rule 38 = .ok (.istore 5, 2) := by decide +kernel
theorem dX7_rule_40 : decode cX7_rule 40 = .ok (.iload 5, 2) := by decide +kernel
theorem dX7_rule_42 : decode cX7_rule 42 = .ok (.iload_n 1, 1) := by decide +kernel
theorem dX7_rule_43 : decode cX7_rule 43 = .ok (.if_icmp .ge 13, 3) := by decide +kernel
theorem dX7_rule_46 : decode cX7_rule 46 = .ok (.bipush 10, 2) := by decide +kernel
theorem dX7_rule_48 : decode cX7_rule 48 = .ok (.iload_n 3, 1) := by decide +kernel
theorem dX7_rule_49 : decode cX7_rule 49 = .ok (.imul, 1) := by decide +kernel
theorem dX7_rule_50 : decode cX7_rule 50 = .ok (.iload 4, 2) := by decide +kernel
theorem dX7_rule_52 : decode cX7_rule 52 = .ok (.iadd, 1) := by decide +kernel
theorem dX7_rule_53 : decode cX7_rule 53 = .ok (.goto 4, 3) := by decide +kernel
theorem dX7_rule_56 : decode cX7_rule 56 = .ok (.iload_n 2, 1) := by decide +kernel
theorem dX7_rule_57 : decode cX7_rule 57 = .ok (.istore_n 2, 1) := by decide +kernel
theorem dX7_rule_58 : decode cX7_rule 58 = .ok (.iload 5, 2) := by decide +kernel
theorem dX7_rule_60 : decode cX7_rule 60 = .ok (.iload_n 1, 1) := by decide +kernel
theorem dX7_rule_61 : decode cX7_rule 61 = .ok (.if_icmp .ge 8, 3) := by decide +kernel
theorem dX7_rule_64 : decode cX7_rule 64 = .ok (.iload 5, 2) := by decide +kernel
theorem dX7_rule_66 : decode cX7_rule 66 = .ok (.goto 4, 3) := by decide +kernel
theorem dX7_rule_69 : decode cX7_rule 69 = .ok (.iload_n 1, 1) := by decide +kernel
theorem dX7_rule_70 : decode cX7_rule 70 = .ok (.istore_n 1, 1) := by decide +kernel
theorem dX7_rule_71 : decode cX7_rule 71 = .ok (.iinc 4 1, 3) := by decide +kernel
theorem dX7_rule_74 : decode cX7_rule 74 = .ok (.goto (-50), 3) := by decide +kernel
theorem dX7_rule_77 : decode cX7_rule 77 = .ok (.iinc 3 1, 3) := by decide +kernel
theorem dX7_rule_80 : decode cX7_rule 80 = .ok (.goto (-65), 3) := by decide +kernel
theorem dX7_rule_83 : decode cX7_rule 83 = .ok (.iload_n 2, 1) := by decide +kernel
theorem dX7_rule_84 : decode cX7_rule 84 = .ok (.ireturn, 1) := by decide +kernel
set_option maxRecDepth 100000 in
set_option maxHeartbeats 4000000 in
theorem g_X7_rule_24 (ids : List (Nat × Nat)) (Hn : Ndp ids)  (H0_29 : InR ids 0 29 56) (k15 : Int32 → Int32 → Int32 → Sg → Option (Int32 × Sg)) (hk15 : ∀ (v1 : Int32) (v2 : Int32) (v3 : Int32) (t0 : Sg), Gj kI mX7_rule ids 15 [some (aR (0, 29)), some (aI v1), some (aI v2), some (aI v3), none, none] [] t0 (k15 v1 v2 v3 t0)) : ∀ (n : Nat) (v1 : Int32) (v2 : Int32) (v3 : Int32) (v4 : Int32) (t0 : Sg), Gj kI mX7_rule ids 24 [some (aR (0, 29)), some (aI v1), some (aI v2), some (aI v3), some (aI v4), none] [] t0 (f_X7_rule_24 k15 n v1 v2 v3 v4 t0) := by
  intro n
  induction n with
  | zero => intro v1 v2 v3 v4 t0; exact G_none
  | succ n ih =>
    intro v1 v2 v3 v4 t0
    rw [f_X7_rule_24]
    refine G_st (x_iload dX7_rule_24 rfl) ?_
    refine G_st (x_bipush (8 : Int32) dX7_rule_26 rfl) ?_
    refine G_ite (fun c6 => ?_) (fun c6 => ?_)
    · refine G_st (x_icmp_ge_t (tgt := 77) dX7_rule_28 (by decide) c6) ?_
      refine G_st (x_iinc (v3 + (1 : Int32)) [some (aR (0, 29)), some (aI v1), some (aI v2), some (aI (v3 + (1 : Int32))), some (aI v4), none] dX7_rule_77 (Nat.le_of_ble_eq_true rfl) rfl rfl rfl rfl) ?_
      refine G_st (x_goto (tgt := 15) dX7_rule_80 (by decide)) ?_
      refine G_weak _ ?_ (hk15 v1 v2 (v3 + (1 : Int32)) t0)
      exact (leL_s (leL_s (leL_s (leL_s (leL_n (leL_n (leL_e _)))))))
    · refine G_st (x_icmp_ge_f 77 dX7_rule_28 (by decide) c6) ?_
      refine G_st (x_aload_n dX7_rule_31 rfl) ?_
      refine G_st (x_iload_n dX7_rule_32 rfl) ?_
      refine G_st (x_iload dX7_rule_33 rfl) ?_
      refine G_bd (fun x7 t8 h9 => ?_)
      refine G_st (x_callV [] (c_X7_quietHarm ids Hn v3 v4 H0_29 _ _ _ h9) dX7_rule_35 tw_1238 kc_X7_quietHarm (H0_29 29 (Nat.le_of_ble_eq_true rfl) (Nat.le_of_ble_eq_true rfl)) rfl rfl rfl rfl ⟨Nat.le_of_ble_eq_true rfl, Nat.le_of_ble_eq_true rfl⟩ (Nat.le_of_ble_eq_true rfl) rfl) ?_
      refine G_st (x_istore [some (aR (0, 29)), some (aI v1), some (aI v2), some (aI v3), some (aI v4), some (aI x7)] dX7_rule_38 (Nat.le_of_ble_eq_true rfl) rfl rfl) ?_
      refine G_st (x_iload dX7_rule_40 rfl) ?_
      refine G_st (x_iload_n dX7_rule_42 rfl) ?_
      have e11 : Tj mX7_rule ids 43 [some (aR (0, 29)), some (aI v1), some (aI v2), some (aI v3), some (aI v4), some (aI x7)] [aI v1, aI x7] t8 57 [some (aR (0, 29)), some (aI v1), some (aI v2), some (aI v3), some (aI v4), some (aI x7)] [aI (if v1 ≤ x7 then v2 else (((10 : Int32) * v3) + v4))] t8 := by
        refine Tj.dia (fun c10 => ?_) (fun c10 => ?_)
        · refine Tj.tr (x_icmp_ge_t (tgt := 56) dX7_rule_43 (by decide) c10) ?_
          refine Tj.tr (x_iload_n dX7_rule_56 rfl) ?_
          exact Tj.rf
        · refine Tj.tr (x_icmp_ge_f 56 dX7_rule_43 (by decide) c10) ?_
          refine Tj.tr (x_bipush (10 : Int32) dX7_rule_46 rfl) ?_
          refine Tj.tr (x_iload_n dX7_rule_48 rfl) ?_
          refine Tj.tr (x_imul dX7_rule_49) ?_
          refine Tj.tr (x_iload dX7_rule_50 rfl) ?_
          refine Tj.tr (x_iadd dX7_rule_52) ?_
          refine Tj.tr (x_goto (tgt := 57) dX7_rule_53 (by decide)) ?_
          exact Tj.rf
      refine G_st e11 ?_
      refine G_bvI (fun x12 => ?_)
      refine G_st (x_istore_n [some (aR (0, 29)), some (aI v1), some (aI x12), some (aI v3), some (aI v4), some (aI x7)] dX7_rule_57 (Nat.le_of_ble_eq_true rfl) rfl rfl) ?_
      refine G_st (x_iload dX7_rule_58 rfl) ?_
      refine G_st (x_iload_n dX7_rule_60 rfl) ?_
      have e14 : Tj mX7_rule ids 61 [some (aR (0, 29)), some (aI v1), some (aI x12), some (aI v3), some (aI v4), some (aI x7)] [aI v1, aI x7] t8 70 [some (aR (0, 29)), some (aI v1), some (aI x12), some (aI v3), some (aI v4), some (aI x7)] [aI (if v1 ≤ x7 then v1 else x7)] t8 := by
        refine Tj.dia (fun c13 => ?_) (fun c13 => ?_)
        · refine Tj.tr (x_icmp_ge_t (tgt := 69) dX7_rule_61 (by decide) c13) ?_
          refine Tj.tr (x_iload_n dX7_rule_69 rfl) ?_
          exact Tj.rf
        · refine Tj.tr (x_icmp_ge_f 69 dX7_rule_61 (by decide) c13) ?_
          refine Tj.tr (x_iload dX7_rule_64 rfl) ?_
          refine Tj.tr (x_goto (tgt := 70) dX7_rule_66 (by decide)) ?_
          exact Tj.rf
      refine G_st e14 ?_
      refine G_bvI (fun x15 => ?_)
      refine G_st (x_istore_n [some (aR (0, 29)), some (aI x15), some (aI x12), some (aI v3), some (aI v4), some (aI x7)] dX7_rule_70 (Nat.le_of_ble_eq_true rfl) rfl rfl) ?_
      refine G_st (x_iinc (v4 + (1 : Int32)) [some (aR (0, 29)), some (aI x15), some (aI x12), some (aI v3), some (aI (v4 + (1 : Int32))), some (aI x7)] dX7_rule_71 (Nat.le_of_ble_eq_true rfl) rfl rfl rfl rfl) ?_
      refine G_st (x_goto (tgt := 24) dX7_rule_74 (by decide)) ?_
      refine G_weak _ ?_ ((ih) x15 x12 v3 (v4 + (1 : Int32)) t8)
      exact (leL_s (leL_s (leL_s (leL_s (leL_s (leL_n (leL_e _)))))))
set_option maxRecDepth 100000 in
set_option maxHeartbeats 4000000 in
theorem g_X7_rule_15 (ids : List (Nat × Nat)) (Hn : Ndp ids)  (H0_29 : InR ids 0 29 56)  : ∀ (n : Nat) (v1 : Int32) (v2 : Int32) (v3 : Int32) (t0 : Sg), Gj kI mX7_rule ids 15 [some (aR (0, 29)), some (aI v1), some (aI v2), some (aI v3), none, none] [] t0 (f_X7_rule_15 n v1 v2 v3 t0) := by
  intro n
  induction n with
  | zero => intro v1 v2 v3 t0; exact G_none
  | succ n ih =>
    intro v1 v2 v3 t0
    rw [f_X7_rule_15]
    refine G_st (x_iload_n dX7_rule_15 rfl) ?_
    refine G_st (x_bipush (8 : Int32) dX7_rule_16 rfl) ?_
    refine G_ite (fun c5 => ?_) (fun c5 => ?_)
    · refine G_st (x_icmp_ge_t (tgt := 83) dX7_rule_18 (by decide) c5) ?_
      refine G_st (x_iload_n dX7_rule_83 rfl) ?_
      exact G_ret rfl ⟨dX7_rule_84, _, rfl, rfl⟩ rfl
    · refine G_st (x_icmp_ge_f 83 dX7_rule_18 (by decide) c5) ?_
      refine G_st (x_iload_n dX7_rule_21 rfl) ?_
      refine G_st (x_istore [some (aR (0, 29)), some (aI v1), some (aI v2), some (aI v3), some (aI v3), none] dX7_rule_22 (Nat.le_of_ble_eq_true rfl) rfl rfl) ?_
      refine G_weak _ ?_ (g_X7_rule_24 ids Hn H0_29 (f_X7_rule_15 n) (ih) fuel v1 v2 v3 v3 t0)
      exact (leL_s (leL_s (leL_s (leL_s (leL_s (leL_n (leL_e _)))))))
set_option maxRecDepth 100000 in
set_option maxHeartbeats 4000000 in
theorem g_X7_rule (ids : List (Nat × Nat)) (Hn : Ndp ids)  (H0_29 : InR ids 0 29 56) (t0 : Sg) : Gj kI mX7_rule ids 0 [some (aR (0, 29)), none, none, none, none, none] [] t0 (f_X7_rule t0) := by
  unfold f_X7_rule
  refine G_st (x_aload_n dX7_rule_0 rfl) ?_
  refine G_st (x_iconst (0 : Int32) dX7_rule_1 rfl) ?_
  refine G_st (x_put (k := 18) (ty := .int) (v := aI (0 : Int32)) (z := (0 : Int32)) (upS t0 (0, 29) 18 (0 : Int32)) dX7_rule_2 (H0_29 29 (Nat.le_of_ble_eq_true rfl) (Nat.le_of_ble_eq_true rfl)) rfl rfl rfl rfl inTX7 tyX7_ok nmX7 (Nat.le_of_ble_eq_true rfl) tw_865 rfl rfl (fun ad => rfl) (fun ad => rfl) (fun ad => put_i0 ad _ _ _ _ rfl) rfl) ?_
  refine G_bvS (fun t1 => ?_)
  refine G_st (x_aload_n dX7_rule_5 rfl) ?_
  refine G_bd (fun x2 t3 h4 => ?_)
  refine G_st (x_callV [] (c_X7_oneWeek ids Hn  H0_29 _ _ _ h4) dX7_rule_6 tw_1157 kc_X7_oneWeek (H0_29 29 (Nat.le_of_ble_eq_true rfl) (Nat.le_of_ble_eq_true rfl)) rfl rfl rfl rfl ⟨Nat.le_of_ble_eq_true rfl, Nat.le_of_ble_eq_true rfl⟩ (Nat.le_of_ble_eq_true rfl) rfl) ?_
  refine G_st (x_istore_n [some (aR (0, 29)), some (aI x2), none, none, none, none] dX7_rule_9 (Nat.le_of_ble_eq_true rfl) rfl rfl) ?_
  refine G_st (x_bipush (-9 : Int32) dX7_rule_10 rfl) ?_
  refine G_st (x_istore_n [some (aR (0, 29)), some (aI x2), some (aI (-9 : Int32)), none, none, none] dX7_rule_12 (Nat.le_of_ble_eq_true rfl) rfl rfl) ?_
  refine G_st (x_iconst (0 : Int32) dX7_rule_13 rfl) ?_
  refine G_st (x_istore_n [some (aR (0, 29)), some (aI x2), some (aI (-9 : Int32)), some (aI (0 : Int32)), none, none] dX7_rule_14 (Nat.le_of_ble_eq_true rfl) rfl rfl) ?_
  refine G_weak _ ?_ (g_X7_rule_15 ids Hn H0_29 fuel x2 (-9 : Int32) (0 : Int32) t3)
  exact (leL_s (leL_s (leL_s (leL_s (leL_n (leL_n (leL_e _)))))))
set_option maxRecDepth 100000 in
set_option maxHeartbeats 4000000 in
theorem c_X7_rule (ids : List (Nat × Nat)) (Hn : Ndp ids)  (H0_29 : InR ids 0 29 56) (t0 : Sg) (r : Int32) (t1 : Sg) (hf : f_X7_rule t0 = some (r, t1)) : Mt0 mX7_rule yX7_rule ids [aR (0, 29)] t0 (some (aI r)) t1 :=
  Mt_of (x := (r, t1)) (g_X7_rule ids Hn  H0_29 t0) hf (fun _ _ => trivial) (by decide) rfl Hn (fun _ => rfl) (fun _ => Nat.le_of_ble_eq_true rfl)
theorem dX7_hang_0 : decode cX7_hang 0 = .ok (.aload_n 0, 1) := by decide +kernel
theorem dX7_hang_1 : decode cX7_hang 1 = .ok (.iconst 0, 1) := by decide +kernel
theorem dX7_hang_2 : decode cX7_hang 2 = .ok (.putfield 98, 3) := by decide +kernel
theorem dX7_hang_5 : decode cX7_hang 5 = .ok (.aload_n 0, 1) := by decide +kernel
theorem dX7_hang_6 : decode cX7_hang 6 = .ok (.iload_n 1, 1) := by decide +kernel
theorem dX7_hang_7 : decode cX7_hang 7 = .ok (.invokevirtual 213, 3) := by decide +kernel
theorem dX7_hang_10 : decode cX7_hang 10 = .ok (.istore_n 2, 1) := by decide +kernel
theorem dX7_hang_11 : decode cX7_hang 11 = .ok (.iload_n 2, 1) := by decide +kernel
theorem dX7_hang_12 : decode cX7_hang 12 = .ok (.ifCond .ge 9, 3) := by decide +kernel
theorem dX7_hang_15 : decode cX7_hang 15 = .ok (.aload_n 0, 1) := by decide +kernel
theorem dX7_hang_16 : decode cX7_hang 16 = .ok (.iconst (-1), 1) := by decide +kernel
theorem dX7_hang_17 : decode cX7_hang 17 = .ok (.invokevirtual 167, 3) := by decide +kernel
theorem dX7_hang_20 : decode cX7_hang 20 = .ok (.ireturn, 1) := by decide +kernel
theorem dX7_hang_21 : decode cX7_hang 21 = .ok (.aload_n 0, 1) := by decide +kernel
theorem dX7_hang_22 : decode cX7_hang 22 = .ok (.getfield 29, 3) := by decide +kernel
theorem dX7_hang_25 : decode cX7_hang 25 = .ok (.iload_n 2, 1) := by decide +kernel
theorem dX7_hang_26 : decode cX7_hang 26 = .ok (.iaload, 1) := by decide +kernel
theorem dX7_hang_27 : decode cX7_hang 27 = .ok (.istore_n 3, 1) := by decide +kernel
theorem dX7_hang_28 : decode cX7_hang 28 = .ok (.aload_n 0, 1) := by decide +kernel
theorem dX7_hang_29 : decode cX7_hang 29 = .ok (.iload_n 2, 1) := by decide +kernel
theorem dX7_hang_30 : decode cX7_hang 30 = .ok (.invokevirtual 135, 3) := by decide +kernel
theorem dX7_hang_33 : decode cX7_hang 33 = .ok (.istore 4, 2) := by decide +kernel
theorem dX7_hang_35 : decode cX7_hang 35 = .ok (.iconst (-1), 1) := by decide +kernel
theorem dX7_hang_36 : decode cX7_hang 36 = .ok (.istore 5, 2) := by decide +kernel
theorem dX7_hang_38 : decode cX7_hang 38 = .ok (.iconst 0, 1) := by decide +kernel
theorem dX7_hang_39 : decode cX7_hang 39 = .ok (.istore 6, 2) := by decide +kernel
theorem dX7_hang_41 : decode cX7_hang 41 = .ok (.iconst 0, 1) := by decide +kernel
theorem dX7_hang_42 : decode cX7_hang 42 = .ok (.istore 7, 2) := by decide +kernel
theorem dX7_hang_44 : decode cX7_hang 44 = .ok (.iload 7, 2) := by decide +kernel
theorem dX7_hang_46 : decode cX7_hang 46 = .ok (.bipush 8, 2) := by decide +kernel
theorem dX7_hang_48 : decode cX7_hang 48 = .ok (.if_icmp .ge 74, 3) := by decide +kernel
theorem dX7_hang_51 : decode cX7_hang 51 = .ok (.aload_n 0, 1) := by decide +kernel
theorem dX7_hang_52 : decode cX7_hang 52 = .ok (.getfield 29, 3) := by decide +kernel
theorem dX7_hang_55 : decode cX7_hang 55 = .ok (.iload_n 2, 1) := by decide +kernel
theorem dX7_hang_56 : decode cX7_hang 56 = .ok (.iconst 1, 1) := by decide +kernel
theorem dX7_hang_57 : decode cX7_hang 57 = .ok (.iload 7, 2) := by decide +kernel
theorem dX7_hang_59 : decode cX7_hang 59 = .ok (.ishl, 1) := by decide +kernel
theorem dX7_hang_60 : decode cX7_hang 60 = .ok (.iastore, 1) := by decide +kernel
theorem dX7_hang_61 : decode cX7_hang 61 = .ok (.aload_n 0, 1) := by decide +kernel
theorem dX7_hang_62 : decode cX7_hang 62 = .ok (.iload 4, 2) := by decide +kernel
theorem dX7_hang_64 : decode cX7_hang 64 = .ok (.invokevirtual 300, 3) := by decide +kernel
theorem dX7_hang_67 : decode cX7_hang 67 = .ok (.istore 8, 2) := by decide +kernel
theorem dX7_hang_69 : decode cX7_hang 69 = .ok (.iload 5, 2) := by decide +kernel
theorem dX7_hang_71 : decode cX7_hang 71 = .ok (.ifCond .lt 10, 3) := by decide +kernel
theorem dX7_hang_74 : decode cX7_hang 74 = .ok (.iload 8, 2) := by decide +kernel
theorem dX7_hang_76 : decode cX7_hang 76 = .ok (.iload 6, 2) := by decide +kernel
theorem dX7_hang_78 : decode cX7_hang 78 = .ok (.if_icmp .ge 7, 3) := by decide +kernel
theorem dX7_hang_81 : decode cX7_hang 81 = .ok (.iconst 1, 1) := by decide +kernel
theorem dX7_hang_82 : decode cX7_hang 82 = .ok (.goto 4, 3) := by decide +kernel
theorem dX7_hang_85 : decode cX7_hang 85 = .ok (.iconst 0, 1) := by decide +kernel
theorem dX7_hang_86 : decode cX7_hang 86 = .ok (.istore 9, 2) := by decide +kernel
theorem dX7_hang_88 : decode cX7_hang 88 = .ok (.iload 9, 2) := by decide +kernel
theorem dX7_hang_90 : decode cX7_hang 90 = .ok (.ifCond .eq 8, 3) := by decide +kernel
theorem dX7_hang_93 : decode cX7_hang 93 = .ok (.iload 7, 2) := by decide +kernel
theorem dX7_hang_95 : decode cX7_hang 95 = .ok (.goto 5, 3) := by decide +kernel
theorem dX7_hang_98 : decode cX7_hang 98 = .ok (.iload 5, 2) := by decide +kernel
theorem dX7_hang_100 : decode cX7_hang 100 = .ok (.istore 5, 2) := by decide +kernel
theorem dX7_hang_102 : decode cX7_hang 102 = .ok (.iload 9, 2) := by decide +kernel
theorem dX7_hang_104 : decode cX7_hang 104 = .ok (.ifCond .eq 8, 3) := by decide +kernel
theorem dX7_hang_107 : decode cX7_hang 107 = .ok (.iload 8, 2) := by decide +kernel
theorem dX7_hang_109 : decode cX7_hang 109 = .ok (.goto 5, 3) := by decide +kernel
theorem dX7_hang_112 : decode cX7_hang 112 = .ok (.iload 6, 2) := by decide +kernel
theorem dX7_hang_114 : decode cX7_hang 114 = .ok (.istore 6, 2) := by decide +kernel
theorem dX7_hang_116 : decode cX7_hang 116 = .ok (.iinc 7 1, 3) := by decide +kernel
theorem dX7_hang_119 : decode cX7_hang 119 = .ok (.goto (-75), 3) := by decide +kernel
theorem dX7_hang_122 : decode cX7_hang 122 = .ok (.aload_n 0, 1) := by decide +kernel
theorem dX7_hang_123 : decode cX7_hang 123 = .ok (.getfield 29, 3) := by decide +kernel
theorem dX7_hang_126 : decode cX7_hang 126 = .ok (.iload_n 2, 1) := by decide +kernel
theorem dX7_hang_127 : decode cX7_hang 127 = .ok (.iload_n 3, 1) := by decide +kernel
theorem dX7_hang_128 : decode cX7_hang 128 = .ok (.iastore, 1) := by decide +kernel
theorem dX7_hang_129 : decode cX7_hang 129 = .ok (.iload 5, 2) := by decide +kernel
theorem dX7_hang_131 : decode cX7_hang 131 = .ok (.ireturn, 1) := by decide +kernel
set_option maxRecDepth 100000 in
set_option maxHeartbeats 4000000 in
theorem g_X7_hang_44 (ids : List (Nat × Nat)) (Hn : Ndp ids)  (H0_29 : InR ids 0 29 56)  : ∀ (n : Nat) (v2 : Int32) (v3 : Int32) (v4 : Int32) (v5 : Int32) (v6 : Int32) (v7 : Int32) (t0 : Sg), Gj kI mX7_hang ids 44 [some (aR (0, 29)), none, some (aI v2), some (aI v3), some (aI v4), some (aI v5), some (aI v6), some (aI v7), none, none] [] t0 (f_X7_hang_44 n v2 v3 v4 v5 v6 v7 t0) := by
  intro n
  induction n with
  | zero => intro v2 v3 v4 v5 v6 v7 t0; exact G_none
  | succ n ih =>
    intro v2 v3 v4 v5 v6 v7 t0
    rw [f_X7_hang_44]
    refine G_st (x_iload dX7_hang_44 rfl) ?_
    refine G_st (x_bipush (8 : Int32) dX7_hang_46 rfl) ?_
    refine G_ite (fun c11 => ?_) (fun c11 => ?_)
    · refine G_st (x_icmp_ge_t (tgt := 122) dX7_hang_48 (by decide) c11) ?_
      refine G_st (x_aload_n dX7_hang_122 rfl) ?_
      refine G_st (x_get (k := 9) (aR (0, 34)) dX7_hang_123 (H0_29 29 (Nat.le_of_ble_eq_true rfl) (Nat.le_of_ble_eq_true rfl)) rfl rfl rfl rfl inTX7 (Nat.le_of_ble_eq_true rfl) tw_856 (fun ad => rfl)) ?_
      refine G_st (x_iload_n dX7_hang_126 rfl) ?_
      refine G_st (x_iload_n dX7_hang_127 rfl) ?_
      refine G_chk (fun c12 => ?_)
      refine G_st (x_iastore dX7_hang_128 (H0_29 34 (Nat.le_of_ble_eq_true rfl) (Nat.le_of_ble_eq_true rfl)) rfl c12) ?_
      refine G_bvS (fun t13 => ?_)
      refine G_st (x_iload dX7_hang_129 rfl) ?_
      exact G_ret rfl ⟨dX7_hang_131, _, rfl, rfl⟩ rfl
    · refine G_st (x_icmp_ge_f 122 dX7_hang_48 (by decide) c11) ?_
      refine G_st (x_aload_n dX7_hang_51 rfl) ?_
      refine G_st (x_get (k := 9) (aR (0, 34)) dX7_hang_52 (H0_29 29 (Nat.le_of_ble_eq_true rfl) (Nat.le_of_ble_eq_true rfl)) rfl rfl rfl rfl inTX7 (Nat.le_of_ble_eq_true rfl) tw_856 (fun ad => rfl)) ?_
      refine G_st (x_iload_n dX7_hang_55 rfl) ?_
      refine G_st (x_iconst (1 : Int32) dX7_hang_56 rfl) ?_
      refine G_st (x_iload dX7_hang_57 rfl) ?_
      refine G_st (x_ishl dX7_hang_59) ?_
      refine G_chk (fun c14 => ?_)
      refine G_st (x_iastore dX7_hang_60 (H0_29 34 (Nat.le_of_ble_eq_true rfl) (Nat.le_of_ble_eq_true rfl)) rfl c14) ?_
      refine G_bvS (fun t15 => ?_)
      refine G_st (x_aload_n dX7_hang_61 rfl) ?_
      refine G_st (x_iload dX7_hang_62 rfl) ?_
      refine G_bd (fun x16 t17 h18 => ?_)
      refine G_st (x_callV [] (c_X7_oneWeekOf ids Hn v4 H0_29 _ _ _ h18) dX7_hang_64 tw_1258 kc_X7_oneWeekOf (H0_29 29 (Nat.le_of_ble_eq_true rfl) (Nat.le_of_ble_eq_true rfl)) rfl rfl rfl rfl ⟨Nat.le_of_ble_eq_true rfl, Nat.le_of_ble_eq_true rfl⟩ (Nat.le_of_ble_eq_true rfl) rfl) ?_
      refine G_st (x_istore [some (aR (0, 29)), none, some (aI v2), some (aI v3), some (aI v4), some (aI v5), some (aI v6), some (aI v7), some (aI x16), none] dX7_hang_67 (Nat.le_of_ble_eq_true rfl) rfl rfl) ?_
      refine G_st (x_iload dX7_hang_69 rfl) ?_
      have e21 : Tj mX7_hang ids 71 [some (aR (0, 29)), none, some (aI v2), some (aI v3), some (aI v4), some (aI v5), some (aI v6), some (aI v7), some (aI x16), none] [aI v5] t17 86 [some (aR (0, 29)), none, some (aI v2), some (aI v3), some (aI v4), some (aI v5), some (aI v6), some (aI v7), some (aI x16), none] [aI (if v5 < 0 then (1 : Int32) else (if v6 ≤ x16 then (0 : Int32) else (1 : Int32)))] t17 := by
        refine Tj.dia (fun c19 => ?_) (fun c19 => ?_)
        · refine Tj.tr (x_if_lt_t (tgt := 81) dX7_hang_71 (by decide) c19) ?_
          refine Tj.tr (x_iconst (1 : Int32) dX7_hang_81 rfl) ?_
          refine Tj.tr (x_goto (tgt := 86) dX7_hang_82 (by decide)) ?_
          exact Tj.rf
        · refine Tj.tr (x_if_lt_f 81 dX7_hang_71 (by decide) c19) ?_
          refine Tj.tr (x_iload dX7_hang_74 rfl) ?_
          refine Tj.tr (x_iload dX7_hang_76 rfl) ?_
          refine Tj.dia (fun c20 => ?_) (fun c20 => ?_)
          · refine Tj.tr (x_icmp_ge_t (tgt := 85) dX7_hang_78 (by decide) c20) ?_
            refine Tj.tr (x_iconst (0 : Int32) dX7_hang_85 rfl) ?_
            exact Tj.rf
          · refine Tj.tr (x_icmp_ge_f 85 dX7_hang_78 (by decide) c20) ?_
            refine Tj.tr (x_iconst (1 : Int32) dX7_hang_81 rfl) ?_
            refine Tj.tr (x_goto (tgt := 86) dX7_hang_82 (by decide)) ?_
            exact Tj.rf
      refine G_st e21 ?_
      refine G_bvI (fun x22 => ?_)
      refine G_st (x_istore [some (aR (0, 29)), none, some (aI v2), some (aI v3), some (aI v4), some (aI v5), some (aI v6), some (aI v7), some (aI x16), some (aI x22)] dX7_hang_86 (Nat.le_of_ble_eq_true rfl) rfl rfl) ?_
      refine G_st (x_iload dX7_hang_88 rfl) ?_
      have e24 : Tj mX7_hang ids 90 [some (aR (0, 29)), none, some (aI v2), some (aI v3), some (aI v4), some (aI v5), some (aI v6), some (aI v7), some (aI x16), some (aI x22)] [aI x22] t17 100 [some (aR (0, 29)), none, some (aI v2), some (aI v3), some (aI v4), some (aI v5), some (aI v6), some (aI v7), some (aI x16), some (aI x22)] [aI (if x22 = 0 then v5 else v7)] t17 := by
        refine Tj.dia (fun c23 => ?_) (fun c23 => ?_)
        · refine Tj.tr (x_if_eq_t (tgt := 98) dX7_hang_90 (by decide) c23) ?_
          refine Tj.tr (x_iload dX7_hang_98 rfl) ?_
          exact Tj.rf
        · refine Tj.tr (x_if_eq_f 98 dX7_hang_90 (by decide) c23) ?_
          refine Tj.tr (x_iload dX7_hang_93 rfl) ?_
          refine Tj.tr (x_goto (tgt := 100) dX7_hang_95 (by decide)) ?_
          exact Tj.rf
      refine G_st e24 ?_
      refine G_bvI (fun x25 => ?_)
      refine G_st (x_istore [some (aR (0, 29)), none, some (aI v2), some (aI v3), some (aI v4), some (aI x25), some (aI v6), some (aI v7), some (aI x16), some (aI x22)] dX7_hang_100 (Nat.le_of_ble_eq_true rfl) rfl rfl) ?_
      refine G_st (x_iload dX7_hang_102 rfl) ?_
      have e27 : Tj mX7_hang ids 104 [some (aR (0, 29)), none, some (aI v2), some (aI v3), some (aI v4), some (aI x25), some (aI v6), some (aI v7), some (aI x16), some (aI x22)] [aI x22] t17 114 [some (aR (0, 29)), none, some (aI v2), some (aI v3), some (aI v4), some (aI x25), some (aI v6), some (aI v7), some (aI x16), some (aI x22)] [aI (if x22 = 0 then v6 else x16)] t17 := by
        refine Tj.dia (fun c26 => ?_) (fun c26 => ?_)
        · refine Tj.tr (x_if_eq_t (tgt := 112) dX7_hang_104 (by decide) c26) ?_
          refine Tj.tr (x_iload dX7_hang_112 rfl) ?_
          exact Tj.rf
        · refine Tj.tr (x_if_eq_f 112 dX7_hang_104 (by decide) c26) ?_
          refine Tj.tr (x_iload dX7_hang_107 rfl) ?_
          refine Tj.tr (x_goto (tgt := 114) dX7_hang_109 (by decide)) ?_
          exact Tj.rf
      refine G_st e27 ?_
      refine G_bvI (fun x28 => ?_)
      refine G_st (x_istore [some (aR (0, 29)), none, some (aI v2), some (aI v3), some (aI v4), some (aI x25), some (aI x28), some (aI v7), some (aI x16), some (aI x22)] dX7_hang_114 (Nat.le_of_ble_eq_true rfl) rfl rfl) ?_
      refine G_st (x_iinc (v7 + (1 : Int32)) [some (aR (0, 29)), none, some (aI v2), some (aI v3), some (aI v4), some (aI x25), some (aI x28), some (aI (v7 + (1 : Int32))), some (aI x16), some (aI x22)] dX7_hang_116 (Nat.le_of_ble_eq_true rfl) rfl rfl rfl rfl) ?_
      refine G_st (x_goto (tgt := 44) dX7_hang_119 (by decide)) ?_
      refine G_weak _ ?_ ((ih) v2 v3 v4 x25 x28 (v7 + (1 : Int32)) t17)
      exact (leL_s (leL_n (leL_s (leL_s (leL_s (leL_s (leL_s (leL_s (leL_n (leL_n (leL_e _)))))))))))
set_option maxRecDepth 100000 in
set_option maxHeartbeats 4000000 in
theorem g_X7_hang (ids : List (Nat × Nat)) (Hn : Ndp ids) (v1 : Int32) (H0_29 : InR ids 0 29 56) (t0 : Sg) : Gj kI mX7_hang ids 0 [some (aR (0, 29)), some (aI v1), none, none, none, none, none, none, none, none] [] t0 (f_X7_hang v1 t0) := by
  unfold f_X7_hang
  refine G_st (x_aload_n dX7_hang_0 rfl) ?_
  refine G_st (x_iconst (0 : Int32) dX7_hang_1 rfl) ?_
  refine G_st (x_put (k := 18) (ty := .int) (v := aI (0 : Int32)) (z := (0 : Int32)) (upS t0 (0, 29) 18 (0 : Int32)) dX7_hang_2 (H0_29 29 (Nat.le_of_ble_eq_true rfl) (Nat.le_of_ble_eq_true rfl)) rfl rfl rfl rfl inTX7 tyX7_ok nmX7 (Nat.le_of_ble_eq_true rfl) tw_865 rfl rfl (fun ad => rfl) (fun ad => rfl) (fun ad => put_i0 ad _ _ _ _ rfl) rfl) ?_
  refine G_bvS (fun t1 => ?_)
  refine G_st (x_aload_n dX7_hang_5 rfl) ?_
  refine G_st (x_iload_n dX7_hang_6 rfl) ?_
  refine G_bd (fun x2 t3 h4 => ?_)
  refine G_st (x_callV [] (c_X7_flatAt ids Hn v1 H0_29 _ _ _ h4) dX7_hang_7 tw_1054 kc_X7_flatAt (H0_29 29 (Nat.le_of_ble_eq_true rfl) (Nat.le_of_ble_eq_true rfl)) rfl rfl rfl rfl ⟨Nat.le_of_ble_eq_true rfl, Nat.le_of_ble_eq_true rfl⟩ (Nat.le_of_ble_eq_true rfl) rfl) ?_
  refine G_st (x_istore_n [some (aR (0, 29)), some (aI v1), some (aI x2), none, none, none, none, none, none, none] dX7_hang_10 (Nat.le_of_ble_eq_true rfl) rfl rfl) ?_
  refine G_st (x_iload_n dX7_hang_11 rfl) ?_
  refine G_ite (fun c5 => ?_) (fun c5 => ?_)
  · refine G_st (x_if_ge_t (tgt := 21) dX7_hang_12 (by decide) c5) ?_
    refine G_st (x_aload_n dX7_hang_21 rfl) ?_
    refine G_st (x_get (k := 9) (aR (0, 34)) dX7_hang_22 (H0_29 29 (Nat.le_of_ble_eq_true rfl) (Nat.le_of_ble_eq_true rfl)) rfl rfl rfl rfl inTX7 (Nat.le_of_ble_eq_true rfl) tw_856 (fun ad => rfl)) ?_
    refine G_st (x_iload_n dX7_hang_25 rfl) ?_
    refine G_chk (fun c6 => ?_)
    refine G_st (x_iaload dX7_hang_26 (H0_29 34 (Nat.le_of_ble_eq_true rfl) (Nat.le_of_ble_eq_true rfl)) rfl c6) ?_
    refine G_bvI (fun x7 => ?_)
    refine G_st (x_istore_n [some (aR (0, 29)), some (aI v1), some (aI x2), some (aI x7), none, none, none, none, none, none] dX7_hang_27 (Nat.le_of_ble_eq_true rfl) rfl rfl) ?_
    refine G_st (x_aload_n dX7_hang_28 rfl) ?_
    refine G_st (x_iload_n dX7_hang_29 rfl) ?_
    refine G_bd (fun x8 t9 h10 => ?_)
    refine G_st (x_callV [] (c_X7_livesIn ids Hn x2 H0_29 _ _ _ h10) dX7_hang_30 tw_1078 kc_X7_livesIn (H0_29 29 (Nat.le_of_ble_eq_true rfl) (Nat.le_of_ble_eq_true rfl)) rfl rfl rfl rfl ⟨Nat.le_of_ble_eq_true rfl, Nat.le_of_ble_eq_true rfl⟩ (Nat.le_of_ble_eq_true rfl) rfl) ?_
    refine G_st (x_istore [some (aR (0, 29)), some (aI v1), some (aI x2), some (aI x7), some (aI x8), none, none, none, none, none] dX7_hang_33 (Nat.le_of_ble_eq_true rfl) rfl rfl) ?_
    refine G_st (x_iconst (-1 : Int32) dX7_hang_35 rfl) ?_
    refine G_st (x_istore [some (aR (0, 29)), some (aI v1), some (aI x2), some (aI x7), some (aI x8), some (aI (-1 : Int32)), none, none, none, none] dX7_hang_36 (Nat.le_of_ble_eq_true rfl) rfl rfl) ?_
    refine G_st (x_iconst (0 : Int32) dX7_hang_38 rfl) ?_
    refine G_st (x_istore [some (aR (0, 29)), some (aI v1), some (aI x2), some (aI x7), some (aI x8), some (aI (-1 : Int32)), some (aI (0 : Int32)), none, none, none] dX7_hang_39 (Nat.le_of_ble_eq_true rfl) rfl rfl) ?_
    refine G_st (x_iconst (0 : Int32) dX7_hang_41 rfl) ?_
    refine G_st (x_istore [some (aR (0, 29)), some (aI v1), some (aI x2), some (aI x7), some (aI x8), some (aI (-1 : Int32)), some (aI (0 : Int32)), some (aI (0 : Int32)), none, none] dX7_hang_42 (Nat.le_of_ble_eq_true rfl) rfl rfl) ?_
    refine G_weak _ ?_ (g_X7_hang_44 ids Hn H0_29 fuel x2 x7 x8 (-1 : Int32) (0 : Int32) (0 : Int32) t9)
    exact (leL_s (leL_n (leL_s (leL_s (leL_s (leL_s (leL_s (leL_s (leL_n (leL_n (leL_e _)))))))))))
  · refine G_st (x_if_ge_f 21 dX7_hang_12 (by decide) c5) ?_
    refine G_st (x_aload_n dX7_hang_15 rfl) ?_
    refine G_st (x_iconst (-1 : Int32) dX7_hang_16 rfl) ?_
    refine G_bd (fun x29 t30 h31 => ?_)
    refine G_st (x_callV [] (c_X7_refuse ids Hn (-1 : Int32) H0_29 _ _ _ h31) dX7_hang_17 tw_981 kc_X7_refuse (H0_29 29 (Nat.le_of_ble_eq_true rfl) (Nat.le_of_ble_eq_true rfl)) rfl rfl rfl rfl ⟨Nat.le_of_ble_eq_true rfl, Nat.le_of_ble_eq_true rfl⟩ (Nat.le_of_ble_eq_true rfl) rfl) ?_
    exact G_ret rfl ⟨dX7_hang_20, _, rfl, rfl⟩ rfl
set_option maxRecDepth 100000 in
set_option maxHeartbeats 4000000 in
theorem c_X7_hang (ids : List (Nat × Nat)) (Hn : Ndp ids) (v1 : Int32) (H0_29 : InR ids 0 29 56) (t0 : Sg) (r : Int32) (t1 : Sg) (hf : f_X7_hang v1 t0 = some (r, t1)) : Mt0 mX7_hang yX7_hang ids [aR (0, 29), aI v1] t0 (some (aI r)) t1 :=
  Mt_of (x := (r, t1)) (g_X7_hang ids Hn v1 H0_29 t0) hf (fun _ _ => trivial) (by decide) rfl Hn (fun _ => rfl) (fun _ => Nat.le_of_ble_eq_true rfl)
theorem dX7_big_0 : decode cX7_big 0 = .ok (.aload_n 0, 1) := by decide +kernel
theorem dX7_big_1 : decode cX7_big 1 = .ok (.iconst 0, 1) := by decide +kernel
theorem dX7_big_2 : decode cX7_big 2 = .ok (.putfield 98, 3) := by decide +kernel
theorem dX7_big_5 : decode cX7_big 5 = .ok (.aload_n 0, 1) := by decide +kernel
theorem dX7_big_6 : decode cX7_big 6 = .ok (.iload_n 1, 1) := by decide +kernel
theorem dX7_big_7 : decode cX7_big 7 = .ok (.invokevirtual 213, 3) := by decide +kernel
theorem dX7_big_10 : decode cX7_big 10 = .ok (.istore_n 2, 1) := by decide +kernel
theorem dX7_big_11 : decode cX7_big 11 = .ok (.iload_n 2, 1) := by decide +kernel
theorem dX7_big_12 : decode cX7_big 12 = .ok (.ifCond .ge 9, 3) := by decide +kernel
theorem dX7_big_15 : decode cX7_big 15 = .ok (.aload_n 0, 1) := by decide +kernel
theorem dX7_big_16 : decode cX7_big 16 = .ok (.iconst (-1), 1) := by decide +kernel
theorem dX7_big_17 : decode cX7_big 17 = .ok (.invokevirtual 167, 3) := by decide +kernel
theorem dX7_big_20 : decode cX7_big 20 = .ok (.ireturn, 1) := by decide +kernel
theorem dX7_big_21 : decode cX7_big 21 = .ok (.aload_n 0, 1) := by decide +kernel
theorem dX7_big_22 : decode cX7_big 22 = .ok (.getfield 16, 3) := by decide +kernel
theorem dX7_big_25 : decode cX7_big 25 = .ok (.iload_n 2, 1) := by decide +kernel
theorem dX7_big_26 : decode cX7_big 26 = .ok (.iaload, 1) := by decide +kernel
theorem dX7_big_27 : decode cX7_big 27 = .ok (.istore_n 3, 1) := by decide +kernel
theorem dX7_big_28 : decode cX7_big 28 = .ok (.aload_n 0, 1) := by decide +kernel
theorem dX7_big_29 : decode cX7_big 29 = .ok (.getfield 20, 3) := by decide +kernel
theorem dX7_big_32 : decode cX7_big 32 = .ok (.iload_n 2, 1) := by decide +kernel
theorem dX7_big_33 : decode cX7_big 33 = .ok (.iaload, 1) := by decide +kernel
theorem dX7_big_34 : decode cX7_big 34 = .ok (.istore 4, 2) := by decide +kernel
theorem dX7_big_36 : decode cX7_big 36 = .ok (.iconst (-1), 1) := by decide +kernel
theorem dX7_big_37 : decode cX7_big 37 = .ok (.istore 5, 2) := by decide +kernel
theorem dX7_big_39 : decode cX7_big 39 = .ok (.iconst 0, 1) := by decide +kernel
theorem dX7_big_40 : decode cX7_big 40 = .ok (.istore 6, 2) := by decide +kernel
theorem dX7_big_42 : decode cX7_big 42 = .ok (.aload_n 0, 1) := by decide +kernel
theorem dX7_big_43 : decode cX7_big 43 = .ok (.getfield 20, 3) := by decide +kernel
theorem dX7_big_46 : decode cX7_big 46 = .ok (.iload_n 2, 1) := by decide +kernel
theorem dX7_big_47 : decode cX7_big 47 = .ok (.iconst 0, 1) := by decide +kernel
theorem dX7_big_48 : decode cX7_big 48 = .ok (.iastore, 1) := by decide +kernel
theorem dX7_big_49 : decode cX7_big 49 = .ok (.iconst 0, 1) := by decide +kernel
theorem dX7_big_50 : decode cX7_big 50 = .ok (.istore 7, 2) := by decide +kernel
theorem dX7_big_52 : decode cX7_big 52 = .ok (.iload 7, 2) := by decide +kernel
theorem dX7_big_54 : decode cX7_big 54 = .ok (.bipush 10, 2) := by decide +kernel
theorem dX7_big_56 : decode cX7_big 56 = .ok (.if_icmp .ge 70, 3) := by decide +kernel
theorem dX7_big_59 : decode cX7_big 59 = .ok (.aload_n 0, 1) := by decide +kernel
theorem dX7_big_60 : decode cX7_big 60 = .ok (.getfield 16, 3) := by decide +kernel
theorem dX7_big_63 : decode cX7_big 63 = .ok (.iload_n 2, 1) := by decide +kernel
theorem dX7_big_64 : decode cX7_big 64 = .ok (.iload 7, 2) := by decide +kernel
theorem dX7_big_66 : decode cX7_big 66 = .ok (.iastore, 1) := by decide +kernel
theorem dX7_big_67 : decode cX7_big 67 = .ok (.aload_n 0, 1) := by decide +kernel
theorem dX7_big_68 : decode cX7_big 68 = .ok (.invokevirtual 160, 3) := by decide +kernel
theorem dX7_big_71 : decode cX7_big 71 = .ok (.istore 8, 2) := by decide +kernel
theorem dX7_big_73 : decode cX7_big 73 = .ok (.iload 5, 2) := by decide +kernel
theorem dX7_big_75 : decode cX7_big 75 = .ok (.ifCond .lt 10, 3) := by decide +kernel
theorem dX7_big_78 : decode cX7_big 78 = .ok (.iload 8, 2) := by decide +kernel
theorem dX7_big_80 : decode cX7_big 80 = .ok (.iload 6, 2) := by decide +kernel
theorem dX7_big_82 : decode cX7_big 82 = .ok (.if_icmp .ge 7, 3) := by decide +kernel
theorem dX7_big_85 : decode cX7_big 85 = .ok (.iconst 1, 1) := by decide +kernel
theorem dX7_big_86 : decode cX7_big 86 = .ok (.goto 4, 3) := by decide +kernel
theorem dX7_big_89 : decode cX7_big 89 = .ok (.iconst 0, 1) := by decide +kernel
theorem dX7_big_90 : decode cX7_big 90 = .ok (.istore 9, 2) := by decide +kernel
theorem dX7_big_92 : decode cX7_big 92 = .ok (.iload 9, 2) := by decide +kernel
theorem dX7_big_94 : decode cX7_big 94 = .ok (.ifCond .eq 8, 3) := by decide +kernel
theorem dX7_big_97 : decode cX7_big 97 = .ok (.iload 7, 2) := by decide +kernel
theorem dX7_big_99 : decode cX7_big 99 = .ok (.goto 5, 3) := by decide +kernel
theorem dX7_big_102 : decode cX7_big 102 = .ok (.iload 5, 2) := by decide +kernel
theorem dX7_big_104 : decode cX7_big 104 = .ok (.istore 5, 2) := by decide +kernel
theorem dX7_big_106 : decode cX7_big 106 = .ok (.iload 9, 2) := by decide +kernel
theorem dX7_big_108 : decode cX7_big 108 = .ok (.ifCond .eq 8, 3) := by decide +kernel
theorem dX7_big_111 : decode cX7_big 111 = .ok (.iload 8, 2) := by decide +kernel
theorem dX7_big_113 : decode cX7_big 113 = .ok (.goto 5, 3) := by decide +kernel
theorem dX7_big_116 : decode cX7_big 116 = .ok (.iload 6, 2) := by decide +kernel
theorem dX7_big_118 : decode cX7_big 118 = .ok (.istore 6, 2) := by decide +kernel
theorem dX7_big_120 : decode cX7_big 120 = .ok (.iinc 7 1, 3) := by decide +kernel
theorem dX7_big_123 : decode cX7_big 123 = .ok (.goto (-71), 3) := by decide +kernel
theorem dX7_big_126 : decode cX7_big 126 = .ok (.aload_n 0, 1) := by decide +kernel
theorem dX7_big_127 : decode cX7_big 127 = .ok (.getfield 16, 3) := by decide +kernel
theorem dX7_big_130 : decode cX7_big 130 = .ok (.iload_n 2, 1) := by decide +kernel
theorem dX7_big_131 : decode cX7_big 131 = .ok (.iload_n 3, 1) := by decide +kernel
theorem dX7_big_132 : decode cX7_big 132 = .ok (.iastore, 1) := by decide +kernel
theorem dX7_big_133 : decode cX7_big 133 = .ok (.aload_n 0, 1) := by decide +kernel
theorem dX7_big_134 : decode cX7_big 134 = .ok (.getfield 20, 3) := by decide +kernel
theorem dX7_big_137 : decode cX7_big 137 = .ok (.iload_n 2, 1) := by decide +kernel
theorem dX7_big_138 : decode cX7_big 138 = .ok (.iload 4, 2) := by decide +kernel
theorem dX7_big_140 : decode cX7_big 140 = .ok (.iastore, 1) := by decide +kernel
theorem dX7_big_141 : decode cX7_big 141 = .ok (.iload 5, 2) := by decide +kernel
theorem dX7_big_143 : decode cX7_big 143 = .ok (.ireturn, 1) := by decide +kernel
set_option maxRecDepth 100000 in
set_option maxHeartbeats 4000000 in
theorem g_X7_big_52 (ids : List (Nat × Nat)) (Hn : Ndp ids)  (H0_29 : InR ids 0 29 56)  : ∀ (n : Nat) (v2 : Int32) (v3 : Int32) (v4 : Int32) (v5 : Int32) (v6 : Int32) (v7 : Int32) (t0 : Sg), Gj kI mX7_big ids 52 [some (aR (0, 29)), none, some (aI v2), some (aI v3), some (aI v4), some (aI v5), some (aI v6), some (aI v7), none, none] [] t0 (f_X7_big_52 n v2 v3 v4 v5 v6 v7 t0) := by
  intro n
  induction n with
  | zero => intro v2 v3 v4 v5 v6 v7 t0; exact G_none
  | succ n ih =>
    intro v2 v3 v4 v5 v6 v7 t0
    rw [f_X7_big_52]
    refine G_st (x_iload dX7_big_52 rfl) ?_
    refine G_st (x_bipush (10 : Int32) dX7_big_54 rfl) ?_
    refine G_ite (fun c12 => ?_) (fun c12 => ?_)
    · refine G_st (x_icmp_ge_t (tgt := 126) dX7_big_56 (by decide) c12) ?_
      refine G_st (x_aload_n dX7_big_126 rfl) ?_
      refine G_st (x_get (k := 5) (aR (0, 30)) dX7_big_127 (H0_29 29 (Nat.le_of_ble_eq_true rfl) (Nat.le_of_ble_eq_true rfl)) rfl rfl rfl rfl inTX7 (Nat.le_of_ble_eq_true rfl) tw_852 (fun ad => rfl)) ?_
      refine G_st (x_iload_n dX7_big_130 rfl) ?_
      refine G_st (x_iload_n dX7_big_131 rfl) ?_
      refine G_chk (fun c13 => ?_)
      refine G_st (x_iastore dX7_big_132 (H0_29 30 (Nat.le_of_ble_eq_true rfl) (Nat.le_of_ble_eq_true rfl)) rfl c13) ?_
      refine G_bvS (fun t14 => ?_)
      refine G_st (x_aload_n dX7_big_133 rfl) ?_
      refine G_st (x_get (k := 6) (aR (0, 31)) dX7_big_134 (H0_29 29 (Nat.le_of_ble_eq_true rfl) (Nat.le_of_ble_eq_true rfl)) rfl rfl rfl rfl inTX7 (Nat.le_of_ble_eq_true rfl) tw_853 (fun ad => rfl)) ?_
      refine G_st (x_iload_n dX7_big_137 rfl) ?_
      refine G_st (x_iload dX7_big_138 rfl) ?_
      refine G_chk (fun c15 => ?_)
      refine G_st (x_iastore dX7_big_140 (H0_29 31 (Nat.le_of_ble_eq_true rfl) (Nat.le_of_ble_eq_true rfl)) rfl c15) ?_
      refine G_bvS (fun t16 => ?_)
      refine G_st (x_iload dX7_big_141 rfl) ?_
      exact G_ret rfl ⟨dX7_big_143, _, rfl, rfl⟩ rfl
    · refine G_st (x_icmp_ge_f 126 dX7_big_56 (by decide) c12) ?_
      refine G_st (x_aload_n dX7_big_59 rfl) ?_
      refine G_st (x_get (k := 5) (aR (0, 30)) dX7_big_60 (H0_29 29 (Nat.le_of_ble_eq_true rfl) (Nat.le_of_ble_eq_true rfl)) rfl rfl rfl rfl inTX7 (Nat.le_of_ble_eq_true rfl) tw_852 (fun ad => rfl)) ?_
      refine G_st (x_iload_n dX7_big_63 rfl) ?_
      refine G_st (x_iload dX7_big_64 rfl) ?_
      refine G_chk (fun c17 => ?_)
      refine G_st (x_iastore dX7_big_66 (H0_29 30 (Nat.le_of_ble_eq_true rfl) (Nat.le_of_ble_eq_true rfl)) rfl c17) ?_
      refine G_bvS (fun t18 => ?_)
      refine G_st (x_aload_n dX7_big_67 rfl) ?_
      refine G_bd (fun x19 t20 h21 => ?_)
      refine G_st (x_callV [] (c_X7_oneWeek ids Hn  H0_29 _ _ _ h21) dX7_big_68 tw_1157 kc_X7_oneWeek (H0_29 29 (Nat.le_of_ble_eq_true rfl) (Nat.le_of_ble_eq_true rfl)) rfl rfl rfl rfl ⟨Nat.le_of_ble_eq_true rfl, Nat.le_of_ble_eq_true rfl⟩ (Nat.le_of_ble_eq_true rfl) rfl) ?_
      refine G_st (x_istore [some (aR (0, 29)), none, some (aI v2), some (aI v3), some (aI v4), some (aI v5), some (aI v6), some (aI v7), some (aI x19), none] dX7_big_71 (Nat.le_of_ble_eq_true rfl) rfl rfl) ?_
      refine G_st (x_iload dX7_big_73 rfl) ?_
      have e24 : Tj mX7_big ids 75 [some (aR (0, 29)), none, some (aI v2), some (aI v3), some (aI v4), some (aI v5), some (aI v6), some (aI v7), some (aI x19), none] [aI v5] t20 90 [some (aR (0, 29)), none, some (aI v2), some (aI v3), some (aI v4), some (aI v5), some (aI v6), some (aI v7), some (aI x19), none] [aI (if v5 < 0 then (1 : Int32) else (if v6 ≤ x19 then (0 : Int32) else (1 : Int32)))] t20 := by
        refine Tj.dia (fun c22 => ?_) (fun c22 => ?_)
        · refine Tj.tr (x_if_lt_t (tgt := 85) dX7_big_75 (by decide) c22) ?_
          refine Tj.tr (x_iconst (1 : Int32) dX7_big_85 rfl) ?_
          refine Tj.tr (x_goto (tgt := 90) dX7_big_86 (by decide)) ?_
          exact Tj.rf
        · refine Tj.tr (x_if_lt_f 85 dX7_big_75 (by decide) c22) ?_
          refine Tj.tr (x_iload dX7_big_78 rfl) ?_
          refine Tj.tr (x_iload dX7_big_80 rfl) ?_
          refine Tj.dia (fun c23 => ?_) (fun c23 => ?_)
          · refine Tj.tr (x_icmp_ge_t (tgt := 89) dX7_big_82 (by decide) c23) ?_
            refine Tj.tr (x_iconst (0 : Int32) dX7_big_89 rfl) ?_
            exact Tj.rf
          · refine Tj.tr (x_icmp_ge_f 89 dX7_big_82 (by decide) c23) ?_
            refine Tj.tr (x_iconst (1 : Int32) dX7_big_85 rfl) ?_
            refine Tj.tr (x_goto (tgt := 90) dX7_big_86 (by decide)) ?_
            exact Tj.rf
      refine G_st e24 ?_
      refine G_bvI (fun x25 => ?_)
      refine G_st (x_istore [some (aR (0, 29)), none, some (aI v2), some (aI v3), some (aI v4), some (aI v5), some (aI v6), some (aI v7), some (aI x19), some (aI x25)] dX7_big_90 (Nat.le_of_ble_eq_true rfl) rfl rfl) ?_
      refine G_st (x_iload dX7_big_92 rfl) ?_
      have e27 : Tj mX7_big ids 94 [some (aR (0, 29)), none, some (aI v2), some (aI v3), some (aI v4), some (aI v5), some (aI v6), some (aI v7), some (aI x19), some (aI x25)] [aI x25] t20 104 [some (aR (0, 29)), none, some (aI v2), some (aI v3), some (aI v4), some (aI v5), some (aI v6), some (aI v7), some (aI x19), some (aI x25)] [aI (if x25 = 0 then v5 else v7)] t20 := by
        refine Tj.dia (fun c26 => ?_) (fun c26 => ?_)
        · refine Tj.tr (x_if_eq_t (tgt := 102) dX7_big_94 (by decide) c26) ?_
          refine Tj.tr (x_iload dX7_big_102 rfl) ?_
          exact Tj.rf
        · refine Tj.tr (x_if_eq_f 102 dX7_big_94 (by decide) c26) ?_
          refine Tj.tr (x_iload dX7_big_97 rfl) ?_
          refine Tj.tr (x_goto (tgt := 104) dX7_big_99 (by decide)) ?_
          exact Tj.rf
      refine G_st e27 ?_
      refine G_bvI (fun x28 => ?_)
      refine G_st (x_istore [some (aR (0, 29)), none, some (aI v2), some (aI v3), some (aI v4), some (aI x28), some (aI v6), some (aI v7), some (aI x19), some (aI x25)] dX7_big_104 (Nat.le_of_ble_eq_true rfl) rfl rfl) ?_
      refine G_st (x_iload dX7_big_106 rfl) ?_
      have e30 : Tj mX7_big ids 108 [some (aR (0, 29)), none, some (aI v2), some (aI v3), some (aI v4), some (aI x28), some (aI v6), some (aI v7), some (aI x19), some (aI x25)] [aI x25] t20 118 [some (aR (0, 29)), none, some (aI v2), some (aI v3), some (aI v4), some (aI x28), some (aI v6), some (aI v7), some (aI x19), some (aI x25)] [aI (if x25 = 0 then v6 else x19)] t20 := by
        refine Tj.dia (fun c29 => ?_) (fun c29 => ?_)
        · refine Tj.tr (x_if_eq_t (tgt := 116) dX7_big_108 (by decide) c29) ?_
          refine Tj.tr (x_iload dX7_big_116 rfl) ?_
          exact Tj.rf
        · refine Tj.tr (x_if_eq_f 116 dX7_big_108 (by decide) c29) ?_
          refine Tj.tr (x_iload dX7_big_111 rfl) ?_
          refine Tj.tr (x_goto (tgt := 118) dX7_big_113 (by decide)) ?_
          exact Tj.rf
      refine G_st e30 ?_
      refine G_bvI (fun x31 => ?_)
      refine G_st (x_istore [some (aR (0, 29)), none, some (aI v2), some (aI v3), some (aI v4), some (aI x28), some (aI x31), some (aI v7), some (aI x19), some (aI x25)] dX7_big_118 (Nat.le_of_ble_eq_true rfl) rfl rfl) ?_
      refine G_st (x_iinc (v7 + (1 : Int32)) [some (aR (0, 29)), none, some (aI v2), some (aI v3), some (aI v4), some (aI x28), some (aI x31), some (aI (v7 + (1 : Int32))), some (aI x19), some (aI x25)] dX7_big_120 (Nat.le_of_ble_eq_true rfl) rfl rfl rfl rfl) ?_
      refine G_st (x_goto (tgt := 52) dX7_big_123 (by decide)) ?_
      refine G_weak _ ?_ ((ih) v2 v3 v4 x28 x31 (v7 + (1 : Int32)) t20)
      exact (leL_s (leL_n (leL_s (leL_s (leL_s (leL_s (leL_s (leL_s (leL_n (leL_n (leL_e _)))))))))))
set_option maxRecDepth 100000 in
set_option maxHeartbeats 4000000 in
theorem g_X7_big (ids : List (Nat × Nat)) (Hn : Ndp ids) (v1 : Int32) (H0_29 : InR ids 0 29 56) (t0 : Sg) : Gj kI mX7_big ids 0 [some (aR (0, 29)), some (aI v1), none, none, none, none, none, none, none, none] [] t0 (f_X7_big v1 t0) := by
  unfold f_X7_big
  refine G_st (x_aload_n dX7_big_0 rfl) ?_
  refine G_st (x_iconst (0 : Int32) dX7_big_1 rfl) ?_
  refine G_st (x_put (k := 18) (ty := .int) (v := aI (0 : Int32)) (z := (0 : Int32)) (upS t0 (0, 29) 18 (0 : Int32)) dX7_big_2 (H0_29 29 (Nat.le_of_ble_eq_true rfl) (Nat.le_of_ble_eq_true rfl)) rfl rfl rfl rfl inTX7 tyX7_ok nmX7 (Nat.le_of_ble_eq_true rfl) tw_865 rfl rfl (fun ad => rfl) (fun ad => rfl) (fun ad => put_i0 ad _ _ _ _ rfl) rfl) ?_
  refine G_bvS (fun t1 => ?_)
  refine G_st (x_aload_n dX7_big_5 rfl) ?_
  refine G_st (x_iload_n dX7_big_6 rfl) ?_
  refine G_bd (fun x2 t3 h4 => ?_)
  refine G_st (x_callV [] (c_X7_flatAt ids Hn v1 H0_29 _ _ _ h4) dX7_big_7 tw_1054 kc_X7_flatAt (H0_29 29 (Nat.le_of_ble_eq_true rfl) (Nat.le_of_ble_eq_true rfl)) rfl rfl rfl rfl ⟨Nat.le_of_ble_eq_true rfl, Nat.le_of_ble_eq_true rfl⟩ (Nat.le_of_ble_eq_true rfl) rfl) ?_
  refine G_st (x_istore_n [some (aR (0, 29)), some (aI v1), some (aI x2), none, none, none, none, none, none, none] dX7_big_10 (Nat.le_of_ble_eq_true rfl) rfl rfl) ?_
  refine G_st (x_iload_n dX7_big_11 rfl) ?_
  refine G_ite (fun c5 => ?_) (fun c5 => ?_)
  · refine G_st (x_if_ge_t (tgt := 21) dX7_big_12 (by decide) c5) ?_
    refine G_st (x_aload_n dX7_big_21 rfl) ?_
    refine G_st (x_get (k := 5) (aR (0, 30)) dX7_big_22 (H0_29 29 (Nat.le_of_ble_eq_true rfl) (Nat.le_of_ble_eq_true rfl)) rfl rfl rfl rfl inTX7 (Nat.le_of_ble_eq_true rfl) tw_852 (fun ad => rfl)) ?_
    refine G_st (x_iload_n dX7_big_25 rfl) ?_
    refine G_chk (fun c6 => ?_)
    refine G_st (x_iaload dX7_big_26 (H0_29 30 (Nat.le_of_ble_eq_true rfl) (Nat.le_of_ble_eq_true rfl)) rfl c6) ?_
    refine G_bvI (fun x7 => ?_)
    refine G_st (x_istore_n [some (aR (0, 29)), some (aI v1), some (aI x2), some (aI x7), none, none, none, none, none, none] dX7_big_27 (Nat.le_of_ble_eq_true rfl) rfl rfl) ?_
    refine G_st (x_aload_n dX7_big_28 rfl) ?_
    refine G_st (x_get (k := 6) (aR (0, 31)) dX7_big_29 (H0_29 29 (Nat.le_of_ble_eq_true rfl) (Nat.le_of_ble_eq_true rfl)) rfl rfl rfl rfl inTX7 (Nat.le_of_ble_eq_true rfl) tw_853 (fun ad => rfl)) ?_
    refine G_st (x_iload_n dX7_big_32 rfl) ?_
    refine G_chk (fun c8 => ?_)
    refine G_st (x_iaload dX7_big_33 (H0_29 31 (Nat.le_of_ble_eq_true rfl) (Nat.le_of_ble_eq_true rfl)) rfl c8) ?_
    refine G_bvI (fun x9 => ?_)
    refine G_st (x_istore [some (aR (0, 29)), some (aI v1), some (aI x2), some (aI x7), some (aI x9), none, none, none, none, none] dX7_big_34 (Nat.le_of_ble_eq_true rfl) rfl rfl) ?_
    refine G_st (x_iconst (-1 : Int32) dX7_big_36 rfl) ?_
    refine G_st (x_istore [some (aR (0, 29)), some (aI v1), some (aI x2), some (aI x7), some (aI x9), some (aI (-1 : Int32)), none, none, none, none] dX7_big_37 (Nat.le_of_ble_eq_true rfl) rfl rfl) ?_
    refine G_st (x_iconst (0 : Int32) dX7_big_39 rfl) ?_
    refine G_st (x_istore [some (aR (0, 29)), some (aI v1), some (aI x2), some (aI x7), some (aI x9), some (aI (-1 : Int32)), some (aI (0 : Int32)), none, none, none] dX7_big_40 (Nat.le_of_ble_eq_true rfl) rfl rfl) ?_
    refine G_st (x_aload_n dX7_big_42 rfl) ?_
    refine G_st (x_get (k := 6) (aR (0, 31)) dX7_big_43 (H0_29 29 (Nat.le_of_ble_eq_true rfl) (Nat.le_of_ble_eq_true rfl)) rfl rfl rfl rfl inTX7 (Nat.le_of_ble_eq_true rfl) tw_853 (fun ad => rfl)) ?_
    refine G_st (x_iload_n dX7_big_46 rfl) ?_
    refine G_st (x_iconst (0 : Int32) dX7_big_47 rfl) ?_
    refine G_chk (fun c10 => ?_)
    refine G_st (x_iastore dX7_big_48 (H0_29 31 (Nat.le_of_ble_eq_true rfl) (Nat.le_of_ble_eq_true rfl)) rfl c10) ?_
    refine G_bvS (fun t11 => ?_)
    refine G_st (x_iconst (0 : Int32) dX7_big_49 rfl) ?_
    refine G_st (x_istore [some (aR (0, 29)), some (aI v1), some (aI x2), some (aI x7), some (aI x9), some (aI (-1 : Int32)), some (aI (0 : Int32)), some (aI (0 : Int32)), none, none] dX7_big_50 (Nat.le_of_ble_eq_true rfl) rfl rfl) ?_
    refine G_weak _ ?_ (g_X7_big_52 ids Hn H0_29 fuel x2 x7 x9 (-1 : Int32) (0 : Int32) (0 : Int32) t11)
    exact (leL_s (leL_n (leL_s (leL_s (leL_s (leL_s (leL_s (leL_s (leL_n (leL_n (leL_e _)))))))))))
  · refine G_st (x_if_ge_f 21 dX7_big_12 (by decide) c5) ?_
    refine G_st (x_aload_n dX7_big_15 rfl) ?_
    refine G_st (x_iconst (-1 : Int32) dX7_big_16 rfl) ?_
    refine G_bd (fun x32 t33 h34 => ?_)
    refine G_st (x_callV [] (c_X7_refuse ids Hn (-1 : Int32) H0_29 _ _ _ h34) dX7_big_17 tw_981 kc_X7_refuse (H0_29 29 (Nat.le_of_ble_eq_true rfl) (Nat.le_of_ble_eq_true rfl)) rfl rfl rfl rfl ⟨Nat.le_of_ble_eq_true rfl, Nat.le_of_ble_eq_true rfl⟩ (Nat.le_of_ble_eq_true rfl) rfl) ?_
    exact G_ret rfl ⟨dX7_big_20, _, rfl, rfl⟩ rfl
set_option maxRecDepth 100000 in
set_option maxHeartbeats 4000000 in
theorem c_X7_big (ids : List (Nat × Nat)) (Hn : Ndp ids) (v1 : Int32) (H0_29 : InR ids 0 29 56) (t0 : Sg) (r : Int32) (t1 : Sg) (hf : f_X7_big v1 t0 = some (r, t1)) : Mt0 mX7_big yX7_big ids [aR (0, 29), aI v1] t0 (some (aI r)) t1 :=
  Mt_of (x := (r, t1)) (g_X7_big ids Hn v1 H0_29 t0) hf (fun _ _ => trivial) (by decide) rfl Hn (fun _ => rfl) (fun _ => Nat.le_of_ble_eq_true rfl)
theorem dX7_leads_0 : decode cX7_leads 0 = .ok (.aload_n 0, 1) := by decide +kernel
theorem dX7_leads_1 : decode cX7_leads 1 = .ok (.iconst 0, 1) := by decide +kernel
theorem dX7_leads_2 : decode cX7_leads 2 = .ok (.putfield 98, 3) := by decide +kernel
theorem dX7_leads_5 : decode cX7_leads 5 = .ok (.aload_n 0, 1) := by decide +kernel
theorem dX7_leads_6 : decode cX7_leads 6 = .ok (.iload_n 1, 1) := by decide +kernel
theorem dX7_leads_7 : decode cX7_leads 7 = .ok (.invokevirtual 213, 3) := by decide +kernel
theorem dX7_leads_10 : decode cX7_leads 10 = .ok (.istore_n 2, 1) := by decide +kernel
theorem dX7_leads_11 : decode cX7_leads 11 = .ok (.iload_n 2, 1) := by decide +kernel
theorem dX7_leads_12 : decode cX7_leads 12 = .ok (.ifCond .ge 9, 3) := by decide +kernel
theorem dX7_leads_15 : decode cX7_leads 15 = .ok (.aload_n 0, 1) := by decide +kernel
theorem dX7_leads_16 : decode cX7_leads 16 = .ok (.iconst (-1), 1) := by decide +kernel
theorem dX7_leads_17 : decode cX7_leads 17 = .ok (.invokevirtual 167, 3) := by decide +kernel
theorem dX7_leads_20 : decode cX7_leads 20 = .ok (.ireturn, 1) := by decide +kernel
theorem dX7_leads_21 : decode cX7_leads 21 = .ok (.aload_n 0, 1) := by decide +kernel
theorem dX7_leads_22 : decode cX7_leads 22 = .ok (.getfield 23, 3) := by decide +kernel
theorem dX7_leads_25 : decode cX7_leads 25 = .ok (.iload_n 2, 1) := by decide +kernel
theorem dX7_leads_26 : decode cX7_leads 26 = .ok (.iaload, 1) := by decide +kernel
theorem dX7_leads_27 : decode cX7_leads 27 = .ok (.istore_n 3, 1) := by decide +kernel
theorem dX7_leads_28 : decode cX7_leads 28 = .ok (.bipush (-2), 2) := by decide +kernel
theorem dX7_leads_30 : decode cX7_leads 30 = .ok (.istore 4, 2) := by decide +kernel
theorem dX7_leads_32 : decode cX7_leads 32 = .ok (.iconst 0, 1) := by decide +kernel
theorem dX7_leads_33 : decode cX7_leads 33 = .ok (.istore 5, 2) := by decide +kernel
theorem dX7_leads_35 : decode cX7_leads 35 = .ok (.iconst (-1), 1) := by decide +kernel
theorem dX7_leads_36 : decode cX7_leads 36 = .ok (.istore 6, 2) := by decide +kernel
theorem dX7_leads_38 : decode cX7_leads 38 = .ok (.iload 6, 2) := by decide +kernel
theorem dX7_leads_40 : decode cX7_leads 40 = .ok (.iconst 2, 1) := by decide +kernel
theorem dX7_leads_41 : decode cX7_leads 41 = .ok (.if_icmp .ge 71, 3) := by decide +kernel
theorem dX7_leads_44 : decode cX7_leads 44 = .ok (.aload_n 0, 1) := by decide +kernel
theorem dX7_leads_45 : decode cX7_leads 45 = .ok (.getfield 23, 3) := by decide +kernel
theorem dX7_leads_48 : decode cX7_leads 48 = .ok (.iload_n 2, 1) := by decide +kernel
theorem dX7_leads_49 : decode cX7_leads 49 = .ok (.iload 6, 2) := by decide +kernel
theorem dX7_leads_51 : decode cX7_leads 51 = .ok (.iastore, 1) := by decide +kernel
theorem dX7_leads_52 : decode cX7_leads 52 = .ok (.aload_n 0, 1) := by decide +kernel
theorem dX7_leads_53 : decode cX7_leads 53 = .ok (.invokevirtual 160, 3) := by decide +kernel
theorem dX7_leads_56 : decode cX7_leads 56 = .ok (.istore 7, 2) := by decide +kernel
theorem dX7_leads_58 : decode cX7_leads 58 = .ok (.iload 4, 2) := by decide +kernel
theorem dX7_leads_60 : decode cX7_leads 60 = .ok (.iconst (-1), 1) := by decide +kernel
theorem dX7_leads_61 : decode cX7_leads 61 = .ok (.if_icmp .lt 10, 3) := by decide +kernel
theorem dX7_leads_64 : decode cX7_leads 64 = .ok (.iload 7, 2) := by decide +kernel
theorem dX7_leads_66 : decode cX7_leads 66 = .ok (.iload 5, 2) := by decide +kernel
theorem dX7_leads_68 : decode cX7_leads 68 = .ok (.if_icmp .ge 7, 3) := by decide +kernel
theorem dX7_leads_71 : decode cX7_leads 71 = .ok (.iconst 1, 1) := by decide +kernel
theorem dX7_leads_72 : decode cX7_leads 72 = .ok (.goto 4, 3) := by decide +kernel
theorem dX7_leads_75 : decode cX7_leads 75 = .ok (.iconst 0, 1) := by decide +kernel
theorem dX7_leads_76 : decode cX7_leads 76 = .ok (.istore 8, 2) := by decide +kernel
theorem dX7_leads_78 : decode cX7_leads 78 = .ok (.iload 8, 2) := by decide +kernel
theorem dX7_leads_80 : decode cX7_leads 80 = .ok (.ifCond .eq 8, 3) := by decide +kernel
theorem dX7_leads_83 : decode cX7_leads 83 = .ok (.iload 6, 2) := by decide +kernel
theorem dX7_leads_85 : decode cX7_leads 85 = .ok (.goto 5, 3) := by decide +kernel
theorem dX7_leads_88 : decode cX7_leads 88 = .ok (.iload 4, 2) := by decide +kernel
theorem dX7_leads_90 : decode cX7_leads 90 = .ok (.istore 4, 2) := by decide +kernel
theorem dX7_leads_92 : decode cX7_leads 92 = .ok (.iload 8, 2) := by decide +kernel
theorem dX7_leads_94 : decode cX7_leads 94 = .ok (.ifCond .eq 8, 3) := by decide +kernel
theorem dX7_leads_97 : decode cX7_leads 97 = .ok (.iload 7, 2) := by decide +kernel
theorem dX7_leads_99 : decode cX7_leads 99 = .ok (.goto 5, 3) := by decide +kernel
theorem dX7_leads_102 : decode cX7_leads 102 = .ok (.iload 5, 2) := by decide +kernel
theorem dX7_leads_104 : decode cX7_leads 104 = .ok (.istore 5, 2) := by decide +kernel
theorem dX7_leads_106 : decode cX7_leads 106 = .ok (.iinc 6 1, 3) := by decide +kernel
theorem dX7_leads_109 : decode cX7_leads 109 = .ok (.goto (-71), 3) := by decide +kernel
theorem dX7_leads_112 : decode cX7_leads 112 = .ok (.aload_n 0, 1) := by decide +kernel
theorem dX7_leads_113 : decode cX7_leads 113 = .ok (.getfield 23, 3) := by decide +kernel
theorem dX7_leads_116 : decode cX7_leads 116 = .ok (.iload_n 2, 1) := by decide +kernel
theorem dX7_leads_117 : decode cX7_leads 117 = .ok (.iload_n 3, 1) := by decide +kernel
theorem dX7_leads_118 : decode cX7_leads 118 = .ok (.iastore, 1) := by decide +kernel
theorem dX7_leads_119 : decode cX7_leads 119 = .ok (.iconst 1, 1) := by decide +kernel
theorem dX7_leads_120 : decode cX7_leads 120 = .ok (.iload 4, 2) := by decide +kernel
theorem dX7_leads_122 : decode cX7_leads 122 = .ok (.iadd, 1) := by decide +kernel
theorem dX7_leads_123 : decode cX7_leads 123 = .ok (.ireturn, 1) := by decide +kernel
set_option maxRecDepth 100000 in
set_option maxHeartbeats 4000000 in
theorem g_X7_leads_38 (ids : List (Nat × Nat)) (Hn : Ndp ids)  (H0_29 : InR ids 0 29 56)  : ∀ (n : Nat) (v2 : Int32) (v3 : Int32) (v4 : Int32) (v5 : Int32) (v6 : Int32) (t0 : Sg), Gj kI mX7_leads ids 38 [some (aR (0, 29)), none, some (aI v2), some (aI v3), some (aI v4), some (aI v5), some (aI v6), none, none] [] t0 (f_X7_leads_38 n v2 v3 v4 v5 v6 t0) := by
  intro n
  induction n with
  | zero => intro v2 v3 v4 v5 v6 t0; exact G_none
  | succ n ih =>
    intro v2 v3 v4 v5 v6 t0
    rw [f_X7_leads_38]
    refine G_st (x_iload dX7_leads_38 rfl) ?_
    refine G_st (x_iconst (2 : Int32) dX7_leads_40 rfl) ?_
    refine G_ite (fun c8 => ?_) (fun c8 => ?_)
    · refine G_st (x_icmp_ge_t (tgt := 112) dX7_leads_41 (by decide) c8) ?_
      refine G_st (x_aload_n dX7_leads_112 rfl) ?_
      refine G_st (x_get (k := 7) (aR (0, 32)) dX7_leads_113 (H0_29 29 (Nat.le_of_ble_eq_true rfl) (Nat.le_of_ble_eq_true rfl)) rfl rfl rfl rfl inTX7 (Nat.le_of_ble_eq_true rfl) tw_854 (fun ad => rfl)) ?_
      refine G_st (x_iload_n dX7_leads_116 rfl) ?_
      refine G_st (x_iload_n dX7_leads_117 rfl) ?_
      refine G_chk (fun c9 => ?_)
      refine G_st (x_iastore dX7_leads_118 (H0_29 32 (Nat.le_of_ble_eq_true rfl) (Nat.le_of_ble_eq_true rfl)) rfl c9) ?_
      refine G_bvS (fun t10 => ?_)
      refine G_st (x_iconst (1 : Int32) dX7_leads_119 rfl) ?_
      refine G_st (x_iload dX7_leads_120 rfl) ?_
      refine G_st (x_iadd dX7_leads_122) ?_
      exact G_ret rfl ⟨dX7_leads_123, _, rfl, rfl⟩ rfl
    · refine G_st (x_icmp_ge_f 112 dX7_leads_41 (by decide) c8) ?_
      refine G_st (x_aload_n dX7_leads_44 rfl) ?_
      refine G_st (x_get (k := 7) (aR (0, 32)) dX7_leads_45 (H0_29 29 (Nat.le_of_ble_eq_true rfl) (Nat.le_of_ble_eq_true rfl)) rfl rfl rfl rfl inTX7 (Nat.le_of_ble_eq_true rfl) tw_854 (fun ad => rfl)) ?_
      refine G_st (x_iload_n dX7_leads_48 rfl) ?_
      refine G_st (x_iload dX7_leads_49 rfl) ?_
      refine G_chk (fun c11 => ?_)
      refine G_st (x_iastore dX7_leads_51 (H0_29 32 (Nat.le_of_ble_eq_true rfl) (Nat.le_of_ble_eq_true rfl)) rfl c11) ?_
      refine G_bvS (fun t12 => ?_)
      refine G_st (x_aload_n dX7_leads_52 rfl) ?_
      refine G_bd (fun x13 t14 h15 => ?_)
      refine G_st (x_callV [] (c_X7_oneWeek ids Hn  H0_29 _ _ _ h15) dX7_leads_53 tw_1157 kc_X7_oneWeek (H0_29 29 (Nat.le_of_ble_eq_true rfl) (Nat.le_of_ble_eq_true rfl)) rfl rfl rfl rfl ⟨Nat.le_of_ble_eq_true rfl, Nat.le_of_ble_eq_true rfl⟩ (Nat.le_of_ble_eq_true rfl) rfl) ?_
      refine G_st (x_istore [some (aR (0, 29)), none, some (aI v2), some (aI v3), some (aI v4), some (aI v5), some (aI v6), some (aI x13), none] dX7_leads_56 (Nat.le_of_ble_eq_true rfl) rfl rfl) ?_
      refine G_st (x_iload dX7_leads_58 rfl) ?_
      refine G_st (x_iconst (-1 : Int32) dX7_leads_60 rfl) ?_
      have e18 : Tj mX7_leads ids 61 [some (aR (0, 29)), none, some (aI v2), some (aI v3), some (aI v4), some (aI v5), some (aI v6), some (aI x13), none] [aI (-1 : Int32), aI v4] t14 76 [some (aR (0, 29)), none, some (aI v2), some (aI v3), some (aI v4), some (aI v5), some (aI v6), some (aI x13), none] [aI (if v4 < (-1 : Int32) then (1 : Int32) else (if v5 ≤ x13 then (0 : Int32) else (1 : Int32)))] t14 := by
        refine Tj.dia (fun c16 => ?_) (fun c16 => ?_)
        · refine Tj.tr (x_icmp_lt_t (tgt := 71) dX7_leads_61 (by decide) c16) ?_
          refine Tj.tr (x_iconst (1 : Int32) dX7_leads_71 rfl) ?_
          refine Tj.tr (x_goto (tgt := 76) dX7_leads_72 (by decide)) ?_
          exact Tj.rf
        · refine Tj.tr (x_icmp_lt_f 71 dX7_leads_61 (by decide) c16) ?_
          refine Tj.tr (x_iload dX7_leads_64 rfl) ?_
          refine Tj.tr (x_iload dX7_leads_66 rfl) ?_
          refine Tj.dia (fun c17 => ?_) (fun c17 => ?_)
          · refine Tj.tr (x_icmp_ge_t (tgt := 75) dX7_leads_68 (by decide) c17) ?_
            refine Tj.tr (x_iconst (0 : Int32) dX7_leads_75 rfl) ?_
            exact Tj.rf
          · refine Tj.tr (x_icmp_ge_f 75 dX7_leads_68 (by decide) c17) ?_
            refine Tj.tr (x_iconst (1 : Int32) dX7_leads_71 rfl) ?_
            refine Tj.tr (x_goto (tgt := 76) dX7_leads_72 (by decide)) ?_
            exact Tj.rf
      refine G_st e18 ?_
      refine G_bvI (fun x19 => ?_)
      refine G_st (x_istore [some (aR (0, 29)), none, some (aI v2), some (aI v3), some (aI v4), some (aI v5), some (aI v6), some (aI x13), some (aI x19)] dX7_leads_76 (Nat.le_of_ble_eq_true rfl) rfl rfl) ?_
      refine G_st (x_iload dX7_leads_78 rfl) ?_
      have e21 : Tj mX7_leads ids 80 [some (aR (0, 29)), none, some (aI v2), some (aI v3), some (aI v4), some (aI v5), some (aI v6), some (aI x13), some (aI x19)] [aI x19] t14 90 [some (aR (0, 29)), none, some (aI v2), some (aI v3), some (aI v4), some (aI v5), some (aI v6), some (aI x13), some (aI x19)] [aI (if x19 = 0 then v4 else v6)] t14 := by
        refine Tj.dia (fun c20 => ?_) (fun c20 => ?_)
        · refine Tj.tr (x_if_eq_t (tgt := 88) dX7_leads_80 (by decide) c20) ?_
          refine Tj.tr (x_iload dX7_leads_88 rfl) ?_
          exact Tj.rf
        · refine Tj.tr (x_if_eq_f 88 dX7_leads_80 (by decide) c20) ?_
          refine Tj.tr (x_iload dX7_leads_83 rfl) ?_
          refine Tj.tr (x_goto (tgt := 90) dX7_leads_85 (by decide)) ?_
          exact Tj.rf
      refine G_st e21 ?_
      refine G_bvI (fun x22 => ?_)
      refine G_st (x_istore [some (aR (0, 29)), none, some (aI v2), some (aI v3), some (aI x22), some (aI v5), some (aI v6), some (aI x13), some (aI x19)] dX7_leads_90 (Nat.le_of_ble_eq_true rfl) rfl rfl) ?_
      refine G_st (x_iload dX7_leads_92 rfl) ?_
      have e24 : Tj mX7_leads ids 94 [some (aR (0, 29)), none, some (aI v2), some (aI v3), some (aI x22), some (aI v5), some (aI v6), some (aI x13), some (aI x19)] [aI x19] t14 104 [some (aR (0, 29)), none, some (aI v2), some (aI v3), some (aI x22), some (aI v5), some (aI v6), some (aI x13), some (aI x19)] [aI (if x19 = 0 then v5 else x13)] t14 := by
        refine Tj.dia (fun c23 => ?_) (fun c23 => ?_)
        · refine Tj.tr (x_if_eq_t (tgt := 102) dX7_leads_94 (by decide) c23) ?_
          refine Tj.tr (x_iload dX7_leads_102 rfl) ?_
          exact Tj.rf
        · refine Tj.tr (x_if_eq_f 102 dX7_leads_94 (by decide) c23) ?_
          refine Tj.tr (x_iload dX7_leads_97 rfl) ?_
          refine Tj.tr (x_goto (tgt := 104) dX7_leads_99 (by decide)) ?_
          exact Tj.rf
      refine G_st e24 ?_
      refine G_bvI (fun x25 => ?_)
      refine G_st (x_istore [some (aR (0, 29)), none, some (aI v2), some (aI v3), some (aI x22), some (aI x25), some (aI v6), some (aI x13), some (aI x19)] dX7_leads_104 (Nat.le_of_ble_eq_true rfl) rfl rfl) ?_
      refine G_st (x_iinc (v6 + (1 : Int32)) [some (aR (0, 29)), none, some (aI v2), some (aI v3), some (aI x22), some (aI x25), some (aI (v6 + (1 : Int32))), some (aI x13), some (aI x19)] dX7_leads_106 (Nat.le_of_ble_eq_true rfl) rfl rfl rfl rfl) ?_
      refine G_st (x_goto (tgt := 38) dX7_leads_109 (by decide)) ?_
      refine G_weak _ ?_ ((ih) v2 v3 x22 x25 (v6 + (1 : Int32)) t14)
      exact (leL_s (leL_n (leL_s (leL_s (leL_s (leL_s (leL_s (leL_n (leL_n (leL_e _))))))))))
set_option maxRecDepth 100000 in
set_option maxHeartbeats 4000000 in
theorem g_X7_leads (ids : List (Nat × Nat)) (Hn : Ndp ids) (v1 : Int32) (H0_29 : InR ids 0 29 56) (t0 : Sg) : Gj kI mX7_leads ids 0 [some (aR (0, 29)), some (aI v1), none, none, none, none, none, none, none] [] t0 (f_X7_leads v1 t0) := by
  unfold f_X7_leads
  refine G_st (x_aload_n dX7_leads_0 rfl) ?_
  refine G_st (x_iconst (0 : Int32) dX7_leads_1 rfl) ?_
  refine G_st (x_put (k := 18) (ty := .int) (v := aI (0 : Int32)) (z := (0 : Int32)) (upS t0 (0, 29) 18 (0 : Int32)) dX7_leads_2 (H0_29 29 (Nat.le_of_ble_eq_true rfl) (Nat.le_of_ble_eq_true rfl)) rfl rfl rfl rfl inTX7 tyX7_ok nmX7 (Nat.le_of_ble_eq_true rfl) tw_865 rfl rfl (fun ad => rfl) (fun ad => rfl) (fun ad => put_i0 ad _ _ _ _ rfl) rfl) ?_
  refine G_bvS (fun t1 => ?_)
  refine G_st (x_aload_n dX7_leads_5 rfl) ?_
  refine G_st (x_iload_n dX7_leads_6 rfl) ?_
  refine G_bd (fun x2 t3 h4 => ?_)
  refine G_st (x_callV [] (c_X7_flatAt ids Hn v1 H0_29 _ _ _ h4) dX7_leads_7 tw_1054 kc_X7_flatAt (H0_29 29 (Nat.le_of_ble_eq_true rfl) (Nat.le_of_ble_eq_true rfl)) rfl rfl rfl rfl ⟨Nat.le_of_ble_eq_true rfl, Nat.le_of_ble_eq_true rfl⟩ (Nat.le_of_ble_eq_true rfl) rfl) ?_
  refine G_st (x_istore_n [some (aR (0, 29)), some (aI v1), some (aI x2), none, none, none, none, none, none] dX7_leads_10 (Nat.le_of_ble_eq_true rfl) rfl rfl) ?_
  refine G_st (x_iload_n dX7_leads_11 rfl) ?_
  refine G_ite (fun c5 => ?_) (fun c5 => ?_)
  · refine G_st (x_if_ge_t (tgt := 21) dX7_leads_12 (by decide) c5) ?_
    refine G_st (x_aload_n dX7_leads_21 rfl) ?_
    refine G_st (x_get (k := 7) (aR (0, 32)) dX7_leads_22 (H0_29 29 (Nat.le_of_ble_eq_true rfl) (Nat.le_of_ble_eq_true rfl)) rfl rfl rfl rfl inTX7 (Nat.le_of_ble_eq_true rfl) tw_854 (fun ad => rfl)) ?_
    refine G_st (x_iload_n dX7_leads_25 rfl) ?_
    refine G_chk (fun c6 => ?_)
    refine G_st (x_iaload dX7_leads_26 (H0_29 32 (Nat.le_of_ble_eq_true rfl) (Nat.le_of_ble_eq_true rfl)) rfl c6) ?_
    refine G_bvI (fun x7 => ?_)
    refine G_st (x_istore_n [some (aR (0, 29)), some (aI v1), some (aI x2), some (aI x7), none, none, none, none, none] dX7_leads_27 (Nat.le_of_ble_eq_true rfl) rfl rfl) ?_
    refine G_st (x_bipush (-2 : Int32) dX7_leads_28 rfl) ?_
    refine G_st (x_istore [some (aR (0, 29)), some (aI v1), some (aI x2), some (aI x7), some (aI (-2 : Int32)), none, none, none, none] dX7_leads_30 (Nat.le_of_ble_eq_true rfl) rfl rfl) ?_
    refine G_st (x_iconst (0 : Int32) dX7_leads_32 rfl) ?_
    refine G_st (x_istore [some (aR (0, 29)), some (aI v1), some (aI x2), some (aI x7), some (aI (-2 : Int32)), some (aI (0 : Int32)), none, none, none] dX7_leads_33 (Nat.le_of_ble_eq_true rfl) rfl rfl) ?_
    refine G_st (x_iconst (-1 : Int32) dX7_leads_35 rfl) ?_
    refine G_st (x_istore [some (aR (0, 29)), some (aI v1), some (aI x2), some (aI x7), some (aI (-2 : Int32)), some (aI (0 : Int32)), some (aI (-1 : Int32)), none, none] dX7_leads_36 (Nat.le_of_ble_eq_true rfl) rfl rfl) ?_
    refine G_weak _ ?_ (g_X7_leads_38 ids Hn H0_29 fuel x2 x7 (-2 : Int32) (0 : Int32) (-1 : Int32) t3)
    exact (leL_s (leL_n (leL_s (leL_s (leL_s (leL_s (leL_s (leL_n (leL_n (leL_e _))))))))))
  · refine G_st (x_if_ge_f 21 dX7_leads_12 (by decide) c5) ?_
    refine G_st (x_aload_n dX7_leads_15 rfl) ?_
    refine G_st (x_iconst (-1 : Int32) dX7_leads_16 rfl) ?_
    refine G_bd (fun x26 t27 h28 => ?_)
    refine G_st (x_callV [] (c_X7_refuse ids Hn (-1 : Int32) H0_29 _ _ _ h28) dX7_leads_17 tw_981 kc_X7_refuse (H0_29 29 (Nat.le_of_ble_eq_true rfl) (Nat.le_of_ble_eq_true rfl)) rfl rfl rfl rfl ⟨Nat.le_of_ble_eq_true rfl, Nat.le_of_ble_eq_true rfl⟩ (Nat.le_of_ble_eq_true rfl) rfl) ?_
    exact G_ret rfl ⟨dX7_leads_20, _, rfl, rfl⟩ rfl
set_option maxRecDepth 100000 in
set_option maxHeartbeats 4000000 in
theorem c_X7_leads (ids : List (Nat × Nat)) (Hn : Ndp ids) (v1 : Int32) (H0_29 : InR ids 0 29 56) (t0 : Sg) (r : Int32) (t1 : Sg) (hf : f_X7_leads v1 t0 = some (r, t1)) : Mt0 mX7_leads yX7_leads ids [aR (0, 29), aI v1] t0 (some (aI r)) t1 :=
  Mt_of (x := (r, t1)) (g_X7_leads ids Hn v1 H0_29 t0) hf (fun _ _ => trivial) (by decide) rfl Hn (fun _ => rfl) (fun _ => Nat.le_of_ble_eq_true rfl)
theorem dX7_keepHarm_0 : decode cX7_keepHarm 0 = .ok (.iconst 0, 1) := by decide +kernel
theorem dX7_keepHarm_1 : decode cX7_keepHarm 1 = .ok (.istore_n 1, 1) := by decide +kernel
theorem dX7_keepHarm_2 : decode cX7_keepHarm 2 = .ok (.iload_n 1, 1) := by decide +kernel
theorem dX7_keepHarm_3 : decode cX7_keepHarm 3 = .ok (.bipush 24, 2) := by decide +kernel
theorem dX7_keepHarm_5 : decode cX7_keepHarm 5 = .ok (.if_icmp .ge 21, 3) := by decide +kernel
theorem dX7_keepHarm_8 : decode cX7_keepHarm 8 = .ok (.aload_n 0, 1) := by decide +kernel
theorem dX7_keepHarm_9 : decode cX7_keepHarm 9 = .ok (.getfield 92, 3) := by decide +kernel
theorem dX7_keepHarm_12 : decode cX7_keepHarm 12 = .ok (.iload_n 1, 1) := by decide +kernel
theorem dX7_keepHarm_13 : decode cX7_keepHarm 13 = .ok (.aload_n 0, 1) := by decide +kernel
theorem dX7_keepHarm_14 : decode cX7_keepHarm 14 = .ok (.getfield 62, 3) := by decide +kernel
theorem dX7_keepHarm_17 : decode cX7_keepHarm 17 = .ok (.iload_n 1, 1) := by decide +kernel
theorem dX7_keepHarm_18 : decode cX7_keepHarm 18 = .ok (.iaload, 1) := by decide +kernel
theorem dX7_keepHarm_19 : decode cX7_keepHarm 19 = .ok (.iastore, 1) := by decide +kernel
theorem dX7_keepHarm_20 : decode cX7_keepHarm 20 = .ok (.iinc 1 1, 3) := by decide +kernel
theorem dX7_keepHarm_23 : decode cX7_keepHarm 23 = .ok (.goto (-21), 3) := by decide +kernel
theorem dX7_keepHarm_26 : decode cX7_keepHarm 26 = .ok (.return_, 1) := by decide +kernel
set_option maxRecDepth 100000 in
set_option maxHeartbeats 4000000 in
theorem g_X7_keepHarm_2 (ids : List (Nat × Nat)) (Hn : Ndp ids)  (H0_29 : InR ids 0 29 56)  : ∀ (n : Nat) (v1 : Int32) (t0 : Sg), Gj kV mX7_keepHarm ids 2 [some (aR (0, 29)), some (aI v1)] [] t0 (f_X7_keepHarm_2 n v1 t0) := by
  intro n
  induction n with
  | zero => intro v1 t0; exact G_none
  | succ n ih =>
    intro v1 t0
    rw [f_X7_keepHarm_2]
    refine G_st (x_iload_n dX7_keepHarm_2 rfl) ?_
    refine G_st (x_bipush (24 : Int32) dX7_keepHarm_3 rfl) ?_
    refine G_ite (fun c1 => ?_) (fun c1 => ?_)
    · refine G_st (x_icmp_ge_t (tgt := 26) dX7_keepHarm_5 (by decide) c1) ?_
      exact G_ret rfl ⟨rfl, dX7_keepHarm_26⟩ rfl
    · refine G_st (x_icmp_ge_f 26 dX7_keepHarm_5 (by decide) c1) ?_
      refine G_st (x_aload_n dX7_keepHarm_8 rfl) ?_
      refine G_st (x_get (k := 40) (aR (0, 55)) dX7_keepHarm_9 (H0_29 29 (Nat.le_of_ble_eq_true rfl) (Nat.le_of_ble_eq_true rfl)) rfl rfl rfl rfl inTX7 (Nat.le_of_ble_eq_true rfl) tw_887 (fun ad => rfl)) ?_
      refine G_st (x_iload_n dX7_keepHarm_12 rfl) ?_
      refine G_st (x_aload_n dX7_keepHarm_13 rfl) ?_
      refine G_st (x_get (k := 21) (aR (0, 45)) dX7_keepHarm_14 (H0_29 29 (Nat.le_of_ble_eq_true rfl) (Nat.le_of_ble_eq_true rfl)) rfl rfl rfl rfl inTX7 (Nat.le_of_ble_eq_true rfl) tw_868 (fun ad => rfl)) ?_
      refine G_st (x_iload_n dX7_keepHarm_17 rfl) ?_
      refine G_chk (fun c2 => ?_)
      refine G_st (x_iaload dX7_keepHarm_18 (H0_29 45 (Nat.le_of_ble_eq_true rfl) (Nat.le_of_ble_eq_true rfl)) rfl c2) ?_
      refine G_chk (fun c3 => ?_)
      refine G_st (x_iastore dX7_keepHarm_19 (H0_29 55 (Nat.le_of_ble_eq_true rfl) (Nat.le_of_ble_eq_true rfl)) rfl c3) ?_
      refine G_bvS (fun t4 => ?_)
      refine G_st (x_iinc (v1 + (1 : Int32)) [some (aR (0, 29)), some (aI (v1 + (1 : Int32)))] dX7_keepHarm_20 (Nat.le_of_ble_eq_true rfl) rfl rfl rfl rfl) ?_
      refine G_st (x_goto (tgt := 2) dX7_keepHarm_23 (by decide)) ?_
      refine G_weak _ ?_ ((ih) (v1 + (1 : Int32)) t4)
      exact (leL_s (leL_s (leL_e _)))
set_option maxRecDepth 100000 in
set_option maxHeartbeats 4000000 in
theorem g_X7_keepHarm (ids : List (Nat × Nat)) (Hn : Ndp ids)  (H0_29 : InR ids 0 29 56) (t0 : Sg) : Gj kV mX7_keepHarm ids 0 [some (aR (0, 29)), none] [] t0 (f_X7_keepHarm t0) := by
  unfold f_X7_keepHarm
  refine G_st (x_iconst (0 : Int32) dX7_keepHarm_0 rfl) ?_
  refine G_st (x_istore_n [some (aR (0, 29)), some (aI (0 : Int32))] dX7_keepHarm_1 (Nat.le_of_ble_eq_true rfl) rfl rfl) ?_
  refine G_weak _ ?_ (g_X7_keepHarm_2 ids Hn H0_29 fuel (0 : Int32) t0)
  exact (leL_s (leL_s (leL_e _)))
set_option maxRecDepth 100000 in
set_option maxHeartbeats 4000000 in
theorem c_X7_keepHarm (ids : List (Nat × Nat)) (Hn : Ndp ids)  (H0_29 : InR ids 0 29 56) (t0 : Sg) (r : Unit) (t1 : Sg) (hf : f_X7_keepHarm t0 = some (r, t1)) : Mt0 mX7_keepHarm yX7_keepHarm ids [aR (0, 29)] t0 none t1 :=
  Mt_of (x := (r, t1)) (g_X7_keepHarm ids Hn  H0_29 t0) hf (fun _ _ => trivial) (by decide) rfl Hn (fun _ => rfl) (fun _ => Nat.le_of_ble_eq_true rfl)
theorem dX7_whose_0 : decode cX7_whose 0 = .ok (.aload_n 0, 1) := by decide +kernel
theorem dX7_whose_1 : decode cX7_whose 1 = .ok (.iconst 0, 1) := by decide +kernel
theorem dX7_whose_2 : decode cX7_whose 2 = .ok (.putfield 98, 3) := by decide +kernel
theorem dX7_whose_5 : decode cX7_whose 5 = .ok (.aload_n 0, 1) := by decide +kernel
theorem dX7_whose_6 : decode cX7_whose 6 = .ok (.iload_n 1, 1) := by decide +kernel
theorem dX7_whose_7 : decode cX7_whose 7 = .ok (.invokevirtual 213, 3) := by decide +kernel
theorem dX7_whose_10 : decode cX7_whose 10 = .ok (.istore_n 3, 1) := by decide +kernel
theorem dX7_whose_11 : decode cX7_whose 11 = .ok (.iload_n 3, 1) := by decide +kernel
theorem dX7_whose_12 : decode cX7_whose 12 = .ok (.ifCond .ge 7, 3) := by decide +kernel
theorem dX7_whose_15 : decode cX7_whose 15 = .ok (.iconst (-1), 1) := by decide +kernel
theorem dX7_whose_16 : decode cX7_whose 16 = .ok (.goto 9, 3) := by decide +kernel
theorem dX7_whose_19 : decode cX7_whose 19 = .ok (.iload_n 2, 1) := by decide +kernel
theorem dX7_whose_20 : decode cX7_whose 20 = .ok (.iconst (-1), 1) := by decide +kernel
theorem dX7_whose_21 : decode cX7_whose 21 = .ok (.iconst 1, 1) := by decide +kernel
theorem dX7_whose_22 : decode cX7_whose 22 = .ok (.invokestatic 276, 3) := by decide +kernel
theorem dX7_whose_25 : decode cX7_whose 25 = .ok (.istore 4, 2) := by decide +kernel
theorem dX7_whose_27 : decode cX7_whose 27 = .ok (.iload 4, 2) := by decide +kernel
theorem dX7_whose_29 : decode cX7_whose 29 = .ok (.ifCond .ge 10, 3) := by decide +kernel
theorem dX7_whose_32 : decode cX7_whose 32 = .ok (.aload_n 0, 1) := by decide +kernel
theorem dX7_whose_33 : decode cX7_whose 33 = .ok (.iload 4, 2) := by decide +kernel
theorem dX7_whose_35 : decode cX7_whose 35 = .ok (.invokevirtual 167, 3) := by decide +kernel
theorem dX7_whose_38 : decode cX7_whose 38 = .ok (.ireturn, 1) := by decide +kernel
theorem dX7_whose_39 : decode cX7_whose 39 = .ok (.aload_n 0, 1) := by decide +kernel
theorem dX7_whose_40 : decode cX7_whose 40 = .ok (.getfield 23, 3) := by decide +kernel
theorem dX7_whose_43 : decode cX7_whose 43 = .ok (.iload_n 3, 1) := by decide +kernel
theorem dX7_whose_44 : decode cX7_whose 44 = .ok (.iaload, 1) := by decide +kernel
theorem dX7_whose_45 : decode cX7_whose 45 = .ok (.istore 5, 2) := by decide +kernel
theorem dX7_whose_47 : decode cX7_whose 47 = .ok (.aload_n 0, 1) := by decide +kernel
theorem dX7_whose_48 : decode cX7_whose 48 = .ok (.getfield 23, 3) := by decide +kernel
theorem dX7_whose_51 : decode cX7_whose 51 = .ok (.iload_n 3, 1) := by decide +kernel
theorem dX7_whose_52 : decode cX7_whose 52 = .ok (.iconst 0, 1) := by decide +kernel
theorem dX7_whose_53 : decode cX7_whose 53 = .ok (.iastore, 1) := by decide +kernel
theorem dX7_whose_54 : decode cX7_whose 54 = .ok (.aload_n 0, 1) := by decide +kernel
theorem dX7_whose_55 : decode cX7_whose 55 = .ok (.invokevirtual 160, 3) := by decide +kernel
theorem dX7_whose_58 : decode cX7_whose 58 = .ok (.pop, 1) := by decide +kernel
theorem dX7_whose_59 : decode cX7_whose 59 = .ok (.aload_n 0, 1) := by decide +kernel
theorem dX7_whose_60 : decode cX7_whose 60 = .ok (.invokevirtual 303, 3) := by decide +kernel
theorem dX7_whose_63 : decode cX7_whose 63 = .ok (.aload_n 0, 1) := by decide +kernel
theorem dX7_whose_64 : decode cX7_whose 64 = .ok (.getfield 23, 3) := by decide +kernel
theorem dX7_whose_67 : decode cX7_whose 67 = .ok (.iload_n 3, 1) := by decide +kernel
theorem dX7_whose_68 : decode cX7_whose 68 = .ok (.iload_n 2, 1) := by decide +kernel
theorem dX7_whose_69 : decode cX7_whose 69 = .ok (.iastore, 1) := by decide +kernel
theorem dX7_whose_70 : decode cX7_whose 70 = .ok (.aload_n 0, 1) := by decide +kernel
theorem dX7_whose_71 : decode cX7_whose 71 = .ok (.invokevirtual 160, 3) := by decide +kernel
theorem dX7_whose_74 : decode cX7_whose 74 = .ok (.pop, 1) := by decide +kernel
theorem dX7_whose_75 : decode cX7_whose 75 = .ok (.aload_n 0, 1) := by decide +kernel
theorem dX7_whose_76 : decode cX7_whose 76 = .ok (.getfield 23, 3) := by decide +kernel
theorem dX7_whose_79 : decode cX7_whose 79 = .ok (.iload_n 3, 1) := by decide +kernel
theorem dX7_whose_80 : decode cX7_whose 80 = .ok (.iload 5, 2) := by decide +kernel
theorem dX7_whose_82 : decode cX7_whose 82 = .ok (.iastore, 1) := by decide +kernel
theorem dX7_whose_83 : decode cX7_whose 83 = .ok (.iconst 0, 1) := by decide +kernel
theorem dX7_whose_84 : decode cX7_whose 84 = .ok (.istore 6, 2) := by decide +kernel
theorem dX7_whose_86 : decode cX7_whose 86 = .ok (.iconst 0, 1) := by decide +kernel
theorem dX7_whose_87 : decode cX7_whose 87 = .ok (.istore 7, 2) := by decide +kernel
theorem dX7_whose_89 : decode cX7_whose 89 = .ok (.iload 7, 2) := by decide +kernel
theorem dX7_whose_91 : decode cX7_whose 91 = .ok (.aload_n 0, 1) := by decide +kernel
theorem dX7_whose_92 : decode cX7_whose 92 = .ok (.invokevirtual 107, 3) := by decide +kernel
theorem dX7_whose_95 : decode cX7_whose 95 = .ok (.if_icmp .ge 39, 3) := by decide +kernel
theorem dX7_whose_98 : decode cX7_whose 98 = .ok (.iload 6, 2) := by decide +kernel
theorem dX7_whose_100 : decode cX7_whose 100 = .ok (.aload_n 0, 1) := by decide +kernel
theorem dX7_whose_101 : decode cX7_whose 101 = .ok (.getfield 62, 3) := by decide +kernel
theorem dX7_whose_104 : decode cX7_whose 104 = .ok (.iload 7, 2) := by decide +kernel
theorem dX7_whose_106 : decode cX7_whose 106 = .ok (.iaload, 1) := by decide +kernel
theorem dX7_whose_107 : decode cX7_whose 107 = .ok (.aload_n 0, 1) := by decide +kernel
theorem dX7_whose_108 : decode cX7_whose 108 = .ok (.getfield 92, 3) := by decide +kernel
theorem dX7_whose_111 : decode cX7_whose 111 = .ok (.iload 7, 2) := by decide +kernel
theorem dX7_whose_113 : decode cX7_whose 113 = .ok (.iaload, 1) := by decide +kernel
theorem dX7_whose_114 : decode cX7_whose 114 = .ok (.if_icmp .le 10, 3) := by decide +kernel
theorem dX7_whose_117 : decode cX7_whose 117 = .ok (.iconst 1, 1) := by decide +kernel
theorem dX7_whose_118 : decode cX7_whose 118 = .ok (.iload 7, 2) := by decide +kernel
theorem dX7_whose_120 : decode cX7_whose 120 = .ok (.ishl, 1) := by decide +kernel
theorem dX7_whose_121 : decode cX7_whose 121 = .ok (.goto 4, 3) := by decide +kernel
theorem dX7_whose_124 : decode cX7_whose 124 = .ok (.iconst 0, 1) := by decide +kernel
theorem dX7_whose_125 : decode cX7_whose 125 = .ok (.ior, 1) := by decide +kernel
theorem dX7_whose_126 : decode cX7_whose 126 = .ok (.istore 6, 2) := by decide +kernel
theorem dX7_whose_128 : decode cX7_whose 128 = .ok (.iinc 7 1, 3) := by decide +kernel
theorem dX7_whose_131 : decode cX7_whose 131 = .ok (.goto (-42), 3) := by decide +kernel
theorem dX7_whose_134 : decode cX7_whose 134 = .ok (.iload 6, 2) := by decide +kernel
theorem dX7_whose_136 : decode cX7_whose 136 = .ok (.ireturn, 1) := by decide +kernel
set_option maxRecDepth 100000 in
set_option maxHeartbeats 4000000 in
theorem g_X7_whose_89 (ids : List (Nat × Nat)) (Hn : Ndp ids)  (H0_29 : InR ids 0 29 56)  : ∀ (n : Nat) (v6 : Int32) (v7 : Int32) (t0 : Sg), Gj kI mX7_whose ids 89 [some (aR (0, 29)), none, none, none, none, none, some (aI v6), some (aI v7)] [] t0 (f_X7_whose_89 n v6 v7 t0) := by
  intro n
  induction n with
  | zero => intro v6 v7 t0; exact G_none
  | succ n ih =>
    intro v6 v7 t0
    rw [f_X7_whose_89]
    refine G_st (x_iload dX7_whose_89 rfl) ?_
    refine G_st (x_aload_n dX7_whose_91 rfl) ?_
    refine G_bd (fun x27 t28 h29 => ?_)
    refine G_st (x_callV [aI v7] (c_X7_tenants ids Hn  H0_29 _ _ _ h29) dX7_whose_92 tw_1046 kc_X7_tenants (H0_29 29 (Nat.le_of_ble_eq_true rfl) (Nat.le_of_ble_eq_true rfl)) rfl rfl rfl rfl ⟨Nat.le_of_ble_eq_true rfl, Nat.le_of_ble_eq_true rfl⟩ (Nat.le_of_ble_eq_true rfl) rfl) ?_
    refine G_ite (fun c30 => ?_) (fun c30 => ?_)
    · refine G_st (x_icmp_ge_t (tgt := 134) dX7_whose_95 (by decide) c30) ?_
      refine G_st (x_iload dX7_whose_134 rfl) ?_
      exact G_ret rfl ⟨dX7_whose_136, _, rfl, rfl⟩ rfl
    · refine G_st (x_icmp_ge_f 134 dX7_whose_95 (by decide) c30) ?_
      refine G_st (x_iload dX7_whose_98 rfl) ?_
      refine G_st (x_aload_n dX7_whose_100 rfl) ?_
      refine G_st (x_get (k := 21) (aR (0, 45)) dX7_whose_101 (H0_29 29 (Nat.le_of_ble_eq_true rfl) (Nat.le_of_ble_eq_true rfl)) rfl rfl rfl rfl inTX7 (Nat.le_of_ble_eq_true rfl) tw_868 (fun ad => rfl)) ?_
      refine G_st (x_iload dX7_whose_104 rfl) ?_
      refine G_chk (fun c31 => ?_)
      refine G_st (x_iaload dX7_whose_106 (H0_29 45 (Nat.le_of_ble_eq_true rfl) (Nat.le_of_ble_eq_true rfl)) rfl c31) ?_
      refine G_st (x_aload_n dX7_whose_107 rfl) ?_
      refine G_st (x_get (k := 40) (aR (0, 55)) dX7_whose_108 (H0_29 29 (Nat.le_of_ble_eq_true rfl) (Nat.le_of_ble_eq_true rfl)) rfl rfl rfl rfl inTX7 (Nat.le_of_ble_eq_true rfl) tw_887 (fun ad => rfl)) ?_
      refine G_st (x_iload dX7_whose_111 rfl) ?_
      refine G_chk (fun c32 => ?_)
      refine G_st (x_iaload dX7_whose_113 (H0_29 55 (Nat.le_of_ble_eq_true rfl) (Nat.le_of_ble_eq_true rfl)) rfl c32) ?_
      have e34 : Tj mX7_whose ids 114 [some (aR (0, 29)), none, none, none, none, none, some (aI v6), some (aI v7)] [aI (t28 (0, 55) (v7).toNatClampNeg), aI (t28 (0, 45) (v7).toNatClampNeg), aI v6] t28 125 [some (aR (0, 29)), none, none, none, none, none, some (aI v6), some (aI v7)] [aI (if (t28 (0, 45) (v7).toNatClampNeg) ≤ (t28 (0, 55) (v7).toNatClampNeg) then (0 : Int32) else ((1 : Int32) <<< (v7 &&& 31))), aI v6] t28 := by
        refine Tj.dia (fun c33 => ?_) (fun c33 => ?_)
        · refine Tj.tr (x_icmp_le_t (tgt := 124) dX7_whose_114 (by decide) c33) ?_
          refine Tj.tr (x_iconst (0 : Int32) dX7_whose_124 rfl) ?_
          exact Tj.rf
        · refine Tj.tr (x_icmp_le_f 124 dX7_whose_114 (by decide) c33) ?_
          refine Tj.tr (x_iconst (1 : Int32) dX7_whose_117 rfl) ?_
          refine Tj.tr (x_iload dX7_whose_118 rfl) ?_
          refine Tj.tr (x_ishl dX7_whose_120) ?_
          refine Tj.tr (x_goto (tgt := 125) dX7_whose_121 (by decide)) ?_
          exact Tj.rf
      refine G_st e34 ?_
      refine G_st (x_ior dX7_whose_125) ?_
      refine G_bvI (fun x35 => ?_)
      refine G_st (x_istore [some (aR (0, 29)), none, none, none, none, none, some (aI x35), some (aI v7)] dX7_whose_126 (Nat.le_of_ble_eq_true rfl) rfl rfl) ?_
      refine G_st (x_iinc (v7 + (1 : Int32)) [some (aR (0, 29)), none, none, none, none, none, some (aI x35), some (aI (v7 + (1 : Int32)))] dX7_whose_128 (Nat.le_of_ble_eq_true rfl) rfl rfl rfl rfl) ?_
      refine G_st (x_goto (tgt := 89) dX7_whose_131 (by decide)) ?_
      refine G_weak _ ?_ ((ih) x35 (v7 + (1 : Int32)) t28)
      exact (leL_s (leL_n (leL_n (leL_n (leL_n (leL_n (leL_s (leL_s (leL_e _)))))))))
set_option maxRecDepth 100000 in
set_option maxHeartbeats 4000000 in
theorem g_X7_whose_25 (ids : List (Nat × Nat)) (Hn : Ndp ids)  (H0_29 : InR ids 0 29 56)  (v2 : Int32) (v3 : Int32) (w0 : Int32) (t0 : Sg) : Gj kI mX7_whose ids 25 [some (aR (0, 29)), none, some (aI v2), some (aI v3), none, none, none, none] [aI w0] t0 (f_X7_whose_25 v2 v3 w0 t0) := by
  unfold f_X7_whose_25
  refine G_st (x_istore [some (aR (0, 29)), none, some (aI v2), some (aI v3), some (aI w0), none, none, none] dX7_whose_25 (Nat.le_of_ble_eq_true rfl) rfl rfl) ?_
  refine G_st (x_iload dX7_whose_27 rfl) ?_
  refine G_ite (fun c9 => ?_) (fun c9 => ?_)
  · refine G_st (x_if_ge_t (tgt := 39) dX7_whose_29 (by decide) c9) ?_
    refine G_st (x_aload_n dX7_whose_39 rfl) ?_
    refine G_st (x_get (k := 7) (aR (0, 32)) dX7_whose_40 (H0_29 29 (Nat.le_of_ble_eq_true rfl) (Nat.le_of_ble_eq_true rfl)) rfl rfl rfl rfl inTX7 (Nat.le_of_ble_eq_true rfl) tw_854 (fun ad => rfl)) ?_
    refine G_st (x_iload_n dX7_whose_43 rfl) ?_
    refine G_chk (fun c10 => ?_)
    refine G_st (x_iaload dX7_whose_44 (H0_29 32 (Nat.le_of_ble_eq_true rfl) (Nat.le_of_ble_eq_true rfl)) rfl c10) ?_
    refine G_bvI (fun x11 => ?_)
    refine G_st (x_istore [some (aR (0, 29)), none, some (aI v2), some (aI v3), some (aI w0), some (aI x11), none, none] dX7_whose_45 (Nat.le_of_ble_eq_true rfl) rfl rfl) ?_
    refine G_st (x_aload_n dX7_whose_47 rfl) ?_
    refine G_st (x_get (k := 7) (aR (0, 32)) dX7_whose_48 (H0_29 29 (Nat.le_of_ble_eq_true rfl) (Nat.le_of_ble_eq_true rfl)) rfl rfl rfl rfl inTX7 (Nat.le_of_ble_eq_true rfl) tw_854 (fun ad => rfl)) ?_
    refine G_st (x_iload_n dX7_whose_51 rfl) ?_
    refine G_st (x_iconst (0 : Int32) dX7_whose_52 rfl) ?_
    refine G_chk (fun c12 => ?_)
    refine G_st (x_iastore dX7_whose_53 (H0_29 32 (Nat.le_of_ble_eq_true rfl) (Nat.le_of_ble_eq_true rfl)) rfl c12) ?_
    refine G_bvS (fun t13 => ?_)
    refine G_st (x_aload_n dX7_whose_54 rfl) ?_
    refine G_bd (fun x14 t15 h16 => ?_)
    refine G_st (x_callV [] (c_X7_oneWeek ids Hn  H0_29 _ _ _ h16) dX7_whose_55 tw_1157 kc_X7_oneWeek (H0_29 29 (Nat.le_of_ble_eq_true rfl) (Nat.le_of_ble_eq_true rfl)) rfl rfl rfl rfl ⟨Nat.le_of_ble_eq_true rfl, Nat.le_of_ble_eq_true rfl⟩ (Nat.le_of_ble_eq_true rfl) rfl) ?_
    refine G_st (x_pop dX7_whose_58 rfl) ?_
    refine G_st (x_aload_n dX7_whose_59 rfl) ?_
    refine G_bd (fun _ t18 h19 => ?_)
    refine G_st (x_callV [] (c_X7_keepHarm ids Hn  H0_29 _ _ _ h19) dX7_whose_60 tw_1274 kc_X7_keepHarm (H0_29 29 (Nat.le_of_ble_eq_true rfl) (Nat.le_of_ble_eq_true rfl)) rfl rfl rfl rfl ⟨Nat.le_of_ble_eq_true rfl, Nat.le_of_ble_eq_true rfl⟩ (Nat.le_of_ble_eq_true rfl) rfl) ?_
    refine G_st (x_aload_n dX7_whose_63 rfl) ?_
    refine G_st (x_get (k := 7) (aR (0, 32)) dX7_whose_64 (H0_29 29 (Nat.le_of_ble_eq_true rfl) (Nat.le_of_ble_eq_true rfl)) rfl rfl rfl rfl inTX7 (Nat.le_of_ble_eq_true rfl) tw_854 (fun ad => rfl)) ?_
    refine G_st (x_iload_n dX7_whose_67 rfl) ?_
    refine G_st (x_iload_n dX7_whose_68 rfl) ?_
    refine G_chk (fun c20 => ?_)
    refine G_st (x_iastore dX7_whose_69 (H0_29 32 (Nat.le_of_ble_eq_true rfl) (Nat.le_of_ble_eq_true rfl)) rfl c20) ?_
    refine G_bvS (fun t21 => ?_)
    refine G_st (x_aload_n dX7_whose_70 rfl) ?_
    refine G_bd (fun x22 t23 h24 => ?_)
    refine G_st (x_callV [] (c_X7_oneWeek ids Hn  H0_29 _ _ _ h24) dX7_whose_71 tw_1157 kc_X7_oneWeek (H0_29 29 (Nat.le_of_ble_eq_true rfl) (Nat.le_of_ble_eq_true rfl)) rfl rfl rfl rfl ⟨Nat.le_of_ble_eq_true rfl, Nat.le_of_ble_eq_true rfl⟩ (Nat.le_of_ble_eq_true rfl) rfl) ?_
    refine G_st (x_pop dX7_whose_74 rfl) ?_
    refine G_st (x_aload_n dX7_whose_75 rfl) ?_
    refine G_st (x_get (k := 7) (aR (0, 32)) dX7_whose_76 (H0_29 29 (Nat.le_of_ble_eq_true rfl) (Nat.le_of_ble_eq_true rfl)) rfl rfl rfl rfl inTX7 (Nat.le_of_ble_eq_true rfl) tw_854 (fun ad => rfl)) ?_
    refine G_st (x_iload_n dX7_whose_79 rfl) ?_
    refine G_st (x_iload dX7_whose_80 rfl) ?_
    refine G_chk (fun c25 => ?_)
    refine G_st (x_iastore dX7_whose_82 (H0_29 32 (Nat.le_of_ble_eq_true rfl) (Nat.le_of_ble_eq_true rfl)) rfl c25) ?_
    refine G_bvS (fun t26 => ?_)
    refine G_st (x_iconst (0 : Int32) dX7_whose_83 rfl) ?_
    refine G_st (x_istore [some (aR (0, 29)), none, some (aI v2), some (aI v3), some (aI w0), some (aI x11), some (aI (0 : Int32)), none] dX7_whose_84 (Nat.le_of_ble_eq_true rfl) rfl rfl) ?_
    refine G_st (x_iconst (0 : Int32) dX7_whose_86 rfl) ?_
    refine G_st (x_istore [some (aR (0, 29)), none, some (aI v2), some (aI v3), some (aI w0), some (aI x11), some (aI (0 : Int32)), some (aI (0 : Int32))] dX7_whose_87 (Nat.le_of_ble_eq_true rfl) rfl rfl) ?_
    refine G_weak _ ?_ (g_X7_whose_89 ids Hn H0_29 fuel (0 : Int32) (0 : Int32) t26)
    exact (leL_s (leL_n (leL_n (leL_n (leL_n (leL_n (leL_s (leL_s (leL_e _)))))))))
  · refine G_st (x_if_ge_f 39 dX7_whose_29 (by decide) c9) ?_
    refine G_st (x_aload_n dX7_whose_32 rfl) ?_
    refine G_st (x_iload dX7_whose_33 rfl) ?_
    refine G_bd (fun x36 t37 h38 => ?_)
    refine G_st (x_callV [] (c_X7_refuse ids Hn w0 H0_29 _ _ _ h38) dX7_whose_35 tw_981 kc_X7_refuse (H0_29 29 (Nat.le_of_ble_eq_true rfl) (Nat.le_of_ble_eq_true rfl)) rfl rfl rfl rfl ⟨Nat.le_of_ble_eq_true rfl, Nat.le_of_ble_eq_true rfl⟩ (Nat.le_of_ble_eq_true rfl) rfl) ?_
    exact G_ret rfl ⟨dX7_whose_38, _, rfl, rfl⟩ rfl
set_option maxRecDepth 100000 in
set_option maxHeartbeats 4000000 in
theorem g_X7_whose (ids : List (Nat × Nat)) (Hn : Ndp ids) (v1 : Int32) (v2 : Int32) (H0_29 : InR ids 0 29 56) (t0 : Sg) : Gj kI mX7_whose ids 0 [some (aR (0, 29)), some (aI v1), some (aI v2), none, none, none, none, none] [] t0 (f_X7_whose v1 v2 t0) := by
  unfold f_X7_whose
  refine G_st (x_aload_n dX7_whose_0 rfl) ?_
  refine G_st (x_iconst (0 : Int32) dX7_whose_1 rfl) ?_
  refine G_st (x_put (k := 18) (ty := .int) (v := aI (0 : Int32)) (z := (0 : Int32)) (upS t0 (0, 29) 18 (0 : Int32)) dX7_whose_2 (H0_29 29 (Nat.le_of_ble_eq_true rfl) (Nat.le_of_ble_eq_true rfl)) rfl rfl rfl rfl inTX7 tyX7_ok nmX7 (Nat.le_of_ble_eq_true rfl) tw_865 rfl rfl (fun ad => rfl) (fun ad => rfl) (fun ad => put_i0 ad _ _ _ _ rfl) rfl) ?_
  refine G_bvS (fun t1 => ?_)
  refine G_st (x_aload_n dX7_whose_5 rfl) ?_
  refine G_st (x_iload_n dX7_whose_6 rfl) ?_
  refine G_bd (fun x2 t3 h4 => ?_)
  refine G_st (x_callV [] (c_X7_flatAt ids Hn v1 H0_29 _ _ _ h4) dX7_whose_7 tw_1054 kc_X7_flatAt (H0_29 29 (Nat.le_of_ble_eq_true rfl) (Nat.le_of_ble_eq_true rfl)) rfl rfl rfl rfl ⟨Nat.le_of_ble_eq_true rfl, Nat.le_of_ble_eq_true rfl⟩ (Nat.le_of_ble_eq_true rfl) rfl) ?_
  refine G_st (x_istore_n [some (aR (0, 29)), some (aI v1), some (aI v2), some (aI x2), none, none, none, none] dX7_whose_10 (Nat.le_of_ble_eq_true rfl) rfl rfl) ?_
  refine G_st (x_iload_n dX7_whose_11 rfl) ?_
  refine G_ite (fun c5 => ?_) (fun c5 => ?_)
  · refine G_st (x_if_ge_t (tgt := 19) dX7_whose_12 (by decide) c5) ?_
    refine G_st (x_iload_n dX7_whose_19 rfl) ?_
    refine G_st (x_iconst (-1 : Int32) dX7_whose_20 rfl) ?_
    refine G_st (x_iconst (1 : Int32) dX7_whose_21 rfl) ?_
    refine G_bd (fun x6 t7 h8 => ?_)
    refine G_st (x_callS [] (c_X7_wrongNumber ids Hn v2 (-1 : Int32) (1 : Int32)  _ _ _ h8) dX7_whose_22 tw_1126 kc_X7_wrongNumber rfl ⟨Nat.le_of_ble_eq_true rfl, Nat.le_of_ble_eq_true rfl⟩ (Nat.le_of_ble_eq_true rfl) rfl) ?_
    refine G_weak _ ?_ (g_X7_whose_25 ids Hn H0_29 v2 x2 x6 t7)
    exact (leL_s (leL_n (leL_s (leL_s (leL_n (leL_n (leL_n (leL_n (leL_e _)))))))))
  · refine G_st (x_if_ge_f 19 dX7_whose_12 (by decide) c5) ?_
    refine G_st (x_iconst (-1 : Int32) dX7_whose_15 rfl) ?_
    refine G_st (x_goto (tgt := 25) dX7_whose_16 (by decide)) ?_
    refine G_weak _ ?_ (g_X7_whose_25 ids Hn H0_29 v2 x2 (-1 : Int32) t3)
    exact (leL_s (leL_n (leL_s (leL_s (leL_n (leL_n (leL_n (leL_n (leL_e _)))))))))
set_option maxRecDepth 100000 in
set_option maxHeartbeats 4000000 in
theorem c_X7_whose (ids : List (Nat × Nat)) (Hn : Ndp ids) (v1 : Int32) (v2 : Int32) (H0_29 : InR ids 0 29 56) (t0 : Sg) (r : Int32) (t1 : Sg) (hf : f_X7_whose v1 v2 t0 = some (r, t1)) : Mt0 mX7_whose yX7_whose ids [aR (0, 29), aI v1, aI v2] t0 (some (aI r)) t1 :=
  Mt_of (x := (r, t1)) (g_X7_whose ids Hn v1 v2 H0_29 t0) hf (fun _ _ => trivial) (by decide) rfl Hn (fun _ => rfl) (fun _ => Nat.le_of_ble_eq_true rfl)
theorem dX7_weekBoth_0 : decode cX7_weekBoth 0 = .ok (.aload_n 0, 1) := by decide +kernel
theorem dX7_weekBoth_1 : decode cX7_weekBoth 1 = .ok (.getfield 53, 3) := by decide +kernel
theorem dX7_weekBoth_4 : decode cX7_weekBoth 4 = .ok (.iload_n 1, 1) := by decide +kernel
theorem dX7_weekBoth_5 : decode cX7_weekBoth 5 = .ok (.iaload, 1) := by decide +kernel
theorem dX7_weekBoth_6 : decode cX7_weekBoth 6 = .ok (.istore_n 3, 1) := by decide +kernel
theorem dX7_weekBoth_7 : decode cX7_weekBoth 7 = .ok (.aload_n 0, 1) := by decide +kernel
theorem dX7_weekBoth_8 : decode cX7_weekBoth 8 = .ok (.invokevirtual 160, 3) := by decide +kernel
theorem dX7_weekBoth_11 : decode cX7_weekBoth 11 = .ok (.pop, 1) := by decide +kernel
theorem dX7_weekBoth_12 : decode cX7_weekBoth 12 = .ok (.aload_n 0, 1) := by decide +kernel
theorem dX7_weekBoth_13 : decode cX7_weekBoth 13 = .ok (.invokevirtual 303, 3) := by decide +kernel
theorem dX7_weekBoth_16 : decode cX7_weekBoth 16 = .ok (.aload_n 0, 1) := by decide +kernel
theorem dX7_weekBoth_17 : decode cX7_weekBoth 17 = .ok (.getfield 53, 3) := by decide +kernel
theorem dX7_weekBoth_20 : decode cX7_weekBoth 20 = .ok (.iload_n 1, 1) := by decide +kernel
theorem dX7_weekBoth_21 : decode cX7_weekBoth 21 = .ok (.iload_n 2, 1) := by decide +kernel
theorem dX7_weekBoth_22 : decode cX7_weekBoth 22 = .ok (.iastore, 1) := by decide +kernel
theorem dX7_weekBoth_23 : decode cX7_weekBoth 23 = .ok (.aload_n 0, 1) := by decide +kernel
theorem dX7_weekBoth_24 : decode cX7_weekBoth 24 = .ok (.invokevirtual 160, 3) := by decide +kernel
theorem dX7_weekBoth_27 : decode cX7_weekBoth 27 = .ok (.pop, 1) := by decide +kernel
theorem dX7_weekBoth_28 : decode cX7_weekBoth 28 = .ok (.aload_n 0, 1) := by decide +kernel
theorem dX7_weekBoth_29 : decode cX7_weekBoth 29 = .ok (.getfield 53, 3) := by decide +kernel
theorem dX7_weekBoth_32 : decode cX7_weekBoth 32 = .ok (.iload_n 1, 1) := by decide +kernel
theorem dX7_weekBoth_33 : decode cX7_weekBoth 33 = .ok (.iload_n 3, 1) := by decide +kernel
theorem dX7_weekBoth_34 : decode cX7_weekBoth 34 = .ok (.iastore, 1) := by decide +kernel
theorem dX7_weekBoth_35 : decode cX7_weekBoth 35 = .ok (.return_, 1) := by decide +kernel
set_option maxRecDepth 100000 in
set_option maxHeartbeats 4000000 in
theorem g_X7_weekBoth (ids : List (Nat × Nat)) (Hn : Ndp ids) (v1 : Int32) (v2 : Int32) (H0_29 : InR ids 0 29 56) (t0 : Sg) : Gj kV mX7_weekBoth ids 0 [some (aR (0, 29)), some (aI v1), some (aI v2), none] [] t0 (f_X7_weekBoth v1 v2 t0) := by
  unfold f_X7_weekBoth
  refine G_st (x_aload_n dX7_weekBoth_0 rfl) ?_
  refine G_st (x_get (k := 17) (aR (0, 42)) dX7_weekBoth_1 (H0_29 29 (Nat.le_of_ble_eq_true rfl) (Nat.le_of_ble_eq_true rfl)) rfl rfl rfl rfl inTX7 (Nat.le_of_ble_eq_true rfl) tw_864 (fun ad => rfl)) ?_
  refine G_st (x_iload_n dX7_weekBoth_4 rfl) ?_
  refine G_chk (fun c1 => ?_)
  refine G_st (x_iaload dX7_weekBoth_5 (H0_29 42 (Nat.le_of_ble_eq_true rfl) (Nat.le_of_ble_eq_true rfl)) rfl c1) ?_
  refine G_bvI (fun x2 => ?_)
  refine G_st (x_istore_n [some (aR (0, 29)), some (aI v1), some (aI v2), some (aI x2)] dX7_weekBoth_6 (Nat.le_of_ble_eq_true rfl) rfl rfl) ?_
  refine G_st (x_aload_n dX7_weekBoth_7 rfl) ?_
  refine G_bd (fun x3 t4 h5 => ?_)
  refine G_st (x_callV [] (c_X7_oneWeek ids Hn  H0_29 _ _ _ h5) dX7_weekBoth_8 tw_1157 kc_X7_oneWeek (H0_29 29 (Nat.le_of_ble_eq_true rfl) (Nat.le_of_ble_eq_true rfl)) rfl rfl rfl rfl ⟨Nat.le_of_ble_eq_true rfl, Nat.le_of_ble_eq_true rfl⟩ (Nat.le_of_ble_eq_true rfl) rfl) ?_
  refine G_st (x_pop dX7_weekBoth_11 rfl) ?_
  refine G_st (x_aload_n dX7_weekBoth_12 rfl) ?_
  refine G_bd (fun _ t7 h8 => ?_)
  refine G_st (x_callV [] (c_X7_keepHarm ids Hn  H0_29 _ _ _ h8) dX7_weekBoth_13 tw_1274 kc_X7_keepHarm (H0_29 29 (Nat.le_of_ble_eq_true rfl) (Nat.le_of_ble_eq_true rfl)) rfl rfl rfl rfl ⟨Nat.le_of_ble_eq_true rfl, Nat.le_of_ble_eq_true rfl⟩ (Nat.le_of_ble_eq_true rfl) rfl) ?_
  refine G_st (x_aload_n dX7_weekBoth_16 rfl) ?_
  refine G_st (x_get (k := 17) (aR (0, 42)) dX7_weekBoth_17 (H0_29 29 (Nat.le_of_ble_eq_true rfl) (Nat.le_of_ble_eq_true rfl)) rfl rfl rfl rfl inTX7 (Nat.le_of_ble_eq_true rfl) tw_864 (fun ad => rfl)) ?_
  refine G_st (x_iload_n dX7_weekBoth_20 rfl) ?_
  refine G_st (x_iload_n dX7_weekBoth_21 rfl) ?_
  refine G_chk (fun c9 => ?_)
  refine G_st (x_iastore dX7_weekBoth_22 (H0_29 42 (Nat.le_of_ble_eq_true rfl) (Nat.le_of_ble_eq_true rfl)) rfl c9) ?_
  refine G_bvS (fun t10 => ?_)
  refine G_st (x_aload_n dX7_weekBoth_23 rfl) ?_
  refine G_bd (fun x11 t12 h13 => ?_)
  refine G_st (x_callV [] (c_X7_oneWeek ids Hn  H0_29 _ _ _ h13) dX7_weekBoth_24 tw_1157 kc_X7_oneWeek (H0_29 29 (Nat.le_of_ble_eq_true rfl) (Nat.le_of_ble_eq_true rfl)) rfl rfl rfl rfl ⟨Nat.le_of_ble_eq_true rfl, Nat.le_of_ble_eq_true rfl⟩ (Nat.le_of_ble_eq_true rfl) rfl) ?_
  refine G_st (x_pop dX7_weekBoth_27 rfl) ?_
  refine G_st (x_aload_n dX7_weekBoth_28 rfl) ?_
  refine G_st (x_get (k := 17) (aR (0, 42)) dX7_weekBoth_29 (H0_29 29 (Nat.le_of_ble_eq_true rfl) (Nat.le_of_ble_eq_true rfl)) rfl rfl rfl rfl inTX7 (Nat.le_of_ble_eq_true rfl) tw_864 (fun ad => rfl)) ?_
  refine G_st (x_iload_n dX7_weekBoth_32 rfl) ?_
  refine G_st (x_iload_n dX7_weekBoth_33 rfl) ?_
  refine G_chk (fun c14 => ?_)
  refine G_st (x_iastore dX7_weekBoth_34 (H0_29 42 (Nat.le_of_ble_eq_true rfl) (Nat.le_of_ble_eq_true rfl)) rfl c14) ?_
  refine G_bvS (fun t15 => ?_)
  exact G_ret rfl ⟨rfl, dX7_weekBoth_35⟩ rfl
set_option maxRecDepth 100000 in
set_option maxHeartbeats 4000000 in
theorem c_X7_weekBoth (ids : List (Nat × Nat)) (Hn : Ndp ids) (v1 : Int32) (v2 : Int32) (H0_29 : InR ids 0 29 56) (t0 : Sg) (r : Unit) (t1 : Sg) (hf : f_X7_weekBoth v1 v2 t0 = some (r, t1)) : Mt0 mX7_weekBoth yX7_weekBoth ids [aR (0, 29), aI v1, aI v2] t0 none t1 :=
  Mt_of (x := (r, t1)) (g_X7_weekBoth ids Hn v1 v2 H0_29 t0) hf (fun _ _ => trivial) (by decide) rfl Hn (fun _ => rfl) (fun _ => Nat.le_of_ble_eq_true rfl)
