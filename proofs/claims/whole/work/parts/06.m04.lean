theorem dX7_lesser_0 : decode cX7_lesser 0 = .ok (.iload_n 0, 1) := by decide +kernel
theorem dX7_lesser_1 : decode cX7_lesser 1 = .ok (.iload_n 1, 1) := by decide +kernel
theorem dX7_lesser_2 : decode cX7_lesser 2 = .ok (.if_icmp .ge 7, 3) := by decide +kernel
theorem dX7_lesser_5 : decode cX7_lesser 5 = .ok (.iload_n 0, 1) := by decide +kernel
theorem dX7_lesser_6 : decode cX7_lesser 6 = .ok (.goto 4, 3) := by decide +kernel
theorem dX7_lesser_9 : decode cX7_lesser 9 = .ok (.iload_n 1, 1) := by decide +kernel
theorem dX7_lesser_10 : decode cX7_lesser 10 = .ok (.ireturn, 1) := by decide +kernel
set_option maxRecDepth 100000 in
set_option maxHeartbeats 4000000 in
theorem g_X7_lesser (ids : List (Nat × Nat)) (Hn : Ndp ids) (v0 : Int32) (v1 : Int32)  (t0 : Sg) : Gj kI mX7_lesser ids 0 [some (aI v0), some (aI v1)] [] t0 (f_X7_lesser v0 v1 t0) := by
  unfold f_X7_lesser
  refine G_st (x_iload_n dX7_lesser_0 rfl) ?_
  refine G_st (x_iload_n dX7_lesser_1 rfl) ?_
  have e2 : Tj mX7_lesser ids 2 [some (aI v0), some (aI v1)] [aI v1, aI v0] t0 10 [some (aI v0), some (aI v1)] [aI (if v1 ≤ v0 then v1 else v0)] t0 := by
    refine Tj.dia (fun c1 => ?_) (fun c1 => ?_)
    · refine Tj.tr (x_icmp_ge_t (tgt := 9) dX7_lesser_2 (by decide) c1) ?_
      refine Tj.tr (x_iload_n dX7_lesser_9 rfl) ?_
      exact Tj.rf
    · refine Tj.tr (x_icmp_ge_f 9 dX7_lesser_2 (by decide) c1) ?_
      refine Tj.tr (x_iload_n dX7_lesser_5 rfl) ?_
      refine Tj.tr (x_goto (tgt := 10) dX7_lesser_6 (by decide)) ?_
      exact Tj.rf
  refine G_st e2 ?_
  exact G_ret rfl ⟨dX7_lesser_10, _, rfl, rfl⟩ rfl
set_option maxRecDepth 100000 in
set_option maxHeartbeats 4000000 in
theorem c_X7_lesser (ids : List (Nat × Nat)) (Hn : Ndp ids) (v0 : Int32) (v1 : Int32)  (t0 : Sg) (r : Int32) (t1 : Sg) (hf : f_X7_lesser v0 v1 t0 = some (r, t1)) : Mt0 mX7_lesser yX7_lesser ids [aI v0, aI v1] t0 (some (aI r)) t1 :=
  Mt_of (x := (r, t1)) (g_X7_lesser ids Hn v0 v1  t0) hf (fun _ _ => trivial) (by decide) rfl Hn (fun _ => rfl) (fun _ => Nat.le_of_ble_eq_true rfl)
theorem dX7_harmOf_0 : decode cX7_harmOf 0 = .ok (.aload_n 0, 1) := by decide +kernel
theorem dX7_harmOf_1 : decode cX7_harmOf 1 = .ok (.getfield 26, 3) := by decide +kernel
theorem dX7_harmOf_4 : decode cX7_harmOf 4 = .ok (.iload_n 2, 1) := by decide +kernel
theorem dX7_harmOf_5 : decode cX7_harmOf 5 = .ok (.iaload, 1) := by decide +kernel
theorem dX7_harmOf_6 : decode cX7_harmOf 6 = .ok (.ifCond .eq 16, 3) := by decide +kernel
theorem dX7_harmOf_9 : decode cX7_harmOf 9 = .ok (.aload_n 0, 1) := by decide +kernel
theorem dX7_harmOf_10 : decode cX7_harmOf 10 = .ok (.getfield 29, 3) := by decide +kernel
theorem dX7_harmOf_13 : decode cX7_harmOf 13 = .ok (.iload_n 2, 1) := by decide +kernel
theorem dX7_harmOf_14 : decode cX7_harmOf 14 = .ok (.iaload, 1) := by decide +kernel
theorem dX7_harmOf_15 : decode cX7_harmOf 15 = .ok (.iload_n 3, 1) := by decide +kernel
theorem dX7_harmOf_16 : decode cX7_harmOf 16 = .ok (.ishr, 1) := by decide +kernel
theorem dX7_harmOf_17 : decode cX7_harmOf 17 = .ok (.iconst 1, 1) := by decide +kernel
theorem dX7_harmOf_18 : decode cX7_harmOf 18 = .ok (.iand, 1) := by decide +kernel
theorem dX7_harmOf_19 : decode cX7_harmOf 19 = .ok (.ifCond .ne 5, 3) := by decide +kernel
theorem dX7_harmOf_22 : decode cX7_harmOf 22 = .ok (.iconst 0, 1) := by decide +kernel
theorem dX7_harmOf_23 : decode cX7_harmOf 23 = .ok (.ireturn, 1) := by decide +kernel
theorem dX7_harmOf_24 : decode cX7_harmOf 24 = .ok (.iload 4, 2) := by decide +kernel
theorem dX7_harmOf_26 : decode cX7_harmOf 26 = .ok (.aload_n 0, 1) := by decide +kernel
theorem dX7_harmOf_27 : decode cX7_harmOf 27 = .ok (.getfield 26, 3) := by decide +kernel
theorem dX7_harmOf_30 : decode cX7_harmOf 30 = .ok (.iload_n 2, 1) := by decide +kernel
theorem dX7_harmOf_31 : decode cX7_harmOf 31 = .ok (.iaload, 1) := by decide +kernel
theorem dX7_harmOf_32 : decode cX7_harmOf 32 = .ok (.invokestatic 122, 3) := by decide +kernel
theorem dX7_harmOf_35 : decode cX7_harmOf 35 = .ok (.istore 5, 2) := by decide +kernel
theorem dX7_harmOf_37 : decode cX7_harmOf 37 = .ok (.iload_n 1, 1) := by decide +kernel
theorem dX7_harmOf_38 : decode cX7_harmOf 38 = .ok (.tableswitch 53 1 5 #[34, 53, 39, 44, 46], 34) := by decide +kernel
theorem dX7_harmOf_72 : decode cX7_harmOf 72 = .ok (.iload 5, 2) := by decide +kernel
theorem dX7_harmOf_74 : decode cX7_harmOf 74 = .ok (.iconst 2, 1) := by decide +kernel
theorem dX7_harmOf_75 : decode cX7_harmOf 75 = .ok (.idiv, 1) := by decide +kernel
theorem dX7_harmOf_76 : decode cX7_harmOf 76 = .ok (.ireturn, 1) := by decide +kernel
theorem dX7_harmOf_77 : decode cX7_harmOf 77 = .ok (.iconst 2, 1) := by decide +kernel
theorem dX7_harmOf_78 : decode cX7_harmOf 78 = .ok (.iload 5, 2) := by decide +kernel
theorem dX7_harmOf_80 : decode cX7_harmOf 80 = .ok (.imul, 1) := by decide +kernel
theorem dX7_harmOf_81 : decode cX7_harmOf 81 = .ok (.ireturn, 1) := by decide +kernel
theorem dX7_harmOf_82 : decode cX7_harmOf 82 = .ok (.iconst 1, 1) := by decide +kernel
theorem dX7_harmOf_83 : decode cX7_harmOf 83 = .ok (.ireturn, 1) := by decide +kernel
theorem dX7_harmOf_84 : decode cX7_harmOf 84 = .ok (.iload 5, 2) := by decide +kernel
theorem dX7_harmOf_86 : decode cX7_harmOf 86 = .ok (.iconst 2, 1) := by decide +kernel
theorem dX7_harmOf_87 : decode cX7_harmOf 87 = .ok (.idiv, 1) := by decide +kernel
theorem dX7_harmOf_88 : decode cX7_harmOf 88 = .ok (.iconst 2, 1) := by decide +kernel
theorem dX7_harmOf_89 : decode cX7_harmOf 89 = .ok (.iadd, 1) := by decide +kernel
theorem dX7_harmOf_90 : decode cX7_harmOf 90 = .ok (.ireturn, 1) := by decide +kernel
theorem dX7_harmOf_91 : decode cX7_harmOf 91 = .ok (.iload 5, 2) := by decide +kernel
theorem dX7_harmOf_93 : decode cX7_harmOf 93 = .ok (.ireturn, 1) := by decide +kernel
set_option maxRecDepth 100000 in
set_option maxHeartbeats 4000000 in
theorem g_X7_harmOf (ids : List (Nat × Nat)) (Hn : Ndp ids) (v1 : Int32) (v2 : Int32) (v3 : Int32) (v4 : Int32) (H0_29 : InR ids 0 29 56) (t0 : Sg) : Gj kI mX7_harmOf ids 0 [some (aR (0, 29)), some (aI v1), some (aI v2), some (aI v3), some (aI v4), none] [] t0 (f_X7_harmOf v1 v2 v3 v4 t0) := by
  unfold f_X7_harmOf
  refine G_st (x_aload_n dX7_harmOf_0 rfl) ?_
  refine G_st (x_get (k := 8) (aR (0, 33)) dX7_harmOf_1 (H0_29 29 (Nat.le_of_ble_eq_true rfl) (Nat.le_of_ble_eq_true rfl)) rfl rfl rfl rfl inTX7 (Nat.le_of_ble_eq_true rfl) tw_855 (fun ad => rfl)) ?_
  refine G_st (x_iload_n dX7_harmOf_4 rfl) ?_
  refine G_chk (fun c1 => ?_)
  refine G_st (x_iaload dX7_harmOf_5 (H0_29 33 (Nat.le_of_ble_eq_true rfl) (Nat.le_of_ble_eq_true rfl)) rfl c1) ?_
  refine G_ite (fun c2 => ?_) (fun c2 => ?_)
  · refine G_st (x_if_eq_t (tgt := 22) dX7_harmOf_6 (by decide) c2) ?_
    refine G_st (x_iconst (0 : Int32) dX7_harmOf_22 rfl) ?_
    exact G_ret rfl ⟨dX7_harmOf_23, _, rfl, rfl⟩ rfl
  · refine G_st (x_if_eq_f 22 dX7_harmOf_6 (by decide) c2) ?_
    refine G_st (x_aload_n dX7_harmOf_9 rfl) ?_
    refine G_st (x_get (k := 9) (aR (0, 34)) dX7_harmOf_10 (H0_29 29 (Nat.le_of_ble_eq_true rfl) (Nat.le_of_ble_eq_true rfl)) rfl rfl rfl rfl inTX7 (Nat.le_of_ble_eq_true rfl) tw_856 (fun ad => rfl)) ?_
    refine G_st (x_iload_n dX7_harmOf_13 rfl) ?_
    refine G_chk (fun c3 => ?_)
    refine G_st (x_iaload dX7_harmOf_14 (H0_29 34 (Nat.le_of_ble_eq_true rfl) (Nat.le_of_ble_eq_true rfl)) rfl c3) ?_
    refine G_st (x_iload_n dX7_harmOf_15 rfl) ?_
    refine G_st (x_ishr dX7_harmOf_16) ?_
    refine G_st (x_iconst (1 : Int32) dX7_harmOf_17 rfl) ?_
    refine G_st (x_iand dX7_harmOf_18) ?_
    refine G_ite (fun c4 => ?_) (fun c4 => ?_)
    · refine G_st (x_if_ne_f 24 dX7_harmOf_19 (by decide) c4) ?_
      refine G_st (x_iconst (0 : Int32) dX7_harmOf_22 rfl) ?_
      exact G_ret rfl ⟨dX7_harmOf_23, _, rfl, rfl⟩ rfl
    · refine G_st (x_if_ne_t (tgt := 24) dX7_harmOf_19 (by decide) c4) ?_
      refine G_st (x_iload dX7_harmOf_24 rfl) ?_
      refine G_st (x_aload_n dX7_harmOf_26 rfl) ?_
      refine G_st (x_get (k := 8) (aR (0, 33)) dX7_harmOf_27 (H0_29 29 (Nat.le_of_ble_eq_true rfl) (Nat.le_of_ble_eq_true rfl)) rfl rfl rfl rfl inTX7 (Nat.le_of_ble_eq_true rfl) tw_855 (fun ad => rfl)) ?_
      refine G_st (x_iload_n dX7_harmOf_30 rfl) ?_
      refine G_chk (fun c5 => ?_)
      refine G_st (x_iaload dX7_harmOf_31 (H0_29 33 (Nat.le_of_ble_eq_true rfl) (Nat.le_of_ble_eq_true rfl)) rfl c5) ?_
      refine G_bd (fun x6 t7 h8 => ?_)
      refine G_st (x_callS [] (c_X7_lesser ids Hn v4 (t0 (0, 33) (v2).toNatClampNeg)  _ _ _ h8) dX7_harmOf_32 tw_1062 kc_X7_lesser rfl ⟨Nat.le_of_ble_eq_true rfl, Nat.le_of_ble_eq_true rfl⟩ (Nat.le_of_ble_eq_true rfl) rfl) ?_
      refine G_st (x_istore [some (aR (0, 29)), some (aI v1), some (aI v2), some (aI v3), some (aI v4), some (aI x6)] dX7_harmOf_35 (Nat.le_of_ble_eq_true rfl) rfl rfl) ?_
      refine G_st (x_iload_n dX7_harmOf_37 rfl) ?_
      refine G_ite (fun c9 => ?_) (fun c9 => ?_)
      · refine G_st (x_tabIn (tgt := 72) (1 : Int32) dX7_harmOf_38 c9 (by decide) (by decide) rfl (by decide)) ?_
        refine G_st (x_iload dX7_harmOf_72 rfl) ?_
        refine G_st (x_iconst (2 : Int32) dX7_harmOf_74 rfl) ?_
        refine G_st (x_idiv dX7_harmOf_75 (by decide)) ?_
        exact G_ret rfl ⟨dX7_harmOf_76, _, rfl, rfl⟩ rfl
      refine G_ite (fun c10 => ?_) (fun c10 => ?_)
      · refine G_st (x_tabIn (tgt := 91) (2 : Int32) dX7_harmOf_38 c10 (by decide) (by decide) rfl (by decide)) ?_
        refine G_st (x_iload dX7_harmOf_91 rfl) ?_
        exact G_ret rfl ⟨dX7_harmOf_93, _, rfl, rfl⟩ rfl
      refine G_ite (fun c11 => ?_) (fun c11 => ?_)
      · refine G_st (x_tabIn (tgt := 77) (3 : Int32) dX7_harmOf_38 c11 (by decide) (by decide) rfl (by decide)) ?_
        refine G_st (x_iconst (2 : Int32) dX7_harmOf_77 rfl) ?_
        refine G_st (x_iload dX7_harmOf_78 rfl) ?_
        refine G_st (x_imul dX7_harmOf_80) ?_
        exact G_ret rfl ⟨dX7_harmOf_81, _, rfl, rfl⟩ rfl
      refine G_ite (fun c12 => ?_) (fun c12 => ?_)
      · refine G_st (x_tabIn (tgt := 82) (4 : Int32) dX7_harmOf_38 c12 (by decide) (by decide) rfl (by decide)) ?_
        refine G_st (x_iconst (1 : Int32) dX7_harmOf_82 rfl) ?_
        exact G_ret rfl ⟨dX7_harmOf_83, _, rfl, rfl⟩ rfl
      refine G_ite (fun c13 => ?_) (fun c13 => ?_)
      · refine G_st (x_tabIn (tgt := 84) (5 : Int32) dX7_harmOf_38 c13 (by decide) (by decide) rfl (by decide)) ?_
        refine G_st (x_iload dX7_harmOf_84 rfl) ?_
        refine G_st (x_iconst (2 : Int32) dX7_harmOf_86 rfl) ?_
        refine G_st (x_idiv dX7_harmOf_87 (by decide)) ?_
        refine G_st (x_iconst (2 : Int32) dX7_harmOf_88 rfl) ?_
        refine G_st (x_iadd dX7_harmOf_89) ?_
        exact G_ret rfl ⟨dX7_harmOf_90, _, rfl, rfl⟩ rfl
      refine G_st (x_tabOut (tgt := 91) dX7_harmOf_38 (by have c9q : ¬ (v1).toInt = (1 : Int) := lv_neT c9 rfl; have c10q : ¬ (v1).toInt = (2 : Int) := lv_neT c10 rfl; have c11q : ¬ (v1).toInt = (3 : Int) := lv_neT c11 rfl; have c12q : ¬ (v1).toInt = (4 : Int) := lv_neT c12 rfl; have c13q : ¬ (v1).toInt = (5 : Int) := lv_neT c13 rfl; omega) (by decide)) ?_
      refine G_st (x_iload dX7_harmOf_91 rfl) ?_
      exact G_ret rfl ⟨dX7_harmOf_93, _, rfl, rfl⟩ rfl
set_option maxRecDepth 100000 in
set_option maxHeartbeats 4000000 in
theorem c_X7_harmOf (ids : List (Nat × Nat)) (Hn : Ndp ids) (v1 : Int32) (v2 : Int32) (v3 : Int32) (v4 : Int32) (H0_29 : InR ids 0 29 56) (t0 : Sg) (r : Int32) (t1 : Sg) (hf : f_X7_harmOf v1 v2 v3 v4 t0 = some (r, t1)) : Mt0 mX7_harmOf yX7_harmOf ids [aR (0, 29), aI v1, aI v2, aI v3, aI v4] t0 (some (aI r)) t1 :=
  Mt_of (x := (r, t1)) (g_X7_harmOf ids Hn v1 v2 v3 v4 H0_29 t0) hf (fun _ _ => trivial) (by decide) rfl Hn (fun _ => rfl) (fun _ => Nat.le_of_ble_eq_true rfl)
theorem dX7_clearHarm_0 : decode cX7_clearHarm 0 = .ok (.iconst 0, 1) := by decide +kernel
theorem dX7_clearHarm_1 : decode cX7_clearHarm 1 = .ok (.istore_n 1, 1) := by decide +kernel
theorem dX7_clearHarm_2 : decode cX7_clearHarm 2 = .ok (.iload_n 1, 1) := by decide +kernel
theorem dX7_clearHarm_3 : decode cX7_clearHarm 3 = .ok (.bipush 24, 2) := by decide +kernel
theorem dX7_clearHarm_5 : decode cX7_clearHarm 5 = .ok (.if_icmp .ge 16, 3) := by decide +kernel
theorem dX7_clearHarm_8 : decode cX7_clearHarm 8 = .ok (.aload_n 0, 1) := by decide +kernel
theorem dX7_clearHarm_9 : decode cX7_clearHarm 9 = .ok (.getfield 62, 3) := by decide +kernel
theorem dX7_clearHarm_12 : decode cX7_clearHarm 12 = .ok (.iload_n 1, 1) := by decide +kernel
theorem dX7_clearHarm_13 : decode cX7_clearHarm 13 = .ok (.iconst 0, 1) := by decide +kernel
theorem dX7_clearHarm_14 : decode cX7_clearHarm 14 = .ok (.iastore, 1) := by decide +kernel
theorem dX7_clearHarm_15 : decode cX7_clearHarm 15 = .ok (.iinc 1 1, 3) := by decide +kernel
theorem dX7_clearHarm_18 : decode cX7_clearHarm 18 = .ok (.goto (-16), 3) := by decide +kernel
theorem dX7_clearHarm_21 : decode cX7_clearHarm 21 = .ok (.iconst 0, 1) := by decide +kernel
theorem dX7_clearHarm_22 : decode cX7_clearHarm 22 = .ok (.istore_n 1, 1) := by decide +kernel
theorem dX7_clearHarm_23 : decode cX7_clearHarm 23 = .ok (.iload_n 1, 1) := by decide +kernel
theorem dX7_clearHarm_24 : decode cX7_clearHarm 24 = .ok (.sipush 576, 3) := by decide +kernel
theorem dX7_clearHarm_27 : decode cX7_clearHarm 27 = .ok (.if_icmp .ge 16, 3) := by decide +kernel
theorem dX7_clearHarm_30 : decode cX7_clearHarm 30 = .ok (.aload_n 0, 1) := by decide +kernel
theorem dX7_clearHarm_31 : decode cX7_clearHarm 31 = .ok (.getfield 65, 3) := by decide +kernel
theorem dX7_clearHarm_34 : decode cX7_clearHarm 34 = .ok (.iload_n 1, 1) := by decide +kernel
theorem dX7_clearHarm_35 : decode cX7_clearHarm 35 = .ok (.iconst 0, 1) := by decide +kernel
theorem dX7_clearHarm_36 : decode cX7_clearHarm 36 = .ok (.iastore, 1) := by decide +kernel
theorem dX7_clearHarm_37 : decode cX7_clearHarm 37 = .ok (.iinc 1 1, 3) := by decide +kernel
theorem dX7_clearHarm_40 : decode cX7_clearHarm 40 = .ok (.goto (-17), 3) := by decide +kernel
theorem dX7_clearHarm_43 : decode cX7_clearHarm 43 = .ok (.return_, 1) := by decide +kernel
set_option maxRecDepth 100000 in
set_option maxHeartbeats 4000000 in
theorem g_X7_clearHarm_23 (ids : List (Nat × Nat)) (Hn : Ndp ids)  (H0_29 : InR ids 0 29 56)  : ∀ (n : Nat) (v1 : Int32) (t0 : Sg), Gj kV mX7_clearHarm ids 23 [some (aR (0, 29)), some (aI v1)] [] t0 (f_X7_clearHarm_23 n v1 t0) := by
  intro n
  induction n with
  | zero => intro v1 t0; exact G_none
  | succ n ih =>
    intro v1 t0
    rw [f_X7_clearHarm_23]
    refine G_st (x_iload_n dX7_clearHarm_23 rfl) ?_
    refine G_st (x_sipush (576 : Int32) dX7_clearHarm_24 rfl) ?_
    refine G_ite (fun c2 => ?_) (fun c2 => ?_)
    · refine G_st (x_icmp_ge_t (tgt := 43) dX7_clearHarm_27 (by decide) c2) ?_
      exact G_ret rfl ⟨rfl, dX7_clearHarm_43⟩ rfl
    · refine G_st (x_icmp_ge_f 43 dX7_clearHarm_27 (by decide) c2) ?_
      refine G_st (x_aload_n dX7_clearHarm_30 rfl) ?_
      refine G_st (x_get (k := 22) (aR (0, 46)) dX7_clearHarm_31 (H0_29 29 (Nat.le_of_ble_eq_true rfl) (Nat.le_of_ble_eq_true rfl)) rfl rfl rfl rfl inTX7 (Nat.le_of_ble_eq_true rfl) tw_869 (fun ad => rfl)) ?_
      refine G_st (x_iload_n dX7_clearHarm_34 rfl) ?_
      refine G_st (x_iconst (0 : Int32) dX7_clearHarm_35 rfl) ?_
      refine G_chk (fun c3 => ?_)
      refine G_st (x_iastore dX7_clearHarm_36 (H0_29 46 (Nat.le_of_ble_eq_true rfl) (Nat.le_of_ble_eq_true rfl)) rfl c3) ?_
      refine G_bvS (fun t4 => ?_)
      refine G_st (x_iinc (v1 + (1 : Int32)) [some (aR (0, 29)), some (aI (v1 + (1 : Int32)))] dX7_clearHarm_37 (Nat.le_of_ble_eq_true rfl) rfl rfl rfl rfl) ?_
      refine G_st (x_goto (tgt := 23) dX7_clearHarm_40 (by decide)) ?_
      refine G_weak _ ?_ ((ih) (v1 + (1 : Int32)) t4)
      exact (leL_s (leL_s (leL_e _)))
set_option maxRecDepth 100000 in
set_option maxHeartbeats 4000000 in
theorem g_X7_clearHarm_2 (ids : List (Nat × Nat)) (Hn : Ndp ids)  (H0_29 : InR ids 0 29 56)  : ∀ (n : Nat) (v1 : Int32) (t0 : Sg), Gj kV mX7_clearHarm ids 2 [some (aR (0, 29)), some (aI v1)] [] t0 (f_X7_clearHarm_2 n v1 t0) := by
  intro n
  induction n with
  | zero => intro v1 t0; exact G_none
  | succ n ih =>
    intro v1 t0
    rw [f_X7_clearHarm_2]
    refine G_st (x_iload_n dX7_clearHarm_2 rfl) ?_
    refine G_st (x_bipush (24 : Int32) dX7_clearHarm_3 rfl) ?_
    refine G_ite (fun c1 => ?_) (fun c1 => ?_)
    · refine G_st (x_icmp_ge_t (tgt := 21) dX7_clearHarm_5 (by decide) c1) ?_
      refine G_st (x_iconst (0 : Int32) dX7_clearHarm_21 rfl) ?_
      refine G_st (x_istore_n [some (aR (0, 29)), some (aI (0 : Int32))] dX7_clearHarm_22 (Nat.le_of_ble_eq_true rfl) rfl rfl) ?_
      refine G_weak _ ?_ (g_X7_clearHarm_23 ids Hn H0_29 fuel (0 : Int32) t0)
      exact (leL_s (leL_s (leL_e _)))
    · refine G_st (x_icmp_ge_f 21 dX7_clearHarm_5 (by decide) c1) ?_
      refine G_st (x_aload_n dX7_clearHarm_8 rfl) ?_
      refine G_st (x_get (k := 21) (aR (0, 45)) dX7_clearHarm_9 (H0_29 29 (Nat.le_of_ble_eq_true rfl) (Nat.le_of_ble_eq_true rfl)) rfl rfl rfl rfl inTX7 (Nat.le_of_ble_eq_true rfl) tw_868 (fun ad => rfl)) ?_
      refine G_st (x_iload_n dX7_clearHarm_12 rfl) ?_
      refine G_st (x_iconst (0 : Int32) dX7_clearHarm_13 rfl) ?_
      refine G_chk (fun c5 => ?_)
      refine G_st (x_iastore dX7_clearHarm_14 (H0_29 45 (Nat.le_of_ble_eq_true rfl) (Nat.le_of_ble_eq_true rfl)) rfl c5) ?_
      refine G_bvS (fun t6 => ?_)
      refine G_st (x_iinc (v1 + (1 : Int32)) [some (aR (0, 29)), some (aI (v1 + (1 : Int32)))] dX7_clearHarm_15 (Nat.le_of_ble_eq_true rfl) rfl rfl rfl rfl) ?_
      refine G_st (x_goto (tgt := 2) dX7_clearHarm_18 (by decide)) ?_
      refine G_weak _ ?_ ((ih) (v1 + (1 : Int32)) t6)
      exact (leL_s (leL_s (leL_e _)))
set_option maxRecDepth 100000 in
set_option maxHeartbeats 4000000 in
theorem g_X7_clearHarm (ids : List (Nat × Nat)) (Hn : Ndp ids)  (H0_29 : InR ids 0 29 56) (t0 : Sg) : Gj kV mX7_clearHarm ids 0 [some (aR (0, 29)), none] [] t0 (f_X7_clearHarm t0) := by
  unfold f_X7_clearHarm
  refine G_st (x_iconst (0 : Int32) dX7_clearHarm_0 rfl) ?_
  refine G_st (x_istore_n [some (aR (0, 29)), some (aI (0 : Int32))] dX7_clearHarm_1 (Nat.le_of_ble_eq_true rfl) rfl rfl) ?_
  refine G_weak _ ?_ (g_X7_clearHarm_2 ids Hn H0_29 fuel (0 : Int32) t0)
  exact (leL_s (leL_s (leL_e _)))
set_option maxRecDepth 100000 in
set_option maxHeartbeats 4000000 in
theorem c_X7_clearHarm (ids : List (Nat × Nat)) (Hn : Ndp ids)  (H0_29 : InR ids 0 29 56) (t0 : Sg) (r : Unit) (t1 : Sg) (hf : f_X7_clearHarm t0 = some (r, t1)) : Mt0 mX7_clearHarm yX7_clearHarm ids [aR (0, 29)] t0 none t1 :=
  Mt_of (x := (r, t1)) (g_X7_clearHarm ids Hn  H0_29 t0) hf (fun _ _ => trivial) (by decide) rfl Hn (fun _ => rfl) (fun _ => Nat.le_of_ble_eq_true rfl)
theorem dX7_beginMind_0 : decode cX7_beginMind 0 = .ok (.iconst 0, 1) := by decide +kernel
theorem dX7_beginMind_1 : decode cX7_beginMind 1 = .ok (.istore_n 1, 1) := by decide +kernel
theorem dX7_beginMind_2 : decode cX7_beginMind 2 = .ok (.iload_n 1, 1) := by decide +kernel
theorem dX7_beginMind_3 : decode cX7_beginMind 3 = .ok (.bipush 24, 2) := by decide +kernel
theorem dX7_beginMind_5 : decode cX7_beginMind 5 = .ok (.if_icmp .ge 21, 3) := by decide +kernel
theorem dX7_beginMind_8 : decode cX7_beginMind 8 = .ok (.aload_n 0, 1) := by decide +kernel
theorem dX7_beginMind_9 : decode cX7_beginMind 9 = .ok (.getfield 59, 3) := by decide +kernel
theorem dX7_beginMind_12 : decode cX7_beginMind 12 = .ok (.iload_n 1, 1) := by decide +kernel
theorem dX7_beginMind_13 : decode cX7_beginMind 13 = .ok (.aload_n 0, 1) := by decide +kernel
theorem dX7_beginMind_14 : decode cX7_beginMind 14 = .ok (.getfield 20, 3) := by decide +kernel
theorem dX7_beginMind_17 : decode cX7_beginMind 17 = .ok (.iload_n 1, 1) := by decide +kernel
theorem dX7_beginMind_18 : decode cX7_beginMind 18 = .ok (.iaload, 1) := by decide +kernel
theorem dX7_beginMind_19 : decode cX7_beginMind 19 = .ok (.iastore, 1) := by decide +kernel
theorem dX7_beginMind_20 : decode cX7_beginMind 20 = .ok (.iinc 1 1, 3) := by decide +kernel
theorem dX7_beginMind_23 : decode cX7_beginMind 23 = .ok (.goto (-21), 3) := by decide +kernel
theorem dX7_beginMind_26 : decode cX7_beginMind 26 = .ok (.aload_n 0, 1) := by decide +kernel
theorem dX7_beginMind_27 : decode cX7_beginMind 27 = .ok (.invokevirtual 126, 3) := by decide +kernel
theorem dX7_beginMind_30 : decode cX7_beginMind 30 = .ok (.return_, 1) := by decide +kernel
set_option maxRecDepth 100000 in
set_option maxHeartbeats 4000000 in
theorem g_X7_beginMind_2 (ids : List (Nat × Nat)) (Hn : Ndp ids)  (H0_29 : InR ids 0 29 56)  : ∀ (n : Nat) (v1 : Int32) (t0 : Sg), Gj kV mX7_beginMind ids 2 [some (aR (0, 29)), some (aI v1)] [] t0 (f_X7_beginMind_2 n v1 t0) := by
  intro n
  induction n with
  | zero => intro v1 t0; exact G_none
  | succ n ih =>
    intro v1 t0
    rw [f_X7_beginMind_2]
    refine G_st (x_iload_n dX7_beginMind_2 rfl) ?_
    refine G_st (x_bipush (24 : Int32) dX7_beginMind_3 rfl) ?_
    refine G_ite (fun c1 => ?_) (fun c1 => ?_)
    · refine G_st (x_icmp_ge_t (tgt := 26) dX7_beginMind_5 (by decide) c1) ?_
      refine G_st (x_aload_n dX7_beginMind_26 rfl) ?_
      refine G_bd (fun _ t3 h4 => ?_)
      refine G_st (x_callV [] (c_X7_clearHarm ids Hn  H0_29 _ _ _ h4) dX7_beginMind_27 tw_1165 kc_X7_clearHarm (H0_29 29 (Nat.le_of_ble_eq_true rfl) (Nat.le_of_ble_eq_true rfl)) rfl rfl rfl rfl ⟨Nat.le_of_ble_eq_true rfl, Nat.le_of_ble_eq_true rfl⟩ (Nat.le_of_ble_eq_true rfl) rfl) ?_
      exact G_ret rfl ⟨rfl, dX7_beginMind_30⟩ rfl
    · refine G_st (x_icmp_ge_f 26 dX7_beginMind_5 (by decide) c1) ?_
      refine G_st (x_aload_n dX7_beginMind_8 rfl) ?_
      refine G_st (x_get (k := 20) (aR (0, 44)) dX7_beginMind_9 (H0_29 29 (Nat.le_of_ble_eq_true rfl) (Nat.le_of_ble_eq_true rfl)) rfl rfl rfl rfl inTX7 (Nat.le_of_ble_eq_true rfl) tw_867 (fun ad => rfl)) ?_
      refine G_st (x_iload_n dX7_beginMind_12 rfl) ?_
      refine G_st (x_aload_n dX7_beginMind_13 rfl) ?_
      refine G_st (x_get (k := 6) (aR (0, 31)) dX7_beginMind_14 (H0_29 29 (Nat.le_of_ble_eq_true rfl) (Nat.le_of_ble_eq_true rfl)) rfl rfl rfl rfl inTX7 (Nat.le_of_ble_eq_true rfl) tw_853 (fun ad => rfl)) ?_
      refine G_st (x_iload_n dX7_beginMind_17 rfl) ?_
      refine G_chk (fun c5 => ?_)
      refine G_st (x_iaload dX7_beginMind_18 (H0_29 31 (Nat.le_of_ble_eq_true rfl) (Nat.le_of_ble_eq_true rfl)) rfl c5) ?_
      refine G_chk (fun c6 => ?_)
      refine G_st (x_iastore dX7_beginMind_19 (H0_29 44 (Nat.le_of_ble_eq_true rfl) (Nat.le_of_ble_eq_true rfl)) rfl c6) ?_
      refine G_bvS (fun t7 => ?_)
      refine G_st (x_iinc (v1 + (1 : Int32)) [some (aR (0, 29)), some (aI (v1 + (1 : Int32)))] dX7_beginMind_20 (Nat.le_of_ble_eq_true rfl) rfl rfl rfl rfl) ?_
      refine G_st (x_goto (tgt := 2) dX7_beginMind_23 (by decide)) ?_
      refine G_weak _ ?_ ((ih) (v1 + (1 : Int32)) t7)
      exact (leL_s (leL_s (leL_e _)))
set_option maxRecDepth 100000 in
set_option maxHeartbeats 4000000 in
theorem g_X7_beginMind (ids : List (Nat × Nat)) (Hn : Ndp ids)  (H0_29 : InR ids 0 29 56) (t0 : Sg) : Gj kV mX7_beginMind ids 0 [some (aR (0, 29)), none] [] t0 (f_X7_beginMind t0) := by
  unfold f_X7_beginMind
  refine G_st (x_iconst (0 : Int32) dX7_beginMind_0 rfl) ?_
  refine G_st (x_istore_n [some (aR (0, 29)), some (aI (0 : Int32))] dX7_beginMind_1 (Nat.le_of_ble_eq_true rfl) rfl rfl) ?_
  refine G_weak _ ?_ (g_X7_beginMind_2 ids Hn H0_29 fuel (0 : Int32) t0)
  exact (leL_s (leL_s (leL_e _)))
set_option maxRecDepth 100000 in
set_option maxHeartbeats 4000000 in
theorem c_X7_beginMind (ids : List (Nat × Nat)) (Hn : Ndp ids)  (H0_29 : InR ids 0 29 56) (t0 : Sg) (r : Unit) (t1 : Sg) (hf : f_X7_beginMind t0 = some (r, t1)) : Mt0 mX7_beginMind yX7_beginMind ids [aR (0, 29)] t0 none t1 :=
  Mt_of (x := (r, t1)) (g_X7_beginMind ids Hn  H0_29 t0) hf (fun _ _ => trivial) (by decide) rfl Hn (fun _ => rfl) (fun _ => Nat.le_of_ble_eq_true rfl)
theorem dX7_keptAt_0 : decode cX7_keptAt 0 = .ok (.aload_n 0, 1) := by decide +kernel
theorem dX7_keptAt_1 : decode cX7_keptAt 1 = .ok (.getfield 16, 3) := by decide +kernel
theorem dX7_keptAt_4 : decode cX7_keptAt 4 = .ok (.iload_n 2, 1) := by decide +kernel
theorem dX7_keptAt_5 : decode cX7_keptAt 5 = .ok (.iaload, 1) := by decide +kernel
theorem dX7_keptAt_6 : decode cX7_keptAt 6 = .ok (.aload_n 0, 1) := by decide +kernel
theorem dX7_keptAt_7 : decode cX7_keptAt 7 = .ok (.getfield 59, 3) := by decide +kernel
theorem dX7_keptAt_10 : decode cX7_keptAt 10 = .ok (.iload_n 2, 1) := by decide +kernel
theorem dX7_keptAt_11 : decode cX7_keptAt 11 = .ok (.iaload, 1) := by decide +kernel
theorem dX7_keptAt_12 : decode cX7_keptAt 12 = .ok (.isub, 1) := by decide +kernel
theorem dX7_keptAt_13 : decode cX7_keptAt 13 = .ok (.istore 4, 2) := by decide +kernel
theorem dX7_keptAt_15 : decode cX7_keptAt 15 = .ok (.iload_n 1, 1) := by decide +kernel
theorem dX7_keptAt_16 : decode cX7_keptAt 16 = .ok (.iconst 3, 1) := by decide +kernel
theorem dX7_keptAt_17 : decode cX7_keptAt 17 = .ok (.if_icmp .eq 8, 3) := by decide +kernel
theorem dX7_keptAt_20 : decode cX7_keptAt 20 = .ok (.iload_n 1, 1) := by decide +kernel
theorem dX7_keptAt_21 : decode cX7_keptAt 21 = .ok (.iconst 4, 1) := by decide +kernel
theorem dX7_keptAt_22 : decode cX7_keptAt 22 = .ok (.if_icmp .ne 7, 3) := by decide +kernel
theorem dX7_keptAt_25 : decode cX7_keptAt 25 = .ok (.iconst 0, 1) := by decide +kernel
theorem dX7_keptAt_26 : decode cX7_keptAt 26 = .ok (.goto 21, 3) := by decide +kernel
theorem dX7_keptAt_29 : decode cX7_keptAt 29 = .ok (.iload_n 3, 1) := by decide +kernel
theorem dX7_keptAt_30 : decode cX7_keptAt 30 = .ok (.iload_n 1, 1) := by decide +kernel
theorem dX7_keptAt_31 : decode cX7_keptAt 31 = .ok (.iconst 5, 1) := by decide +kernel
theorem dX7_keptAt_32 : decode cX7_keptAt 32 = .ok (.if_icmp .ne 10, 3) := by decide +kernel
theorem dX7_keptAt_35 : decode cX7_keptAt 35 = .ok (.iload 4, 2) := by decide +kernel
theorem dX7_keptAt_37 : decode cX7_keptAt 37 = .ok (.iconst 2, 1) := by decide +kernel
theorem dX7_keptAt_38 : decode cX7_keptAt 38 = .ok (.idiv, 1) := by decide +kernel
theorem dX7_keptAt_39 : decode cX7_keptAt 39 = .ok (.goto 5, 3) := by decide +kernel
theorem dX7_keptAt_42 : decode cX7_keptAt 42 = .ok (.iload 4, 2) := by decide +kernel
theorem dX7_keptAt_44 : decode cX7_keptAt 44 = .ok (.invokestatic 122, 3) := by decide +kernel
theorem dX7_keptAt_47 : decode cX7_keptAt 47 = .ok (.ireturn, 1) := by decide +kernel
set_option maxRecDepth 100000 in
set_option maxHeartbeats 4000000 in
theorem g_X7_keptAt_44 (ids : List (Nat × Nat)) (Hn : Ndp ids)  (H0_29 : InR ids 0 29 56)  (w0 : Int32) (w1 : Int32) (t0 : Sg) : Gj kI mX7_keptAt ids 44 [none, none, none, none, none] [aI w0, aI w1] t0 (f_X7_keptAt_44 w0 w1 t0) := by
  unfold f_X7_keptAt_44
  refine G_bd (fun x7 t8 h9 => ?_)
  refine G_st (x_callS [] (c_X7_lesser ids Hn w1 w0  _ _ _ h9) dX7_keptAt_44 tw_1062 kc_X7_lesser rfl ⟨Nat.le_of_ble_eq_true rfl, Nat.le_of_ble_eq_true rfl⟩ (Nat.le_of_ble_eq_true rfl) rfl) ?_
  exact G_ret rfl ⟨dX7_keptAt_47, _, rfl, rfl⟩ rfl
set_option maxRecDepth 100000 in
set_option maxHeartbeats 4000000 in
theorem g_X7_keptAt (ids : List (Nat × Nat)) (Hn : Ndp ids) (v1 : Int32) (v2 : Int32) (v3 : Int32) (H0_29 : InR ids 0 29 56) (t0 : Sg) : Gj kI mX7_keptAt ids 0 [some (aR (0, 29)), some (aI v1), some (aI v2), some (aI v3), none] [] t0 (f_X7_keptAt v1 v2 v3 t0) := by
  unfold f_X7_keptAt
  refine G_st (x_aload_n dX7_keptAt_0 rfl) ?_
  refine G_st (x_get (k := 5) (aR (0, 30)) dX7_keptAt_1 (H0_29 29 (Nat.le_of_ble_eq_true rfl) (Nat.le_of_ble_eq_true rfl)) rfl rfl rfl rfl inTX7 (Nat.le_of_ble_eq_true rfl) tw_852 (fun ad => rfl)) ?_
  refine G_st (x_iload_n dX7_keptAt_4 rfl) ?_
  refine G_chk (fun c1 => ?_)
  refine G_st (x_iaload dX7_keptAt_5 (H0_29 30 (Nat.le_of_ble_eq_true rfl) (Nat.le_of_ble_eq_true rfl)) rfl c1) ?_
  refine G_st (x_aload_n dX7_keptAt_6 rfl) ?_
  refine G_st (x_get (k := 20) (aR (0, 44)) dX7_keptAt_7 (H0_29 29 (Nat.le_of_ble_eq_true rfl) (Nat.le_of_ble_eq_true rfl)) rfl rfl rfl rfl inTX7 (Nat.le_of_ble_eq_true rfl) tw_867 (fun ad => rfl)) ?_
  refine G_st (x_iload_n dX7_keptAt_10 rfl) ?_
  refine G_chk (fun c2 => ?_)
  refine G_st (x_iaload dX7_keptAt_11 (H0_29 44 (Nat.le_of_ble_eq_true rfl) (Nat.le_of_ble_eq_true rfl)) rfl c2) ?_
  refine G_st (x_isub dX7_keptAt_12) ?_
  refine G_bvI (fun x3 => ?_)
  refine G_st (x_istore [some (aR (0, 29)), some (aI v1), some (aI v2), some (aI v3), some (aI x3)] dX7_keptAt_13 (Nat.le_of_ble_eq_true rfl) rfl rfl) ?_
  refine G_st (x_iload_n dX7_keptAt_15 rfl) ?_
  refine G_st (x_iconst (3 : Int32) dX7_keptAt_16 rfl) ?_
  refine G_ite (fun c4 => ?_) (fun c4 => ?_)
  · refine G_st (x_icmp_eq_t (tgt := 25) dX7_keptAt_17 (by decide) c4) ?_
    refine G_st (x_iconst (0 : Int32) dX7_keptAt_25 rfl) ?_
    refine G_st (x_goto (tgt := 47) dX7_keptAt_26 (by decide)) ?_
    exact G_ret rfl ⟨dX7_keptAt_47, _, rfl, rfl⟩ rfl
  · refine G_st (x_icmp_eq_f 25 dX7_keptAt_17 (by decide) c4) ?_
    refine G_st (x_iload_n dX7_keptAt_20 rfl) ?_
    refine G_st (x_iconst (4 : Int32) dX7_keptAt_21 rfl) ?_
    refine G_ite (fun c5 => ?_) (fun c5 => ?_)
    · refine G_st (x_icmp_ne_f 29 dX7_keptAt_22 (by decide) c5) ?_
      refine G_st (x_iconst (0 : Int32) dX7_keptAt_25 rfl) ?_
      refine G_st (x_goto (tgt := 47) dX7_keptAt_26 (by decide)) ?_
      exact G_ret rfl ⟨dX7_keptAt_47, _, rfl, rfl⟩ rfl
    · refine G_st (x_icmp_ne_t (tgt := 29) dX7_keptAt_22 (by decide) c5) ?_
      refine G_st (x_iload_n dX7_keptAt_29 rfl) ?_
      refine G_st (x_iload_n dX7_keptAt_30 rfl) ?_
      refine G_st (x_iconst (5 : Int32) dX7_keptAt_31 rfl) ?_
      refine G_ite (fun c6 => ?_) (fun c6 => ?_)
      · refine G_st (x_icmp_ne_f 42 dX7_keptAt_32 (by decide) c6) ?_
        refine G_st (x_iload dX7_keptAt_35 rfl) ?_
        refine G_st (x_iconst (2 : Int32) dX7_keptAt_37 rfl) ?_
        refine G_st (x_idiv dX7_keptAt_38 (by decide)) ?_
        refine G_st (x_goto (tgt := 44) dX7_keptAt_39 (by decide)) ?_
        refine G_weak _ ?_ (g_X7_keptAt_44 ids Hn H0_29 (x3 / (2 : Int32)) v3 t0)
        exact (leL_n (leL_n (leL_n (leL_n (leL_n (leL_e _))))))
      · refine G_st (x_icmp_ne_t (tgt := 42) dX7_keptAt_32 (by decide) c6) ?_
        refine G_st (x_iload dX7_keptAt_42 rfl) ?_
        refine G_weak _ ?_ (g_X7_keptAt_44 ids Hn H0_29 x3 v3 t0)
        exact (leL_n (leL_n (leL_n (leL_n (leL_n (leL_e _))))))
set_option maxRecDepth 100000 in
set_option maxHeartbeats 4000000 in
theorem c_X7_keptAt (ids : List (Nat × Nat)) (Hn : Ndp ids) (v1 : Int32) (v2 : Int32) (v3 : Int32) (H0_29 : InR ids 0 29 56) (t0 : Sg) (r : Int32) (t1 : Sg) (hf : f_X7_keptAt v1 v2 v3 t0 = some (r, t1)) : Mt0 mX7_keptAt yX7_keptAt ids [aR (0, 29), aI v1, aI v2, aI v3] t0 (some (aI r)) t1 :=
  Mt_of (x := (r, t1)) (g_X7_keptAt ids Hn v1 v2 v3 H0_29 t0) hf (fun _ _ => trivial) (by decide) rfl Hn (fun _ => rfl) (fun _ => Nat.le_of_ble_eq_true rfl)
theorem dX7_fall_0 : decode cX7_fall 0 = .ok (.aload_n 0, 1) := by decide +kernel
theorem dX7_fall_1 : decode cX7_fall 1 = .ok (.getfield 47, 3) := by decide +kernel
theorem dX7_fall_4 : decode cX7_fall 4 = .ok (.iload_n 1, 1) := by decide +kernel
theorem dX7_fall_5 : decode cX7_fall 5 = .ok (.iaload, 1) := by decide +kernel
theorem dX7_fall_6 : decode cX7_fall 6 = .ok (.istore_n 2, 1) := by decide +kernel
theorem dX7_fall_7 : decode cX7_fall 7 = .ok (.aload_n 0, 1) := by decide +kernel
theorem dX7_fall_8 : decode cX7_fall 8 = .ok (.getfield 50, 3) := by decide +kernel
theorem dX7_fall_11 : decode cX7_fall 11 = .ok (.iload_n 1, 1) := by decide +kernel
theorem dX7_fall_12 : decode cX7_fall 12 = .ok (.iaload, 1) := by decide +kernel
theorem dX7_fall_13 : decode cX7_fall 13 = .ok (.istore_n 3, 1) := by decide +kernel
theorem dX7_fall_14 : decode cX7_fall 14 = .ok (.iload_n 3, 1) := by decide +kernel
theorem dX7_fall_15 : decode cX7_fall 15 = .ok (.ifCond .ne 7, 3) := by decide +kernel
theorem dX7_fall_18 : decode cX7_fall 18 = .ok (.iconst (-1), 1) := by decide +kernel
theorem dX7_fall_19 : decode cX7_fall 19 = .ok (.goto 19, 3) := by decide +kernel
theorem dX7_fall_22 : decode cX7_fall 22 = .ok (.aload_n 0, 1) := by decide +kernel
theorem dX7_fall_23 : decode cX7_fall 23 = .ok (.iload_n 2, 1) := by decide +kernel
theorem dX7_fall_24 : decode cX7_fall 24 = .ok (.aload_n 0, 1) := by decide +kernel
theorem dX7_fall_25 : decode cX7_fall 25 = .ok (.getfield 32, 3) := by decide +kernel
theorem dX7_fall_28 : decode cX7_fall 28 = .ok (.aload_n 0, 1) := by decide +kernel
theorem dX7_fall_29 : decode cX7_fall 29 = .ok (.getfield 44, 3) := by decide +kernel
theorem dX7_fall_32 : decode cX7_fall 32 = .ok (.iload_n 1, 1) := by decide +kernel
theorem dX7_fall_33 : decode cX7_fall 33 = .ok (.iaload, 1) := by decide +kernel
theorem dX7_fall_34 : decode cX7_fall 34 = .ok (.iaload, 1) := by decide +kernel
theorem dX7_fall_35 : decode cX7_fall 35 = .ok (.invokevirtual 129, 3) := by decide +kernel
theorem dX7_fall_38 : decode cX7_fall 38 = .ok (.istore 4, 2) := by decide +kernel
theorem dX7_fall_40 : decode cX7_fall 40 = .ok (.aload_n 0, 1) := by decide +kernel
theorem dX7_fall_41 : decode cX7_fall 41 = .ok (.iconst 0, 1) := by decide +kernel
theorem dX7_fall_42 : decode cX7_fall 42 = .ok (.putfield 132, 3) := by decide +kernel
theorem dX7_fall_45 : decode cX7_fall 45 = .ok (.iload 4, 2) := by decide +kernel
theorem dX7_fall_47 : decode cX7_fall 47 = .ok (.ifCond .lt 129, 3) := by decide +kernel
theorem dX7_fall_50 : decode cX7_fall 50 = .ok (.aload_n 0, 1) := by decide +kernel
theorem dX7_fall_51 : decode cX7_fall 51 = .ok (.iload 4, 2) := by decide +kernel
theorem dX7_fall_53 : decode cX7_fall 53 = .ok (.invokevirtual 135, 3) := by decide +kernel
theorem dX7_fall_56 : decode cX7_fall 56 = .ok (.istore 5, 2) := by decide +kernel
theorem dX7_fall_58 : decode cX7_fall 58 = .ok (.aload_n 0, 1) := by decide +kernel
theorem dX7_fall_59 : decode cX7_fall 59 = .ok (.iload_n 2, 1) := by decide +kernel
theorem dX7_fall_60 : decode cX7_fall 60 = .ok (.iload 4, 2) := by decide +kernel
theorem dX7_fall_62 : decode cX7_fall 62 = .ok (.aload_n 0, 1) := by decide +kernel
theorem dX7_fall_63 : decode cX7_fall 63 = .ok (.getfield 53, 3) := by decide +kernel
theorem dX7_fall_66 : decode cX7_fall 66 = .ok (.iload_n 1, 1) := by decide +kernel
theorem dX7_fall_67 : decode cX7_fall 67 = .ok (.iaload, 1) := by decide +kernel
theorem dX7_fall_68 : decode cX7_fall 68 = .ok (.iload_n 3, 1) := by decide +kernel
theorem dX7_fall_69 : decode cX7_fall 69 = .ok (.invokevirtual 139, 3) := by decide +kernel
theorem dX7_fall_72 : decode cX7_fall 72 = .ok (.istore 6, 2) := by decide +kernel
theorem dX7_fall_74 : decode cX7_fall 74 = .ok (.aload_n 0, 1) := by decide +kernel
theorem dX7_fall_75 : decode cX7_fall 75 = .ok (.iload_n 2, 1) := by decide +kernel
theorem dX7_fall_76 : decode cX7_fall 76 = .ok (.iload 4, 2) := by decide +kernel
theorem dX7_fall_78 : decode cX7_fall 78 = .ok (.iload_n 3, 1) := by decide +kernel
theorem dX7_fall_79 : decode cX7_fall 79 = .ok (.invokevirtual 143, 3) := by decide +kernel
theorem dX7_fall_82 : decode cX7_fall 82 = .ok (.istore 7, 2) := by decide +kernel
theorem dX7_fall_84 : decode cX7_fall 84 = .ok (.aload_n 0, 1) := by decide +kernel
theorem dX7_fall_85 : decode cX7_fall 85 = .ok (.getfield 68, 3) := by decide +kernel
theorem dX7_fall_88 : decode cX7_fall 88 = .ok (.aload_n 0, 1) := by decide +kernel
theorem dX7_fall_89 : decode cX7_fall 89 = .ok (.getfield 132, 3) := by decide +kernel
theorem dX7_fall_92 : decode cX7_fall 92 = .ok (.iload 4, 2) := by decide +kernel
theorem dX7_fall_94 : decode cX7_fall 94 = .ok (.iastore, 1) := by decide +kernel
theorem dX7_fall_95 : decode cX7_fall 95 = .ok (.aload_n 0, 1) := by decide +kernel
theorem dX7_fall_96 : decode cX7_fall 96 = .ok (.dup, 1) := by decide +kernel
theorem dX7_fall_97 : decode cX7_fall 97 = .ok (.getfield 132, 3) := by decide +kernel
theorem dX7_fall_100 : decode cX7_fall 100 = .ok (.iconst 1, 1) := by decide +kernel
theorem dX7_fall_101 : decode cX7_fall 101 = .ok (.iadd, 1) := by decide +kernel
theorem dX7_fall_102 : decode cX7_fall 102 = .ok (.putfield 132, 3) := by decide +kernel
theorem dX7_fall_105 : decode cX7_fall 105 = .ok (.aload_n 0, 1) := by decide +kernel
theorem dX7_fall_106 : decode cX7_fall 106 = .ok (.getfield 62, 3) := by decide +kernel
theorem dX7_fall_109 : decode cX7_fall 109 = .ok (.iload 5, 2) := by decide +kernel
theorem dX7_fall_111 : decode cX7_fall 111 = .ok (.dup2, 1) := by decide +kernel
theorem dX7_fall_112 : decode cX7_fall 112 = .ok (.iaload, 1) := by decide +kernel
theorem dX7_fall_113 : decode cX7_fall 113 = .ok (.iload 6, 2) := by decide +kernel
theorem dX7_fall_115 : decode cX7_fall 115 = .ok (.iadd, 1) := by decide +kernel
theorem dX7_fall_116 : decode cX7_fall 116 = .ok (.iastore, 1) := by decide +kernel
theorem dX7_fall_117 : decode cX7_fall 117 = .ok (.aload_n 0, 1) := by decide +kernel
theorem dX7_fall_118 : decode cX7_fall 118 = .ok (.getfield 65, 3) := by decide +kernel
theorem dX7_fall_121 : decode cX7_fall 121 = .ok (.bipush 24, 2) := by decide +kernel
theorem dX7_fall_123 : decode cX7_fall 123 = .ok (.iload 5, 2) := by decide +kernel
theorem dX7_fall_125 : decode cX7_fall 125 = .ok (.imul, 1) := by decide +kernel
theorem dX7_fall_126 : decode cX7_fall 126 = .ok (.aload_n 0, 1) := by decide +kernel
theorem dX7_fall_127 : decode cX7_fall 127 = .ok (.getfield 44, 3) := by decide +kernel
theorem dX7_fall_130 : decode cX7_fall 130 = .ok (.iload_n 1, 1) := by decide +kernel
theorem dX7_fall_131 : decode cX7_fall 131 = .ok (.iaload, 1) := by decide +kernel
theorem dX7_fall_132 : decode cX7_fall 132 = .ok (.iadd, 1) := by decide +kernel
theorem dX7_fall_133 : decode cX7_fall 133 = .ok (.dup2, 1) := by decide +kernel
theorem dX7_fall_134 : decode cX7_fall 134 = .ok (.iaload, 1) := by decide +kernel
theorem dX7_fall_135 : decode cX7_fall 135 = .ok (.iload 6, 2) := by decide +kernel
theorem dX7_fall_137 : decode cX7_fall 137 = .ok (.iadd, 1) := by decide +kernel
theorem dX7_fall_138 : decode cX7_fall 138 = .ok (.iastore, 1) := by decide +kernel
theorem dX7_fall_139 : decode cX7_fall 139 = .ok (.aload_n 0, 1) := by decide +kernel
theorem dX7_fall_140 : decode cX7_fall 140 = .ok (.getfield 59, 3) := by decide +kernel
theorem dX7_fall_143 : decode cX7_fall 143 = .ok (.iload 4, 2) := by decide +kernel
theorem dX7_fall_145 : decode cX7_fall 145 = .ok (.dup2, 1) := by decide +kernel
theorem dX7_fall_146 : decode cX7_fall 146 = .ok (.iaload, 1) := by decide +kernel
theorem dX7_fall_147 : decode cX7_fall 147 = .ok (.iload 7, 2) := by decide +kernel
theorem dX7_fall_149 : decode cX7_fall 149 = .ok (.iadd, 1) := by decide +kernel
theorem dX7_fall_150 : decode cX7_fall 150 = .ok (.iastore, 1) := by decide +kernel
theorem dX7_fall_151 : decode cX7_fall 151 = .ok (.iload_n 3, 1) := by decide +kernel
theorem dX7_fall_152 : decode cX7_fall 152 = .ok (.iload 7, 2) := by decide +kernel
theorem dX7_fall_154 : decode cX7_fall 154 = .ok (.isub, 1) := by decide +kernel
theorem dX7_fall_155 : decode cX7_fall 155 = .ok (.istore_n 3, 1) := by decide +kernel
theorem dX7_fall_156 : decode cX7_fall 156 = .ok (.iload_n 3, 1) := by decide +kernel
theorem dX7_fall_157 : decode cX7_fall 157 = .ok (.ifCond .ne 7, 3) := by decide +kernel
theorem dX7_fall_160 : decode cX7_fall 160 = .ok (.iconst (-1), 1) := by decide +kernel
theorem dX7_fall_161 : decode cX7_fall 161 = .ok (.goto 10, 3) := by decide +kernel
theorem dX7_fall_164 : decode cX7_fall 164 = .ok (.aload_n 0, 1) := by decide +kernel
theorem dX7_fall_165 : decode cX7_fall 165 = .ok (.iload_n 2, 1) := by decide +kernel
theorem dX7_fall_166 : decode cX7_fall 166 = .ok (.iload 4, 2) := by decide +kernel
theorem dX7_fall_168 : decode cX7_fall 168 = .ok (.invokevirtual 129, 3) := by decide +kernel
theorem dX7_fall_171 : decode cX7_fall 171 = .ok (.istore 4, 2) := by decide +kernel
theorem dX7_fall_173 : decode cX7_fall 173 = .ok (.goto (-128), 3) := by decide +kernel
theorem dX7_fall_176 : decode cX7_fall 176 = .ok (.return_, 1) := by decide +kernel
set_option maxRecDepth 100000 in
set_option maxHeartbeats 4000000 in
theorem g_X7_fall_171 (ids : List (Nat × Nat)) (Hn : Ndp ids)  (H0_29 : InR ids 0 29 56) (k45 : Int32 → Int32 → Int32 → Int32 → Sg → Option (Unit × Sg)) (hk45 : ∀ (v1 : Int32) (v2 : Int32) (v3 : Int32) (v4 : Int32) (t0 : Sg), Gj kV mX7_fall ids 45 [some (aR (0, 29)), some (aI v1), some (aI v2), some (aI v3), some (aI v4), none, none, none] [] t0 (k45 v1 v2 v3 v4 t0)) (v1 : Int32) (v2 : Int32) (v3 : Int32) (w0 : Int32) (t0 : Sg) : Gj kV mX7_fall ids 171 [some (aR (0, 29)), some (aI v1), some (aI v2), some (aI v3), none, none, none, none] [aI w0] t0 (f_X7_fall_171 k45 v1 v2 v3 w0 t0) := by
  unfold f_X7_fall_171
  refine G_st (x_istore [some (aR (0, 29)), some (aI v1), some (aI v2), some (aI v3), some (aI w0), none, none, none] dX7_fall_171 (Nat.le_of_ble_eq_true rfl) rfl rfl) ?_
  refine G_st (x_goto (tgt := 45) dX7_fall_173 (by decide)) ?_
  refine G_weak _ ?_ (hk45 v1 v2 v3 w0 t0)
  exact (leL_s (leL_s (leL_s (leL_s (leL_s (leL_n (leL_n (leL_n (leL_e _)))))))))
set_option maxRecDepth 100000 in
set_option maxHeartbeats 4000000 in
theorem g_X7_fall_45 (ids : List (Nat × Nat)) (Hn : Ndp ids)  (H0_29 : InR ids 0 29 56)  : ∀ (n : Nat) (v1 : Int32) (v2 : Int32) (v3 : Int32) (v4 : Int32) (t0 : Sg), Gj kV mX7_fall ids 45 [some (aR (0, 29)), some (aI v1), some (aI v2), some (aI v3), some (aI v4), none, none, none] [] t0 (f_X7_fall_45 n v1 v2 v3 v4 t0) := by
  intro n
  induction n with
  | zero => intro v1 v2 v3 v4 t0; exact G_none
  | succ n ih =>
    intro v1 v2 v3 v4 t0
    rw [f_X7_fall_45]
    refine G_st (x_iload dX7_fall_45 rfl) ?_
    refine G_ite (fun c7 => ?_) (fun c7 => ?_)
    · refine G_st (x_if_lt_t (tgt := 176) dX7_fall_47 (by decide) c7) ?_
      exact G_ret rfl ⟨rfl, dX7_fall_176⟩ rfl
    · refine G_st (x_if_lt_f 176 dX7_fall_47 (by decide) c7) ?_
      refine G_st (x_aload_n dX7_fall_50 rfl) ?_
      refine G_st (x_iload dX7_fall_51 rfl) ?_
      refine G_bd (fun x8 t9 h10 => ?_)
      refine G_st (x_callV [] (c_X7_livesIn ids Hn v4 H0_29 _ _ _ h10) dX7_fall_53 tw_1078 kc_X7_livesIn (H0_29 29 (Nat.le_of_ble_eq_true rfl) (Nat.le_of_ble_eq_true rfl)) rfl rfl rfl rfl ⟨Nat.le_of_ble_eq_true rfl, Nat.le_of_ble_eq_true rfl⟩ (Nat.le_of_ble_eq_true rfl) rfl) ?_
      refine G_st (x_istore [some (aR (0, 29)), some (aI v1), some (aI v2), some (aI v3), some (aI v4), some (aI x8), none, none] dX7_fall_56 (Nat.le_of_ble_eq_true rfl) rfl rfl) ?_
      refine G_st (x_aload_n dX7_fall_58 rfl) ?_
      refine G_st (x_iload_n dX7_fall_59 rfl) ?_
      refine G_st (x_iload dX7_fall_60 rfl) ?_
      refine G_st (x_aload_n dX7_fall_62 rfl) ?_
      refine G_st (x_get (k := 17) (aR (0, 42)) dX7_fall_63 (H0_29 29 (Nat.le_of_ble_eq_true rfl) (Nat.le_of_ble_eq_true rfl)) rfl rfl rfl rfl inTX7 (Nat.le_of_ble_eq_true rfl) tw_864 (fun ad => rfl)) ?_
      refine G_st (x_iload_n dX7_fall_66 rfl) ?_
      refine G_chk (fun c11 => ?_)
      refine G_st (x_iaload dX7_fall_67 (H0_29 42 (Nat.le_of_ble_eq_true rfl) (Nat.le_of_ble_eq_true rfl)) rfl c11) ?_
      refine G_st (x_iload_n dX7_fall_68 rfl) ?_
      refine G_bd (fun x12 t13 h14 => ?_)
      refine G_st (x_callV [] (c_X7_harmOf ids Hn v2 v4 (t9 (0, 42) (v1).toNatClampNeg) v3 H0_29 _ _ _ h14) dX7_fall_69 tw_1181 kc_X7_harmOf (H0_29 29 (Nat.le_of_ble_eq_true rfl) (Nat.le_of_ble_eq_true rfl)) rfl rfl rfl rfl ⟨Nat.le_of_ble_eq_true rfl, Nat.le_of_ble_eq_true rfl⟩ (Nat.le_of_ble_eq_true rfl) rfl) ?_
      refine G_st (x_istore [some (aR (0, 29)), some (aI v1), some (aI v2), some (aI v3), some (aI v4), some (aI x8), some (aI x12), none] dX7_fall_72 (Nat.le_of_ble_eq_true rfl) rfl rfl) ?_
      refine G_st (x_aload_n dX7_fall_74 rfl) ?_
      refine G_st (x_iload_n dX7_fall_75 rfl) ?_
      refine G_st (x_iload dX7_fall_76 rfl) ?_
      refine G_st (x_iload_n dX7_fall_78 rfl) ?_
      refine G_bd (fun x15 t16 h17 => ?_)
      refine G_st (x_callV [] (c_X7_keptAt ids Hn v2 v4 v3 H0_29 _ _ _ h17) dX7_fall_79 tw_1185 kc_X7_keptAt (H0_29 29 (Nat.le_of_ble_eq_true rfl) (Nat.le_of_ble_eq_true rfl)) rfl rfl rfl rfl ⟨Nat.le_of_ble_eq_true rfl, Nat.le_of_ble_eq_true rfl⟩ (Nat.le_of_ble_eq_true rfl) rfl) ?_
      refine G_st (x_istore [some (aR (0, 29)), some (aI v1), some (aI v2), some (aI v3), some (aI v4), some (aI x8), some (aI x12), some (aI x15)] dX7_fall_82 (Nat.le_of_ble_eq_true rfl) rfl rfl) ?_
      refine G_st (x_aload_n dX7_fall_84 rfl) ?_
      refine G_st (x_get (k := 23) (aR (0, 47)) dX7_fall_85 (H0_29 29 (Nat.le_of_ble_eq_true rfl) (Nat.le_of_ble_eq_true rfl)) rfl rfl rfl rfl inTX7 (Nat.le_of_ble_eq_true rfl) tw_870 (fun ad => rfl)) ?_
      refine G_st (x_aload_n dX7_fall_88 rfl) ?_
      refine G_st (x_get (k := 24) (aI (t16 (0, 29) 24)) dX7_fall_89 (H0_29 29 (Nat.le_of_ble_eq_true rfl) (Nat.le_of_ble_eq_true rfl)) rfl rfl rfl rfl inTX7 (Nat.le_of_ble_eq_true rfl) tw_871 (fun ad => rfl)) ?_
      refine G_st (x_iload dX7_fall_92 rfl) ?_
      refine G_chk (fun c18 => ?_)
      refine G_st (x_iastore dX7_fall_94 (H0_29 47 (Nat.le_of_ble_eq_true rfl) (Nat.le_of_ble_eq_true rfl)) rfl c18) ?_
      refine G_bvS (fun t19 => ?_)
      refine G_st (x_aload_n dX7_fall_95 rfl) ?_
      refine G_st (x_dup dX7_fall_96 rfl) ?_
      refine G_st (x_get (k := 24) (aI (t19 (0, 29) 24)) dX7_fall_97 (H0_29 29 (Nat.le_of_ble_eq_true rfl) (Nat.le_of_ble_eq_true rfl)) rfl rfl rfl rfl inTX7 (Nat.le_of_ble_eq_true rfl) tw_871 (fun ad => rfl)) ?_
      refine G_st (x_iconst (1 : Int32) dX7_fall_100 rfl) ?_
      refine G_st (x_iadd dX7_fall_101) ?_
      refine G_st (x_put (k := 24) (ty := .int) (v := aI ((t19 (0, 29) 24) + (1 : Int32))) (z := ((t19 (0, 29) 24) + (1 : Int32))) (upS t19 (0, 29) 24 ((t19 (0, 29) 24) + (1 : Int32))) dX7_fall_102 (H0_29 29 (Nat.le_of_ble_eq_true rfl) (Nat.le_of_ble_eq_true rfl)) rfl rfl rfl rfl inTX7 tyX7_ok nmX7 (Nat.le_of_ble_eq_true rfl) tw_871 rfl rfl (fun ad => rfl) (fun ad => rfl) (fun ad => put_i0 ad _ _ _ _ rfl) rfl) ?_
      refine G_bvS (fun t20 => ?_)
      refine G_st (x_aload_n dX7_fall_105 rfl) ?_
      refine G_st (x_get (k := 21) (aR (0, 45)) dX7_fall_106 (H0_29 29 (Nat.le_of_ble_eq_true rfl) (Nat.le_of_ble_eq_true rfl)) rfl rfl rfl rfl inTX7 (Nat.le_of_ble_eq_true rfl) tw_868 (fun ad => rfl)) ?_
      refine G_st (x_iload dX7_fall_109 rfl) ?_
      refine G_st (x_dup2 dX7_fall_111 rfl rfl) ?_
      refine G_chk (fun c21 => ?_)
      refine G_st (x_iaload dX7_fall_112 (H0_29 45 (Nat.le_of_ble_eq_true rfl) (Nat.le_of_ble_eq_true rfl)) rfl c21) ?_
      refine G_st (x_iload dX7_fall_113 rfl) ?_
      refine G_st (x_iadd dX7_fall_115) ?_
      refine G_chk (fun c22 => ?_)
      refine G_st (x_iastore dX7_fall_116 (H0_29 45 (Nat.le_of_ble_eq_true rfl) (Nat.le_of_ble_eq_true rfl)) rfl c22) ?_
      refine G_bvS (fun t23 => ?_)
      refine G_st (x_aload_n dX7_fall_117 rfl) ?_
      refine G_st (x_get (k := 22) (aR (0, 46)) dX7_fall_118 (H0_29 29 (Nat.le_of_ble_eq_true rfl) (Nat.le_of_ble_eq_true rfl)) rfl rfl rfl rfl inTX7 (Nat.le_of_ble_eq_true rfl) tw_869 (fun ad => rfl)) ?_
      refine G_st (x_bipush (24 : Int32) dX7_fall_121 rfl) ?_
      refine G_st (x_iload dX7_fall_123 rfl) ?_
      refine G_st (x_imul dX7_fall_125) ?_
      refine G_st (x_aload_n dX7_fall_126 rfl) ?_
      refine G_st (x_get (k := 14) (aR (0, 39)) dX7_fall_127 (H0_29 29 (Nat.le_of_ble_eq_true rfl) (Nat.le_of_ble_eq_true rfl)) rfl rfl rfl rfl inTX7 (Nat.le_of_ble_eq_true rfl) tw_861 (fun ad => rfl)) ?_
      refine G_st (x_iload_n dX7_fall_130 rfl) ?_
      refine G_chk (fun c24 => ?_)
      refine G_st (x_iaload dX7_fall_131 (H0_29 39 (Nat.le_of_ble_eq_true rfl) (Nat.le_of_ble_eq_true rfl)) rfl c24) ?_
      refine G_st (x_iadd dX7_fall_132) ?_
      refine G_st (x_dup2 dX7_fall_133 rfl rfl) ?_
      refine G_chk (fun c25 => ?_)
      refine G_st (x_iaload dX7_fall_134 (H0_29 46 (Nat.le_of_ble_eq_true rfl) (Nat.le_of_ble_eq_true rfl)) rfl c25) ?_
      refine G_st (x_iload dX7_fall_135 rfl) ?_
      refine G_st (x_iadd dX7_fall_137) ?_
      refine G_chk (fun c26 => ?_)
      refine G_st (x_iastore dX7_fall_138 (H0_29 46 (Nat.le_of_ble_eq_true rfl) (Nat.le_of_ble_eq_true rfl)) rfl c26) ?_
      refine G_bvS (fun t27 => ?_)
      refine G_st (x_aload_n dX7_fall_139 rfl) ?_
      refine G_st (x_get (k := 20) (aR (0, 44)) dX7_fall_140 (H0_29 29 (Nat.le_of_ble_eq_true rfl) (Nat.le_of_ble_eq_true rfl)) rfl rfl rfl rfl inTX7 (Nat.le_of_ble_eq_true rfl) tw_867 (fun ad => rfl)) ?_
      refine G_st (x_iload dX7_fall_143 rfl) ?_
      refine G_st (x_dup2 dX7_fall_145 rfl rfl) ?_
      refine G_chk (fun c28 => ?_)
      refine G_st (x_iaload dX7_fall_146 (H0_29 44 (Nat.le_of_ble_eq_true rfl) (Nat.le_of_ble_eq_true rfl)) rfl c28) ?_
      refine G_st (x_iload dX7_fall_147 rfl) ?_
      refine G_st (x_iadd dX7_fall_149) ?_
      refine G_chk (fun c29 => ?_)
      refine G_st (x_iastore dX7_fall_150 (H0_29 44 (Nat.le_of_ble_eq_true rfl) (Nat.le_of_ble_eq_true rfl)) rfl c29) ?_
      refine G_bvS (fun t30 => ?_)
      refine G_st (x_iload_n dX7_fall_151 rfl) ?_
      refine G_st (x_iload dX7_fall_152 rfl) ?_
      refine G_st (x_isub dX7_fall_154) ?_
      refine G_bvI (fun x31 => ?_)
      refine G_st (x_istore_n [some (aR (0, 29)), some (aI v1), some (aI v2), some (aI x31), some (aI v4), some (aI x8), some (aI x12), some (aI x15)] dX7_fall_155 (Nat.le_of_ble_eq_true rfl) rfl rfl) ?_
      refine G_st (x_iload_n dX7_fall_156 rfl) ?_
      refine G_ite (fun c32 => ?_) (fun c32 => ?_)
      · refine G_st (x_if_ne_f 164 dX7_fall_157 (by decide) c32) ?_
        refine G_st (x_iconst (-1 : Int32) dX7_fall_160 rfl) ?_
        refine G_st (x_goto (tgt := 171) dX7_fall_161 (by decide)) ?_
        refine G_weak _ ?_ (g_X7_fall_171 ids Hn H0_29 (f_X7_fall_45 n) (ih) v1 v2 x31 (-1 : Int32) t30)
        exact (leL_s (leL_s (leL_s (leL_s (leL_n (leL_n (leL_n (leL_n (leL_e _)))))))))
      · refine G_st (x_if_ne_t (tgt := 164) dX7_fall_157 (by decide) c32) ?_
        refine G_st (x_aload_n dX7_fall_164 rfl) ?_
        refine G_st (x_iload_n dX7_fall_165 rfl) ?_
        refine G_st (x_iload dX7_fall_166 rfl) ?_
        refine G_bd (fun x33 t34 h35 => ?_)
        refine G_st (x_callV [] (c_X7_nextOf ids Hn v2 v4 H0_29 _ _ _ h35) dX7_fall_168 tw_1177 kc_X7_nextOf (H0_29 29 (Nat.le_of_ble_eq_true rfl) (Nat.le_of_ble_eq_true rfl)) rfl rfl rfl rfl ⟨Nat.le_of_ble_eq_true rfl, Nat.le_of_ble_eq_true rfl⟩ (Nat.le_of_ble_eq_true rfl) rfl) ?_
        refine G_weak _ ?_ (g_X7_fall_171 ids Hn H0_29 (f_X7_fall_45 n) (ih) v1 v2 x31 x33 t34)
        exact (leL_s (leL_s (leL_s (leL_s (leL_n (leL_n (leL_n (leL_n (leL_e _)))))))))
set_option maxRecDepth 100000 in
set_option maxHeartbeats 4000000 in
theorem g_X7_fall_38 (ids : List (Nat × Nat)) (Hn : Ndp ids)  (H0_29 : InR ids 0 29 56)  (v1 : Int32) (v2 : Int32) (v3 : Int32) (w0 : Int32) (t0 : Sg) : Gj kV mX7_fall ids 38 [some (aR (0, 29)), some (aI v1), some (aI v2), some (aI v3), none, none, none, none] [aI w0] t0 (f_X7_fall_38 v1 v2 v3 w0 t0) := by
  unfold f_X7_fall_38
  refine G_st (x_istore [some (aR (0, 29)), some (aI v1), some (aI v2), some (aI v3), some (aI w0), none, none, none] dX7_fall_38 (Nat.le_of_ble_eq_true rfl) rfl rfl) ?_
  refine G_st (x_aload_n dX7_fall_40 rfl) ?_
  refine G_st (x_iconst (0 : Int32) dX7_fall_41 rfl) ?_
  refine G_st (x_put (k := 24) (ty := .int) (v := aI (0 : Int32)) (z := (0 : Int32)) (upS t0 (0, 29) 24 (0 : Int32)) dX7_fall_42 (H0_29 29 (Nat.le_of_ble_eq_true rfl) (Nat.le_of_ble_eq_true rfl)) rfl rfl rfl rfl inTX7 tyX7_ok nmX7 (Nat.le_of_ble_eq_true rfl) tw_871 rfl rfl (fun ad => rfl) (fun ad => rfl) (fun ad => put_i0 ad _ _ _ _ rfl) rfl) ?_
  refine G_bvS (fun t6 => ?_)
  refine G_weak _ ?_ (g_X7_fall_45 ids Hn H0_29 fuel v1 v2 v3 w0 t6)
  exact (leL_s (leL_s (leL_s (leL_s (leL_s (leL_n (leL_n (leL_n (leL_e _)))))))))
set_option maxRecDepth 100000 in
set_option maxHeartbeats 4000000 in
theorem g_X7_fall (ids : List (Nat × Nat)) (Hn : Ndp ids) (v1 : Int32) (H0_29 : InR ids 0 29 56) (t0 : Sg) : Gj kV mX7_fall ids 0 [some (aR (0, 29)), some (aI v1), none, none, none, none, none, none] [] t0 (f_X7_fall v1 t0) := by
  unfold f_X7_fall
  refine G_st (x_aload_n dX7_fall_0 rfl) ?_
  refine G_st (x_get (k := 15) (aR (0, 40)) dX7_fall_1 (H0_29 29 (Nat.le_of_ble_eq_true rfl) (Nat.le_of_ble_eq_true rfl)) rfl rfl rfl rfl inTX7 (Nat.le_of_ble_eq_true rfl) tw_862 (fun ad => rfl)) ?_
  refine G_st (x_iload_n dX7_fall_4 rfl) ?_
  refine G_chk (fun c1 => ?_)
  refine G_st (x_iaload dX7_fall_5 (H0_29 40 (Nat.le_of_ble_eq_true rfl) (Nat.le_of_ble_eq_true rfl)) rfl c1) ?_
  refine G_bvI (fun x2 => ?_)
  refine G_st (x_istore_n [some (aR (0, 29)), some (aI v1), some (aI x2), none, none, none, none, none] dX7_fall_6 (Nat.le_of_ble_eq_true rfl) rfl rfl) ?_
  refine G_st (x_aload_n dX7_fall_7 rfl) ?_
  refine G_st (x_get (k := 16) (aR (0, 41)) dX7_fall_8 (H0_29 29 (Nat.le_of_ble_eq_true rfl) (Nat.le_of_ble_eq_true rfl)) rfl rfl rfl rfl inTX7 (Nat.le_of_ble_eq_true rfl) tw_863 (fun ad => rfl)) ?_
  refine G_st (x_iload_n dX7_fall_11 rfl) ?_
  refine G_chk (fun c3 => ?_)
  refine G_st (x_iaload dX7_fall_12 (H0_29 41 (Nat.le_of_ble_eq_true rfl) (Nat.le_of_ble_eq_true rfl)) rfl c3) ?_
  refine G_bvI (fun x4 => ?_)
  refine G_st (x_istore_n [some (aR (0, 29)), some (aI v1), some (aI x2), some (aI x4), none, none, none, none] dX7_fall_13 (Nat.le_of_ble_eq_true rfl) rfl rfl) ?_
  refine G_st (x_iload_n dX7_fall_14 rfl) ?_
  refine G_ite (fun c5 => ?_) (fun c5 => ?_)
  · refine G_st (x_if_ne_f 22 dX7_fall_15 (by decide) c5) ?_
    refine G_st (x_iconst (-1 : Int32) dX7_fall_18 rfl) ?_
    refine G_st (x_goto (tgt := 38) dX7_fall_19 (by decide)) ?_
    refine G_weak _ ?_ (g_X7_fall_38 ids Hn H0_29 v1 x2 x4 (-1 : Int32) t0)
    exact (leL_s (leL_s (leL_s (leL_s (leL_n (leL_n (leL_n (leL_n (leL_e _)))))))))
  · refine G_st (x_if_ne_t (tgt := 22) dX7_fall_15 (by decide) c5) ?_
    refine G_st (x_aload_n dX7_fall_22 rfl) ?_
    refine G_st (x_iload_n dX7_fall_23 rfl) ?_
    refine G_st (x_aload_n dX7_fall_24 rfl) ?_
    refine G_st (x_get (k := 10) (aR (0, 35)) dX7_fall_25 (H0_29 29 (Nat.le_of_ble_eq_true rfl) (Nat.le_of_ble_eq_true rfl)) rfl rfl rfl rfl inTX7 (Nat.le_of_ble_eq_true rfl) tw_857 (fun ad => rfl)) ?_
    refine G_st (x_aload_n dX7_fall_28 rfl) ?_
    refine G_st (x_get (k := 14) (aR (0, 39)) dX7_fall_29 (H0_29 29 (Nat.le_of_ble_eq_true rfl) (Nat.le_of_ble_eq_true rfl)) rfl rfl rfl rfl inTX7 (Nat.le_of_ble_eq_true rfl) tw_861 (fun ad => rfl)) ?_
    refine G_st (x_iload_n dX7_fall_32 rfl) ?_
    refine G_chk (fun c36 => ?_)
    refine G_st (x_iaload dX7_fall_33 (H0_29 39 (Nat.le_of_ble_eq_true rfl) (Nat.le_of_ble_eq_true rfl)) rfl c36) ?_
    refine G_chk (fun c37 => ?_)
    refine G_st (x_iaload dX7_fall_34 (H0_29 35 (Nat.le_of_ble_eq_true rfl) (Nat.le_of_ble_eq_true rfl)) rfl c37) ?_
    refine G_bd (fun x38 t39 h40 => ?_)
    refine G_st (x_callV [] (c_X7_nextOf ids Hn x2 (t0 (0, 35) ((t0 (0, 39) (v1).toNatClampNeg)).toNatClampNeg) H0_29 _ _ _ h40) dX7_fall_35 tw_1177 kc_X7_nextOf (H0_29 29 (Nat.le_of_ble_eq_true rfl) (Nat.le_of_ble_eq_true rfl)) rfl rfl rfl rfl ⟨Nat.le_of_ble_eq_true rfl, Nat.le_of_ble_eq_true rfl⟩ (Nat.le_of_ble_eq_true rfl) rfl) ?_
    refine G_weak _ ?_ (g_X7_fall_38 ids Hn H0_29 v1 x2 x4 x38 t39)
    exact (leL_s (leL_s (leL_s (leL_s (leL_n (leL_n (leL_n (leL_n (leL_e _)))))))))
set_option maxRecDepth 100000 in
set_option maxHeartbeats 4000000 in
theorem c_X7_fall (ids : List (Nat × Nat)) (Hn : Ndp ids) (v1 : Int32) (H0_29 : InR ids 0 29 56) (t0 : Sg) (r : Unit) (t1 : Sg) (hf : f_X7_fall v1 t0 = some (r, t1)) : Mt0 mX7_fall yX7_fall ids [aR (0, 29), aI v1] t0 none t1 :=
  Mt_of (x := (r, t1)) (g_X7_fall ids Hn v1 H0_29 t0) hf (fun _ _ => trivial) (by decide) rfl Hn (fun _ => rfl) (fun _ => Nat.le_of_ble_eq_true rfl)
theorem dX7_sumHarm_0 : decode cX7_sumHarm 0 = .ok (.iconst 0, 1) := by decide +kernel
theorem dX7_sumHarm_1 : decode cX7_sumHarm 1 = .ok (.istore_n 1, 1) := by decide +kernel
theorem dX7_sumHarm_2 : decode cX7_sumHarm 2 = .ok (.iconst 0, 1) := by decide +kernel
theorem dX7_sumHarm_3 : decode cX7_sumHarm 3 = .ok (.istore_n 2, 1) := by decide +kernel
theorem dX7_sumHarm_4 : decode cX7_sumHarm 4 = .ok (.iload_n 2, 1) := by decide +kernel
theorem dX7_sumHarm_5 : decode cX7_sumHarm 5 = .ok (.aload_n 0, 1) := by decide +kernel
theorem dX7_sumHarm_6 : decode cX7_sumHarm 6 = .ok (.invokevirtual 107, 3) := by decide +kernel
theorem dX7_sumHarm_9 : decode cX7_sumHarm 9 = .ok (.if_icmp .ge 18, 3) := by decide +kernel
theorem dX7_sumHarm_12 : decode cX7_sumHarm 12 = .ok (.iload_n 1, 1) := by decide +kernel
theorem dX7_sumHarm_13 : decode cX7_sumHarm 13 = .ok (.aload_n 0, 1) := by decide +kernel
theorem dX7_sumHarm_14 : decode cX7_sumHarm 14 = .ok (.getfield 62, 3) := by decide +kernel
theorem dX7_sumHarm_17 : decode cX7_sumHarm 17 = .ok (.iload_n 2, 1) := by decide +kernel
theorem dX7_sumHarm_18 : decode cX7_sumHarm 18 = .ok (.iaload, 1) := by decide +kernel
theorem dX7_sumHarm_19 : decode cX7_sumHarm 19 = .ok (.iadd, 1) := by decide +kernel
theorem dX7_sumHarm_20 : decode cX7_sumHarm 20 = .ok (.istore_n 1, 1) := by decide +kernel
theorem dX7_sumHarm_21 : decode cX7_sumHarm 21 = .ok (.iinc 2 1, 3) := by decide +kernel
theorem dX7_sumHarm_24 : decode cX7_sumHarm 24 = .ok (.goto (-20), 3) := by decide +kernel
theorem dX7_sumHarm_27 : decode cX7_sumHarm 27 = .ok (.iload_n 1, 1) := by decide +kernel
theorem dX7_sumHarm_28 : decode cX7_sumHarm 28 = .ok (.ireturn, 1) := by decide +kernel
set_option maxRecDepth 100000 in
set_option maxHeartbeats 4000000 in
theorem g_X7_sumHarm_4 (ids : List (Nat × Nat)) (Hn : Ndp ids)  (H0_29 : InR ids 0 29 56)  : ∀ (n : Nat) (v1 : Int32) (v2 : Int32) (t0 : Sg), Gj kI mX7_sumHarm ids 4 [some (aR (0, 29)), some (aI v1), some (aI v2)] [] t0 (f_X7_sumHarm_4 n v1 v2 t0) := by
  intro n
  induction n with
  | zero => intro v1 v2 t0; exact G_none
  | succ n ih =>
    intro v1 v2 t0
    rw [f_X7_sumHarm_4]
    refine G_st (x_iload_n dX7_sumHarm_4 rfl) ?_
    refine G_st (x_aload_n dX7_sumHarm_5 rfl) ?_
    refine G_bd (fun x1 t2 h3 => ?_)
    refine G_st (x_callV [aI v2] (c_X7_tenants ids Hn  H0_29 _ _ _ h3) dX7_sumHarm_6 tw_1046 kc_X7_tenants (H0_29 29 (Nat.le_of_ble_eq_true rfl) (Nat.le_of_ble_eq_true rfl)) rfl rfl rfl rfl ⟨Nat.le_of_ble_eq_true rfl, Nat.le_of_ble_eq_true rfl⟩ (Nat.le_of_ble_eq_true rfl) rfl) ?_
    refine G_ite (fun c4 => ?_) (fun c4 => ?_)
    · refine G_st (x_icmp_ge_t (tgt := 27) dX7_sumHarm_9 (by decide) c4) ?_
      refine G_st (x_iload_n dX7_sumHarm_27 rfl) ?_
      exact G_ret rfl ⟨dX7_sumHarm_28, _, rfl, rfl⟩ rfl
    · refine G_st (x_icmp_ge_f 27 dX7_sumHarm_9 (by decide) c4) ?_
      refine G_st (x_iload_n dX7_sumHarm_12 rfl) ?_
      refine G_st (x_aload_n dX7_sumHarm_13 rfl) ?_
      refine G_st (x_get (k := 21) (aR (0, 45)) dX7_sumHarm_14 (H0_29 29 (Nat.le_of_ble_eq_true rfl) (Nat.le_of_ble_eq_true rfl)) rfl rfl rfl rfl inTX7 (Nat.le_of_ble_eq_true rfl) tw_868 (fun ad => rfl)) ?_
      refine G_st (x_iload_n dX7_sumHarm_17 rfl) ?_
      refine G_chk (fun c5 => ?_)
      refine G_st (x_iaload dX7_sumHarm_18 (H0_29 45 (Nat.le_of_ble_eq_true rfl) (Nat.le_of_ble_eq_true rfl)) rfl c5) ?_
      refine G_st (x_iadd dX7_sumHarm_19) ?_
      refine G_bvI (fun x6 => ?_)
      refine G_st (x_istore_n [some (aR (0, 29)), some (aI x6), some (aI v2)] dX7_sumHarm_20 (Nat.le_of_ble_eq_true rfl) rfl rfl) ?_
      refine G_st (x_iinc (v2 + (1 : Int32)) [some (aR (0, 29)), some (aI x6), some (aI (v2 + (1 : Int32)))] dX7_sumHarm_21 (Nat.le_of_ble_eq_true rfl) rfl rfl rfl rfl) ?_
      refine G_st (x_goto (tgt := 4) dX7_sumHarm_24 (by decide)) ?_
      refine G_weak _ ?_ ((ih) x6 (v2 + (1 : Int32)) t2)
      exact (leL_s (leL_s (leL_s (leL_e _))))
set_option maxRecDepth 100000 in
set_option maxHeartbeats 4000000 in
theorem g_X7_sumHarm (ids : List (Nat × Nat)) (Hn : Ndp ids)  (H0_29 : InR ids 0 29 56) (t0 : Sg) : Gj kI mX7_sumHarm ids 0 [some (aR (0, 29)), none, none] [] t0 (f_X7_sumHarm t0) := by
  unfold f_X7_sumHarm
  refine G_st (x_iconst (0 : Int32) dX7_sumHarm_0 rfl) ?_
  refine G_st (x_istore_n [some (aR (0, 29)), some (aI (0 : Int32)), none] dX7_sumHarm_1 (Nat.le_of_ble_eq_true rfl) rfl rfl) ?_
  refine G_st (x_iconst (0 : Int32) dX7_sumHarm_2 rfl) ?_
  refine G_st (x_istore_n [some (aR (0, 29)), some (aI (0 : Int32)), some (aI (0 : Int32))] dX7_sumHarm_3 (Nat.le_of_ble_eq_true rfl) rfl rfl) ?_
  refine G_weak _ ?_ (g_X7_sumHarm_4 ids Hn H0_29 fuel (0 : Int32) (0 : Int32) t0)
  exact (leL_s (leL_s (leL_s (leL_e _))))
set_option maxRecDepth 100000 in
set_option maxHeartbeats 4000000 in
theorem c_X7_sumHarm (ids : List (Nat × Nat)) (Hn : Ndp ids)  (H0_29 : InR ids 0 29 56) (t0 : Sg) (r : Int32) (t1 : Sg) (hf : f_X7_sumHarm t0 = some (r, t1)) : Mt0 mX7_sumHarm yX7_sumHarm ids [aR (0, 29)] t0 (some (aI r)) t1 :=
  Mt_of (x := (r, t1)) (g_X7_sumHarm ids Hn  H0_29 t0) hf (fun _ _ => trivial) (by decide) rfl Hn (fun _ => rfl) (fun _ => Nat.le_of_ble_eq_true rfl)
theorem dX7_weekOn_0 : decode cX7_weekOn 0 = .ok (.aload_n 0, 1) := by decide +kernel
theorem dX7_weekOn_1 : decode cX7_weekOn 1 = .ok (.invokevirtual 126, 3) := by decide +kernel
theorem dX7_weekOn_4 : decode cX7_weekOn 4 = .ok (.iconst 0, 1) := by decide +kernel
theorem dX7_weekOn_5 : decode cX7_weekOn 5 = .ok (.istore_n 1, 1) := by decide +kernel
theorem dX7_weekOn_6 : decode cX7_weekOn 6 = .ok (.iload_n 1, 1) := by decide +kernel
theorem dX7_weekOn_7 : decode cX7_weekOn 7 = .ok (.bipush 8, 2) := by decide +kernel
theorem dX7_weekOn_9 : decode cX7_weekOn 9 = .ok (.if_icmp .ge 40, 3) := by decide +kernel
theorem dX7_weekOn_12 : decode cX7_weekOn 12 = .ok (.iconst 0, 1) := by decide +kernel
theorem dX7_weekOn_13 : decode cX7_weekOn 13 = .ok (.istore_n 2, 1) := by decide +kernel
theorem dX7_weekOn_14 : decode cX7_weekOn 14 = .ok (.iload_n 2, 1) := by decide +kernel
theorem dX7_weekOn_15 : decode cX7_weekOn 15 = .ok (.aload_n 0, 1) := by decide +kernel
theorem dX7_weekOn_16 : decode cX7_weekOn 16 = .ok (.getfield 104, 3) := by decide +kernel
theorem dX7_weekOn_19 : decode cX7_weekOn 19 = .ok (.if_icmp .ge 24, 3) := by decide +kernel
theorem dX7_weekOn_22 : decode cX7_weekOn 22 = .ok (.aload_n 0, 1) := by decide +kernel
theorem dX7_weekOn_23 : decode cX7_weekOn 23 = .ok (.getfield 53, 3) := by decide +kernel
theorem dX7_weekOn_26 : decode cX7_weekOn 26 = .ok (.iload_n 2, 1) := by decide +kernel
theorem dX7_weekOn_27 : decode cX7_weekOn 27 = .ok (.iaload, 1) := by decide +kernel
theorem dX7_weekOn_28 : decode cX7_weekOn 28 = .ok (.iload_n 1, 1) := by decide +kernel
theorem dX7_weekOn_29 : decode cX7_weekOn 29 = .ok (.if_icmp .ne 8, 3) := by decide +kernel
theorem dX7_weekOn_32 : decode cX7_weekOn 32 = .ok (.aload_n 0, 1) := by decide +kernel
theorem dX7_weekOn_33 : decode cX7_weekOn 33 = .ok (.iload_n 2, 1) := by decide +kernel
theorem dX7_weekOn_34 : decode cX7_weekOn 34 = .ok (.invokevirtual 147, 3) := by decide +kernel
theorem dX7_weekOn_37 : decode cX7_weekOn 37 = .ok (.iinc 2 1, 3) := by decide +kernel
theorem dX7_weekOn_40 : decode cX7_weekOn 40 = .ok (.goto (-26), 3) := by decide +kernel
theorem dX7_weekOn_43 : decode cX7_weekOn 43 = .ok (.iinc 1 1, 3) := by decide +kernel
theorem dX7_weekOn_46 : decode cX7_weekOn 46 = .ok (.goto (-40), 3) := by decide +kernel
theorem dX7_weekOn_49 : decode cX7_weekOn 49 = .ok (.iconst 0, 1) := by decide +kernel
theorem dX7_weekOn_50 : decode cX7_weekOn 50 = .ok (.istore_n 1, 1) := by decide +kernel
theorem dX7_weekOn_51 : decode cX7_weekOn 51 = .ok (.iload_n 1, 1) := by decide +kernel
theorem dX7_weekOn_52 : decode cX7_weekOn 52 = .ok (.bipush 24, 2) := by decide +kernel
theorem dX7_weekOn_54 : decode cX7_weekOn 54 = .ok (.if_icmp .ge 32, 3) := by decide +kernel
theorem dX7_weekOn_57 : decode cX7_weekOn 57 = .ok (.aload_n 0, 1) := by decide +kernel
theorem dX7_weekOn_58 : decode cX7_weekOn 58 = .ok (.getfield 59, 3) := by decide +kernel
theorem dX7_weekOn_61 : decode cX7_weekOn 61 = .ok (.iload_n 1, 1) := by decide +kernel
theorem dX7_weekOn_62 : decode cX7_weekOn 62 = .ok (.dup2, 1) := by decide +kernel
theorem dX7_weekOn_63 : decode cX7_weekOn 63 = .ok (.iaload, 1) := by decide +kernel
theorem dX7_weekOn_64 : decode cX7_weekOn 64 = .ok (.aload_n 0, 1) := by decide +kernel
theorem dX7_weekOn_65 : decode cX7_weekOn 65 = .ok (.getfield 59, 3) := by decide +kernel
theorem dX7_weekOn_68 : decode cX7_weekOn 68 = .ok (.iload_n 1, 1) := by decide +kernel
theorem dX7_weekOn_69 : decode cX7_weekOn 69 = .ok (.iaload, 1) := by decide +kernel
theorem dX7_weekOn_70 : decode cX7_weekOn 70 = .ok (.ifCond .le 7, 3) := by decide +kernel
theorem dX7_weekOn_73 : decode cX7_weekOn 73 = .ok (.iconst 1, 1) := by decide +kernel
theorem dX7_weekOn_74 : decode cX7_weekOn 74 = .ok (.goto 4, 3) := by decide +kernel
theorem dX7_weekOn_77 : decode cX7_weekOn 77 = .ok (.iconst 0, 1) := by decide +kernel
theorem dX7_weekOn_78 : decode cX7_weekOn 78 = .ok (.isub, 1) := by decide +kernel
theorem dX7_weekOn_79 : decode cX7_weekOn 79 = .ok (.iastore, 1) := by decide +kernel
theorem dX7_weekOn_80 : decode cX7_weekOn 80 = .ok (.iinc 1 1, 3) := by decide +kernel
theorem dX7_weekOn_83 : decode cX7_weekOn 83 = .ok (.goto (-32), 3) := by decide +kernel
theorem dX7_weekOn_86 : decode cX7_weekOn 86 = .ok (.aload_n 0, 1) := by decide +kernel
theorem dX7_weekOn_87 : decode cX7_weekOn 87 = .ok (.invokevirtual 151, 3) := by decide +kernel
theorem dX7_weekOn_90 : decode cX7_weekOn 90 = .ok (.ireturn, 1) := by decide +kernel
set_option maxRecDepth 100000 in
set_option maxHeartbeats 4000000 in
theorem g_X7_weekOn_51 (ids : List (Nat × Nat)) (Hn : Ndp ids)  (H0_29 : InR ids 0 29 56)  : ∀ (n : Nat) (v1 : Int32) (t0 : Sg), Gj kI mX7_weekOn ids 51 [some (aR (0, 29)), some (aI v1), none] [] t0 (f_X7_weekOn_51 n v1 t0) := by
  intro n
  induction n with
  | zero => intro v1 t0; exact G_none
  | succ n ih =>
    intro v1 t0
    rw [f_X7_weekOn_51]
    refine G_st (x_iload_n dX7_weekOn_51 rfl) ?_
    refine G_st (x_bipush (24 : Int32) dX7_weekOn_52 rfl) ?_
    refine G_ite (fun c5 => ?_) (fun c5 => ?_)
    · refine G_st (x_icmp_ge_t (tgt := 86) dX7_weekOn_54 (by decide) c5) ?_
      refine G_st (x_aload_n dX7_weekOn_86 rfl) ?_
      refine G_bd (fun x6 t7 h8 => ?_)
      refine G_st (x_callV [] (c_X7_sumHarm ids Hn  H0_29 _ _ _ h8) dX7_weekOn_87 tw_1189 kc_X7_sumHarm (H0_29 29 (Nat.le_of_ble_eq_true rfl) (Nat.le_of_ble_eq_true rfl)) rfl rfl rfl rfl ⟨Nat.le_of_ble_eq_true rfl, Nat.le_of_ble_eq_true rfl⟩ (Nat.le_of_ble_eq_true rfl) rfl) ?_
      exact G_ret rfl ⟨dX7_weekOn_90, _, rfl, rfl⟩ rfl
    · refine G_st (x_icmp_ge_f 86 dX7_weekOn_54 (by decide) c5) ?_
      refine G_st (x_aload_n dX7_weekOn_57 rfl) ?_
      refine G_st (x_get (k := 20) (aR (0, 44)) dX7_weekOn_58 (H0_29 29 (Nat.le_of_ble_eq_true rfl) (Nat.le_of_ble_eq_true rfl)) rfl rfl rfl rfl inTX7 (Nat.le_of_ble_eq_true rfl) tw_867 (fun ad => rfl)) ?_
      refine G_st (x_iload_n dX7_weekOn_61 rfl) ?_
      refine G_st (x_dup2 dX7_weekOn_62 rfl rfl) ?_
      refine G_chk (fun c9 => ?_)
      refine G_st (x_iaload dX7_weekOn_63 (H0_29 44 (Nat.le_of_ble_eq_true rfl) (Nat.le_of_ble_eq_true rfl)) rfl c9) ?_
      refine G_st (x_aload_n dX7_weekOn_64 rfl) ?_
      refine G_st (x_get (k := 20) (aR (0, 44)) dX7_weekOn_65 (H0_29 29 (Nat.le_of_ble_eq_true rfl) (Nat.le_of_ble_eq_true rfl)) rfl rfl rfl rfl inTX7 (Nat.le_of_ble_eq_true rfl) tw_867 (fun ad => rfl)) ?_
      refine G_st (x_iload_n dX7_weekOn_68 rfl) ?_
      refine G_chk (fun c10 => ?_)
      refine G_st (x_iaload dX7_weekOn_69 (H0_29 44 (Nat.le_of_ble_eq_true rfl) (Nat.le_of_ble_eq_true rfl)) rfl c10) ?_
      have e12 : Tj mX7_weekOn ids 70 [some (aR (0, 29)), some (aI v1), none] [aI (t0 (0, 44) (v1).toNatClampNeg), aI (t0 (0, 44) (v1).toNatClampNeg), aI v1, aR (0, 44)] t0 78 [some (aR (0, 29)), some (aI v1), none] [aI (if (t0 (0, 44) (v1).toNatClampNeg) ≤ 0 then (0 : Int32) else (1 : Int32)), aI (t0 (0, 44) (v1).toNatClampNeg), aI v1, aR (0, 44)] t0 := by
        refine Tj.dia (fun c11 => ?_) (fun c11 => ?_)
        · refine Tj.tr (x_if_le_t (tgt := 77) dX7_weekOn_70 (by decide) c11) ?_
          refine Tj.tr (x_iconst (0 : Int32) dX7_weekOn_77 rfl) ?_
          exact Tj.rf
        · refine Tj.tr (x_if_le_f 77 dX7_weekOn_70 (by decide) c11) ?_
          refine Tj.tr (x_iconst (1 : Int32) dX7_weekOn_73 rfl) ?_
          refine Tj.tr (x_goto (tgt := 78) dX7_weekOn_74 (by decide)) ?_
          exact Tj.rf
      refine G_st e12 ?_
      refine G_st (x_isub dX7_weekOn_78) ?_
      refine G_chk (fun c13 => ?_)
      refine G_st (x_iastore dX7_weekOn_79 (H0_29 44 (Nat.le_of_ble_eq_true rfl) (Nat.le_of_ble_eq_true rfl)) rfl c13) ?_
      refine G_bvS (fun t14 => ?_)
      refine G_st (x_iinc (v1 + (1 : Int32)) [some (aR (0, 29)), some (aI (v1 + (1 : Int32))), none] dX7_weekOn_80 (Nat.le_of_ble_eq_true rfl) rfl rfl rfl rfl) ?_
      refine G_st (x_goto (tgt := 51) dX7_weekOn_83 (by decide)) ?_
      refine G_weak _ ?_ ((ih) (v1 + (1 : Int32)) t14)
      exact (leL_s (leL_s (leL_n (leL_e _))))
set_option maxRecDepth 100000 in
set_option maxHeartbeats 4000000 in
theorem g_X7_weekOn_37 (ids : List (Nat × Nat)) (Hn : Ndp ids)  (H0_29 : InR ids 0 29 56) (k6 : Int32 → Sg → Option (Int32 × Sg)) (hk6 : ∀ (v1 : Int32) (t0 : Sg), Gj kI mX7_weekOn ids 6 [some (aR (0, 29)), some (aI v1), none] [] t0 (k6 v1 t0)) (k14 : Int32 → Int32 → Sg → Option (Int32 × Sg)) (hk14 : ∀ (v1 : Int32) (v2 : Int32) (t0 : Sg), Gj kI mX7_weekOn ids 14 [some (aR (0, 29)), some (aI v1), some (aI v2)] [] t0 (k14 v1 v2 t0)) (v1 : Int32) (v2 : Int32) (t0 : Sg) : Gj kI mX7_weekOn ids 37 [some (aR (0, 29)), some (aI v1), some (aI v2)] [] t0 (f_X7_weekOn_37 k6 k14 v1 v2 t0) := by
  unfold f_X7_weekOn_37
  refine G_st (x_iinc (v2 + (1 : Int32)) [some (aR (0, 29)), some (aI v1), some (aI (v2 + (1 : Int32)))] dX7_weekOn_37 (Nat.le_of_ble_eq_true rfl) rfl rfl rfl rfl) ?_
  refine G_st (x_goto (tgt := 14) dX7_weekOn_40 (by decide)) ?_
  refine G_weak _ ?_ (hk14 v1 (v2 + (1 : Int32)) t0)
  exact (leL_s (leL_s (leL_s (leL_e _))))
set_option maxRecDepth 100000 in
set_option maxHeartbeats 4000000 in
theorem g_X7_weekOn_14 (ids : List (Nat × Nat)) (Hn : Ndp ids)  (H0_29 : InR ids 0 29 56) (k6 : Int32 → Sg → Option (Int32 × Sg)) (hk6 : ∀ (v1 : Int32) (t0 : Sg), Gj kI mX7_weekOn ids 6 [some (aR (0, 29)), some (aI v1), none] [] t0 (k6 v1 t0)) : ∀ (n : Nat) (v1 : Int32) (v2 : Int32) (t0 : Sg), Gj kI mX7_weekOn ids 14 [some (aR (0, 29)), some (aI v1), some (aI v2)] [] t0 (f_X7_weekOn_14 k6 n v1 v2 t0) := by
  intro n
  induction n with
  | zero => intro v1 v2 t0; exact G_none
  | succ n ih =>
    intro v1 v2 t0
    rw [f_X7_weekOn_14]
    refine G_st (x_iload_n dX7_weekOn_14 rfl) ?_
    refine G_st (x_aload_n dX7_weekOn_15 rfl) ?_
    refine G_st (x_get (k := 4) (aI (t0 (0, 29) 4)) dX7_weekOn_16 (H0_29 29 (Nat.le_of_ble_eq_true rfl) (Nat.le_of_ble_eq_true rfl)) rfl rfl rfl rfl inTX7 (Nat.le_of_ble_eq_true rfl) tw_851 (fun ad => rfl)) ?_
    refine G_ite (fun c15 => ?_) (fun c15 => ?_)
    · refine G_st (x_icmp_ge_t (tgt := 43) dX7_weekOn_19 (by decide) c15) ?_
      refine G_st (x_iinc (v1 + (1 : Int32)) [some (aR (0, 29)), some (aI (v1 + (1 : Int32))), some (aI v2)] dX7_weekOn_43 (Nat.le_of_ble_eq_true rfl) rfl rfl rfl rfl) ?_
      refine G_st (x_goto (tgt := 6) dX7_weekOn_46 (by decide)) ?_
      refine G_weak _ ?_ (hk6 (v1 + (1 : Int32)) t0)
      exact (leL_s (leL_s (leL_n (leL_e _))))
    · refine G_st (x_icmp_ge_f 43 dX7_weekOn_19 (by decide) c15) ?_
      refine G_st (x_aload_n dX7_weekOn_22 rfl) ?_
      refine G_st (x_get (k := 17) (aR (0, 42)) dX7_weekOn_23 (H0_29 29 (Nat.le_of_ble_eq_true rfl) (Nat.le_of_ble_eq_true rfl)) rfl rfl rfl rfl inTX7 (Nat.le_of_ble_eq_true rfl) tw_864 (fun ad => rfl)) ?_
      refine G_st (x_iload_n dX7_weekOn_26 rfl) ?_
      refine G_chk (fun c16 => ?_)
      refine G_st (x_iaload dX7_weekOn_27 (H0_29 42 (Nat.le_of_ble_eq_true rfl) (Nat.le_of_ble_eq_true rfl)) rfl c16) ?_
      refine G_st (x_iload_n dX7_weekOn_28 rfl) ?_
      refine G_ite (fun c17 => ?_) (fun c17 => ?_)
      · refine G_st (x_icmp_ne_f 37 dX7_weekOn_29 (by decide) c17) ?_
        refine G_st (x_aload_n dX7_weekOn_32 rfl) ?_
        refine G_st (x_iload_n dX7_weekOn_33 rfl) ?_
        refine G_bd (fun _ t19 h20 => ?_)
        refine G_st (x_callV [] (c_X7_fall ids Hn v2 H0_29 _ _ _ h20) dX7_weekOn_34 tw_1173 kc_X7_fall (H0_29 29 (Nat.le_of_ble_eq_true rfl) (Nat.le_of_ble_eq_true rfl)) rfl rfl rfl rfl ⟨Nat.le_of_ble_eq_true rfl, Nat.le_of_ble_eq_true rfl⟩ (Nat.le_of_ble_eq_true rfl) rfl) ?_
        refine G_weak _ ?_ (g_X7_weekOn_37 ids Hn H0_29 k6 hk6 (f_X7_weekOn_14 k6 n) (ih) v1 v2 t19)
        exact (leL_s (leL_s (leL_s (leL_e _))))
      · refine G_st (x_icmp_ne_t (tgt := 37) dX7_weekOn_29 (by decide) c17) ?_
        refine G_weak _ ?_ (g_X7_weekOn_37 ids Hn H0_29 k6 hk6 (f_X7_weekOn_14 k6 n) (ih) v1 v2 t0)
        exact (leL_s (leL_s (leL_s (leL_e _))))
set_option maxRecDepth 100000 in
set_option maxHeartbeats 4000000 in
theorem g_X7_weekOn_6 (ids : List (Nat × Nat)) (Hn : Ndp ids)  (H0_29 : InR ids 0 29 56)  : ∀ (n : Nat) (v1 : Int32) (t0 : Sg), Gj kI mX7_weekOn ids 6 [some (aR (0, 29)), some (aI v1), none] [] t0 (f_X7_weekOn_6 n v1 t0) := by
  intro n
  induction n with
  | zero => intro v1 t0; exact G_none
  | succ n ih =>
    intro v1 t0
    rw [f_X7_weekOn_6]
    refine G_st (x_iload_n dX7_weekOn_6 rfl) ?_
    refine G_st (x_bipush (8 : Int32) dX7_weekOn_7 rfl) ?_
    refine G_ite (fun c4 => ?_) (fun c4 => ?_)
    · refine G_st (x_icmp_ge_t (tgt := 49) dX7_weekOn_9 (by decide) c4) ?_
      refine G_st (x_iconst (0 : Int32) dX7_weekOn_49 rfl) ?_
      refine G_st (x_istore_n [some (aR (0, 29)), some (aI (0 : Int32)), none] dX7_weekOn_50 (Nat.le_of_ble_eq_true rfl) rfl rfl) ?_
      refine G_weak _ ?_ (g_X7_weekOn_51 ids Hn H0_29 fuel (0 : Int32) t0)
      exact (leL_s (leL_s (leL_n (leL_e _))))
    · refine G_st (x_icmp_ge_f 49 dX7_weekOn_9 (by decide) c4) ?_
      refine G_st (x_iconst (0 : Int32) dX7_weekOn_12 rfl) ?_
      refine G_st (x_istore_n [some (aR (0, 29)), some (aI v1), some (aI (0 : Int32))] dX7_weekOn_13 (Nat.le_of_ble_eq_true rfl) rfl rfl) ?_
      refine G_weak _ ?_ (g_X7_weekOn_14 ids Hn H0_29 (f_X7_weekOn_6 n) (ih) fuel v1 (0 : Int32) t0)
      exact (leL_s (leL_s (leL_s (leL_e _))))
set_option maxRecDepth 100000 in
set_option maxHeartbeats 4000000 in
theorem g_X7_weekOn (ids : List (Nat × Nat)) (Hn : Ndp ids)  (H0_29 : InR ids 0 29 56) (t0 : Sg) : Gj kI mX7_weekOn ids 0 [some (aR (0, 29)), none, none] [] t0 (f_X7_weekOn t0) := by
  unfold f_X7_weekOn
  refine G_st (x_aload_n dX7_weekOn_0 rfl) ?_
  refine G_bd (fun _ t2 h3 => ?_)
  refine G_st (x_callV [] (c_X7_clearHarm ids Hn  H0_29 _ _ _ h3) dX7_weekOn_1 tw_1165 kc_X7_clearHarm (H0_29 29 (Nat.le_of_ble_eq_true rfl) (Nat.le_of_ble_eq_true rfl)) rfl rfl rfl rfl ⟨Nat.le_of_ble_eq_true rfl, Nat.le_of_ble_eq_true rfl⟩ (Nat.le_of_ble_eq_true rfl) rfl) ?_
  refine G_st (x_iconst (0 : Int32) dX7_weekOn_4 rfl) ?_
  refine G_st (x_istore_n [some (aR (0, 29)), some (aI (0 : Int32)), none] dX7_weekOn_5 (Nat.le_of_ble_eq_true rfl) rfl rfl) ?_
  refine G_weak _ ?_ (g_X7_weekOn_6 ids Hn H0_29 fuel (0 : Int32) t2)
  exact (leL_s (leL_s (leL_n (leL_e _))))
set_option maxRecDepth 100000 in
set_option maxHeartbeats 4000000 in
theorem c_X7_weekOn (ids : List (Nat × Nat)) (Hn : Ndp ids)  (H0_29 : InR ids 0 29 56) (t0 : Sg) (r : Int32) (t1 : Sg) (hf : f_X7_weekOn t0 = some (r, t1)) : Mt0 mX7_weekOn yX7_weekOn ids [aR (0, 29)] t0 (some (aI r)) t1 :=
  Mt_of (x := (r, t1)) (g_X7_weekOn ids Hn  H0_29 t0) hf (fun _ _ => trivial) (by decide) rfl Hn (fun _ => rfl) (fun _ => Nat.le_of_ble_eq_true rfl)
theorem dX7_oneWeek_0 : decode cX7_oneWeek 0 = .ok (.aload_n 0, 1) := by decide +kernel
theorem dX7_oneWeek_1 : decode cX7_oneWeek 1 = .ok (.invokevirtual 154, 3) := by decide +kernel
theorem dX7_oneWeek_4 : decode cX7_oneWeek 4 = .ok (.aload_n 0, 1) := by decide +kernel
theorem dX7_oneWeek_5 : decode cX7_oneWeek 5 = .ok (.invokevirtual 157, 3) := by decide +kernel
theorem dX7_oneWeek_8 : decode cX7_oneWeek 8 = .ok (.ireturn, 1) := by decide +kernel
set_option maxRecDepth 100000 in
set_option maxHeartbeats 4000000 in
theorem g_X7_oneWeek (ids : List (Nat × Nat)) (Hn : Ndp ids)  (H0_29 : InR ids 0 29 56) (t0 : Sg) : Gj kI mX7_oneWeek ids 0 [some (aR (0, 29))] [] t0 (f_X7_oneWeek t0) := by
  unfold f_X7_oneWeek
  refine G_st (x_aload_n dX7_oneWeek_0 rfl) ?_
  refine G_bd (fun _ t2 h3 => ?_)
  refine G_st (x_callV [] (c_X7_beginMind ids Hn  H0_29 _ _ _ h3) dX7_oneWeek_1 tw_1161 kc_X7_beginMind (H0_29 29 (Nat.le_of_ble_eq_true rfl) (Nat.le_of_ble_eq_true rfl)) rfl rfl rfl rfl ⟨Nat.le_of_ble_eq_true rfl, Nat.le_of_ble_eq_true rfl⟩ (Nat.le_of_ble_eq_true rfl) rfl) ?_
  refine G_st (x_aload_n dX7_oneWeek_4 rfl) ?_
  refine G_bd (fun x4 t5 h6 => ?_)
  refine G_st (x_callV [] (c_X7_weekOn ids Hn  H0_29 _ _ _ h6) dX7_oneWeek_5 tw_1169 kc_X7_weekOn (H0_29 29 (Nat.le_of_ble_eq_true rfl) (Nat.le_of_ble_eq_true rfl)) rfl rfl rfl rfl ⟨Nat.le_of_ble_eq_true rfl, Nat.le_of_ble_eq_true rfl⟩ (Nat.le_of_ble_eq_true rfl) rfl) ?_
  exact G_ret rfl ⟨dX7_oneWeek_8, _, rfl, rfl⟩ rfl
set_option maxRecDepth 100000 in
set_option maxHeartbeats 4000000 in
theorem c_X7_oneWeek (ids : List (Nat × Nat)) (Hn : Ndp ids)  (H0_29 : InR ids 0 29 56) (t0 : Sg) (r : Int32) (t1 : Sg) (hf : f_X7_oneWeek t0 = some (r, t1)) : Mt0 mX7_oneWeek yX7_oneWeek ids [aR (0, 29)] t0 (some (aI r)) t1 :=
  Mt_of (x := (r, t1)) (g_X7_oneWeek ids Hn  H0_29 t0) hf (fun _ _ => trivial) (by decide) rfl Hn (fun _ => rfl) (fun _ => Nat.le_of_ble_eq_true rfl)
theorem dX7_oneWeekOf_0 : decode cX7_oneWeekOf 0 = .ok (.aload_n 0, 1) := by decide +kernel
theorem dX7_oneWeekOf_1 : decode cX7_oneWeekOf 1 = .ok (.invokevirtual 160, 3) := by decide +kernel
theorem dX7_oneWeekOf_4 : decode cX7_oneWeekOf 4 = .ok (.pop, 1) := by decide +kernel
theorem dX7_oneWeekOf_5 : decode cX7_oneWeekOf 5 = .ok (.aload_n 0, 1) := by decide +kernel
theorem dX7_oneWeekOf_6 : decode cX7_oneWeekOf 6 = .ok (.getfield 62, 3) := by decide +kernel
theorem dX7_oneWeekOf_9 : decode cX7_oneWeekOf 9 = .ok (.iload_n 1, 1) := by decide +kernel
theorem dX7_oneWeekOf_10 : decode cX7_oneWeekOf 10 = .ok (.iaload, 1) := by decide +kernel
theorem dX7_oneWeekOf_11 : decode cX7_oneWeekOf 11 = .ok (.ireturn, 1) := by decide +kernel
set_option maxRecDepth 100000 in
set_option maxHeartbeats 4000000 in
theorem g_X7_oneWeekOf (ids : List (Nat × Nat)) (Hn : Ndp ids) (v1 : Int32) (H0_29 : InR ids 0 29 56) (t0 : Sg) : Gj kI mX7_oneWeekOf ids 0 [some (aR (0, 29)), some (aI v1)] [] t0 (f_X7_oneWeekOf v1 t0) := by
  unfold f_X7_oneWeekOf
  refine G_st (x_aload_n dX7_oneWeekOf_0 rfl) ?_
  refine G_bd (fun x1 t2 h3 => ?_)
  refine G_st (x_callV [] (c_X7_oneWeek ids Hn  H0_29 _ _ _ h3) dX7_oneWeekOf_1 tw_1157 kc_X7_oneWeek (H0_29 29 (Nat.le_of_ble_eq_true rfl) (Nat.le_of_ble_eq_true rfl)) rfl rfl rfl rfl ⟨Nat.le_of_ble_eq_true rfl, Nat.le_of_ble_eq_true rfl⟩ (Nat.le_of_ble_eq_true rfl) rfl) ?_
  refine G_st (x_pop dX7_oneWeekOf_4 rfl) ?_
  refine G_st (x_aload_n dX7_oneWeekOf_5 rfl) ?_
  refine G_st (x_get (k := 21) (aR (0, 45)) dX7_oneWeekOf_6 (H0_29 29 (Nat.le_of_ble_eq_true rfl) (Nat.le_of_ble_eq_true rfl)) rfl rfl rfl rfl inTX7 (Nat.le_of_ble_eq_true rfl) tw_868 (fun ad => rfl)) ?_
  refine G_st (x_iload_n dX7_oneWeekOf_9 rfl) ?_
  refine G_chk (fun c4 => ?_)
  refine G_st (x_iaload dX7_oneWeekOf_10 (H0_29 45 (Nat.le_of_ble_eq_true rfl) (Nat.le_of_ble_eq_true rfl)) rfl c4) ?_
  exact G_ret rfl ⟨dX7_oneWeekOf_11, _, rfl, rfl⟩ rfl
set_option maxRecDepth 100000 in
set_option maxHeartbeats 4000000 in
theorem c_X7_oneWeekOf (ids : List (Nat × Nat)) (Hn : Ndp ids) (v1 : Int32) (H0_29 : InR ids 0 29 56) (t0 : Sg) (r : Int32) (t1 : Sg) (hf : f_X7_oneWeekOf v1 t0 = some (r, t1)) : Mt0 mX7_oneWeekOf yX7_oneWeekOf ids [aR (0, 29), aI v1] t0 (some (aI r)) t1 :=
  Mt_of (x := (r, t1)) (g_X7_oneWeekOf ids Hn v1 H0_29 t0) hf (fun _ _ => trivial) (by decide) rfl Hn (fun _ => rfl) (fun _ => Nat.le_of_ble_eq_true rfl)
theorem dX7_keepWeek_0 : decode cX7_keepWeek 0 = .ok (.iconst 0, 1) := by decide +kernel
theorem dX7_keepWeek_1 : decode cX7_keepWeek 1 = .ok (.istore_n 1, 1) := by decide +kernel
theorem dX7_keepWeek_2 : decode cX7_keepWeek 2 = .ok (.iload_n 1, 1) := by decide +kernel
theorem dX7_keepWeek_3 : decode cX7_keepWeek 3 = .ok (.bipush 24, 2) := by decide +kernel
theorem dX7_keepWeek_5 : decode cX7_keepWeek 5 = .ok (.if_icmp .ge 21, 3) := by decide +kernel
theorem dX7_keepWeek_8 : decode cX7_keepWeek 8 = .ok (.aload_n 0, 1) := by decide +kernel
theorem dX7_keepWeek_9 : decode cX7_keepWeek 9 = .ok (.getfield 20, 3) := by decide +kernel
theorem dX7_keepWeek_12 : decode cX7_keepWeek 12 = .ok (.iload_n 1, 1) := by decide +kernel
theorem dX7_keepWeek_13 : decode cX7_keepWeek 13 = .ok (.aload_n 0, 1) := by decide +kernel
theorem dX7_keepWeek_14 : decode cX7_keepWeek 14 = .ok (.getfield 59, 3) := by decide +kernel
theorem dX7_keepWeek_17 : decode cX7_keepWeek 17 = .ok (.iload_n 1, 1) := by decide +kernel
theorem dX7_keepWeek_18 : decode cX7_keepWeek 18 = .ok (.iaload, 1) := by decide +kernel
theorem dX7_keepWeek_19 : decode cX7_keepWeek 19 = .ok (.iastore, 1) := by decide +kernel
theorem dX7_keepWeek_20 : decode cX7_keepWeek 20 = .ok (.iinc 1 1, 3) := by decide +kernel
theorem dX7_keepWeek_23 : decode cX7_keepWeek 23 = .ok (.goto (-21), 3) := by decide +kernel
theorem dX7_keepWeek_26 : decode cX7_keepWeek 26 = .ok (.iconst 0, 1) := by decide +kernel
theorem dX7_keepWeek_27 : decode cX7_keepWeek 27 = .ok (.istore_n 1, 1) := by decide +kernel
theorem dX7_keepWeek_28 : decode cX7_keepWeek 28 = .ok (.iload_n 1, 1) := by decide +kernel
theorem dX7_keepWeek_29 : decode cX7_keepWeek 29 = .ok (.bipush 24, 2) := by decide +kernel
theorem dX7_keepWeek_31 : decode cX7_keepWeek 31 = .ok (.if_icmp .ge 116, 3) := by decide +kernel
theorem dX7_keepWeek_34 : decode cX7_keepWeek 34 = .ok (.aload_n 0, 1) := by decide +kernel
theorem dX7_keepWeek_35 : decode cX7_keepWeek 35 = .ok (.getfield 35, 3) := by decide +kernel
theorem dX7_keepWeek_38 : decode cX7_keepWeek 38 = .ok (.iload_n 1, 1) := by decide +kernel
theorem dX7_keepWeek_39 : decode cX7_keepWeek 39 = .ok (.ldc 163, 2) := by decide +kernel
theorem dX7_keepWeek_41 : decode cX7_keepWeek 41 = .ok (.aload_n 0, 1) := by decide +kernel
theorem dX7_keepWeek_42 : decode cX7_keepWeek 42 = .ok (.getfield 35, 3) := by decide +kernel
theorem dX7_keepWeek_45 : decode cX7_keepWeek 45 = .ok (.iload_n 1, 1) := by decide +kernel
theorem dX7_keepWeek_46 : decode cX7_keepWeek 46 = .ok (.iaload, 1) := by decide +kernel
theorem dX7_keepWeek_47 : decode cX7_keepWeek 47 = .ok (.aload_n 0, 1) := by decide +kernel
theorem dX7_keepWeek_48 : decode cX7_keepWeek 48 = .ok (.getfield 62, 3) := by decide +kernel
theorem dX7_keepWeek_51 : decode cX7_keepWeek 51 = .ok (.iload_n 1, 1) := by decide +kernel
theorem dX7_keepWeek_52 : decode cX7_keepWeek 52 = .ok (.iaload, 1) := by decide +kernel
theorem dX7_keepWeek_53 : decode cX7_keepWeek 53 = .ok (.iadd, 1) := by decide +kernel
theorem dX7_keepWeek_54 : decode cX7_keepWeek 54 = .ok (.invokestatic 122, 3) := by decide +kernel
theorem dX7_keepWeek_57 : decode cX7_keepWeek 57 = .ok (.iastore, 1) := by decide +kernel
theorem dX7_keepWeek_58 : decode cX7_keepWeek 58 = .ok (.aload_n 0, 1) := by decide +kernel
theorem dX7_keepWeek_59 : decode cX7_keepWeek 59 = .ok (.getfield 38, 3) := by decide +kernel
theorem dX7_keepWeek_62 : decode cX7_keepWeek 62 = .ok (.iload_n 1, 1) := by decide +kernel
theorem dX7_keepWeek_63 : decode cX7_keepWeek 63 = .ok (.iconst 0, 1) := by decide +kernel
theorem dX7_keepWeek_64 : decode cX7_keepWeek 64 = .ok (.iastore, 1) := by decide +kernel
theorem dX7_keepWeek_65 : decode cX7_keepWeek 65 = .ok (.iconst 0, 1) := by decide +kernel
theorem dX7_keepWeek_66 : decode cX7_keepWeek 66 = .ok (.istore_n 2, 1) := by decide +kernel
theorem dX7_keepWeek_67 : decode cX7_keepWeek 67 = .ok (.iload_n 2, 1) := by decide +kernel
theorem dX7_keepWeek_68 : decode cX7_keepWeek 68 = .ok (.bipush 24, 2) := by decide +kernel
theorem dX7_keepWeek_70 : decode cX7_keepWeek 70 = .ok (.if_icmp .ge 71, 3) := by decide +kernel
theorem dX7_keepWeek_73 : decode cX7_keepWeek 73 = .ok (.aload_n 0, 1) := by decide +kernel
theorem dX7_keepWeek_74 : decode cX7_keepWeek 74 = .ok (.getfield 65, 3) := by decide +kernel
theorem dX7_keepWeek_77 : decode cX7_keepWeek 77 = .ok (.bipush 24, 2) := by decide +kernel
theorem dX7_keepWeek_79 : decode cX7_keepWeek 79 = .ok (.iload_n 1, 1) := by decide +kernel
theorem dX7_keepWeek_80 : decode cX7_keepWeek 80 = .ok (.imul, 1) := by decide +kernel
theorem dX7_keepWeek_81 : decode cX7_keepWeek 81 = .ok (.iload_n 2, 1) := by decide +kernel
theorem dX7_keepWeek_82 : decode cX7_keepWeek 82 = .ok (.iadd, 1) := by decide +kernel
theorem dX7_keepWeek_83 : decode cX7_keepWeek 83 = .ok (.iaload, 1) := by decide +kernel
theorem dX7_keepWeek_84 : decode cX7_keepWeek 84 = .ok (.istore_n 3, 1) := by decide +kernel
theorem dX7_keepWeek_85 : decode cX7_keepWeek 85 = .ok (.aload_n 0, 1) := by decide +kernel
theorem dX7_keepWeek_86 : decode cX7_keepWeek 86 = .ok (.getfield 41, 3) := by decide +kernel
theorem dX7_keepWeek_89 : decode cX7_keepWeek 89 = .ok (.bipush 24, 2) := by decide +kernel
theorem dX7_keepWeek_91 : decode cX7_keepWeek 91 = .ok (.iload_n 1, 1) := by decide +kernel
theorem dX7_keepWeek_92 : decode cX7_keepWeek 92 = .ok (.imul, 1) := by decide +kernel
theorem dX7_keepWeek_93 : decode cX7_keepWeek 93 = .ok (.iload_n 2, 1) := by decide +kernel
theorem dX7_keepWeek_94 : decode cX7_keepWeek 94 = .ok (.iadd, 1) := by decide +kernel
theorem dX7_keepWeek_95 : decode cX7_keepWeek 95 = .ok (.sipush 999, 3) := by decide +kernel
theorem dX7_keepWeek_98 : decode cX7_keepWeek 98 = .ok (.aload_n 0, 1) := by decide +kernel
theorem dX7_keepWeek_99 : decode cX7_keepWeek 99 = .ok (.getfield 41, 3) := by decide +kernel
theorem dX7_keepWeek_102 : decode cX7_keepWeek 102 = .ok (.bipush 24, 2) := by decide +kernel
theorem dX7_keepWeek_104 : decode cX7_keepWeek 104 = .ok (.iload_n 1, 1) := by decide +kernel
theorem dX7_keepWeek_105 : decode cX7_keepWeek 105 = .ok (.imul, 1) := by decide +kernel
theorem dX7_keepWeek_106 : decode cX7_keepWeek 106 = .ok (.iload_n 2, 1) := by decide +kernel
theorem dX7_keepWeek_107 : decode cX7_keepWeek 107 = .ok (.iadd, 1) := by decide +kernel
theorem dX7_keepWeek_108 : decode cX7_keepWeek 108 = .ok (.iaload, 1) := by decide +kernel
theorem dX7_keepWeek_109 : decode cX7_keepWeek 109 = .ok (.iload_n 3, 1) := by decide +kernel
theorem dX7_keepWeek_110 : decode cX7_keepWeek 110 = .ok (.iadd, 1) := by decide +kernel
theorem dX7_keepWeek_111 : decode cX7_keepWeek 111 = .ok (.invokestatic 122, 3) := by decide +kernel
theorem dX7_keepWeek_114 : decode cX7_keepWeek 114 = .ok (.iastore, 1) := by decide +kernel
theorem dX7_keepWeek_115 : decode cX7_keepWeek 115 = .ok (.aload_n 0, 1) := by decide +kernel
theorem dX7_keepWeek_116 : decode cX7_keepWeek 116 = .ok (.getfield 38, 3) := by decide +kernel
theorem dX7_keepWeek_119 : decode cX7_keepWeek 119 = .ok (.iload_n 1, 1) := by decide +kernel
theorem dX7_keepWeek_120 : decode cX7_keepWeek 120 = .ok (.dup2, 1) := by decide +kernel
theorem dX7_keepWeek_121 : decode cX7_keepWeek 121 = .ok (.iaload, 1) := by decide +kernel
theorem dX7_keepWeek_122 : decode cX7_keepWeek 122 = .ok (.iload_n 3, 1) := by decide +kernel
theorem dX7_keepWeek_123 : decode cX7_keepWeek 123 = .ok (.ifCond .le 9, 3) := by decide +kernel
theorem dX7_keepWeek_126 : decode cX7_keepWeek 126 = .ok (.iconst 1, 1) := by decide +kernel
theorem dX7_keepWeek_127 : decode cX7_keepWeek 127 = .ok (.iload_n 2, 1) := by decide +kernel
theorem dX7_keepWeek_128 : decode cX7_keepWeek 128 = .ok (.ishl, 1) := by decide +kernel
theorem dX7_keepWeek_129 : decode cX7_keepWeek 129 = .ok (.goto 4, 3) := by decide +kernel
theorem dX7_keepWeek_132 : decode cX7_keepWeek 132 = .ok (.iconst 0, 1) := by decide +kernel
theorem dX7_keepWeek_133 : decode cX7_keepWeek 133 = .ok (.ior, 1) := by decide +kernel
theorem dX7_keepWeek_134 : decode cX7_keepWeek 134 = .ok (.iastore, 1) := by decide +kernel
theorem dX7_keepWeek_135 : decode cX7_keepWeek 135 = .ok (.iinc 2 1, 3) := by decide +kernel
theorem dX7_keepWeek_138 : decode cX7_keepWeek 138 = .ok (.goto (-71), 3) := by decide +kernel
theorem dX7_keepWeek_141 : decode cX7_keepWeek 141 = .ok (.iinc 1 1, 3) := by decide +kernel
theorem dX7_keepWeek_144 : decode cX7_keepWeek 144 = .ok (.goto (-116), 3) := by decide +kernel
theorem dX7_keepWeek_147 : decode cX7_keepWeek 147 = .ok (.aload_n 0, 1) := by decide +kernel
theorem dX7_keepWeek_148 : decode cX7_keepWeek 148 = .ok (.dup, 1) := by decide +kernel
theorem dX7_keepWeek_149 : decode cX7_keepWeek 149 = .ok (.getfield 164, 3) := by decide +kernel
theorem dX7_keepWeek_152 : decode cX7_keepWeek 152 = .ok (.iconst 1, 1) := by decide +kernel
theorem dX7_keepWeek_153 : decode cX7_keepWeek 153 = .ok (.iadd, 1) := by decide +kernel
theorem dX7_keepWeek_154 : decode cX7_keepWeek 154 = .ok (.putfield 164, 3) := by decide +kernel
theorem dX7_keepWeek_157 : decode cX7_keepWeek 157 = .ok (.return_, 1) := by decide +kernel
set_option maxRecDepth 100000 in
set_option maxHeartbeats 4000000 in
theorem g_X7_keepWeek_67 (ids : List (Nat × Nat)) (Hn : Ndp ids)  (H0_29 : InR ids 0 29 56) (k28 : Int32 → Sg → Option (Unit × Sg)) (hk28 : ∀ (v1 : Int32) (t0 : Sg), Gj kV mX7_keepWeek ids 28 [some (aR (0, 29)), some (aI v1), none, none] [] t0 (k28 v1 t0)) : ∀ (n : Nat) (v1 : Int32) (v2 : Int32) (t0 : Sg), Gj kV mX7_keepWeek ids 67 [some (aR (0, 29)), some (aI v1), some (aI v2), none] [] t0 (f_X7_keepWeek_67 k28 n v1 v2 t0) := by
  intro n
  induction n with
  | zero => intro v1 v2 t0; exact G_none
  | succ n ih =>
    intro v1 v2 t0
    rw [f_X7_keepWeek_67]
    refine G_st (x_iload_n dX7_keepWeek_67 rfl) ?_
    refine G_st (x_bipush (24 : Int32) dX7_keepWeek_68 rfl) ?_
    refine G_ite (fun c13 => ?_) (fun c13 => ?_)
    · refine G_st (x_icmp_ge_t (tgt := 141) dX7_keepWeek_70 (by decide) c13) ?_
      refine G_st (x_iinc (v1 + (1 : Int32)) [some (aR (0, 29)), some (aI (v1 + (1 : Int32))), some (aI v2), none] dX7_keepWeek_141 (Nat.le_of_ble_eq_true rfl) rfl rfl rfl rfl) ?_
      refine G_st (x_goto (tgt := 28) dX7_keepWeek_144 (by decide)) ?_
      refine G_weak _ ?_ (hk28 (v1 + (1 : Int32)) t0)
      exact (leL_s (leL_s (leL_n (leL_n (leL_e _)))))
    · refine G_st (x_icmp_ge_f 141 dX7_keepWeek_70 (by decide) c13) ?_
      refine G_st (x_aload_n dX7_keepWeek_73 rfl) ?_
      refine G_st (x_get (k := 22) (aR (0, 46)) dX7_keepWeek_74 (H0_29 29 (Nat.le_of_ble_eq_true rfl) (Nat.le_of_ble_eq_true rfl)) rfl rfl rfl rfl inTX7 (Nat.le_of_ble_eq_true rfl) tw_869 (fun ad => rfl)) ?_
      refine G_st (x_bipush (24 : Int32) dX7_keepWeek_77 rfl) ?_
      refine G_st (x_iload_n dX7_keepWeek_79 rfl) ?_
      refine G_st (x_imul dX7_keepWeek_80) ?_
      refine G_st (x_iload_n dX7_keepWeek_81 rfl) ?_
      refine G_st (x_iadd dX7_keepWeek_82) ?_
      refine G_chk (fun c14 => ?_)
      refine G_st (x_iaload dX7_keepWeek_83 (H0_29 46 (Nat.le_of_ble_eq_true rfl) (Nat.le_of_ble_eq_true rfl)) rfl c14) ?_
      refine G_bvI (fun x15 => ?_)
      refine G_st (x_istore_n [some (aR (0, 29)), some (aI v1), some (aI v2), some (aI x15)] dX7_keepWeek_84 (Nat.le_of_ble_eq_true rfl) rfl rfl) ?_
      refine G_st (x_aload_n dX7_keepWeek_85 rfl) ?_
      refine G_st (x_get (k := 13) (aR (0, 38)) dX7_keepWeek_86 (H0_29 29 (Nat.le_of_ble_eq_true rfl) (Nat.le_of_ble_eq_true rfl)) rfl rfl rfl rfl inTX7 (Nat.le_of_ble_eq_true rfl) tw_860 (fun ad => rfl)) ?_
      refine G_st (x_bipush (24 : Int32) dX7_keepWeek_89 rfl) ?_
      refine G_st (x_iload_n dX7_keepWeek_91 rfl) ?_
      refine G_st (x_imul dX7_keepWeek_92) ?_
      refine G_st (x_iload_n dX7_keepWeek_93 rfl) ?_
      refine G_st (x_iadd dX7_keepWeek_94) ?_
      refine G_st (x_sipush (999 : Int32) dX7_keepWeek_95 rfl) ?_
      refine G_st (x_aload_n dX7_keepWeek_98 rfl) ?_
      refine G_st (x_get (k := 13) (aR (0, 38)) dX7_keepWeek_99 (H0_29 29 (Nat.le_of_ble_eq_true rfl) (Nat.le_of_ble_eq_true rfl)) rfl rfl rfl rfl inTX7 (Nat.le_of_ble_eq_true rfl) tw_860 (fun ad => rfl)) ?_
      refine G_st (x_bipush (24 : Int32) dX7_keepWeek_102 rfl) ?_
      refine G_st (x_iload_n dX7_keepWeek_104 rfl) ?_
      refine G_st (x_imul dX7_keepWeek_105) ?_
      refine G_st (x_iload_n dX7_keepWeek_106 rfl) ?_
      refine G_st (x_iadd dX7_keepWeek_107) ?_
      refine G_chk (fun c16 => ?_)
      refine G_st (x_iaload dX7_keepWeek_108 (H0_29 38 (Nat.le_of_ble_eq_true rfl) (Nat.le_of_ble_eq_true rfl)) rfl c16) ?_
      refine G_st (x_iload_n dX7_keepWeek_109 rfl) ?_
      refine G_st (x_iadd dX7_keepWeek_110) ?_
      refine G_bd (fun x17 t18 h19 => ?_)
      refine G_st (x_callS [aI (((24 : Int32) * v1) + v2), aR (0, 38)] (c_X7_lesser ids Hn (999 : Int32) ((t0 (0, 38) ((((24 : Int32) * v1) + v2)).toNatClampNeg) + x15)  _ _ _ h19) dX7_keepWeek_111 tw_1062 kc_X7_lesser rfl ⟨Nat.le_of_ble_eq_true rfl, Nat.le_of_ble_eq_true rfl⟩ (Nat.le_of_ble_eq_true rfl) rfl) ?_
      refine G_chk (fun c20 => ?_)
      refine G_st (x_iastore dX7_keepWeek_114 (H0_29 38 (Nat.le_of_ble_eq_true rfl) (Nat.le_of_ble_eq_true rfl)) rfl c20) ?_
      refine G_bvS (fun t21 => ?_)
      refine G_st (x_aload_n dX7_keepWeek_115 rfl) ?_
      refine G_st (x_get (k := 12) (aR (0, 37)) dX7_keepWeek_116 (H0_29 29 (Nat.le_of_ble_eq_true rfl) (Nat.le_of_ble_eq_true rfl)) rfl rfl rfl rfl inTX7 (Nat.le_of_ble_eq_true rfl) tw_859 (fun ad => rfl)) ?_
      refine G_st (x_iload_n dX7_keepWeek_119 rfl) ?_
      refine G_st (x_dup2 dX7_keepWeek_120 rfl rfl) ?_
      refine G_chk (fun c22 => ?_)
      refine G_st (x_iaload dX7_keepWeek_121 (H0_29 37 (Nat.le_of_ble_eq_true rfl) (Nat.le_of_ble_eq_true rfl)) rfl c22) ?_
      refine G_st (x_iload_n dX7_keepWeek_122 rfl) ?_
      have e24 : Tj mX7_keepWeek ids 123 [some (aR (0, 29)), some (aI v1), some (aI v2), some (aI x15)] [aI x15, aI (t21 (0, 37) (v1).toNatClampNeg), aI v1, aR (0, 37)] t21 133 [some (aR (0, 29)), some (aI v1), some (aI v2), some (aI x15)] [aI (if x15 ≤ 0 then (0 : Int32) else ((1 : Int32) <<< (v2 &&& 31))), aI (t21 (0, 37) (v1).toNatClampNeg), aI v1, aR (0, 37)] t21 := by
        refine Tj.dia (fun c23 => ?_) (fun c23 => ?_)
        · refine Tj.tr (x_if_le_t (tgt := 132) dX7_keepWeek_123 (by decide) c23) ?_
          refine Tj.tr (x_iconst (0 : Int32) dX7_keepWeek_132 rfl) ?_
          exact Tj.rf
        · refine Tj.tr (x_if_le_f 132 dX7_keepWeek_123 (by decide) c23) ?_
          refine Tj.tr (x_iconst (1 : Int32) dX7_keepWeek_126 rfl) ?_
          refine Tj.tr (x_iload_n dX7_keepWeek_127 rfl) ?_
          refine Tj.tr (x_ishl dX7_keepWeek_128) ?_
          refine Tj.tr (x_goto (tgt := 133) dX7_keepWeek_129 (by decide)) ?_
          exact Tj.rf
      refine G_st e24 ?_
      refine G_st (x_ior dX7_keepWeek_133) ?_
      refine G_chk (fun c25 => ?_)
      refine G_st (x_iastore dX7_keepWeek_134 (H0_29 37 (Nat.le_of_ble_eq_true rfl) (Nat.le_of_ble_eq_true rfl)) rfl c25) ?_
      refine G_bvS (fun t26 => ?_)
      refine G_st (x_iinc (v2 + (1 : Int32)) [some (aR (0, 29)), some (aI v1), some (aI (v2 + (1 : Int32))), some (aI x15)] dX7_keepWeek_135 (Nat.le_of_ble_eq_true rfl) rfl rfl rfl rfl) ?_
      refine G_st (x_goto (tgt := 67) dX7_keepWeek_138 (by decide)) ?_
      refine G_weak _ ?_ ((ih) v1 (v2 + (1 : Int32)) t26)
      exact (leL_s (leL_s (leL_s (leL_n (leL_e _)))))
set_option maxRecDepth 100000 in
set_option maxHeartbeats 4000000 in
theorem g_X7_keepWeek_28 (ids : List (Nat × Nat)) (Hn : Ndp ids)  (H0_29 : InR ids 0 29 56)  : ∀ (n : Nat) (v1 : Int32) (t0 : Sg), Gj kV mX7_keepWeek ids 28 [some (aR (0, 29)), some (aI v1), none, none] [] t0 (f_X7_keepWeek_28 n v1 t0) := by
  intro n
  induction n with
  | zero => intro v1 t0; exact G_none
  | succ n ih =>
    intro v1 t0
    rw [f_X7_keepWeek_28]
    refine G_st (x_iload_n dX7_keepWeek_28 rfl) ?_
    refine G_st (x_bipush (24 : Int32) dX7_keepWeek_29 rfl) ?_
    refine G_ite (fun c2 => ?_) (fun c2 => ?_)
    · refine G_st (x_icmp_ge_t (tgt := 147) dX7_keepWeek_31 (by decide) c2) ?_
      refine G_st (x_aload_n dX7_keepWeek_147 rfl) ?_
      refine G_st (x_dup dX7_keepWeek_148 rfl) ?_
      refine G_st (x_get (k := 3) (aI (t0 (0, 29) 3)) dX7_keepWeek_149 (H0_29 29 (Nat.le_of_ble_eq_true rfl) (Nat.le_of_ble_eq_true rfl)) rfl rfl rfl rfl inTX7 (Nat.le_of_ble_eq_true rfl) tw_850 (fun ad => rfl)) ?_
      refine G_st (x_iconst (1 : Int32) dX7_keepWeek_152 rfl) ?_
      refine G_st (x_iadd dX7_keepWeek_153) ?_
      refine G_st (x_put (k := 3) (ty := .int) (v := aI ((t0 (0, 29) 3) + (1 : Int32))) (z := ((t0 (0, 29) 3) + (1 : Int32))) (upS t0 (0, 29) 3 ((t0 (0, 29) 3) + (1 : Int32))) dX7_keepWeek_154 (H0_29 29 (Nat.le_of_ble_eq_true rfl) (Nat.le_of_ble_eq_true rfl)) rfl rfl rfl rfl inTX7 tyX7_ok nmX7 (Nat.le_of_ble_eq_true rfl) tw_850 rfl rfl (fun ad => rfl) (fun ad => rfl) (fun ad => put_i0 ad _ _ _ _ rfl) rfl) ?_
      refine G_bvS (fun t3 => ?_)
      exact G_ret rfl ⟨rfl, dX7_keepWeek_157⟩ rfl
    · refine G_st (x_icmp_ge_f 147 dX7_keepWeek_31 (by decide) c2) ?_
      refine G_st (x_aload_n dX7_keepWeek_34 rfl) ?_
      refine G_st (x_get (k := 11) (aR (0, 36)) dX7_keepWeek_35 (H0_29 29 (Nat.le_of_ble_eq_true rfl) (Nat.le_of_ble_eq_true rfl)) rfl rfl rfl rfl inTX7 (Nat.le_of_ble_eq_true rfl) tw_858 (fun ad => rfl)) ?_
      refine G_st (x_iload_n dX7_keepWeek_38 rfl) ?_
      refine G_st (x_ldc dX7_keepWeek_39 tw_1197) ?_
      refine G_st (x_aload_n dX7_keepWeek_41 rfl) ?_
      refine G_st (x_get (k := 11) (aR (0, 36)) dX7_keepWeek_42 (H0_29 29 (Nat.le_of_ble_eq_true rfl) (Nat.le_of_ble_eq_true rfl)) rfl rfl rfl rfl inTX7 (Nat.le_of_ble_eq_true rfl) tw_858 (fun ad => rfl)) ?_
      refine G_st (x_iload_n dX7_keepWeek_45 rfl) ?_
      refine G_chk (fun c4 => ?_)
      refine G_st (x_iaload dX7_keepWeek_46 (H0_29 36 (Nat.le_of_ble_eq_true rfl) (Nat.le_of_ble_eq_true rfl)) rfl c4) ?_
      refine G_st (x_aload_n dX7_keepWeek_47 rfl) ?_
      refine G_st (x_get (k := 21) (aR (0, 45)) dX7_keepWeek_48 (H0_29 29 (Nat.le_of_ble_eq_true rfl) (Nat.le_of_ble_eq_true rfl)) rfl rfl rfl rfl inTX7 (Nat.le_of_ble_eq_true rfl) tw_868 (fun ad => rfl)) ?_
      refine G_st (x_iload_n dX7_keepWeek_51 rfl) ?_
      refine G_chk (fun c5 => ?_)
      refine G_st (x_iaload dX7_keepWeek_52 (H0_29 45 (Nat.le_of_ble_eq_true rfl) (Nat.le_of_ble_eq_true rfl)) rfl c5) ?_
      refine G_st (x_iadd dX7_keepWeek_53) ?_
      refine G_bd (fun x6 t7 h8 => ?_)
      refine G_st (x_callS [aI v1, aR (0, 36)] (c_X7_lesser ids Hn (99999 : Int32) ((t0 (0, 36) (v1).toNatClampNeg) + (t0 (0, 45) (v1).toNatClampNeg))  _ _ _ h8) dX7_keepWeek_54 tw_1062 kc_X7_lesser rfl ⟨Nat.le_of_ble_eq_true rfl, Nat.le_of_ble_eq_true rfl⟩ (Nat.le_of_ble_eq_true rfl) rfl) ?_
      refine G_chk (fun c9 => ?_)
      refine G_st (x_iastore dX7_keepWeek_57 (H0_29 36 (Nat.le_of_ble_eq_true rfl) (Nat.le_of_ble_eq_true rfl)) rfl c9) ?_
      refine G_bvS (fun t10 => ?_)
      refine G_st (x_aload_n dX7_keepWeek_58 rfl) ?_
      refine G_st (x_get (k := 12) (aR (0, 37)) dX7_keepWeek_59 (H0_29 29 (Nat.le_of_ble_eq_true rfl) (Nat.le_of_ble_eq_true rfl)) rfl rfl rfl rfl inTX7 (Nat.le_of_ble_eq_true rfl) tw_859 (fun ad => rfl)) ?_
      refine G_st (x_iload_n dX7_keepWeek_62 rfl) ?_
      refine G_st (x_iconst (0 : Int32) dX7_keepWeek_63 rfl) ?_
      refine G_chk (fun c11 => ?_)
      refine G_st (x_iastore dX7_keepWeek_64 (H0_29 37 (Nat.le_of_ble_eq_true rfl) (Nat.le_of_ble_eq_true rfl)) rfl c11) ?_
      refine G_bvS (fun t12 => ?_)
      refine G_st (x_iconst (0 : Int32) dX7_keepWeek_65 rfl) ?_
      refine G_st (x_istore_n [some (aR (0, 29)), some (aI v1), some (aI (0 : Int32)), none] dX7_keepWeek_66 (Nat.le_of_ble_eq_true rfl) rfl rfl) ?_
      refine G_weak _ ?_ (g_X7_keepWeek_67 ids Hn H0_29 (f_X7_keepWeek_28 n) (ih) fuel v1 (0 : Int32) t12)
      exact (leL_s (leL_s (leL_s (leL_n (leL_e _)))))
set_option maxRecDepth 100000 in
set_option maxHeartbeats 4000000 in
theorem g_X7_keepWeek_2 (ids : List (Nat × Nat)) (Hn : Ndp ids)  (H0_29 : InR ids 0 29 56)  : ∀ (n : Nat) (v1 : Int32) (t0 : Sg), Gj kV mX7_keepWeek ids 2 [some (aR (0, 29)), some (aI v1), none, none] [] t0 (f_X7_keepWeek_2 n v1 t0) := by
  intro n
  induction n with
  | zero => intro v1 t0; exact G_none
  | succ n ih =>
    intro v1 t0
    rw [f_X7_keepWeek_2]
    refine G_st (x_iload_n dX7_keepWeek_2 rfl) ?_
    refine G_st (x_bipush (24 : Int32) dX7_keepWeek_3 rfl) ?_
    refine G_ite (fun c1 => ?_) (fun c1 => ?_)
    · refine G_st (x_icmp_ge_t (tgt := 26) dX7_keepWeek_5 (by decide) c1) ?_
      refine G_st (x_iconst (0 : Int32) dX7_keepWeek_26 rfl) ?_
      refine G_st (x_istore_n [some (aR (0, 29)), some (aI (0 : Int32)), none, none] dX7_keepWeek_27 (Nat.le_of_ble_eq_true rfl) rfl rfl) ?_
      refine G_weak _ ?_ (g_X7_keepWeek_28 ids Hn H0_29 fuel (0 : Int32) t0)
      exact (leL_s (leL_s (leL_n (leL_n (leL_e _)))))
    · refine G_st (x_icmp_ge_f 26 dX7_keepWeek_5 (by decide) c1) ?_
      refine G_st (x_aload_n dX7_keepWeek_8 rfl) ?_
      refine G_st (x_get (k := 6) (aR (0, 31)) dX7_keepWeek_9 (H0_29 29 (Nat.le_of_ble_eq_true rfl) (Nat.le_of_ble_eq_true rfl)) rfl rfl rfl rfl inTX7 (Nat.le_of_ble_eq_true rfl) tw_853 (fun ad => rfl)) ?_
      refine G_st (x_iload_n dX7_keepWeek_12 rfl) ?_
      refine G_st (x_aload_n dX7_keepWeek_13 rfl) ?_
      refine G_st (x_get (k := 20) (aR (0, 44)) dX7_keepWeek_14 (H0_29 29 (Nat.le_of_ble_eq_true rfl) (Nat.le_of_ble_eq_true rfl)) rfl rfl rfl rfl inTX7 (Nat.le_of_ble_eq_true rfl) tw_867 (fun ad => rfl)) ?_
      refine G_st (x_iload_n dX7_keepWeek_17 rfl) ?_
      refine G_chk (fun c27 => ?_)
      refine G_st (x_iaload dX7_keepWeek_18 (H0_29 44 (Nat.le_of_ble_eq_true rfl) (Nat.le_of_ble_eq_true rfl)) rfl c27) ?_
      refine G_chk (fun c28 => ?_)
      refine G_st (x_iastore dX7_keepWeek_19 (H0_29 31 (Nat.le_of_ble_eq_true rfl) (Nat.le_of_ble_eq_true rfl)) rfl c28) ?_
      refine G_bvS (fun t29 => ?_)
      refine G_st (x_iinc (v1 + (1 : Int32)) [some (aR (0, 29)), some (aI (v1 + (1 : Int32))), none, none] dX7_keepWeek_20 (Nat.le_of_ble_eq_true rfl) rfl rfl rfl rfl) ?_
      refine G_st (x_goto (tgt := 2) dX7_keepWeek_23 (by decide)) ?_
      refine G_weak _ ?_ ((ih) (v1 + (1 : Int32)) t29)
      exact (leL_s (leL_s (leL_n (leL_n (leL_e _)))))
set_option maxRecDepth 100000 in
set_option maxHeartbeats 4000000 in
theorem g_X7_keepWeek (ids : List (Nat × Nat)) (Hn : Ndp ids)  (H0_29 : InR ids 0 29 56) (t0 : Sg) : Gj kV mX7_keepWeek ids 0 [some (aR (0, 29)), none, none, none] [] t0 (f_X7_keepWeek t0) := by
  unfold f_X7_keepWeek
  refine G_st (x_iconst (0 : Int32) dX7_keepWeek_0 rfl) ?_
  refine G_st (x_istore_n [some (aR (0, 29)), some (aI (0 : Int32)), none, none] dX7_keepWeek_1 (Nat.le_of_ble_eq_true rfl) rfl rfl) ?_
  refine G_weak _ ?_ (g_X7_keepWeek_2 ids Hn H0_29 fuel (0 : Int32) t0)
  exact (leL_s (leL_s (leL_n (leL_n (leL_e _)))))
set_option maxRecDepth 100000 in
set_option maxHeartbeats 4000000 in
theorem c_X7_keepWeek (ids : List (Nat × Nat)) (Hn : Ndp ids)  (H0_29 : InR ids 0 29 56) (t0 : Sg) (r : Unit) (t1 : Sg) (hf : f_X7_keepWeek t0 = some (r, t1)) : Mt0 mX7_keepWeek yX7_keepWeek ids [aR (0, 29)] t0 none t1 :=
  Mt_of (x := (r, t1)) (g_X7_keepWeek ids Hn  H0_29 t0) hf (fun _ _ => trivial) (by decide) rfl Hn (fun _ => rfl) (fun _ => Nat.le_of_ble_eq_true rfl)
theorem dX7_feed_0 : decode cX7_feed 0 = .ok (.aload_n 0, 1) := by decide +kernel
theorem dX7_feed_1 : decode cX7_feed 1 = .ok (.iconst 0, 1) := by decide +kernel
theorem dX7_feed_2 : decode cX7_feed 2 = .ok (.putfield 98, 3) := by decide +kernel
theorem dX7_feed_5 : decode cX7_feed 5 = .ok (.iload_n 1, 1) := by decide +kernel
theorem dX7_feed_6 : decode cX7_feed 6 = .ok (.ifCond .ge 10, 3) := by decide +kernel
theorem dX7_feed_9 : decode cX7_feed 9 = .ok (.aload_n 0, 1) := by decide +kernel
theorem dX7_feed_10 : decode cX7_feed 10 = .ok (.bipush (-4), 2) := by decide +kernel
theorem dX7_feed_12 : decode cX7_feed 12 = .ok (.invokevirtual 167, 3) := by decide +kernel
theorem dX7_feed_15 : decode cX7_feed 15 = .ok (.ireturn, 1) := by decide +kernel
theorem dX7_feed_16 : decode cX7_feed 16 = .ok (.iload_n 1, 1) := by decide +kernel
theorem dX7_feed_17 : decode cX7_feed 17 = .ok (.sipush 255, 3) := by decide +kernel
theorem dX7_feed_20 : decode cX7_feed 20 = .ok (.if_icmp .gt 12, 3) := by decide +kernel
theorem dX7_feed_23 : decode cX7_feed 23 = .ok (.aload_n 0, 1) := by decide +kernel
theorem dX7_feed_24 : decode cX7_feed 24 = .ok (.getfield 170, 3) := by decide +kernel
theorem dX7_feed_27 : decode cX7_feed 27 = .ok (.bipush 96, 2) := by decide +kernel
theorem dX7_feed_29 : decode cX7_feed 29 = .ok (.if_icmp .ne 10, 3) := by decide +kernel
theorem dX7_feed_32 : decode cX7_feed 32 = .ok (.aload_n 0, 1) := by decide +kernel
theorem dX7_feed_33 : decode cX7_feed 33 = .ok (.bipush (-6), 2) := by decide +kernel
theorem dX7_feed_35 : decode cX7_feed 35 = .ok (.invokevirtual 167, 3) := by decide +kernel
theorem dX7_feed_38 : decode cX7_feed 38 = .ok (.ireturn, 1) := by decide +kernel
theorem dX7_feed_39 : decode cX7_feed 39 = .ok (.aload_n 0, 1) := by decide +kernel
theorem dX7_feed_40 : decode cX7_feed 40 = .ok (.getfield 71, 3) := by decide +kernel
theorem dX7_feed_43 : decode cX7_feed 43 = .ok (.aload_n 0, 1) := by decide +kernel
theorem dX7_feed_44 : decode cX7_feed 44 = .ok (.getfield 170, 3) := by decide +kernel
theorem dX7_feed_47 : decode cX7_feed 47 = .ok (.iload_n 1, 1) := by decide +kernel
theorem dX7_feed_48 : decode cX7_feed 48 = .ok (.iastore, 1) := by decide +kernel
theorem dX7_feed_49 : decode cX7_feed 49 = .ok (.aload_n 0, 1) := by decide +kernel
theorem dX7_feed_50 : decode cX7_feed 50 = .ok (.dup, 1) := by decide +kernel
theorem dX7_feed_51 : decode cX7_feed 51 = .ok (.getfield 170, 3) := by decide +kernel
theorem dX7_feed_54 : decode cX7_feed 54 = .ok (.iconst 1, 1) := by decide +kernel
theorem dX7_feed_55 : decode cX7_feed 55 = .ok (.iadd, 1) := by decide +kernel
theorem dX7_feed_56 : decode cX7_feed 56 = .ok (.putfield 170, 3) := by decide +kernel
theorem dX7_feed_59 : decode cX7_feed 59 = .ok (.aload_n 0, 1) := by decide +kernel
theorem dX7_feed_60 : decode cX7_feed 60 = .ok (.getfield 170, 3) := by decide +kernel
theorem dX7_feed_63 : decode cX7_feed 63 = .ok (.ireturn, 1) := by decide +kernel
set_option maxRecDepth 100000 in
set_option maxHeartbeats 4000000 in
theorem g_X7_feed_32 (ids : List (Nat × Nat)) (Hn : Ndp ids)  (H0_29 : InR ids 0 29 56)   (t0 : Sg) : Gj kI mX7_feed ids 32 [some (aR (0, 29)), none] [] t0 (f_X7_feed_32 t0) := by
  unfold f_X7_feed_32
  refine G_st (x_aload_n dX7_feed_32 rfl) ?_
  refine G_st (x_bipush (-6 : Int32) dX7_feed_33 rfl) ?_
  refine G_bd (fun x4 t5 h6 => ?_)
  refine G_st (x_callV [] (c_X7_refuse ids Hn (-6 : Int32) H0_29 _ _ _ h6) dX7_feed_35 tw_981 kc_X7_refuse (H0_29 29 (Nat.le_of_ble_eq_true rfl) (Nat.le_of_ble_eq_true rfl)) rfl rfl rfl rfl ⟨Nat.le_of_ble_eq_true rfl, Nat.le_of_ble_eq_true rfl⟩ (Nat.le_of_ble_eq_true rfl) rfl) ?_
  exact G_ret rfl ⟨dX7_feed_38, _, rfl, rfl⟩ rfl
set_option maxRecDepth 100000 in
set_option maxHeartbeats 4000000 in
theorem g_X7_feed (ids : List (Nat × Nat)) (Hn : Ndp ids) (v1 : Int32) (H0_29 : InR ids 0 29 56) (t0 : Sg) : Gj kI mX7_feed ids 0 [some (aR (0, 29)), some (aI v1)] [] t0 (f_X7_feed v1 t0) := by
  unfold f_X7_feed
  refine G_st (x_aload_n dX7_feed_0 rfl) ?_
  refine G_st (x_iconst (0 : Int32) dX7_feed_1 rfl) ?_
  refine G_st (x_put (k := 18) (ty := .int) (v := aI (0 : Int32)) (z := (0 : Int32)) (upS t0 (0, 29) 18 (0 : Int32)) dX7_feed_2 (H0_29 29 (Nat.le_of_ble_eq_true rfl) (Nat.le_of_ble_eq_true rfl)) rfl rfl rfl rfl inTX7 tyX7_ok nmX7 (Nat.le_of_ble_eq_true rfl) tw_865 rfl rfl (fun ad => rfl) (fun ad => rfl) (fun ad => put_i0 ad _ _ _ _ rfl) rfl) ?_
  refine G_bvS (fun t1 => ?_)
  refine G_st (x_iload_n dX7_feed_5 rfl) ?_
  refine G_ite (fun c2 => ?_) (fun c2 => ?_)
  · refine G_st (x_if_ge_t (tgt := 16) dX7_feed_6 (by decide) c2) ?_
    refine G_st (x_iload_n dX7_feed_16 rfl) ?_
    refine G_st (x_sipush (255 : Int32) dX7_feed_17 rfl) ?_
    refine G_ite (fun c3 => ?_) (fun c3 => ?_)
    · refine G_st (x_icmp_gt_t (tgt := 32) dX7_feed_20 (by decide) c3) ?_
      refine G_weak _ ?_ (g_X7_feed_32 ids Hn H0_29 t1)
      exact (leL_s (leL_n (leL_e _)))
    · refine G_st (x_icmp_gt_f 32 dX7_feed_20 (by decide) c3) ?_
      refine G_st (x_aload_n dX7_feed_23 rfl) ?_
      refine G_st (x_get (k := 26) (aI (t1 (0, 29) 26)) dX7_feed_24 (H0_29 29 (Nat.le_of_ble_eq_true rfl) (Nat.le_of_ble_eq_true rfl)) rfl rfl rfl rfl inTX7 (Nat.le_of_ble_eq_true rfl) tw_873 (fun ad => rfl)) ?_
      refine G_st (x_bipush (96 : Int32) dX7_feed_27 rfl) ?_
      refine G_ite (fun c7 => ?_) (fun c7 => ?_)
      · refine G_st (x_icmp_ne_f 39 dX7_feed_29 (by decide) c7) ?_
        refine G_weak _ ?_ (g_X7_feed_32 ids Hn H0_29 t1)
        exact (leL_s (leL_n (leL_e _)))
      · refine G_st (x_icmp_ne_t (tgt := 39) dX7_feed_29 (by decide) c7) ?_
        refine G_st (x_aload_n dX7_feed_39 rfl) ?_
        refine G_st (x_get (k := 25) (aR (0, 48)) dX7_feed_40 (H0_29 29 (Nat.le_of_ble_eq_true rfl) (Nat.le_of_ble_eq_true rfl)) rfl rfl rfl rfl inTX7 (Nat.le_of_ble_eq_true rfl) tw_872 (fun ad => rfl)) ?_
        refine G_st (x_aload_n dX7_feed_43 rfl) ?_
        refine G_st (x_get (k := 26) (aI (t1 (0, 29) 26)) dX7_feed_44 (H0_29 29 (Nat.le_of_ble_eq_true rfl) (Nat.le_of_ble_eq_true rfl)) rfl rfl rfl rfl inTX7 (Nat.le_of_ble_eq_true rfl) tw_873 (fun ad => rfl)) ?_
        refine G_st (x_iload_n dX7_feed_47 rfl) ?_
        refine G_chk (fun c8 => ?_)
        refine G_st (x_iastore dX7_feed_48 (H0_29 48 (Nat.le_of_ble_eq_true rfl) (Nat.le_of_ble_eq_true rfl)) rfl c8) ?_
        refine G_bvS (fun t9 => ?_)
        refine G_st (x_aload_n dX7_feed_49 rfl) ?_
        refine G_st (x_dup dX7_feed_50 rfl) ?_
        refine G_st (x_get (k := 26) (aI (t9 (0, 29) 26)) dX7_feed_51 (H0_29 29 (Nat.le_of_ble_eq_true rfl) (Nat.le_of_ble_eq_true rfl)) rfl rfl rfl rfl inTX7 (Nat.le_of_ble_eq_true rfl) tw_873 (fun ad => rfl)) ?_
        refine G_st (x_iconst (1 : Int32) dX7_feed_54 rfl) ?_
        refine G_st (x_iadd dX7_feed_55) ?_
        refine G_st (x_put (k := 26) (ty := .int) (v := aI ((t9 (0, 29) 26) + (1 : Int32))) (z := ((t9 (0, 29) 26) + (1 : Int32))) (upS t9 (0, 29) 26 ((t9 (0, 29) 26) + (1 : Int32))) dX7_feed_56 (H0_29 29 (Nat.le_of_ble_eq_true rfl) (Nat.le_of_ble_eq_true rfl)) rfl rfl rfl rfl inTX7 tyX7_ok nmX7 (Nat.le_of_ble_eq_true rfl) tw_873 rfl rfl (fun ad => rfl) (fun ad => rfl) (fun ad => put_i0 ad _ _ _ _ rfl) rfl) ?_
        refine G_bvS (fun t10 => ?_)
        refine G_st (x_aload_n dX7_feed_59 rfl) ?_
        refine G_st (x_get (k := 26) (aI (t10 (0, 29) 26)) dX7_feed_60 (H0_29 29 (Nat.le_of_ble_eq_true rfl) (Nat.le_of_ble_eq_true rfl)) rfl rfl rfl rfl inTX7 (Nat.le_of_ble_eq_true rfl) tw_873 (fun ad => rfl)) ?_
        exact G_ret rfl ⟨dX7_feed_63, _, rfl, rfl⟩ rfl
  · refine G_st (x_if_ge_f 16 dX7_feed_6 (by decide) c2) ?_
    refine G_st (x_aload_n dX7_feed_9 rfl) ?_
    refine G_st (x_bipush (-4 : Int32) dX7_feed_10 rfl) ?_
    refine G_bd (fun x11 t12 h13 => ?_)
    refine G_st (x_callV [] (c_X7_refuse ids Hn (-4 : Int32) H0_29 _ _ _ h13) dX7_feed_12 tw_981 kc_X7_refuse (H0_29 29 (Nat.le_of_ble_eq_true rfl) (Nat.le_of_ble_eq_true rfl)) rfl rfl rfl rfl ⟨Nat.le_of_ble_eq_true rfl, Nat.le_of_ble_eq_true rfl⟩ (Nat.le_of_ble_eq_true rfl) rfl) ?_
    exact G_ret rfl ⟨dX7_feed_15, _, rfl, rfl⟩ rfl
set_option maxRecDepth 100000 in
set_option maxHeartbeats 4000000 in
theorem c_X7_feed (ids : List (Nat × Nat)) (Hn : Ndp ids) (v1 : Int32) (H0_29 : InR ids 0 29 56) (t0 : Sg) (r : Int32) (t1 : Sg) (hf : f_X7_feed v1 t0 = some (r, t1)) : Mt0 mX7_feed yX7_feed ids [aR (0, 29), aI v1] t0 (some (aI r)) t1 :=
  Mt_of (x := (r, t1)) (g_X7_feed ids Hn v1 H0_29 t0) hf (fun _ _ => trivial) (by decide) rfl Hn (fun _ => rfl) (fun _ => Nat.le_of_ble_eq_true rfl)
theorem dX7_here_0 : decode cX7_here 0 = .ok (.aload_n 0, 1) := by decide +kernel
theorem dX7_here_1 : decode cX7_here 1 = .ok (.getfield 173, 3) := by decide +kernel
theorem dX7_here_4 : decode cX7_here 4 = .ok (.aload_n 0, 1) := by decide +kernel
theorem dX7_here_5 : decode cX7_here 5 = .ok (.getfield 170, 3) := by decide +kernel
theorem dX7_here_8 : decode cX7_here 8 = .ok (.if_icmp .ge 15, 3) := by decide +kernel
theorem dX7_here_11 : decode cX7_here 11 = .ok (.aload_n 0, 1) := by decide +kernel
theorem dX7_here_12 : decode cX7_here 12 = .ok (.getfield 71, 3) := by decide +kernel
theorem dX7_here_15 : decode cX7_here 15 = .ok (.aload_n 0, 1) := by decide +kernel
theorem dX7_here_16 : decode cX7_here 16 = .ok (.getfield 173, 3) := by decide +kernel
theorem dX7_here_19 : decode cX7_here 19 = .ok (.iaload, 1) := by decide +kernel
theorem dX7_here_20 : decode cX7_here 20 = .ok (.goto 4, 3) := by decide +kernel
theorem dX7_here_23 : decode cX7_here 23 = .ok (.iconst (-1), 1) := by decide +kernel
theorem dX7_here_24 : decode cX7_here 24 = .ok (.ireturn, 1) := by decide +kernel
set_option maxRecDepth 100000 in
set_option maxHeartbeats 4000000 in
theorem g_X7_here (ids : List (Nat × Nat)) (Hn : Ndp ids)  (H0_29 : InR ids 0 29 56) (t0 : Sg) : Gj kI mX7_here ids 0 [some (aR (0, 29))] [] t0 (f_X7_here t0) := by
  unfold f_X7_here
  refine G_st (x_aload_n dX7_here_0 rfl) ?_
  refine G_st (x_get (k := 27) (aI (t0 (0, 29) 27)) dX7_here_1 (H0_29 29 (Nat.le_of_ble_eq_true rfl) (Nat.le_of_ble_eq_true rfl)) rfl rfl rfl rfl inTX7 (Nat.le_of_ble_eq_true rfl) tw_874 (fun ad => rfl)) ?_
  refine G_st (x_aload_n dX7_here_4 rfl) ?_
  refine G_st (x_get (k := 26) (aI (t0 (0, 29) 26)) dX7_here_5 (H0_29 29 (Nat.le_of_ble_eq_true rfl) (Nat.le_of_ble_eq_true rfl)) rfl rfl rfl rfl inTX7 (Nat.le_of_ble_eq_true rfl) tw_873 (fun ad => rfl)) ?_
  refine G_ite (fun c1 => ?_) (fun c1 => ?_)
  · refine G_st (x_icmp_ge_t (tgt := 23) dX7_here_8 (by decide) c1) ?_
    refine G_st (x_iconst (-1 : Int32) dX7_here_23 rfl) ?_
    exact G_ret rfl ⟨dX7_here_24, _, rfl, rfl⟩ rfl
  · refine G_st (x_icmp_ge_f 23 dX7_here_8 (by decide) c1) ?_
    refine G_st (x_aload_n dX7_here_11 rfl) ?_
    refine G_st (x_get (k := 25) (aR (0, 48)) dX7_here_12 (H0_29 29 (Nat.le_of_ble_eq_true rfl) (Nat.le_of_ble_eq_true rfl)) rfl rfl rfl rfl inTX7 (Nat.le_of_ble_eq_true rfl) tw_872 (fun ad => rfl)) ?_
    refine G_st (x_aload_n dX7_here_15 rfl) ?_
    refine G_st (x_get (k := 27) (aI (t0 (0, 29) 27)) dX7_here_16 (H0_29 29 (Nat.le_of_ble_eq_true rfl) (Nat.le_of_ble_eq_true rfl)) rfl rfl rfl rfl inTX7 (Nat.le_of_ble_eq_true rfl) tw_874 (fun ad => rfl)) ?_
    refine G_chk (fun c2 => ?_)
    refine G_st (x_iaload dX7_here_19 (H0_29 48 (Nat.le_of_ble_eq_true rfl) (Nat.le_of_ble_eq_true rfl)) rfl c2) ?_
    refine G_st (x_goto (tgt := 24) dX7_here_20 (by decide)) ?_
    exact G_ret rfl ⟨dX7_here_24, _, rfl, rfl⟩ rfl
set_option maxRecDepth 100000 in
set_option maxHeartbeats 4000000 in
theorem c_X7_here (ids : List (Nat × Nat)) (Hn : Ndp ids)  (H0_29 : InR ids 0 29 56) (t0 : Sg) (r : Int32) (t1 : Sg) (hf : f_X7_here t0 = some (r, t1)) : Mt0 mX7_here yX7_here ids [aR (0, 29)] t0 (some (aI r)) t1 :=
  Mt_of (x := (r, t1)) (g_X7_here ids Hn  H0_29 t0) hf (fun _ _ => trivial) (by decide) rfl Hn (fun _ => rfl) (fun _ => Nat.le_of_ble_eq_true rfl)
theorem dX7_readDigit_0 : decode cX7_readDigit 0 = .ok (.aload_n 0, 1) := by decide +kernel
theorem dX7_readDigit_1 : decode cX7_readDigit 1 = .ok (.aload_n 0, 1) := by decide +kernel
theorem dX7_readDigit_2 : decode cX7_readDigit 2 = .ok (.getfield 176, 3) := by decide +kernel
theorem dX7_readDigit_5 : decode cX7_readDigit 5 = .ok (.ifCond .ne 20, 3) := by decide +kernel
theorem dX7_readDigit_8 : decode cX7_readDigit 8 = .ok (.aload_n 0, 1) := by decide +kernel
theorem dX7_readDigit_9 : decode cX7_readDigit 9 = .ok (.invokevirtual 180, 3) := by decide +kernel
theorem dX7_readDigit_12 : decode cX7_readDigit 12 = .ok (.i2l, 1) := by decide +kernel
theorem dX7_readDigit_13 : decode cX7_readDigit 13 = .ok (.ldc2_w 183, 3) := by decide +kernel
theorem dX7_readDigit_16 : decode cX7_readDigit 16 = .ok (.ldc2_w 185, 3) := by decide +kernel
theorem dX7_readDigit_19 : decode cX7_readDigit 19 = .ok (.invokestatic 111, 3) := by decide +kernel
theorem dX7_readDigit_22 : decode cX7_readDigit 22 = .ok (.ifCond .ne 7, 3) := by decide +kernel
theorem dX7_readDigit_25 : decode cX7_readDigit 25 = .ok (.iconst 1, 1) := by decide +kernel
theorem dX7_readDigit_26 : decode cX7_readDigit 26 = .ok (.goto 4, 3) := by decide +kernel
theorem dX7_readDigit_29 : decode cX7_readDigit 29 = .ok (.iconst 0, 1) := by decide +kernel
theorem dX7_readDigit_30 : decode cX7_readDigit 30 = .ok (.putfield 176, 3) := by decide +kernel
theorem dX7_readDigit_33 : decode cX7_readDigit 33 = .ok (.aload_n 0, 1) := by decide +kernel
theorem dX7_readDigit_34 : decode cX7_readDigit 34 = .ok (.getfield 176, 3) := by decide +kernel
theorem dX7_readDigit_37 : decode cX7_readDigit 37 = .ok (.ifCond .eq 5, 3) := by decide +kernel
theorem dX7_readDigit_40 : decode cX7_readDigit 40 = .ok (.iconst 0, 1) := by decide +kernel
theorem dX7_readDigit_41 : decode cX7_readDigit 41 = .ok (.ireturn, 1) := by decide +kernel
theorem dX7_readDigit_42 : decode cX7_readDigit 42 = .ok (.aload_n 0, 1) := by decide +kernel
theorem dX7_readDigit_43 : decode cX7_readDigit 43 = .ok (.dup, 1) := by decide +kernel
theorem dX7_readDigit_44 : decode cX7_readDigit 44 = .ok (.getfield 173, 3) := by decide +kernel
theorem dX7_readDigit_47 : decode cX7_readDigit 47 = .ok (.iconst 1, 1) := by decide +kernel
theorem dX7_readDigit_48 : decode cX7_readDigit 48 = .ok (.iadd, 1) := by decide +kernel
theorem dX7_readDigit_49 : decode cX7_readDigit 49 = .ok (.putfield 173, 3) := by decide +kernel
theorem dX7_readDigit_52 : decode cX7_readDigit 52 = .ok (.aload_n 0, 1) := by decide +kernel
theorem dX7_readDigit_53 : decode cX7_readDigit 53 = .ok (.getfield 71, 3) := by decide +kernel
theorem dX7_readDigit_56 : decode cX7_readDigit 56 = .ok (.aload_n 0, 1) := by decide +kernel
theorem dX7_readDigit_57 : decode cX7_readDigit 57 = .ok (.getfield 173, 3) := by decide +kernel
theorem dX7_readDigit_60 : decode cX7_readDigit 60 = .ok (.iconst 1, 1) := by decide +kernel
theorem dX7_readDigit_61 : decode cX7_readDigit 61 = .ok (.isub, 1) := by decide +kernel
theorem dX7_readDigit_62 : decode cX7_readDigit 62 = .ok (.iaload, 1) := by decide +kernel
theorem dX7_readDigit_63 : decode cX7_readDigit 63 = .ok (.bipush 48, 2) := by decide +kernel
theorem dX7_readDigit_65 : decode cX7_readDigit 65 = .ok (.isub, 1) := by decide +kernel
theorem dX7_readDigit_66 : decode cX7_readDigit 66 = .ok (.ireturn, 1) := by decide +kernel
set_option maxRecDepth 100000 in
set_option maxHeartbeats 4000000 in
theorem g_X7_readDigit_30 (ids : List (Nat × Nat)) (Hn : Ndp ids)  (H0_29 : InR ids 0 29 56)  (w0 : Int32) (t0 : Sg) : Gj kI mX7_readDigit ids 30 [some (aR (0, 29))] [aI w0, aR (0, 29)] t0 (f_X7_readDigit_30 w0 t0) := by
  unfold f_X7_readDigit_30
  refine G_chk (fun c10 => ?_)
  refine G_st (x_put (k := 28) (ty := .boolean) (v := aI w0) (z := w0) (upS t0 (0, 29) 28 w0) dX7_readDigit_30 (H0_29 29 (Nat.le_of_ble_eq_true rfl) (Nat.le_of_ble_eq_true rfl)) rfl rfl rfl rfl inTX7 tyX7_ok nmX7 (Nat.le_of_ble_eq_true rfl) tw_875 rfl rfl (fun ad => nar_b c10) (fun ad => fit_b c10) (fun ad => put_i1 ad _ _ _ _ rfl) rfl) ?_
  refine G_bvS (fun t9 => ?_)
  refine G_st (x_aload_n dX7_readDigit_33 rfl) ?_
  refine G_st (x_get (k := 28) (aI (t9 (0, 29) 28)) dX7_readDigit_34 (H0_29 29 (Nat.le_of_ble_eq_true rfl) (Nat.le_of_ble_eq_true rfl)) rfl rfl rfl rfl inTX7 (Nat.le_of_ble_eq_true rfl) tw_875 (fun ad => rfl)) ?_
  refine G_ite (fun c11 => ?_) (fun c11 => ?_)
  · refine G_st (x_if_eq_t (tgt := 42) dX7_readDigit_37 (by decide) c11) ?_
    refine G_st (x_aload_n dX7_readDigit_42 rfl) ?_
    refine G_st (x_dup dX7_readDigit_43 rfl) ?_
    refine G_st (x_get (k := 27) (aI (t9 (0, 29) 27)) dX7_readDigit_44 (H0_29 29 (Nat.le_of_ble_eq_true rfl) (Nat.le_of_ble_eq_true rfl)) rfl rfl rfl rfl inTX7 (Nat.le_of_ble_eq_true rfl) tw_874 (fun ad => rfl)) ?_
    refine G_st (x_iconst (1 : Int32) dX7_readDigit_47 rfl) ?_
    refine G_st (x_iadd dX7_readDigit_48) ?_
    refine G_st (x_put (k := 27) (ty := .int) (v := aI ((t9 (0, 29) 27) + (1 : Int32))) (z := ((t9 (0, 29) 27) + (1 : Int32))) (upS t9 (0, 29) 27 ((t9 (0, 29) 27) + (1 : Int32))) dX7_readDigit_49 (H0_29 29 (Nat.le_of_ble_eq_true rfl) (Nat.le_of_ble_eq_true rfl)) rfl rfl rfl rfl inTX7 tyX7_ok nmX7 (Nat.le_of_ble_eq_true rfl) tw_874 rfl rfl (fun ad => rfl) (fun ad => rfl) (fun ad => put_i0 ad _ _ _ _ rfl) rfl) ?_
    refine G_bvS (fun t12 => ?_)
    refine G_st (x_aload_n dX7_readDigit_52 rfl) ?_
    refine G_st (x_get (k := 25) (aR (0, 48)) dX7_readDigit_53 (H0_29 29 (Nat.le_of_ble_eq_true rfl) (Nat.le_of_ble_eq_true rfl)) rfl rfl rfl rfl inTX7 (Nat.le_of_ble_eq_true rfl) tw_872 (fun ad => rfl)) ?_
    refine G_st (x_aload_n dX7_readDigit_56 rfl) ?_
    refine G_st (x_get (k := 27) (aI (t12 (0, 29) 27)) dX7_readDigit_57 (H0_29 29 (Nat.le_of_ble_eq_true rfl) (Nat.le_of_ble_eq_true rfl)) rfl rfl rfl rfl inTX7 (Nat.le_of_ble_eq_true rfl) tw_874 (fun ad => rfl)) ?_
    refine G_st (x_iconst (1 : Int32) dX7_readDigit_60 rfl) ?_
    refine G_st (x_isub dX7_readDigit_61) ?_
    refine G_chk (fun c13 => ?_)
    refine G_st (x_iaload dX7_readDigit_62 (H0_29 48 (Nat.le_of_ble_eq_true rfl) (Nat.le_of_ble_eq_true rfl)) rfl c13) ?_
    refine G_st (x_bipush (48 : Int32) dX7_readDigit_63 rfl) ?_
    refine G_st (x_isub dX7_readDigit_65) ?_
    exact G_ret rfl ⟨dX7_readDigit_66, _, rfl, rfl⟩ rfl
  · refine G_st (x_if_eq_f 42 dX7_readDigit_37 (by decide) c11) ?_
    refine G_st (x_iconst (0 : Int32) dX7_readDigit_40 rfl) ?_
    exact G_ret rfl ⟨dX7_readDigit_41, _, rfl, rfl⟩ rfl
set_option maxRecDepth 100000 in
set_option maxHeartbeats 4000000 in
theorem g_X7_readDigit_25 (ids : List (Nat × Nat)) (Hn : Ndp ids)  (H0_29 : InR ids 0 29 56)   (t0 : Sg) : Gj kI mX7_readDigit ids 25 [some (aR (0, 29))] [aR (0, 29)] t0 (f_X7_readDigit_25 t0) := by
  unfold f_X7_readDigit_25
  refine G_st (x_iconst (1 : Int32) dX7_readDigit_25 rfl) ?_
  refine G_st (x_goto (tgt := 30) dX7_readDigit_26 (by decide)) ?_
  refine G_weak _ ?_ (g_X7_readDigit_30 ids Hn H0_29 (1 : Int32) t0)
  exact (leL_s (leL_e _))
set_option maxRecDepth 100000 in
set_option maxHeartbeats 4000000 in
theorem g_X7_readDigit (ids : List (Nat × Nat)) (Hn : Ndp ids)  (H0_29 : InR ids 0 29 56) (t0 : Sg) : Gj kI mX7_readDigit ids 0 [some (aR (0, 29))] [] t0 (f_X7_readDigit t0) := by
  unfold f_X7_readDigit
  refine G_st (x_aload_n dX7_readDigit_0 rfl) ?_
  refine G_st (x_aload_n dX7_readDigit_1 rfl) ?_
  refine G_st (x_get (k := 28) (aI (t0 (0, 29) 28)) dX7_readDigit_2 (H0_29 29 (Nat.le_of_ble_eq_true rfl) (Nat.le_of_ble_eq_true rfl)) rfl rfl rfl rfl inTX7 (Nat.le_of_ble_eq_true rfl) tw_875 (fun ad => rfl)) ?_
  refine G_ite (fun c1 => ?_) (fun c1 => ?_)
  · refine G_st (x_if_ne_f 25 dX7_readDigit_5 (by decide) c1) ?_
    refine G_st (x_aload_n dX7_readDigit_8 rfl) ?_
    refine G_bd (fun x2 t3 h4 => ?_)
    refine G_st (x_callV [aR (0, 29)] (c_X7_here ids Hn  H0_29 _ _ _ h4) dX7_readDigit_9 tw_993 kc_X7_here (H0_29 29 (Nat.le_of_ble_eq_true rfl) (Nat.le_of_ble_eq_true rfl)) rfl rfl rfl rfl ⟨Nat.le_of_ble_eq_true rfl, Nat.le_of_ble_eq_true rfl⟩ (Nat.le_of_ble_eq_true rfl) rfl) ?_
    refine G_st (x_i2l dX7_readDigit_12) ?_
    refine G_st (x_ldc2 dX7_readDigit_13 tw_1001) ?_
    refine G_st (x_ldc2 dX7_readDigit_16 tw_1002) ?_
    refine G_bd (fun x5 t6 h7 => ?_)
    refine G_st (x_callS [aR (0, 29)] (c_X7_in ids Hn (x2).toInt64 (48 : Int64) (57 : Int64)  _ _ _ h7) dX7_readDigit_19 tw_1003 kc_X7_in rfl ⟨Nat.le_of_ble_eq_true rfl, Nat.le_of_ble_eq_true rfl⟩ (Nat.le_of_ble_eq_true rfl) rfl) ?_
    refine G_ite (fun c8 => ?_) (fun c8 => ?_)
    · refine G_st (x_if_ne_f 29 dX7_readDigit_22 (by decide) c8) ?_
      refine G_weak _ ?_ (g_X7_readDigit_25 ids Hn H0_29 t6)
      exact (leL_s (leL_e _))
    · refine G_st (x_if_ne_t (tgt := 29) dX7_readDigit_22 (by decide) c8) ?_
      refine G_st (x_iconst (0 : Int32) dX7_readDigit_29 rfl) ?_
      refine G_weak _ ?_ (g_X7_readDigit_30 ids Hn H0_29 (0 : Int32) t6)
      exact (leL_s (leL_e _))
  · refine G_st (x_if_ne_t (tgt := 25) dX7_readDigit_5 (by decide) c1) ?_
    refine G_weak _ ?_ (g_X7_readDigit_25 ids Hn H0_29 t0)
    exact (leL_s (leL_e _))
set_option maxRecDepth 100000 in
set_option maxHeartbeats 4000000 in
theorem c_X7_readDigit (ids : List (Nat × Nat)) (Hn : Ndp ids)  (H0_29 : InR ids 0 29 56) (t0 : Sg) (r : Int32) (t1 : Sg) (hf : f_X7_readDigit t0 = some (r, t1)) : Mt0 mX7_readDigit yX7_readDigit ids [aR (0, 29)] t0 (some (aI r)) t1 :=
  Mt_of (x := (r, t1)) (g_X7_readDigit ids Hn  H0_29 t0) hf (fun _ _ => trivial) (by decide) rfl Hn (fun _ => rfl) (fun _ => Nat.le_of_ble_eq_true rfl)
theorem dX7_readTwo_0 : decode cX7_readTwo 0 = .ok (.aload_n 0, 1) := by decide +kernel
theorem dX7_readTwo_1 : decode cX7_readTwo 1 = .ok (.invokevirtual 187, 3) := by decide +kernel
theorem dX7_readTwo_4 : decode cX7_readTwo 4 = .ok (.istore_n 1, 1) := by decide +kernel
theorem dX7_readTwo_5 : decode cX7_readTwo 5 = .ok (.bipush 10, 2) := by decide +kernel
theorem dX7_readTwo_7 : decode cX7_readTwo 7 = .ok (.iload_n 1, 1) := by decide +kernel
theorem dX7_readTwo_8 : decode cX7_readTwo 8 = .ok (.imul, 1) := by decide +kernel
theorem dX7_readTwo_9 : decode cX7_readTwo 9 = .ok (.aload_n 0, 1) := by decide +kernel
theorem dX7_readTwo_10 : decode cX7_readTwo 10 = .ok (.invokevirtual 187, 3) := by decide +kernel
theorem dX7_readTwo_13 : decode cX7_readTwo 13 = .ok (.iadd, 1) := by decide +kernel
theorem dX7_readTwo_14 : decode cX7_readTwo 14 = .ok (.ireturn, 1) := by decide +kernel
set_option maxRecDepth 100000 in
set_option maxHeartbeats 4000000 in
theorem g_X7_readTwo (ids : List (Nat × Nat)) (Hn : Ndp ids)  (H0_29 : InR ids 0 29 56) (t0 : Sg) : Gj kI mX7_readTwo ids 0 [some (aR (0, 29)), none] [] t0 (f_X7_readTwo t0) := by
  unfold f_X7_readTwo
  refine G_st (x_aload_n dX7_readTwo_0 rfl) ?_
  refine G_bd (fun x1 t2 h3 => ?_)
  refine G_st (x_callV [] (c_X7_readDigit ids Hn  H0_29 _ _ _ h3) dX7_readTwo_1 tw_997 kc_X7_readDigit (H0_29 29 (Nat.le_of_ble_eq_true rfl) (Nat.le_of_ble_eq_true rfl)) rfl rfl rfl rfl ⟨Nat.le_of_ble_eq_true rfl, Nat.le_of_ble_eq_true rfl⟩ (Nat.le_of_ble_eq_true rfl) rfl) ?_
  refine G_st (x_istore_n [some (aR (0, 29)), some (aI x1)] dX7_readTwo_4 (Nat.le_of_ble_eq_true rfl) rfl rfl) ?_
  refine G_st (x_bipush (10 : Int32) dX7_readTwo_5 rfl) ?_
  refine G_st (x_iload_n dX7_readTwo_7 rfl) ?_
  refine G_st (x_imul dX7_readTwo_8) ?_
  refine G_st (x_aload_n dX7_readTwo_9 rfl) ?_
  refine G_bd (fun x4 t5 h6 => ?_)
  refine G_st (x_callV [aI ((10 : Int32) * x1)] (c_X7_readDigit ids Hn  H0_29 _ _ _ h6) dX7_readTwo_10 tw_997 kc_X7_readDigit (H0_29 29 (Nat.le_of_ble_eq_true rfl) (Nat.le_of_ble_eq_true rfl)) rfl rfl rfl rfl ⟨Nat.le_of_ble_eq_true rfl, Nat.le_of_ble_eq_true rfl⟩ (Nat.le_of_ble_eq_true rfl) rfl) ?_
  refine G_st (x_iadd dX7_readTwo_13) ?_
  exact G_ret rfl ⟨dX7_readTwo_14, _, rfl, rfl⟩ rfl
set_option maxRecDepth 100000 in
set_option maxHeartbeats 4000000 in
theorem c_X7_readTwo (ids : List (Nat × Nat)) (Hn : Ndp ids)  (H0_29 : InR ids 0 29 56) (t0 : Sg) (r : Int32) (t1 : Sg) (hf : f_X7_readTwo t0 = some (r, t1)) : Mt0 mX7_readTwo yX7_readTwo ids [aR (0, 29)] t0 (some (aI r)) t1 :=
  Mt_of (x := (r, t1)) (g_X7_readTwo ids Hn  H0_29 t0) hf (fun _ _ => trivial) (by decide) rfl Hn (fun _ => rfl) (fun _ => Nat.le_of_ble_eq_true rfl)
theorem dX7_readSign_0 : decode cX7_readSign 0 = .ok (.aload_n 0, 1) := by decide +kernel
theorem dX7_readSign_1 : decode cX7_readSign 1 = .ok (.invokevirtual 180, 3) := by decide +kernel
theorem dX7_readSign_4 : decode cX7_readSign 4 = .ok (.istore_n 1, 1) := by decide +kernel
theorem dX7_readSign_5 : decode cX7_readSign 5 = .ok (.aload_n 0, 1) := by decide +kernel
theorem dX7_readSign_6 : decode cX7_readSign 6 = .ok (.aload_n 0, 1) := by decide +kernel
theorem dX7_readSign_7 : decode cX7_readSign 7 = .ok (.getfield 176, 3) := by decide +kernel
theorem dX7_readSign_10 : decode cX7_readSign 10 = .ok (.ifCond .ne 21, 3) := by decide +kernel
theorem dX7_readSign_13 : decode cX7_readSign 13 = .ok (.iload_n 1, 1) := by decide +kernel
theorem dX7_readSign_14 : decode cX7_readSign 14 = .ok (.bipush 43, 2) := by decide +kernel
theorem dX7_readSign_16 : decode cX7_readSign 16 = .ok (.if_icmp .eq 19, 3) := by decide +kernel
theorem dX7_readSign_19 : decode cX7_readSign 19 = .ok (.iload_n 1, 1) := by decide +kernel
theorem dX7_readSign_20 : decode cX7_readSign 20 = .ok (.bipush 45, 2) := by decide +kernel
theorem dX7_readSign_22 : decode cX7_readSign 22 = .ok (.if_icmp .eq 13, 3) := by decide +kernel
theorem dX7_readSign_25 : decode cX7_readSign 25 = .ok (.iload_n 1, 1) := by decide +kernel
theorem dX7_readSign_26 : decode cX7_readSign 26 = .ok (.bipush 48, 2) := by decide +kernel
theorem dX7_readSign_28 : decode cX7_readSign 28 = .ok (.if_icmp .eq 7, 3) := by decide +kernel
theorem dX7_readSign_31 : decode cX7_readSign 31 = .ok (.iconst 1, 1) := by decide +kernel
theorem dX7_readSign_32 : decode cX7_readSign 32 = .ok (.goto 4, 3) := by decide +kernel
theorem dX7_readSign_35 : decode cX7_readSign 35 = .ok (.iconst 0, 1) := by decide +kernel
theorem dX7_readSign_36 : decode cX7_readSign 36 = .ok (.putfield 176, 3) := by decide +kernel
theorem dX7_readSign_39 : decode cX7_readSign 39 = .ok (.aload_n 0, 1) := by decide +kernel
theorem dX7_readSign_40 : decode cX7_readSign 40 = .ok (.dup, 1) := by decide +kernel
theorem dX7_readSign_41 : decode cX7_readSign 41 = .ok (.getfield 173, 3) := by decide +kernel
theorem dX7_readSign_44 : decode cX7_readSign 44 = .ok (.aload_n 0, 1) := by decide +kernel
theorem dX7_readSign_45 : decode cX7_readSign 45 = .ok (.getfield 176, 3) := by decide +kernel
theorem dX7_readSign_48 : decode cX7_readSign 48 = .ok (.ifCond .eq 7, 3) := by decide +kernel
theorem dX7_readSign_51 : decode cX7_readSign 51 = .ok (.iconst 0, 1) := by decide +kernel
theorem dX7_readSign_52 : decode cX7_readSign 52 = .ok (.goto 4, 3) := by decide +kernel
theorem dX7_readSign_55 : decode cX7_readSign 55 = .ok (.iconst 1, 1) := by decide +kernel
theorem dX7_readSign_56 : decode cX7_readSign 56 = .ok (.iadd, 1) := by decide +kernel
theorem dX7_readSign_57 : decode cX7_readSign 57 = .ok (.putfield 173, 3) := by decide +kernel
theorem dX7_readSign_60 : decode cX7_readSign 60 = .ok (.iload_n 1, 1) := by decide +kernel
theorem dX7_readSign_61 : decode cX7_readSign 61 = .ok (.bipush 43, 2) := by decide +kernel
theorem dX7_readSign_63 : decode cX7_readSign 63 = .ok (.if_icmp .ne 7, 3) := by decide +kernel
theorem dX7_readSign_66 : decode cX7_readSign 66 = .ok (.iconst 1, 1) := by decide +kernel
theorem dX7_readSign_67 : decode cX7_readSign 67 = .ok (.goto 14, 3) := by decide +kernel
theorem dX7_readSign_70 : decode cX7_readSign 70 = .ok (.iload_n 1, 1) := by decide +kernel
theorem dX7_readSign_71 : decode cX7_readSign 71 = .ok (.bipush 45, 2) := by decide +kernel
theorem dX7_readSign_73 : decode cX7_readSign 73 = .ok (.if_icmp .ne 7, 3) := by decide +kernel
theorem dX7_readSign_76 : decode cX7_readSign 76 = .ok (.iconst (-1), 1) := by decide +kernel
theorem dX7_readSign_77 : decode cX7_readSign 77 = .ok (.goto 4, 3) := by decide +kernel
theorem dX7_readSign_80 : decode cX7_readSign 80 = .ok (.iconst 0, 1) := by decide +kernel
theorem dX7_readSign_81 : decode cX7_readSign 81 = .ok (.ireturn, 1) := by decide +kernel
set_option maxRecDepth 100000 in
set_option maxHeartbeats 4000000 in
theorem g_X7_readSign (ids : List (Nat × Nat)) (Hn : Ndp ids)  (H0_29 : InR ids 0 29 56) (t0 : Sg) : Gj kI mX7_readSign ids 0 [some (aR (0, 29)), none] [] t0 (f_X7_readSign t0) := by
  unfold f_X7_readSign
  refine G_st (x_aload_n dX7_readSign_0 rfl) ?_
  refine G_bd (fun x1 t2 h3 => ?_)
  refine G_st (x_callV [] (c_X7_here ids Hn  H0_29 _ _ _ h3) dX7_readSign_1 tw_993 kc_X7_here (H0_29 29 (Nat.le_of_ble_eq_true rfl) (Nat.le_of_ble_eq_true rfl)) rfl rfl rfl rfl ⟨Nat.le_of_ble_eq_true rfl, Nat.le_of_ble_eq_true rfl⟩ (Nat.le_of_ble_eq_true rfl) rfl) ?_
  refine G_st (x_istore_n [some (aR (0, 29)), some (aI x1)] dX7_readSign_4 (Nat.le_of_ble_eq_true rfl) rfl rfl) ?_
  refine G_st (x_aload_n dX7_readSign_5 rfl) ?_
  refine G_st (x_aload_n dX7_readSign_6 rfl) ?_
  refine G_st (x_get (k := 28) (aI (t2 (0, 29) 28)) dX7_readSign_7 (H0_29 29 (Nat.le_of_ble_eq_true rfl) (Nat.le_of_ble_eq_true rfl)) rfl rfl rfl rfl inTX7 (Nat.le_of_ble_eq_true rfl) tw_875 (fun ad => rfl)) ?_
  have e8 : Tj mX7_readSign ids 10 [some (aR (0, 29)), some (aI x1)] [aI (t2 (0, 29) 28), aR (0, 29)] t2 36 [some (aR (0, 29)), some (aI x1)] [aI (if (t2 (0, 29) 28) = 0 then (if x1 = (43 : Int32) then (0 : Int32) else (if x1 = (45 : Int32) then (0 : Int32) else (if x1 = (48 : Int32) then (0 : Int32) else (1 : Int32)))) else (1 : Int32)), aR (0, 29)] t2 := by
    refine Tj.dia (fun c4 => ?_) (fun c4 => ?_)
    · refine Tj.tr (x_if_ne_f 31 dX7_readSign_10 (by decide) c4) ?_
      refine Tj.tr (x_iload_n dX7_readSign_13 rfl) ?_
      refine Tj.tr (x_bipush (43 : Int32) dX7_readSign_14 rfl) ?_
      refine Tj.dia (fun c5 => ?_) (fun c5 => ?_)
      · refine Tj.tr (x_icmp_eq_t (tgt := 35) dX7_readSign_16 (by decide) c5) ?_
        refine Tj.tr (x_iconst (0 : Int32) dX7_readSign_35 rfl) ?_
        exact Tj.rf
      · refine Tj.tr (x_icmp_eq_f 35 dX7_readSign_16 (by decide) c5) ?_
        refine Tj.tr (x_iload_n dX7_readSign_19 rfl) ?_
        refine Tj.tr (x_bipush (45 : Int32) dX7_readSign_20 rfl) ?_
        refine Tj.dia (fun c6 => ?_) (fun c6 => ?_)
        · refine Tj.tr (x_icmp_eq_t (tgt := 35) dX7_readSign_22 (by decide) c6) ?_
          refine Tj.tr (x_iconst (0 : Int32) dX7_readSign_35 rfl) ?_
          exact Tj.rf
        · refine Tj.tr (x_icmp_eq_f 35 dX7_readSign_22 (by decide) c6) ?_
          refine Tj.tr (x_iload_n dX7_readSign_25 rfl) ?_
          refine Tj.tr (x_bipush (48 : Int32) dX7_readSign_26 rfl) ?_
          refine Tj.dia (fun c7 => ?_) (fun c7 => ?_)
          · refine Tj.tr (x_icmp_eq_t (tgt := 35) dX7_readSign_28 (by decide) c7) ?_
            refine Tj.tr (x_iconst (0 : Int32) dX7_readSign_35 rfl) ?_
            exact Tj.rf
          · refine Tj.tr (x_icmp_eq_f 35 dX7_readSign_28 (by decide) c7) ?_
            refine Tj.tr (x_iconst (1 : Int32) dX7_readSign_31 rfl) ?_
            refine Tj.tr (x_goto (tgt := 36) dX7_readSign_32 (by decide)) ?_
            exact Tj.rf
    · refine Tj.tr (x_if_ne_t (tgt := 31) dX7_readSign_10 (by decide) c4) ?_
      refine Tj.tr (x_iconst (1 : Int32) dX7_readSign_31 rfl) ?_
      refine Tj.tr (x_goto (tgt := 36) dX7_readSign_32 (by decide)) ?_
      exact Tj.rf
  refine G_st e8 ?_
  refine G_st (x_put (k := 28) (ty := .boolean) (v := aI (if (t2 (0, 29) 28) = 0 then (if x1 = (43 : Int32) then (0 : Int32) else (if x1 = (45 : Int32) then (0 : Int32) else (if x1 = (48 : Int32) then (0 : Int32) else (1 : Int32)))) else (1 : Int32))) (z := (if (t2 (0, 29) 28) = 0 then (if x1 = (43 : Int32) then (0 : Int32) else (if x1 = (45 : Int32) then (0 : Int32) else (if x1 = (48 : Int32) then (0 : Int32) else (1 : Int32)))) else (1 : Int32))) (upS t2 (0, 29) 28 (if (t2 (0, 29) 28) = 0 then (if x1 = (43 : Int32) then (0 : Int32) else (if x1 = (45 : Int32) then (0 : Int32) else (if x1 = (48 : Int32) then (0 : Int32) else (1 : Int32)))) else (1 : Int32))) dX7_readSign_36 (H0_29 29 (Nat.le_of_ble_eq_true rfl) (Nat.le_of_ble_eq_true rfl)) rfl rfl rfl rfl inTX7 tyX7_ok nmX7 (Nat.le_of_ble_eq_true rfl) tw_875 rfl rfl (fun ad => nar_b (b_ite (b_ite (Or.inl rfl) (b_ite (Or.inl rfl) (b_ite (Or.inl rfl) (Or.inr rfl)))) (Or.inr rfl))) (fun ad => fit_b (b_ite (b_ite (Or.inl rfl) (b_ite (Or.inl rfl) (b_ite (Or.inl rfl) (Or.inr rfl)))) (Or.inr rfl))) (fun ad => put_i1 ad _ _ _ _ rfl) rfl) ?_
  refine G_bvS (fun t9 => ?_)
  refine G_st (x_aload_n dX7_readSign_39 rfl) ?_
  refine G_st (x_dup dX7_readSign_40 rfl) ?_
  refine G_st (x_get (k := 27) (aI (t9 (0, 29) 27)) dX7_readSign_41 (H0_29 29 (Nat.le_of_ble_eq_true rfl) (Nat.le_of_ble_eq_true rfl)) rfl rfl rfl rfl inTX7 (Nat.le_of_ble_eq_true rfl) tw_874 (fun ad => rfl)) ?_
  refine G_st (x_aload_n dX7_readSign_44 rfl) ?_
  refine G_st (x_get (k := 28) (aI (t9 (0, 29) 28)) dX7_readSign_45 (H0_29 29 (Nat.le_of_ble_eq_true rfl) (Nat.le_of_ble_eq_true rfl)) rfl rfl rfl rfl inTX7 (Nat.le_of_ble_eq_true rfl) tw_875 (fun ad => rfl)) ?_
  have e11 : Tj mX7_readSign ids 48 [some (aR (0, 29)), some (aI x1)] [aI (t9 (0, 29) 28), aI (t9 (0, 29) 27), aR (0, 29)] t9 56 [some (aR (0, 29)), some (aI x1)] [aI (if (t9 (0, 29) 28) = 0 then (1 : Int32) else (0 : Int32)), aI (t9 (0, 29) 27), aR (0, 29)] t9 := by
    refine Tj.dia (fun c10 => ?_) (fun c10 => ?_)
    · refine Tj.tr (x_if_eq_t (tgt := 55) dX7_readSign_48 (by decide) c10) ?_
      refine Tj.tr (x_iconst (1 : Int32) dX7_readSign_55 rfl) ?_
      exact Tj.rf
    · refine Tj.tr (x_if_eq_f 55 dX7_readSign_48 (by decide) c10) ?_
      refine Tj.tr (x_iconst (0 : Int32) dX7_readSign_51 rfl) ?_
      refine Tj.tr (x_goto (tgt := 56) dX7_readSign_52 (by decide)) ?_
      exact Tj.rf
  refine G_st e11 ?_
  refine G_st (x_iadd dX7_readSign_56) ?_
  refine G_st (x_put (k := 27) (ty := .int) (v := aI ((t9 (0, 29) 27) + (if (t9 (0, 29) 28) = 0 then (1 : Int32) else (0 : Int32)))) (z := ((t9 (0, 29) 27) + (if (t9 (0, 29) 28) = 0 then (1 : Int32) else (0 : Int32)))) (upS t9 (0, 29) 27 ((t9 (0, 29) 27) + (if (t9 (0, 29) 28) = 0 then (1 : Int32) else (0 : Int32)))) dX7_readSign_57 (H0_29 29 (Nat.le_of_ble_eq_true rfl) (Nat.le_of_ble_eq_true rfl)) rfl rfl rfl rfl inTX7 tyX7_ok nmX7 (Nat.le_of_ble_eq_true rfl) tw_874 rfl rfl (fun ad => rfl) (fun ad => rfl) (fun ad => put_i0 ad _ _ _ _ rfl) rfl) ?_
  refine G_bvS (fun t12 => ?_)
  refine G_st (x_iload_n dX7_readSign_60 rfl) ?_
  refine G_st (x_bipush (43 : Int32) dX7_readSign_61 rfl) ?_
  have e15 : Tj mX7_readSign ids 63 [some (aR (0, 29)), some (aI x1)] [aI (43 : Int32), aI x1] t12 81 [some (aR (0, 29)), some (aI x1)] [aI (if x1 = (43 : Int32) then (1 : Int32) else (if x1 = (45 : Int32) then (-1 : Int32) else (0 : Int32)))] t12 := by
    refine Tj.dia (fun c13 => ?_) (fun c13 => ?_)
    · refine Tj.tr (x_icmp_ne_f 70 dX7_readSign_63 (by decide) c13) ?_
      refine Tj.tr (x_iconst (1 : Int32) dX7_readSign_66 rfl) ?_
      refine Tj.tr (x_goto (tgt := 81) dX7_readSign_67 (by decide)) ?_
      exact Tj.rf
    · refine Tj.tr (x_icmp_ne_t (tgt := 70) dX7_readSign_63 (by decide) c13) ?_
      refine Tj.tr (x_iload_n dX7_readSign_70 rfl) ?_
      refine Tj.tr (x_bipush (45 : Int32) dX7_readSign_71 rfl) ?_
      refine Tj.dia (fun c14 => ?_) (fun c14 => ?_)
      · refine Tj.tr (x_icmp_ne_f 80 dX7_readSign_73 (by decide) c14) ?_
        refine Tj.tr (x_iconst (-1 : Int32) dX7_readSign_76 rfl) ?_
        refine Tj.tr (x_goto (tgt := 81) dX7_readSign_77 (by decide)) ?_
        exact Tj.rf
      · refine Tj.tr (x_icmp_ne_t (tgt := 80) dX7_readSign_73 (by decide) c14) ?_
        refine Tj.tr (x_iconst (0 : Int32) dX7_readSign_80 rfl) ?_
        exact Tj.rf
  refine G_st e15 ?_
  exact G_ret rfl ⟨dX7_readSign_81, _, rfl, rfl⟩ rfl
set_option maxRecDepth 100000 in
set_option maxHeartbeats 4000000 in
theorem c_X7_readSign (ids : List (Nat × Nat)) (Hn : Ndp ids)  (H0_29 : InR ids 0 29 56) (t0 : Sg) (r : Int32) (t1 : Sg) (hf : f_X7_readSign t0 = some (r, t1)) : Mt0 mX7_readSign yX7_readSign ids [aR (0, 29)] t0 (some (aI r)) t1 :=
  Mt_of (x := (r, t1)) (g_X7_readSign ids Hn  H0_29 t0) hf (fun _ _ => trivial) (by decide) rfl Hn (fun _ => rfl) (fun _ => Nat.le_of_ble_eq_true rfl)
theorem dX7_readHours_0 : decode cX7_readHours 0 = .ok (.iconst 0, 1) := by decide +kernel
theorem dX7_readHours_1 : decode cX7_readHours 1 = .ok (.istore_n 1, 1) := by decide +kernel
theorem dX7_readHours_2 : decode cX7_readHours 2 = .ok (.iconst 0, 1) := by decide +kernel
theorem dX7_readHours_3 : decode cX7_readHours 3 = .ok (.istore_n 2, 1) := by decide +kernel
theorem dX7_readHours_4 : decode cX7_readHours 4 = .ok (.iload_n 2, 1) := by decide +kernel
theorem dX7_readHours_5 : decode cX7_readHours 5 = .ok (.bipush 8, 2) := by decide +kernel
theorem dX7_readHours_7 : decode cX7_readHours 7 = .ok (.if_icmp .ge 42, 3) := by decide +kernel
theorem dX7_readHours_10 : decode cX7_readHours 10 = .ok (.aload_n 0, 1) := by decide +kernel
theorem dX7_readHours_11 : decode cX7_readHours 11 = .ok (.getfield 176, 3) := by decide +kernel
theorem dX7_readHours_14 : decode cX7_readHours 14 = .ok (.ifCond .ne 35, 3) := by decide +kernel
theorem dX7_readHours_17 : decode cX7_readHours 17 = .ok (.aload_n 0, 1) := by decide +kernel
theorem dX7_readHours_18 : decode cX7_readHours 18 = .ok (.invokevirtual 180, 3) := by decide +kernel
theorem dX7_readHours_21 : decode cX7_readHours 21 = .ok (.i2l, 1) := by decide +kernel
theorem dX7_readHours_22 : decode cX7_readHours 22 = .ok (.ldc2_w 183, 3) := by decide +kernel
theorem dX7_readHours_25 : decode cX7_readHours 25 = .ok (.ldc2_w 190, 3) := by decide +kernel
theorem dX7_readHours_28 : decode cX7_readHours 28 = .ok (.invokestatic 111, 3) := by decide +kernel
theorem dX7_readHours_31 : decode cX7_readHours 31 = .ok (.ifCond .eq 18, 3) := by decide +kernel
theorem dX7_readHours_34 : decode cX7_readHours 34 = .ok (.iload_n 1, 1) := by decide +kernel
theorem dX7_readHours_35 : decode cX7_readHours 35 = .ok (.iconst 1, 1) := by decide +kernel
theorem dX7_readHours_36 : decode cX7_readHours 36 = .ok (.aload_n 0, 1) := by decide +kernel
theorem dX7_readHours_37 : decode cX7_readHours 37 = .ok (.invokevirtual 187, 3) := by decide +kernel
theorem dX7_readHours_40 : decode cX7_readHours 40 = .ok (.ishl, 1) := by decide +kernel
theorem dX7_readHours_41 : decode cX7_readHours 41 = .ok (.ior, 1) := by decide +kernel
theorem dX7_readHours_42 : decode cX7_readHours 42 = .ok (.istore_n 1, 1) := by decide +kernel
theorem dX7_readHours_43 : decode cX7_readHours 43 = .ok (.iinc 2 1, 3) := by decide +kernel
theorem dX7_readHours_46 : decode cX7_readHours 46 = .ok (.goto (-42), 3) := by decide +kernel
theorem dX7_readHours_49 : decode cX7_readHours 49 = .ok (.iload_n 1, 1) := by decide +kernel
theorem dX7_readHours_50 : decode cX7_readHours 50 = .ok (.ireturn, 1) := by decide +kernel
set_option maxRecDepth 100000 in
set_option maxHeartbeats 4000000 in
theorem g_X7_readHours_4 (ids : List (Nat × Nat)) (Hn : Ndp ids)  (H0_29 : InR ids 0 29 56)  : ∀ (n : Nat) (v1 : Int32) (v2 : Int32) (t0 : Sg), Gj kI mX7_readHours ids 4 [some (aR (0, 29)), some (aI v1), some (aI v2)] [] t0 (f_X7_readHours_4 n v1 v2 t0) := by
  intro n
  induction n with
  | zero => intro v1 v2 t0; exact G_none
  | succ n ih =>
    intro v1 v2 t0
    rw [f_X7_readHours_4]
    refine G_st (x_iload_n dX7_readHours_4 rfl) ?_
    refine G_st (x_bipush (8 : Int32) dX7_readHours_5 rfl) ?_
    refine G_ite (fun c1 => ?_) (fun c1 => ?_)
    · refine G_st (x_icmp_ge_t (tgt := 49) dX7_readHours_7 (by decide) c1) ?_
      refine G_st (x_iload_n dX7_readHours_49 rfl) ?_
      exact G_ret rfl ⟨dX7_readHours_50, _, rfl, rfl⟩ rfl
    · refine G_st (x_icmp_ge_f 49 dX7_readHours_7 (by decide) c1) ?_
      refine G_st (x_aload_n dX7_readHours_10 rfl) ?_
      refine G_st (x_get (k := 28) (aI (t0 (0, 29) 28)) dX7_readHours_11 (H0_29 29 (Nat.le_of_ble_eq_true rfl) (Nat.le_of_ble_eq_true rfl)) rfl rfl rfl rfl inTX7 (Nat.le_of_ble_eq_true rfl) tw_875 (fun ad => rfl)) ?_
      refine G_ite (fun c2 => ?_) (fun c2 => ?_)
      · refine G_st (x_if_ne_f 49 dX7_readHours_14 (by decide) c2) ?_
        refine G_st (x_aload_n dX7_readHours_17 rfl) ?_
        refine G_bd (fun x3 t4 h5 => ?_)
        refine G_st (x_callV [] (c_X7_here ids Hn  H0_29 _ _ _ h5) dX7_readHours_18 tw_993 kc_X7_here (H0_29 29 (Nat.le_of_ble_eq_true rfl) (Nat.le_of_ble_eq_true rfl)) rfl rfl rfl rfl ⟨Nat.le_of_ble_eq_true rfl, Nat.le_of_ble_eq_true rfl⟩ (Nat.le_of_ble_eq_true rfl) rfl) ?_
        refine G_st (x_i2l dX7_readHours_21) ?_
        refine G_st (x_ldc2 dX7_readHours_22 tw_1001) ?_
        refine G_st (x_ldc2 dX7_readHours_25 tw_1018) ?_
        refine G_bd (fun x6 t7 h8 => ?_)
        refine G_st (x_callS [] (c_X7_in ids Hn (x3).toInt64 (48 : Int64) (55 : Int64)  _ _ _ h8) dX7_readHours_28 tw_1003 kc_X7_in rfl ⟨Nat.le_of_ble_eq_true rfl, Nat.le_of_ble_eq_true rfl⟩ (Nat.le_of_ble_eq_true rfl) rfl) ?_
        refine G_ite (fun c9 => ?_) (fun c9 => ?_)
        · refine G_st (x_if_eq_t (tgt := 49) dX7_readHours_31 (by decide) c9) ?_
          refine G_st (x_iload_n dX7_readHours_49 rfl) ?_
          exact G_ret rfl ⟨dX7_readHours_50, _, rfl, rfl⟩ rfl
        · refine G_st (x_if_eq_f 49 dX7_readHours_31 (by decide) c9) ?_
          refine G_st (x_iload_n dX7_readHours_34 rfl) ?_
          refine G_st (x_iconst (1 : Int32) dX7_readHours_35 rfl) ?_
          refine G_st (x_aload_n dX7_readHours_36 rfl) ?_
          refine G_bd (fun x10 t11 h12 => ?_)
          refine G_st (x_callV [aI (1 : Int32), aI v1] (c_X7_readDigit ids Hn  H0_29 _ _ _ h12) dX7_readHours_37 tw_997 kc_X7_readDigit (H0_29 29 (Nat.le_of_ble_eq_true rfl) (Nat.le_of_ble_eq_true rfl)) rfl rfl rfl rfl ⟨Nat.le_of_ble_eq_true rfl, Nat.le_of_ble_eq_true rfl⟩ (Nat.le_of_ble_eq_true rfl) rfl) ?_
          refine G_st (x_ishl dX7_readHours_40) ?_
          refine G_st (x_ior dX7_readHours_41) ?_
          refine G_bvI (fun x13 => ?_)
          refine G_st (x_istore_n [some (aR (0, 29)), some (aI x13), some (aI v2)] dX7_readHours_42 (Nat.le_of_ble_eq_true rfl) rfl rfl) ?_
          refine G_st (x_iinc (v2 + (1 : Int32)) [some (aR (0, 29)), some (aI x13), some (aI (v2 + (1 : Int32)))] dX7_readHours_43 (Nat.le_of_ble_eq_true rfl) rfl rfl rfl rfl) ?_
          refine G_st (x_goto (tgt := 4) dX7_readHours_46 (by decide)) ?_
          refine G_weak _ ?_ ((ih) x13 (v2 + (1 : Int32)) t11)
          exact (leL_s (leL_s (leL_s (leL_e _))))
      · refine G_st (x_if_ne_t (tgt := 49) dX7_readHours_14 (by decide) c2) ?_
        refine G_st (x_iload_n dX7_readHours_49 rfl) ?_
        exact G_ret rfl ⟨dX7_readHours_50, _, rfl, rfl⟩ rfl
set_option maxRecDepth 100000 in
set_option maxHeartbeats 4000000 in
theorem g_X7_readHours (ids : List (Nat × Nat)) (Hn : Ndp ids)  (H0_29 : InR ids 0 29 56) (t0 : Sg) : Gj kI mX7_readHours ids 0 [some (aR (0, 29)), none, none] [] t0 (f_X7_readHours t0) := by
  unfold f_X7_readHours
  refine G_st (x_iconst (0 : Int32) dX7_readHours_0 rfl) ?_
  refine G_st (x_istore_n [some (aR (0, 29)), some (aI (0 : Int32)), none] dX7_readHours_1 (Nat.le_of_ble_eq_true rfl) rfl rfl) ?_
  refine G_st (x_iconst (0 : Int32) dX7_readHours_2 rfl) ?_
  refine G_st (x_istore_n [some (aR (0, 29)), some (aI (0 : Int32)), some (aI (0 : Int32))] dX7_readHours_3 (Nat.le_of_ble_eq_true rfl) rfl rfl) ?_
  refine G_weak _ ?_ (g_X7_readHours_4 ids Hn H0_29 fuel (0 : Int32) (0 : Int32) t0)
  exact (leL_s (leL_s (leL_s (leL_e _))))
set_option maxRecDepth 100000 in
set_option maxHeartbeats 4000000 in
theorem c_X7_readHours (ids : List (Nat × Nat)) (Hn : Ndp ids)  (H0_29 : InR ids 0 29 56) (t0 : Sg) (r : Int32) (t1 : Sg) (hf : f_X7_readHours t0 = some (r, t1)) : Mt0 mX7_readHours yX7_readHours ids [aR (0, 29)] t0 (some (aI r)) t1 :=
  Mt_of (x := (r, t1)) (g_X7_readHours ids Hn  H0_29 t0) hf (fun _ _ => trivial) (by decide) rfl Hn (fun _ => rfl) (fun _ => Nat.le_of_ble_eq_true rfl)
theorem dX7_readTenant_0 : decode cX7_readTenant 0 = .ok (.aload_n 0, 1) := by decide +kernel
theorem dX7_readTenant_1 : decode cX7_readTenant 1 = .ok (.invokevirtual 187, 3) := by decide +kernel
theorem dX7_readTenant_4 : decode cX7_readTenant 4 = .ok (.istore_n 1, 1) := by decide +kernel
theorem dX7_readTenant_5 : decode cX7_readTenant 5 = .ok (.aload_n 0, 1) := by decide +kernel
theorem dX7_readTenant_6 : decode cX7_readTenant 6 = .ok (.getfield 176, 3) := by decide +kernel
theorem dX7_readTenant_9 : decode cX7_readTenant 9 = .ok (.ifCond .ne 30, 3) := by decide +kernel
theorem dX7_readTenant_12 : decode cX7_readTenant 12 = .ok (.aload_n 0, 1) := by decide +kernel
theorem dX7_readTenant_13 : decode cX7_readTenant 13 = .ok (.invokevirtual 180, 3) := by decide +kernel
theorem dX7_readTenant_16 : decode cX7_readTenant 16 = .ok (.i2l, 1) := by decide +kernel
theorem dX7_readTenant_17 : decode cX7_readTenant 17 = .ok (.ldc2_w 183, 3) := by decide +kernel
theorem dX7_readTenant_20 : decode cX7_readTenant 20 = .ok (.ldc2_w 185, 3) := by decide +kernel
theorem dX7_readTenant_23 : decode cX7_readTenant 23 = .ok (.invokestatic 111, 3) := by decide +kernel
theorem dX7_readTenant_26 : decode cX7_readTenant 26 = .ok (.ifCond .eq 13, 3) := by decide +kernel
theorem dX7_readTenant_29 : decode cX7_readTenant 29 = .ok (.bipush 10, 2) := by decide +kernel
theorem dX7_readTenant_31 : decode cX7_readTenant 31 = .ok (.iload_n 1, 1) := by decide +kernel
theorem dX7_readTenant_32 : decode cX7_readTenant 32 = .ok (.imul, 1) := by decide +kernel
theorem dX7_readTenant_33 : decode cX7_readTenant 33 = .ok (.aload_n 0, 1) := by decide +kernel
theorem dX7_readTenant_34 : decode cX7_readTenant 34 = .ok (.invokevirtual 187, 3) := by decide +kernel
theorem dX7_readTenant_37 : decode cX7_readTenant 37 = .ok (.iadd, 1) := by decide +kernel
theorem dX7_readTenant_38 : decode cX7_readTenant 38 = .ok (.istore_n 1, 1) := by decide +kernel
theorem dX7_readTenant_39 : decode cX7_readTenant 39 = .ok (.aload_n 0, 1) := by decide +kernel
theorem dX7_readTenant_40 : decode cX7_readTenant 40 = .ok (.aload_n 0, 1) := by decide +kernel
theorem dX7_readTenant_41 : decode cX7_readTenant 41 = .ok (.getfield 176, 3) := by decide +kernel
theorem dX7_readTenant_44 : decode cX7_readTenant 44 = .ok (.ifCond .ne 12, 3) := by decide +kernel
theorem dX7_readTenant_47 : decode cX7_readTenant 47 = .ok (.aload_n 0, 1) := by decide +kernel
theorem dX7_readTenant_48 : decode cX7_readTenant 48 = .ok (.invokevirtual 180, 3) := by decide +kernel
theorem dX7_readTenant_51 : decode cX7_readTenant 51 = .ok (.bipush 44, 2) := by decide +kernel
theorem dX7_readTenant_53 : decode cX7_readTenant 53 = .ok (.if_icmp .eq 7, 3) := by decide +kernel
theorem dX7_readTenant_56 : decode cX7_readTenant 56 = .ok (.iconst 1, 1) := by decide +kernel
theorem dX7_readTenant_57 : decode cX7_readTenant 57 = .ok (.goto 4, 3) := by decide +kernel
theorem dX7_readTenant_60 : decode cX7_readTenant 60 = .ok (.iconst 0, 1) := by decide +kernel
theorem dX7_readTenant_61 : decode cX7_readTenant 61 = .ok (.putfield 176, 3) := by decide +kernel
theorem dX7_readTenant_64 : decode cX7_readTenant 64 = .ok (.aload_n 0, 1) := by decide +kernel
theorem dX7_readTenant_65 : decode cX7_readTenant 65 = .ok (.dup, 1) := by decide +kernel
theorem dX7_readTenant_66 : decode cX7_readTenant 66 = .ok (.getfield 173, 3) := by decide +kernel
theorem dX7_readTenant_69 : decode cX7_readTenant 69 = .ok (.aload_n 0, 1) := by decide +kernel
theorem dX7_readTenant_70 : decode cX7_readTenant 70 = .ok (.getfield 176, 3) := by decide +kernel
theorem dX7_readTenant_73 : decode cX7_readTenant 73 = .ok (.ifCond .eq 7, 3) := by decide +kernel
theorem dX7_readTenant_76 : decode cX7_readTenant 76 = .ok (.iconst 0, 1) := by decide +kernel
theorem dX7_readTenant_77 : decode cX7_readTenant 77 = .ok (.goto 4, 3) := by decide +kernel
theorem dX7_readTenant_80 : decode cX7_readTenant 80 = .ok (.iconst 1, 1) := by decide +kernel
theorem dX7_readTenant_81 : decode cX7_readTenant 81 = .ok (.iadd, 1) := by decide +kernel
theorem dX7_readTenant_82 : decode cX7_readTenant 82 = .ok (.putfield 173, 3) := by decide +kernel
theorem dX7_readTenant_85 : decode cX7_readTenant 85 = .ok (.iload_n 1, 1) := by decide +kernel
theorem dX7_readTenant_86 : decode cX7_readTenant 86 = .ok (.ireturn, 1) := by decide +kernel
set_option maxRecDepth 100000 in
set_option maxHeartbeats 4000000 in
theorem g_X7_readTenant_61 (ids : List (Nat × Nat)) (Hn : Ndp ids)  (H0_29 : InR ids 0 29 56)  (v1 : Int32) (w0 : Int32) (t0 : Sg) : Gj kI mX7_readTenant ids 61 [some (aR (0, 29)), some (aI v1)] [aI w0, aR (0, 29)] t0 (f_X7_readTenant_61 v1 w0 t0) := by
  unfold f_X7_readTenant_61
  refine G_chk (fun c18 => ?_)
  refine G_st (x_put (k := 28) (ty := .boolean) (v := aI w0) (z := w0) (upS t0 (0, 29) 28 w0) dX7_readTenant_61 (H0_29 29 (Nat.le_of_ble_eq_true rfl) (Nat.le_of_ble_eq_true rfl)) rfl rfl rfl rfl inTX7 tyX7_ok nmX7 (Nat.le_of_ble_eq_true rfl) tw_875 rfl rfl (fun ad => nar_b c18) (fun ad => fit_b c18) (fun ad => put_i1 ad _ _ _ _ rfl) rfl) ?_
  refine G_bvS (fun t17 => ?_)
  refine G_st (x_aload_n dX7_readTenant_64 rfl) ?_
  refine G_st (x_dup dX7_readTenant_65 rfl) ?_
  refine G_st (x_get (k := 27) (aI (t17 (0, 29) 27)) dX7_readTenant_66 (H0_29 29 (Nat.le_of_ble_eq_true rfl) (Nat.le_of_ble_eq_true rfl)) rfl rfl rfl rfl inTX7 (Nat.le_of_ble_eq_true rfl) tw_874 (fun ad => rfl)) ?_
  refine G_st (x_aload_n dX7_readTenant_69 rfl) ?_
  refine G_st (x_get (k := 28) (aI (t17 (0, 29) 28)) dX7_readTenant_70 (H0_29 29 (Nat.le_of_ble_eq_true rfl) (Nat.le_of_ble_eq_true rfl)) rfl rfl rfl rfl inTX7 (Nat.le_of_ble_eq_true rfl) tw_875 (fun ad => rfl)) ?_
  have e20 : Tj mX7_readTenant ids 73 [some (aR (0, 29)), some (aI v1)] [aI (t17 (0, 29) 28), aI (t17 (0, 29) 27), aR (0, 29)] t17 81 [some (aR (0, 29)), some (aI v1)] [aI (if (t17 (0, 29) 28) = 0 then (1 : Int32) else (0 : Int32)), aI (t17 (0, 29) 27), aR (0, 29)] t17 := by
    refine Tj.dia (fun c19 => ?_) (fun c19 => ?_)
    · refine Tj.tr (x_if_eq_t (tgt := 80) dX7_readTenant_73 (by decide) c19) ?_
      refine Tj.tr (x_iconst (1 : Int32) dX7_readTenant_80 rfl) ?_
      exact Tj.rf
    · refine Tj.tr (x_if_eq_f 80 dX7_readTenant_73 (by decide) c19) ?_
      refine Tj.tr (x_iconst (0 : Int32) dX7_readTenant_76 rfl) ?_
      refine Tj.tr (x_goto (tgt := 81) dX7_readTenant_77 (by decide)) ?_
      exact Tj.rf
  refine G_st e20 ?_
  refine G_st (x_iadd dX7_readTenant_81) ?_
  refine G_st (x_put (k := 27) (ty := .int) (v := aI ((t17 (0, 29) 27) + (if (t17 (0, 29) 28) = 0 then (1 : Int32) else (0 : Int32)))) (z := ((t17 (0, 29) 27) + (if (t17 (0, 29) 28) = 0 then (1 : Int32) else (0 : Int32)))) (upS t17 (0, 29) 27 ((t17 (0, 29) 27) + (if (t17 (0, 29) 28) = 0 then (1 : Int32) else (0 : Int32)))) dX7_readTenant_82 (H0_29 29 (Nat.le_of_ble_eq_true rfl) (Nat.le_of_ble_eq_true rfl)) rfl rfl rfl rfl inTX7 tyX7_ok nmX7 (Nat.le_of_ble_eq_true rfl) tw_874 rfl rfl (fun ad => rfl) (fun ad => rfl) (fun ad => put_i0 ad _ _ _ _ rfl) rfl) ?_
  refine G_bvS (fun t21 => ?_)
  refine G_st (x_iload_n dX7_readTenant_85 rfl) ?_
  exact G_ret rfl ⟨dX7_readTenant_86, _, rfl, rfl⟩ rfl
set_option maxRecDepth 100000 in
set_option maxHeartbeats 4000000 in
theorem g_X7_readTenant_56 (ids : List (Nat × Nat)) (Hn : Ndp ids)  (H0_29 : InR ids 0 29 56)  (v1 : Int32) (t0 : Sg) : Gj kI mX7_readTenant ids 56 [some (aR (0, 29)), some (aI v1)] [aR (0, 29)] t0 (f_X7_readTenant_56 v1 t0) := by
  unfold f_X7_readTenant_56
  refine G_st (x_iconst (1 : Int32) dX7_readTenant_56 rfl) ?_
  refine G_st (x_goto (tgt := 61) dX7_readTenant_57 (by decide)) ?_
  refine G_weak _ ?_ (g_X7_readTenant_61 ids Hn H0_29 v1 (1 : Int32) t0)
  exact (leL_s (leL_s (leL_e _)))
set_option maxRecDepth 100000 in
set_option maxHeartbeats 4000000 in
theorem g_X7_readTenant_39 (ids : List (Nat × Nat)) (Hn : Ndp ids)  (H0_29 : InR ids 0 29 56)  (v1 : Int32) (t0 : Sg) : Gj kI mX7_readTenant ids 39 [some (aR (0, 29)), some (aI v1)] [] t0 (f_X7_readTenant_39 v1 t0) := by
  unfold f_X7_readTenant_39
  refine G_st (x_aload_n dX7_readTenant_39 rfl) ?_
  refine G_st (x_aload_n dX7_readTenant_40 rfl) ?_
  refine G_st (x_get (k := 28) (aI (t0 (0, 29) 28)) dX7_readTenant_41 (H0_29 29 (Nat.le_of_ble_eq_true rfl) (Nat.le_of_ble_eq_true rfl)) rfl rfl rfl rfl inTX7 (Nat.le_of_ble_eq_true rfl) tw_875 (fun ad => rfl)) ?_
  refine G_ite (fun c12 => ?_) (fun c12 => ?_)
  · refine G_st (x_if_ne_f 56 dX7_readTenant_44 (by decide) c12) ?_
    refine G_st (x_aload_n dX7_readTenant_47 rfl) ?_
    refine G_bd (fun x13 t14 h15 => ?_)
    refine G_st (x_callV [aR (0, 29)] (c_X7_here ids Hn  H0_29 _ _ _ h15) dX7_readTenant_48 tw_993 kc_X7_here (H0_29 29 (Nat.le_of_ble_eq_true rfl) (Nat.le_of_ble_eq_true rfl)) rfl rfl rfl rfl ⟨Nat.le_of_ble_eq_true rfl, Nat.le_of_ble_eq_true rfl⟩ (Nat.le_of_ble_eq_true rfl) rfl) ?_
    refine G_st (x_bipush (44 : Int32) dX7_readTenant_51 rfl) ?_
    refine G_ite (fun c16 => ?_) (fun c16 => ?_)
    · refine G_st (x_icmp_eq_t (tgt := 60) dX7_readTenant_53 (by decide) c16) ?_
      refine G_st (x_iconst (0 : Int32) dX7_readTenant_60 rfl) ?_
      refine G_weak _ ?_ (g_X7_readTenant_61 ids Hn H0_29 v1 (0 : Int32) t14)
      exact (leL_s (leL_s (leL_e _)))
    · refine G_st (x_icmp_eq_f 60 dX7_readTenant_53 (by decide) c16) ?_
      refine G_weak _ ?_ (g_X7_readTenant_56 ids Hn H0_29 v1 t14)
      exact (leL_s (leL_s (leL_e _)))
  · refine G_st (x_if_ne_t (tgt := 56) dX7_readTenant_44 (by decide) c12) ?_
    refine G_weak _ ?_ (g_X7_readTenant_56 ids Hn H0_29 v1 t0)
    exact (leL_s (leL_s (leL_e _)))
set_option maxRecDepth 100000 in
set_option maxHeartbeats 4000000 in
theorem g_X7_readTenant (ids : List (Nat × Nat)) (Hn : Ndp ids)  (H0_29 : InR ids 0 29 56) (t0 : Sg) : Gj kI mX7_readTenant ids 0 [some (aR (0, 29)), none] [] t0 (f_X7_readTenant t0) := by
  unfold f_X7_readTenant
  refine G_st (x_aload_n dX7_readTenant_0 rfl) ?_
  refine G_bd (fun x1 t2 h3 => ?_)
  refine G_st (x_callV [] (c_X7_readDigit ids Hn  H0_29 _ _ _ h3) dX7_readTenant_1 tw_997 kc_X7_readDigit (H0_29 29 (Nat.le_of_ble_eq_true rfl) (Nat.le_of_ble_eq_true rfl)) rfl rfl rfl rfl ⟨Nat.le_of_ble_eq_true rfl, Nat.le_of_ble_eq_true rfl⟩ (Nat.le_of_ble_eq_true rfl) rfl) ?_
  refine G_st (x_istore_n [some (aR (0, 29)), some (aI x1)] dX7_readTenant_4 (Nat.le_of_ble_eq_true rfl) rfl rfl) ?_
  refine G_st (x_aload_n dX7_readTenant_5 rfl) ?_
  refine G_st (x_get (k := 28) (aI (t2 (0, 29) 28)) dX7_readTenant_6 (H0_29 29 (Nat.le_of_ble_eq_true rfl) (Nat.le_of_ble_eq_true rfl)) rfl rfl rfl rfl inTX7 (Nat.le_of_ble_eq_true rfl) tw_875 (fun ad => rfl)) ?_
  refine G_ite (fun c4 => ?_) (fun c4 => ?_)
  · refine G_st (x_if_ne_f 39 dX7_readTenant_9 (by decide) c4) ?_
    refine G_st (x_aload_n dX7_readTenant_12 rfl) ?_
    refine G_bd (fun x5 t6 h7 => ?_)
    refine G_st (x_callV [] (c_X7_here ids Hn  H0_29 _ _ _ h7) dX7_readTenant_13 tw_993 kc_X7_here (H0_29 29 (Nat.le_of_ble_eq_true rfl) (Nat.le_of_ble_eq_true rfl)) rfl rfl rfl rfl ⟨Nat.le_of_ble_eq_true rfl, Nat.le_of_ble_eq_true rfl⟩ (Nat.le_of_ble_eq_true rfl) rfl) ?_
    refine G_st (x_i2l dX7_readTenant_16) ?_
    refine G_st (x_ldc2 dX7_readTenant_17 tw_1001) ?_
    refine G_st (x_ldc2 dX7_readTenant_20 tw_1002) ?_
    refine G_bd (fun x8 t9 h10 => ?_)
    refine G_st (x_callS [] (c_X7_in ids Hn (x5).toInt64 (48 : Int64) (57 : Int64)  _ _ _ h10) dX7_readTenant_23 tw_1003 kc_X7_in rfl ⟨Nat.le_of_ble_eq_true rfl, Nat.le_of_ble_eq_true rfl⟩ (Nat.le_of_ble_eq_true rfl) rfl) ?_
    refine G_ite (fun c11 => ?_) (fun c11 => ?_)
    · refine G_st (x_if_eq_t (tgt := 39) dX7_readTenant_26 (by decide) c11) ?_
      refine G_weak _ ?_ (g_X7_readTenant_39 ids Hn H0_29 x1 t9)
      exact (leL_s (leL_s (leL_e _)))
    · refine G_st (x_if_eq_f 39 dX7_readTenant_26 (by decide) c11) ?_
      refine G_st (x_bipush (10 : Int32) dX7_readTenant_29 rfl) ?_
      refine G_st (x_iload_n dX7_readTenant_31 rfl) ?_
      refine G_st (x_imul dX7_readTenant_32) ?_
      refine G_st (x_aload_n dX7_readTenant_33 rfl) ?_
      refine G_bd (fun x22 t23 h24 => ?_)
      refine G_st (x_callV [aI ((10 : Int32) * x1)] (c_X7_readDigit ids Hn  H0_29 _ _ _ h24) dX7_readTenant_34 tw_997 kc_X7_readDigit (H0_29 29 (Nat.le_of_ble_eq_true rfl) (Nat.le_of_ble_eq_true rfl)) rfl rfl rfl rfl ⟨Nat.le_of_ble_eq_true rfl, Nat.le_of_ble_eq_true rfl⟩ (Nat.le_of_ble_eq_true rfl) rfl) ?_
      refine G_st (x_iadd dX7_readTenant_37) ?_
      refine G_bvI (fun x25 => ?_)
      refine G_st (x_istore_n [some (aR (0, 29)), some (aI x25)] dX7_readTenant_38 (Nat.le_of_ble_eq_true rfl) rfl rfl) ?_
      refine G_weak _ ?_ (g_X7_readTenant_39 ids Hn H0_29 x25 t23)
      exact (leL_s (leL_s (leL_e _)))
  · refine G_st (x_if_ne_t (tgt := 39) dX7_readTenant_9 (by decide) c4) ?_
    refine G_weak _ ?_ (g_X7_readTenant_39 ids Hn H0_29 x1 t2)
    exact (leL_s (leL_s (leL_e _)))
set_option maxRecDepth 100000 in
set_option maxHeartbeats 4000000 in
theorem c_X7_readTenant (ids : List (Nat × Nat)) (Hn : Ndp ids)  (H0_29 : InR ids 0 29 56) (t0 : Sg) (r : Int32) (t1 : Sg) (hf : f_X7_readTenant t0 = some (r, t1)) : Mt0 mX7_readTenant yX7_readTenant ids [aR (0, 29)] t0 (some (aI r)) t1 :=
  Mt_of (x := (r, t1)) (g_X7_readTenant ids Hn  H0_29 t0) hf (fun _ _ => trivial) (by decide) rfl Hn (fun _ => rfl) (fun _ => Nat.le_of_ble_eq_true rfl)
theorem dX7_readStatement_0 : decode cX7_readStatement 0 = .ok (.aload_n 0, 1) := by decide +kernel
theorem dX7_readStatement_1 : decode cX7_readStatement 1 = .ok (.getfield 192, 3) := by decide +kernel
theorem dX7_readStatement_4 : decode cX7_readStatement 4 = .ok (.istore_n 1, 1) := by decide +kernel
theorem dX7_readStatement_5 : decode cX7_readStatement 5 = .ok (.aload_n 0, 1) := by decide +kernel
theorem dX7_readStatement_6 : decode cX7_readStatement 6 = .ok (.invokevirtual 180, 3) := by decide +kernel
theorem dX7_readStatement_9 : decode cX7_readStatement 9 = .ok (.istore_n 2, 1) := by decide +kernel
theorem dX7_readStatement_10 : decode cX7_readStatement 10 = .ok (.aload_n 0, 1) := by decide +kernel
theorem dX7_readStatement_11 : decode cX7_readStatement 11 = .ok (.getfield 74, 3) := by decide +kernel
theorem dX7_readStatement_14 : decode cX7_readStatement 14 = .ok (.iload_n 1, 1) := by decide +kernel
theorem dX7_readStatement_15 : decode cX7_readStatement 15 = .ok (.aload_n 0, 1) := by decide +kernel
theorem dX7_readStatement_16 : decode cX7_readStatement 16 = .ok (.getfield 173, 3) := by decide +kernel
theorem dX7_readStatement_19 : decode cX7_readStatement 19 = .ok (.iastore, 1) := by decide +kernel
theorem dX7_readStatement_20 : decode cX7_readStatement 20 = .ok (.aload_n 0, 1) := by decide +kernel
theorem dX7_readStatement_21 : decode cX7_readStatement 21 = .ok (.getfield 77, 3) := by decide +kernel
theorem dX7_readStatement_24 : decode cX7_readStatement 24 = .ok (.iload_n 1, 1) := by decide +kernel
theorem dX7_readStatement_25 : decode cX7_readStatement 25 = .ok (.iload_n 2, 1) := by decide +kernel
theorem dX7_readStatement_26 : decode cX7_readStatement 26 = .ok (.iastore, 1) := by decide +kernel
theorem dX7_readStatement_27 : decode cX7_readStatement 27 = .ok (.aload_n 0, 1) := by decide +kernel
theorem dX7_readStatement_28 : decode cX7_readStatement 28 = .ok (.aload_n 0, 1) := by decide +kernel
theorem dX7_readStatement_29 : decode cX7_readStatement 29 = .ok (.getfield 176, 3) := by decide +kernel
theorem dX7_readStatement_32 : decode cX7_readStatement 32 = .ok (.ifCond .ne 39, 3) := by decide +kernel
theorem dX7_readStatement_35 : decode cX7_readStatement 35 = .ok (.iload_n 2, 1) := by decide +kernel
theorem dX7_readStatement_36 : decode cX7_readStatement 36 = .ok (.bipush 102, 2) := by decide +kernel
theorem dX7_readStatement_38 : decode cX7_readStatement 38 = .ok (.if_icmp .eq 37, 3) := by decide +kernel
theorem dX7_readStatement_41 : decode cX7_readStatement 41 = .ok (.iload_n 2, 1) := by decide +kernel
theorem dX7_readStatement_42 : decode cX7_readStatement 42 = .ok (.bipush 115, 2) := by decide +kernel
theorem dX7_readStatement_44 : decode cX7_readStatement 44 = .ok (.if_icmp .eq 31, 3) := by decide +kernel
theorem dX7_readStatement_47 : decode cX7_readStatement 47 = .ok (.iload_n 2, 1) := by decide +kernel
theorem dX7_readStatement_48 : decode cX7_readStatement 48 = .ok (.bipush 97, 2) := by decide +kernel
theorem dX7_readStatement_50 : decode cX7_readStatement 50 = .ok (.if_icmp .eq 25, 3) := by decide +kernel
theorem dX7_readStatement_53 : decode cX7_readStatement 53 = .ok (.iload_n 2, 1) := by decide +kernel
theorem dX7_readStatement_54 : decode cX7_readStatement 54 = .ok (.bipush 119, 2) := by decide +kernel
theorem dX7_readStatement_56 : decode cX7_readStatement 56 = .ok (.if_icmp .eq 19, 3) := by decide +kernel
theorem dX7_readStatement_59 : decode cX7_readStatement 59 = .ok (.iload_n 2, 1) := by decide +kernel
theorem dX7_readStatement_60 : decode cX7_readStatement 60 = .ok (.bipush 98, 2) := by decide +kernel
theorem dX7_readStatement_62 : decode cX7_readStatement 62 = .ok (.if_icmp .eq 13, 3) := by decide +kernel
theorem dX7_readStatement_65 : decode cX7_readStatement 65 = .ok (.iload_n 2, 1) := by decide +kernel
theorem dX7_readStatement_66 : decode cX7_readStatement 66 = .ok (.bipush 104, 2) := by decide +kernel
theorem dX7_readStatement_68 : decode cX7_readStatement 68 = .ok (.if_icmp .eq 7, 3) := by decide +kernel
theorem dX7_readStatement_71 : decode cX7_readStatement 71 = .ok (.iconst 1, 1) := by decide +kernel
theorem dX7_readStatement_72 : decode cX7_readStatement 72 = .ok (.goto 4, 3) := by decide +kernel
theorem dX7_readStatement_75 : decode cX7_readStatement 75 = .ok (.iconst 0, 1) := by decide +kernel
theorem dX7_readStatement_76 : decode cX7_readStatement 76 = .ok (.putfield 176, 3) := by decide +kernel
theorem dX7_readStatement_79 : decode cX7_readStatement 79 = .ok (.aload_n 0, 1) := by decide +kernel
theorem dX7_readStatement_80 : decode cX7_readStatement 80 = .ok (.dup, 1) := by decide +kernel
theorem dX7_readStatement_81 : decode cX7_readStatement 81 = .ok (.getfield 173, 3) := by decide +kernel
theorem dX7_readStatement_84 : decode cX7_readStatement 84 = .ok (.aload_n 0, 1) := by decide +kernel
theorem dX7_readStatement_85 : decode cX7_readStatement 85 = .ok (.getfield 176, 3) := by decide +kernel
theorem dX7_readStatement_88 : decode cX7_readStatement 88 = .ok (.ifCond .eq 7, 3) := by decide +kernel
theorem dX7_readStatement_91 : decode cX7_readStatement 91 = .ok (.iconst 0, 1) := by decide +kernel
theorem dX7_readStatement_92 : decode cX7_readStatement 92 = .ok (.goto 4, 3) := by decide +kernel
theorem dX7_readStatement_95 : decode cX7_readStatement 95 = .ok (.iconst 1, 1) := by decide +kernel
theorem dX7_readStatement_96 : decode cX7_readStatement 96 = .ok (.iadd, 1) := by decide +kernel
theorem dX7_readStatement_97 : decode cX7_readStatement 97 = .ok (.putfield 173, 3) := by decide +kernel
theorem dX7_readStatement_100 : decode cX7_readStatement 100 = .ok (.iconst 4, 1) := by decide +kernel
theorem dX7_readStatement_101 : decode cX7_readStatement 101 = .ok (.iload_n 1, 1) := by decide +kernel
theorem dX7_readStatement_102 : decode cX7_readStatement 102 = .ok (.imul, 1) := by decide +kernel
theorem dX7_readStatement_103 : decode cX7_readStatement 103 = .ok (.istore_n 3, 1) := by decide +kernel
theorem dX7_readStatement_104 : decode cX7_readStatement 104 = .ok (.iload_n 2, 1) := by decide +kernel
theorem dX7_readStatement_105 : decode cX7_readStatement 105 = .ok (.lookupswitch 176 #[(97, 101), (98, 163), (102, 51), (115, 76), (119, 126)], 51) := by decide +kernel
theorem dX7_readStatement_156 : decode cX7_readStatement 156 = .ok (.aload_n 0, 1) := by decide +kernel
theorem dX7_readStatement_157 : decode cX7_readStatement 157 = .ok (.getfield 80, 3) := by decide +kernel
theorem dX7_readStatement_160 : decode cX7_readStatement 160 = .ok (.iload_n 3, 1) := by decide +kernel
theorem dX7_readStatement_161 : decode cX7_readStatement 161 = .ok (.aload_n 0, 1) := by decide +kernel
theorem dX7_readStatement_162 : decode cX7_readStatement 162 = .ok (.invokevirtual 187, 3) := by decide +kernel
theorem dX7_readStatement_165 : decode cX7_readStatement 165 = .ok (.iastore, 1) := by decide +kernel
theorem dX7_readStatement_166 : decode cX7_readStatement 166 = .ok (.aload_n 0, 1) := by decide +kernel
theorem dX7_readStatement_167 : decode cX7_readStatement 167 = .ok (.getfield 80, 3) := by decide +kernel
theorem dX7_readStatement_170 : decode cX7_readStatement 170 = .ok (.iload_n 3, 1) := by decide +kernel
theorem dX7_readStatement_171 : decode cX7_readStatement 171 = .ok (.iconst 1, 1) := by decide +kernel
theorem dX7_readStatement_172 : decode cX7_readStatement 172 = .ok (.iadd, 1) := by decide +kernel
theorem dX7_readStatement_173 : decode cX7_readStatement 173 = .ok (.aload_n 0, 1) := by decide +kernel
theorem dX7_readStatement_174 : decode cX7_readStatement 174 = .ok (.invokevirtual 187, 3) := by decide +kernel
theorem dX7_readStatement_177 : decode cX7_readStatement 177 = .ok (.iastore, 1) := by decide +kernel
theorem dX7_readStatement_178 : decode cX7_readStatement 178 = .ok (.goto 149, 3) := by decide +kernel
theorem dX7_readStatement_181 : decode cX7_readStatement 181 = .ok (.aload_n 0, 1) := by decide +kernel
theorem dX7_readStatement_182 : decode cX7_readStatement 182 = .ok (.getfield 80, 3) := by decide +kernel
theorem dX7_readStatement_185 : decode cX7_readStatement 185 = .ok (.iload_n 3, 1) := by decide +kernel
theorem dX7_readStatement_186 : decode cX7_readStatement 186 = .ok (.aload_n 0, 1) := by decide +kernel
theorem dX7_readStatement_187 : decode cX7_readStatement 187 = .ok (.invokevirtual 195, 3) := by decide +kernel
theorem dX7_readStatement_190 : decode cX7_readStatement 190 = .ok (.iastore, 1) := by decide +kernel
theorem dX7_readStatement_191 : decode cX7_readStatement 191 = .ok (.aload_n 0, 1) := by decide +kernel
theorem dX7_readStatement_192 : decode cX7_readStatement 192 = .ok (.getfield 80, 3) := by decide +kernel
theorem dX7_readStatement_195 : decode cX7_readStatement 195 = .ok (.iload_n 3, 1) := by decide +kernel
theorem dX7_readStatement_196 : decode cX7_readStatement 196 = .ok (.iconst 1, 1) := by decide +kernel
theorem dX7_readStatement_197 : decode cX7_readStatement 197 = .ok (.iadd, 1) := by decide +kernel
theorem dX7_readStatement_198 : decode cX7_readStatement 198 = .ok (.aload_n 0, 1) := by decide +kernel
theorem dX7_readStatement_199 : decode cX7_readStatement 199 = .ok (.invokevirtual 187, 3) := by decide +kernel
theorem dX7_readStatement_202 : decode cX7_readStatement 202 = .ok (.iastore, 1) := by decide +kernel
theorem dX7_readStatement_203 : decode cX7_readStatement 203 = .ok (.goto 124, 3) := by decide +kernel
theorem dX7_readStatement_206 : decode cX7_readStatement 206 = .ok (.aload_n 0, 1) := by decide +kernel
theorem dX7_readStatement_207 : decode cX7_readStatement 207 = .ok (.getfield 80, 3) := by decide +kernel
theorem dX7_readStatement_210 : decode cX7_readStatement 210 = .ok (.iload_n 3, 1) := by decide +kernel
theorem dX7_readStatement_211 : decode cX7_readStatement 211 = .ok (.aload_n 0, 1) := by decide +kernel
theorem dX7_readStatement_212 : decode cX7_readStatement 212 = .ok (.invokevirtual 195, 3) := by decide +kernel
theorem dX7_readStatement_215 : decode cX7_readStatement 215 = .ok (.iastore, 1) := by decide +kernel
theorem dX7_readStatement_216 : decode cX7_readStatement 216 = .ok (.aload_n 0, 1) := by decide +kernel
theorem dX7_readStatement_217 : decode cX7_readStatement 217 = .ok (.getfield 80, 3) := by decide +kernel
theorem dX7_readStatement_220 : decode cX7_readStatement 220 = .ok (.iload_n 3, 1) := by decide +kernel
theorem dX7_readStatement_221 : decode cX7_readStatement 221 = .ok (.iconst 1, 1) := by decide +kernel
theorem dX7_readStatement_222 : decode cX7_readStatement 222 = .ok (.iadd, 1) := by decide +kernel
theorem dX7_readStatement_223 : decode cX7_readStatement 223 = .ok (.aload_n 0, 1) := by decide +kernel
theorem dX7_readStatement_224 : decode cX7_readStatement 224 = .ok (.invokevirtual 198, 3) := by decide +kernel
theorem dX7_readStatement_227 : decode cX7_readStatement 227 = .ok (.iastore, 1) := by decide +kernel
theorem dX7_readStatement_228 : decode cX7_readStatement 228 = .ok (.goto 99, 3) := by decide +kernel
theorem dX7_readStatement_231 : decode cX7_readStatement 231 = .ok (.aload_n 0, 1) := by decide +kernel
theorem dX7_readStatement_232 : decode cX7_readStatement 232 = .ok (.getfield 80, 3) := by decide +kernel
theorem dX7_readStatement_235 : decode cX7_readStatement 235 = .ok (.iload_n 3, 1) := by decide +kernel
theorem dX7_readStatement_236 : decode cX7_readStatement 236 = .ok (.aload_n 0, 1) := by decide +kernel
theorem dX7_readStatement_237 : decode cX7_readStatement 237 = .ok (.invokevirtual 195, 3) := by decide +kernel
theorem dX7_readStatement_240 : decode cX7_readStatement 240 = .ok (.iastore, 1) := by decide +kernel
theorem dX7_readStatement_241 : decode cX7_readStatement 241 = .ok (.aload_n 0, 1) := by decide +kernel
theorem dX7_readStatement_242 : decode cX7_readStatement 242 = .ok (.getfield 80, 3) := by decide +kernel
theorem dX7_readStatement_245 : decode cX7_readStatement 245 = .ok (.iload_n 3, 1) := by decide +kernel
theorem dX7_readStatement_246 : decode cX7_readStatement 246 = .ok (.iconst 1, 1) := by decide +kernel
theorem dX7_readStatement_247 : decode cX7_readStatement 247 = .ok (.iadd, 1) := by decide +kernel
theorem dX7_readStatement_248 : decode cX7_readStatement 248 = .ok (.aload_n 0, 1) := by decide +kernel
theorem dX7_readStatement_249 : decode cX7_readStatement 249 = .ok (.invokevirtual 187, 3) := by decide +kernel
theorem dX7_readStatement_252 : decode cX7_readStatement 252 = .ok (.iastore, 1) := by decide +kernel
theorem dX7_readStatement_253 : decode cX7_readStatement 253 = .ok (.aload_n 0, 1) := by decide +kernel
theorem dX7_readStatement_254 : decode cX7_readStatement 254 = .ok (.getfield 80, 3) := by decide +kernel
theorem dX7_readStatement_257 : decode cX7_readStatement 257 = .ok (.iload_n 3, 1) := by decide +kernel
theorem dX7_readStatement_258 : decode cX7_readStatement 258 = .ok (.iconst 2, 1) := by decide +kernel
theorem dX7_readStatement_259 : decode cX7_readStatement 259 = .ok (.iadd, 1) := by decide +kernel
theorem dX7_readStatement_260 : decode cX7_readStatement 260 = .ok (.aload_n 0, 1) := by decide +kernel
theorem dX7_readStatement_261 : decode cX7_readStatement 261 = .ok (.invokevirtual 201, 3) := by decide +kernel
theorem dX7_readStatement_264 : decode cX7_readStatement 264 = .ok (.iastore, 1) := by decide +kernel
theorem dX7_readStatement_265 : decode cX7_readStatement 265 = .ok (.goto 62, 3) := by decide +kernel
theorem dX7_readStatement_268 : decode cX7_readStatement 268 = .ok (.aload_n 0, 1) := by decide +kernel
theorem dX7_readStatement_269 : decode cX7_readStatement 269 = .ok (.getfield 80, 3) := by decide +kernel
theorem dX7_readStatement_272 : decode cX7_readStatement 272 = .ok (.iload_n 3, 1) := by decide +kernel
theorem dX7_readStatement_273 : decode cX7_readStatement 273 = .ok (.aload_n 0, 1) := by decide +kernel
theorem dX7_readStatement_274 : decode cX7_readStatement 274 = .ok (.invokevirtual 198, 3) := by decide +kernel
theorem dX7_readStatement_277 : decode cX7_readStatement 277 = .ok (.iastore, 1) := by decide +kernel
theorem dX7_readStatement_278 : decode cX7_readStatement 278 = .ok (.goto 49, 3) := by decide +kernel
theorem dX7_readStatement_281 : decode cX7_readStatement 281 = .ok (.aload_n 0, 1) := by decide +kernel
theorem dX7_readStatement_282 : decode cX7_readStatement 282 = .ok (.getfield 80, 3) := by decide +kernel
theorem dX7_readStatement_285 : decode cX7_readStatement 285 = .ok (.iload_n 3, 1) := by decide +kernel
theorem dX7_readStatement_286 : decode cX7_readStatement 286 = .ok (.aload_n 0, 1) := by decide +kernel
theorem dX7_readStatement_287 : decode cX7_readStatement 287 = .ok (.invokevirtual 204, 3) := by decide +kernel
theorem dX7_readStatement_290 : decode cX7_readStatement 290 = .ok (.iastore, 1) := by decide +kernel
theorem dX7_readStatement_291 : decode cX7_readStatement 291 = .ok (.aload_n 0, 1) := by decide +kernel
theorem dX7_readStatement_292 : decode cX7_readStatement 292 = .ok (.getfield 80, 3) := by decide +kernel
theorem dX7_readStatement_295 : decode cX7_readStatement 295 = .ok (.iload_n 3, 1) := by decide +kernel
theorem dX7_readStatement_296 : decode cX7_readStatement 296 = .ok (.iconst 1, 1) := by decide +kernel
theorem dX7_readStatement_297 : decode cX7_readStatement 297 = .ok (.iadd, 1) := by decide +kernel
theorem dX7_readStatement_298 : decode cX7_readStatement 298 = .ok (.aload_n 0, 1) := by decide +kernel
theorem dX7_readStatement_299 : decode cX7_readStatement 299 = .ok (.invokevirtual 187, 3) := by decide +kernel
theorem dX7_readStatement_302 : decode cX7_readStatement 302 = .ok (.iastore, 1) := by decide +kernel
theorem dX7_readStatement_303 : decode cX7_readStatement 303 = .ok (.aload_n 0, 1) := by decide +kernel
theorem dX7_readStatement_304 : decode cX7_readStatement 304 = .ok (.getfield 80, 3) := by decide +kernel
theorem dX7_readStatement_307 : decode cX7_readStatement 307 = .ok (.iload_n 3, 1) := by decide +kernel
theorem dX7_readStatement_308 : decode cX7_readStatement 308 = .ok (.iconst 2, 1) := by decide +kernel
theorem dX7_readStatement_309 : decode cX7_readStatement 309 = .ok (.iadd, 1) := by decide +kernel
theorem dX7_readStatement_310 : decode cX7_readStatement 310 = .ok (.aload_n 0, 1) := by decide +kernel
theorem dX7_readStatement_311 : decode cX7_readStatement 311 = .ok (.invokevirtual 187, 3) := by decide +kernel
theorem dX7_readStatement_314 : decode cX7_readStatement 314 = .ok (.iastore, 1) := by decide +kernel
theorem dX7_readStatement_315 : decode cX7_readStatement 315 = .ok (.aload_n 0, 1) := by decide +kernel
theorem dX7_readStatement_316 : decode cX7_readStatement 316 = .ok (.getfield 80, 3) := by decide +kernel
theorem dX7_readStatement_319 : decode cX7_readStatement 319 = .ok (.iload_n 3, 1) := by decide +kernel
theorem dX7_readStatement_320 : decode cX7_readStatement 320 = .ok (.iconst 3, 1) := by decide +kernel
theorem dX7_readStatement_321 : decode cX7_readStatement 321 = .ok (.iadd, 1) := by decide +kernel
theorem dX7_readStatement_322 : decode cX7_readStatement 322 = .ok (.aload_n 0, 1) := by decide +kernel
theorem dX7_readStatement_323 : decode cX7_readStatement 323 = .ok (.invokevirtual 187, 3) := by decide +kernel
theorem dX7_readStatement_326 : decode cX7_readStatement 326 = .ok (.iastore, 1) := by decide +kernel
theorem dX7_readStatement_327 : decode cX7_readStatement 327 = .ok (.aload_n 0, 1) := by decide +kernel
theorem dX7_readStatement_328 : decode cX7_readStatement 328 = .ok (.aload_n 0, 1) := by decide +kernel
theorem dX7_readStatement_329 : decode cX7_readStatement 329 = .ok (.getfield 176, 3) := by decide +kernel
theorem dX7_readStatement_332 : decode cX7_readStatement 332 = .ok (.ifCond .ne 12, 3) := by decide +kernel
theorem dX7_readStatement_335 : decode cX7_readStatement 335 = .ok (.aload_n 0, 1) := by decide +kernel
theorem dX7_readStatement_336 : decode cX7_readStatement 336 = .ok (.invokevirtual 180, 3) := by decide +kernel
theorem dX7_readStatement_339 : decode cX7_readStatement 339 = .ok (.bipush 59, 2) := by decide +kernel
theorem dX7_readStatement_341 : decode cX7_readStatement 341 = .ok (.if_icmp .eq 7, 3) := by decide +kernel
theorem dX7_readStatement_344 : decode cX7_readStatement 344 = .ok (.iconst 1, 1) := by decide +kernel
theorem dX7_readStatement_345 : decode cX7_readStatement 345 = .ok (.goto 4, 3) := by decide +kernel
theorem dX7_readStatement_348 : decode cX7_readStatement 348 = .ok (.iconst 0, 1) := by decide +kernel
theorem dX7_readStatement_349 : decode cX7_readStatement 349 = .ok (.putfield 176, 3) := by decide +kernel
theorem dX7_readStatement_352 : decode cX7_readStatement 352 = .ok (.aload_n 0, 1) := by decide +kernel
theorem dX7_readStatement_353 : decode cX7_readStatement 353 = .ok (.dup, 1) := by decide +kernel
theorem dX7_readStatement_354 : decode cX7_readStatement 354 = .ok (.getfield 173, 3) := by decide +kernel
theorem dX7_readStatement_357 : decode cX7_readStatement 357 = .ok (.aload_n 0, 1) := by decide +kernel
theorem dX7_readStatement_358 : decode cX7_readStatement 358 = .ok (.getfield 176, 3) := by decide +kernel
theorem dX7_readStatement_361 : decode cX7_readStatement 361 = .ok (.ifCond .eq 7, 3) := by decide +kernel
theorem dX7_readStatement_364 : decode cX7_readStatement 364 = .ok (.iconst 0, 1) := by decide +kernel
theorem dX7_readStatement_365 : decode cX7_readStatement 365 = .ok (.goto 4, 3) := by decide +kernel
theorem dX7_readStatement_368 : decode cX7_readStatement 368 = .ok (.iconst 1, 1) := by decide +kernel
theorem dX7_readStatement_369 : decode cX7_readStatement 369 = .ok (.iadd, 1) := by decide +kernel
theorem dX7_readStatement_370 : decode cX7_readStatement 370 = .ok (.putfield 173, 3) := by decide +kernel
theorem dX7_readStatement_373 : decode cX7_readStatement 373 = .ok (.aload_n 0, 1) := by decide +kernel
theorem dX7_readStatement_374 : decode cX7_readStatement 374 = .ok (.dup, 1) := by decide +kernel
theorem dX7_readStatement_375 : decode cX7_readStatement 375 = .ok (.getfield 192, 3) := by decide +kernel
theorem dX7_readStatement_378 : decode cX7_readStatement 378 = .ok (.iconst 1, 1) := by decide +kernel
theorem dX7_readStatement_379 : decode cX7_readStatement 379 = .ok (.iadd, 1) := by decide +kernel
theorem dX7_readStatement_380 : decode cX7_readStatement 380 = .ok (.putfield 192, 3) := by decide +kernel
theorem dX7_readStatement_383 : decode cX7_readStatement 383 = .ok (.return_, 1) := by decide +kernel
set_option maxRecDepth 100000 in
set_option maxHeartbeats 4000000 in
theorem g_X7_readStatement_349 (ids : List (Nat × Nat)) (Hn : Ndp ids)  (H0_29 : InR ids 0 29 56)  (w0 : Int32) (t0 : Sg) : Gj kV mX7_readStatement ids 349 [some (aR (0, 29)), none, none, none] [aI w0, aR (0, 29)] t0 (f_X7_readStatement_349 w0 t0) := by
  unfold f_X7_readStatement_349
  refine G_chk (fun c39 => ?_)
  refine G_st (x_put (k := 28) (ty := .boolean) (v := aI w0) (z := w0) (upS t0 (0, 29) 28 w0) dX7_readStatement_349 (H0_29 29 (Nat.le_of_ble_eq_true rfl) (Nat.le_of_ble_eq_true rfl)) rfl rfl rfl rfl inTX7 tyX7_ok nmX7 (Nat.le_of_ble_eq_true rfl) tw_875 rfl rfl (fun ad => nar_b c39) (fun ad => fit_b c39) (fun ad => put_i1 ad _ _ _ _ rfl) rfl) ?_
  refine G_bvS (fun t38 => ?_)
  refine G_st (x_aload_n dX7_readStatement_352 rfl) ?_
  refine G_st (x_dup dX7_readStatement_353 rfl) ?_
  refine G_st (x_get (k := 27) (aI (t38 (0, 29) 27)) dX7_readStatement_354 (H0_29 29 (Nat.le_of_ble_eq_true rfl) (Nat.le_of_ble_eq_true rfl)) rfl rfl rfl rfl inTX7 (Nat.le_of_ble_eq_true rfl) tw_874 (fun ad => rfl)) ?_
  refine G_st (x_aload_n dX7_readStatement_357 rfl) ?_
  refine G_st (x_get (k := 28) (aI (t38 (0, 29) 28)) dX7_readStatement_358 (H0_29 29 (Nat.le_of_ble_eq_true rfl) (Nat.le_of_ble_eq_true rfl)) rfl rfl rfl rfl inTX7 (Nat.le_of_ble_eq_true rfl) tw_875 (fun ad => rfl)) ?_
  have e41 : Tj mX7_readStatement ids 361 [some (aR (0, 29)), none, none, none] [aI (t38 (0, 29) 28), aI (t38 (0, 29) 27), aR (0, 29)] t38 369 [some (aR (0, 29)), none, none, none] [aI (if (t38 (0, 29) 28) = 0 then (1 : Int32) else (0 : Int32)), aI (t38 (0, 29) 27), aR (0, 29)] t38 := by
    refine Tj.dia (fun c40 => ?_) (fun c40 => ?_)
    · refine Tj.tr (x_if_eq_t (tgt := 368) dX7_readStatement_361 (by decide) c40) ?_
      refine Tj.tr (x_iconst (1 : Int32) dX7_readStatement_368 rfl) ?_
      exact Tj.rf
    · refine Tj.tr (x_if_eq_f 368 dX7_readStatement_361 (by decide) c40) ?_
      refine Tj.tr (x_iconst (0 : Int32) dX7_readStatement_364 rfl) ?_
      refine Tj.tr (x_goto (tgt := 369) dX7_readStatement_365 (by decide)) ?_
      exact Tj.rf
  refine G_st e41 ?_
  refine G_st (x_iadd dX7_readStatement_369) ?_
  refine G_st (x_put (k := 27) (ty := .int) (v := aI ((t38 (0, 29) 27) + (if (t38 (0, 29) 28) = 0 then (1 : Int32) else (0 : Int32)))) (z := ((t38 (0, 29) 27) + (if (t38 (0, 29) 28) = 0 then (1 : Int32) else (0 : Int32)))) (upS t38 (0, 29) 27 ((t38 (0, 29) 27) + (if (t38 (0, 29) 28) = 0 then (1 : Int32) else (0 : Int32)))) dX7_readStatement_370 (H0_29 29 (Nat.le_of_ble_eq_true rfl) (Nat.le_of_ble_eq_true rfl)) rfl rfl rfl rfl inTX7 tyX7_ok nmX7 (Nat.le_of_ble_eq_true rfl) tw_874 rfl rfl (fun ad => rfl) (fun ad => rfl) (fun ad => put_i0 ad _ _ _ _ rfl) rfl) ?_
  refine G_bvS (fun t42 => ?_)
  refine G_st (x_aload_n dX7_readStatement_373 rfl) ?_
  refine G_st (x_dup dX7_readStatement_374 rfl) ?_
  refine G_st (x_get (k := 29) (aI (t42 (0, 29) 29)) dX7_readStatement_375 (H0_29 29 (Nat.le_of_ble_eq_true rfl) (Nat.le_of_ble_eq_true rfl)) rfl rfl rfl rfl inTX7 (Nat.le_of_ble_eq_true rfl) tw_876 (fun ad => rfl)) ?_
  refine G_st (x_iconst (1 : Int32) dX7_readStatement_378 rfl) ?_
  refine G_st (x_iadd dX7_readStatement_379) ?_
  refine G_st (x_put (k := 29) (ty := .int) (v := aI ((t42 (0, 29) 29) + (1 : Int32))) (z := ((t42 (0, 29) 29) + (1 : Int32))) (upS t42 (0, 29) 29 ((t42 (0, 29) 29) + (1 : Int32))) dX7_readStatement_380 (H0_29 29 (Nat.le_of_ble_eq_true rfl) (Nat.le_of_ble_eq_true rfl)) rfl rfl rfl rfl inTX7 tyX7_ok nmX7 (Nat.le_of_ble_eq_true rfl) tw_876 rfl rfl (fun ad => rfl) (fun ad => rfl) (fun ad => put_i0 ad _ _ _ _ rfl) rfl) ?_
  refine G_bvS (fun t43 => ?_)
  exact G_ret rfl ⟨rfl, dX7_readStatement_383⟩ rfl
set_option maxRecDepth 100000 in
set_option maxHeartbeats 4000000 in
theorem g_X7_readStatement_344 (ids : List (Nat × Nat)) (Hn : Ndp ids)  (H0_29 : InR ids 0 29 56)   (t0 : Sg) : Gj kV mX7_readStatement ids 344 [some (aR (0, 29)), none, none, none] [aR (0, 29)] t0 (f_X7_readStatement_344 t0) := by
  unfold f_X7_readStatement_344
  refine G_st (x_iconst (1 : Int32) dX7_readStatement_344 rfl) ?_
  refine G_st (x_goto (tgt := 349) dX7_readStatement_345 (by decide)) ?_
  refine G_weak _ ?_ (g_X7_readStatement_349 ids Hn H0_29 (1 : Int32) t0)
  exact (leL_s (leL_n (leL_n (leL_n (leL_e _)))))
set_option maxRecDepth 100000 in
set_option maxHeartbeats 4000000 in
theorem g_X7_readStatement_327 (ids : List (Nat × Nat)) (Hn : Ndp ids)  (H0_29 : InR ids 0 29 56)   (t0 : Sg) : Gj kV mX7_readStatement ids 327 [some (aR (0, 29)), none, none, none] [] t0 (f_X7_readStatement_327 t0) := by
  unfold f_X7_readStatement_327
  refine G_st (x_aload_n dX7_readStatement_327 rfl) ?_
  refine G_st (x_aload_n dX7_readStatement_328 rfl) ?_
  refine G_st (x_get (k := 28) (aI (t0 (0, 29) 28)) dX7_readStatement_329 (H0_29 29 (Nat.le_of_ble_eq_true rfl) (Nat.le_of_ble_eq_true rfl)) rfl rfl rfl rfl inTX7 (Nat.le_of_ble_eq_true rfl) tw_875 (fun ad => rfl)) ?_
  refine G_ite (fun c33 => ?_) (fun c33 => ?_)
  · refine G_st (x_if_ne_f 344 dX7_readStatement_332 (by decide) c33) ?_
    refine G_st (x_aload_n dX7_readStatement_335 rfl) ?_
    refine G_bd (fun x34 t35 h36 => ?_)
    refine G_st (x_callV [aR (0, 29)] (c_X7_here ids Hn  H0_29 _ _ _ h36) dX7_readStatement_336 tw_993 kc_X7_here (H0_29 29 (Nat.le_of_ble_eq_true rfl) (Nat.le_of_ble_eq_true rfl)) rfl rfl rfl rfl ⟨Nat.le_of_ble_eq_true rfl, Nat.le_of_ble_eq_true rfl⟩ (Nat.le_of_ble_eq_true rfl) rfl) ?_
    refine G_st (x_bipush (59 : Int32) dX7_readStatement_339 rfl) ?_
    refine G_ite (fun c37 => ?_) (fun c37 => ?_)
    · refine G_st (x_icmp_eq_t (tgt := 348) dX7_readStatement_341 (by decide) c37) ?_
      refine G_st (x_iconst (0 : Int32) dX7_readStatement_348 rfl) ?_
      refine G_weak _ ?_ (g_X7_readStatement_349 ids Hn H0_29 (0 : Int32) t35)
      exact (leL_s (leL_n (leL_n (leL_n (leL_e _)))))
    · refine G_st (x_icmp_eq_f 348 dX7_readStatement_341 (by decide) c37) ?_
      refine G_weak _ ?_ (g_X7_readStatement_344 ids Hn H0_29 t35)
      exact (leL_s (leL_n (leL_n (leL_n (leL_e _)))))
  · refine G_st (x_if_ne_t (tgt := 344) dX7_readStatement_332 (by decide) c33) ?_
    refine G_weak _ ?_ (g_X7_readStatement_344 ids Hn H0_29 t0)
    exact (leL_s (leL_n (leL_n (leL_n (leL_e _)))))
set_option maxRecDepth 100000 in
set_option maxHeartbeats 4000000 in
theorem g_X7_readStatement (ids : List (Nat × Nat)) (Hn : Ndp ids)  (H0_29 : InR ids 0 29 56) (t0 : Sg) : Gj kV mX7_readStatement ids 0 [some (aR (0, 29)), none, none, none] [] t0 (f_X7_readStatement t0) := by
  unfold f_X7_readStatement
  refine G_st (x_aload_n dX7_readStatement_0 rfl) ?_
  refine G_st (x_get (k := 29) (aI (t0 (0, 29) 29)) dX7_readStatement_1 (H0_29 29 (Nat.le_of_ble_eq_true rfl) (Nat.le_of_ble_eq_true rfl)) rfl rfl rfl rfl inTX7 (Nat.le_of_ble_eq_true rfl) tw_876 (fun ad => rfl)) ?_
  refine G_bvI (fun x1 => ?_)
  refine G_st (x_istore_n [some (aR (0, 29)), some (aI x1), none, none] dX7_readStatement_4 (Nat.le_of_ble_eq_true rfl) rfl rfl) ?_
  refine G_st (x_aload_n dX7_readStatement_5 rfl) ?_
  refine G_bd (fun x2 t3 h4 => ?_)
  refine G_st (x_callV [] (c_X7_here ids Hn  H0_29 _ _ _ h4) dX7_readStatement_6 tw_993 kc_X7_here (H0_29 29 (Nat.le_of_ble_eq_true rfl) (Nat.le_of_ble_eq_true rfl)) rfl rfl rfl rfl ⟨Nat.le_of_ble_eq_true rfl, Nat.le_of_ble_eq_true rfl⟩ (Nat.le_of_ble_eq_true rfl) rfl) ?_
  refine G_st (x_istore_n [some (aR (0, 29)), some (aI x1), some (aI x2), none] dX7_readStatement_9 (Nat.le_of_ble_eq_true rfl) rfl rfl) ?_
  refine G_st (x_aload_n dX7_readStatement_10 rfl) ?_
  refine G_st (x_get (k := 30) (aR (0, 49)) dX7_readStatement_11 (H0_29 29 (Nat.le_of_ble_eq_true rfl) (Nat.le_of_ble_eq_true rfl)) rfl rfl rfl rfl inTX7 (Nat.le_of_ble_eq_true rfl) tw_877 (fun ad => rfl)) ?_
  refine G_st (x_iload_n dX7_readStatement_14 rfl) ?_
  refine G_st (x_aload_n dX7_readStatement_15 rfl) ?_
  refine G_st (x_get (k := 27) (aI (t3 (0, 29) 27)) dX7_readStatement_16 (H0_29 29 (Nat.le_of_ble_eq_true rfl) (Nat.le_of_ble_eq_true rfl)) rfl rfl rfl rfl inTX7 (Nat.le_of_ble_eq_true rfl) tw_874 (fun ad => rfl)) ?_
  refine G_chk (fun c5 => ?_)
  refine G_st (x_iastore dX7_readStatement_19 (H0_29 49 (Nat.le_of_ble_eq_true rfl) (Nat.le_of_ble_eq_true rfl)) rfl c5) ?_
  refine G_bvS (fun t6 => ?_)
  refine G_st (x_aload_n dX7_readStatement_20 rfl) ?_
  refine G_st (x_get (k := 31) (aR (0, 50)) dX7_readStatement_21 (H0_29 29 (Nat.le_of_ble_eq_true rfl) (Nat.le_of_ble_eq_true rfl)) rfl rfl rfl rfl inTX7 (Nat.le_of_ble_eq_true rfl) tw_878 (fun ad => rfl)) ?_
  refine G_st (x_iload_n dX7_readStatement_24 rfl) ?_
  refine G_st (x_iload_n dX7_readStatement_25 rfl) ?_
  refine G_chk (fun c7 => ?_)
  refine G_st (x_iastore dX7_readStatement_26 (H0_29 50 (Nat.le_of_ble_eq_true rfl) (Nat.le_of_ble_eq_true rfl)) rfl c7) ?_
  refine G_bvS (fun t8 => ?_)
  refine G_st (x_aload_n dX7_readStatement_27 rfl) ?_
  refine G_st (x_aload_n dX7_readStatement_28 rfl) ?_
  refine G_st (x_get (k := 28) (aI (t8 (0, 29) 28)) dX7_readStatement_29 (H0_29 29 (Nat.le_of_ble_eq_true rfl) (Nat.le_of_ble_eq_true rfl)) rfl rfl rfl rfl inTX7 (Nat.le_of_ble_eq_true rfl) tw_875 (fun ad => rfl)) ?_
  have e16 : Tj mX7_readStatement ids 32 [some (aR (0, 29)), some (aI x1), some (aI x2), none] [aI (t8 (0, 29) 28), aR (0, 29)] t8 76 [some (aR (0, 29)), some (aI x1), some (aI x2), none] [aI (if (t8 (0, 29) 28) = 0 then (if x2 = (102 : Int32) then (0 : Int32) else (if x2 = (115 : Int32) then (0 : Int32) else (if x2 = (97 : Int32) then (0 : Int32) else (if x2 = (119 : Int32) then (0 : Int32) else (if x2 = (98 : Int32) then (0 : Int32) else (if x2 = (104 : Int32) then (0 : Int32) else (1 : Int32))))))) else (1 : Int32)), aR (0, 29)] t8 := by
    refine Tj.dia (fun c9 => ?_) (fun c9 => ?_)
    · refine Tj.tr (x_if_ne_f 71 dX7_readStatement_32 (by decide) c9) ?_
      refine Tj.tr (x_iload_n dX7_readStatement_35 rfl) ?_
      refine Tj.tr (x_bipush (102 : Int32) dX7_readStatement_36 rfl) ?_
      refine Tj.dia (fun c10 => ?_) (fun c10 => ?_)
      · refine Tj.tr (x_icmp_eq_t (tgt := 75) dX7_readStatement_38 (by decide) c10) ?_
        refine Tj.tr (x_iconst (0 : Int32) dX7_readStatement_75 rfl) ?_
        exact Tj.rf
      · refine Tj.tr (x_icmp_eq_f 75 dX7_readStatement_38 (by decide) c10) ?_
        refine Tj.tr (x_iload_n dX7_readStatement_41 rfl) ?_
        refine Tj.tr (x_bipush (115 : Int32) dX7_readStatement_42 rfl) ?_
        refine Tj.dia (fun c11 => ?_) (fun c11 => ?_)
        · refine Tj.tr (x_icmp_eq_t (tgt := 75) dX7_readStatement_44 (by decide) c11) ?_
          refine Tj.tr (x_iconst (0 : Int32) dX7_readStatement_75 rfl) ?_
          exact Tj.rf
        · refine Tj.tr (x_icmp_eq_f 75 dX7_readStatement_44 (by decide) c11) ?_
          refine Tj.tr (x_iload_n dX7_readStatement_47 rfl) ?_
          refine Tj.tr (x_bipush (97 : Int32) dX7_readStatement_48 rfl) ?_
          refine Tj.dia (fun c12 => ?_) (fun c12 => ?_)
          · refine Tj.tr (x_icmp_eq_t (tgt := 75) dX7_readStatement_50 (by decide) c12) ?_
            refine Tj.tr (x_iconst (0 : Int32) dX7_readStatement_75 rfl) ?_
            exact Tj.rf
          · refine Tj.tr (x_icmp_eq_f 75 dX7_readStatement_50 (by decide) c12) ?_
            refine Tj.tr (x_iload_n dX7_readStatement_53 rfl) ?_
            refine Tj.tr (x_bipush (119 : Int32) dX7_readStatement_54 rfl) ?_
            refine Tj.dia (fun c13 => ?_) (fun c13 => ?_)
            · refine Tj.tr (x_icmp_eq_t (tgt := 75) dX7_readStatement_56 (by decide) c13) ?_
              refine Tj.tr (x_iconst (0 : Int32) dX7_readStatement_75 rfl) ?_
              exact Tj.rf
            · refine Tj.tr (x_icmp_eq_f 75 dX7_readStatement_56 (by decide) c13) ?_
              refine Tj.tr (x_iload_n dX7_readStatement_59 rfl) ?_
              refine Tj.tr (x_bipush (98 : Int32) dX7_readStatement_60 rfl) ?_
              refine Tj.dia (fun c14 => ?_) (fun c14 => ?_)
              · refine Tj.tr (x_icmp_eq_t (tgt := 75) dX7_readStatement_62 (by decide) c14) ?_
                refine Tj.tr (x_iconst (0 : Int32) dX7_readStatement_75 rfl) ?_
                exact Tj.rf
              · refine Tj.tr (x_icmp_eq_f 75 dX7_readStatement_62 (by decide) c14) ?_
                refine Tj.tr (x_iload_n dX7_readStatement_65 rfl) ?_
                refine Tj.tr (x_bipush (104 : Int32) dX7_readStatement_66 rfl) ?_
                refine Tj.dia (fun c15 => ?_) (fun c15 => ?_)
                · refine Tj.tr (x_icmp_eq_t (tgt := 75) dX7_readStatement_68 (by decide) c15) ?_
                  refine Tj.tr (x_iconst (0 : Int32) dX7_readStatement_75 rfl) ?_
                  exact Tj.rf
                · refine Tj.tr (x_icmp_eq_f 75 dX7_readStatement_68 (by decide) c15) ?_
                  refine Tj.tr (x_iconst (1 : Int32) dX7_readStatement_71 rfl) ?_
                  refine Tj.tr (x_goto (tgt := 76) dX7_readStatement_72 (by decide)) ?_
                  exact Tj.rf
    · refine Tj.tr (x_if_ne_t (tgt := 71) dX7_readStatement_32 (by decide) c9) ?_
      refine Tj.tr (x_iconst (1 : Int32) dX7_readStatement_71 rfl) ?_
      refine Tj.tr (x_goto (tgt := 76) dX7_readStatement_72 (by decide)) ?_
      exact Tj.rf
  refine G_st e16 ?_
  refine G_st (x_put (k := 28) (ty := .boolean) (v := aI (if (t8 (0, 29) 28) = 0 then (if x2 = (102 : Int32) then (0 : Int32) else (if x2 = (115 : Int32) then (0 : Int32) else (if x2 = (97 : Int32) then (0 : Int32) else (if x2 = (119 : Int32) then (0 : Int32) else (if x2 = (98 : Int32) then (0 : Int32) else (if x2 = (104 : Int32) then (0 : Int32) else (1 : Int32))))))) else (1 : Int32))) (z := (if (t8 (0, 29) 28) = 0 then (if x2 = (102 : Int32) then (0 : Int32) else (if x2 = (115 : Int32) then (0 : Int32) else (if x2 = (97 : Int32) then (0 : Int32) else (if x2 = (119 : Int32) then (0 : Int32) else (if x2 = (98 : Int32) then (0 : Int32) else (if x2 = (104 : Int32) then (0 : Int32) else (1 : Int32))))))) else (1 : Int32))) (upS t8 (0, 29) 28 (if (t8 (0, 29) 28) = 0 then (if x2 = (102 : Int32) then (0 : Int32) else (if x2 = (115 : Int32) then (0 : Int32) else (if x2 = (97 : Int32) then (0 : Int32) else (if x2 = (119 : Int32) then (0 : Int32) else (if x2 = (98 : Int32) then (0 : Int32) else (if x2 = (104 : Int32) then (0 : Int32) else (1 : Int32))))))) else (1 : Int32))) dX7_readStatement_76 (H0_29 29 (Nat.le_of_ble_eq_true rfl) (Nat.le_of_ble_eq_true rfl)) rfl rfl rfl rfl inTX7 tyX7_ok nmX7 (Nat.le_of_ble_eq_true rfl) tw_875 rfl rfl (fun ad => nar_b (b_ite (b_ite (Or.inl rfl) (b_ite (Or.inl rfl) (b_ite (Or.inl rfl) (b_ite (Or.inl rfl) (b_ite (Or.inl rfl) (b_ite (Or.inl rfl) (Or.inr rfl))))))) (Or.inr rfl))) (fun ad => fit_b (b_ite (b_ite (Or.inl rfl) (b_ite (Or.inl rfl) (b_ite (Or.inl rfl) (b_ite (Or.inl rfl) (b_ite (Or.inl rfl) (b_ite (Or.inl rfl) (Or.inr rfl))))))) (Or.inr rfl))) (fun ad => put_i1 ad _ _ _ _ rfl) rfl) ?_
  refine G_bvS (fun t17 => ?_)
  refine G_st (x_aload_n dX7_readStatement_79 rfl) ?_
  refine G_st (x_dup dX7_readStatement_80 rfl) ?_
  refine G_st (x_get (k := 27) (aI (t17 (0, 29) 27)) dX7_readStatement_81 (H0_29 29 (Nat.le_of_ble_eq_true rfl) (Nat.le_of_ble_eq_true rfl)) rfl rfl rfl rfl inTX7 (Nat.le_of_ble_eq_true rfl) tw_874 (fun ad => rfl)) ?_
  refine G_st (x_aload_n dX7_readStatement_84 rfl) ?_
  refine G_st (x_get (k := 28) (aI (t17 (0, 29) 28)) dX7_readStatement_85 (H0_29 29 (Nat.le_of_ble_eq_true rfl) (Nat.le_of_ble_eq_true rfl)) rfl rfl rfl rfl inTX7 (Nat.le_of_ble_eq_true rfl) tw_875 (fun ad => rfl)) ?_
  have e19 : Tj mX7_readStatement ids 88 [some (aR (0, 29)), some (aI x1), some (aI x2), none] [aI (t17 (0, 29) 28), aI (t17 (0, 29) 27), aR (0, 29)] t17 96 [some (aR (0, 29)), some (aI x1), some (aI x2), none] [aI (if (t17 (0, 29) 28) = 0 then (1 : Int32) else (0 : Int32)), aI (t17 (0, 29) 27), aR (0, 29)] t17 := by
    refine Tj.dia (fun c18 => ?_) (fun c18 => ?_)
    · refine Tj.tr (x_if_eq_t (tgt := 95) dX7_readStatement_88 (by decide) c18) ?_
      refine Tj.tr (x_iconst (1 : Int32) dX7_readStatement_95 rfl) ?_
      exact Tj.rf
    · refine Tj.tr (x_if_eq_f 95 dX7_readStatement_88 (by decide) c18) ?_
      refine Tj.tr (x_iconst (0 : Int32) dX7_readStatement_91 rfl) ?_
      refine Tj.tr (x_goto (tgt := 96) dX7_readStatement_92 (by decide)) ?_
      exact Tj.rf
  refine G_st e19 ?_
  refine G_st (x_iadd dX7_readStatement_96) ?_
  refine G_st (x_put (k := 27) (ty := .int) (v := aI ((t17 (0, 29) 27) + (if (t17 (0, 29) 28) = 0 then (1 : Int32) else (0 : Int32)))) (z := ((t17 (0, 29) 27) + (if (t17 (0, 29) 28) = 0 then (1 : Int32) else (0 : Int32)))) (upS t17 (0, 29) 27 ((t17 (0, 29) 27) + (if (t17 (0, 29) 28) = 0 then (1 : Int32) else (0 : Int32)))) dX7_readStatement_97 (H0_29 29 (Nat.le_of_ble_eq_true rfl) (Nat.le_of_ble_eq_true rfl)) rfl rfl rfl rfl inTX7 tyX7_ok nmX7 (Nat.le_of_ble_eq_true rfl) tw_874 rfl rfl (fun ad => rfl) (fun ad => rfl) (fun ad => put_i0 ad _ _ _ _ rfl) rfl) ?_
  refine G_bvS (fun t20 => ?_)
  refine G_st (x_iconst (4 : Int32) dX7_readStatement_100 rfl) ?_
  refine G_st (x_iload_n dX7_readStatement_101 rfl) ?_
  refine G_st (x_imul dX7_readStatement_102) ?_
  refine G_bvI (fun x21 => ?_)
  refine G_st (x_istore_n [some (aR (0, 29)), some (aI x1), some (aI x2), some (aI x21)] dX7_readStatement_103 (Nat.le_of_ble_eq_true rfl) rfl rfl) ?_
  refine G_st (x_iload_n dX7_readStatement_104 rfl) ?_
  refine G_ite (fun c22 => ?_) (fun c22 => ?_)
  · refine G_st (x_look (off := (101)) (tgt := 206) dX7_readStatement_105 (by decide) (by rw [c22] <;> rfl) (by decide)) ?_
    refine G_st (x_aload_n dX7_readStatement_206 rfl) ?_
    refine G_st (x_get (k := 32) (aR (0, 51)) dX7_readStatement_207 (H0_29 29 (Nat.le_of_ble_eq_true rfl) (Nat.le_of_ble_eq_true rfl)) rfl rfl rfl rfl inTX7 (Nat.le_of_ble_eq_true rfl) tw_879 (fun ad => rfl)) ?_
    refine G_st (x_iload_n dX7_readStatement_210 rfl) ?_
    refine G_st (x_aload_n dX7_readStatement_211 rfl) ?_
    refine G_bd (fun x23 t24 h25 => ?_)
    refine G_st (x_callV [aI x21, aR (0, 51)] (c_X7_readTwo ids Hn  H0_29 _ _ _ h25) dX7_readStatement_212 tw_1006 kc_X7_readTwo (H0_29 29 (Nat.le_of_ble_eq_true rfl) (Nat.le_of_ble_eq_true rfl)) rfl rfl rfl rfl ⟨Nat.le_of_ble_eq_true rfl, Nat.le_of_ble_eq_true rfl⟩ (Nat.le_of_ble_eq_true rfl) rfl) ?_
    refine G_chk (fun c26 => ?_)
    refine G_st (x_iastore dX7_readStatement_215 (H0_29 51 (Nat.le_of_ble_eq_true rfl) (Nat.le_of_ble_eq_true rfl)) rfl c26) ?_
    refine G_bvS (fun t27 => ?_)
    refine G_st (x_aload_n dX7_readStatement_216 rfl) ?_
    refine G_st (x_get (k := 32) (aR (0, 51)) dX7_readStatement_217 (H0_29 29 (Nat.le_of_ble_eq_true rfl) (Nat.le_of_ble_eq_true rfl)) rfl rfl rfl rfl inTX7 (Nat.le_of_ble_eq_true rfl) tw_879 (fun ad => rfl)) ?_
    refine G_st (x_iload_n dX7_readStatement_220 rfl) ?_
    refine G_st (x_iconst (1 : Int32) dX7_readStatement_221 rfl) ?_
    refine G_st (x_iadd dX7_readStatement_222) ?_
    refine G_st (x_aload_n dX7_readStatement_223 rfl) ?_
    refine G_bd (fun x28 t29 h30 => ?_)
    refine G_st (x_callV [aI (x21 + (1 : Int32)), aR (0, 51)] (c_X7_readSign ids Hn  H0_29 _ _ _ h30) dX7_readStatement_224 tw_1010 kc_X7_readSign (H0_29 29 (Nat.le_of_ble_eq_true rfl) (Nat.le_of_ble_eq_true rfl)) rfl rfl rfl rfl ⟨Nat.le_of_ble_eq_true rfl, Nat.le_of_ble_eq_true rfl⟩ (Nat.le_of_ble_eq_true rfl) rfl) ?_
    refine G_chk (fun c31 => ?_)
    refine G_st (x_iastore dX7_readStatement_227 (H0_29 51 (Nat.le_of_ble_eq_true rfl) (Nat.le_of_ble_eq_true rfl)) rfl c31) ?_
    refine G_bvS (fun t32 => ?_)
    refine G_st (x_goto (tgt := 327) dX7_readStatement_228 (by decide)) ?_
    refine G_weak _ ?_ (g_X7_readStatement_327 ids Hn H0_29 t32)
    exact (leL_s (leL_n (leL_n (leL_n (leL_e _)))))
  refine G_ite (fun c44 => ?_) (fun c44 => ?_)
  · refine G_st (x_look (off := (163)) (tgt := 268) dX7_readStatement_105 (by decide) (by rw [c44] <;> rfl) (by decide)) ?_
    refine G_st (x_aload_n dX7_readStatement_268 rfl) ?_
    refine G_st (x_get (k := 32) (aR (0, 51)) dX7_readStatement_269 (H0_29 29 (Nat.le_of_ble_eq_true rfl) (Nat.le_of_ble_eq_true rfl)) rfl rfl rfl rfl inTX7 (Nat.le_of_ble_eq_true rfl) tw_879 (fun ad => rfl)) ?_
    refine G_st (x_iload_n dX7_readStatement_272 rfl) ?_
    refine G_st (x_aload_n dX7_readStatement_273 rfl) ?_
    refine G_bd (fun x45 t46 h47 => ?_)
    refine G_st (x_callV [aI x21, aR (0, 51)] (c_X7_readSign ids Hn  H0_29 _ _ _ h47) dX7_readStatement_274 tw_1010 kc_X7_readSign (H0_29 29 (Nat.le_of_ble_eq_true rfl) (Nat.le_of_ble_eq_true rfl)) rfl rfl rfl rfl ⟨Nat.le_of_ble_eq_true rfl, Nat.le_of_ble_eq_true rfl⟩ (Nat.le_of_ble_eq_true rfl) rfl) ?_
    refine G_chk (fun c48 => ?_)
    refine G_st (x_iastore dX7_readStatement_277 (H0_29 51 (Nat.le_of_ble_eq_true rfl) (Nat.le_of_ble_eq_true rfl)) rfl c48) ?_
    refine G_bvS (fun t49 => ?_)
    refine G_st (x_goto (tgt := 327) dX7_readStatement_278 (by decide)) ?_
    refine G_weak _ ?_ (g_X7_readStatement_327 ids Hn H0_29 t49)
    exact (leL_s (leL_n (leL_n (leL_n (leL_e _)))))
  refine G_ite (fun c50 => ?_) (fun c50 => ?_)
  · refine G_st (x_look (off := (51)) (tgt := 156) dX7_readStatement_105 (by decide) (by rw [c50] <;> rfl) (by decide)) ?_
    refine G_st (x_aload_n dX7_readStatement_156 rfl) ?_
    refine G_st (x_get (k := 32) (aR (0, 51)) dX7_readStatement_157 (H0_29 29 (Nat.le_of_ble_eq_true rfl) (Nat.le_of_ble_eq_true rfl)) rfl rfl rfl rfl inTX7 (Nat.le_of_ble_eq_true rfl) tw_879 (fun ad => rfl)) ?_
    refine G_st (x_iload_n dX7_readStatement_160 rfl) ?_
    refine G_st (x_aload_n dX7_readStatement_161 rfl) ?_
    refine G_bd (fun x51 t52 h53 => ?_)
    refine G_st (x_callV [aI x21, aR (0, 51)] (c_X7_readDigit ids Hn  H0_29 _ _ _ h53) dX7_readStatement_162 tw_997 kc_X7_readDigit (H0_29 29 (Nat.le_of_ble_eq_true rfl) (Nat.le_of_ble_eq_true rfl)) rfl rfl rfl rfl ⟨Nat.le_of_ble_eq_true rfl, Nat.le_of_ble_eq_true rfl⟩ (Nat.le_of_ble_eq_true rfl) rfl) ?_
    refine G_chk (fun c54 => ?_)
    refine G_st (x_iastore dX7_readStatement_165 (H0_29 51 (Nat.le_of_ble_eq_true rfl) (Nat.le_of_ble_eq_true rfl)) rfl c54) ?_
    refine G_bvS (fun t55 => ?_)
    refine G_st (x_aload_n dX7_readStatement_166 rfl) ?_
    refine G_st (x_get (k := 32) (aR (0, 51)) dX7_readStatement_167 (H0_29 29 (Nat.le_of_ble_eq_true rfl) (Nat.le_of_ble_eq_true rfl)) rfl rfl rfl rfl inTX7 (Nat.le_of_ble_eq_true rfl) tw_879 (fun ad => rfl)) ?_
    refine G_st (x_iload_n dX7_readStatement_170 rfl) ?_
    refine G_st (x_iconst (1 : Int32) dX7_readStatement_171 rfl) ?_
    refine G_st (x_iadd dX7_readStatement_172) ?_
    refine G_st (x_aload_n dX7_readStatement_173 rfl) ?_
    refine G_bd (fun x56 t57 h58 => ?_)
    refine G_st (x_callV [aI (x21 + (1 : Int32)), aR (0, 51)] (c_X7_readDigit ids Hn  H0_29 _ _ _ h58) dX7_readStatement_174 tw_997 kc_X7_readDigit (H0_29 29 (Nat.le_of_ble_eq_true rfl) (Nat.le_of_ble_eq_true rfl)) rfl rfl rfl rfl ⟨Nat.le_of_ble_eq_true rfl, Nat.le_of_ble_eq_true rfl⟩ (Nat.le_of_ble_eq_true rfl) rfl) ?_
    refine G_chk (fun c59 => ?_)
    refine G_st (x_iastore dX7_readStatement_177 (H0_29 51 (Nat.le_of_ble_eq_true rfl) (Nat.le_of_ble_eq_true rfl)) rfl c59) ?_
    refine G_bvS (fun t60 => ?_)
    refine G_st (x_goto (tgt := 327) dX7_readStatement_178 (by decide)) ?_
    refine G_weak _ ?_ (g_X7_readStatement_327 ids Hn H0_29 t60)
    exact (leL_s (leL_n (leL_n (leL_n (leL_e _)))))
  refine G_ite (fun c61 => ?_) (fun c61 => ?_)
  · refine G_st (x_look (off := (76)) (tgt := 181) dX7_readStatement_105 (by decide) (by rw [c61] <;> rfl) (by decide)) ?_
    refine G_st (x_aload_n dX7_readStatement_181 rfl) ?_
    refine G_st (x_get (k := 32) (aR (0, 51)) dX7_readStatement_182 (H0_29 29 (Nat.le_of_ble_eq_true rfl) (Nat.le_of_ble_eq_true rfl)) rfl rfl rfl rfl inTX7 (Nat.le_of_ble_eq_true rfl) tw_879 (fun ad => rfl)) ?_
    refine G_st (x_iload_n dX7_readStatement_185 rfl) ?_
    refine G_st (x_aload_n dX7_readStatement_186 rfl) ?_
    refine G_bd (fun x62 t63 h64 => ?_)
    refine G_st (x_callV [aI x21, aR (0, 51)] (c_X7_readTwo ids Hn  H0_29 _ _ _ h64) dX7_readStatement_187 tw_1006 kc_X7_readTwo (H0_29 29 (Nat.le_of_ble_eq_true rfl) (Nat.le_of_ble_eq_true rfl)) rfl rfl rfl rfl ⟨Nat.le_of_ble_eq_true rfl, Nat.le_of_ble_eq_true rfl⟩ (Nat.le_of_ble_eq_true rfl) rfl) ?_
    refine G_chk (fun c65 => ?_)
    refine G_st (x_iastore dX7_readStatement_190 (H0_29 51 (Nat.le_of_ble_eq_true rfl) (Nat.le_of_ble_eq_true rfl)) rfl c65) ?_
    refine G_bvS (fun t66 => ?_)
    refine G_st (x_aload_n dX7_readStatement_191 rfl) ?_
    refine G_st (x_get (k := 32) (aR (0, 51)) dX7_readStatement_192 (H0_29 29 (Nat.le_of_ble_eq_true rfl) (Nat.le_of_ble_eq_true rfl)) rfl rfl rfl rfl inTX7 (Nat.le_of_ble_eq_true rfl) tw_879 (fun ad => rfl)) ?_
    refine G_st (x_iload_n dX7_readStatement_195 rfl) ?_
    refine G_st (x_iconst (1 : Int32) dX7_readStatement_196 rfl) ?_
    refine G_st (x_iadd dX7_readStatement_197) ?_
    refine G_st (x_aload_n dX7_readStatement_198 rfl) ?_
    refine G_bd (fun x67 t68 h69 => ?_)
    refine G_st (x_callV [aI (x21 + (1 : Int32)), aR (0, 51)] (c_X7_readDigit ids Hn  H0_29 _ _ _ h69) dX7_readStatement_199 tw_997 kc_X7_readDigit (H0_29 29 (Nat.le_of_ble_eq_true rfl) (Nat.le_of_ble_eq_true rfl)) rfl rfl rfl rfl ⟨Nat.le_of_ble_eq_true rfl, Nat.le_of_ble_eq_true rfl⟩ (Nat.le_of_ble_eq_true rfl) rfl) ?_
    refine G_chk (fun c70 => ?_)
    refine G_st (x_iastore dX7_readStatement_202 (H0_29 51 (Nat.le_of_ble_eq_true rfl) (Nat.le_of_ble_eq_true rfl)) rfl c70) ?_
    refine G_bvS (fun t71 => ?_)
    refine G_st (x_goto (tgt := 327) dX7_readStatement_203 (by decide)) ?_
    refine G_weak _ ?_ (g_X7_readStatement_327 ids Hn H0_29 t71)
    exact (leL_s (leL_n (leL_n (leL_n (leL_e _)))))
  refine G_ite (fun c72 => ?_) (fun c72 => ?_)
  · refine G_st (x_look (off := (126)) (tgt := 231) dX7_readStatement_105 (by decide) (by rw [c72] <;> rfl) (by decide)) ?_
    refine G_st (x_aload_n dX7_readStatement_231 rfl) ?_
    refine G_st (x_get (k := 32) (aR (0, 51)) dX7_readStatement_232 (H0_29 29 (Nat.le_of_ble_eq_true rfl) (Nat.le_of_ble_eq_true rfl)) rfl rfl rfl rfl inTX7 (Nat.le_of_ble_eq_true rfl) tw_879 (fun ad => rfl)) ?_
    refine G_st (x_iload_n dX7_readStatement_235 rfl) ?_
    refine G_st (x_aload_n dX7_readStatement_236 rfl) ?_
    refine G_bd (fun x73 t74 h75 => ?_)
    refine G_st (x_callV [aI x21, aR (0, 51)] (c_X7_readTwo ids Hn  H0_29 _ _ _ h75) dX7_readStatement_237 tw_1006 kc_X7_readTwo (H0_29 29 (Nat.le_of_ble_eq_true rfl) (Nat.le_of_ble_eq_true rfl)) rfl rfl rfl rfl ⟨Nat.le_of_ble_eq_true rfl, Nat.le_of_ble_eq_true rfl⟩ (Nat.le_of_ble_eq_true rfl) rfl) ?_
    refine G_chk (fun c76 => ?_)
    refine G_st (x_iastore dX7_readStatement_240 (H0_29 51 (Nat.le_of_ble_eq_true rfl) (Nat.le_of_ble_eq_true rfl)) rfl c76) ?_
    refine G_bvS (fun t77 => ?_)
    refine G_st (x_aload_n dX7_readStatement_241 rfl) ?_
    refine G_st (x_get (k := 32) (aR (0, 51)) dX7_readStatement_242 (H0_29 29 (Nat.le_of_ble_eq_true rfl) (Nat.le_of_ble_eq_true rfl)) rfl rfl rfl rfl inTX7 (Nat.le_of_ble_eq_true rfl) tw_879 (fun ad => rfl)) ?_
    refine G_st (x_iload_n dX7_readStatement_245 rfl) ?_
    refine G_st (x_iconst (1 : Int32) dX7_readStatement_246 rfl) ?_
    refine G_st (x_iadd dX7_readStatement_247) ?_
    refine G_st (x_aload_n dX7_readStatement_248 rfl) ?_
    refine G_bd (fun x78 t79 h80 => ?_)
    refine G_st (x_callV [aI (x21 + (1 : Int32)), aR (0, 51)] (c_X7_readDigit ids Hn  H0_29 _ _ _ h80) dX7_readStatement_249 tw_997 kc_X7_readDigit (H0_29 29 (Nat.le_of_ble_eq_true rfl) (Nat.le_of_ble_eq_true rfl)) rfl rfl rfl rfl ⟨Nat.le_of_ble_eq_true rfl, Nat.le_of_ble_eq_true rfl⟩ (Nat.le_of_ble_eq_true rfl) rfl) ?_
    refine G_chk (fun c81 => ?_)
    refine G_st (x_iastore dX7_readStatement_252 (H0_29 51 (Nat.le_of_ble_eq_true rfl) (Nat.le_of_ble_eq_true rfl)) rfl c81) ?_
    refine G_bvS (fun t82 => ?_)
    refine G_st (x_aload_n dX7_readStatement_253 rfl) ?_
    refine G_st (x_get (k := 32) (aR (0, 51)) dX7_readStatement_254 (H0_29 29 (Nat.le_of_ble_eq_true rfl) (Nat.le_of_ble_eq_true rfl)) rfl rfl rfl rfl inTX7 (Nat.le_of_ble_eq_true rfl) tw_879 (fun ad => rfl)) ?_
    refine G_st (x_iload_n dX7_readStatement_257 rfl) ?_
    refine G_st (x_iconst (2 : Int32) dX7_readStatement_258 rfl) ?_
    refine G_st (x_iadd dX7_readStatement_259) ?_
    refine G_st (x_aload_n dX7_readStatement_260 rfl) ?_
    refine G_bd (fun x83 t84 h85 => ?_)
    refine G_st (x_callV [aI (x21 + (2 : Int32)), aR (0, 51)] (c_X7_readHours ids Hn  H0_29 _ _ _ h85) dX7_readStatement_261 tw_1014 kc_X7_readHours (H0_29 29 (Nat.le_of_ble_eq_true rfl) (Nat.le_of_ble_eq_true rfl)) rfl rfl rfl rfl ⟨Nat.le_of_ble_eq_true rfl, Nat.le_of_ble_eq_true rfl⟩ (Nat.le_of_ble_eq_true rfl) rfl) ?_
    refine G_chk (fun c86 => ?_)
    refine G_st (x_iastore dX7_readStatement_264 (H0_29 51 (Nat.le_of_ble_eq_true rfl) (Nat.le_of_ble_eq_true rfl)) rfl c86) ?_
    refine G_bvS (fun t87 => ?_)
    refine G_st (x_goto (tgt := 327) dX7_readStatement_265 (by decide)) ?_
    refine G_weak _ ?_ (g_X7_readStatement_327 ids Hn H0_29 t87)
    exact (leL_s (leL_n (leL_n (leL_n (leL_e _)))))
  refine G_st (x_look (off := (176)) (tgt := 281) dX7_readStatement_105 (by decide) (by refine (lv_osw c22 rfl).trans ?_; refine (lv_osw c44 rfl).trans ?_; refine (lv_osw c50 rfl).trans ?_; refine (lv_osw c61 rfl).trans ?_; refine (lv_osw c72 rfl).trans ?_; rfl) (by decide)) ?_
  refine G_st (x_aload_n dX7_readStatement_281 rfl) ?_
  refine G_st (x_get (k := 32) (aR (0, 51)) dX7_readStatement_282 (H0_29 29 (Nat.le_of_ble_eq_true rfl) (Nat.le_of_ble_eq_true rfl)) rfl rfl rfl rfl inTX7 (Nat.le_of_ble_eq_true rfl) tw_879 (fun ad => rfl)) ?_
  refine G_st (x_iload_n dX7_readStatement_285 rfl) ?_
  refine G_st (x_aload_n dX7_readStatement_286 rfl) ?_
  refine G_bd (fun x88 t89 h90 => ?_)
  refine G_st (x_callV [aI x21, aR (0, 51)] (c_X7_readTenant ids Hn  H0_29 _ _ _ h90) dX7_readStatement_287 tw_1019 kc_X7_readTenant (H0_29 29 (Nat.le_of_ble_eq_true rfl) (Nat.le_of_ble_eq_true rfl)) rfl rfl rfl rfl ⟨Nat.le_of_ble_eq_true rfl, Nat.le_of_ble_eq_true rfl⟩ (Nat.le_of_ble_eq_true rfl) rfl) ?_
  refine G_chk (fun c91 => ?_)
  refine G_st (x_iastore dX7_readStatement_290 (H0_29 51 (Nat.le_of_ble_eq_true rfl) (Nat.le_of_ble_eq_true rfl)) rfl c91) ?_
  refine G_bvS (fun t92 => ?_)
  refine G_st (x_aload_n dX7_readStatement_291 rfl) ?_
  refine G_st (x_get (k := 32) (aR (0, 51)) dX7_readStatement_292 (H0_29 29 (Nat.le_of_ble_eq_true rfl) (Nat.le_of_ble_eq_true rfl)) rfl rfl rfl rfl inTX7 (Nat.le_of_ble_eq_true rfl) tw_879 (fun ad => rfl)) ?_
  refine G_st (x_iload_n dX7_readStatement_295 rfl) ?_
  refine G_st (x_iconst (1 : Int32) dX7_readStatement_296 rfl) ?_
  refine G_st (x_iadd dX7_readStatement_297) ?_
  refine G_st (x_aload_n dX7_readStatement_298 rfl) ?_
  refine G_bd (fun x93 t94 h95 => ?_)
  refine G_st (x_callV [aI (x21 + (1 : Int32)), aR (0, 51)] (c_X7_readDigit ids Hn  H0_29 _ _ _ h95) dX7_readStatement_299 tw_997 kc_X7_readDigit (H0_29 29 (Nat.le_of_ble_eq_true rfl) (Nat.le_of_ble_eq_true rfl)) rfl rfl rfl rfl ⟨Nat.le_of_ble_eq_true rfl, Nat.le_of_ble_eq_true rfl⟩ (Nat.le_of_ble_eq_true rfl) rfl) ?_
  refine G_chk (fun c96 => ?_)
  refine G_st (x_iastore dX7_readStatement_302 (H0_29 51 (Nat.le_of_ble_eq_true rfl) (Nat.le_of_ble_eq_true rfl)) rfl c96) ?_
  refine G_bvS (fun t97 => ?_)
  refine G_st (x_aload_n dX7_readStatement_303 rfl) ?_
  refine G_st (x_get (k := 32) (aR (0, 51)) dX7_readStatement_304 (H0_29 29 (Nat.le_of_ble_eq_true rfl) (Nat.le_of_ble_eq_true rfl)) rfl rfl rfl rfl inTX7 (Nat.le_of_ble_eq_true rfl) tw_879 (fun ad => rfl)) ?_
  refine G_st (x_iload_n dX7_readStatement_307 rfl) ?_
  refine G_st (x_iconst (2 : Int32) dX7_readStatement_308 rfl) ?_
  refine G_st (x_iadd dX7_readStatement_309) ?_
  refine G_st (x_aload_n dX7_readStatement_310 rfl) ?_
  refine G_bd (fun x98 t99 h100 => ?_)
  refine G_st (x_callV [aI (x21 + (2 : Int32)), aR (0, 51)] (c_X7_readDigit ids Hn  H0_29 _ _ _ h100) dX7_readStatement_311 tw_997 kc_X7_readDigit (H0_29 29 (Nat.le_of_ble_eq_true rfl) (Nat.le_of_ble_eq_true rfl)) rfl rfl rfl rfl ⟨Nat.le_of_ble_eq_true rfl, Nat.le_of_ble_eq_true rfl⟩ (Nat.le_of_ble_eq_true rfl) rfl) ?_
  refine G_chk (fun c101 => ?_)
  refine G_st (x_iastore dX7_readStatement_314 (H0_29 51 (Nat.le_of_ble_eq_true rfl) (Nat.le_of_ble_eq_true rfl)) rfl c101) ?_
  refine G_bvS (fun t102 => ?_)
  refine G_st (x_aload_n dX7_readStatement_315 rfl) ?_
  refine G_st (x_get (k := 32) (aR (0, 51)) dX7_readStatement_316 (H0_29 29 (Nat.le_of_ble_eq_true rfl) (Nat.le_of_ble_eq_true rfl)) rfl rfl rfl rfl inTX7 (Nat.le_of_ble_eq_true rfl) tw_879 (fun ad => rfl)) ?_
  refine G_st (x_iload_n dX7_readStatement_319 rfl) ?_
  refine G_st (x_iconst (3 : Int32) dX7_readStatement_320 rfl) ?_
  refine G_st (x_iadd dX7_readStatement_321) ?_
  refine G_st (x_aload_n dX7_readStatement_322 rfl) ?_
  refine G_bd (fun x103 t104 h105 => ?_)
  refine G_st (x_callV [aI (x21 + (3 : Int32)), aR (0, 51)] (c_X7_readDigit ids Hn  H0_29 _ _ _ h105) dX7_readStatement_323 tw_997 kc_X7_readDigit (H0_29 29 (Nat.le_of_ble_eq_true rfl) (Nat.le_of_ble_eq_true rfl)) rfl rfl rfl rfl ⟨Nat.le_of_ble_eq_true rfl, Nat.le_of_ble_eq_true rfl⟩ (Nat.le_of_ble_eq_true rfl) rfl) ?_
  refine G_chk (fun c106 => ?_)
  refine G_st (x_iastore dX7_readStatement_326 (H0_29 51 (Nat.le_of_ble_eq_true rfl) (Nat.le_of_ble_eq_true rfl)) rfl c106) ?_
  refine G_bvS (fun t107 => ?_)
  refine G_weak _ ?_ (g_X7_readStatement_327 ids Hn H0_29 t107)
  exact (leL_s (leL_n (leL_n (leL_n (leL_e _)))))
set_option maxRecDepth 100000 in
set_option maxHeartbeats 4000000 in
theorem c_X7_readStatement (ids : List (Nat × Nat)) (Hn : Ndp ids)  (H0_29 : InR ids 0 29 56) (t0 : Sg) (r : Unit) (t1 : Sg) (hf : f_X7_readStatement t0 = some (r, t1)) : Mt0 mX7_readStatement yX7_readStatement ids [aR (0, 29)] t0 none t1 :=
  Mt_of (x := (r, t1)) (g_X7_readStatement ids Hn  H0_29 t0) hf (fun _ _ => trivial) (by decide) rfl Hn (fun _ => rfl) (fun _ => Nat.le_of_ble_eq_true rfl)
theorem dX7_frontComes_0 : decode cX7_frontComes 0 = .ok (.iload_n 1, 1) := by decide +kernel
theorem dX7_frontComes_1 : decode cX7_frontComes 1 = .ok (.i2l, 1) := by decide +kernel
theorem dX7_frontComes_2 : decode cX7_frontComes 2 = .ok (.ldc2_w 207, 3) := by decide +kernel
theorem dX7_frontComes_5 : decode cX7_frontComes 5 = .ok (.ldc2_w 209, 3) := by decide +kernel
theorem dX7_frontComes_8 : decode cX7_frontComes 8 = .ok (.invokestatic 111, 3) := by decide +kernel
theorem dX7_frontComes_11 : decode cX7_frontComes 11 = .ok (.ifCond .eq 19, 3) := by decide +kernel
theorem dX7_frontComes_14 : decode cX7_frontComes 14 = .ok (.iload_n 2, 1) := by decide +kernel
theorem dX7_frontComes_15 : decode cX7_frontComes 15 = .ok (.i2l, 1) := by decide +kernel
theorem dX7_frontComes_16 : decode cX7_frontComes 16 = .ok (.lconst 1, 1) := by decide +kernel
theorem dX7_frontComes_17 : decode cX7_frontComes 17 = .ok (.ldc2_w 211, 3) := by decide +kernel
theorem dX7_frontComes_20 : decode cX7_frontComes 20 = .ok (.invokestatic 111, 3) := by decide +kernel
theorem dX7_frontComes_23 : decode cX7_frontComes 23 = .ok (.ifCond .eq 7, 3) := by decide +kernel
theorem dX7_frontComes_26 : decode cX7_frontComes 26 = .ok (.iconst 1, 1) := by decide +kernel
theorem dX7_frontComes_27 : decode cX7_frontComes 27 = .ok (.goto 4, 3) := by decide +kernel
theorem dX7_frontComes_30 : decode cX7_frontComes 30 = .ok (.iconst 0, 1) := by decide +kernel
theorem dX7_frontComes_31 : decode cX7_frontComes 31 = .ok (.istore_n 3, 1) := by decide +kernel
theorem dX7_frontComes_32 : decode cX7_frontComes 32 = .ok (.iload_n 3, 1) := by decide +kernel
theorem dX7_frontComes_33 : decode cX7_frontComes 33 = .ok (.ifCond .eq 17, 3) := by decide +kernel
theorem dX7_frontComes_36 : decode cX7_frontComes 36 = .ok (.aload_n 0, 1) := by decide +kernel
theorem dX7_frontComes_37 : decode cX7_frontComes 37 = .ok (.iload_n 1, 1) := by decide +kernel
theorem dX7_frontComes_38 : decode cX7_frontComes 38 = .ok (.putfield 7, 3) := by decide +kernel
theorem dX7_frontComes_41 : decode cX7_frontComes 41 = .ok (.aload_n 0, 1) := by decide +kernel
theorem dX7_frontComes_42 : decode cX7_frontComes 42 = .ok (.iload_n 2, 1) := by decide +kernel
theorem dX7_frontComes_43 : decode cX7_frontComes 43 = .ok (.putfield 13, 3) := by decide +kernel
theorem dX7_frontComes_46 : decode cX7_frontComes 46 = .ok (.aload_n 0, 1) := by decide +kernel
theorem dX7_frontComes_47 : decode cX7_frontComes 47 = .ok (.invokevirtual 101, 3) := by decide +kernel
theorem dX7_frontComes_50 : decode cX7_frontComes 50 = .ok (.iload_n 3, 1) := by decide +kernel
theorem dX7_frontComes_51 : decode cX7_frontComes 51 = .ok (.ireturn, 1) := by decide +kernel
set_option maxRecDepth 100000 in
set_option maxHeartbeats 4000000 in
theorem g_X7_frontComes_31 (ids : List (Nat × Nat)) (Hn : Ndp ids)  (H0_29 : InR ids 0 29 56)  (v1 : Int32) (v2 : Int32) (w0 : Int32) (t0 : Sg) : Gj kI mX7_frontComes ids 31 [some (aR (0, 29)), some (aI v1), some (aI v2), none] [aI w0] t0 (f_X7_frontComes_31 v1 v2 w0 t0) := by
  unfold f_X7_frontComes_31
  refine G_st (x_istore_n [some (aR (0, 29)), some (aI v1), some (aI v2), some (aI w0)] dX7_frontComes_31 (Nat.le_of_ble_eq_true rfl) rfl rfl) ?_
  refine G_st (x_iload_n dX7_frontComes_32 rfl) ?_
  refine G_ite (fun c5 => ?_) (fun c5 => ?_)
  · refine G_st (x_if_eq_t (tgt := 50) dX7_frontComes_33 (by decide) c5) ?_
    refine G_st (x_iload_n dX7_frontComes_50 rfl) ?_
    refine G_chk (fun c6 => ?_)
    exact G_ret rfl ⟨dX7_frontComes_51, _, rfl, nar_b c6⟩ rfl
  · refine G_st (x_if_eq_f 50 dX7_frontComes_33 (by decide) c5) ?_
    refine G_st (x_aload_n dX7_frontComes_36 rfl) ?_
    refine G_st (x_iload_n dX7_frontComes_37 rfl) ?_
    refine G_st (x_put (k := 0) (ty := .int) (v := aI v1) (z := v1) (upS t0 (0, 29) 0 v1) dX7_frontComes_38 (H0_29 29 (Nat.le_of_ble_eq_true rfl) (Nat.le_of_ble_eq_true rfl)) rfl rfl rfl rfl inTX7 tyX7_ok nmX7 (Nat.le_of_ble_eq_true rfl) tw_847 rfl rfl (fun ad => rfl) (fun ad => rfl) (fun ad => put_i0 ad _ _ _ _ rfl) rfl) ?_
    refine G_bvS (fun t7 => ?_)
    refine G_st (x_aload_n dX7_frontComes_41 rfl) ?_
    refine G_st (x_iload_n dX7_frontComes_42 rfl) ?_
    refine G_st (x_put (k := 1) (ty := .int) (v := aI v2) (z := v2) (upS t7 (0, 29) 1 v2) dX7_frontComes_43 (H0_29 29 (Nat.le_of_ble_eq_true rfl) (Nat.le_of_ble_eq_true rfl)) rfl rfl rfl rfl inTX7 tyX7_ok nmX7 (Nat.le_of_ble_eq_true rfl) tw_848 rfl rfl (fun ad => rfl) (fun ad => rfl) (fun ad => put_i0 ad _ _ _ _ rfl) rfl) ?_
    refine G_bvS (fun t8 => ?_)
    refine G_st (x_aload_n dX7_frontComes_46 rfl) ?_
    refine G_bd (fun _ t10 h11 => ?_)
    refine G_st (x_callV [] (c_X7_clearAll ids Hn  H0_29 _ _ _ h11) dX7_frontComes_47 tw_843 kc_X7_clearAll (H0_29 29 (Nat.le_of_ble_eq_true rfl) (Nat.le_of_ble_eq_true rfl)) rfl rfl rfl rfl ⟨Nat.le_of_ble_eq_true rfl, Nat.le_of_ble_eq_true rfl⟩ (Nat.le_of_ble_eq_true rfl) rfl) ?_
    refine G_st (x_iload_n dX7_frontComes_50 rfl) ?_
    refine G_chk (fun c12 => ?_)
    exact G_ret rfl ⟨dX7_frontComes_51, _, rfl, nar_b c12⟩ rfl
set_option maxRecDepth 100000 in
set_option maxHeartbeats 4000000 in
theorem g_X7_frontComes_30 (ids : List (Nat × Nat)) (Hn : Ndp ids)  (H0_29 : InR ids 0 29 56)  (v1 : Int32) (v2 : Int32) (t0 : Sg) : Gj kI mX7_frontComes ids 30 [some (aR (0, 29)), some (aI v1), some (aI v2), none] [] t0 (f_X7_frontComes_30 v1 v2 t0) := by
  unfold f_X7_frontComes_30
  refine G_st (x_iconst (0 : Int32) dX7_frontComes_30 rfl) ?_
  refine G_weak _ ?_ (g_X7_frontComes_31 ids Hn H0_29 v1 v2 (0 : Int32) t0)
  exact (leL_s (leL_s (leL_s (leL_n (leL_e _)))))
set_option maxRecDepth 100000 in
set_option maxHeartbeats 4000000 in
theorem g_X7_frontComes (ids : List (Nat × Nat)) (Hn : Ndp ids) (v1 : Int32) (v2 : Int32) (H0_29 : InR ids 0 29 56) (t0 : Sg) : Gj kI mX7_frontComes ids 0 [some (aR (0, 29)), some (aI v1), some (aI v2), none] [] t0 (f_X7_frontComes v1 v2 t0) := by
  unfold f_X7_frontComes
  refine G_st (x_iload_n dX7_frontComes_0 rfl) ?_
  refine G_st (x_i2l dX7_frontComes_1) ?_
  refine G_st (x_ldc2 dX7_frontComes_2 tw_1039) ?_
  refine G_st (x_ldc2 dX7_frontComes_5 tw_1040) ?_
  refine G_bd (fun x1 t2 h3 => ?_)
  refine G_st (x_callS [] (c_X7_in ids Hn (v1).toInt64 (2 : Int64) (6 : Int64)  _ _ _ h3) dX7_frontComes_8 tw_1003 kc_X7_in rfl ⟨Nat.le_of_ble_eq_true rfl, Nat.le_of_ble_eq_true rfl⟩ (Nat.le_of_ble_eq_true rfl) rfl) ?_
  refine G_ite (fun c4 => ?_) (fun c4 => ?_)
  · refine G_st (x_if_eq_t (tgt := 30) dX7_frontComes_11 (by decide) c4) ?_
    refine G_weak _ ?_ (g_X7_frontComes_30 ids Hn H0_29 v1 v2 t2)
    exact (leL_s (leL_s (leL_s (leL_n (leL_e _)))))
  · refine G_st (x_if_eq_f 30 dX7_frontComes_11 (by decide) c4) ?_
    refine G_st (x_iload_n dX7_frontComes_14 rfl) ?_
    refine G_st (x_i2l dX7_frontComes_15) ?_
    refine G_st (x_lconst (1 : Int64) dX7_frontComes_16 rfl) ?_
    refine G_st (x_ldc2 dX7_frontComes_17 tw_1041) ?_
    refine G_bd (fun x13 t14 h15 => ?_)
    refine G_st (x_callS [] (c_X7_in ids Hn (v2).toInt64 (1 : Int64) (4 : Int64)  _ _ _ h15) dX7_frontComes_20 tw_1003 kc_X7_in rfl ⟨Nat.le_of_ble_eq_true rfl, Nat.le_of_ble_eq_true rfl⟩ (Nat.le_of_ble_eq_true rfl) rfl) ?_
    refine G_ite (fun c16 => ?_) (fun c16 => ?_)
    · refine G_st (x_if_eq_t (tgt := 30) dX7_frontComes_23 (by decide) c16) ?_
      refine G_weak _ ?_ (g_X7_frontComes_30 ids Hn H0_29 v1 v2 t14)
      exact (leL_s (leL_s (leL_s (leL_n (leL_e _)))))
    · refine G_st (x_if_eq_f 30 dX7_frontComes_23 (by decide) c16) ?_
      refine G_st (x_iconst (1 : Int32) dX7_frontComes_26 rfl) ?_
      refine G_st (x_goto (tgt := 31) dX7_frontComes_27 (by decide)) ?_
      refine G_weak _ ?_ (g_X7_frontComes_31 ids Hn H0_29 v1 v2 (1 : Int32) t14)
      exact (leL_s (leL_s (leL_s (leL_n (leL_e _)))))
set_option maxRecDepth 100000 in
set_option maxHeartbeats 4000000 in
theorem c_X7_frontComes (ids : List (Nat × Nat)) (Hn : Ndp ids) (v1 : Int32) (v2 : Int32) (H0_29 : InR ids 0 29 56) (t0 : Sg) (r : Int32) (t1 : Sg) (hf : f_X7_frontComes v1 v2 t0 = some (r, t1)) : Mt0 mX7_frontComes yX7_frontComes ids [aR (0, 29), aI v1, aI v2] t0 (some (aI r)) t1 :=
  Mt_of (x := (r, t1)) (g_X7_frontComes ids Hn v1 v2 H0_29 t0) hf (fun _ _ => trivial) (by decide) rfl Hn (fun _ => rfl) (fun _ => Nat.le_of_ble_eq_true rfl)
theorem dX7_habitComes_0 : decode cX7_habitComes 0 = .ok (.aload_n 0, 1) := by decide +kernel
theorem dX7_habitComes_1 : decode cX7_habitComes 1 = .ok (.getfield 80, 3) := by decide +kernel
theorem dX7_habitComes_4 : decode cX7_habitComes 4 = .ok (.iload_n 1, 1) := by decide +kernel
theorem dX7_habitComes_5 : decode cX7_habitComes 5 = .ok (.iaload, 1) := by decide +kernel
theorem dX7_habitComes_6 : decode cX7_habitComes 6 = .ok (.aload_n 0, 1) := by decide +kernel
theorem dX7_habitComes_7 : decode cX7_habitComes 7 = .ok (.invokevirtual 107, 3) := by decide +kernel
theorem dX7_habitComes_10 : decode cX7_habitComes 10 = .ok (.if_icmp .ge 42, 3) := by decide +kernel
theorem dX7_habitComes_13 : decode cX7_habitComes 13 = .ok (.aload_n 0, 1) := by decide +kernel
theorem dX7_habitComes_14 : decode cX7_habitComes 14 = .ok (.getfield 80, 3) := by decide +kernel
theorem dX7_habitComes_17 : decode cX7_habitComes 17 = .ok (.iload_n 1, 1) := by decide +kernel
theorem dX7_habitComes_18 : decode cX7_habitComes 18 = .ok (.iconst 1, 1) := by decide +kernel
theorem dX7_habitComes_19 : decode cX7_habitComes 19 = .ok (.iadd, 1) := by decide +kernel
theorem dX7_habitComes_20 : decode cX7_habitComes 20 = .ok (.iaload, 1) := by decide +kernel
theorem dX7_habitComes_21 : decode cX7_habitComes 21 = .ok (.bipush 6, 2) := by decide +kernel
theorem dX7_habitComes_23 : decode cX7_habitComes 23 = .ok (.if_icmp .ge 29, 3) := by decide +kernel
theorem dX7_habitComes_26 : decode cX7_habitComes 26 = .ok (.aload_n 0, 1) := by decide +kernel
theorem dX7_habitComes_27 : decode cX7_habitComes 27 = .ok (.getfield 80, 3) := by decide +kernel
theorem dX7_habitComes_30 : decode cX7_habitComes 30 = .ok (.iload_n 1, 1) := by decide +kernel
theorem dX7_habitComes_31 : decode cX7_habitComes 31 = .ok (.iconst 3, 1) := by decide +kernel
theorem dX7_habitComes_32 : decode cX7_habitComes 32 = .ok (.iadd, 1) := by decide +kernel
theorem dX7_habitComes_33 : decode cX7_habitComes 33 = .ok (.iaload, 1) := by decide +kernel
theorem dX7_habitComes_34 : decode cX7_habitComes 34 = .ok (.bipush 8, 2) := by decide +kernel
theorem dX7_habitComes_36 : decode cX7_habitComes 36 = .ok (.if_icmp .ge 16, 3) := by decide +kernel
theorem dX7_habitComes_39 : decode cX7_habitComes 39 = .ok (.aload_n 0, 1) := by decide +kernel
theorem dX7_habitComes_40 : decode cX7_habitComes 40 = .ok (.getfield 104, 3) := by decide +kernel
theorem dX7_habitComes_43 : decode cX7_habitComes 43 = .ok (.bipush 8, 2) := by decide +kernel
theorem dX7_habitComes_45 : decode cX7_habitComes 45 = .ok (.if_icmp .ge 7, 3) := by decide +kernel
theorem dX7_habitComes_48 : decode cX7_habitComes 48 = .ok (.iconst 1, 1) := by decide +kernel
theorem dX7_habitComes_49 : decode cX7_habitComes 49 = .ok (.goto 4, 3) := by decide +kernel
theorem dX7_habitComes_52 : decode cX7_habitComes 52 = .ok (.iconst 0, 1) := by decide +kernel
theorem dX7_habitComes_53 : decode cX7_habitComes 53 = .ok (.istore_n 2, 1) := by decide +kernel
theorem dX7_habitComes_54 : decode cX7_habitComes 54 = .ok (.iload_n 2, 1) := by decide +kernel
theorem dX7_habitComes_55 : decode cX7_habitComes 55 = .ok (.ifCond .eq 79, 3) := by decide +kernel
theorem dX7_habitComes_58 : decode cX7_habitComes 58 = .ok (.aload_n 0, 1) := by decide +kernel
theorem dX7_habitComes_59 : decode cX7_habitComes 59 = .ok (.getfield 44, 3) := by decide +kernel
theorem dX7_habitComes_62 : decode cX7_habitComes 62 = .ok (.aload_n 0, 1) := by decide +kernel
theorem dX7_habitComes_63 : decode cX7_habitComes 63 = .ok (.getfield 104, 3) := by decide +kernel
theorem dX7_habitComes_66 : decode cX7_habitComes 66 = .ok (.aload_n 0, 1) := by decide +kernel
theorem dX7_habitComes_67 : decode cX7_habitComes 67 = .ok (.getfield 80, 3) := by decide +kernel
theorem dX7_habitComes_70 : decode cX7_habitComes 70 = .ok (.iload_n 1, 1) := by decide +kernel
theorem dX7_habitComes_71 : decode cX7_habitComes 71 = .ok (.iaload, 1) := by decide +kernel
theorem dX7_habitComes_72 : decode cX7_habitComes 72 = .ok (.iastore, 1) := by decide +kernel
theorem dX7_habitComes_73 : decode cX7_habitComes 73 = .ok (.aload_n 0, 1) := by decide +kernel
theorem dX7_habitComes_74 : decode cX7_habitComes 74 = .ok (.getfield 47, 3) := by decide +kernel
theorem dX7_habitComes_77 : decode cX7_habitComes 77 = .ok (.aload_n 0, 1) := by decide +kernel
theorem dX7_habitComes_78 : decode cX7_habitComes 78 = .ok (.getfield 104, 3) := by decide +kernel
theorem dX7_habitComes_81 : decode cX7_habitComes 81 = .ok (.aload_n 0, 1) := by decide +kernel
theorem dX7_habitComes_82 : decode cX7_habitComes 82 = .ok (.getfield 80, 3) := by decide +kernel
theorem dX7_habitComes_85 : decode cX7_habitComes 85 = .ok (.iload_n 1, 1) := by decide +kernel
theorem dX7_habitComes_86 : decode cX7_habitComes 86 = .ok (.iconst 1, 1) := by decide +kernel
theorem dX7_habitComes_87 : decode cX7_habitComes 87 = .ok (.iadd, 1) := by decide +kernel
theorem dX7_habitComes_88 : decode cX7_habitComes 88 = .ok (.iaload, 1) := by decide +kernel
theorem dX7_habitComes_89 : decode cX7_habitComes 89 = .ok (.iastore, 1) := by decide +kernel
theorem dX7_habitComes_90 : decode cX7_habitComes 90 = .ok (.aload_n 0, 1) := by decide +kernel
theorem dX7_habitComes_91 : decode cX7_habitComes 91 = .ok (.getfield 50, 3) := by decide +kernel
theorem dX7_habitComes_94 : decode cX7_habitComes 94 = .ok (.aload_n 0, 1) := by decide +kernel
theorem dX7_habitComes_95 : decode cX7_habitComes 95 = .ok (.getfield 104, 3) := by decide +kernel
theorem dX7_habitComes_98 : decode cX7_habitComes 98 = .ok (.aload_n 0, 1) := by decide +kernel
theorem dX7_habitComes_99 : decode cX7_habitComes 99 = .ok (.getfield 80, 3) := by decide +kernel
theorem dX7_habitComes_102 : decode cX7_habitComes 102 = .ok (.iload_n 1, 1) := by decide +kernel
theorem dX7_habitComes_103 : decode cX7_habitComes 103 = .ok (.iconst 2, 1) := by decide +kernel
theorem dX7_habitComes_104 : decode cX7_habitComes 104 = .ok (.iadd, 1) := by decide +kernel
theorem dX7_habitComes_105 : decode cX7_habitComes 105 = .ok (.iaload, 1) := by decide +kernel
theorem dX7_habitComes_106 : decode cX7_habitComes 106 = .ok (.iastore, 1) := by decide +kernel
theorem dX7_habitComes_107 : decode cX7_habitComes 107 = .ok (.aload_n 0, 1) := by decide +kernel
theorem dX7_habitComes_108 : decode cX7_habitComes 108 = .ok (.getfield 53, 3) := by decide +kernel
theorem dX7_habitComes_111 : decode cX7_habitComes 111 = .ok (.aload_n 0, 1) := by decide +kernel
theorem dX7_habitComes_112 : decode cX7_habitComes 112 = .ok (.getfield 104, 3) := by decide +kernel
theorem dX7_habitComes_115 : decode cX7_habitComes 115 = .ok (.aload_n 0, 1) := by decide +kernel
theorem dX7_habitComes_116 : decode cX7_habitComes 116 = .ok (.getfield 80, 3) := by decide +kernel
theorem dX7_habitComes_119 : decode cX7_habitComes 119 = .ok (.iload_n 1, 1) := by decide +kernel
theorem dX7_habitComes_120 : decode cX7_habitComes 120 = .ok (.iconst 3, 1) := by decide +kernel
theorem dX7_habitComes_121 : decode cX7_habitComes 121 = .ok (.iadd, 1) := by decide +kernel
theorem dX7_habitComes_122 : decode cX7_habitComes 122 = .ok (.iaload, 1) := by decide +kernel
theorem dX7_habitComes_123 : decode cX7_habitComes 123 = .ok (.iastore, 1) := by decide +kernel
theorem dX7_habitComes_124 : decode cX7_habitComes 124 = .ok (.aload_n 0, 1) := by decide +kernel
theorem dX7_habitComes_125 : decode cX7_habitComes 125 = .ok (.dup, 1) := by decide +kernel
theorem dX7_habitComes_126 : decode cX7_habitComes 126 = .ok (.getfield 104, 3) := by decide +kernel
theorem dX7_habitComes_129 : decode cX7_habitComes 129 = .ok (.iconst 1, 1) := by decide +kernel
theorem dX7_habitComes_130 : decode cX7_habitComes 130 = .ok (.iadd, 1) := by decide +kernel
theorem dX7_habitComes_131 : decode cX7_habitComes 131 = .ok (.putfield 104, 3) := by decide +kernel
theorem dX7_habitComes_134 : decode cX7_habitComes 134 = .ok (.iload_n 2, 1) := by decide +kernel
theorem dX7_habitComes_135 : decode cX7_habitComes 135 = .ok (.ireturn, 1) := by decide +kernel
set_option maxRecDepth 100000 in
set_option maxHeartbeats 4000000 in
theorem g_X7_habitComes_53 (ids : List (Nat × Nat)) (Hn : Ndp ids)  (H0_29 : InR ids 0 29 56)  (v1 : Int32) (w0 : Int32) (t0 : Sg) : Gj kI mX7_habitComes ids 53 [some (aR (0, 29)), some (aI v1), none] [aI w0] t0 (f_X7_habitComes_53 v1 w0 t0) := by
  unfold f_X7_habitComes_53
  refine G_st (x_istore_n [some (aR (0, 29)), some (aI v1), some (aI w0)] dX7_habitComes_53 (Nat.le_of_ble_eq_true rfl) rfl rfl) ?_
  refine G_st (x_iload_n dX7_habitComes_54 rfl) ?_
  refine G_ite (fun c6 => ?_) (fun c6 => ?_)
  · refine G_st (x_if_eq_t (tgt := 134) dX7_habitComes_55 (by decide) c6) ?_
    refine G_st (x_iload_n dX7_habitComes_134 rfl) ?_
    refine G_chk (fun c7 => ?_)
    exact G_ret rfl ⟨dX7_habitComes_135, _, rfl, nar_b c7⟩ rfl
  · refine G_st (x_if_eq_f 134 dX7_habitComes_55 (by decide) c6) ?_
    refine G_st (x_aload_n dX7_habitComes_58 rfl) ?_
    refine G_st (x_get (k := 14) (aR (0, 39)) dX7_habitComes_59 (H0_29 29 (Nat.le_of_ble_eq_true rfl) (Nat.le_of_ble_eq_true rfl)) rfl rfl rfl rfl inTX7 (Nat.le_of_ble_eq_true rfl) tw_861 (fun ad => rfl)) ?_
    refine G_st (x_aload_n dX7_habitComes_62 rfl) ?_
    refine G_st (x_get (k := 4) (aI (t0 (0, 29) 4)) dX7_habitComes_63 (H0_29 29 (Nat.le_of_ble_eq_true rfl) (Nat.le_of_ble_eq_true rfl)) rfl rfl rfl rfl inTX7 (Nat.le_of_ble_eq_true rfl) tw_851 (fun ad => rfl)) ?_
    refine G_st (x_aload_n dX7_habitComes_66 rfl) ?_
    refine G_st (x_get (k := 32) (aR (0, 51)) dX7_habitComes_67 (H0_29 29 (Nat.le_of_ble_eq_true rfl) (Nat.le_of_ble_eq_true rfl)) rfl rfl rfl rfl inTX7 (Nat.le_of_ble_eq_true rfl) tw_879 (fun ad => rfl)) ?_
    refine G_st (x_iload_n dX7_habitComes_70 rfl) ?_
    refine G_chk (fun c8 => ?_)
    refine G_st (x_iaload dX7_habitComes_71 (H0_29 51 (Nat.le_of_ble_eq_true rfl) (Nat.le_of_ble_eq_true rfl)) rfl c8) ?_
    refine G_chk (fun c9 => ?_)
    refine G_st (x_iastore dX7_habitComes_72 (H0_29 39 (Nat.le_of_ble_eq_true rfl) (Nat.le_of_ble_eq_true rfl)) rfl c9) ?_
    refine G_bvS (fun t10 => ?_)
    refine G_st (x_aload_n dX7_habitComes_73 rfl) ?_
    refine G_st (x_get (k := 15) (aR (0, 40)) dX7_habitComes_74 (H0_29 29 (Nat.le_of_ble_eq_true rfl) (Nat.le_of_ble_eq_true rfl)) rfl rfl rfl rfl inTX7 (Nat.le_of_ble_eq_true rfl) tw_862 (fun ad => rfl)) ?_
    refine G_st (x_aload_n dX7_habitComes_77 rfl) ?_
    refine G_st (x_get (k := 4) (aI (t10 (0, 29) 4)) dX7_habitComes_78 (H0_29 29 (Nat.le_of_ble_eq_true rfl) (Nat.le_of_ble_eq_true rfl)) rfl rfl rfl rfl inTX7 (Nat.le_of_ble_eq_true rfl) tw_851 (fun ad => rfl)) ?_
    refine G_st (x_aload_n dX7_habitComes_81 rfl) ?_
    refine G_st (x_get (k := 32) (aR (0, 51)) dX7_habitComes_82 (H0_29 29 (Nat.le_of_ble_eq_true rfl) (Nat.le_of_ble_eq_true rfl)) rfl rfl rfl rfl inTX7 (Nat.le_of_ble_eq_true rfl) tw_879 (fun ad => rfl)) ?_
    refine G_st (x_iload_n dX7_habitComes_85 rfl) ?_
    refine G_st (x_iconst (1 : Int32) dX7_habitComes_86 rfl) ?_
    refine G_st (x_iadd dX7_habitComes_87) ?_
    refine G_chk (fun c11 => ?_)
    refine G_st (x_iaload dX7_habitComes_88 (H0_29 51 (Nat.le_of_ble_eq_true rfl) (Nat.le_of_ble_eq_true rfl)) rfl c11) ?_
    refine G_chk (fun c12 => ?_)
    refine G_st (x_iastore dX7_habitComes_89 (H0_29 40 (Nat.le_of_ble_eq_true rfl) (Nat.le_of_ble_eq_true rfl)) rfl c12) ?_
    refine G_bvS (fun t13 => ?_)
    refine G_st (x_aload_n dX7_habitComes_90 rfl) ?_
    refine G_st (x_get (k := 16) (aR (0, 41)) dX7_habitComes_91 (H0_29 29 (Nat.le_of_ble_eq_true rfl) (Nat.le_of_ble_eq_true rfl)) rfl rfl rfl rfl inTX7 (Nat.le_of_ble_eq_true rfl) tw_863 (fun ad => rfl)) ?_
    refine G_st (x_aload_n dX7_habitComes_94 rfl) ?_
    refine G_st (x_get (k := 4) (aI (t13 (0, 29) 4)) dX7_habitComes_95 (H0_29 29 (Nat.le_of_ble_eq_true rfl) (Nat.le_of_ble_eq_true rfl)) rfl rfl rfl rfl inTX7 (Nat.le_of_ble_eq_true rfl) tw_851 (fun ad => rfl)) ?_
    refine G_st (x_aload_n dX7_habitComes_98 rfl) ?_
    refine G_st (x_get (k := 32) (aR (0, 51)) dX7_habitComes_99 (H0_29 29 (Nat.le_of_ble_eq_true rfl) (Nat.le_of_ble_eq_true rfl)) rfl rfl rfl rfl inTX7 (Nat.le_of_ble_eq_true rfl) tw_879 (fun ad => rfl)) ?_
    refine G_st (x_iload_n dX7_habitComes_102 rfl) ?_
    refine G_st (x_iconst (2 : Int32) dX7_habitComes_103 rfl) ?_
    refine G_st (x_iadd dX7_habitComes_104) ?_
    refine G_chk (fun c14 => ?_)
    refine G_st (x_iaload dX7_habitComes_105 (H0_29 51 (Nat.le_of_ble_eq_true rfl) (Nat.le_of_ble_eq_true rfl)) rfl c14) ?_
    refine G_chk (fun c15 => ?_)
    refine G_st (x_iastore dX7_habitComes_106 (H0_29 41 (Nat.le_of_ble_eq_true rfl) (Nat.le_of_ble_eq_true rfl)) rfl c15) ?_
    refine G_bvS (fun t16 => ?_)
    refine G_st (x_aload_n dX7_habitComes_107 rfl) ?_
    refine G_st (x_get (k := 17) (aR (0, 42)) dX7_habitComes_108 (H0_29 29 (Nat.le_of_ble_eq_true rfl) (Nat.le_of_ble_eq_true rfl)) rfl rfl rfl rfl inTX7 (Nat.le_of_ble_eq_true rfl) tw_864 (fun ad => rfl)) ?_
    refine G_st (x_aload_n dX7_habitComes_111 rfl) ?_
    refine G_st (x_get (k := 4) (aI (t16 (0, 29) 4)) dX7_habitComes_112 (H0_29 29 (Nat.le_of_ble_eq_true rfl) (Nat.le_of_ble_eq_true rfl)) rfl rfl rfl rfl inTX7 (Nat.le_of_ble_eq_true rfl) tw_851 (fun ad => rfl)) ?_
    refine G_st (x_aload_n dX7_habitComes_115 rfl) ?_
    refine G_st (x_get (k := 32) (aR (0, 51)) dX7_habitComes_116 (H0_29 29 (Nat.le_of_ble_eq_true rfl) (Nat.le_of_ble_eq_true rfl)) rfl rfl rfl rfl inTX7 (Nat.le_of_ble_eq_true rfl) tw_879 (fun ad => rfl)) ?_
    refine G_st (x_iload_n dX7_habitComes_119 rfl) ?_
    refine G_st (x_iconst (3 : Int32) dX7_habitComes_120 rfl) ?_
    refine G_st (x_iadd dX7_habitComes_121) ?_
    refine G_chk (fun c17 => ?_)
    refine G_st (x_iaload dX7_habitComes_122 (H0_29 51 (Nat.le_of_ble_eq_true rfl) (Nat.le_of_ble_eq_true rfl)) rfl c17) ?_
    refine G_chk (fun c18 => ?_)
    refine G_st (x_iastore dX7_habitComes_123 (H0_29 42 (Nat.le_of_ble_eq_true rfl) (Nat.le_of_ble_eq_true rfl)) rfl c18) ?_
    refine G_bvS (fun t19 => ?_)
    refine G_st (x_aload_n dX7_habitComes_124 rfl) ?_
    refine G_st (x_dup dX7_habitComes_125 rfl) ?_
    refine G_st (x_get (k := 4) (aI (t19 (0, 29) 4)) dX7_habitComes_126 (H0_29 29 (Nat.le_of_ble_eq_true rfl) (Nat.le_of_ble_eq_true rfl)) rfl rfl rfl rfl inTX7 (Nat.le_of_ble_eq_true rfl) tw_851 (fun ad => rfl)) ?_
    refine G_st (x_iconst (1 : Int32) dX7_habitComes_129 rfl) ?_
    refine G_st (x_iadd dX7_habitComes_130) ?_
    refine G_st (x_put (k := 4) (ty := .int) (v := aI ((t19 (0, 29) 4) + (1 : Int32))) (z := ((t19 (0, 29) 4) + (1 : Int32))) (upS t19 (0, 29) 4 ((t19 (0, 29) 4) + (1 : Int32))) dX7_habitComes_131 (H0_29 29 (Nat.le_of_ble_eq_true rfl) (Nat.le_of_ble_eq_true rfl)) rfl rfl rfl rfl inTX7 tyX7_ok nmX7 (Nat.le_of_ble_eq_true rfl) tw_851 rfl rfl (fun ad => rfl) (fun ad => rfl) (fun ad => put_i0 ad _ _ _ _ rfl) rfl) ?_
    refine G_bvS (fun t20 => ?_)
    refine G_st (x_iload_n dX7_habitComes_134 rfl) ?_
    refine G_chk (fun c21 => ?_)
    exact G_ret rfl ⟨dX7_habitComes_135, _, rfl, nar_b c21⟩ rfl
set_option maxRecDepth 100000 in
set_option maxHeartbeats 4000000 in
theorem g_X7_habitComes_52 (ids : List (Nat × Nat)) (Hn : Ndp ids)  (H0_29 : InR ids 0 29 56)  (v1 : Int32) (t0 : Sg) : Gj kI mX7_habitComes ids 52 [some (aR (0, 29)), some (aI v1), none] [] t0 (f_X7_habitComes_52 v1 t0) := by
  unfold f_X7_habitComes_52
  refine G_st (x_iconst (0 : Int32) dX7_habitComes_52 rfl) ?_
  refine G_weak _ ?_ (g_X7_habitComes_53 ids Hn H0_29 v1 (0 : Int32) t0)
  exact (leL_s (leL_s (leL_n (leL_e _))))
set_option maxRecDepth 100000 in
set_option maxHeartbeats 4000000 in
theorem g_X7_habitComes (ids : List (Nat × Nat)) (Hn : Ndp ids) (v1 : Int32) (H0_29 : InR ids 0 29 56) (t0 : Sg) : Gj kI mX7_habitComes ids 0 [some (aR (0, 29)), some (aI v1), none] [] t0 (f_X7_habitComes v1 t0) := by
  unfold f_X7_habitComes
  refine G_st (x_aload_n dX7_habitComes_0 rfl) ?_
  refine G_st (x_get (k := 32) (aR (0, 51)) dX7_habitComes_1 (H0_29 29 (Nat.le_of_ble_eq_true rfl) (Nat.le_of_ble_eq_true rfl)) rfl rfl rfl rfl inTX7 (Nat.le_of_ble_eq_true rfl) tw_879 (fun ad => rfl)) ?_
  refine G_st (x_iload_n dX7_habitComes_4 rfl) ?_
  refine G_chk (fun c1 => ?_)
  refine G_st (x_iaload dX7_habitComes_5 (H0_29 51 (Nat.le_of_ble_eq_true rfl) (Nat.le_of_ble_eq_true rfl)) rfl c1) ?_
  refine G_st (x_aload_n dX7_habitComes_6 rfl) ?_
  refine G_bd (fun x2 t3 h4 => ?_)
  refine G_st (x_callV [aI (t0 (0, 51) (v1).toNatClampNeg)] (c_X7_tenants ids Hn  H0_29 _ _ _ h4) dX7_habitComes_7 tw_1046 kc_X7_tenants (H0_29 29 (Nat.le_of_ble_eq_true rfl) (Nat.le_of_ble_eq_true rfl)) rfl rfl rfl rfl ⟨Nat.le_of_ble_eq_true rfl, Nat.le_of_ble_eq_true rfl⟩ (Nat.le_of_ble_eq_true rfl) rfl) ?_
  refine G_ite (fun c5 => ?_) (fun c5 => ?_)
  · refine G_st (x_icmp_ge_t (tgt := 52) dX7_habitComes_10 (by decide) c5) ?_
    refine G_weak _ ?_ (g_X7_habitComes_52 ids Hn H0_29 v1 t3)
    exact (leL_s (leL_s (leL_n (leL_e _))))
  · refine G_st (x_icmp_ge_f 52 dX7_habitComes_10 (by decide) c5) ?_
    refine G_st (x_aload_n dX7_habitComes_13 rfl) ?_
    refine G_st (x_get (k := 32) (aR (0, 51)) dX7_habitComes_14 (H0_29 29 (Nat.le_of_ble_eq_true rfl) (Nat.le_of_ble_eq_true rfl)) rfl rfl rfl rfl inTX7 (Nat.le_of_ble_eq_true rfl) tw_879 (fun ad => rfl)) ?_
    refine G_st (x_iload_n dX7_habitComes_17 rfl) ?_
    refine G_st (x_iconst (1 : Int32) dX7_habitComes_18 rfl) ?_
    refine G_st (x_iadd dX7_habitComes_19) ?_
    refine G_chk (fun c22 => ?_)
    refine G_st (x_iaload dX7_habitComes_20 (H0_29 51 (Nat.le_of_ble_eq_true rfl) (Nat.le_of_ble_eq_true rfl)) rfl c22) ?_
    refine G_st (x_bipush (6 : Int32) dX7_habitComes_21 rfl) ?_
    refine G_ite (fun c23 => ?_) (fun c23 => ?_)
    · refine G_st (x_icmp_ge_t (tgt := 52) dX7_habitComes_23 (by decide) c23) ?_
      refine G_weak _ ?_ (g_X7_habitComes_52 ids Hn H0_29 v1 t3)
      exact (leL_s (leL_s (leL_n (leL_e _))))
    · refine G_st (x_icmp_ge_f 52 dX7_habitComes_23 (by decide) c23) ?_
      refine G_st (x_aload_n dX7_habitComes_26 rfl) ?_
      refine G_st (x_get (k := 32) (aR (0, 51)) dX7_habitComes_27 (H0_29 29 (Nat.le_of_ble_eq_true rfl) (Nat.le_of_ble_eq_true rfl)) rfl rfl rfl rfl inTX7 (Nat.le_of_ble_eq_true rfl) tw_879 (fun ad => rfl)) ?_
      refine G_st (x_iload_n dX7_habitComes_30 rfl) ?_
      refine G_st (x_iconst (3 : Int32) dX7_habitComes_31 rfl) ?_
      refine G_st (x_iadd dX7_habitComes_32) ?_
      refine G_chk (fun c24 => ?_)
      refine G_st (x_iaload dX7_habitComes_33 (H0_29 51 (Nat.le_of_ble_eq_true rfl) (Nat.le_of_ble_eq_true rfl)) rfl c24) ?_
      refine G_st (x_bipush (8 : Int32) dX7_habitComes_34 rfl) ?_
      refine G_ite (fun c25 => ?_) (fun c25 => ?_)
      · refine G_st (x_icmp_ge_t (tgt := 52) dX7_habitComes_36 (by decide) c25) ?_
        refine G_weak _ ?_ (g_X7_habitComes_52 ids Hn H0_29 v1 t3)
        exact (leL_s (leL_s (leL_n (leL_e _))))
      · refine G_st (x_icmp_ge_f 52 dX7_habitComes_36 (by decide) c25) ?_
        refine G_st (x_aload_n dX7_habitComes_39 rfl) ?_
        refine G_st (x_get (k := 4) (aI (t3 (0, 29) 4)) dX7_habitComes_40 (H0_29 29 (Nat.le_of_ble_eq_true rfl) (Nat.le_of_ble_eq_true rfl)) rfl rfl rfl rfl inTX7 (Nat.le_of_ble_eq_true rfl) tw_851 (fun ad => rfl)) ?_
        refine G_st (x_bipush (8 : Int32) dX7_habitComes_43 rfl) ?_
        refine G_ite (fun c26 => ?_) (fun c26 => ?_)
        · refine G_st (x_icmp_ge_t (tgt := 52) dX7_habitComes_45 (by decide) c26) ?_
          refine G_weak _ ?_ (g_X7_habitComes_52 ids Hn H0_29 v1 t3)
          exact (leL_s (leL_s (leL_n (leL_e _))))
        · refine G_st (x_icmp_ge_f 52 dX7_habitComes_45 (by decide) c26) ?_
          refine G_st (x_iconst (1 : Int32) dX7_habitComes_48 rfl) ?_
          refine G_st (x_goto (tgt := 53) dX7_habitComes_49 (by decide)) ?_
          refine G_weak _ ?_ (g_X7_habitComes_53 ids Hn H0_29 v1 (1 : Int32) t3)
          exact (leL_s (leL_s (leL_n (leL_e _))))
set_option maxRecDepth 100000 in
set_option maxHeartbeats 4000000 in
theorem c_X7_habitComes (ids : List (Nat × Nat)) (Hn : Ndp ids) (v1 : Int32) (H0_29 : InR ids 0 29 56) (t0 : Sg) (r : Int32) (t1 : Sg) (hf : f_X7_habitComes v1 t0 = some (r, t1)) : Mt0 mX7_habitComes yX7_habitComes ids [aR (0, 29), aI v1] t0 (some (aI r)) t1 :=
  Mt_of (x := (r, t1)) (g_X7_habitComes ids Hn v1 H0_29 t0) hf (fun _ _ => trivial) (by decide) rfl Hn (fun _ => rfl) (fun _ => Nat.le_of_ble_eq_true rfl)
