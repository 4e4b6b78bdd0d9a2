theorem dJ7_fill_53178_0 : decode cJ7_fill_53178 0 = .ok (.iconst 0, 1) := by decide +kernel
theorem dJ7_fill_53178_1 : decode cJ7_fill_53178 1 = .ok (.istore_n 2, 1) := by decide +kernel
theorem dJ7_fill_53178_2 : decode cJ7_fill_53178 2 = .ok (.aload_n 0, 1) := by decide +kernel
theorem dJ7_fill_53178_3 : decode cJ7_fill_53178 3 = .ok (.arraylength, 1) := by decide +kernel
theorem dJ7_fill_53178_4 : decode cJ7_fill_53178 4 = .ok (.istore_n 3, 1) := by decide +kernel
theorem dJ7_fill_53178_5 : decode cJ7_fill_53178 5 = .ok (.iload_n 2, 1) := by decide +kernel
theorem dJ7_fill_53178_6 : decode cJ7_fill_53178 6 = .ok (.iload_n 3, 1) := by decide +kernel
theorem dJ7_fill_53178_7 : decode cJ7_fill_53178 7 = .ok (.if_icmp .ge 13, 3) := by decide +kernel
theorem dJ7_fill_53178_10 : decode cJ7_fill_53178 10 = .ok (.aload_n 0, 1) := by decide +kernel
theorem dJ7_fill_53178_11 : decode cJ7_fill_53178 11 = .ok (.iload_n 2, 1) := by decide +kernel
theorem dJ7_fill_53178_12 : decode cJ7_fill_53178 12 = .ok (.iload_n 1, 1) := by decide +kernel
theorem dJ7_fill_53178_13 : decode cJ7_fill_53178 13 = .ok (.iastore, 1) := by decide +kernel
theorem dJ7_fill_53178_14 : decode cJ7_fill_53178 14 = .ok (.iinc 2 1, 3) := by decide +kernel
theorem dJ7_fill_53178_17 : decode cJ7_fill_53178 17 = .ok (.goto (-12), 3) := by decide +kernel
theorem dJ7_fill_53178_20 : decode cJ7_fill_53178 20 = .ok (.return_, 1) := by decide +kernel
set_option maxRecDepth 100000 in
set_option maxHeartbeats 4000000 in
theorem g_J7_fill_53178_5 (ids : List (Nat × Nat)) (Hn : Ndp ids) (i0 : Nat × Nat) (Ki0 : i0 ∈ ids) (Ni0 : ly_len i0.2 = some (alen i0))  : ∀ (n : Nat) (v1 : Int32) (v2 : Int32) (v3 : Int32) (t0 : Sg), Gj kV mJ7_fill_53178 ids 5 [some (aR i0), some (aI v1), some (aI v2), some (aI v3)] [] t0 (f_J7_fill_53178_5 i0 n v1 v2 v3 t0) := by
  intro n
  induction n with
  | zero => intro v1 v2 v3 t0; exact G_none
  | succ n ih =>
    intro v1 v2 v3 t0
    rw [f_J7_fill_53178_5]
    refine G_st (x_iload_n dJ7_fill_53178_5 rfl) ?_
    refine G_st (x_iload_n dJ7_fill_53178_6 rfl) ?_
    refine G_ite (fun c2 => ?_) (fun c2 => ?_)
    · refine G_st (x_icmp_ge_t (tgt := 20) dJ7_fill_53178_7 (by decide) c2) ?_
      exact G_ret rfl ⟨rfl, dJ7_fill_53178_20⟩ rfl
    · refine G_st (x_icmp_ge_f 20 dJ7_fill_53178_7 (by decide) c2) ?_
      refine G_st (x_aload_n dJ7_fill_53178_10 rfl) ?_
      refine G_st (x_iload_n dJ7_fill_53178_11 rfl) ?_
      refine G_st (x_iload_n dJ7_fill_53178_12 rfl) ?_
      refine G_chk (fun c3 => ?_)
      refine G_st (x_iastore dJ7_fill_53178_13 Ki0 Ni0 c3) ?_
      refine G_bvS (fun t4 => ?_)
      refine G_st (x_iinc (v2 + (1 : Int32)) [some (aR i0), some (aI v1), some (aI (v2 + (1 : Int32))), some (aI v3)] dJ7_fill_53178_14 (Nat.le_of_ble_eq_true rfl) rfl rfl rfl rfl) ?_
      refine G_st (x_goto (tgt := 5) dJ7_fill_53178_17 (by decide)) ?_
      refine G_weak _ ?_ ((ih) v1 (v2 + (1 : Int32)) v3 t4)
      exact (leL_s (leL_s (leL_s (leL_s (leL_e _)))))
set_option maxRecDepth 100000 in
set_option maxHeartbeats 4000000 in
theorem g_J7_fill_53178 (ids : List (Nat × Nat)) (Hn : Ndp ids) (i0 : Nat × Nat) (v1 : Int32) (Ki0 : i0 ∈ ids) (Ni0 : ly_len i0.2 = some (alen i0)) (t0 : Sg) : Gj kV mJ7_fill_53178 ids 0 [some (aR i0), some (aI v1), none, none] [] t0 (f_J7_fill_53178 i0 v1 t0) := by
  unfold f_J7_fill_53178
  refine G_st (x_iconst (0 : Int32) dJ7_fill_53178_0 rfl) ?_
  refine G_st (x_istore_n [some (aR i0), some (aI v1), some (aI (0 : Int32)), none] dJ7_fill_53178_1 (Nat.le_of_ble_eq_true rfl) rfl rfl) ?_
  refine G_st (x_aload_n dJ7_fill_53178_2 rfl) ?_
  refine G_st (x_alen (v := (Int32.ofNat (alen i0))) dJ7_fill_53178_3 Ki0 Ni0 rfl) ?_
  refine G_bvI (fun x1 => ?_)
  refine G_st (x_istore_n [some (aR i0), some (aI v1), some (aI (0 : Int32)), some (aI x1)] dJ7_fill_53178_4 (Nat.le_of_ble_eq_true rfl) rfl rfl) ?_
  refine G_weak _ ?_ (g_J7_fill_53178_5 ids Hn i0 Ki0 Ni0 fuel v1 (0 : Int32) x1 t0)
  exact (leL_s (leL_s (leL_s (leL_s (leL_e _)))))
set_option maxRecDepth 100000 in
set_option maxHeartbeats 4000000 in
theorem c_J7_fill_53178 (ids : List (Nat × Nat)) (Hn : Ndp ids) (i0 : Nat × Nat) (v1 : Int32) (Ki0 : i0 ∈ ids) (Ni0 : ly_len i0.2 = some (alen i0)) (t0 : Sg) (r : Unit) (t1 : Sg) (hf : f_J7_fill_53178 i0 v1 t0 = some (r, t1)) : Mt0 mJ7_fill_53178 yJ7_fill_53178 ids [aR i0, aI v1] t0 none t1 :=
  Mt_of (x := (r, t1)) (g_J7_fill_53178 ids Hn i0 v1 Ki0 Ni0 t0) hf (fun _ _ => trivial) (by decide) rfl Hn (fun _ => rfl) (fun _ => Nat.le_of_ble_eq_true rfl)
theorem dX6_set_0 : decode cX6_set 0 = .ok (.iload_n 1, 1) := by decide +kernel
theorem dX6_set_1 : decode cX6_set 1 = .ok (.ifCond .lt 13, 3) := by decide +kernel
theorem dX6_set_4 : decode cX6_set 4 = .ok (.iload_n 1, 1) := by decide +kernel
theorem dX6_set_5 : decode cX6_set 5 = .ok (.aload_n 0, 1) := by decide +kernel
theorem dX6_set_6 : decode cX6_set 6 = .ok (.arraylength, 1) := by decide +kernel
theorem dX6_set_7 : decode cX6_set 7 = .ok (.if_icmp .ge 7, 3) := by decide +kernel
theorem dX6_set_10 : decode cX6_set 10 = .ok (.aload_n 0, 1) := by decide +kernel
theorem dX6_set_11 : decode cX6_set 11 = .ok (.iload_n 1, 1) := by decide +kernel
theorem dX6_set_12 : decode cX6_set 12 = .ok (.iload_n 2, 1) := by decide +kernel
theorem dX6_set_13 : decode cX6_set 13 = .ok (.iastore, 1) := by decide +kernel
theorem dX6_set_14 : decode cX6_set 14 = .ok (.return_, 1) := by decide +kernel
set_option maxRecDepth 100000 in
set_option maxHeartbeats 4000000 in
theorem g_X6_set (ids : List (Nat × Nat)) (Hn : Ndp ids) (i0 : Nat × Nat) (v1 : Int32) (v2 : Int32) (Ki0 : i0 ∈ ids) (Ni0 : ly_len i0.2 = some (alen i0)) (t0 : Sg) : Gj kV mX6_set ids 0 [some (aR i0), some (aI v1), some (aI v2)] [] t0 (f_X6_set i0 v1 v2 t0) := by
  unfold f_X6_set
  refine G_st (x_iload_n dX6_set_0 rfl) ?_
  refine G_ite (fun c1 => ?_) (fun c1 => ?_)
  · refine G_st (x_if_lt_t (tgt := 14) dX6_set_1 (by decide) c1) ?_
    exact G_ret rfl ⟨rfl, dX6_set_14⟩ rfl
  · refine G_st (x_if_lt_f 14 dX6_set_1 (by decide) c1) ?_
    refine G_st (x_iload_n dX6_set_4 rfl) ?_
    refine G_st (x_aload_n dX6_set_5 rfl) ?_
    refine G_st (x_alen (v := (Int32.ofNat (alen i0))) dX6_set_6 Ki0 Ni0 rfl) ?_
    refine G_ite (fun c2 => ?_) (fun c2 => ?_)
    · refine G_st (x_icmp_ge_t (tgt := 14) dX6_set_7 (by decide) c2) ?_
      exact G_ret rfl ⟨rfl, dX6_set_14⟩ rfl
    · refine G_st (x_icmp_ge_f 14 dX6_set_7 (by decide) c2) ?_
      refine G_st (x_aload_n dX6_set_10 rfl) ?_
      refine G_st (x_iload_n dX6_set_11 rfl) ?_
      refine G_st (x_iload_n dX6_set_12 rfl) ?_
      refine G_chk (fun c3 => ?_)
      refine G_st (x_iastore dX6_set_13 Ki0 Ni0 c3) ?_
      refine G_bvS (fun t4 => ?_)
      exact G_ret rfl ⟨rfl, dX6_set_14⟩ rfl
set_option maxRecDepth 100000 in
set_option maxHeartbeats 4000000 in
theorem c_X6_set (ids : List (Nat × Nat)) (Hn : Ndp ids) (i0 : Nat × Nat) (v1 : Int32) (v2 : Int32) (Ki0 : i0 ∈ ids) (Ni0 : ly_len i0.2 = some (alen i0)) (t0 : Sg) (r : Unit) (t1 : Sg) (hf : f_X6_set i0 v1 v2 t0 = some (r, t1)) : Mt0 mX6_set yX6_set ids [aR i0, aI v1, aI v2] t0 none t1 :=
  Mt_of (x := (r, t1)) (g_X6_set ids Hn i0 v1 v2 Ki0 Ni0 t0) hf (fun _ _ => trivial) (by decide) rfl Hn (fun _ => rfl) (fun _ => Nat.le_of_ble_eq_true rfl)
theorem dX0_settle_0 : decode cX0_settle 0 = .ok (.aload_n 0, 1) := by decide +kernel
theorem dX0_settle_1 : decode cX0_settle 1 = .ok (.getfield 30, 3) := by decide +kernel
theorem dX0_settle_4 : decode cX0_settle 4 = .ok (.iload_n 1, 1) := by decide +kernel
theorem dX0_settle_5 : decode cX0_settle 5 = .ok (.iload_n 2, 1) := by decide +kernel
theorem dX0_settle_6 : decode cX0_settle 6 = .ok (.invokestatic 64, 3) := by decide +kernel
theorem dX0_settle_9 : decode cX0_settle 9 = .ok (.aload_n 0, 1) := by decide +kernel
theorem dX0_settle_10 : decode cX0_settle 10 = .ok (.getfield 27, 3) := by decide +kernel
theorem dX0_settle_13 : decode cX0_settle 13 = .ok (.iload_n 2, 1) := by decide +kernel
theorem dX0_settle_14 : decode cX0_settle 14 = .ok (.iload_n 1, 1) := by decide +kernel
theorem dX0_settle_15 : decode cX0_settle 15 = .ok (.invokestatic 64, 3) := by decide +kernel
theorem dX0_settle_18 : decode cX0_settle 18 = .ok (.return_, 1) := by decide +kernel
set_option maxRecDepth 100000 in
set_option maxHeartbeats 4000000 in
theorem g_X0_settle (ids : List (Nat × Nat)) (Hn : Ndp ids) (h : Nat) (v1 : Int32) (v2 : Int32) (Hh : InR ids h 7 14) (t0 : Sg) : Gj kV mX0_settle ids 0 [some (aR (h, 7)), some (aI v1), some (aI v2)] [] t0 (f_X0_settle h v1 v2 t0) := by
  unfold f_X0_settle
  refine G_st (x_aload_n dX0_settle_0 rfl) ?_
  refine G_st (x_get (k := 9) (aR (h, 14)) dX0_settle_1 (Hh 7 (Nat.le_of_ble_eq_true rfl) (Nat.le_of_ble_eq_true rfl)) rfl rfl rfl rfl inTX0 (Nat.le_of_ble_eq_true rfl) tw_138 (fun ad => rfl)) ?_
  refine G_st (x_iload_n dX0_settle_4 rfl) ?_
  refine G_st (x_iload_n dX0_settle_5 rfl) ?_
  refine G_bd (fun _ t2 h3 => ?_)
  refine G_st (x_callN [] (c_X6_set ids Hn (h, 14) v1 v2 (Hh 14 (Nat.le_of_ble_eq_true rfl) (Nat.le_of_ble_eq_true rfl)) rfl _ _ _ h3) dX0_settle_6 (List.mem_of_getElem? (i := 1) rfl) kc_X6_set rfl ⟨Nat.le_of_ble_eq_true rfl, Nat.le_of_ble_eq_true rfl⟩ (Nat.le_of_ble_eq_true rfl) rfl) ?_
  refine G_st (x_aload_n dX0_settle_9 rfl) ?_
  refine G_st (x_get (k := 8) (aR (h, 13)) dX0_settle_10 (Hh 7 (Nat.le_of_ble_eq_true rfl) (Nat.le_of_ble_eq_true rfl)) rfl rfl rfl rfl inTX0 (Nat.le_of_ble_eq_true rfl) tw_135 (fun ad => rfl)) ?_
  refine G_st (x_iload_n dX0_settle_13 rfl) ?_
  refine G_st (x_iload_n dX0_settle_14 rfl) ?_
  refine G_bd (fun _ t5 h6 => ?_)
  refine G_st (x_callN [] (c_X6_set ids Hn (h, 13) v2 v1 (Hh 13 (Nat.le_of_ble_eq_true rfl) (Nat.le_of_ble_eq_true rfl)) rfl _ _ _ h6) dX0_settle_15 (List.mem_of_getElem? (i := 1) rfl) kc_X6_set rfl ⟨Nat.le_of_ble_eq_true rfl, Nat.le_of_ble_eq_true rfl⟩ (Nat.le_of_ble_eq_true rfl) rfl) ?_
  exact G_ret rfl ⟨rfl, dX0_settle_18⟩ rfl
set_option maxRecDepth 100000 in
set_option maxHeartbeats 4000000 in
theorem c_X0_settle (ids : List (Nat × Nat)) (Hn : Ndp ids) (h : Nat) (v1 : Int32) (v2 : Int32) (Hh : InR ids h 7 14) (t0 : Sg) (r : Unit) (t1 : Sg) (hf : f_X0_settle h v1 v2 t0 = some (r, t1)) : Mt0 mX0_settle yX0_settle ids [aR (h, 7), aI v1, aI v2] t0 none t1 :=
  Mt_of (x := (r, t1)) (g_X0_settle ids Hn h v1 v2 Hh t0) hf (fun _ _ => trivial) (by decide) rfl Hn (fun _ => rfl) (fun _ => Nat.le_of_ble_eq_true rfl)
theorem dX0_build_0 : decode cX0_build 0 = .ok (.aload_n 0, 1) := by decide +kernel
theorem dX0_build_1 : decode cX0_build 1 = .ok (.iload_n 1, 1) := by decide +kernel
theorem dX0_build_2 : decode cX0_build 2 = .ok (.putfield 37, 3) := by decide +kernel
theorem dX0_build_5 : decode cX0_build 5 = .ok (.aload_n 0, 1) := by decide +kernel
theorem dX0_build_6 : decode cX0_build 6 = .ok (.iload_n 2, 1) := by decide +kernel
theorem dX0_build_7 : decode cX0_build 7 = .ok (.putfield 41, 3) := by decide +kernel
theorem dX0_build_10 : decode cX0_build 10 = .ok (.aload_n 0, 1) := by decide +kernel
theorem dX0_build_11 : decode cX0_build 11 = .ok (.getfield 9, 3) := by decide +kernel
theorem dX0_build_14 : decode cX0_build 14 = .ok (.iconst 0, 1) := by decide +kernel
theorem dX0_build_15 : decode cX0_build 15 = .ok (.invokestatic 44, 3) := by decide +kernel
theorem dX0_build_18 : decode cX0_build 18 = .ok (.aload_n 0, 1) := by decide +kernel
theorem dX0_build_19 : decode cX0_build 19 = .ok (.getfield 15, 3) := by decide +kernel
theorem dX0_build_22 : decode cX0_build 22 = .ok (.iconst 0, 1) := by decide +kernel
theorem dX0_build_23 : decode cX0_build 23 = .ok (.invokestatic 44, 3) := by decide +kernel
theorem dX0_build_26 : decode cX0_build 26 = .ok (.aload_n 0, 1) := by decide +kernel
theorem dX0_build_27 : decode cX0_build 27 = .ok (.getfield 18, 3) := by decide +kernel
theorem dX0_build_30 : decode cX0_build 30 = .ok (.iconst 0, 1) := by decide +kernel
theorem dX0_build_31 : decode cX0_build 31 = .ok (.invokestatic 44, 3) := by decide +kernel
theorem dX0_build_34 : decode cX0_build 34 = .ok (.aload_n 0, 1) := by decide +kernel
theorem dX0_build_35 : decode cX0_build 35 = .ok (.getfield 21, 3) := by decide +kernel
theorem dX0_build_38 : decode cX0_build 38 = .ok (.iconst 0, 1) := by decide +kernel
theorem dX0_build_39 : decode cX0_build 39 = .ok (.invokestatic 44, 3) := by decide +kernel
theorem dX0_build_42 : decode cX0_build 42 = .ok (.aload_n 0, 1) := by decide +kernel
theorem dX0_build_43 : decode cX0_build 43 = .ok (.getfield 24, 3) := by decide +kernel
theorem dX0_build_46 : decode cX0_build 46 = .ok (.iconst 0, 1) := by decide +kernel
theorem dX0_build_47 : decode cX0_build 47 = .ok (.invokestatic 44, 3) := by decide +kernel
theorem dX0_build_50 : decode cX0_build 50 = .ok (.aload_n 0, 1) := by decide +kernel
theorem dX0_build_51 : decode cX0_build 51 = .ok (.getfield 27, 3) := by decide +kernel
theorem dX0_build_54 : decode cX0_build 54 = .ok (.iconst (-1), 1) := by decide +kernel
theorem dX0_build_55 : decode cX0_build 55 = .ok (.invokestatic 44, 3) := by decide +kernel
theorem dX0_build_58 : decode cX0_build 58 = .ok (.aload_n 0, 1) := by decide +kernel
theorem dX0_build_59 : decode cX0_build 59 = .ok (.getfield 30, 3) := by decide +kernel
theorem dX0_build_62 : decode cX0_build 62 = .ok (.iconst (-1), 1) := by decide +kernel
theorem dX0_build_63 : decode cX0_build 63 = .ok (.invokestatic 44, 3) := by decide +kernel
theorem dX0_build_66 : decode cX0_build 66 = .ok (.iconst 0, 1) := by decide +kernel
theorem dX0_build_67 : decode cX0_build 67 = .ok (.istore_n 3, 1) := by decide +kernel
theorem dX0_build_68 : decode cX0_build 68 = .ok (.iload_n 3, 1) := by decide +kernel
theorem dX0_build_69 : decode cX0_build 69 = .ok (.iload_n 1, 1) := by decide +kernel
theorem dX0_build_70 : decode cX0_build 70 = .ok (.if_icmp .ge 40, 3) := by decide +kernel
theorem dX0_build_73 : decode cX0_build 73 = .ok (.iconst 0, 1) := by decide +kernel
theorem dX0_build_74 : decode cX0_build 74 = .ok (.istore 4, 2) := by decide +kernel
theorem dX0_build_76 : decode cX0_build 76 = .ok (.iload 4, 2) := by decide +kernel
theorem dX0_build_78 : decode cX0_build 78 = .ok (.iload_n 2, 1) := by decide +kernel
theorem dX0_build_79 : decode cX0_build 79 = .ok (.if_icmp .ge 25, 3) := by decide +kernel
theorem dX0_build_82 : decode cX0_build 82 = .ok (.aload_n 0, 1) := by decide +kernel
theorem dX0_build_83 : decode cX0_build 83 = .ok (.iload_n 3, 1) := by decide +kernel
theorem dX0_build_84 : decode cX0_build 84 = .ok (.iload_n 2, 1) := by decide +kernel
theorem dX0_build_85 : decode cX0_build 85 = .ok (.imul, 1) := by decide +kernel
theorem dX0_build_86 : decode cX0_build 86 = .ok (.iload 4, 2) := by decide +kernel
theorem dX0_build_88 : decode cX0_build 88 = .ok (.iadd, 1) := by decide +kernel
theorem dX0_build_89 : decode cX0_build 89 = .ok (.iload_n 3, 1) := by decide +kernel
theorem dX0_build_90 : decode cX0_build 90 = .ok (.iconst 4, 1) := by decide +kernel
theorem dX0_build_91 : decode cX0_build 91 = .ok (.imul, 1) := by decide +kernel
theorem dX0_build_92 : decode cX0_build 92 = .ok (.iload 4, 2) := by decide +kernel
theorem dX0_build_94 : decode cX0_build 94 = .ok (.iadd, 1) := by decide +kernel
theorem dX0_build_95 : decode cX0_build 95 = .ok (.invokevirtual 50, 3) := by decide +kernel
theorem dX0_build_98 : decode cX0_build 98 = .ok (.iinc 4 1, 3) := by decide +kernel
theorem dX0_build_101 : decode cX0_build 101 = .ok (.goto (-25), 3) := by decide +kernel
theorem dX0_build_104 : decode cX0_build 104 = .ok (.iinc 3 1, 3) := by decide +kernel
theorem dX0_build_107 : decode cX0_build 107 = .ok (.goto (-39), 3) := by decide +kernel
theorem dX0_build_110 : decode cX0_build 110 = .ok (.return_, 1) := by decide +kernel
set_option maxRecDepth 100000 in
set_option maxHeartbeats 4000000 in
theorem g_X0_build_76 (ids : List (Nat × Nat)) (Hn : Ndp ids) (h : Nat) (Hh : InR ids h 7 14) (k68 : Int32 → Int32 → Int32 → Sg → Option (Unit × Sg)) (hk68 : ∀ (v1 : Int32) (v2 : Int32) (v3 : Int32) (t0 : Sg), Gj kV mX0_build ids 68 [some (aR (h, 7)), some (aI v1), some (aI v2), some (aI v3), none] [] t0 (k68 v1 v2 v3 t0)) : ∀ (n : Nat) (v1 : Int32) (v2 : Int32) (v3 : Int32) (v4 : Int32) (t0 : Sg), Gj kV mX0_build ids 76 [some (aR (h, 7)), some (aI v1), some (aI v2), some (aI v3), some (aI v4)] [] t0 (f_X0_build_76 h k68 n v1 v2 v3 v4 t0) := by
  intro n
  induction n with
  | zero => intro v1 v2 v3 v4 t0; exact G_none
  | succ n ih =>
    intro v1 v2 v3 v4 t0
    rw [f_X0_build_76]
    refine G_st (x_iload dX0_build_76 rfl) ?_
    refine G_st (x_iload_n dX0_build_78 rfl) ?_
    refine G_ite (fun c25 => ?_) (fun c25 => ?_)
    · refine G_st (x_icmp_ge_t (tgt := 104) dX0_build_79 (by decide) c25) ?_
      refine G_st (x_iinc (v3 + (1 : Int32)) [some (aR (h, 7)), some (aI v1), some (aI v2), some (aI (v3 + (1 : Int32))), some (aI v4)] dX0_build_104 (Nat.le_of_ble_eq_true rfl) rfl rfl rfl rfl) ?_
      refine G_st (x_goto (tgt := 68) dX0_build_107 (by decide)) ?_
      refine G_weak _ ?_ (hk68 v1 v2 (v3 + (1 : Int32)) t0)
      exact (leL_s (leL_s (leL_s (leL_s (leL_n (leL_e _))))))
    · refine G_st (x_icmp_ge_f 104 dX0_build_79 (by decide) c25) ?_
      refine G_st (x_aload_n dX0_build_82 rfl) ?_
      refine G_st (x_iload_n dX0_build_83 rfl) ?_
      refine G_st (x_iload_n dX0_build_84 rfl) ?_
      refine G_st (x_imul dX0_build_85) ?_
      refine G_st (x_iload dX0_build_86 rfl) ?_
      refine G_st (x_iadd dX0_build_88) ?_
      refine G_st (x_iload_n dX0_build_89 rfl) ?_
      refine G_st (x_iconst (4 : Int32) dX0_build_90 rfl) ?_
      refine G_st (x_imul dX0_build_91) ?_
      refine G_st (x_iload dX0_build_92 rfl) ?_
      refine G_st (x_iadd dX0_build_94) ?_
      refine G_bd (fun _ t27 h28 => ?_)
      refine G_st (x_callV [] (c_X0_settle ids Hn h ((v3 * v2) + v4) ((v3 * (4 : Int32)) + v4) Hh _ _ _ h28) dX0_build_95 tw_103 kc_X0_settle (Hh 7 (Nat.le_of_ble_eq_true rfl) (Nat.le_of_ble_eq_true rfl)) rfl rfl rfl rfl ⟨Nat.le_of_ble_eq_true rfl, Nat.le_of_ble_eq_true rfl⟩ (Nat.le_of_ble_eq_true rfl) rfl) ?_
      refine G_st (x_iinc (v4 + (1 : Int32)) [some (aR (h, 7)), some (aI v1), some (aI v2), some (aI v3), some (aI (v4 + (1 : Int32)))] dX0_build_98 (Nat.le_of_ble_eq_true rfl) rfl rfl rfl rfl) ?_
      refine G_st (x_goto (tgt := 76) dX0_build_101 (by decide)) ?_
      refine G_weak _ ?_ ((ih) v1 v2 v3 (v4 + (1 : Int32)) t27)
      exact (leL_s (leL_s (leL_s (leL_s (leL_s (leL_e _))))))
set_option maxRecDepth 100000 in
set_option maxHeartbeats 4000000 in
theorem g_X0_build_68 (ids : List (Nat × Nat)) (Hn : Ndp ids) (h : Nat) (Hh : InR ids h 7 14)  : ∀ (n : Nat) (v1 : Int32) (v2 : Int32) (v3 : Int32) (t0 : Sg), Gj kV mX0_build ids 68 [some (aR (h, 7)), some (aI v1), some (aI v2), some (aI v3), none] [] t0 (f_X0_build_68 h n v1 v2 v3 t0) := by
  intro n
  induction n with
  | zero => intro v1 v2 v3 t0; exact G_none
  | succ n ih =>
    intro v1 v2 v3 t0
    rw [f_X0_build_68]
    refine G_st (x_iload_n dX0_build_68 rfl) ?_
    refine G_st (x_iload_n dX0_build_69 rfl) ?_
    refine G_ite (fun c24 => ?_) (fun c24 => ?_)
    · refine G_st (x_icmp_ge_t (tgt := 110) dX0_build_70 (by decide) c24) ?_
      exact G_ret rfl ⟨rfl, dX0_build_110⟩ rfl
    · refine G_st (x_icmp_ge_f 110 dX0_build_70 (by decide) c24) ?_
      refine G_st (x_iconst (0 : Int32) dX0_build_73 rfl) ?_
      refine G_st (x_istore [some (aR (h, 7)), some (aI v1), some (aI v2), some (aI v3), some (aI (0 : Int32))] dX0_build_74 (Nat.le_of_ble_eq_true rfl) rfl rfl) ?_
      refine G_weak _ ?_ (g_X0_build_76 ids Hn h Hh (f_X0_build_68 h n) (ih) fuel v1 v2 v3 (0 : Int32) t0)
      exact (leL_s (leL_s (leL_s (leL_s (leL_s (leL_e _))))))
set_option maxRecDepth 100000 in
set_option maxHeartbeats 4000000 in
theorem g_X0_build (ids : List (Nat × Nat)) (Hn : Ndp ids) (h : Nat) (v1 : Int32) (v2 : Int32) (Hh : InR ids h 7 14) (t0 : Sg) : Gj kV mX0_build ids 0 [some (aR (h, 7)), some (aI v1), some (aI v2), none, none] [] t0 (f_X0_build h v1 v2 t0) := by
  unfold f_X0_build
  refine G_st (x_aload_n dX0_build_0 rfl) ?_
  refine G_st (x_iload_n dX0_build_1 rfl) ?_
  refine G_st (x_put (k := 0) (ty := .int) (v := aI v1) (z := v1) (upS t0 (h, 7) 0 v1) dX0_build_2 (Hh 7 (Nat.le_of_ble_eq_true rfl) (Nat.le_of_ble_eq_true rfl)) rfl rfl rfl rfl inTX0 tyX0_ok nmX0 (Nat.le_of_ble_eq_true rfl) tw_110 rfl rfl (fun ad => rfl) (fun ad => rfl) (fun ad => put_i0 ad _ _ _ _ rfl) rfl) ?_
  refine G_bvS (fun t1 => ?_)
  refine G_st (x_aload_n dX0_build_5 rfl) ?_
  refine G_st (x_iload_n dX0_build_6 rfl) ?_
  refine G_st (x_put (k := 1) (ty := .int) (v := aI v2) (z := v2) (upS t1 (h, 7) 1 v2) dX0_build_7 (Hh 7 (Nat.le_of_ble_eq_true rfl) (Nat.le_of_ble_eq_true rfl)) rfl rfl rfl rfl inTX0 tyX0_ok nmX0 (Nat.le_of_ble_eq_true rfl) tw_112 rfl rfl (fun ad => rfl) (fun ad => rfl) (fun ad => put_i0 ad _ _ _ _ rfl) rfl) ?_
  refine G_bvS (fun t2 => ?_)
  refine G_st (x_aload_n dX0_build_10 rfl) ?_
  refine G_st (x_get (k := 3) (aR (h, 8)) dX0_build_11 (Hh 7 (Nat.le_of_ble_eq_true rfl) (Nat.le_of_ble_eq_true rfl)) rfl rfl rfl rfl inTX0 (Nat.le_of_ble_eq_true rfl) tw_118 (fun ad => rfl)) ?_
  refine G_st (x_iconst (0 : Int32) dX0_build_14 rfl) ?_
  refine G_bd (fun _ t4 h5 => ?_)
  refine G_st (x_callS [] (c_J7_fill_53178 ids Hn (h, 8) (0 : Int32) (Hh 8 (Nat.le_of_ble_eq_true rfl) (Nat.le_of_ble_eq_true rfl)) rfl _ _ _ h5) dX0_build_15 tw_100 kc_J7_fill_53178 rfl ⟨Nat.le_of_ble_eq_true rfl, Nat.le_of_ble_eq_true rfl⟩ (Nat.le_of_ble_eq_true rfl) rfl) ?_
  refine G_st (x_aload_n dX0_build_18 rfl) ?_
  refine G_st (x_get (k := 4) (aR (h, 9)) dX0_build_19 (Hh 7 (Nat.le_of_ble_eq_true rfl) (Nat.le_of_ble_eq_true rfl)) rfl rfl rfl rfl inTX0 (Nat.le_of_ble_eq_true rfl) tw_121 (fun ad => rfl)) ?_
  refine G_st (x_iconst (0 : Int32) dX0_build_22 rfl) ?_
  refine G_bd (fun _ t7 h8 => ?_)
  refine G_st (x_callS [] (c_J7_fill_53178 ids Hn (h, 9) (0 : Int32) (Hh 9 (Nat.le_of_ble_eq_true rfl) (Nat.le_of_ble_eq_true rfl)) rfl _ _ _ h8) dX0_build_23 tw_100 kc_J7_fill_53178 rfl ⟨Nat.le_of_ble_eq_true rfl, Nat.le_of_ble_eq_true rfl⟩ (Nat.le_of_ble_eq_true rfl) rfl) ?_
  refine G_st (x_aload_n dX0_build_26 rfl) ?_
  refine G_st (x_get (k := 5) (aR (h, 10)) dX0_build_27 (Hh 7 (Nat.le_of_ble_eq_true rfl) (Nat.le_of_ble_eq_true rfl)) rfl rfl rfl rfl inTX0 (Nat.le_of_ble_eq_true rfl) tw_125 (fun ad => rfl)) ?_
  refine G_st (x_iconst (0 : Int32) dX0_build_30 rfl) ?_
  refine G_bd (fun _ t10 h11 => ?_)
  refine G_st (x_callS [] (c_J7_fill_53178 ids Hn (h, 10) (0 : Int32) (Hh 10 (Nat.le_of_ble_eq_true rfl) (Nat.le_of_ble_eq_true rfl)) rfl _ _ _ h11) dX0_build_31 tw_100 kc_J7_fill_53178 rfl ⟨Nat.le_of_ble_eq_true rfl, Nat.le_of_ble_eq_true rfl⟩ (Nat.le_of_ble_eq_true rfl) rfl) ?_
  refine G_st (x_aload_n dX0_build_34 rfl) ?_
  refine G_st (x_get (k := 6) (aR (h, 11)) dX0_build_35 (Hh 7 (Nat.le_of_ble_eq_true rfl) (Nat.le_of_ble_eq_true rfl)) rfl rfl rfl rfl inTX0 (Nat.le_of_ble_eq_true rfl) tw_129 (fun ad => rfl)) ?_
  refine G_st (x_iconst (0 : Int32) dX0_build_38 rfl) ?_
  refine G_bd (fun _ t13 h14 => ?_)
  refine G_st (x_callS [] (c_J7_fill_53178 ids Hn (h, 11) (0 : Int32) (Hh 11 (Nat.le_of_ble_eq_true rfl) (Nat.le_of_ble_eq_true rfl)) rfl _ _ _ h14) dX0_build_39 tw_100 kc_J7_fill_53178 rfl ⟨Nat.le_of_ble_eq_true rfl, Nat.le_of_ble_eq_true rfl⟩ (Nat.le_of_ble_eq_true rfl) rfl) ?_
  refine G_st (x_aload_n dX0_build_42 rfl) ?_
  refine G_st (x_get (k := 7) (aR (h, 12)) dX0_build_43 (Hh 7 (Nat.le_of_ble_eq_true rfl) (Nat.le_of_ble_eq_true rfl)) rfl rfl rfl rfl inTX0 (Nat.le_of_ble_eq_true rfl) tw_132 (fun ad => rfl)) ?_
  refine G_st (x_iconst (0 : Int32) dX0_build_46 rfl) ?_
  refine G_bd (fun _ t16 h17 => ?_)
  refine G_st (x_callS [] (c_J7_fill_53178 ids Hn (h, 12) (0 : Int32) (Hh 12 (Nat.le_of_ble_eq_true rfl) (Nat.le_of_ble_eq_true rfl)) rfl _ _ _ h17) dX0_build_47 tw_100 kc_J7_fill_53178 rfl ⟨Nat.le_of_ble_eq_true rfl, Nat.le_of_ble_eq_true rfl⟩ (Nat.le_of_ble_eq_true rfl) rfl) ?_
  refine G_st (x_aload_n dX0_build_50 rfl) ?_
  refine G_st (x_get (k := 8) (aR (h, 13)) dX0_build_51 (Hh 7 (Nat.le_of_ble_eq_true rfl) (Nat.le_of_ble_eq_true rfl)) rfl rfl rfl rfl inTX0 (Nat.le_of_ble_eq_true rfl) tw_135 (fun ad => rfl)) ?_
  refine G_st (x_iconst (-1 : Int32) dX0_build_54 rfl) ?_
  refine G_bd (fun _ t19 h20 => ?_)
  refine G_st (x_callS [] (c_J7_fill_53178 ids Hn (h, 13) (-1 : Int32) (Hh 13 (Nat.le_of_ble_eq_true rfl) (Nat.le_of_ble_eq_true rfl)) rfl _ _ _ h20) dX0_build_55 tw_100 kc_J7_fill_53178 rfl ⟨Nat.le_of_ble_eq_true rfl, Nat.le_of_ble_eq_true rfl⟩ (Nat.le_of_ble_eq_true rfl) rfl) ?_
  refine G_st (x_aload_n dX0_build_58 rfl) ?_
  refine G_st (x_get (k := 9) (aR (h, 14)) dX0_build_59 (Hh 7 (Nat.le_of_ble_eq_true rfl) (Nat.le_of_ble_eq_true rfl)) rfl rfl rfl rfl inTX0 (Nat.le_of_ble_eq_true rfl) tw_138 (fun ad => rfl)) ?_
  refine G_st (x_iconst (-1 : Int32) dX0_build_62 rfl) ?_
  refine G_bd (fun _ t22 h23 => ?_)
  refine G_st (x_callS [] (c_J7_fill_53178 ids Hn (h, 14) (-1 : Int32) (Hh 14 (Nat.le_of_ble_eq_true rfl) (Nat.le_of_ble_eq_true rfl)) rfl _ _ _ h23) dX0_build_63 tw_100 kc_J7_fill_53178 rfl ⟨Nat.le_of_ble_eq_true rfl, Nat.le_of_ble_eq_true rfl⟩ (Nat.le_of_ble_eq_true rfl) rfl) ?_
  refine G_st (x_iconst (0 : Int32) dX0_build_66 rfl) ?_
  refine G_st (x_istore_n [some (aR (h, 7)), some (aI v1), some (aI v2), some (aI (0 : Int32)), none] dX0_build_67 (Nat.le_of_ble_eq_true rfl) rfl rfl) ?_
  refine G_weak _ ?_ (g_X0_build_68 ids Hn h Hh fuel v1 v2 (0 : Int32) t22)
  exact (leL_s (leL_s (leL_s (leL_s (leL_n (leL_e _))))))
set_option maxRecDepth 100000 in
set_option maxHeartbeats 4000000 in
theorem c_X0_build (ids : List (Nat × Nat)) (Hn : Ndp ids) (h : Nat) (v1 : Int32) (v2 : Int32) (Hh : InR ids h 7 14) (t0 : Sg) (r : Unit) (t1 : Sg) (hf : f_X0_build h v1 v2 t0 = some (r, t1)) : Mt0 mX0_build yX0_build ids [aR (h, 7), aI v1, aI v2] t0 none t1 :=
  Mt_of (x := (r, t1)) (g_X0_build ids Hn h v1 v2 Hh t0) hf (fun _ _ => trivial) (by decide) rfl Hn (fun _ => rfl) (fun _ => Nat.le_of_ble_eq_true rfl)
theorem dX6_copy_0 : decode cX6_copy 0 = .ok (.aload_n 0, 1) := by decide +kernel
theorem dX6_copy_1 : decode cX6_copy 1 = .ok (.iconst 0, 1) := by decide +kernel
theorem dX6_copy_2 : decode cX6_copy 2 = .ok (.aload_n 1, 1) := by decide +kernel
theorem dX6_copy_3 : decode cX6_copy 3 = .ok (.iconst 0, 1) := by decide +kernel
theorem dX6_copy_4 : decode cX6_copy 4 = .ok (.aload_n 0, 1) := by decide +kernel
theorem dX6_copy_5 : decode cX6_copy 5 = .ok (.arraylength, 1) := by decide +kernel
theorem dX6_copy_6 : decode cX6_copy 6 = .ok (.aload_n 1, 1) := by decide +kernel
theorem dX6_copy_7 : decode cX6_copy 7 = .ok (.arraylength, 1) := by decide +kernel
theorem dX6_copy_8 : decode cX6_copy 8 = .ok (.invokestatic 47, 3) := by decide +kernel
theorem dX6_copy_11 : decode cX6_copy 11 = .ok (.invokestatic 53, 3) := by decide +kernel
theorem dX6_copy_14 : decode cX6_copy 14 = .ok (.return_, 1) := by decide +kernel
set_option maxRecDepth 100000 in
set_option maxHeartbeats 4000000 in
theorem g_X6_copy (ids : List (Nat × Nat)) (Hn : Ndp ids) (i0 : Nat × Nat) (i1 : Nat × Nat) (Ki0 : i0 ∈ ids) (Ni0 : ly_len i0.2 = some (alen i0)) (Ki1 : i1 ∈ ids) (Ni1 : ly_len i1.2 = some (alen i1)) (t0 : Sg) : Gj kV mX6_copy ids 0 [some (aR i0), some (aR i1)] [] t0 (f_X6_copy i0 i1 t0) := by
  unfold f_X6_copy
  refine G_st (x_aload_n dX6_copy_0 rfl) ?_
  refine G_st (x_iconst (0 : Int32) dX6_copy_1 rfl) ?_
  refine G_st (x_aload_n dX6_copy_2 rfl) ?_
  refine G_st (x_iconst (0 : Int32) dX6_copy_3 rfl) ?_
  refine G_st (x_aload_n dX6_copy_4 rfl) ?_
  refine G_st (x_alen (v := (Int32.ofNat (alen i0))) dX6_copy_5 Ki0 Ni0 rfl) ?_
  refine G_st (x_aload_n dX6_copy_6 rfl) ?_
  refine G_st (x_alen (v := (Int32.ofNat (alen i1))) dX6_copy_7 Ki1 Ni1 rfl) ?_
  refine G_st (x_mmin dX6_copy_8 tw_443 tw_444 tw_74 tw_445 ⟨Nat.le_of_ble_eq_true rfl, Nat.le_of_ble_eq_true rfl⟩ (Nat.le_of_ble_eq_true rfl)) ?_
  refine G_chk (fun c1 => ?_)
  refine G_st (x_copy dX6_copy_11 tw_446 tw_448 tw_447 tw_75 Ki0 Ki1 Ni0 Ni1 (by decide) (by decide) c1.1 (cp_le c1.2.1) (cp_le c1.2.2) ⟨Nat.le_of_ble_eq_true rfl, Nat.le_of_ble_eq_true rfl⟩ (Nat.le_of_ble_eq_true rfl)) ?_
  refine G_bvS (fun t2 => ?_)
  exact G_ret rfl ⟨rfl, dX6_copy_14⟩ rfl
set_option maxRecDepth 100000 in
set_option maxHeartbeats 4000000 in
theorem c_X6_copy (ids : List (Nat × Nat)) (Hn : Ndp ids) (i0 : Nat × Nat) (i1 : Nat × Nat) (Ki0 : i0 ∈ ids) (Ni0 : ly_len i0.2 = some (alen i0)) (Ki1 : i1 ∈ ids) (Ni1 : ly_len i1.2 = some (alen i1)) (t0 : Sg) (r : Unit) (t1 : Sg) (hf : f_X6_copy i0 i1 t0 = some (r, t1)) : Mt0 mX6_copy yX6_copy ids [aR i0, aR i1] t0 none t1 :=
  Mt_of (x := (r, t1)) (g_X6_copy ids Hn i0 i1 Ki0 Ni0 Ki1 Ni1 t0) hf (fun _ _ => trivial) (by decide) rfl Hn (fun _ => rfl) (fun _ => Nat.le_of_ble_eq_true rfl)
theorem dX0_copyFrom_0 : decode cX0_copyFrom 0 = .ok (.aload_n 0, 1) := by decide +kernel
theorem dX0_copyFrom_1 : decode cX0_copyFrom 1 = .ok (.aload_n 1, 1) := by decide +kernel
theorem dX0_copyFrom_2 : decode cX0_copyFrom 2 = .ok (.getfield 37, 3) := by decide +kernel
theorem dX0_copyFrom_5 : decode cX0_copyFrom 5 = .ok (.putfield 37, 3) := by decide +kernel
theorem dX0_copyFrom_8 : decode cX0_copyFrom 8 = .ok (.aload_n 0, 1) := by decide +kernel
theorem dX0_copyFrom_9 : decode cX0_copyFrom 9 = .ok (.aload_n 1, 1) := by decide +kernel
theorem dX0_copyFrom_10 : decode cX0_copyFrom 10 = .ok (.getfield 41, 3) := by decide +kernel
theorem dX0_copyFrom_13 : decode cX0_copyFrom 13 = .ok (.putfield 41, 3) := by decide +kernel
theorem dX0_copyFrom_16 : decode cX0_copyFrom 16 = .ok (.aload_n 0, 1) := by decide +kernel
theorem dX0_copyFrom_17 : decode cX0_copyFrom 17 = .ok (.aload_n 1, 1) := by decide +kernel
theorem dX0_copyFrom_18 : decode cX0_copyFrom 18 = .ok (.getfield 53, 3) := by decide +kernel
theorem dX0_copyFrom_21 : decode cX0_copyFrom 21 = .ok (.putfield 53, 3) := by decide +kernel
theorem dX0_copyFrom_24 : decode cX0_copyFrom 24 = .ok (.aload_n 1, 1) := by decide +kernel
theorem dX0_copyFrom_25 : decode cX0_copyFrom 25 = .ok (.getfield 9, 3) := by decide +kernel
theorem dX0_copyFrom_28 : decode cX0_copyFrom 28 = .ok (.aload_n 0, 1) := by decide +kernel
theorem dX0_copyFrom_29 : decode cX0_copyFrom 29 = .ok (.getfield 9, 3) := by decide +kernel
theorem dX0_copyFrom_32 : decode cX0_copyFrom 32 = .ok (.invokestatic 56, 3) := by decide +kernel
theorem dX0_copyFrom_35 : decode cX0_copyFrom 35 = .ok (.aload_n 1, 1) := by decide +kernel
theorem dX0_copyFrom_36 : decode cX0_copyFrom 36 = .ok (.getfield 15, 3) := by decide +kernel
theorem dX0_copyFrom_39 : decode cX0_copyFrom 39 = .ok (.aload_n 0, 1) := by decide +kernel
theorem dX0_copyFrom_40 : decode cX0_copyFrom 40 = .ok (.getfield 15, 3) := by decide +kernel
theorem dX0_copyFrom_43 : decode cX0_copyFrom 43 = .ok (.invokestatic 56, 3) := by decide +kernel
theorem dX0_copyFrom_46 : decode cX0_copyFrom 46 = .ok (.aload_n 1, 1) := by decide +kernel
theorem dX0_copyFrom_47 : decode cX0_copyFrom 47 = .ok (.getfield 18, 3) := by decide +kernel
theorem dX0_copyFrom_50 : decode cX0_copyFrom 50 = .ok (.aload_n 0, 1) := by decide +kernel
theorem dX0_copyFrom_51 : decode cX0_copyFrom 51 = .ok (.getfield 18, 3) := by decide +kernel
theorem dX0_copyFrom_54 : decode cX0_copyFrom 54 = .ok (.invokestatic 56, 3) := by decide +kernel
theorem dX0_copyFrom_57 : decode cX0_copyFrom 57 = .ok (.aload_n 1, 1) := by decide +kernel
theorem dX0_copyFrom_58 : decode cX0_copyFrom 58 = .ok (.getfield 21, 3) := by decide +kernel
theorem dX0_copyFrom_61 : decode cX0_copyFrom 61 = .ok (.aload_n 0, 1) := by decide +kernel
theorem dX0_copyFrom_62 : decode cX0_copyFrom 62 = .ok (.getfield 21, 3) := by decide +kernel
theorem dX0_copyFrom_65 : decode cX0_copyFrom 65 = .ok (.invokestatic 56, 3) := by decide +kernel
theorem dX0_copyFrom_68 : decode cX0_copyFrom 68 = .ok (.aload_n 1, 1) := by decide +kernel
theorem dX0_copyFrom_69 : decode cX0_copyFrom 69 = .ok (.getfield 24, 3) := by decide +kernel
theorem dX0_copyFrom_72 : decode cX0_copyFrom 72 = .ok (.aload_n 0, 1) := by decide +kernel
theorem dX0_copyFrom_73 : decode cX0_copyFrom 73 = .ok (.getfield 24, 3) := by decide +kernel
theorem dX0_copyFrom_76 : decode cX0_copyFrom 76 = .ok (.invokestatic 56, 3) := by decide +kernel
theorem dX0_copyFrom_79 : decode cX0_copyFrom 79 = .ok (.aload_n 1, 1) := by decide +kernel
theorem dX0_copyFrom_80 : decode cX0_copyFrom 80 = .ok (.getfield 27, 3) := by decide +kernel
theorem dX0_copyFrom_83 : decode cX0_copyFrom 83 = .ok (.aload_n 0, 1) := by decide +kernel
theorem dX0_copyFrom_84 : decode cX0_copyFrom 84 = .ok (.getfield 27, 3) := by decide +kernel
theorem dX0_copyFrom_87 : decode cX0_copyFrom 87 = .ok (.invokestatic 56, 3) := by decide +kernel
theorem dX0_copyFrom_90 : decode cX0_copyFrom 90 = .ok (.aload_n 1, 1) := by decide +kernel
theorem dX0_copyFrom_91 : decode cX0_copyFrom 91 = .ok (.getfield 30, 3) := by decide +kernel
theorem dX0_copyFrom_94 : decode cX0_copyFrom 94 = .ok (.aload_n 0, 1) := by decide +kernel
theorem dX0_copyFrom_95 : decode cX0_copyFrom 95 = .ok (.getfield 30, 3) := by decide +kernel
theorem dX0_copyFrom_98 : decode cX0_copyFrom 98 = .ok (.invokestatic 56, 3) := by decide +kernel
theorem dX0_copyFrom_101 : decode cX0_copyFrom 101 = .ok (.return_, 1) := by decide +kernel
set_option maxRecDepth 100000 in
set_option maxHeartbeats 4000000 in
theorem g_X0_copyFrom (ids : List (Nat × Nat)) (Hn : Ndp ids) (h : Nat) (g : Nat) (Hh : InR ids h 7 14) (Hg : InR ids g 7 14) (t0 : Sg) : Gj kV mX0_copyFrom ids 0 [some (aR (h, 7)), some (aR (g, 7))] [] t0 (f_X0_copyFrom h g t0) := by
  unfold f_X0_copyFrom
  refine G_st (x_aload_n dX0_copyFrom_0 rfl) ?_
  refine G_st (x_aload_n dX0_copyFrom_1 rfl) ?_
  refine G_st (x_get (k := 0) (aI (t0 (g, 7) 0)) dX0_copyFrom_2 (Hg 7 (Nat.le_of_ble_eq_true rfl) (Nat.le_of_ble_eq_true rfl)) rfl rfl rfl rfl inTX0 (Nat.le_of_ble_eq_true rfl) tw_110 (fun ad => rfl)) ?_
  refine G_st (x_put (k := 0) (ty := .int) (v := aI (t0 (g, 7) 0)) (z := (t0 (g, 7) 0)) (upS t0 (h, 7) 0 (t0 (g, 7) 0)) dX0_copyFrom_5 (Hh 7 (Nat.le_of_ble_eq_true rfl) (Nat.le_of_ble_eq_true rfl)) rfl rfl rfl rfl inTX0 tyX0_ok nmX0 (Nat.le_of_ble_eq_true rfl) tw_110 rfl rfl (fun ad => rfl) (fun ad => rfl) (fun ad => put_i0 ad _ _ _ _ rfl) rfl) ?_
  refine G_bvS (fun t1 => ?_)
  refine G_st (x_aload_n dX0_copyFrom_8 rfl) ?_
  refine G_st (x_aload_n dX0_copyFrom_9 rfl) ?_
  refine G_st (x_get (k := 1) (aI (t1 (g, 7) 1)) dX0_copyFrom_10 (Hg 7 (Nat.le_of_ble_eq_true rfl) (Nat.le_of_ble_eq_true rfl)) rfl rfl rfl rfl inTX0 (Nat.le_of_ble_eq_true rfl) tw_112 (fun ad => rfl)) ?_
  refine G_st (x_put (k := 1) (ty := .int) (v := aI (t1 (g, 7) 1)) (z := (t1 (g, 7) 1)) (upS t1 (h, 7) 1 (t1 (g, 7) 1)) dX0_copyFrom_13 (Hh 7 (Nat.le_of_ble_eq_true rfl) (Nat.le_of_ble_eq_true rfl)) rfl rfl rfl rfl inTX0 tyX0_ok nmX0 (Nat.le_of_ble_eq_true rfl) tw_112 rfl rfl (fun ad => rfl) (fun ad => rfl) (fun ad => put_i0 ad _ _ _ _ rfl) rfl) ?_
  refine G_bvS (fun t2 => ?_)
  refine G_st (x_aload_n dX0_copyFrom_16 rfl) ?_
  refine G_st (x_aload_n dX0_copyFrom_17 rfl) ?_
  refine G_st (x_get (k := 2) (aI (t2 (g, 7) 2)) dX0_copyFrom_18 (Hg 7 (Nat.le_of_ble_eq_true rfl) (Nat.le_of_ble_eq_true rfl)) rfl rfl rfl rfl inTX0 (Nat.le_of_ble_eq_true rfl) tw_114 (fun ad => rfl)) ?_
  refine G_st (x_put (k := 2) (ty := .int) (v := aI (t2 (g, 7) 2)) (z := (t2 (g, 7) 2)) (upS t2 (h, 7) 2 (t2 (g, 7) 2)) dX0_copyFrom_21 (Hh 7 (Nat.le_of_ble_eq_true rfl) (Nat.le_of_ble_eq_true rfl)) rfl rfl rfl rfl inTX0 tyX0_ok nmX0 (Nat.le_of_ble_eq_true rfl) tw_114 rfl rfl (fun ad => rfl) (fun ad => rfl) (fun ad => put_i0 ad _ _ _ _ rfl) rfl) ?_
  refine G_bvS (fun t3 => ?_)
  refine G_st (x_aload_n dX0_copyFrom_24 rfl) ?_
  refine G_st (x_get (k := 3) (aR (g, 8)) dX0_copyFrom_25 (Hg 7 (Nat.le_of_ble_eq_true rfl) (Nat.le_of_ble_eq_true rfl)) rfl rfl rfl rfl inTX0 (Nat.le_of_ble_eq_true rfl) tw_118 (fun ad => rfl)) ?_
  refine G_st (x_aload_n dX0_copyFrom_28 rfl) ?_
  refine G_st (x_get (k := 3) (aR (h, 8)) dX0_copyFrom_29 (Hh 7 (Nat.le_of_ble_eq_true rfl) (Nat.le_of_ble_eq_true rfl)) rfl rfl rfl rfl inTX0 (Nat.le_of_ble_eq_true rfl) tw_118 (fun ad => rfl)) ?_
  refine G_bd (fun _ t5 h6 => ?_)
  refine G_st (x_callN [] (c_X6_copy ids Hn (g, 8) (h, 8) (Hg 8 (Nat.le_of_ble_eq_true rfl) (Nat.le_of_ble_eq_true rfl)) rfl (Hh 8 (Nat.le_of_ble_eq_true rfl) (Nat.le_of_ble_eq_true rfl)) rfl _ _ _ h6) dX0_copyFrom_32 (List.mem_of_getElem? (i := 10) rfl) kc_X6_copy rfl ⟨Nat.le_of_ble_eq_true rfl, Nat.le_of_ble_eq_true rfl⟩ (Nat.le_of_ble_eq_true rfl) rfl) ?_
  refine G_st (x_aload_n dX0_copyFrom_35 rfl) ?_
  refine G_st (x_get (k := 4) (aR (g, 9)) dX0_copyFrom_36 (Hg 7 (Nat.le_of_ble_eq_true rfl) (Nat.le_of_ble_eq_true rfl)) rfl rfl rfl rfl inTX0 (Nat.le_of_ble_eq_true rfl) tw_121 (fun ad => rfl)) ?_
  refine G_st (x_aload_n dX0_copyFrom_39 rfl) ?_
  refine G_st (x_get (k := 4) (aR (h, 9)) dX0_copyFrom_40 (Hh 7 (Nat.le_of_ble_eq_true rfl) (Nat.le_of_ble_eq_true rfl)) rfl rfl rfl rfl inTX0 (Nat.le_of_ble_eq_true rfl) tw_121 (fun ad => rfl)) ?_
  refine G_bd (fun _ t8 h9 => ?_)
  refine G_st (x_callN [] (c_X6_copy ids Hn (g, 9) (h, 9) (Hg 9 (Nat.le_of_ble_eq_true rfl) (Nat.le_of_ble_eq_true rfl)) rfl (Hh 9 (Nat.le_of_ble_eq_true rfl) (Nat.le_of_ble_eq_true rfl)) rfl _ _ _ h9) dX0_copyFrom_43 (List.mem_of_getElem? (i := 10) rfl) kc_X6_copy rfl ⟨Nat.le_of_ble_eq_true rfl, Nat.le_of_ble_eq_true rfl⟩ (Nat.le_of_ble_eq_true rfl) rfl) ?_
  refine G_st (x_aload_n dX0_copyFrom_46 rfl) ?_
  refine G_st (x_get (k := 5) (aR (g, 10)) dX0_copyFrom_47 (Hg 7 (Nat.le_of_ble_eq_true rfl) (Nat.le_of_ble_eq_true rfl)) rfl rfl rfl rfl inTX0 (Nat.le_of_ble_eq_true rfl) tw_125 (fun ad => rfl)) ?_
  refine G_st (x_aload_n dX0_copyFrom_50 rfl) ?_
  refine G_st (x_get (k := 5) (aR (h, 10)) dX0_copyFrom_51 (Hh 7 (Nat.le_of_ble_eq_true rfl) (Nat.le_of_ble_eq_true rfl)) rfl rfl rfl rfl inTX0 (Nat.le_of_ble_eq_true rfl) tw_125 (fun ad => rfl)) ?_
  refine G_bd (fun _ t11 h12 => ?_)
  refine G_st (x_callN [] (c_X6_copy ids Hn (g, 10) (h, 10) (Hg 10 (Nat.le_of_ble_eq_true rfl) (Nat.le_of_ble_eq_true rfl)) rfl (Hh 10 (Nat.le_of_ble_eq_true rfl) (Nat.le_of_ble_eq_true rfl)) rfl _ _ _ h12) dX0_copyFrom_54 (List.mem_of_getElem? (i := 10) rfl) kc_X6_copy rfl ⟨Nat.le_of_ble_eq_true rfl, Nat.le_of_ble_eq_true rfl⟩ (Nat.le_of_ble_eq_true rfl) rfl) ?_
  refine G_st (x_aload_n dX0_copyFrom_57 rfl) ?_
  refine G_st (x_get (k := 6) (aR (g, 11)) dX0_copyFrom_58 (Hg 7 (Nat.le_of_ble_eq_true rfl) (Nat.le_of_ble_eq_true rfl)) rfl rfl rfl rfl inTX0 (Nat.le_of_ble_eq_true rfl) tw_129 (fun ad => rfl)) ?_
  refine G_st (x_aload_n dX0_copyFrom_61 rfl) ?_
  refine G_st (x_get (k := 6) (aR (h, 11)) dX0_copyFrom_62 (Hh 7 (Nat.le_of_ble_eq_true rfl) (Nat.le_of_ble_eq_true rfl)) rfl rfl rfl rfl inTX0 (Nat.le_of_ble_eq_true rfl) tw_129 (fun ad => rfl)) ?_
  refine G_bd (fun _ t14 h15 => ?_)
  refine G_st (x_callN [] (c_X6_copy ids Hn (g, 11) (h, 11) (Hg 11 (Nat.le_of_ble_eq_true rfl) (Nat.le_of_ble_eq_true rfl)) rfl (Hh 11 (Nat.le_of_ble_eq_true rfl) (Nat.le_of_ble_eq_true rfl)) rfl _ _ _ h15) dX0_copyFrom_65 (List.mem_of_getElem? (i := 10) rfl) kc_X6_copy rfl ⟨Nat.le_of_ble_eq_true rfl, Nat.le_of_ble_eq_true rfl⟩ (Nat.le_of_ble_eq_true rfl) rfl) ?_
  refine G_st (x_aload_n dX0_copyFrom_68 rfl) ?_
  refine G_st (x_get (k := 7) (aR (g, 12)) dX0_copyFrom_69 (Hg 7 (Nat.le_of_ble_eq_true rfl) (Nat.le_of_ble_eq_true rfl)) rfl rfl rfl rfl inTX0 (Nat.le_of_ble_eq_true rfl) tw_132 (fun ad => rfl)) ?_
  refine G_st (x_aload_n dX0_copyFrom_72 rfl) ?_
  refine G_st (x_get (k := 7) (aR (h, 12)) dX0_copyFrom_73 (Hh 7 (Nat.le_of_ble_eq_true rfl) (Nat.le_of_ble_eq_true rfl)) rfl rfl rfl rfl inTX0 (Nat.le_of_ble_eq_true rfl) tw_132 (fun ad => rfl)) ?_
  refine G_bd (fun _ t17 h18 => ?_)
  refine G_st (x_callN [] (c_X6_copy ids Hn (g, 12) (h, 12) (Hg 12 (Nat.le_of_ble_eq_true rfl) (Nat.le_of_ble_eq_true rfl)) rfl (Hh 12 (Nat.le_of_ble_eq_true rfl) (Nat.le_of_ble_eq_true rfl)) rfl _ _ _ h18) dX0_copyFrom_76 (List.mem_of_getElem? (i := 10) rfl) kc_X6_copy rfl ⟨Nat.le_of_ble_eq_true rfl, Nat.le_of_ble_eq_true rfl⟩ (Nat.le_of_ble_eq_true rfl) rfl) ?_
  refine G_st (x_aload_n dX0_copyFrom_79 rfl) ?_
  refine G_st (x_get (k := 8) (aR (g, 13)) dX0_copyFrom_80 (Hg 7 (Nat.le_of_ble_eq_true rfl) (Nat.le_of_ble_eq_true rfl)) rfl rfl rfl rfl inTX0 (Nat.le_of_ble_eq_true rfl) tw_135 (fun ad => rfl)) ?_
  refine G_st (x_aload_n dX0_copyFrom_83 rfl) ?_
  refine G_st (x_get (k := 8) (aR (h, 13)) dX0_copyFrom_84 (Hh 7 (Nat.le_of_ble_eq_true rfl) (Nat.le_of_ble_eq_true rfl)) rfl rfl rfl rfl inTX0 (Nat.le_of_ble_eq_true rfl) tw_135 (fun ad => rfl)) ?_
  refine G_bd (fun _ t20 h21 => ?_)
  refine G_st (x_callN [] (c_X6_copy ids Hn (g, 13) (h, 13) (Hg 13 (Nat.le_of_ble_eq_true rfl) (Nat.le_of_ble_eq_true rfl)) rfl (Hh 13 (Nat.le_of_ble_eq_true rfl) (Nat.le_of_ble_eq_true rfl)) rfl _ _ _ h21) dX0_copyFrom_87 (List.mem_of_getElem? (i := 10) rfl) kc_X6_copy rfl ⟨Nat.le_of_ble_eq_true rfl, Nat.le_of_ble_eq_true rfl⟩ (Nat.le_of_ble_eq_true rfl) rfl) ?_
  refine G_st (x_aload_n dX0_copyFrom_90 rfl) ?_
  refine G_st (x_get (k := 9) (aR (g, 14)) dX0_copyFrom_91 (Hg 7 (Nat.le_of_ble_eq_true rfl) (Nat.le_of_ble_eq_true rfl)) rfl rfl rfl rfl inTX0 (Nat.le_of_ble_eq_true rfl) tw_138 (fun ad => rfl)) ?_
  refine G_st (x_aload_n dX0_copyFrom_94 rfl) ?_
  refine G_st (x_get (k := 9) (aR (h, 14)) dX0_copyFrom_95 (Hh 7 (Nat.le_of_ble_eq_true rfl) (Nat.le_of_ble_eq_true rfl)) rfl rfl rfl rfl inTX0 (Nat.le_of_ble_eq_true rfl) tw_138 (fun ad => rfl)) ?_
  refine G_bd (fun _ t23 h24 => ?_)
  refine G_st (x_callN [] (c_X6_copy ids Hn (g, 14) (h, 14) (Hg 14 (Nat.le_of_ble_eq_true rfl) (Nat.le_of_ble_eq_true rfl)) rfl (Hh 14 (Nat.le_of_ble_eq_true rfl) (Nat.le_of_ble_eq_true rfl)) rfl _ _ _ h24) dX0_copyFrom_98 (List.mem_of_getElem? (i := 10) rfl) kc_X6_copy rfl ⟨Nat.le_of_ble_eq_true rfl, Nat.le_of_ble_eq_true rfl⟩ (Nat.le_of_ble_eq_true rfl) rfl) ?_
  exact G_ret rfl ⟨rfl, dX0_copyFrom_101⟩ rfl
set_option maxRecDepth 100000 in
set_option maxHeartbeats 4000000 in
theorem c_X0_copyFrom (ids : List (Nat × Nat)) (Hn : Ndp ids) (h : Nat) (g : Nat) (Hh : InR ids h 7 14) (Hg : InR ids g 7 14) (t0 : Sg) (r : Unit) (t1 : Sg) (hf : f_X0_copyFrom h g t0 = some (r, t1)) : Mt0 mX0_copyFrom yX0_copyFrom ids [aR (h, 7), aR (g, 7)] t0 none t1 :=
  Mt_of (x := (r, t1)) (g_X0_copyFrom ids Hn h g Hh Hg t0) hf (fun _ _ => trivial) (by decide) rfl Hn (fun _ => rfl) (fun _ => Nat.le_of_ble_eq_true rfl)
theorem dX0_tenants_0 : decode cX0_tenants 0 = .ok (.aload_n 0, 1) := by decide +kernel
theorem dX0_tenants_1 : decode cX0_tenants 1 = .ok (.getfield 37, 3) := by decide +kernel
theorem dX0_tenants_4 : decode cX0_tenants 4 = .ok (.aload_n 0, 1) := by decide +kernel
theorem dX0_tenants_5 : decode cX0_tenants 5 = .ok (.getfield 41, 3) := by decide +kernel
theorem dX0_tenants_8 : decode cX0_tenants 8 = .ok (.imul, 1) := by decide +kernel
theorem dX0_tenants_9 : decode cX0_tenants 9 = .ok (.ireturn, 1) := by decide +kernel
set_option maxRecDepth 100000 in
set_option maxHeartbeats 4000000 in
theorem g_X0_tenants (ids : List (Nat × Nat)) (Hn : Ndp ids) (h : Nat) (Hh : InR ids h 7 14) (t0 : Sg) : Gj kI mX0_tenants ids 0 [some (aR (h, 7))] [] t0 (f_X0_tenants h t0) := by
  unfold f_X0_tenants
  refine G_st (x_aload_n dX0_tenants_0 rfl) ?_
  refine G_st (x_get (k := 0) (aI (t0 (h, 7) 0)) dX0_tenants_1 (Hh 7 (Nat.le_of_ble_eq_true rfl) (Nat.le_of_ble_eq_true rfl)) rfl rfl rfl rfl inTX0 (Nat.le_of_ble_eq_true rfl) tw_110 (fun ad => rfl)) ?_
  refine G_st (x_aload_n dX0_tenants_4 rfl) ?_
  refine G_st (x_get (k := 1) (aI (t0 (h, 7) 1)) dX0_tenants_5 (Hh 7 (Nat.le_of_ble_eq_true rfl) (Nat.le_of_ble_eq_true rfl)) rfl rfl rfl rfl inTX0 (Nat.le_of_ble_eq_true rfl) tw_112 (fun ad => rfl)) ?_
  refine G_st (x_imul dX0_tenants_8) ?_
  exact G_ret rfl ⟨dX0_tenants_9, _, rfl, rfl⟩ rfl
set_option maxRecDepth 100000 in
set_option maxHeartbeats 4000000 in
theorem c_X0_tenants (ids : List (Nat × Nat)) (Hn : Ndp ids) (h : Nat) (Hh : InR ids h 7 14) (t0 : Sg) (r : Int32) (t1 : Sg) (hf : f_X0_tenants h t0 = some (r, t1)) : Mt0 mX0_tenants yX0_tenants ids [aR (h, 7)] t0 (some (aI r)) t1 :=
  Mt_of (x := (r, t1)) (g_X0_tenants ids Hn h Hh t0) hf (fun _ _ => trivial) (by decide) rfl Hn (fun _ => rfl) (fun _ => Nat.le_of_ble_eq_true rfl)
theorem dX0_place_0 : decode cX0_place 0 = .ok (.iload_n 1, 1) := by decide +kernel
theorem dX0_place_1 : decode cX0_place 1 = .ok (.ifCond .lt 27, 3) := by decide +kernel
theorem dX0_place_4 : decode cX0_place 4 = .ok (.iload_n 1, 1) := by decide +kernel
theorem dX0_place_5 : decode cX0_place 5 = .ok (.aload_n 0, 1) := by decide +kernel
theorem dX0_place_6 : decode cX0_place 6 = .ok (.getfield 37, 3) := by decide +kernel
theorem dX0_place_9 : decode cX0_place 9 = .ok (.if_icmp .ge 19, 3) := by decide +kernel
theorem dX0_place_12 : decode cX0_place 12 = .ok (.iload_n 2, 1) := by decide +kernel
theorem dX0_place_13 : decode cX0_place 13 = .ok (.ifCond .lt 15, 3) := by decide +kernel
theorem dX0_place_16 : decode cX0_place 16 = .ok (.iload_n 2, 1) := by decide +kernel
theorem dX0_place_17 : decode cX0_place 17 = .ok (.aload_n 0, 1) := by decide +kernel
theorem dX0_place_18 : decode cX0_place 18 = .ok (.getfield 41, 3) := by decide +kernel
theorem dX0_place_21 : decode cX0_place 21 = .ok (.if_icmp .ge 7, 3) := by decide +kernel
theorem dX0_place_24 : decode cX0_place 24 = .ok (.iconst 1, 1) := by decide +kernel
theorem dX0_place_25 : decode cX0_place 25 = .ok (.goto 4, 3) := by decide +kernel
theorem dX0_place_28 : decode cX0_place 28 = .ok (.iconst 0, 1) := by decide +kernel
theorem dX0_place_29 : decode cX0_place 29 = .ok (.istore_n 3, 1) := by decide +kernel
theorem dX0_place_30 : decode cX0_place 30 = .ok (.iload_n 3, 1) := by decide +kernel
theorem dX0_place_31 : decode cX0_place 31 = .ok (.ifCond .eq 11, 3) := by decide +kernel
theorem dX0_place_34 : decode cX0_place 34 = .ok (.iload_n 1, 1) := by decide +kernel
theorem dX0_place_35 : decode cX0_place 35 = .ok (.iconst 4, 1) := by decide +kernel
theorem dX0_place_36 : decode cX0_place 36 = .ok (.imul, 1) := by decide +kernel
theorem dX0_place_37 : decode cX0_place 37 = .ok (.iload_n 2, 1) := by decide +kernel
theorem dX0_place_38 : decode cX0_place 38 = .ok (.iadd, 1) := by decide +kernel
theorem dX0_place_39 : decode cX0_place 39 = .ok (.goto 4, 3) := by decide +kernel
theorem dX0_place_42 : decode cX0_place 42 = .ok (.iconst (-1), 1) := by decide +kernel
theorem dX0_place_43 : decode cX0_place 43 = .ok (.ireturn, 1) := by decide +kernel
set_option maxRecDepth 100000 in
set_option maxHeartbeats 4000000 in
theorem g_X0_place (ids : List (Nat × Nat)) (Hn : Ndp ids) (h : Nat) (v1 : Int32) (v2 : Int32) (Hh : InR ids h 7 14) (t0 : Sg) : Gj kI mX0_place ids 0 [some (aR (h, 7)), some (aI v1), some (aI v2), none] [] t0 (f_X0_place h v1 v2 t0) := by
  unfold f_X0_place
  refine G_st (x_iload_n dX0_place_0 rfl) ?_
  have e5 : Tj mX0_place ids 1 [some (aR (h, 7)), some (aI v1), some (aI v2), none] [aI v1] t0 29 [some (aR (h, 7)), some (aI v1), some (aI v2), none] [aI (if v1 < 0 then (0 : Int32) else (if (t0 (h, 7) 0) ≤ v1 then (0 : Int32) else (if v2 < 0 then (0 : Int32) else (if (t0 (h, 7) 1) ≤ v2 then (0 : Int32) else (1 : Int32)))))] t0 := by
    refine Tj.dia (fun c1 => ?_) (fun c1 => ?_)
    · refine Tj.tr (x_if_lt_t (tgt := 28) dX0_place_1 (by decide) c1) ?_
      refine Tj.tr (x_iconst (0 : Int32) dX0_place_28 rfl) ?_
      exact Tj.rf
    · refine Tj.tr (x_if_lt_f 28 dX0_place_1 (by decide) c1) ?_
      refine Tj.tr (x_iload_n dX0_place_4 rfl) ?_
      refine Tj.tr (x_aload_n dX0_place_5 rfl) ?_
      refine Tj.tr (x_get (k := 0) (aI (t0 (h, 7) 0)) dX0_place_6 (Hh 7 (Nat.le_of_ble_eq_true rfl) (Nat.le_of_ble_eq_true rfl)) rfl rfl rfl rfl inTX0 (Nat.le_of_ble_eq_true rfl) tw_110 (fun ad => rfl)) ?_
      refine Tj.dia (fun c2 => ?_) (fun c2 => ?_)
      · refine Tj.tr (x_icmp_ge_t (tgt := 28) dX0_place_9 (by decide) c2) ?_
        refine Tj.tr (x_iconst (0 : Int32) dX0_place_28 rfl) ?_
        exact Tj.rf
      · refine Tj.tr (x_icmp_ge_f 28 dX0_place_9 (by decide) c2) ?_
        refine Tj.tr (x_iload_n dX0_place_12 rfl) ?_
        refine Tj.dia (fun c3 => ?_) (fun c3 => ?_)
        · refine Tj.tr (x_if_lt_t (tgt := 28) dX0_place_13 (by decide) c3) ?_
          refine Tj.tr (x_iconst (0 : Int32) dX0_place_28 rfl) ?_
          exact Tj.rf
        · refine Tj.tr (x_if_lt_f 28 dX0_place_13 (by decide) c3) ?_
          refine Tj.tr (x_iload_n dX0_place_16 rfl) ?_
          refine Tj.tr (x_aload_n dX0_place_17 rfl) ?_
          refine Tj.tr (x_get (k := 1) (aI (t0 (h, 7) 1)) dX0_place_18 (Hh 7 (Nat.le_of_ble_eq_true rfl) (Nat.le_of_ble_eq_true rfl)) rfl rfl rfl rfl inTX0 (Nat.le_of_ble_eq_true rfl) tw_112 (fun ad => rfl)) ?_
          refine Tj.dia (fun c4 => ?_) (fun c4 => ?_)
          · refine Tj.tr (x_icmp_ge_t (tgt := 28) dX0_place_21 (by decide) c4) ?_
            refine Tj.tr (x_iconst (0 : Int32) dX0_place_28 rfl) ?_
            exact Tj.rf
          · refine Tj.tr (x_icmp_ge_f 28 dX0_place_21 (by decide) c4) ?_
            refine Tj.tr (x_iconst (1 : Int32) dX0_place_24 rfl) ?_
            refine Tj.tr (x_goto (tgt := 29) dX0_place_25 (by decide)) ?_
            exact Tj.rf
  refine G_st e5 ?_
  refine G_bvI (fun x6 => ?_)
  refine G_st (x_istore_n [some (aR (h, 7)), some (aI v1), some (aI v2), some (aI x6)] dX0_place_29 (Nat.le_of_ble_eq_true rfl) rfl rfl) ?_
  refine G_st (x_iload_n dX0_place_30 rfl) ?_
  have e8 : Tj mX0_place ids 31 [some (aR (h, 7)), some (aI v1), some (aI v2), some (aI x6)] [aI x6] t0 43 [some (aR (h, 7)), some (aI v1), some (aI v2), some (aI x6)] [aI (if x6 = 0 then (-1 : Int32) else ((v1 * (4 : Int32)) + v2))] t0 := by
    refine Tj.dia (fun c7 => ?_) (fun c7 => ?_)
    · refine Tj.tr (x_if_eq_t (tgt := 42) dX0_place_31 (by decide) c7) ?_
      refine Tj.tr (x_iconst (-1 : Int32) dX0_place_42 rfl) ?_
      exact Tj.rf
    · refine Tj.tr (x_if_eq_f 42 dX0_place_31 (by decide) c7) ?_
      refine Tj.tr (x_iload_n dX0_place_34 rfl) ?_
      refine Tj.tr (x_iconst (4 : Int32) dX0_place_35 rfl) ?_
      refine Tj.tr (x_imul dX0_place_36) ?_
      refine Tj.tr (x_iload_n dX0_place_37 rfl) ?_
      refine Tj.tr (x_iadd dX0_place_38) ?_
      refine Tj.tr (x_goto (tgt := 43) dX0_place_39 (by decide)) ?_
      exact Tj.rf
  refine G_st e8 ?_
  exact G_ret rfl ⟨dX0_place_43, _, rfl, rfl⟩ rfl
set_option maxRecDepth 100000 in
set_option maxHeartbeats 4000000 in
theorem c_X0_place (ids : List (Nat × Nat)) (Hn : Ndp ids) (h : Nat) (v1 : Int32) (v2 : Int32) (Hh : InR ids h 7 14) (t0 : Sg) (r : Int32) (t1 : Sg) (hf : f_X0_place h v1 v2 t0 = some (r, t1)) : Mt0 mX0_place yX0_place ids [aR (h, 7), aI v1, aI v2] t0 (some (aI r)) t1 :=
  Mt_of (x := (r, t1)) (g_X0_place ids Hn h v1 v2 Hh t0) hf (fun _ _ => trivial) (by decide) rfl Hn (fun _ => rfl) (fun _ => Nat.le_of_ble_eq_true rfl)
theorem dX0_placeOf_0 : decode cX0_placeOf 0 = .ok (.iload_n 1, 1) := by decide +kernel
theorem dX0_placeOf_1 : decode cX0_placeOf 1 = .ok (.ifCond .ge 7, 3) := by decide +kernel
theorem dX0_placeOf_4 : decode cX0_placeOf 4 = .ok (.iconst (-1), 1) := by decide +kernel
theorem dX0_placeOf_5 : decode cX0_placeOf 5 = .ok (.goto 15, 3) := by decide +kernel
theorem dX0_placeOf_8 : decode cX0_placeOf 8 = .ok (.aload_n 0, 1) := by decide +kernel
theorem dX0_placeOf_9 : decode cX0_placeOf 9 = .ok (.iload_n 1, 1) := by decide +kernel
theorem dX0_placeOf_10 : decode cX0_placeOf 10 = .ok (.bipush 10, 2) := by decide +kernel
theorem dX0_placeOf_12 : decode cX0_placeOf 12 = .ok (.idiv, 1) := by decide +kernel
theorem dX0_placeOf_13 : decode cX0_placeOf 13 = .ok (.iload_n 1, 1) := by decide +kernel
theorem dX0_placeOf_14 : decode cX0_placeOf 14 = .ok (.bipush 10, 2) := by decide +kernel
theorem dX0_placeOf_16 : decode cX0_placeOf 16 = .ok (.irem, 1) := by decide +kernel
theorem dX0_placeOf_17 : decode cX0_placeOf 17 = .ok (.invokevirtual 60, 3) := by decide +kernel
theorem dX0_placeOf_20 : decode cX0_placeOf 20 = .ok (.ireturn, 1) := by decide +kernel
set_option maxRecDepth 100000 in
set_option maxHeartbeats 4000000 in
theorem g_X0_placeOf (ids : List (Nat × Nat)) (Hn : Ndp ids) (h : Nat) (v1 : Int32) (Hh : InR ids h 7 14) (t0 : Sg) : Gj kI mX0_placeOf ids 0 [some (aR (h, 7)), some (aI v1)] [] t0 (f_X0_placeOf h v1 t0) := by
  unfold f_X0_placeOf
  refine G_st (x_iload_n dX0_placeOf_0 rfl) ?_
  refine G_ite (fun c1 => ?_) (fun c1 => ?_)
  · refine G_st (x_if_ge_t (tgt := 8) dX0_placeOf_1 (by decide) c1) ?_
    refine G_st (x_aload_n dX0_placeOf_8 rfl) ?_
    refine G_st (x_iload_n dX0_placeOf_9 rfl) ?_
    refine G_st (x_bipush (10 : Int32) dX0_placeOf_10 rfl) ?_
    refine G_st (x_idiv dX0_placeOf_12 (by decide)) ?_
    refine G_st (x_iload_n dX0_placeOf_13 rfl) ?_
    refine G_st (x_bipush (10 : Int32) dX0_placeOf_14 rfl) ?_
    refine G_st (x_irem dX0_placeOf_16 (by decide)) ?_
    refine G_bd (fun x2 t3 h4 => ?_)
    refine G_st (x_callV [] (c_X0_place ids Hn h (v1 / (10 : Int32)) (v1 - v1 / (10 : Int32) * (10 : Int32)) Hh _ _ _ h4) dX0_placeOf_17 tw_525 kc_X0_place (Hh 7 (Nat.le_of_ble_eq_true rfl) (Nat.le_of_ble_eq_true rfl)) rfl rfl rfl rfl ⟨Nat.le_of_ble_eq_true rfl, Nat.le_of_ble_eq_true rfl⟩ (Nat.le_of_ble_eq_true rfl) rfl) ?_
    exact G_ret rfl ⟨dX0_placeOf_20, _, rfl, rfl⟩ rfl
  · refine G_st (x_if_ge_f 8 dX0_placeOf_1 (by decide) c1) ?_
    refine G_st (x_iconst (-1 : Int32) dX0_placeOf_4 rfl) ?_
    refine G_st (x_goto (tgt := 20) dX0_placeOf_5 (by decide)) ?_
    exact G_ret rfl ⟨dX0_placeOf_20, _, rfl, rfl⟩ rfl
set_option maxRecDepth 100000 in
set_option maxHeartbeats 4000000 in
theorem c_X0_placeOf (ids : List (Nat × Nat)) (Hn : Ndp ids) (h : Nat) (v1 : Int32) (Hh : InR ids h 7 14) (t0 : Sg) (r : Int32) (t1 : Sg) (hf : f_X0_placeOf h v1 t0 = some (r, t1)) : Mt0 mX0_placeOf yX0_placeOf ids [aR (h, 7), aI v1] t0 (some (aI r)) t1 :=
  Mt_of (x := (r, t1)) (g_X0_placeOf ids Hn h v1 Hh t0) hf (fun _ _ => trivial) (by decide) rfl Hn (fun _ => rfl) (fun _ => Nat.le_of_ble_eq_true rfl)
theorem dX0_flatAt_0 : decode cX0_flatAt 0 = .ok (.iload_n 0, 1) := by decide +kernel
theorem dX0_flatAt_1 : decode cX0_flatAt 1 = .ok (.iconst 4, 1) := by decide +kernel
theorem dX0_flatAt_2 : decode cX0_flatAt 2 = .ok (.idiv, 1) := by decide +kernel
theorem dX0_flatAt_3 : decode cX0_flatAt 3 = .ok (.bipush 10, 2) := by decide +kernel
theorem dX0_flatAt_5 : decode cX0_flatAt 5 = .ok (.imul, 1) := by decide +kernel
theorem dX0_flatAt_6 : decode cX0_flatAt 6 = .ok (.iload_n 0, 1) := by decide +kernel
theorem dX0_flatAt_7 : decode cX0_flatAt 7 = .ok (.iconst 4, 1) := by decide +kernel
theorem dX0_flatAt_8 : decode cX0_flatAt 8 = .ok (.irem, 1) := by decide +kernel
theorem dX0_flatAt_9 : decode cX0_flatAt 9 = .ok (.iadd, 1) := by decide +kernel
theorem dX0_flatAt_10 : decode cX0_flatAt 10 = .ok (.ireturn, 1) := by decide +kernel
set_option maxRecDepth 100000 in
set_option maxHeartbeats 4000000 in
theorem g_X0_flatAt (ids : List (Nat × Nat)) (Hn : Ndp ids) (v0 : Int32)  (t0 : Sg) : Gj kI mX0_flatAt ids 0 [some (aI v0)] [] t0 (f_X0_flatAt v0 t0) := by
  unfold f_X0_flatAt
  refine G_st (x_iload_n dX0_flatAt_0 rfl) ?_
  refine G_st (x_iconst (4 : Int32) dX0_flatAt_1 rfl) ?_
  refine G_st (x_idiv dX0_flatAt_2 (by decide)) ?_
  refine G_st (x_bipush (10 : Int32) dX0_flatAt_3 rfl) ?_
  refine G_st (x_imul dX0_flatAt_5) ?_
  refine G_st (x_iload_n dX0_flatAt_6 rfl) ?_
  refine G_st (x_iconst (4 : Int32) dX0_flatAt_7 rfl) ?_
  refine G_st (x_irem dX0_flatAt_8 (by decide)) ?_
  refine G_st (x_iadd dX0_flatAt_9) ?_
  exact G_ret rfl ⟨dX0_flatAt_10, _, rfl, rfl⟩ rfl
set_option maxRecDepth 100000 in
set_option maxHeartbeats 4000000 in
theorem c_X0_flatAt (ids : List (Nat × Nat)) (Hn : Ndp ids) (v0 : Int32)  (t0 : Sg) (r : Int32) (t1 : Sg) (hf : f_X0_flatAt v0 t0 = some (r, t1)) : Mt0 mX0_flatAt yX0_flatAt ids [aI v0] t0 (some (aI r)) t1 :=
  Mt_of (x := (r, t1)) (g_X0_flatAt ids Hn v0  t0) hf (fun _ _ => trivial) (by decide) rfl Hn (fun _ => rfl) (fun _ => Nat.le_of_ble_eq_true rfl)
theorem dX6_get_0 : decode cX6_get 0 = .ok (.iload_n 1, 1) := by decide +kernel
theorem dX6_get_1 : decode cX6_get 1 = .ok (.ifCond .lt 15, 3) := by decide +kernel
theorem dX6_get_4 : decode cX6_get 4 = .ok (.iload_n 1, 1) := by decide +kernel
theorem dX6_get_5 : decode cX6_get 5 = .ok (.aload_n 0, 1) := by decide +kernel
theorem dX6_get_6 : decode cX6_get 6 = .ok (.arraylength, 1) := by decide +kernel
theorem dX6_get_7 : decode cX6_get 7 = .ok (.if_icmp .ge 9, 3) := by decide +kernel
theorem dX6_get_10 : decode cX6_get 10 = .ok (.aload_n 0, 1) := by decide +kernel
theorem dX6_get_11 : decode cX6_get 11 = .ok (.iload_n 1, 1) := by decide +kernel
theorem dX6_get_12 : decode cX6_get 12 = .ok (.iaload, 1) := by decide +kernel
theorem dX6_get_13 : decode cX6_get 13 = .ok (.goto 4, 3) := by decide +kernel
theorem dX6_get_16 : decode cX6_get 16 = .ok (.iconst 0, 1) := by decide +kernel
theorem dX6_get_17 : decode cX6_get 17 = .ok (.ireturn, 1) := by decide +kernel
set_option maxRecDepth 100000 in
set_option maxHeartbeats 4000000 in
theorem g_X6_get (ids : List (Nat × Nat)) (Hn : Ndp ids) (i0 : Nat × Nat) (v1 : Int32) (Ki0 : i0 ∈ ids) (Ni0 : ly_len i0.2 = some (alen i0)) (t0 : Sg) : Gj kI mX6_get ids 0 [some (aR i0), some (aI v1)] [] t0 (f_X6_get i0 v1 t0) := by
  unfold f_X6_get
  refine G_st (x_iload_n dX6_get_0 rfl) ?_
  refine G_ite (fun c1 => ?_) (fun c1 => ?_)
  · refine G_st (x_if_lt_t (tgt := 16) dX6_get_1 (by decide) c1) ?_
    refine G_st (x_iconst (0 : Int32) dX6_get_16 rfl) ?_
    exact G_ret rfl ⟨dX6_get_17, _, rfl, rfl⟩ rfl
  · refine G_st (x_if_lt_f 16 dX6_get_1 (by decide) c1) ?_
    refine G_st (x_iload_n dX6_get_4 rfl) ?_
    refine G_st (x_aload_n dX6_get_5 rfl) ?_
    refine G_st (x_alen (v := (Int32.ofNat (alen i0))) dX6_get_6 Ki0 Ni0 rfl) ?_
    refine G_ite (fun c2 => ?_) (fun c2 => ?_)
    · refine G_st (x_icmp_ge_t (tgt := 16) dX6_get_7 (by decide) c2) ?_
      refine G_st (x_iconst (0 : Int32) dX6_get_16 rfl) ?_
      exact G_ret rfl ⟨dX6_get_17, _, rfl, rfl⟩ rfl
    · refine G_st (x_icmp_ge_f 16 dX6_get_7 (by decide) c2) ?_
      refine G_st (x_aload_n dX6_get_10 rfl) ?_
      refine G_st (x_iload_n dX6_get_11 rfl) ?_
      refine G_chk (fun c3 => ?_)
      refine G_st (x_iaload dX6_get_12 Ki0 Ni0 c3) ?_
      refine G_st (x_goto (tgt := 17) dX6_get_13 (by decide)) ?_
      exact G_ret rfl ⟨dX6_get_17, _, rfl, rfl⟩ rfl
set_option maxRecDepth 100000 in
set_option maxHeartbeats 4000000 in
theorem c_X6_get (ids : List (Nat × Nat)) (Hn : Ndp ids) (i0 : Nat × Nat) (v1 : Int32) (Ki0 : i0 ∈ ids) (Ni0 : ly_len i0.2 = some (alen i0)) (t0 : Sg) (r : Int32) (t1 : Sg) (hf : f_X6_get i0 v1 t0 = some (r, t1)) : Mt0 mX6_get yX6_get ids [aR i0, aI v1] t0 (some (aI r)) t1 :=
  Mt_of (x := (r, t1)) (g_X6_get ids Hn i0 v1 Ki0 Ni0 t0) hf (fun _ _ => trivial) (by decide) rfl Hn (fun _ => rfl) (fun _ => Nat.le_of_ble_eq_true rfl)
theorem dX0_change_0 : decode cX0_change 0 = .ok (.aload_n 0, 1) := by decide +kernel
theorem dX0_change_1 : decode cX0_change 1 = .ok (.getfield 30, 3) := by decide +kernel
theorem dX0_change_4 : decode cX0_change 4 = .ok (.iload_n 1, 1) := by decide +kernel
theorem dX0_change_5 : decode cX0_change 5 = .ok (.invokestatic 68, 3) := by decide +kernel
theorem dX0_change_8 : decode cX0_change 8 = .ok (.istore_n 3, 1) := by decide +kernel
theorem dX0_change_9 : decode cX0_change 9 = .ok (.aload_n 0, 1) := by decide +kernel
theorem dX0_change_10 : decode cX0_change 10 = .ok (.iload_n 1, 1) := by decide +kernel
theorem dX0_change_11 : decode cX0_change 11 = .ok (.aload_n 0, 1) := by decide +kernel
theorem dX0_change_12 : decode cX0_change 12 = .ok (.getfield 30, 3) := by decide +kernel
theorem dX0_change_15 : decode cX0_change 15 = .ok (.iload_n 2, 1) := by decide +kernel
theorem dX0_change_16 : decode cX0_change 16 = .ok (.invokestatic 68, 3) := by decide +kernel
theorem dX0_change_19 : decode cX0_change 19 = .ok (.invokevirtual 50, 3) := by decide +kernel
theorem dX0_change_22 : decode cX0_change 22 = .ok (.aload_n 0, 1) := by decide +kernel
theorem dX0_change_23 : decode cX0_change 23 = .ok (.iload_n 2, 1) := by decide +kernel
theorem dX0_change_24 : decode cX0_change 24 = .ok (.iload_n 3, 1) := by decide +kernel
theorem dX0_change_25 : decode cX0_change 25 = .ok (.invokevirtual 50, 3) := by decide +kernel
theorem dX0_change_28 : decode cX0_change 28 = .ok (.return_, 1) := by decide +kernel
set_option maxRecDepth 100000 in
set_option maxHeartbeats 4000000 in
theorem g_X0_change (ids : List (Nat × Nat)) (Hn : Ndp ids) (h : Nat) (v1 : Int32) (v2 : Int32) (Hh : InR ids h 7 14) (t0 : Sg) : Gj kV mX0_change ids 0 [some (aR (h, 7)), some (aI v1), some (aI v2), none] [] t0 (f_X0_change h v1 v2 t0) := by
  unfold f_X0_change
  refine G_st (x_aload_n dX0_change_0 rfl) ?_
  refine G_st (x_get (k := 9) (aR (h, 14)) dX0_change_1 (Hh 7 (Nat.le_of_ble_eq_true rfl) (Nat.le_of_ble_eq_true rfl)) rfl rfl rfl rfl inTX0 (Nat.le_of_ble_eq_true rfl) tw_138 (fun ad => rfl)) ?_
  refine G_st (x_iload_n dX0_change_4 rfl) ?_
  refine G_bd (fun x1 t2 h3 => ?_)
  refine G_st (x_callN [] (c_X6_get ids Hn (h, 14) v1 (Hh 14 (Nat.le_of_ble_eq_true rfl) (Nat.le_of_ble_eq_true rfl)) rfl _ _ _ h3) dX0_change_5 (List.mem_of_getElem? (i := 14) rfl) kc_X6_get rfl ⟨Nat.le_of_ble_eq_true rfl, Nat.le_of_ble_eq_true rfl⟩ (Nat.le_of_ble_eq_true rfl) rfl) ?_
  refine G_st (x_istore_n [some (aR (h, 7)), some (aI v1), some (aI v2), some (aI x1)] dX0_change_8 (Nat.le_of_ble_eq_true rfl) rfl rfl) ?_
  refine G_st (x_aload_n dX0_change_9 rfl) ?_
  refine G_st (x_iload_n dX0_change_10 rfl) ?_
  refine G_st (x_aload_n dX0_change_11 rfl) ?_
  refine G_st (x_get (k := 9) (aR (h, 14)) dX0_change_12 (Hh 7 (Nat.le_of_ble_eq_true rfl) (Nat.le_of_ble_eq_true rfl)) rfl rfl rfl rfl inTX0 (Nat.le_of_ble_eq_true rfl) tw_138 (fun ad => rfl)) ?_
  refine G_st (x_iload_n dX0_change_15 rfl) ?_
  refine G_bd (fun x4 t5 h6 => ?_)
  refine G_st (x_callN [aI v1, aR (h, 7)] (c_X6_get ids Hn (h, 14) v2 (Hh 14 (Nat.le_of_ble_eq_true rfl) (Nat.le_of_ble_eq_true rfl)) rfl _ _ _ h6) dX0_change_16 (List.mem_of_getElem? (i := 14) rfl) kc_X6_get rfl ⟨Nat.le_of_ble_eq_true rfl, Nat.le_of_ble_eq_true rfl⟩ (Nat.le_of_ble_eq_true rfl) rfl) ?_
  refine G_bd (fun _ t8 h9 => ?_)
  refine G_st (x_callV [] (c_X0_settle ids Hn h v1 x4 Hh _ _ _ h9) dX0_change_19 tw_103 kc_X0_settle (Hh 7 (Nat.le_of_ble_eq_true rfl) (Nat.le_of_ble_eq_true rfl)) rfl rfl rfl rfl ⟨Nat.le_of_ble_eq_true rfl, Nat.le_of_ble_eq_true rfl⟩ (Nat.le_of_ble_eq_true rfl) rfl) ?_
  refine G_st (x_aload_n dX0_change_22 rfl) ?_
  refine G_st (x_iload_n dX0_change_23 rfl) ?_
  refine G_st (x_iload_n dX0_change_24 rfl) ?_
  refine G_bd (fun _ t11 h12 => ?_)
  refine G_st (x_callV [] (c_X0_settle ids Hn h v2 x1 Hh _ _ _ h12) dX0_change_25 tw_103 kc_X0_settle (Hh 7 (Nat.le_of_ble_eq_true rfl) (Nat.le_of_ble_eq_true rfl)) rfl rfl rfl rfl ⟨Nat.le_of_ble_eq_true rfl, Nat.le_of_ble_eq_true rfl⟩ (Nat.le_of_ble_eq_true rfl) rfl) ?_
  exact G_ret rfl ⟨rfl, dX0_change_28⟩ rfl
set_option maxRecDepth 100000 in
set_option maxHeartbeats 4000000 in
theorem c_X0_change (ids : List (Nat × Nat)) (Hn : Ndp ids) (h : Nat) (v1 : Int32) (v2 : Int32) (Hh : InR ids h 7 14) (t0 : Sg) (r : Unit) (t1 : Sg) (hf : f_X0_change h v1 v2 t0 = some (r, t1)) : Mt0 mX0_change yX0_change ids [aR (h, 7), aI v1, aI v2] t0 none t1 :=
  Mt_of (x := (r, t1)) (g_X0_change ids Hn h v1 v2 Hh t0) hf (fun _ _ => trivial) (by decide) rfl Hn (fun _ => rfl) (fun _ => Nat.le_of_ble_eq_true rfl)
theorem dX0_ring_0 : decode cX0_ring 0 = .ok (.aload_n 0, 1) := by decide +kernel
theorem dX0_ring_1 : decode cX0_ring 1 = .ok (.getfield 30, 3) := by decide +kernel
theorem dX0_ring_4 : decode cX0_ring 4 = .ok (.iload_n 1, 1) := by decide +kernel
theorem dX0_ring_5 : decode cX0_ring 5 = .ok (.invokestatic 68, 3) := by decide +kernel
theorem dX0_ring_8 : decode cX0_ring 8 = .ok (.istore 4, 2) := by decide +kernel
theorem dX0_ring_10 : decode cX0_ring 10 = .ok (.aload_n 0, 1) := by decide +kernel
theorem dX0_ring_11 : decode cX0_ring 11 = .ok (.iload_n 1, 1) := by decide +kernel
theorem dX0_ring_12 : decode cX0_ring 12 = .ok (.aload_n 0, 1) := by decide +kernel
theorem dX0_ring_13 : decode cX0_ring 13 = .ok (.getfield 30, 3) := by decide +kernel
theorem dX0_ring_16 : decode cX0_ring 16 = .ok (.iload_n 2, 1) := by decide +kernel
theorem dX0_ring_17 : decode cX0_ring 17 = .ok (.invokestatic 68, 3) := by decide +kernel
theorem dX0_ring_20 : decode cX0_ring 20 = .ok (.invokevirtual 50, 3) := by decide +kernel
theorem dX0_ring_23 : decode cX0_ring 23 = .ok (.aload_n 0, 1) := by decide +kernel
theorem dX0_ring_24 : decode cX0_ring 24 = .ok (.iload_n 2, 1) := by decide +kernel
theorem dX0_ring_25 : decode cX0_ring 25 = .ok (.aload_n 0, 1) := by decide +kernel
theorem dX0_ring_26 : decode cX0_ring 26 = .ok (.getfield 30, 3) := by decide +kernel
theorem dX0_ring_29 : decode cX0_ring 29 = .ok (.iload_n 3, 1) := by decide +kernel
theorem dX0_ring_30 : decode cX0_ring 30 = .ok (.invokestatic 68, 3) := by decide +kernel
theorem dX0_ring_33 : decode cX0_ring 33 = .ok (.invokevirtual 50, 3) := by decide +kernel
theorem dX0_ring_36 : decode cX0_ring 36 = .ok (.aload_n 0, 1) := by decide +kernel
theorem dX0_ring_37 : decode cX0_ring 37 = .ok (.iload_n 3, 1) := by decide +kernel
theorem dX0_ring_38 : decode cX0_ring 38 = .ok (.iload 4, 2) := by decide +kernel
theorem dX0_ring_40 : decode cX0_ring 40 = .ok (.invokevirtual 50, 3) := by decide +kernel
theorem dX0_ring_43 : decode cX0_ring 43 = .ok (.return_, 1) := by decide +kernel
set_option maxRecDepth 100000 in
set_option maxHeartbeats 4000000 in
theorem g_X0_ring (ids : List (Nat × Nat)) (Hn : Ndp ids) (h : Nat) (v1 : Int32) (v2 : Int32) (v3 : Int32) (Hh : InR ids h 7 14) (t0 : Sg) : Gj kV mX0_ring ids 0 [some (aR (h, 7)), some (aI v1), some (aI v2), some (aI v3), none] [] t0 (f_X0_ring h v1 v2 v3 t0) := by
  unfold f_X0_ring
  refine G_st (x_aload_n dX0_ring_0 rfl) ?_
  refine G_st (x_get (k := 9) (aR (h, 14)) dX0_ring_1 (Hh 7 (Nat.le_of_ble_eq_true rfl) (Nat.le_of_ble_eq_true rfl)) rfl rfl rfl rfl inTX0 (Nat.le_of_ble_eq_true rfl) tw_138 (fun ad => rfl)) ?_
  refine G_st (x_iload_n dX0_ring_4 rfl) ?_
  refine G_bd (fun x1 t2 h3 => ?_)
  refine G_st (x_callN [] (c_X6_get ids Hn (h, 14) v1 (Hh 14 (Nat.le_of_ble_eq_true rfl) (Nat.le_of_ble_eq_true rfl)) rfl _ _ _ h3) dX0_ring_5 (List.mem_of_getElem? (i := 14) rfl) kc_X6_get rfl ⟨Nat.le_of_ble_eq_true rfl, Nat.le_of_ble_eq_true rfl⟩ (Nat.le_of_ble_eq_true rfl) rfl) ?_
  refine G_st (x_istore [some (aR (h, 7)), some (aI v1), some (aI v2), some (aI v3), some (aI x1)] dX0_ring_8 (Nat.le_of_ble_eq_true rfl) rfl rfl) ?_
  refine G_st (x_aload_n dX0_ring_10 rfl) ?_
  refine G_st (x_iload_n dX0_ring_11 rfl) ?_
  refine G_st (x_aload_n dX0_ring_12 rfl) ?_
  refine G_st (x_get (k := 9) (aR (h, 14)) dX0_ring_13 (Hh 7 (Nat.le_of_ble_eq_true rfl) (Nat.le_of_ble_eq_true rfl)) rfl rfl rfl rfl inTX0 (Nat.le_of_ble_eq_true rfl) tw_138 (fun ad => rfl)) ?_
  refine G_st (x_iload_n dX0_ring_16 rfl) ?_
  refine G_bd (fun x4 t5 h6 => ?_)
  refine G_st (x_callN [aI v1, aR (h, 7)] (c_X6_get ids Hn (h, 14) v2 (Hh 14 (Nat.le_of_ble_eq_true rfl) (Nat.le_of_ble_eq_true rfl)) rfl _ _ _ h6) dX0_ring_17 (List.mem_of_getElem? (i := 14) rfl) kc_X6_get rfl ⟨Nat.le_of_ble_eq_true rfl, Nat.le_of_ble_eq_true rfl⟩ (Nat.le_of_ble_eq_true rfl) rfl) ?_
  refine G_bd (fun _ t8 h9 => ?_)
  refine G_st (x_callV [] (c_X0_settle ids Hn h v1 x4 Hh _ _ _ h9) dX0_ring_20 tw_103 kc_X0_settle (Hh 7 (Nat.le_of_ble_eq_true rfl) (Nat.le_of_ble_eq_true rfl)) rfl rfl rfl rfl ⟨Nat.le_of_ble_eq_true rfl, Nat.le_of_ble_eq_true rfl⟩ (Nat.le_of_ble_eq_true rfl) rfl) ?_
  refine G_st (x_aload_n dX0_ring_23 rfl) ?_
  refine G_st (x_iload_n dX0_ring_24 rfl) ?_
  refine G_st (x_aload_n dX0_ring_25 rfl) ?_
  refine G_st (x_get (k := 9) (aR (h, 14)) dX0_ring_26 (Hh 7 (Nat.le_of_ble_eq_true rfl) (Nat.le_of_ble_eq_true rfl)) rfl rfl rfl rfl inTX0 (Nat.le_of_ble_eq_true rfl) tw_138 (fun ad => rfl)) ?_
  refine G_st (x_iload_n dX0_ring_29 rfl) ?_
  refine G_bd (fun x10 t11 h12 => ?_)
  refine G_st (x_callN [aI v2, aR (h, 7)] (c_X6_get ids Hn (h, 14) v3 (Hh 14 (Nat.le_of_ble_eq_true rfl) (Nat.le_of_ble_eq_true rfl)) rfl _ _ _ h12) dX0_ring_30 (List.mem_of_getElem? (i := 14) rfl) kc_X6_get rfl ⟨Nat.le_of_ble_eq_true rfl, Nat.le_of_ble_eq_true rfl⟩ (Nat.le_of_ble_eq_true rfl) rfl) ?_
  refine G_bd (fun _ t14 h15 => ?_)
  refine G_st (x_callV [] (c_X0_settle ids Hn h v2 x10 Hh _ _ _ h15) dX0_ring_33 tw_103 kc_X0_settle (Hh 7 (Nat.le_of_ble_eq_true rfl) (Nat.le_of_ble_eq_true rfl)) rfl rfl rfl rfl ⟨Nat.le_of_ble_eq_true rfl, Nat.le_of_ble_eq_true rfl⟩ (Nat.le_of_ble_eq_true rfl) rfl) ?_
  refine G_st (x_aload_n dX0_ring_36 rfl) ?_
  refine G_st (x_iload_n dX0_ring_37 rfl) ?_
  refine G_st (x_iload dX0_ring_38 rfl) ?_
  refine G_bd (fun _ t17 h18 => ?_)
  refine G_st (x_callV [] (c_X0_settle ids Hn h v3 x1 Hh _ _ _ h18) dX0_ring_40 tw_103 kc_X0_settle (Hh 7 (Nat.le_of_ble_eq_true rfl) (Nat.le_of_ble_eq_true rfl)) rfl rfl rfl rfl ⟨Nat.le_of_ble_eq_true rfl, Nat.le_of_ble_eq_true rfl⟩ (Nat.le_of_ble_eq_true rfl) rfl) ?_
  exact G_ret rfl ⟨rfl, dX0_ring_43⟩ rfl
set_option maxRecDepth 100000 in
set_option maxHeartbeats 4000000 in
theorem c_X0_ring (ids : List (Nat × Nat)) (Hn : Ndp ids) (h : Nat) (v1 : Int32) (v2 : Int32) (v3 : Int32) (Hh : InR ids h 7 14) (t0 : Sg) (r : Unit) (t1 : Sg) (hf : f_X0_ring h v1 v2 v3 t0 = some (r, t1)) : Mt0 mX0_ring yX0_ring ids [aR (h, 7), aI v1, aI v2, aI v3] t0 none t1 :=
  Mt_of (x := (r, t1)) (g_X0_ring ids Hn h v1 v2 v3 Hh t0) hf (fun _ _ => trivial) (by decide) rfl Hn (fun _ => rfl) (fun _ => Nat.le_of_ble_eq_true rfl)
theorem dX0_setSaucer_0 : decode cX0_setSaucer 0 = .ok (.aload_n 0, 1) := by decide +kernel
theorem dX0_setSaucer_1 : decode cX0_setSaucer 1 = .ok (.getfield 9, 3) := by decide +kernel
theorem dX0_setSaucer_4 : decode cX0_setSaucer 4 = .ok (.iload_n 1, 1) := by decide +kernel
theorem dX0_setSaucer_5 : decode cX0_setSaucer 5 = .ok (.iload_n 2, 1) := by decide +kernel
theorem dX0_setSaucer_6 : decode cX0_setSaucer 6 = .ok (.invokestatic 64, 3) := by decide +kernel
theorem dX0_setSaucer_9 : decode cX0_setSaucer 9 = .ok (.aload_n 0, 1) := by decide +kernel
theorem dX0_setSaucer_10 : decode cX0_setSaucer 10 = .ok (.getfield 15, 3) := by decide +kernel
theorem dX0_setSaucer_13 : decode cX0_setSaucer 13 = .ok (.iload_n 1, 1) := by decide +kernel
theorem dX0_setSaucer_14 : decode cX0_setSaucer 14 = .ok (.aload_n 0, 1) := by decide +kernel
theorem dX0_setSaucer_15 : decode cX0_setSaucer 15 = .ok (.getfield 15, 3) := by decide +kernel
theorem dX0_setSaucer_18 : decode cX0_setSaucer 18 = .ok (.iload_n 1, 1) := by decide +kernel
theorem dX0_setSaucer_19 : decode cX0_setSaucer 19 = .ok (.invokestatic 68, 3) := by decide +kernel
theorem dX0_setSaucer_22 : decode cX0_setSaucer 22 = .ok (.iload_n 2, 1) := by decide +kernel
theorem dX0_setSaucer_23 : decode cX0_setSaucer 23 = .ok (.invokestatic 72, 3) := by decide +kernel
theorem dX0_setSaucer_26 : decode cX0_setSaucer 26 = .ok (.invokestatic 64, 3) := by decide +kernel
theorem dX0_setSaucer_29 : decode cX0_setSaucer 29 = .ok (.return_, 1) := by decide +kernel
set_option maxRecDepth 100000 in
set_option maxHeartbeats 4000000 in
theorem g_X0_setSaucer (ids : List (Nat × Nat)) (Hn : Ndp ids) (h : Nat) (v1 : Int32) (v2 : Int32) (Hh : InR ids h 7 14) (t0 : Sg) : Gj kV mX0_setSaucer ids 0 [some (aR (h, 7)), some (aI v1), some (aI v2)] [] t0 (f_X0_setSaucer h v1 v2 t0) := by
  unfold f_X0_setSaucer
  refine G_st (x_aload_n dX0_setSaucer_0 rfl) ?_
  refine G_st (x_get (k := 3) (aR (h, 8)) dX0_setSaucer_1 (Hh 7 (Nat.le_of_ble_eq_true rfl) (Nat.le_of_ble_eq_true rfl)) rfl rfl rfl rfl inTX0 (Nat.le_of_ble_eq_true rfl) tw_118 (fun ad => rfl)) ?_
  refine G_st (x_iload_n dX0_setSaucer_4 rfl) ?_
  refine G_st (x_iload_n dX0_setSaucer_5 rfl) ?_
  refine G_bd (fun _ t2 h3 => ?_)
  refine G_st (x_callN [] (c_X6_set ids Hn (h, 8) v1 v2 (Hh 8 (Nat.le_of_ble_eq_true rfl) (Nat.le_of_ble_eq_true rfl)) rfl _ _ _ h3) dX0_setSaucer_6 (List.mem_of_getElem? (i := 1) rfl) kc_X6_set rfl ⟨Nat.le_of_ble_eq_true rfl, Nat.le_of_ble_eq_true rfl⟩ (Nat.le_of_ble_eq_true rfl) rfl) ?_
  refine G_st (x_aload_n dX0_setSaucer_9 rfl) ?_
  refine G_st (x_get (k := 4) (aR (h, 9)) dX0_setSaucer_10 (Hh 7 (Nat.le_of_ble_eq_true rfl) (Nat.le_of_ble_eq_true rfl)) rfl rfl rfl rfl inTX0 (Nat.le_of_ble_eq_true rfl) tw_121 (fun ad => rfl)) ?_
  refine G_st (x_iload_n dX0_setSaucer_13 rfl) ?_
  refine G_st (x_aload_n dX0_setSaucer_14 rfl) ?_
  refine G_st (x_get (k := 4) (aR (h, 9)) dX0_setSaucer_15 (Hh 7 (Nat.le_of_ble_eq_true rfl) (Nat.le_of_ble_eq_true rfl)) rfl rfl rfl rfl inTX0 (Nat.le_of_ble_eq_true rfl) tw_121 (fun ad => rfl)) ?_
  refine G_st (x_iload_n dX0_setSaucer_18 rfl) ?_
  refine G_bd (fun x4 t5 h6 => ?_)
  refine G_st (x_callN [aI v1, aR (h, 9)] (c_X6_get ids Hn (h, 9) v1 (Hh 9 (Nat.le_of_ble_eq_true rfl) (Nat.le_of_ble_eq_true rfl)) rfl _ _ _ h6) dX0_setSaucer_19 (List.mem_of_getElem? (i := 14) rfl) kc_X6_get rfl ⟨Nat.le_of_ble_eq_true rfl, Nat.le_of_ble_eq_true rfl⟩ (Nat.le_of_ble_eq_true rfl) rfl) ?_
  refine G_st (x_iload_n dX0_setSaucer_22 rfl) ?_
  refine G_st (x_mmin dX0_setSaucer_23 tw_507 tw_444 tw_74 tw_445 ⟨Nat.le_of_ble_eq_true rfl, Nat.le_of_ble_eq_true rfl⟩ (Nat.le_of_ble_eq_true rfl)) ?_
  refine G_bd (fun _ t8 h9 => ?_)
  refine G_st (x_callN [] (c_X6_set ids Hn (h, 9) v1 (jmin x4 v2) (Hh 9 (Nat.le_of_ble_eq_true rfl) (Nat.le_of_ble_eq_true rfl)) rfl _ _ _ h9) dX0_setSaucer_26 (List.mem_of_getElem? (i := 1) rfl) kc_X6_set rfl ⟨Nat.le_of_ble_eq_true rfl, Nat.le_of_ble_eq_true rfl⟩ (Nat.le_of_ble_eq_true rfl) rfl) ?_
  exact G_ret rfl ⟨rfl, dX0_setSaucer_29⟩ rfl
set_option maxRecDepth 100000 in
set_option maxHeartbeats 4000000 in
theorem c_X0_setSaucer (ids : List (Nat × Nat)) (Hn : Ndp ids) (h : Nat) (v1 : Int32) (v2 : Int32) (Hh : InR ids h 7 14) (t0 : Sg) (r : Unit) (t1 : Sg) (hf : f_X0_setSaucer h v1 v2 t0 = some (r, t1)) : Mt0 mX0_setSaucer yX0_setSaucer ids [aR (h, 7), aI v1, aI v2] t0 none t1 :=
  Mt_of (x := (r, t1)) (g_X0_setSaucer ids Hn h v1 v2 Hh t0) hf (fun _ _ => trivial) (by decide) rfl Hn (fun _ => rfl) (fun _ => Nat.le_of_ble_eq_true rfl)
theorem dX0_setWashing_0 : decode cX0_setWashing 0 = .ok (.aload_n 0, 1) := by decide +kernel
theorem dX0_setWashing_1 : decode cX0_setWashing 1 = .ok (.getfield 21, 3) := by decide +kernel
theorem dX0_setWashing_4 : decode cX0_setWashing 4 = .ok (.iload_n 1, 1) := by decide +kernel
theorem dX0_setWashing_5 : decode cX0_setWashing 5 = .ok (.iload_n 2, 1) := by decide +kernel
theorem dX0_setWashing_6 : decode cX0_setWashing 6 = .ok (.invokestatic 64, 3) := by decide +kernel
theorem dX0_setWashing_9 : decode cX0_setWashing 9 = .ok (.aload_n 0, 1) := by decide +kernel
theorem dX0_setWashing_10 : decode cX0_setWashing 10 = .ok (.getfield 24, 3) := by decide +kernel
theorem dX0_setWashing_13 : decode cX0_setWashing 13 = .ok (.iload_n 1, 1) := by decide +kernel
theorem dX0_setWashing_14 : decode cX0_setWashing 14 = .ok (.iload_n 3, 1) := by decide +kernel
theorem dX0_setWashing_15 : decode cX0_setWashing 15 = .ok (.invokestatic 64, 3) := by decide +kernel
theorem dX0_setWashing_18 : decode cX0_setWashing 18 = .ok (.return_, 1) := by decide +kernel
set_option maxRecDepth 100000 in
set_option maxHeartbeats 4000000 in
theorem g_X0_setWashing (ids : List (Nat × Nat)) (Hn : Ndp ids) (h : Nat) (v1 : Int32) (v2 : Int32) (v3 : Int32) (Hh : InR ids h 7 14) (t0 : Sg) : Gj kV mX0_setWashing ids 0 [some (aR (h, 7)), some (aI v1), some (aI v2), some (aI v3)] [] t0 (f_X0_setWashing h v1 v2 v3 t0) := by
  unfold f_X0_setWashing
  refine G_st (x_aload_n dX0_setWashing_0 rfl) ?_
  refine G_st (x_get (k := 6) (aR (h, 11)) dX0_setWashing_1 (Hh 7 (Nat.le_of_ble_eq_true rfl) (Nat.le_of_ble_eq_true rfl)) rfl rfl rfl rfl inTX0 (Nat.le_of_ble_eq_true rfl) tw_129 (fun ad => rfl)) ?_
  refine G_st (x_iload_n dX0_setWashing_4 rfl) ?_
  refine G_st (x_iload_n dX0_setWashing_5 rfl) ?_
  refine G_bd (fun _ t2 h3 => ?_)
  refine G_st (x_callN [] (c_X6_set ids Hn (h, 11) v1 v2 (Hh 11 (Nat.le_of_ble_eq_true rfl) (Nat.le_of_ble_eq_true rfl)) rfl _ _ _ h3) dX0_setWashing_6 (List.mem_of_getElem? (i := 1) rfl) kc_X6_set rfl ⟨Nat.le_of_ble_eq_true rfl, Nat.le_of_ble_eq_true rfl⟩ (Nat.le_of_ble_eq_true rfl) rfl) ?_
  refine G_st (x_aload_n dX0_setWashing_9 rfl) ?_
  refine G_st (x_get (k := 7) (aR (h, 12)) dX0_setWashing_10 (Hh 7 (Nat.le_of_ble_eq_true rfl) (Nat.le_of_ble_eq_true rfl)) rfl rfl rfl rfl inTX0 (Nat.le_of_ble_eq_true rfl) tw_132 (fun ad => rfl)) ?_
  refine G_st (x_iload_n dX0_setWashing_13 rfl) ?_
  refine G_st (x_iload_n dX0_setWashing_14 rfl) ?_
  refine G_bd (fun _ t5 h6 => ?_)
  refine G_st (x_callN [] (c_X6_set ids Hn (h, 12) v1 v3 (Hh 12 (Nat.le_of_ble_eq_true rfl) (Nat.le_of_ble_eq_true rfl)) rfl _ _ _ h6) dX0_setWashing_15 (List.mem_of_getElem? (i := 1) rfl) kc_X6_set rfl ⟨Nat.le_of_ble_eq_true rfl, Nat.le_of_ble_eq_true rfl⟩ (Nat.le_of_ble_eq_true rfl) rfl) ?_
  exact G_ret rfl ⟨rfl, dX0_setWashing_18⟩ rfl
set_option maxRecDepth 100000 in
set_option maxHeartbeats 4000000 in
theorem c_X0_setWashing (ids : List (Nat × Nat)) (Hn : Ndp ids) (h : Nat) (v1 : Int32) (v2 : Int32) (v3 : Int32) (Hh : InR ids h 7 14) (t0 : Sg) (r : Unit) (t1 : Sg) (hf : f_X0_setWashing h v1 v2 v3 t0 = some (r, t1)) : Mt0 mX0_setWashing yX0_setWashing ids [aR (h, 7), aI v1, aI v2, aI v3] t0 none t1 :=
  Mt_of (x := (r, t1)) (g_X0_setWashing ids Hn h v1 v2 v3 Hh t0) hf (fun _ _ => trivial) (by decide) rfl Hn (fun _ => rfl) (fun _ => Nat.le_of_ble_eq_true rfl)
theorem dX0_dry_0 : decode cX0_dry 0 = .ok (.iconst 0, 1) := by decide +kernel
theorem dX0_dry_1 : decode cX0_dry 1 = .ok (.istore_n 1, 1) := by decide +kernel
theorem dX0_dry_2 : decode cX0_dry 2 = .ok (.iload_n 1, 1) := by decide +kernel
theorem dX0_dry_3 : decode cX0_dry 3 = .ok (.aload_n 0, 1) := by decide +kernel
theorem dX0_dry_4 : decode cX0_dry 4 = .ok (.getfield 15, 3) := by decide +kernel
theorem dX0_dry_7 : decode cX0_dry 7 = .ok (.arraylength, 1) := by decide +kernel
theorem dX0_dry_8 : decode cX0_dry 8 = .ok (.if_icmp .ge 27, 3) := by decide +kernel
theorem dX0_dry_11 : decode cX0_dry 11 = .ok (.aload_n 0, 1) := by decide +kernel
theorem dX0_dry_12 : decode cX0_dry 12 = .ok (.getfield 15, 3) := by decide +kernel
theorem dX0_dry_15 : decode cX0_dry 15 = .ok (.iload_n 1, 1) := by decide +kernel
theorem dX0_dry_16 : decode cX0_dry 16 = .ok (.iconst 0, 1) := by decide +kernel
theorem dX0_dry_17 : decode cX0_dry 17 = .ok (.aload_n 0, 1) := by decide +kernel
theorem dX0_dry_18 : decode cX0_dry 18 = .ok (.getfield 15, 3) := by decide +kernel
theorem dX0_dry_21 : decode cX0_dry 21 = .ok (.iload_n 1, 1) := by decide +kernel
theorem dX0_dry_22 : decode cX0_dry 22 = .ok (.iaload, 1) := by decide +kernel
theorem dX0_dry_23 : decode cX0_dry 23 = .ok (.iconst 1, 1) := by decide +kernel
theorem dX0_dry_24 : decode cX0_dry 24 = .ok (.isub, 1) := by decide +kernel
theorem dX0_dry_25 : decode cX0_dry 25 = .ok (.invokestatic 77, 3) := by decide +kernel
theorem dX0_dry_28 : decode cX0_dry 28 = .ok (.iastore, 1) := by decide +kernel
theorem dX0_dry_29 : decode cX0_dry 29 = .ok (.iinc 1 1, 3) := by decide +kernel
theorem dX0_dry_32 : decode cX0_dry 32 = .ok (.goto (-30), 3) := by decide +kernel
theorem dX0_dry_35 : decode cX0_dry 35 = .ok (.return_, 1) := by decide +kernel
set_option maxRecDepth 100000 in
set_option maxHeartbeats 4000000 in
theorem g_X0_dry_2 (ids : List (Nat × Nat)) (Hn : Ndp ids) (h : Nat) (Hh : InR ids h 7 14)  : ∀ (n : Nat) (v1 : Int32) (t0 : Sg), Gj kV mX0_dry ids 2 [some (aR (h, 7)), some (aI v1)] [] t0 (f_X0_dry_2 h n v1 t0) := by
  intro n
  induction n with
  | zero => intro v1 t0; exact G_none
  | succ n ih =>
    intro v1 t0
    rw [f_X0_dry_2]
    refine G_st (x_iload_n dX0_dry_2 rfl) ?_
    refine G_st (x_aload_n dX0_dry_3 rfl) ?_
    refine G_st (x_get (k := 4) (aR (h, 9)) dX0_dry_4 (Hh 7 (Nat.le_of_ble_eq_true rfl) (Nat.le_of_ble_eq_true rfl)) rfl rfl rfl rfl inTX0 (Nat.le_of_ble_eq_true rfl) tw_121 (fun ad => rfl)) ?_
    refine G_st (x_alen (v := (24 : Int32)) dX0_dry_7 (Hh 9 (Nat.le_of_ble_eq_true rfl) (Nat.le_of_ble_eq_true rfl)) rfl rfl) ?_
    refine G_ite (fun c1 => ?_) (fun c1 => ?_)
    · refine G_st (x_icmp_ge_t (tgt := 35) dX0_dry_8 (by decide) c1) ?_
      exact G_ret rfl ⟨rfl, dX0_dry_35⟩ rfl
    · refine G_st (x_icmp_ge_f 35 dX0_dry_8 (by decide) c1) ?_
      refine G_st (x_aload_n dX0_dry_11 rfl) ?_
      refine G_st (x_get (k := 4) (aR (h, 9)) dX0_dry_12 (Hh 7 (Nat.le_of_ble_eq_true rfl) (Nat.le_of_ble_eq_true rfl)) rfl rfl rfl rfl inTX0 (Nat.le_of_ble_eq_true rfl) tw_121 (fun ad => rfl)) ?_
      refine G_st (x_iload_n dX0_dry_15 rfl) ?_
      refine G_st (x_iconst (0 : Int32) dX0_dry_16 rfl) ?_
      refine G_st (x_aload_n dX0_dry_17 rfl) ?_
      refine G_st (x_get (k := 4) (aR (h, 9)) dX0_dry_18 (Hh 7 (Nat.le_of_ble_eq_true rfl) (Nat.le_of_ble_eq_true rfl)) rfl rfl rfl rfl inTX0 (Nat.le_of_ble_eq_true rfl) tw_121 (fun ad => rfl)) ?_
      refine G_st (x_iload_n dX0_dry_21 rfl) ?_
      refine G_chk (fun c2 => ?_)
      refine G_st (x_iaload dX0_dry_22 (Hh 9 (Nat.le_of_ble_eq_true rfl) (Nat.le_of_ble_eq_true rfl)) rfl c2) ?_
      refine G_st (x_iconst (1 : Int32) dX0_dry_23 rfl) ?_
      refine G_st (x_isub dX0_dry_24) ?_
      refine G_st (x_mmax dX0_dry_25 tw_655 tw_633 tw_74 tw_634 ⟨Nat.le_of_ble_eq_true rfl, Nat.le_of_ble_eq_true rfl⟩ (Nat.le_of_ble_eq_true rfl)) ?_
      refine G_chk (fun c3 => ?_)
      refine G_st (x_iastore dX0_dry_28 (Hh 9 (Nat.le_of_ble_eq_true rfl) (Nat.le_of_ble_eq_true rfl)) rfl c3) ?_
      refine G_bvS (fun t4 => ?_)
      refine G_st (x_iinc (v1 + (1 : Int32)) [some (aR (h, 7)), some (aI (v1 + (1 : Int32)))] dX0_dry_29 (Nat.le_of_ble_eq_true rfl) rfl rfl rfl rfl) ?_
      refine G_st (x_goto (tgt := 2) dX0_dry_32 (by decide)) ?_
      refine G_weak _ ?_ ((ih) (v1 + (1 : Int32)) t4)
      exact (leL_s (leL_s (leL_e _)))
set_option maxRecDepth 100000 in
set_option maxHeartbeats 4000000 in
theorem g_X0_dry (ids : List (Nat × Nat)) (Hn : Ndp ids) (h : Nat) (Hh : InR ids h 7 14) (t0 : Sg) : Gj kV mX0_dry ids 0 [some (aR (h, 7)), none] [] t0 (f_X0_dry h t0) := by
  unfold f_X0_dry
  refine G_st (x_iconst (0 : Int32) dX0_dry_0 rfl) ?_
  refine G_st (x_istore_n [some (aR (h, 7)), some (aI (0 : Int32))] dX0_dry_1 (Nat.le_of_ble_eq_true rfl) rfl rfl) ?_
  refine G_weak _ ?_ (g_X0_dry_2 ids Hn h Hh fuel (0 : Int32) t0)
  exact (leL_s (leL_s (leL_e _)))
set_option maxRecDepth 100000 in
set_option maxHeartbeats 4000000 in
theorem c_X0_dry (ids : List (Nat × Nat)) (Hn : Ndp ids) (h : Nat) (Hh : InR ids h 7 14) (t0 : Sg) (r : Unit) (t1 : Sg) (hf : f_X0_dry h t0 = some (r, t1)) : Mt0 mX0_dry yX0_dry ids [aR (h, 7)] t0 none t1 :=
  Mt_of (x := (r, t1)) (g_X0_dry ids Hn h Hh t0) hf (fun _ _ => trivial) (by decide) rfl Hn (fun _ => rfl) (fun _ => Nat.le_of_ble_eq_true rfl)
theorem dX1_add_0 : decode cX1_add 0 = .ok (.aload_n 0, 1) := by decide +kernel
theorem dX1_add_1 : decode cX1_add 1 = .ok (.getfield 24, 3) := by decide +kernel
theorem dX1_add_4 : decode cX1_add 4 = .ok (.bipush 8, 2) := by decide +kernel
theorem dX1_add_6 : decode cX1_add 6 = .ok (.if_icmp .ge 62, 3) := by decide +kernel
theorem dX1_add_9 : decode cX1_add 9 = .ok (.aload_n 0, 1) := by decide +kernel
theorem dX1_add_10 : decode cX1_add 10 = .ok (.getfield 9, 3) := by decide +kernel
theorem dX1_add_13 : decode cX1_add 13 = .ok (.aload_n 0, 1) := by decide +kernel
theorem dX1_add_14 : decode cX1_add 14 = .ok (.getfield 24, 3) := by decide +kernel
theorem dX1_add_17 : decode cX1_add 17 = .ok (.iload_n 1, 1) := by decide +kernel
theorem dX1_add_18 : decode cX1_add 18 = .ok (.invokestatic 28, 3) := by decide +kernel
theorem dX1_add_21 : decode cX1_add 21 = .ok (.aload_n 0, 1) := by decide +kernel
theorem dX1_add_22 : decode cX1_add 22 = .ok (.getfield 15, 3) := by decide +kernel
theorem dX1_add_25 : decode cX1_add 25 = .ok (.aload_n 0, 1) := by decide +kernel
theorem dX1_add_26 : decode cX1_add 26 = .ok (.getfield 24, 3) := by decide +kernel
theorem dX1_add_29 : decode cX1_add 29 = .ok (.iload_n 2, 1) := by decide +kernel
theorem dX1_add_30 : decode cX1_add 30 = .ok (.invokestatic 28, 3) := by decide +kernel
theorem dX1_add_33 : decode cX1_add 33 = .ok (.aload_n 0, 1) := by decide +kernel
theorem dX1_add_34 : decode cX1_add 34 = .ok (.getfield 18, 3) := by decide +kernel
theorem dX1_add_37 : decode cX1_add 37 = .ok (.aload_n 0, 1) := by decide +kernel
theorem dX1_add_38 : decode cX1_add 38 = .ok (.getfield 24, 3) := by decide +kernel
theorem dX1_add_41 : decode cX1_add 41 = .ok (.iload_n 3, 1) := by decide +kernel
theorem dX1_add_42 : decode cX1_add 42 = .ok (.invokestatic 28, 3) := by decide +kernel
theorem dX1_add_45 : decode cX1_add 45 = .ok (.aload_n 0, 1) := by decide +kernel
theorem dX1_add_46 : decode cX1_add 46 = .ok (.getfield 21, 3) := by decide +kernel
theorem dX1_add_49 : decode cX1_add 49 = .ok (.aload_n 0, 1) := by decide +kernel
theorem dX1_add_50 : decode cX1_add 50 = .ok (.getfield 24, 3) := by decide +kernel
theorem dX1_add_53 : decode cX1_add 53 = .ok (.iload 4, 2) := by decide +kernel
theorem dX1_add_55 : decode cX1_add 55 = .ok (.invokestatic 28, 3) := by decide +kernel
theorem dX1_add_58 : decode cX1_add 58 = .ok (.aload_n 0, 1) := by decide +kernel
theorem dX1_add_59 : decode cX1_add 59 = .ok (.dup, 1) := by decide +kernel
theorem dX1_add_60 : decode cX1_add 60 = .ok (.getfield 24, 3) := by decide +kernel
theorem dX1_add_63 : decode cX1_add 63 = .ok (.iconst 1, 1) := by decide +kernel
theorem dX1_add_64 : decode cX1_add 64 = .ok (.iadd, 1) := by decide +kernel
theorem dX1_add_65 : decode cX1_add 65 = .ok (.putfield 24, 3) := by decide +kernel
theorem dX1_add_68 : decode cX1_add 68 = .ok (.return_, 1) := by decide +kernel
set_option maxRecDepth 100000 in
set_option maxHeartbeats 4000000 in
theorem g_X1_add (ids : List (Nat × Nat)) (Hn : Ndp ids) (h : Nat) (v1 : Int32) (v2 : Int32) (v3 : Int32) (v4 : Int32) (Hh : InR ids h 15 19) (t0 : Sg) : Gj kV mX1_add ids 0 [some (aR (h, 15)), some (aI v1), some (aI v2), some (aI v3), some (aI v4)] [] t0 (f_X1_add h v1 v2 v3 v4 t0) := by
  unfold f_X1_add
  refine G_st (x_aload_n dX1_add_0 rfl) ?_
  refine G_st (x_get (k := 0) (aI (t0 (h, 15) 0)) dX1_add_1 (Hh 15 (Nat.le_of_ble_eq_true rfl) (Nat.le_of_ble_eq_true rfl)) rfl rfl rfl rfl inTX1 (Nat.le_of_ble_eq_true rfl) tw_169 (fun ad => rfl)) ?_
  refine G_st (x_bipush (8 : Int32) dX1_add_4 rfl) ?_
  refine G_ite (fun c1 => ?_) (fun c1 => ?_)
  · refine G_st (x_icmp_ge_t (tgt := 68) dX1_add_6 (by decide) c1) ?_
    exact G_ret rfl ⟨rfl, dX1_add_68⟩ rfl
  · refine G_st (x_icmp_ge_f 68 dX1_add_6 (by decide) c1) ?_
    refine G_st (x_aload_n dX1_add_9 rfl) ?_
    refine G_st (x_get (k := 1) (aR (h, 16)) dX1_add_10 (Hh 15 (Nat.le_of_ble_eq_true rfl) (Nat.le_of_ble_eq_true rfl)) rfl rfl rfl rfl inTX1 (Nat.le_of_ble_eq_true rfl) tw_173 (fun ad => rfl)) ?_
    refine G_st (x_aload_n dX1_add_13 rfl) ?_
    refine G_st (x_get (k := 0) (aI (t0 (h, 15) 0)) dX1_add_14 (Hh 15 (Nat.le_of_ble_eq_true rfl) (Nat.le_of_ble_eq_true rfl)) rfl rfl rfl rfl inTX1 (Nat.le_of_ble_eq_true rfl) tw_169 (fun ad => rfl)) ?_
    refine G_st (x_iload_n dX1_add_17 rfl) ?_
    refine G_bd (fun _ t3 h4 => ?_)
    refine G_st (x_callN [] (c_X6_set ids Hn (h, 16) (t0 (h, 15) 0) v1 (Hh 16 (Nat.le_of_ble_eq_true rfl) (Nat.le_of_ble_eq_true rfl)) rfl _ _ _ h4) dX1_add_18 (List.mem_of_getElem? (i := 13) rfl) kc_X6_set rfl ⟨Nat.le_of_ble_eq_true rfl, Nat.le_of_ble_eq_true rfl⟩ (Nat.le_of_ble_eq_true rfl) rfl) ?_
    refine G_st (x_aload_n dX1_add_21 rfl) ?_
    refine G_st (x_get (k := 2) (aR (h, 17)) dX1_add_22 (Hh 15 (Nat.le_of_ble_eq_true rfl) (Nat.le_of_ble_eq_true rfl)) rfl rfl rfl rfl inTX1 (Nat.le_of_ble_eq_true rfl) tw_177 (fun ad => rfl)) ?_
    refine G_st (x_aload_n dX1_add_25 rfl) ?_
    refine G_st (x_get (k := 0) (aI (t3 (h, 15) 0)) dX1_add_26 (Hh 15 (Nat.le_of_ble_eq_true rfl) (Nat.le_of_ble_eq_true rfl)) rfl rfl rfl rfl inTX1 (Nat.le_of_ble_eq_true rfl) tw_169 (fun ad => rfl)) ?_
    refine G_st (x_iload_n dX1_add_29 rfl) ?_
    refine G_bd (fun _ t6 h7 => ?_)
    refine G_st (x_callN [] (c_X6_set ids Hn (h, 17) (t3 (h, 15) 0) v2 (Hh 17 (Nat.le_of_ble_eq_true rfl) (Nat.le_of_ble_eq_true rfl)) rfl _ _ _ h7) dX1_add_30 (List.mem_of_getElem? (i := 13) rfl) kc_X6_set rfl ⟨Nat.le_of_ble_eq_true rfl, Nat.le_of_ble_eq_true rfl⟩ (Nat.le_of_ble_eq_true rfl) rfl) ?_
    refine G_st (x_aload_n dX1_add_33 rfl) ?_
    refine G_st (x_get (k := 3) (aR (h, 18)) dX1_add_34 (Hh 15 (Nat.le_of_ble_eq_true rfl) (Nat.le_of_ble_eq_true rfl)) rfl rfl rfl rfl inTX1 (Nat.le_of_ble_eq_true rfl) tw_181 (fun ad => rfl)) ?_
    refine G_st (x_aload_n dX1_add_37 rfl) ?_
    refine G_st (x_get (k := 0) (aI (t6 (h, 15) 0)) dX1_add_38 (Hh 15 (Nat.le_of_ble_eq_true rfl) (Nat.le_of_ble_eq_true rfl)) rfl rfl rfl rfl inTX1 (Nat.le_of_ble_eq_true rfl) tw_169 (fun ad => rfl)) ?_
    refine G_st (x_iload_n dX1_add_41 rfl) ?_
    refine G_bd (fun _ t9 h10 => ?_)
    refine G_st (x_callN [] (c_X6_set ids Hn (h, 18) (t6 (h, 15) 0) v3 (Hh 18 (Nat.le_of_ble_eq_true rfl) (Nat.le_of_ble_eq_true rfl)) rfl _ _ _ h10) dX1_add_42 (List.mem_of_getElem? (i := 13) rfl) kc_X6_set rfl ⟨Nat.le_of_ble_eq_true rfl, Nat.le_of_ble_eq_true rfl⟩ (Nat.le_of_ble_eq_true rfl) rfl) ?_
    refine G_st (x_aload_n dX1_add_45 rfl) ?_
    refine G_st (x_get (k := 4) (aR (h, 19)) dX1_add_46 (Hh 15 (Nat.le_of_ble_eq_true rfl) (Nat.le_of_ble_eq_true rfl)) rfl rfl rfl rfl inTX1 (Nat.le_of_ble_eq_true rfl) tw_184 (fun ad => rfl)) ?_
    refine G_st (x_aload_n dX1_add_49 rfl) ?_
    refine G_st (x_get (k := 0) (aI (t9 (h, 15) 0)) dX1_add_50 (Hh 15 (Nat.le_of_ble_eq_true rfl) (Nat.le_of_ble_eq_true rfl)) rfl rfl rfl rfl inTX1 (Nat.le_of_ble_eq_true rfl) tw_169 (fun ad => rfl)) ?_
    refine G_st (x_iload dX1_add_53 rfl) ?_
    refine G_bd (fun _ t12 h13 => ?_)
    refine G_st (x_callN [] (c_X6_set ids Hn (h, 19) (t9 (h, 15) 0) v4 (Hh 19 (Nat.le_of_ble_eq_true rfl) (Nat.le_of_ble_eq_true rfl)) rfl _ _ _ h13) dX1_add_55 (List.mem_of_getElem? (i := 13) rfl) kc_X6_set rfl ⟨Nat.le_of_ble_eq_true rfl, Nat.le_of_ble_eq_true rfl⟩ (Nat.le_of_ble_eq_true rfl) rfl) ?_
    refine G_st (x_aload_n dX1_add_58 rfl) ?_
    refine G_st (x_dup dX1_add_59 rfl) ?_
    refine G_st (x_get (k := 0) (aI (t12 (h, 15) 0)) dX1_add_60 (Hh 15 (Nat.le_of_ble_eq_true rfl) (Nat.le_of_ble_eq_true rfl)) rfl rfl rfl rfl inTX1 (Nat.le_of_ble_eq_true rfl) tw_169 (fun ad => rfl)) ?_
    refine G_st (x_iconst (1 : Int32) dX1_add_63 rfl) ?_
    refine G_st (x_iadd dX1_add_64) ?_
    refine G_st (x_put (k := 0) (ty := .int) (v := aI ((t12 (h, 15) 0) + (1 : Int32))) (z := ((t12 (h, 15) 0) + (1 : Int32))) (upS t12 (h, 15) 0 ((t12 (h, 15) 0) + (1 : Int32))) dX1_add_65 (Hh 15 (Nat.le_of_ble_eq_true rfl) (Nat.le_of_ble_eq_true rfl)) rfl rfl rfl rfl inTX1 tyX1_ok nmX1 (Nat.le_of_ble_eq_true rfl) tw_169 rfl rfl (fun ad => rfl) (fun ad => rfl) (fun ad => put_i0 ad _ _ _ _ rfl) rfl) ?_
    refine G_bvS (fun t14 => ?_)
    exact G_ret rfl ⟨rfl, dX1_add_68⟩ rfl
set_option maxRecDepth 100000 in
set_option maxHeartbeats 4000000 in
theorem c_X1_add (ids : List (Nat × Nat)) (Hn : Ndp ids) (h : Nat) (v1 : Int32) (v2 : Int32) (v3 : Int32) (v4 : Int32) (Hh : InR ids h 15 19) (t0 : Sg) (r : Unit) (t1 : Sg) (hf : f_X1_add h v1 v2 v3 v4 t0 = some (r, t1)) : Mt0 mX1_add yX1_add ids [aR (h, 15), aI v1, aI v2, aI v3, aI v4] t0 none t1 :=
  Mt_of (x := (r, t1)) (g_X1_add ids Hn h v1 v2 v3 v4 Hh t0) hf (fun _ _ => trivial) (by decide) rfl Hn (fun _ => rfl) (fun _ => Nat.le_of_ble_eq_true rfl)
theorem dX1_copyFrom_0 : decode cX1_copyFrom 0 = .ok (.aload_n 0, 1) := by decide +kernel
theorem dX1_copyFrom_1 : decode cX1_copyFrom 1 = .ok (.aload_n 1, 1) := by decide +kernel
theorem dX1_copyFrom_2 : decode cX1_copyFrom 2 = .ok (.getfield 24, 3) := by decide +kernel
theorem dX1_copyFrom_5 : decode cX1_copyFrom 5 = .ok (.putfield 24, 3) := by decide +kernel
theorem dX1_copyFrom_8 : decode cX1_copyFrom 8 = .ok (.aload_n 1, 1) := by decide +kernel
theorem dX1_copyFrom_9 : decode cX1_copyFrom 9 = .ok (.getfield 9, 3) := by decide +kernel
theorem dX1_copyFrom_12 : decode cX1_copyFrom 12 = .ok (.aload_n 0, 1) := by decide +kernel
theorem dX1_copyFrom_13 : decode cX1_copyFrom 13 = .ok (.getfield 9, 3) := by decide +kernel
theorem dX1_copyFrom_16 : decode cX1_copyFrom 16 = .ok (.invokestatic 32, 3) := by decide +kernel
theorem dX1_copyFrom_19 : decode cX1_copyFrom 19 = .ok (.aload_n 1, 1) := by decide +kernel
theorem dX1_copyFrom_20 : decode cX1_copyFrom 20 = .ok (.getfield 15, 3) := by decide +kernel
theorem dX1_copyFrom_23 : decode cX1_copyFrom 23 = .ok (.aload_n 0, 1) := by decide +kernel
theorem dX1_copyFrom_24 : decode cX1_copyFrom 24 = .ok (.getfield 15, 3) := by decide +kernel
theorem dX1_copyFrom_27 : decode cX1_copyFrom 27 = .ok (.invokestatic 32, 3) := by decide +kernel
theorem dX1_copyFrom_30 : decode cX1_copyFrom 30 = .ok (.aload_n 1, 1) := by decide +kernel
theorem dX1_copyFrom_31 : decode cX1_copyFrom 31 = .ok (.getfield 18, 3) := by decide +kernel
theorem dX1_copyFrom_34 : decode cX1_copyFrom 34 = .ok (.aload_n 0, 1) := by decide +kernel
theorem dX1_copyFrom_35 : decode cX1_copyFrom 35 = .ok (.getfield 18, 3) := by decide +kernel
theorem dX1_copyFrom_38 : decode cX1_copyFrom 38 = .ok (.invokestatic 32, 3) := by decide +kernel
theorem dX1_copyFrom_41 : decode cX1_copyFrom 41 = .ok (.aload_n 1, 1) := by decide +kernel
theorem dX1_copyFrom_42 : decode cX1_copyFrom 42 = .ok (.getfield 21, 3) := by decide +kernel
theorem dX1_copyFrom_45 : decode cX1_copyFrom 45 = .ok (.aload_n 0, 1) := by decide +kernel
theorem dX1_copyFrom_46 : decode cX1_copyFrom 46 = .ok (.getfield 21, 3) := by decide +kernel
theorem dX1_copyFrom_49 : decode cX1_copyFrom 49 = .ok (.invokestatic 32, 3) := by decide +kernel
theorem dX1_copyFrom_52 : decode cX1_copyFrom 52 = .ok (.return_, 1) := by decide +kernel
set_option maxRecDepth 100000 in
set_option maxHeartbeats 4000000 in
theorem g_X1_copyFrom (ids : List (Nat × Nat)) (Hn : Ndp ids) (h : Nat) (g : Nat) (Hh : InR ids h 15 19) (Hg : InR ids g 15 19) (t0 : Sg) : Gj kV mX1_copyFrom ids 0 [some (aR (h, 15)), some (aR (g, 15))] [] t0 (f_X1_copyFrom h g t0) := by
  unfold f_X1_copyFrom
  refine G_st (x_aload_n dX1_copyFrom_0 rfl) ?_
  refine G_st (x_aload_n dX1_copyFrom_1 rfl) ?_
  refine G_st (x_get (k := 0) (aI (t0 (g, 15) 0)) dX1_copyFrom_2 (Hg 15 (Nat.le_of_ble_eq_true rfl) (Nat.le_of_ble_eq_true rfl)) rfl rfl rfl rfl inTX1 (Nat.le_of_ble_eq_true rfl) tw_169 (fun ad => rfl)) ?_
  refine G_st (x_put (k := 0) (ty := .int) (v := aI (t0 (g, 15) 0)) (z := (t0 (g, 15) 0)) (upS t0 (h, 15) 0 (t0 (g, 15) 0)) dX1_copyFrom_5 (Hh 15 (Nat.le_of_ble_eq_true rfl) (Nat.le_of_ble_eq_true rfl)) rfl rfl rfl rfl inTX1 tyX1_ok nmX1 (Nat.le_of_ble_eq_true rfl) tw_169 rfl rfl (fun ad => rfl) (fun ad => rfl) (fun ad => put_i0 ad _ _ _ _ rfl) rfl) ?_
  refine G_bvS (fun t1 => ?_)
  refine G_st (x_aload_n dX1_copyFrom_8 rfl) ?_
  refine G_st (x_get (k := 1) (aR (g, 16)) dX1_copyFrom_9 (Hg 15 (Nat.le_of_ble_eq_true rfl) (Nat.le_of_ble_eq_true rfl)) rfl rfl rfl rfl inTX1 (Nat.le_of_ble_eq_true rfl) tw_173 (fun ad => rfl)) ?_
  refine G_st (x_aload_n dX1_copyFrom_12 rfl) ?_
  refine G_st (x_get (k := 1) (aR (h, 16)) dX1_copyFrom_13 (Hh 15 (Nat.le_of_ble_eq_true rfl) (Nat.le_of_ble_eq_true rfl)) rfl rfl rfl rfl inTX1 (Nat.le_of_ble_eq_true rfl) tw_173 (fun ad => rfl)) ?_
  refine G_bd (fun _ t3 h4 => ?_)
  refine G_st (x_callN [] (c_X6_copy ids Hn (g, 16) (h, 16) (Hg 16 (Nat.le_of_ble_eq_true rfl) (Nat.le_of_ble_eq_true rfl)) rfl (Hh 16 (Nat.le_of_ble_eq_true rfl) (Nat.le_of_ble_eq_true rfl)) rfl _ _ _ h4) dX1_copyFrom_16 (List.mem_of_getElem? (i := 11) rfl) kc_X6_copy rfl ⟨Nat.le_of_ble_eq_true rfl, Nat.le_of_ble_eq_true rfl⟩ (Nat.le_of_ble_eq_true rfl) rfl) ?_
  refine G_st (x_aload_n dX1_copyFrom_19 rfl) ?_
  refine G_st (x_get (k := 2) (aR (g, 17)) dX1_copyFrom_20 (Hg 15 (Nat.le_of_ble_eq_true rfl) (Nat.le_of_ble_eq_true rfl)) rfl rfl rfl rfl inTX1 (Nat.le_of_ble_eq_true rfl) tw_177 (fun ad => rfl)) ?_
  refine G_st (x_aload_n dX1_copyFrom_23 rfl) ?_
  refine G_st (x_get (k := 2) (aR (h, 17)) dX1_copyFrom_24 (Hh 15 (Nat.le_of_ble_eq_true rfl) (Nat.le_of_ble_eq_true rfl)) rfl rfl rfl rfl inTX1 (Nat.le_of_ble_eq_true rfl) tw_177 (fun ad => rfl)) ?_
  refine G_bd (fun _ t6 h7 => ?_)
  refine G_st (x_callN [] (c_X6_copy ids Hn (g, 17) (h, 17) (Hg 17 (Nat.le_of_ble_eq_true rfl) (Nat.le_of_ble_eq_true rfl)) rfl (Hh 17 (Nat.le_of_ble_eq_true rfl) (Nat.le_of_ble_eq_true rfl)) rfl _ _ _ h7) dX1_copyFrom_27 (List.mem_of_getElem? (i := 11) rfl) kc_X6_copy rfl ⟨Nat.le_of_ble_eq_true rfl, Nat.le_of_ble_eq_true rfl⟩ (Nat.le_of_ble_eq_true rfl) rfl) ?_
  refine G_st (x_aload_n dX1_copyFrom_30 rfl) ?_
  refine G_st (x_get (k := 3) (aR (g, 18)) dX1_copyFrom_31 (Hg 15 (Nat.le_of_ble_eq_true rfl) (Nat.le_of_ble_eq_true rfl)) rfl rfl rfl rfl inTX1 (Nat.le_of_ble_eq_true rfl) tw_181 (fun ad => rfl)) ?_
  refine G_st (x_aload_n dX1_copyFrom_34 rfl) ?_
  refine G_st (x_get (k := 3) (aR (h, 18)) dX1_copyFrom_35 (Hh 15 (Nat.le_of_ble_eq_true rfl) (Nat.le_of_ble_eq_true rfl)) rfl rfl rfl rfl inTX1 (Nat.le_of_ble_eq_true rfl) tw_181 (fun ad => rfl)) ?_
  refine G_bd (fun _ t9 h10 => ?_)
  refine G_st (x_callN [] (c_X6_copy ids Hn (g, 18) (h, 18) (Hg 18 (Nat.le_of_ble_eq_true rfl) (Nat.le_of_ble_eq_true rfl)) rfl (Hh 18 (Nat.le_of_ble_eq_true rfl) (Nat.le_of_ble_eq_true rfl)) rfl _ _ _ h10) dX1_copyFrom_38 (List.mem_of_getElem? (i := 11) rfl) kc_X6_copy rfl ⟨Nat.le_of_ble_eq_true rfl, Nat.le_of_ble_eq_true rfl⟩ (Nat.le_of_ble_eq_true rfl) rfl) ?_
  refine G_st (x_aload_n dX1_copyFrom_41 rfl) ?_
  refine G_st (x_get (k := 4) (aR (g, 19)) dX1_copyFrom_42 (Hg 15 (Nat.le_of_ble_eq_true rfl) (Nat.le_of_ble_eq_true rfl)) rfl rfl rfl rfl inTX1 (Nat.le_of_ble_eq_true rfl) tw_184 (fun ad => rfl)) ?_
  refine G_st (x_aload_n dX1_copyFrom_45 rfl) ?_
  refine G_st (x_get (k := 4) (aR (h, 19)) dX1_copyFrom_46 (Hh 15 (Nat.le_of_ble_eq_true rfl) (Nat.le_of_ble_eq_true rfl)) rfl rfl rfl rfl inTX1 (Nat.le_of_ble_eq_true rfl) tw_184 (fun ad => rfl)) ?_
  refine G_bd (fun _ t12 h13 => ?_)
  refine G_st (x_callN [] (c_X6_copy ids Hn (g, 19) (h, 19) (Hg 19 (Nat.le_of_ble_eq_true rfl) (Nat.le_of_ble_eq_true rfl)) rfl (Hh 19 (Nat.le_of_ble_eq_true rfl) (Nat.le_of_ble_eq_true rfl)) rfl _ _ _ h13) dX1_copyFrom_49 (List.mem_of_getElem? (i := 11) rfl) kc_X6_copy rfl ⟨Nat.le_of_ble_eq_true rfl, Nat.le_of_ble_eq_true rfl⟩ (Nat.le_of_ble_eq_true rfl) rfl) ?_
  exact G_ret rfl ⟨rfl, dX1_copyFrom_52⟩ rfl
set_option maxRecDepth 100000 in
set_option maxHeartbeats 4000000 in
theorem c_X1_copyFrom (ids : List (Nat × Nat)) (Hn : Ndp ids) (h : Nat) (g : Nat) (Hh : InR ids h 15 19) (Hg : InR ids g 15 19) (t0 : Sg) (r : Unit) (t1 : Sg) (hf : f_X1_copyFrom h g t0 = some (r, t1)) : Mt0 mX1_copyFrom yX1_copyFrom ids [aR (h, 15), aR (g, 15)] t0 none t1 :=
  Mt_of (x := (r, t1)) (g_X1_copyFrom ids Hn h g Hh Hg t0) hf (fun _ _ => trivial) (by decide) rfl Hn (fun _ => rfl) (fun _ => Nat.le_of_ble_eq_true rfl)
theorem dX1_countOf_0 : decode cX1_countOf 0 = .ok (.iconst 0, 1) := by decide +kernel
theorem dX1_countOf_1 : decode cX1_countOf 1 = .ok (.istore_n 2, 1) := by decide +kernel
theorem dX1_countOf_2 : decode cX1_countOf 2 = .ok (.iconst 0, 1) := by decide +kernel
theorem dX1_countOf_3 : decode cX1_countOf 3 = .ok (.istore_n 3, 1) := by decide +kernel
theorem dX1_countOf_4 : decode cX1_countOf 4 = .ok (.iload_n 3, 1) := by decide +kernel
theorem dX1_countOf_5 : decode cX1_countOf 5 = .ok (.aload_n 0, 1) := by decide +kernel
theorem dX1_countOf_6 : decode cX1_countOf 6 = .ok (.getfield 24, 3) := by decide +kernel
theorem dX1_countOf_9 : decode cX1_countOf 9 = .ok (.if_icmp .ge 29, 3) := by decide +kernel
theorem dX1_countOf_12 : decode cX1_countOf 12 = .ok (.iload_n 2, 1) := by decide +kernel
theorem dX1_countOf_13 : decode cX1_countOf 13 = .ok (.aload_n 0, 1) := by decide +kernel
theorem dX1_countOf_14 : decode cX1_countOf 14 = .ok (.getfield 9, 3) := by decide +kernel
theorem dX1_countOf_17 : decode cX1_countOf 17 = .ok (.iload_n 3, 1) := by decide +kernel
theorem dX1_countOf_18 : decode cX1_countOf 18 = .ok (.invokestatic 36, 3) := by decide +kernel
theorem dX1_countOf_21 : decode cX1_countOf 21 = .ok (.iload_n 1, 1) := by decide +kernel
theorem dX1_countOf_22 : decode cX1_countOf 22 = .ok (.if_icmp .ne 7, 3) := by decide +kernel
theorem dX1_countOf_25 : decode cX1_countOf 25 = .ok (.iconst 1, 1) := by decide +kernel
theorem dX1_countOf_26 : decode cX1_countOf 26 = .ok (.goto 4, 3) := by decide +kernel
theorem dX1_countOf_29 : decode cX1_countOf 29 = .ok (.iconst 0, 1) := by decide +kernel
theorem dX1_countOf_30 : decode cX1_countOf 30 = .ok (.iadd, 1) := by decide +kernel
theorem dX1_countOf_31 : decode cX1_countOf 31 = .ok (.istore_n 2, 1) := by decide +kernel
theorem dX1_countOf_32 : decode cX1_countOf 32 = .ok (.iinc 3 1, 3) := by decide +kernel
theorem dX1_countOf_35 : decode cX1_countOf 35 = .ok (.goto (-31), 3) := by decide +kernel
theorem dX1_countOf_38 : decode cX1_countOf 38 = .ok (.iload_n 2, 1) := by decide +kernel
theorem dX1_countOf_39 : decode cX1_countOf 39 = .ok (.ireturn, 1) := by decide +kernel
set_option maxRecDepth 100000 in
set_option maxHeartbeats 4000000 in
theorem g_X1_countOf_4 (ids : List (Nat × Nat)) (Hn : Ndp ids) (h : Nat) (Hh : InR ids h 15 19)  : ∀ (n : Nat) (v1 : Int32) (v2 : Int32) (v3 : Int32) (t0 : Sg), Gj kI mX1_countOf ids 4 [some (aR (h, 15)), some (aI v1), some (aI v2), some (aI v3)] [] t0 (f_X1_countOf_4 h n v1 v2 v3 t0) := by
  intro n
  induction n with
  | zero => intro v1 v2 v3 t0; exact G_none
  | succ n ih =>
    intro v1 v2 v3 t0
    rw [f_X1_countOf_4]
    refine G_st (x_iload_n dX1_countOf_4 rfl) ?_
    refine G_st (x_aload_n dX1_countOf_5 rfl) ?_
    refine G_st (x_get (k := 0) (aI (t0 (h, 15) 0)) dX1_countOf_6 (Hh 15 (Nat.le_of_ble_eq_true rfl) (Nat.le_of_ble_eq_true rfl)) rfl rfl rfl rfl inTX1 (Nat.le_of_ble_eq_true rfl) tw_169 (fun ad => rfl)) ?_
    refine G_ite (fun c1 => ?_) (fun c1 => ?_)
    · refine G_st (x_icmp_ge_t (tgt := 38) dX1_countOf_9 (by decide) c1) ?_
      refine G_st (x_iload_n dX1_countOf_38 rfl) ?_
      exact G_ret rfl ⟨dX1_countOf_39, _, rfl, rfl⟩ rfl
    · refine G_st (x_icmp_ge_f 38 dX1_countOf_9 (by decide) c1) ?_
      refine G_st (x_iload_n dX1_countOf_12 rfl) ?_
      refine G_st (x_aload_n dX1_countOf_13 rfl) ?_
      refine G_st (x_get (k := 1) (aR (h, 16)) dX1_countOf_14 (Hh 15 (Nat.le_of_ble_eq_true rfl) (Nat.le_of_ble_eq_true rfl)) rfl rfl rfl rfl inTX1 (Nat.le_of_ble_eq_true rfl) tw_173 (fun ad => rfl)) ?_
      refine G_st (x_iload_n dX1_countOf_17 rfl) ?_
      refine G_bd (fun x2 t3 h4 => ?_)
      refine G_st (x_callN [aI v2] (c_X6_get ids Hn (h, 16) v3 (Hh 16 (Nat.le_of_ble_eq_true rfl) (Nat.le_of_ble_eq_true rfl)) rfl _ _ _ h4) dX1_countOf_18 (List.mem_of_getElem? (i := 15) rfl) kc_X6_get rfl ⟨Nat.le_of_ble_eq_true rfl, Nat.le_of_ble_eq_true rfl⟩ (Nat.le_of_ble_eq_true rfl) rfl) ?_
      refine G_st (x_iload_n dX1_countOf_21 rfl) ?_
      have e6 : Tj mX1_countOf ids 22 [some (aR (h, 15)), some (aI v1), some (aI v2), some (aI v3)] [aI v1, aI x2, aI v2] t3 30 [some (aR (h, 15)), some (aI v1), some (aI v2), some (aI v3)] [aI (if x2 = v1 then (1 : Int32) else (0 : Int32)), aI v2] t3 := by
        refine Tj.dia (fun c5 => ?_) (fun c5 => ?_)
        · refine Tj.tr (x_icmp_ne_f 29 dX1_countOf_22 (by decide) c5) ?_
          refine Tj.tr (x_iconst (1 : Int32) dX1_countOf_25 rfl) ?_
          refine Tj.tr (x_goto (tgt := 30) dX1_countOf_26 (by decide)) ?_
          exact Tj.rf
        · refine Tj.tr (x_icmp_ne_t (tgt := 29) dX1_countOf_22 (by decide) c5) ?_
          refine Tj.tr (x_iconst (0 : Int32) dX1_countOf_29 rfl) ?_
          exact Tj.rf
      refine G_st e6 ?_
      refine G_st (x_iadd dX1_countOf_30) ?_
      refine G_bvI (fun x7 => ?_)
      refine G_st (x_istore_n [some (aR (h, 15)), some (aI v1), some (aI x7), some (aI v3)] dX1_countOf_31 (Nat.le_of_ble_eq_true rfl) rfl rfl) ?_
      refine G_st (x_iinc (v3 + (1 : Int32)) [some (aR (h, 15)), some (aI v1), some (aI x7), some (aI (v3 + (1 : Int32)))] dX1_countOf_32 (Nat.le_of_ble_eq_true rfl) rfl rfl rfl rfl) ?_
      refine G_st (x_goto (tgt := 4) dX1_countOf_35 (by decide)) ?_
      refine G_weak _ ?_ ((ih) v1 x7 (v3 + (1 : Int32)) t3)
      exact (leL_s (leL_s (leL_s (leL_s (leL_e _)))))
set_option maxRecDepth 100000 in
set_option maxHeartbeats 4000000 in
theorem g_X1_countOf (ids : List (Nat × Nat)) (Hn : Ndp ids) (h : Nat) (v1 : Int32) (Hh : InR ids h 15 19) (t0 : Sg) : Gj kI mX1_countOf ids 0 [some (aR (h, 15)), some (aI v1), none, none] [] t0 (f_X1_countOf h v1 t0) := by
  unfold f_X1_countOf
  refine G_st (x_iconst (0 : Int32) dX1_countOf_0 rfl) ?_
  refine G_st (x_istore_n [some (aR (h, 15)), some (aI v1), some (aI (0 : Int32)), none] dX1_countOf_1 (Nat.le_of_ble_eq_true rfl) rfl rfl) ?_
  refine G_st (x_iconst (0 : Int32) dX1_countOf_2 rfl) ?_
  refine G_st (x_istore_n [some (aR (h, 15)), some (aI v1), some (aI (0 : Int32)), some (aI (0 : Int32))] dX1_countOf_3 (Nat.le_of_ble_eq_true rfl) rfl rfl) ?_
  refine G_weak _ ?_ (g_X1_countOf_4 ids Hn h Hh fuel v1 (0 : Int32) (0 : Int32) t0)
  exact (leL_s (leL_s (leL_s (leL_s (leL_e _)))))
set_option maxRecDepth 100000 in
set_option maxHeartbeats 4000000 in
theorem c_X1_countOf (ids : List (Nat × Nat)) (Hn : Ndp ids) (h : Nat) (v1 : Int32) (Hh : InR ids h 15 19) (t0 : Sg) (r : Int32) (t1 : Sg) (hf : f_X1_countOf h v1 t0 = some (r, t1)) : Mt0 mX1_countOf yX1_countOf ids [aR (h, 15), aI v1] t0 (some (aI r)) t1 :=
  Mt_of (x := (r, t1)) (g_X1_countOf ids Hn h v1 Hh t0) hf (fun _ _ => trivial) (by decide) rfl Hn (fun _ => rfl) (fun _ => Nat.le_of_ble_eq_true rfl)
theorem dX6_within_0 : decode cX6_within 0 = .ok (.iload_n 0, 1) := by decide +kernel
theorem dX6_within_1 : decode cX6_within 1 = .ok (.iload_n 1, 1) := by decide +kernel
theorem dX6_within_2 : decode cX6_within 2 = .ok (.if_icmp .lt 12, 3) := by decide +kernel
theorem dX6_within_5 : decode cX6_within 5 = .ok (.iload_n 0, 1) := by decide +kernel
theorem dX6_within_6 : decode cX6_within 6 = .ok (.iload_n 2, 1) := by decide +kernel
theorem dX6_within_7 : decode cX6_within 7 = .ok (.if_icmp .gt 7, 3) := by decide +kernel
theorem dX6_within_10 : decode cX6_within 10 = .ok (.iconst 1, 1) := by decide +kernel
theorem dX6_within_11 : decode cX6_within 11 = .ok (.goto 4, 3) := by decide +kernel
theorem dX6_within_14 : decode cX6_within 14 = .ok (.iconst 0, 1) := by decide +kernel
theorem dX6_within_15 : decode cX6_within 15 = .ok (.ireturn, 1) := by decide +kernel
set_option maxRecDepth 100000 in
set_option maxHeartbeats 4000000 in
theorem g_X6_within (ids : List (Nat × Nat)) (Hn : Ndp ids) (v0 : Int32) (v1 : Int32) (v2 : Int32)  (t0 : Sg) : Gj kI mX6_within ids 0 [some (aI v0), some (aI v1), some (aI v2)] [] t0 (f_X6_within v0 v1 v2 t0) := by
  unfold f_X6_within
  refine G_st (x_iload_n dX6_within_0 rfl) ?_
  refine G_st (x_iload_n dX6_within_1 rfl) ?_
  have e3 : Tj mX6_within ids 2 [some (aI v0), some (aI v1), some (aI v2)] [aI v1, aI v0] t0 15 [some (aI v0), some (aI v1), some (aI v2)] [aI (if v0 < v1 then (0 : Int32) else (if v2 < v0 then (0 : Int32) else (1 : Int32)))] t0 := by
    refine Tj.dia (fun c1 => ?_) (fun c1 => ?_)
    · refine Tj.tr (x_icmp_lt_t (tgt := 14) dX6_within_2 (by decide) c1) ?_
      refine Tj.tr (x_iconst (0 : Int32) dX6_within_14 rfl) ?_
      exact Tj.rf
    · refine Tj.tr (x_icmp_lt_f 14 dX6_within_2 (by decide) c1) ?_
      refine Tj.tr (x_iload_n dX6_within_5 rfl) ?_
      refine Tj.tr (x_iload_n dX6_within_6 rfl) ?_
      refine Tj.dia (fun c2 => ?_) (fun c2 => ?_)
      · refine Tj.tr (x_icmp_gt_t (tgt := 14) dX6_within_7 (by decide) c2) ?_
        refine Tj.tr (x_iconst (0 : Int32) dX6_within_14 rfl) ?_
        exact Tj.rf
      · refine Tj.tr (x_icmp_gt_f 14 dX6_within_7 (by decide) c2) ?_
        refine Tj.tr (x_iconst (1 : Int32) dX6_within_10 rfl) ?_
        refine Tj.tr (x_goto (tgt := 15) dX6_within_11 (by decide)) ?_
        exact Tj.rf
  refine G_st e3 ?_
  exact G_ret rfl ⟨dX6_within_15, _, rfl, nar_b (b_ite (Or.inl rfl) (b_ite (Or.inl rfl) (Or.inr rfl)))⟩ rfl
set_option maxRecDepth 100000 in
set_option maxHeartbeats 4000000 in
theorem c_X6_within (ids : List (Nat × Nat)) (Hn : Ndp ids) (v0 : Int32) (v1 : Int32) (v2 : Int32)  (t0 : Sg) (r : Int32) (t1 : Sg) (hf : f_X6_within v0 v1 v2 t0 = some (r, t1)) : Mt0 mX6_within yX6_within ids [aI v0, aI v1, aI v2] t0 (some (aI r)) t1 :=
  Mt_of (x := (r, t1)) (g_X6_within ids Hn v0 v1 v2  t0) hf (fun _ _ => trivial) (by decide) rfl Hn (fun _ => rfl) (fun _ => Nat.le_of_ble_eq_true rfl)
theorem dX1_putOff_0 : decode cX1_putOff 0 = .ok (.iload_n 1, 1) := by decide +kernel
theorem dX1_putOff_1 : decode cX1_putOff 1 = .ok (.ifCond .ne 10, 3) := by decide +kernel
theorem dX1_putOff_4 : decode cX1_putOff 4 = .ok (.iload_n 2, 1) := by decide +kernel
theorem dX1_putOff_5 : decode cX1_putOff 5 = .ok (.bipush 7, 2) := by decide +kernel
theorem dX1_putOff_7 : decode cX1_putOff 7 = .ok (.if_icmp .ne 4, 3) := by decide +kernel
theorem dX1_putOff_10 : decode cX1_putOff 10 = .ok (.return_, 1) := by decide +kernel
theorem dX1_putOff_11 : decode cX1_putOff 11 = .ok (.iconst 0, 1) := by decide +kernel
theorem dX1_putOff_12 : decode cX1_putOff 12 = .ok (.istore_n 3, 1) := by decide +kernel
theorem dX1_putOff_13 : decode cX1_putOff 13 = .ok (.iload_n 3, 1) := by decide +kernel
theorem dX1_putOff_14 : decode cX1_putOff 14 = .ok (.aload_n 0, 1) := by decide +kernel
theorem dX1_putOff_15 : decode cX1_putOff 15 = .ok (.getfield 24, 3) := by decide +kernel
theorem dX1_putOff_18 : decode cX1_putOff 18 = .ok (.if_icmp .ge 46, 3) := by decide +kernel
theorem dX1_putOff_21 : decode cX1_putOff 21 = .ok (.aload_n 0, 1) := by decide +kernel
theorem dX1_putOff_22 : decode cX1_putOff 22 = .ok (.getfield 21, 3) := by decide +kernel
theorem dX1_putOff_25 : decode cX1_putOff 25 = .ok (.iload_n 3, 1) := by decide +kernel
theorem dX1_putOff_26 : decode cX1_putOff 26 = .ok (.invokestatic 36, 3) := by decide +kernel
theorem dX1_putOff_29 : decode cX1_putOff 29 = .ok (.iload_n 1, 1) := by decide +kernel
theorem dX1_putOff_30 : decode cX1_putOff 30 = .ok (.iload_n 2, 1) := by decide +kernel
theorem dX1_putOff_31 : decode cX1_putOff 31 = .ok (.invokestatic 40, 3) := by decide +kernel
theorem dX1_putOff_34 : decode cX1_putOff 34 = .ok (.ifCond .eq 24, 3) := by decide +kernel
theorem dX1_putOff_37 : decode cX1_putOff 37 = .ok (.aload_n 0, 1) := by decide +kernel
theorem dX1_putOff_38 : decode cX1_putOff 38 = .ok (.getfield 21, 3) := by decide +kernel
theorem dX1_putOff_41 : decode cX1_putOff 41 = .ok (.iload_n 3, 1) := by decide +kernel
theorem dX1_putOff_42 : decode cX1_putOff 42 = .ok (.iload_n 2, 1) := by decide +kernel
theorem dX1_putOff_43 : decode cX1_putOff 43 = .ok (.bipush 7, 2) := by decide +kernel
theorem dX1_putOff_45 : decode cX1_putOff 45 = .ok (.if_icmp .ne 7, 3) := by decide +kernel
theorem dX1_putOff_48 : decode cX1_putOff 48 = .ok (.iconst 0, 1) := by decide +kernel
theorem dX1_putOff_49 : decode cX1_putOff 49 = .ok (.goto 6, 3) := by decide +kernel
theorem dX1_putOff_52 : decode cX1_putOff 52 = .ok (.iload_n 2, 1) := by decide +kernel
theorem dX1_putOff_53 : decode cX1_putOff 53 = .ok (.iconst 1, 1) := by decide +kernel
theorem dX1_putOff_54 : decode cX1_putOff 54 = .ok (.iadd, 1) := by decide +kernel
theorem dX1_putOff_55 : decode cX1_putOff 55 = .ok (.invokestatic 28, 3) := by decide +kernel
theorem dX1_putOff_58 : decode cX1_putOff 58 = .ok (.iinc 3 1, 3) := by decide +kernel
theorem dX1_putOff_61 : decode cX1_putOff 61 = .ok (.goto (-48), 3) := by decide +kernel
theorem dX1_putOff_64 : decode cX1_putOff 64 = .ok (.return_, 1) := by decide +kernel
set_option maxRecDepth 100000 in
set_option maxHeartbeats 4000000 in
theorem g_X1_putOff_58 (ids : List (Nat × Nat)) (Hn : Ndp ids) (h : Nat) (Hh : InR ids h 15 19) (k13 : Int32 → Int32 → Int32 → Sg → Option (Unit × Sg)) (hk13 : ∀ (v1 : Int32) (v2 : Int32) (v3 : Int32) (t0 : Sg), Gj kV mX1_putOff ids 13 [some (aR (h, 15)), some (aI v1), some (aI v2), some (aI v3)] [] t0 (k13 v1 v2 v3 t0)) (v1 : Int32) (v2 : Int32) (v3 : Int32) (t0 : Sg) : Gj kV mX1_putOff ids 58 [some (aR (h, 15)), some (aI v1), some (aI v2), some (aI v3)] [] t0 (f_X1_putOff_58 h k13 v1 v2 v3 t0) := by
  unfold f_X1_putOff_58
  refine G_st (x_iinc (v3 + (1 : Int32)) [some (aR (h, 15)), some (aI v1), some (aI v2), some (aI (v3 + (1 : Int32)))] dX1_putOff_58 (Nat.le_of_ble_eq_true rfl) rfl rfl rfl rfl) ?_
  refine G_st (x_goto (tgt := 13) dX1_putOff_61 (by decide)) ?_
  refine G_weak _ ?_ (hk13 v1 v2 (v3 + (1 : Int32)) t0)
  exact (leL_s (leL_s (leL_s (leL_s (leL_e _)))))
set_option maxRecDepth 100000 in
set_option maxHeartbeats 4000000 in
theorem g_X1_putOff_13 (ids : List (Nat × Nat)) (Hn : Ndp ids) (h : Nat) (Hh : InR ids h 15 19)  : ∀ (n : Nat) (v1 : Int32) (v2 : Int32) (v3 : Int32) (t0 : Sg), Gj kV mX1_putOff ids 13 [some (aR (h, 15)), some (aI v1), some (aI v2), some (aI v3)] [] t0 (f_X1_putOff_13 h n v1 v2 v3 t0) := by
  intro n
  induction n with
  | zero => intro v1 v2 v3 t0; exact G_none
  | succ n ih =>
    intro v1 v2 v3 t0
    rw [f_X1_putOff_13]
    refine G_st (x_iload_n dX1_putOff_13 rfl) ?_
    refine G_st (x_aload_n dX1_putOff_14 rfl) ?_
    refine G_st (x_get (k := 0) (aI (t0 (h, 15) 0)) dX1_putOff_15 (Hh 15 (Nat.le_of_ble_eq_true rfl) (Nat.le_of_ble_eq_true rfl)) rfl rfl rfl rfl inTX1 (Nat.le_of_ble_eq_true rfl) tw_169 (fun ad => rfl)) ?_
    refine G_ite (fun c3 => ?_) (fun c3 => ?_)
    · refine G_st (x_icmp_ge_t (tgt := 64) dX1_putOff_18 (by decide) c3) ?_
      exact G_ret rfl ⟨rfl, dX1_putOff_64⟩ rfl
    · refine G_st (x_icmp_ge_f 64 dX1_putOff_18 (by decide) c3) ?_
      refine G_st (x_aload_n dX1_putOff_21 rfl) ?_
      refine G_st (x_get (k := 4) (aR (h, 19)) dX1_putOff_22 (Hh 15 (Nat.le_of_ble_eq_true rfl) (Nat.le_of_ble_eq_true rfl)) rfl rfl rfl rfl inTX1 (Nat.le_of_ble_eq_true rfl) tw_184 (fun ad => rfl)) ?_
      refine G_st (x_iload_n dX1_putOff_25 rfl) ?_
      refine G_bd (fun x4 t5 h6 => ?_)
      refine G_st (x_callN [] (c_X6_get ids Hn (h, 19) v3 (Hh 19 (Nat.le_of_ble_eq_true rfl) (Nat.le_of_ble_eq_true rfl)) rfl _ _ _ h6) dX1_putOff_26 (List.mem_of_getElem? (i := 15) rfl) kc_X6_get rfl ⟨Nat.le_of_ble_eq_true rfl, Nat.le_of_ble_eq_true rfl⟩ (Nat.le_of_ble_eq_true rfl) rfl) ?_
      refine G_st (x_iload_n dX1_putOff_29 rfl) ?_
      refine G_st (x_iload_n dX1_putOff_30 rfl) ?_
      refine G_bd (fun x7 t8 h9 => ?_)
      refine G_st (x_callN [] (c_X6_within ids Hn x4 v1 v2  _ _ _ h9) dX1_putOff_31 (List.mem_of_getElem? (i := 22) rfl) kc_X6_within rfl ⟨Nat.le_of_ble_eq_true rfl, Nat.le_of_ble_eq_true rfl⟩ (Nat.le_of_ble_eq_true rfl) rfl) ?_
      refine G_ite (fun c10 => ?_) (fun c10 => ?_)
      · refine G_st (x_if_eq_t (tgt := 58) dX1_putOff_34 (by decide) c10) ?_
        refine G_weak _ ?_ (g_X1_putOff_58 ids Hn h Hh (f_X1_putOff_13 h n) (ih) v1 v2 v3 t8)
        exact (leL_s (leL_s (leL_s (leL_s (leL_e _)))))
      · refine G_st (x_if_eq_f 58 dX1_putOff_34 (by decide) c10) ?_
        refine G_st (x_aload_n dX1_putOff_37 rfl) ?_
        refine G_st (x_get (k := 4) (aR (h, 19)) dX1_putOff_38 (Hh 15 (Nat.le_of_ble_eq_true rfl) (Nat.le_of_ble_eq_true rfl)) rfl rfl rfl rfl inTX1 (Nat.le_of_ble_eq_true rfl) tw_184 (fun ad => rfl)) ?_
        refine G_st (x_iload_n dX1_putOff_41 rfl) ?_
        refine G_st (x_iload_n dX1_putOff_42 rfl) ?_
        refine G_st (x_bipush (7 : Int32) dX1_putOff_43 rfl) ?_
        have e12 : Tj mX1_putOff ids 45 [some (aR (h, 15)), some (aI v1), some (aI v2), some (aI v3)] [aI (7 : Int32), aI v2, aI v3, aR (h, 19)] t8 55 [some (aR (h, 15)), some (aI v1), some (aI v2), some (aI v3)] [aI (if v2 = (7 : Int32) then (0 : Int32) else (v2 + (1 : Int32))), aI v3, aR (h, 19)] t8 := by
          refine Tj.dia (fun c11 => ?_) (fun c11 => ?_)
          · refine Tj.tr (x_icmp_ne_f 52 dX1_putOff_45 (by decide) c11) ?_
            refine Tj.tr (x_iconst (0 : Int32) dX1_putOff_48 rfl) ?_
            refine Tj.tr (x_goto (tgt := 55) dX1_putOff_49 (by decide)) ?_
            exact Tj.rf
          · refine Tj.tr (x_icmp_ne_t (tgt := 52) dX1_putOff_45 (by decide) c11) ?_
            refine Tj.tr (x_iload_n dX1_putOff_52 rfl) ?_
            refine Tj.tr (x_iconst (1 : Int32) dX1_putOff_53 rfl) ?_
            refine Tj.tr (x_iadd dX1_putOff_54) ?_
            exact Tj.rf
        refine G_st e12 ?_
        refine G_bd (fun _ t14 h15 => ?_)
        refine G_st (x_callN [] (c_X6_set ids Hn (h, 19) v3 (if v2 = (7 : Int32) then (0 : Int32) else (v2 + (1 : Int32))) (Hh 19 (Nat.le_of_ble_eq_true rfl) (Nat.le_of_ble_eq_true rfl)) rfl _ _ _ h15) dX1_putOff_55 (List.mem_of_getElem? (i := 13) rfl) kc_X6_set rfl ⟨Nat.le_of_ble_eq_true rfl, Nat.le_of_ble_eq_true rfl⟩ (Nat.le_of_ble_eq_true rfl) rfl) ?_
        refine G_weak _ ?_ (g_X1_putOff_58 ids Hn h Hh (f_X1_putOff_13 h n) (ih) v1 v2 v3 t14)
        exact (leL_s (leL_s (leL_s (leL_s (leL_e _)))))
set_option maxRecDepth 100000 in
set_option maxHeartbeats 4000000 in
theorem g_X1_putOff_11 (ids : List (Nat × Nat)) (Hn : Ndp ids) (h : Nat) (Hh : InR ids h 15 19)  (v1 : Int32) (v2 : Int32) (t0 : Sg) : Gj kV mX1_putOff ids 11 [some (aR (h, 15)), some (aI v1), some (aI v2), none] [] t0 (f_X1_putOff_11 h v1 v2 t0) := by
  unfold f_X1_putOff_11
  refine G_st (x_iconst (0 : Int32) dX1_putOff_11 rfl) ?_
  refine G_st (x_istore_n [some (aR (h, 15)), some (aI v1), some (aI v2), some (aI (0 : Int32))] dX1_putOff_12 (Nat.le_of_ble_eq_true rfl) rfl rfl) ?_
  refine G_weak _ ?_ (g_X1_putOff_13 ids Hn h Hh fuel v1 v2 (0 : Int32) t0)
  exact (leL_s (leL_s (leL_s (leL_s (leL_e _)))))
set_option maxRecDepth 100000 in
set_option maxHeartbeats 4000000 in
theorem g_X1_putOff (ids : List (Nat × Nat)) (Hn : Ndp ids) (h : Nat) (v1 : Int32) (v2 : Int32) (Hh : InR ids h 15 19) (t0 : Sg) : Gj kV mX1_putOff ids 0 [some (aR (h, 15)), some (aI v1), some (aI v2), none] [] t0 (f_X1_putOff h v1 v2 t0) := by
  unfold f_X1_putOff
  refine G_st (x_iload_n dX1_putOff_0 rfl) ?_
  refine G_ite (fun c1 => ?_) (fun c1 => ?_)
  · refine G_st (x_if_ne_f 11 dX1_putOff_1 (by decide) c1) ?_
    refine G_st (x_iload_n dX1_putOff_4 rfl) ?_
    refine G_st (x_bipush (7 : Int32) dX1_putOff_5 rfl) ?_
    refine G_ite (fun c2 => ?_) (fun c2 => ?_)
    · refine G_st (x_icmp_ne_f 11 dX1_putOff_7 (by decide) c2) ?_
      exact G_ret rfl ⟨rfl, dX1_putOff_10⟩ rfl
    · refine G_st (x_icmp_ne_t (tgt := 11) dX1_putOff_7 (by decide) c2) ?_
      refine G_weak _ ?_ (g_X1_putOff_11 ids Hn h Hh v1 v2 t0)
      exact (leL_s (leL_s (leL_s (leL_n (leL_e _)))))
  · refine G_st (x_if_ne_t (tgt := 11) dX1_putOff_1 (by decide) c1) ?_
    refine G_weak _ ?_ (g_X1_putOff_11 ids Hn h Hh v1 v2 t0)
    exact (leL_s (leL_s (leL_s (leL_n (leL_e _)))))
set_option maxRecDepth 100000 in
set_option maxHeartbeats 4000000 in
theorem c_X1_putOff (ids : List (Nat × Nat)) (Hn : Ndp ids) (h : Nat) (v1 : Int32) (v2 : Int32) (Hh : InR ids h 15 19) (t0 : Sg) (r : Unit) (t1 : Sg) (hf : f_X1_putOff h v1 v2 t0 = some (r, t1)) : Mt0 mX1_putOff yX1_putOff ids [aR (h, 15), aI v1, aI v2] t0 none t1 :=
  Mt_of (x := (r, t1)) (g_X1_putOff ids Hn h v1 v2 Hh t0) hf (fun _ _ => trivial) (by decide) rfl Hn (fun _ => rfl) (fun _ => Nat.le_of_ble_eq_true rfl)
theorem dX1_raise_0 : decode cX1_raise 0 = .ok (.iconst 0, 1) := by decide +kernel
theorem dX1_raise_1 : decode cX1_raise 1 = .ok (.istore_n 2, 1) := by decide +kernel
theorem dX1_raise_2 : decode cX1_raise 2 = .ok (.iload_n 2, 1) := by decide +kernel
theorem dX1_raise_3 : decode cX1_raise 3 = .ok (.aload_n 0, 1) := by decide +kernel
theorem dX1_raise_4 : decode cX1_raise 4 = .ok (.getfield 24, 3) := by decide +kernel
theorem dX1_raise_7 : decode cX1_raise 7 = .ok (.if_icmp .ge 44, 3) := by decide +kernel
theorem dX1_raise_10 : decode cX1_raise 10 = .ok (.aload_n 0, 1) := by decide +kernel
theorem dX1_raise_11 : decode cX1_raise 11 = .ok (.getfield 9, 3) := by decide +kernel
theorem dX1_raise_14 : decode cX1_raise 14 = .ok (.iload_n 2, 1) := by decide +kernel
theorem dX1_raise_15 : decode cX1_raise 15 = .ok (.invokestatic 36, 3) := by decide +kernel
theorem dX1_raise_18 : decode cX1_raise 18 = .ok (.iload_n 1, 1) := by decide +kernel
theorem dX1_raise_19 : decode cX1_raise 19 = .ok (.if_icmp .ne 26, 3) := by decide +kernel
theorem dX1_raise_22 : decode cX1_raise 22 = .ok (.aload_n 0, 1) := by decide +kernel
theorem dX1_raise_23 : decode cX1_raise 23 = .ok (.getfield 18, 3) := by decide +kernel
theorem dX1_raise_26 : decode cX1_raise 26 = .ok (.iload_n 2, 1) := by decide +kernel
theorem dX1_raise_27 : decode cX1_raise 27 = .ok (.bipush 9, 2) := by decide +kernel
theorem dX1_raise_29 : decode cX1_raise 29 = .ok (.aload_n 0, 1) := by decide +kernel
theorem dX1_raise_30 : decode cX1_raise 30 = .ok (.getfield 18, 3) := by decide +kernel
theorem dX1_raise_33 : decode cX1_raise 33 = .ok (.iload_n 2, 1) := by decide +kernel
theorem dX1_raise_34 : decode cX1_raise 34 = .ok (.invokestatic 36, 3) := by decide +kernel
theorem dX1_raise_37 : decode cX1_raise 37 = .ok (.iconst 1, 1) := by decide +kernel
theorem dX1_raise_38 : decode cX1_raise 38 = .ok (.iadd, 1) := by decide +kernel
theorem dX1_raise_39 : decode cX1_raise 39 = .ok (.invokestatic 44, 3) := by decide +kernel
theorem dX1_raise_42 : decode cX1_raise 42 = .ok (.invokestatic 28, 3) := by decide +kernel
theorem dX1_raise_45 : decode cX1_raise 45 = .ok (.iinc 2 1, 3) := by decide +kernel
theorem dX1_raise_48 : decode cX1_raise 48 = .ok (.goto (-46), 3) := by decide +kernel
theorem dX1_raise_51 : decode cX1_raise 51 = .ok (.return_, 1) := by decide +kernel
set_option maxRecDepth 100000 in
set_option maxHeartbeats 4000000 in
theorem g_X1_raise_45 (ids : List (Nat × Nat)) (Hn : Ndp ids) (h : Nat) (Hh : InR ids h 15 19) (k2 : Int32 → Int32 → Sg → Option (Unit × Sg)) (hk2 : ∀ (v1 : Int32) (v2 : Int32) (t0 : Sg), Gj kV mX1_raise ids 2 [some (aR (h, 15)), some (aI v1), some (aI v2)] [] t0 (k2 v1 v2 t0)) (v1 : Int32) (v2 : Int32) (t0 : Sg) : Gj kV mX1_raise ids 45 [some (aR (h, 15)), some (aI v1), some (aI v2)] [] t0 (f_X1_raise_45 h k2 v1 v2 t0) := by
  unfold f_X1_raise_45
  refine G_st (x_iinc (v2 + (1 : Int32)) [some (aR (h, 15)), some (aI v1), some (aI (v2 + (1 : Int32)))] dX1_raise_45 (Nat.le_of_ble_eq_true rfl) rfl rfl rfl rfl) ?_
  refine G_st (x_goto (tgt := 2) dX1_raise_48 (by decide)) ?_
  refine G_weak _ ?_ (hk2 v1 (v2 + (1 : Int32)) t0)
  exact (leL_s (leL_s (leL_s (leL_e _))))
set_option maxRecDepth 100000 in
set_option maxHeartbeats 4000000 in
theorem g_X1_raise_2 (ids : List (Nat × Nat)) (Hn : Ndp ids) (h : Nat) (Hh : InR ids h 15 19)  : ∀ (n : Nat) (v1 : Int32) (v2 : Int32) (t0 : Sg), Gj kV mX1_raise ids 2 [some (aR (h, 15)), some (aI v1), some (aI v2)] [] t0 (f_X1_raise_2 h n v1 v2 t0) := by
  intro n
  induction n with
  | zero => intro v1 v2 t0; exact G_none
  | succ n ih =>
    intro v1 v2 t0
    rw [f_X1_raise_2]
    refine G_st (x_iload_n dX1_raise_2 rfl) ?_
    refine G_st (x_aload_n dX1_raise_3 rfl) ?_
    refine G_st (x_get (k := 0) (aI (t0 (h, 15) 0)) dX1_raise_4 (Hh 15 (Nat.le_of_ble_eq_true rfl) (Nat.le_of_ble_eq_true rfl)) rfl rfl rfl rfl inTX1 (Nat.le_of_ble_eq_true rfl) tw_169 (fun ad => rfl)) ?_
    refine G_ite (fun c1 => ?_) (fun c1 => ?_)
    · refine G_st (x_icmp_ge_t (tgt := 51) dX1_raise_7 (by decide) c1) ?_
      exact G_ret rfl ⟨rfl, dX1_raise_51⟩ rfl
    · refine G_st (x_icmp_ge_f 51 dX1_raise_7 (by decide) c1) ?_
      refine G_st (x_aload_n dX1_raise_10 rfl) ?_
      refine G_st (x_get (k := 1) (aR (h, 16)) dX1_raise_11 (Hh 15 (Nat.le_of_ble_eq_true rfl) (Nat.le_of_ble_eq_true rfl)) rfl rfl rfl rfl inTX1 (Nat.le_of_ble_eq_true rfl) tw_173 (fun ad => rfl)) ?_
      refine G_st (x_iload_n dX1_raise_14 rfl) ?_
      refine G_bd (fun x2 t3 h4 => ?_)
      refine G_st (x_callN [] (c_X6_get ids Hn (h, 16) v2 (Hh 16 (Nat.le_of_ble_eq_true rfl) (Nat.le_of_ble_eq_true rfl)) rfl _ _ _ h4) dX1_raise_15 (List.mem_of_getElem? (i := 15) rfl) kc_X6_get rfl ⟨Nat.le_of_ble_eq_true rfl, Nat.le_of_ble_eq_true rfl⟩ (Nat.le_of_ble_eq_true rfl) rfl) ?_
      refine G_st (x_iload_n dX1_raise_18 rfl) ?_
      refine G_ite (fun c5 => ?_) (fun c5 => ?_)
      · refine G_st (x_icmp_ne_f 45 dX1_raise_19 (by decide) c5) ?_
        refine G_st (x_aload_n dX1_raise_22 rfl) ?_
        refine G_st (x_get (k := 3) (aR (h, 18)) dX1_raise_23 (Hh 15 (Nat.le_of_ble_eq_true rfl) (Nat.le_of_ble_eq_true rfl)) rfl rfl rfl rfl inTX1 (Nat.le_of_ble_eq_true rfl) tw_181 (fun ad => rfl)) ?_
        refine G_st (x_iload_n dX1_raise_26 rfl) ?_
        refine G_st (x_bipush (9 : Int32) dX1_raise_27 rfl) ?_
        refine G_st (x_aload_n dX1_raise_29 rfl) ?_
        refine G_st (x_get (k := 3) (aR (h, 18)) dX1_raise_30 (Hh 15 (Nat.le_of_ble_eq_true rfl) (Nat.le_of_ble_eq_true rfl)) rfl rfl rfl rfl inTX1 (Nat.le_of_ble_eq_true rfl) tw_181 (fun ad => rfl)) ?_
        refine G_st (x_iload_n dX1_raise_33 rfl) ?_
        refine G_bd (fun x6 t7 h8 => ?_)
        refine G_st (x_callN [aI (9 : Int32), aI v2, aR (h, 18)] (c_X6_get ids Hn (h, 18) v2 (Hh 18 (Nat.le_of_ble_eq_true rfl) (Nat.le_of_ble_eq_true rfl)) rfl _ _ _ h8) dX1_raise_34 (List.mem_of_getElem? (i := 15) rfl) kc_X6_get rfl ⟨Nat.le_of_ble_eq_true rfl, Nat.le_of_ble_eq_true rfl⟩ (Nat.le_of_ble_eq_true rfl) rfl) ?_
        refine G_st (x_iconst (1 : Int32) dX1_raise_37 rfl) ?_
        refine G_st (x_iadd dX1_raise_38) ?_
        refine G_st (x_mmin dX1_raise_39 tw_786 tw_444 tw_74 tw_445 ⟨Nat.le_of_ble_eq_true rfl, Nat.le_of_ble_eq_true rfl⟩ (Nat.le_of_ble_eq_true rfl)) ?_
        refine G_bd (fun _ t10 h11 => ?_)
        refine G_st (x_callN [] (c_X6_set ids Hn (h, 18) v2 (jmin (9 : Int32) (x6 + (1 : Int32))) (Hh 18 (Nat.le_of_ble_eq_true rfl) (Nat.le_of_ble_eq_true rfl)) rfl _ _ _ h11) dX1_raise_42 (List.mem_of_getElem? (i := 13) rfl) kc_X6_set rfl ⟨Nat.le_of_ble_eq_true rfl, Nat.le_of_ble_eq_true rfl⟩ (Nat.le_of_ble_eq_true rfl) rfl) ?_
        refine G_weak _ ?_ (g_X1_raise_45 ids Hn h Hh (f_X1_raise_2 h n) (ih) v1 v2 t10)
        exact (leL_s (leL_s (leL_s (leL_e _))))
      · refine G_st (x_icmp_ne_t (tgt := 45) dX1_raise_19 (by decide) c5) ?_
        refine G_weak _ ?_ (g_X1_raise_45 ids Hn h Hh (f_X1_raise_2 h n) (ih) v1 v2 t3)
        exact (leL_s (leL_s (leL_s (leL_e _))))
set_option maxRecDepth 100000 in
set_option maxHeartbeats 4000000 in
theorem g_X1_raise (ids : List (Nat × Nat)) (Hn : Ndp ids) (h : Nat) (v1 : Int32) (Hh : InR ids h 15 19) (t0 : Sg) : Gj kV mX1_raise ids 0 [some (aR (h, 15)), some (aI v1), none] [] t0 (f_X1_raise h v1 t0) := by
  unfold f_X1_raise
  refine G_st (x_iconst (0 : Int32) dX1_raise_0 rfl) ?_
  refine G_st (x_istore_n [some (aR (h, 15)), some (aI v1), some (aI (0 : Int32))] dX1_raise_1 (Nat.le_of_ble_eq_true rfl) rfl rfl) ?_
  refine G_weak _ ?_ (g_X1_raise_2 ids Hn h Hh fuel v1 (0 : Int32) t0)
  exact (leL_s (leL_s (leL_s (leL_e _))))
set_option maxRecDepth 100000 in
set_option maxHeartbeats 4000000 in
theorem c_X1_raise (ids : List (Nat × Nat)) (Hn : Ndp ids) (h : Nat) (v1 : Int32) (Hh : InR ids h 15 19) (t0 : Sg) (r : Unit) (t1 : Sg) (hf : f_X1_raise h v1 t0 = some (r, t1)) : Mt0 mX1_raise yX1_raise ids [aR (h, 15), aI v1] t0 none t1 :=
  Mt_of (x := (r, t1)) (g_X1_raise ids Hn h v1 Hh t0) hf (fun _ _ => trivial) (by decide) rfl Hn (fun _ => rfl) (fun _ => Nat.le_of_ble_eq_true rfl)
theorem dX3_copyFrom_0 : decode cX3_copyFrom 0 = .ok (.aload_n 1, 1) := by decide +kernel
theorem dX3_copyFrom_1 : decode cX3_copyFrom 1 = .ok (.getfield 9, 3) := by decide +kernel
theorem dX3_copyFrom_4 : decode cX3_copyFrom 4 = .ok (.aload_n 0, 1) := by decide +kernel
theorem dX3_copyFrom_5 : decode cX3_copyFrom 5 = .ok (.getfield 9, 3) := by decide +kernel
theorem dX3_copyFrom_8 : decode cX3_copyFrom 8 = .ok (.invokestatic 33, 3) := by decide +kernel
theorem dX3_copyFrom_11 : decode cX3_copyFrom 11 = .ok (.aload_n 1, 1) := by decide +kernel
theorem dX3_copyFrom_12 : decode cX3_copyFrom 12 = .ok (.getfield 15, 3) := by decide +kernel
theorem dX3_copyFrom_15 : decode cX3_copyFrom 15 = .ok (.aload_n 0, 1) := by decide +kernel
theorem dX3_copyFrom_16 : decode cX3_copyFrom 16 = .ok (.getfield 15, 3) := by decide +kernel
theorem dX3_copyFrom_19 : decode cX3_copyFrom 19 = .ok (.invokestatic 33, 3) := by decide +kernel
theorem dX3_copyFrom_22 : decode cX3_copyFrom 22 = .ok (.aload_n 1, 1) := by decide +kernel
theorem dX3_copyFrom_23 : decode cX3_copyFrom 23 = .ok (.getfield 18, 3) := by decide +kernel
theorem dX3_copyFrom_26 : decode cX3_copyFrom 26 = .ok (.aload_n 0, 1) := by decide +kernel
theorem dX3_copyFrom_27 : decode cX3_copyFrom 27 = .ok (.getfield 18, 3) := by decide +kernel
theorem dX3_copyFrom_30 : decode cX3_copyFrom 30 = .ok (.invokestatic 33, 3) := by decide +kernel
theorem dX3_copyFrom_33 : decode cX3_copyFrom 33 = .ok (.aload_n 1, 1) := by decide +kernel
theorem dX3_copyFrom_34 : decode cX3_copyFrom 34 = .ok (.getfield 21, 3) := by decide +kernel
theorem dX3_copyFrom_37 : decode cX3_copyFrom 37 = .ok (.aload_n 0, 1) := by decide +kernel
theorem dX3_copyFrom_38 : decode cX3_copyFrom 38 = .ok (.getfield 21, 3) := by decide +kernel
theorem dX3_copyFrom_41 : decode cX3_copyFrom 41 = .ok (.invokestatic 33, 3) := by decide +kernel
theorem dX3_copyFrom_44 : decode cX3_copyFrom 44 = .ok (.aload_n 0, 1) := by decide +kernel
theorem dX3_copyFrom_45 : decode cX3_copyFrom 45 = .ok (.aload_n 1, 1) := by decide +kernel
theorem dX3_copyFrom_46 : decode cX3_copyFrom 46 = .ok (.getfield 37, 3) := by decide +kernel
theorem dX3_copyFrom_49 : decode cX3_copyFrom 49 = .ok (.putfield 37, 3) := by decide +kernel
theorem dX3_copyFrom_52 : decode cX3_copyFrom 52 = .ok (.return_, 1) := by decide +kernel
set_option maxRecDepth 100000 in
set_option maxHeartbeats 4000000 in
theorem g_X3_copyFrom (ids : List (Nat × Nat)) (Hn : Ndp ids) (h : Nat) (g : Nat) (Hh : InR ids h 20 24) (Hg : InR ids g 20 24) (t0 : Sg) : Gj kV mX3_copyFrom ids 0 [some (aR (h, 20)), some (aR (g, 20))] [] t0 (f_X3_copyFrom h g t0) := by
  unfold f_X3_copyFrom
  refine G_st (x_aload_n dX3_copyFrom_0 rfl) ?_
  refine G_st (x_get (k := 0) (aR (g, 21)) dX3_copyFrom_1 (Hg 20 (Nat.le_of_ble_eq_true rfl) (Nat.le_of_ble_eq_true rfl)) rfl rfl rfl rfl inTX3 (Nat.le_of_ble_eq_true rfl) tw_204 (fun ad => rfl)) ?_
  refine G_st (x_aload_n dX3_copyFrom_4 rfl) ?_
  refine G_st (x_get (k := 0) (aR (h, 21)) dX3_copyFrom_5 (Hh 20 (Nat.le_of_ble_eq_true rfl) (Nat.le_of_ble_eq_true rfl)) rfl rfl rfl rfl inTX3 (Nat.le_of_ble_eq_true rfl) tw_204 (fun ad => rfl)) ?_
  refine G_bd (fun _ t2 h3 => ?_)
  refine G_st (x_callN [] (c_X6_copy ids Hn (g, 21) (h, 21) (Hg 21 (Nat.le_of_ble_eq_true rfl) (Nat.le_of_ble_eq_true rfl)) rfl (Hh 21 (Nat.le_of_ble_eq_true rfl) (Nat.le_of_ble_eq_true rfl)) rfl _ _ _ h3) dX3_copyFrom_8 (List.mem_of_getElem? (i := 12) rfl) kc_X6_copy rfl ⟨Nat.le_of_ble_eq_true rfl, Nat.le_of_ble_eq_true rfl⟩ (Nat.le_of_ble_eq_true rfl) rfl) ?_
  refine G_st (x_aload_n dX3_copyFrom_11 rfl) ?_
  refine G_st (x_get (k := 1) (aR (g, 22)) dX3_copyFrom_12 (Hg 20 (Nat.le_of_ble_eq_true rfl) (Nat.le_of_ble_eq_true rfl)) rfl rfl rfl rfl inTX3 (Nat.le_of_ble_eq_true rfl) tw_206 (fun ad => rfl)) ?_
  refine G_st (x_aload_n dX3_copyFrom_15 rfl) ?_
  refine G_st (x_get (k := 1) (aR (h, 22)) dX3_copyFrom_16 (Hh 20 (Nat.le_of_ble_eq_true rfl) (Nat.le_of_ble_eq_true rfl)) rfl rfl rfl rfl inTX3 (Nat.le_of_ble_eq_true rfl) tw_206 (fun ad => rfl)) ?_
  refine G_bd (fun _ t5 h6 => ?_)
  refine G_st (x_callN [] (c_X6_copy ids Hn (g, 22) (h, 22) (Hg 22 (Nat.le_of_ble_eq_true rfl) (Nat.le_of_ble_eq_true rfl)) rfl (Hh 22 (Nat.le_of_ble_eq_true rfl) (Nat.le_of_ble_eq_true rfl)) rfl _ _ _ h6) dX3_copyFrom_19 (List.mem_of_getElem? (i := 12) rfl) kc_X6_copy rfl ⟨Nat.le_of_ble_eq_true rfl, Nat.le_of_ble_eq_true rfl⟩ (Nat.le_of_ble_eq_true rfl) rfl) ?_
  refine G_st (x_aload_n dX3_copyFrom_22 rfl) ?_
  refine G_st (x_get (k := 2) (aR (g, 23)) dX3_copyFrom_23 (Hg 20 (Nat.le_of_ble_eq_true rfl) (Nat.le_of_ble_eq_true rfl)) rfl rfl rfl rfl inTX3 (Nat.le_of_ble_eq_true rfl) tw_208 (fun ad => rfl)) ?_
  refine G_st (x_aload_n dX3_copyFrom_26 rfl) ?_
  refine G_st (x_get (k := 2) (aR (h, 23)) dX3_copyFrom_27 (Hh 20 (Nat.le_of_ble_eq_true rfl) (Nat.le_of_ble_eq_true rfl)) rfl rfl rfl rfl inTX3 (Nat.le_of_ble_eq_true rfl) tw_208 (fun ad => rfl)) ?_
  refine G_bd (fun _ t8 h9 => ?_)
  refine G_st (x_callN [] (c_X6_copy ids Hn (g, 23) (h, 23) (Hg 23 (Nat.le_of_ble_eq_true rfl) (Nat.le_of_ble_eq_true rfl)) rfl (Hh 23 (Nat.le_of_ble_eq_true rfl) (Nat.le_of_ble_eq_true rfl)) rfl _ _ _ h9) dX3_copyFrom_30 (List.mem_of_getElem? (i := 12) rfl) kc_X6_copy rfl ⟨Nat.le_of_ble_eq_true rfl, Nat.le_of_ble_eq_true rfl⟩ (Nat.le_of_ble_eq_true rfl) rfl) ?_
  refine G_st (x_aload_n dX3_copyFrom_33 rfl) ?_
  refine G_st (x_get (k := 3) (aR (g, 24)) dX3_copyFrom_34 (Hg 20 (Nat.le_of_ble_eq_true rfl) (Nat.le_of_ble_eq_true rfl)) rfl rfl rfl rfl inTX3 (Nat.le_of_ble_eq_true rfl) tw_210 (fun ad => rfl)) ?_
  refine G_st (x_aload_n dX3_copyFrom_37 rfl) ?_
  refine G_st (x_get (k := 3) (aR (h, 24)) dX3_copyFrom_38 (Hh 20 (Nat.le_of_ble_eq_true rfl) (Nat.le_of_ble_eq_true rfl)) rfl rfl rfl rfl inTX3 (Nat.le_of_ble_eq_true rfl) tw_210 (fun ad => rfl)) ?_
  refine G_bd (fun _ t11 h12 => ?_)
  refine G_st (x_callN [] (c_X6_copy ids Hn (g, 24) (h, 24) (Hg 24 (Nat.le_of_ble_eq_true rfl) (Nat.le_of_ble_eq_true rfl)) rfl (Hh 24 (Nat.le_of_ble_eq_true rfl) (Nat.le_of_ble_eq_true rfl)) rfl _ _ _ h12) dX3_copyFrom_41 (List.mem_of_getElem? (i := 12) rfl) kc_X6_copy rfl ⟨Nat.le_of_ble_eq_true rfl, Nat.le_of_ble_eq_true rfl⟩ (Nat.le_of_ble_eq_true rfl) rfl) ?_
  refine G_st (x_aload_n dX3_copyFrom_44 rfl) ?_
  refine G_st (x_aload_n dX3_copyFrom_45 rfl) ?_
  refine G_st (x_get (k := 4) (aI (t11 (g, 20) 4)) dX3_copyFrom_46 (Hg 20 (Nat.le_of_ble_eq_true rfl) (Nat.le_of_ble_eq_true rfl)) rfl rfl rfl rfl inTX3 (Nat.le_of_ble_eq_true rfl) tw_211 (fun ad => rfl)) ?_
  refine G_st (x_put (k := 4) (ty := .int) (v := aI (t11 (g, 20) 4)) (z := (t11 (g, 20) 4)) (upS t11 (h, 20) 4 (t11 (g, 20) 4)) dX3_copyFrom_49 (Hh 20 (Nat.le_of_ble_eq_true rfl) (Nat.le_of_ble_eq_true rfl)) rfl rfl rfl rfl inTX3 tyX3_ok nmX3 (Nat.le_of_ble_eq_true rfl) tw_211 rfl rfl (fun ad => rfl) (fun ad => rfl) (fun ad => put_i0 ad _ _ _ _ rfl) rfl) ?_
  refine G_bvS (fun t13 => ?_)
  exact G_ret rfl ⟨rfl, dX3_copyFrom_52⟩ rfl
set_option maxRecDepth 100000 in
set_option maxHeartbeats 4000000 in
theorem c_X3_copyFrom (ids : List (Nat × Nat)) (Hn : Ndp ids) (h : Nat) (g : Nat) (Hh : InR ids h 20 24) (Hg : InR ids g 20 24) (t0 : Sg) (r : Unit) (t1 : Sg) (hf : f_X3_copyFrom h g t0 = some (r, t1)) : Mt0 mX3_copyFrom yX3_copyFrom ids [aR (h, 20), aR (g, 20)] t0 none t1 :=
  Mt_of (x := (r, t1)) (g_X3_copyFrom ids Hn h g Hh Hg t0) hf (fun _ _ => trivial) (by decide) rfl Hn (fun _ => rfl) (fun _ => Nat.le_of_ble_eq_true rfl)
theorem dX2_copyFrom_0 : decode cX2_copyFrom 0 = .ok (.aload_n 0, 1) := by decide +kernel
theorem dX2_copyFrom_1 : decode cX2_copyFrom 1 = .ok (.getfield 12, 3) := by decide +kernel
theorem dX2_copyFrom_4 : decode cX2_copyFrom 4 = .ok (.aload_n 1, 1) := by decide +kernel
theorem dX2_copyFrom_5 : decode cX2_copyFrom 5 = .ok (.getfield 12, 3) := by decide +kernel
theorem dX2_copyFrom_8 : decode cX2_copyFrom 8 = .ok (.invokevirtual 39, 3) := by decide +kernel
theorem dX2_copyFrom_11 : decode cX2_copyFrom 11 = .ok (.aload_n 0, 1) := by decide +kernel
theorem dX2_copyFrom_12 : decode cX2_copyFrom 12 = .ok (.getfield 21, 3) := by decide +kernel
theorem dX2_copyFrom_15 : decode cX2_copyFrom 15 = .ok (.aload_n 1, 1) := by decide +kernel
theorem dX2_copyFrom_16 : decode cX2_copyFrom 16 = .ok (.getfield 21, 3) := by decide +kernel
theorem dX2_copyFrom_19 : decode cX2_copyFrom 19 = .ok (.invokevirtual 43, 3) := by decide +kernel
theorem dX2_copyFrom_22 : decode cX2_copyFrom 22 = .ok (.aload_n 0, 1) := by decide +kernel
theorem dX2_copyFrom_23 : decode cX2_copyFrom 23 = .ok (.getfield 28, 3) := by decide +kernel
theorem dX2_copyFrom_26 : decode cX2_copyFrom 26 = .ok (.aload_n 1, 1) := by decide +kernel
theorem dX2_copyFrom_27 : decode cX2_copyFrom 27 = .ok (.getfield 28, 3) := by decide +kernel
theorem dX2_copyFrom_30 : decode cX2_copyFrom 30 = .ok (.invokevirtual 46, 3) := by decide +kernel
theorem dX2_copyFrom_33 : decode cX2_copyFrom 33 = .ok (.aload_n 0, 1) := by decide +kernel
theorem dX2_copyFrom_34 : decode cX2_copyFrom 34 = .ok (.aload_n 1, 1) := by decide +kernel
theorem dX2_copyFrom_35 : decode cX2_copyFrom 35 = .ok (.getfield 49, 3) := by decide +kernel
theorem dX2_copyFrom_38 : decode cX2_copyFrom 38 = .ok (.putfield 49, 3) := by decide +kernel
theorem dX2_copyFrom_41 : decode cX2_copyFrom 41 = .ok (.return_, 1) := by decide +kernel
set_option maxRecDepth 100000 in
set_option maxHeartbeats 4000000 in
theorem g_X2_copyFrom (ids : List (Nat × Nat)) (Hn : Ndp ids) (h : Nat) (g : Nat) (Hh : InR ids h 6 28) (Hg : InR ids g 6 28) (t0 : Sg) : Gj kV mX2_copyFrom ids 0 [some (aR (h, 6)), some (aR (g, 6))] [] t0 (f_X2_copyFrom h g t0) := by
  unfold f_X2_copyFrom
  refine G_st (x_aload_n dX2_copyFrom_0 rfl) ?_
  refine G_st (x_get (k := 0) (aR (h, 7)) dX2_copyFrom_1 (Hh 6 (Nat.le_of_ble_eq_true rfl) (Nat.le_of_ble_eq_true rfl)) rfl rfl rfl rfl inTX2 (Nat.le_of_ble_eq_true rfl) tw_249 (fun ad => rfl)) ?_
  refine G_st (x_aload_n dX2_copyFrom_4 rfl) ?_
  refine G_st (x_get (k := 0) (aR (g, 7)) dX2_copyFrom_5 (Hg 6 (Nat.le_of_ble_eq_true rfl) (Nat.le_of_ble_eq_true rfl)) rfl rfl rfl rfl inTX2 (Nat.le_of_ble_eq_true rfl) tw_249 (fun ad => rfl)) ?_
  refine G_bd (fun _ t2 h3 => ?_)
  refine G_st (x_callV [] (c_X0_copyFrom ids Hn h g (Hh.sub (Nat.le_of_ble_eq_true rfl) (Nat.le_of_ble_eq_true rfl)) (Hg.sub (Nat.le_of_ble_eq_true rfl) (Nat.le_of_ble_eq_true rfl)) _ _ _ h3) dX2_copyFrom_8 tw_436 kc_X0_copyFrom (Hh 7 (Nat.le_of_ble_eq_true rfl) (Nat.le_of_ble_eq_true rfl)) rfl rfl rfl rfl ⟨Nat.le_of_ble_eq_true rfl, Nat.le_of_ble_eq_true rfl⟩ (Nat.le_of_ble_eq_true rfl) rfl) ?_
  refine G_st (x_aload_n dX2_copyFrom_11 rfl) ?_
  refine G_st (x_get (k := 1) (aR (h, 15)) dX2_copyFrom_12 (Hh 6 (Nat.le_of_ble_eq_true rfl) (Nat.le_of_ble_eq_true rfl)) rfl rfl rfl rfl inTX2 (Nat.le_of_ble_eq_true rfl) tw_252 (fun ad => rfl)) ?_
  refine G_st (x_aload_n dX2_copyFrom_15 rfl) ?_
  refine G_st (x_get (k := 1) (aR (g, 15)) dX2_copyFrom_16 (Hg 6 (Nat.le_of_ble_eq_true rfl) (Nat.le_of_ble_eq_true rfl)) rfl rfl rfl rfl inTX2 (Nat.le_of_ble_eq_true rfl) tw_252 (fun ad => rfl)) ?_
  refine G_bd (fun _ t5 h6 => ?_)
  refine G_st (x_callV [] (c_X1_copyFrom ids Hn h g (Hh.sub (Nat.le_of_ble_eq_true rfl) (Nat.le_of_ble_eq_true rfl)) (Hg.sub (Nat.le_of_ble_eq_true rfl) (Nat.le_of_ble_eq_true rfl)) _ _ _ h6) dX2_copyFrom_19 tw_449 kc_X1_copyFrom (Hh 15 (Nat.le_of_ble_eq_true rfl) (Nat.le_of_ble_eq_true rfl)) rfl rfl rfl rfl ⟨Nat.le_of_ble_eq_true rfl, Nat.le_of_ble_eq_true rfl⟩ (Nat.le_of_ble_eq_true rfl) rfl) ?_
  refine G_st (x_aload_n dX2_copyFrom_22 rfl) ?_
  refine G_st (x_get (k := 2) (aR (h, 20)) dX2_copyFrom_23 (Hh 6 (Nat.le_of_ble_eq_true rfl) (Nat.le_of_ble_eq_true rfl)) rfl rfl rfl rfl inTX2 (Nat.le_of_ble_eq_true rfl) tw_255 (fun ad => rfl)) ?_
  refine G_st (x_aload_n dX2_copyFrom_26 rfl) ?_
  refine G_st (x_get (k := 2) (aR (g, 20)) dX2_copyFrom_27 (Hg 6 (Nat.le_of_ble_eq_true rfl) (Nat.le_of_ble_eq_true rfl)) rfl rfl rfl rfl inTX2 (Nat.le_of_ble_eq_true rfl) tw_255 (fun ad => rfl)) ?_
  refine G_bd (fun _ t8 h9 => ?_)
  refine G_st (x_callV [] (c_X3_copyFrom ids Hn h g (Hh.sub (Nat.le_of_ble_eq_true rfl) (Nat.le_of_ble_eq_true rfl)) (Hg.sub (Nat.le_of_ble_eq_true rfl) (Nat.le_of_ble_eq_true rfl)) _ _ _ h9) dX2_copyFrom_30 tw_454 kc_X3_copyFrom (Hh 20 (Nat.le_of_ble_eq_true rfl) (Nat.le_of_ble_eq_true rfl)) rfl rfl rfl rfl ⟨Nat.le_of_ble_eq_true rfl, Nat.le_of_ble_eq_true rfl⟩ (Nat.le_of_ble_eq_true rfl) rfl) ?_
  refine G_st (x_aload_n dX2_copyFrom_33 rfl) ?_
  refine G_st (x_aload_n dX2_copyFrom_34 rfl) ?_
  refine G_st (x_get (k := 4) (aI (t8 (g, 6) 4)) dX2_copyFrom_35 (Hg 6 (Nat.le_of_ble_eq_true rfl) (Nat.le_of_ble_eq_true rfl)) rfl rfl rfl rfl inTX2 (Nat.le_of_ble_eq_true rfl) tw_258 (fun ad => rfl)) ?_
  refine G_st (x_put (k := 4) (ty := .int) (v := aI (t8 (g, 6) 4)) (z := (t8 (g, 6) 4)) (upS t8 (h, 6) 4 (t8 (g, 6) 4)) dX2_copyFrom_38 (Hh 6 (Nat.le_of_ble_eq_true rfl) (Nat.le_of_ble_eq_true rfl)) rfl rfl rfl rfl inTX2 tyX2_ok nmX2 (Nat.le_of_ble_eq_true rfl) tw_258 rfl rfl (fun ad => rfl) (fun ad => rfl) (fun ad => put_i0 ad _ _ _ _ rfl) rfl) ?_
  refine G_bvS (fun t10 => ?_)
  exact G_ret rfl ⟨rfl, dX2_copyFrom_41⟩ rfl
set_option maxRecDepth 100000 in
set_option maxHeartbeats 4000000 in
theorem c_X2_copyFrom (ids : List (Nat × Nat)) (Hn : Ndp ids) (h : Nat) (g : Nat) (Hh : InR ids h 6 28) (Hg : InR ids g 6 28) (t0 : Sg) (r : Unit) (t1 : Sg) (hf : f_X2_copyFrom h g t0 = some (r, t1)) : Mt0 mX2_copyFrom yX2_copyFrom ids [aR (h, 6), aR (g, 6)] t0 none t1 :=
  Mt_of (x := (r, t1)) (g_X2_copyFrom ids Hn h g Hh Hg t0) hf (fun _ _ => trivial) (by decide) rfl Hn (fun _ => rfl) (fun _ => Nat.le_of_ble_eq_true rfl)
theorem dX3_beginWeek_0 : decode cX3_beginWeek 0 = .ok (.aload_n 0, 1) := by decide +kernel
theorem dX3_beginWeek_1 : decode cX3_beginWeek 1 = .ok (.getfield 18, 3) := by decide +kernel
theorem dX3_beginWeek_4 : decode cX3_beginWeek 4 = .ok (.iconst 0, 1) := by decide +kernel
theorem dX3_beginWeek_5 : decode cX3_beginWeek 5 = .ok (.invokestatic 24, 3) := by decide +kernel
theorem dX3_beginWeek_8 : decode cX3_beginWeek 8 = .ok (.aload_n 0, 1) := by decide +kernel
theorem dX3_beginWeek_9 : decode cX3_beginWeek 9 = .ok (.getfield 21, 3) := by decide +kernel
theorem dX3_beginWeek_12 : decode cX3_beginWeek 12 = .ok (.iconst 0, 1) := by decide +kernel
theorem dX3_beginWeek_13 : decode cX3_beginWeek 13 = .ok (.invokestatic 24, 3) := by decide +kernel
theorem dX3_beginWeek_16 : decode cX3_beginWeek 16 = .ok (.aload_n 0, 1) := by decide +kernel
theorem dX3_beginWeek_17 : decode cX3_beginWeek 17 = .ok (.iconst 0, 1) := by decide +kernel
theorem dX3_beginWeek_18 : decode cX3_beginWeek 18 = .ok (.putfield 37, 3) := by decide +kernel
theorem dX3_beginWeek_21 : decode cX3_beginWeek 21 = .ok (.return_, 1) := by decide +kernel
set_option maxRecDepth 100000 in
set_option maxHeartbeats 4000000 in
theorem g_X3_beginWeek (ids : List (Nat × Nat)) (Hn : Ndp ids) (h : Nat) (Hh : InR ids h 20 24) (t0 : Sg) : Gj kV mX3_beginWeek ids 0 [some (aR (h, 20))] [] t0 (f_X3_beginWeek h t0) := by
  unfold f_X3_beginWeek
  refine G_st (x_aload_n dX3_beginWeek_0 rfl) ?_
  refine G_st (x_get (k := 2) (aR (h, 23)) dX3_beginWeek_1 (Hh 20 (Nat.le_of_ble_eq_true rfl) (Nat.le_of_ble_eq_true rfl)) rfl rfl rfl rfl inTX3 (Nat.le_of_ble_eq_true rfl) tw_208 (fun ad => rfl)) ?_
  refine G_st (x_iconst (0 : Int32) dX3_beginWeek_4 rfl) ?_
  refine G_bd (fun _ t2 h3 => ?_)
  refine G_st (x_callS [] (c_J7_fill_53178 ids Hn (h, 23) (0 : Int32) (Hh 23 (Nat.le_of_ble_eq_true rfl) (Nat.le_of_ble_eq_true rfl)) rfl _ _ _ h3) dX3_beginWeek_5 tw_480 kc_J7_fill_53178 rfl ⟨Nat.le_of_ble_eq_true rfl, Nat.le_of_ble_eq_true rfl⟩ (Nat.le_of_ble_eq_true rfl) rfl) ?_
  refine G_st (x_aload_n dX3_beginWeek_8 rfl) ?_
  refine G_st (x_get (k := 3) (aR (h, 24)) dX3_beginWeek_9 (Hh 20 (Nat.le_of_ble_eq_true rfl) (Nat.le_of_ble_eq_true rfl)) rfl rfl rfl rfl inTX3 (Nat.le_of_ble_eq_true rfl) tw_210 (fun ad => rfl)) ?_
  refine G_st (x_iconst (0 : Int32) dX3_beginWeek_12 rfl) ?_
  refine G_bd (fun _ t5 h6 => ?_)
  refine G_st (x_callS [] (c_J7_fill_53178 ids Hn (h, 24) (0 : Int32) (Hh 24 (Nat.le_of_ble_eq_true rfl) (Nat.le_of_ble_eq_true rfl)) rfl _ _ _ h6) dX3_beginWeek_13 tw_480 kc_J7_fill_53178 rfl ⟨Nat.le_of_ble_eq_true rfl, Nat.le_of_ble_eq_true rfl⟩ (Nat.le_of_ble_eq_true rfl) rfl) ?_
  refine G_st (x_aload_n dX3_beginWeek_16 rfl) ?_
  refine G_st (x_iconst (0 : Int32) dX3_beginWeek_17 rfl) ?_
  refine G_st (x_put (k := 4) (ty := .int) (v := aI (0 : Int32)) (z := (0 : Int32)) (upS t5 (h, 20) 4 (0 : Int32)) dX3_beginWeek_18 (Hh 20 (Nat.le_of_ble_eq_true rfl) (Nat.le_of_ble_eq_true rfl)) rfl rfl rfl rfl inTX3 tyX3_ok nmX3 (Nat.le_of_ble_eq_true rfl) tw_211 rfl rfl (fun ad => rfl) (fun ad => rfl) (fun ad => put_i0 ad _ _ _ _ rfl) rfl) ?_
  refine G_bvS (fun t7 => ?_)
  exact G_ret rfl ⟨rfl, dX3_beginWeek_21⟩ rfl
set_option maxRecDepth 100000 in
set_option maxHeartbeats 4000000 in
theorem c_X3_beginWeek (ids : List (Nat × Nat)) (Hn : Ndp ids) (h : Nat) (Hh : InR ids h 20 24) (t0 : Sg) (r : Unit) (t1 : Sg) (hf : f_X3_beginWeek h t0 = some (r, t1)) : Mt0 mX3_beginWeek yX3_beginWeek ids [aR (h, 20)] t0 none t1 :=
  Mt_of (x := (r, t1)) (g_X3_beginWeek ids Hn h Hh t0) hf (fun _ _ => trivial) (by decide) rfl Hn (fun _ => rfl) (fun _ => Nat.le_of_ble_eq_true rfl)
theorem dX3_clear_0 : decode cX3_clear 0 = .ok (.aload_n 0, 1) := by decide +kernel
theorem dX3_clear_1 : decode cX3_clear 1 = .ok (.getfield 9, 3) := by decide +kernel
theorem dX3_clear_4 : decode cX3_clear 4 = .ok (.iconst 0, 1) := by decide +kernel
theorem dX3_clear_5 : decode cX3_clear 5 = .ok (.invokestatic 24, 3) := by decide +kernel
theorem dX3_clear_8 : decode cX3_clear 8 = .ok (.aload_n 0, 1) := by decide +kernel
theorem dX3_clear_9 : decode cX3_clear 9 = .ok (.getfield 15, 3) := by decide +kernel
theorem dX3_clear_12 : decode cX3_clear 12 = .ok (.iconst 0, 1) := by decide +kernel
theorem dX3_clear_13 : decode cX3_clear 13 = .ok (.invokestatic 24, 3) := by decide +kernel
theorem dX3_clear_16 : decode cX3_clear 16 = .ok (.aload_n 0, 1) := by decide +kernel
theorem dX3_clear_17 : decode cX3_clear 17 = .ok (.invokevirtual 30, 3) := by decide +kernel
theorem dX3_clear_20 : decode cX3_clear 20 = .ok (.return_, 1) := by decide +kernel
set_option maxRecDepth 100000 in
set_option maxHeartbeats 4000000 in
theorem g_X3_clear (ids : List (Nat × Nat)) (Hn : Ndp ids) (h : Nat) (Hh : InR ids h 20 24) (t0 : Sg) : Gj kV mX3_clear ids 0 [some (aR (h, 20))] [] t0 (f_X3_clear h t0) := by
  unfold f_X3_clear
  refine G_st (x_aload_n dX3_clear_0 rfl) ?_
  refine G_st (x_get (k := 0) (aR (h, 21)) dX3_clear_1 (Hh 20 (Nat.le_of_ble_eq_true rfl) (Nat.le_of_ble_eq_true rfl)) rfl rfl rfl rfl inTX3 (Nat.le_of_ble_eq_true rfl) tw_204 (fun ad => rfl)) ?_
  refine G_st (x_iconst (0 : Int32) dX3_clear_4 rfl) ?_
  refine G_bd (fun _ t2 h3 => ?_)
  refine G_st (x_callS [] (c_J7_fill_53178 ids Hn (h, 21) (0 : Int32) (Hh 21 (Nat.le_of_ble_eq_true rfl) (Nat.le_of_ble_eq_true rfl)) rfl _ _ _ h3) dX3_clear_5 tw_480 kc_J7_fill_53178 rfl ⟨Nat.le_of_ble_eq_true rfl, Nat.le_of_ble_eq_true rfl⟩ (Nat.le_of_ble_eq_true rfl) rfl) ?_
  refine G_st (x_aload_n dX3_clear_8 rfl) ?_
  refine G_st (x_get (k := 1) (aR (h, 22)) dX3_clear_9 (Hh 20 (Nat.le_of_ble_eq_true rfl) (Nat.le_of_ble_eq_true rfl)) rfl rfl rfl rfl inTX3 (Nat.le_of_ble_eq_true rfl) tw_206 (fun ad => rfl)) ?_
  refine G_st (x_iconst (0 : Int32) dX3_clear_12 rfl) ?_
  refine G_bd (fun _ t5 h6 => ?_)
  refine G_st (x_callS [] (c_J7_fill_53178 ids Hn (h, 22) (0 : Int32) (Hh 22 (Nat.le_of_ble_eq_true rfl) (Nat.le_of_ble_eq_true rfl)) rfl _ _ _ h6) dX3_clear_13 tw_480 kc_J7_fill_53178 rfl ⟨Nat.le_of_ble_eq_true rfl, Nat.le_of_ble_eq_true rfl⟩ (Nat.le_of_ble_eq_true rfl) rfl) ?_
  refine G_st (x_aload_n dX3_clear_16 rfl) ?_
  refine G_bd (fun _ t8 h9 => ?_)
  refine G_st (x_callV [] (c_X3_beginWeek ids Hn h Hh _ _ _ h9) dX3_clear_17 tw_481 kc_X3_beginWeek (Hh 20 (Nat.le_of_ble_eq_true rfl) (Nat.le_of_ble_eq_true rfl)) rfl rfl rfl rfl ⟨Nat.le_of_ble_eq_true rfl, Nat.le_of_ble_eq_true rfl⟩ (Nat.le_of_ble_eq_true rfl) rfl) ?_
  exact G_ret rfl ⟨rfl, dX3_clear_20⟩ rfl
set_option maxRecDepth 100000 in
set_option maxHeartbeats 4000000 in
theorem c_X3_clear (ids : List (Nat × Nat)) (Hn : Ndp ids) (h : Nat) (Hh : InR ids h 20 24) (t0 : Sg) (r : Unit) (t1 : Sg) (hf : f_X3_clear h t0 = some (r, t1)) : Mt0 mX3_clear yX3_clear ids [aR (h, 20)] t0 none t1 :=
  Mt_of (x := (r, t1)) (g_X3_clear ids Hn h Hh t0) hf (fun _ _ => trivial) (by decide) rfl Hn (fun _ => rfl) (fun _ => Nat.le_of_ble_eq_true rfl)
theorem dX2_build_0 : decode cX2_build 0 = .ok (.aload_n 0, 1) := by decide +kernel
theorem dX2_build_1 : decode cX2_build 1 = .ok (.getfield 12, 3) := by decide +kernel
theorem dX2_build_4 : decode cX2_build 4 = .ok (.iload_n 1, 1) := by decide +kernel
theorem dX2_build_5 : decode cX2_build 5 = .ok (.iload_n 2, 1) := by decide +kernel
theorem dX2_build_6 : decode cX2_build 6 = .ok (.invokevirtual 53, 3) := by decide +kernel
theorem dX2_build_9 : decode cX2_build 9 = .ok (.aload_n 0, 1) := by decide +kernel
theorem dX2_build_10 : decode cX2_build 10 = .ok (.getfield 21, 3) := by decide +kernel
theorem dX2_build_13 : decode cX2_build 13 = .ok (.iconst 0, 1) := by decide +kernel
theorem dX2_build_14 : decode cX2_build 14 = .ok (.putfield 57, 3) := by decide +kernel
theorem dX2_build_17 : decode cX2_build 17 = .ok (.aload_n 0, 1) := by decide +kernel
theorem dX2_build_18 : decode cX2_build 18 = .ok (.getfield 28, 3) := by decide +kernel
theorem dX2_build_21 : decode cX2_build 21 = .ok (.invokevirtual 60, 3) := by decide +kernel
theorem dX2_build_24 : decode cX2_build 24 = .ok (.return_, 1) := by decide +kernel
set_option maxRecDepth 100000 in
set_option maxHeartbeats 4000000 in
theorem g_X2_build (ids : List (Nat × Nat)) (Hn : Ndp ids) (h : Nat) (v1 : Int32) (v2 : Int32) (Hh : InR ids h 6 28) (t0 : Sg) : Gj kV mX2_build ids 0 [some (aR (h, 6)), some (aI v1), some (aI v2)] [] t0 (f_X2_build h v1 v2 t0) := by
  unfold f_X2_build
  refine G_st (x_aload_n dX2_build_0 rfl) ?_
  refine G_st (x_get (k := 0) (aR (h, 7)) dX2_build_1 (Hh 6 (Nat.le_of_ble_eq_true rfl) (Nat.le_of_ble_eq_true rfl)) rfl rfl rfl rfl inTX2 (Nat.le_of_ble_eq_true rfl) tw_249 (fun ad => rfl)) ?_
  refine G_st (x_iload_n dX2_build_4 rfl) ?_
  refine G_st (x_iload_n dX2_build_5 rfl) ?_
  refine G_bd (fun _ t2 h3 => ?_)
  refine G_st (x_callV [] (c_X0_build ids Hn h v1 v2 (Hh.sub (Nat.le_of_ble_eq_true rfl) (Nat.le_of_ble_eq_true rfl)) _ _ _ h3) dX2_build_6 tw_475 kc_X0_build (Hh 7 (Nat.le_of_ble_eq_true rfl) (Nat.le_of_ble_eq_true rfl)) rfl rfl rfl rfl ⟨Nat.le_of_ble_eq_true rfl, Nat.le_of_ble_eq_true rfl⟩ (Nat.le_of_ble_eq_true rfl) rfl) ?_
  refine G_st (x_aload_n dX2_build_9 rfl) ?_
  refine G_st (x_get (k := 1) (aR (h, 15)) dX2_build_10 (Hh 6 (Nat.le_of_ble_eq_true rfl) (Nat.le_of_ble_eq_true rfl)) rfl rfl rfl rfl inTX2 (Nat.le_of_ble_eq_true rfl) tw_252 (fun ad => rfl)) ?_
  refine G_st (x_iconst (0 : Int32) dX2_build_13 rfl) ?_
  refine G_st (x_put (k := 0) (ty := .int) (v := aI (0 : Int32)) (z := (0 : Int32)) (upS t2 (h, 15) 0 (0 : Int32)) dX2_build_14 (Hh 15 (Nat.le_of_ble_eq_true rfl) (Nat.le_of_ble_eq_true rfl)) rfl rfl rfl rfl inTX1 tyX1_ok nmX1 (Nat.le_of_ble_eq_true rfl) tw_170 rfl rfl (fun ad => rfl) (fun ad => rfl) (fun ad => put_i0 ad _ _ _ _ rfl) rfl) ?_
  refine G_bvS (fun t4 => ?_)
  refine G_st (x_aload_n dX2_build_17 rfl) ?_
  refine G_st (x_get (k := 2) (aR (h, 20)) dX2_build_18 (Hh 6 (Nat.le_of_ble_eq_true rfl) (Nat.le_of_ble_eq_true rfl)) rfl rfl rfl rfl inTX2 (Nat.le_of_ble_eq_true rfl) tw_255 (fun ad => rfl)) ?_
  refine G_bd (fun _ t6 h7 => ?_)
  refine G_st (x_callV [] (c_X3_clear ids Hn h (Hh.sub (Nat.le_of_ble_eq_true rfl) (Nat.le_of_ble_eq_true rfl)) _ _ _ h7) dX2_build_21 tw_476 kc_X3_clear (Hh 20 (Nat.le_of_ble_eq_true rfl) (Nat.le_of_ble_eq_true rfl)) rfl rfl rfl rfl ⟨Nat.le_of_ble_eq_true rfl, Nat.le_of_ble_eq_true rfl⟩ (Nat.le_of_ble_eq_true rfl) rfl) ?_
  exact G_ret rfl ⟨rfl, dX2_build_24⟩ rfl
set_option maxRecDepth 100000 in
set_option maxHeartbeats 4000000 in
theorem c_X2_build (ids : List (Nat × Nat)) (Hn : Ndp ids) (h : Nat) (v1 : Int32) (v2 : Int32) (Hh : InR ids h 6 28) (t0 : Sg) (r : Unit) (t1 : Sg) (hf : f_X2_build h v1 v2 t0 = some (r, t1)) : Mt0 mX2_build yX2_build ids [aR (h, 6), aI v1, aI v2] t0 none t1 :=
  Mt_of (x := (r, t1)) (g_X2_build ids Hn h v1 v2 Hh t0) hf (fun _ _ => trivial) (by decide) rfl Hn (fun _ => rfl) (fun _ => Nat.le_of_ble_eq_true rfl)
theorem dX5_room_0 : decode cX5_room 0 = .ok (.iload_n 1, 1) := by decide +kernel
theorem dX5_room_1 : decode cX5_room 1 = .ok (.iconst 3, 1) := by decide +kernel
theorem dX5_room_2 : decode cX5_room 2 = .ok (.if_icmp .eq 8, 3) := by decide +kernel
theorem dX5_room_5 : decode cX5_room 5 = .ok (.iload_n 1, 1) := by decide +kernel
theorem dX5_room_6 : decode cX5_room 6 = .ok (.iconst 4, 1) := by decide +kernel
theorem dX5_room_7 : decode cX5_room 7 = .ok (.if_icmp .ne 5, 3) := by decide +kernel
theorem dX5_room_10 : decode cX5_room 10 = .ok (.iconst 0, 1) := by decide +kernel
theorem dX5_room_11 : decode cX5_room 11 = .ok (.ireturn, 1) := by decide +kernel
theorem dX5_room_12 : decode cX5_room 12 = .ok (.iconst 0, 1) := by decide +kernel
theorem dX5_room_13 : decode cX5_room 13 = .ok (.aload_n 0, 1) := by decide +kernel
theorem dX5_room_14 : decode cX5_room 14 = .ok (.getfield 71, 3) := by decide +kernel
theorem dX5_room_17 : decode cX5_room 17 = .ok (.iload_n 2, 1) := by decide +kernel
theorem dX5_room_18 : decode cX5_room 18 = .ok (.invokestatic 30, 3) := by decide +kernel
theorem dX5_room_21 : decode cX5_room 21 = .ok (.aload_n 0, 1) := by decide +kernel
theorem dX5_room_22 : decode cX5_room 22 = .ok (.getfield 74, 3) := by decide +kernel
theorem dX5_room_25 : decode cX5_room 25 = .ok (.iload_n 2, 1) := by decide +kernel
theorem dX5_room_26 : decode cX5_room 26 = .ok (.invokestatic 30, 3) := by decide +kernel
theorem dX5_room_29 : decode cX5_room 29 = .ok (.isub, 1) := by decide +kernel
theorem dX5_room_30 : decode cX5_room 30 = .ok (.invokestatic 77, 3) := by decide +kernel
theorem dX5_room_33 : decode cX5_room 33 = .ok (.istore_n 3, 1) := by decide +kernel
theorem dX5_room_34 : decode cX5_room 34 = .ok (.iload_n 1, 1) := by decide +kernel
theorem dX5_room_35 : decode cX5_room 35 = .ok (.iconst 5, 1) := by decide +kernel
theorem dX5_room_36 : decode cX5_room 36 = .ok (.if_icmp .ne 9, 3) := by decide +kernel
theorem dX5_room_39 : decode cX5_room 39 = .ok (.iload_n 3, 1) := by decide +kernel
theorem dX5_room_40 : decode cX5_room 40 = .ok (.iconst 2, 1) := by decide +kernel
theorem dX5_room_41 : decode cX5_room 41 = .ok (.idiv, 1) := by decide +kernel
theorem dX5_room_42 : decode cX5_room 42 = .ok (.goto 4, 3) := by decide +kernel
theorem dX5_room_45 : decode cX5_room 45 = .ok (.iload_n 3, 1) := by decide +kernel
theorem dX5_room_46 : decode cX5_room 46 = .ok (.ireturn, 1) := by decide +kernel
set_option maxRecDepth 100000 in
set_option maxHeartbeats 4000000 in
theorem g_X5_room (ids : List (Nat × Nat)) (Hn : Ndp ids) (h : Nat) (v1 : Int32) (v2 : Int32) (Hh : InR ids h 7 14) (t0 : Sg) : Gj kI mX5_room ids 0 [some (aR (h, 7)), some (aI v1), some (aI v2), none] [] t0 (f_X5_room h v1 v2 t0) := by
  unfold f_X5_room
  refine G_st (x_iload_n dX5_room_0 rfl) ?_
  refine G_st (x_iconst (3 : Int32) dX5_room_1 rfl) ?_
  refine G_ite (fun c1 => ?_) (fun c1 => ?_)
  · refine G_st (x_icmp_eq_t (tgt := 10) dX5_room_2 (by decide) c1) ?_
    refine G_st (x_iconst (0 : Int32) dX5_room_10 rfl) ?_
    exact G_ret rfl ⟨dX5_room_11, _, rfl, rfl⟩ rfl
  · refine G_st (x_icmp_eq_f 10 dX5_room_2 (by decide) c1) ?_
    refine G_st (x_iload_n dX5_room_5 rfl) ?_
    refine G_st (x_iconst (4 : Int32) dX5_room_6 rfl) ?_
    refine G_ite (fun c2 => ?_) (fun c2 => ?_)
    · refine G_st (x_icmp_ne_f 12 dX5_room_7 (by decide) c2) ?_
      refine G_st (x_iconst (0 : Int32) dX5_room_10 rfl) ?_
      exact G_ret rfl ⟨dX5_room_11, _, rfl, rfl⟩ rfl
    · refine G_st (x_icmp_ne_t (tgt := 12) dX5_room_7 (by decide) c2) ?_
      refine G_st (x_iconst (0 : Int32) dX5_room_12 rfl) ?_
      refine G_st (x_aload_n dX5_room_13 rfl) ?_
      refine G_st (x_get (k := 3) (aR (h, 8)) dX5_room_14 (Hh 7 (Nat.le_of_ble_eq_true rfl) (Nat.le_of_ble_eq_true rfl)) rfl rfl rfl rfl inTX0 (Nat.le_of_ble_eq_true rfl) tw_119 (fun ad => rfl)) ?_
      refine G_st (x_iload_n dX5_room_17 rfl) ?_
      refine G_bd (fun x3 t4 h5 => ?_)
      refine G_st (x_callN [aI (0 : Int32)] (c_X6_get ids Hn (h, 8) v2 (Hh 8 (Nat.le_of_ble_eq_true rfl) (Nat.le_of_ble_eq_true rfl)) rfl _ _ _ h5) dX5_room_18 (List.mem_of_getElem? (i := 17) rfl) kc_X6_get rfl ⟨Nat.le_of_ble_eq_true rfl, Nat.le_of_ble_eq_true rfl⟩ (Nat.le_of_ble_eq_true rfl) rfl) ?_
      refine G_st (x_aload_n dX5_room_21 rfl) ?_
      refine G_st (x_get (k := 4) (aR (h, 9)) dX5_room_22 (Hh 7 (Nat.le_of_ble_eq_true rfl) (Nat.le_of_ble_eq_true rfl)) rfl rfl rfl rfl inTX0 (Nat.le_of_ble_eq_true rfl) tw_122 (fun ad => rfl)) ?_
      refine G_st (x_iload_n dX5_room_25 rfl) ?_
      refine G_bd (fun x6 t7 h8 => ?_)
      refine G_st (x_callN [aI x3, aI (0 : Int32)] (c_X6_get ids Hn (h, 9) v2 (Hh 9 (Nat.le_of_ble_eq_true rfl) (Nat.le_of_ble_eq_true rfl)) rfl _ _ _ h8) dX5_room_26 (List.mem_of_getElem? (i := 17) rfl) kc_X6_get rfl ⟨Nat.le_of_ble_eq_true rfl, Nat.le_of_ble_eq_true rfl⟩ (Nat.le_of_ble_eq_true rfl) rfl) ?_
      refine G_st (x_isub dX5_room_29) ?_
      refine G_st (x_mmax dX5_room_30 tw_632 tw_633 tw_74 tw_634 ⟨Nat.le_of_ble_eq_true rfl, Nat.le_of_ble_eq_true rfl⟩ (Nat.le_of_ble_eq_true rfl)) ?_
      refine G_bvI (fun x9 => ?_)
      refine G_st (x_istore_n [some (aR (h, 7)), some (aI v1), some (aI v2), some (aI x9)] dX5_room_33 (Nat.le_of_ble_eq_true rfl) rfl rfl) ?_
      refine G_st (x_iload_n dX5_room_34 rfl) ?_
      refine G_st (x_iconst (5 : Int32) dX5_room_35 rfl) ?_
      refine G_ite (fun c10 => ?_) (fun c10 => ?_)
      · refine G_st (x_icmp_ne_f 45 dX5_room_36 (by decide) c10) ?_
        refine G_st (x_iload_n dX5_room_39 rfl) ?_
        refine G_st (x_iconst (2 : Int32) dX5_room_40 rfl) ?_
        refine G_st (x_idiv dX5_room_41 (by decide)) ?_
        refine G_st (x_goto (tgt := 46) dX5_room_42 (by decide)) ?_
        exact G_ret rfl ⟨dX5_room_46, _, rfl, rfl⟩ rfl
      · refine G_st (x_icmp_ne_t (tgt := 45) dX5_room_36 (by decide) c10) ?_
        refine G_st (x_iload_n dX5_room_45 rfl) ?_
        exact G_ret rfl ⟨dX5_room_46, _, rfl, rfl⟩ rfl
set_option maxRecDepth 100000 in
set_option maxHeartbeats 4000000 in
theorem c_X5_room (ids : List (Nat × Nat)) (Hn : Ndp ids) (h : Nat) (v1 : Int32) (v2 : Int32) (Hh : InR ids h 7 14) (t0 : Sg) (r : Int32) (t1 : Sg) (hf : f_X5_room h v1 v2 t0 = some (r, t1)) : Mt0 mX5_room yX5_room ids [aR (h, 7), aI v1, aI v2] t0 (some (aI r)) t1 :=
  Mt_of (x := (r, t1)) (g_X5_room ids Hn h v1 v2 Hh t0) hf (fun _ _ => trivial) (by decide) rfl Hn (fun _ => rfl) (fun _ => Nat.le_of_ble_eq_true rfl)
theorem dX5_hold_0 : decode cX5_hold 0 = .ok (.aload_n 2, 1) := by decide +kernel
theorem dX5_hold_1 : decode cX5_hold 1 = .ok (.getfield 25, 3) := by decide +kernel
theorem dX5_hold_4 : decode cX5_hold 4 = .ok (.iload_n 3, 1) := by decide +kernel
theorem dX5_hold_5 : decode cX5_hold 5 = .ok (.invokestatic 30, 3) := by decide +kernel
theorem dX5_hold_8 : decode cX5_hold 8 = .ok (.istore 4, 2) := by decide +kernel
theorem dX5_hold_10 : decode cX5_hold 10 = .ok (.aload_n 2, 1) := by decide +kernel
theorem dX5_hold_11 : decode cX5_hold 11 = .ok (.getfield 50, 3) := by decide +kernel
theorem dX5_hold_14 : decode cX5_hold 14 = .ok (.iload_n 3, 1) := by decide +kernel
theorem dX5_hold_15 : decode cX5_hold 15 = .ok (.invokestatic 30, 3) := by decide +kernel
theorem dX5_hold_18 : decode cX5_hold 18 = .ok (.istore 5, 2) := by decide +kernel
theorem dX5_hold_20 : decode cX5_hold 20 = .ok (.aload_n 0, 1) := by decide +kernel
theorem dX5_hold_21 : decode cX5_hold 21 = .ok (.getfield 21, 3) := by decide +kernel
theorem dX5_hold_24 : decode cX5_hold 24 = .ok (.istore 6, 2) := by decide +kernel
theorem dX5_hold_26 : decode cX5_hold 26 = .ok (.aload_n 0, 1) := by decide +kernel
theorem dX5_hold_27 : decode cX5_hold 27 = .ok (.iconst 0, 1) := by decide +kernel
theorem dX5_hold_28 : decode cX5_hold 28 = .ok (.putfield 21, 3) := by decide +kernel
theorem dX5_hold_31 : decode cX5_hold 31 = .ok (.iconst 0, 1) := by decide +kernel
theorem dX5_hold_32 : decode cX5_hold 32 = .ok (.istore 7, 2) := by decide +kernel
theorem dX5_hold_34 : decode cX5_hold 34 = .ok (.iload 7, 2) := by decide +kernel
theorem dX5_hold_36 : decode cX5_hold 36 = .ok (.iload 6, 2) := by decide +kernel
theorem dX5_hold_38 : decode cX5_hold 38 = .ok (.if_icmp .ge 73, 3) := by decide +kernel
theorem dX5_hold_41 : decode cX5_hold 41 = .ok (.iload 5, 2) := by decide +kernel
theorem dX5_hold_43 : decode cX5_hold 43 = .ok (.ifCond .le 68, 3) := by decide +kernel
theorem dX5_hold_46 : decode cX5_hold 46 = .ok (.iload 5, 2) := by decide +kernel
theorem dX5_hold_48 : decode cX5_hold 48 = .ok (.aload_n 1, 1) := by decide +kernel
theorem dX5_hold_49 : decode cX5_hold 49 = .ok (.iload 4, 2) := by decide +kernel
theorem dX5_hold_51 : decode cX5_hold 51 = .ok (.aload_n 0, 1) := by decide +kernel
theorem dX5_hold_52 : decode cX5_hold 52 = .ok (.getfield 9, 3) := by decide +kernel
theorem dX5_hold_55 : decode cX5_hold 55 = .ok (.iload 7, 2) := by decide +kernel
theorem dX5_hold_57 : decode cX5_hold 57 = .ok (.invokestatic 30, 3) := by decide +kernel
theorem dX5_hold_60 : decode cX5_hold 60 = .ok (.invokestatic 53, 3) := by decide +kernel
theorem dX5_hold_63 : decode cX5_hold 63 = .ok (.invokestatic 56, 3) := by decide +kernel
theorem dX5_hold_66 : decode cX5_hold 66 = .ok (.istore 8, 2) := by decide +kernel
theorem dX5_hold_68 : decode cX5_hold 68 = .ok (.aload_n 0, 1) := by decide +kernel
theorem dX5_hold_69 : decode cX5_hold 69 = .ok (.getfield 15, 3) := by decide +kernel
theorem dX5_hold_72 : decode cX5_hold 72 = .ok (.iload 7, 2) := by decide +kernel
theorem dX5_hold_74 : decode cX5_hold 74 = .ok (.iload 5, 2) := by decide +kernel
theorem dX5_hold_76 : decode cX5_hold 76 = .ok (.invokestatic 46, 3) := by decide +kernel
theorem dX5_hold_79 : decode cX5_hold 79 = .ok (.aload_n 0, 1) := by decide +kernel
theorem dX5_hold_80 : decode cX5_hold 80 = .ok (.getfield 18, 3) := by decide +kernel
theorem dX5_hold_83 : decode cX5_hold 83 = .ok (.iload 7, 2) := by decide +kernel
theorem dX5_hold_85 : decode cX5_hold 85 = .ok (.iload 8, 2) := by decide +kernel
theorem dX5_hold_87 : decode cX5_hold 87 = .ok (.invokestatic 46, 3) := by decide +kernel
theorem dX5_hold_90 : decode cX5_hold 90 = .ok (.aload_n 0, 1) := by decide +kernel
theorem dX5_hold_91 : decode cX5_hold 91 = .ok (.iload 7, 2) := by decide +kernel
theorem dX5_hold_93 : decode cX5_hold 93 = .ok (.iconst 1, 1) := by decide +kernel
theorem dX5_hold_94 : decode cX5_hold 94 = .ok (.iadd, 1) := by decide +kernel
theorem dX5_hold_95 : decode cX5_hold 95 = .ok (.putfield 21, 3) := by decide +kernel
theorem dX5_hold_98 : decode cX5_hold 98 = .ok (.iload 5, 2) := by decide +kernel
theorem dX5_hold_100 : decode cX5_hold 100 = .ok (.iload 8, 2) := by decide +kernel
theorem dX5_hold_102 : decode cX5_hold 102 = .ok (.isub, 1) := by decide +kernel
theorem dX5_hold_103 : decode cX5_hold 103 = .ok (.istore 5, 2) := by decide +kernel
theorem dX5_hold_105 : decode cX5_hold 105 = .ok (.iinc 7 1, 3) := by decide +kernel
theorem dX5_hold_108 : decode cX5_hold 108 = .ok (.goto (-74), 3) := by decide +kernel
theorem dX5_hold_111 : decode cX5_hold 111 = .ok (.return_, 1) := by decide +kernel
set_option maxRecDepth 100000 in
set_option maxHeartbeats 4000000 in
theorem g_X5_hold_34 (ids : List (Nat × Nat)) (Hn : Ndp ids) (h : Nat) (g : Nat) (q : Nat) (Hh : InR ids h 25 28) (Hg : InR ids g 7 14) (Hq : InR ids q 15 19)  : ∀ (n : Nat) (v4 : Int32) (v5 : Int32) (v6 : Int32) (v7 : Int32) (t0 : Sg), Gj kV mX5_hold ids 34 [some (aR (h, 25)), some (aR (g, 7)), none, none, some (aI v4), some (aI v5), some (aI v6), some (aI v7), none] [] t0 (f_X5_hold_34 h g q n v4 v5 v6 v7 t0) := by
  intro n
  induction n with
  | zero => intro v4 v5 v6 v7 t0; exact G_none
  | succ n ih =>
    intro v4 v5 v6 v7 t0
    rw [f_X5_hold_34]
    refine G_st (x_iload dX5_hold_34 rfl) ?_
    refine G_st (x_iload dX5_hold_36 rfl) ?_
    refine G_ite (fun c9 => ?_) (fun c9 => ?_)
    · refine G_st (x_icmp_ge_t (tgt := 111) dX5_hold_38 (by decide) c9) ?_
      exact G_ret rfl ⟨rfl, dX5_hold_111⟩ rfl
    · refine G_st (x_icmp_ge_f 111 dX5_hold_38 (by decide) c9) ?_
      refine G_st (x_iload dX5_hold_41 rfl) ?_
      refine G_ite (fun c10 => ?_) (fun c10 => ?_)
      · refine G_st (x_if_le_t (tgt := 111) dX5_hold_43 (by decide) c10) ?_
        exact G_ret rfl ⟨rfl, dX5_hold_111⟩ rfl
      · refine G_st (x_if_le_f 111 dX5_hold_43 (by decide) c10) ?_
        refine G_st (x_iload dX5_hold_46 rfl) ?_
        refine G_st (x_aload_n dX5_hold_48 rfl) ?_
        refine G_st (x_iload dX5_hold_49 rfl) ?_
        refine G_st (x_aload_n dX5_hold_51 rfl) ?_
        refine G_st (x_get (k := 0) (aR (h, 26)) dX5_hold_52 (Hh 25 (Nat.le_of_ble_eq_true rfl) (Nat.le_of_ble_eq_true rfl)) rfl rfl rfl rfl inTX5 (Nat.le_of_ble_eq_true rfl) tw_230 (fun ad => rfl)) ?_
        refine G_st (x_iload dX5_hold_55 rfl) ?_
        refine G_bd (fun x11 t12 h13 => ?_)
        refine G_st (x_callN [aI v4, aR (g, 7), aI v5] (c_X6_get ids Hn (h, 26) v7 (Hh 26 (Nat.le_of_ble_eq_true rfl) (Nat.le_of_ble_eq_true rfl)) rfl _ _ _ h13) dX5_hold_57 (List.mem_of_getElem? (i := 17) rfl) kc_X6_get rfl ⟨Nat.le_of_ble_eq_true rfl, Nat.le_of_ble_eq_true rfl⟩ (Nat.le_of_ble_eq_true rfl) rfl) ?_
        refine G_bd (fun x14 t15 h16 => ?_)
        refine G_st (x_callS [aI v5] (c_X5_room ids Hn g v4 x11 Hg _ _ _ h16) dX5_hold_60 tw_629 kc_X5_room rfl ⟨Nat.le_of_ble_eq_true rfl, Nat.le_of_ble_eq_true rfl⟩ (Nat.le_of_ble_eq_true rfl) rfl) ?_
        refine G_st (x_mmin dX5_hold_63 tw_635 tw_444 tw_74 tw_445 ⟨Nat.le_of_ble_eq_true rfl, Nat.le_of_ble_eq_true rfl⟩ (Nat.le_of_ble_eq_true rfl)) ?_
        refine G_bvI (fun x17 => ?_)
        refine G_st (x_istore [some (aR (h, 25)), some (aR (g, 7)), none, none, some (aI v4), some (aI v5), some (aI v6), some (aI v7), some (aI x17)] dX5_hold_66 (Nat.le_of_ble_eq_true rfl) rfl rfl) ?_
        refine G_st (x_aload_n dX5_hold_68 rfl) ?_
        refine G_st (x_get (k := 1) (aR (h, 27)) dX5_hold_69 (Hh 25 (Nat.le_of_ble_eq_true rfl) (Nat.le_of_ble_eq_true rfl)) rfl rfl rfl rfl inTX5 (Nat.le_of_ble_eq_true rfl) tw_233 (fun ad => rfl)) ?_
        refine G_st (x_iload dX5_hold_72 rfl) ?_
        refine G_st (x_iload dX5_hold_74 rfl) ?_
        refine G_bd (fun _ t19 h20 => ?_)
        refine G_st (x_callN [] (c_X6_set ids Hn (h, 27) v7 v5 (Hh 27 (Nat.le_of_ble_eq_true rfl) (Nat.le_of_ble_eq_true rfl)) rfl _ _ _ h20) dX5_hold_76 (List.mem_of_getElem? (i := 18) rfl) kc_X6_set rfl ⟨Nat.le_of_ble_eq_true rfl, Nat.le_of_ble_eq_true rfl⟩ (Nat.le_of_ble_eq_true rfl) rfl) ?_
        refine G_st (x_aload_n dX5_hold_79 rfl) ?_
        refine G_st (x_get (k := 2) (aR (h, 28)) dX5_hold_80 (Hh 25 (Nat.le_of_ble_eq_true rfl) (Nat.le_of_ble_eq_true rfl)) rfl rfl rfl rfl inTX5 (Nat.le_of_ble_eq_true rfl) tw_235 (fun ad => rfl)) ?_
        refine G_st (x_iload dX5_hold_83 rfl) ?_
        refine G_st (x_iload dX5_hold_85 rfl) ?_
        refine G_bd (fun _ t22 h23 => ?_)
        refine G_st (x_callN [] (c_X6_set ids Hn (h, 28) v7 x17 (Hh 28 (Nat.le_of_ble_eq_true rfl) (Nat.le_of_ble_eq_true rfl)) rfl _ _ _ h23) dX5_hold_87 (List.mem_of_getElem? (i := 18) rfl) kc_X6_set rfl ⟨Nat.le_of_ble_eq_true rfl, Nat.le_of_ble_eq_true rfl⟩ (Nat.le_of_ble_eq_true rfl) rfl) ?_
        refine G_st (x_aload_n dX5_hold_90 rfl) ?_
        refine G_st (x_iload dX5_hold_91 rfl) ?_
        refine G_st (x_iconst (1 : Int32) dX5_hold_93 rfl) ?_
        refine G_st (x_iadd dX5_hold_94) ?_
        refine G_st (x_put (k := 3) (ty := .int) (v := aI (v7 + (1 : Int32))) (z := (v7 + (1 : Int32))) (upS t22 (h, 25) 3 (v7 + (1 : Int32))) dX5_hold_95 (Hh 25 (Nat.le_of_ble_eq_true rfl) (Nat.le_of_ble_eq_true rfl)) rfl rfl rfl rfl inTX5 tyX5_ok nmX5 (Nat.le_of_ble_eq_true rfl) tw_237 rfl rfl (fun ad => rfl) (fun ad => rfl) (fun ad => put_i0 ad _ _ _ _ rfl) rfl) ?_
        refine G_bvS (fun t24 => ?_)
        refine G_st (x_iload dX5_hold_98 rfl) ?_
        refine G_st (x_iload dX5_hold_100 rfl) ?_
        refine G_st (x_isub dX5_hold_102) ?_
        refine G_bvI (fun x25 => ?_)
        refine G_st (x_istore [some (aR (h, 25)), some (aR (g, 7)), none, none, some (aI v4), some (aI x25), some (aI v6), some (aI v7), some (aI x17)] dX5_hold_103 (Nat.le_of_ble_eq_true rfl) rfl rfl) ?_
        refine G_st (x_iinc (v7 + (1 : Int32)) [some (aR (h, 25)), some (aR (g, 7)), none, none, some (aI v4), some (aI x25), some (aI v6), some (aI (v7 + (1 : Int32))), some (aI x17)] dX5_hold_105 (Nat.le_of_ble_eq_true rfl) rfl rfl rfl rfl) ?_
        refine G_st (x_goto (tgt := 34) dX5_hold_108 (by decide)) ?_
        refine G_weak _ ?_ ((ih) v4 x25 v6 (v7 + (1 : Int32)) t24)
        exact (leL_s (leL_s (leL_n (leL_n (leL_s (leL_s (leL_s (leL_s (leL_n (leL_e _))))))))))
set_option maxRecDepth 100000 in
set_option maxHeartbeats 4000000 in
theorem g_X5_hold (ids : List (Nat × Nat)) (Hn : Ndp ids) (h : Nat) (g : Nat) (q : Nat) (v3 : Int32) (Hh : InR ids h 25 28) (Hg : InR ids g 7 14) (Hq : InR ids q 15 19) (t0 : Sg) : Gj kV mX5_hold ids 0 [some (aR (h, 25)), some (aR (g, 7)), some (aR (q, 15)), some (aI v3), none, none, none, none, none] [] t0 (f_X5_hold h g q v3 t0) := by
  unfold f_X5_hold
  refine G_st (x_aload_n dX5_hold_0 rfl) ?_
  refine G_st (x_get (k := 2) (aR (q, 17)) dX5_hold_1 (Hq 15 (Nat.le_of_ble_eq_true rfl) (Nat.le_of_ble_eq_true rfl)) rfl rfl rfl rfl inTX1 (Nat.le_of_ble_eq_true rfl) tw_178 (fun ad => rfl)) ?_
  refine G_st (x_iload_n dX5_hold_4 rfl) ?_
  refine G_bd (fun x1 t2 h3 => ?_)
  refine G_st (x_callN [] (c_X6_get ids Hn (q, 17) v3 (Hq 17 (Nat.le_of_ble_eq_true rfl) (Nat.le_of_ble_eq_true rfl)) rfl _ _ _ h3) dX5_hold_5 (List.mem_of_getElem? (i := 17) rfl) kc_X6_get rfl ⟨Nat.le_of_ble_eq_true rfl, Nat.le_of_ble_eq_true rfl⟩ (Nat.le_of_ble_eq_true rfl) rfl) ?_
  refine G_st (x_istore [some (aR (h, 25)), some (aR (g, 7)), some (aR (q, 15)), some (aI v3), some (aI x1), none, none, none, none] dX5_hold_8 (Nat.le_of_ble_eq_true rfl) rfl rfl) ?_
  refine G_st (x_aload_n dX5_hold_10 rfl) ?_
  refine G_st (x_get (k := 3) (aR (q, 18)) dX5_hold_11 (Hq 15 (Nat.le_of_ble_eq_true rfl) (Nat.le_of_ble_eq_true rfl)) rfl rfl rfl rfl inTX1 (Nat.le_of_ble_eq_true rfl) tw_182 (fun ad => rfl)) ?_
  refine G_st (x_iload_n dX5_hold_14 rfl) ?_
  refine G_bd (fun x4 t5 h6 => ?_)
  refine G_st (x_callN [] (c_X6_get ids Hn (q, 18) v3 (Hq 18 (Nat.le_of_ble_eq_true rfl) (Nat.le_of_ble_eq_true rfl)) rfl _ _ _ h6) dX5_hold_15 (List.mem_of_getElem? (i := 17) rfl) kc_X6_get rfl ⟨Nat.le_of_ble_eq_true rfl, Nat.le_of_ble_eq_true rfl⟩ (Nat.le_of_ble_eq_true rfl) rfl) ?_
  refine G_st (x_istore [some (aR (h, 25)), some (aR (g, 7)), some (aR (q, 15)), some (aI v3), some (aI x1), some (aI x4), none, none, none] dX5_hold_18 (Nat.le_of_ble_eq_true rfl) rfl rfl) ?_
  refine G_st (x_aload_n dX5_hold_20 rfl) ?_
  refine G_st (x_get (k := 3) (aI (t5 (h, 25) 3)) dX5_hold_21 (Hh 25 (Nat.le_of_ble_eq_true rfl) (Nat.le_of_ble_eq_true rfl)) rfl rfl rfl rfl inTX5 (Nat.le_of_ble_eq_true rfl) tw_237 (fun ad => rfl)) ?_
  refine G_bvI (fun x7 => ?_)
  refine G_st (x_istore [some (aR (h, 25)), some (aR (g, 7)), some (aR (q, 15)), some (aI v3), some (aI x1), some (aI x4), some (aI x7), none, none] dX5_hold_24 (Nat.le_of_ble_eq_true rfl) rfl rfl) ?_
  refine G_st (x_aload_n dX5_hold_26 rfl) ?_
  refine G_st (x_iconst (0 : Int32) dX5_hold_27 rfl) ?_
  refine G_st (x_put (k := 3) (ty := .int) (v := aI (0 : Int32)) (z := (0 : Int32)) (upS t5 (h, 25) 3 (0 : Int32)) dX5_hold_28 (Hh 25 (Nat.le_of_ble_eq_true rfl) (Nat.le_of_ble_eq_true rfl)) rfl rfl rfl rfl inTX5 tyX5_ok nmX5 (Nat.le_of_ble_eq_true rfl) tw_237 rfl rfl (fun ad => rfl) (fun ad => rfl) (fun ad => put_i0 ad _ _ _ _ rfl) rfl) ?_
  refine G_bvS (fun t8 => ?_)
  refine G_st (x_iconst (0 : Int32) dX5_hold_31 rfl) ?_
  refine G_st (x_istore [some (aR (h, 25)), some (aR (g, 7)), some (aR (q, 15)), some (aI v3), some (aI x1), some (aI x4), some (aI x7), some (aI (0 : Int32)), none] dX5_hold_32 (Nat.le_of_ble_eq_true rfl) rfl rfl) ?_
  refine G_weak _ ?_ (g_X5_hold_34 ids Hn h g q Hh Hg Hq fuel x1 x4 x7 (0 : Int32) t8)
  exact (leL_s (leL_s (leL_n (leL_n (leL_s (leL_s (leL_s (leL_s (leL_n (leL_e _))))))))))
set_option maxRecDepth 100000 in
set_option maxHeartbeats 4000000 in
theorem c_X5_hold (ids : List (Nat × Nat)) (Hn : Ndp ids) (h : Nat) (g : Nat) (q : Nat) (v3 : Int32) (Hh : InR ids h 25 28) (Hg : InR ids g 7 14) (Hq : InR ids q 15 19) (t0 : Sg) (r : Unit) (t1 : Sg) (hf : f_X5_hold h g q v3 t0 = some (r, t1)) : Mt0 mX5_hold yX5_hold ids [aR (h, 25), aR (g, 7), aR (q, 15), aI v3] t0 none t1 :=
  Mt_of (x := (r, t1)) (g_X5_hold ids Hn h g q v3 Hh Hg Hq t0) hf (fun _ _ => trivial) (by decide) rfl Hn (fun _ => rfl) (fun _ => Nat.le_of_ble_eq_true rfl)
theorem dX5_next_0 : decode cX5_next 0 = .ok (.iload_n 2, 1) := by decide +kernel
theorem dX5_next_1 : decode cX5_next 1 = .ok (.iconst 4, 1) := by decide +kernel
theorem dX5_next_2 : decode cX5_next 2 = .ok (.idiv, 1) := by decide +kernel
theorem dX5_next_3 : decode cX5_next 3 = .ok (.istore_n 3, 1) := by decide +kernel
theorem dX5_next_4 : decode cX5_next 4 = .ok (.iload_n 2, 1) := by decide +kernel
theorem dX5_next_5 : decode cX5_next 5 = .ok (.iconst 4, 1) := by decide +kernel
theorem dX5_next_6 : decode cX5_next 6 = .ok (.irem, 1) := by decide +kernel
theorem dX5_next_7 : decode cX5_next 7 = .ok (.istore 4, 2) := by decide +kernel
theorem dX5_next_9 : decode cX5_next 9 = .ok (.iload_n 1, 1) := by decide +kernel
theorem dX5_next_10 : decode cX5_next 10 = .ok (.tableswitch 143 1 5 #[34, 49, 143, 68, 98], 34) := by decide +kernel
theorem dX5_next_44 : decode cX5_next 44 = .ok (.aload_n 0, 1) := by decide +kernel
theorem dX5_next_45 : decode cX5_next 45 = .ok (.iload_n 3, 1) := by decide +kernel
theorem dX5_next_46 : decode cX5_next 46 = .ok (.iconst 1, 1) := by decide +kernel
theorem dX5_next_47 : decode cX5_next 47 = .ok (.isub, 1) := by decide +kernel
theorem dX5_next_48 : decode cX5_next 48 = .ok (.iload 4, 2) := by decide +kernel
theorem dX5_next_50 : decode cX5_next 50 = .ok (.aload_n 0, 1) := by decide +kernel
theorem dX5_next_51 : decode cX5_next 51 = .ok (.getfield 62, 3) := by decide +kernel
theorem dX5_next_54 : decode cX5_next 54 = .ok (.iadd, 1) := by decide +kernel
theorem dX5_next_55 : decode cX5_next 55 = .ok (.invokevirtual 65, 3) := by decide +kernel
theorem dX5_next_58 : decode cX5_next 58 = .ok (.ireturn, 1) := by decide +kernel
theorem dX5_next_59 : decode cX5_next 59 = .ok (.aload_n 0, 1) := by decide +kernel
theorem dX5_next_60 : decode cX5_next 60 = .ok (.iload_n 3, 1) := by decide +kernel
theorem dX5_next_61 : decode cX5_next 61 = .ok (.iconst 1, 1) := by decide +kernel
theorem dX5_next_62 : decode cX5_next 62 = .ok (.isub, 1) := by decide +kernel
theorem dX5_next_63 : decode cX5_next 63 = .ok (.iload 4, 2) := by decide +kernel
theorem dX5_next_65 : decode cX5_next 65 = .ok (.aload_n 0, 1) := by decide +kernel
theorem dX5_next_66 : decode cX5_next 66 = .ok (.getfield 68, 3) := by decide +kernel
theorem dX5_next_69 : decode cX5_next 69 = .ok (.iload_n 2, 1) := by decide +kernel
theorem dX5_next_70 : decode cX5_next 70 = .ok (.invokestatic 30, 3) := by decide +kernel
theorem dX5_next_73 : decode cX5_next 73 = .ok (.iadd, 1) := by decide +kernel
theorem dX5_next_74 : decode cX5_next 74 = .ok (.invokevirtual 65, 3) := by decide +kernel
theorem dX5_next_77 : decode cX5_next 77 = .ok (.ireturn, 1) := by decide +kernel
theorem dX5_next_78 : decode cX5_next 78 = .ok (.aload_n 0, 1) := by decide +kernel
theorem dX5_next_79 : decode cX5_next 79 = .ok (.iload_n 3, 1) := by decide +kernel
theorem dX5_next_80 : decode cX5_next 80 = .ok (.iconst 1, 1) := by decide +kernel
theorem dX5_next_81 : decode cX5_next 81 = .ok (.iadd, 1) := by decide +kernel
theorem dX5_next_82 : decode cX5_next 82 = .ok (.iload 4, 2) := by decide +kernel
theorem dX5_next_84 : decode cX5_next 84 = .ok (.invokevirtual 65, 3) := by decide +kernel
theorem dX5_next_87 : decode cX5_next 87 = .ok (.istore 5, 2) := by decide +kernel
theorem dX5_next_89 : decode cX5_next 89 = .ok (.aload_n 0, 1) := by decide +kernel
theorem dX5_next_90 : decode cX5_next 90 = .ok (.getfield 68, 3) := by decide +kernel
theorem dX5_next_93 : decode cX5_next 93 = .ok (.iload 5, 2) := by decide +kernel
theorem dX5_next_95 : decode cX5_next 95 = .ok (.invokestatic 30, 3) := by decide +kernel
theorem dX5_next_98 : decode cX5_next 98 = .ok (.ifCond .eq 7, 3) := by decide +kernel
theorem dX5_next_101 : decode cX5_next 101 = .ok (.iconst (-1), 1) := by decide +kernel
theorem dX5_next_102 : decode cX5_next 102 = .ok (.goto 5, 3) := by decide +kernel
theorem dX5_next_105 : decode cX5_next 105 = .ok (.iload 5, 2) := by decide +kernel
theorem dX5_next_107 : decode cX5_next 107 = .ok (.ireturn, 1) := by decide +kernel
theorem dX5_next_108 : decode cX5_next 108 = .ok (.aload_n 0, 1) := by decide +kernel
theorem dX5_next_109 : decode cX5_next 109 = .ok (.getfield 62, 3) := by decide +kernel
theorem dX5_next_112 : decode cX5_next 112 = .ok (.ifCond .ne 12, 3) := by decide +kernel
theorem dX5_next_115 : decode cX5_next 115 = .ok (.iload_n 3, 1) := by decide +kernel
theorem dX5_next_116 : decode cX5_next 116 = .ok (.iconst 2, 1) := by decide +kernel
theorem dX5_next_117 : decode cX5_next 117 = .ok (.if_icmp .lt 7, 3) := by decide +kernel
theorem dX5_next_120 : decode cX5_next 120 = .ok (.iconst 1, 1) := by decide +kernel
theorem dX5_next_121 : decode cX5_next 121 = .ok (.goto 4, 3) := by decide +kernel
theorem dX5_next_124 : decode cX5_next 124 = .ok (.iconst 0, 1) := by decide +kernel
theorem dX5_next_125 : decode cX5_next 125 = .ok (.istore 6, 2) := by decide +kernel
theorem dX5_next_127 : decode cX5_next 127 = .ok (.aload_n 0, 1) := by decide +kernel
theorem dX5_next_128 : decode cX5_next 128 = .ok (.iload 6, 2) := by decide +kernel
theorem dX5_next_130 : decode cX5_next 130 = .ok (.ifCond .eq 9, 3) := by decide +kernel
theorem dX5_next_133 : decode cX5_next 133 = .ok (.iload_n 3, 1) := by decide +kernel
theorem dX5_next_134 : decode cX5_next 134 = .ok (.iconst 2, 1) := by decide +kernel
theorem dX5_next_135 : decode cX5_next 135 = .ok (.isub, 1) := by decide +kernel
theorem dX5_next_136 : decode cX5_next 136 = .ok (.goto 6, 3) := by decide +kernel
theorem dX5_next_139 : decode cX5_next 139 = .ok (.iload_n 3, 1) := by decide +kernel
theorem dX5_next_140 : decode cX5_next 140 = .ok (.iconst 1, 1) := by decide +kernel
theorem dX5_next_141 : decode cX5_next 141 = .ok (.isub, 1) := by decide +kernel
theorem dX5_next_142 : decode cX5_next 142 = .ok (.iload 4, 2) := by decide +kernel
theorem dX5_next_144 : decode cX5_next 144 = .ok (.aload_n 0, 1) := by decide +kernel
theorem dX5_next_145 : decode cX5_next 145 = .ok (.getfield 62, 3) := by decide +kernel
theorem dX5_next_148 : decode cX5_next 148 = .ok (.iadd, 1) := by decide +kernel
theorem dX5_next_149 : decode cX5_next 149 = .ok (.invokevirtual 65, 3) := by decide +kernel
theorem dX5_next_152 : decode cX5_next 152 = .ok (.ireturn, 1) := by decide +kernel
theorem dX5_next_153 : decode cX5_next 153 = .ok (.aload_n 0, 1) := by decide +kernel
theorem dX5_next_154 : decode cX5_next 154 = .ok (.iload_n 3, 1) := by decide +kernel
theorem dX5_next_155 : decode cX5_next 155 = .ok (.iconst 1, 1) := by decide +kernel
theorem dX5_next_156 : decode cX5_next 156 = .ok (.isub, 1) := by decide +kernel
theorem dX5_next_157 : decode cX5_next 157 = .ok (.iload 4, 2) := by decide +kernel
theorem dX5_next_159 : decode cX5_next 159 = .ok (.invokevirtual 65, 3) := by decide +kernel
theorem dX5_next_162 : decode cX5_next 162 = .ok (.ireturn, 1) := by decide +kernel
set_option maxRecDepth 100000 in
set_option maxHeartbeats 4000000 in
theorem g_X5_next_153 (ids : List (Nat × Nat)) (Hn : Ndp ids) (h : Nat) (Hh : InR ids h 7 14)  (v3 : Int32) (v4 : Int32) (t0 : Sg) : Gj kI mX5_next ids 153 [some (aR (h, 7)), none, none, some (aI v3), some (aI v4), none, none] [] t0 (f_X5_next_153 h v3 v4 t0) := by
  unfold f_X5_next_153
  refine G_st (x_aload_n dX5_next_153 rfl) ?_
  refine G_st (x_iload_n dX5_next_154 rfl) ?_
  refine G_st (x_iconst (1 : Int32) dX5_next_155 rfl) ?_
  refine G_st (x_isub dX5_next_156) ?_
  refine G_st (x_iload dX5_next_157 rfl) ?_
  refine G_bd (fun x15 t16 h17 => ?_)
  refine G_st (x_callV [] (c_X0_place ids Hn h (v3 - (1 : Int32)) v4 Hh _ _ _ h17) dX5_next_159 tw_623 kc_X0_place (Hh 7 (Nat.le_of_ble_eq_true rfl) (Nat.le_of_ble_eq_true rfl)) rfl rfl rfl rfl ⟨Nat.le_of_ble_eq_true rfl, Nat.le_of_ble_eq_true rfl⟩ (Nat.le_of_ble_eq_true rfl) rfl) ?_
  exact G_ret rfl ⟨dX5_next_162, _, rfl, rfl⟩ rfl
set_option maxRecDepth 100000 in
set_option maxHeartbeats 4000000 in
theorem g_X5_next (ids : List (Nat × Nat)) (Hn : Ndp ids) (h : Nat) (v1 : Int32) (v2 : Int32) (Hh : InR ids h 7 14) (t0 : Sg) : Gj kI mX5_next ids 0 [some (aR (h, 7)), some (aI v1), some (aI v2), none, none, none, none] [] t0 (f_X5_next h v1 v2 t0) := by
  unfold f_X5_next
  refine G_st (x_iload_n dX5_next_0 rfl) ?_
  refine G_st (x_iconst (4 : Int32) dX5_next_1 rfl) ?_
  refine G_st (x_idiv dX5_next_2 (by decide)) ?_
  refine G_bvI (fun x1 => ?_)
  refine G_st (x_istore_n [some (aR (h, 7)), some (aI v1), some (aI v2), some (aI x1), none, none, none] dX5_next_3 (Nat.le_of_ble_eq_true rfl) rfl rfl) ?_
  refine G_st (x_iload_n dX5_next_4 rfl) ?_
  refine G_st (x_iconst (4 : Int32) dX5_next_5 rfl) ?_
  refine G_st (x_irem dX5_next_6 (by decide)) ?_
  refine G_bvI (fun x2 => ?_)
  refine G_st (x_istore [some (aR (h, 7)), some (aI v1), some (aI v2), some (aI x1), some (aI x2), none, none] dX5_next_7 (Nat.le_of_ble_eq_true rfl) rfl rfl) ?_
  refine G_st (x_iload_n dX5_next_9 rfl) ?_
  refine G_ite (fun c3 => ?_) (fun c3 => ?_)
  · refine G_st (x_tabIn (tgt := 44) (1 : Int32) dX5_next_10 c3 (by decide) (by decide) rfl (by decide)) ?_
    refine G_st (x_aload_n dX5_next_44 rfl) ?_
    refine G_st (x_iload_n dX5_next_45 rfl) ?_
    refine G_st (x_iconst (1 : Int32) dX5_next_46 rfl) ?_
    refine G_st (x_isub dX5_next_47) ?_
    refine G_st (x_iload dX5_next_48 rfl) ?_
    refine G_st (x_aload_n dX5_next_50 rfl) ?_
    refine G_st (x_get (k := 2) (aI (t0 (h, 7) 2)) dX5_next_51 (Hh 7 (Nat.le_of_ble_eq_true rfl) (Nat.le_of_ble_eq_true rfl)) rfl rfl rfl rfl inTX0 (Nat.le_of_ble_eq_true rfl) tw_115 (fun ad => rfl)) ?_
    refine G_st (x_iadd dX5_next_54) ?_
    refine G_bd (fun x4 t5 h6 => ?_)
    refine G_st (x_callV [] (c_X0_place ids Hn h (x1 - (1 : Int32)) (x2 + (t0 (h, 7) 2)) Hh _ _ _ h6) dX5_next_55 tw_623 kc_X0_place (Hh 7 (Nat.le_of_ble_eq_true rfl) (Nat.le_of_ble_eq_true rfl)) rfl rfl rfl rfl ⟨Nat.le_of_ble_eq_true rfl, Nat.le_of_ble_eq_true rfl⟩ (Nat.le_of_ble_eq_true rfl) rfl) ?_
    exact G_ret rfl ⟨dX5_next_58, _, rfl, rfl⟩ rfl
  refine G_ite (fun c7 => ?_) (fun c7 => ?_)
  · refine G_st (x_tabIn (tgt := 59) (2 : Int32) dX5_next_10 c7 (by decide) (by decide) rfl (by decide)) ?_
    refine G_st (x_aload_n dX5_next_59 rfl) ?_
    refine G_st (x_iload_n dX5_next_60 rfl) ?_
    refine G_st (x_iconst (1 : Int32) dX5_next_61 rfl) ?_
    refine G_st (x_isub dX5_next_62) ?_
    refine G_st (x_iload dX5_next_63 rfl) ?_
    refine G_st (x_aload_n dX5_next_65 rfl) ?_
    refine G_st (x_get (k := 5) (aR (h, 10)) dX5_next_66 (Hh 7 (Nat.le_of_ble_eq_true rfl) (Nat.le_of_ble_eq_true rfl)) rfl rfl rfl rfl inTX0 (Nat.le_of_ble_eq_true rfl) tw_126 (fun ad => rfl)) ?_
    refine G_st (x_iload_n dX5_next_69 rfl) ?_
    refine G_bd (fun x8 t9 h10 => ?_)
    refine G_st (x_callN [aI x2, aI (x1 - (1 : Int32)), aR (h, 7)] (c_X6_get ids Hn (h, 10) v2 (Hh 10 (Nat.le_of_ble_eq_true rfl) (Nat.le_of_ble_eq_true rfl)) rfl _ _ _ h10) dX5_next_70 (List.mem_of_getElem? (i := 17) rfl) kc_X6_get rfl ⟨Nat.le_of_ble_eq_true rfl, Nat.le_of_ble_eq_true rfl⟩ (Nat.le_of_ble_eq_true rfl) rfl) ?_
    refine G_st (x_iadd dX5_next_73) ?_
    refine G_bd (fun x11 t12 h13 => ?_)
    refine G_st (x_callV [] (c_X0_place ids Hn h (x1 - (1 : Int32)) (x2 + x8) Hh _ _ _ h13) dX5_next_74 tw_623 kc_X0_place (Hh 7 (Nat.le_of_ble_eq_true rfl) (Nat.le_of_ble_eq_true rfl)) rfl rfl rfl rfl ⟨Nat.le_of_ble_eq_true rfl, Nat.le_of_ble_eq_true rfl⟩ (Nat.le_of_ble_eq_true rfl) rfl) ?_
    exact G_ret rfl ⟨dX5_next_77, _, rfl, rfl⟩ rfl
  refine G_ite (fun c14 => ?_) (fun c14 => ?_)
  · refine G_st (x_tabIn (tgt := 153) (3 : Int32) dX5_next_10 c14 (by decide) (by decide) rfl (by decide)) ?_
    refine G_weak _ ?_ (g_X5_next_153 ids Hn h Hh x1 x2 t0)
    exact (leL_s (leL_n (leL_n (leL_s (leL_s (leL_n (leL_n (leL_e _))))))))
  refine G_ite (fun c18 => ?_) (fun c18 => ?_)
  · refine G_st (x_tabIn (tgt := 78) (4 : Int32) dX5_next_10 c18 (by decide) (by decide) rfl (by decide)) ?_
    refine G_st (x_aload_n dX5_next_78 rfl) ?_
    refine G_st (x_iload_n dX5_next_79 rfl) ?_
    refine G_st (x_iconst (1 : Int32) dX5_next_80 rfl) ?_
    refine G_st (x_iadd dX5_next_81) ?_
    refine G_st (x_iload dX5_next_82 rfl) ?_
    refine G_bd (fun x19 t20 h21 => ?_)
    refine G_st (x_callV [] (c_X0_place ids Hn h (x1 + (1 : Int32)) x2 Hh _ _ _ h21) dX5_next_84 tw_623 kc_X0_place (Hh 7 (Nat.le_of_ble_eq_true rfl) (Nat.le_of_ble_eq_true rfl)) rfl rfl rfl rfl ⟨Nat.le_of_ble_eq_true rfl, Nat.le_of_ble_eq_true rfl⟩ (Nat.le_of_ble_eq_true rfl) rfl) ?_
    refine G_st (x_istore [some (aR (h, 7)), some (aI v1), some (aI v2), some (aI x1), some (aI x2), some (aI x19), none] dX5_next_87 (Nat.le_of_ble_eq_true rfl) rfl rfl) ?_
    refine G_st (x_aload_n dX5_next_89 rfl) ?_
    refine G_st (x_get (k := 5) (aR (h, 10)) dX5_next_90 (Hh 7 (Nat.le_of_ble_eq_true rfl) (Nat.le_of_ble_eq_true rfl)) rfl rfl rfl rfl inTX0 (Nat.le_of_ble_eq_true rfl) tw_126 (fun ad => rfl)) ?_
    refine G_st (x_iload dX5_next_93 rfl) ?_
    refine G_bd (fun x22 t23 h24 => ?_)
    refine G_st (x_callN [] (c_X6_get ids Hn (h, 10) x19 (Hh 10 (Nat.le_of_ble_eq_true rfl) (Nat.le_of_ble_eq_true rfl)) rfl _ _ _ h24) dX5_next_95 (List.mem_of_getElem? (i := 17) rfl) kc_X6_get rfl ⟨Nat.le_of_ble_eq_true rfl, Nat.le_of_ble_eq_true rfl⟩ (Nat.le_of_ble_eq_true rfl) rfl) ?_
    have e26 : Tj mX5_next ids 98 [some (aR (h, 7)), some (aI v1), some (aI v2), some (aI x1), some (aI x2), some (aI x19), none] [aI x22] t23 107 [some (aR (h, 7)), some (aI v1), some (aI v2), some (aI x1), some (aI x2), some (aI x19), none] [aI (if x22 = 0 then x19 else (-1 : Int32))] t23 := by
      refine Tj.dia (fun c25 => ?_) (fun c25 => ?_)
      · refine Tj.tr (x_if_eq_t (tgt := 105) dX5_next_98 (by decide) c25) ?_
        refine Tj.tr (x_iload dX5_next_105 rfl) ?_
        exact Tj.rf
      · refine Tj.tr (x_if_eq_f 105 dX5_next_98 (by decide) c25) ?_
        refine Tj.tr (x_iconst (-1 : Int32) dX5_next_101 rfl) ?_
        refine Tj.tr (x_goto (tgt := 107) dX5_next_102 (by decide)) ?_
        exact Tj.rf
    refine G_st e26 ?_
    exact G_ret rfl ⟨dX5_next_107, _, rfl, rfl⟩ rfl
  refine G_ite (fun c27 => ?_) (fun c27 => ?_)
  · refine G_st (x_tabIn (tgt := 108) (5 : Int32) dX5_next_10 c27 (by decide) (by decide) rfl (by decide)) ?_
    refine G_st (x_aload_n dX5_next_108 rfl) ?_
    refine G_st (x_get (k := 2) (aI (t0 (h, 7) 2)) dX5_next_109 (Hh 7 (Nat.le_of_ble_eq_true rfl) (Nat.le_of_ble_eq_true rfl)) rfl rfl rfl rfl inTX0 (Nat.le_of_ble_eq_true rfl) tw_115 (fun ad => rfl)) ?_
    have e30 : Tj mX5_next ids 112 [some (aR (h, 7)), some (aI v1), some (aI v2), some (aI x1), some (aI x2), none, none] [aI (t0 (h, 7) 2)] t0 125 [some (aR (h, 7)), some (aI v1), some (aI v2), some (aI x1), some (aI x2), none, none] [aI (if (t0 (h, 7) 2) = 0 then (if x1 < (2 : Int32) then (0 : Int32) else (1 : Int32)) else (0 : Int32))] t0 := by
      refine Tj.dia (fun c28 => ?_) (fun c28 => ?_)
      · refine Tj.tr (x_if_ne_f 124 dX5_next_112 (by decide) c28) ?_
        refine Tj.tr (x_iload_n dX5_next_115 rfl) ?_
        refine Tj.tr (x_iconst (2 : Int32) dX5_next_116 rfl) ?_
        refine Tj.dia (fun c29 => ?_) (fun c29 => ?_)
        · refine Tj.tr (x_icmp_lt_t (tgt := 124) dX5_next_117 (by decide) c29) ?_
          refine Tj.tr (x_iconst (0 : Int32) dX5_next_124 rfl) ?_
          exact Tj.rf
        · refine Tj.tr (x_icmp_lt_f 124 dX5_next_117 (by decide) c29) ?_
          refine Tj.tr (x_iconst (1 : Int32) dX5_next_120 rfl) ?_
          refine Tj.tr (x_goto (tgt := 125) dX5_next_121 (by decide)) ?_
          exact Tj.rf
      · refine Tj.tr (x_if_ne_t (tgt := 124) dX5_next_112 (by decide) c28) ?_
        refine Tj.tr (x_iconst (0 : Int32) dX5_next_124 rfl) ?_
        exact Tj.rf
    refine G_st e30 ?_
    refine G_bvI (fun x31 => ?_)
    refine G_st (x_istore [some (aR (h, 7)), some (aI v1), some (aI v2), some (aI x1), some (aI x2), none, some (aI x31)] dX5_next_125 (Nat.le_of_ble_eq_true rfl) rfl rfl) ?_
    refine G_st (x_aload_n dX5_next_127 rfl) ?_
    refine G_st (x_iload dX5_next_128 rfl) ?_
    have e33 : Tj mX5_next ids 130 [some (aR (h, 7)), some (aI v1), some (aI v2), some (aI x1), some (aI x2), none, some (aI x31)] [aI x31, aR (h, 7)] t0 142 [some (aR (h, 7)), some (aI v1), some (aI v2), some (aI x1), some (aI x2), none, some (aI x31)] [aI (if x31 = 0 then (x1 - (1 : Int32)) else (x1 - (2 : Int32))), aR (h, 7)] t0 := by
      refine Tj.dia (fun c32 => ?_) (fun c32 => ?_)
      · refine Tj.tr (x_if_eq_t (tgt := 139) dX5_next_130 (by decide) c32) ?_
        refine Tj.tr (x_iload_n dX5_next_139 rfl) ?_
        refine Tj.tr (x_iconst (1 : Int32) dX5_next_140 rfl) ?_
        refine Tj.tr (x_isub dX5_next_141) ?_
        exact Tj.rf
      · refine Tj.tr (x_if_eq_f 139 dX5_next_130 (by decide) c32) ?_
        refine Tj.tr (x_iload_n dX5_next_133 rfl) ?_
        refine Tj.tr (x_iconst (2 : Int32) dX5_next_134 rfl) ?_
        refine Tj.tr (x_isub dX5_next_135) ?_
        refine Tj.tr (x_goto (tgt := 142) dX5_next_136 (by decide)) ?_
        exact Tj.rf
    refine G_st e33 ?_
    refine G_st (x_iload dX5_next_142 rfl) ?_
    refine G_st (x_aload_n dX5_next_144 rfl) ?_
    refine G_st (x_get (k := 2) (aI (t0 (h, 7) 2)) dX5_next_145 (Hh 7 (Nat.le_of_ble_eq_true rfl) (Nat.le_of_ble_eq_true rfl)) rfl rfl rfl rfl inTX0 (Nat.le_of_ble_eq_true rfl) tw_115 (fun ad => rfl)) ?_
    refine G_st (x_iadd dX5_next_148) ?_
    refine G_bd (fun x34 t35 h36 => ?_)
    refine G_st (x_callV [] (c_X0_place ids Hn h (if x31 = 0 then (x1 - (1 : Int32)) else (x1 - (2 : Int32))) (x2 + (t0 (h, 7) 2)) Hh _ _ _ h36) dX5_next_149 tw_623 kc_X0_place (Hh 7 (Nat.le_of_ble_eq_true rfl) (Nat.le_of_ble_eq_true rfl)) rfl rfl rfl rfl ⟨Nat.le_of_ble_eq_true rfl, Nat.le_of_ble_eq_true rfl⟩ (Nat.le_of_ble_eq_true rfl) rfl) ?_
    exact G_ret rfl ⟨dX5_next_152, _, rfl, rfl⟩ rfl
  refine G_st (x_tabOut (tgt := 153) dX5_next_10 (by have c3q : ¬ (v1).toInt = (1 : Int) := lv_neT c3 rfl; have c7q : ¬ (v1).toInt = (2 : Int) := lv_neT c7 rfl; have c14q : ¬ (v1).toInt = (3 : Int) := lv_neT c14 rfl; have c18q : ¬ (v1).toInt = (4 : Int) := lv_neT c18 rfl; have c27q : ¬ (v1).toInt = (5 : Int) := lv_neT c27 rfl; omega) (by decide)) ?_
  refine G_weak _ ?_ (g_X5_next_153 ids Hn h Hh x1 x2 t0)
  exact (leL_s (leL_n (leL_n (leL_s (leL_s (leL_n (leL_n (leL_e _))))))))
set_option maxRecDepth 100000 in
set_option maxHeartbeats 4000000 in
theorem c_X5_next (ids : List (Nat × Nat)) (Hn : Ndp ids) (h : Nat) (v1 : Int32) (v2 : Int32) (Hh : InR ids h 7 14) (t0 : Sg) (r : Int32) (t1 : Sg) (hf : f_X5_next h v1 v2 t0 = some (r, t1)) : Mt0 mX5_next yX5_next ids [aR (h, 7), aI v1, aI v2] t0 (some (aI r)) t1 :=
  Mt_of (x := (r, t1)) (g_X5_next ids Hn h v1 v2 Hh t0) hf (fun _ _ => trivial) (by decide) rfl Hn (fun _ => rfl) (fun _ => Nat.le_of_ble_eq_true rfl)
theorem dX5_trace_0 : decode cX5_trace 0 = .ok (.aload_n 0, 1) := by decide +kernel
theorem dX5_trace_1 : decode cX5_trace 1 = .ok (.iconst 0, 1) := by decide +kernel
theorem dX5_trace_2 : decode cX5_trace 2 = .ok (.putfield 21, 3) := by decide +kernel
theorem dX5_trace_5 : decode cX5_trace 5 = .ok (.aload_n 2, 1) := by decide +kernel
theorem dX5_trace_6 : decode cX5_trace 6 = .ok (.getfield 25, 3) := by decide +kernel
theorem dX5_trace_9 : decode cX5_trace 9 = .ok (.iload_n 3, 1) := by decide +kernel
theorem dX5_trace_10 : decode cX5_trace 10 = .ok (.invokestatic 30, 3) := by decide +kernel
theorem dX5_trace_13 : decode cX5_trace 13 = .ok (.istore 4, 2) := by decide +kernel
theorem dX5_trace_15 : decode cX5_trace 15 = .ok (.aload_n 1, 1) := by decide +kernel
theorem dX5_trace_16 : decode cX5_trace 16 = .ok (.iload 4, 2) := by decide +kernel
theorem dX5_trace_18 : decode cX5_trace 18 = .ok (.aload_n 1, 1) := by decide +kernel
theorem dX5_trace_19 : decode cX5_trace 19 = .ok (.getfield 34, 3) := by decide +kernel
theorem dX5_trace_22 : decode cX5_trace 22 = .ok (.aload_n 2, 1) := by decide +kernel
theorem dX5_trace_23 : decode cX5_trace 23 = .ok (.getfield 39, 3) := by decide +kernel
theorem dX5_trace_26 : decode cX5_trace 26 = .ok (.iload_n 3, 1) := by decide +kernel
theorem dX5_trace_27 : decode cX5_trace 27 = .ok (.invokestatic 30, 3) := by decide +kernel
theorem dX5_trace_30 : decode cX5_trace 30 = .ok (.invokestatic 30, 3) := by decide +kernel
theorem dX5_trace_33 : decode cX5_trace 33 = .ok (.invokestatic 42, 3) := by decide +kernel
theorem dX5_trace_36 : decode cX5_trace 36 = .ok (.istore 5, 2) := by decide +kernel
theorem dX5_trace_38 : decode cX5_trace 38 = .ok (.iconst 0, 1) := by decide +kernel
theorem dX5_trace_39 : decode cX5_trace 39 = .ok (.istore 6, 2) := by decide +kernel
theorem dX5_trace_41 : decode cX5_trace 41 = .ok (.iload 6, 2) := by decide +kernel
theorem dX5_trace_43 : decode cX5_trace 43 = .ok (.bipush 6, 2) := by decide +kernel
theorem dX5_trace_45 : decode cX5_trace 45 = .ok (.if_icmp .ge 43, 3) := by decide +kernel
theorem dX5_trace_48 : decode cX5_trace 48 = .ok (.iload 5, 2) := by decide +kernel
theorem dX5_trace_50 : decode cX5_trace 50 = .ok (.ifCond .lt 38, 3) := by decide +kernel
theorem dX5_trace_53 : decode cX5_trace 53 = .ok (.aload_n 0, 1) := by decide +kernel
theorem dX5_trace_54 : decode cX5_trace 54 = .ok (.getfield 9, 3) := by decide +kernel
theorem dX5_trace_57 : decode cX5_trace 57 = .ok (.iload 6, 2) := by decide +kernel
theorem dX5_trace_59 : decode cX5_trace 59 = .ok (.iload 5, 2) := by decide +kernel
theorem dX5_trace_61 : decode cX5_trace 61 = .ok (.invokestatic 46, 3) := by decide +kernel
theorem dX5_trace_64 : decode cX5_trace 64 = .ok (.aload_n 0, 1) := by decide +kernel
theorem dX5_trace_65 : decode cX5_trace 65 = .ok (.iload 6, 2) := by decide +kernel
theorem dX5_trace_67 : decode cX5_trace 67 = .ok (.iconst 1, 1) := by decide +kernel
theorem dX5_trace_68 : decode cX5_trace 68 = .ok (.iadd, 1) := by decide +kernel
theorem dX5_trace_69 : decode cX5_trace 69 = .ok (.putfield 21, 3) := by decide +kernel
theorem dX5_trace_72 : decode cX5_trace 72 = .ok (.aload_n 1, 1) := by decide +kernel
theorem dX5_trace_73 : decode cX5_trace 73 = .ok (.iload 4, 2) := by decide +kernel
theorem dX5_trace_75 : decode cX5_trace 75 = .ok (.iload 5, 2) := by decide +kernel
theorem dX5_trace_77 : decode cX5_trace 77 = .ok (.invokestatic 42, 3) := by decide +kernel
theorem dX5_trace_80 : decode cX5_trace 80 = .ok (.istore 5, 2) := by decide +kernel
theorem dX5_trace_82 : decode cX5_trace 82 = .ok (.iinc 6 1, 3) := by decide +kernel
theorem dX5_trace_85 : decode cX5_trace 85 = .ok (.goto (-44), 3) := by decide +kernel
theorem dX5_trace_88 : decode cX5_trace 88 = .ok (.return_, 1) := by decide +kernel
set_option maxRecDepth 100000 in
set_option maxHeartbeats 4000000 in
theorem g_X5_trace_41 (ids : List (Nat × Nat)) (Hn : Ndp ids) (h : Nat) (g : Nat) (q : Nat) (Hh : InR ids h 25 28) (Hg : InR ids g 7 14) (Hq : InR ids q 15 19)  : ∀ (n : Nat) (v4 : Int32) (v5 : Int32) (v6 : Int32) (t0 : Sg), Gj kV mX5_trace ids 41 [some (aR (h, 25)), some (aR (g, 7)), none, none, some (aI v4), some (aI v5), some (aI v6)] [] t0 (f_X5_trace_41 h g q n v4 v5 v6 t0) := by
  intro n
  induction n with
  | zero => intro v4 v5 v6 t0; exact G_none
  | succ n ih =>
    intro v4 v5 v6 t0
    rw [f_X5_trace_41]
    refine G_st (x_iload dX5_trace_41 rfl) ?_
    refine G_st (x_bipush (6 : Int32) dX5_trace_43 rfl) ?_
    refine G_ite (fun c14 => ?_) (fun c14 => ?_)
    · refine G_st (x_icmp_ge_t (tgt := 88) dX5_trace_45 (by decide) c14) ?_
      exact G_ret rfl ⟨rfl, dX5_trace_88⟩ rfl
    · refine G_st (x_icmp_ge_f 88 dX5_trace_45 (by decide) c14) ?_
      refine G_st (x_iload dX5_trace_48 rfl) ?_
      refine G_ite (fun c15 => ?_) (fun c15 => ?_)
      · refine G_st (x_if_lt_t (tgt := 88) dX5_trace_50 (by decide) c15) ?_
        exact G_ret rfl ⟨rfl, dX5_trace_88⟩ rfl
      · refine G_st (x_if_lt_f 88 dX5_trace_50 (by decide) c15) ?_
        refine G_st (x_aload_n dX5_trace_53 rfl) ?_
        refine G_st (x_get (k := 0) (aR (h, 26)) dX5_trace_54 (Hh 25 (Nat.le_of_ble_eq_true rfl) (Nat.le_of_ble_eq_true rfl)) rfl rfl rfl rfl inTX5 (Nat.le_of_ble_eq_true rfl) tw_230 (fun ad => rfl)) ?_
        refine G_st (x_iload dX5_trace_57 rfl) ?_
        refine G_st (x_iload dX5_trace_59 rfl) ?_
        refine G_bd (fun _ t17 h18 => ?_)
        refine G_st (x_callN [] (c_X6_set ids Hn (h, 26) v6 v5 (Hh 26 (Nat.le_of_ble_eq_true rfl) (Nat.le_of_ble_eq_true rfl)) rfl _ _ _ h18) dX5_trace_61 (List.mem_of_getElem? (i := 18) rfl) kc_X6_set rfl ⟨Nat.le_of_ble_eq_true rfl, Nat.le_of_ble_eq_true rfl⟩ (Nat.le_of_ble_eq_true rfl) rfl) ?_
        refine G_st (x_aload_n dX5_trace_64 rfl) ?_
        refine G_st (x_iload dX5_trace_65 rfl) ?_
        refine G_st (x_iconst (1 : Int32) dX5_trace_67 rfl) ?_
        refine G_st (x_iadd dX5_trace_68) ?_
        refine G_st (x_put (k := 3) (ty := .int) (v := aI (v6 + (1 : Int32))) (z := (v6 + (1 : Int32))) (upS t17 (h, 25) 3 (v6 + (1 : Int32))) dX5_trace_69 (Hh 25 (Nat.le_of_ble_eq_true rfl) (Nat.le_of_ble_eq_true rfl)) rfl rfl rfl rfl inTX5 tyX5_ok nmX5 (Nat.le_of_ble_eq_true rfl) tw_237 rfl rfl (fun ad => rfl) (fun ad => rfl) (fun ad => put_i0 ad _ _ _ _ rfl) rfl) ?_
        refine G_bvS (fun t19 => ?_)
        refine G_st (x_aload_n dX5_trace_72 rfl) ?_
        refine G_st (x_iload dX5_trace_73 rfl) ?_
        refine G_st (x_iload dX5_trace_75 rfl) ?_
        refine G_bd (fun x20 t21 h22 => ?_)
        refine G_st (x_callS [] (c_X5_next ids Hn g v4 v5 Hg _ _ _ h22) dX5_trace_77 tw_620 kc_X5_next rfl ⟨Nat.le_of_ble_eq_true rfl, Nat.le_of_ble_eq_true rfl⟩ (Nat.le_of_ble_eq_true rfl) rfl) ?_
        refine G_st (x_istore [some (aR (h, 25)), some (aR (g, 7)), none, none, some (aI v4), some (aI x20), some (aI v6)] dX5_trace_80 (Nat.le_of_ble_eq_true rfl) rfl rfl) ?_
        refine G_st (x_iinc (v6 + (1 : Int32)) [some (aR (h, 25)), some (aR (g, 7)), none, none, some (aI v4), some (aI x20), some (aI (v6 + (1 : Int32)))] dX5_trace_82 (Nat.le_of_ble_eq_true rfl) rfl rfl rfl rfl) ?_
        refine G_st (x_goto (tgt := 41) dX5_trace_85 (by decide)) ?_
        refine G_weak _ ?_ ((ih) v4 x20 (v6 + (1 : Int32)) t21)
        exact (leL_s (leL_s (leL_n (leL_n (leL_s (leL_s (leL_s (leL_e _))))))))
set_option maxRecDepth 100000 in
set_option maxHeartbeats 4000000 in
theorem g_X5_trace (ids : List (Nat × Nat)) (Hn : Ndp ids) (h : Nat) (g : Nat) (q : Nat) (v3 : Int32) (Hh : InR ids h 25 28) (Hg : InR ids g 7 14) (Hq : InR ids q 15 19) (t0 : Sg) : Gj kV mX5_trace ids 0 [some (aR (h, 25)), some (aR (g, 7)), some (aR (q, 15)), some (aI v3), none, none, none] [] t0 (f_X5_trace h g q v3 t0) := by
  unfold f_X5_trace
  refine G_st (x_aload_n dX5_trace_0 rfl) ?_
  refine G_st (x_iconst (0 : Int32) dX5_trace_1 rfl) ?_
  refine G_st (x_put (k := 3) (ty := .int) (v := aI (0 : Int32)) (z := (0 : Int32)) (upS t0 (h, 25) 3 (0 : Int32)) dX5_trace_2 (Hh 25 (Nat.le_of_ble_eq_true rfl) (Nat.le_of_ble_eq_true rfl)) rfl rfl rfl rfl inTX5 tyX5_ok nmX5 (Nat.le_of_ble_eq_true rfl) tw_237 rfl rfl (fun ad => rfl) (fun ad => rfl) (fun ad => put_i0 ad _ _ _ _ rfl) rfl) ?_
  refine G_bvS (fun t1 => ?_)
  refine G_st (x_aload_n dX5_trace_5 rfl) ?_
  refine G_st (x_get (k := 2) (aR (q, 17)) dX5_trace_6 (Hq 15 (Nat.le_of_ble_eq_true rfl) (Nat.le_of_ble_eq_true rfl)) rfl rfl rfl rfl inTX1 (Nat.le_of_ble_eq_true rfl) tw_178 (fun ad => rfl)) ?_
  refine G_st (x_iload_n dX5_trace_9 rfl) ?_
  refine G_bd (fun x2 t3 h4 => ?_)
  refine G_st (x_callN [] (c_X6_get ids Hn (q, 17) v3 (Hq 17 (Nat.le_of_ble_eq_true rfl) (Nat.le_of_ble_eq_true rfl)) rfl _ _ _ h4) dX5_trace_10 (List.mem_of_getElem? (i := 17) rfl) kc_X6_get rfl ⟨Nat.le_of_ble_eq_true rfl, Nat.le_of_ble_eq_true rfl⟩ (Nat.le_of_ble_eq_true rfl) rfl) ?_
  refine G_st (x_istore [some (aR (h, 25)), some (aR (g, 7)), some (aR (q, 15)), some (aI v3), some (aI x2), none, none] dX5_trace_13 (Nat.le_of_ble_eq_true rfl) rfl rfl) ?_
  refine G_st (x_aload_n dX5_trace_15 rfl) ?_
  refine G_st (x_iload dX5_trace_16 rfl) ?_
  refine G_st (x_aload_n dX5_trace_18 rfl) ?_
  refine G_st (x_get (k := 9) (aR (g, 14)) dX5_trace_19 (Hg 7 (Nat.le_of_ble_eq_true rfl) (Nat.le_of_ble_eq_true rfl)) rfl rfl rfl rfl inTX0 (Nat.le_of_ble_eq_true rfl) tw_139 (fun ad => rfl)) ?_
  refine G_st (x_aload_n dX5_trace_22 rfl) ?_
  refine G_st (x_get (k := 1) (aR (q, 16)) dX5_trace_23 (Hq 15 (Nat.le_of_ble_eq_true rfl) (Nat.le_of_ble_eq_true rfl)) rfl rfl rfl rfl inTX1 (Nat.le_of_ble_eq_true rfl) tw_174 (fun ad => rfl)) ?_
  refine G_st (x_iload_n dX5_trace_26 rfl) ?_
  refine G_bd (fun x5 t6 h7 => ?_)
  refine G_st (x_callN [aR (g, 14), aI x2, aR (g, 7)] (c_X6_get ids Hn (q, 16) v3 (Hq 16 (Nat.le_of_ble_eq_true rfl) (Nat.le_of_ble_eq_true rfl)) rfl _ _ _ h7) dX5_trace_27 (List.mem_of_getElem? (i := 17) rfl) kc_X6_get rfl ⟨Nat.le_of_ble_eq_true rfl, Nat.le_of_ble_eq_true rfl⟩ (Nat.le_of_ble_eq_true rfl) rfl) ?_
  refine G_bd (fun x8 t9 h10 => ?_)
  refine G_st (x_callN [aI x2, aR (g, 7)] (c_X6_get ids Hn (g, 14) x5 (Hg 14 (Nat.le_of_ble_eq_true rfl) (Nat.le_of_ble_eq_true rfl)) rfl _ _ _ h10) dX5_trace_30 (List.mem_of_getElem? (i := 17) rfl) kc_X6_get rfl ⟨Nat.le_of_ble_eq_true rfl, Nat.le_of_ble_eq_true rfl⟩ (Nat.le_of_ble_eq_true rfl) rfl) ?_
  refine G_bd (fun x11 t12 h13 => ?_)
  refine G_st (x_callS [] (c_X5_next ids Hn g x2 x8 Hg _ _ _ h13) dX5_trace_33 tw_620 kc_X5_next rfl ⟨Nat.le_of_ble_eq_true rfl, Nat.le_of_ble_eq_true rfl⟩ (Nat.le_of_ble_eq_true rfl) rfl) ?_
  refine G_st (x_istore [some (aR (h, 25)), some (aR (g, 7)), some (aR (q, 15)), some (aI v3), some (aI x2), some (aI x11), none] dX5_trace_36 (Nat.le_of_ble_eq_true rfl) rfl rfl) ?_
  refine G_st (x_iconst (0 : Int32) dX5_trace_38 rfl) ?_
  refine G_st (x_istore [some (aR (h, 25)), some (aR (g, 7)), some (aR (q, 15)), some (aI v3), some (aI x2), some (aI x11), some (aI (0 : Int32))] dX5_trace_39 (Nat.le_of_ble_eq_true rfl) rfl rfl) ?_
  refine G_weak _ ?_ (g_X5_trace_41 ids Hn h g q Hh Hg Hq fuel x2 x11 (0 : Int32) t12)
  exact (leL_s (leL_s (leL_n (leL_n (leL_s (leL_s (leL_s (leL_e _))))))))
set_option maxRecDepth 100000 in
set_option maxHeartbeats 4000000 in
theorem c_X5_trace (ids : List (Nat × Nat)) (Hn : Ndp ids) (h : Nat) (g : Nat) (q : Nat) (v3 : Int32) (Hh : InR ids h 25 28) (Hg : InR ids g 7 14) (Hq : InR ids q 15 19) (t0 : Sg) (r : Unit) (t1 : Sg) (hf : f_X5_trace h g q v3 t0 = some (r, t1)) : Mt0 mX5_trace yX5_trace ids [aR (h, 25), aR (g, 7), aR (q, 15), aI v3] t0 none t1 :=
  Mt_of (x := (r, t1)) (g_X5_trace ids Hn h g q v3 Hh Hg Hq t0) hf (fun _ _ => trivial) (by decide) rfl Hn (fun _ => rfl) (fun _ => Nat.le_of_ble_eq_true rfl)
theorem dX2_follow_0 : decode cX2_follow 0 = .ok (.aload_n 0, 1) := by decide +kernel
theorem dX2_follow_1 : decode cX2_follow 1 = .ok (.getfield 35, 3) := by decide +kernel
theorem dX2_follow_4 : decode cX2_follow 4 = .ok (.aload_n 0, 1) := by decide +kernel
theorem dX2_follow_5 : decode cX2_follow 5 = .ok (.getfield 12, 3) := by decide +kernel
theorem dX2_follow_8 : decode cX2_follow 8 = .ok (.aload_n 0, 1) := by decide +kernel
theorem dX2_follow_9 : decode cX2_follow 9 = .ok (.getfield 21, 3) := by decide +kernel
theorem dX2_follow_12 : decode cX2_follow 12 = .ok (.iload_n 1, 1) := by decide +kernel
theorem dX2_follow_13 : decode cX2_follow 13 = .ok (.invokevirtual 63, 3) := by decide +kernel
theorem dX2_follow_16 : decode cX2_follow 16 = .ok (.aload_n 0, 1) := by decide +kernel
theorem dX2_follow_17 : decode cX2_follow 17 = .ok (.getfield 35, 3) := by decide +kernel
theorem dX2_follow_20 : decode cX2_follow 20 = .ok (.aload_n 0, 1) := by decide +kernel
theorem dX2_follow_21 : decode cX2_follow 21 = .ok (.getfield 12, 3) := by decide +kernel
theorem dX2_follow_24 : decode cX2_follow 24 = .ok (.aload_n 0, 1) := by decide +kernel
theorem dX2_follow_25 : decode cX2_follow 25 = .ok (.getfield 21, 3) := by decide +kernel
theorem dX2_follow_28 : decode cX2_follow 28 = .ok (.iload_n 1, 1) := by decide +kernel
theorem dX2_follow_29 : decode cX2_follow 29 = .ok (.invokevirtual 67, 3) := by decide +kernel
theorem dX2_follow_32 : decode cX2_follow 32 = .ok (.aload_n 0, 1) := by decide +kernel
theorem dX2_follow_33 : decode cX2_follow 33 = .ok (.getfield 35, 3) := by decide +kernel
theorem dX2_follow_36 : decode cX2_follow 36 = .ok (.areturn, 1) := by decide +kernel
set_option maxRecDepth 100000 in
set_option maxHeartbeats 4000000 in
theorem g_X2_follow (ids : List (Nat × Nat)) (Hn : Ndp ids) (h : Nat) (v1 : Int32) (Hh : InR ids h 6 28) (t0 : Sg) : Gj (fun q : Unit × Sg => (some (aR (h, 25)), q.2)) mX2_follow ids 0 [some (aR (h, 6)), some (aI v1)] [] t0 (f_X2_follow h v1 t0) := by
  unfold f_X2_follow
  refine G_st (x_aload_n dX2_follow_0 rfl) ?_
  refine G_st (x_get (k := 3) (aR (h, 25)) dX2_follow_1 (Hh 6 (Nat.le_of_ble_eq_true rfl) (Nat.le_of_ble_eq_true rfl)) rfl rfl rfl rfl inTX2 (Nat.le_of_ble_eq_true rfl) tw_257 (fun ad => rfl)) ?_
  refine G_st (x_aload_n dX2_follow_4 rfl) ?_
  refine G_st (x_get (k := 0) (aR (h, 7)) dX2_follow_5 (Hh 6 (Nat.le_of_ble_eq_true rfl) (Nat.le_of_ble_eq_true rfl)) rfl rfl rfl rfl inTX2 (Nat.le_of_ble_eq_true rfl) tw_249 (fun ad => rfl)) ?_
  refine G_st (x_aload_n dX2_follow_8 rfl) ?_
  refine G_st (x_get (k := 1) (aR (h, 15)) dX2_follow_9 (Hh 6 (Nat.le_of_ble_eq_true rfl) (Nat.le_of_ble_eq_true rfl)) rfl rfl rfl rfl inTX2 (Nat.le_of_ble_eq_true rfl) tw_252 (fun ad => rfl)) ?_
  refine G_st (x_iload_n dX2_follow_12 rfl) ?_
  refine G_bd (fun _ t2 h3 => ?_)
  refine G_st (x_callV [] (c_X5_trace ids Hn h h h v1 (Hh.sub (Nat.le_of_ble_eq_true rfl) (Nat.le_of_ble_eq_true rfl)) (Hh.sub (Nat.le_of_ble_eq_true rfl) (Nat.le_of_ble_eq_true rfl)) (Hh.sub (Nat.le_of_ble_eq_true rfl) (Nat.le_of_ble_eq_true rfl)) _ _ _ h3) dX2_follow_13 tw_615 kc_X5_trace (Hh 25 (Nat.le_of_ble_eq_true rfl) (Nat.le_of_ble_eq_true rfl)) rfl rfl rfl rfl ⟨Nat.le_of_ble_eq_true rfl, Nat.le_of_ble_eq_true rfl⟩ (Nat.le_of_ble_eq_true rfl) rfl) ?_
  refine G_st (x_aload_n dX2_follow_16 rfl) ?_
  refine G_st (x_get (k := 3) (aR (h, 25)) dX2_follow_17 (Hh 6 (Nat.le_of_ble_eq_true rfl) (Nat.le_of_ble_eq_true rfl)) rfl rfl rfl rfl inTX2 (Nat.le_of_ble_eq_true rfl) tw_257 (fun ad => rfl)) ?_
  refine G_st (x_aload_n dX2_follow_20 rfl) ?_
  refine G_st (x_get (k := 0) (aR (h, 7)) dX2_follow_21 (Hh 6 (Nat.le_of_ble_eq_true rfl) (Nat.le_of_ble_eq_true rfl)) rfl rfl rfl rfl inTX2 (Nat.le_of_ble_eq_true rfl) tw_249 (fun ad => rfl)) ?_
  refine G_st (x_aload_n dX2_follow_24 rfl) ?_
  refine G_st (x_get (k := 1) (aR (h, 15)) dX2_follow_25 (Hh 6 (Nat.le_of_ble_eq_true rfl) (Nat.le_of_ble_eq_true rfl)) rfl rfl rfl rfl inTX2 (Nat.le_of_ble_eq_true rfl) tw_252 (fun ad => rfl)) ?_
  refine G_st (x_iload_n dX2_follow_28 rfl) ?_
  refine G_bd (fun _ t5 h6 => ?_)
  refine G_st (x_callV [] (c_X5_hold ids Hn h h h v1 (Hh.sub (Nat.le_of_ble_eq_true rfl) (Nat.le_of_ble_eq_true rfl)) (Hh.sub (Nat.le_of_ble_eq_true rfl) (Nat.le_of_ble_eq_true rfl)) (Hh.sub (Nat.le_of_ble_eq_true rfl) (Nat.le_of_ble_eq_true rfl)) _ _ _ h6) dX2_follow_29 tw_625 kc_X5_hold (Hh 25 (Nat.le_of_ble_eq_true rfl) (Nat.le_of_ble_eq_true rfl)) rfl rfl rfl rfl ⟨Nat.le_of_ble_eq_true rfl, Nat.le_of_ble_eq_true rfl⟩ (Nat.le_of_ble_eq_true rfl) rfl) ?_
  refine G_st (x_aload_n dX2_follow_32 rfl) ?_
  refine G_st (x_get (k := 3) (aR (h, 25)) dX2_follow_33 (Hh 6 (Nat.le_of_ble_eq_true rfl) (Nat.le_of_ble_eq_true rfl)) rfl rfl rfl rfl inTX2 (Nat.le_of_ble_eq_true rfl) tw_257 (fun ad => rfl)) ?_
  exact G_ret rfl ⟨dX2_follow_36, _, rfl⟩ rfl
set_option maxRecDepth 100000 in
set_option maxHeartbeats 4000000 in
theorem c_X2_follow (ids : List (Nat × Nat)) (Hn : Ndp ids) (h : Nat) (v1 : Int32) (Hh : InR ids h 6 28) (t0 : Sg) (r : Unit) (t1 : Sg) (hf : f_X2_follow h v1 t0 = some (r, t1)) : Mt0 mX2_follow yX2_follow ids [aR (h, 6), aI v1] t0 (some (aR (h, 25))) t1 :=
  Mt_of (x := (r, t1)) (g_X2_follow ids Hn h v1 Hh t0) hf (fun _ _ => trivial) (by decide) rfl Hn (fun _ => rfl) (fun _ => Nat.le_of_ble_eq_true rfl)
theorem dX2_trace_0 : decode cX2_trace 0 = .ok (.aload_n 0, 1) := by decide +kernel
theorem dX2_trace_1 : decode cX2_trace 1 = .ok (.getfield 35, 3) := by decide +kernel
theorem dX2_trace_4 : decode cX2_trace 4 = .ok (.aload_n 0, 1) := by decide +kernel
theorem dX2_trace_5 : decode cX2_trace 5 = .ok (.getfield 12, 3) := by decide +kernel
theorem dX2_trace_8 : decode cX2_trace 8 = .ok (.aload_n 0, 1) := by decide +kernel
theorem dX2_trace_9 : decode cX2_trace 9 = .ok (.getfield 21, 3) := by decide +kernel
theorem dX2_trace_12 : decode cX2_trace 12 = .ok (.iload_n 1, 1) := by decide +kernel
theorem dX2_trace_13 : decode cX2_trace 13 = .ok (.invokevirtual 63, 3) := by decide +kernel
theorem dX2_trace_16 : decode cX2_trace 16 = .ok (.aload_n 0, 1) := by decide +kernel
theorem dX2_trace_17 : decode cX2_trace 17 = .ok (.getfield 35, 3) := by decide +kernel
theorem dX2_trace_20 : decode cX2_trace 20 = .ok (.areturn, 1) := by decide +kernel
set_option maxRecDepth 100000 in
set_option maxHeartbeats 4000000 in
theorem g_X2_trace (ids : List (Nat × Nat)) (Hn : Ndp ids) (h : Nat) (v1 : Int32) (Hh : InR ids h 6 28) (t0 : Sg) : Gj (fun q : Unit × Sg => (some (aR (h, 25)), q.2)) mX2_trace ids 0 [some (aR (h, 6)), some (aI v1)] [] t0 (f_X2_trace h v1 t0) := by
  unfold f_X2_trace
  refine G_st (x_aload_n dX2_trace_0 rfl) ?_
  refine G_st (x_get (k := 3) (aR (h, 25)) dX2_trace_1 (Hh 6 (Nat.le_of_ble_eq_true rfl) (Nat.le_of_ble_eq_true rfl)) rfl rfl rfl rfl inTX2 (Nat.le_of_ble_eq_true rfl) tw_257 (fun ad => rfl)) ?_
  refine G_st (x_aload_n dX2_trace_4 rfl) ?_
  refine G_st (x_get (k := 0) (aR (h, 7)) dX2_trace_5 (Hh 6 (Nat.le_of_ble_eq_true rfl) (Nat.le_of_ble_eq_true rfl)) rfl rfl rfl rfl inTX2 (Nat.le_of_ble_eq_true rfl) tw_249 (fun ad => rfl)) ?_
  refine G_st (x_aload_n dX2_trace_8 rfl) ?_
  refine G_st (x_get (k := 1) (aR (h, 15)) dX2_trace_9 (Hh 6 (Nat.le_of_ble_eq_true rfl) (Nat.le_of_ble_eq_true rfl)) rfl rfl rfl rfl inTX2 (Nat.le_of_ble_eq_true rfl) tw_252 (fun ad => rfl)) ?_
  refine G_st (x_iload_n dX2_trace_12 rfl) ?_
  refine G_bd (fun _ t2 h3 => ?_)
  refine G_st (x_callV [] (c_X5_trace ids Hn h h h v1 (Hh.sub (Nat.le_of_ble_eq_true rfl) (Nat.le_of_ble_eq_true rfl)) (Hh.sub (Nat.le_of_ble_eq_true rfl) (Nat.le_of_ble_eq_true rfl)) (Hh.sub (Nat.le_of_ble_eq_true rfl) (Nat.le_of_ble_eq_true rfl)) _ _ _ h3) dX2_trace_13 tw_615 kc_X5_trace (Hh 25 (Nat.le_of_ble_eq_true rfl) (Nat.le_of_ble_eq_true rfl)) rfl rfl rfl rfl ⟨Nat.le_of_ble_eq_true rfl, Nat.le_of_ble_eq_true rfl⟩ (Nat.le_of_ble_eq_true rfl) rfl) ?_
  refine G_st (x_aload_n dX2_trace_16 rfl) ?_
  refine G_st (x_get (k := 3) (aR (h, 25)) dX2_trace_17 (Hh 6 (Nat.le_of_ble_eq_true rfl) (Nat.le_of_ble_eq_true rfl)) rfl rfl rfl rfl inTX2 (Nat.le_of_ble_eq_true rfl) tw_257 (fun ad => rfl)) ?_
  exact G_ret rfl ⟨dX2_trace_20, _, rfl⟩ rfl
set_option maxRecDepth 100000 in
set_option maxHeartbeats 4000000 in
theorem c_X2_trace (ids : List (Nat × Nat)) (Hn : Ndp ids) (h : Nat) (v1 : Int32) (Hh : InR ids h 6 28) (t0 : Sg) (r : Unit) (t1 : Sg) (hf : f_X2_trace h v1 t0 = some (r, t1)) : Mt0 mX2_trace yX2_trace ids [aR (h, 6), aI v1] t0 (some (aR (h, 25))) t1 :=
  Mt_of (x := (r, t1)) (g_X2_trace ids Hn h v1 Hh t0) hf (fun _ _ => trivial) (by decide) rfl Hn (fun _ => rfl) (fun _ => Nat.le_of_ble_eq_true rfl)
theorem dX2_harmAt_0 : decode cX2_harmAt 0 = .ok (.aload_n 0, 1) := by decide +kernel
theorem dX2_harmAt_1 : decode cX2_harmAt 1 = .ok (.getfield 35, 3) := by decide +kernel
theorem dX2_harmAt_4 : decode cX2_harmAt 4 = .ok (.getfield 70, 3) := by decide +kernel
theorem dX2_harmAt_7 : decode cX2_harmAt 7 = .ok (.iload_n 2, 1) := by decide +kernel
theorem dX2_harmAt_8 : decode cX2_harmAt 8 = .ok (.invokestatic 74, 3) := by decide +kernel
theorem dX2_harmAt_11 : decode cX2_harmAt 11 = .ok (.istore_n 3, 1) := by decide +kernel
theorem dX2_harmAt_12 : decode cX2_harmAt 12 = .ok (.aload_n 0, 1) := by decide +kernel
theorem dX2_harmAt_13 : decode cX2_harmAt 13 = .ok (.getfield 12, 3) := by decide +kernel
theorem dX2_harmAt_16 : decode cX2_harmAt 16 = .ok (.getfield 78, 3) := by decide +kernel
theorem dX2_harmAt_19 : decode cX2_harmAt 19 = .ok (.iload_n 3, 1) := by decide +kernel
theorem dX2_harmAt_20 : decode cX2_harmAt 20 = .ok (.invokestatic 74, 3) := by decide +kernel
theorem dX2_harmAt_23 : decode cX2_harmAt 23 = .ok (.istore 4, 2) := by decide +kernel
theorem dX2_harmAt_25 : decode cX2_harmAt 25 = .ok (.aload_n 0, 1) := by decide +kernel
theorem dX2_harmAt_26 : decode cX2_harmAt 26 = .ok (.getfield 12, 3) := by decide +kernel
theorem dX2_harmAt_29 : decode cX2_harmAt 29 = .ok (.getfield 81, 3) := by decide +kernel
theorem dX2_harmAt_32 : decode cX2_harmAt 32 = .ok (.iload_n 3, 1) := by decide +kernel
theorem dX2_harmAt_33 : decode cX2_harmAt 33 = .ok (.invokestatic 74, 3) := by decide +kernel
theorem dX2_harmAt_36 : decode cX2_harmAt 36 = .ok (.aload_n 0, 1) := by decide +kernel
theorem dX2_harmAt_37 : decode cX2_harmAt 37 = .ok (.getfield 21, 3) := by decide +kernel
theorem dX2_harmAt_40 : decode cX2_harmAt 40 = .ok (.getfield 84, 3) := by decide +kernel
theorem dX2_harmAt_43 : decode cX2_harmAt 43 = .ok (.iload_n 1, 1) := by decide +kernel
theorem dX2_harmAt_44 : decode cX2_harmAt 44 = .ok (.invokestatic 74, 3) := by decide +kernel
theorem dX2_harmAt_47 : decode cX2_harmAt 47 = .ok (.ishr, 1) := by decide +kernel
theorem dX2_harmAt_48 : decode cX2_harmAt 48 = .ok (.iconst 1, 1) := by decide +kernel
theorem dX2_harmAt_49 : decode cX2_harmAt 49 = .ok (.iand, 1) := by decide +kernel
theorem dX2_harmAt_50 : decode cX2_harmAt 50 = .ok (.iconst 1, 1) := by decide +kernel
theorem dX2_harmAt_51 : decode cX2_harmAt 51 = .ok (.if_icmp .ne 7, 3) := by decide +kernel
theorem dX2_harmAt_54 : decode cX2_harmAt 54 = .ok (.iconst 1, 1) := by decide +kernel
theorem dX2_harmAt_55 : decode cX2_harmAt 55 = .ok (.goto 4, 3) := by decide +kernel
theorem dX2_harmAt_58 : decode cX2_harmAt 58 = .ok (.iconst 0, 1) := by decide +kernel
theorem dX2_harmAt_59 : decode cX2_harmAt 59 = .ok (.istore 5, 2) := by decide +kernel
theorem dX2_harmAt_61 : decode cX2_harmAt 61 = .ok (.iload 4, 2) := by decide +kernel
theorem dX2_harmAt_63 : decode cX2_harmAt 63 = .ok (.ifCond .eq 8, 3) := by decide +kernel
theorem dX2_harmAt_66 : decode cX2_harmAt 66 = .ok (.iload 5, 2) := by decide +kernel
theorem dX2_harmAt_68 : decode cX2_harmAt 68 = .ok (.ifCond .ne 5, 3) := by decide +kernel
theorem dX2_harmAt_71 : decode cX2_harmAt 71 = .ok (.iconst 0, 1) := by decide +kernel
theorem dX2_harmAt_72 : decode cX2_harmAt 72 = .ok (.ireturn, 1) := by decide +kernel
theorem dX2_harmAt_73 : decode cX2_harmAt 73 = .ok (.iload 4, 2) := by decide +kernel
theorem dX2_harmAt_75 : decode cX2_harmAt 75 = .ok (.aload_n 0, 1) := by decide +kernel
theorem dX2_harmAt_76 : decode cX2_harmAt 76 = .ok (.getfield 35, 3) := by decide +kernel
theorem dX2_harmAt_79 : decode cX2_harmAt 79 = .ok (.getfield 87, 3) := by decide +kernel
theorem dX2_harmAt_82 : decode cX2_harmAt 82 = .ok (.iload_n 2, 1) := by decide +kernel
theorem dX2_harmAt_83 : decode cX2_harmAt 83 = .ok (.invokestatic 74, 3) := by decide +kernel
theorem dX2_harmAt_86 : decode cX2_harmAt 86 = .ok (.invokestatic 90, 3) := by decide +kernel
theorem dX2_harmAt_89 : decode cX2_harmAt 89 = .ok (.istore 6, 2) := by decide +kernel
theorem dX2_harmAt_91 : decode cX2_harmAt 91 = .ok (.aload_n 0, 1) := by decide +kernel
theorem dX2_harmAt_92 : decode cX2_harmAt 92 = .ok (.getfield 21, 3) := by decide +kernel
theorem dX2_harmAt_95 : decode cX2_harmAt 95 = .ok (.getfield 96, 3) := by decide +kernel
theorem dX2_harmAt_98 : decode cX2_harmAt 98 = .ok (.iload_n 1, 1) := by decide +kernel
theorem dX2_harmAt_99 : decode cX2_harmAt 99 = .ok (.invokestatic 74, 3) := by decide +kernel
theorem dX2_harmAt_102 : decode cX2_harmAt 102 = .ok (.tableswitch 53 1 5 #[34, 53, 39, 44, 46], 34) := by decide +kernel
theorem dX2_harmAt_136 : decode cX2_harmAt 136 = .ok (.iload 6, 2) := by decide +kernel
theorem dX2_harmAt_138 : decode cX2_harmAt 138 = .ok (.iconst 2, 1) := by decide +kernel
theorem dX2_harmAt_139 : decode cX2_harmAt 139 = .ok (.idiv, 1) := by decide +kernel
theorem dX2_harmAt_140 : decode cX2_harmAt 140 = .ok (.ireturn, 1) := by decide +kernel
theorem dX2_harmAt_141 : decode cX2_harmAt 141 = .ok (.iconst 2, 1) := by decide +kernel
theorem dX2_harmAt_142 : decode cX2_harmAt 142 = .ok (.iload 6, 2) := by decide +kernel
theorem dX2_harmAt_144 : decode cX2_harmAt 144 = .ok (.imul, 1) := by decide +kernel
theorem dX2_harmAt_145 : decode cX2_harmAt 145 = .ok (.ireturn, 1) := by decide +kernel
theorem dX2_harmAt_146 : decode cX2_harmAt 146 = .ok (.iconst 1, 1) := by decide +kernel
theorem dX2_harmAt_147 : decode cX2_harmAt 147 = .ok (.ireturn, 1) := by decide +kernel
theorem dX2_harmAt_148 : decode cX2_harmAt 148 = .ok (.iload 6, 2) := by decide +kernel
theorem dX2_harmAt_150 : decode cX2_harmAt 150 = .ok (.iconst 2, 1) := by decide +kernel
theorem dX2_harmAt_151 : decode cX2_harmAt 151 = .ok (.idiv, 1) := by decide +kernel
theorem dX2_harmAt_152 : decode cX2_harmAt 152 = .ok (.iconst 2, 1) := by decide +kernel
theorem dX2_harmAt_153 : decode cX2_harmAt 153 = .ok (.iadd, 1) := by decide +kernel
theorem dX2_harmAt_154 : decode cX2_harmAt 154 = .ok (.ireturn, 1) := by decide +kernel
theorem dX2_harmAt_155 : decode cX2_harmAt 155 = .ok (.iload 6, 2) := by decide +kernel
theorem dX2_harmAt_157 : decode cX2_harmAt 157 = .ok (.ireturn, 1) := by decide +kernel
set_option maxRecDepth 100000 in
set_option maxHeartbeats 4000000 in
theorem g_X2_harmAt (ids : List (Nat × Nat)) (Hn : Ndp ids) (h : Nat) (v1 : Int32) (v2 : Int32) (Hh : InR ids h 6 28) (t0 : Sg) : Gj kI mX2_harmAt ids 0 [some (aR (h, 6)), some (aI v1), some (aI v2), none, none, none, none] [] t0 (f_X2_harmAt h v1 v2 t0) := by
  unfold f_X2_harmAt
  refine G_st (x_aload_n dX2_harmAt_0 rfl) ?_
  refine G_st (x_get (k := 3) (aR (h, 25)) dX2_harmAt_1 (Hh 6 (Nat.le_of_ble_eq_true rfl) (Nat.le_of_ble_eq_true rfl)) rfl rfl rfl rfl inTX2 (Nat.le_of_ble_eq_true rfl) tw_257 (fun ad => rfl)) ?_
  refine G_st (x_get (k := 0) (aR (h, 26)) dX2_harmAt_4 (Hh 25 (Nat.le_of_ble_eq_true rfl) (Nat.le_of_ble_eq_true rfl)) rfl rfl rfl rfl inTX5 (Nat.le_of_ble_eq_true rfl) tw_231 (fun ad => rfl)) ?_
  refine G_st (x_iload_n dX2_harmAt_7 rfl) ?_
  refine G_bd (fun x1 t2 h3 => ?_)
  refine G_st (x_callN [] (c_X6_get ids Hn (h, 26) v2 (Hh 26 (Nat.le_of_ble_eq_true rfl) (Nat.le_of_ble_eq_true rfl)) rfl _ _ _ h3) dX2_harmAt_8 (List.mem_of_getElem? (i := 16) rfl) kc_X6_get rfl ⟨Nat.le_of_ble_eq_true rfl, Nat.le_of_ble_eq_true rfl⟩ (Nat.le_of_ble_eq_true rfl) rfl) ?_
  refine G_st (x_istore_n [some (aR (h, 6)), some (aI v1), some (aI v2), some (aI x1), none, none, none] dX2_harmAt_11 (Nat.le_of_ble_eq_true rfl) rfl rfl) ?_
  refine G_st (x_aload_n dX2_harmAt_12 rfl) ?_
  refine G_st (x_get (k := 0) (aR (h, 7)) dX2_harmAt_13 (Hh 6 (Nat.le_of_ble_eq_true rfl) (Nat.le_of_ble_eq_true rfl)) rfl rfl rfl rfl inTX2 (Nat.le_of_ble_eq_true rfl) tw_249 (fun ad => rfl)) ?_
  refine G_st (x_get (k := 6) (aR (h, 11)) dX2_harmAt_16 (Hh 7 (Nat.le_of_ble_eq_true rfl) (Nat.le_of_ble_eq_true rfl)) rfl rfl rfl rfl inTX0 (Nat.le_of_ble_eq_true rfl) tw_130 (fun ad => rfl)) ?_
  refine G_st (x_iload_n dX2_harmAt_19 rfl) ?_
  refine G_bd (fun x4 t5 h6 => ?_)
  refine G_st (x_callN [] (c_X6_get ids Hn (h, 11) x1 (Hh 11 (Nat.le_of_ble_eq_true rfl) (Nat.le_of_ble_eq_true rfl)) rfl _ _ _ h6) dX2_harmAt_20 (List.mem_of_getElem? (i := 16) rfl) kc_X6_get rfl ⟨Nat.le_of_ble_eq_true rfl, Nat.le_of_ble_eq_true rfl⟩ (Nat.le_of_ble_eq_true rfl) rfl) ?_
  refine G_st (x_istore [some (aR (h, 6)), some (aI v1), some (aI v2), some (aI x1), some (aI x4), none, none] dX2_harmAt_23 (Nat.le_of_ble_eq_true rfl) rfl rfl) ?_
  refine G_st (x_aload_n dX2_harmAt_25 rfl) ?_
  refine G_st (x_get (k := 0) (aR (h, 7)) dX2_harmAt_26 (Hh 6 (Nat.le_of_ble_eq_true rfl) (Nat.le_of_ble_eq_true rfl)) rfl rfl rfl rfl inTX2 (Nat.le_of_ble_eq_true rfl) tw_249 (fun ad => rfl)) ?_
  refine G_st (x_get (k := 7) (aR (h, 12)) dX2_harmAt_29 (Hh 7 (Nat.le_of_ble_eq_true rfl) (Nat.le_of_ble_eq_true rfl)) rfl rfl rfl rfl inTX0 (Nat.le_of_ble_eq_true rfl) tw_133 (fun ad => rfl)) ?_
  refine G_st (x_iload_n dX2_harmAt_32 rfl) ?_
  refine G_bd (fun x7 t8 h9 => ?_)
  refine G_st (x_callN [] (c_X6_get ids Hn (h, 12) x1 (Hh 12 (Nat.le_of_ble_eq_true rfl) (Nat.le_of_ble_eq_true rfl)) rfl _ _ _ h9) dX2_harmAt_33 (List.mem_of_getElem? (i := 16) rfl) kc_X6_get rfl ⟨Nat.le_of_ble_eq_true rfl, Nat.le_of_ble_eq_true rfl⟩ (Nat.le_of_ble_eq_true rfl) rfl) ?_
  refine G_st (x_aload_n dX2_harmAt_36 rfl) ?_
  refine G_st (x_get (k := 1) (aR (h, 15)) dX2_harmAt_37 (Hh 6 (Nat.le_of_ble_eq_true rfl) (Nat.le_of_ble_eq_true rfl)) rfl rfl rfl rfl inTX2 (Nat.le_of_ble_eq_true rfl) tw_252 (fun ad => rfl)) ?_
  refine G_st (x_get (k := 4) (aR (h, 19)) dX2_harmAt_40 (Hh 15 (Nat.le_of_ble_eq_true rfl) (Nat.le_of_ble_eq_true rfl)) rfl rfl rfl rfl inTX1 (Nat.le_of_ble_eq_true rfl) tw_185 (fun ad => rfl)) ?_
  refine G_st (x_iload_n dX2_harmAt_43 rfl) ?_
  refine G_bd (fun x10 t11 h12 => ?_)
  refine G_st (x_callN [aI x7] (c_X6_get ids Hn (h, 19) v1 (Hh 19 (Nat.le_of_ble_eq_true rfl) (Nat.le_of_ble_eq_true rfl)) rfl _ _ _ h12) dX2_harmAt_44 (List.mem_of_getElem? (i := 16) rfl) kc_X6_get rfl ⟨Nat.le_of_ble_eq_true rfl, Nat.le_of_ble_eq_true rfl⟩ (Nat.le_of_ble_eq_true rfl) rfl) ?_
  refine G_st (x_ishr dX2_harmAt_47) ?_
  refine G_st (x_iconst (1 : Int32) dX2_harmAt_48 rfl) ?_
  refine G_st (x_iand dX2_harmAt_49) ?_
  refine G_st (x_iconst (1 : Int32) dX2_harmAt_50 rfl) ?_
  have e14 : Tj mX2_harmAt ids 51 [some (aR (h, 6)), some (aI v1), some (aI v2), some (aI x1), some (aI x4), none, none] [aI (1 : Int32), aI ((x7 >>> (x10 &&& 31)) &&& (1 : Int32))] t11 59 [some (aR (h, 6)), some (aI v1), some (aI v2), some (aI x1), some (aI x4), none, none] [aI (if ((x7 >>> (x10 &&& 31)) &&& (1 : Int32)) = (1 : Int32) then (1 : Int32) else (0 : Int32))] t11 := by
    refine Tj.dia (fun c13 => ?_) (fun c13 => ?_)
    · refine Tj.tr (x_icmp_ne_f 58 dX2_harmAt_51 (by decide) c13) ?_
      refine Tj.tr (x_iconst (1 : Int32) dX2_harmAt_54 rfl) ?_
      refine Tj.tr (x_goto (tgt := 59) dX2_harmAt_55 (by decide)) ?_
      exact Tj.rf
    · refine Tj.tr (x_icmp_ne_t (tgt := 58) dX2_harmAt_51 (by decide) c13) ?_
      refine Tj.tr (x_iconst (0 : Int32) dX2_harmAt_58 rfl) ?_
      exact Tj.rf
  refine G_st e14 ?_
  refine G_bvI (fun x15 => ?_)
  refine G_st (x_istore [some (aR (h, 6)), some (aI v1), some (aI v2), some (aI x1), some (aI x4), some (aI x15), none] dX2_harmAt_59 (Nat.le_of_ble_eq_true rfl) rfl rfl) ?_
  refine G_st (x_iload dX2_harmAt_61 rfl) ?_
  refine G_ite (fun c16 => ?_) (fun c16 => ?_)
  · refine G_st (x_if_eq_t (tgt := 71) dX2_harmAt_63 (by decide) c16) ?_
    refine G_st (x_iconst (0 : Int32) dX2_harmAt_71 rfl) ?_
    exact G_ret rfl ⟨dX2_harmAt_72, _, rfl, rfl⟩ rfl
  · refine G_st (x_if_eq_f 71 dX2_harmAt_63 (by decide) c16) ?_
    refine G_st (x_iload dX2_harmAt_66 rfl) ?_
    refine G_ite (fun c17 => ?_) (fun c17 => ?_)
    · refine G_st (x_if_ne_f 73 dX2_harmAt_68 (by decide) c17) ?_
      refine G_st (x_iconst (0 : Int32) dX2_harmAt_71 rfl) ?_
      exact G_ret rfl ⟨dX2_harmAt_72, _, rfl, rfl⟩ rfl
    · refine G_st (x_if_ne_t (tgt := 73) dX2_harmAt_68 (by decide) c17) ?_
      refine G_st (x_iload dX2_harmAt_73 rfl) ?_
      refine G_st (x_aload_n dX2_harmAt_75 rfl) ?_
      refine G_st (x_get (k := 3) (aR (h, 25)) dX2_harmAt_76 (Hh 6 (Nat.le_of_ble_eq_true rfl) (Nat.le_of_ble_eq_true rfl)) rfl rfl rfl rfl inTX2 (Nat.le_of_ble_eq_true rfl) tw_257 (fun ad => rfl)) ?_
      refine G_st (x_get (k := 1) (aR (h, 27)) dX2_harmAt_79 (Hh 25 (Nat.le_of_ble_eq_true rfl) (Nat.le_of_ble_eq_true rfl)) rfl rfl rfl rfl inTX5 (Nat.le_of_ble_eq_true rfl) tw_234 (fun ad => rfl)) ?_
      refine G_st (x_iload_n dX2_harmAt_82 rfl) ?_
      refine G_bd (fun x18 t19 h20 => ?_)
      refine G_st (x_callN [aI x4] (c_X6_get ids Hn (h, 27) v2 (Hh 27 (Nat.le_of_ble_eq_true rfl) (Nat.le_of_ble_eq_true rfl)) rfl _ _ _ h20) dX2_harmAt_83 (List.mem_of_getElem? (i := 16) rfl) kc_X6_get rfl ⟨Nat.le_of_ble_eq_true rfl, Nat.le_of_ble_eq_true rfl⟩ (Nat.le_of_ble_eq_true rfl) rfl) ?_
      refine G_st (x_mmin dX2_harmAt_86 tw_640 tw_444 tw_74 tw_445 ⟨Nat.le_of_ble_eq_true rfl, Nat.le_of_ble_eq_true rfl⟩ (Nat.le_of_ble_eq_true rfl)) ?_
      refine G_bvI (fun x21 => ?_)
      refine G_st (x_istore [some (aR (h, 6)), some (aI v1), some (aI v2), some (aI x1), some (aI x4), some (aI x15), some (aI x21)] dX2_harmAt_89 (Nat.le_of_ble_eq_true rfl) rfl rfl) ?_
      refine G_st (x_aload_n dX2_harmAt_91 rfl) ?_
      refine G_st (x_get (k := 1) (aR (h, 15)) dX2_harmAt_92 (Hh 6 (Nat.le_of_ble_eq_true rfl) (Nat.le_of_ble_eq_true rfl)) rfl rfl rfl rfl inTX2 (Nat.le_of_ble_eq_true rfl) tw_252 (fun ad => rfl)) ?_
      refine G_st (x_get (k := 2) (aR (h, 17)) dX2_harmAt_95 (Hh 15 (Nat.le_of_ble_eq_true rfl) (Nat.le_of_ble_eq_true rfl)) rfl rfl rfl rfl inTX1 (Nat.le_of_ble_eq_true rfl) tw_179 (fun ad => rfl)) ?_
      refine G_st (x_iload_n dX2_harmAt_98 rfl) ?_
      refine G_bd (fun x22 t23 h24 => ?_)
      refine G_st (x_callN [] (c_X6_get ids Hn (h, 17) v1 (Hh 17 (Nat.le_of_ble_eq_true rfl) (Nat.le_of_ble_eq_true rfl)) rfl _ _ _ h24) dX2_harmAt_99 (List.mem_of_getElem? (i := 16) rfl) kc_X6_get rfl ⟨Nat.le_of_ble_eq_true rfl, Nat.le_of_ble_eq_true rfl⟩ (Nat.le_of_ble_eq_true rfl) rfl) ?_
      refine G_ite (fun c25 => ?_) (fun c25 => ?_)
      · refine G_st (x_tabIn (tgt := 136) (1 : Int32) dX2_harmAt_102 c25 (by decide) (by decide) rfl (by decide)) ?_
        refine G_st (x_iload dX2_harmAt_136 rfl) ?_
        refine G_st (x_iconst (2 : Int32) dX2_harmAt_138 rfl) ?_
        refine G_st (x_idiv dX2_harmAt_139 (by decide)) ?_
        exact G_ret rfl ⟨dX2_harmAt_140, _, rfl, rfl⟩ rfl
      refine G_ite (fun c26 => ?_) (fun c26 => ?_)
      · refine G_st (x_tabIn (tgt := 155) (2 : Int32) dX2_harmAt_102 c26 (by decide) (by decide) rfl (by decide)) ?_
        refine G_st (x_iload dX2_harmAt_155 rfl) ?_
        exact G_ret rfl ⟨dX2_harmAt_157, _, rfl, rfl⟩ rfl
      refine G_ite (fun c27 => ?_) (fun c27 => ?_)
      · refine G_st (x_tabIn (tgt := 141) (3 : Int32) dX2_harmAt_102 c27 (by decide) (by decide) rfl (by decide)) ?_
        refine G_st (x_iconst (2 : Int32) dX2_harmAt_141 rfl) ?_
        refine G_st (x_iload dX2_harmAt_142 rfl) ?_
        refine G_st (x_imul dX2_harmAt_144) ?_
        exact G_ret rfl ⟨dX2_harmAt_145, _, rfl, rfl⟩ rfl
      refine G_ite (fun c28 => ?_) (fun c28 => ?_)
      · refine G_st (x_tabIn (tgt := 146) (4 : Int32) dX2_harmAt_102 c28 (by decide) (by decide) rfl (by decide)) ?_
        refine G_st (x_iconst (1 : Int32) dX2_harmAt_146 rfl) ?_
        exact G_ret rfl ⟨dX2_harmAt_147, _, rfl, rfl⟩ rfl
      refine G_ite (fun c29 => ?_) (fun c29 => ?_)
      · refine G_st (x_tabIn (tgt := 148) (5 : Int32) dX2_harmAt_102 c29 (by decide) (by decide) rfl (by decide)) ?_
        refine G_st (x_iload dX2_harmAt_148 rfl) ?_
        refine G_st (x_iconst (2 : Int32) dX2_harmAt_150 rfl) ?_
        refine G_st (x_idiv dX2_harmAt_151 (by decide)) ?_
        refine G_st (x_iconst (2 : Int32) dX2_harmAt_152 rfl) ?_
        refine G_st (x_iadd dX2_harmAt_153) ?_
        exact G_ret rfl ⟨dX2_harmAt_154, _, rfl, rfl⟩ rfl
      refine G_st (x_tabOut (tgt := 155) dX2_harmAt_102 (by have c25q : ¬ (x22).toInt = (1 : Int) := lv_neT c25 rfl; have c26q : ¬ (x22).toInt = (2 : Int) := lv_neT c26 rfl; have c27q : ¬ (x22).toInt = (3 : Int) := lv_neT c27 rfl; have c28q : ¬ (x22).toInt = (4 : Int) := lv_neT c28 rfl; have c29q : ¬ (x22).toInt = (5 : Int) := lv_neT c29 rfl; omega) (by decide)) ?_
      refine G_st (x_iload dX2_harmAt_155 rfl) ?_
      exact G_ret rfl ⟨dX2_harmAt_157, _, rfl, rfl⟩ rfl
set_option maxRecDepth 100000 in
set_option maxHeartbeats 4000000 in
theorem c_X2_harmAt (ids : List (Nat × Nat)) (Hn : Ndp ids) (h : Nat) (v1 : Int32) (v2 : Int32) (Hh : InR ids h 6 28) (t0 : Sg) (r : Int32) (t1 : Sg) (hf : f_X2_harmAt h v1 v2 t0 = some (r, t1)) : Mt0 mX2_harmAt yX2_harmAt ids [aR (h, 6), aI v1, aI v2] t0 (some (aI r)) t1 :=
  Mt_of (x := (r, t1)) (g_X2_harmAt ids Hn h v1 v2 Hh t0) hf (fun _ _ => trivial) (by decide) rfl Hn (fun _ => rfl) (fun _ => Nat.le_of_ble_eq_true rfl)
theorem dX3_pair_0 : decode cX3_pair 0 = .ok (.iload_n 0, 1) := by decide +kernel
theorem dX3_pair_1 : decode cX3_pair 1 = .ok (.bipush 24, 2) := by decide +kernel
theorem dX3_pair_3 : decode cX3_pair 3 = .ok (.imul, 1) := by decide +kernel
theorem dX3_pair_4 : decode cX3_pair 4 = .ok (.iload_n 1, 1) := by decide +kernel
theorem dX3_pair_5 : decode cX3_pair 5 = .ok (.iadd, 1) := by decide +kernel
theorem dX3_pair_6 : decode cX3_pair 6 = .ok (.ireturn, 1) := by decide +kernel
set_option maxRecDepth 100000 in
set_option maxHeartbeats 4000000 in
theorem g_X3_pair (ids : List (Nat × Nat)) (Hn : Ndp ids) (v0 : Int32) (v1 : Int32)  (t0 : Sg) : Gj kI mX3_pair ids 0 [some (aI v0), some (aI v1)] [] t0 (f_X3_pair v0 v1 t0) := by
  unfold f_X3_pair
  refine G_st (x_iload_n dX3_pair_0 rfl) ?_
  refine G_st (x_bipush (24 : Int32) dX3_pair_1 rfl) ?_
  refine G_st (x_imul dX3_pair_3) ?_
  refine G_st (x_iload_n dX3_pair_4 rfl) ?_
  refine G_st (x_iadd dX3_pair_5) ?_
  exact G_ret rfl ⟨dX3_pair_6, _, rfl, rfl⟩ rfl
set_option maxRecDepth 100000 in
set_option maxHeartbeats 4000000 in
theorem c_X3_pair (ids : List (Nat × Nat)) (Hn : Ndp ids) (v0 : Int32) (v1 : Int32)  (t0 : Sg) (r : Int32) (t1 : Sg) (hf : f_X3_pair v0 v1 t0 = some (r, t1)) : Mt0 mX3_pair yX3_pair ids [aI v0, aI v1] t0 (some (aI r)) t1 :=
  Mt_of (x := (r, t1)) (g_X3_pair ids Hn v0 v1  t0) hf (fun _ _ => trivial) (by decide) rfl Hn (fun _ => rfl) (fun _ => Nat.le_of_ble_eq_true rfl)
theorem dX3_note_0 : decode cX3_note 0 = .ok (.iload_n 3, 1) := by decide +kernel
theorem dX3_note_1 : decode cX3_note 1 = .ok (.ifCond .gt 4, 3) := by decide +kernel
theorem dX3_note_4 : decode cX3_note 4 = .ok (.return_, 1) := by decide +kernel
theorem dX3_note_5 : decode cX3_note 5 = .ok (.aload_n 0, 1) := by decide +kernel
theorem dX3_note_6 : decode cX3_note 6 = .ok (.dup, 1) := by decide +kernel
theorem dX3_note_7 : decode cX3_note 7 = .ok (.getfield 37, 3) := by decide +kernel
theorem dX3_note_10 : decode cX3_note 10 = .ok (.iload_n 3, 1) := by decide +kernel
theorem dX3_note_11 : decode cX3_note 11 = .ok (.iadd, 1) := by decide +kernel
theorem dX3_note_12 : decode cX3_note 12 = .ok (.putfield 37, 3) := by decide +kernel
theorem dX3_note_15 : decode cX3_note 15 = .ok (.aload_n 0, 1) := by decide +kernel
theorem dX3_note_16 : decode cX3_note 16 = .ok (.getfield 18, 3) := by decide +kernel
theorem dX3_note_19 : decode cX3_note 19 = .ok (.iload_n 1, 1) := by decide +kernel
theorem dX3_note_20 : decode cX3_note 20 = .ok (.aload_n 0, 1) := by decide +kernel
theorem dX3_note_21 : decode cX3_note 21 = .ok (.getfield 18, 3) := by decide +kernel
theorem dX3_note_24 : decode cX3_note 24 = .ok (.iload_n 1, 1) := by decide +kernel
theorem dX3_note_25 : decode cX3_note 25 = .ok (.invokestatic 41, 3) := by decide +kernel
theorem dX3_note_28 : decode cX3_note 28 = .ok (.iload_n 3, 1) := by decide +kernel
theorem dX3_note_29 : decode cX3_note 29 = .ok (.iadd, 1) := by decide +kernel
theorem dX3_note_30 : decode cX3_note 30 = .ok (.invokestatic 45, 3) := by decide +kernel
theorem dX3_note_33 : decode cX3_note 33 = .ok (.aload_n 0, 1) := by decide +kernel
theorem dX3_note_34 : decode cX3_note 34 = .ok (.getfield 21, 3) := by decide +kernel
theorem dX3_note_37 : decode cX3_note 37 = .ok (.iload_n 1, 1) := by decide +kernel
theorem dX3_note_38 : decode cX3_note 38 = .ok (.aload_n 0, 1) := by decide +kernel
theorem dX3_note_39 : decode cX3_note 39 = .ok (.getfield 21, 3) := by decide +kernel
theorem dX3_note_42 : decode cX3_note 42 = .ok (.iload_n 1, 1) := by decide +kernel
theorem dX3_note_43 : decode cX3_note 43 = .ok (.invokestatic 41, 3) := by decide +kernel
theorem dX3_note_46 : decode cX3_note 46 = .ok (.iconst 1, 1) := by decide +kernel
theorem dX3_note_47 : decode cX3_note 47 = .ok (.iload_n 2, 1) := by decide +kernel
theorem dX3_note_48 : decode cX3_note 48 = .ok (.ishl, 1) := by decide +kernel
theorem dX3_note_49 : decode cX3_note 49 = .ok (.ior, 1) := by decide +kernel
theorem dX3_note_50 : decode cX3_note 50 = .ok (.invokestatic 45, 3) := by decide +kernel
theorem dX3_note_53 : decode cX3_note 53 = .ok (.aload_n 0, 1) := by decide +kernel
theorem dX3_note_54 : decode cX3_note 54 = .ok (.getfield 9, 3) := by decide +kernel
theorem dX3_note_57 : decode cX3_note 57 = .ok (.iload_n 1, 1) := by decide +kernel
theorem dX3_note_58 : decode cX3_note 58 = .ok (.ldc 49, 2) := by decide +kernel
theorem dX3_note_60 : decode cX3_note 60 = .ok (.aload_n 0, 1) := by decide +kernel
theorem dX3_note_61 : decode cX3_note 61 = .ok (.getfield 9, 3) := by decide +kernel
theorem dX3_note_64 : decode cX3_note 64 = .ok (.iload_n 1, 1) := by decide +kernel
theorem dX3_note_65 : decode cX3_note 65 = .ok (.invokestatic 41, 3) := by decide +kernel
theorem dX3_note_68 : decode cX3_note 68 = .ok (.iload_n 3, 1) := by decide +kernel
theorem dX3_note_69 : decode cX3_note 69 = .ok (.iadd, 1) := by decide +kernel
theorem dX3_note_70 : decode cX3_note 70 = .ok (.invokestatic 50, 3) := by decide +kernel
theorem dX3_note_73 : decode cX3_note 73 = .ok (.invokestatic 45, 3) := by decide +kernel
theorem dX3_note_76 : decode cX3_note 76 = .ok (.iload_n 1, 1) := by decide +kernel
theorem dX3_note_77 : decode cX3_note 77 = .ok (.iload_n 2, 1) := by decide +kernel
theorem dX3_note_78 : decode cX3_note 78 = .ok (.if_icmp .eq 36, 3) := by decide +kernel
theorem dX3_note_81 : decode cX3_note 81 = .ok (.iload_n 1, 1) := by decide +kernel
theorem dX3_note_82 : decode cX3_note 82 = .ok (.iload_n 2, 1) := by decide +kernel
theorem dX3_note_83 : decode cX3_note 83 = .ok (.invokestatic 56, 3) := by decide +kernel
theorem dX3_note_86 : decode cX3_note 86 = .ok (.istore 4, 2) := by decide +kernel
theorem dX3_note_88 : decode cX3_note 88 = .ok (.aload_n 0, 1) := by decide +kernel
theorem dX3_note_89 : decode cX3_note 89 = .ok (.getfield 15, 3) := by decide +kernel
theorem dX3_note_92 : decode cX3_note 92 = .ok (.iload 4, 2) := by decide +kernel
theorem dX3_note_94 : decode cX3_note 94 = .ok (.sipush 999, 3) := by decide +kernel
theorem dX3_note_97 : decode cX3_note 97 = .ok (.aload_n 0, 1) := by decide +kernel
theorem dX3_note_98 : decode cX3_note 98 = .ok (.getfield 15, 3) := by decide +kernel
theorem dX3_note_101 : decode cX3_note 101 = .ok (.iload 4, 2) := by decide +kernel
theorem dX3_note_103 : decode cX3_note 103 = .ok (.invokestatic 41, 3) := by decide +kernel
theorem dX3_note_106 : decode cX3_note 106 = .ok (.iload_n 3, 1) := by decide +kernel
theorem dX3_note_107 : decode cX3_note 107 = .ok (.iadd, 1) := by decide +kernel
theorem dX3_note_108 : decode cX3_note 108 = .ok (.invokestatic 50, 3) := by decide +kernel
theorem dX3_note_111 : decode cX3_note 111 = .ok (.invokestatic 45, 3) := by decide +kernel
theorem dX3_note_114 : decode cX3_note 114 = .ok (.return_, 1) := by decide +kernel
set_option maxRecDepth 100000 in
set_option maxHeartbeats 4000000 in
theorem g_X3_note (ids : List (Nat × Nat)) (Hn : Ndp ids) (h : Nat) (v1 : Int32) (v2 : Int32) (v3 : Int32) (Hh : InR ids h 20 24) (t0 : Sg) : Gj kV mX3_note ids 0 [some (aR (h, 20)), some (aI v1), some (aI v2), some (aI v3), none] [] t0 (f_X3_note h v1 v2 v3 t0) := by
  unfold f_X3_note
  refine G_st (x_iload_n dX3_note_0 rfl) ?_
  refine G_ite (fun c1 => ?_) (fun c1 => ?_)
  · refine G_st (x_if_gt_t (tgt := 5) dX3_note_1 (by decide) c1) ?_
    refine G_st (x_aload_n dX3_note_5 rfl) ?_
    refine G_st (x_dup dX3_note_6 rfl) ?_
    refine G_st (x_get (k := 4) (aI (t0 (h, 20) 4)) dX3_note_7 (Hh 20 (Nat.le_of_ble_eq_true rfl) (Nat.le_of_ble_eq_true rfl)) rfl rfl rfl rfl inTX3 (Nat.le_of_ble_eq_true rfl) tw_211 (fun ad => rfl)) ?_
    refine G_st (x_iload_n dX3_note_10 rfl) ?_
    refine G_st (x_iadd dX3_note_11) ?_
    refine G_st (x_put (k := 4) (ty := .int) (v := aI ((t0 (h, 20) 4) + v3)) (z := ((t0 (h, 20) 4) + v3)) (upS t0 (h, 20) 4 ((t0 (h, 20) 4) + v3)) dX3_note_12 (Hh 20 (Nat.le_of_ble_eq_true rfl) (Nat.le_of_ble_eq_true rfl)) rfl rfl rfl rfl inTX3 tyX3_ok nmX3 (Nat.le_of_ble_eq_true rfl) tw_211 rfl rfl (fun ad => rfl) (fun ad => rfl) (fun ad => put_i0 ad _ _ _ _ rfl) rfl) ?_
    refine G_bvS (fun t2 => ?_)
    refine G_st (x_aload_n dX3_note_15 rfl) ?_
    refine G_st (x_get (k := 2) (aR (h, 23)) dX3_note_16 (Hh 20 (Nat.le_of_ble_eq_true rfl) (Nat.le_of_ble_eq_true rfl)) rfl rfl rfl rfl inTX3 (Nat.le_of_ble_eq_true rfl) tw_208 (fun ad => rfl)) ?_
    refine G_st (x_iload_n dX3_note_19 rfl) ?_
    refine G_st (x_aload_n dX3_note_20 rfl) ?_
    refine G_st (x_get (k := 2) (aR (h, 23)) dX3_note_21 (Hh 20 (Nat.le_of_ble_eq_true rfl) (Nat.le_of_ble_eq_true rfl)) rfl rfl rfl rfl inTX3 (Nat.le_of_ble_eq_true rfl) tw_208 (fun ad => rfl)) ?_
    refine G_st (x_iload_n dX3_note_24 rfl) ?_
    refine G_bd (fun x3 t4 h5 => ?_)
    refine G_st (x_callN [aI v1, aR (h, 23)] (c_X6_get ids Hn (h, 23) v1 (Hh 23 (Nat.le_of_ble_eq_true rfl) (Nat.le_of_ble_eq_true rfl)) rfl _ _ _ h5) dX3_note_25 (List.mem_of_getElem? (i := 19) rfl) kc_X6_get rfl ⟨Nat.le_of_ble_eq_true rfl, Nat.le_of_ble_eq_true rfl⟩ (Nat.le_of_ble_eq_true rfl) rfl) ?_
    refine G_st (x_iload_n dX3_note_28 rfl) ?_
    refine G_st (x_iadd dX3_note_29) ?_
    refine G_bd (fun _ t7 h8 => ?_)
    refine G_st (x_callN [] (c_X6_set ids Hn (h, 23) v1 (x3 + v3) (Hh 23 (Nat.le_of_ble_eq_true rfl) (Nat.le_of_ble_eq_true rfl)) rfl _ _ _ h8) dX3_note_30 (List.mem_of_getElem? (i := 20) rfl) kc_X6_set rfl ⟨Nat.le_of_ble_eq_true rfl, Nat.le_of_ble_eq_true rfl⟩ (Nat.le_of_ble_eq_true rfl) rfl) ?_
    refine G_st (x_aload_n dX3_note_33 rfl) ?_
    refine G_st (x_get (k := 3) (aR (h, 24)) dX3_note_34 (Hh 20 (Nat.le_of_ble_eq_true rfl) (Nat.le_of_ble_eq_true rfl)) rfl rfl rfl rfl inTX3 (Nat.le_of_ble_eq_true rfl) tw_210 (fun ad => rfl)) ?_
    refine G_st (x_iload_n dX3_note_37 rfl) ?_
    refine G_st (x_aload_n dX3_note_38 rfl) ?_
    refine G_st (x_get (k := 3) (aR (h, 24)) dX3_note_39 (Hh 20 (Nat.le_of_ble_eq_true rfl) (Nat.le_of_ble_eq_true rfl)) rfl rfl rfl rfl inTX3 (Nat.le_of_ble_eq_true rfl) tw_210 (fun ad => rfl)) ?_
    refine G_st (x_iload_n dX3_note_42 rfl) ?_
    refine G_bd (fun x9 t10 h11 => ?_)
    refine G_st (x_callN [aI v1, aR (h, 24)] (c_X6_get ids Hn (h, 24) v1 (Hh 24 (Nat.le_of_ble_eq_true rfl) (Nat.le_of_ble_eq_true rfl)) rfl _ _ _ h11) dX3_note_43 (List.mem_of_getElem? (i := 19) rfl) kc_X6_get rfl ⟨Nat.le_of_ble_eq_true rfl, Nat.le_of_ble_eq_true rfl⟩ (Nat.le_of_ble_eq_true rfl) rfl) ?_
    refine G_st (x_iconst (1 : Int32) dX3_note_46 rfl) ?_
    refine G_st (x_iload_n dX3_note_47 rfl) ?_
    refine G_st (x_ishl dX3_note_48) ?_
    refine G_st (x_ior dX3_note_49) ?_
    refine G_bd (fun _ t13 h14 => ?_)
    refine G_st (x_callN [] (c_X6_set ids Hn (h, 24) v1 (x9 ||| ((1 : Int32) <<< (v2 &&& 31))) (Hh 24 (Nat.le_of_ble_eq_true rfl) (Nat.le_of_ble_eq_true rfl)) rfl _ _ _ h14) dX3_note_50 (List.mem_of_getElem? (i := 20) rfl) kc_X6_set rfl ⟨Nat.le_of_ble_eq_true rfl, Nat.le_of_ble_eq_true rfl⟩ (Nat.le_of_ble_eq_true rfl) rfl) ?_
    refine G_st (x_aload_n dX3_note_53 rfl) ?_
    refine G_st (x_get (k := 0) (aR (h, 21)) dX3_note_54 (Hh 20 (Nat.le_of_ble_eq_true rfl) (Nat.le_of_ble_eq_true rfl)) rfl rfl rfl rfl inTX3 (Nat.le_of_ble_eq_true rfl) tw_204 (fun ad => rfl)) ?_
    refine G_st (x_iload_n dX3_note_57 rfl) ?_
    refine G_st (x_ldc dX3_note_58 tw_647) ?_
    refine G_st (x_aload_n dX3_note_60 rfl) ?_
    refine G_st (x_get (k := 0) (aR (h, 21)) dX3_note_61 (Hh 20 (Nat.le_of_ble_eq_true rfl) (Nat.le_of_ble_eq_true rfl)) rfl rfl rfl rfl inTX3 (Nat.le_of_ble_eq_true rfl) tw_204 (fun ad => rfl)) ?_
    refine G_st (x_iload_n dX3_note_64 rfl) ?_
    refine G_bd (fun x15 t16 h17 => ?_)
    refine G_st (x_callN [aI (99999 : Int32), aI v1, aR (h, 21)] (c_X6_get ids Hn (h, 21) v1 (Hh 21 (Nat.le_of_ble_eq_true rfl) (Nat.le_of_ble_eq_true rfl)) rfl _ _ _ h17) dX3_note_65 (List.mem_of_getElem? (i := 19) rfl) kc_X6_get rfl ⟨Nat.le_of_ble_eq_true rfl, Nat.le_of_ble_eq_true rfl⟩ (Nat.le_of_ble_eq_true rfl) rfl) ?_
    refine G_st (x_iload_n dX3_note_68 rfl) ?_
    refine G_st (x_iadd dX3_note_69) ?_
    refine G_st (x_mmin dX3_note_70 tw_648 tw_444 tw_74 tw_445 ⟨Nat.le_of_ble_eq_true rfl, Nat.le_of_ble_eq_true rfl⟩ (Nat.le_of_ble_eq_true rfl)) ?_
    refine G_bd (fun _ t19 h20 => ?_)
    refine G_st (x_callN [] (c_X6_set ids Hn (h, 21) v1 (jmin (99999 : Int32) (x15 + v3)) (Hh 21 (Nat.le_of_ble_eq_true rfl) (Nat.le_of_ble_eq_true rfl)) rfl _ _ _ h20) dX3_note_73 (List.mem_of_getElem? (i := 20) rfl) kc_X6_set rfl ⟨Nat.le_of_ble_eq_true rfl, Nat.le_of_ble_eq_true rfl⟩ (Nat.le_of_ble_eq_true rfl) rfl) ?_
    refine G_st (x_iload_n dX3_note_76 rfl) ?_
    refine G_st (x_iload_n dX3_note_77 rfl) ?_
    refine G_ite (fun c21 => ?_) (fun c21 => ?_)
    · refine G_st (x_icmp_eq_t (tgt := 114) dX3_note_78 (by decide) c21) ?_
      exact G_ret rfl ⟨rfl, dX3_note_114⟩ rfl
    · refine G_st (x_icmp_eq_f 114 dX3_note_78 (by decide) c21) ?_
      refine G_st (x_iload_n dX3_note_81 rfl) ?_
      refine G_st (x_iload_n dX3_note_82 rfl) ?_
      refine G_bd (fun x22 t23 h24 => ?_)
      refine G_st (x_callS [] (c_X3_pair ids Hn v1 v2  _ _ _ h24) dX3_note_83 tw_649 kc_X3_pair rfl ⟨Nat.le_of_ble_eq_true rfl, Nat.le_of_ble_eq_true rfl⟩ (Nat.le_of_ble_eq_true rfl) rfl) ?_
      refine G_st (x_istore [some (aR (h, 20)), some (aI v1), some (aI v2), some (aI v3), some (aI x22)] dX3_note_86 (Nat.le_of_ble_eq_true rfl) rfl rfl) ?_
      refine G_st (x_aload_n dX3_note_88 rfl) ?_
      refine G_st (x_get (k := 1) (aR (h, 22)) dX3_note_89 (Hh 20 (Nat.le_of_ble_eq_true rfl) (Nat.le_of_ble_eq_true rfl)) rfl rfl rfl rfl inTX3 (Nat.le_of_ble_eq_true rfl) tw_206 (fun ad => rfl)) ?_
      refine G_st (x_iload dX3_note_92 rfl) ?_
      refine G_st (x_sipush (999 : Int32) dX3_note_94 rfl) ?_
      refine G_st (x_aload_n dX3_note_97 rfl) ?_
      refine G_st (x_get (k := 1) (aR (h, 22)) dX3_note_98 (Hh 20 (Nat.le_of_ble_eq_true rfl) (Nat.le_of_ble_eq_true rfl)) rfl rfl rfl rfl inTX3 (Nat.le_of_ble_eq_true rfl) tw_206 (fun ad => rfl)) ?_
      refine G_st (x_iload dX3_note_101 rfl) ?_
      refine G_bd (fun x25 t26 h27 => ?_)
      refine G_st (x_callN [aI (999 : Int32), aI x22, aR (h, 22)] (c_X6_get ids Hn (h, 22) x22 (Hh 22 (Nat.le_of_ble_eq_true rfl) (Nat.le_of_ble_eq_true rfl)) rfl _ _ _ h27) dX3_note_103 (List.mem_of_getElem? (i := 19) rfl) kc_X6_get rfl ⟨Nat.le_of_ble_eq_true rfl, Nat.le_of_ble_eq_true rfl⟩ (Nat.le_of_ble_eq_true rfl) rfl) ?_
      refine G_st (x_iload_n dX3_note_106 rfl) ?_
      refine G_st (x_iadd dX3_note_107) ?_
      refine G_st (x_mmin dX3_note_108 tw_648 tw_444 tw_74 tw_445 ⟨Nat.le_of_ble_eq_true rfl, Nat.le_of_ble_eq_true rfl⟩ (Nat.le_of_ble_eq_true rfl)) ?_
      refine G_bd (fun _ t29 h30 => ?_)
      refine G_st (x_callN [] (c_X6_set ids Hn (h, 22) x22 (jmin (999 : Int32) (x25 + v3)) (Hh 22 (Nat.le_of_ble_eq_true rfl) (Nat.le_of_ble_eq_true rfl)) rfl _ _ _ h30) dX3_note_111 (List.mem_of_getElem? (i := 20) rfl) kc_X6_set rfl ⟨Nat.le_of_ble_eq_true rfl, Nat.le_of_ble_eq_true rfl⟩ (Nat.le_of_ble_eq_true rfl) rfl) ?_
      exact G_ret rfl ⟨rfl, dX3_note_114⟩ rfl
  · refine G_st (x_if_gt_f 5 dX3_note_1 (by decide) c1) ?_
    exact G_ret rfl ⟨rfl, dX3_note_4⟩ rfl
set_option maxRecDepth 100000 in
set_option maxHeartbeats 4000000 in
theorem c_X3_note (ids : List (Nat × Nat)) (Hn : Ndp ids) (h : Nat) (v1 : Int32) (v2 : Int32) (v3 : Int32) (Hh : InR ids h 20 24) (t0 : Sg) (r : Unit) (t1 : Sg) (hf : f_X3_note h v1 v2 v3 t0 = some (r, t1)) : Mt0 mX3_note yX3_note ids [aR (h, 20), aI v1, aI v2, aI v3] t0 none t1 :=
  Mt_of (x := (r, t1)) (g_X3_note ids Hn h v1 v2 v3 Hh t0) hf (fun _ _ => trivial) (by decide) rfl Hn (fun _ => rfl) (fun _ => Nat.le_of_ble_eq_true rfl)
