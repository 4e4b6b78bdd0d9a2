theorem dX2_fall_0 : decode cX2_fall 0 = .ok (.aload_n 0, 1) := by decide +kernel
theorem dX2_fall_1 : decode cX2_fall 1 = .ok (.getfield 35, 3) := by decide +kernel
theorem dX2_fall_4 : decode cX2_fall 4 = .ok (.aload_n 0, 1) := by decide +kernel
theorem dX2_fall_5 : decode cX2_fall 5 = .ok (.getfield 12, 3) := by decide +kernel
theorem dX2_fall_8 : decode cX2_fall 8 = .ok (.aload_n 0, 1) := by decide +kernel
theorem dX2_fall_9 : decode cX2_fall 9 = .ok (.getfield 21, 3) := by decide +kernel
theorem dX2_fall_12 : decode cX2_fall 12 = .ok (.iload_n 1, 1) := by decide +kernel
theorem dX2_fall_13 : decode cX2_fall 13 = .ok (.invokevirtual 63, 3) := by decide +kernel
theorem dX2_fall_16 : decode cX2_fall 16 = .ok (.aload_n 0, 1) := by decide +kernel
theorem dX2_fall_17 : decode cX2_fall 17 = .ok (.getfield 35, 3) := by decide +kernel
theorem dX2_fall_20 : decode cX2_fall 20 = .ok (.aload_n 0, 1) := by decide +kernel
theorem dX2_fall_21 : decode cX2_fall 21 = .ok (.getfield 12, 3) := by decide +kernel
theorem dX2_fall_24 : decode cX2_fall 24 = .ok (.aload_n 0, 1) := by decide +kernel
theorem dX2_fall_25 : decode cX2_fall 25 = .ok (.getfield 21, 3) := by decide +kernel
theorem dX2_fall_28 : decode cX2_fall 28 = .ok (.iload_n 1, 1) := by decide +kernel
theorem dX2_fall_29 : decode cX2_fall 29 = .ok (.invokevirtual 67, 3) := by decide +kernel
theorem dX2_fall_32 : decode cX2_fall 32 = .ok (.aload_n 0, 1) := by decide +kernel
theorem dX2_fall_33 : decode cX2_fall 33 = .ok (.getfield 21, 3) := by decide +kernel
theorem dX2_fall_36 : decode cX2_fall 36 = .ok (.getfield 99, 3) := by decide +kernel
theorem dX2_fall_39 : decode cX2_fall 39 = .ok (.iload_n 1, 1) := by decide +kernel
theorem dX2_fall_40 : decode cX2_fall 40 = .ok (.invokestatic 74, 3) := by decide +kernel
theorem dX2_fall_43 : decode cX2_fall 43 = .ok (.istore_n 2, 1) := by decide +kernel
theorem dX2_fall_44 : decode cX2_fall 44 = .ok (.iconst 0, 1) := by decide +kernel
theorem dX2_fall_45 : decode cX2_fall 45 = .ok (.istore_n 3, 1) := by decide +kernel
theorem dX2_fall_46 : decode cX2_fall 46 = .ok (.iload_n 3, 1) := by decide +kernel
theorem dX2_fall_47 : decode cX2_fall 47 = .ok (.aload_n 0, 1) := by decide +kernel
theorem dX2_fall_48 : decode cX2_fall 48 = .ok (.getfield 35, 3) := by decide +kernel
theorem dX2_fall_51 : decode cX2_fall 51 = .ok (.getfield 102, 3) := by decide +kernel
theorem dX2_fall_54 : decode cX2_fall 54 = .ok (.if_icmp .ge 84, 3) := by decide +kernel
theorem dX2_fall_57 : decode cX2_fall 57 = .ok (.aload_n 0, 1) := by decide +kernel
theorem dX2_fall_58 : decode cX2_fall 58 = .ok (.getfield 35, 3) := by decide +kernel
theorem dX2_fall_61 : decode cX2_fall 61 = .ok (.getfield 70, 3) := by decide +kernel
theorem dX2_fall_64 : decode cX2_fall 64 = .ok (.iload_n 3, 1) := by decide +kernel
theorem dX2_fall_65 : decode cX2_fall 65 = .ok (.invokestatic 74, 3) := by decide +kernel
theorem dX2_fall_68 : decode cX2_fall 68 = .ok (.istore 4, 2) := by decide +kernel
theorem dX2_fall_70 : decode cX2_fall 70 = .ok (.aload_n 0, 1) := by decide +kernel
theorem dX2_fall_71 : decode cX2_fall 71 = .ok (.getfield 28, 3) := by decide +kernel
theorem dX2_fall_74 : decode cX2_fall 74 = .ok (.aload_n 0, 1) := by decide +kernel
theorem dX2_fall_75 : decode cX2_fall 75 = .ok (.getfield 12, 3) := by decide +kernel
theorem dX2_fall_78 : decode cX2_fall 78 = .ok (.getfield 103, 3) := by decide +kernel
theorem dX2_fall_81 : decode cX2_fall 81 = .ok (.iload 4, 2) := by decide +kernel
theorem dX2_fall_83 : decode cX2_fall 83 = .ok (.invokestatic 74, 3) := by decide +kernel
theorem dX2_fall_86 : decode cX2_fall 86 = .ok (.iload_n 2, 1) := by decide +kernel
theorem dX2_fall_87 : decode cX2_fall 87 = .ok (.aload_n 0, 1) := by decide +kernel
theorem dX2_fall_88 : decode cX2_fall 88 = .ok (.iload_n 1, 1) := by decide +kernel
theorem dX2_fall_89 : decode cX2_fall 89 = .ok (.iload_n 3, 1) := by decide +kernel
theorem dX2_fall_90 : decode cX2_fall 90 = .ok (.invokevirtual 106, 3) := by decide +kernel
theorem dX2_fall_93 : decode cX2_fall 93 = .ok (.invokevirtual 109, 3) := by decide +kernel
theorem dX2_fall_96 : decode cX2_fall 96 = .ok (.aload_n 0, 1) := by decide +kernel
theorem dX2_fall_97 : decode cX2_fall 97 = .ok (.getfield 12, 3) := by decide +kernel
theorem dX2_fall_100 : decode cX2_fall 100 = .ok (.getfield 113, 3) := by decide +kernel
theorem dX2_fall_103 : decode cX2_fall 103 = .ok (.iload 4, 2) := by decide +kernel
theorem dX2_fall_105 : decode cX2_fall 105 = .ok (.aload_n 0, 1) := by decide +kernel
theorem dX2_fall_106 : decode cX2_fall 106 = .ok (.getfield 12, 3) := by decide +kernel
theorem dX2_fall_109 : decode cX2_fall 109 = .ok (.getfield 113, 3) := by decide +kernel
theorem dX2_fall_112 : decode cX2_fall 112 = .ok (.iload 4, 2) := by decide +kernel
theorem dX2_fall_114 : decode cX2_fall 114 = .ok (.invokestatic 74, 3) := by decide +kernel
theorem dX2_fall_117 : decode cX2_fall 117 = .ok (.aload_n 0, 1) := by decide +kernel
theorem dX2_fall_118 : decode cX2_fall 118 = .ok (.getfield 35, 3) := by decide +kernel
theorem dX2_fall_121 : decode cX2_fall 121 = .ok (.getfield 116, 3) := by decide +kernel
theorem dX2_fall_124 : decode cX2_fall 124 = .ok (.iload_n 3, 1) := by decide +kernel
theorem dX2_fall_125 : decode cX2_fall 125 = .ok (.invokestatic 74, 3) := by decide +kernel
theorem dX2_fall_128 : decode cX2_fall 128 = .ok (.iadd, 1) := by decide +kernel
theorem dX2_fall_129 : decode cX2_fall 129 = .ok (.invokestatic 119, 3) := by decide +kernel
theorem dX2_fall_132 : decode cX2_fall 132 = .ok (.iinc 3 1, 3) := by decide +kernel
theorem dX2_fall_135 : decode cX2_fall 135 = .ok (.goto (-89), 3) := by decide +kernel
theorem dX2_fall_138 : decode cX2_fall 138 = .ok (.return_, 1) := by decide +kernel
set_option maxRecDepth 100000 in
set_option maxHeartbeats 4000000 in
theorem g_X2_fall_46 (ids : List (Nat × Nat)) (Hn : Ndp ids) (h : Nat) (Hh : InR ids h 6 28)  : ∀ (n : Nat) (v1 : Int32) (v2 : Int32) (v3 : Int32) (t0 : Sg), Gj kV mX2_fall ids 46 [some (aR (h, 6)), some (aI v1), some (aI v2), some (aI v3), none] [] t0 (f_X2_fall_46 h n v1 v2 v3 t0) := by
  intro n
  induction n with
  | zero => intro v1 v2 v3 t0; exact G_none
  | succ n ih =>
    intro v1 v2 v3 t0
    rw [f_X2_fall_46]
    refine G_st (x_iload_n dX2_fall_46 rfl) ?_
    refine G_st (x_aload_n dX2_fall_47 rfl) ?_
    refine G_st (x_get (k := 3) (aR (h, 25)) dX2_fall_48 (Hh 6 (Nat.le_of_ble_eq_true rfl) (Nat.le_of_ble_eq_true rfl)) rfl rfl rfl rfl inTX2 (Nat.le_of_ble_eq_true rfl) tw_257 (fun ad => rfl)) ?_
    refine G_st (x_get (k := 3) (aI (t0 (h, 25) 3)) dX2_fall_51 (Hh 25 (Nat.le_of_ble_eq_true rfl) (Nat.le_of_ble_eq_true rfl)) rfl rfl rfl rfl inTX5 (Nat.le_of_ble_eq_true rfl) tw_238 (fun ad => rfl)) ?_
    refine G_ite (fun c10 => ?_) (fun c10 => ?_)
    · refine G_st (x_icmp_ge_t (tgt := 138) dX2_fall_54 (by decide) c10) ?_
      exact G_ret rfl ⟨rfl, dX2_fall_138⟩ rfl
    · refine G_st (x_icmp_ge_f 138 dX2_fall_54 (by decide) c10) ?_
      refine G_st (x_aload_n dX2_fall_57 rfl) ?_
      refine G_st (x_get (k := 3) (aR (h, 25)) dX2_fall_58 (Hh 6 (Nat.le_of_ble_eq_true rfl) (Nat.le_of_ble_eq_true rfl)) rfl rfl rfl rfl inTX2 (Nat.le_of_ble_eq_true rfl) tw_257 (fun ad => rfl)) ?_
      refine G_st (x_get (k := 0) (aR (h, 26)) dX2_fall_61 (Hh 25 (Nat.le_of_ble_eq_true rfl) (Nat.le_of_ble_eq_true rfl)) rfl rfl rfl rfl inTX5 (Nat.le_of_ble_eq_true rfl) tw_231 (fun ad => rfl)) ?_
      refine G_st (x_iload_n dX2_fall_64 rfl) ?_
      refine G_bd (fun x11 t12 h13 => ?_)
      refine G_st (x_callN [] (c_X6_get ids Hn (h, 26) v3 (Hh 26 (Nat.le_of_ble_eq_true rfl) (Nat.le_of_ble_eq_true rfl)) rfl _ _ _ h13) dX2_fall_65 (List.mem_of_getElem? (i := 16) rfl) kc_X6_get rfl ⟨Nat.le_of_ble_eq_true rfl, Nat.le_of_ble_eq_true rfl⟩ (Nat.le_of_ble_eq_true rfl) rfl) ?_
      refine G_st (x_istore [some (aR (h, 6)), some (aI v1), some (aI v2), some (aI v3), some (aI x11)] dX2_fall_68 (Nat.le_of_ble_eq_true rfl) rfl rfl) ?_
      refine G_st (x_aload_n dX2_fall_70 rfl) ?_
      refine G_st (x_get (k := 2) (aR (h, 20)) dX2_fall_71 (Hh 6 (Nat.le_of_ble_eq_true rfl) (Nat.le_of_ble_eq_true rfl)) rfl rfl rfl rfl inTX2 (Nat.le_of_ble_eq_true rfl) tw_255 (fun ad => rfl)) ?_
      refine G_st (x_aload_n dX2_fall_74 rfl) ?_
      refine G_st (x_get (k := 0) (aR (h, 7)) dX2_fall_75 (Hh 6 (Nat.le_of_ble_eq_true rfl) (Nat.le_of_ble_eq_true rfl)) rfl rfl rfl rfl inTX2 (Nat.le_of_ble_eq_true rfl) tw_249 (fun ad => rfl)) ?_
      refine G_st (x_get (k := 8) (aR (h, 13)) dX2_fall_78 (Hh 7 (Nat.le_of_ble_eq_true rfl) (Nat.le_of_ble_eq_true rfl)) rfl rfl rfl rfl inTX0 (Nat.le_of_ble_eq_true rfl) tw_136 (fun ad => rfl)) ?_
      refine G_st (x_iload dX2_fall_81 rfl) ?_
      refine G_bd (fun x14 t15 h16 => ?_)
      refine G_st (x_callN [aR (h, 20)] (c_X6_get ids Hn (h, 13) x11 (Hh 13 (Nat.le_of_ble_eq_true rfl) (Nat.le_of_ble_eq_true rfl)) rfl _ _ _ h16) dX2_fall_83 (List.mem_of_getElem? (i := 16) rfl) kc_X6_get rfl ⟨Nat.le_of_ble_eq_true rfl, Nat.le_of_ble_eq_true rfl⟩ (Nat.le_of_ble_eq_true rfl) rfl) ?_
      refine G_st (x_iload_n dX2_fall_86 rfl) ?_
      refine G_st (x_aload_n dX2_fall_87 rfl) ?_
      refine G_st (x_iload_n dX2_fall_88 rfl) ?_
      refine G_st (x_iload_n dX2_fall_89 rfl) ?_
      refine G_bd (fun x17 t18 h19 => ?_)
      refine G_st (x_callV [aI v2, aI x14, aR (h, 20)] (c_X2_harmAt ids Hn h v1 v3 Hh _ _ _ h19) dX2_fall_90 tw_636 kc_X2_harmAt (Hh 6 (Nat.le_of_ble_eq_true rfl) (Nat.le_of_ble_eq_true rfl)) rfl rfl rfl rfl ⟨Nat.le_of_ble_eq_true rfl, Nat.le_of_ble_eq_true rfl⟩ (Nat.le_of_ble_eq_true rfl) rfl) ?_
      refine G_bd (fun _ t21 h22 => ?_)
      refine G_st (x_callV [] (c_X3_note ids Hn h x14 v2 x17 (Hh.sub (Nat.le_of_ble_eq_true rfl) (Nat.le_of_ble_eq_true rfl)) _ _ _ h22) dX2_fall_93 tw_641 kc_X3_note (Hh 20 (Nat.le_of_ble_eq_true rfl) (Nat.le_of_ble_eq_true rfl)) rfl rfl rfl rfl ⟨Nat.le_of_ble_eq_true rfl, Nat.le_of_ble_eq_true rfl⟩ (Nat.le_of_ble_eq_true rfl) rfl) ?_
      refine G_st (x_aload_n dX2_fall_96 rfl) ?_
      refine G_st (x_get (k := 0) (aR (h, 7)) dX2_fall_97 (Hh 6 (Nat.le_of_ble_eq_true rfl) (Nat.le_of_ble_eq_true rfl)) rfl rfl rfl rfl inTX2 (Nat.le_of_ble_eq_true rfl) tw_249 (fun ad => rfl)) ?_
      refine G_st (x_get (k := 4) (aR (h, 9)) dX2_fall_100 (Hh 7 (Nat.le_of_ble_eq_true rfl) (Nat.le_of_ble_eq_true rfl)) rfl rfl rfl rfl inTX0 (Nat.le_of_ble_eq_true rfl) tw_123 (fun ad => rfl)) ?_
      refine G_st (x_iload dX2_fall_103 rfl) ?_
      refine G_st (x_aload_n dX2_fall_105 rfl) ?_
      refine G_st (x_get (k := 0) (aR (h, 7)) dX2_fall_106 (Hh 6 (Nat.le_of_ble_eq_true rfl) (Nat.le_of_ble_eq_true rfl)) rfl rfl rfl rfl inTX2 (Nat.le_of_ble_eq_true rfl) tw_249 (fun ad => rfl)) ?_
      refine G_st (x_get (k := 4) (aR (h, 9)) dX2_fall_109 (Hh 7 (Nat.le_of_ble_eq_true rfl) (Nat.le_of_ble_eq_true rfl)) rfl rfl rfl rfl inTX0 (Nat.le_of_ble_eq_true rfl) tw_123 (fun ad => rfl)) ?_
      refine G_st (x_iload dX2_fall_112 rfl) ?_
      refine G_bd (fun x23 t24 h25 => ?_)
      refine G_st (x_callN [aI x11, aR (h, 9)] (c_X6_get ids Hn (h, 9) x11 (Hh 9 (Nat.le_of_ble_eq_true rfl) (Nat.le_of_ble_eq_true rfl)) rfl _ _ _ h25) dX2_fall_114 (List.mem_of_getElem? (i := 16) rfl) kc_X6_get rfl ⟨Nat.le_of_ble_eq_true rfl, Nat.le_of_ble_eq_true rfl⟩ (Nat.le_of_ble_eq_true rfl) rfl) ?_
      refine G_st (x_aload_n dX2_fall_117 rfl) ?_
      refine G_st (x_get (k := 3) (aR (h, 25)) dX2_fall_118 (Hh 6 (Nat.le_of_ble_eq_true rfl) (Nat.le_of_ble_eq_true rfl)) rfl rfl rfl rfl inTX2 (Nat.le_of_ble_eq_true rfl) tw_257 (fun ad => rfl)) ?_
      refine G_st (x_get (k := 2) (aR (h, 28)) dX2_fall_121 (Hh 25 (Nat.le_of_ble_eq_true rfl) (Nat.le_of_ble_eq_true rfl)) rfl rfl rfl rfl inTX5 (Nat.le_of_ble_eq_true rfl) tw_236 (fun ad => rfl)) ?_
      refine G_st (x_iload_n dX2_fall_124 rfl) ?_
      refine G_bd (fun x26 t27 h28 => ?_)
      refine G_st (x_callN [aI x23, aI x11, aR (h, 9)] (c_X6_get ids Hn (h, 28) v3 (Hh 28 (Nat.le_of_ble_eq_true rfl) (Nat.le_of_ble_eq_true rfl)) rfl _ _ _ h28) dX2_fall_125 (List.mem_of_getElem? (i := 16) rfl) kc_X6_get rfl ⟨Nat.le_of_ble_eq_true rfl, Nat.le_of_ble_eq_true rfl⟩ (Nat.le_of_ble_eq_true rfl) rfl) ?_
      refine G_st (x_iadd dX2_fall_128) ?_
      refine G_bd (fun _ t30 h31 => ?_)
      refine G_st (x_callN [] (c_X6_set ids Hn (h, 9) x11 (x23 + x26) (Hh 9 (Nat.le_of_ble_eq_true rfl) (Nat.le_of_ble_eq_true rfl)) rfl _ _ _ h31) dX2_fall_129 (List.mem_of_getElem? (i := 21) rfl) kc_X6_set rfl ⟨Nat.le_of_ble_eq_true rfl, Nat.le_of_ble_eq_true rfl⟩ (Nat.le_of_ble_eq_true rfl) rfl) ?_
      refine G_st (x_iinc (v3 + (1 : Int32)) [some (aR (h, 6)), some (aI v1), some (aI v2), some (aI (v3 + (1 : Int32))), some (aI x11)] dX2_fall_132 (Nat.le_of_ble_eq_true rfl) rfl rfl rfl rfl) ?_
      refine G_st (x_goto (tgt := 46) dX2_fall_135 (by decide)) ?_
      refine G_weak _ ?_ ((ih) v1 v2 (v3 + (1 : Int32)) t30)
      exact (leL_s (leL_s (leL_s (leL_s (leL_n (leL_e _))))))
set_option maxRecDepth 100000 in
set_option maxHeartbeats 4000000 in
theorem g_X2_fall (ids : List (Nat × Nat)) (Hn : Ndp ids) (h : Nat) (v1 : Int32) (Hh : InR ids h 6 28) (t0 : Sg) : Gj kV mX2_fall ids 0 [some (aR (h, 6)), some (aI v1), none, none, none] [] t0 (f_X2_fall h v1 t0) := by
  unfold f_X2_fall
  refine G_st (x_aload_n dX2_fall_0 rfl) ?_
  refine G_st (x_get (k := 3) (aR (h, 25)) dX2_fall_1 (Hh 6 (Nat.le_of_ble_eq_true rfl) (Nat.le_of_ble_eq_true rfl)) rfl rfl rfl rfl inTX2 (Nat.le_of_ble_eq_true rfl) tw_257 (fun ad => rfl)) ?_
  refine G_st (x_aload_n dX2_fall_4 rfl) ?_
  refine G_st (x_get (k := 0) (aR (h, 7)) dX2_fall_5 (Hh 6 (Nat.le_of_ble_eq_true rfl) (Nat.le_of_ble_eq_true rfl)) rfl rfl rfl rfl inTX2 (Nat.le_of_ble_eq_true rfl) tw_249 (fun ad => rfl)) ?_
  refine G_st (x_aload_n dX2_fall_8 rfl) ?_
  refine G_st (x_get (k := 1) (aR (h, 15)) dX2_fall_9 (Hh 6 (Nat.le_of_ble_eq_true rfl) (Nat.le_of_ble_eq_true rfl)) rfl rfl rfl rfl inTX2 (Nat.le_of_ble_eq_true rfl) tw_252 (fun ad => rfl)) ?_
  refine G_st (x_iload_n dX2_fall_12 rfl) ?_
  refine G_bd (fun _ t2 h3 => ?_)
  refine G_st (x_callV [] (c_X5_trace ids Hn h h h v1 (Hh.sub (Nat.le_of_ble_eq_true rfl) (Nat.le_of_ble_eq_true rfl)) (Hh.sub (Nat.le_of_ble_eq_true rfl) (Nat.le_of_ble_eq_true rfl)) (Hh.sub (Nat.le_of_ble_eq_true rfl) (Nat.le_of_ble_eq_true rfl)) _ _ _ h3) dX2_fall_13 tw_615 kc_X5_trace (Hh 25 (Nat.le_of_ble_eq_true rfl) (Nat.le_of_ble_eq_true rfl)) rfl rfl rfl rfl ⟨Nat.le_of_ble_eq_true rfl, Nat.le_of_ble_eq_true rfl⟩ (Nat.le_of_ble_eq_true rfl) rfl) ?_
  refine G_st (x_aload_n dX2_fall_16 rfl) ?_
  refine G_st (x_get (k := 3) (aR (h, 25)) dX2_fall_17 (Hh 6 (Nat.le_of_ble_eq_true rfl) (Nat.le_of_ble_eq_true rfl)) rfl rfl rfl rfl inTX2 (Nat.le_of_ble_eq_true rfl) tw_257 (fun ad => rfl)) ?_
  refine G_st (x_aload_n dX2_fall_20 rfl) ?_
  refine G_st (x_get (k := 0) (aR (h, 7)) dX2_fall_21 (Hh 6 (Nat.le_of_ble_eq_true rfl) (Nat.le_of_ble_eq_true rfl)) rfl rfl rfl rfl inTX2 (Nat.le_of_ble_eq_true rfl) tw_249 (fun ad => rfl)) ?_
  refine G_st (x_aload_n dX2_fall_24 rfl) ?_
  refine G_st (x_get (k := 1) (aR (h, 15)) dX2_fall_25 (Hh 6 (Nat.le_of_ble_eq_true rfl) (Nat.le_of_ble_eq_true rfl)) rfl rfl rfl rfl inTX2 (Nat.le_of_ble_eq_true rfl) tw_252 (fun ad => rfl)) ?_
  refine G_st (x_iload_n dX2_fall_28 rfl) ?_
  refine G_bd (fun _ t5 h6 => ?_)
  refine G_st (x_callV [] (c_X5_hold ids Hn h h h v1 (Hh.sub (Nat.le_of_ble_eq_true rfl) (Nat.le_of_ble_eq_true rfl)) (Hh.sub (Nat.le_of_ble_eq_true rfl) (Nat.le_of_ble_eq_true rfl)) (Hh.sub (Nat.le_of_ble_eq_true rfl) (Nat.le_of_ble_eq_true rfl)) _ _ _ h6) dX2_fall_29 tw_625 kc_X5_hold (Hh 25 (Nat.le_of_ble_eq_true rfl) (Nat.le_of_ble_eq_true rfl)) rfl rfl rfl rfl ⟨Nat.le_of_ble_eq_true rfl, Nat.le_of_ble_eq_true rfl⟩ (Nat.le_of_ble_eq_true rfl) rfl) ?_
  refine G_st (x_aload_n dX2_fall_32 rfl) ?_
  refine G_st (x_get (k := 1) (aR (h, 15)) dX2_fall_33 (Hh 6 (Nat.le_of_ble_eq_true rfl) (Nat.le_of_ble_eq_true rfl)) rfl rfl rfl rfl inTX2 (Nat.le_of_ble_eq_true rfl) tw_252 (fun ad => rfl)) ?_
  refine G_st (x_get (k := 1) (aR (h, 16)) dX2_fall_36 (Hh 15 (Nat.le_of_ble_eq_true rfl) (Nat.le_of_ble_eq_true rfl)) rfl rfl rfl rfl inTX1 (Nat.le_of_ble_eq_true rfl) tw_175 (fun ad => rfl)) ?_
  refine G_st (x_iload_n dX2_fall_39 rfl) ?_
  refine G_bd (fun x7 t8 h9 => ?_)
  refine G_st (x_callN [] (c_X6_get ids Hn (h, 16) v1 (Hh 16 (Nat.le_of_ble_eq_true rfl) (Nat.le_of_ble_eq_true rfl)) rfl _ _ _ h9) dX2_fall_40 (List.mem_of_getElem? (i := 16) rfl) kc_X6_get rfl ⟨Nat.le_of_ble_eq_true rfl, Nat.le_of_ble_eq_true rfl⟩ (Nat.le_of_ble_eq_true rfl) rfl) ?_
  refine G_st (x_istore_n [some (aR (h, 6)), some (aI v1), some (aI x7), none, none] dX2_fall_43 (Nat.le_of_ble_eq_true rfl) rfl rfl) ?_
  refine G_st (x_iconst (0 : Int32) dX2_fall_44 rfl) ?_
  refine G_st (x_istore_n [some (aR (h, 6)), some (aI v1), some (aI x7), some (aI (0 : Int32)), none] dX2_fall_45 (Nat.le_of_ble_eq_true rfl) rfl rfl) ?_
  refine G_weak _ ?_ (g_X2_fall_46 ids Hn h Hh fuel v1 x7 (0 : Int32) t8)
  exact (leL_s (leL_s (leL_s (leL_s (leL_n (leL_e _))))))
set_option maxRecDepth 100000 in
set_option maxHeartbeats 4000000 in
theorem c_X2_fall (ids : List (Nat × Nat)) (Hn : Ndp ids) (h : Nat) (v1 : Int32) (Hh : InR ids h 6 28) (t0 : Sg) (r : Unit) (t1 : Sg) (hf : f_X2_fall h v1 t0 = some (r, t1)) : Mt0 mX2_fall yX2_fall ids [aR (h, 6), aI v1] t0 none t1 :=
  Mt_of (x := (r, t1)) (g_X2_fall ids Hn h v1 Hh t0) hf (fun _ _ => trivial) (by decide) rfl Hn (fun _ => rfl) (fun _ => Nat.le_of_ble_eq_true rfl)
theorem dX2_spendWeek_0 : decode cX2_spendWeek 0 = .ok (.aload_n 0, 1) := by decide +kernel
theorem dX2_spendWeek_1 : decode cX2_spendWeek 1 = .ok (.getfield 28, 3) := by decide +kernel
theorem dX2_spendWeek_4 : decode cX2_spendWeek 4 = .ok (.invokevirtual 123, 3) := by decide +kernel
theorem dX2_spendWeek_7 : decode cX2_spendWeek 7 = .ok (.iconst 0, 1) := by decide +kernel
theorem dX2_spendWeek_8 : decode cX2_spendWeek 8 = .ok (.istore_n 1, 1) := by decide +kernel
theorem dX2_spendWeek_9 : decode cX2_spendWeek 9 = .ok (.iload_n 1, 1) := by decide +kernel
theorem dX2_spendWeek_10 : decode cX2_spendWeek 10 = .ok (.bipush 8, 2) := by decide +kernel
theorem dX2_spendWeek_12 : decode cX2_spendWeek 12 = .ok (.if_icmp .ge 48, 3) := by decide +kernel
theorem dX2_spendWeek_15 : decode cX2_spendWeek 15 = .ok (.iconst 0, 1) := by decide +kernel
theorem dX2_spendWeek_16 : decode cX2_spendWeek 16 = .ok (.istore_n 2, 1) := by decide +kernel
theorem dX2_spendWeek_17 : decode cX2_spendWeek 17 = .ok (.iload_n 2, 1) := by decide +kernel
theorem dX2_spendWeek_18 : decode cX2_spendWeek 18 = .ok (.aload_n 0, 1) := by decide +kernel
theorem dX2_spendWeek_19 : decode cX2_spendWeek 19 = .ok (.getfield 21, 3) := by decide +kernel
theorem dX2_spendWeek_22 : decode cX2_spendWeek 22 = .ok (.getfield 57, 3) := by decide +kernel
theorem dX2_spendWeek_25 : decode cX2_spendWeek 25 = .ok (.if_icmp .ge 29, 3) := by decide +kernel
theorem dX2_spendWeek_28 : decode cX2_spendWeek 28 = .ok (.aload_n 0, 1) := by decide +kernel
theorem dX2_spendWeek_29 : decode cX2_spendWeek 29 = .ok (.getfield 21, 3) := by decide +kernel
theorem dX2_spendWeek_32 : decode cX2_spendWeek 32 = .ok (.getfield 84, 3) := by decide +kernel
theorem dX2_spendWeek_35 : decode cX2_spendWeek 35 = .ok (.iload_n 2, 1) := by decide +kernel
theorem dX2_spendWeek_36 : decode cX2_spendWeek 36 = .ok (.invokestatic 74, 3) := by decide +kernel
theorem dX2_spendWeek_39 : decode cX2_spendWeek 39 = .ok (.iload_n 1, 1) := by decide +kernel
theorem dX2_spendWeek_40 : decode cX2_spendWeek 40 = .ok (.if_icmp .ne 8, 3) := by decide +kernel
theorem dX2_spendWeek_43 : decode cX2_spendWeek 43 = .ok (.aload_n 0, 1) := by decide +kernel
theorem dX2_spendWeek_44 : decode cX2_spendWeek 44 = .ok (.iload_n 2, 1) := by decide +kernel
theorem dX2_spendWeek_45 : decode cX2_spendWeek 45 = .ok (.invokevirtual 126, 3) := by decide +kernel
theorem dX2_spendWeek_48 : decode cX2_spendWeek 48 = .ok (.iinc 2 1, 3) := by decide +kernel
theorem dX2_spendWeek_51 : decode cX2_spendWeek 51 = .ok (.goto (-34), 3) := by decide +kernel
theorem dX2_spendWeek_54 : decode cX2_spendWeek 54 = .ok (.iinc 1 1, 3) := by decide +kernel
theorem dX2_spendWeek_57 : decode cX2_spendWeek 57 = .ok (.goto (-48), 3) := by decide +kernel
theorem dX2_spendWeek_60 : decode cX2_spendWeek 60 = .ok (.aload_n 0, 1) := by decide +kernel
theorem dX2_spendWeek_61 : decode cX2_spendWeek 61 = .ok (.getfield 12, 3) := by decide +kernel
theorem dX2_spendWeek_64 : decode cX2_spendWeek 64 = .ok (.invokevirtual 130, 3) := by decide +kernel
theorem dX2_spendWeek_67 : decode cX2_spendWeek 67 = .ok (.aload_n 0, 1) := by decide +kernel
theorem dX2_spendWeek_68 : decode cX2_spendWeek 68 = .ok (.dup, 1) := by decide +kernel
theorem dX2_spendWeek_69 : decode cX2_spendWeek 69 = .ok (.getfield 49, 3) := by decide +kernel
theorem dX2_spendWeek_72 : decode cX2_spendWeek 72 = .ok (.iconst 1, 1) := by decide +kernel
theorem dX2_spendWeek_73 : decode cX2_spendWeek 73 = .ok (.iadd, 1) := by decide +kernel
theorem dX2_spendWeek_74 : decode cX2_spendWeek 74 = .ok (.putfield 49, 3) := by decide +kernel
theorem dX2_spendWeek_77 : decode cX2_spendWeek 77 = .ok (.aload_n 0, 1) := by decide +kernel
theorem dX2_spendWeek_78 : decode cX2_spendWeek 78 = .ok (.getfield 28, 3) := by decide +kernel
theorem dX2_spendWeek_81 : decode cX2_spendWeek 81 = .ok (.getfield 133, 3) := by decide +kernel
theorem dX2_spendWeek_84 : decode cX2_spendWeek 84 = .ok (.ireturn, 1) := by decide +kernel
set_option maxRecDepth 100000 in
set_option maxHeartbeats 4000000 in
theorem g_X2_spendWeek_48 (ids : List (Nat × Nat)) (Hn : Ndp ids) (h : Nat) (Hh : InR ids h 6 28) (k9 : Int32 → Sg → Option (Int32 × Sg)) (hk9 : ∀ (v1 : Int32) (t0 : Sg), Gj kI mX2_spendWeek ids 9 [some (aR (h, 6)), some (aI v1), none] [] t0 (k9 v1 t0)) (k17 : Int32 → Int32 → Sg → Option (Int32 × Sg)) (hk17 : ∀ (v1 : Int32) (v2 : Int32) (t0 : Sg), Gj kI mX2_spendWeek ids 17 [some (aR (h, 6)), some (aI v1), some (aI v2)] [] t0 (k17 v1 v2 t0)) (v1 : Int32) (v2 : Int32) (t0 : Sg) : Gj kI mX2_spendWeek ids 48 [some (aR (h, 6)), some (aI v1), some (aI v2)] [] t0 (f_X2_spendWeek_48 h k9 k17 v1 v2 t0) := by
  unfold f_X2_spendWeek_48
  refine G_st (x_iinc (v2 + (1 : Int32)) [some (aR (h, 6)), some (aI v1), some (aI (v2 + (1 : Int32)))] dX2_spendWeek_48 (Nat.le_of_ble_eq_true rfl) rfl rfl rfl rfl) ?_
  refine G_st (x_goto (tgt := 17) dX2_spendWeek_51 (by decide)) ?_
  refine G_weak _ ?_ (hk17 v1 (v2 + (1 : Int32)) t0)
  exact (leL_s (leL_s (leL_s (leL_e _))))
set_option maxRecDepth 100000 in
set_option maxHeartbeats 4000000 in
theorem g_X2_spendWeek_17 (ids : List (Nat × Nat)) (Hn : Ndp ids) (h : Nat) (Hh : InR ids h 6 28) (k9 : Int32 → Sg → Option (Int32 × Sg)) (hk9 : ∀ (v1 : Int32) (t0 : Sg), Gj kI mX2_spendWeek ids 9 [some (aR (h, 6)), some (aI v1), none] [] t0 (k9 v1 t0)) : ∀ (n : Nat) (v1 : Int32) (v2 : Int32) (t0 : Sg), Gj kI mX2_spendWeek ids 17 [some (aR (h, 6)), some (aI v1), some (aI v2)] [] t0 (f_X2_spendWeek_17 h k9 n v1 v2 t0) := by
  intro n
  induction n with
  | zero => intro v1 v2 t0; exact G_none
  | succ n ih =>
    intro v1 v2 t0
    rw [f_X2_spendWeek_17]
    refine G_st (x_iload_n dX2_spendWeek_17 rfl) ?_
    refine G_st (x_aload_n dX2_spendWeek_18 rfl) ?_
    refine G_st (x_get (k := 1) (aR (h, 15)) dX2_spendWeek_19 (Hh 6 (Nat.le_of_ble_eq_true rfl) (Nat.le_of_ble_eq_true rfl)) rfl rfl rfl rfl inTX2 (Nat.le_of_ble_eq_true rfl) tw_252 (fun ad => rfl)) ?_
    refine G_st (x_get (k := 0) (aI (t0 (h, 15) 0)) dX2_spendWeek_22 (Hh 15 (Nat.le_of_ble_eq_true rfl) (Nat.le_of_ble_eq_true rfl)) rfl rfl rfl rfl inTX1 (Nat.le_of_ble_eq_true rfl) tw_170 (fun ad => rfl)) ?_
    refine G_ite (fun c9 => ?_) (fun c9 => ?_)
    · refine G_st (x_icmp_ge_t (tgt := 54) dX2_spendWeek_25 (by decide) c9) ?_
      refine G_st (x_iinc (v1 + (1 : Int32)) [some (aR (h, 6)), some (aI (v1 + (1 : Int32))), some (aI v2)] dX2_spendWeek_54 (Nat.le_of_ble_eq_true rfl) rfl rfl rfl rfl) ?_
      refine G_st (x_goto (tgt := 9) dX2_spendWeek_57 (by decide)) ?_
      refine G_weak _ ?_ (hk9 (v1 + (1 : Int32)) t0)
      exact (leL_s (leL_s (leL_n (leL_e _))))
    · refine G_st (x_icmp_ge_f 54 dX2_spendWeek_25 (by decide) c9) ?_
      refine G_st (x_aload_n dX2_spendWeek_28 rfl) ?_
      refine G_st (x_get (k := 1) (aR (h, 15)) dX2_spendWeek_29 (Hh 6 (Nat.le_of_ble_eq_true rfl) (Nat.le_of_ble_eq_true rfl)) rfl rfl rfl rfl inTX2 (Nat.le_of_ble_eq_true rfl) tw_252 (fun ad => rfl)) ?_
      refine G_st (x_get (k := 4) (aR (h, 19)) dX2_spendWeek_32 (Hh 15 (Nat.le_of_ble_eq_true rfl) (Nat.le_of_ble_eq_true rfl)) rfl rfl rfl rfl inTX1 (Nat.le_of_ble_eq_true rfl) tw_185 (fun ad => rfl)) ?_
      refine G_st (x_iload_n dX2_spendWeek_35 rfl) ?_
      refine G_bd (fun x10 t11 h12 => ?_)
      refine G_st (x_callN [] (c_X6_get ids Hn (h, 19) v2 (Hh 19 (Nat.le_of_ble_eq_true rfl) (Nat.le_of_ble_eq_true rfl)) rfl _ _ _ h12) dX2_spendWeek_36 (List.mem_of_getElem? (i := 16) rfl) kc_X6_get rfl ⟨Nat.le_of_ble_eq_true rfl, Nat.le_of_ble_eq_true rfl⟩ (Nat.le_of_ble_eq_true rfl) rfl) ?_
      refine G_st (x_iload_n dX2_spendWeek_39 rfl) ?_
      refine G_ite (fun c13 => ?_) (fun c13 => ?_)
      · refine G_st (x_icmp_ne_f 48 dX2_spendWeek_40 (by decide) c13) ?_
        refine G_st (x_aload_n dX2_spendWeek_43 rfl) ?_
        refine G_st (x_iload_n dX2_spendWeek_44 rfl) ?_
        refine G_bd (fun _ t15 h16 => ?_)
        refine G_st (x_callV [] (c_X2_fall ids Hn h v2 Hh _ _ _ h16) dX2_spendWeek_45 tw_611 kc_X2_fall (Hh 6 (Nat.le_of_ble_eq_true rfl) (Nat.le_of_ble_eq_true rfl)) rfl rfl rfl rfl ⟨Nat.le_of_ble_eq_true rfl, Nat.le_of_ble_eq_true rfl⟩ (Nat.le_of_ble_eq_true rfl) rfl) ?_
        refine G_weak _ ?_ (g_X2_spendWeek_48 ids Hn h Hh k9 hk9 (f_X2_spendWeek_17 h k9 n) (ih) v1 v2 t15)
        exact (leL_s (leL_s (leL_s (leL_e _))))
      · refine G_st (x_icmp_ne_t (tgt := 48) dX2_spendWeek_40 (by decide) c13) ?_
        refine G_weak _ ?_ (g_X2_spendWeek_48 ids Hn h Hh k9 hk9 (f_X2_spendWeek_17 h k9 n) (ih) v1 v2 t11)
        exact (leL_s (leL_s (leL_s (leL_e _))))
set_option maxRecDepth 100000 in
set_option maxHeartbeats 4000000 in
theorem g_X2_spendWeek_9 (ids : List (Nat × Nat)) (Hn : Ndp ids) (h : Nat) (Hh : InR ids h 6 28)  : ∀ (n : Nat) (v1 : Int32) (t0 : Sg), Gj kI mX2_spendWeek ids 9 [some (aR (h, 6)), some (aI v1), none] [] t0 (f_X2_spendWeek_9 h n v1 t0) := by
  intro n
  induction n with
  | zero => intro v1 t0; exact G_none
  | succ n ih =>
    intro v1 t0
    rw [f_X2_spendWeek_9]
    refine G_st (x_iload_n dX2_spendWeek_9 rfl) ?_
    refine G_st (x_bipush (8 : Int32) dX2_spendWeek_10 rfl) ?_
    refine G_ite (fun c4 => ?_) (fun c4 => ?_)
    · refine G_st (x_icmp_ge_t (tgt := 60) dX2_spendWeek_12 (by decide) c4) ?_
      refine G_st (x_aload_n dX2_spendWeek_60 rfl) ?_
      refine G_st (x_get (k := 0) (aR (h, 7)) dX2_spendWeek_61 (Hh 6 (Nat.le_of_ble_eq_true rfl) (Nat.le_of_ble_eq_true rfl)) rfl rfl rfl rfl inTX2 (Nat.le_of_ble_eq_true rfl) tw_249 (fun ad => rfl)) ?_
      refine G_bd (fun _ t6 h7 => ?_)
      refine G_st (x_callV [] (c_X0_dry ids Hn h (Hh.sub (Nat.le_of_ble_eq_true rfl) (Nat.le_of_ble_eq_true rfl)) _ _ _ h7) dX2_spendWeek_64 tw_651 kc_X0_dry (Hh 7 (Nat.le_of_ble_eq_true rfl) (Nat.le_of_ble_eq_true rfl)) rfl rfl rfl rfl ⟨Nat.le_of_ble_eq_true rfl, Nat.le_of_ble_eq_true rfl⟩ (Nat.le_of_ble_eq_true rfl) rfl) ?_
      refine G_st (x_aload_n dX2_spendWeek_67 rfl) ?_
      refine G_st (x_dup dX2_spendWeek_68 rfl) ?_
      refine G_st (x_get (k := 4) (aI (t6 (h, 6) 4)) dX2_spendWeek_69 (Hh 6 (Nat.le_of_ble_eq_true rfl) (Nat.le_of_ble_eq_true rfl)) rfl rfl rfl rfl inTX2 (Nat.le_of_ble_eq_true rfl) tw_258 (fun ad => rfl)) ?_
      refine G_st (x_iconst (1 : Int32) dX2_spendWeek_72 rfl) ?_
      refine G_st (x_iadd dX2_spendWeek_73) ?_
      refine G_st (x_put (k := 4) (ty := .int) (v := aI ((t6 (h, 6) 4) + (1 : Int32))) (z := ((t6 (h, 6) 4) + (1 : Int32))) (upS t6 (h, 6) 4 ((t6 (h, 6) 4) + (1 : Int32))) dX2_spendWeek_74 (Hh 6 (Nat.le_of_ble_eq_true rfl) (Nat.le_of_ble_eq_true rfl)) rfl rfl rfl rfl inTX2 tyX2_ok nmX2 (Nat.le_of_ble_eq_true rfl) tw_258 rfl rfl (fun ad => rfl) (fun ad => rfl) (fun ad => put_i0 ad _ _ _ _ rfl) rfl) ?_
      refine G_bvS (fun t8 => ?_)
      refine G_st (x_aload_n dX2_spendWeek_77 rfl) ?_
      refine G_st (x_get (k := 2) (aR (h, 20)) dX2_spendWeek_78 (Hh 6 (Nat.le_of_ble_eq_true rfl) (Nat.le_of_ble_eq_true rfl)) rfl rfl rfl rfl inTX2 (Nat.le_of_ble_eq_true rfl) tw_255 (fun ad => rfl)) ?_
      refine G_st (x_get (k := 4) (aI (t8 (h, 20) 4)) dX2_spendWeek_81 (Hh 20 (Nat.le_of_ble_eq_true rfl) (Nat.le_of_ble_eq_true rfl)) rfl rfl rfl rfl inTX3 (Nat.le_of_ble_eq_true rfl) tw_212 (fun ad => rfl)) ?_
      exact G_ret rfl ⟨dX2_spendWeek_84, _, rfl, rfl⟩ rfl
    · refine G_st (x_icmp_ge_f 60 dX2_spendWeek_12 (by decide) c4) ?_
      refine G_st (x_iconst (0 : Int32) dX2_spendWeek_15 rfl) ?_
      refine G_st (x_istore_n [some (aR (h, 6)), some (aI v1), some (aI (0 : Int32))] dX2_spendWeek_16 (Nat.le_of_ble_eq_true rfl) rfl rfl) ?_
      refine G_weak _ ?_ (g_X2_spendWeek_17 ids Hn h Hh (f_X2_spendWeek_9 h n) (ih) fuel v1 (0 : Int32) t0)
      exact (leL_s (leL_s (leL_s (leL_e _))))
set_option maxRecDepth 100000 in
set_option maxHeartbeats 4000000 in
theorem g_X2_spendWeek (ids : List (Nat × Nat)) (Hn : Ndp ids) (h : Nat) (Hh : InR ids h 6 28) (t0 : Sg) : Gj kI mX2_spendWeek ids 0 [some (aR (h, 6)), none, none] [] t0 (f_X2_spendWeek h t0) := by
  unfold f_X2_spendWeek
  refine G_st (x_aload_n dX2_spendWeek_0 rfl) ?_
  refine G_st (x_get (k := 2) (aR (h, 20)) dX2_spendWeek_1 (Hh 6 (Nat.le_of_ble_eq_true rfl) (Nat.le_of_ble_eq_true rfl)) rfl rfl rfl rfl inTX2 (Nat.le_of_ble_eq_true rfl) tw_255 (fun ad => rfl)) ?_
  refine G_bd (fun _ t2 h3 => ?_)
  refine G_st (x_callV [] (c_X3_beginWeek ids Hn h (Hh.sub (Nat.le_of_ble_eq_true rfl) (Nat.le_of_ble_eq_true rfl)) _ _ _ h3) dX2_spendWeek_4 tw_609 kc_X3_beginWeek (Hh 20 (Nat.le_of_ble_eq_true rfl) (Nat.le_of_ble_eq_true rfl)) rfl rfl rfl rfl ⟨Nat.le_of_ble_eq_true rfl, Nat.le_of_ble_eq_true rfl⟩ (Nat.le_of_ble_eq_true rfl) rfl) ?_
  refine G_st (x_iconst (0 : Int32) dX2_spendWeek_7 rfl) ?_
  refine G_st (x_istore_n [some (aR (h, 6)), some (aI (0 : Int32)), none] dX2_spendWeek_8 (Nat.le_of_ble_eq_true rfl) rfl rfl) ?_
  refine G_weak _ ?_ (g_X2_spendWeek_9 ids Hn h Hh fuel (0 : Int32) t2)
  exact (leL_s (leL_s (leL_n (leL_e _))))
set_option maxRecDepth 100000 in
set_option maxHeartbeats 4000000 in
theorem c_X2_spendWeek (ids : List (Nat × Nat)) (Hn : Ndp ids) (h : Nat) (Hh : InR ids h 6 28) (t0 : Sg) (r : Int32) (t1 : Sg) (hf : f_X2_spendWeek h t0 = some (r, t1)) : Mt0 mX2_spendWeek yX2_spendWeek ids [aR (h, 6)] t0 (some (aI r)) t1 :=
  Mt_of (x := (r, t1)) (g_X2_spendWeek ids Hn h Hh t0) hf (fun _ _ => trivial) (by decide) rfl Hn (fun _ => rfl) (fun _ => Nat.le_of_ble_eq_true rfl)
theorem dX3_isAngry_0 : decode cX3_isAngry 0 = .ok (.iconst 0, 1) := by decide +kernel
theorem dX3_isAngry_1 : decode cX3_isAngry 1 = .ok (.istore_n 2, 1) := by decide +kernel
theorem dX3_isAngry_2 : decode cX3_isAngry 2 = .ok (.iload_n 2, 1) := by decide +kernel
theorem dX3_isAngry_3 : decode cX3_isAngry 3 = .ok (.bipush 24, 2) := by decide +kernel
theorem dX3_isAngry_5 : decode cX3_isAngry 5 = .ok (.if_icmp .ge 53, 3) := by decide +kernel
theorem dX3_isAngry_8 : decode cX3_isAngry 8 = .ok (.aload_n 0, 1) := by decide +kernel
theorem dX3_isAngry_9 : decode cX3_isAngry 9 = .ok (.getfield 21, 3) := by decide +kernel
theorem dX3_isAngry_12 : decode cX3_isAngry 12 = .ok (.iload_n 1, 1) := by decide +kernel
theorem dX3_isAngry_13 : decode cX3_isAngry 13 = .ok (.invokestatic 41, 3) := by decide +kernel
theorem dX3_isAngry_16 : decode cX3_isAngry 16 = .ok (.iload_n 2, 1) := by decide +kernel
theorem dX3_isAngry_17 : decode cX3_isAngry 17 = .ok (.ishr, 1) := by decide +kernel
theorem dX3_isAngry_18 : decode cX3_isAngry 18 = .ok (.iconst 1, 1) := by decide +kernel
theorem dX3_isAngry_19 : decode cX3_isAngry 19 = .ok (.iand, 1) := by decide +kernel
theorem dX3_isAngry_20 : decode cX3_isAngry 20 = .ok (.iconst 1, 1) := by decide +kernel
theorem dX3_isAngry_21 : decode cX3_isAngry 21 = .ok (.if_icmp .ne 7, 3) := by decide +kernel
theorem dX3_isAngry_24 : decode cX3_isAngry 24 = .ok (.iconst 1, 1) := by decide +kernel
theorem dX3_isAngry_25 : decode cX3_isAngry 25 = .ok (.goto 4, 3) := by decide +kernel
theorem dX3_isAngry_28 : decode cX3_isAngry 28 = .ok (.iconst 0, 1) := by decide +kernel
theorem dX3_isAngry_29 : decode cX3_isAngry 29 = .ok (.istore_n 3, 1) := by decide +kernel
theorem dX3_isAngry_30 : decode cX3_isAngry 30 = .ok (.iload_n 3, 1) := by decide +kernel
theorem dX3_isAngry_31 : decode cX3_isAngry 31 = .ok (.ifCond .eq 21, 3) := by decide +kernel
theorem dX3_isAngry_34 : decode cX3_isAngry 34 = .ok (.aload_n 0, 1) := by decide +kernel
theorem dX3_isAngry_35 : decode cX3_isAngry 35 = .ok (.getfield 15, 3) := by decide +kernel
theorem dX3_isAngry_38 : decode cX3_isAngry 38 = .ok (.iload_n 1, 1) := by decide +kernel
theorem dX3_isAngry_39 : decode cX3_isAngry 39 = .ok (.iload_n 2, 1) := by decide +kernel
theorem dX3_isAngry_40 : decode cX3_isAngry 40 = .ok (.invokestatic 56, 3) := by decide +kernel
theorem dX3_isAngry_43 : decode cX3_isAngry 43 = .ok (.invokestatic 41, 3) := by decide +kernel
theorem dX3_isAngry_46 : decode cX3_isAngry 46 = .ok (.iconst 5, 1) := by decide +kernel
theorem dX3_isAngry_47 : decode cX3_isAngry 47 = .ok (.if_icmp .lt 5, 3) := by decide +kernel
theorem dX3_isAngry_50 : decode cX3_isAngry 50 = .ok (.iconst 1, 1) := by decide +kernel
theorem dX3_isAngry_51 : decode cX3_isAngry 51 = .ok (.ireturn, 1) := by decide +kernel
theorem dX3_isAngry_52 : decode cX3_isAngry 52 = .ok (.iinc 2 1, 3) := by decide +kernel
theorem dX3_isAngry_55 : decode cX3_isAngry 55 = .ok (.goto (-53), 3) := by decide +kernel
theorem dX3_isAngry_58 : decode cX3_isAngry 58 = .ok (.iconst 0, 1) := by decide +kernel
theorem dX3_isAngry_59 : decode cX3_isAngry 59 = .ok (.ireturn, 1) := by decide +kernel
set_option maxRecDepth 100000 in
set_option maxHeartbeats 4000000 in
theorem g_X3_isAngry_52 (ids : List (Nat × Nat)) (Hn : Ndp ids) (h : Nat) (Hh : InR ids h 20 24) (k2 : Int32 → Int32 → Sg → Option (Int32 × Sg)) (hk2 : ∀ (v1 : Int32) (v2 : Int32) (t0 : Sg), Gj kI mX3_isAngry ids 2 [some (aR (h, 20)), some (aI v1), some (aI v2), none] [] t0 (k2 v1 v2 t0)) (v1 : Int32) (v2 : Int32) (t0 : Sg) : Gj kI mX3_isAngry ids 52 [some (aR (h, 20)), some (aI v1), some (aI v2), none] [] t0 (f_X3_isAngry_52 h k2 v1 v2 t0) := by
  unfold f_X3_isAngry_52
  refine G_st (x_iinc (v2 + (1 : Int32)) [some (aR (h, 20)), some (aI v1), some (aI (v2 + (1 : Int32))), none] dX3_isAngry_52 (Nat.le_of_ble_eq_true rfl) rfl rfl rfl rfl) ?_
  refine G_st (x_goto (tgt := 2) dX3_isAngry_55 (by decide)) ?_
  refine G_weak _ ?_ (hk2 v1 (v2 + (1 : Int32)) t0)
  exact (leL_s (leL_s (leL_s (leL_n (leL_e _)))))
set_option maxRecDepth 100000 in
set_option maxHeartbeats 4000000 in
theorem g_X3_isAngry_2 (ids : List (Nat × Nat)) (Hn : Ndp ids) (h : Nat) (Hh : InR ids h 20 24)  : ∀ (n : Nat) (v1 : Int32) (v2 : Int32) (t0 : Sg), Gj kI mX3_isAngry ids 2 [some (aR (h, 20)), some (aI v1), some (aI v2), none] [] t0 (f_X3_isAngry_2 h n v1 v2 t0) := by
  intro n
  induction n with
  | zero => intro v1 v2 t0; exact G_none
  | succ n ih =>
    intro v1 v2 t0
    rw [f_X3_isAngry_2]
    refine G_st (x_iload_n dX3_isAngry_2 rfl) ?_
    refine G_st (x_bipush (24 : Int32) dX3_isAngry_3 rfl) ?_
    refine G_ite (fun c1 => ?_) (fun c1 => ?_)
    · refine G_st (x_icmp_ge_t (tgt := 58) dX3_isAngry_5 (by decide) c1) ?_
      refine G_st (x_iconst (0 : Int32) dX3_isAngry_58 rfl) ?_
      exact G_ret rfl ⟨dX3_isAngry_59, _, rfl, nar_b (Or.inl rfl)⟩ rfl
    · refine G_st (x_icmp_ge_f 58 dX3_isAngry_5 (by decide) c1) ?_
      refine G_st (x_aload_n dX3_isAngry_8 rfl) ?_
      refine G_st (x_get (k := 3) (aR (h, 24)) dX3_isAngry_9 (Hh 20 (Nat.le_of_ble_eq_true rfl) (Nat.le_of_ble_eq_true rfl)) rfl rfl rfl rfl inTX3 (Nat.le_of_ble_eq_true rfl) tw_210 (fun ad => rfl)) ?_
      refine G_st (x_iload_n dX3_isAngry_12 rfl) ?_
      refine G_bd (fun x2 t3 h4 => ?_)
      refine G_st (x_callN [] (c_X6_get ids Hn (h, 24) v1 (Hh 24 (Nat.le_of_ble_eq_true rfl) (Nat.le_of_ble_eq_true rfl)) rfl _ _ _ h4) dX3_isAngry_13 (List.mem_of_getElem? (i := 19) rfl) kc_X6_get rfl ⟨Nat.le_of_ble_eq_true rfl, Nat.le_of_ble_eq_true rfl⟩ (Nat.le_of_ble_eq_true rfl) rfl) ?_
      refine G_st (x_iload_n dX3_isAngry_16 rfl) ?_
      refine G_st (x_ishr dX3_isAngry_17) ?_
      refine G_st (x_iconst (1 : Int32) dX3_isAngry_18 rfl) ?_
      refine G_st (x_iand dX3_isAngry_19) ?_
      refine G_st (x_iconst (1 : Int32) dX3_isAngry_20 rfl) ?_
      have e6 : Tj mX3_isAngry ids 21 [some (aR (h, 20)), some (aI v1), some (aI v2), none] [aI (1 : Int32), aI ((x2 >>> (v2 &&& 31)) &&& (1 : Int32))] t3 29 [some (aR (h, 20)), some (aI v1), some (aI v2), none] [aI (if ((x2 >>> (v2 &&& 31)) &&& (1 : Int32)) = (1 : Int32) then (1 : Int32) else (0 : Int32))] t3 := by
        refine Tj.dia (fun c5 => ?_) (fun c5 => ?_)
        · refine Tj.tr (x_icmp_ne_f 28 dX3_isAngry_21 (by decide) c5) ?_
          refine Tj.tr (x_iconst (1 : Int32) dX3_isAngry_24 rfl) ?_
          refine Tj.tr (x_goto (tgt := 29) dX3_isAngry_25 (by decide)) ?_
          exact Tj.rf
        · refine Tj.tr (x_icmp_ne_t (tgt := 28) dX3_isAngry_21 (by decide) c5) ?_
          refine Tj.tr (x_iconst (0 : Int32) dX3_isAngry_28 rfl) ?_
          exact Tj.rf
      refine G_st e6 ?_
      refine G_bvI (fun x7 => ?_)
      refine G_st (x_istore_n [some (aR (h, 20)), some (aI v1), some (aI v2), some (aI x7)] dX3_isAngry_29 (Nat.le_of_ble_eq_true rfl) rfl rfl) ?_
      refine G_st (x_iload_n dX3_isAngry_30 rfl) ?_
      refine G_ite (fun c8 => ?_) (fun c8 => ?_)
      · refine G_st (x_if_eq_t (tgt := 52) dX3_isAngry_31 (by decide) c8) ?_
        refine G_weak _ ?_ (g_X3_isAngry_52 ids Hn h Hh (f_X3_isAngry_2 h n) (ih) v1 v2 t3)
        exact (leL_s (leL_s (leL_s (leL_n (leL_e _)))))
      · refine G_st (x_if_eq_f 52 dX3_isAngry_31 (by decide) c8) ?_
        refine G_st (x_aload_n dX3_isAngry_34 rfl) ?_
        refine G_st (x_get (k := 1) (aR (h, 22)) dX3_isAngry_35 (Hh 20 (Nat.le_of_ble_eq_true rfl) (Nat.le_of_ble_eq_true rfl)) rfl rfl rfl rfl inTX3 (Nat.le_of_ble_eq_true rfl) tw_206 (fun ad => rfl)) ?_
        refine G_st (x_iload_n dX3_isAngry_38 rfl) ?_
        refine G_st (x_iload_n dX3_isAngry_39 rfl) ?_
        refine G_bd (fun x9 t10 h11 => ?_)
        refine G_st (x_callS [aR (h, 22)] (c_X3_pair ids Hn v1 v2  _ _ _ h11) dX3_isAngry_40 tw_649 kc_X3_pair rfl ⟨Nat.le_of_ble_eq_true rfl, Nat.le_of_ble_eq_true rfl⟩ (Nat.le_of_ble_eq_true rfl) rfl) ?_
        refine G_bd (fun x12 t13 h14 => ?_)
        refine G_st (x_callN [] (c_X6_get ids Hn (h, 22) x9 (Hh 22 (Nat.le_of_ble_eq_true rfl) (Nat.le_of_ble_eq_true rfl)) rfl _ _ _ h14) dX3_isAngry_43 (List.mem_of_getElem? (i := 19) rfl) kc_X6_get rfl ⟨Nat.le_of_ble_eq_true rfl, Nat.le_of_ble_eq_true rfl⟩ (Nat.le_of_ble_eq_true rfl) rfl) ?_
        refine G_st (x_iconst (5 : Int32) dX3_isAngry_46 rfl) ?_
        refine G_ite (fun c15 => ?_) (fun c15 => ?_)
        · refine G_st (x_icmp_lt_t (tgt := 52) dX3_isAngry_47 (by decide) c15) ?_
          refine G_weak _ ?_ (g_X3_isAngry_52 ids Hn h Hh (f_X3_isAngry_2 h n) (ih) v1 v2 t13)
          exact (leL_s (leL_s (leL_s (leL_n (leL_e _)))))
        · refine G_st (x_icmp_lt_f 52 dX3_isAngry_47 (by decide) c15) ?_
          refine G_st (x_iconst (1 : Int32) dX3_isAngry_50 rfl) ?_
          exact G_ret rfl ⟨dX3_isAngry_51, _, rfl, nar_b (Or.inr rfl)⟩ rfl
set_option maxRecDepth 100000 in
set_option maxHeartbeats 4000000 in
theorem g_X3_isAngry (ids : List (Nat × Nat)) (Hn : Ndp ids) (h : Nat) (v1 : Int32) (Hh : InR ids h 20 24) (t0 : Sg) : Gj kI mX3_isAngry ids 0 [some (aR (h, 20)), some (aI v1), none, none] [] t0 (f_X3_isAngry h v1 t0) := by
  unfold f_X3_isAngry
  refine G_st (x_iconst (0 : Int32) dX3_isAngry_0 rfl) ?_
  refine G_st (x_istore_n [some (aR (h, 20)), some (aI v1), some (aI (0 : Int32)), none] dX3_isAngry_1 (Nat.le_of_ble_eq_true rfl) rfl rfl) ?_
  refine G_weak _ ?_ (g_X3_isAngry_2 ids Hn h Hh fuel v1 (0 : Int32) t0)
  exact (leL_s (leL_s (leL_s (leL_n (leL_e _)))))
set_option maxRecDepth 100000 in
set_option maxHeartbeats 4000000 in
theorem c_X3_isAngry (ids : List (Nat × Nat)) (Hn : Ndp ids) (h : Nat) (v1 : Int32) (Hh : InR ids h 20 24) (t0 : Sg) (r : Int32) (t1 : Sg) (hf : f_X3_isAngry h v1 t0 = some (r, t1)) : Mt0 mX3_isAngry yX3_isAngry ids [aR (h, 20), aI v1] t0 (some (aI r)) t1 :=
  Mt_of (x := (r, t1)) (g_X3_isAngry ids Hn h v1 Hh t0) hf (fun _ _ => trivial) (by decide) rfl Hn (fun _ => rfl) (fun _ => Nat.le_of_ble_eq_true rfl)
theorem dX2_takeRevenge_0 : decode cX2_takeRevenge 0 = .ok (.iconst 0, 1) := by decide +kernel
theorem dX2_takeRevenge_1 : decode cX2_takeRevenge 1 = .ok (.istore_n 1, 1) := by decide +kernel
theorem dX2_takeRevenge_2 : decode cX2_takeRevenge 2 = .ok (.iload_n 1, 1) := by decide +kernel
theorem dX2_takeRevenge_3 : decode cX2_takeRevenge 3 = .ok (.aload_n 0, 1) := by decide +kernel
theorem dX2_takeRevenge_4 : decode cX2_takeRevenge 4 = .ok (.getfield 12, 3) := by decide +kernel
theorem dX2_takeRevenge_7 : decode cX2_takeRevenge 7 = .ok (.invokevirtual 136, 3) := by decide +kernel
theorem dX2_takeRevenge_10 : decode cX2_takeRevenge 10 = .ok (.if_icmp .ge 28, 3) := by decide +kernel
theorem dX2_takeRevenge_13 : decode cX2_takeRevenge 13 = .ok (.aload_n 0, 1) := by decide +kernel
theorem dX2_takeRevenge_14 : decode cX2_takeRevenge 14 = .ok (.getfield 28, 3) := by decide +kernel
theorem dX2_takeRevenge_17 : decode cX2_takeRevenge 17 = .ok (.iload_n 1, 1) := by decide +kernel
theorem dX2_takeRevenge_18 : decode cX2_takeRevenge 18 = .ok (.invokevirtual 140, 3) := by decide +kernel
theorem dX2_takeRevenge_21 : decode cX2_takeRevenge 21 = .ok (.ifCond .eq 11, 3) := by decide +kernel
theorem dX2_takeRevenge_24 : decode cX2_takeRevenge 24 = .ok (.aload_n 0, 1) := by decide +kernel
theorem dX2_takeRevenge_25 : decode cX2_takeRevenge 25 = .ok (.getfield 21, 3) := by decide +kernel
theorem dX2_takeRevenge_28 : decode cX2_takeRevenge 28 = .ok (.iload_n 1, 1) := by decide +kernel
theorem dX2_takeRevenge_29 : decode cX2_takeRevenge 29 = .ok (.invokevirtual 144, 3) := by decide +kernel
theorem dX2_takeRevenge_32 : decode cX2_takeRevenge 32 = .ok (.iinc 1 1, 3) := by decide +kernel
theorem dX2_takeRevenge_35 : decode cX2_takeRevenge 35 = .ok (.goto (-33), 3) := by decide +kernel
theorem dX2_takeRevenge_38 : decode cX2_takeRevenge 38 = .ok (.return_, 1) := by decide +kernel
set_option maxRecDepth 100000 in
set_option maxHeartbeats 4000000 in
theorem g_X2_takeRevenge_32 (ids : List (Nat × Nat)) (Hn : Ndp ids) (h : Nat) (Hh : InR ids h 6 28) (k2 : Int32 → Sg → Option (Unit × Sg)) (hk2 : ∀ (v1 : Int32) (t0 : Sg), Gj kV mX2_takeRevenge ids 2 [some (aR (h, 6)), some (aI v1)] [] t0 (k2 v1 t0)) (v1 : Int32) (t0 : Sg) : Gj kV mX2_takeRevenge ids 32 [some (aR (h, 6)), some (aI v1)] [] t0 (f_X2_takeRevenge_32 h k2 v1 t0) := by
  unfold f_X2_takeRevenge_32
  refine G_st (x_iinc (v1 + (1 : Int32)) [some (aR (h, 6)), some (aI (v1 + (1 : Int32)))] dX2_takeRevenge_32 (Nat.le_of_ble_eq_true rfl) rfl rfl rfl rfl) ?_
  refine G_st (x_goto (tgt := 2) dX2_takeRevenge_35 (by decide)) ?_
  refine G_weak _ ?_ (hk2 (v1 + (1 : Int32)) t0)
  exact (leL_s (leL_s (leL_e _)))
set_option maxRecDepth 100000 in
set_option maxHeartbeats 4000000 in
theorem g_X2_takeRevenge_2 (ids : List (Nat × Nat)) (Hn : Ndp ids) (h : Nat) (Hh : InR ids h 6 28)  : ∀ (n : Nat) (v1 : Int32) (t0 : Sg), Gj kV mX2_takeRevenge ids 2 [some (aR (h, 6)), some (aI v1)] [] t0 (f_X2_takeRevenge_2 h n v1 t0) := by
  intro n
  induction n with
  | zero => intro v1 t0; exact G_none
  | succ n ih =>
    intro v1 t0
    rw [f_X2_takeRevenge_2]
    refine G_st (x_iload_n dX2_takeRevenge_2 rfl) ?_
    refine G_st (x_aload_n dX2_takeRevenge_3 rfl) ?_
    refine G_st (x_get (k := 0) (aR (h, 7)) dX2_takeRevenge_4 (Hh 6 (Nat.le_of_ble_eq_true rfl) (Nat.le_of_ble_eq_true rfl)) rfl rfl rfl rfl inTX2 (Nat.le_of_ble_eq_true rfl) tw_249 (fun ad => rfl)) ?_
    refine G_bd (fun x1 t2 h3 => ?_)
    refine G_st (x_callV [aI v1] (c_X0_tenants ids Hn h (Hh.sub (Nat.le_of_ble_eq_true rfl) (Nat.le_of_ble_eq_true rfl)) _ _ _ h3) dX2_takeRevenge_7 tw_777 kc_X0_tenants (Hh 7 (Nat.le_of_ble_eq_true rfl) (Nat.le_of_ble_eq_true rfl)) rfl rfl rfl rfl ⟨Nat.le_of_ble_eq_true rfl, Nat.le_of_ble_eq_true rfl⟩ (Nat.le_of_ble_eq_true rfl) rfl) ?_
    refine G_ite (fun c4 => ?_) (fun c4 => ?_)
    · refine G_st (x_icmp_ge_t (tgt := 38) dX2_takeRevenge_10 (by decide) c4) ?_
      exact G_ret rfl ⟨rfl, dX2_takeRevenge_38⟩ rfl
    · refine G_st (x_icmp_ge_f 38 dX2_takeRevenge_10 (by decide) c4) ?_
      refine G_st (x_aload_n dX2_takeRevenge_13 rfl) ?_
      refine G_st (x_get (k := 2) (aR (h, 20)) dX2_takeRevenge_14 (Hh 6 (Nat.le_of_ble_eq_true rfl) (Nat.le_of_ble_eq_true rfl)) rfl rfl rfl rfl inTX2 (Nat.le_of_ble_eq_true rfl) tw_255 (fun ad => rfl)) ?_
      refine G_st (x_iload_n dX2_takeRevenge_17 rfl) ?_
      refine G_bd (fun x5 t6 h7 => ?_)
      refine G_st (x_callV [] (c_X3_isAngry ids Hn h v1 (Hh.sub (Nat.le_of_ble_eq_true rfl) (Nat.le_of_ble_eq_true rfl)) _ _ _ h7) dX2_takeRevenge_18 tw_778 kc_X3_isAngry (Hh 20 (Nat.le_of_ble_eq_true rfl) (Nat.le_of_ble_eq_true rfl)) rfl rfl rfl rfl ⟨Nat.le_of_ble_eq_true rfl, Nat.le_of_ble_eq_true rfl⟩ (Nat.le_of_ble_eq_true rfl) rfl) ?_
      refine G_ite (fun c8 => ?_) (fun c8 => ?_)
      · refine G_st (x_if_eq_t (tgt := 32) dX2_takeRevenge_21 (by decide) c8) ?_
        refine G_weak _ ?_ (g_X2_takeRevenge_32 ids Hn h Hh (f_X2_takeRevenge_2 h n) (ih) v1 t6)
        exact (leL_s (leL_s (leL_e _)))
      · refine G_st (x_if_eq_f 32 dX2_takeRevenge_21 (by decide) c8) ?_
        refine G_st (x_aload_n dX2_takeRevenge_24 rfl) ?_
        refine G_st (x_get (k := 1) (aR (h, 15)) dX2_takeRevenge_25 (Hh 6 (Nat.le_of_ble_eq_true rfl) (Nat.le_of_ble_eq_true rfl)) rfl rfl rfl rfl inTX2 (Nat.le_of_ble_eq_true rfl) tw_252 (fun ad => rfl)) ?_
        refine G_st (x_iload_n dX2_takeRevenge_28 rfl) ?_
        refine G_bd (fun _ t10 h11 => ?_)
        refine G_st (x_callV [] (c_X1_raise ids Hn h v1 (Hh.sub (Nat.le_of_ble_eq_true rfl) (Nat.le_of_ble_eq_true rfl)) _ _ _ h11) dX2_takeRevenge_29 tw_782 kc_X1_raise (Hh 15 (Nat.le_of_ble_eq_true rfl) (Nat.le_of_ble_eq_true rfl)) rfl rfl rfl rfl ⟨Nat.le_of_ble_eq_true rfl, Nat.le_of_ble_eq_true rfl⟩ (Nat.le_of_ble_eq_true rfl) rfl) ?_
        refine G_weak _ ?_ (g_X2_takeRevenge_32 ids Hn h Hh (f_X2_takeRevenge_2 h n) (ih) v1 t10)
        exact (leL_s (leL_s (leL_e _)))
set_option maxRecDepth 100000 in
set_option maxHeartbeats 4000000 in
theorem g_X2_takeRevenge (ids : List (Nat × Nat)) (Hn : Ndp ids) (h : Nat) (Hh : InR ids h 6 28) (t0 : Sg) : Gj kV mX2_takeRevenge ids 0 [some (aR (h, 6)), none] [] t0 (f_X2_takeRevenge h t0) := by
  unfold f_X2_takeRevenge
  refine G_st (x_iconst (0 : Int32) dX2_takeRevenge_0 rfl) ?_
  refine G_st (x_istore_n [some (aR (h, 6)), some (aI (0 : Int32))] dX2_takeRevenge_1 (Nat.le_of_ble_eq_true rfl) rfl rfl) ?_
  refine G_weak _ ?_ (g_X2_takeRevenge_2 ids Hn h Hh fuel (0 : Int32) t0)
  exact (leL_s (leL_s (leL_e _)))
set_option maxRecDepth 100000 in
set_option maxHeartbeats 4000000 in
theorem c_X2_takeRevenge (ids : List (Nat × Nat)) (Hn : Ndp ids) (h : Nat) (Hh : InR ids h 6 28) (t0 : Sg) (r : Unit) (t1 : Sg) (hf : f_X2_takeRevenge h t0 = some (r, t1)) : Mt0 mX2_takeRevenge yX2_takeRevenge ids [aR (h, 6)] t0 none t1 :=
  Mt_of (x := (r, t1)) (g_X2_takeRevenge ids Hn h Hh t0) hf (fun _ _ => trivial) (by decide) rfl Hn (fun _ => rfl) (fun _ => Nat.le_of_ble_eq_true rfl)
theorem dX4_add_0 : decode cX4_add 0 = .ok (.aload_n 0, 1) := by decide +kernel
theorem dX4_add_1 : decode cX4_add 1 = .ok (.getfield 15, 3) := by decide +kernel
theorem dX4_add_4 : decode cX4_add 4 = .ok (.bipush 96, 2) := by decide +kernel
theorem dX4_add_6 : decode cX4_add 6 = .ok (.if_icmp .ge 25, 3) := by decide +kernel
theorem dX4_add_9 : decode cX4_add 9 = .ok (.aload_n 0, 1) := by decide +kernel
theorem dX4_add_10 : decode cX4_add 10 = .ok (.getfield 9, 3) := by decide +kernel
theorem dX4_add_13 : decode cX4_add 13 = .ok (.aload_n 0, 1) := by decide +kernel
theorem dX4_add_14 : decode cX4_add 14 = .ok (.getfield 15, 3) := by decide +kernel
theorem dX4_add_17 : decode cX4_add 17 = .ok (.iload_n 1, 1) := by decide +kernel
theorem dX4_add_18 : decode cX4_add 18 = .ok (.invokestatic 19, 3) := by decide +kernel
theorem dX4_add_21 : decode cX4_add 21 = .ok (.aload_n 0, 1) := by decide +kernel
theorem dX4_add_22 : decode cX4_add 22 = .ok (.dup, 1) := by decide +kernel
theorem dX4_add_23 : decode cX4_add 23 = .ok (.getfield 15, 3) := by decide +kernel
theorem dX4_add_26 : decode cX4_add 26 = .ok (.iconst 1, 1) := by decide +kernel
theorem dX4_add_27 : decode cX4_add 27 = .ok (.iadd, 1) := by decide +kernel
theorem dX4_add_28 : decode cX4_add 28 = .ok (.putfield 15, 3) := by decide +kernel
theorem dX4_add_31 : decode cX4_add 31 = .ok (.aload_n 0, 1) := by decide +kernel
theorem dX4_add_32 : decode cX4_add 32 = .ok (.getfield 15, 3) := by decide +kernel
theorem dX4_add_35 : decode cX4_add 35 = .ok (.ireturn, 1) := by decide +kernel
set_option maxRecDepth 100000 in
set_option maxHeartbeats 4000000 in
theorem g_X4_add (ids : List (Nat × Nat)) (Hn : Ndp ids) (v1 : Int32) (H0_4 : InR ids 0 4 5) (t0 : Sg) : Gj kI mX4_add ids 0 [some (aR (0, 4)), some (aI v1)] [] t0 (f_X4_add v1 t0) := by
  unfold f_X4_add
  refine G_st (x_aload_n dX4_add_0 rfl) ?_
  refine G_st (x_get (k := 1) (aI (t0 (0, 4) 1)) dX4_add_1 (H0_4 4 (Nat.le_of_ble_eq_true rfl) (Nat.le_of_ble_eq_true rfl)) rfl rfl rfl rfl inTX4 (Nat.le_of_ble_eq_true rfl) tw_278 (fun ad => rfl)) ?_
  refine G_st (x_bipush (96 : Int32) dX4_add_4 rfl) ?_
  refine G_ite (fun c1 => ?_) (fun c1 => ?_)
  · refine G_st (x_icmp_ge_t (tgt := 31) dX4_add_6 (by decide) c1) ?_
    refine G_st (x_aload_n dX4_add_31 rfl) ?_
    refine G_st (x_get (k := 1) (aI (t0 (0, 4) 1)) dX4_add_32 (H0_4 4 (Nat.le_of_ble_eq_true rfl) (Nat.le_of_ble_eq_true rfl)) rfl rfl rfl rfl inTX4 (Nat.le_of_ble_eq_true rfl) tw_278 (fun ad => rfl)) ?_
    exact G_ret rfl ⟨dX4_add_35, _, rfl, rfl⟩ rfl
  · refine G_st (x_icmp_ge_f 31 dX4_add_6 (by decide) c1) ?_
    refine G_st (x_aload_n dX4_add_9 rfl) ?_
    refine G_st (x_get (k := 0) (aR (0, 5)) dX4_add_10 (H0_4 4 (Nat.le_of_ble_eq_true rfl) (Nat.le_of_ble_eq_true rfl)) rfl rfl rfl rfl inTX4 (Nat.le_of_ble_eq_true rfl) tw_277 (fun ad => rfl)) ?_
    refine G_st (x_aload_n dX4_add_13 rfl) ?_
    refine G_st (x_get (k := 1) (aI (t0 (0, 4) 1)) dX4_add_14 (H0_4 4 (Nat.le_of_ble_eq_true rfl) (Nat.le_of_ble_eq_true rfl)) rfl rfl rfl rfl inTX4 (Nat.le_of_ble_eq_true rfl) tw_278 (fun ad => rfl)) ?_
    refine G_st (x_iload_n dX4_add_17 rfl) ?_
    refine G_bd (fun _ t3 h4 => ?_)
    refine G_st (x_callN [] (c_X6_set ids Hn (0, 5) (t0 (0, 4) 1) v1 (H0_4 5 (Nat.le_of_ble_eq_true rfl) (Nat.le_of_ble_eq_true rfl)) rfl _ _ _ h4) dX4_add_18 (List.mem_of_getElem? (i := 6) rfl) kc_X6_set rfl ⟨Nat.le_of_ble_eq_true rfl, Nat.le_of_ble_eq_true rfl⟩ (Nat.le_of_ble_eq_true rfl) rfl) ?_
    refine G_st (x_aload_n dX4_add_21 rfl) ?_
    refine G_st (x_dup dX4_add_22 rfl) ?_
    refine G_st (x_get (k := 1) (aI (t3 (0, 4) 1)) dX4_add_23 (H0_4 4 (Nat.le_of_ble_eq_true rfl) (Nat.le_of_ble_eq_true rfl)) rfl rfl rfl rfl inTX4 (Nat.le_of_ble_eq_true rfl) tw_278 (fun ad => rfl)) ?_
    refine G_st (x_iconst (1 : Int32) dX4_add_26 rfl) ?_
    refine G_st (x_iadd dX4_add_27) ?_
    refine G_st (x_put (k := 1) (ty := .int) (v := aI ((t3 (0, 4) 1) + (1 : Int32))) (z := ((t3 (0, 4) 1) + (1 : Int32))) (upS t3 (0, 4) 1 ((t3 (0, 4) 1) + (1 : Int32))) dX4_add_28 (H0_4 4 (Nat.le_of_ble_eq_true rfl) (Nat.le_of_ble_eq_true rfl)) rfl rfl rfl rfl inTX4 tyX4_ok nmX4 (Nat.le_of_ble_eq_true rfl) tw_278 rfl rfl (fun ad => rfl) (fun ad => rfl) (fun ad => put_i0 ad _ _ _ _ rfl) rfl) ?_
    refine G_bvS (fun t5 => ?_)
    refine G_st (x_aload_n dX4_add_31 rfl) ?_
    refine G_st (x_get (k := 1) (aI (t5 (0, 4) 1)) dX4_add_32 (H0_4 4 (Nat.le_of_ble_eq_true rfl) (Nat.le_of_ble_eq_true rfl)) rfl rfl rfl rfl inTX4 (Nat.le_of_ble_eq_true rfl) tw_278 (fun ad => rfl)) ?_
    exact G_ret rfl ⟨dX4_add_35, _, rfl, rfl⟩ rfl
set_option maxRecDepth 100000 in
set_option maxHeartbeats 4000000 in
theorem c_X4_add (ids : List (Nat × Nat)) (Hn : Ndp ids) (v1 : Int32) (H0_4 : InR ids 0 4 5) (t0 : Sg) (r : Int32) (t1 : Sg) (hf : f_X4_add v1 t0 = some (r, t1)) : Mt0 mX4_add yX4_add ids [aR (0, 4), aI v1] t0 (some (aI r)) t1 :=
  Mt_of (x := (r, t1)) (g_X4_add ids Hn v1 H0_4 t0) hf (fun _ _ => trivial) (by decide) rfl Hn (fun _ => rfl) (fun _ => Nat.le_of_ble_eq_true rfl)
theorem dX4_letter_0 : decode cX4_letter 0 = .ok (.iload_n 1, 1) := by decide +kernel
theorem dX4_letter_1 : decode cX4_letter 1 = .ok (.ifCond .lt 22, 3) := by decide +kernel
theorem dX4_letter_4 : decode cX4_letter 4 = .ok (.iload_n 1, 1) := by decide +kernel
theorem dX4_letter_5 : decode cX4_letter 5 = .ok (.aload_n 0, 1) := by decide +kernel
theorem dX4_letter_6 : decode cX4_letter 6 = .ok (.getfield 15, 3) := by decide +kernel
theorem dX4_letter_9 : decode cX4_letter 9 = .ok (.if_icmp .ge 14, 3) := by decide +kernel
theorem dX4_letter_12 : decode cX4_letter 12 = .ok (.aload_n 0, 1) := by decide +kernel
theorem dX4_letter_13 : decode cX4_letter 13 = .ok (.getfield 9, 3) := by decide +kernel
theorem dX4_letter_16 : decode cX4_letter 16 = .ok (.iload_n 1, 1) := by decide +kernel
theorem dX4_letter_17 : decode cX4_letter 17 = .ok (.invokestatic 23, 3) := by decide +kernel
theorem dX4_letter_20 : decode cX4_letter 20 = .ok (.goto 4, 3) := by decide +kernel
theorem dX4_letter_23 : decode cX4_letter 23 = .ok (.iconst (-1), 1) := by decide +kernel
theorem dX4_letter_24 : decode cX4_letter 24 = .ok (.ireturn, 1) := by decide +kernel
set_option maxRecDepth 100000 in
set_option maxHeartbeats 4000000 in
theorem g_X4_letter (ids : List (Nat × Nat)) (Hn : Ndp ids) (v1 : Int32) (H0_4 : InR ids 0 4 5) (t0 : Sg) : Gj kI mX4_letter ids 0 [some (aR (0, 4)), some (aI v1)] [] t0 (f_X4_letter v1 t0) := by
  unfold f_X4_letter
  refine G_st (x_iload_n dX4_letter_0 rfl) ?_
  refine G_ite (fun c1 => ?_) (fun c1 => ?_)
  · refine G_st (x_if_lt_t (tgt := 23) dX4_letter_1 (by decide) c1) ?_
    refine G_st (x_iconst (-1 : Int32) dX4_letter_23 rfl) ?_
    exact G_ret rfl ⟨dX4_letter_24, _, rfl, rfl⟩ rfl
  · refine G_st (x_if_lt_f 23 dX4_letter_1 (by decide) c1) ?_
    refine G_st (x_iload_n dX4_letter_4 rfl) ?_
    refine G_st (x_aload_n dX4_letter_5 rfl) ?_
    refine G_st (x_get (k := 1) (aI (t0 (0, 4) 1)) dX4_letter_6 (H0_4 4 (Nat.le_of_ble_eq_true rfl) (Nat.le_of_ble_eq_true rfl)) rfl rfl rfl rfl inTX4 (Nat.le_of_ble_eq_true rfl) tw_278 (fun ad => rfl)) ?_
    refine G_ite (fun c2 => ?_) (fun c2 => ?_)
    · refine G_st (x_icmp_ge_t (tgt := 23) dX4_letter_9 (by decide) c2) ?_
      refine G_st (x_iconst (-1 : Int32) dX4_letter_23 rfl) ?_
      exact G_ret rfl ⟨dX4_letter_24, _, rfl, rfl⟩ rfl
    · refine G_st (x_icmp_ge_f 23 dX4_letter_9 (by decide) c2) ?_
      refine G_st (x_aload_n dX4_letter_12 rfl) ?_
      refine G_st (x_get (k := 0) (aR (0, 5)) dX4_letter_13 (H0_4 4 (Nat.le_of_ble_eq_true rfl) (Nat.le_of_ble_eq_true rfl)) rfl rfl rfl rfl inTX4 (Nat.le_of_ble_eq_true rfl) tw_277 (fun ad => rfl)) ?_
      refine G_st (x_iload_n dX4_letter_16 rfl) ?_
      refine G_bd (fun x3 t4 h5 => ?_)
      refine G_st (x_callN [] (c_X6_get ids Hn (0, 5) v1 (H0_4 5 (Nat.le_of_ble_eq_true rfl) (Nat.le_of_ble_eq_true rfl)) rfl _ _ _ h5) dX4_letter_17 (List.mem_of_getElem? (i := 7) rfl) kc_X6_get rfl ⟨Nat.le_of_ble_eq_true rfl, Nat.le_of_ble_eq_true rfl⟩ (Nat.le_of_ble_eq_true rfl) rfl) ?_
      refine G_st (x_goto (tgt := 24) dX4_letter_20 (by decide)) ?_
      exact G_ret rfl ⟨dX4_letter_24, _, rfl, rfl⟩ rfl
set_option maxRecDepth 100000 in
set_option maxHeartbeats 4000000 in
theorem c_X4_letter (ids : List (Nat × Nat)) (Hn : Ndp ids) (v1 : Int32) (H0_4 : InR ids 0 4 5) (t0 : Sg) (r : Int32) (t1 : Sg) (hf : f_X4_letter v1 t0 = some (r, t1)) : Mt0 mX4_letter yX4_letter ids [aR (0, 4), aI v1] t0 (some (aI r)) t1 :=
  Mt_of (x := (r, t1)) (g_X4_letter ids Hn v1 H0_4 t0) hf (fun _ _ => trivial) (by decide) rfl Hn (fun _ => rfl) (fun _ => Nat.le_of_ble_eq_true rfl)
theorem dX4_digit_0 : decode cX4_digit 0 = .ok (.aload_n 0, 1) := by decide +kernel
theorem dX4_digit_1 : decode cX4_digit 1 = .ok (.iload_n 1, 1) := by decide +kernel
theorem dX4_digit_2 : decode cX4_digit 2 = .ok (.invokevirtual 27, 3) := by decide +kernel
theorem dX4_digit_5 : decode cX4_digit 5 = .ok (.istore_n 2, 1) := by decide +kernel
theorem dX4_digit_6 : decode cX4_digit 6 = .ok (.iload_n 2, 1) := by decide +kernel
theorem dX4_digit_7 : decode cX4_digit 7 = .ok (.bipush 48, 2) := by decide +kernel
theorem dX4_digit_9 : decode cX4_digit 9 = .ok (.bipush 57, 2) := by decide +kernel
theorem dX4_digit_11 : decode cX4_digit 11 = .ok (.invokestatic 31, 3) := by decide +kernel
theorem dX4_digit_14 : decode cX4_digit 14 = .ok (.ifCond .eq 10, 3) := by decide +kernel
theorem dX4_digit_17 : decode cX4_digit 17 = .ok (.iload_n 2, 1) := by decide +kernel
theorem dX4_digit_18 : decode cX4_digit 18 = .ok (.bipush 48, 2) := by decide +kernel
theorem dX4_digit_20 : decode cX4_digit 20 = .ok (.isub, 1) := by decide +kernel
theorem dX4_digit_21 : decode cX4_digit 21 = .ok (.goto 4, 3) := by decide +kernel
theorem dX4_digit_24 : decode cX4_digit 24 = .ok (.iconst (-1), 1) := by decide +kernel
theorem dX4_digit_25 : decode cX4_digit 25 = .ok (.ireturn, 1) := by decide +kernel
set_option maxRecDepth 100000 in
set_option maxHeartbeats 4000000 in
theorem g_X4_digit (ids : List (Nat × Nat)) (Hn : Ndp ids) (v1 : Int32) (H0_4 : InR ids 0 4 5) (t0 : Sg) : Gj kI mX4_digit ids 0 [some (aR (0, 4)), some (aI v1), none] [] t0 (f_X4_digit v1 t0) := by
  unfold f_X4_digit
  refine G_st (x_aload_n dX4_digit_0 rfl) ?_
  refine G_st (x_iload_n dX4_digit_1 rfl) ?_
  refine G_bd (fun x1 t2 h3 => ?_)
  refine G_st (x_callV [] (c_X4_letter ids Hn v1 H0_4 _ _ _ h3) dX4_digit_2 tw_342 kc_X4_letter (H0_4 4 (Nat.le_of_ble_eq_true rfl) (Nat.le_of_ble_eq_true rfl)) rfl rfl rfl rfl ⟨Nat.le_of_ble_eq_true rfl, Nat.le_of_ble_eq_true rfl⟩ (Nat.le_of_ble_eq_true rfl) rfl) ?_
  refine G_st (x_istore_n [some (aR (0, 4)), some (aI v1), some (aI x1)] dX4_digit_5 (Nat.le_of_ble_eq_true rfl) rfl rfl) ?_
  refine G_st (x_iload_n dX4_digit_6 rfl) ?_
  refine G_st (x_bipush (48 : Int32) dX4_digit_7 rfl) ?_
  refine G_st (x_bipush (57 : Int32) dX4_digit_9 rfl) ?_
  refine G_bd (fun x4 t5 h6 => ?_)
  refine G_st (x_callN [] (c_X6_within ids Hn x1 (48 : Int32) (57 : Int32)  _ _ _ h6) dX4_digit_11 (List.mem_of_getElem? (i := 8) rfl) kc_X6_within rfl ⟨Nat.le_of_ble_eq_true rfl, Nat.le_of_ble_eq_true rfl⟩ (Nat.le_of_ble_eq_true rfl) rfl) ?_
  have e8 : Tj mX4_digit ids 14 [some (aR (0, 4)), some (aI v1), some (aI x1)] [aI x4] t5 25 [some (aR (0, 4)), some (aI v1), some (aI x1)] [aI (if x4 = 0 then (-1 : Int32) else (x1 - (48 : Int32)))] t5 := by
    refine Tj.dia (fun c7 => ?_) (fun c7 => ?_)
    · refine Tj.tr (x_if_eq_t (tgt := 24) dX4_digit_14 (by decide) c7) ?_
      refine Tj.tr (x_iconst (-1 : Int32) dX4_digit_24 rfl) ?_
      exact Tj.rf
    · refine Tj.tr (x_if_eq_f 24 dX4_digit_14 (by decide) c7) ?_
      refine Tj.tr (x_iload_n dX4_digit_17 rfl) ?_
      refine Tj.tr (x_bipush (48 : Int32) dX4_digit_18 rfl) ?_
      refine Tj.tr (x_isub dX4_digit_20) ?_
      refine Tj.tr (x_goto (tgt := 25) dX4_digit_21 (by decide)) ?_
      exact Tj.rf
  refine G_st e8 ?_
  exact G_ret rfl ⟨dX4_digit_25, _, rfl, rfl⟩ rfl
set_option maxRecDepth 100000 in
set_option maxHeartbeats 4000000 in
theorem c_X4_digit (ids : List (Nat × Nat)) (Hn : Ndp ids) (v1 : Int32) (H0_4 : InR ids 0 4 5) (t0 : Sg) (r : Int32) (t1 : Sg) (hf : f_X4_digit v1 t0 = some (r, t1)) : Mt0 mX4_digit yX4_digit ids [aR (0, 4), aI v1] t0 (some (aI r)) t1 :=
  Mt_of (x := (r, t1)) (g_X4_digit ids Hn v1 H0_4 t0) hf (fun _ _ => trivial) (by decide) rfl Hn (fun _ => rfl) (fun _ => Nat.le_of_ble_eq_true rfl)
theorem dX4_sign_0 : decode cX4_sign 0 = .ok (.aload_n 0, 1) := by decide +kernel
theorem dX4_sign_1 : decode cX4_sign 1 = .ok (.iload_n 1, 1) := by decide +kernel
theorem dX4_sign_2 : decode cX4_sign 2 = .ok (.invokevirtual 27, 3) := by decide +kernel
theorem dX4_sign_5 : decode cX4_sign 5 = .ok (.lookupswitch 41 #[(43, 39), (45, 35), (48, 37)], 35) := by decide +kernel
theorem dX4_sign_40 : decode cX4_sign 40 = .ok (.iconst (-1), 1) := by decide +kernel
theorem dX4_sign_41 : decode cX4_sign 41 = .ok (.ireturn, 1) := by decide +kernel
theorem dX4_sign_42 : decode cX4_sign 42 = .ok (.iconst 0, 1) := by decide +kernel
theorem dX4_sign_43 : decode cX4_sign 43 = .ok (.ireturn, 1) := by decide +kernel
theorem dX4_sign_44 : decode cX4_sign 44 = .ok (.iconst 1, 1) := by decide +kernel
theorem dX4_sign_45 : decode cX4_sign 45 = .ok (.ireturn, 1) := by decide +kernel
theorem dX4_sign_46 : decode cX4_sign 46 = .ok (.bipush (-2), 2) := by decide +kernel
theorem dX4_sign_48 : decode cX4_sign 48 = .ok (.ireturn, 1) := by decide +kernel
set_option maxRecDepth 100000 in
set_option maxHeartbeats 4000000 in
theorem g_X4_sign (ids : List (Nat × Nat)) (Hn : Ndp ids) (v1 : Int32) (H0_4 : InR ids 0 4 5) (t0 : Sg) : Gj kI mX4_sign ids 0 [some (aR (0, 4)), some (aI v1)] [] t0 (f_X4_sign v1 t0) := by
  unfold f_X4_sign
  refine G_st (x_aload_n dX4_sign_0 rfl) ?_
  refine G_st (x_iload_n dX4_sign_1 rfl) ?_
  refine G_bd (fun x1 t2 h3 => ?_)
  refine G_st (x_callV [] (c_X4_letter ids Hn v1 H0_4 _ _ _ h3) dX4_sign_2 tw_342 kc_X4_letter (H0_4 4 (Nat.le_of_ble_eq_true rfl) (Nat.le_of_ble_eq_true rfl)) rfl rfl rfl rfl ⟨Nat.le_of_ble_eq_true rfl, Nat.le_of_ble_eq_true rfl⟩ (Nat.le_of_ble_eq_true rfl) rfl) ?_
  refine G_ite (fun c4 => ?_) (fun c4 => ?_)
  · refine G_st (x_look (off := (39)) (tgt := 44) dX4_sign_5 (by decide) (by rw [c4] <;> rfl) (by decide)) ?_
    refine G_st (x_iconst (1 : Int32) dX4_sign_44 rfl) ?_
    exact G_ret rfl ⟨dX4_sign_45, _, rfl, rfl⟩ rfl
  refine G_ite (fun c5 => ?_) (fun c5 => ?_)
  · refine G_st (x_look (off := (35)) (tgt := 40) dX4_sign_5 (by decide) (by rw [c5] <;> rfl) (by decide)) ?_
    refine G_st (x_iconst (-1 : Int32) dX4_sign_40 rfl) ?_
    exact G_ret rfl ⟨dX4_sign_41, _, rfl, rfl⟩ rfl
  refine G_ite (fun c6 => ?_) (fun c6 => ?_)
  · refine G_st (x_look (off := (37)) (tgt := 42) dX4_sign_5 (by decide) (by rw [c6] <;> rfl) (by decide)) ?_
    refine G_st (x_iconst (0 : Int32) dX4_sign_42 rfl) ?_
    exact G_ret rfl ⟨dX4_sign_43, _, rfl, rfl⟩ rfl
  refine G_st (x_look (off := (41)) (tgt := 46) dX4_sign_5 (by decide) (by refine (lv_osw c4 rfl).trans ?_; refine (lv_osw c5 rfl).trans ?_; refine (lv_osw c6 rfl).trans ?_; rfl) (by decide)) ?_
  refine G_st (x_bipush (-2 : Int32) dX4_sign_46 rfl) ?_
  exact G_ret rfl ⟨dX4_sign_48, _, rfl, rfl⟩ rfl
set_option maxRecDepth 100000 in
set_option maxHeartbeats 4000000 in
theorem c_X4_sign (ids : List (Nat × Nat)) (Hn : Ndp ids) (v1 : Int32) (H0_4 : InR ids 0 4 5) (t0 : Sg) (r : Int32) (t1 : Sg) (hf : f_X4_sign v1 t0 = some (r, t1)) : Mt0 mX4_sign yX4_sign ids [aR (0, 4), aI v1] t0 (some (aI r)) t1 :=
  Mt_of (x := (r, t1)) (g_X4_sign ids Hn v1 H0_4 t0) hf (fun _ _ => trivial) (by decide) rfl Hn (fun _ => rfl) (fun _ => Nat.le_of_ble_eq_true rfl)
theorem dX4_carryOutFront_0 : decode cX4_carryOutFront 0 = .ok (.aload_n 0, 1) := by decide +kernel
theorem dX4_carryOutFront_1 : decode cX4_carryOutFront 1 = .ok (.iload_n 1, 1) := by decide +kernel
theorem dX4_carryOutFront_2 : decode cX4_carryOutFront 2 = .ok (.iconst 1, 1) := by decide +kernel
theorem dX4_carryOutFront_3 : decode cX4_carryOutFront 3 = .ok (.iadd, 1) := by decide +kernel
theorem dX4_carryOutFront_4 : decode cX4_carryOutFront 4 = .ok (.invokevirtual 78, 3) := by decide +kernel
theorem dX4_carryOutFront_7 : decode cX4_carryOutFront 7 = .ok (.istore_n 3, 1) := by decide +kernel
theorem dX4_carryOutFront_8 : decode cX4_carryOutFront 8 = .ok (.aload_n 0, 1) := by decide +kernel
theorem dX4_carryOutFront_9 : decode cX4_carryOutFront 9 = .ok (.iload_n 1, 1) := by decide +kernel
theorem dX4_carryOutFront_10 : decode cX4_carryOutFront 10 = .ok (.iconst 2, 1) := by decide +kernel
theorem dX4_carryOutFront_11 : decode cX4_carryOutFront 11 = .ok (.iadd, 1) := by decide +kernel
theorem dX4_carryOutFront_12 : decode cX4_carryOutFront 12 = .ok (.invokevirtual 78, 3) := by decide +kernel
theorem dX4_carryOutFront_15 : decode cX4_carryOutFront 15 = .ok (.istore 4, 2) := by decide +kernel
theorem dX4_carryOutFront_17 : decode cX4_carryOutFront 17 = .ok (.iload_n 3, 1) := by decide +kernel
theorem dX4_carryOutFront_18 : decode cX4_carryOutFront 18 = .ok (.iconst 2, 1) := by decide +kernel
theorem dX4_carryOutFront_19 : decode cX4_carryOutFront 19 = .ok (.bipush 6, 2) := by decide +kernel
theorem dX4_carryOutFront_21 : decode cX4_carryOutFront 21 = .ok (.invokestatic 31, 3) := by decide +kernel
theorem dX4_carryOutFront_24 : decode cX4_carryOutFront 24 = .ok (.ifCond .eq 17, 3) := by decide +kernel
theorem dX4_carryOutFront_27 : decode cX4_carryOutFront 27 = .ok (.iload 4, 2) := by decide +kernel
theorem dX4_carryOutFront_29 : decode cX4_carryOutFront 29 = .ok (.iconst 1, 1) := by decide +kernel
theorem dX4_carryOutFront_30 : decode cX4_carryOutFront 30 = .ok (.iconst 4, 1) := by decide +kernel
theorem dX4_carryOutFront_31 : decode cX4_carryOutFront 31 = .ok (.invokestatic 31, 3) := by decide +kernel
theorem dX4_carryOutFront_34 : decode cX4_carryOutFront 34 = .ok (.ifCond .eq 7, 3) := by decide +kernel
theorem dX4_carryOutFront_37 : decode cX4_carryOutFront 37 = .ok (.iconst 1, 1) := by decide +kernel
theorem dX4_carryOutFront_38 : decode cX4_carryOutFront 38 = .ok (.goto 4, 3) := by decide +kernel
theorem dX4_carryOutFront_41 : decode cX4_carryOutFront 41 = .ok (.iconst 0, 1) := by decide +kernel
theorem dX4_carryOutFront_42 : decode cX4_carryOutFront 42 = .ok (.istore 5, 2) := by decide +kernel
theorem dX4_carryOutFront_44 : decode cX4_carryOutFront 44 = .ok (.iload 5, 2) := by decide +kernel
theorem dX4_carryOutFront_46 : decode cX4_carryOutFront 46 = .ok (.ifCond .eq 10, 3) := by decide +kernel
theorem dX4_carryOutFront_49 : decode cX4_carryOutFront 49 = .ok (.aload_n 2, 1) := by decide +kernel
theorem dX4_carryOutFront_50 : decode cX4_carryOutFront 50 = .ok (.iload_n 3, 1) := by decide +kernel
theorem dX4_carryOutFront_51 : decode cX4_carryOutFront 51 = .ok (.iload 4, 2) := by decide +kernel
theorem dX4_carryOutFront_53 : decode cX4_carryOutFront 53 = .ok (.invokevirtual 126, 3) := by decide +kernel
theorem dX4_carryOutFront_56 : decode cX4_carryOutFront 56 = .ok (.iload 5, 2) := by decide +kernel
theorem dX4_carryOutFront_58 : decode cX4_carryOutFront 58 = .ok (.ireturn, 1) := by decide +kernel
set_option maxRecDepth 100000 in
set_option maxHeartbeats 4000000 in
theorem g_X4_carryOutFront_42 (ids : List (Nat × Nat)) (Hn : Ndp ids) (h : Nat) (H0_4 : InR ids 0 4 5) (Hh : InR ids h 6 28)  (v3 : Int32) (v4 : Int32) (w0 : Int32) (t0 : Sg) : Gj kI mX4_carryOutFront ids 42 [none, none, some (aR (h, 6)), some (aI v3), some (aI v4), none] [aI w0] t0 (f_X4_carryOutFront_42 h v3 v4 w0 t0) := by
  unfold f_X4_carryOutFront_42
  refine G_st (x_istore [none, none, some (aR (h, 6)), some (aI v3), some (aI v4), some (aI w0)] dX4_carryOutFront_42 (Nat.le_of_ble_eq_true rfl) rfl rfl) ?_
  refine G_st (x_iload dX4_carryOutFront_44 rfl) ?_
  refine G_ite (fun c11 => ?_) (fun c11 => ?_)
  · refine G_st (x_if_eq_t (tgt := 56) dX4_carryOutFront_46 (by decide) c11) ?_
    refine G_st (x_iload dX4_carryOutFront_56 rfl) ?_
    refine G_chk (fun c12 => ?_)
    exact G_ret rfl ⟨dX4_carryOutFront_58, _, rfl, nar_b c12⟩ rfl
  · refine G_st (x_if_eq_f 56 dX4_carryOutFront_46 (by decide) c11) ?_
    refine G_st (x_aload_n dX4_carryOutFront_49 rfl) ?_
    refine G_st (x_iload_n dX4_carryOutFront_50 rfl) ?_
    refine G_st (x_iload dX4_carryOutFront_51 rfl) ?_
    refine G_bd (fun _ t14 h15 => ?_)
    refine G_st (x_callV [] (c_X2_build ids Hn h v3 v4 Hh _ _ _ h15) dX4_carryOutFront_53 tw_471 kc_X2_build (Hh 6 (Nat.le_of_ble_eq_true rfl) (Nat.le_of_ble_eq_true rfl)) rfl rfl rfl rfl ⟨Nat.le_of_ble_eq_true rfl, Nat.le_of_ble_eq_true rfl⟩ (Nat.le_of_ble_eq_true rfl) rfl) ?_
    refine G_st (x_iload dX4_carryOutFront_56 rfl) ?_
    refine G_chk (fun c16 => ?_)
    exact G_ret rfl ⟨dX4_carryOutFront_58, _, rfl, nar_b c16⟩ rfl
set_option maxRecDepth 100000 in
set_option maxHeartbeats 4000000 in
theorem g_X4_carryOutFront_41 (ids : List (Nat × Nat)) (Hn : Ndp ids) (h : Nat) (H0_4 : InR ids 0 4 5) (Hh : InR ids h 6 28)  (v3 : Int32) (v4 : Int32) (t0 : Sg) : Gj kI mX4_carryOutFront ids 41 [none, none, some (aR (h, 6)), some (aI v3), some (aI v4), none] [] t0 (f_X4_carryOutFront_41 h v3 v4 t0) := by
  unfold f_X4_carryOutFront_41
  refine G_st (x_iconst (0 : Int32) dX4_carryOutFront_41 rfl) ?_
  refine G_weak _ ?_ (g_X4_carryOutFront_42 ids Hn h H0_4 Hh v3 v4 (0 : Int32) t0)
  exact (leL_n (leL_n (leL_s (leL_s (leL_s (leL_n (leL_e _)))))))
set_option maxRecDepth 100000 in
set_option maxHeartbeats 4000000 in
theorem g_X4_carryOutFront (ids : List (Nat × Nat)) (Hn : Ndp ids) (v1 : Int32) (h : Nat) (H0_4 : InR ids 0 4 5) (Hh : InR ids h 6 28) (t0 : Sg) : Gj kI mX4_carryOutFront ids 0 [some (aR (0, 4)), some (aI v1), some (aR (h, 6)), none, none, none] [] t0 (f_X4_carryOutFront v1 h t0) := by
  unfold f_X4_carryOutFront
  refine G_st (x_aload_n dX4_carryOutFront_0 rfl) ?_
  refine G_st (x_iload_n dX4_carryOutFront_1 rfl) ?_
  refine G_st (x_iconst (1 : Int32) dX4_carryOutFront_2 rfl) ?_
  refine G_st (x_iadd dX4_carryOutFront_3) ?_
  refine G_bd (fun x1 t2 h3 => ?_)
  refine G_st (x_callV [] (c_X4_digit ids Hn (v1 + (1 : Int32)) H0_4 _ _ _ h3) dX4_carryOutFront_4 tw_413 kc_X4_digit (H0_4 4 (Nat.le_of_ble_eq_true rfl) (Nat.le_of_ble_eq_true rfl)) rfl rfl rfl rfl ⟨Nat.le_of_ble_eq_true rfl, Nat.le_of_ble_eq_true rfl⟩ (Nat.le_of_ble_eq_true rfl) rfl) ?_
  refine G_st (x_istore_n [some (aR (0, 4)), some (aI v1), some (aR (h, 6)), some (aI x1), none, none] dX4_carryOutFront_7 (Nat.le_of_ble_eq_true rfl) rfl rfl) ?_
  refine G_st (x_aload_n dX4_carryOutFront_8 rfl) ?_
  refine G_st (x_iload_n dX4_carryOutFront_9 rfl) ?_
  refine G_st (x_iconst (2 : Int32) dX4_carryOutFront_10 rfl) ?_
  refine G_st (x_iadd dX4_carryOutFront_11) ?_
  refine G_bd (fun x4 t5 h6 => ?_)
  refine G_st (x_callV [] (c_X4_digit ids Hn (v1 + (2 : Int32)) H0_4 _ _ _ h6) dX4_carryOutFront_12 tw_413 kc_X4_digit (H0_4 4 (Nat.le_of_ble_eq_true rfl) (Nat.le_of_ble_eq_true rfl)) rfl rfl rfl rfl ⟨Nat.le_of_ble_eq_true rfl, Nat.le_of_ble_eq_true rfl⟩ (Nat.le_of_ble_eq_true rfl) rfl) ?_
  refine G_st (x_istore [some (aR (0, 4)), some (aI v1), some (aR (h, 6)), some (aI x1), some (aI x4), none] dX4_carryOutFront_15 (Nat.le_of_ble_eq_true rfl) rfl rfl) ?_
  refine G_st (x_iload_n dX4_carryOutFront_17 rfl) ?_
  refine G_st (x_iconst (2 : Int32) dX4_carryOutFront_18 rfl) ?_
  refine G_st (x_bipush (6 : Int32) dX4_carryOutFront_19 rfl) ?_
  refine G_bd (fun x7 t8 h9 => ?_)
  refine G_st (x_callN [] (c_X6_within ids Hn x1 (2 : Int32) (6 : Int32)  _ _ _ h9) dX4_carryOutFront_21 (List.mem_of_getElem? (i := 8) rfl) kc_X6_within rfl ⟨Nat.le_of_ble_eq_true rfl, Nat.le_of_ble_eq_true rfl⟩ (Nat.le_of_ble_eq_true rfl) rfl) ?_
  refine G_ite (fun c10 => ?_) (fun c10 => ?_)
  · refine G_st (x_if_eq_t (tgt := 41) dX4_carryOutFront_24 (by decide) c10) ?_
    refine G_weak _ ?_ (g_X4_carryOutFront_41 ids Hn h H0_4 Hh x1 x4 t8)
    exact (leL_n (leL_n (leL_s (leL_s (leL_s (leL_n (leL_e _)))))))
  · refine G_st (x_if_eq_f 41 dX4_carryOutFront_24 (by decide) c10) ?_
    refine G_st (x_iload dX4_carryOutFront_27 rfl) ?_
    refine G_st (x_iconst (1 : Int32) dX4_carryOutFront_29 rfl) ?_
    refine G_st (x_iconst (4 : Int32) dX4_carryOutFront_30 rfl) ?_
    refine G_bd (fun x17 t18 h19 => ?_)
    refine G_st (x_callN [] (c_X6_within ids Hn x4 (1 : Int32) (4 : Int32)  _ _ _ h19) dX4_carryOutFront_31 (List.mem_of_getElem? (i := 8) rfl) kc_X6_within rfl ⟨Nat.le_of_ble_eq_true rfl, Nat.le_of_ble_eq_true rfl⟩ (Nat.le_of_ble_eq_true rfl) rfl) ?_
    refine G_ite (fun c20 => ?_) (fun c20 => ?_)
    · refine G_st (x_if_eq_t (tgt := 41) dX4_carryOutFront_34 (by decide) c20) ?_
      refine G_weak _ ?_ (g_X4_carryOutFront_41 ids Hn h H0_4 Hh x1 x4 t18)
      exact (leL_n (leL_n (leL_s (leL_s (leL_s (leL_n (leL_e _)))))))
    · refine G_st (x_if_eq_f 41 dX4_carryOutFront_34 (by decide) c20) ?_
      refine G_st (x_iconst (1 : Int32) dX4_carryOutFront_37 rfl) ?_
      refine G_st (x_goto (tgt := 42) dX4_carryOutFront_38 (by decide)) ?_
      refine G_weak _ ?_ (g_X4_carryOutFront_42 ids Hn h H0_4 Hh x1 x4 (1 : Int32) t18)
      exact (leL_n (leL_n (leL_s (leL_s (leL_s (leL_n (leL_e _)))))))
set_option maxRecDepth 100000 in
set_option maxHeartbeats 4000000 in
theorem c_X4_carryOutFront (ids : List (Nat × Nat)) (Hn : Ndp ids) (v1 : Int32) (h : Nat) (H0_4 : InR ids 0 4 5) (Hh : InR ids h 6 28) (t0 : Sg) (r : Int32) (t1 : Sg) (hf : f_X4_carryOutFront v1 h t0 = some (r, t1)) : Mt0 mX4_carryOutFront yX4_carryOutFront ids [aR (0, 4), aI v1, aR (h, 6)] t0 (some (aI r)) t1 :=
  Mt_of (x := (r, t1)) (g_X4_carryOutFront ids Hn v1 h H0_4 Hh t0) hf (fun _ _ => trivial) (by decide) rfl Hn (fun _ => rfl) (fun _ => Nat.le_of_ble_eq_true rfl)
theorem dX6_isHour_0 : decode cX6_isHour 0 = .ok (.iload_n 0, 1) := by decide +kernel
theorem dX6_isHour_1 : decode cX6_isHour 1 = .ok (.iconst 0, 1) := by decide +kernel
theorem dX6_isHour_2 : decode cX6_isHour 2 = .ok (.bipush 7, 2) := by decide +kernel
theorem dX6_isHour_4 : decode cX6_isHour 4 = .ok (.invokestatic 77, 3) := by decide +kernel
theorem dX6_isHour_7 : decode cX6_isHour 7 = .ok (.ireturn, 1) := by decide +kernel
set_option maxRecDepth 100000 in
set_option maxHeartbeats 4000000 in
theorem g_X6_isHour (ids : List (Nat × Nat)) (Hn : Ndp ids) (v0 : Int32)  (t0 : Sg) : Gj kI mX6_isHour ids 0 [some (aI v0)] [] t0 (f_X6_isHour v0 t0) := by
  unfold f_X6_isHour
  refine G_st (x_iload_n dX6_isHour_0 rfl) ?_
  refine G_st (x_iconst (0 : Int32) dX6_isHour_1 rfl) ?_
  refine G_st (x_bipush (7 : Int32) dX6_isHour_2 rfl) ?_
  refine G_bd (fun x1 t2 h3 => ?_)
  refine G_st (x_callS [] (c_X6_within ids Hn v0 (0 : Int32) (7 : Int32)  _ _ _ h3) dX6_isHour_4 tw_431 kc_X6_within rfl ⟨Nat.le_of_ble_eq_true rfl, Nat.le_of_ble_eq_true rfl⟩ (Nat.le_of_ble_eq_true rfl) rfl) ?_
  refine G_chk (fun c4 => ?_)
  exact G_ret rfl ⟨dX6_isHour_7, _, rfl, nar_b c4⟩ rfl
set_option maxRecDepth 100000 in
set_option maxHeartbeats 4000000 in
theorem c_X6_isHour (ids : List (Nat × Nat)) (Hn : Ndp ids) (v0 : Int32)  (t0 : Sg) (r : Int32) (t1 : Sg) (hf : f_X6_isHour v0 t0 = some (r, t1)) : Mt0 mX6_isHour yX6_isHour ids [aI v0] t0 (some (aI r)) t1 :=
  Mt_of (x := (r, t1)) (g_X6_isHour ids Hn v0  t0) hf (fun _ _ => trivial) (by decide) rfl Hn (fun _ => rfl) (fun _ => Nat.le_of_ble_eq_true rfl)
theorem dX4_carryOutHabit_0 : decode cX4_carryOutHabit 0 = .ok (.aload_n 0, 1) := by decide +kernel
theorem dX4_carryOutHabit_1 : decode cX4_carryOutHabit 1 = .ok (.iload_n 1, 1) := by decide +kernel
theorem dX4_carryOutHabit_2 : decode cX4_carryOutHabit 2 = .ok (.iconst 2, 1) := by decide +kernel
theorem dX4_carryOutHabit_3 : decode cX4_carryOutHabit 3 = .ok (.iadd, 1) := by decide +kernel
theorem dX4_carryOutHabit_4 : decode cX4_carryOutHabit 4 = .ok (.invokevirtual 78, 3) := by decide +kernel
theorem dX4_carryOutHabit_7 : decode cX4_carryOutHabit 7 = .ok (.ifCond .lt 7, 3) := by decide +kernel
theorem dX4_carryOutHabit_10 : decode cX4_carryOutHabit 10 = .ok (.iconst 1, 1) := by decide +kernel
theorem dX4_carryOutHabit_11 : decode cX4_carryOutHabit 11 = .ok (.goto 4, 3) := by decide +kernel
theorem dX4_carryOutHabit_14 : decode cX4_carryOutHabit 14 = .ok (.iconst 0, 1) := by decide +kernel
theorem dX4_carryOutHabit_15 : decode cX4_carryOutHabit 15 = .ok (.istore_n 3, 1) := by decide +kernel
theorem dX4_carryOutHabit_16 : decode cX4_carryOutHabit 16 = .ok (.iload_n 3, 1) := by decide +kernel
theorem dX4_carryOutHabit_17 : decode cX4_carryOutHabit 17 = .ok (.ifCond .eq 24, 3) := by decide +kernel
theorem dX4_carryOutHabit_20 : decode cX4_carryOutHabit 20 = .ok (.bipush 10, 2) := by decide +kernel
theorem dX4_carryOutHabit_22 : decode cX4_carryOutHabit 22 = .ok (.aload_n 0, 1) := by decide +kernel
theorem dX4_carryOutHabit_23 : decode cX4_carryOutHabit 23 = .ok (.iload_n 1, 1) := by decide +kernel
theorem dX4_carryOutHabit_24 : decode cX4_carryOutHabit 24 = .ok (.iconst 1, 1) := by decide +kernel
theorem dX4_carryOutHabit_25 : decode cX4_carryOutHabit 25 = .ok (.iadd, 1) := by decide +kernel
theorem dX4_carryOutHabit_26 : decode cX4_carryOutHabit 26 = .ok (.invokevirtual 78, 3) := by decide +kernel
theorem dX4_carryOutHabit_29 : decode cX4_carryOutHabit 29 = .ok (.imul, 1) := by decide +kernel
theorem dX4_carryOutHabit_30 : decode cX4_carryOutHabit 30 = .ok (.aload_n 0, 1) := by decide +kernel
theorem dX4_carryOutHabit_31 : decode cX4_carryOutHabit 31 = .ok (.iload_n 1, 1) := by decide +kernel
theorem dX4_carryOutHabit_32 : decode cX4_carryOutHabit 32 = .ok (.iconst 2, 1) := by decide +kernel
theorem dX4_carryOutHabit_33 : decode cX4_carryOutHabit 33 = .ok (.iadd, 1) := by decide +kernel
theorem dX4_carryOutHabit_34 : decode cX4_carryOutHabit 34 = .ok (.invokevirtual 78, 3) := by decide +kernel
theorem dX4_carryOutHabit_37 : decode cX4_carryOutHabit 37 = .ok (.iadd, 1) := by decide +kernel
theorem dX4_carryOutHabit_38 : decode cX4_carryOutHabit 38 = .ok (.goto 10, 3) := by decide +kernel
theorem dX4_carryOutHabit_41 : decode cX4_carryOutHabit 41 = .ok (.aload_n 0, 1) := by decide +kernel
theorem dX4_carryOutHabit_42 : decode cX4_carryOutHabit 42 = .ok (.iload_n 1, 1) := by decide +kernel
theorem dX4_carryOutHabit_43 : decode cX4_carryOutHabit 43 = .ok (.iconst 1, 1) := by decide +kernel
theorem dX4_carryOutHabit_44 : decode cX4_carryOutHabit 44 = .ok (.iadd, 1) := by decide +kernel
theorem dX4_carryOutHabit_45 : decode cX4_carryOutHabit 45 = .ok (.invokevirtual 78, 3) := by decide +kernel
theorem dX4_carryOutHabit_48 : decode cX4_carryOutHabit 48 = .ok (.istore 4, 2) := by decide +kernel
theorem dX4_carryOutHabit_50 : decode cX4_carryOutHabit 50 = .ok (.iload_n 3, 1) := by decide +kernel
theorem dX4_carryOutHabit_51 : decode cX4_carryOutHabit 51 = .ok (.ifCond .eq 9, 3) := by decide +kernel
theorem dX4_carryOutHabit_54 : decode cX4_carryOutHabit 54 = .ok (.iload_n 1, 1) := by decide +kernel
theorem dX4_carryOutHabit_55 : decode cX4_carryOutHabit 55 = .ok (.iconst 4, 1) := by decide +kernel
theorem dX4_carryOutHabit_56 : decode cX4_carryOutHabit 56 = .ok (.iadd, 1) := by decide +kernel
theorem dX4_carryOutHabit_57 : decode cX4_carryOutHabit 57 = .ok (.goto 6, 3) := by decide +kernel
theorem dX4_carryOutHabit_60 : decode cX4_carryOutHabit 60 = .ok (.iload_n 1, 1) := by decide +kernel
theorem dX4_carryOutHabit_61 : decode cX4_carryOutHabit 61 = .ok (.iconst 3, 1) := by decide +kernel
theorem dX4_carryOutHabit_62 : decode cX4_carryOutHabit 62 = .ok (.iadd, 1) := by decide +kernel
theorem dX4_carryOutHabit_63 : decode cX4_carryOutHabit 63 = .ok (.istore 5, 2) := by decide +kernel
theorem dX4_carryOutHabit_65 : decode cX4_carryOutHabit 65 = .ok (.aload_n 0, 1) := by decide +kernel
theorem dX4_carryOutHabit_66 : decode cX4_carryOutHabit 66 = .ok (.iload 5, 2) := by decide +kernel
theorem dX4_carryOutHabit_68 : decode cX4_carryOutHabit 68 = .ok (.invokevirtual 78, 3) := by decide +kernel
theorem dX4_carryOutHabit_71 : decode cX4_carryOutHabit 71 = .ok (.istore 6, 2) := by decide +kernel
theorem dX4_carryOutHabit_73 : decode cX4_carryOutHabit 73 = .ok (.aload_n 0, 1) := by decide +kernel
theorem dX4_carryOutHabit_74 : decode cX4_carryOutHabit 74 = .ok (.iload 5, 2) := by decide +kernel
theorem dX4_carryOutHabit_76 : decode cX4_carryOutHabit 76 = .ok (.iconst 2, 1) := by decide +kernel
theorem dX4_carryOutHabit_77 : decode cX4_carryOutHabit 77 = .ok (.iadd, 1) := by decide +kernel
theorem dX4_carryOutHabit_78 : decode cX4_carryOutHabit 78 = .ok (.invokevirtual 78, 3) := by decide +kernel
theorem dX4_carryOutHabit_81 : decode cX4_carryOutHabit 81 = .ok (.istore 7, 2) := by decide +kernel
theorem dX4_carryOutHabit_83 : decode cX4_carryOutHabit 83 = .ok (.iload 4, 2) := by decide +kernel
theorem dX4_carryOutHabit_85 : decode cX4_carryOutHabit 85 = .ok (.aload_n 2, 1) := by decide +kernel
theorem dX4_carryOutHabit_86 : decode cX4_carryOutHabit 86 = .ok (.getfield 91, 3) := by decide +kernel
theorem dX4_carryOutHabit_89 : decode cX4_carryOutHabit 89 = .ok (.invokevirtual 129, 3) := by decide +kernel
theorem dX4_carryOutHabit_92 : decode cX4_carryOutHabit 92 = .ok (.if_icmp .ge 33, 3) := by decide +kernel
theorem dX4_carryOutHabit_95 : decode cX4_carryOutHabit 95 = .ok (.iload 6, 2) := by decide +kernel
theorem dX4_carryOutHabit_97 : decode cX4_carryOutHabit 97 = .ok (.iconst 5, 1) := by decide +kernel
theorem dX4_carryOutHabit_98 : decode cX4_carryOutHabit 98 = .ok (.if_icmp .gt 27, 3) := by decide +kernel
theorem dX4_carryOutHabit_101 : decode cX4_carryOutHabit 101 = .ok (.iload 7, 2) := by decide +kernel
theorem dX4_carryOutHabit_103 : decode cX4_carryOutHabit 103 = .ok (.invokestatic 87, 3) := by decide +kernel
theorem dX4_carryOutHabit_106 : decode cX4_carryOutHabit 106 = .ok (.ifCond .eq 19, 3) := by decide +kernel
theorem dX4_carryOutHabit_109 : decode cX4_carryOutHabit 109 = .ok (.aload_n 2, 1) := by decide +kernel
theorem dX4_carryOutHabit_110 : decode cX4_carryOutHabit 110 = .ok (.getfield 132, 3) := by decide +kernel
theorem dX4_carryOutHabit_113 : decode cX4_carryOutHabit 113 = .ok (.getfield 136, 3) := by decide +kernel
theorem dX4_carryOutHabit_116 : decode cX4_carryOutHabit 116 = .ok (.bipush 8, 2) := by decide +kernel
theorem dX4_carryOutHabit_118 : decode cX4_carryOutHabit 118 = .ok (.if_icmp .ge 7, 3) := by decide +kernel
theorem dX4_carryOutHabit_121 : decode cX4_carryOutHabit 121 = .ok (.iconst 1, 1) := by decide +kernel
theorem dX4_carryOutHabit_122 : decode cX4_carryOutHabit 122 = .ok (.goto 4, 3) := by decide +kernel
theorem dX4_carryOutHabit_125 : decode cX4_carryOutHabit 125 = .ok (.iconst 0, 1) := by decide +kernel
theorem dX4_carryOutHabit_126 : decode cX4_carryOutHabit 126 = .ok (.istore 8, 2) := by decide +kernel
theorem dX4_carryOutHabit_128 : decode cX4_carryOutHabit 128 = .ok (.iload 8, 2) := by decide +kernel
theorem dX4_carryOutHabit_130 : decode cX4_carryOutHabit 130 = .ok (.ifCond .eq 24, 3) := by decide +kernel
theorem dX4_carryOutHabit_133 : decode cX4_carryOutHabit 133 = .ok (.aload_n 2, 1) := by decide +kernel
theorem dX4_carryOutHabit_134 : decode cX4_carryOutHabit 134 = .ok (.getfield 132, 3) := by decide +kernel
theorem dX4_carryOutHabit_137 : decode cX4_carryOutHabit 137 = .ok (.iload 4, 2) := by decide +kernel
theorem dX4_carryOutHabit_139 : decode cX4_carryOutHabit 139 = .ok (.iload 6, 2) := by decide +kernel
theorem dX4_carryOutHabit_141 : decode cX4_carryOutHabit 141 = .ok (.aload_n 0, 1) := by decide +kernel
theorem dX4_carryOutHabit_142 : decode cX4_carryOutHabit 142 = .ok (.iload 5, 2) := by decide +kernel
theorem dX4_carryOutHabit_144 : decode cX4_carryOutHabit 144 = .ok (.iconst 1, 1) := by decide +kernel
theorem dX4_carryOutHabit_145 : decode cX4_carryOutHabit 145 = .ok (.iadd, 1) := by decide +kernel
theorem dX4_carryOutHabit_146 : decode cX4_carryOutHabit 146 = .ok (.invokevirtual 78, 3) := by decide +kernel
theorem dX4_carryOutHabit_149 : decode cX4_carryOutHabit 149 = .ok (.iload 7, 2) := by decide +kernel
theorem dX4_carryOutHabit_151 : decode cX4_carryOutHabit 151 = .ok (.invokevirtual 139, 3) := by decide +kernel
theorem dX4_carryOutHabit_154 : decode cX4_carryOutHabit 154 = .ok (.iload 8, 2) := by decide +kernel
theorem dX4_carryOutHabit_156 : decode cX4_carryOutHabit 156 = .ok (.ireturn, 1) := by decide +kernel
set_option maxRecDepth 100000 in
set_option maxHeartbeats 4000000 in
theorem g_X4_carryOutHabit_126 (ids : List (Nat × Nat)) (Hn : Ndp ids) (h : Nat) (H0_4 : InR ids 0 4 5) (Hh : InR ids h 6 28)  (v4 : Int32) (v5 : Int32) (v6 : Int32) (v7 : Int32) (w0 : Int32) (t0 : Sg) : Gj kI mX4_carryOutHabit ids 126 [some (aR (0, 4)), none, some (aR (h, 6)), none, some (aI v4), some (aI v5), some (aI v6), some (aI v7), none] [aI w0] t0 (f_X4_carryOutHabit_126 h v4 v5 v6 v7 w0 t0) := by
  unfold f_X4_carryOutHabit_126
  refine G_st (x_istore [some (aR (0, 4)), none, some (aR (h, 6)), none, some (aI v4), some (aI v5), some (aI v6), some (aI v7), some (aI w0)] dX4_carryOutHabit_126 (Nat.le_of_ble_eq_true rfl) rfl rfl) ?_
  refine G_st (x_iload dX4_carryOutHabit_128 rfl) ?_
  refine G_ite (fun c24 => ?_) (fun c24 => ?_)
  · refine G_st (x_if_eq_t (tgt := 154) dX4_carryOutHabit_130 (by decide) c24) ?_
    refine G_st (x_iload dX4_carryOutHabit_154 rfl) ?_
    refine G_chk (fun c25 => ?_)
    exact G_ret rfl ⟨dX4_carryOutHabit_156, _, rfl, nar_b c25⟩ rfl
  · refine G_st (x_if_eq_f 154 dX4_carryOutHabit_130 (by decide) c24) ?_
    refine G_st (x_aload_n dX4_carryOutHabit_133 rfl) ?_
    refine G_st (x_get (k := 1) (aR (h, 15)) dX4_carryOutHabit_134 (Hh 6 (Nat.le_of_ble_eq_true rfl) (Nat.le_of_ble_eq_true rfl)) rfl rfl rfl rfl inTX2 (Nat.le_of_ble_eq_true rfl) tw_254 (fun ad => rfl)) ?_
    refine G_st (x_iload dX4_carryOutHabit_137 rfl) ?_
    refine G_st (x_iload dX4_carryOutHabit_139 rfl) ?_
    refine G_st (x_aload_n dX4_carryOutHabit_141 rfl) ?_
    refine G_st (x_iload dX4_carryOutHabit_142 rfl) ?_
    refine G_st (x_iconst (1 : Int32) dX4_carryOutHabit_144 rfl) ?_
    refine G_st (x_iadd dX4_carryOutHabit_145) ?_
    refine G_bd (fun x26 t27 h28 => ?_)
    refine G_st (x_callV [aI v6, aI v4, aR (h, 15)] (c_X4_digit ids Hn (v5 + (1 : Int32)) H0_4 _ _ _ h28) dX4_carryOutHabit_146 tw_413 kc_X4_digit (H0_4 4 (Nat.le_of_ble_eq_true rfl) (Nat.le_of_ble_eq_true rfl)) rfl rfl rfl rfl ⟨Nat.le_of_ble_eq_true rfl, Nat.le_of_ble_eq_true rfl⟩ (Nat.le_of_ble_eq_true rfl) rfl) ?_
    refine G_st (x_iload dX4_carryOutHabit_149 rfl) ?_
    refine G_bd (fun _ t30 h31 => ?_)
    refine G_st (x_callV [] (c_X1_add ids Hn h v4 v6 x26 v7 (Hh.sub (Nat.le_of_ble_eq_true rfl) (Nat.le_of_ble_eq_true rfl)) _ _ _ h31) dX4_carryOutHabit_151 tw_493 kc_X1_add (Hh 15 (Nat.le_of_ble_eq_true rfl) (Nat.le_of_ble_eq_true rfl)) rfl rfl rfl rfl ⟨Nat.le_of_ble_eq_true rfl, Nat.le_of_ble_eq_true rfl⟩ (Nat.le_of_ble_eq_true rfl) rfl) ?_
    refine G_st (x_iload dX4_carryOutHabit_154 rfl) ?_
    refine G_chk (fun c32 => ?_)
    exact G_ret rfl ⟨dX4_carryOutHabit_156, _, rfl, nar_b c32⟩ rfl
set_option maxRecDepth 100000 in
set_option maxHeartbeats 4000000 in
theorem g_X4_carryOutHabit_125 (ids : List (Nat × Nat)) (Hn : Ndp ids) (h : Nat) (H0_4 : InR ids 0 4 5) (Hh : InR ids h 6 28)  (v4 : Int32) (v5 : Int32) (v6 : Int32) (v7 : Int32) (t0 : Sg) : Gj kI mX4_carryOutHabit ids 125 [some (aR (0, 4)), none, some (aR (h, 6)), none, some (aI v4), some (aI v5), some (aI v6), some (aI v7), none] [] t0 (f_X4_carryOutHabit_125 h v4 v5 v6 v7 t0) := by
  unfold f_X4_carryOutHabit_125
  refine G_st (x_iconst (0 : Int32) dX4_carryOutHabit_125 rfl) ?_
  refine G_weak _ ?_ (g_X4_carryOutHabit_126 ids Hn h H0_4 Hh v4 v5 v6 v7 (0 : Int32) t0)
  exact (leL_s (leL_n (leL_s (leL_n (leL_s (leL_s (leL_s (leL_s (leL_n (leL_e _))))))))))
set_option maxRecDepth 100000 in
set_option maxHeartbeats 4000000 in
theorem g_X4_carryOutHabit_48 (ids : List (Nat × Nat)) (Hn : Ndp ids) (h : Nat) (H0_4 : InR ids 0 4 5) (Hh : InR ids h 6 28)  (v1 : Int32) (v3 : Int32) (w0 : Int32) (t0 : Sg) : Gj kI mX4_carryOutHabit ids 48 [some (aR (0, 4)), some (aI v1), some (aR (h, 6)), some (aI v3), none, none, none, none, none] [aI w0] t0 (f_X4_carryOutHabit_48 h v1 v3 w0 t0) := by
  unfold f_X4_carryOutHabit_48
  refine G_st (x_istore [some (aR (0, 4)), some (aI v1), some (aR (h, 6)), some (aI v3), some (aI w0), none, none, none, none] dX4_carryOutHabit_48 (Nat.le_of_ble_eq_true rfl) rfl rfl) ?_
  refine G_st (x_iload_n dX4_carryOutHabit_50 rfl) ?_
  have e12 : Tj mX4_carryOutHabit ids 51 [some (aR (0, 4)), some (aI v1), some (aR (h, 6)), some (aI v3), some (aI w0), none, none, none, none] [aI v3] t0 63 [some (aR (0, 4)), some (aI v1), some (aR (h, 6)), some (aI v3), some (aI w0), none, none, none, none] [aI (if v3 = 0 then (v1 + (3 : Int32)) else (v1 + (4 : Int32)))] t0 := by
    refine Tj.dia (fun c11 => ?_) (fun c11 => ?_)
    · refine Tj.tr (x_if_eq_t (tgt := 60) dX4_carryOutHabit_51 (by decide) c11) ?_
      refine Tj.tr (x_iload_n dX4_carryOutHabit_60 rfl) ?_
      refine Tj.tr (x_iconst (3 : Int32) dX4_carryOutHabit_61 rfl) ?_
      refine Tj.tr (x_iadd dX4_carryOutHabit_62) ?_
      exact Tj.rf
    · refine Tj.tr (x_if_eq_f 60 dX4_carryOutHabit_51 (by decide) c11) ?_
      refine Tj.tr (x_iload_n dX4_carryOutHabit_54 rfl) ?_
      refine Tj.tr (x_iconst (4 : Int32) dX4_carryOutHabit_55 rfl) ?_
      refine Tj.tr (x_iadd dX4_carryOutHabit_56) ?_
      refine Tj.tr (x_goto (tgt := 63) dX4_carryOutHabit_57 (by decide)) ?_
      exact Tj.rf
  refine G_st e12 ?_
  refine G_bvI (fun x13 => ?_)
  refine G_st (x_istore [some (aR (0, 4)), some (aI v1), some (aR (h, 6)), some (aI v3), some (aI w0), some (aI x13), none, none, none] dX4_carryOutHabit_63 (Nat.le_of_ble_eq_true rfl) rfl rfl) ?_
  refine G_st (x_aload_n dX4_carryOutHabit_65 rfl) ?_
  refine G_st (x_iload dX4_carryOutHabit_66 rfl) ?_
  refine G_bd (fun x14 t15 h16 => ?_)
  refine G_st (x_callV [] (c_X4_digit ids Hn x13 H0_4 _ _ _ h16) dX4_carryOutHabit_68 tw_413 kc_X4_digit (H0_4 4 (Nat.le_of_ble_eq_true rfl) (Nat.le_of_ble_eq_true rfl)) rfl rfl rfl rfl ⟨Nat.le_of_ble_eq_true rfl, Nat.le_of_ble_eq_true rfl⟩ (Nat.le_of_ble_eq_true rfl) rfl) ?_
  refine G_st (x_istore [some (aR (0, 4)), some (aI v1), some (aR (h, 6)), some (aI v3), some (aI w0), some (aI x13), some (aI x14), none, none] dX4_carryOutHabit_71 (Nat.le_of_ble_eq_true rfl) rfl rfl) ?_
  refine G_st (x_aload_n dX4_carryOutHabit_73 rfl) ?_
  refine G_st (x_iload dX4_carryOutHabit_74 rfl) ?_
  refine G_st (x_iconst (2 : Int32) dX4_carryOutHabit_76 rfl) ?_
  refine G_st (x_iadd dX4_carryOutHabit_77) ?_
  refine G_bd (fun x17 t18 h19 => ?_)
  refine G_st (x_callV [] (c_X4_digit ids Hn (x13 + (2 : Int32)) H0_4 _ _ _ h19) dX4_carryOutHabit_78 tw_413 kc_X4_digit (H0_4 4 (Nat.le_of_ble_eq_true rfl) (Nat.le_of_ble_eq_true rfl)) rfl rfl rfl rfl ⟨Nat.le_of_ble_eq_true rfl, Nat.le_of_ble_eq_true rfl⟩ (Nat.le_of_ble_eq_true rfl) rfl) ?_
  refine G_st (x_istore [some (aR (0, 4)), some (aI v1), some (aR (h, 6)), some (aI v3), some (aI w0), some (aI x13), some (aI x14), some (aI x17), none] dX4_carryOutHabit_81 (Nat.le_of_ble_eq_true rfl) rfl rfl) ?_
  refine G_st (x_iload dX4_carryOutHabit_83 rfl) ?_
  refine G_st (x_aload_n dX4_carryOutHabit_85 rfl) ?_
  refine G_st (x_get (k := 0) (aR (h, 7)) dX4_carryOutHabit_86 (Hh 6 (Nat.le_of_ble_eq_true rfl) (Nat.le_of_ble_eq_true rfl)) rfl rfl rfl rfl inTX2 (Nat.le_of_ble_eq_true rfl) tw_251 (fun ad => rfl)) ?_
  refine G_bd (fun x20 t21 h22 => ?_)
  refine G_st (x_callV [aI w0] (c_X0_tenants ids Hn h (Hh.sub (Nat.le_of_ble_eq_true rfl) (Nat.le_of_ble_eq_true rfl)) _ _ _ h22) dX4_carryOutHabit_89 tw_489 kc_X0_tenants (Hh 7 (Nat.le_of_ble_eq_true rfl) (Nat.le_of_ble_eq_true rfl)) rfl rfl rfl rfl ⟨Nat.le_of_ble_eq_true rfl, Nat.le_of_ble_eq_true rfl⟩ (Nat.le_of_ble_eq_true rfl) rfl) ?_
  refine G_ite (fun c23 => ?_) (fun c23 => ?_)
  · refine G_st (x_icmp_ge_t (tgt := 125) dX4_carryOutHabit_92 (by decide) c23) ?_
    refine G_weak _ ?_ (g_X4_carryOutHabit_125 ids Hn h H0_4 Hh w0 x13 x14 x17 t21)
    exact (leL_s (leL_n (leL_s (leL_n (leL_s (leL_s (leL_s (leL_s (leL_n (leL_e _))))))))))
  · refine G_st (x_icmp_ge_f 125 dX4_carryOutHabit_92 (by decide) c23) ?_
    refine G_st (x_iload dX4_carryOutHabit_95 rfl) ?_
    refine G_st (x_iconst (5 : Int32) dX4_carryOutHabit_97 rfl) ?_
    refine G_ite (fun c33 => ?_) (fun c33 => ?_)
    · refine G_st (x_icmp_gt_t (tgt := 125) dX4_carryOutHabit_98 (by decide) c33) ?_
      refine G_weak _ ?_ (g_X4_carryOutHabit_125 ids Hn h H0_4 Hh w0 x13 x14 x17 t21)
      exact (leL_s (leL_n (leL_s (leL_n (leL_s (leL_s (leL_s (leL_s (leL_n (leL_e _))))))))))
    · refine G_st (x_icmp_gt_f 125 dX4_carryOutHabit_98 (by decide) c33) ?_
      refine G_st (x_iload dX4_carryOutHabit_101 rfl) ?_
      refine G_bd (fun x34 t35 h36 => ?_)
      refine G_st (x_callN [] (c_X6_isHour ids Hn x17  _ _ _ h36) dX4_carryOutHabit_103 (List.mem_of_getElem? (i := 9) rfl) kc_X6_isHour rfl ⟨Nat.le_of_ble_eq_true rfl, Nat.le_of_ble_eq_true rfl⟩ (Nat.le_of_ble_eq_true rfl) rfl) ?_
      refine G_ite (fun c37 => ?_) (fun c37 => ?_)
      · refine G_st (x_if_eq_t (tgt := 125) dX4_carryOutHabit_106 (by decide) c37) ?_
        refine G_weak _ ?_ (g_X4_carryOutHabit_125 ids Hn h H0_4 Hh w0 x13 x14 x17 t35)
        exact (leL_s (leL_n (leL_s (leL_n (leL_s (leL_s (leL_s (leL_s (leL_n (leL_e _))))))))))
      · refine G_st (x_if_eq_f 125 dX4_carryOutHabit_106 (by decide) c37) ?_
        refine G_st (x_aload_n dX4_carryOutHabit_109 rfl) ?_
        refine G_st (x_get (k := 1) (aR (h, 15)) dX4_carryOutHabit_110 (Hh 6 (Nat.le_of_ble_eq_true rfl) (Nat.le_of_ble_eq_true rfl)) rfl rfl rfl rfl inTX2 (Nat.le_of_ble_eq_true rfl) tw_254 (fun ad => rfl)) ?_
        refine G_st (x_get (k := 0) (aI (t35 (h, 15) 0)) dX4_carryOutHabit_113 (Hh 15 (Nat.le_of_ble_eq_true rfl) (Nat.le_of_ble_eq_true rfl)) rfl rfl rfl rfl inTX1 (Nat.le_of_ble_eq_true rfl) tw_172 (fun ad => rfl)) ?_
        refine G_st (x_bipush (8 : Int32) dX4_carryOutHabit_116 rfl) ?_
        refine G_ite (fun c38 => ?_) (fun c38 => ?_)
        · refine G_st (x_icmp_ge_t (tgt := 125) dX4_carryOutHabit_118 (by decide) c38) ?_
          refine G_weak _ ?_ (g_X4_carryOutHabit_125 ids Hn h H0_4 Hh w0 x13 x14 x17 t35)
          exact (leL_s (leL_n (leL_s (leL_n (leL_s (leL_s (leL_s (leL_s (leL_n (leL_e _))))))))))
        · refine G_st (x_icmp_ge_f 125 dX4_carryOutHabit_118 (by decide) c38) ?_
          refine G_st (x_iconst (1 : Int32) dX4_carryOutHabit_121 rfl) ?_
          refine G_st (x_goto (tgt := 126) dX4_carryOutHabit_122 (by decide)) ?_
          refine G_weak _ ?_ (g_X4_carryOutHabit_126 ids Hn h H0_4 Hh w0 x13 x14 x17 (1 : Int32) t35)
          exact (leL_s (leL_n (leL_s (leL_n (leL_s (leL_s (leL_s (leL_s (leL_n (leL_e _))))))))))
set_option maxRecDepth 100000 in
set_option maxHeartbeats 4000000 in
theorem g_X4_carryOutHabit (ids : List (Nat × Nat)) (Hn : Ndp ids) (v1 : Int32) (h : Nat) (H0_4 : InR ids 0 4 5) (Hh : InR ids h 6 28) (t0 : Sg) : Gj kI mX4_carryOutHabit ids 0 [some (aR (0, 4)), some (aI v1), some (aR (h, 6)), none, none, none, none, none, none] [] t0 (f_X4_carryOutHabit v1 h t0) := by
  unfold f_X4_carryOutHabit
  refine G_st (x_aload_n dX4_carryOutHabit_0 rfl) ?_
  refine G_st (x_iload_n dX4_carryOutHabit_1 rfl) ?_
  refine G_st (x_iconst (2 : Int32) dX4_carryOutHabit_2 rfl) ?_
  refine G_st (x_iadd dX4_carryOutHabit_3) ?_
  refine G_bd (fun x1 t2 h3 => ?_)
  refine G_st (x_callV [] (c_X4_digit ids Hn (v1 + (2 : Int32)) H0_4 _ _ _ h3) dX4_carryOutHabit_4 tw_413 kc_X4_digit (H0_4 4 (Nat.le_of_ble_eq_true rfl) (Nat.le_of_ble_eq_true rfl)) rfl rfl rfl rfl ⟨Nat.le_of_ble_eq_true rfl, Nat.le_of_ble_eq_true rfl⟩ (Nat.le_of_ble_eq_true rfl) rfl) ?_
  have e5 : Tj mX4_carryOutHabit ids 7 [some (aR (0, 4)), some (aI v1), some (aR (h, 6)), none, none, none, none, none, none] [aI x1] t2 15 [some (aR (0, 4)), some (aI v1), some (aR (h, 6)), none, none, none, none, none, none] [aI (if x1 < 0 then (0 : Int32) else (1 : Int32))] t2 := by
    refine Tj.dia (fun c4 => ?_) (fun c4 => ?_)
    · refine Tj.tr (x_if_lt_t (tgt := 14) dX4_carryOutHabit_7 (by decide) c4) ?_
      refine Tj.tr (x_iconst (0 : Int32) dX4_carryOutHabit_14 rfl) ?_
      exact Tj.rf
    · refine Tj.tr (x_if_lt_f 14 dX4_carryOutHabit_7 (by decide) c4) ?_
      refine Tj.tr (x_iconst (1 : Int32) dX4_carryOutHabit_10 rfl) ?_
      refine Tj.tr (x_goto (tgt := 15) dX4_carryOutHabit_11 (by decide)) ?_
      exact Tj.rf
  refine G_st e5 ?_
  refine G_bvI (fun x6 => ?_)
  refine G_st (x_istore_n [some (aR (0, 4)), some (aI v1), some (aR (h, 6)), some (aI x6), none, none, none, none, none] dX4_carryOutHabit_15 (Nat.le_of_ble_eq_true rfl) rfl rfl) ?_
  refine G_st (x_iload_n dX4_carryOutHabit_16 rfl) ?_
  refine G_ite (fun c7 => ?_) (fun c7 => ?_)
  · refine G_st (x_if_eq_t (tgt := 41) dX4_carryOutHabit_17 (by decide) c7) ?_
    refine G_st (x_aload_n dX4_carryOutHabit_41 rfl) ?_
    refine G_st (x_iload_n dX4_carryOutHabit_42 rfl) ?_
    refine G_st (x_iconst (1 : Int32) dX4_carryOutHabit_43 rfl) ?_
    refine G_st (x_iadd dX4_carryOutHabit_44) ?_
    refine G_bd (fun x8 t9 h10 => ?_)
    refine G_st (x_callV [] (c_X4_digit ids Hn (v1 + (1 : Int32)) H0_4 _ _ _ h10) dX4_carryOutHabit_45 tw_413 kc_X4_digit (H0_4 4 (Nat.le_of_ble_eq_true rfl) (Nat.le_of_ble_eq_true rfl)) rfl rfl rfl rfl ⟨Nat.le_of_ble_eq_true rfl, Nat.le_of_ble_eq_true rfl⟩ (Nat.le_of_ble_eq_true rfl) rfl) ?_
    refine G_weak _ ?_ (g_X4_carryOutHabit_48 ids Hn h H0_4 Hh v1 x6 x8 t9)
    exact (leL_s (leL_s (leL_s (leL_s (leL_n (leL_n (leL_n (leL_n (leL_n (leL_e _))))))))))
  · refine G_st (x_if_eq_f 41 dX4_carryOutHabit_17 (by decide) c7) ?_
    refine G_st (x_bipush (10 : Int32) dX4_carryOutHabit_20 rfl) ?_
    refine G_st (x_aload_n dX4_carryOutHabit_22 rfl) ?_
    refine G_st (x_iload_n dX4_carryOutHabit_23 rfl) ?_
    refine G_st (x_iconst (1 : Int32) dX4_carryOutHabit_24 rfl) ?_
    refine G_st (x_iadd dX4_carryOutHabit_25) ?_
    refine G_bd (fun x39 t40 h41 => ?_)
    refine G_st (x_callV [aI (10 : Int32)] (c_X4_digit ids Hn (v1 + (1 : Int32)) H0_4 _ _ _ h41) dX4_carryOutHabit_26 tw_413 kc_X4_digit (H0_4 4 (Nat.le_of_ble_eq_true rfl) (Nat.le_of_ble_eq_true rfl)) rfl rfl rfl rfl ⟨Nat.le_of_ble_eq_true rfl, Nat.le_of_ble_eq_true rfl⟩ (Nat.le_of_ble_eq_true rfl) rfl) ?_
    refine G_st (x_imul dX4_carryOutHabit_29) ?_
    refine G_st (x_aload_n dX4_carryOutHabit_30 rfl) ?_
    refine G_st (x_iload_n dX4_carryOutHabit_31 rfl) ?_
    refine G_st (x_iconst (2 : Int32) dX4_carryOutHabit_32 rfl) ?_
    refine G_st (x_iadd dX4_carryOutHabit_33) ?_
    refine G_bd (fun x42 t43 h44 => ?_)
    refine G_st (x_callV [aI ((10 : Int32) * x39)] (c_X4_digit ids Hn (v1 + (2 : Int32)) H0_4 _ _ _ h44) dX4_carryOutHabit_34 tw_413 kc_X4_digit (H0_4 4 (Nat.le_of_ble_eq_true rfl) (Nat.le_of_ble_eq_true rfl)) rfl rfl rfl rfl ⟨Nat.le_of_ble_eq_true rfl, Nat.le_of_ble_eq_true rfl⟩ (Nat.le_of_ble_eq_true rfl) rfl) ?_
    refine G_st (x_iadd dX4_carryOutHabit_37) ?_
    refine G_st (x_goto (tgt := 48) dX4_carryOutHabit_38 (by decide)) ?_
    refine G_weak _ ?_ (g_X4_carryOutHabit_48 ids Hn h H0_4 Hh v1 x6 (((10 : Int32) * x39) + x42) t43)
    exact (leL_s (leL_s (leL_s (leL_s (leL_n (leL_n (leL_n (leL_n (leL_n (leL_e _))))))))))
set_option maxRecDepth 100000 in
set_option maxHeartbeats 4000000 in
theorem c_X4_carryOutHabit (ids : List (Nat × Nat)) (Hn : Ndp ids) (v1 : Int32) (h : Nat) (H0_4 : InR ids 0 4 5) (Hh : InR ids h 6 28) (t0 : Sg) (r : Int32) (t1 : Sg) (hf : f_X4_carryOutHabit v1 h t0 = some (r, t1)) : Mt0 mX4_carryOutHabit yX4_carryOutHabit ids [aR (0, 4), aI v1, aR (h, 6)] t0 (some (aI r)) t1 :=
  Mt_of (x := (r, t1)) (g_X4_carryOutHabit ids Hn v1 h H0_4 Hh t0) hf (fun _ _ => trivial) (by decide) rfl Hn (fun _ => rfl) (fun _ => Nat.le_of_ble_eq_true rfl)
theorem dX4_hoursFrom_0 : decode cX4_hoursFrom 0 = .ok (.iconst 0, 1) := by decide +kernel
theorem dX4_hoursFrom_1 : decode cX4_hoursFrom 1 = .ok (.istore_n 2, 1) := by decide +kernel
theorem dX4_hoursFrom_2 : decode cX4_hoursFrom 2 = .ok (.iload_n 2, 1) := by decide +kernel
theorem dX4_hoursFrom_3 : decode cX4_hoursFrom 3 = .ok (.bipush 8, 2) := by decide +kernel
theorem dX4_hoursFrom_5 : decode cX4_hoursFrom 5 = .ok (.if_icmp .ge 24, 3) := by decide +kernel
theorem dX4_hoursFrom_8 : decode cX4_hoursFrom 8 = .ok (.aload_n 0, 1) := by decide +kernel
theorem dX4_hoursFrom_9 : decode cX4_hoursFrom 9 = .ok (.iload_n 1, 1) := by decide +kernel
theorem dX4_hoursFrom_10 : decode cX4_hoursFrom 10 = .ok (.iload_n 2, 1) := by decide +kernel
theorem dX4_hoursFrom_11 : decode cX4_hoursFrom 11 = .ok (.iadd, 1) := by decide +kernel
theorem dX4_hoursFrom_12 : decode cX4_hoursFrom 12 = .ok (.invokevirtual 78, 3) := by decide +kernel
theorem dX4_hoursFrom_15 : decode cX4_hoursFrom 15 = .ok (.invokestatic 87, 3) := by decide +kernel
theorem dX4_hoursFrom_18 : decode cX4_hoursFrom 18 = .ok (.ifCond .ne 5, 3) := by decide +kernel
theorem dX4_hoursFrom_21 : decode cX4_hoursFrom 21 = .ok (.iload_n 2, 1) := by decide +kernel
theorem dX4_hoursFrom_22 : decode cX4_hoursFrom 22 = .ok (.ireturn, 1) := by decide +kernel
theorem dX4_hoursFrom_23 : decode cX4_hoursFrom 23 = .ok (.iinc 2 1, 3) := by decide +kernel
theorem dX4_hoursFrom_26 : decode cX4_hoursFrom 26 = .ok (.goto (-24), 3) := by decide +kernel
theorem dX4_hoursFrom_29 : decode cX4_hoursFrom 29 = .ok (.bipush 8, 2) := by decide +kernel
theorem dX4_hoursFrom_31 : decode cX4_hoursFrom 31 = .ok (.ireturn, 1) := by decide +kernel
set_option maxRecDepth 100000 in
set_option maxHeartbeats 4000000 in
theorem g_X4_hoursFrom_2 (ids : List (Nat × Nat)) (Hn : Ndp ids)  (H0_4 : InR ids 0 4 5)  : ∀ (n : Nat) (v1 : Int32) (v2 : Int32) (t0 : Sg), Gj kI mX4_hoursFrom ids 2 [some (aR (0, 4)), some (aI v1), some (aI v2)] [] t0 (f_X4_hoursFrom_2 n v1 v2 t0) := by
  intro n
  induction n with
  | zero => intro v1 v2 t0; exact G_none
  | succ n ih =>
    intro v1 v2 t0
    rw [f_X4_hoursFrom_2]
    refine G_st (x_iload_n dX4_hoursFrom_2 rfl) ?_
    refine G_st (x_bipush (8 : Int32) dX4_hoursFrom_3 rfl) ?_
    refine G_ite (fun c1 => ?_) (fun c1 => ?_)
    · refine G_st (x_icmp_ge_t (tgt := 29) dX4_hoursFrom_5 (by decide) c1) ?_
      refine G_st (x_bipush (8 : Int32) dX4_hoursFrom_29 rfl) ?_
      exact G_ret rfl ⟨dX4_hoursFrom_31, _, rfl, rfl⟩ rfl
    · refine G_st (x_icmp_ge_f 29 dX4_hoursFrom_5 (by decide) c1) ?_
      refine G_st (x_aload_n dX4_hoursFrom_8 rfl) ?_
      refine G_st (x_iload_n dX4_hoursFrom_9 rfl) ?_
      refine G_st (x_iload_n dX4_hoursFrom_10 rfl) ?_
      refine G_st (x_iadd dX4_hoursFrom_11) ?_
      refine G_bd (fun x2 t3 h4 => ?_)
      refine G_st (x_callV [] (c_X4_digit ids Hn (v1 + v2) H0_4 _ _ _ h4) dX4_hoursFrom_12 tw_413 kc_X4_digit (H0_4 4 (Nat.le_of_ble_eq_true rfl) (Nat.le_of_ble_eq_true rfl)) rfl rfl rfl rfl ⟨Nat.le_of_ble_eq_true rfl, Nat.le_of_ble_eq_true rfl⟩ (Nat.le_of_ble_eq_true rfl) rfl) ?_
      refine G_bd (fun x5 t6 h7 => ?_)
      refine G_st (x_callN [] (c_X6_isHour ids Hn x2  _ _ _ h7) dX4_hoursFrom_15 (List.mem_of_getElem? (i := 9) rfl) kc_X6_isHour rfl ⟨Nat.le_of_ble_eq_true rfl, Nat.le_of_ble_eq_true rfl⟩ (Nat.le_of_ble_eq_true rfl) rfl) ?_
      refine G_ite (fun c8 => ?_) (fun c8 => ?_)
      · refine G_st (x_if_ne_f 23 dX4_hoursFrom_18 (by decide) c8) ?_
        refine G_st (x_iload_n dX4_hoursFrom_21 rfl) ?_
        exact G_ret rfl ⟨dX4_hoursFrom_22, _, rfl, rfl⟩ rfl
      · refine G_st (x_if_ne_t (tgt := 23) dX4_hoursFrom_18 (by decide) c8) ?_
        refine G_st (x_iinc (v2 + (1 : Int32)) [some (aR (0, 4)), some (aI v1), some (aI (v2 + (1 : Int32)))] dX4_hoursFrom_23 (Nat.le_of_ble_eq_true rfl) rfl rfl rfl rfl) ?_
        refine G_st (x_goto (tgt := 2) dX4_hoursFrom_26 (by decide)) ?_
        refine G_weak _ ?_ ((ih) v1 (v2 + (1 : Int32)) t6)
        exact (leL_s (leL_s (leL_s (leL_e _))))
set_option maxRecDepth 100000 in
set_option maxHeartbeats 4000000 in
theorem g_X4_hoursFrom (ids : List (Nat × Nat)) (Hn : Ndp ids) (v1 : Int32) (H0_4 : InR ids 0 4 5) (t0 : Sg) : Gj kI mX4_hoursFrom ids 0 [some (aR (0, 4)), some (aI v1), none] [] t0 (f_X4_hoursFrom v1 t0) := by
  unfold f_X4_hoursFrom
  refine G_st (x_iconst (0 : Int32) dX4_hoursFrom_0 rfl) ?_
  refine G_st (x_istore_n [some (aR (0, 4)), some (aI v1), some (aI (0 : Int32))] dX4_hoursFrom_1 (Nat.le_of_ble_eq_true rfl) rfl rfl) ?_
  refine G_weak _ ?_ (g_X4_hoursFrom_2 ids Hn H0_4 fuel v1 (0 : Int32) t0)
  exact (leL_s (leL_s (leL_s (leL_e _))))
set_option maxRecDepth 100000 in
set_option maxHeartbeats 4000000 in
theorem c_X4_hoursFrom (ids : List (Nat × Nat)) (Hn : Ndp ids) (v1 : Int32) (H0_4 : InR ids 0 4 5) (t0 : Sg) (r : Int32) (t1 : Sg) (hf : f_X4_hoursFrom v1 t0 = some (r, t1)) : Mt0 mX4_hoursFrom yX4_hoursFrom ids [aR (0, 4), aI v1] t0 (some (aI r)) t1 :=
  Mt_of (x := (r, t1)) (g_X4_hoursFrom ids Hn v1 H0_4 t0) hf (fun _ _ => trivial) (by decide) rfl Hn (fun _ => rfl) (fun _ => Nat.le_of_ble_eq_true rfl)
theorem dX4_hourBits_0 : decode cX4_hourBits 0 = .ok (.iconst 0, 1) := by decide +kernel
theorem dX4_hourBits_1 : decode cX4_hourBits 1 = .ok (.istore_n 2, 1) := by decide +kernel
theorem dX4_hourBits_2 : decode cX4_hourBits 2 = .ok (.aload_n 0, 1) := by decide +kernel
theorem dX4_hourBits_3 : decode cX4_hourBits 3 = .ok (.iload_n 1, 1) := by decide +kernel
theorem dX4_hourBits_4 : decode cX4_hourBits 4 = .ok (.invokevirtual 84, 3) := by decide +kernel
theorem dX4_hourBits_7 : decode cX4_hourBits 7 = .ok (.istore_n 3, 1) := by decide +kernel
theorem dX4_hourBits_8 : decode cX4_hourBits 8 = .ok (.iconst 0, 1) := by decide +kernel
theorem dX4_hourBits_9 : decode cX4_hourBits 9 = .ok (.istore 4, 2) := by decide +kernel
theorem dX4_hourBits_11 : decode cX4_hourBits 11 = .ok (.iload 4, 2) := by decide +kernel
theorem dX4_hourBits_13 : decode cX4_hourBits 13 = .ok (.iload_n 3, 1) := by decide +kernel
theorem dX4_hourBits_14 : decode cX4_hourBits 14 = .ok (.if_icmp .ge 22, 3) := by decide +kernel
theorem dX4_hourBits_17 : decode cX4_hourBits 17 = .ok (.iload_n 2, 1) := by decide +kernel
theorem dX4_hourBits_18 : decode cX4_hourBits 18 = .ok (.iconst 1, 1) := by decide +kernel
theorem dX4_hourBits_19 : decode cX4_hourBits 19 = .ok (.aload_n 0, 1) := by decide +kernel
theorem dX4_hourBits_20 : decode cX4_hourBits 20 = .ok (.iload_n 1, 1) := by decide +kernel
theorem dX4_hourBits_21 : decode cX4_hourBits 21 = .ok (.iload 4, 2) := by decide +kernel
theorem dX4_hourBits_23 : decode cX4_hourBits 23 = .ok (.iadd, 1) := by decide +kernel
theorem dX4_hourBits_24 : decode cX4_hourBits 24 = .ok (.invokevirtual 78, 3) := by decide +kernel
theorem dX4_hourBits_27 : decode cX4_hourBits 27 = .ok (.ishl, 1) := by decide +kernel
theorem dX4_hourBits_28 : decode cX4_hourBits 28 = .ok (.ior, 1) := by decide +kernel
theorem dX4_hourBits_29 : decode cX4_hourBits 29 = .ok (.istore_n 2, 1) := by decide +kernel
theorem dX4_hourBits_30 : decode cX4_hourBits 30 = .ok (.iinc 4 1, 3) := by decide +kernel
theorem dX4_hourBits_33 : decode cX4_hourBits 33 = .ok (.goto (-22), 3) := by decide +kernel
theorem dX4_hourBits_36 : decode cX4_hourBits 36 = .ok (.iload_n 2, 1) := by decide +kernel
theorem dX4_hourBits_37 : decode cX4_hourBits 37 = .ok (.ireturn, 1) := by decide +kernel
set_option maxRecDepth 100000 in
set_option maxHeartbeats 4000000 in
theorem g_X4_hourBits_11 (ids : List (Nat × Nat)) (Hn : Ndp ids)  (H0_4 : InR ids 0 4 5)  : ∀ (n : Nat) (v1 : Int32) (v2 : Int32) (v3 : Int32) (v4 : Int32) (t0 : Sg), Gj kI mX4_hourBits ids 11 [some (aR (0, 4)), some (aI v1), some (aI v2), some (aI v3), some (aI v4)] [] t0 (f_X4_hourBits_11 n v1 v2 v3 v4 t0) := by
  intro n
  induction n with
  | zero => intro v1 v2 v3 v4 t0; exact G_none
  | succ n ih =>
    intro v1 v2 v3 v4 t0
    rw [f_X4_hourBits_11]
    refine G_st (x_iload dX4_hourBits_11 rfl) ?_
    refine G_st (x_iload_n dX4_hourBits_13 rfl) ?_
    refine G_ite (fun c4 => ?_) (fun c4 => ?_)
    · refine G_st (x_icmp_ge_t (tgt := 36) dX4_hourBits_14 (by decide) c4) ?_
      refine G_st (x_iload_n dX4_hourBits_36 rfl) ?_
      exact G_ret rfl ⟨dX4_hourBits_37, _, rfl, rfl⟩ rfl
    · refine G_st (x_icmp_ge_f 36 dX4_hourBits_14 (by decide) c4) ?_
      refine G_st (x_iload_n dX4_hourBits_17 rfl) ?_
      refine G_st (x_iconst (1 : Int32) dX4_hourBits_18 rfl) ?_
      refine G_st (x_aload_n dX4_hourBits_19 rfl) ?_
      refine G_st (x_iload_n dX4_hourBits_20 rfl) ?_
      refine G_st (x_iload dX4_hourBits_21 rfl) ?_
      refine G_st (x_iadd dX4_hourBits_23) ?_
      refine G_bd (fun x5 t6 h7 => ?_)
      refine G_st (x_callV [aI (1 : Int32), aI v2] (c_X4_digit ids Hn (v1 + v4) H0_4 _ _ _ h7) dX4_hourBits_24 tw_413 kc_X4_digit (H0_4 4 (Nat.le_of_ble_eq_true rfl) (Nat.le_of_ble_eq_true rfl)) rfl rfl rfl rfl ⟨Nat.le_of_ble_eq_true rfl, Nat.le_of_ble_eq_true rfl⟩ (Nat.le_of_ble_eq_true rfl) rfl) ?_
      refine G_st (x_ishl dX4_hourBits_27) ?_
      refine G_st (x_ior dX4_hourBits_28) ?_
      refine G_bvI (fun x8 => ?_)
      refine G_st (x_istore_n [some (aR (0, 4)), some (aI v1), some (aI x8), some (aI v3), some (aI v4)] dX4_hourBits_29 (Nat.le_of_ble_eq_true rfl) rfl rfl) ?_
      refine G_st (x_iinc (v4 + (1 : Int32)) [some (aR (0, 4)), some (aI v1), some (aI x8), some (aI v3), some (aI (v4 + (1 : Int32)))] dX4_hourBits_30 (Nat.le_of_ble_eq_true rfl) rfl rfl rfl rfl) ?_
      refine G_st (x_goto (tgt := 11) dX4_hourBits_33 (by decide)) ?_
      refine G_weak _ ?_ ((ih) v1 x8 v3 (v4 + (1 : Int32)) t6)
      exact (leL_s (leL_s (leL_s (leL_s (leL_s (leL_e _))))))
set_option maxRecDepth 100000 in
set_option maxHeartbeats 4000000 in
theorem g_X4_hourBits (ids : List (Nat × Nat)) (Hn : Ndp ids) (v1 : Int32) (H0_4 : InR ids 0 4 5) (t0 : Sg) : Gj kI mX4_hourBits ids 0 [some (aR (0, 4)), some (aI v1), none, none, none] [] t0 (f_X4_hourBits v1 t0) := by
  unfold f_X4_hourBits
  refine G_st (x_iconst (0 : Int32) dX4_hourBits_0 rfl) ?_
  refine G_st (x_istore_n [some (aR (0, 4)), some (aI v1), some (aI (0 : Int32)), none, none] dX4_hourBits_1 (Nat.le_of_ble_eq_true rfl) rfl rfl) ?_
  refine G_st (x_aload_n dX4_hourBits_2 rfl) ?_
  refine G_st (x_iload_n dX4_hourBits_3 rfl) ?_
  refine G_bd (fun x1 t2 h3 => ?_)
  refine G_st (x_callV [] (c_X4_hoursFrom ids Hn v1 H0_4 _ _ _ h3) dX4_hourBits_4 tw_424 kc_X4_hoursFrom (H0_4 4 (Nat.le_of_ble_eq_true rfl) (Nat.le_of_ble_eq_true rfl)) rfl rfl rfl rfl ⟨Nat.le_of_ble_eq_true rfl, Nat.le_of_ble_eq_true rfl⟩ (Nat.le_of_ble_eq_true rfl) rfl) ?_
  refine G_st (x_istore_n [some (aR (0, 4)), some (aI v1), some (aI (0 : Int32)), some (aI x1), none] dX4_hourBits_7 (Nat.le_of_ble_eq_true rfl) rfl rfl) ?_
  refine G_st (x_iconst (0 : Int32) dX4_hourBits_8 rfl) ?_
  refine G_st (x_istore [some (aR (0, 4)), some (aI v1), some (aI (0 : Int32)), some (aI x1), some (aI (0 : Int32))] dX4_hourBits_9 (Nat.le_of_ble_eq_true rfl) rfl rfl) ?_
  refine G_weak _ ?_ (g_X4_hourBits_11 ids Hn H0_4 fuel v1 (0 : Int32) x1 (0 : Int32) t2)
  exact (leL_s (leL_s (leL_s (leL_s (leL_s (leL_e _))))))
set_option maxRecDepth 100000 in
set_option maxHeartbeats 4000000 in
theorem c_X4_hourBits (ids : List (Nat × Nat)) (Hn : Ndp ids) (v1 : Int32) (H0_4 : InR ids 0 4 5) (t0 : Sg) (r : Int32) (t1 : Sg) (hf : f_X4_hourBits v1 t0 = some (r, t1)) : Mt0 mX4_hourBits yX4_hourBits ids [aR (0, 4), aI v1] t0 (some (aI r)) t1 :=
  Mt_of (x := (r, t1)) (g_X4_hourBits ids Hn v1 H0_4 t0) hf (fun _ _ => trivial) (by decide) rfl Hn (fun _ => rfl) (fun _ => Nat.le_of_ble_eq_true rfl)
theorem dX4_carryOut_0 : decode cX4_carryOut 0 = .ok (.aload_n 2, 1) := by decide +kernel
theorem dX4_carryOut_1 : decode cX4_carryOut 1 = .ok (.getfield 91, 3) := by decide +kernel
theorem dX4_carryOut_4 : decode cX4_carryOut 4 = .ok (.astore_n 3, 1) := by decide +kernel
theorem dX4_carryOut_5 : decode cX4_carryOut 5 = .ok (.aload_n 0, 1) := by decide +kernel
theorem dX4_carryOut_6 : decode cX4_carryOut 6 = .ok (.iload_n 1, 1) := by decide +kernel
theorem dX4_carryOut_7 : decode cX4_carryOut 7 = .ok (.invokevirtual 27, 3) := by decide +kernel
theorem dX4_carryOut_10 : decode cX4_carryOut 10 = .ok (.bipush 98, 2) := by decide +kernel
theorem dX4_carryOut_12 : decode cX4_carryOut 12 = .ok (.if_icmp .ne 16, 3) := by decide +kernel
theorem dX4_carryOut_15 : decode cX4_carryOut 15 = .ok (.aload_n 3, 1) := by decide +kernel
theorem dX4_carryOut_16 : decode cX4_carryOut 16 = .ok (.aload_n 0, 1) := by decide +kernel
theorem dX4_carryOut_17 : decode cX4_carryOut 17 = .ok (.iload_n 1, 1) := by decide +kernel
theorem dX4_carryOut_18 : decode cX4_carryOut 18 = .ok (.iconst 1, 1) := by decide +kernel
theorem dX4_carryOut_19 : decode cX4_carryOut 19 = .ok (.iadd, 1) := by decide +kernel
theorem dX4_carryOut_20 : decode cX4_carryOut 20 = .ok (.invokevirtual 81, 3) := by decide +kernel
theorem dX4_carryOut_23 : decode cX4_carryOut 23 = .ok (.putfield 97, 3) := by decide +kernel
theorem dX4_carryOut_26 : decode cX4_carryOut 26 = .ok (.iconst 1, 1) := by decide +kernel
theorem dX4_carryOut_27 : decode cX4_carryOut 27 = .ok (.ireturn, 1) := by decide +kernel
theorem dX4_carryOut_28 : decode cX4_carryOut 28 = .ok (.aload_n 0, 1) := by decide +kernel
theorem dX4_carryOut_29 : decode cX4_carryOut 29 = .ok (.iload_n 1, 1) := by decide +kernel
theorem dX4_carryOut_30 : decode cX4_carryOut 30 = .ok (.invokevirtual 27, 3) := by decide +kernel
theorem dX4_carryOut_33 : decode cX4_carryOut 33 = .ok (.bipush 102, 2) := by decide +kernel
theorem dX4_carryOut_35 : decode cX4_carryOut 35 = .ok (.if_icmp .ne 10, 3) := by decide +kernel
theorem dX4_carryOut_38 : decode cX4_carryOut 38 = .ok (.aload_n 0, 1) := by decide +kernel
theorem dX4_carryOut_39 : decode cX4_carryOut 39 = .ok (.iload_n 1, 1) := by decide +kernel
theorem dX4_carryOut_40 : decode cX4_carryOut 40 = .ok (.aload_n 2, 1) := by decide +kernel
theorem dX4_carryOut_41 : decode cX4_carryOut 41 = .ok (.invokevirtual 102, 3) := by decide +kernel
theorem dX4_carryOut_44 : decode cX4_carryOut 44 = .ok (.ireturn, 1) := by decide +kernel
theorem dX4_carryOut_45 : decode cX4_carryOut 45 = .ok (.aload_n 0, 1) := by decide +kernel
theorem dX4_carryOut_46 : decode cX4_carryOut 46 = .ok (.iload_n 1, 1) := by decide +kernel
theorem dX4_carryOut_47 : decode cX4_carryOut 47 = .ok (.invokevirtual 27, 3) := by decide +kernel
theorem dX4_carryOut_50 : decode cX4_carryOut 50 = .ok (.bipush 104, 2) := by decide +kernel
theorem dX4_carryOut_52 : decode cX4_carryOut 52 = .ok (.if_icmp .ne 10, 3) := by decide +kernel
theorem dX4_carryOut_55 : decode cX4_carryOut 55 = .ok (.aload_n 0, 1) := by decide +kernel
theorem dX4_carryOut_56 : decode cX4_carryOut 56 = .ok (.iload_n 1, 1) := by decide +kernel
theorem dX4_carryOut_57 : decode cX4_carryOut 57 = .ok (.aload_n 2, 1) := by decide +kernel
theorem dX4_carryOut_58 : decode cX4_carryOut 58 = .ok (.invokevirtual 105, 3) := by decide +kernel
theorem dX4_carryOut_61 : decode cX4_carryOut 61 = .ok (.ireturn, 1) := by decide +kernel
theorem dX4_carryOut_62 : decode cX4_carryOut 62 = .ok (.aload_n 3, 1) := by decide +kernel
theorem dX4_carryOut_63 : decode cX4_carryOut 63 = .ok (.aload_n 0, 1) := by decide +kernel
theorem dX4_carryOut_64 : decode cX4_carryOut 64 = .ok (.iload_n 1, 1) := by decide +kernel
theorem dX4_carryOut_65 : decode cX4_carryOut 65 = .ok (.iconst 1, 1) := by decide +kernel
theorem dX4_carryOut_66 : decode cX4_carryOut 66 = .ok (.iadd, 1) := by decide +kernel
theorem dX4_carryOut_67 : decode cX4_carryOut 67 = .ok (.invokevirtual 78, 3) := by decide +kernel
theorem dX4_carryOut_70 : decode cX4_carryOut 70 = .ok (.aload_n 0, 1) := by decide +kernel
theorem dX4_carryOut_71 : decode cX4_carryOut 71 = .ok (.iload_n 1, 1) := by decide +kernel
theorem dX4_carryOut_72 : decode cX4_carryOut 72 = .ok (.iconst 2, 1) := by decide +kernel
theorem dX4_carryOut_73 : decode cX4_carryOut 73 = .ok (.iadd, 1) := by decide +kernel
theorem dX4_carryOut_74 : decode cX4_carryOut 74 = .ok (.invokevirtual 78, 3) := by decide +kernel
theorem dX4_carryOut_77 : decode cX4_carryOut 77 = .ok (.invokevirtual 108, 3) := by decide +kernel
theorem dX4_carryOut_80 : decode cX4_carryOut 80 = .ok (.istore 4, 2) := by decide +kernel
theorem dX4_carryOut_82 : decode cX4_carryOut 82 = .ok (.iload 4, 2) := by decide +kernel
theorem dX4_carryOut_84 : decode cX4_carryOut 84 = .ok (.ifCond .ge 5, 3) := by decide +kernel
theorem dX4_carryOut_87 : decode cX4_carryOut 87 = .ok (.iconst 0, 1) := by decide +kernel
theorem dX4_carryOut_88 : decode cX4_carryOut 88 = .ok (.ireturn, 1) := by decide +kernel
theorem dX4_carryOut_89 : decode cX4_carryOut 89 = .ok (.aload_n 0, 1) := by decide +kernel
theorem dX4_carryOut_90 : decode cX4_carryOut 90 = .ok (.iload_n 1, 1) := by decide +kernel
theorem dX4_carryOut_91 : decode cX4_carryOut 91 = .ok (.invokevirtual 27, 3) := by decide +kernel
theorem dX4_carryOut_94 : decode cX4_carryOut 94 = .ok (.lookupswitch 61 #[(97, 42), (115, 26)], 26) := by decide +kernel
theorem dX4_carryOut_120 : decode cX4_carryOut 120 = .ok (.aload_n 3, 1) := by decide +kernel
theorem dX4_carryOut_121 : decode cX4_carryOut 121 = .ok (.iload 4, 2) := by decide +kernel
theorem dX4_carryOut_123 : decode cX4_carryOut 123 = .ok (.aload_n 0, 1) := by decide +kernel
theorem dX4_carryOut_124 : decode cX4_carryOut 124 = .ok (.iload_n 1, 1) := by decide +kernel
theorem dX4_carryOut_125 : decode cX4_carryOut 125 = .ok (.iconst 3, 1) := by decide +kernel
theorem dX4_carryOut_126 : decode cX4_carryOut 126 = .ok (.iadd, 1) := by decide +kernel
theorem dX4_carryOut_127 : decode cX4_carryOut 127 = .ok (.invokevirtual 78, 3) := by decide +kernel
theorem dX4_carryOut_130 : decode cX4_carryOut 130 = .ok (.invokevirtual 112, 3) := by decide +kernel
theorem dX4_carryOut_133 : decode cX4_carryOut 133 = .ok (.goto 42, 3) := by decide +kernel
theorem dX4_carryOut_136 : decode cX4_carryOut 136 = .ok (.aload_n 3, 1) := by decide +kernel
theorem dX4_carryOut_137 : decode cX4_carryOut 137 = .ok (.getfield 116, 3) := by decide +kernel
theorem dX4_carryOut_140 : decode cX4_carryOut 140 = .ok (.iload 4, 2) := by decide +kernel
theorem dX4_carryOut_142 : decode cX4_carryOut 142 = .ok (.aload_n 0, 1) := by decide +kernel
theorem dX4_carryOut_143 : decode cX4_carryOut 143 = .ok (.iload_n 1, 1) := by decide +kernel
theorem dX4_carryOut_144 : decode cX4_carryOut 144 = .ok (.iconst 3, 1) := by decide +kernel
theorem dX4_carryOut_145 : decode cX4_carryOut 145 = .ok (.iadd, 1) := by decide +kernel
theorem dX4_carryOut_146 : decode cX4_carryOut 146 = .ok (.invokevirtual 81, 3) := by decide +kernel
theorem dX4_carryOut_149 : decode cX4_carryOut 149 = .ok (.invokestatic 19, 3) := by decide +kernel
theorem dX4_carryOut_152 : decode cX4_carryOut 152 = .ok (.goto 23, 3) := by decide +kernel
theorem dX4_carryOut_155 : decode cX4_carryOut 155 = .ok (.aload_n 3, 1) := by decide +kernel
theorem dX4_carryOut_156 : decode cX4_carryOut 156 = .ok (.iload 4, 2) := by decide +kernel
theorem dX4_carryOut_158 : decode cX4_carryOut 158 = .ok (.aload_n 0, 1) := by decide +kernel
theorem dX4_carryOut_159 : decode cX4_carryOut 159 = .ok (.iload_n 1, 1) := by decide +kernel
theorem dX4_carryOut_160 : decode cX4_carryOut 160 = .ok (.iconst 3, 1) := by decide +kernel
theorem dX4_carryOut_161 : decode cX4_carryOut 161 = .ok (.iadd, 1) := by decide +kernel
theorem dX4_carryOut_162 : decode cX4_carryOut 162 = .ok (.invokevirtual 78, 3) := by decide +kernel
theorem dX4_carryOut_165 : decode cX4_carryOut 165 = .ok (.aload_n 0, 1) := by decide +kernel
theorem dX4_carryOut_166 : decode cX4_carryOut 166 = .ok (.iload_n 1, 1) := by decide +kernel
theorem dX4_carryOut_167 : decode cX4_carryOut 167 = .ok (.iconst 4, 1) := by decide +kernel
theorem dX4_carryOut_168 : decode cX4_carryOut 168 = .ok (.iadd, 1) := by decide +kernel
theorem dX4_carryOut_169 : decode cX4_carryOut 169 = .ok (.invokevirtual 119, 3) := by decide +kernel
theorem dX4_carryOut_172 : decode cX4_carryOut 172 = .ok (.invokevirtual 122, 3) := by decide +kernel
theorem dX4_carryOut_175 : decode cX4_carryOut 175 = .ok (.iconst 1, 1) := by decide +kernel
theorem dX4_carryOut_176 : decode cX4_carryOut 176 = .ok (.ireturn, 1) := by decide +kernel
set_option maxRecDepth 100000 in
set_option maxHeartbeats 4000000 in
theorem g_X4_carryOut (ids : List (Nat × Nat)) (Hn : Ndp ids) (v1 : Int32) (h : Nat) (H0_4 : InR ids 0 4 5) (Hh : InR ids h 6 28) (t0 : Sg) : Gj kI mX4_carryOut ids 0 [some (aR (0, 4)), some (aI v1), some (aR (h, 6)), none, none] [] t0 (f_X4_carryOut v1 h t0) := by
  unfold f_X4_carryOut
  refine G_st (x_aload_n dX4_carryOut_0 rfl) ?_
  refine G_st (x_get (k := 0) (aR (h, 7)) dX4_carryOut_1 (Hh 6 (Nat.le_of_ble_eq_true rfl) (Nat.le_of_ble_eq_true rfl)) rfl rfl rfl rfl inTX2 (Nat.le_of_ble_eq_true rfl) tw_251 (fun ad => rfl)) ?_
  refine G_st (x_astore_n [some (aR (0, 4)), some (aI v1), some (aR (h, 6)), some (aR (h, 7)), none] dX4_carryOut_4 (Nat.le_of_ble_eq_true rfl) rfl rfl) ?_
  refine G_st (x_aload_n dX4_carryOut_5 rfl) ?_
  refine G_st (x_iload_n dX4_carryOut_6 rfl) ?_
  refine G_bd (fun x1 t2 h3 => ?_)
  refine G_st (x_callV [] (c_X4_letter ids Hn v1 H0_4 _ _ _ h3) dX4_carryOut_7 tw_342 kc_X4_letter (H0_4 4 (Nat.le_of_ble_eq_true rfl) (Nat.le_of_ble_eq_true rfl)) rfl rfl rfl rfl ⟨Nat.le_of_ble_eq_true rfl, Nat.le_of_ble_eq_true rfl⟩ (Nat.le_of_ble_eq_true rfl) rfl) ?_
  refine G_st (x_bipush (98 : Int32) dX4_carryOut_10 rfl) ?_
  refine G_ite (fun c4 => ?_) (fun c4 => ?_)
  · refine G_st (x_icmp_ne_f 28 dX4_carryOut_12 (by decide) c4) ?_
    refine G_st (x_aload_n dX4_carryOut_15 rfl) ?_
    refine G_st (x_aload_n dX4_carryOut_16 rfl) ?_
    refine G_st (x_iload_n dX4_carryOut_17 rfl) ?_
    refine G_st (x_iconst (1 : Int32) dX4_carryOut_18 rfl) ?_
    refine G_st (x_iadd dX4_carryOut_19) ?_
    refine G_bd (fun x5 t6 h7 => ?_)
    refine G_st (x_callV [aR (h, 7)] (c_X4_sign ids Hn (v1 + (1 : Int32)) H0_4 _ _ _ h7) dX4_carryOut_20 tw_420 kc_X4_sign (H0_4 4 (Nat.le_of_ble_eq_true rfl) (Nat.le_of_ble_eq_true rfl)) rfl rfl rfl rfl ⟨Nat.le_of_ble_eq_true rfl, Nat.le_of_ble_eq_true rfl⟩ (Nat.le_of_ble_eq_true rfl) rfl) ?_
    refine G_st (x_put (k := 2) (ty := .int) (v := aI x5) (z := x5) (upS t6 (h, 7) 2 x5) dX4_carryOut_23 (Hh 7 (Nat.le_of_ble_eq_true rfl) (Nat.le_of_ble_eq_true rfl)) rfl rfl rfl rfl inTX0 tyX0_ok nmX0 (Nat.le_of_ble_eq_true rfl) tw_116 rfl rfl (fun ad => rfl) (fun ad => rfl) (fun ad => put_i0 ad _ _ _ _ rfl) rfl) ?_
    refine G_bvS (fun t8 => ?_)
    refine G_st (x_iconst (1 : Int32) dX4_carryOut_26 rfl) ?_
    exact G_ret rfl ⟨dX4_carryOut_27, _, rfl, nar_b (Or.inr rfl)⟩ rfl
  · refine G_st (x_icmp_ne_t (tgt := 28) dX4_carryOut_12 (by decide) c4) ?_
    refine G_st (x_aload_n dX4_carryOut_28 rfl) ?_
    refine G_st (x_iload_n dX4_carryOut_29 rfl) ?_
    refine G_bd (fun x9 t10 h11 => ?_)
    refine G_st (x_callV [] (c_X4_letter ids Hn v1 H0_4 _ _ _ h11) dX4_carryOut_30 tw_342 kc_X4_letter (H0_4 4 (Nat.le_of_ble_eq_true rfl) (Nat.le_of_ble_eq_true rfl)) rfl rfl rfl rfl ⟨Nat.le_of_ble_eq_true rfl, Nat.le_of_ble_eq_true rfl⟩ (Nat.le_of_ble_eq_true rfl) rfl) ?_
    refine G_st (x_bipush (102 : Int32) dX4_carryOut_33 rfl) ?_
    refine G_ite (fun c12 => ?_) (fun c12 => ?_)
    · refine G_st (x_icmp_ne_f 45 dX4_carryOut_35 (by decide) c12) ?_
      refine G_st (x_aload_n dX4_carryOut_38 rfl) ?_
      refine G_st (x_iload_n dX4_carryOut_39 rfl) ?_
      refine G_st (x_aload_n dX4_carryOut_40 rfl) ?_
      refine G_bd (fun x13 t14 h15 => ?_)
      refine G_st (x_callV [] (c_X4_carryOutFront ids Hn v1 h H0_4 Hh _ _ _ h15) dX4_carryOut_41 tw_467 kc_X4_carryOutFront (H0_4 4 (Nat.le_of_ble_eq_true rfl) (Nat.le_of_ble_eq_true rfl)) rfl rfl rfl rfl ⟨Nat.le_of_ble_eq_true rfl, Nat.le_of_ble_eq_true rfl⟩ (Nat.le_of_ble_eq_true rfl) rfl) ?_
      refine G_chk (fun c16 => ?_)
      exact G_ret rfl ⟨dX4_carryOut_44, _, rfl, nar_b c16⟩ rfl
    · refine G_st (x_icmp_ne_t (tgt := 45) dX4_carryOut_35 (by decide) c12) ?_
      refine G_st (x_aload_n dX4_carryOut_45 rfl) ?_
      refine G_st (x_iload_n dX4_carryOut_46 rfl) ?_
      refine G_bd (fun x17 t18 h19 => ?_)
      refine G_st (x_callV [] (c_X4_letter ids Hn v1 H0_4 _ _ _ h19) dX4_carryOut_47 tw_342 kc_X4_letter (H0_4 4 (Nat.le_of_ble_eq_true rfl) (Nat.le_of_ble_eq_true rfl)) rfl rfl rfl rfl ⟨Nat.le_of_ble_eq_true rfl, Nat.le_of_ble_eq_true rfl⟩ (Nat.le_of_ble_eq_true rfl) rfl) ?_
      refine G_st (x_bipush (104 : Int32) dX4_carryOut_50 rfl) ?_
      refine G_ite (fun c20 => ?_) (fun c20 => ?_)
      · refine G_st (x_icmp_ne_f 62 dX4_carryOut_52 (by decide) c20) ?_
        refine G_st (x_aload_n dX4_carryOut_55 rfl) ?_
        refine G_st (x_iload_n dX4_carryOut_56 rfl) ?_
        refine G_st (x_aload_n dX4_carryOut_57 rfl) ?_
        refine G_bd (fun x21 t22 h23 => ?_)
        refine G_st (x_callV [] (c_X4_carryOutHabit ids Hn v1 h H0_4 Hh _ _ _ h23) dX4_carryOut_58 tw_485 kc_X4_carryOutHabit (H0_4 4 (Nat.le_of_ble_eq_true rfl) (Nat.le_of_ble_eq_true rfl)) rfl rfl rfl rfl ⟨Nat.le_of_ble_eq_true rfl, Nat.le_of_ble_eq_true rfl⟩ (Nat.le_of_ble_eq_true rfl) rfl) ?_
        refine G_chk (fun c24 => ?_)
        exact G_ret rfl ⟨dX4_carryOut_61, _, rfl, nar_b c24⟩ rfl
      · refine G_st (x_icmp_ne_t (tgt := 62) dX4_carryOut_52 (by decide) c20) ?_
        refine G_st (x_aload_n dX4_carryOut_62 rfl) ?_
        refine G_st (x_aload_n dX4_carryOut_63 rfl) ?_
        refine G_st (x_iload_n dX4_carryOut_64 rfl) ?_
        refine G_st (x_iconst (1 : Int32) dX4_carryOut_65 rfl) ?_
        refine G_st (x_iadd dX4_carryOut_66) ?_
        refine G_bd (fun x25 t26 h27 => ?_)
        refine G_st (x_callV [aR (h, 7)] (c_X4_digit ids Hn (v1 + (1 : Int32)) H0_4 _ _ _ h27) dX4_carryOut_67 tw_413 kc_X4_digit (H0_4 4 (Nat.le_of_ble_eq_true rfl) (Nat.le_of_ble_eq_true rfl)) rfl rfl rfl rfl ⟨Nat.le_of_ble_eq_true rfl, Nat.le_of_ble_eq_true rfl⟩ (Nat.le_of_ble_eq_true rfl) rfl) ?_
        refine G_st (x_aload_n dX4_carryOut_70 rfl) ?_
        refine G_st (x_iload_n dX4_carryOut_71 rfl) ?_
        refine G_st (x_iconst (2 : Int32) dX4_carryOut_72 rfl) ?_
        refine G_st (x_iadd dX4_carryOut_73) ?_
        refine G_bd (fun x28 t29 h30 => ?_)
        refine G_st (x_callV [aI x25, aR (h, 7)] (c_X4_digit ids Hn (v1 + (2 : Int32)) H0_4 _ _ _ h30) dX4_carryOut_74 tw_413 kc_X4_digit (H0_4 4 (Nat.le_of_ble_eq_true rfl) (Nat.le_of_ble_eq_true rfl)) rfl rfl rfl rfl ⟨Nat.le_of_ble_eq_true rfl, Nat.le_of_ble_eq_true rfl⟩ (Nat.le_of_ble_eq_true rfl) rfl) ?_
        refine G_bd (fun x31 t32 h33 => ?_)
        refine G_st (x_callV [] (c_X0_place ids Hn h x25 x28 (Hh.sub (Nat.le_of_ble_eq_true rfl) (Nat.le_of_ble_eq_true rfl)) _ _ _ h33) dX4_carryOut_77 tw_498 kc_X0_place (Hh 7 (Nat.le_of_ble_eq_true rfl) (Nat.le_of_ble_eq_true rfl)) rfl rfl rfl rfl ⟨Nat.le_of_ble_eq_true rfl, Nat.le_of_ble_eq_true rfl⟩ (Nat.le_of_ble_eq_true rfl) rfl) ?_
        refine G_st (x_istore [some (aR (0, 4)), some (aI v1), some (aR (h, 6)), some (aR (h, 7)), some (aI x31)] dX4_carryOut_80 (Nat.le_of_ble_eq_true rfl) rfl rfl) ?_
        refine G_st (x_iload dX4_carryOut_82 rfl) ?_
        refine G_ite (fun c34 => ?_) (fun c34 => ?_)
        · refine G_st (x_if_ge_t (tgt := 89) dX4_carryOut_84 (by decide) c34) ?_
          refine G_st (x_aload_n dX4_carryOut_89 rfl) ?_
          refine G_st (x_iload_n dX4_carryOut_90 rfl) ?_
          refine G_bd (fun x35 t36 h37 => ?_)
          refine G_st (x_callV [] (c_X4_letter ids Hn v1 H0_4 _ _ _ h37) dX4_carryOut_91 tw_342 kc_X4_letter (H0_4 4 (Nat.le_of_ble_eq_true rfl) (Nat.le_of_ble_eq_true rfl)) rfl rfl rfl rfl ⟨Nat.le_of_ble_eq_true rfl, Nat.le_of_ble_eq_true rfl⟩ (Nat.le_of_ble_eq_true rfl) rfl) ?_
          refine G_ite (fun c38 => ?_) (fun c38 => ?_)
          · refine G_st (x_look (off := (42)) (tgt := 136) dX4_carryOut_94 (by decide) (by rw [c38] <;> rfl) (by decide)) ?_
            refine G_st (x_aload_n dX4_carryOut_136 rfl) ?_
            refine G_st (x_get (k := 5) (aR (h, 10)) dX4_carryOut_137 (Hh 7 (Nat.le_of_ble_eq_true rfl) (Nat.le_of_ble_eq_true rfl)) rfl rfl rfl rfl inTX0 (Nat.le_of_ble_eq_true rfl) tw_127 (fun ad => rfl)) ?_
            refine G_st (x_iload dX4_carryOut_140 rfl) ?_
            refine G_st (x_aload_n dX4_carryOut_142 rfl) ?_
            refine G_st (x_iload_n dX4_carryOut_143 rfl) ?_
            refine G_st (x_iconst (3 : Int32) dX4_carryOut_144 rfl) ?_
            refine G_st (x_iadd dX4_carryOut_145) ?_
            refine G_bd (fun x39 t40 h41 => ?_)
            refine G_st (x_callV [aI x31, aR (h, 10)] (c_X4_sign ids Hn (v1 + (3 : Int32)) H0_4 _ _ _ h41) dX4_carryOut_146 tw_420 kc_X4_sign (H0_4 4 (Nat.le_of_ble_eq_true rfl) (Nat.le_of_ble_eq_true rfl)) rfl rfl rfl rfl ⟨Nat.le_of_ble_eq_true rfl, Nat.le_of_ble_eq_true rfl⟩ (Nat.le_of_ble_eq_true rfl) rfl) ?_
            refine G_bd (fun _ t43 h44 => ?_)
            refine G_st (x_callN [] (c_X6_set ids Hn (h, 10) x31 x39 (Hh 10 (Nat.le_of_ble_eq_true rfl) (Nat.le_of_ble_eq_true rfl)) rfl _ _ _ h44) dX4_carryOut_149 (List.mem_of_getElem? (i := 6) rfl) kc_X6_set rfl ⟨Nat.le_of_ble_eq_true rfl, Nat.le_of_ble_eq_true rfl⟩ (Nat.le_of_ble_eq_true rfl) rfl) ?_
            refine G_st (x_goto (tgt := 175) dX4_carryOut_152 (by decide)) ?_
            refine G_st (x_iconst (1 : Int32) dX4_carryOut_175 rfl) ?_
            exact G_ret rfl ⟨dX4_carryOut_176, _, rfl, nar_b (Or.inr rfl)⟩ rfl
          refine G_ite (fun c45 => ?_) (fun c45 => ?_)
          · refine G_st (x_look (off := (26)) (tgt := 120) dX4_carryOut_94 (by decide) (by rw [c45] <;> rfl) (by decide)) ?_
            refine G_st (x_aload_n dX4_carryOut_120 rfl) ?_
            refine G_st (x_iload dX4_carryOut_121 rfl) ?_
            refine G_st (x_aload_n dX4_carryOut_123 rfl) ?_
            refine G_st (x_iload_n dX4_carryOut_124 rfl) ?_
            refine G_st (x_iconst (3 : Int32) dX4_carryOut_125 rfl) ?_
            refine G_st (x_iadd dX4_carryOut_126) ?_
            refine G_bd (fun x46 t47 h48 => ?_)
            refine G_st (x_callV [aI x31, aR (h, 7)] (c_X4_digit ids Hn (v1 + (3 : Int32)) H0_4 _ _ _ h48) dX4_carryOut_127 tw_413 kc_X4_digit (H0_4 4 (Nat.le_of_ble_eq_true rfl) (Nat.le_of_ble_eq_true rfl)) rfl rfl rfl rfl ⟨Nat.le_of_ble_eq_true rfl, Nat.le_of_ble_eq_true rfl⟩ (Nat.le_of_ble_eq_true rfl) rfl) ?_
            refine G_bd (fun _ t50 h51 => ?_)
            refine G_st (x_callV [] (c_X0_setSaucer ids Hn h x31 x46 (Hh.sub (Nat.le_of_ble_eq_true rfl) (Nat.le_of_ble_eq_true rfl)) _ _ _ h51) dX4_carryOut_130 tw_502 kc_X0_setSaucer (Hh 7 (Nat.le_of_ble_eq_true rfl) (Nat.le_of_ble_eq_true rfl)) rfl rfl rfl rfl ⟨Nat.le_of_ble_eq_true rfl, Nat.le_of_ble_eq_true rfl⟩ (Nat.le_of_ble_eq_true rfl) rfl) ?_
            refine G_st (x_goto (tgt := 175) dX4_carryOut_133 (by decide)) ?_
            refine G_st (x_iconst (1 : Int32) dX4_carryOut_175 rfl) ?_
            exact G_ret rfl ⟨dX4_carryOut_176, _, rfl, nar_b (Or.inr rfl)⟩ rfl
          refine G_st (x_look (off := (61)) (tgt := 155) dX4_carryOut_94 (by decide) (by refine (lv_osw c38 rfl).trans ?_; refine (lv_osw c45 rfl).trans ?_; rfl) (by decide)) ?_
          refine G_st (x_aload_n dX4_carryOut_155 rfl) ?_
          refine G_st (x_iload dX4_carryOut_156 rfl) ?_
          refine G_st (x_aload_n dX4_carryOut_158 rfl) ?_
          refine G_st (x_iload_n dX4_carryOut_159 rfl) ?_
          refine G_st (x_iconst (3 : Int32) dX4_carryOut_160 rfl) ?_
          refine G_st (x_iadd dX4_carryOut_161) ?_
          refine G_bd (fun x52 t53 h54 => ?_)
          refine G_st (x_callV [aI x31, aR (h, 7)] (c_X4_digit ids Hn (v1 + (3 : Int32)) H0_4 _ _ _ h54) dX4_carryOut_162 tw_413 kc_X4_digit (H0_4 4 (Nat.le_of_ble_eq_true rfl) (Nat.le_of_ble_eq_true rfl)) rfl rfl rfl rfl ⟨Nat.le_of_ble_eq_true rfl, Nat.le_of_ble_eq_true rfl⟩ (Nat.le_of_ble_eq_true rfl) rfl) ?_
          refine G_st (x_aload_n dX4_carryOut_165 rfl) ?_
          refine G_st (x_iload_n dX4_carryOut_166 rfl) ?_
          refine G_st (x_iconst (4 : Int32) dX4_carryOut_167 rfl) ?_
          refine G_st (x_iadd dX4_carryOut_168) ?_
          refine G_bd (fun x55 t56 h57 => ?_)
          refine G_st (x_callV [aI x52, aI x31, aR (h, 7)] (c_X4_hourBits ids Hn (v1 + (4 : Int32)) H0_4 _ _ _ h57) dX4_carryOut_169 tw_508 kc_X4_hourBits (H0_4 4 (Nat.le_of_ble_eq_true rfl) (Nat.le_of_ble_eq_true rfl)) rfl rfl rfl rfl ⟨Nat.le_of_ble_eq_true rfl, Nat.le_of_ble_eq_true rfl⟩ (Nat.le_of_ble_eq_true rfl) rfl) ?_
          refine G_bd (fun _ t59 h60 => ?_)
          refine G_st (x_callV [] (c_X0_setWashing ids Hn h x31 x52 x55 (Hh.sub (Nat.le_of_ble_eq_true rfl) (Nat.le_of_ble_eq_true rfl)) _ _ _ h60) dX4_carryOut_172 tw_512 kc_X0_setWashing (Hh 7 (Nat.le_of_ble_eq_true rfl) (Nat.le_of_ble_eq_true rfl)) rfl rfl rfl rfl ⟨Nat.le_of_ble_eq_true rfl, Nat.le_of_ble_eq_true rfl⟩ (Nat.le_of_ble_eq_true rfl) rfl) ?_
          refine G_st (x_iconst (1 : Int32) dX4_carryOut_175 rfl) ?_
          exact G_ret rfl ⟨dX4_carryOut_176, _, rfl, nar_b (Or.inr rfl)⟩ rfl
        · refine G_st (x_if_ge_f 89 dX4_carryOut_84 (by decide) c34) ?_
          refine G_st (x_iconst (0 : Int32) dX4_carryOut_87 rfl) ?_
          exact G_ret rfl ⟨dX4_carryOut_88, _, rfl, nar_b (Or.inl rfl)⟩ rfl
set_option maxRecDepth 100000 in
set_option maxHeartbeats 4000000 in
theorem c_X4_carryOut (ids : List (Nat × Nat)) (Hn : Ndp ids) (v1 : Int32) (h : Nat) (H0_4 : InR ids 0 4 5) (Hh : InR ids h 6 28) (t0 : Sg) (r : Int32) (t1 : Sg) (hf : f_X4_carryOut v1 h t0 = some (r, t1)) : Mt0 mX4_carryOut yX4_carryOut ids [aR (0, 4), aI v1, aR (h, 6)] t0 (some (aI r)) t1 :=
  Mt_of (x := (r, t1)) (g_X4_carryOut ids Hn v1 h H0_4 Hh t0) hf (fun _ _ => trivial) (by decide) rfl Hn (fun _ => rfl) (fun _ => Nat.le_of_ble_eq_true rfl)
theorem dX4_tell_0 : decode cX4_tell 0 = .ok (.iconst 0, 1) := by decide +kernel
theorem dX4_tell_1 : decode cX4_tell 1 = .ok (.istore_n 2, 1) := by decide +kernel
theorem dX4_tell_2 : decode cX4_tell 2 = .ok (.iconst 0, 1) := by decide +kernel
theorem dX4_tell_3 : decode cX4_tell 3 = .ok (.istore_n 3, 1) := by decide +kernel
theorem dX4_tell_4 : decode cX4_tell 4 = .ok (.iload_n 3, 1) := by decide +kernel
theorem dX4_tell_5 : decode cX4_tell 5 = .ok (.aload_n 0, 1) := by decide +kernel
theorem dX4_tell_6 : decode cX4_tell 6 = .ok (.getfield 15, 3) := by decide +kernel
theorem dX4_tell_9 : decode cX4_tell 9 = .ok (.if_icmp .ge 43, 3) := by decide +kernel
theorem dX4_tell_12 : decode cX4_tell 12 = .ok (.iload_n 3, 1) := by decide +kernel
theorem dX4_tell_13 : decode cX4_tell 13 = .ok (.ifCond .eq 15, 3) := by decide +kernel
theorem dX4_tell_16 : decode cX4_tell 16 = .ok (.aload_n 0, 1) := by decide +kernel
theorem dX4_tell_17 : decode cX4_tell 17 = .ok (.iload_n 3, 1) := by decide +kernel
theorem dX4_tell_18 : decode cX4_tell 18 = .ok (.iconst 1, 1) := by decide +kernel
theorem dX4_tell_19 : decode cX4_tell 19 = .ok (.isub, 1) := by decide +kernel
theorem dX4_tell_20 : decode cX4_tell 20 = .ok (.invokevirtual 27, 3) := by decide +kernel
theorem dX4_tell_23 : decode cX4_tell 23 = .ok (.bipush 59, 2) := by decide +kernel
theorem dX4_tell_25 : decode cX4_tell 25 = .ok (.if_icmp .ne 21, 3) := by decide +kernel
theorem dX4_tell_28 : decode cX4_tell 28 = .ok (.aload_n 0, 1) := by decide +kernel
theorem dX4_tell_29 : decode cX4_tell 29 = .ok (.iload_n 3, 1) := by decide +kernel
theorem dX4_tell_30 : decode cX4_tell 30 = .ok (.aload_n 1, 1) := by decide +kernel
theorem dX4_tell_31 : decode cX4_tell 31 = .ok (.invokevirtual 35, 3) := by decide +kernel
theorem dX4_tell_34 : decode cX4_tell 34 = .ok (.ifCond .ne 9, 3) := by decide +kernel
theorem dX4_tell_37 : decode cX4_tell 37 = .ok (.sipush (-2000), 3) := by decide +kernel
theorem dX4_tell_40 : decode cX4_tell 40 = .ok (.iload_n 3, 1) := by decide +kernel
theorem dX4_tell_41 : decode cX4_tell 41 = .ok (.isub, 1) := by decide +kernel
theorem dX4_tell_42 : decode cX4_tell 42 = .ok (.ireturn, 1) := by decide +kernel
theorem dX4_tell_43 : decode cX4_tell 43 = .ok (.iinc 2 1, 3) := by decide +kernel
theorem dX4_tell_46 : decode cX4_tell 46 = .ok (.iinc 3 1, 3) := by decide +kernel
theorem dX4_tell_49 : decode cX4_tell 49 = .ok (.goto (-45), 3) := by decide +kernel
theorem dX4_tell_52 : decode cX4_tell 52 = .ok (.iload_n 2, 1) := by decide +kernel
theorem dX4_tell_53 : decode cX4_tell 53 = .ok (.ireturn, 1) := by decide +kernel
set_option maxRecDepth 100000 in
set_option maxHeartbeats 4000000 in
theorem g_X4_tell_46 (ids : List (Nat × Nat)) (Hn : Ndp ids) (h : Nat) (H0_4 : InR ids 0 4 5) (Hh : InR ids h 6 28) (k4 : Int32 → Int32 → Sg → Option (Int32 × Sg)) (hk4 : ∀ (v2 : Int32) (v3 : Int32) (t0 : Sg), Gj kI mX4_tell ids 4 [some (aR (0, 4)), some (aR (h, 6)), some (aI v2), some (aI v3)] [] t0 (k4 v2 v3 t0)) (v2 : Int32) (v3 : Int32) (t0 : Sg) : Gj kI mX4_tell ids 46 [some (aR (0, 4)), some (aR (h, 6)), some (aI v2), some (aI v3)] [] t0 (f_X4_tell_46 h k4 v2 v3 t0) := by
  unfold f_X4_tell_46
  refine G_st (x_iinc (v3 + (1 : Int32)) [some (aR (0, 4)), some (aR (h, 6)), some (aI v2), some (aI (v3 + (1 : Int32)))] dX4_tell_46 (Nat.le_of_ble_eq_true rfl) rfl rfl rfl rfl) ?_
  refine G_st (x_goto (tgt := 4) dX4_tell_49 (by decide)) ?_
  refine G_weak _ ?_ (hk4 v2 (v3 + (1 : Int32)) t0)
  exact (leL_s (leL_s (leL_s (leL_s (leL_e _)))))
set_option maxRecDepth 100000 in
set_option maxHeartbeats 4000000 in
theorem g_X4_tell_28 (ids : List (Nat × Nat)) (Hn : Ndp ids) (h : Nat) (H0_4 : InR ids 0 4 5) (Hh : InR ids h 6 28) (k4 : Int32 → Int32 → Sg → Option (Int32 × Sg)) (hk4 : ∀ (v2 : Int32) (v3 : Int32) (t0 : Sg), Gj kI mX4_tell ids 4 [some (aR (0, 4)), some (aR (h, 6)), some (aI v2), some (aI v3)] [] t0 (k4 v2 v3 t0)) (v2 : Int32) (v3 : Int32) (t0 : Sg) : Gj kI mX4_tell ids 28 [some (aR (0, 4)), some (aR (h, 6)), some (aI v2), some (aI v3)] [] t0 (f_X4_tell_28 h k4 v2 v3 t0) := by
  unfold f_X4_tell_28
  refine G_st (x_aload_n dX4_tell_28 rfl) ?_
  refine G_st (x_iload_n dX4_tell_29 rfl) ?_
  refine G_st (x_aload_n dX4_tell_30 rfl) ?_
  refine G_bd (fun x3 t4 h5 => ?_)
  refine G_st (x_callV [] (c_X4_carryOut ids Hn v3 h H0_4 Hh _ _ _ h5) dX4_tell_31 tw_463 kc_X4_carryOut (H0_4 4 (Nat.le_of_ble_eq_true rfl) (Nat.le_of_ble_eq_true rfl)) rfl rfl rfl rfl ⟨Nat.le_of_ble_eq_true rfl, Nat.le_of_ble_eq_true rfl⟩ (Nat.le_of_ble_eq_true rfl) rfl) ?_
  refine G_ite (fun c6 => ?_) (fun c6 => ?_)
  · refine G_st (x_if_ne_f 43 dX4_tell_34 (by decide) c6) ?_
    refine G_st (x_sipush (-2000 : Int32) dX4_tell_37 rfl) ?_
    refine G_st (x_iload_n dX4_tell_40 rfl) ?_
    refine G_st (x_isub dX4_tell_41) ?_
    exact G_ret rfl ⟨dX4_tell_42, _, rfl, rfl⟩ rfl
  · refine G_st (x_if_ne_t (tgt := 43) dX4_tell_34 (by decide) c6) ?_
    refine G_st (x_iinc (v2 + (1 : Int32)) [some (aR (0, 4)), some (aR (h, 6)), some (aI (v2 + (1 : Int32))), some (aI v3)] dX4_tell_43 (Nat.le_of_ble_eq_true rfl) rfl rfl rfl rfl) ?_
    refine G_weak _ ?_ (g_X4_tell_46 ids Hn h H0_4 Hh k4 hk4 (v2 + (1 : Int32)) v3 t4)
    exact (leL_s (leL_s (leL_s (leL_s (leL_e _)))))
set_option maxRecDepth 100000 in
set_option maxHeartbeats 4000000 in
theorem g_X4_tell_4 (ids : List (Nat × Nat)) (Hn : Ndp ids) (h : Nat) (H0_4 : InR ids 0 4 5) (Hh : InR ids h 6 28)  : ∀ (n : Nat) (v2 : Int32) (v3 : Int32) (t0 : Sg), Gj kI mX4_tell ids 4 [some (aR (0, 4)), some (aR (h, 6)), some (aI v2), some (aI v3)] [] t0 (f_X4_tell_4 h n v2 v3 t0) := by
  intro n
  induction n with
  | zero => intro v2 v3 t0; exact G_none
  | succ n ih =>
    intro v2 v3 t0
    rw [f_X4_tell_4]
    refine G_st (x_iload_n dX4_tell_4 rfl) ?_
    refine G_st (x_aload_n dX4_tell_5 rfl) ?_
    refine G_st (x_get (k := 1) (aI (t0 (0, 4) 1)) dX4_tell_6 (H0_4 4 (Nat.le_of_ble_eq_true rfl) (Nat.le_of_ble_eq_true rfl)) rfl rfl rfl rfl inTX4 (Nat.le_of_ble_eq_true rfl) tw_278 (fun ad => rfl)) ?_
    refine G_ite (fun c1 => ?_) (fun c1 => ?_)
    · refine G_st (x_icmp_ge_t (tgt := 52) dX4_tell_9 (by decide) c1) ?_
      refine G_st (x_iload_n dX4_tell_52 rfl) ?_
      exact G_ret rfl ⟨dX4_tell_53, _, rfl, rfl⟩ rfl
    · refine G_st (x_icmp_ge_f 52 dX4_tell_9 (by decide) c1) ?_
      refine G_st (x_iload_n dX4_tell_12 rfl) ?_
      refine G_ite (fun c2 => ?_) (fun c2 => ?_)
      · refine G_st (x_if_eq_t (tgt := 28) dX4_tell_13 (by decide) c2) ?_
        refine G_weak _ ?_ (g_X4_tell_28 ids Hn h H0_4 Hh (f_X4_tell_4 h n) (ih) v2 v3 t0)
        exact (leL_s (leL_s (leL_s (leL_s (leL_e _)))))
      · refine G_st (x_if_eq_f 28 dX4_tell_13 (by decide) c2) ?_
        refine G_st (x_aload_n dX4_tell_16 rfl) ?_
        refine G_st (x_iload_n dX4_tell_17 rfl) ?_
        refine G_st (x_iconst (1 : Int32) dX4_tell_18 rfl) ?_
        refine G_st (x_isub dX4_tell_19) ?_
        refine G_bd (fun x7 t8 h9 => ?_)
        refine G_st (x_callV [] (c_X4_letter ids Hn (v3 - (1 : Int32)) H0_4 _ _ _ h9) dX4_tell_20 tw_342 kc_X4_letter (H0_4 4 (Nat.le_of_ble_eq_true rfl) (Nat.le_of_ble_eq_true rfl)) rfl rfl rfl rfl ⟨Nat.le_of_ble_eq_true rfl, Nat.le_of_ble_eq_true rfl⟩ (Nat.le_of_ble_eq_true rfl) rfl) ?_
        refine G_st (x_bipush (59 : Int32) dX4_tell_23 rfl) ?_
        refine G_ite (fun c10 => ?_) (fun c10 => ?_)
        · refine G_st (x_icmp_ne_f 46 dX4_tell_25 (by decide) c10) ?_
          refine G_weak _ ?_ (g_X4_tell_28 ids Hn h H0_4 Hh (f_X4_tell_4 h n) (ih) v2 v3 t8)
          exact (leL_s (leL_s (leL_s (leL_s (leL_e _)))))
        · refine G_st (x_icmp_ne_t (tgt := 46) dX4_tell_25 (by decide) c10) ?_
          refine G_weak _ ?_ (g_X4_tell_46 ids Hn h H0_4 Hh (f_X4_tell_4 h n) (ih) v2 v3 t8)
          exact (leL_s (leL_s (leL_s (leL_s (leL_e _)))))
set_option maxRecDepth 100000 in
set_option maxHeartbeats 4000000 in
theorem g_X4_tell (ids : List (Nat × Nat)) (Hn : Ndp ids) (h : Nat) (H0_4 : InR ids 0 4 5) (Hh : InR ids h 6 28) (t0 : Sg) : Gj kI mX4_tell ids 0 [some (aR (0, 4)), some (aR (h, 6)), none, none] [] t0 (f_X4_tell h t0) := by
  unfold f_X4_tell
  refine G_st (x_iconst (0 : Int32) dX4_tell_0 rfl) ?_
  refine G_st (x_istore_n [some (aR (0, 4)), some (aR (h, 6)), some (aI (0 : Int32)), none] dX4_tell_1 (Nat.le_of_ble_eq_true rfl) rfl rfl) ?_
  refine G_st (x_iconst (0 : Int32) dX4_tell_2 rfl) ?_
  refine G_st (x_istore_n [some (aR (0, 4)), some (aR (h, 6)), some (aI (0 : Int32)), some (aI (0 : Int32))] dX4_tell_3 (Nat.le_of_ble_eq_true rfl) rfl rfl) ?_
  refine G_weak _ ?_ (g_X4_tell_4 ids Hn h H0_4 Hh fuel (0 : Int32) (0 : Int32) t0)
  exact (leL_s (leL_s (leL_s (leL_s (leL_e _)))))
set_option maxRecDepth 100000 in
set_option maxHeartbeats 4000000 in
theorem c_X4_tell (ids : List (Nat × Nat)) (Hn : Ndp ids) (h : Nat) (H0_4 : InR ids 0 4 5) (Hh : InR ids h 6 28) (t0 : Sg) (r : Int32) (t1 : Sg) (hf : f_X4_tell h t0 = some (r, t1)) : Mt0 mX4_tell yX4_tell ids [aR (0, 4), aR (h, 6)] t0 (some (aI r)) t1 :=
  Mt_of (x := (r, t1)) (g_X4_tell ids Hn h H0_4 Hh t0) hf (fun _ _ => trivial) (by decide) rfl Hn (fun _ => rfl) (fun _ => Nat.le_of_ble_eq_true rfl)
section STR
variable {M Mc : MI} {ids : List (Nat × Nat)} {pc idx n : Nat} {L : List (Option AV)} {S st : List AV} {σ σ' : Sg} {as : List AV} {r : Option AV} {y : MethodName}
theorem x_ldcS {n : Nat} (q : Nat) (hd : decode M.1 pc = .ok (.ldc n, 2)) (hi : strIdx q = n) (ho : M.2.2.1 = RX4) (hq : q < 7) : Tj M ids pc L S σ (pc + 2) L (aR ((5, q) : Nat × Nat) :: S) σ := by
  subst hi
  intro Φ hA p l e R s m args below meth c cells slots Q D cI ad hF hR H locs ls hP hS hl
  obtain ⟨hx, hb, hml, hown, hts, hroom, hSt, hn⟩ := id hF
  exact va_ldcS hx hb hown (by rw [ho]; exact hSt.2.2.1.2.1 q hq) hd (hA p l e R s m args below meth c cells slots Q D cI ad hF hR H locs ls hP hS hl)
theorem x_callStr (S : List AV) {i : Nat × Nat} (hM : Mt0 Mc y ids (aR i :: as) σ r σ') (hd : decode M.1 pc = .ok (.invokevirtual idx, 3)) (hl : Cond.methodLink M.2.2.1 idx y ∈ TT) (k : kVi Mc y n) (hi : isStr i) (hv : y.cls = "java/lang/String") (hn : as.length = n) (hf : fits2 M Mc) (hS0 : (S.map acat).sum ≤ 8) (hst : as.reverse ++ (aR i :: S) = st) : Tj M ids pc L st σ (pc + 3) L (r.toList ++ S) σ' := by
  subst hst
  intro Φ hA p l e R s m args below meth c cells slots Q D cI ad hF hR H locs ls hP hS hl1
  obtain ⟨hx, hb, hml, hown, hts, hroom, hSt, hnd⟩ := id hF
  obtain ⟨⟨k1, k1b⟩, k2, k3, k4, k5, k6⟩ := k
  have hs2 : ((S.map (tr ad)).map fun v => v.category).sum ≤ 8 := by rw [cat_map]; exact hS0
  have cw := cwV (R := R) (own := M.2.2.1) (C := y.cls) (index := idx) (rm := rmM Mc) (mc := 0) (ms := 0) (ws := wsM Mc y) (y := y) n hts (fun w hw => by
    unfold wsV at hw
    rcases List.mem_append.mp hw with h | h
    · simp only [List.mem_cons, List.not_mem_nil, or_false] at h
      rcases h with rfl | rfl | rfl | rfl
      · exact tt_good _ hl
      · exact tt_good _ k1
      · exact tt_good _ k1b
      · exact tt_good _ k2
    · exact good_ws (hc := k3) w h) rfl rfl rfl ⟨rfl, k4, k5, k6⟩ ⟨Nat.le_trans hf.1 hroom.1, Nat.le_trans hf.2 hroom.2.1⟩
  have hrecv : ∃ cell : Cell, H[ad i]? = some cell ∧ cell.vm.isStatics = false ∧ s.vm.findClass y.cls = some cell.cls := by
    have h8 := vk_recv hSt.2.2.1.1 hi.2 hS
    rw [hv]
    have e : i = (5, i.2) := by rw [← hi.1]
    rw [e]
    exact h8
  refine runGo (v := r.map (tr ad)) (PP := fun h => va_P D vwCl (wOf ids cI ad σ') h) (A1 := inA ids ad) (rest := S.map (tr ad)) (va_runV (b := ad i) (As := as.map (tr ad)) ⟨hx, hb, hml, hown, hts⟩ (hM l D cI ad) cw ⟨pcBlind, hrecv, fun U hU hW => ⟨rfl, by rw [hU]; exact hP, hSt.go hS hU hW⟩⟩ rfl (by rw [List.length_map]; exact hn) hl1.1 (by rw [List.map_append, List.map_reverse]; rfl) (lv_room hs2) hd ⟨hroom.2.2.1, hroom.2.2.2⟩) hS ?_
  intro H1 locs1 hP1 hS1
  have h9 := hA p l e R s m args below meth c cells slots Q D cI ad hF hR H1 locs1 ls hP1 hS1 hl1
  rw [List.map_append] at h9
  cases r <;> exact h9
theorem x_sval {k : Nat} (hd : decode M.1 pc = .ok (.getfield idx, 3)) (hw : Cond.fieldLink M.2.2.1 idx "java/lang/String" "value" "[B" ∈ TT) (hk : k < 7) : Tj M ids pc L (aR (5, k) :: S) σ (pc + 3) L (aR (6, k) :: S) σ := by
  intro Φ hA p l e R s m args below meth c cells slots Q D cI ad hF hR H locs ls hP hS hl
  obtain ⟨hx, hb, hml, hown, hts, hroom, hSt, hn⟩ := id hF
  exact vk_getf hx hb (hSt.2.2.1.1.1 k hk).2.2.1 hS hown (hts _ hw) (fun _ h => h) hd (hA p l e R s m args below meth c cells slots Q D cI ad hF hR H locs ls hP hS hl)
theorem x_scod {k : Nat} (hd : decode M.1 pc = .ok (.getfield idx, 3)) (hw : Cond.fieldLink M.2.2.1 idx "java/lang/String" "coder" "B" ∈ TT) (hk : k < 7) : Tj M ids pc L (aR (5, k) :: S) σ (pc + 3) L (aI 0 :: S) σ := by
  intro Φ hA p l e R s m args below meth c cells slots Q D cI ad hF hR H locs ls hP hS hl
  obtain ⟨hx, hb, hml, hown, hts, hroom, hSt, hn⟩ := id hF
  exact vk_getf hx hb (hSt.2.2.1.1.1 k hk).2.1 hS hown (hts _ hw) (fun _ h => h) hd (hA p l e R s m args below meth c cells slots Q D cI ad hF hR H locs ls hP hS hl)
theorem x_slen {k : Nat} (hd : decode M.1 pc = .ok (.arraylength, 1)) (hk : k < 7) : Tj M ids pc L (aR (6, k) :: S) σ (pc + 1) L (aI (nI (strLen.getD k 0)) :: S) σ := by
  intro Φ hA p l e R s m args below meth c cells slots Q D cI ad hF hR H locs ls hP hS hl
  obtain ⟨hx, hb, hml, hown, hts, hroom, hSt, hn⟩ := id hF
  exact va_tlen hx hb (hSt.2.2.1.1.1 k hk).2.2.2 hS rfl hd (hA p l e R s m args below meth c cells slots Q D cI ad hF hR H locs ls hP hS hl)
theorem x_sbal {k : Nat} {j : Int32} (hd : decode M.1 pc = .ok (.baload, 1)) (hk : k < 7) (hj : inb j (strLen.getD k 0)) : Tj M ids pc L (aI j :: aR (6, k) :: S) σ (pc + 1) L (aI ((strByt.getD k []).getD j.toNatClampNeg 0) :: S) σ := by
  intro Φ hA p l e R s m args below meth c cells slots Q D cI ad hF hR H locs ls hP hS hl
  obtain ⟨hx, hb, hml, hown, hts, hroom, hSt, hn⟩ := id hF
  exact va_tb hx hb (hSt.2.2.1.1.1 k hk).2.2.2 hS hj rfl hd (hA p l e R s m args below meth c cells slots Q D cI ad hF hR H locs ls hP hS hl)
theorem x_getC (hd : decode M.1 pc = .ok (.getstatic idx, 3)) (hw : Cond.fieldLink M.2.2.1 idx "java/lang/String" "COMPACT_STRINGS" "Z" ∈ TT) : Tj M ids pc L S σ (pc + 3) L (aI 1 :: S) σ := by
  intro Φ hA p l e R s m args below meth c cells slots Q D cI ad hF hR H locs ls hP hS hl
  obtain ⟨hx, hb, hml, hown, hts, hroom, hSt, hn⟩ := id hF
  exact va_gets hx hb hSt.2.2.1.2.2.1 hS hown (hts _ hw) (fun _ h => h) hd (hA p l e R s m args below meth c cells slots Q D cI ad hF hR H locs ls hP hS hl)
theorem x_i2c {x : Int32} (v : Int32) (hd : decode M.1 pc = .ok (.i2c, 1)) (hv : (x.toUInt32 % 65536).toInt32 = v) : Tj M ids pc L (aI x :: S) σ (pc + 1) L (aI v :: S) σ := by
  intro Φ hA p l e R s m args below meth c cells slots Q D cI ad hF hR H locs ls hP hS hl
  obtain ⟨hx, hb, hml, hown, hts, hroom, hSt, hn⟩ := id hF
  exact lv_i2c hx hb hd hv (hA p l e R s m args below meth c cells slots Q D cI ad hF hR H locs ls hP hS hl)
/-- the formatter, whatever it is, and a call that is given it -/
theorem x_fmt {i1 i2 : Nat} {i j : Int32} (hd : decode M.1 pc = .ok (.getstatic i1, 3)) (hd2 : decode M.1 (pc + 3) = .ok (.invokestatic i2, 3)) (hw : Cond.fieldLink M.2.2.1 i1 "jdk/internal/util/Preconditions" "SIOOBE_FORMATTER" "Ljava/util/function/BiFunction;" ∈ TT) (hl : Cond.methodLink M.2.2.1 i2 y ∈ TT) (k : kSt Mc y 3) (hf : fits2 M Mc) (hS0 : (S.map acat).sum ≤ 8) (hM : ∀ (v : Value) (_ : v.category = 1) (l : Launch) (D : va_G) (cI : ClassId) (ad : Nat × Nat → Nat), Met l y (wsM Mc y) (rmM Mc) (va_Pc [.int i, .int j, v] (fun U => va_P D vwCl (wOf ids cI ad σ) U.heap ∧ St ids D cI ad U)) (fun _ st o t => o = .returned (some (.int i)) ∧ va_P D vwCl (wOf ids cI ad σ) t.heap ∧ va_F (inA ids ad) st t) 0 0 (inA ids ad)) : Tj M ids pc L (aI j :: aI i :: S) σ (pc + 3 + 3) L (aI i :: S) σ := by
  intro Φ hA p l e R s m args below meth c cells slots Q D cI ad hF hR H locs ls hP hS hl1
  obtain ⟨hx, hb, hml, hown, hts, hroom, hSt, hn⟩ := id hF
  obtain ⟨k1, k2, k3, k4, k5, k6⟩ := k
  have hs2 : ((S.map (tr ad)).map fun v => v.category).sum ≤ 8 := by rw [cat_map]; exact hS0
  have cw : CallB R s args M.2.2.1 i2 y Mc.1 Mc.2.1 Mc.2.2.2.1 (wsM Mc y) (rmM Mc) 0 0 3 ∧ (Cond.static y).before args s = true := ⟨callB_of 3 hts (good_ws (hc := k3)) rfl rfl rfl (hts _ k2) (hts _ hl) ⟨k4, k5, k6⟩ ⟨Nat.le_trans hf.1 hroom.1, Nat.le_trans hf.2 hroom.2.1⟩, hts _ k1⟩
  have go : ∀ v : Value, v.category = 1 → va_Z RJ3 "SIOOBE_FORMATTER" "Ljava/util/function/BiFunction;" v (inA ids ad) s s.heap → W p l e R s m args below meth c H locs cells slots Q (F0 m pc ls (List.map (tr ad) (aI j :: aI i :: S))) := by
    intro v hv hz
    refine va_gets hx hb hz hS hown (hts _ hw) (fun _ h => h) hd ?_
    refine runGo (v := some (.int i)) (PP := fun h => va_P D vwCl (wOf ids cI ad σ) h) (A1 := inA ids ad) (rest := S.map (tr ad)) (va_runS (As := [.int i, .int j, v]) ⟨hx, hb, hml, hown, hts⟩ (hM v hv l D cI ad) cw ⟨pcBlind, fun U hU hW => ⟨rfl, by rw [hU]; exact hP, hSt.go hS hU hW⟩⟩ rfl rfl hl1.1 rfl (lv_room hs2) hd2 ⟨hroom.2.2.1, hroom.2.2.2⟩) hS ?_
    intro H1 locs1 hP1 hS1
    exact hA p l e R s m args below meth c cells slots Q D cI ad hF hR H1 locs1 ls hP1 hS1 hl1
  rcases hSt.2.2.1.2.2.2 with h | ⟨t, h⟩
  · exact go _ rfl h
  · exact go _ rfl h
end STR
theorem dJ0_coder_7d493_0 : decode cJ0_coder_7d493 0 = .ok (.getstatic 38, 3) := by decide +kernel
theorem dJ0_coder_7d493_3 : decode cJ0_coder_7d493 3 = .ok (.ifCond .eq 10, 3) := by decide +kernel
theorem dJ0_coder_7d493_6 : decode cJ0_coder_7d493 6 = .ok (.aload_n 0, 1) := by decide +kernel
theorem dJ0_coder_7d493_7 : decode cJ0_coder_7d493 7 = .ok (.getfield 15, 3) := by decide +kernel
theorem dJ0_coder_7d493_10 : decode cJ0_coder_7d493 10 = .ok (.goto 4, 3) := by decide +kernel
theorem dJ0_coder_7d493_13 : decode cJ0_coder_7d493 13 = .ok (.iconst 1, 1) := by decide +kernel
theorem dJ0_coder_7d493_14 : decode cJ0_coder_7d493 14 = .ok (.ireturn, 1) := by decide +kernel
theorem dJ0_isLatin1_aae02_0 : decode cJ0_isLatin1_aae02 0 = .ok (.getstatic 38, 3) := by decide +kernel
theorem dJ0_isLatin1_aae02_3 : decode cJ0_isLatin1_aae02 3 = .ok (.ifCond .eq 14, 3) := by decide +kernel
theorem dJ0_isLatin1_aae02_6 : decode cJ0_isLatin1_aae02 6 = .ok (.aload_n 0, 1) := by decide +kernel
theorem dJ0_isLatin1_aae02_7 : decode cJ0_isLatin1_aae02 7 = .ok (.getfield 15, 3) := by decide +kernel
theorem dJ0_isLatin1_aae02_10 : decode cJ0_isLatin1_aae02 10 = .ok (.ifCond .ne 7, 3) := by decide +kernel
theorem dJ0_isLatin1_aae02_13 : decode cJ0_isLatin1_aae02 13 = .ok (.iconst 1, 1) := by decide +kernel
theorem dJ0_isLatin1_aae02_14 : decode cJ0_isLatin1_aae02 14 = .ok (.goto 4, 3) := by decide +kernel
theorem dJ0_isLatin1_aae02_17 : decode cJ0_isLatin1_aae02 17 = .ok (.iconst 0, 1) := by decide +kernel
theorem dJ0_isLatin1_aae02_18 : decode cJ0_isLatin1_aae02 18 = .ok (.ireturn, 1) := by decide +kernel
theorem dJ0_length_8abf5_0 : decode cJ0_length_8abf5 0 = .ok (.aload_n 0, 1) := by decide +kernel
theorem dJ0_length_8abf5_1 : decode cJ0_length_8abf5 1 = .ok (.getfield 9, 3) := by decide +kernel
theorem dJ0_length_8abf5_4 : decode cJ0_length_8abf5 4 = .ok (.arraylength, 1) := by decide +kernel
theorem dJ0_length_8abf5_5 : decode cJ0_length_8abf5 5 = .ok (.aload_n 0, 1) := by decide +kernel
theorem dJ0_length_8abf5_6 : decode cJ0_length_8abf5 6 = .ok (.invokevirtual 335, 3) := by decide +kernel
theorem dJ0_length_8abf5_9 : decode cJ0_length_8abf5 9 = .ok (.ishr, 1) := by decide +kernel
theorem dJ0_length_8abf5_10 : decode cJ0_length_8abf5 10 = .ok (.ireturn, 1) := by decide +kernel
theorem dJ0_isEmpty_aae02_0 : decode cJ0_isEmpty_aae02 0 = .ok (.aload_n 0, 1) := by decide +kernel
theorem dJ0_isEmpty_aae02_1 : decode cJ0_isEmpty_aae02 1 = .ok (.getfield 9, 3) := by decide +kernel
theorem dJ0_isEmpty_aae02_4 : decode cJ0_isEmpty_aae02 4 = .ok (.arraylength, 1) := by decide +kernel
theorem dJ0_isEmpty_aae02_5 : decode cJ0_isEmpty_aae02 5 = .ok (.ifCond .ne 7, 3) := by decide +kernel
theorem dJ0_isEmpty_aae02_8 : decode cJ0_isEmpty_aae02 8 = .ok (.iconst 1, 1) := by decide +kernel
theorem dJ0_isEmpty_aae02_9 : decode cJ0_isEmpty_aae02 9 = .ok (.goto 4, 3) := by decide +kernel
theorem dJ0_isEmpty_aae02_12 : decode cJ0_isEmpty_aae02 12 = .ok (.iconst 0, 1) := by decide +kernel
theorem dJ0_isEmpty_aae02_13 : decode cJ0_isEmpty_aae02 13 = .ok (.ireturn, 1) := by decide +kernel
theorem dJ0_charAt_5068e_0 : decode cJ0_charAt_5068e 0 = .ok (.aload_n 0, 1) := by decide +kernel
theorem dJ0_charAt_5068e_1 : decode cJ0_charAt_5068e 1 = .ok (.invokevirtual 492, 3) := by decide +kernel
theorem dJ0_charAt_5068e_4 : decode cJ0_charAt_5068e 4 = .ok (.ifCond .eq 12, 3) := by decide +kernel
theorem dJ0_charAt_5068e_7 : decode cJ0_charAt_5068e 7 = .ok (.aload_n 0, 1) := by decide +kernel
theorem dJ0_charAt_5068e_8 : decode cJ0_charAt_5068e 8 = .ok (.getfield 9, 3) := by decide +kernel
theorem dJ0_charAt_5068e_11 : decode cJ0_charAt_5068e 11 = .ok (.iload_n 1, 1) := by decide +kernel
theorem dJ0_charAt_5068e_12 : decode cJ0_charAt_5068e 12 = .ok (.invokestatic 495, 3) := by decide +kernel
theorem dJ0_charAt_5068e_15 : decode cJ0_charAt_5068e 15 = .ok (.ireturn, 1) := by decide +kernel
theorem dJ0_charAt_5068e_16 : decode cJ0_charAt_5068e 16 = .ok (.aload_n 0, 1) := by decide +kernel
theorem dJ0_charAt_5068e_17 : decode cJ0_charAt_5068e 17 = .ok (.getfield 9, 3) := by decide +kernel
theorem dJ0_charAt_5068e_20 : decode cJ0_charAt_5068e 20 = .ok (.iload_n 1, 1) := by decide +kernel
theorem dJ0_charAt_5068e_21 : decode cJ0_charAt_5068e 21 = .ok (.invokestatic 498, 3) := by decide +kernel
theorem dJ0_charAt_5068e_24 : decode cJ0_charAt_5068e 24 = .ok (.ireturn, 1) := by decide +kernel
theorem dJ0_checkIndex_df160_0 : decode cJ0_checkIndex_df160 0 = .ok (.iload_n 0, 1) := by decide +kernel
theorem dJ0_checkIndex_df160_1 : decode cJ0_checkIndex_df160 1 = .ok (.iload_n 1, 1) := by decide +kernel
theorem dJ0_checkIndex_df160_2 : decode cJ0_checkIndex_df160 2 = .ok (.getstatic 1053, 3) := by decide +kernel
theorem dJ0_checkIndex_df160_5 : decode cJ0_checkIndex_df160 5 = .ok (.invokestatic 1059, 3) := by decide +kernel
theorem dJ0_checkIndex_df160_8 : decode cJ0_checkIndex_df160 8 = .ok (.pop, 1) := by decide +kernel
theorem dJ0_checkIndex_df160_9 : decode cJ0_checkIndex_df160 9 = .ok (.return_, 1) := by decide +kernel
theorem dJ1_charAt_3b067_0 : decode cJ1_charAt_3b067 0 = .ok (.iload_n 1, 1) := by decide +kernel
theorem dJ1_charAt_3b067_1 : decode cJ1_charAt_3b067 1 = .ok (.aload_n 0, 1) := by decide +kernel
theorem dJ1_charAt_3b067_2 : decode cJ1_charAt_3b067 2 = .ok (.arraylength, 1) := by decide +kernel
theorem dJ1_charAt_3b067_3 : decode cJ1_charAt_3b067 3 = .ok (.invokestatic 9, 3) := by decide +kernel
theorem dJ1_charAt_3b067_6 : decode cJ1_charAt_3b067 6 = .ok (.aload_n 0, 1) := by decide +kernel
theorem dJ1_charAt_3b067_7 : decode cJ1_charAt_3b067 7 = .ok (.iload_n 1, 1) := by decide +kernel
theorem dJ1_charAt_3b067_8 : decode cJ1_charAt_3b067 8 = .ok (.baload, 1) := by decide +kernel
theorem dJ1_charAt_3b067_9 : decode cJ1_charAt_3b067 9 = .ok (.sipush 255, 3) := by decide +kernel
theorem dJ1_charAt_3b067_12 : decode cJ1_charAt_3b067 12 = .ok (.iand, 1) := by decide +kernel
theorem dJ1_charAt_3b067_13 : decode cJ1_charAt_3b067 13 = .ok (.i2c, 1) := by decide +kernel
theorem dJ1_charAt_3b067_14 : decode cJ1_charAt_3b067 14 = .ok (.ireturn, 1) := by decide +kernel
theorem dJ3_checkIndex_8e157_0 : decode cJ3_checkIndex_8e157 0 = .ok (.iload_n 0, 1) := by decide +kernel
theorem dJ3_checkIndex_8e157_1 : decode cJ3_checkIndex_8e157 1 = .ok (.ifCond .lt 8, 3) := by decide +kernel
theorem dJ3_checkIndex_8e157_4 : decode cJ3_checkIndex_8e157 4 = .ok (.iload_n 0, 1) := by decide +kernel
theorem dJ3_checkIndex_8e157_5 : decode cJ3_checkIndex_8e157 5 = .ok (.iload_n 1, 1) := by decide +kernel
theorem dJ3_checkIndex_8e157_6 : decode cJ3_checkIndex_8e157 6 = .ok (.if_icmp .lt 10, 3) := by decide +kernel
theorem dJ3_checkIndex_8e157_9 : decode cJ3_checkIndex_8e157 9 = .ok (.aload_n 2, 1) := by decide +kernel
theorem dJ3_checkIndex_8e157_10 : decode cJ3_checkIndex_8e157 10 = .ok (.iload_n 0, 1) := by decide +kernel
theorem dJ3_checkIndex_8e157_11 : decode cJ3_checkIndex_8e157 11 = .ok (.iload_n 1, 1) := by decide +kernel
theorem dJ3_checkIndex_8e157_12 : decode cJ3_checkIndex_8e157 12 = .ok (.invokestatic 95, 3) := by decide +kernel
theorem dJ3_checkIndex_8e157_15 : decode cJ3_checkIndex_8e157 15 = .ok (.athrow, 1) := by decide +kernel
theorem dJ3_checkIndex_8e157_16 : decode cJ3_checkIndex_8e157 16 = .ok (.iload_n 0, 1) := by decide +kernel
theorem dJ3_checkIndex_8e157_17 : decode cJ3_checkIndex_8e157 17 = .ok (.ireturn, 1) := by decide +kernel
theorem tables_str : ∀ k, k < 7 → ∀ j, j < strLen.getD k 0 → ((((strByt.getD k []).getD j 0) &&& 255).toUInt32 % 65536).toInt32 = (strByt.getD k []).getD j 0 ∧ narrow .char (.int ((strByt.getD k []).getD j 0)) = .int ((strByt.getD k []).getD j 0) := by decide +kernel
theorem str_len : ∀ k, k < 7 → strLen.getD k 0 < 16 := by decide +kernel
theorem inb_lt {j : Int32} {n : Nat} (h : inb j n) : 0 ≤ j ∧ j.toNatClampNeg < n := by
  refine ⟨?_, Nat.not_le.mp (fun q => h (Or.inr q))⟩
  exact Int32.not_lt.mp (fun q => h (Or.inl q))
set_option maxHeartbeats 4000000 in
theorem c_J0_coder_7d493 (ids : List (Nat × Nat)) (Hn : Ndp ids) (k : Nat) (hk : k < 7) (t0 : Sg) : Mt0 mJ0_coder_7d493 yJ0_coder_7d493 ids [aR (5, k)] t0 (some (aI 0)) t0 := by
  refine Mt_of (K := kI) (o := some (0, t0)) (x := ((0 : Int32), t0)) (L := [some (aR (5, k))]) ?_ rfl (fun _ _ => trivial) (by decide) rfl Hn (fun _ => rfl) (fun _ => (Nat.le_of_ble_eq_true rfl))
  refine G_st (x_getC dJ0_coder_7d493_0 tw_369) ?_
  refine G_st (x_if_eq_f 13 dJ0_coder_7d493_3 (by decide) (by decide)) ?_
  refine G_st (x_aload_n dJ0_coder_7d493_6 rfl) ?_
  refine G_st (x_scod dJ0_coder_7d493_7 tw_1360 hk) ?_
  refine G_st (x_goto (tgt := 14) dJ0_coder_7d493_10 (by decide)) ?_
  exact G_ret rfl ⟨dJ0_coder_7d493_14, _, rfl, rfl⟩ rfl
set_option maxHeartbeats 4000000 in
theorem c_J0_isLatin1_aae02 (ids : List (Nat × Nat)) (Hn : Ndp ids) (k : Nat) (hk : k < 7) (t0 : Sg) : Mt0 mJ0_isLatin1_aae02 yJ0_isLatin1_aae02 ids [aR (5, k)] t0 (some (aI 1)) t0 := by
  refine Mt_of (K := kI) (o := some (1, t0)) (x := ((1 : Int32), t0)) (L := [some (aR (5, k))]) ?_ rfl (fun _ _ => trivial) (by decide) rfl Hn (fun _ => rfl) (fun _ => (Nat.le_of_ble_eq_true rfl))
  refine G_st (x_getC dJ0_isLatin1_aae02_0 tw_369) ?_
  refine G_st (x_if_eq_f 17 dJ0_isLatin1_aae02_3 (by decide) (by decide)) ?_
  refine G_st (x_aload_n dJ0_isLatin1_aae02_6 rfl) ?_
  refine G_st (x_scod dJ0_isLatin1_aae02_7 tw_1360 hk) ?_
  refine G_st (x_if_ne_f 17 dJ0_isLatin1_aae02_10 (by decide) rfl) ?_
  refine G_st (x_iconst (1 : Int32) dJ0_isLatin1_aae02_13 rfl) ?_
  refine G_st (x_goto (tgt := 18) dJ0_isLatin1_aae02_14 (by decide)) ?_
  exact G_ret rfl ⟨dJ0_isLatin1_aae02_18, _, rfl, nar_b (Or.inr rfl)⟩ rfl
set_option maxHeartbeats 4000000 in
theorem c_J0_length_8abf5 (ids : List (Nat × Nat)) (Hn : Ndp ids) (i0 : Nat × Nat) (Ki0 : isStr i0) (t0 : Sg) (r : Int32) (t1 : Sg) (hf : f_J0_length_8abf5 i0 t0 = some (r, t1)) : Mt0 mJ0_length_8abf5 yJ0_length_8abf5 ids [aR i0] t0 (some (aI r)) t1 := by
  obtain ⟨a, k⟩ := i0
  obtain ⟨ha, hk⟩ := Ki0
  dsimp only at ha hk
  subst ha
  refine Mt_of (K := kI) (x := (r, t1)) (L := [some (aR (5, k))]) ?_ hf (fun _ _ => trivial) (by decide) rfl Hn (fun _ => rfl) (fun _ => (Nat.le_of_ble_eq_true rfl))
  unfold f_J0_length_8abf5
  refine G_st (x_aload_n dJ0_length_8abf5_0 rfl) ?_
  refine G_st (x_sval dJ0_length_8abf5_1 tw_1359 hk) ?_
  refine G_st (x_slen dJ0_length_8abf5_4 hk) ?_
  refine G_st (x_aload_n dJ0_length_8abf5_5 rfl) ?_
  refine G_st (x_callStr [aI (nI (strLen.getD k 0))] (c_J0_coder_7d493 ids Hn k hk t0) dJ0_length_8abf5_6 tw_365 kc_J0_coder_7d493 ⟨rfl, hk⟩ rfl rfl ⟨(Nat.le_of_ble_eq_true rfl), (Nat.le_of_ble_eq_true rfl)⟩ (Nat.le_of_ble_eq_true rfl) rfl) ?_
  refine G_st (x_ishr dJ0_length_8abf5_9) ?_
  have e : nI (strLen.getD k 0) >>> ((0 : Int32) &&& 31) = nI (strLen.getD k 0) := by
    have h := str_len k hk
    rw [show ((0 : Int32) &&& 31) = 0 by decide, pk_shrN (by omega) 0 0 (by decide)]
    simp
  rw [e]
  exact G_ret rfl ⟨dJ0_length_8abf5_10, _, rfl, rfl⟩ rfl
set_option maxHeartbeats 4000000 in
theorem c_J0_isEmpty_aae02 (ids : List (Nat × Nat)) (Hn : Ndp ids) (i0 : Nat × Nat) (Ki0 : isStr i0) (t0 : Sg) (r : Int32) (t1 : Sg) (hf : f_J0_isEmpty_aae02 i0 t0 = some (r, t1)) : Mt0 mJ0_isEmpty_aae02 yJ0_isEmpty_aae02 ids [aR i0] t0 (some (aI r)) t1 := by
  obtain ⟨a, k⟩ := i0
  obtain ⟨ha, hk⟩ := Ki0
  dsimp only at ha hk
  subst ha
  refine Mt_of (K := kI) (x := (r, t1)) (L := [some (aR (5, k))]) ?_ hf (fun _ _ => trivial) (by decide) rfl Hn (fun _ => rfl) (fun _ => (Nat.le_of_ble_eq_true rfl))
  unfold f_J0_isEmpty_aae02
  refine G_st (x_aload_n dJ0_isEmpty_aae02_0 rfl) ?_
  refine G_st (x_sval dJ0_isEmpty_aae02_1 tw_1359 hk) ?_
  refine G_st (x_slen dJ0_isEmpty_aae02_4 hk) ?_
  have hl := str_len k hk
  by_cases h0 : strLen.getD k 0 = 0
  · dsimp only
    rw [if_pos h0]
    refine G_st (x_if_ne_f 12 dJ0_isEmpty_aae02_5 (by decide) (by rw [h0]; rfl)) ?_
    refine G_st (x_iconst (1 : Int32) dJ0_isEmpty_aae02_8 rfl) ?_
    refine G_st (x_goto (tgt := 13) dJ0_isEmpty_aae02_9 (by decide)) ?_
    exact G_ret rfl ⟨dJ0_isEmpty_aae02_13, _, rfl, nar_b (Or.inr rfl)⟩ rfl
  · dsimp only
    rw [if_neg h0]
    refine G_st (x_if_ne_t (tgt := 12) dJ0_isEmpty_aae02_5 (by decide) (nI_ne0 (by omega) (by omega))) ?_
    refine G_st (x_iconst (0 : Int32) dJ0_isEmpty_aae02_12 rfl) ?_
    exact G_ret rfl ⟨dJ0_isEmpty_aae02_13, _, rfl, nar_b (Or.inl rfl)⟩ rfl
set_option maxHeartbeats 4000000 in
theorem c_J3_checkIndex (ids : List (Nat × Nat)) (Hn : Ndp ids) (i j : Int32) (h0 : ¬ i < 0) (h1 : i < j) (t0 : Sg) (v : Value) (hv : v.category = 1) (l : Launch) (D : va_G) (cI : ClassId) (ad : Nat × Nat → Nat) : Met l yJ3_checkIndex_8e157 (wsM mJ3_checkIndex_8e157 yJ3_checkIndex_8e157) (rmM mJ3_checkIndex_8e157) (va_Pc [.int i, .int j, v] (fun U => va_P D vwCl (wOf ids cI ad t0) U.heap ∧ St ids D cI ad U)) (fun _ st o t => o = .returned (some (.int i)) ∧ va_P D vwCl (wOf ids cI ad t0) t.heap ∧ va_F (inA ids ad) st t) 0 0 (inA ids ad) := by
  refine Met_of (K := kI) (o := some (i, t0)) (x := (i, t0)) (L := [some (aI i), some (aI j), none]) l D cI ad ?_ rfl (fun _ _ => trivial) (by decide) rfl Hn ?_ ?_
  · refine G_st (x_iload_n dJ3_checkIndex_8e157_0 rfl) ?_
    refine G_st (x_if_lt_f 9 dJ3_checkIndex_8e157_1 (by decide) h0) ?_
    refine G_st (x_iload_n dJ3_checkIndex_8e157_4 rfl) ?_
    refine G_st (x_iload_n dJ3_checkIndex_8e157_5 rfl) ?_
    refine G_st (x_icmp_lt_t (tgt := 16) dJ3_checkIndex_8e157_6 (by decide) h1) ?_
    refine G_st (x_iload_n dJ3_checkIndex_8e157_16 rfl) ?_
    exact G_ret rfl ⟨dJ3_checkIndex_8e157_17, _, rfl, rfl⟩ rfl
  · intro q hq
    simp only [toAL, List.mem_cons, List.not_mem_nil, or_false] at hq
    rcases hq with rfl | rfl
    · simp [lv_args, tr, Value.category]
    · simp [lv_args, tr, Value.category]
  · cases v <;> first | exact Nat.le_of_ble_eq_true rfl | (cases hv)
set_option maxHeartbeats 4000000 in
theorem c_J0_checkIndex_df160 (ids : List (Nat × Nat)) (Hn : Ndp ids) (i j : Int32) (h0 : ¬ i < 0) (h1 : i < j) (t0 : Sg) : Mt0 mJ0_checkIndex_df160 yJ0_checkIndex_df160 ids [aI i, aI j] t0 none t0 := by
  refine Mt_of (K := kV) (o := some ((), t0)) (x := ((), t0)) (L := [some (aI i), some (aI j)]) ?_ rfl (fun _ _ => trivial) (by decide) rfl Hn (fun _ => rfl) (fun _ => (Nat.le_of_ble_eq_true rfl))
  refine G_st (x_iload_n dJ0_checkIndex_df160_0 rfl) ?_
  refine G_st (x_iload_n dJ0_checkIndex_df160_1 rfl) ?_
  refine G_st (x_fmt dJ0_checkIndex_df160_2 dJ0_checkIndex_df160_5 tw_385 tw_387 kc_J3_checkIndex_8e157 ⟨(Nat.le_of_ble_eq_true rfl), (Nat.le_of_ble_eq_true rfl)⟩ (Nat.le_of_ble_eq_true rfl) (fun v hv l D cI ad => c_J3_checkIndex ids Hn i j h0 h1 t0 v hv l D cI ad)) ?_
  refine G_st (x_pop dJ0_checkIndex_df160_8 rfl) ?_
  exact G_ret rfl ⟨rfl, dJ0_checkIndex_df160_9⟩ rfl
set_option maxHeartbeats 4000000 in
theorem c_J1_charAt_3b067 (ids : List (Nat × Nat)) (Hn : Ndp ids) (k : Nat) (hk : k < 7) (j : Int32) (hj : inb j (strLen.getD k 0)) (t0 : Sg) : Mt0 mJ1_charAt_3b067 yJ1_charAt_3b067 ids [aR (6, k), aI j] t0 (some (aI ((strByt.getD k []).getD j.toNatClampNeg 0))) t0 := by
  have hl := str_len k hk
  obtain ⟨j0, j1⟩ := inb_lt hj
  have hjn : ¬ j < 0 := fun q => hj (Or.inl q)
  have hjl : j < nI (strLen.getD k 0) := by
    obtain ⟨n, hn1, rfl⟩ := nI_of hjn
    rw [nI_clamp hn1] at j1
    exact nI_lt j1 (by omega)
  refine Mt_of (K := kI) (o := some (_, t0)) (x := (_, t0)) (L := [some (aR (6, k)), some (aI j)]) ?_ rfl (fun _ _ => trivial) (by decide) rfl Hn (fun _ => rfl) (fun _ => (Nat.le_of_ble_eq_true rfl))
  refine G_st (x_iload_n dJ1_charAt_3b067_0 rfl) ?_
  refine G_st (x_aload_n dJ1_charAt_3b067_1 rfl) ?_
  refine G_st (x_slen dJ1_charAt_3b067_2 hk) ?_
  refine G_st (x_callS [] (c_J0_checkIndex_df160 ids Hn j (nI (strLen.getD k 0)) hjn hjl t0) dJ1_charAt_3b067_3 tw_382 kc_J0_checkIndex_df160 rfl ⟨(Nat.le_of_ble_eq_true rfl), (Nat.le_of_ble_eq_true rfl)⟩ (Nat.le_of_ble_eq_true rfl) rfl) ?_
  refine G_st (x_aload_n dJ1_charAt_3b067_6 rfl) ?_
  refine G_st (x_iload_n dJ1_charAt_3b067_7 rfl) ?_
  refine G_st (x_sbal dJ1_charAt_3b067_8 hk hj) ?_
  refine G_st (x_sipush (255 : Int32) dJ1_charAt_3b067_9 rfl) ?_
  refine G_st (x_iand dJ1_charAt_3b067_12) ?_
  refine G_st (x_i2c _ dJ1_charAt_3b067_13 (tables_str k hk _ j1).1) ?_
  exact G_ret rfl ⟨dJ1_charAt_3b067_14, _, rfl, (tables_str k hk _ j1).2⟩ rfl
set_option maxHeartbeats 4000000 in
theorem c_J0_charAt_5068e (ids : List (Nat × Nat)) (Hn : Ndp ids) (i0 : Nat × Nat) (v1 : Int32) (Ki0 : isStr i0) (t0 : Sg) (r : Int32) (t1 : Sg) (hf : f_J0_charAt_5068e i0 v1 t0 = some (r, t1)) : Mt0 mJ0_charAt_5068e yJ0_charAt_5068e ids [aR i0, aI v1] t0 (some (aI r)) t1 := by
  obtain ⟨a, k⟩ := i0
  obtain ⟨ha, hk⟩ := Ki0
  dsimp only at ha hk
  subst ha
  refine Mt_of (K := kI) (x := (r, t1)) (L := [some (aR (5, k)), some (aI v1)]) ?_ hf (fun _ _ => trivial) (by decide) rfl Hn (fun _ => rfl) (fun _ => (Nat.le_of_ble_eq_true rfl))
  unfold f_J0_charAt_5068e
  refine G_chk (fun hj => ?_)
  have j1 := (inb_lt hj).2
  refine G_st (x_aload_n dJ0_charAt_5068e_0 rfl) ?_
  refine G_st (x_callStr [] (c_J0_isLatin1_aae02 ids Hn k hk t0) dJ0_charAt_5068e_1 tw_375 kc_J0_isLatin1_aae02 ⟨rfl, hk⟩ rfl rfl ⟨(Nat.le_of_ble_eq_true rfl), (Nat.le_of_ble_eq_true rfl)⟩ (Nat.le_of_ble_eq_true rfl) rfl) ?_
  refine G_st (x_if_eq_f 16 dJ0_charAt_5068e_4 (by decide) (by decide)) ?_
  refine G_st (x_aload_n dJ0_charAt_5068e_7 rfl) ?_
  refine G_st (x_sval dJ0_charAt_5068e_8 tw_1359 hk) ?_
  refine G_st (x_iload_n dJ0_charAt_5068e_11 rfl) ?_
  refine G_st (x_callS [] (c_J1_charAt_3b067 ids Hn k hk v1 hj t0) dJ0_charAt_5068e_12 tw_379 kc_J1_charAt_3b067 rfl ⟨(Nat.le_of_ble_eq_true rfl), (Nat.le_of_ble_eq_true rfl)⟩ (Nat.le_of_ble_eq_true rfl) rfl) ?_
  exact G_ret rfl ⟨dJ0_charAt_5068e_15, _, rfl, (tables_str k hk _ j1).2⟩ rfl

theorem dX4_formOf_0 : decode cX4_formOf 0 = .ok (.iload_n 0, 1) := by decide +kernel
theorem dX4_formOf_1 : decode cX4_formOf 1 = .ok (.lookupswitch 77 #[(97, 65), (98, 71), (102, 59), (104, 74), (115, 62), (119, 68)], 59) := by decide +kernel
theorem dX4_formOf_60 : decode cX4_formOf 60 = .ok (.ldc 64, 2) := by decide +kernel
theorem dX4_formOf_62 : decode cX4_formOf 62 = .ok (.areturn, 1) := by decide +kernel
theorem dX4_formOf_63 : decode cX4_formOf 63 = .ok (.ldc 66, 2) := by decide +kernel
theorem dX4_formOf_65 : decode cX4_formOf 65 = .ok (.areturn, 1) := by decide +kernel
theorem dX4_formOf_66 : decode cX4_formOf 66 = .ok (.ldc 68, 2) := by decide +kernel
theorem dX4_formOf_68 : decode cX4_formOf 68 = .ok (.areturn, 1) := by decide +kernel
theorem dX4_formOf_69 : decode cX4_formOf 69 = .ok (.ldc 70, 2) := by decide +kernel
theorem dX4_formOf_71 : decode cX4_formOf 71 = .ok (.areturn, 1) := by decide +kernel
theorem dX4_formOf_72 : decode cX4_formOf 72 = .ok (.ldc 72, 2) := by decide +kernel
theorem dX4_formOf_74 : decode cX4_formOf 74 = .ok (.areturn, 1) := by decide +kernel
theorem dX4_formOf_75 : decode cX4_formOf 75 = .ok (.ldc 74, 2) := by decide +kernel
theorem dX4_formOf_77 : decode cX4_formOf 77 = .ok (.areturn, 1) := by decide +kernel
theorem dX4_formOf_78 : decode cX4_formOf 78 = .ok (.ldc 76, 2) := by decide +kernel
theorem dX4_formOf_80 : decode cX4_formOf 80 = .ok (.areturn, 1) := by decide +kernel
set_option maxRecDepth 100000 in
set_option maxHeartbeats 4000000 in
theorem g_X4_formOf (ids : List (Nat × Nat)) (Hn : Ndp ids) (v0 : Int32)  (t0 : Sg) : Gj kR mX4_formOf ids 0 [some (aI v0)] [] t0 (f_X4_formOf v0 t0) := by
  unfold f_X4_formOf
  refine G_st (x_iload_n dX4_formOf_0 rfl) ?_
  refine G_ite (fun c1 => ?_) (fun c1 => ?_)
  · refine G_st (x_look (off := (65)) (tgt := 66) dX4_formOf_1 (by decide) (by rw [c1] <;> rfl) (by decide)) ?_
    refine G_st (x_ldcS 2 dX4_formOf_66 rfl rfl (Nat.le_of_ble_eq_true rfl)) ?_
    exact G_ret rfl ⟨dX4_formOf_68, _, rfl⟩ rfl
  refine G_ite (fun c2 => ?_) (fun c2 => ?_)
  · refine G_st (x_look (off := (71)) (tgt := 72) dX4_formOf_1 (by decide) (by rw [c2] <;> rfl) (by decide)) ?_
    refine G_st (x_ldcS 4 dX4_formOf_72 rfl rfl (Nat.le_of_ble_eq_true rfl)) ?_
    exact G_ret rfl ⟨dX4_formOf_74, _, rfl⟩ rfl
  refine G_ite (fun c3 => ?_) (fun c3 => ?_)
  · refine G_st (x_look (off := (59)) (tgt := 60) dX4_formOf_1 (by decide) (by rw [c3] <;> rfl) (by decide)) ?_
    refine G_st (x_ldcS 0 dX4_formOf_60 rfl rfl (Nat.le_of_ble_eq_true rfl)) ?_
    exact G_ret rfl ⟨dX4_formOf_62, _, rfl⟩ rfl
  refine G_ite (fun c4 => ?_) (fun c4 => ?_)
  · refine G_st (x_look (off := (74)) (tgt := 75) dX4_formOf_1 (by decide) (by rw [c4] <;> rfl) (by decide)) ?_
    refine G_st (x_ldcS 5 dX4_formOf_75 rfl rfl (Nat.le_of_ble_eq_true rfl)) ?_
    exact G_ret rfl ⟨dX4_formOf_77, _, rfl⟩ rfl
  refine G_ite (fun c5 => ?_) (fun c5 => ?_)
  · refine G_st (x_look (off := (62)) (tgt := 63) dX4_formOf_1 (by decide) (by rw [c5] <;> rfl) (by decide)) ?_
    refine G_st (x_ldcS 1 dX4_formOf_63 rfl rfl (Nat.le_of_ble_eq_true rfl)) ?_
    exact G_ret rfl ⟨dX4_formOf_65, _, rfl⟩ rfl
  refine G_ite (fun c6 => ?_) (fun c6 => ?_)
  · refine G_st (x_look (off := (68)) (tgt := 69) dX4_formOf_1 (by decide) (by rw [c6] <;> rfl) (by decide)) ?_
    refine G_st (x_ldcS 3 dX4_formOf_69 rfl rfl (Nat.le_of_ble_eq_true rfl)) ?_
    exact G_ret rfl ⟨dX4_formOf_71, _, rfl⟩ rfl
  refine G_st (x_look (off := (77)) (tgt := 78) dX4_formOf_1 (by decide) (by refine (lv_osw c1 rfl).trans ?_; refine (lv_osw c2 rfl).trans ?_; refine (lv_osw c3 rfl).trans ?_; refine (lv_osw c4 rfl).trans ?_; refine (lv_osw c5 rfl).trans ?_; refine (lv_osw c6 rfl).trans ?_; rfl) (by decide)) ?_
  refine G_st (x_ldcS 6 dX4_formOf_78 rfl rfl (Nat.le_of_ble_eq_true rfl)) ?_
  exact G_ret rfl ⟨dX4_formOf_80, _, rfl⟩ rfl
set_option maxRecDepth 100000 in
set_option maxHeartbeats 4000000 in
theorem c_X4_formOf (ids : List (Nat × Nat)) (Hn : Ndp ids) (v0 : Int32)  (t0 : Sg) (r : (Nat × Nat)) (t1 : Sg) (hf : f_X4_formOf v0 t0 = some (r, t1)) : Mt0 mX4_formOf yX4_formOf ids [aI v0] t0 (some (aR r)) t1 :=
  Mt_of (x := (r, t1)) (g_X4_formOf ids Hn v0  t0) hf (fun _ _ => trivial) (by decide) rfl Hn (fun _ => rfl) (fun _ => Nat.le_of_ble_eq_true rfl)
theorem dX4_lengthOf_0 : decode cX4_lengthOf 0 = .ok (.iload_n 1, 1) := by decide +kernel
theorem dX4_lengthOf_1 : decode cX4_lengthOf 1 = .ok (.lookupswitch 93 #[(100, 43), (104, 87), (111, 57), (115, 71)], 43) := by decide +kernel
theorem dX4_lengthOf_44 : decode cX4_lengthOf 44 = .ok (.aload_n 0, 1) := by decide +kernel
theorem dX4_lengthOf_45 : decode cX4_lengthOf 45 = .ok (.iload_n 2, 1) := by decide +kernel
theorem dX4_lengthOf_46 : decode cX4_lengthOf 46 = .ok (.invokevirtual 78, 3) := by decide +kernel
theorem dX4_lengthOf_49 : decode cX4_lengthOf 49 = .ok (.ifCond .lt 7, 3) := by decide +kernel
theorem dX4_lengthOf_52 : decode cX4_lengthOf 52 = .ok (.iconst 1, 1) := by decide +kernel
theorem dX4_lengthOf_53 : decode cX4_lengthOf 53 = .ok (.goto 4, 3) := by decide +kernel
theorem dX4_lengthOf_56 : decode cX4_lengthOf 56 = .ok (.iconst (-1), 1) := by decide +kernel
theorem dX4_lengthOf_57 : decode cX4_lengthOf 57 = .ok (.ireturn, 1) := by decide +kernel
theorem dX4_lengthOf_58 : decode cX4_lengthOf 58 = .ok (.aload_n 0, 1) := by decide +kernel
theorem dX4_lengthOf_59 : decode cX4_lengthOf 59 = .ok (.iload_n 2, 1) := by decide +kernel
theorem dX4_lengthOf_60 : decode cX4_lengthOf 60 = .ok (.invokevirtual 78, 3) := by decide +kernel
theorem dX4_lengthOf_63 : decode cX4_lengthOf 63 = .ok (.ifCond .lt 7, 3) := by decide +kernel
theorem dX4_lengthOf_66 : decode cX4_lengthOf 66 = .ok (.iconst 1, 1) := by decide +kernel
theorem dX4_lengthOf_67 : decode cX4_lengthOf 67 = .ok (.goto 4, 3) := by decide +kernel
theorem dX4_lengthOf_70 : decode cX4_lengthOf 70 = .ok (.iconst 0, 1) := by decide +kernel
theorem dX4_lengthOf_71 : decode cX4_lengthOf 71 = .ok (.ireturn, 1) := by decide +kernel
theorem dX4_lengthOf_72 : decode cX4_lengthOf 72 = .ok (.aload_n 0, 1) := by decide +kernel
theorem dX4_lengthOf_73 : decode cX4_lengthOf 73 = .ok (.iload_n 2, 1) := by decide +kernel
theorem dX4_lengthOf_74 : decode cX4_lengthOf 74 = .ok (.invokevirtual 81, 3) := by decide +kernel
theorem dX4_lengthOf_77 : decode cX4_lengthOf 77 = .ok (.bipush (-2), 2) := by decide +kernel
theorem dX4_lengthOf_79 : decode cX4_lengthOf 79 = .ok (.if_icmp .eq 7, 3) := by decide +kernel
theorem dX4_lengthOf_82 : decode cX4_lengthOf 82 = .ok (.iconst 1, 1) := by decide +kernel
theorem dX4_lengthOf_83 : decode cX4_lengthOf 83 = .ok (.goto 4, 3) := by decide +kernel
theorem dX4_lengthOf_86 : decode cX4_lengthOf 86 = .ok (.iconst (-1), 1) := by decide +kernel
theorem dX4_lengthOf_87 : decode cX4_lengthOf 87 = .ok (.ireturn, 1) := by decide +kernel
theorem dX4_lengthOf_88 : decode cX4_lengthOf 88 = .ok (.aload_n 0, 1) := by decide +kernel
theorem dX4_lengthOf_89 : decode cX4_lengthOf 89 = .ok (.iload_n 2, 1) := by decide +kernel
theorem dX4_lengthOf_90 : decode cX4_lengthOf 90 = .ok (.invokevirtual 84, 3) := by decide +kernel
theorem dX4_lengthOf_93 : decode cX4_lengthOf 93 = .ok (.ireturn, 1) := by decide +kernel
theorem dX4_lengthOf_94 : decode cX4_lengthOf 94 = .ok (.aload_n 0, 1) := by decide +kernel
theorem dX4_lengthOf_95 : decode cX4_lengthOf 95 = .ok (.iload_n 2, 1) := by decide +kernel
theorem dX4_lengthOf_96 : decode cX4_lengthOf 96 = .ok (.invokevirtual 27, 3) := by decide +kernel
theorem dX4_lengthOf_99 : decode cX4_lengthOf 99 = .ok (.iload_n 1, 1) := by decide +kernel
theorem dX4_lengthOf_100 : decode cX4_lengthOf 100 = .ok (.if_icmp .ne 7, 3) := by decide +kernel
theorem dX4_lengthOf_103 : decode cX4_lengthOf 103 = .ok (.iconst 1, 1) := by decide +kernel
theorem dX4_lengthOf_104 : decode cX4_lengthOf 104 = .ok (.goto 4, 3) := by decide +kernel
theorem dX4_lengthOf_107 : decode cX4_lengthOf 107 = .ok (.iconst (-1), 1) := by decide +kernel
theorem dX4_lengthOf_108 : decode cX4_lengthOf 108 = .ok (.ireturn, 1) := by decide +kernel
set_option maxRecDepth 100000 in
set_option maxHeartbeats 4000000 in
theorem g_X4_lengthOf (ids : List (Nat × Nat)) (Hn : Ndp ids) (v1 : Int32) (v2 : Int32) (H0_4 : InR ids 0 4 5) (t0 : Sg) : Gj kI mX4_lengthOf ids 0 [some (aR (0, 4)), some (aI v1), some (aI v2)] [] t0 (f_X4_lengthOf v1 v2 t0) := by
  unfold f_X4_lengthOf
  refine G_st (x_iload_n dX4_lengthOf_0 rfl) ?_
  refine G_ite (fun c1 => ?_) (fun c1 => ?_)
  · refine G_st (x_look (off := (43)) (tgt := 44) dX4_lengthOf_1 (by decide) (by rw [c1] <;> rfl) (by decide)) ?_
    refine G_st (x_aload_n dX4_lengthOf_44 rfl) ?_
    refine G_st (x_iload_n dX4_lengthOf_45 rfl) ?_
    refine G_bd (fun x2 t3 h4 => ?_)
    refine G_st (x_callV [] (c_X4_digit ids Hn v2 H0_4 _ _ _ h4) dX4_lengthOf_46 tw_413 kc_X4_digit (H0_4 4 (Nat.le_of_ble_eq_true rfl) (Nat.le_of_ble_eq_true rfl)) rfl rfl rfl rfl ⟨Nat.le_of_ble_eq_true rfl, Nat.le_of_ble_eq_true rfl⟩ (Nat.le_of_ble_eq_true rfl) rfl) ?_
    have e6 : Tj mX4_lengthOf ids 49 [some (aR (0, 4)), some (aI v1), some (aI v2)] [aI x2] t3 57 [some (aR (0, 4)), some (aI v1), some (aI v2)] [aI (if x2 < 0 then (-1 : Int32) else (1 : Int32))] t3 := by
      refine Tj.dia (fun c5 => ?_) (fun c5 => ?_)
      · refine Tj.tr (x_if_lt_t (tgt := 56) dX4_lengthOf_49 (by decide) c5) ?_
        refine Tj.tr (x_iconst (-1 : Int32) dX4_lengthOf_56 rfl) ?_
        exact Tj.rf
      · refine Tj.tr (x_if_lt_f 56 dX4_lengthOf_49 (by decide) c5) ?_
        refine Tj.tr (x_iconst (1 : Int32) dX4_lengthOf_52 rfl) ?_
        refine Tj.tr (x_goto (tgt := 57) dX4_lengthOf_53 (by decide)) ?_
        exact Tj.rf
    refine G_st e6 ?_
    exact G_ret rfl ⟨dX4_lengthOf_57, _, rfl, rfl⟩ rfl
  refine G_ite (fun c7 => ?_) (fun c7 => ?_)
  · refine G_st (x_look (off := (87)) (tgt := 88) dX4_lengthOf_1 (by decide) (by rw [c7] <;> rfl) (by decide)) ?_
    refine G_st (x_aload_n dX4_lengthOf_88 rfl) ?_
    refine G_st (x_iload_n dX4_lengthOf_89 rfl) ?_
    refine G_bd (fun x8 t9 h10 => ?_)
    refine G_st (x_callV [] (c_X4_hoursFrom ids Hn v2 H0_4 _ _ _ h10) dX4_lengthOf_90 tw_424 kc_X4_hoursFrom (H0_4 4 (Nat.le_of_ble_eq_true rfl) (Nat.le_of_ble_eq_true rfl)) rfl rfl rfl rfl ⟨Nat.le_of_ble_eq_true rfl, Nat.le_of_ble_eq_true rfl⟩ (Nat.le_of_ble_eq_true rfl) rfl) ?_
    exact G_ret rfl ⟨dX4_lengthOf_93, _, rfl, rfl⟩ rfl
  refine G_ite (fun c11 => ?_) (fun c11 => ?_)
  · refine G_st (x_look (off := (57)) (tgt := 58) dX4_lengthOf_1 (by decide) (by rw [c11] <;> rfl) (by decide)) ?_
    refine G_st (x_aload_n dX4_lengthOf_58 rfl) ?_
    refine G_st (x_iload_n dX4_lengthOf_59 rfl) ?_
    refine G_bd (fun x12 t13 h14 => ?_)
    refine G_st (x_callV [] (c_X4_digit ids Hn v2 H0_4 _ _ _ h14) dX4_lengthOf_60 tw_413 kc_X4_digit (H0_4 4 (Nat.le_of_ble_eq_true rfl) (Nat.le_of_ble_eq_true rfl)) rfl rfl rfl rfl ⟨Nat.le_of_ble_eq_true rfl, Nat.le_of_ble_eq_true rfl⟩ (Nat.le_of_ble_eq_true rfl) rfl) ?_
    have e16 : Tj mX4_lengthOf ids 63 [some (aR (0, 4)), some (aI v1), some (aI v2)] [aI x12] t13 71 [some (aR (0, 4)), some (aI v1), some (aI v2)] [aI (if x12 < 0 then (0 : Int32) else (1 : Int32))] t13 := by
      refine Tj.dia (fun c15 => ?_) (fun c15 => ?_)
      · refine Tj.tr (x_if_lt_t (tgt := 70) dX4_lengthOf_63 (by decide) c15) ?_
        refine Tj.tr (x_iconst (0 : Int32) dX4_lengthOf_70 rfl) ?_
        exact Tj.rf
      · refine Tj.tr (x_if_lt_f 70 dX4_lengthOf_63 (by decide) c15) ?_
        refine Tj.tr (x_iconst (1 : Int32) dX4_lengthOf_66 rfl) ?_
        refine Tj.tr (x_goto (tgt := 71) dX4_lengthOf_67 (by decide)) ?_
        exact Tj.rf
    refine G_st e16 ?_
    exact G_ret rfl ⟨dX4_lengthOf_71, _, rfl, rfl⟩ rfl
  refine G_ite (fun c17 => ?_) (fun c17 => ?_)
  · refine G_st (x_look (off := (71)) (tgt := 72) dX4_lengthOf_1 (by decide) (by rw [c17] <;> rfl) (by decide)) ?_
    refine G_st (x_aload_n dX4_lengthOf_72 rfl) ?_
    refine G_st (x_iload_n dX4_lengthOf_73 rfl) ?_
    refine G_bd (fun x18 t19 h20 => ?_)
    refine G_st (x_callV [] (c_X4_sign ids Hn v2 H0_4 _ _ _ h20) dX4_lengthOf_74 tw_420 kc_X4_sign (H0_4 4 (Nat.le_of_ble_eq_true rfl) (Nat.le_of_ble_eq_true rfl)) rfl rfl rfl rfl ⟨Nat.le_of_ble_eq_true rfl, Nat.le_of_ble_eq_true rfl⟩ (Nat.le_of_ble_eq_true rfl) rfl) ?_
    refine G_st (x_bipush (-2 : Int32) dX4_lengthOf_77 rfl) ?_
    have e22 : Tj mX4_lengthOf ids 79 [some (aR (0, 4)), some (aI v1), some (aI v2)] [aI (-2 : Int32), aI x18] t19 87 [some (aR (0, 4)), some (aI v1), some (aI v2)] [aI (if x18 = (-2 : Int32) then (-1 : Int32) else (1 : Int32))] t19 := by
      refine Tj.dia (fun c21 => ?_) (fun c21 => ?_)
      · refine Tj.tr (x_icmp_eq_t (tgt := 86) dX4_lengthOf_79 (by decide) c21) ?_
        refine Tj.tr (x_iconst (-1 : Int32) dX4_lengthOf_86 rfl) ?_
        exact Tj.rf
      · refine Tj.tr (x_icmp_eq_f 86 dX4_lengthOf_79 (by decide) c21) ?_
        refine Tj.tr (x_iconst (1 : Int32) dX4_lengthOf_82 rfl) ?_
        refine Tj.tr (x_goto (tgt := 87) dX4_lengthOf_83 (by decide)) ?_
        exact Tj.rf
    refine G_st e22 ?_
    exact G_ret rfl ⟨dX4_lengthOf_87, _, rfl, rfl⟩ rfl
  refine G_st (x_look (off := (93)) (tgt := 94) dX4_lengthOf_1 (by decide) (by refine (lv_osw c1 rfl).trans ?_; refine (lv_osw c7 rfl).trans ?_; refine (lv_osw c11 rfl).trans ?_; refine (lv_osw c17 rfl).trans ?_; rfl) (by decide)) ?_
  refine G_st (x_aload_n dX4_lengthOf_94 rfl) ?_
  refine G_st (x_iload_n dX4_lengthOf_95 rfl) ?_
  refine G_bd (fun x23 t24 h25 => ?_)
  refine G_st (x_callV [] (c_X4_letter ids Hn v2 H0_4 _ _ _ h25) dX4_lengthOf_96 tw_342 kc_X4_letter (H0_4 4 (Nat.le_of_ble_eq_true rfl) (Nat.le_of_ble_eq_true rfl)) rfl rfl rfl rfl ⟨Nat.le_of_ble_eq_true rfl, Nat.le_of_ble_eq_true rfl⟩ (Nat.le_of_ble_eq_true rfl) rfl) ?_
  refine G_st (x_iload_n dX4_lengthOf_99 rfl) ?_
  have e27 : Tj mX4_lengthOf ids 100 [some (aR (0, 4)), some (aI v1), some (aI v2)] [aI v1, aI x23] t24 108 [some (aR (0, 4)), some (aI v1), some (aI v2)] [aI (if x23 = v1 then (1 : Int32) else (-1 : Int32))] t24 := by
    refine Tj.dia (fun c26 => ?_) (fun c26 => ?_)
    · refine Tj.tr (x_icmp_ne_f 107 dX4_lengthOf_100 (by decide) c26) ?_
      refine Tj.tr (x_iconst (1 : Int32) dX4_lengthOf_103 rfl) ?_
      refine Tj.tr (x_goto (tgt := 108) dX4_lengthOf_104 (by decide)) ?_
      exact Tj.rf
    · refine Tj.tr (x_icmp_ne_t (tgt := 107) dX4_lengthOf_100 (by decide) c26) ?_
      refine Tj.tr (x_iconst (-1 : Int32) dX4_lengthOf_107 rfl) ?_
      exact Tj.rf
  refine G_st e27 ?_
  exact G_ret rfl ⟨dX4_lengthOf_108, _, rfl, rfl⟩ rfl
set_option maxRecDepth 100000 in
set_option maxHeartbeats 4000000 in
theorem c_X4_lengthOf (ids : List (Nat × Nat)) (Hn : Ndp ids) (v1 : Int32) (v2 : Int32) (H0_4 : InR ids 0 4 5) (t0 : Sg) (r : Int32) (t1 : Sg) (hf : f_X4_lengthOf v1 v2 t0 = some (r, t1)) : Mt0 mX4_lengthOf yX4_lengthOf ids [aR (0, 4), aI v1, aI v2] t0 (some (aI r)) t1 :=
  Mt_of (x := (r, t1)) (g_X4_lengthOf ids Hn v1 v2 H0_4 t0) hf (fun _ _ => trivial) (by decide) rfl Hn (fun _ => rfl) (fun _ => Nat.le_of_ble_eq_true rfl)
theorem dX4_statementEnd_0 : decode cX4_statementEnd 0 = .ok (.aload_n 0, 1) := by decide +kernel
theorem dX4_statementEnd_1 : decode cX4_statementEnd 1 = .ok (.iload_n 1, 1) := by decide +kernel
theorem dX4_statementEnd_2 : decode cX4_statementEnd 2 = .ok (.invokevirtual 27, 3) := by decide +kernel
theorem dX4_statementEnd_5 : decode cX4_statementEnd 5 = .ok (.invokestatic 42, 3) := by decide +kernel
theorem dX4_statementEnd_8 : decode cX4_statementEnd 8 = .ok (.astore_n 2, 1) := by decide +kernel
theorem dX4_statementEnd_9 : decode cX4_statementEnd 9 = .ok (.aload_n 2, 1) := by decide +kernel
theorem dX4_statementEnd_10 : decode cX4_statementEnd 10 = .ok (.invokevirtual 46, 3) := by decide +kernel
theorem dX4_statementEnd_13 : decode cX4_statementEnd 13 = .ok (.ifCond .eq 7, 3) := by decide +kernel
theorem dX4_statementEnd_16 : decode cX4_statementEnd 16 = .ok (.iload_n 1, 1) := by decide +kernel
theorem dX4_statementEnd_17 : decode cX4_statementEnd 17 = .ok (.goto 6, 3) := by decide +kernel
theorem dX4_statementEnd_20 : decode cX4_statementEnd 20 = .ok (.iload_n 1, 1) := by decide +kernel
theorem dX4_statementEnd_21 : decode cX4_statementEnd 21 = .ok (.iconst 1, 1) := by decide +kernel
theorem dX4_statementEnd_22 : decode cX4_statementEnd 22 = .ok (.iadd, 1) := by decide +kernel
theorem dX4_statementEnd_23 : decode cX4_statementEnd 23 = .ok (.istore_n 3, 1) := by decide +kernel
theorem dX4_statementEnd_24 : decode cX4_statementEnd 24 = .ok (.iconst 0, 1) := by decide +kernel
theorem dX4_statementEnd_25 : decode cX4_statementEnd 25 = .ok (.istore 4, 2) := by decide +kernel
theorem dX4_statementEnd_27 : decode cX4_statementEnd 27 = .ok (.iload 4, 2) := by decide +kernel
theorem dX4_statementEnd_29 : decode cX4_statementEnd 29 = .ok (.aload_n 2, 1) := by decide +kernel
theorem dX4_statementEnd_30 : decode cX4_statementEnd 30 = .ok (.invokevirtual 52, 3) := by decide +kernel
theorem dX4_statementEnd_33 : decode cX4_statementEnd 33 = .ok (.if_icmp .ge 36, 3) := by decide +kernel
theorem dX4_statementEnd_36 : decode cX4_statementEnd 36 = .ok (.aload_n 0, 1) := by decide +kernel
theorem dX4_statementEnd_37 : decode cX4_statementEnd 37 = .ok (.aload_n 2, 1) := by decide +kernel
theorem dX4_statementEnd_38 : decode cX4_statementEnd 38 = .ok (.iload 4, 2) := by decide +kernel
theorem dX4_statementEnd_40 : decode cX4_statementEnd 40 = .ok (.invokevirtual 56, 3) := by decide +kernel
theorem dX4_statementEnd_43 : decode cX4_statementEnd 43 = .ok (.iload_n 3, 1) := by decide +kernel
theorem dX4_statementEnd_44 : decode cX4_statementEnd 44 = .ok (.invokevirtual 60, 3) := by decide +kernel
theorem dX4_statementEnd_47 : decode cX4_statementEnd 47 = .ok (.istore 5, 2) := by decide +kernel
theorem dX4_statementEnd_49 : decode cX4_statementEnd 49 = .ok (.iload 5, 2) := by decide +kernel
theorem dX4_statementEnd_51 : decode cX4_statementEnd 51 = .ok (.ifCond .ge 7, 3) := by decide +kernel
theorem dX4_statementEnd_54 : decode cX4_statementEnd 54 = .ok (.iconst (-1), 1) := by decide +kernel
theorem dX4_statementEnd_55 : decode cX4_statementEnd 55 = .ok (.iload_n 3, 1) := by decide +kernel
theorem dX4_statementEnd_56 : decode cX4_statementEnd 56 = .ok (.isub, 1) := by decide +kernel
theorem dX4_statementEnd_57 : decode cX4_statementEnd 57 = .ok (.ireturn, 1) := by decide +kernel
theorem dX4_statementEnd_58 : decode cX4_statementEnd 58 = .ok (.iload_n 3, 1) := by decide +kernel
theorem dX4_statementEnd_59 : decode cX4_statementEnd 59 = .ok (.iload 5, 2) := by decide +kernel
theorem dX4_statementEnd_61 : decode cX4_statementEnd 61 = .ok (.iadd, 1) := by decide +kernel
theorem dX4_statementEnd_62 : decode cX4_statementEnd 62 = .ok (.istore_n 3, 1) := by decide +kernel
theorem dX4_statementEnd_63 : decode cX4_statementEnd 63 = .ok (.iinc 4 1, 3) := by decide +kernel
theorem dX4_statementEnd_66 : decode cX4_statementEnd 66 = .ok (.goto (-39), 3) := by decide +kernel
theorem dX4_statementEnd_69 : decode cX4_statementEnd 69 = .ok (.aload_n 2, 1) := by decide +kernel
theorem dX4_statementEnd_70 : decode cX4_statementEnd 70 = .ok (.invokevirtual 46, 3) := by decide +kernel
theorem dX4_statementEnd_73 : decode cX4_statementEnd 73 = .ok (.ifCond .eq 9, 3) := by decide +kernel
theorem dX4_statementEnd_76 : decode cX4_statementEnd 76 = .ok (.iconst (-1), 1) := by decide +kernel
theorem dX4_statementEnd_77 : decode cX4_statementEnd 77 = .ok (.iload_n 3, 1) := by decide +kernel
theorem dX4_statementEnd_78 : decode cX4_statementEnd 78 = .ok (.isub, 1) := by decide +kernel
theorem dX4_statementEnd_79 : decode cX4_statementEnd 79 = .ok (.goto 4, 3) := by decide +kernel
theorem dX4_statementEnd_82 : decode cX4_statementEnd 82 = .ok (.iload_n 3, 1) := by decide +kernel
theorem dX4_statementEnd_83 : decode cX4_statementEnd 83 = .ok (.ireturn, 1) := by decide +kernel
set_option maxRecDepth 100000 in
set_option maxHeartbeats 4000000 in
theorem g_X4_statementEnd_27 (ids : List (Nat × Nat)) (Hn : Ndp ids)  (H0_4 : InR ids 0 4 5)  : ∀ (n : Nat) (v2 : Nat × Nat) (v3 : Int32) (v4 : Int32) (t0 : Sg), Gj kI mX4_statementEnd ids 27 [some (aR (0, 4)), none, some (aR v2), some (aI v3), some (aI v4), none] [] t0 (f_X4_statementEnd_27 n v2 v3 v4 t0) := by
  intro n
  induction n with
  | zero => intro v2 v3 v4 t0; exact G_none
  | succ n ih =>
    intro v2 v3 v4 t0
    rw [f_X4_statementEnd_27]
    refine G_st (x_iload dX4_statementEnd_27 rfl) ?_
    refine G_st (x_aload_n dX4_statementEnd_29 rfl) ?_
    refine G_chk (fun c14 => ?_)
    refine G_bd (fun x15 t16 h17 => ?_)
    refine G_st (x_callStr [aI v4] (c_J0_length_8abf5 ids Hn v2 c14 _ _ _ h17) dX4_statementEnd_30 tw_361 kc_J0_length_8abf5 c14 rfl rfl ⟨Nat.le_of_ble_eq_true rfl, Nat.le_of_ble_eq_true rfl⟩ (Nat.le_of_ble_eq_true rfl) rfl) ?_
    refine G_ite (fun c18 => ?_) (fun c18 => ?_)
    · refine G_st (x_icmp_ge_t (tgt := 69) dX4_statementEnd_33 (by decide) c18) ?_
      refine G_st (x_aload_n dX4_statementEnd_69 rfl) ?_
      refine G_chk (fun c19 => ?_)
      refine G_bd (fun x20 t21 h22 => ?_)
      refine G_st (x_callStr [] (c_J0_isEmpty_aae02 ids Hn v2 c19 _ _ _ h22) dX4_statementEnd_70 tw_357 kc_J0_isEmpty_aae02 c19 rfl rfl ⟨Nat.le_of_ble_eq_true rfl, Nat.le_of_ble_eq_true rfl⟩ (Nat.le_of_ble_eq_true rfl) rfl) ?_
      have e24 : Tj mX4_statementEnd ids 73 [some (aR (0, 4)), none, some (aR v2), some (aI v3), some (aI v4), none] [aI x20] t21 83 [some (aR (0, 4)), none, some (aR v2), some (aI v3), some (aI v4), none] [aI (if x20 = 0 then v3 else ((-1 : Int32) - v3))] t21 := by
        refine Tj.dia (fun c23 => ?_) (fun c23 => ?_)
        · refine Tj.tr (x_if_eq_t (tgt := 82) dX4_statementEnd_73 (by decide) c23) ?_
          refine Tj.tr (x_iload_n dX4_statementEnd_82 rfl) ?_
          exact Tj.rf
        · refine Tj.tr (x_if_eq_f 82 dX4_statementEnd_73 (by decide) c23) ?_
          refine Tj.tr (x_iconst (-1 : Int32) dX4_statementEnd_76 rfl) ?_
          refine Tj.tr (x_iload_n dX4_statementEnd_77 rfl) ?_
          refine Tj.tr (x_isub dX4_statementEnd_78) ?_
          refine Tj.tr (x_goto (tgt := 83) dX4_statementEnd_79 (by decide)) ?_
          exact Tj.rf
      refine G_st e24 ?_
      exact G_ret rfl ⟨dX4_statementEnd_83, _, rfl, rfl⟩ rfl
    · refine G_st (x_icmp_ge_f 69 dX4_statementEnd_33 (by decide) c18) ?_
      refine G_st (x_aload_n dX4_statementEnd_36 rfl) ?_
      refine G_st (x_aload_n dX4_statementEnd_37 rfl) ?_
      refine G_st (x_iload dX4_statementEnd_38 rfl) ?_
      refine G_chk (fun c25 => ?_)
      refine G_bd (fun x26 t27 h28 => ?_)
      refine G_st (x_callStr [aR (0, 4)] (c_J0_charAt_5068e ids Hn v2 v4 c25 _ _ _ h28) dX4_statementEnd_40 tw_371 kc_J0_charAt_5068e c25 rfl rfl ⟨Nat.le_of_ble_eq_true rfl, Nat.le_of_ble_eq_true rfl⟩ (Nat.le_of_ble_eq_true rfl) rfl) ?_
      refine G_st (x_iload_n dX4_statementEnd_43 rfl) ?_
      refine G_bd (fun x29 t30 h31 => ?_)
      refine G_st (x_callV [] (c_X4_lengthOf ids Hn x26 v3 H0_4 _ _ _ h31) dX4_statementEnd_44 tw_409 kc_X4_lengthOf (H0_4 4 (Nat.le_of_ble_eq_true rfl) (Nat.le_of_ble_eq_true rfl)) rfl rfl rfl rfl ⟨Nat.le_of_ble_eq_true rfl, Nat.le_of_ble_eq_true rfl⟩ (Nat.le_of_ble_eq_true rfl) rfl) ?_
      refine G_st (x_istore [some (aR (0, 4)), none, some (aR v2), some (aI v3), some (aI v4), some (aI x29)] dX4_statementEnd_47 (Nat.le_of_ble_eq_true rfl) rfl rfl) ?_
      refine G_st (x_iload dX4_statementEnd_49 rfl) ?_
      refine G_ite (fun c32 => ?_) (fun c32 => ?_)
      · refine G_st (x_if_ge_t (tgt := 58) dX4_statementEnd_51 (by decide) c32) ?_
        refine G_st (x_iload_n dX4_statementEnd_58 rfl) ?_
        refine G_st (x_iload dX4_statementEnd_59 rfl) ?_
        refine G_st (x_iadd dX4_statementEnd_61) ?_
        refine G_bvI (fun x33 => ?_)
        refine G_st (x_istore_n [some (aR (0, 4)), none, some (aR v2), some (aI x33), some (aI v4), some (aI x29)] dX4_statementEnd_62 (Nat.le_of_ble_eq_true rfl) rfl rfl) ?_
        refine G_st (x_iinc (v4 + (1 : Int32)) [some (aR (0, 4)), none, some (aR v2), some (aI x33), some (aI (v4 + (1 : Int32))), some (aI x29)] dX4_statementEnd_63 (Nat.le_of_ble_eq_true rfl) rfl rfl rfl rfl) ?_
        refine G_st (x_goto (tgt := 27) dX4_statementEnd_66 (by decide)) ?_
        refine G_weak _ ?_ ((ih) v2 x33 (v4 + (1 : Int32)) t30)
        exact (leL_s (leL_n (leL_s (leL_s (leL_s (leL_n (leL_e _)))))))
      · refine G_st (x_if_ge_f 58 dX4_statementEnd_51 (by decide) c32) ?_
        refine G_st (x_iconst (-1 : Int32) dX4_statementEnd_54 rfl) ?_
        refine G_st (x_iload_n dX4_statementEnd_55 rfl) ?_
        refine G_st (x_isub dX4_statementEnd_56) ?_
        exact G_ret rfl ⟨dX4_statementEnd_57, _, rfl, rfl⟩ rfl
set_option maxRecDepth 100000 in
set_option maxHeartbeats 4000000 in
theorem g_X4_statementEnd (ids : List (Nat × Nat)) (Hn : Ndp ids) (v1 : Int32) (H0_4 : InR ids 0 4 5) (t0 : Sg) : Gj kI mX4_statementEnd ids 0 [some (aR (0, 4)), some (aI v1), none, none, none, none] [] t0 (f_X4_statementEnd v1 t0) := by
  unfold f_X4_statementEnd
  refine G_st (x_aload_n dX4_statementEnd_0 rfl) ?_
  refine G_st (x_iload_n dX4_statementEnd_1 rfl) ?_
  refine G_bd (fun x1 t2 h3 => ?_)
  refine G_st (x_callV [] (c_X4_letter ids Hn v1 H0_4 _ _ _ h3) dX4_statementEnd_2 tw_342 kc_X4_letter (H0_4 4 (Nat.le_of_ble_eq_true rfl) (Nat.le_of_ble_eq_true rfl)) rfl rfl rfl rfl ⟨Nat.le_of_ble_eq_true rfl, Nat.le_of_ble_eq_true rfl⟩ (Nat.le_of_ble_eq_true rfl) rfl) ?_
  refine G_bd (fun x4 t5 h6 => ?_)
  refine G_st (x_callS [] (c_X4_formOf ids Hn x1  _ _ _ h6) dX4_statementEnd_5 tw_347 kc_X4_formOf rfl ⟨Nat.le_of_ble_eq_true rfl, Nat.le_of_ble_eq_true rfl⟩ (Nat.le_of_ble_eq_true rfl) rfl) ?_
  refine G_st (x_astore_n [some (aR (0, 4)), some (aI v1), some (aR x4), none, none, none] dX4_statementEnd_8 (Nat.le_of_ble_eq_true rfl) rfl rfl) ?_
  refine G_st (x_aload_n dX4_statementEnd_9 rfl) ?_
  refine G_chk (fun c7 => ?_)
  refine G_bd (fun x8 t9 h10 => ?_)
  refine G_st (x_callStr [] (c_J0_isEmpty_aae02 ids Hn x4 c7 _ _ _ h10) dX4_statementEnd_10 tw_357 kc_J0_isEmpty_aae02 c7 rfl rfl ⟨Nat.le_of_ble_eq_true rfl, Nat.le_of_ble_eq_true rfl⟩ (Nat.le_of_ble_eq_true rfl) rfl) ?_
  have e12 : Tj mX4_statementEnd ids 13 [some (aR (0, 4)), some (aI v1), some (aR x4), none, none, none] [aI x8] t9 23 [some (aR (0, 4)), some (aI v1), some (aR x4), none, none, none] [aI (if x8 = 0 then (v1 + (1 : Int32)) else v1)] t9 := by
    refine Tj.dia (fun c11 => ?_) (fun c11 => ?_)
    · refine Tj.tr (x_if_eq_t (tgt := 20) dX4_statementEnd_13 (by decide) c11) ?_
      refine Tj.tr (x_iload_n dX4_statementEnd_20 rfl) ?_
      refine Tj.tr (x_iconst (1 : Int32) dX4_statementEnd_21 rfl) ?_
      refine Tj.tr (x_iadd dX4_statementEnd_22) ?_
      exact Tj.rf
    · refine Tj.tr (x_if_eq_f 20 dX4_statementEnd_13 (by decide) c11) ?_
      refine Tj.tr (x_iload_n dX4_statementEnd_16 rfl) ?_
      refine Tj.tr (x_goto (tgt := 23) dX4_statementEnd_17 (by decide)) ?_
      exact Tj.rf
  refine G_st e12 ?_
  refine G_bvI (fun x13 => ?_)
  refine G_st (x_istore_n [some (aR (0, 4)), some (aI v1), some (aR x4), some (aI x13), none, none] dX4_statementEnd_23 (Nat.le_of_ble_eq_true rfl) rfl rfl) ?_
  refine G_st (x_iconst (0 : Int32) dX4_statementEnd_24 rfl) ?_
  refine G_st (x_istore [some (aR (0, 4)), some (aI v1), some (aR x4), some (aI x13), some (aI (0 : Int32)), none] dX4_statementEnd_25 (Nat.le_of_ble_eq_true rfl) rfl rfl) ?_
  refine G_weak _ ?_ (g_X4_statementEnd_27 ids Hn H0_4 fuel x4 x13 (0 : Int32) t9)
  exact (leL_s (leL_n (leL_s (leL_s (leL_s (leL_n (leL_e _)))))))
set_option maxRecDepth 100000 in
set_option maxHeartbeats 4000000 in
theorem c_X4_statementEnd (ids : List (Nat × Nat)) (Hn : Ndp ids) (v1 : Int32) (H0_4 : InR ids 0 4 5) (t0 : Sg) (r : Int32) (t1 : Sg) (hf : f_X4_statementEnd v1 t0 = some (r, t1)) : Mt0 mX4_statementEnd yX4_statementEnd ids [aR (0, 4), aI v1] t0 (some (aI r)) t1 :=
  Mt_of (x := (r, t1)) (g_X4_statementEnd ids Hn v1 H0_4 t0) hf (fun _ _ => trivial) (by decide) rfl Hn (fun _ => rfl) (fun _ => Nat.le_of_ble_eq_true rfl)
theorem dX4_formFault_0 : decode cX4_formFault 0 = .ok (.iconst 0, 1) := by decide +kernel
theorem dX4_formFault_1 : decode cX4_formFault 1 = .ok (.istore_n 1, 1) := by decide +kernel
theorem dX4_formFault_2 : decode cX4_formFault 2 = .ok (.iconst 0, 1) := by decide +kernel
theorem dX4_formFault_3 : decode cX4_formFault 3 = .ok (.istore_n 2, 1) := by decide +kernel
theorem dX4_formFault_4 : decode cX4_formFault 4 = .ok (.iload_n 2, 1) := by decide +kernel
theorem dX4_formFault_5 : decode cX4_formFault 5 = .ok (.bipush 96, 2) := by decide +kernel
theorem dX4_formFault_7 : decode cX4_formFault 7 = .ok (.if_icmp .ge 35, 3) := by decide +kernel
theorem dX4_formFault_10 : decode cX4_formFault 10 = .ok (.aload_n 0, 1) := by decide +kernel
theorem dX4_formFault_11 : decode cX4_formFault 11 = .ok (.iload_n 1, 1) := by decide +kernel
theorem dX4_formFault_12 : decode cX4_formFault 12 = .ok (.invokevirtual 39, 3) := by decide +kernel
theorem dX4_formFault_15 : decode cX4_formFault 15 = .ok (.istore_n 3, 1) := by decide +kernel
theorem dX4_formFault_16 : decode cX4_formFault 16 = .ok (.iload_n 3, 1) := by decide +kernel
theorem dX4_formFault_17 : decode cX4_formFault 17 = .ok (.ifCond .ge 7, 3) := by decide +kernel
theorem dX4_formFault_20 : decode cX4_formFault 20 = .ok (.iconst (-1), 1) := by decide +kernel
theorem dX4_formFault_21 : decode cX4_formFault 21 = .ok (.iload_n 3, 1) := by decide +kernel
theorem dX4_formFault_22 : decode cX4_formFault 22 = .ok (.isub, 1) := by decide +kernel
theorem dX4_formFault_23 : decode cX4_formFault 23 = .ok (.ireturn, 1) := by decide +kernel
theorem dX4_formFault_24 : decode cX4_formFault 24 = .ok (.iload_n 3, 1) := by decide +kernel
theorem dX4_formFault_25 : decode cX4_formFault 25 = .ok (.aload_n 0, 1) := by decide +kernel
theorem dX4_formFault_26 : decode cX4_formFault 26 = .ok (.getfield 15, 3) := by decide +kernel
theorem dX4_formFault_29 : decode cX4_formFault 29 = .ok (.if_icmp .lt 5, 3) := by decide +kernel
theorem dX4_formFault_32 : decode cX4_formFault 32 = .ok (.iconst (-1), 1) := by decide +kernel
theorem dX4_formFault_33 : decode cX4_formFault 33 = .ok (.ireturn, 1) := by decide +kernel
theorem dX4_formFault_34 : decode cX4_formFault 34 = .ok (.iload_n 3, 1) := by decide +kernel
theorem dX4_formFault_35 : decode cX4_formFault 35 = .ok (.istore_n 1, 1) := by decide +kernel
theorem dX4_formFault_36 : decode cX4_formFault 36 = .ok (.iinc 2 1, 3) := by decide +kernel
theorem dX4_formFault_39 : decode cX4_formFault 39 = .ok (.goto (-35), 3) := by decide +kernel
theorem dX4_formFault_42 : decode cX4_formFault 42 = .ok (.iload_n 1, 1) := by decide +kernel
theorem dX4_formFault_43 : decode cX4_formFault 43 = .ok (.ireturn, 1) := by decide +kernel
set_option maxRecDepth 100000 in
set_option maxHeartbeats 4000000 in
theorem g_X4_formFault_4 (ids : List (Nat × Nat)) (Hn : Ndp ids)  (H0_4 : InR ids 0 4 5)  : ∀ (n : Nat) (v1 : Int32) (v2 : Int32) (t0 : Sg), Gj kI mX4_formFault ids 4 [some (aR (0, 4)), some (aI v1), some (aI v2), none] [] t0 (f_X4_formFault_4 n v1 v2 t0) := by
  intro n
  induction n with
  | zero => intro v1 v2 t0; exact G_none
  | succ n ih =>
    intro v1 v2 t0
    rw [f_X4_formFault_4]
    refine G_st (x_iload_n dX4_formFault_4 rfl) ?_
    refine G_st (x_bipush (96 : Int32) dX4_formFault_5 rfl) ?_
    refine G_ite (fun c1 => ?_) (fun c1 => ?_)
    · refine G_st (x_icmp_ge_t (tgt := 42) dX4_formFault_7 (by decide) c1) ?_
      refine G_st (x_iload_n dX4_formFault_42 rfl) ?_
      exact G_ret rfl ⟨dX4_formFault_43, _, rfl, rfl⟩ rfl
    · refine G_st (x_icmp_ge_f 42 dX4_formFault_7 (by decide) c1) ?_
      refine G_st (x_aload_n dX4_formFault_10 rfl) ?_
      refine G_st (x_iload_n dX4_formFault_11 rfl) ?_
      refine G_bd (fun x2 t3 h4 => ?_)
      refine G_st (x_callV [] (c_X4_statementEnd ids Hn v1 H0_4 _ _ _ h4) dX4_formFault_12 tw_338 kc_X4_statementEnd (H0_4 4 (Nat.le_of_ble_eq_true rfl) (Nat.le_of_ble_eq_true rfl)) rfl rfl rfl rfl ⟨Nat.le_of_ble_eq_true rfl, Nat.le_of_ble_eq_true rfl⟩ (Nat.le_of_ble_eq_true rfl) rfl) ?_
      refine G_st (x_istore_n [some (aR (0, 4)), some (aI v1), some (aI v2), some (aI x2)] dX4_formFault_15 (Nat.le_of_ble_eq_true rfl) rfl rfl) ?_
      refine G_st (x_iload_n dX4_formFault_16 rfl) ?_
      refine G_ite (fun c5 => ?_) (fun c5 => ?_)
      · refine G_st (x_if_ge_t (tgt := 24) dX4_formFault_17 (by decide) c5) ?_
        refine G_st (x_iload_n dX4_formFault_24 rfl) ?_
        refine G_st (x_aload_n dX4_formFault_25 rfl) ?_
        refine G_st (x_get (k := 1) (aI (t3 (0, 4) 1)) dX4_formFault_26 (H0_4 4 (Nat.le_of_ble_eq_true rfl) (Nat.le_of_ble_eq_true rfl)) rfl rfl rfl rfl inTX4 (Nat.le_of_ble_eq_true rfl) tw_278 (fun ad => rfl)) ?_
        refine G_ite (fun c6 => ?_) (fun c6 => ?_)
        · refine G_st (x_icmp_lt_t (tgt := 34) dX4_formFault_29 (by decide) c6) ?_
          refine G_st (x_iload_n dX4_formFault_34 rfl) ?_
          refine G_st (x_istore_n [some (aR (0, 4)), some (aI x2), some (aI v2), some (aI x2)] dX4_formFault_35 (Nat.le_of_ble_eq_true rfl) rfl rfl) ?_
          refine G_st (x_iinc (v2 + (1 : Int32)) [some (aR (0, 4)), some (aI x2), some (aI (v2 + (1 : Int32))), some (aI x2)] dX4_formFault_36 (Nat.le_of_ble_eq_true rfl) rfl rfl rfl rfl) ?_
          refine G_st (x_goto (tgt := 4) dX4_formFault_39 (by decide)) ?_
          refine G_weak _ ?_ ((ih) x2 (v2 + (1 : Int32)) t3)
          exact (leL_s (leL_s (leL_s (leL_n (leL_e _)))))
        · refine G_st (x_icmp_lt_f 34 dX4_formFault_29 (by decide) c6) ?_
          refine G_st (x_iconst (-1 : Int32) dX4_formFault_32 rfl) ?_
          exact G_ret rfl ⟨dX4_formFault_33, _, rfl, rfl⟩ rfl
      · refine G_st (x_if_ge_f 24 dX4_formFault_17 (by decide) c5) ?_
        refine G_st (x_iconst (-1 : Int32) dX4_formFault_20 rfl) ?_
        refine G_st (x_iload_n dX4_formFault_21 rfl) ?_
        refine G_st (x_isub dX4_formFault_22) ?_
        exact G_ret rfl ⟨dX4_formFault_23, _, rfl, rfl⟩ rfl
set_option maxRecDepth 100000 in
set_option maxHeartbeats 4000000 in
theorem g_X4_formFault (ids : List (Nat × Nat)) (Hn : Ndp ids)  (H0_4 : InR ids 0 4 5) (t0 : Sg) : Gj kI mX4_formFault ids 0 [some (aR (0, 4)), none, none, none] [] t0 (f_X4_formFault t0) := by
  unfold f_X4_formFault
  refine G_st (x_iconst (0 : Int32) dX4_formFault_0 rfl) ?_
  refine G_st (x_istore_n [some (aR (0, 4)), some (aI (0 : Int32)), none, none] dX4_formFault_1 (Nat.le_of_ble_eq_true rfl) rfl rfl) ?_
  refine G_st (x_iconst (0 : Int32) dX4_formFault_2 rfl) ?_
  refine G_st (x_istore_n [some (aR (0, 4)), some (aI (0 : Int32)), some (aI (0 : Int32)), none] dX4_formFault_3 (Nat.le_of_ble_eq_true rfl) rfl rfl) ?_
  refine G_weak _ ?_ (g_X4_formFault_4 ids Hn H0_4 fuel (0 : Int32) (0 : Int32) t0)
  exact (leL_s (leL_s (leL_s (leL_n (leL_e _)))))
set_option maxRecDepth 100000 in
set_option maxHeartbeats 4000000 in
theorem c_X4_formFault (ids : List (Nat × Nat)) (Hn : Ndp ids)  (H0_4 : InR ids 0 4 5) (t0 : Sg) (r : Int32) (t1 : Sg) (hf : f_X4_formFault t0 = some (r, t1)) : Mt0 mX4_formFault yX4_formFault ids [aR (0, 4)] t0 (some (aI r)) t1 :=
  Mt_of (x := (r, t1)) (g_X4_formFault ids Hn  H0_4 t0) hf (fun _ _ => trivial) (by decide) rfl Hn (fun _ => rfl) (fun _ => Nat.le_of_ble_eq_true rfl)
theorem dX5_comesTo_0 : decode cX5_comesTo 0 = .ok (.iconst 0, 1) := by decide +kernel
theorem dX5_comesTo_1 : decode cX5_comesTo 1 = .ok (.istore_n 2, 1) := by decide +kernel
theorem dX5_comesTo_2 : decode cX5_comesTo 2 = .ok (.iload_n 2, 1) := by decide +kernel
theorem dX5_comesTo_3 : decode cX5_comesTo 3 = .ok (.aload_n 0, 1) := by decide +kernel
theorem dX5_comesTo_4 : decode cX5_comesTo 4 = .ok (.getfield 21, 3) := by decide +kernel
theorem dX5_comesTo_7 : decode cX5_comesTo 7 = .ok (.if_icmp .ge 23, 3) := by decide +kernel
theorem dX5_comesTo_10 : decode cX5_comesTo 10 = .ok (.aload_n 0, 1) := by decide +kernel
theorem dX5_comesTo_11 : decode cX5_comesTo 11 = .ok (.getfield 9, 3) := by decide +kernel
theorem dX5_comesTo_14 : decode cX5_comesTo 14 = .ok (.iload_n 2, 1) := by decide +kernel
theorem dX5_comesTo_15 : decode cX5_comesTo 15 = .ok (.invokestatic 30, 3) := by decide +kernel
theorem dX5_comesTo_18 : decode cX5_comesTo 18 = .ok (.iload_n 1, 1) := by decide +kernel
theorem dX5_comesTo_19 : decode cX5_comesTo 19 = .ok (.if_icmp .ne 5, 3) := by decide +kernel
theorem dX5_comesTo_22 : decode cX5_comesTo 22 = .ok (.iconst 1, 1) := by decide +kernel
theorem dX5_comesTo_23 : decode cX5_comesTo 23 = .ok (.ireturn, 1) := by decide +kernel
theorem dX5_comesTo_24 : decode cX5_comesTo 24 = .ok (.iinc 2 1, 3) := by decide +kernel
theorem dX5_comesTo_27 : decode cX5_comesTo 27 = .ok (.goto (-25), 3) := by decide +kernel
theorem dX5_comesTo_30 : decode cX5_comesTo 30 = .ok (.iconst 0, 1) := by decide +kernel
theorem dX5_comesTo_31 : decode cX5_comesTo 31 = .ok (.ireturn, 1) := by decide +kernel
set_option maxRecDepth 100000 in
set_option maxHeartbeats 4000000 in
theorem g_X5_comesTo_2 (ids : List (Nat × Nat)) (Hn : Ndp ids) (h : Nat) (Hh : InR ids h 25 28)  : ∀ (n : Nat) (v1 : Int32) (v2 : Int32) (t0 : Sg), Gj kI mX5_comesTo ids 2 [some (aR (h, 25)), some (aI v1), some (aI v2)] [] t0 (f_X5_comesTo_2 h n v1 v2 t0) := by
  intro n
  induction n with
  | zero => intro v1 v2 t0; exact G_none
  | succ n ih =>
    intro v1 v2 t0
    rw [f_X5_comesTo_2]
    refine G_st (x_iload_n dX5_comesTo_2 rfl) ?_
    refine G_st (x_aload_n dX5_comesTo_3 rfl) ?_
    refine G_st (x_get (k := 3) (aI (t0 (h, 25) 3)) dX5_comesTo_4 (Hh 25 (Nat.le_of_ble_eq_true rfl) (Nat.le_of_ble_eq_true rfl)) rfl rfl rfl rfl inTX5 (Nat.le_of_ble_eq_true rfl) tw_237 (fun ad => rfl)) ?_
    refine G_ite (fun c1 => ?_) (fun c1 => ?_)
    · refine G_st (x_icmp_ge_t (tgt := 30) dX5_comesTo_7 (by decide) c1) ?_
      refine G_st (x_iconst (0 : Int32) dX5_comesTo_30 rfl) ?_
      exact G_ret rfl ⟨dX5_comesTo_31, _, rfl, nar_b (Or.inl rfl)⟩ rfl
    · refine G_st (x_icmp_ge_f 30 dX5_comesTo_7 (by decide) c1) ?_
      refine G_st (x_aload_n dX5_comesTo_10 rfl) ?_
      refine G_st (x_get (k := 0) (aR (h, 26)) dX5_comesTo_11 (Hh 25 (Nat.le_of_ble_eq_true rfl) (Nat.le_of_ble_eq_true rfl)) rfl rfl rfl rfl inTX5 (Nat.le_of_ble_eq_true rfl) tw_230 (fun ad => rfl)) ?_
      refine G_st (x_iload_n dX5_comesTo_14 rfl) ?_
      refine G_bd (fun x2 t3 h4 => ?_)
      refine G_st (x_callN [] (c_X6_get ids Hn (h, 26) v2 (Hh 26 (Nat.le_of_ble_eq_true rfl) (Nat.le_of_ble_eq_true rfl)) rfl _ _ _ h4) dX5_comesTo_15 (List.mem_of_getElem? (i := 17) rfl) kc_X6_get rfl ⟨Nat.le_of_ble_eq_true rfl, Nat.le_of_ble_eq_true rfl⟩ (Nat.le_of_ble_eq_true rfl) rfl) ?_
      refine G_st (x_iload_n dX5_comesTo_18 rfl) ?_
      refine G_ite (fun c5 => ?_) (fun c5 => ?_)
      · refine G_st (x_icmp_ne_f 24 dX5_comesTo_19 (by decide) c5) ?_
        refine G_st (x_iconst (1 : Int32) dX5_comesTo_22 rfl) ?_
        exact G_ret rfl ⟨dX5_comesTo_23, _, rfl, nar_b (Or.inr rfl)⟩ rfl
      · refine G_st (x_icmp_ne_t (tgt := 24) dX5_comesTo_19 (by decide) c5) ?_
        refine G_st (x_iinc (v2 + (1 : Int32)) [some (aR (h, 25)), some (aI v1), some (aI (v2 + (1 : Int32)))] dX5_comesTo_24 (Nat.le_of_ble_eq_true rfl) rfl rfl rfl rfl) ?_
        refine G_st (x_goto (tgt := 2) dX5_comesTo_27 (by decide)) ?_
        refine G_weak _ ?_ ((ih) v1 (v2 + (1 : Int32)) t3)
        exact (leL_s (leL_s (leL_s (leL_e _))))
set_option maxRecDepth 100000 in
set_option maxHeartbeats 4000000 in
theorem g_X5_comesTo (ids : List (Nat × Nat)) (Hn : Ndp ids) (h : Nat) (v1 : Int32) (Hh : InR ids h 25 28) (t0 : Sg) : Gj kI mX5_comesTo ids 0 [some (aR (h, 25)), some (aI v1), none] [] t0 (f_X5_comesTo h v1 t0) := by
  unfold f_X5_comesTo
  refine G_st (x_iconst (0 : Int32) dX5_comesTo_0 rfl) ?_
  refine G_st (x_istore_n [some (aR (h, 25)), some (aI v1), some (aI (0 : Int32))] dX5_comesTo_1 (Nat.le_of_ble_eq_true rfl) rfl rfl) ?_
  refine G_weak _ ?_ (g_X5_comesTo_2 ids Hn h Hh fuel v1 (0 : Int32) t0)
  exact (leL_s (leL_s (leL_s (leL_e _))))
set_option maxRecDepth 100000 in
set_option maxHeartbeats 4000000 in
theorem c_X5_comesTo (ids : List (Nat × Nat)) (Hn : Ndp ids) (h : Nat) (v1 : Int32) (Hh : InR ids h 25 28) (t0 : Sg) (r : Int32) (t1 : Sg) (hf : f_X5_comesTo h v1 t0 = some (r, t1)) : Mt0 mX5_comesTo yX5_comesTo ids [aR (h, 25), aI v1] t0 (some (aI r)) t1 :=
  Mt_of (x := (r, t1)) (g_X5_comesTo ids Hn h v1 Hh t0) hf (fun _ _ => trivial) (by decide) rfl Hn (fun _ => rfl) (fun _ => Nat.le_of_ble_eq_true rfl)
theorem dX6_sum_0 : decode cX6_sum 0 = .ok (.iconst 0, 1) := by decide +kernel
theorem dX6_sum_1 : decode cX6_sum 1 = .ok (.istore_n 1, 1) := by decide +kernel
theorem dX6_sum_2 : decode cX6_sum 2 = .ok (.iconst 0, 1) := by decide +kernel
theorem dX6_sum_3 : decode cX6_sum 3 = .ok (.istore_n 2, 1) := by decide +kernel
theorem dX6_sum_4 : decode cX6_sum 4 = .ok (.iload_n 2, 1) := by decide +kernel
theorem dX6_sum_5 : decode cX6_sum 5 = .ok (.aload_n 0, 1) := by decide +kernel
theorem dX6_sum_6 : decode cX6_sum 6 = .ok (.arraylength, 1) := by decide +kernel
theorem dX6_sum_7 : decode cX6_sum 7 = .ok (.if_icmp .ge 15, 3) := by decide +kernel
theorem dX6_sum_10 : decode cX6_sum 10 = .ok (.iload_n 1, 1) := by decide +kernel
theorem dX6_sum_11 : decode cX6_sum 11 = .ok (.aload_n 0, 1) := by decide +kernel
theorem dX6_sum_12 : decode cX6_sum 12 = .ok (.iload_n 2, 1) := by decide +kernel
theorem dX6_sum_13 : decode cX6_sum 13 = .ok (.iaload, 1) := by decide +kernel
theorem dX6_sum_14 : decode cX6_sum 14 = .ok (.iadd, 1) := by decide +kernel
theorem dX6_sum_15 : decode cX6_sum 15 = .ok (.istore_n 1, 1) := by decide +kernel
theorem dX6_sum_16 : decode cX6_sum 16 = .ok (.iinc 2 1, 3) := by decide +kernel
theorem dX6_sum_19 : decode cX6_sum 19 = .ok (.goto (-15), 3) := by decide +kernel
theorem dX6_sum_22 : decode cX6_sum 22 = .ok (.iload_n 1, 1) := by decide +kernel
theorem dX6_sum_23 : decode cX6_sum 23 = .ok (.ireturn, 1) := by decide +kernel
set_option maxRecDepth 100000 in
set_option maxHeartbeats 4000000 in
theorem g_X6_sum_4 (ids : List (Nat × Nat)) (Hn : Ndp ids) (i0 : Nat × Nat) (Ki0 : i0 ∈ ids) (Ni0 : ly_len i0.2 = some (alen i0))  : ∀ (n : Nat) (v1 : Int32) (v2 : Int32) (t0 : Sg), Gj kI mX6_sum ids 4 [some (aR i0), some (aI v1), some (aI v2)] [] t0 (f_X6_sum_4 i0 n v1 v2 t0) := by
  intro n
  induction n with
  | zero => intro v1 v2 t0; exact G_none
  | succ n ih =>
    intro v1 v2 t0
    rw [f_X6_sum_4]
    refine G_st (x_iload_n dX6_sum_4 rfl) ?_
    refine G_st (x_aload_n dX6_sum_5 rfl) ?_
    refine G_st (x_alen (v := (Int32.ofNat (alen i0))) dX6_sum_6 Ki0 Ni0 rfl) ?_
    refine G_ite (fun c1 => ?_) (fun c1 => ?_)
    · refine G_st (x_icmp_ge_t (tgt := 22) dX6_sum_7 (by decide) c1) ?_
      refine G_st (x_iload_n dX6_sum_22 rfl) ?_
      exact G_ret rfl ⟨dX6_sum_23, _, rfl, rfl⟩ rfl
    · refine G_st (x_icmp_ge_f 22 dX6_sum_7 (by decide) c1) ?_
      refine G_st (x_iload_n dX6_sum_10 rfl) ?_
      refine G_st (x_aload_n dX6_sum_11 rfl) ?_
      refine G_st (x_iload_n dX6_sum_12 rfl) ?_
      refine G_chk (fun c2 => ?_)
      refine G_st (x_iaload dX6_sum_13 Ki0 Ni0 c2) ?_
      refine G_st (x_iadd dX6_sum_14) ?_
      refine G_bvI (fun x3 => ?_)
      refine G_st (x_istore_n [some (aR i0), some (aI x3), some (aI v2)] dX6_sum_15 (Nat.le_of_ble_eq_true rfl) rfl rfl) ?_
      refine G_st (x_iinc (v2 + (1 : Int32)) [some (aR i0), some (aI x3), some (aI (v2 + (1 : Int32)))] dX6_sum_16 (Nat.le_of_ble_eq_true rfl) rfl rfl rfl rfl) ?_
      refine G_st (x_goto (tgt := 4) dX6_sum_19 (by decide)) ?_
      refine G_weak _ ?_ ((ih) x3 (v2 + (1 : Int32)) t0)
      exact (leL_s (leL_s (leL_s (leL_e _))))
set_option maxRecDepth 100000 in
set_option maxHeartbeats 4000000 in
theorem g_X6_sum (ids : List (Nat × Nat)) (Hn : Ndp ids) (i0 : Nat × Nat) (Ki0 : i0 ∈ ids) (Ni0 : ly_len i0.2 = some (alen i0)) (t0 : Sg) : Gj kI mX6_sum ids 0 [some (aR i0), none, none] [] t0 (f_X6_sum i0 t0) := by
  unfold f_X6_sum
  refine G_st (x_iconst (0 : Int32) dX6_sum_0 rfl) ?_
  refine G_st (x_istore_n [some (aR i0), some (aI (0 : Int32)), none] dX6_sum_1 (Nat.le_of_ble_eq_true rfl) rfl rfl) ?_
  refine G_st (x_iconst (0 : Int32) dX6_sum_2 rfl) ?_
  refine G_st (x_istore_n [some (aR i0), some (aI (0 : Int32)), some (aI (0 : Int32))] dX6_sum_3 (Nat.le_of_ble_eq_true rfl) rfl rfl) ?_
  refine G_weak _ ?_ (g_X6_sum_4 ids Hn i0 Ki0 Ni0 fuel (0 : Int32) (0 : Int32) t0)
  exact (leL_s (leL_s (leL_s (leL_e _))))
set_option maxRecDepth 100000 in
set_option maxHeartbeats 4000000 in
theorem c_X6_sum (ids : List (Nat × Nat)) (Hn : Ndp ids) (i0 : Nat × Nat) (Ki0 : i0 ∈ ids) (Ni0 : ly_len i0.2 = some (alen i0)) (t0 : Sg) (r : Int32) (t1 : Sg) (hf : f_X6_sum i0 t0 = some (r, t1)) : Mt0 mX6_sum yX6_sum ids [aR i0] t0 (some (aI r)) t1 :=
  Mt_of (x := (r, t1)) (g_X6_sum ids Hn i0 Ki0 Ni0 t0) hf (fun _ _ => trivial) (by decide) rfl Hn (fun _ => rfl) (fun _ => Nat.le_of_ble_eq_true rfl)
theorem dX6_refuse_0 : decode cX6_refuse 0 = .ok (.aload_n 0, 1) := by decide +kernel
theorem dX6_refuse_1 : decode cX6_refuse 1 = .ok (.getfield 33, 3) := by decide +kernel
theorem dX6_refuse_4 : decode cX6_refuse 4 = .ok (.iload_n 1, 1) := by decide +kernel
theorem dX6_refuse_5 : decode cX6_refuse 5 = .ok (.ineg, 1) := by decide +kernel
theorem dX6_refuse_6 : decode cX6_refuse 6 = .ok (.aload_n 0, 1) := by decide +kernel
theorem dX6_refuse_7 : decode cX6_refuse 7 = .ok (.getfield 33, 3) := by decide +kernel
theorem dX6_refuse_10 : decode cX6_refuse 10 = .ok (.iload_n 1, 1) := by decide +kernel
theorem dX6_refuse_11 : decode cX6_refuse 11 = .ok (.ineg, 1) := by decide +kernel
theorem dX6_refuse_12 : decode cX6_refuse 12 = .ok (.invokestatic 59, 3) := by decide +kernel
theorem dX6_refuse_15 : decode cX6_refuse 15 = .ok (.iconst 1, 1) := by decide +kernel
theorem dX6_refuse_16 : decode cX6_refuse 16 = .ok (.iadd, 1) := by decide +kernel
theorem dX6_refuse_17 : decode cX6_refuse 17 = .ok (.invokestatic 63, 3) := by decide +kernel
theorem dX6_refuse_20 : decode cX6_refuse 20 = .ok (.iload_n 1, 1) := by decide +kernel
theorem dX6_refuse_21 : decode cX6_refuse 21 = .ok (.ireturn, 1) := by decide +kernel
set_option maxRecDepth 100000 in
set_option maxHeartbeats 4000000 in
theorem g_X6_refuse (ids : List (Nat × Nat)) (Hn : Ndp ids) (v1 : Int32) (H0_0 : InR ids 0 0 5) (H1 : InR ids 1 6 28) (H2 : InR ids 2 6 28) (H3 : InR ids 3 6 28) (t0 : Sg) : Gj kI mX6_refuse ids 0 [some (aR (0, 0)), some (aI v1)] [] t0 (f_X6_refuse v1 t0) := by
  unfold f_X6_refuse
  refine G_st (x_aload_n dX6_refuse_0 rfl) ?_
  refine G_st (x_get (k := 5) (aR (0, 2)) dX6_refuse_1 (H0_0 0 (Nat.le_of_ble_eq_true rfl) (Nat.le_of_ble_eq_true rfl)) rfl rfl rfl rfl inTX6 (Nat.le_of_ble_eq_true rfl) tw_290 (fun ad => rfl)) ?_
  refine G_st (x_iload_n dX6_refuse_4 rfl) ?_
  refine G_st (x_ineg dX6_refuse_5) ?_
  refine G_st (x_aload_n dX6_refuse_6 rfl) ?_
  refine G_st (x_get (k := 5) (aR (0, 2)) dX6_refuse_7 (H0_0 0 (Nat.le_of_ble_eq_true rfl) (Nat.le_of_ble_eq_true rfl)) rfl rfl rfl rfl inTX6 (Nat.le_of_ble_eq_true rfl) tw_290 (fun ad => rfl)) ?_
  refine G_st (x_iload_n dX6_refuse_10 rfl) ?_
  refine G_st (x_ineg dX6_refuse_11) ?_
  refine G_bd (fun x1 t2 h3 => ?_)
  refine G_st (x_callS [aI (-v1), aR (0, 2)] (c_X6_get ids Hn (0, 2) (-v1) (H0_0 2 (Nat.le_of_ble_eq_true rfl) (Nat.le_of_ble_eq_true rfl)) rfl _ _ _ h3) dX6_refuse_12 tw_321 kc_X6_get rfl ⟨Nat.le_of_ble_eq_true rfl, Nat.le_of_ble_eq_true rfl⟩ (Nat.le_of_ble_eq_true rfl) rfl) ?_
  refine G_st (x_iconst (1 : Int32) dX6_refuse_15 rfl) ?_
  refine G_st (x_iadd dX6_refuse_16) ?_
  refine G_bd (fun _ t5 h6 => ?_)
  refine G_st (x_callS [] (c_X6_set ids Hn (0, 2) (-v1) (x1 + (1 : Int32)) (H0_0 2 (Nat.le_of_ble_eq_true rfl) (Nat.le_of_ble_eq_true rfl)) rfl _ _ _ h6) dX6_refuse_17 tw_324 kc_X6_set rfl ⟨Nat.le_of_ble_eq_true rfl, Nat.le_of_ble_eq_true rfl⟩ (Nat.le_of_ble_eq_true rfl) rfl) ?_
  refine G_st (x_iload_n dX6_refuse_20 rfl) ?_
  exact G_ret rfl ⟨dX6_refuse_21, _, rfl, rfl⟩ rfl
set_option maxRecDepth 100000 in
set_option maxHeartbeats 4000000 in
theorem c_X6_refuse (ids : List (Nat × Nat)) (Hn : Ndp ids) (v1 : Int32) (H0_0 : InR ids 0 0 5) (H1 : InR ids 1 6 28) (H2 : InR ids 2 6 28) (H3 : InR ids 3 6 28) (t0 : Sg) (r : Int32) (t1 : Sg) (hf : f_X6_refuse v1 t0 = some (r, t1)) : Mt0 mX6_refuse yX6_refuse ids [aR (0, 0), aI v1] t0 (some (aI r)) t1 :=
  Mt_of (x := (r, t1)) (g_X6_refuse ids Hn v1 H0_0 H1 H2 H3 t0) hf (fun _ _ => trivial) (by decide) rfl Hn (fun _ => rfl) (fun _ => Nat.le_of_ble_eq_true rfl)
theorem dX6_isTenant_0 : decode cX6_isTenant 0 = .ok (.iload_n 1, 1) := by decide +kernel
theorem dX6_isTenant_1 : decode cX6_isTenant 1 = .ok (.iconst 0, 1) := by decide +kernel
theorem dX6_isTenant_2 : decode cX6_isTenant 2 = .ok (.aload_n 0, 1) := by decide +kernel
theorem dX6_isTenant_3 : decode cX6_isTenant 3 = .ok (.getfield 12, 3) := by decide +kernel
theorem dX6_isTenant_6 : decode cX6_isTenant 6 = .ok (.getfield 67, 3) := by decide +kernel
theorem dX6_isTenant_9 : decode cX6_isTenant 9 = .ok (.invokevirtual 71, 3) := by decide +kernel
theorem dX6_isTenant_12 : decode cX6_isTenant 12 = .ok (.iconst 1, 1) := by decide +kernel
theorem dX6_isTenant_13 : decode cX6_isTenant 13 = .ok (.isub, 1) := by decide +kernel
theorem dX6_isTenant_14 : decode cX6_isTenant 14 = .ok (.invokestatic 77, 3) := by decide +kernel
theorem dX6_isTenant_17 : decode cX6_isTenant 17 = .ok (.ireturn, 1) := by decide +kernel
set_option maxRecDepth 100000 in
set_option maxHeartbeats 4000000 in
theorem g_X6_isTenant (ids : List (Nat × Nat)) (Hn : Ndp ids) (v1 : Int32) (H0_0 : InR ids 0 0 5) (H1 : InR ids 1 6 28) (H2 : InR ids 2 6 28) (H3 : InR ids 3 6 28) (t0 : Sg) : Gj kI mX6_isTenant ids 0 [some (aR (0, 0)), some (aI v1)] [] t0 (f_X6_isTenant v1 t0) := by
  unfold f_X6_isTenant
  refine G_st (x_iload_n dX6_isTenant_0 rfl) ?_
  refine G_st (x_iconst (0 : Int32) dX6_isTenant_1 rfl) ?_
  refine G_st (x_aload_n dX6_isTenant_2 rfl) ?_
  refine G_st (x_get (k := 0) (aR (1, 6)) dX6_isTenant_3 (H0_0 0 (Nat.le_of_ble_eq_true rfl) (Nat.le_of_ble_eq_true rfl)) rfl rfl rfl rfl inTX6 (Nat.le_of_ble_eq_true rfl) tw_285 (fun ad => rfl)) ?_
  refine G_st (x_get (k := 0) (aR (1, 7)) dX6_isTenant_6 (H1 6 (Nat.le_of_ble_eq_true rfl) (Nat.le_of_ble_eq_true rfl)) rfl rfl rfl rfl inTX2 (Nat.le_of_ble_eq_true rfl) tw_250 (fun ad => rfl)) ?_
  refine G_bd (fun x1 t2 h3 => ?_)
  refine G_st (x_callV [aI (0 : Int32), aI v1] (c_X0_tenants ids Hn 1 (H1.sub (Nat.le_of_ble_eq_true rfl) (Nat.le_of_ble_eq_true rfl)) _ _ _ h3) dX6_isTenant_9 tw_534 kc_X0_tenants (H1 7 (Nat.le_of_ble_eq_true rfl) (Nat.le_of_ble_eq_true rfl)) rfl rfl rfl rfl ⟨Nat.le_of_ble_eq_true rfl, Nat.le_of_ble_eq_true rfl⟩ (Nat.le_of_ble_eq_true rfl) rfl) ?_
  refine G_st (x_iconst (1 : Int32) dX6_isTenant_12 rfl) ?_
  refine G_st (x_isub dX6_isTenant_13) ?_
  refine G_bd (fun x4 t5 h6 => ?_)
  refine G_st (x_callS [] (c_X6_within ids Hn v1 (0 : Int32) (x1 - (1 : Int32))  _ _ _ h6) dX6_isTenant_14 tw_431 kc_X6_within rfl ⟨Nat.le_of_ble_eq_true rfl, Nat.le_of_ble_eq_true rfl⟩ (Nat.le_of_ble_eq_true rfl) rfl) ?_
  refine G_chk (fun c7 => ?_)
  exact G_ret rfl ⟨dX6_isTenant_17, _, rfl, nar_b c7⟩ rfl
set_option maxRecDepth 100000 in
set_option maxHeartbeats 4000000 in
theorem c_X6_isTenant (ids : List (Nat × Nat)) (Hn : Ndp ids) (v1 : Int32) (H0_0 : InR ids 0 0 5) (H1 : InR ids 1 6 28) (H2 : InR ids 2 6 28) (H3 : InR ids 3 6 28) (t0 : Sg) (r : Int32) (t1 : Sg) (hf : f_X6_isTenant v1 t0 = some (r, t1)) : Mt0 mX6_isTenant yX6_isTenant ids [aR (0, 0), aI v1] t0 (some (aI r)) t1 :=
  Mt_of (x := (r, t1)) (g_X6_isTenant ids Hn v1 H0_0 H1 H2 H3 t0) hf (fun _ _ => trivial) (by decide) rfl Hn (fun _ => rfl) (fun _ => Nat.le_of_ble_eq_true rfl)
theorem dX6_isHabit_0 : decode cX6_isHabit 0 = .ok (.iload_n 1, 1) := by decide +kernel
theorem dX6_isHabit_1 : decode cX6_isHabit 1 = .ok (.iconst 0, 1) := by decide +kernel
theorem dX6_isHabit_2 : decode cX6_isHabit 2 = .ok (.aload_n 0, 1) := by decide +kernel
theorem dX6_isHabit_3 : decode cX6_isHabit 3 = .ok (.getfield 12, 3) := by decide +kernel
theorem dX6_isHabit_6 : decode cX6_isHabit 6 = .ok (.getfield 81, 3) := by decide +kernel
theorem dX6_isHabit_9 : decode cX6_isHabit 9 = .ok (.getfield 85, 3) := by decide +kernel
theorem dX6_isHabit_12 : decode cX6_isHabit 12 = .ok (.iconst 1, 1) := by decide +kernel
theorem dX6_isHabit_13 : decode cX6_isHabit 13 = .ok (.isub, 1) := by decide +kernel
theorem dX6_isHabit_14 : decode cX6_isHabit 14 = .ok (.invokestatic 77, 3) := by decide +kernel
theorem dX6_isHabit_17 : decode cX6_isHabit 17 = .ok (.ireturn, 1) := by decide +kernel
set_option maxRecDepth 100000 in
set_option maxHeartbeats 4000000 in
theorem g_X6_isHabit (ids : List (Nat × Nat)) (Hn : Ndp ids) (v1 : Int32) (H0_0 : InR ids 0 0 5) (H1 : InR ids 1 6 28) (H2 : InR ids 2 6 28) (H3 : InR ids 3 6 28) (t0 : Sg) : Gj kI mX6_isHabit ids 0 [some (aR (0, 0)), some (aI v1)] [] t0 (f_X6_isHabit v1 t0) := by
  unfold f_X6_isHabit
  refine G_st (x_iload_n dX6_isHabit_0 rfl) ?_
  refine G_st (x_iconst (0 : Int32) dX6_isHabit_1 rfl) ?_
  refine G_st (x_aload_n dX6_isHabit_2 rfl) ?_
  refine G_st (x_get (k := 0) (aR (1, 6)) dX6_isHabit_3 (H0_0 0 (Nat.le_of_ble_eq_true rfl) (Nat.le_of_ble_eq_true rfl)) rfl rfl rfl rfl inTX6 (Nat.le_of_ble_eq_true rfl) tw_285 (fun ad => rfl)) ?_
  refine G_st (x_get (k := 1) (aR (1, 15)) dX6_isHabit_6 (H1 6 (Nat.le_of_ble_eq_true rfl) (Nat.le_of_ble_eq_true rfl)) rfl rfl rfl rfl inTX2 (Nat.le_of_ble_eq_true rfl) tw_253 (fun ad => rfl)) ?_
  refine G_st (x_get (k := 0) (aI (t0 (1, 15) 0)) dX6_isHabit_9 (H1 15 (Nat.le_of_ble_eq_true rfl) (Nat.le_of_ble_eq_true rfl)) rfl rfl rfl rfl inTX1 (Nat.le_of_ble_eq_true rfl) tw_171 (fun ad => rfl)) ?_
  refine G_st (x_iconst (1 : Int32) dX6_isHabit_12 rfl) ?_
  refine G_st (x_isub dX6_isHabit_13) ?_
  refine G_bd (fun x1 t2 h3 => ?_)
  refine G_st (x_callS [] (c_X6_within ids Hn v1 (0 : Int32) ((t0 (1, 15) 0) - (1 : Int32))  _ _ _ h3) dX6_isHabit_14 tw_431 kc_X6_within rfl ⟨Nat.le_of_ble_eq_true rfl, Nat.le_of_ble_eq_true rfl⟩ (Nat.le_of_ble_eq_true rfl) rfl) ?_
  refine G_chk (fun c4 => ?_)
  exact G_ret rfl ⟨dX6_isHabit_17, _, rfl, nar_b c4⟩ rfl
set_option maxRecDepth 100000 in
set_option maxHeartbeats 4000000 in
theorem c_X6_isHabit (ids : List (Nat × Nat)) (Hn : Ndp ids) (v1 : Int32) (H0_0 : InR ids 0 0 5) (H1 : InR ids 1 6 28) (H2 : InR ids 2 6 28) (H3 : InR ids 3 6 28) (t0 : Sg) (r : Int32) (t1 : Sg) (hf : f_X6_isHabit v1 t0 = some (r, t1)) : Mt0 mX6_isHabit yX6_isHabit ids [aR (0, 0), aI v1] t0 (some (aI r)) t1 :=
  Mt_of (x := (r, t1)) (g_X6_isHabit ids Hn v1 H0_0 H1 H2 H3 t0) hf (fun _ _ => trivial) (by decide) rfl Hn (fun _ => rfl) (fun _ => Nat.le_of_ble_eq_true rfl)
theorem dX6_tryAnew_0 : decode cX6_tryAnew 0 = .ok (.aload_n 0, 1) := by decide +kernel
theorem dX6_tryAnew_1 : decode cX6_tryAnew 1 = .ok (.getfield 19, 3) := by decide +kernel
theorem dX6_tryAnew_4 : decode cX6_tryAnew 4 = .ok (.getfield 67, 3) := by decide +kernel
theorem dX6_tryAnew_7 : decode cX6_tryAnew 7 = .ok (.aload_n 0, 1) := by decide +kernel
theorem dX6_tryAnew_8 : decode cX6_tryAnew 8 = .ok (.getfield 12, 3) := by decide +kernel
theorem dX6_tryAnew_11 : decode cX6_tryAnew 11 = .ok (.getfield 67, 3) := by decide +kernel
theorem dX6_tryAnew_14 : decode cX6_tryAnew 14 = .ok (.invokevirtual 90, 3) := by decide +kernel
theorem dX6_tryAnew_17 : decode cX6_tryAnew 17 = .ok (.aload_n 0, 1) := by decide +kernel
theorem dX6_tryAnew_18 : decode cX6_tryAnew 18 = .ok (.getfield 19, 3) := by decide +kernel
theorem dX6_tryAnew_21 : decode cX6_tryAnew 21 = .ok (.getfield 81, 3) := by decide +kernel
theorem dX6_tryAnew_24 : decode cX6_tryAnew 24 = .ok (.aload_n 0, 1) := by decide +kernel
theorem dX6_tryAnew_25 : decode cX6_tryAnew 25 = .ok (.getfield 12, 3) := by decide +kernel
theorem dX6_tryAnew_28 : decode cX6_tryAnew 28 = .ok (.getfield 81, 3) := by decide +kernel
theorem dX6_tryAnew_31 : decode cX6_tryAnew 31 = .ok (.invokevirtual 94, 3) := by decide +kernel
theorem dX6_tryAnew_34 : decode cX6_tryAnew 34 = .ok (.return_, 1) := by decide +kernel
set_option maxRecDepth 100000 in
set_option maxHeartbeats 4000000 in
theorem g_X6_tryAnew (ids : List (Nat × Nat)) (Hn : Ndp ids)  (H0_0 : InR ids 0 0 5) (H1 : InR ids 1 6 28) (H2 : InR ids 2 6 28) (H3 : InR ids 3 6 28) (t0 : Sg) : Gj kV mX6_tryAnew ids 0 [some (aR (0, 0))] [] t0 (f_X6_tryAnew t0) := by
  unfold f_X6_tryAnew
  refine G_st (x_aload_n dX6_tryAnew_0 rfl) ?_
  refine G_st (x_get (k := 2) (aR (3, 6)) dX6_tryAnew_1 (H0_0 0 (Nat.le_of_ble_eq_true rfl) (Nat.le_of_ble_eq_true rfl)) rfl rfl rfl rfl inTX6 (Nat.le_of_ble_eq_true rfl) tw_287 (fun ad => rfl)) ?_
  refine G_st (x_get (k := 0) (aR (3, 7)) dX6_tryAnew_4 (H3 6 (Nat.le_of_ble_eq_true rfl) (Nat.le_of_ble_eq_true rfl)) rfl rfl rfl rfl inTX2 (Nat.le_of_ble_eq_true rfl) tw_250 (fun ad => rfl)) ?_
  refine G_st (x_aload_n dX6_tryAnew_7 rfl) ?_
  refine G_st (x_get (k := 0) (aR (1, 6)) dX6_tryAnew_8 (H0_0 0 (Nat.le_of_ble_eq_true rfl) (Nat.le_of_ble_eq_true rfl)) rfl rfl rfl rfl inTX6 (Nat.le_of_ble_eq_true rfl) tw_285 (fun ad => rfl)) ?_
  refine G_st (x_get (k := 0) (aR (1, 7)) dX6_tryAnew_11 (H1 6 (Nat.le_of_ble_eq_true rfl) (Nat.le_of_ble_eq_true rfl)) rfl rfl rfl rfl inTX2 (Nat.le_of_ble_eq_true rfl) tw_250 (fun ad => rfl)) ?_
  refine G_bd (fun _ t2 h3 => ?_)
  refine G_st (x_callV [] (c_X0_copyFrom ids Hn 3 1 (H3.sub (Nat.le_of_ble_eq_true rfl) (Nat.le_of_ble_eq_true rfl)) (H1.sub (Nat.le_of_ble_eq_true rfl) (Nat.le_of_ble_eq_true rfl)) _ _ _ h3) dX6_tryAnew_14 tw_693 kc_X0_copyFrom (H3 7 (Nat.le_of_ble_eq_true rfl) (Nat.le_of_ble_eq_true rfl)) rfl rfl rfl rfl ⟨Nat.le_of_ble_eq_true rfl, Nat.le_of_ble_eq_true rfl⟩ (Nat.le_of_ble_eq_true rfl) rfl) ?_
  refine G_st (x_aload_n dX6_tryAnew_17 rfl) ?_
  refine G_st (x_get (k := 2) (aR (3, 6)) dX6_tryAnew_18 (H0_0 0 (Nat.le_of_ble_eq_true rfl) (Nat.le_of_ble_eq_true rfl)) rfl rfl rfl rfl inTX6 (Nat.le_of_ble_eq_true rfl) tw_287 (fun ad => rfl)) ?_
  refine G_st (x_get (k := 1) (aR (3, 15)) dX6_tryAnew_21 (H3 6 (Nat.le_of_ble_eq_true rfl) (Nat.le_of_ble_eq_true rfl)) rfl rfl rfl rfl inTX2 (Nat.le_of_ble_eq_true rfl) tw_253 (fun ad => rfl)) ?_
  refine G_st (x_aload_n dX6_tryAnew_24 rfl) ?_
  refine G_st (x_get (k := 0) (aR (1, 6)) dX6_tryAnew_25 (H0_0 0 (Nat.le_of_ble_eq_true rfl) (Nat.le_of_ble_eq_true rfl)) rfl rfl rfl rfl inTX6 (Nat.le_of_ble_eq_true rfl) tw_285 (fun ad => rfl)) ?_
  refine G_st (x_get (k := 1) (aR (1, 15)) dX6_tryAnew_28 (H1 6 (Nat.le_of_ble_eq_true rfl) (Nat.le_of_ble_eq_true rfl)) rfl rfl rfl rfl inTX2 (Nat.le_of_ble_eq_true rfl) tw_253 (fun ad => rfl)) ?_
  refine G_bd (fun _ t5 h6 => ?_)
  refine G_st (x_callV [] (c_X1_copyFrom ids Hn 3 1 (H3.sub (Nat.le_of_ble_eq_true rfl) (Nat.le_of_ble_eq_true rfl)) (H1.sub (Nat.le_of_ble_eq_true rfl) (Nat.le_of_ble_eq_true rfl)) _ _ _ h6) dX6_tryAnew_31 tw_694 kc_X1_copyFrom (H3 15 (Nat.le_of_ble_eq_true rfl) (Nat.le_of_ble_eq_true rfl)) rfl rfl rfl rfl ⟨Nat.le_of_ble_eq_true rfl, Nat.le_of_ble_eq_true rfl⟩ (Nat.le_of_ble_eq_true rfl) rfl) ?_
  exact G_ret rfl ⟨rfl, dX6_tryAnew_34⟩ rfl
set_option maxRecDepth 100000 in
set_option maxHeartbeats 4000000 in
theorem c_X6_tryAnew (ids : List (Nat × Nat)) (Hn : Ndp ids)  (H0_0 : InR ids 0 0 5) (H1 : InR ids 1 6 28) (H2 : InR ids 2 6 28) (H3 : InR ids 3 6 28) (t0 : Sg) (r : Unit) (t1 : Sg) (hf : f_X6_tryAnew t0 = some (r, t1)) : Mt0 mX6_tryAnew yX6_tryAnew ids [aR (0, 0)] t0 none t1 :=
  Mt_of (x := (r, t1)) (g_X6_tryAnew ids Hn  H0_0 H1 H2 H3 t0) hf (fun _ _ => trivial) (by decide) rfl Hn (fun _ => rfl) (fun _ => Nat.le_of_ble_eq_true rfl)
theorem dX6_tryAsIs_0 : decode cX6_tryAsIs 0 = .ok (.aload_n 0, 1) := by decide +kernel
theorem dX6_tryAsIs_1 : decode cX6_tryAsIs 1 = .ok (.invokevirtual 97, 3) := by decide +kernel
theorem dX6_tryAsIs_4 : decode cX6_tryAsIs 4 = .ok (.aload_n 0, 1) := by decide +kernel
theorem dX6_tryAsIs_5 : decode cX6_tryAsIs 5 = .ok (.getfield 19, 3) := by decide +kernel
theorem dX6_tryAsIs_8 : decode cX6_tryAsIs 8 = .ok (.invokevirtual 100, 3) := by decide +kernel
theorem dX6_tryAsIs_11 : decode cX6_tryAsIs 11 = .ok (.istore_n 1, 1) := by decide +kernel
theorem dX6_tryAsIs_12 : decode cX6_tryAsIs 12 = .ok (.aload_n 0, 1) := by decide +kernel
theorem dX6_tryAsIs_13 : decode cX6_tryAsIs 13 = .ok (.getfield 19, 3) := by decide +kernel
theorem dX6_tryAsIs_16 : decode cX6_tryAsIs 16 = .ok (.getfield 103, 3) := by decide +kernel
theorem dX6_tryAsIs_19 : decode cX6_tryAsIs 19 = .ok (.getfield 107, 3) := by decide +kernel
theorem dX6_tryAsIs_22 : decode cX6_tryAsIs 22 = .ok (.aload_n 0, 1) := by decide +kernel
theorem dX6_tryAsIs_23 : decode cX6_tryAsIs 23 = .ok (.getfield 36, 3) := by decide +kernel
theorem dX6_tryAsIs_26 : decode cX6_tryAsIs 26 = .ok (.invokestatic 112, 3) := by decide +kernel
theorem dX6_tryAsIs_29 : decode cX6_tryAsIs 29 = .ok (.iload_n 1, 1) := by decide +kernel
theorem dX6_tryAsIs_30 : decode cX6_tryAsIs 30 = .ok (.ireturn, 1) := by decide +kernel
set_option maxRecDepth 100000 in
set_option maxHeartbeats 4000000 in
theorem g_X6_tryAsIs (ids : List (Nat × Nat)) (Hn : Ndp ids)  (H0_0 : InR ids 0 0 5) (H1 : InR ids 1 6 28) (H2 : InR ids 2 6 28) (H3 : InR ids 3 6 28) (t0 : Sg) : Gj kI mX6_tryAsIs ids 0 [some (aR (0, 0)), none] [] t0 (f_X6_tryAsIs t0) := by
  unfold f_X6_tryAsIs
  refine G_st (x_aload_n dX6_tryAsIs_0 rfl) ?_
  refine G_bd (fun _ t2 h3 => ?_)
  refine G_st (x_callV [] (c_X6_tryAnew ids Hn  H0_0 H1 H2 H3 _ _ _ h3) dX6_tryAsIs_1 tw_689 kc_X6_tryAnew (H0_0 0 (Nat.le_of_ble_eq_true rfl) (Nat.le_of_ble_eq_true rfl)) rfl rfl rfl rfl ⟨Nat.le_of_ble_eq_true rfl, Nat.le_of_ble_eq_true rfl⟩ (Nat.le_of_ble_eq_true rfl) rfl) ?_
  refine G_st (x_aload_n dX6_tryAsIs_4 rfl) ?_
  refine G_st (x_get (k := 2) (aR (3, 6)) dX6_tryAsIs_5 (H0_0 0 (Nat.le_of_ble_eq_true rfl) (Nat.le_of_ble_eq_true rfl)) rfl rfl rfl rfl inTX6 (Nat.le_of_ble_eq_true rfl) tw_287 (fun ad => rfl)) ?_
  refine G_bd (fun x4 t5 h6 => ?_)
  refine G_st (x_callV [] (c_X2_spendWeek ids Hn 3 H3 _ _ _ h6) dX6_tryAsIs_8 tw_605 kc_X2_spendWeek (H3 6 (Nat.le_of_ble_eq_true rfl) (Nat.le_of_ble_eq_true rfl)) rfl rfl rfl rfl ⟨Nat.le_of_ble_eq_true rfl, Nat.le_of_ble_eq_true rfl⟩ (Nat.le_of_ble_eq_true rfl) rfl) ?_
  refine G_st (x_istore_n [some (aR (0, 0)), some (aI x4)] dX6_tryAsIs_11 (Nat.le_of_ble_eq_true rfl) rfl rfl) ?_
  refine G_st (x_aload_n dX6_tryAsIs_12 rfl) ?_
  refine G_st (x_get (k := 2) (aR (3, 6)) dX6_tryAsIs_13 (H0_0 0 (Nat.le_of_ble_eq_true rfl) (Nat.le_of_ble_eq_true rfl)) rfl rfl rfl rfl inTX6 (Nat.le_of_ble_eq_true rfl) tw_287 (fun ad => rfl)) ?_
  refine G_st (x_get (k := 2) (aR (3, 20)) dX6_tryAsIs_16 (H3 6 (Nat.le_of_ble_eq_true rfl) (Nat.le_of_ble_eq_true rfl)) rfl rfl rfl rfl inTX2 (Nat.le_of_ble_eq_true rfl) tw_256 (fun ad => rfl)) ?_
  refine G_st (x_get (k := 2) (aR (3, 23)) dX6_tryAsIs_19 (H3 20 (Nat.le_of_ble_eq_true rfl) (Nat.le_of_ble_eq_true rfl)) rfl rfl rfl rfl inTX3 (Nat.le_of_ble_eq_true rfl) tw_209 (fun ad => rfl)) ?_
  refine G_st (x_aload_n dX6_tryAsIs_22 rfl) ?_
  refine G_st (x_get (k := 6) (aR (0, 3)) dX6_tryAsIs_23 (H0_0 0 (Nat.le_of_ble_eq_true rfl) (Nat.le_of_ble_eq_true rfl)) rfl rfl rfl rfl inTX6 (Nat.le_of_ble_eq_true rfl) tw_291 (fun ad => rfl)) ?_
  refine G_bd (fun _ t8 h9 => ?_)
  refine G_st (x_callS [] (c_X6_copy ids Hn (3, 23) (0, 3) (H3 23 (Nat.le_of_ble_eq_true rfl) (Nat.le_of_ble_eq_true rfl)) rfl (H0_0 3 (Nat.le_of_ble_eq_true rfl) (Nat.le_of_ble_eq_true rfl)) rfl _ _ _ h9) dX6_tryAsIs_26 tw_732 kc_X6_copy rfl ⟨Nat.le_of_ble_eq_true rfl, Nat.le_of_ble_eq_true rfl⟩ (Nat.le_of_ble_eq_true rfl) rfl) ?_
  refine G_st (x_iload_n dX6_tryAsIs_29 rfl) ?_
  exact G_ret rfl ⟨dX6_tryAsIs_30, _, rfl, rfl⟩ rfl
set_option maxRecDepth 100000 in
set_option maxHeartbeats 4000000 in
theorem c_X6_tryAsIs (ids : List (Nat × Nat)) (Hn : Ndp ids)  (H0_0 : InR ids 0 0 5) (H1 : InR ids 1 6 28) (H2 : InR ids 2 6 28) (H3 : InR ids 3 6 28) (t0 : Sg) (r : Int32) (t1 : Sg) (hf : f_X6_tryAsIs t0 = some (r, t1)) : Mt0 mX6_tryAsIs yX6_tryAsIs ids [aR (0, 0)] t0 (some (aI r)) t1 :=
  Mt_of (x := (r, t1)) (g_X6_tryAsIs ids Hn  H0_0 H1 H2 H3 t0) hf (fun _ _ => trivial) (by decide) rfl Hn (fun _ => rfl) (fun _ => Nat.le_of_ble_eq_true rfl)
theorem dX6_tryHour_0 : decode cX6_tryHour 0 = .ok (.aload_n 0, 1) := by decide +kernel
theorem dX6_tryHour_1 : decode cX6_tryHour 1 = .ok (.invokevirtual 97, 3) := by decide +kernel
theorem dX6_tryHour_4 : decode cX6_tryHour 4 = .ok (.aload_n 0, 1) := by decide +kernel
theorem dX6_tryHour_5 : decode cX6_tryHour 5 = .ok (.getfield 19, 3) := by decide +kernel
theorem dX6_tryHour_8 : decode cX6_tryHour 8 = .ok (.getfield 81, 3) := by decide +kernel
theorem dX6_tryHour_11 : decode cX6_tryHour 11 = .ok (.getfield 116, 3) := by decide +kernel
theorem dX6_tryHour_14 : decode cX6_tryHour 14 = .ok (.iload_n 1, 1) := by decide +kernel
theorem dX6_tryHour_15 : decode cX6_tryHour 15 = .ok (.iload_n 2, 1) := by decide +kernel
theorem dX6_tryHour_16 : decode cX6_tryHour 16 = .ok (.invokestatic 63, 3) := by decide +kernel
theorem dX6_tryHour_19 : decode cX6_tryHour 19 = .ok (.aload_n 0, 1) := by decide +kernel
theorem dX6_tryHour_20 : decode cX6_tryHour 20 = .ok (.getfield 19, 3) := by decide +kernel
theorem dX6_tryHour_23 : decode cX6_tryHour 23 = .ok (.invokevirtual 100, 3) := by decide +kernel
theorem dX6_tryHour_26 : decode cX6_tryHour 26 = .ok (.ireturn, 1) := by decide +kernel
set_option maxRecDepth 100000 in
set_option maxHeartbeats 4000000 in
theorem g_X6_tryHour (ids : List (Nat × Nat)) (Hn : Ndp ids) (v1 : Int32) (v2 : Int32) (H0_0 : InR ids 0 0 5) (H1 : InR ids 1 6 28) (H2 : InR ids 2 6 28) (H3 : InR ids 3 6 28) (t0 : Sg) : Gj kI mX6_tryHour ids 0 [some (aR (0, 0)), some (aI v1), some (aI v2)] [] t0 (f_X6_tryHour v1 v2 t0) := by
  unfold f_X6_tryHour
  refine G_st (x_aload_n dX6_tryHour_0 rfl) ?_
  refine G_bd (fun _ t2 h3 => ?_)
  refine G_st (x_callV [] (c_X6_tryAnew ids Hn  H0_0 H1 H2 H3 _ _ _ h3) dX6_tryHour_1 tw_689 kc_X6_tryAnew (H0_0 0 (Nat.le_of_ble_eq_true rfl) (Nat.le_of_ble_eq_true rfl)) rfl rfl rfl rfl ⟨Nat.le_of_ble_eq_true rfl, Nat.le_of_ble_eq_true rfl⟩ (Nat.le_of_ble_eq_true rfl) rfl) ?_
  refine G_st (x_aload_n dX6_tryHour_4 rfl) ?_
  refine G_st (x_get (k := 2) (aR (3, 6)) dX6_tryHour_5 (H0_0 0 (Nat.le_of_ble_eq_true rfl) (Nat.le_of_ble_eq_true rfl)) rfl rfl rfl rfl inTX6 (Nat.le_of_ble_eq_true rfl) tw_287 (fun ad => rfl)) ?_
  refine G_st (x_get (k := 1) (aR (3, 15)) dX6_tryHour_8 (H3 6 (Nat.le_of_ble_eq_true rfl) (Nat.le_of_ble_eq_true rfl)) rfl rfl rfl rfl inTX2 (Nat.le_of_ble_eq_true rfl) tw_253 (fun ad => rfl)) ?_
  refine G_st (x_get (k := 4) (aR (3, 19)) dX6_tryHour_11 (H3 15 (Nat.le_of_ble_eq_true rfl) (Nat.le_of_ble_eq_true rfl)) rfl rfl rfl rfl inTX1 (Nat.le_of_ble_eq_true rfl) tw_186 (fun ad => rfl)) ?_
  refine G_st (x_iload_n dX6_tryHour_14 rfl) ?_
  refine G_st (x_iload_n dX6_tryHour_15 rfl) ?_
  refine G_bd (fun _ t5 h6 => ?_)
  refine G_st (x_callS [] (c_X6_set ids Hn (3, 19) v1 v2 (H3 19 (Nat.le_of_ble_eq_true rfl) (Nat.le_of_ble_eq_true rfl)) rfl _ _ _ h6) dX6_tryHour_16 tw_324 kc_X6_set rfl ⟨Nat.le_of_ble_eq_true rfl, Nat.le_of_ble_eq_true rfl⟩ (Nat.le_of_ble_eq_true rfl) rfl) ?_
  refine G_st (x_aload_n dX6_tryHour_19 rfl) ?_
  refine G_st (x_get (k := 2) (aR (3, 6)) dX6_tryHour_20 (H0_0 0 (Nat.le_of_ble_eq_true rfl) (Nat.le_of_ble_eq_true rfl)) rfl rfl rfl rfl inTX6 (Nat.le_of_ble_eq_true rfl) tw_287 (fun ad => rfl)) ?_
  refine G_bd (fun x7 t8 h9 => ?_)
  refine G_st (x_callV [] (c_X2_spendWeek ids Hn 3 H3 _ _ _ h9) dX6_tryHour_23 tw_605 kc_X2_spendWeek (H3 6 (Nat.le_of_ble_eq_true rfl) (Nat.le_of_ble_eq_true rfl)) rfl rfl rfl rfl ⟨Nat.le_of_ble_eq_true rfl, Nat.le_of_ble_eq_true rfl⟩ (Nat.le_of_ble_eq_true rfl) rfl) ?_
  exact G_ret rfl ⟨dX6_tryHour_26, _, rfl, rfl⟩ rfl
set_option maxRecDepth 100000 in
set_option maxHeartbeats 4000000 in
theorem c_X6_tryHour (ids : List (Nat × Nat)) (Hn : Ndp ids) (v1 : Int32) (v2 : Int32) (H0_0 : InR ids 0 0 5) (H1 : InR ids 1 6 28) (H2 : InR ids 2 6 28) (H3 : InR ids 3 6 28) (t0 : Sg) (r : Int32) (t1 : Sg) (hf : f_X6_tryHour v1 v2 t0 = some (r, t1)) : Mt0 mX6_tryHour yX6_tryHour ids [aR (0, 0), aI v1, aI v2] t0 (some (aI r)) t1 :=
  Mt_of (x := (r, t1)) (g_X6_tryHour ids Hn v1 v2 H0_0 H1 H2 H3 t0) hf (fun _ _ => trivial) (by decide) rfl Hn (fun _ => rfl) (fun _ => Nat.le_of_ble_eq_true rfl)
theorem dX6_tryQuiet_0 : decode cX6_tryQuiet 0 = .ok (.aload_n 0, 1) := by decide +kernel
theorem dX6_tryQuiet_1 : decode cX6_tryQuiet 1 = .ok (.invokevirtual 97, 3) := by decide +kernel
theorem dX6_tryQuiet_4 : decode cX6_tryQuiet 4 = .ok (.aload_n 0, 1) := by decide +kernel
theorem dX6_tryQuiet_5 : decode cX6_tryQuiet 5 = .ok (.getfield 19, 3) := by decide +kernel
theorem dX6_tryQuiet_8 : decode cX6_tryQuiet 8 = .ok (.getfield 81, 3) := by decide +kernel
theorem dX6_tryQuiet_11 : decode cX6_tryQuiet 11 = .ok (.iload_n 1, 1) := by decide +kernel
theorem dX6_tryQuiet_12 : decode cX6_tryQuiet 12 = .ok (.iload_n 2, 1) := by decide +kernel
theorem dX6_tryQuiet_13 : decode cX6_tryQuiet 13 = .ok (.invokevirtual 119, 3) := by decide +kernel
theorem dX6_tryQuiet_16 : decode cX6_tryQuiet 16 = .ok (.aload_n 0, 1) := by decide +kernel
theorem dX6_tryQuiet_17 : decode cX6_tryQuiet 17 = .ok (.getfield 19, 3) := by decide +kernel
theorem dX6_tryQuiet_20 : decode cX6_tryQuiet 20 = .ok (.invokevirtual 100, 3) := by decide +kernel
theorem dX6_tryQuiet_23 : decode cX6_tryQuiet 23 = .ok (.ireturn, 1) := by decide +kernel
set_option maxRecDepth 100000 in
set_option maxHeartbeats 4000000 in
theorem g_X6_tryQuiet (ids : List (Nat × Nat)) (Hn : Ndp ids) (v1 : Int32) (v2 : Int32) (H0_0 : InR ids 0 0 5) (H1 : InR ids 1 6 28) (H2 : InR ids 2 6 28) (H3 : InR ids 3 6 28) (t0 : Sg) : Gj kI mX6_tryQuiet ids 0 [some (aR (0, 0)), some (aI v1), some (aI v2)] [] t0 (f_X6_tryQuiet v1 v2 t0) := by
  unfold f_X6_tryQuiet
  refine G_st (x_aload_n dX6_tryQuiet_0 rfl) ?_
  refine G_bd (fun _ t2 h3 => ?_)
  refine G_st (x_callV [] (c_X6_tryAnew ids Hn  H0_0 H1 H2 H3 _ _ _ h3) dX6_tryQuiet_1 tw_689 kc_X6_tryAnew (H0_0 0 (Nat.le_of_ble_eq_true rfl) (Nat.le_of_ble_eq_true rfl)) rfl rfl rfl rfl ⟨Nat.le_of_ble_eq_true rfl, Nat.le_of_ble_eq_true rfl⟩ (Nat.le_of_ble_eq_true rfl) rfl) ?_
  refine G_st (x_aload_n dX6_tryQuiet_4 rfl) ?_
  refine G_st (x_get (k := 2) (aR (3, 6)) dX6_tryQuiet_5 (H0_0 0 (Nat.le_of_ble_eq_true rfl) (Nat.le_of_ble_eq_true rfl)) rfl rfl rfl rfl inTX6 (Nat.le_of_ble_eq_true rfl) tw_287 (fun ad => rfl)) ?_
  refine G_st (x_get (k := 1) (aR (3, 15)) dX6_tryQuiet_8 (H3 6 (Nat.le_of_ble_eq_true rfl) (Nat.le_of_ble_eq_true rfl)) rfl rfl rfl rfl inTX2 (Nat.le_of_ble_eq_true rfl) tw_253 (fun ad => rfl)) ?_
  refine G_st (x_iload_n dX6_tryQuiet_11 rfl) ?_
  refine G_st (x_iload_n dX6_tryQuiet_12 rfl) ?_
  refine G_bd (fun _ t5 h6 => ?_)
  refine G_st (x_callV [] (c_X1_putOff ids Hn 3 v1 v2 (H3.sub (Nat.le_of_ble_eq_true rfl) (Nat.le_of_ble_eq_true rfl)) _ _ _ h6) dX6_tryQuiet_13 tw_719 kc_X1_putOff (H3 15 (Nat.le_of_ble_eq_true rfl) (Nat.le_of_ble_eq_true rfl)) rfl rfl rfl rfl ⟨Nat.le_of_ble_eq_true rfl, Nat.le_of_ble_eq_true rfl⟩ (Nat.le_of_ble_eq_true rfl) rfl) ?_
  refine G_st (x_aload_n dX6_tryQuiet_16 rfl) ?_
  refine G_st (x_get (k := 2) (aR (3, 6)) dX6_tryQuiet_17 (H0_0 0 (Nat.le_of_ble_eq_true rfl) (Nat.le_of_ble_eq_true rfl)) rfl rfl rfl rfl inTX6 (Nat.le_of_ble_eq_true rfl) tw_287 (fun ad => rfl)) ?_
  refine G_bd (fun x7 t8 h9 => ?_)
  refine G_st (x_callV [] (c_X2_spendWeek ids Hn 3 H3 _ _ _ h9) dX6_tryQuiet_20 tw_605 kc_X2_spendWeek (H3 6 (Nat.le_of_ble_eq_true rfl) (Nat.le_of_ble_eq_true rfl)) rfl rfl rfl rfl ⟨Nat.le_of_ble_eq_true rfl, Nat.le_of_ble_eq_true rfl⟩ (Nat.le_of_ble_eq_true rfl) rfl) ?_
  exact G_ret rfl ⟨dX6_tryQuiet_23, _, rfl, rfl⟩ rfl
set_option maxRecDepth 100000 in
set_option maxHeartbeats 4000000 in
theorem c_X6_tryQuiet (ids : List (Nat × Nat)) (Hn : Ndp ids) (v1 : Int32) (v2 : Int32) (H0_0 : InR ids 0 0 5) (H1 : InR ids 1 6 28) (H2 : InR ids 2 6 28) (H3 : InR ids 3 6 28) (t0 : Sg) (r : Int32) (t1 : Sg) (hf : f_X6_tryQuiet v1 v2 t0 = some (r, t1)) : Mt0 mX6_tryQuiet yX6_tryQuiet ids [aR (0, 0), aI v1, aI v2] t0 (some (aI r)) t1 :=
  Mt_of (x := (r, t1)) (g_X6_tryQuiet ids Hn v1 v2 H0_0 H1 H2 H3 t0) hf (fun _ _ => trivial) (by decide) rfl Hn (fun _ => rfl) (fun _ => Nat.le_of_ble_eq_true rfl)
theorem dX6_tryAwning_0 : decode cX6_tryAwning 0 = .ok (.aload_n 0, 1) := by decide +kernel
theorem dX6_tryAwning_1 : decode cX6_tryAwning 1 = .ok (.invokevirtual 97, 3) := by decide +kernel
theorem dX6_tryAwning_4 : decode cX6_tryAwning 4 = .ok (.aload_n 0, 1) := by decide +kernel
theorem dX6_tryAwning_5 : decode cX6_tryAwning 5 = .ok (.getfield 19, 3) := by decide +kernel
theorem dX6_tryAwning_8 : decode cX6_tryAwning 8 = .ok (.getfield 67, 3) := by decide +kernel
theorem dX6_tryAwning_11 : decode cX6_tryAwning 11 = .ok (.getfield 123, 3) := by decide +kernel
theorem dX6_tryAwning_14 : decode cX6_tryAwning 14 = .ok (.iload_n 1, 1) := by decide +kernel
theorem dX6_tryAwning_15 : decode cX6_tryAwning 15 = .ok (.iload_n 2, 1) := by decide +kernel
theorem dX6_tryAwning_16 : decode cX6_tryAwning 16 = .ok (.invokestatic 63, 3) := by decide +kernel
theorem dX6_tryAwning_19 : decode cX6_tryAwning 19 = .ok (.aload_n 0, 1) := by decide +kernel
theorem dX6_tryAwning_20 : decode cX6_tryAwning 20 = .ok (.getfield 19, 3) := by decide +kernel
theorem dX6_tryAwning_23 : decode cX6_tryAwning 23 = .ok (.invokevirtual 100, 3) := by decide +kernel
theorem dX6_tryAwning_26 : decode cX6_tryAwning 26 = .ok (.ireturn, 1) := by decide +kernel
set_option maxRecDepth 100000 in
set_option maxHeartbeats 4000000 in
theorem g_X6_tryAwning (ids : List (Nat × Nat)) (Hn : Ndp ids) (v1 : Int32) (v2 : Int32) (H0_0 : InR ids 0 0 5) (H1 : InR ids 1 6 28) (H2 : InR ids 2 6 28) (H3 : InR ids 3 6 28) (t0 : Sg) : Gj kI mX6_tryAwning ids 0 [some (aR (0, 0)), some (aI v1), some (aI v2)] [] t0 (f_X6_tryAwning v1 v2 t0) := by
  unfold f_X6_tryAwning
  refine G_st (x_aload_n dX6_tryAwning_0 rfl) ?_
  refine G_bd (fun _ t2 h3 => ?_)
  refine G_st (x_callV [] (c_X6_tryAnew ids Hn  H0_0 H1 H2 H3 _ _ _ h3) dX6_tryAwning_1 tw_689 kc_X6_tryAnew (H0_0 0 (Nat.le_of_ble_eq_true rfl) (Nat.le_of_ble_eq_true rfl)) rfl rfl rfl rfl ⟨Nat.le_of_ble_eq_true rfl, Nat.le_of_ble_eq_true rfl⟩ (Nat.le_of_ble_eq_true rfl) rfl) ?_
  refine G_st (x_aload_n dX6_tryAwning_4 rfl) ?_
  refine G_st (x_get (k := 2) (aR (3, 6)) dX6_tryAwning_5 (H0_0 0 (Nat.le_of_ble_eq_true rfl) (Nat.le_of_ble_eq_true rfl)) rfl rfl rfl rfl inTX6 (Nat.le_of_ble_eq_true rfl) tw_287 (fun ad => rfl)) ?_
  refine G_st (x_get (k := 0) (aR (3, 7)) dX6_tryAwning_8 (H3 6 (Nat.le_of_ble_eq_true rfl) (Nat.le_of_ble_eq_true rfl)) rfl rfl rfl rfl inTX2 (Nat.le_of_ble_eq_true rfl) tw_250 (fun ad => rfl)) ?_
  refine G_st (x_get (k := 5) (aR (3, 10)) dX6_tryAwning_11 (H3 7 (Nat.le_of_ble_eq_true rfl) (Nat.le_of_ble_eq_true rfl)) rfl rfl rfl rfl inTX0 (Nat.le_of_ble_eq_true rfl) tw_128 (fun ad => rfl)) ?_
  refine G_st (x_iload_n dX6_tryAwning_14 rfl) ?_
  refine G_st (x_iload_n dX6_tryAwning_15 rfl) ?_
  refine G_bd (fun _ t5 h6 => ?_)
  refine G_st (x_callS [] (c_X6_set ids Hn (3, 10) v1 v2 (H3 10 (Nat.le_of_ble_eq_true rfl) (Nat.le_of_ble_eq_true rfl)) rfl _ _ _ h6) dX6_tryAwning_16 tw_324 kc_X6_set rfl ⟨Nat.le_of_ble_eq_true rfl, Nat.le_of_ble_eq_true rfl⟩ (Nat.le_of_ble_eq_true rfl) rfl) ?_
  refine G_st (x_aload_n dX6_tryAwning_19 rfl) ?_
  refine G_st (x_get (k := 2) (aR (3, 6)) dX6_tryAwning_20 (H0_0 0 (Nat.le_of_ble_eq_true rfl) (Nat.le_of_ble_eq_true rfl)) rfl rfl rfl rfl inTX6 (Nat.le_of_ble_eq_true rfl) tw_287 (fun ad => rfl)) ?_
  refine G_bd (fun x7 t8 h9 => ?_)
  refine G_st (x_callV [] (c_X2_spendWeek ids Hn 3 H3 _ _ _ h9) dX6_tryAwning_23 tw_605 kc_X2_spendWeek (H3 6 (Nat.le_of_ble_eq_true rfl) (Nat.le_of_ble_eq_true rfl)) rfl rfl rfl rfl ⟨Nat.le_of_ble_eq_true rfl, Nat.le_of_ble_eq_true rfl⟩ (Nat.le_of_ble_eq_true rfl) rfl) ?_
  exact G_ret rfl ⟨dX6_tryAwning_26, _, rfl, rfl⟩ rfl
set_option maxRecDepth 100000 in
set_option maxHeartbeats 4000000 in
theorem c_X6_tryAwning (ids : List (Nat × Nat)) (Hn : Ndp ids) (v1 : Int32) (v2 : Int32) (H0_0 : InR ids 0 0 5) (H1 : InR ids 1 6 28) (H2 : InR ids 2 6 28) (H3 : InR ids 3 6 28) (t0 : Sg) (r : Int32) (t1 : Sg) (hf : f_X6_tryAwning v1 v2 t0 = some (r, t1)) : Mt0 mX6_tryAwning yX6_tryAwning ids [aR (0, 0), aI v1, aI v2] t0 (some (aI r)) t1 :=
  Mt_of (x := (r, t1)) (g_X6_tryAwning ids Hn v1 v2 H0_0 H1 H2 H3 t0) hf (fun _ _ => trivial) (by decide) rfl Hn (fun _ => rfl) (fun _ => Nat.le_of_ble_eq_true rfl)
theorem dX6_doneTo_0 : decode cX6_doneTo 0 = .ok (.aload_n 0, 1) := by decide +kernel
theorem dX6_doneTo_1 : decode cX6_doneTo 1 = .ok (.getfield 19, 3) := by decide +kernel
theorem dX6_doneTo_4 : decode cX6_doneTo 4 = .ok (.getfield 103, 3) := by decide +kernel
theorem dX6_doneTo_7 : decode cX6_doneTo 7 = .ok (.getfield 107, 3) := by decide +kernel
theorem dX6_doneTo_10 : decode cX6_doneTo 10 = .ok (.iload_n 1, 1) := by decide +kernel
theorem dX6_doneTo_11 : decode cX6_doneTo 11 = .ok (.invokestatic 59, 3) := by decide +kernel
theorem dX6_doneTo_14 : decode cX6_doneTo 14 = .ok (.ireturn, 1) := by decide +kernel
set_option maxRecDepth 100000 in
set_option maxHeartbeats 4000000 in
theorem g_X6_doneTo (ids : List (Nat × Nat)) (Hn : Ndp ids) (v1 : Int32) (H0_0 : InR ids 0 0 5) (H1 : InR ids 1 6 28) (H2 : InR ids 2 6 28) (H3 : InR ids 3 6 28) (t0 : Sg) : Gj kI mX6_doneTo ids 0 [some (aR (0, 0)), some (aI v1)] [] t0 (f_X6_doneTo v1 t0) := by
  unfold f_X6_doneTo
  refine G_st (x_aload_n dX6_doneTo_0 rfl) ?_
  refine G_st (x_get (k := 2) (aR (3, 6)) dX6_doneTo_1 (H0_0 0 (Nat.le_of_ble_eq_true rfl) (Nat.le_of_ble_eq_true rfl)) rfl rfl rfl rfl inTX6 (Nat.le_of_ble_eq_true rfl) tw_287 (fun ad => rfl)) ?_
  refine G_st (x_get (k := 2) (aR (3, 20)) dX6_doneTo_4 (H3 6 (Nat.le_of_ble_eq_true rfl) (Nat.le_of_ble_eq_true rfl)) rfl rfl rfl rfl inTX2 (Nat.le_of_ble_eq_true rfl) tw_256 (fun ad => rfl)) ?_
  refine G_st (x_get (k := 2) (aR (3, 23)) dX6_doneTo_7 (H3 20 (Nat.le_of_ble_eq_true rfl) (Nat.le_of_ble_eq_true rfl)) rfl rfl rfl rfl inTX3 (Nat.le_of_ble_eq_true rfl) tw_209 (fun ad => rfl)) ?_
  refine G_st (x_iload_n dX6_doneTo_10 rfl) ?_
  refine G_bd (fun x1 t2 h3 => ?_)
  refine G_st (x_callS [] (c_X6_get ids Hn (3, 23) v1 (H3 23 (Nat.le_of_ble_eq_true rfl) (Nat.le_of_ble_eq_true rfl)) rfl _ _ _ h3) dX6_doneTo_11 tw_321 kc_X6_get rfl ⟨Nat.le_of_ble_eq_true rfl, Nat.le_of_ble_eq_true rfl⟩ (Nat.le_of_ble_eq_true rfl) rfl) ?_
  exact G_ret rfl ⟨dX6_doneTo_14, _, rfl, rfl⟩ rfl
set_option maxRecDepth 100000 in
set_option maxHeartbeats 4000000 in
theorem c_X6_doneTo (ids : List (Nat × Nat)) (Hn : Ndp ids) (v1 : Int32) (H0_0 : InR ids 0 0 5) (H1 : InR ids 1 6 28) (H2 : InR ids 2 6 28) (H3 : InR ids 3 6 28) (t0 : Sg) (r : Int32) (t1 : Sg) (hf : f_X6_doneTo v1 t0 = some (r, t1)) : Mt0 mX6_doneTo yX6_doneTo ids [aR (0, 0), aI v1] t0 (some (aI r)) t1 :=
  Mt_of (x := (r, t1)) (g_X6_doneTo ids Hn v1 H0_0 H1 H2 H3 t0) hf (fun _ _ => trivial) (by decide) rfl Hn (fun _ => rfl) (fun _ => Nat.le_of_ble_eq_true rfl)
theorem dX6_gain_0 : decode cX6_gain 0 = .ok (.aload_n 0, 1) := by decide +kernel
theorem dX6_gain_1 : decode cX6_gain 1 = .ok (.getfield 36, 3) := by decide +kernel
theorem dX6_gain_4 : decode cX6_gain 4 = .ok (.iload_n 1, 1) := by decide +kernel
theorem dX6_gain_5 : decode cX6_gain 5 = .ok (.invokestatic 59, 3) := by decide +kernel
theorem dX6_gain_8 : decode cX6_gain 8 = .ok (.aload_n 0, 1) := by decide +kernel
theorem dX6_gain_9 : decode cX6_gain 9 = .ok (.iload_n 1, 1) := by decide +kernel
theorem dX6_gain_10 : decode cX6_gain 10 = .ok (.invokevirtual 126, 3) := by decide +kernel
theorem dX6_gain_13 : decode cX6_gain 13 = .ok (.isub, 1) := by decide +kernel
theorem dX6_gain_14 : decode cX6_gain 14 = .ok (.ireturn, 1) := by decide +kernel
set_option maxRecDepth 100000 in
set_option maxHeartbeats 4000000 in
theorem g_X6_gain (ids : List (Nat × Nat)) (Hn : Ndp ids) (v1 : Int32) (H0_0 : InR ids 0 0 5) (H1 : InR ids 1 6 28) (H2 : InR ids 2 6 28) (H3 : InR ids 3 6 28) (t0 : Sg) : Gj kI mX6_gain ids 0 [some (aR (0, 0)), some (aI v1)] [] t0 (f_X6_gain v1 t0) := by
  unfold f_X6_gain
  refine G_st (x_aload_n dX6_gain_0 rfl) ?_
  refine G_st (x_get (k := 6) (aR (0, 3)) dX6_gain_1 (H0_0 0 (Nat.le_of_ble_eq_true rfl) (Nat.le_of_ble_eq_true rfl)) rfl rfl rfl rfl inTX6 (Nat.le_of_ble_eq_true rfl) tw_291 (fun ad => rfl)) ?_
  refine G_st (x_iload_n dX6_gain_4 rfl) ?_
  refine G_bd (fun x1 t2 h3 => ?_)
  refine G_st (x_callS [] (c_X6_get ids Hn (0, 3) v1 (H0_0 3 (Nat.le_of_ble_eq_true rfl) (Nat.le_of_ble_eq_true rfl)) rfl _ _ _ h3) dX6_gain_5 tw_321 kc_X6_get rfl ⟨Nat.le_of_ble_eq_true rfl, Nat.le_of_ble_eq_true rfl⟩ (Nat.le_of_ble_eq_true rfl) rfl) ?_
  refine G_st (x_aload_n dX6_gain_8 rfl) ?_
  refine G_st (x_iload_n dX6_gain_9 rfl) ?_
  refine G_bd (fun x4 t5 h6 => ?_)
  refine G_st (x_callV [aI x1] (c_X6_doneTo ids Hn v1 H0_0 H1 H2 H3 _ _ _ h6) dX6_gain_10 tw_695 kc_X6_doneTo (H0_0 0 (Nat.le_of_ble_eq_true rfl) (Nat.le_of_ble_eq_true rfl)) rfl rfl rfl rfl ⟨Nat.le_of_ble_eq_true rfl, Nat.le_of_ble_eq_true rfl⟩ (Nat.le_of_ble_eq_true rfl) rfl) ?_
  refine G_st (x_isub dX6_gain_13) ?_
  exact G_ret rfl ⟨dX6_gain_14, _, rfl, rfl⟩ rfl
set_option maxRecDepth 100000 in
set_option maxHeartbeats 4000000 in
theorem c_X6_gain (ids : List (Nat × Nat)) (Hn : Ndp ids) (v1 : Int32) (H0_0 : InR ids 0 0 5) (H1 : InR ids 1 6 28) (H2 : InR ids 2 6 28) (H3 : InR ids 3 6 28) (t0 : Sg) (r : Int32) (t1 : Sg) (hf : f_X6_gain v1 t0 = some (r, t1)) : Mt0 mX6_gain yX6_gain ids [aR (0, 0), aI v1] t0 (some (aI r)) t1 :=
  Mt_of (x := (r, t1)) (g_X6_gain ids Hn v1 H0_0 H1 H2 H3 t0) hf (fun _ _ => trivial) (by decide) rfl Hn (fun _ => rfl) (fun _ => Nat.le_of_ble_eq_true rfl)
theorem dX6_feed_0 : decode cX6_feed 0 = .ok (.iload_n 1, 1) := by decide +kernel
theorem dX6_feed_1 : decode cX6_feed 1 = .ok (.ifCond .ge 10, 3) := by decide +kernel
theorem dX6_feed_4 : decode cX6_feed 4 = .ok (.aload_n 0, 1) := by decide +kernel
theorem dX6_feed_5 : decode cX6_feed 5 = .ok (.bipush (-4), 2) := by decide +kernel
theorem dX6_feed_7 : decode cX6_feed 7 = .ok (.invokevirtual 130, 3) := by decide +kernel
theorem dX6_feed_10 : decode cX6_feed 10 = .ok (.ireturn, 1) := by decide +kernel
theorem dX6_feed_11 : decode cX6_feed 11 = .ok (.iload_n 1, 1) := by decide +kernel
theorem dX6_feed_12 : decode cX6_feed 12 = .ok (.sipush 255, 3) := by decide +kernel
theorem dX6_feed_15 : decode cX6_feed 15 = .ok (.if_icmp .gt 15, 3) := by decide +kernel
theorem dX6_feed_18 : decode cX6_feed 18 = .ok (.aload_n 0, 1) := by decide +kernel
theorem dX6_feed_19 : decode cX6_feed 19 = .ok (.getfield 25, 3) := by decide +kernel
theorem dX6_feed_22 : decode cX6_feed 22 = .ok (.getfield 133, 3) := by decide +kernel
theorem dX6_feed_25 : decode cX6_feed 25 = .ok (.bipush 96, 2) := by decide +kernel
theorem dX6_feed_27 : decode cX6_feed 27 = .ok (.if_icmp .lt 10, 3) := by decide +kernel
theorem dX6_feed_30 : decode cX6_feed 30 = .ok (.aload_n 0, 1) := by decide +kernel
theorem dX6_feed_31 : decode cX6_feed 31 = .ok (.bipush (-6), 2) := by decide +kernel
theorem dX6_feed_33 : decode cX6_feed 33 = .ok (.invokevirtual 130, 3) := by decide +kernel
theorem dX6_feed_36 : decode cX6_feed 36 = .ok (.ireturn, 1) := by decide +kernel
theorem dX6_feed_37 : decode cX6_feed 37 = .ok (.aload_n 0, 1) := by decide +kernel
theorem dX6_feed_38 : decode cX6_feed 38 = .ok (.getfield 25, 3) := by decide +kernel
theorem dX6_feed_41 : decode cX6_feed 41 = .ok (.iload_n 1, 1) := by decide +kernel
theorem dX6_feed_42 : decode cX6_feed 42 = .ok (.invokevirtual 134, 3) := by decide +kernel
theorem dX6_feed_45 : decode cX6_feed 45 = .ok (.ireturn, 1) := by decide +kernel
set_option maxRecDepth 100000 in
set_option maxHeartbeats 4000000 in
theorem g_X6_feed_30 (ids : List (Nat × Nat)) (Hn : Ndp ids)  (H0_0 : InR ids 0 0 5) (H1 : InR ids 1 6 28) (H2 : InR ids 2 6 28) (H3 : InR ids 3 6 28)   (t0 : Sg) : Gj kI mX6_feed ids 30 [some (aR (0, 0)), none] [] t0 (f_X6_feed_30 t0) := by
  unfold f_X6_feed_30
  refine G_st (x_aload_n dX6_feed_30 rfl) ?_
  refine G_st (x_bipush (-6 : Int32) dX6_feed_31 rfl) ?_
  refine G_bd (fun x3 t4 h5 => ?_)
  refine G_st (x_callV [] (c_X6_refuse ids Hn (-6 : Int32) H0_0 H1 H2 H3 _ _ _ h5) dX6_feed_33 tw_317 kc_X6_refuse (H0_0 0 (Nat.le_of_ble_eq_true rfl) (Nat.le_of_ble_eq_true rfl)) rfl rfl rfl rfl ⟨Nat.le_of_ble_eq_true rfl, Nat.le_of_ble_eq_true rfl⟩ (Nat.le_of_ble_eq_true rfl) rfl) ?_
  exact G_ret rfl ⟨dX6_feed_36, _, rfl, rfl⟩ rfl
set_option maxRecDepth 100000 in
set_option maxHeartbeats 4000000 in
theorem g_X6_feed (ids : List (Nat × Nat)) (Hn : Ndp ids) (v1 : Int32) (H0_0 : InR ids 0 0 5) (H1 : InR ids 1 6 28) (H2 : InR ids 2 6 28) (H3 : InR ids 3 6 28) (t0 : Sg) : Gj kI mX6_feed ids 0 [some (aR (0, 0)), some (aI v1)] [] t0 (f_X6_feed v1 t0) := by
  unfold f_X6_feed
  refine G_st (x_iload_n dX6_feed_0 rfl) ?_
  refine G_ite (fun c1 => ?_) (fun c1 => ?_)
  · refine G_st (x_if_ge_t (tgt := 11) dX6_feed_1 (by decide) c1) ?_
    refine G_st (x_iload_n dX6_feed_11 rfl) ?_
    refine G_st (x_sipush (255 : Int32) dX6_feed_12 rfl) ?_
    refine G_ite (fun c2 => ?_) (fun c2 => ?_)
    · refine G_st (x_icmp_gt_t (tgt := 30) dX6_feed_15 (by decide) c2) ?_
      refine G_weak _ ?_ (g_X6_feed_30 ids Hn H0_0 H1 H2 H3 t0)
      exact (leL_s (leL_n (leL_e _)))
    · refine G_st (x_icmp_gt_f 30 dX6_feed_15 (by decide) c2) ?_
      refine G_st (x_aload_n dX6_feed_18 rfl) ?_
      refine G_st (x_get (k := 3) (aR (0, 4)) dX6_feed_19 (H0_0 0 (Nat.le_of_ble_eq_true rfl) (Nat.le_of_ble_eq_true rfl)) rfl rfl rfl rfl inTX6 (Nat.le_of_ble_eq_true rfl) tw_288 (fun ad => rfl)) ?_
      refine G_st (x_get (k := 1) (aI (t0 (0, 4) 1)) dX6_feed_22 (H0_0 4 (Nat.le_of_ble_eq_true rfl) (Nat.le_of_ble_eq_true rfl)) rfl rfl rfl rfl inTX4 (Nat.le_of_ble_eq_true rfl) tw_279 (fun ad => rfl)) ?_
      refine G_st (x_bipush (96 : Int32) dX6_feed_25 rfl) ?_
      refine G_ite (fun c6 => ?_) (fun c6 => ?_)
      · refine G_st (x_icmp_lt_t (tgt := 37) dX6_feed_27 (by decide) c6) ?_
        refine G_st (x_aload_n dX6_feed_37 rfl) ?_
        refine G_st (x_get (k := 3) (aR (0, 4)) dX6_feed_38 (H0_0 0 (Nat.le_of_ble_eq_true rfl) (Nat.le_of_ble_eq_true rfl)) rfl rfl rfl rfl inTX6 (Nat.le_of_ble_eq_true rfl) tw_288 (fun ad => rfl)) ?_
        refine G_st (x_iload_n dX6_feed_41 rfl) ?_
        refine G_bd (fun x7 t8 h9 => ?_)
        refine G_st (x_callV [] (c_X4_add ids Hn v1 (H0_0.sub (Nat.le_of_ble_eq_true rfl) (Nat.le_of_ble_eq_true rfl)) _ _ _ h9) dX6_feed_42 tw_325 kc_X4_add (H0_0 4 (Nat.le_of_ble_eq_true rfl) (Nat.le_of_ble_eq_true rfl)) rfl rfl rfl rfl ⟨Nat.le_of_ble_eq_true rfl, Nat.le_of_ble_eq_true rfl⟩ (Nat.le_of_ble_eq_true rfl) rfl) ?_
        exact G_ret rfl ⟨dX6_feed_45, _, rfl, rfl⟩ rfl
      · refine G_st (x_icmp_lt_f 37 dX6_feed_27 (by decide) c6) ?_
        refine G_weak _ ?_ (g_X6_feed_30 ids Hn H0_0 H1 H2 H3 t0)
        exact (leL_s (leL_n (leL_e _)))
  · refine G_st (x_if_ge_f 11 dX6_feed_1 (by decide) c1) ?_
    refine G_st (x_aload_n dX6_feed_4 rfl) ?_
    refine G_st (x_bipush (-4 : Int32) dX6_feed_5 rfl) ?_
    refine G_bd (fun x10 t11 h12 => ?_)
    refine G_st (x_callV [] (c_X6_refuse ids Hn (-4 : Int32) H0_0 H1 H2 H3 _ _ _ h12) dX6_feed_7 tw_317 kc_X6_refuse (H0_0 0 (Nat.le_of_ble_eq_true rfl) (Nat.le_of_ble_eq_true rfl)) rfl rfl rfl rfl ⟨Nat.le_of_ble_eq_true rfl, Nat.le_of_ble_eq_true rfl⟩ (Nat.le_of_ble_eq_true rfl) rfl) ?_
    exact G_ret rfl ⟨dX6_feed_10, _, rfl, rfl⟩ rfl
set_option maxRecDepth 100000 in
set_option maxHeartbeats 4000000 in
theorem c_X6_feed (ids : List (Nat × Nat)) (Hn : Ndp ids) (v1 : Int32) (H0_0 : InR ids 0 0 5) (H1 : InR ids 1 6 28) (H2 : InR ids 2 6 28) (H3 : InR ids 3 6 28) (t0 : Sg) (r : Int32) (t1 : Sg) (hf : f_X6_feed v1 t0 = some (r, t1)) : Mt0 mX6_feed yX6_feed ids [aR (0, 0), aI v1] t0 (some (aI r)) t1 :=
  Mt_of (x := (r, t1)) (g_X6_feed ids Hn v1 H0_0 H1 H2 H3 t0) hf (fun _ _ => trivial) (by decide) rfl Hn (fun _ => rfl) (fun _ => Nat.le_of_ble_eq_true rfl)
theorem dX6_front_0 : decode cX6_front 0 = .ok (.aload_n 0, 1) := by decide +kernel
theorem dX6_front_1 : decode cX6_front 1 = .ok (.getfield 25, 3) := by decide +kernel
theorem dX6_front_4 : decode cX6_front 4 = .ok (.invokevirtual 137, 3) := by decide +kernel
theorem dX6_front_7 : decode cX6_front 7 = .ok (.istore_n 1, 1) := by decide +kernel
theorem dX6_front_8 : decode cX6_front 8 = .ok (.sipush (-1000), 3) := by decide +kernel
theorem dX6_front_11 : decode cX6_front 11 = .ok (.iload_n 1, 1) := by decide +kernel
theorem dX6_front_12 : decode cX6_front 12 = .ok (.isub, 1) := by decide +kernel
theorem dX6_front_13 : decode cX6_front 13 = .ok (.istore_n 2, 1) := by decide +kernel
theorem dX6_front_14 : decode cX6_front 14 = .ok (.iload_n 1, 1) := by decide +kernel
theorem dX6_front_15 : decode cX6_front 15 = .ok (.ifCond .ge 26, 3) := by decide +kernel
theorem dX6_front_18 : decode cX6_front 18 = .ok (.aload_n 0, 1) := by decide +kernel
theorem dX6_front_19 : decode cX6_front 19 = .ok (.getfield 19, 3) := by decide +kernel
theorem dX6_front_22 : decode cX6_front 22 = .ok (.aload_n 0, 1) := by decide +kernel
theorem dX6_front_23 : decode cX6_front 23 = .ok (.getfield 12, 3) := by decide +kernel
theorem dX6_front_26 : decode cX6_front 26 = .ok (.invokevirtual 140, 3) := by decide +kernel
theorem dX6_front_29 : decode cX6_front 29 = .ok (.aload_n 0, 1) := by decide +kernel
theorem dX6_front_30 : decode cX6_front 30 = .ok (.getfield 25, 3) := by decide +kernel
theorem dX6_front_33 : decode cX6_front 33 = .ok (.aload_n 0, 1) := by decide +kernel
theorem dX6_front_34 : decode cX6_front 34 = .ok (.getfield 19, 3) := by decide +kernel
theorem dX6_front_37 : decode cX6_front 37 = .ok (.invokevirtual 143, 3) := by decide +kernel
theorem dX6_front_40 : decode cX6_front 40 = .ok (.istore_n 2, 1) := by decide +kernel
theorem dX6_front_41 : decode cX6_front 41 = .ok (.iload_n 2, 1) := by decide +kernel
theorem dX6_front_42 : decode cX6_front 42 = .ok (.ifCond .lt 14, 3) := by decide +kernel
theorem dX6_front_45 : decode cX6_front 45 = .ok (.aload_n 0, 1) := by decide +kernel
theorem dX6_front_46 : decode cX6_front 46 = .ok (.getfield 12, 3) := by decide +kernel
theorem dX6_front_49 : decode cX6_front 49 = .ok (.aload_n 0, 1) := by decide +kernel
theorem dX6_front_50 : decode cX6_front 50 = .ok (.getfield 19, 3) := by decide +kernel
theorem dX6_front_53 : decode cX6_front 53 = .ok (.invokevirtual 140, 3) := by decide +kernel
theorem dX6_front_56 : decode cX6_front 56 = .ok (.aload_n 0, 1) := by decide +kernel
theorem dX6_front_57 : decode cX6_front 57 = .ok (.getfield 25, 3) := by decide +kernel
theorem dX6_front_60 : decode cX6_front 60 = .ok (.iconst 0, 1) := by decide +kernel
theorem dX6_front_61 : decode cX6_front 61 = .ok (.putfield 133, 3) := by decide +kernel
theorem dX6_front_64 : decode cX6_front 64 = .ok (.iload_n 2, 1) := by decide +kernel
theorem dX6_front_65 : decode cX6_front 65 = .ok (.ireturn, 1) := by decide +kernel
set_option maxRecDepth 100000 in
set_option maxHeartbeats 4000000 in
theorem g_X6_front_56 (ids : List (Nat × Nat)) (Hn : Ndp ids)  (H0_0 : InR ids 0 0 5) (H1 : InR ids 1 6 28) (H2 : InR ids 2 6 28) (H3 : InR ids 3 6 28)  (v2 : Int32) (t0 : Sg) : Gj kI mX6_front ids 56 [some (aR (0, 0)), none, some (aI v2)] [] t0 (f_X6_front_56 v2 t0) := by
  unfold f_X6_front_56
  refine G_st (x_aload_n dX6_front_56 rfl) ?_
  refine G_st (x_get (k := 3) (aR (0, 4)) dX6_front_57 (H0_0 0 (Nat.le_of_ble_eq_true rfl) (Nat.le_of_ble_eq_true rfl)) rfl rfl rfl rfl inTX6 (Nat.le_of_ble_eq_true rfl) tw_288 (fun ad => rfl)) ?_
  refine G_st (x_iconst (0 : Int32) dX6_front_60 rfl) ?_
  refine G_st (x_put (k := 1) (ty := .int) (v := aI (0 : Int32)) (z := (0 : Int32)) (upS t0 (0, 4) 1 (0 : Int32)) dX6_front_61 (H0_0 4 (Nat.le_of_ble_eq_true rfl) (Nat.le_of_ble_eq_true rfl)) rfl rfl rfl rfl inTX4 tyX4_ok nmX4 (Nat.le_of_ble_eq_true rfl) tw_279 rfl rfl (fun ad => rfl) (fun ad => rfl) (fun ad => put_i0 ad _ _ _ _ rfl) rfl) ?_
  refine G_bvS (fun t7 => ?_)
  refine G_st (x_iload_n dX6_front_64 rfl) ?_
  exact G_ret rfl ⟨dX6_front_65, _, rfl, rfl⟩ rfl
set_option maxRecDepth 100000 in
set_option maxHeartbeats 4000000 in
theorem g_X6_front_41 (ids : List (Nat × Nat)) (Hn : Ndp ids)  (H0_0 : InR ids 0 0 5) (H1 : InR ids 1 6 28) (H2 : InR ids 2 6 28) (H3 : InR ids 3 6 28)  (v2 : Int32) (t0 : Sg) : Gj kI mX6_front ids 41 [some (aR (0, 0)), none, some (aI v2)] [] t0 (f_X6_front_41 v2 t0) := by
  unfold f_X6_front_41
  refine G_st (x_iload_n dX6_front_41 rfl) ?_
  refine G_ite (fun c6 => ?_) (fun c6 => ?_)
  · refine G_st (x_if_lt_t (tgt := 56) dX6_front_42 (by decide) c6) ?_
    refine G_weak _ ?_ (g_X6_front_56 ids Hn H0_0 H1 H2 H3 v2 t0)
    exact (leL_s (leL_n (leL_s (leL_e _))))
  · refine G_st (x_if_lt_f 56 dX6_front_42 (by decide) c6) ?_
    refine G_st (x_aload_n dX6_front_45 rfl) ?_
    refine G_st (x_get (k := 0) (aR (1, 6)) dX6_front_46 (H0_0 0 (Nat.le_of_ble_eq_true rfl) (Nat.le_of_ble_eq_true rfl)) rfl rfl rfl rfl inTX6 (Nat.le_of_ble_eq_true rfl) tw_285 (fun ad => rfl)) ?_
    refine G_st (x_aload_n dX6_front_49 rfl) ?_
    refine G_st (x_get (k := 2) (aR (3, 6)) dX6_front_50 (H0_0 0 (Nat.le_of_ble_eq_true rfl) (Nat.le_of_ble_eq_true rfl)) rfl rfl rfl rfl inTX6 (Nat.le_of_ble_eq_true rfl) tw_287 (fun ad => rfl)) ?_
    refine G_bd (fun _ t9 h10 => ?_)
    refine G_st (x_callV [] (c_X2_copyFrom ids Hn 1 3 H1 H3 _ _ _ h10) dX6_front_53 tw_432 kc_X2_copyFrom (H1 6 (Nat.le_of_ble_eq_true rfl) (Nat.le_of_ble_eq_true rfl)) rfl rfl rfl rfl ⟨Nat.le_of_ble_eq_true rfl, Nat.le_of_ble_eq_true rfl⟩ (Nat.le_of_ble_eq_true rfl) rfl) ?_
    refine G_weak _ ?_ (g_X6_front_56 ids Hn H0_0 H1 H2 H3 v2 t9)
    exact (leL_s (leL_n (leL_s (leL_e _))))
set_option maxRecDepth 100000 in
set_option maxHeartbeats 4000000 in
theorem g_X6_front (ids : List (Nat × Nat)) (Hn : Ndp ids)  (H0_0 : InR ids 0 0 5) (H1 : InR ids 1 6 28) (H2 : InR ids 2 6 28) (H3 : InR ids 3 6 28) (t0 : Sg) : Gj kI mX6_front ids 0 [some (aR (0, 0)), none, none] [] t0 (f_X6_front t0) := by
  unfold f_X6_front
  refine G_st (x_aload_n dX6_front_0 rfl) ?_
  refine G_st (x_get (k := 3) (aR (0, 4)) dX6_front_1 (H0_0 0 (Nat.le_of_ble_eq_true rfl) (Nat.le_of_ble_eq_true rfl)) rfl rfl rfl rfl inTX6 (Nat.le_of_ble_eq_true rfl) tw_288 (fun ad => rfl)) ?_
  refine G_bd (fun x1 t2 h3 => ?_)
  refine G_st (x_callV [] (c_X4_formFault ids Hn  (H0_0.sub (Nat.le_of_ble_eq_true rfl) (Nat.le_of_ble_eq_true rfl)) _ _ _ h3) dX6_front_4 tw_334 kc_X4_formFault (H0_0 4 (Nat.le_of_ble_eq_true rfl) (Nat.le_of_ble_eq_true rfl)) rfl rfl rfl rfl ⟨Nat.le_of_ble_eq_true rfl, Nat.le_of_ble_eq_true rfl⟩ (Nat.le_of_ble_eq_true rfl) rfl) ?_
  refine G_st (x_istore_n [some (aR (0, 0)), some (aI x1), none] dX6_front_7 (Nat.le_of_ble_eq_true rfl) rfl rfl) ?_
  refine G_st (x_sipush (-1000 : Int32) dX6_front_8 rfl) ?_
  refine G_st (x_iload_n dX6_front_11 rfl) ?_
  refine G_st (x_isub dX6_front_12) ?_
  refine G_bvI (fun x4 => ?_)
  refine G_st (x_istore_n [some (aR (0, 0)), some (aI x1), some (aI x4)] dX6_front_13 (Nat.le_of_ble_eq_true rfl) rfl rfl) ?_
  refine G_st (x_iload_n dX6_front_14 rfl) ?_
  refine G_ite (fun c5 => ?_) (fun c5 => ?_)
  · refine G_st (x_if_ge_t (tgt := 41) dX6_front_15 (by decide) c5) ?_
    refine G_weak _ ?_ (g_X6_front_41 ids Hn H0_0 H1 H2 H3 x4 t2)
    exact (leL_s (leL_n (leL_s (leL_e _))))
  · refine G_st (x_if_ge_f 41 dX6_front_15 (by decide) c5) ?_
    refine G_st (x_aload_n dX6_front_18 rfl) ?_
    refine G_st (x_get (k := 2) (aR (3, 6)) dX6_front_19 (H0_0 0 (Nat.le_of_ble_eq_true rfl) (Nat.le_of_ble_eq_true rfl)) rfl rfl rfl rfl inTX6 (Nat.le_of_ble_eq_true rfl) tw_287 (fun ad => rfl)) ?_
    refine G_st (x_aload_n dX6_front_22 rfl) ?_
    refine G_st (x_get (k := 0) (aR (1, 6)) dX6_front_23 (H0_0 0 (Nat.le_of_ble_eq_true rfl) (Nat.le_of_ble_eq_true rfl)) rfl rfl rfl rfl inTX6 (Nat.le_of_ble_eq_true rfl) tw_285 (fun ad => rfl)) ?_
    refine G_bd (fun _ t12 h13 => ?_)
    refine G_st (x_callV [] (c_X2_copyFrom ids Hn 3 1 H3 H1 _ _ _ h13) dX6_front_26 tw_432 kc_X2_copyFrom (H3 6 (Nat.le_of_ble_eq_true rfl) (Nat.le_of_ble_eq_true rfl)) rfl rfl rfl rfl ⟨Nat.le_of_ble_eq_true rfl, Nat.le_of_ble_eq_true rfl⟩ (Nat.le_of_ble_eq_true rfl) rfl) ?_
    refine G_st (x_aload_n dX6_front_29 rfl) ?_
    refine G_st (x_get (k := 3) (aR (0, 4)) dX6_front_30 (H0_0 0 (Nat.le_of_ble_eq_true rfl) (Nat.le_of_ble_eq_true rfl)) rfl rfl rfl rfl inTX6 (Nat.le_of_ble_eq_true rfl) tw_288 (fun ad => rfl)) ?_
    refine G_st (x_aload_n dX6_front_33 rfl) ?_
    refine G_st (x_get (k := 2) (aR (3, 6)) dX6_front_34 (H0_0 0 (Nat.le_of_ble_eq_true rfl) (Nat.le_of_ble_eq_true rfl)) rfl rfl rfl rfl inTX6 (Nat.le_of_ble_eq_true rfl) tw_287 (fun ad => rfl)) ?_
    refine G_bd (fun x14 t15 h16 => ?_)
    refine G_st (x_callV [] (c_X4_tell ids Hn 3 (H0_0.sub (Nat.le_of_ble_eq_true rfl) (Nat.le_of_ble_eq_true rfl)) H3 _ _ _ h16) dX6_front_37 tw_459 kc_X4_tell (H0_0 4 (Nat.le_of_ble_eq_true rfl) (Nat.le_of_ble_eq_true rfl)) rfl rfl rfl rfl ⟨Nat.le_of_ble_eq_true rfl, Nat.le_of_ble_eq_true rfl⟩ (Nat.le_of_ble_eq_true rfl) rfl) ?_
    refine G_st (x_istore_n [some (aR (0, 0)), some (aI x1), some (aI x14)] dX6_front_40 (Nat.le_of_ble_eq_true rfl) rfl rfl) ?_
    refine G_weak _ ?_ (g_X6_front_41 ids Hn H0_0 H1 H2 H3 x14 t15)
    exact (leL_s (leL_n (leL_s (leL_e _))))
set_option maxRecDepth 100000 in
set_option maxHeartbeats 4000000 in
theorem c_X6_front (ids : List (Nat × Nat)) (Hn : Ndp ids)  (H0_0 : InR ids 0 0 5) (H1 : InR ids 1 6 28) (H2 : InR ids 2 6 28) (H3 : InR ids 3 6 28) (t0 : Sg) (r : Int32) (t1 : Sg) (hf : f_X6_front t0 = some (r, t1)) : Mt0 mX6_front yX6_front ids [aR (0, 0)] t0 (some (aI r)) t1 :=
  Mt_of (x := (r, t1)) (g_X6_front ids Hn  H0_0 H1 H2 H3 t0) hf (fun _ _ => trivial) (by decide) rfl Hn (fun _ => rfl) (fun _ => Nat.le_of_ble_eq_true rfl)
theorem dX6_flat_0 : decode cX6_flat 0 = .ok (.aload_n 0, 1) := by decide +kernel
theorem dX6_flat_1 : decode cX6_flat 1 = .ok (.getfield 12, 3) := by decide +kernel
theorem dX6_flat_4 : decode cX6_flat 4 = .ok (.getfield 67, 3) := by decide +kernel
theorem dX6_flat_7 : decode cX6_flat 7 = .ok (.iload_n 1, 1) := by decide +kernel
theorem dX6_flat_8 : decode cX6_flat 8 = .ok (.invokevirtual 147, 3) := by decide +kernel
theorem dX6_flat_11 : decode cX6_flat 11 = .ok (.istore_n 3, 1) := by decide +kernel
theorem dX6_flat_12 : decode cX6_flat 12 = .ok (.iload_n 3, 1) := by decide +kernel
theorem dX6_flat_13 : decode cX6_flat 13 = .ok (.ifCond .ge 9, 3) := by decide +kernel
theorem dX6_flat_16 : decode cX6_flat 16 = .ok (.aload_n 0, 1) := by decide +kernel
theorem dX6_flat_17 : decode cX6_flat 17 = .ok (.iconst (-1), 1) := by decide +kernel
theorem dX6_flat_18 : decode cX6_flat 18 = .ok (.invokevirtual 130, 3) := by decide +kernel
theorem dX6_flat_21 : decode cX6_flat 21 = .ok (.ireturn, 1) := by decide +kernel
theorem dX6_flat_22 : decode cX6_flat 22 = .ok (.iload_n 2, 1) := by decide +kernel
theorem dX6_flat_23 : decode cX6_flat 23 = .ok (.tableswitch 129 0 5 #[37, 52, 67, 84, 99, 114], 37) := by decide +kernel
theorem dX6_flat_60 : decode cX6_flat 60 = .ok (.aload_n 0, 1) := by decide +kernel
theorem dX6_flat_61 : decode cX6_flat 61 = .ok (.getfield 12, 3) := by decide +kernel
theorem dX6_flat_64 : decode cX6_flat 64 = .ok (.getfield 67, 3) := by decide +kernel
theorem dX6_flat_67 : decode cX6_flat 67 = .ok (.getfield 150, 3) := by decide +kernel
theorem dX6_flat_70 : decode cX6_flat 70 = .ok (.iload_n 3, 1) := by decide +kernel
theorem dX6_flat_71 : decode cX6_flat 71 = .ok (.invokestatic 59, 3) := by decide +kernel
theorem dX6_flat_74 : decode cX6_flat 74 = .ok (.ireturn, 1) := by decide +kernel
theorem dX6_flat_75 : decode cX6_flat 75 = .ok (.aload_n 0, 1) := by decide +kernel
theorem dX6_flat_76 : decode cX6_flat 76 = .ok (.getfield 12, 3) := by decide +kernel
theorem dX6_flat_79 : decode cX6_flat 79 = .ok (.getfield 67, 3) := by decide +kernel
theorem dX6_flat_82 : decode cX6_flat 82 = .ok (.getfield 153, 3) := by decide +kernel
theorem dX6_flat_85 : decode cX6_flat 85 = .ok (.iload_n 3, 1) := by decide +kernel
theorem dX6_flat_86 : decode cX6_flat 86 = .ok (.invokestatic 59, 3) := by decide +kernel
theorem dX6_flat_89 : decode cX6_flat 89 = .ok (.ireturn, 1) := by decide +kernel
theorem dX6_flat_90 : decode cX6_flat 90 = .ok (.aload_n 0, 1) := by decide +kernel
theorem dX6_flat_91 : decode cX6_flat 91 = .ok (.getfield 12, 3) := by decide +kernel
theorem dX6_flat_94 : decode cX6_flat 94 = .ok (.getfield 67, 3) := by decide +kernel
theorem dX6_flat_97 : decode cX6_flat 97 = .ok (.getfield 123, 3) := by decide +kernel
theorem dX6_flat_100 : decode cX6_flat 100 = .ok (.iload_n 3, 1) := by decide +kernel
theorem dX6_flat_101 : decode cX6_flat 101 = .ok (.invokestatic 59, 3) := by decide +kernel
theorem dX6_flat_104 : decode cX6_flat 104 = .ok (.iconst 1, 1) := by decide +kernel
theorem dX6_flat_105 : decode cX6_flat 105 = .ok (.iadd, 1) := by decide +kernel
theorem dX6_flat_106 : decode cX6_flat 106 = .ok (.ireturn, 1) := by decide +kernel
theorem dX6_flat_107 : decode cX6_flat 107 = .ok (.aload_n 0, 1) := by decide +kernel
theorem dX6_flat_108 : decode cX6_flat 108 = .ok (.getfield 12, 3) := by decide +kernel
theorem dX6_flat_111 : decode cX6_flat 111 = .ok (.getfield 67, 3) := by decide +kernel
theorem dX6_flat_114 : decode cX6_flat 114 = .ok (.getfield 156, 3) := by decide +kernel
theorem dX6_flat_117 : decode cX6_flat 117 = .ok (.iload_n 3, 1) := by decide +kernel
theorem dX6_flat_118 : decode cX6_flat 118 = .ok (.invokestatic 59, 3) := by decide +kernel
theorem dX6_flat_121 : decode cX6_flat 121 = .ok (.ireturn, 1) := by decide +kernel
theorem dX6_flat_122 : decode cX6_flat 122 = .ok (.aload_n 0, 1) := by decide +kernel
theorem dX6_flat_123 : decode cX6_flat 123 = .ok (.getfield 12, 3) := by decide +kernel
theorem dX6_flat_126 : decode cX6_flat 126 = .ok (.getfield 67, 3) := by decide +kernel
theorem dX6_flat_129 : decode cX6_flat 129 = .ok (.getfield 159, 3) := by decide +kernel
theorem dX6_flat_132 : decode cX6_flat 132 = .ok (.iload_n 3, 1) := by decide +kernel
theorem dX6_flat_133 : decode cX6_flat 133 = .ok (.invokestatic 59, 3) := by decide +kernel
theorem dX6_flat_136 : decode cX6_flat 136 = .ok (.ireturn, 1) := by decide +kernel
theorem dX6_flat_137 : decode cX6_flat 137 = .ok (.aload_n 0, 1) := by decide +kernel
theorem dX6_flat_138 : decode cX6_flat 138 = .ok (.getfield 12, 3) := by decide +kernel
theorem dX6_flat_141 : decode cX6_flat 141 = .ok (.getfield 67, 3) := by decide +kernel
theorem dX6_flat_144 : decode cX6_flat 144 = .ok (.getfield 162, 3) := by decide +kernel
theorem dX6_flat_147 : decode cX6_flat 147 = .ok (.iload_n 3, 1) := by decide +kernel
theorem dX6_flat_148 : decode cX6_flat 148 = .ok (.invokestatic 59, 3) := by decide +kernel
theorem dX6_flat_151 : decode cX6_flat 151 = .ok (.ireturn, 1) := by decide +kernel
theorem dX6_flat_152 : decode cX6_flat 152 = .ok (.aload_n 0, 1) := by decide +kernel
theorem dX6_flat_153 : decode cX6_flat 153 = .ok (.bipush (-2), 2) := by decide +kernel
theorem dX6_flat_155 : decode cX6_flat 155 = .ok (.invokevirtual 130, 3) := by decide +kernel
theorem dX6_flat_158 : decode cX6_flat 158 = .ok (.ireturn, 1) := by decide +kernel
set_option maxRecDepth 100000 in
set_option maxHeartbeats 4000000 in
theorem g_X6_flat (ids : List (Nat × Nat)) (Hn : Ndp ids) (v1 : Int32) (v2 : Int32) (H0_0 : InR ids 0 0 5) (H1 : InR ids 1 6 28) (H2 : InR ids 2 6 28) (H3 : InR ids 3 6 28) (t0 : Sg) : Gj kI mX6_flat ids 0 [some (aR (0, 0)), some (aI v1), some (aI v2), none] [] t0 (f_X6_flat v1 v2 t0) := by
  unfold f_X6_flat
  refine G_st (x_aload_n dX6_flat_0 rfl) ?_
  refine G_st (x_get (k := 0) (aR (1, 6)) dX6_flat_1 (H0_0 0 (Nat.le_of_ble_eq_true rfl) (Nat.le_of_ble_eq_true rfl)) rfl rfl rfl rfl inTX6 (Nat.le_of_ble_eq_true rfl) tw_285 (fun ad => rfl)) ?_
  refine G_st (x_get (k := 0) (aR (1, 7)) dX6_flat_4 (H1 6 (Nat.le_of_ble_eq_true rfl) (Nat.le_of_ble_eq_true rfl)) rfl rfl rfl rfl inTX2 (Nat.le_of_ble_eq_true rfl) tw_250 (fun ad => rfl)) ?_
  refine G_st (x_iload_n dX6_flat_7 rfl) ?_
  refine G_bd (fun x1 t2 h3 => ?_)
  refine G_st (x_callV [] (c_X0_placeOf ids Hn 1 v1 (H1.sub (Nat.le_of_ble_eq_true rfl) (Nat.le_of_ble_eq_true rfl)) _ _ _ h3) dX6_flat_8 tw_521 kc_X0_placeOf (H1 7 (Nat.le_of_ble_eq_true rfl) (Nat.le_of_ble_eq_true rfl)) rfl rfl rfl rfl ⟨Nat.le_of_ble_eq_true rfl, Nat.le_of_ble_eq_true rfl⟩ (Nat.le_of_ble_eq_true rfl) rfl) ?_
  refine G_st (x_istore_n [some (aR (0, 0)), some (aI v1), some (aI v2), some (aI x1)] dX6_flat_11 (Nat.le_of_ble_eq_true rfl) rfl rfl) ?_
  refine G_st (x_iload_n dX6_flat_12 rfl) ?_
  refine G_ite (fun c4 => ?_) (fun c4 => ?_)
  · refine G_st (x_if_ge_t (tgt := 22) dX6_flat_13 (by decide) c4) ?_
    refine G_st (x_iload_n dX6_flat_22 rfl) ?_
    refine G_ite (fun c5 => ?_) (fun c5 => ?_)
    · refine G_st (x_tabIn (tgt := 60) (0 : Int32) dX6_flat_23 c5 (by decide) (by decide) rfl (by decide)) ?_
      refine G_st (x_aload_n dX6_flat_60 rfl) ?_
      refine G_st (x_get (k := 0) (aR (1, 6)) dX6_flat_61 (H0_0 0 (Nat.le_of_ble_eq_true rfl) (Nat.le_of_ble_eq_true rfl)) rfl rfl rfl rfl inTX6 (Nat.le_of_ble_eq_true rfl) tw_285 (fun ad => rfl)) ?_
      refine G_st (x_get (k := 0) (aR (1, 7)) dX6_flat_64 (H1 6 (Nat.le_of_ble_eq_true rfl) (Nat.le_of_ble_eq_true rfl)) rfl rfl rfl rfl inTX2 (Nat.le_of_ble_eq_true rfl) tw_250 (fun ad => rfl)) ?_
      refine G_st (x_get (k := 3) (aR (1, 8)) dX6_flat_67 (H1 7 (Nat.le_of_ble_eq_true rfl) (Nat.le_of_ble_eq_true rfl)) rfl rfl rfl rfl inTX0 (Nat.le_of_ble_eq_true rfl) tw_120 (fun ad => rfl)) ?_
      refine G_st (x_iload_n dX6_flat_70 rfl) ?_
      refine G_bd (fun x6 t7 h8 => ?_)
      refine G_st (x_callS [] (c_X6_get ids Hn (1, 8) x1 (H1 8 (Nat.le_of_ble_eq_true rfl) (Nat.le_of_ble_eq_true rfl)) rfl _ _ _ h8) dX6_flat_71 tw_321 kc_X6_get rfl ⟨Nat.le_of_ble_eq_true rfl, Nat.le_of_ble_eq_true rfl⟩ (Nat.le_of_ble_eq_true rfl) rfl) ?_
      exact G_ret rfl ⟨dX6_flat_74, _, rfl, rfl⟩ rfl
    refine G_ite (fun c9 => ?_) (fun c9 => ?_)
    · refine G_st (x_tabIn (tgt := 75) (1 : Int32) dX6_flat_23 c9 (by decide) (by decide) rfl (by decide)) ?_
      refine G_st (x_aload_n dX6_flat_75 rfl) ?_
      refine G_st (x_get (k := 0) (aR (1, 6)) dX6_flat_76 (H0_0 0 (Nat.le_of_ble_eq_true rfl) (Nat.le_of_ble_eq_true rfl)) rfl rfl rfl rfl inTX6 (Nat.le_of_ble_eq_true rfl) tw_285 (fun ad => rfl)) ?_
      refine G_st (x_get (k := 0) (aR (1, 7)) dX6_flat_79 (H1 6 (Nat.le_of_ble_eq_true rfl) (Nat.le_of_ble_eq_true rfl)) rfl rfl rfl rfl inTX2 (Nat.le_of_ble_eq_true rfl) tw_250 (fun ad => rfl)) ?_
      refine G_st (x_get (k := 4) (aR (1, 9)) dX6_flat_82 (H1 7 (Nat.le_of_ble_eq_true rfl) (Nat.le_of_ble_eq_true rfl)) rfl rfl rfl rfl inTX0 (Nat.le_of_ble_eq_true rfl) tw_124 (fun ad => rfl)) ?_
      refine G_st (x_iload_n dX6_flat_85 rfl) ?_
      refine G_bd (fun x10 t11 h12 => ?_)
      refine G_st (x_callS [] (c_X6_get ids Hn (1, 9) x1 (H1 9 (Nat.le_of_ble_eq_true rfl) (Nat.le_of_ble_eq_true rfl)) rfl _ _ _ h12) dX6_flat_86 tw_321 kc_X6_get rfl ⟨Nat.le_of_ble_eq_true rfl, Nat.le_of_ble_eq_true rfl⟩ (Nat.le_of_ble_eq_true rfl) rfl) ?_
      exact G_ret rfl ⟨dX6_flat_89, _, rfl, rfl⟩ rfl
    refine G_ite (fun c13 => ?_) (fun c13 => ?_)
    · refine G_st (x_tabIn (tgt := 90) (2 : Int32) dX6_flat_23 c13 (by decide) (by decide) rfl (by decide)) ?_
      refine G_st (x_aload_n dX6_flat_90 rfl) ?_
      refine G_st (x_get (k := 0) (aR (1, 6)) dX6_flat_91 (H0_0 0 (Nat.le_of_ble_eq_true rfl) (Nat.le_of_ble_eq_true rfl)) rfl rfl rfl rfl inTX6 (Nat.le_of_ble_eq_true rfl) tw_285 (fun ad => rfl)) ?_
      refine G_st (x_get (k := 0) (aR (1, 7)) dX6_flat_94 (H1 6 (Nat.le_of_ble_eq_true rfl) (Nat.le_of_ble_eq_true rfl)) rfl rfl rfl rfl inTX2 (Nat.le_of_ble_eq_true rfl) tw_250 (fun ad => rfl)) ?_
      refine G_st (x_get (k := 5) (aR (1, 10)) dX6_flat_97 (H1 7 (Nat.le_of_ble_eq_true rfl) (Nat.le_of_ble_eq_true rfl)) rfl rfl rfl rfl inTX0 (Nat.le_of_ble_eq_true rfl) tw_128 (fun ad => rfl)) ?_
      refine G_st (x_iload_n dX6_flat_100 rfl) ?_
      refine G_bd (fun x14 t15 h16 => ?_)
      refine G_st (x_callS [] (c_X6_get ids Hn (1, 10) x1 (H1 10 (Nat.le_of_ble_eq_true rfl) (Nat.le_of_ble_eq_true rfl)) rfl _ _ _ h16) dX6_flat_101 tw_321 kc_X6_get rfl ⟨Nat.le_of_ble_eq_true rfl, Nat.le_of_ble_eq_true rfl⟩ (Nat.le_of_ble_eq_true rfl) rfl) ?_
      refine G_st (x_iconst (1 : Int32) dX6_flat_104 rfl) ?_
      refine G_st (x_iadd dX6_flat_105) ?_
      exact G_ret rfl ⟨dX6_flat_106, _, rfl, rfl⟩ rfl
    refine G_ite (fun c17 => ?_) (fun c17 => ?_)
    · refine G_st (x_tabIn (tgt := 107) (3 : Int32) dX6_flat_23 c17 (by decide) (by decide) rfl (by decide)) ?_
      refine G_st (x_aload_n dX6_flat_107 rfl) ?_
      refine G_st (x_get (k := 0) (aR (1, 6)) dX6_flat_108 (H0_0 0 (Nat.le_of_ble_eq_true rfl) (Nat.le_of_ble_eq_true rfl)) rfl rfl rfl rfl inTX6 (Nat.le_of_ble_eq_true rfl) tw_285 (fun ad => rfl)) ?_
      refine G_st (x_get (k := 0) (aR (1, 7)) dX6_flat_111 (H1 6 (Nat.le_of_ble_eq_true rfl) (Nat.le_of_ble_eq_true rfl)) rfl rfl rfl rfl inTX2 (Nat.le_of_ble_eq_true rfl) tw_250 (fun ad => rfl)) ?_
      refine G_st (x_get (k := 6) (aR (1, 11)) dX6_flat_114 (H1 7 (Nat.le_of_ble_eq_true rfl) (Nat.le_of_ble_eq_true rfl)) rfl rfl rfl rfl inTX0 (Nat.le_of_ble_eq_true rfl) tw_131 (fun ad => rfl)) ?_
      refine G_st (x_iload_n dX6_flat_117 rfl) ?_
      refine G_bd (fun x18 t19 h20 => ?_)
      refine G_st (x_callS [] (c_X6_get ids Hn (1, 11) x1 (H1 11 (Nat.le_of_ble_eq_true rfl) (Nat.le_of_ble_eq_true rfl)) rfl _ _ _ h20) dX6_flat_118 tw_321 kc_X6_get rfl ⟨Nat.le_of_ble_eq_true rfl, Nat.le_of_ble_eq_true rfl⟩ (Nat.le_of_ble_eq_true rfl) rfl) ?_
      exact G_ret rfl ⟨dX6_flat_121, _, rfl, rfl⟩ rfl
    refine G_ite (fun c21 => ?_) (fun c21 => ?_)
    · refine G_st (x_tabIn (tgt := 122) (4 : Int32) dX6_flat_23 c21 (by decide) (by decide) rfl (by decide)) ?_
      refine G_st (x_aload_n dX6_flat_122 rfl) ?_
      refine G_st (x_get (k := 0) (aR (1, 6)) dX6_flat_123 (H0_0 0 (Nat.le_of_ble_eq_true rfl) (Nat.le_of_ble_eq_true rfl)) rfl rfl rfl rfl inTX6 (Nat.le_of_ble_eq_true rfl) tw_285 (fun ad => rfl)) ?_
      refine G_st (x_get (k := 0) (aR (1, 7)) dX6_flat_126 (H1 6 (Nat.le_of_ble_eq_true rfl) (Nat.le_of_ble_eq_true rfl)) rfl rfl rfl rfl inTX2 (Nat.le_of_ble_eq_true rfl) tw_250 (fun ad => rfl)) ?_
      refine G_st (x_get (k := 7) (aR (1, 12)) dX6_flat_129 (H1 7 (Nat.le_of_ble_eq_true rfl) (Nat.le_of_ble_eq_true rfl)) rfl rfl rfl rfl inTX0 (Nat.le_of_ble_eq_true rfl) tw_134 (fun ad => rfl)) ?_
      refine G_st (x_iload_n dX6_flat_132 rfl) ?_
      refine G_bd (fun x22 t23 h24 => ?_)
      refine G_st (x_callS [] (c_X6_get ids Hn (1, 12) x1 (H1 12 (Nat.le_of_ble_eq_true rfl) (Nat.le_of_ble_eq_true rfl)) rfl _ _ _ h24) dX6_flat_133 tw_321 kc_X6_get rfl ⟨Nat.le_of_ble_eq_true rfl, Nat.le_of_ble_eq_true rfl⟩ (Nat.le_of_ble_eq_true rfl) rfl) ?_
      exact G_ret rfl ⟨dX6_flat_136, _, rfl, rfl⟩ rfl
    refine G_ite (fun c25 => ?_) (fun c25 => ?_)
    · refine G_st (x_tabIn (tgt := 137) (5 : Int32) dX6_flat_23 c25 (by decide) (by decide) rfl (by decide)) ?_
      refine G_st (x_aload_n dX6_flat_137 rfl) ?_
      refine G_st (x_get (k := 0) (aR (1, 6)) dX6_flat_138 (H0_0 0 (Nat.le_of_ble_eq_true rfl) (Nat.le_of_ble_eq_true rfl)) rfl rfl rfl rfl inTX6 (Nat.le_of_ble_eq_true rfl) tw_285 (fun ad => rfl)) ?_
      refine G_st (x_get (k := 0) (aR (1, 7)) dX6_flat_141 (H1 6 (Nat.le_of_ble_eq_true rfl) (Nat.le_of_ble_eq_true rfl)) rfl rfl rfl rfl inTX2 (Nat.le_of_ble_eq_true rfl) tw_250 (fun ad => rfl)) ?_
      refine G_st (x_get (k := 8) (aR (1, 13)) dX6_flat_144 (H1 7 (Nat.le_of_ble_eq_true rfl) (Nat.le_of_ble_eq_true rfl)) rfl rfl rfl rfl inTX0 (Nat.le_of_ble_eq_true rfl) tw_137 (fun ad => rfl)) ?_
      refine G_st (x_iload_n dX6_flat_147 rfl) ?_
      refine G_bd (fun x26 t27 h28 => ?_)
      refine G_st (x_callS [] (c_X6_get ids Hn (1, 13) x1 (H1 13 (Nat.le_of_ble_eq_true rfl) (Nat.le_of_ble_eq_true rfl)) rfl _ _ _ h28) dX6_flat_148 tw_321 kc_X6_get rfl ⟨Nat.le_of_ble_eq_true rfl, Nat.le_of_ble_eq_true rfl⟩ (Nat.le_of_ble_eq_true rfl) rfl) ?_
      exact G_ret rfl ⟨dX6_flat_151, _, rfl, rfl⟩ rfl
    refine G_st (x_tabOut (tgt := 152) dX6_flat_23 (by have c5q : ¬ (v2).toInt = (0 : Int) := lv_neT c5 rfl; have c9q : ¬ (v2).toInt = (1 : Int) := lv_neT c9 rfl; have c13q : ¬ (v2).toInt = (2 : Int) := lv_neT c13 rfl; have c17q : ¬ (v2).toInt = (3 : Int) := lv_neT c17 rfl; have c21q : ¬ (v2).toInt = (4 : Int) := lv_neT c21 rfl; have c25q : ¬ (v2).toInt = (5 : Int) := lv_neT c25 rfl; omega) (by decide)) ?_
    refine G_st (x_aload_n dX6_flat_152 rfl) ?_
    refine G_st (x_bipush (-2 : Int32) dX6_flat_153 rfl) ?_
    refine G_bd (fun x29 t30 h31 => ?_)
    refine G_st (x_callV [] (c_X6_refuse ids Hn (-2 : Int32) H0_0 H1 H2 H3 _ _ _ h31) dX6_flat_155 tw_317 kc_X6_refuse (H0_0 0 (Nat.le_of_ble_eq_true rfl) (Nat.le_of_ble_eq_true rfl)) rfl rfl rfl rfl ⟨Nat.le_of_ble_eq_true rfl, Nat.le_of_ble_eq_true rfl⟩ (Nat.le_of_ble_eq_true rfl) rfl) ?_
    exact G_ret rfl ⟨dX6_flat_158, _, rfl, rfl⟩ rfl
  · refine G_st (x_if_ge_f 22 dX6_flat_13 (by decide) c4) ?_
    refine G_st (x_aload_n dX6_flat_16 rfl) ?_
    refine G_st (x_iconst (-1 : Int32) dX6_flat_17 rfl) ?_
    refine G_bd (fun x32 t33 h34 => ?_)
    refine G_st (x_callV [] (c_X6_refuse ids Hn (-1 : Int32) H0_0 H1 H2 H3 _ _ _ h34) dX6_flat_18 tw_317 kc_X6_refuse (H0_0 0 (Nat.le_of_ble_eq_true rfl) (Nat.le_of_ble_eq_true rfl)) rfl rfl rfl rfl ⟨Nat.le_of_ble_eq_true rfl, Nat.le_of_ble_eq_true rfl⟩ (Nat.le_of_ble_eq_true rfl) rfl) ?_
    exact G_ret rfl ⟨dX6_flat_21, _, rfl, rfl⟩ rfl
set_option maxRecDepth 100000 in
set_option maxHeartbeats 4000000 in
theorem c_X6_flat (ids : List (Nat × Nat)) (Hn : Ndp ids) (v1 : Int32) (v2 : Int32) (H0_0 : InR ids 0 0 5) (H1 : InR ids 1 6 28) (H2 : InR ids 2 6 28) (H3 : InR ids 3 6 28) (t0 : Sg) (r : Int32) (t1 : Sg) (hf : f_X6_flat v1 v2 t0 = some (r, t1)) : Mt0 mX6_flat yX6_flat ids [aR (0, 0), aI v1, aI v2] t0 (some (aI r)) t1 :=
  Mt_of (x := (r, t1)) (g_X6_flat ids Hn v1 v2 H0_0 H1 H2 H3 t0) hf (fun _ _ => trivial) (by decide) rfl Hn (fun _ => rfl) (fun _ => Nat.le_of_ble_eq_true rfl)
