def sCof (σH : Sg) : Sg := fun i => if i.1 = 0 then zS i else σH (1, i.2)
def sC : Sg := sCof sH
theorem rel_H (h : Nat) (cI : ClassId) (h0 : Nat) (a a1 a2 a3 aL : Nat × Nat → Nat) (q1 q2 q3 : Nat) (σH : Sg) (hh : h = 1 ∧ a = a1 ∨ h = 2 ∧ a = a2 ∨ h = 3 ∧ a = a3) : wOf (idsH.map (fun i => (h, i.2))) cI (adT h0 a1 a2 a3 aL q1 q2 q3) (sCof σH) = wOf idsH cI a σH := by
  refine wOf_rel (fun i => (h, i.2)) rfl ?_
  intro i hi
  simp only [idsH, List.mem_cons, List.not_mem_nil, or_false] at hi
  rcases hh with ⟨rfl, rfl⟩ | ⟨rfl, rfl⟩ | ⟨rfl, rfl⟩ <;> rcases hi with rfl | rfl | rfl | rfl | rfl | rfl | rfl | rfl | rfl | rfl | rfl | rfl | rfl | rfl | rfl | rfl | rfl | rfl | rfl | rfl | rfl | rfl | rfl <;> rfl
set_option maxRecDepth 100000 in
theorem ew_T (cI : ClassId) (h0 : Nat) (a1 a2 a3 aL : Nat × Nat → Nat) (q1 q2 q3 : Nat) (σH : Sg) : wOf idsC cI (adT h0 a1 a2 a3 aL q1 q2 q3) (sCof σH) = (h0, .inr (6, [.ref (a1 (1, 6)), .ref (a2 (1, 6)), .ref (a3 (1, 6)), .ref (aL (0, 4)), .ref q1, .ref q2, .ref q3, .int 0, .int 0])) :: ([] ++ wOf idsH cI a1 σH ++ wOf idsH cI a2 σH ++ wOf idsH cI a3 σH ++ wOf idsL cI aL zS ++ [(q1, .inl (cI, 10, .inl (fun _ => 0)))] ++ [(q2, .inl (cI, 7, .inl (fun _ => 0)))] ++ [(q3, .inl (cI, 24, .inl (fun _ => 0)))]) := by
  have e1 := rel_H 1 cI h0 a1 a1 a2 a3 aL q1 q2 q3 σH (Or.inl ⟨rfl, rfl⟩)
  have e2 := rel_H 2 cI h0 a2 a1 a2 a3 aL q1 q2 q3 σH (Or.inr (Or.inl ⟨rfl, rfl⟩))
  have e3 := rel_H 3 cI h0 a3 a1 a2 a3 aL q1 q2 q3 σH (Or.inr (Or.inr ⟨rfl, rfl⟩))
  have e4 : wOf idsL cI (adT h0 a1 a2 a3 aL q1 q2 q3) (sCof σH) = wOf idsL cI aL zS := wOf_rel id (by decide) (by
    intro i hi
    simp only [idsL, List.mem_cons, List.not_mem_nil, or_false] at hi
    rcases hi with rfl | rfl <;> rfl)
  have e0 : idsC = [(0, 0)] ++ (idsH.map (fun i => (1, i.2)) ++ (idsH.map (fun i => (2, i.2)) ++ (idsH.map (fun i => (3, i.2)) ++ (idsL ++ ([(0, 1)] ++ ([(0, 2)] ++ [(0, 3)])))))) := by decide
  rw [e0, wOf_app, wOf_app, wOf_app, wOf_app, wOf_app, wOf_app, wOf_app, e1, e2, e3, e4, List.nil_append, List.append_assoc, List.append_assoc, List.append_assoc, List.append_assoc, List.append_assoc]
  rfl

abbrev mX6_init : MI := (cX6_init, 1, RX6, none, 5, 108, noX)
theorem dX6_init_0 : decode cX6_init 0 = .ok (.aload_n 0, 1) := by decide +kernel
theorem dX6_init_1 : decode cX6_init 1 = .ok (.invokespecial 3, 3) := by decide +kernel
theorem dX6_init_4 : decode cX6_init 4 = .ok (.aload_n 0, 1) := by decide +kernel
theorem dX6_init_5 : decode cX6_init 5 = .ok (.new 9, 3) := by decide +kernel
theorem dX6_init_8 : decode cX6_init 8 = .ok (.dup, 1) := by decide +kernel
theorem dX6_init_9 : decode cX6_init 9 = .ok (.invokespecial 11, 3) := by decide +kernel
theorem dX6_init_12 : decode cX6_init 12 = .ok (.putfield 12, 3) := by decide +kernel
theorem dX6_init_15 : decode cX6_init 15 = .ok (.aload_n 0, 1) := by decide +kernel
theorem dX6_init_16 : decode cX6_init 16 = .ok (.new 9, 3) := by decide +kernel
theorem dX6_init_19 : decode cX6_init 19 = .ok (.dup, 1) := by decide +kernel
theorem dX6_init_20 : decode cX6_init 20 = .ok (.invokespecial 11, 3) := by decide +kernel
theorem dX6_init_23 : decode cX6_init 23 = .ok (.putfield 16, 3) := by decide +kernel
theorem dX6_init_26 : decode cX6_init 26 = .ok (.aload_n 0, 1) := by decide +kernel
theorem dX6_init_27 : decode cX6_init 27 = .ok (.new 9, 3) := by decide +kernel
theorem dX6_init_30 : decode cX6_init 30 = .ok (.dup, 1) := by decide +kernel
theorem dX6_init_31 : decode cX6_init 31 = .ok (.invokespecial 11, 3) := by decide +kernel
theorem dX6_init_34 : decode cX6_init 34 = .ok (.putfield 19, 3) := by decide +kernel
theorem dX6_init_37 : decode cX6_init 37 = .ok (.aload_n 0, 1) := by decide +kernel
theorem dX6_init_38 : decode cX6_init 38 = .ok (.new 22, 3) := by decide +kernel
theorem dX6_init_41 : decode cX6_init 41 = .ok (.dup, 1) := by decide +kernel
theorem dX6_init_42 : decode cX6_init 42 = .ok (.invokespecial 24, 3) := by decide +kernel
theorem dX6_init_45 : decode cX6_init 45 = .ok (.putfield 25, 3) := by decide +kernel
theorem dX6_init_48 : decode cX6_init 48 = .ok (.aload_n 0, 1) := by decide +kernel
theorem dX6_init_49 : decode cX6_init 49 = .ok (.bipush 10, 2) := by decide +kernel
theorem dX6_init_51 : decode cX6_init 51 = .ok (.newarray .int, 2) := by decide +kernel
theorem dX6_init_53 : decode cX6_init 53 = .ok (.putfield 29, 3) := by decide +kernel
theorem dX6_init_56 : decode cX6_init 56 = .ok (.aload_n 0, 1) := by decide +kernel
theorem dX6_init_57 : decode cX6_init 57 = .ok (.bipush 7, 2) := by decide +kernel
theorem dX6_init_59 : decode cX6_init 59 = .ok (.newarray .int, 2) := by decide +kernel
theorem dX6_init_61 : decode cX6_init 61 = .ok (.putfield 33, 3) := by decide +kernel
theorem dX6_init_64 : decode cX6_init 64 = .ok (.aload_n 0, 1) := by decide +kernel
theorem dX6_init_65 : decode cX6_init 65 = .ok (.bipush 24, 2) := by decide +kernel
theorem dX6_init_67 : decode cX6_init 67 = .ok (.newarray .int, 2) := by decide +kernel
theorem dX6_init_69 : decode cX6_init 69 = .ok (.putfield 36, 3) := by decide +kernel
theorem dX6_init_72 : decode cX6_init 72 = .ok (.aload_n 0, 1) := by decide +kernel
theorem dX6_init_73 : decode cX6_init 73 = .ok (.iconst 0, 1) := by decide +kernel
theorem dX6_init_74 : decode cX6_init 74 = .ok (.putfield 39, 3) := by decide +kernel
theorem dX6_init_77 : decode cX6_init 77 = .ok (.aload_n 0, 1) := by decide +kernel
theorem dX6_init_78 : decode cX6_init 78 = .ok (.iconst 0, 1) := by decide +kernel
theorem dX6_init_79 : decode cX6_init 79 = .ok (.putfield 43, 3) := by decide +kernel
theorem dX6_init_82 : decode cX6_init 82 = .ok (.return_, 1) := by decide +kernel
set_option maxRecDepth 100000 in
set_option maxHeartbeats 4000000 in
theorem c_X6_init (l : Launch) (D : va_G) (cI : ClassId) (aK aV : Nat → Nat) (base h0 sz : Nat) (hb0 : base ≤ h0) (hbs : base ≤ sz) : Met l yX6_init (wsM mX6_init yX6_init) (rmC mX6_init 74 2824) (va_Pc [.ref h0] (fun U => U.heap.size = sz ∧ va_P D vwCl [(h0, .inr (6, [.null, .null, .null, .null, .null, .null, .null, .int 0, .int 0]))] U.heap ∧ StB base aK aV D cI U)) (va_Qv (fun ad : Nat × Nat → Nat => ad (0, 0) = h0 ∧ (∀ k, ad (5, k) = aK k) ∧ ∀ k, ad (6, k) = aV k) (fun ad t => va_P D vwCl (wOf idsC cI ad sC) t.heap ∧ va_D (va_A [(h0, .inr (6, [.null, .null, .null, .null, .null, .null, .null, .int 0, .int 0]))] sz) (wOf idsC cI ad sC)) (va_A [(h0, .inr (6, [.null, .null, .null, .null, .null, .null, .null, .int 0, .int 0]))] sz)) 74 2824 (va_A [(h0, .inr (6, [.null, .null, .null, .null, .null, .null, .null, .int 0, .int 0]))] sz) := by
  refine Met.ofW (cc := cX6_init) (maxL := 1) (ret := none) (by decide) rfl ?_
  intro p e s m args below meth c s₁ B hml hv
  obtain ⟨rfl, hsz, hP, hSt⟩ := hv
  have hx := B.exec
  have hb := B.bytes
  have hr := B.returns
  have hts0 := atoms_spec (ws := wsM mX6_init yX6_init) B.pre
  have hts : ∀ w ∈ TT, w.before #[.ref h0] s = true := fun w hw => hts0 w (List.mem_cons_of_mem _ hw)
  have hown : s.vm.findClass RX6 = some m.cls := findClass_of_methodNamed B.named
  have hlocks := B.notSynchronized
  have hin : meth.name = "<init>" := (name_of_methodNamed B.named B.method).1
  have hK := hSt.1
  subst hsz
  have hD : va_D (va_A [(h0, .inr (6, [.null, .null, .null, .null, .null, .null, .null, .int 0, .int 0]))] s.heap.size) [(h0, .inr (6, [.null, .null, .null, .null, .null, .null, .null, .int 0, .int 0]))] := va_D.self (A := fun _ => True) ⟨fun i j p q h1 h2 _ => by
    have a1 : i < 1 := (List.getElem?_eq_some_iff.mp h1).1
    have a2 : j < 1 := (List.getElem?_eq_some_iff.mp h2).1
    omega, fun _ _ _ => trivial⟩
  have hBA : ∀ q, (va_A [(h0, .inr (6, [.null, .null, .null, .null, .null, .null, .null, .int 0, .int 0]))] s.heap.size) q → base ≤ q := by
    rintro q (⟨k, e, h⟩ | h)
    · have a1 : k < 1 := (List.getElem?_eq_some_iff.mp h).1
      have a2 : k = 0 := by omega
      subst a2
      cases h
      exact hb0
    · omega
  have hbz := hbs
  generalize hAe : va_A [(h0, .inr (6, [.null, .null, .null, .null, .null, .null, .null, .int 0, .int 0]))] s.heap.size = A at hD hBA ⊢
  have hA : ∀ q : Nat, s.heap.size ≤ q → A q := fun q h => by rw [← hAe]; exact Or.inr h
  have hS : va_S A s.heap s.heap [] := va_S.rf
  have hl := lv_entry ([.ref h0]) (n := 1) (Nat.le_of_ble_eq_true rfl)
  rw [lg_entry_eq]
  generalize (lg_sl ([.ref h0]) ++ List.replicate (1 - (lg_sl ([.ref h0])).length) Slot.unset).toArray = ls at hl ⊢
  have hl : lv_has ls 1 [(0, .ref h0)] := hl
  refine lv_aload_n hx hb dX6_init_0 rfl (lv_at hl 0 rfl) ?_
  refine W.objInit hx hb hown (hts _ tw_81) (hts _ tw_82) (hts _ tw_83) rfl (by rw [hml]; exact hl.1) rfl dX6_init_1 (Nat.le_of_ble_eq_true rfl) (Nat.le_of_ble_eq_true rfl) ?_
  refine W.eq (g2 := F0 m 4 ls []) rfl ?_
  refine lv_aload_n hx hb dX6_init_4 rfl (lv_at hl 0 rfl) ?_
  refine va_new (ci := 2) (fs := [.null, .null, .null, .null, .int 0]) (C := RX2) (T := TX2) (N := 5) hx hb hts inTX2 tyX2 tyX2_ok hown (hts _ tw_84) (hts _ tw_85) (hts _ tw_62) hK hP hD hS hA rfl (fun j hj => by rcases (show j = 0 ∨ j = 1 ∨ j = 2 ∨ j = 3 ∨ j = 4 by omega) with rfl | rfl | rfl | rfl | rfl <;> rfl) (Nat.le_of_ble_eq_true rfl) (Nat.le_of_ble_eq_true rfl) dX6_init_5 (fun q0 H hP hD hS => ?_)
  have hP : va_P D vwCl (((h0, .inr (6, [.null, .null, .null, .null, .null, .null, .null, .int 0, .int 0])) :: (([]))) ++ [(q0, .inr (2, [.null, .null, .null, .null, .int 0]))]) H := hP
  have hD : va_D A (((h0, .inr (6, [.null, .null, .null, .null, .null, .null, .null, .int 0, .int 0])) :: (([]))) ++ [(q0, .inr (2, [.null, .null, .null, .null, .int 0]))]) := hD
  refine lv_dup hx hb dX6_init_8 rfl ?_
  refine ct_sub hP hD hS hA (va_runIN (As := []) (rest := [.ref q0, .ref h0]) ⟨hx, hb, hml, hown, hts⟩ (c_X2_init l D cI aK aV base q0 H.size (hBA _ (ct_F hD hS hA _ (Or.inl ⟨0, _, rfl⟩))) (Nat.le_trans hbz hS.1)) ⟨va_cnB 0 hts (good_ws (hc := tw_88)) rfl rfl rfl (hSt.2.1 _ (List.mem_of_getElem? (i := 0) rfl)) (hts _ tw_62) ⟨by decide, by decide, by decide +kernel⟩ ⟨Nat.le_of_ble_eq_true rfl, Nat.le_of_ble_eq_true rfl⟩, rfl, hts _ tw_87⟩ ⟨cpBlind, fun U hU hW => ⟨rfl, by rw [hU], by rw [hU]; exact one_P hP, hSt.go hBA hS hU hW⟩⟩ rfl rfl hl.1 rfl (lv_room (Nat.le_of_ble_eq_true rfl)) dX6_init_9 ⟨Nat.le_of_ble_eq_true rfl, Nat.le_of_ble_eq_true rfl⟩) (fun a0 H locs hpa0 hP hD hS => ?_)
  have hP : va_P D vwCl ((h0, .inr (6, [.null, .null, .null, .null, .null, .null, .null, .int 0, .int 0])) :: (([] ++ wOf idsH cI a0 sH))) H := hP
  have hD : va_D A ((h0, .inr (6, [.null, .null, .null, .null, .null, .null, .null, .int 0, .int 0])) :: (([] ++ wOf idsH cI a0 sH))) := hD
  refine ct_putF (ci := 6) (v := .ref q0) (ty := .object "DripsOnBelow$House") (C := RX6) (T := TX6) (N := 9) (fs' := [.ref q0, .null, .null, .null, .null, .null, .null, .int 0, .int 0]) hx hb hts inTX6 tyX6 tyX6_ok nmX6 hown hK hP hD hS rfl 0 (by decide) (hts _ tw_285) rfl hin rfl rfl rfl rfl (Nat.le_of_ble_eq_true rfl) rfl dX6_init_12 (fun H locs hP hD hS => ?_)
  refine lv_aload_n hx hb dX6_init_15 rfl (lv_at hl 0 rfl) ?_
  refine va_new (ci := 2) (fs := [.null, .null, .null, .null, .int 0]) (C := RX2) (T := TX2) (N := 5) hx hb hts inTX2 tyX2 tyX2_ok hown (hts _ tw_84) (hts _ tw_85) (hts _ tw_62) hK hP hD hS hA rfl (fun j hj => by rcases (show j = 0 ∨ j = 1 ∨ j = 2 ∨ j = 3 ∨ j = 4 by omega) with rfl | rfl | rfl | rfl | rfl <;> rfl) (Nat.le_of_ble_eq_true rfl) (Nat.le_of_ble_eq_true rfl) dX6_init_16 (fun q1 H hP hD hS => ?_)
  have hP : va_P D vwCl (((h0, .inr (6, [.ref q0, .null, .null, .null, .null, .null, .null, .int 0, .int 0])) :: (([] ++ wOf idsH cI a0 sH))) ++ [(q1, .inr (2, [.null, .null, .null, .null, .int 0]))]) H := hP
  have hD : va_D A (((h0, .inr (6, [.ref q0, .null, .null, .null, .null, .null, .null, .int 0, .int 0])) :: (([] ++ wOf idsH cI a0 sH))) ++ [(q1, .inr (2, [.null, .null, .null, .null, .int 0]))]) := hD
  refine lv_dup hx hb dX6_init_19 rfl ?_
  refine ct_sub hP hD hS hA (va_runIN (As := []) (rest := [.ref q1, .ref h0]) ⟨hx, hb, hml, hown, hts⟩ (c_X2_init l D cI aK aV base q1 H.size (hBA _ (ct_F hD hS hA _ (Or.inl ⟨0, _, rfl⟩))) (Nat.le_trans hbz hS.1)) ⟨va_cnB 0 hts (good_ws (hc := tw_88)) rfl rfl rfl (hSt.2.1 _ (List.mem_of_getElem? (i := 0) rfl)) (hts _ tw_62) ⟨by decide, by decide, by decide +kernel⟩ ⟨Nat.le_of_ble_eq_true rfl, Nat.le_of_ble_eq_true rfl⟩, rfl, hts _ tw_87⟩ ⟨cpBlind, fun U hU hW => ⟨rfl, by rw [hU], by rw [hU]; exact one_P hP, hSt.go hBA hS hU hW⟩⟩ rfl rfl hl.1 rfl (lv_room (Nat.le_of_ble_eq_true rfl)) dX6_init_20 ⟨Nat.le_of_ble_eq_true rfl, Nat.le_of_ble_eq_true rfl⟩) (fun a1 H locs hpa1 hP hD hS => ?_)
  have hP : va_P D vwCl ((h0, .inr (6, [.ref q0, .null, .null, .null, .null, .null, .null, .int 0, .int 0])) :: (([] ++ wOf idsH cI a0 sH ++ wOf idsH cI a1 sH))) H := hP
  have hD : va_D A ((h0, .inr (6, [.ref q0, .null, .null, .null, .null, .null, .null, .int 0, .int 0])) :: (([] ++ wOf idsH cI a0 sH ++ wOf idsH cI a1 sH))) := hD
  refine ct_putF (ci := 6) (v := .ref q1) (ty := .object "DripsOnBelow$House") (C := RX6) (T := TX6) (N := 9) (fs' := [.ref q0, .ref q1, .null, .null, .null, .null, .null, .int 0, .int 0]) hx hb hts inTX6 tyX6 tyX6_ok nmX6 hown hK hP hD hS rfl 1 (by decide) (hts _ tw_286) rfl hin rfl rfl rfl rfl (Nat.le_of_ble_eq_true rfl) rfl dX6_init_23 (fun H locs hP hD hS => ?_)
  refine lv_aload_n hx hb dX6_init_26 rfl (lv_at hl 0 rfl) ?_
  refine va_new (ci := 2) (fs := [.null, .null, .null, .null, .int 0]) (C := RX2) (T := TX2) (N := 5) hx hb hts inTX2 tyX2 tyX2_ok hown (hts _ tw_84) (hts _ tw_85) (hts _ tw_62) hK hP hD hS hA rfl (fun j hj => by rcases (show j = 0 ∨ j = 1 ∨ j = 2 ∨ j = 3 ∨ j = 4 by omega) with rfl | rfl | rfl | rfl | rfl <;> rfl) (Nat.le_of_ble_eq_true rfl) (Nat.le_of_ble_eq_true rfl) dX6_init_27 (fun q2 H hP hD hS => ?_)
  have hP : va_P D vwCl (((h0, .inr (6, [.ref q0, .ref q1, .null, .null, .null, .null, .null, .int 0, .int 0])) :: (([] ++ wOf idsH cI a0 sH ++ wOf idsH cI a1 sH))) ++ [(q2, .inr (2, [.null, .null, .null, .null, .int 0]))]) H := hP
  have hD : va_D A (((h0, .inr (6, [.ref q0, .ref q1, .null, .null, .null, .null, .null, .int 0, .int 0])) :: (([] ++ wOf idsH cI a0 sH ++ wOf idsH cI a1 sH))) ++ [(q2, .inr (2, [.null, .null, .null, .null, .int 0]))]) := hD
  refine lv_dup hx hb dX6_init_30 rfl ?_
  refine ct_sub hP hD hS hA (va_runIN (As := []) (rest := [.ref q2, .ref h0]) ⟨hx, hb, hml, hown, hts⟩ (c_X2_init l D cI aK aV base q2 H.size (hBA _ (ct_F hD hS hA _ (Or.inl ⟨0, _, rfl⟩))) (Nat.le_trans hbz hS.1)) ⟨va_cnB 0 hts (good_ws (hc := tw_88)) rfl rfl rfl (hSt.2.1 _ (List.mem_of_getElem? (i := 0) rfl)) (hts _ tw_62) ⟨by decide, by decide, by decide +kernel⟩ ⟨Nat.le_of_ble_eq_true rfl, Nat.le_of_ble_eq_true rfl⟩, rfl, hts _ tw_87⟩ ⟨cpBlind, fun U hU hW => ⟨rfl, by rw [hU], by rw [hU]; exact one_P hP, hSt.go hBA hS hU hW⟩⟩ rfl rfl hl.1 rfl (lv_room (Nat.le_of_ble_eq_true rfl)) dX6_init_31 ⟨Nat.le_of_ble_eq_true rfl, Nat.le_of_ble_eq_true rfl⟩) (fun a2 H locs hpa2 hP hD hS => ?_)
  have hP : va_P D vwCl ((h0, .inr (6, [.ref q0, .ref q1, .null, .null, .null, .null, .null, .int 0, .int 0])) :: (([] ++ wOf idsH cI a0 sH ++ wOf idsH cI a1 sH ++ wOf idsH cI a2 sH))) H := hP
  have hD : va_D A ((h0, .inr (6, [.ref q0, .ref q1, .null, .null, .null, .null, .null, .int 0, .int 0])) :: (([] ++ wOf idsH cI a0 sH ++ wOf idsH cI a1 sH ++ wOf idsH cI a2 sH))) := hD
  refine ct_putF (ci := 6) (v := .ref q2) (ty := .object "DripsOnBelow$House") (C := RX6) (T := TX6) (N := 9) (fs' := [.ref q0, .ref q1, .ref q2, .null, .null, .null, .null, .int 0, .int 0]) hx hb hts inTX6 tyX6 tyX6_ok nmX6 hown hK hP hD hS rfl 2 (by decide) (hts _ tw_287) rfl hin rfl rfl rfl rfl (Nat.le_of_ble_eq_true rfl) rfl dX6_init_34 (fun H locs hP hD hS => ?_)
  refine lv_aload_n hx hb dX6_init_37 rfl (lv_at hl 0 rfl) ?_
  refine va_new (ci := 4) (fs := [.null, .int 0]) (C := RX4) (T := TX4) (N := 2) hx hb hts inTX4 tyX4 tyX4_ok hown (hts _ tw_271) (hts _ tw_272) (hts _ tw_68) hK hP hD hS hA rfl (fun j hj => by rcases (show j = 0 ∨ j = 1 by omega) with rfl | rfl <;> rfl) (Nat.le_of_ble_eq_true rfl) (Nat.le_of_ble_eq_true rfl) dX6_init_38 (fun q3 H hP hD hS => ?_)
  have hP : va_P D vwCl (((h0, .inr (6, [.ref q0, .ref q1, .ref q2, .null, .null, .null, .null, .int 0, .int 0])) :: (([] ++ wOf idsH cI a0 sH ++ wOf idsH cI a1 sH ++ wOf idsH cI a2 sH))) ++ [(q3, .inr (4, [.null, .int 0]))]) H := hP
  have hD : va_D A (((h0, .inr (6, [.ref q0, .ref q1, .ref q2, .null, .null, .null, .null, .int 0, .int 0])) :: (([] ++ wOf idsH cI a0 sH ++ wOf idsH cI a1 sH ++ wOf idsH cI a2 sH))) ++ [(q3, .inr (4, [.null, .int 0]))]) := hD
  refine lv_dup hx hb dX6_init_41 rfl ?_
  refine ct_sub hP hD hS hA (va_runIN (As := []) (rest := [.ref q3, .ref h0]) ⟨hx, hb, hml, hown, hts⟩ (c_X4_init l D cI aK aV base q3 H.size (hBA _ (ct_F hD hS hA _ (Or.inl ⟨0, _, rfl⟩))) (Nat.le_trans hbz hS.1)) ⟨va_cnB 0 hts (good_ws (hc := tw_275)) rfl rfl rfl (hSt.2.1 _ (List.mem_of_getElem? (i := 5) rfl)) (hts _ tw_68) ⟨by decide, by decide, by decide +kernel⟩ ⟨Nat.le_of_ble_eq_true rfl, Nat.le_of_ble_eq_true rfl⟩, rfl, hts _ tw_274⟩ ⟨cpBlind, fun U hU hW => ⟨rfl, by rw [hU], by rw [hU]; exact one_P hP, hSt.go hBA hS hU hW⟩⟩ rfl rfl hl.1 rfl (lv_room (Nat.le_of_ble_eq_true rfl)) dX6_init_42 ⟨Nat.le_of_ble_eq_true rfl, Nat.le_of_ble_eq_true rfl⟩) (fun a3 H locs hpa3 hP hD hS => ?_)
  have hP : va_P D vwCl ((h0, .inr (6, [.ref q0, .ref q1, .ref q2, .null, .null, .null, .null, .int 0, .int 0])) :: (([] ++ wOf idsH cI a0 sH ++ wOf idsH cI a1 sH ++ wOf idsH cI a2 sH ++ wOf idsL cI a3 zS))) H := hP
  have hD : va_D A ((h0, .inr (6, [.ref q0, .ref q1, .ref q2, .null, .null, .null, .null, .int 0, .int 0])) :: (([] ++ wOf idsH cI a0 sH ++ wOf idsH cI a1 sH ++ wOf idsH cI a2 sH ++ wOf idsL cI a3 zS))) := hD
  refine ct_putF (ci := 6) (v := .ref q3) (ty := .object "DripsOnBelow$Letters") (C := RX6) (T := TX6) (N := 9) (fs' := [.ref q0, .ref q1, .ref q2, .ref q3, .null, .null, .null, .int 0, .int 0]) hx hb hts inTX6 tyX6 tyX6_ok nmX6 hown hK hP hD hS rfl 3 (by decide) (hts _ tw_288) rfl hin rfl rfl rfl rfl (Nat.le_of_ble_eq_true rfl) rfl dX6_init_45 (fun H locs hP hD hS => ?_)
  refine lv_aload_n hx hb dX6_init_48 rfl (lv_at hl 0 rfl) ?_
  refine lv_bipush (v := 10) hx hb dX6_init_49 (by decide) ?_
  refine ct_newa hx hb hts tw_162 hK hP hD hS hA 10 (by decide) (by decide) (Nat.le_of_ble_eq_true rfl) (Nat.le_of_ble_eq_true rfl) (Nat.le_of_ble_eq_true rfl) dX6_init_51 (fun q4 H hP hD hS => ?_)
  have hP : va_P D vwCl ((h0, .inr (6, [.ref q0, .ref q1, .ref q2, .ref q3, .null, .null, .null, .int 0, .int 0])) :: (([] ++ wOf idsH cI a0 sH ++ wOf idsH cI a1 sH ++ wOf idsH cI a2 sH ++ wOf idsL cI a3 zS ++ [(q4, .inl (cI, 10, .inl (fun _ => 0)))]))) H := hP
  have hD : va_D A ((h0, .inr (6, [.ref q0, .ref q1, .ref q2, .ref q3, .null, .null, .null, .int 0, .int 0])) :: (([] ++ wOf idsH cI a0 sH ++ wOf idsH cI a1 sH ++ wOf idsH cI a2 sH ++ wOf idsL cI a3 zS ++ [(q4, .inl (cI, 10, .inl (fun _ => 0)))]))) := hD
  refine ct_putF (ci := 6) (v := .ref q4) (ty := .array .int) (C := RX6) (T := TX6) (N := 9) (fs' := [.ref q0, .ref q1, .ref q2, .ref q3, .ref q4, .null, .null, .int 0, .int 0]) hx hb hts inTX6 tyX6 tyX6_ok nmX6 hown hK hP hD hS rfl 4 (by decide) (hts _ tw_289) rfl hin rfl rfl rfl rfl (Nat.le_of_ble_eq_true rfl) rfl dX6_init_53 (fun H locs hP hD hS => ?_)
  refine lv_aload_n hx hb dX6_init_56 rfl (lv_at hl 0 rfl) ?_
  refine lv_bipush (v := 7) hx hb dX6_init_57 (by decide) ?_
  refine ct_newa hx hb hts tw_162 hK hP hD hS hA 7 (by decide) (by decide) (Nat.le_of_ble_eq_true rfl) (Nat.le_of_ble_eq_true rfl) (Nat.le_of_ble_eq_true rfl) dX6_init_59 (fun q5 H hP hD hS => ?_)
  have hP : va_P D vwCl ((h0, .inr (6, [.ref q0, .ref q1, .ref q2, .ref q3, .ref q4, .null, .null, .int 0, .int 0])) :: (([] ++ wOf idsH cI a0 sH ++ wOf idsH cI a1 sH ++ wOf idsH cI a2 sH ++ wOf idsL cI a3 zS ++ [(q4, .inl (cI, 10, .inl (fun _ => 0)))] ++ [(q5, .inl (cI, 7, .inl (fun _ => 0)))]))) H := hP
  have hD : va_D A ((h0, .inr (6, [.ref q0, .ref q1, .ref q2, .ref q3, .ref q4, .null, .null, .int 0, .int 0])) :: (([] ++ wOf idsH cI a0 sH ++ wOf idsH cI a1 sH ++ wOf idsH cI a2 sH ++ wOf idsL cI a3 zS ++ [(q4, .inl (cI, 10, .inl (fun _ => 0)))] ++ [(q5, .inl (cI, 7, .inl (fun _ => 0)))]))) := hD
  refine ct_putF (ci := 6) (v := .ref q5) (ty := .array .int) (C := RX6) (T := TX6) (N := 9) (fs' := [.ref q0, .ref q1, .ref q2, .ref q3, .ref q4, .ref q5, .null, .int 0, .int 0]) hx hb hts inTX6 tyX6 tyX6_ok nmX6 hown hK hP hD hS rfl 5 (by decide) (hts _ tw_290) rfl hin rfl rfl rfl rfl (Nat.le_of_ble_eq_true rfl) rfl dX6_init_61 (fun H locs hP hD hS => ?_)
  refine lv_aload_n hx hb dX6_init_64 rfl (lv_at hl 0 rfl) ?_
  refine lv_bipush (v := 24) hx hb dX6_init_65 (by decide) ?_
  refine ct_newa hx hb hts tw_162 hK hP hD hS hA 24 (by decide) (by decide) (Nat.le_of_ble_eq_true rfl) (Nat.le_of_ble_eq_true rfl) (Nat.le_of_ble_eq_true rfl) dX6_init_67 (fun q6 H hP hD hS => ?_)
  have hP : va_P D vwCl ((h0, .inr (6, [.ref q0, .ref q1, .ref q2, .ref q3, .ref q4, .ref q5, .null, .int 0, .int 0])) :: (([] ++ wOf idsH cI a0 sH ++ wOf idsH cI a1 sH ++ wOf idsH cI a2 sH ++ wOf idsL cI a3 zS ++ [(q4, .inl (cI, 10, .inl (fun _ => 0)))] ++ [(q5, .inl (cI, 7, .inl (fun _ => 0)))] ++ [(q6, .inl (cI, 24, .inl (fun _ => 0)))]))) H := hP
  have hD : va_D A ((h0, .inr (6, [.ref q0, .ref q1, .ref q2, .ref q3, .ref q4, .ref q5, .null, .int 0, .int 0])) :: (([] ++ wOf idsH cI a0 sH ++ wOf idsH cI a1 sH ++ wOf idsH cI a2 sH ++ wOf idsL cI a3 zS ++ [(q4, .inl (cI, 10, .inl (fun _ => 0)))] ++ [(q5, .inl (cI, 7, .inl (fun _ => 0)))] ++ [(q6, .inl (cI, 24, .inl (fun _ => 0)))]))) := hD
  refine ct_putF (ci := 6) (v := .ref q6) (ty := .array .int) (C := RX6) (T := TX6) (N := 9) (fs' := [.ref q0, .ref q1, .ref q2, .ref q3, .ref q4, .ref q5, .ref q6, .int 0, .int 0]) hx hb hts inTX6 tyX6 tyX6_ok nmX6 hown hK hP hD hS rfl 6 (by decide) (hts _ tw_291) rfl hin rfl rfl rfl rfl (Nat.le_of_ble_eq_true rfl) rfl dX6_init_69 (fun H locs hP hD hS => ?_)
  refine lv_aload_n hx hb dX6_init_72 rfl (lv_at hl 0 rfl) ?_
  refine lv_iconst (v := 0) hx hb dX6_init_73 (by decide) ?_
  refine ct_put (ci := 6) (v := .int 0) (ty := .int) (C := RX6) (T := TX6) (N := 9) (fs' := [.ref q0, .ref q1, .ref q2, .ref q3, .ref q4, .ref q5, .ref q6, .int 0, .int 0]) hx hb hts inTX6 tyX6 tyX6_ok nmX6 hown hK hP hD hS rfl 7 (by decide) (hts _ tw_292) rfl rfl rfl rfl (Nat.le_of_ble_eq_true rfl) rfl dX6_init_74 (fun H locs hP hD hS => ?_)
  refine lv_aload_n hx hb dX6_init_77 rfl (lv_at hl 0 rfl) ?_
  refine lv_iconst (v := 0) hx hb dX6_init_78 (by decide) ?_
  refine ct_put (ci := 6) (v := .int 0) (ty := .boolean) (C := RX6) (T := TX6) (N := 9) (fs' := [.ref q0, .ref q1, .ref q2, .ref q3, .ref q4, .ref q5, .ref q6, .int 0, .int 0]) hx hb hts inTX6 tyX6 tyX6_ok nmX6 hown hK hP hD hS rfl 8 (by decide) (hts _ tw_293) rfl rfl rfl rfl (Nat.le_of_ble_eq_true rfl) rfl dX6_init_79 (fun H locs hP hD hS => ?_)
  obtain ⟨ad, had⟩ : ∃ ad, ad = adT h0 a0 a1 a2 a3 q4 q5 q6 := ⟨_, rfl⟩
  obtain ⟨hpa0, hp5a0, hp6a0⟩ := hpa0
  obtain ⟨hpa1, hp5a1, hp6a1⟩ := hpa1
  obtain ⟨hpa2, hp5a2, hp6a2⟩ := hpa2
  obtain ⟨hpa3, hp5a3, hp6a3⟩ := hpa3
  have ew := ew_T cI h0 a0 a1 a2 a3 q4 q5 q6 sH
  rw [← had, hpa0, hpa1, hpa2, hpa3] at ew
  rw [← ew] at hP hD
  have hpa : ad (0, 0) = h0 ∧ (∀ k, ad (5, k) = aK k) ∧ ∀ k, ad (6, k) = aV k := by rw [had]; exact ⟨rfl, fun k => hp5a0 k, fun k => hp6a0 k⟩
  exact W.vret hx hb hr (fun t ht hW => ⟨⟨ad, rfl, hpa, by rw [ht]; exact hP, hD⟩, hS.F ht⟩) hS.2.2 dX6_init_82
