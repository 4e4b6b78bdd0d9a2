theorem tw_76 : Cond.classLink "DripsOnBelowLaw" 7 "DripsOnBelow" ∈ TT := tt_mem 76 (by decide +kernel) rfl
theorem tw_77 : Cond.instantiable "DripsOnBelow" 9 ∈ TT := tt_mem 77 (by decide +kernel) rfl
theorem tw_78 : Cond.methodLink "DripsOnBelowLaw" 9 ⟨"DripsOnBelow", "<init>", "()V"⟩ ∈ TT := tt_mem 78 (by decide +kernel) rfl
theorem tw_79 : Cond.instanceMethod ⟨"DripsOnBelow", "<init>", "()V"⟩ ∈ TT := tt_mem 79 (by decide +kernel) rfl
theorem tw_80 : Cond.code ⟨"DripsOnBelow", "<init>", "()V"⟩ prog_1_method_1_code 1 (Option.none : Option Jvm.ClassFile.FieldType) ∈ TT := tt_mem 80 (by decide +kernel) rfl
theorem tw_837 : Cond.classLink "DripsOnBelowLaw" 10 "DripsOnBelowModel" ∈ TT := tt_mem 837 (by decide +kernel) rfl
theorem tw_838 : Cond.instantiable "DripsOnBelowModel" 43 ∈ TT := tt_mem 838 (by decide +kernel) rfl
theorem tw_839 : Cond.methodLink "DripsOnBelowLaw" 12 ⟨"DripsOnBelowModel", "<init>", "()V"⟩ ∈ TT := tt_mem 839 (by decide +kernel) rfl
theorem tw_840 : Cond.instanceMethod ⟨"DripsOnBelowModel", "<init>", "()V"⟩ ∈ TT := tt_mem 840 (by decide +kernel) rfl
theorem tw_841 : Cond.code ⟨"DripsOnBelowModel", "<init>", "()V"⟩ prog_9_method_1_code 1 (Option.none : Option Jvm.ClassFile.FieldType) ∈ TT := tt_mem 841 (by decide +kernel) rfl
/-! THE CLAIM OUT OF ONE WALK OF THE LAW'S BODY. Your part is whole_start (and what it stands on); all else here is the same for every law, but numbers. -/
def R_law : String := "DripsOnBelowLaw"
def lw_P (b : Addr) (xs : List Int32) (args : Array Value) (s : State) : Prop := args = #[.ref b] ∧ s.IntsAt b xs ∧ xs.length ≤ 2048 ∧ (Jvm.Cond.and given_1 narrow_1).before args s = true
def lw_Q (_ : Array Value) (s : State) (o : Outcome) (t : State) : Prop := o = .returned (some (.int 1)) ∧ Framed s o t [] 103 6367
def lw_Z (below : List Frame) (a : Array Value) (s : State) : State → Prop := fun t => ∃ o, t.status = .running ∧ Ended t below o ∧ lw_Q a s o t
/-- the law's own end, with 1 on the stack, nothing written that was there before, its room as the claim has it -/
theorem lw_ret {p : Program} {l : Launch} {e : Env} {s : State} {m : MethodId} {below : List Frame} {meth : Method} {c : Code} {b : Nat} (hx : p.tables.exec = Jvm.exec) (hb : c.code = code) (hr : meth.sig.returnType = ret) (hlocks : meth.locks = false) {pc : Nat} {H : Heap} {ls : Array Slot} (hdg : decode code pc = .ok (.ireturn, 1)) : W p l e room_1 s m #[Value.ref b] below meth c H [] 103 6367 (lw_Z below #[Value.ref b] s) (F0 m pc ls [.int 1]) := by
  intro T hT X
  obtain ⟨fs, hret, hrun, hended, hW, hframe⟩ := X.leave (v := some (.int 1)) (hlocks := hlocks) (fun h => by rw [hr] at h; cases h)
  have hmeth' : T.vm.method? m = some meth := X.method'
  refine ⟨T.setFrames fs, ?_, .returned (some (.int 1)), hrun, hended, rfl, ⟨_, rfl⟩, hW, hframe⟩
  jvm_step X.here [X.here.top, hx, hb, hdg, hmeth', hr, ret, narrow_b1]
  (try refine ⟨rfl, ?_⟩); (try refine ⟨rfl, ?_⟩)
  first | (intro acts; rw [hret _ acts rfl rfl rfl]) | rw [hret _ _ rfl rfl rfl]
  exact Steps.refl _
/-- what holds at the law's entry: the machine, the code, the tables' words (any of lw_tbl by 'hts w (by decide +kernel)'), the script of L ints xs at the cell b, what the Statement gives of the start (any of its parts by flat_of_before) -/
def lw_At (p : Program) (s : State) (m : MethodId) (meth : Method) (c : Code) (b L : Nat) (xs : Nat → Int32) : Prop :=
  p.tables.exec = Jvm.exec ∧ c.code = code ∧ meth.sig.returnType = ret ∧ c.maxLocals = 4 ∧ s.vm.findClass R_law = some m.cls ∧ (∀ w ∈ lw_tbl, w.before #[Value.ref b] s = true) ∧ va_X b L xs s s.heap ∧ b < s.heap.size ∧ meth.locks = false ∧ (Jvm.Cond.and given_1 narrow_1).before #[Value.ref b] s = true

def strPos : Nat → Nat := fun k => match k with
  | 0 => 350
  | 1 => 351
  | 2 => 352
  | 3 => 353
  | 4 => 354
  | 5 => 355
  | _ => 356
theorem st_ref : ∀ k, k < 7 → lw_tbl[strPos k]? = some (.stringRef RX4 (strIdx k) (strTx k)) := by decide +kernel
theorem st_nest : nestL.map (fun q => Cond.methodLinkNest q.1 q.2.1 q.2.2.1 q.2.2.2) = [86, 107, 165, 200, 226, 273, 329, 346, 417, 428, 440, 453, 458, 497, 506, 542, 610, 619, 624, 645, 646, 650, 723].filterMap (fun i => lw_tbl[i]?) := by decide +kernel
abbrev gvn : Jvm.Cond := Jvm.Cond.and given_1 narrow_1
abbrev tmS (i : Nat) : Term := .string "DripsOnBelow$Letters" (strIdx i)
theorem st_ex : ∀ i, i < 7 → Cond.exactly (tmS i) "java/lang/String" ∈ flatC gvn := by decide +kernel
theorem st_co : ∀ i, i < 7 → Cond.eq (.field (tmS i) "java/lang/String" "coder" "B") (.int 0) ∈ flatC gvn := by decide +kernel
theorem st_ar : ∀ i, i < 7 → Cond.arrayOf (.field (tmS i) "java/lang/String" "value" "[B") .byte ∈ flatC gvn := by decide +kernel
theorem st_le : ∀ i, i < 7 → Cond.eq (.length (.field (tmS i) "java/lang/String" "value" "[B")) (.int (Int32.ofNat (strLen.getD i 0))) ∈ flatC gvn := by decide +kernel
theorem st_el : ∀ i, i < 7 → ∀ j, j < strLen.getD i 0 → Cond.eq (.elem (.field (tmS i) "java/lang/String" "value" "[B") (.int (Int32.ofNat j))) (.int ((strByt.getD i []).getD j 0)) ∈ flatC gvn := by decide +kernel
theorem st_ne : ∀ i, i < 7 → ∀ j, j < 7 → i ≠ j → Cond.not (Cond.eq (tmS i) (tmS j)) ∈ flatC gvn ∨ Cond.not (Cond.eq (tmS j) (tmS i)) ∈ flatC gvn := by decide +kernel
theorem st_cs : Cond.eq (.static "java/lang/String" "COMPACT_STRINGS" "Z") (.int 1) ∈ flatC gvn := by decide +kernel
theorem st_fm : Cond.isRef (.static "jdk/internal/util/Preconditions" "SIOOBE_FORMATTER" "Ljava/util/function/BiFunction;") ∈ flatC gvn := by decide +kernel
theorem st_l1 : Cond.laysStatic "java/lang/String" "COMPACT_STRINGS" "Z" ∈ lw_tbl := List.mem_of_getElem? (i := 370) (by decide +kernel)
theorem st_l2 : Cond.laysStatic "jdk/internal/util/Preconditions" "SIOOBE_FORMATTER" "Ljava/util/function/BiFunction;" ∈ lw_tbl := List.mem_of_getElem? (i := 386) (by decide +kernel)
theorem start_St {s : State} {b : Nat} (hts0 : ∀ w ∈ lw_tbl, w.before #[Value.ref b] s = true) (hgv : gvn.before #[Value.ref b] s = true) : ∃ (D : va_G) (cI : ClassId) (aK aV : Nat → Nat), StB s.heap.size aK aV D cI s := by
  have hts : ∀ w ∈ TT, w.before #[Value.ref b] s = true := fun w h => hts0 w (tt_lw w h)
  have hs := flat_of_before _ hgv
  obtain ⟨cX0, iX0, hKnX0⟩ := u_known (C := RX0) (T := TX0) (N := 10) (n := 10) hts inTX0 (hts _ tw_91)
  obtain ⟨cX1, iX1, hKnX1⟩ := u_known (C := RX1) (T := TX1) (N := 5) (n := 5) hts inTX1 (hts _ tw_164)
  obtain ⟨cX2, iX2, hKnX2⟩ := u_known (C := RX2) (T := TX2) (N := 5) (n := 5) hts inTX2 (hts _ tw_85)
  obtain ⟨cX3, iX3, hKnX3⟩ := u_known (C := RX3) (T := TX3) (N := 5) (n := 5) hts inTX3 (hts _ tw_199)
  obtain ⟨cX4, iX4, hKnX4⟩ := u_known (C := RX4) (T := TX4) (N := 2) (n := 2) hts inTX4 (hts _ tw_272)
  obtain ⟨cX5, iX5, hKnX5⟩ := u_known (C := RX5) (T := TX5) (N := 4) (n := 4) hts inTX5 (hts _ tw_225)
  obtain ⟨cX6, iX6, hKnX6⟩ := u_known (C := RX6) (T := TX6) (N := 9) (n := 9) hts inTX6 (hts _ tw_77)
  obtain ⟨cX7, iX7, hKnX7⟩ := u_known (C := RX7) (T := TX7) (N := 43) (n := 43) hts inTX7 (hts _ tw_838)
  obtain ⟨cI, hA1, hA2⟩ : ∃ cI : ClassId, ArrOfT s cI .int ∧ va_RA s cI .int := by
    obtain ⟨cA, kA, comp, h1, h2, h3⟩ := Cond.arrayClass_spec (hts _ tw_162)
    exact ⟨cA, fun n z => ⟨fun k h => (by cases h), kA, h2, comp, h3⟩, h1⟩
  have hA : ∀ a : Nat, a < s.heap.size → ¬ (fun q => s.heap.size ≤ q) a := fun a h q => absurd h (Nat.not_lt.mpr q)
  obtain ⟨aK, aV, hS, hev⟩ := vk_Sof (args := #[Value.ref b]) (s := s) (N := 7) (tm := tmS) (len := strLen) (byt := strByt) (A := fun q => s.heap.size ≤ q) (fun i hi => by have := str_len i hi; omega) (fun i hi => hs _ (st_ex i hi)) (fun i hi => hs _ (st_co i hi)) (fun i hi => hs _ (st_ar i hi)) (fun i hi => hs _ (st_le i hi)) (fun i hi j hj => hs _ (st_el i hi j hj)) (fun i j hi hj hij => (st_ne i hi j hj hij).elim (fun h => Or.inl (hs _ h)) (fun h => Or.inr (hs _ h))) hA
  refine ⟨((fun k => if k = 0 then cX0 else if k = 1 then cX1 else if k = 2 then cX2 else if k = 3 then cX3 else if k = 4 then cX4 else if k = 5 then cX5 else if k = 6 then cX6 else cX7), (fun k => if k = 0 then iX0 else if k = 1 then iX1 else if k = 2 then iX2 else if k = 3 then iX3 else if k = 4 then iX4 else if k = 5 then iX5 else if k = 6 then iX6 else iX7)), cI, aK, aV, ⟨fun k q hq => ?_, fun k q hq => ?_⟩, fun q hq => ?_, hS, fun k hk => vk_R.of (hts0 _ (List.mem_of_getElem? (st_ref k hk))) (hev k hk), ?_, ?_⟩
  · match k, hq with
    | 0, hq => cases hq; exact hKnX0
    | 1, hq => cases hq; exact hKnX1
    | 2, hq => cases hq; exact hKnX2
    | 3, hq => cases hq; exact hKnX3
    | 4, hq => cases hq; exact hKnX4
    | 5, hq => cases hq; exact hKnX5
    | 6, hq => cases hq; exact hKnX6
    | 7, hq => cases hq; exact hKnX7
    | k + 8, hq => simp [vwCl] at hq
  · match k, hq with
    | 0, hq => cases hq; exact ⟨hA1, hA2⟩
    | k + 1, hq => simp at hq
  · have h1 : Cond.methodLinkNest q.1 q.2.1 q.2.2.1 q.2.2.2 ∈ nestL.map (fun q => Cond.methodLinkNest q.1 q.2.1 q.2.2.1 q.2.2.2) := List.mem_map_of_mem hq
    rw [st_nest] at h1
    obtain ⟨i, -, hi⟩ := List.mem_filterMap.mp h1
    exact va_Nw.of rfl (hts0 _ (List.mem_of_getElem? hi))
  · exact va_Zof (hts0 _ st_l1) (hts _ tw_70) (va_eqi (hs _ st_cs)) hA
  · exact va_Zqof (hts0 _ st_l2) (hts _ tw_72) (hs _ st_fm) hA
def adA (b : Nat) (a1 a2 : Nat × Nat → Nat) : Nat × Nat → Nat := fun i => if i.1 = 7 then b else if i.1 = 0 then (if 29 ≤ i.2 then a2 i else a1 i) else a1 i
def sA (σC σM : Sg) : Sg := fun i => if i.1 = 0 then (if 29 ≤ i.2 then σM i else σC i) else σC i
theorem v29 (b : Nat) (a1 a2 : Nat × Nat → Nat) (σC σM : Sg) : ∀ k : Nat, ly_v (adA b a1 a2) (sA σC σM) (0, 29) k = ly_v a2 σM (0, 29) k
  | 0 => rfl
  | 1 => rfl
  | 2 => rfl
  | 3 => rfl
  | 4 => rfl
  | 5 => rfl
  | 6 => rfl
  | 7 => rfl
  | 8 => rfl
  | 9 => rfl
  | 10 => rfl
  | 11 => rfl
  | 12 => rfl
  | 13 => rfl
  | 14 => rfl
  | 15 => rfl
  | 16 => rfl
  | 17 => rfl
  | 18 => rfl
  | 19 => rfl
  | 20 => rfl
  | 21 => rfl
  | 22 => rfl
  | 23 => rfl
  | 24 => rfl
  | 25 => rfl
  | 26 => rfl
  | 27 => rfl
  | 28 => rfl
  | 29 => rfl
  | 30 => rfl
  | 31 => rfl
  | 32 => rfl
  | 33 => rfl
  | 34 => rfl
  | 35 => rfl
  | 36 => rfl
  | 37 => rfl
  | 38 => by
    show va_rf ((ly_dyn (σM (0, 29) 38)).map (adA b a1 a2)) = va_rf ((ly_dyn (σM (0, 29) 38)).map a2)
    unfold ly_dyn
    split
    · rfl
    · split <;> rfl
  | 39 => rfl
  | 40 => rfl
  | 41 => rfl
  | k + 42 => rfl
theorem c29 (cI : ClassId) (b : Nat) (a1 a2 : Nat × Nat → Nat) (σC σM : Sg) : cont cI (adA b a1 a2) (sA σC σM) (0, 29) = cont cI a2 σM (0, 29) := by
  have e : ly_v (adA b a1 a2) (sA σC σM) (0, 29) = ly_v a2 σM (0, 29) := funext (v29 b a1 a2 σC σM)
  unfold cont
  rw [e]
  rfl
set_option maxRecDepth 100000 in
set_option maxHeartbeats 4000000 in
theorem ew_A (cI : ClassId) (b : Nat) (a1 a2 : Nat × Nat → Nat) (σC σM : Sg) : wOf idsA cI (adA b a1 a2) (sA σC σM) = wOf idsC cI a1 σC ++ wOf idsM cI a2 σM := by
  have e1 : wOf idsC cI (adA b a1 a2) (sA σC σM) = wOf idsC cI a1 σC := wOf_rel id (by rw [List.map_id]) (by
    intro i hi
    simp only [idsC, List.mem_cons, List.not_mem_nil, or_false] at hi
    rcases hi with rfl | rfl | rfl | rfl | rfl | rfl | rfl | rfl | rfl | rfl | rfl | rfl | rfl | rfl | rfl | rfl | rfl | rfl | rfl | rfl | rfl | rfl | rfl | rfl | rfl | rfl | rfl | rfl | rfl | rfl | rfl | rfl | rfl | rfl | rfl | rfl | rfl | rfl | rfl | rfl | rfl | rfl | rfl | rfl | rfl | rfl | rfl | rfl | rfl | rfl | rfl | rfl | rfl | rfl | rfl | rfl | rfl | rfl | rfl | rfl | rfl | rfl | rfl | rfl | rfl | rfl | rfl | rfl | rfl | rfl | rfl | rfl | rfl | rfl | rfl <;> rfl)
  have e2 : wOf idsM cI (adA b a1 a2) (sA σC σM) = wOf idsM cI a2 σM := wOf_rel id (by rw [List.map_id]) (by
    intro i hi
    simp only [idsM, List.mem_cons, List.not_mem_nil, or_false] at hi
    rcases hi with rfl | rfl | rfl | rfl | rfl | rfl | rfl | rfl | rfl | rfl | rfl | rfl | rfl | rfl | rfl | rfl | rfl | rfl | rfl | rfl | rfl | rfl | rfl | rfl | rfl | rfl | rfl | rfl <;> first | exact congrArg (fun z => (a2 (0, 29), z)) (c29 cI b a1 a2 σC σM) | rfl)
  unfold idsA
  rw [wOf_app, e1, e2]
theorem ag_A (σC σM : Sg) : ag (sA σC σM) σC σM := by
  constructor
  · intro i hi
    have h : ∀ j ∈ idsC, ¬ (j.1 = 0 ∧ 29 ≤ j.2) := by decide +kernel
    have := h i hi
    unfold sA
    split
    · next h0 => rw [if_neg (fun q => this ⟨h0, q⟩)]
    · rfl
  · intro i hi
    have h : ∀ j ∈ idsM, j.1 = 0 ∧ 29 ≤ j.2 := by decide +kernel
    have := h i hi
    unfold sA
    rw [if_pos this.1, if_pos this.2]
set_option maxRecDepth 100000 in
set_option maxHeartbeats 8000000 in
theorem whole_start_of {Rl : Sg → Sg → Prop} (hE : El Rl) (hR0 : Rl sC sM) {p : Program} {e : Env} {s : State} {m : MethodId} {below : List Frame} {meth : Method} {c : Code} (l : Launch) {b L : Nat} {xs : Nat → Int32} (hL : L ≤ 2048) (C0 : lw_At p s m meth c b L xs) : W p l e room_1 s m #[Value.ref b] below meth c s.heap [] 0 0 (lw_Z below #[Value.ref b] s) (entryFrame m ([Value.ref b] : List Value).toArray 4) := by
  obtain ⟨hx, hb, hr, hml, hown, hts0, hX, hbl, hlocks, hgv⟩ := id C0
  have hts : ∀ w ∈ TT, w.before #[Value.ref b] s = true := fun w h => hts0 w (tt_lw w h)
  obtain ⟨D, cI, aK, aV, hSt⟩ := start_St hts0 hgv
  have hK := hSt.1
  have hA : ∀ q : Nat, s.heap.size ≤ q → (fun q : Nat => s.heap.size ≤ q) q := fun _ h => h
  have hS : va_S (fun q : Nat => s.heap.size ≤ q) s.heap s.heap [] := va_S.rf
  have hP : va_P D vwCl [] s.heap := fun k q h => by simp at h
  have hD : va_D (fun q : Nat => s.heap.size ≤ q) [] := ⟨fun i j p q h => by simp at h, fun k q h => by simp at h⟩
  have hl := lv_entry ([.ref b]) (n := 4) (Nat.le_of_ble_eq_true rfl)
  rw [lg_entry_eq]
  generalize (lg_sl ([.ref b]) ++ List.replicate (4 - (lg_sl ([.ref b])).length) Slot.unset).toArray = ls at hl ⊢
  have hl : lv_has ls 4 [(0, .ref b)] := hl
  refine va_new (ci := 6) (fs := [.null, .null, .null, .null, .null, .null, .null, .int 0, .int 0]) (C := RX6) (T := TX6) (N := 9) hx hb hts inTX6 tyX6 tyX6_ok hown (hts _ tw_76) (hts _ tw_77) (hts _ tw_61) hK hP hD hS hA rfl (fun j hj => by rcases (show j = 0 ∨ j = 1 ∨ j = 2 ∨ j = 3 ∨ j = 4 ∨ j = 5 ∨ j = 6 ∨ j = 7 ∨ j = 8 by omega) with rfl | rfl | rfl | rfl | rfl | rfl | rfl | rfl | rfl <;> rfl) (Nat.le_of_ble_eq_true rfl) (Nat.le_of_ble_eq_true rfl) dL_law_0 (fun q H hP hD hS => ?_)
  refine lv_dup hx hb dL_law_3 rfl ?_
  refine ct_sub hP hD hS hA (va_runI (As := []) (rest := [.ref q]) ⟨hx, hb, hml, hown, hts⟩ (c_X6_init l D cI aK aV s.heap.size q H.size (ct_F hD hS hA _ (Or.inl ⟨0, _, rfl⟩)) hS.1) ⟨callB_of 0 hts (good_ws (hc := tw_80)) rfl rfl rfl (hts _ tw_61) (hts _ tw_78) ⟨by decide, by decide, by decide +kernel⟩ ⟨Nat.le_of_ble_eq_true rfl, Nat.le_of_ble_eq_true rfl⟩, rfl, hts _ tw_79⟩ ⟨cpBlind, fun U hU hW => ⟨rfl, by rw [hU], by rw [hU]; exact one_P hP, hSt.go (fun _ h => h) hS hU hW⟩⟩ rfl rfl hl.1 rfl (lv_room (Nat.le_of_ble_eq_true rfl)) dL_law_4 ⟨Nat.le_of_ble_eq_true rfl, Nat.le_of_ble_eq_true rfl⟩) (fun a1 H locs hpa1 hP hD hS => ?_)
  refine lv_astore_n (lv' := [(1, .ref q), (0, .ref b)]) hx hb dL_law_7 rfl hl (by decide) rfl (fun ls hl => ?_)
  obtain ⟨qx, hqx⟩ : ∃ z, z = q := ⟨_, rfl⟩
  rw [← hqx] at hl hpa1
  refine va_new (ci := 7) (fs := [.int 0, .int 0, .int 0, .int 0, .int 0, .null, .null, .null, .null, .null, .null, .null, .null, .null, .null, .null, .null, .null, .int 0, .null, .null, .null, .null, .null, .int 0, .null, .int 0, .int 0, .int 0, .int 0, .null, .null, .null, .null, .null, .int 0, .int 0, .int 0, .null, .null, .null, .null, .int 0]) (C := RX7) (T := TX7) (N := 43) hx hb hts inTX7 tyX7 tyX7_ok hown (hts _ tw_837) (hts _ tw_838) (hts _ tw_69) hK hP hD hS hA rfl (fun j hj => by rcases (show j = 0 ∨ j = 1 ∨ j = 2 ∨ j = 3 ∨ j = 4 ∨ j = 5 ∨ j = 6 ∨ j = 7 ∨ j = 8 ∨ j = 9 ∨ j = 10 ∨ j = 11 ∨ j = 12 ∨ j = 13 ∨ j = 14 ∨ j = 15 ∨ j = 16 ∨ j = 17 ∨ j = 18 ∨ j = 19 ∨ j = 20 ∨ j = 21 ∨ j = 22 ∨ j = 23 ∨ j = 24 ∨ j = 25 ∨ j = 26 ∨ j = 27 ∨ j = 28 ∨ j = 29 ∨ j = 30 ∨ j = 31 ∨ j = 32 ∨ j = 33 ∨ j = 34 ∨ j = 35 ∨ j = 36 ∨ j = 37 ∨ j = 38 ∨ j = 39 ∨ j = 40 ∨ j = 41 ∨ j = 42 by omega) with rfl | rfl | rfl | rfl | rfl | rfl | rfl | rfl | rfl | rfl | rfl | rfl | rfl | rfl | rfl | rfl | rfl | rfl | rfl | rfl | rfl | rfl | rfl | rfl | rfl | rfl | rfl | rfl | rfl | rfl | rfl | rfl | rfl | rfl | rfl | rfl | rfl | rfl | rfl | rfl | rfl | rfl | rfl <;> rfl) (Nat.le_of_ble_eq_true rfl) (Nat.le_of_ble_eq_true rfl) dL_law_8 (fun q H hP hD hS => ?_)
  refine lv_dup hx hb dL_law_11 rfl ?_
  refine ct_sub hP hD hS hA (va_runI (As := []) (rest := [.ref q]) ⟨hx, hb, hml, hown, hts⟩ (c_X7_init l D cI aK aV s.heap.size q H.size (ct_F hD hS hA _ (Or.inl ⟨0, _, rfl⟩)) hS.1) ⟨callB_of 0 hts (good_ws (hc := tw_841)) rfl rfl rfl (hts _ tw_69) (hts _ tw_839) ⟨by decide, by decide, by decide +kernel⟩ ⟨Nat.le_of_ble_eq_true rfl, Nat.le_of_ble_eq_true rfl⟩, rfl, hts _ tw_840⟩ ⟨cpBlind, fun U hU hW => ⟨rfl, by rw [hU], by rw [hU]; exact one_P hP, hSt.go (fun _ h => h) hS hU hW⟩⟩ rfl rfl hl.1 rfl (lv_room (Nat.le_of_ble_eq_true rfl)) dL_law_12 ⟨Nat.le_of_ble_eq_true rfl, Nat.le_of_ble_eq_true rfl⟩) (fun a2 H locs hpa2 hP hD hS => ?_)
  refine lv_astore_n (lv' := [(2, .ref q), (1, .ref qx), (0, .ref b)]) hx hb dL_law_15 rfl hl (by decide) rfl (fun ls hl => ?_)
  refine lv_iconst (v := 0) hx hb dL_law_16 (by decide) ?_
  refine lv_istore_n (lv' := [(3, .int 0), (2, .ref q), (1, .ref qx), (0, .ref b)]) hx hb dL_law_17 rfl hl (by decide) rfl (fun ls hl => ?_)
  rw [List.nil_append] at hP hD
  rw [← ew_A cI b a1 a2 sC sM] at hP hD
  have hb1 : ∀ i ∈ idsA, s.heap.size ≤ adA b a1 a2 i := by
    intro i hi
    obtain ⟨k, h1, h2⟩ := w_at cI (adA b a1 a2) (sA sC sM) hi
    exact hD.2 k _ h2
  have hst := hSt.st (ids := idsA) (ad := adA b a1 a2) hb1 (fun k => hpa1.2.1 k) (fun k => hpa1.2.2 k) (inj_D hD)
  have hlow : ∀ x, inA idsA (adA b a1 a2) x → s.heap.size ≤ x := fun x ⟨i, hi, e⟩ => by rw [e]; exact hb1 i hi
  refine va_forget (fun x hx1 => hS.2.2 x hx1) ?_
  have hS9 : va_S (inA idsA (adA b a1 a2)) s.heap H [] := ⟨hS.1, fun x h1 _ => hS.2.1 x h1 (Nat.not_le.mpr h1), fun x h => by cases h⟩
  have hl9 : lv_has ls 4 (toAL (adA b a1 a2) 0 (locL 0)) := by
    refine ⟨hl.1, hl.2.1, fun x hx1 => hl.2.2 x ?_⟩
    have e0 : adA b a1 a2 (0, 0) = qx := hpa1.1
    have e1 : adA b a1 a2 (0, 29) = q := hpa2.1
    have e2 : toAL (adA b a1 a2) 0 (locL 0) = [(0, .ref b), (1, .ref qx), (2, .ref q), (3, .int 0)] := by
      rw [← e0, ← e1]; rfl
    rw [e2] at hx1
    simp only [List.mem_cons, List.not_mem_nil, or_false] at hx1 ⊢
    rcases hx1 with h | h | h | h
    · exact Or.inr (Or.inr (Or.inr h))
    · exact Or.inr (Or.inr (Or.inl h))
    · exact Or.inr (Or.inl h)
    · exact Or.inl h
  refine law_run (xs := xs) hL hE 2049 0 (by omega) (by omega) (sA sC sM) sC sM (ag_A sC sM) hR0 p l e room_1 s m #[Value.ref b] below meth c 103 6367 (lw_Z below #[Value.ref b] s) D cI (adA b a1 a2) ⟨hx, hb, hml, hown, hts, ⟨Nat.le_of_ble_eq_true rfl, Nat.le_of_ble_eq_true rfl, Nat.le_of_ble_eq_true rfl, Nat.le_of_ble_eq_true rfl⟩, hst, nd_A⟩ ⟨⟨hX, hbl, fun z => absurd (hlow _ z) (Nat.not_le.mpr hbl)⟩, ?_⟩ H [] ls hP hS9 hl9
  intro r σ pc H2 locs2 ls2 hΦ hd hP2 hS2
  have hr1 : r = some (aI 1) := hΦ
  subst hr1
  exact va_forget (fun x h => hlow _ (hS2.2.2 x h)) (lw_ret hx hb hr hlocks hd.1)
