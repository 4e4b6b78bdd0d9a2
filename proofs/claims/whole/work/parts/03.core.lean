def ly_kept : Nat := 52
def ly_imaged : Nat := 53
def ly_len : Nat → Option Nat := fun m => match m with
  | 1 => some 10
  | 2 => some 7
  | 3 => some 24
  | 5 => some 96
  | 8 => some 24
  | 9 => some 24
  | 10 => some 24
  | 11 => some 24
  | 12 => some 24
  | 13 => some 24
  | 14 => some 24
  | 16 => some 8
  | 17 => some 8
  | 18 => some 8
  | 19 => some 8
  | 21 => some 24
  | 22 => some 576
  | 23 => some 24
  | 24 => some 24
  | 26 => some 6
  | 27 => some 6
  | 28 => some 6
  | 30 => some 24
  | 31 => some 24
  | 32 => some 24
  | 33 => some 24
  | 34 => some 24
  | 35 => some 24
  | 36 => some 24
  | 37 => some 24
  | 38 => some 576
  | 39 => some 8
  | 40 => some 8
  | 41 => some 8
  | 42 => some 8
  | 43 => some 7
  | 44 => some 24
  | 45 => some 24
  | 46 => some 576
  | 47 => some 8
  | 48 => some 96
  | 49 => some 49
  | 50 => some 49
  | 51 => some 196
  | 52 => some 810
  | 53 => some 810
  | 54 => some 8
  | 55 => some 24
  | 56 => some 10
  | _ => none
def ly_cls : Nat → Nat := fun m => match m with
  | 0 => 6
  | 4 => 4
  | 6 => 2
  | 7 => 0
  | 15 => 1
  | 20 => 3
  | 25 => 5
  | _ => 7
def ly_n : Nat → Nat := fun m => match m with
  | 0 => 9
  | 4 => 2
  | 6 => 5
  | 7 => 10
  | 15 => 5
  | 20 => 5
  | 25 => 4
  | _ => 43
def ly_fX6 (i : Nat × Nat) (k : Nat) : Nat ⊕ (Nat × Nat) := match k with
  | 0 => .inr (1, 6)
  | 1 => .inr (2, 6)
  | 2 => .inr (3, 6)
  | 3 => .inr (0, 4)
  | 4 => .inr (0, 1)
  | 5 => .inr (0, 2)
  | 6 => .inr (0, 3)
  | 7 => .inl 0
  | _ => .inl 1
def ly_fX4 (i : Nat × Nat) (k : Nat) : Nat ⊕ (Nat × Nat) := match k with
  | 0 => .inr (i.1, 5)
  | _ => .inl 0
def ly_fX2 (i : Nat × Nat) (k : Nat) : Nat ⊕ (Nat × Nat) := match k with
  | 0 => .inr (i.1, 7)
  | 1 => .inr (i.1, 15)
  | 2 => .inr (i.1, 20)
  | 3 => .inr (i.1, 25)
  | _ => .inl 0
def ly_fX0 (i : Nat × Nat) (k : Nat) : Nat ⊕ (Nat × Nat) := match k with
  | 0 => .inl 0
  | 1 => .inl 0
  | 2 => .inl 0
  | 3 => .inr (i.1, 8)
  | 4 => .inr (i.1, 9)
  | 5 => .inr (i.1, 10)
  | 6 => .inr (i.1, 11)
  | 7 => .inr (i.1, 12)
  | 8 => .inr (i.1, 13)
  | _ => .inr (i.1, 14)
def ly_fX1 (i : Nat × Nat) (k : Nat) : Nat ⊕ (Nat × Nat) := match k with
  | 0 => .inl 0
  | 1 => .inr (i.1, 16)
  | 2 => .inr (i.1, 17)
  | 3 => .inr (i.1, 18)
  | _ => .inr (i.1, 19)
def ly_fX3 (i : Nat × Nat) (k : Nat) : Nat ⊕ (Nat × Nat) := match k with
  | 0 => .inr (i.1, 21)
  | 1 => .inr (i.1, 22)
  | 2 => .inr (i.1, 23)
  | 3 => .inr (i.1, 24)
  | _ => .inl 0
def ly_fX5 (i : Nat × Nat) (k : Nat) : Nat ⊕ (Nat × Nat) := match k with
  | 0 => .inr (i.1, 26)
  | 1 => .inr (i.1, 27)
  | 2 => .inr (i.1, 28)
  | _ => .inl 0
def ly_fX7 (i : Nat × Nat) (k : Nat) : Nat ⊕ (Nat × Nat) := match k with
  | 0 => .inl 0
  | 1 => .inl 0
  | 2 => .inl 0
  | 3 => .inl 0
  | 4 => .inl 0
  | 5 => .inr (i.1, 30)
  | 6 => .inr (i.1, 31)
  | 7 => .inr (i.1, 32)
  | 8 => .inr (i.1, 33)
  | 9 => .inr (i.1, 34)
  | 10 => .inr (i.1, 35)
  | 11 => .inr (i.1, 36)
  | 12 => .inr (i.1, 37)
  | 13 => .inr (i.1, 38)
  | 14 => .inr (i.1, 39)
  | 15 => .inr (i.1, 40)
  | 16 => .inr (i.1, 41)
  | 17 => .inr (i.1, 42)
  | 18 => .inl 0
  | 19 => .inr (i.1, 43)
  | 20 => .inr (i.1, 44)
  | 21 => .inr (i.1, 45)
  | 22 => .inr (i.1, 46)
  | 23 => .inr (i.1, 47)
  | 24 => .inl 0
  | 25 => .inr (i.1, 48)
  | 26 => .inl 0
  | 27 => .inl 0
  | 28 => .inl 1
  | 29 => .inl 0
  | 30 => .inr (i.1, 49)
  | 31 => .inr (i.1, 50)
  | 32 => .inr (i.1, 51)
  | 33 => .inr (i.1, 52)
  | 34 => .inr (i.1, 53)
  | 35 => .inl 1
  | 36 => .inl 0
  | 37 => .inl 1
  | 38 => .inl 2
  | 39 => .inr (i.1, 54)
  | 40 => .inr (i.1, 55)
  | 41 => .inr (i.1, 56)
  | _ => .inl 0
def ly_f (i : Nat × Nat) (k : Nat) : Nat ⊕ (Nat × Nat) := match i.2 with
  | 0 => ly_fX6 i k
  | 4 => ly_fX4 i k
  | 6 => ly_fX2 i k
  | 7 => ly_fX0 i k
  | 15 => ly_fX1 i k
  | 20 => ly_fX3 i k
  | 25 => ly_fX5 i k
  | _ => ly_fX7 i k
def nestL : List (String × Nat × MethodName × String) := [("DripsOnBelow", 11, ⟨"DripsOnBelow$House", "<init>", "()V"⟩, "DripsOnBelow"), ("DripsOnBelow$Front", 64, ⟨"DripsOnBelow", "set", "([III)V"⟩, "DripsOnBelow"), ("DripsOnBelow$House", 20, ⟨"DripsOnBelow$Habits", "<init>", "()V"⟩, "DripsOnBelow"), ("DripsOnBelow$House", 27, ⟨"DripsOnBelow$Ledger", "<init>", "()V"⟩, "DripsOnBelow"), ("DripsOnBelow$House", 34, ⟨"DripsOnBelow$Way", "<init>", "()V"⟩, "DripsOnBelow"), ("DripsOnBelow", 24, ⟨"DripsOnBelow$Letters", "<init>", "()V"⟩, "DripsOnBelow"), ("DripsOnBelow$Letters", 19, ⟨"DripsOnBelow", "set", "([III)V"⟩, "DripsOnBelow"), ("DripsOnBelow$Letters", 23, ⟨"DripsOnBelow", "get", "([II)I"⟩, "DripsOnBelow"), ("DripsOnBelow$Letters", 31, ⟨"DripsOnBelow", "within", "(III)Z"⟩, "DripsOnBelow"), ("DripsOnBelow$Letters", 87, ⟨"DripsOnBelow", "isHour", "(I)Z"⟩, "DripsOnBelow"), ("DripsOnBelow$Front", 56, ⟨"DripsOnBelow", "copy", "([I[I)V"⟩, "DripsOnBelow"), ("DripsOnBelow$Habits", 32, ⟨"DripsOnBelow", "copy", "([I[I)V"⟩, "DripsOnBelow"), ("DripsOnBelow$Ledger", 33, ⟨"DripsOnBelow", "copy", "([I[I)V"⟩, "DripsOnBelow"), ("DripsOnBelow$Habits", 28, ⟨"DripsOnBelow", "set", "([III)V"⟩, "DripsOnBelow"), ("DripsOnBelow$Front", 68, ⟨"DripsOnBelow", "get", "([II)I"⟩, "DripsOnBelow"), ("DripsOnBelow$Habits", 36, ⟨"DripsOnBelow", "get", "([II)I"⟩, "DripsOnBelow"), ("DripsOnBelow$House", 74, ⟨"DripsOnBelow", "get", "([II)I"⟩, "DripsOnBelow"), ("DripsOnBelow$Way", 30, ⟨"DripsOnBelow", "get", "([II)I"⟩, "DripsOnBelow"), ("DripsOnBelow$Way", 46, ⟨"DripsOnBelow", "set", "([III)V"⟩, "DripsOnBelow"), ("DripsOnBelow$Ledger", 41, ⟨"DripsOnBelow", "get", "([II)I"⟩, "DripsOnBelow"), ("DripsOnBelow$Ledger", 45, ⟨"DripsOnBelow", "set", "([III)V"⟩, "DripsOnBelow"), ("DripsOnBelow$House", 119, ⟨"DripsOnBelow", "set", "([III)V"⟩, "DripsOnBelow"), ("DripsOnBelow$Habits", 40, ⟨"DripsOnBelow", "within", "(III)Z"⟩, "DripsOnBelow")]
def strIdx : Nat → Nat := fun k => match k with
  | 0 => 64
  | 1 => 66
  | 2 => 68
  | 3 => 70
  | 4 => 72
  | 5 => 74
  | _ => 76
def strTx : Nat → String := fun k => match k with
  | 0 => "dd;"
  | 1 => "ddd;"
  | 2 => "dds;"
  | 3 => "dddh;"
  | 4 => "s;"
  | 5 => "do,ddd;"
  | _ => ""
def strLen : List Nat := [3, 4, 4, 5, 2, 7, 0]
def strByt : List (List Int32) := [[100, 100, 59], [100, 100, 100, 59], [100, 100, 115, 59], [100, 100, 100, 104, 59], [115, 59], [100, 111, 44, 100, 100, 100, 59], []]
/-! ===== the abstract machine: values, states (a cell's number and a slot: an int), worlds laid by a layout ===== -/
abbrev AV : Type := Int32 ⊕ (Int64 ⊕ (Nat × Nat))
abbrev Sg : Type := Nat × Nat → Nat → Int32
abbrev aI (x : Int32) : AV := .inl x
abbrev aL (x : Int64) : AV := .inr (.inl x)
abbrev aR (i : Nat × Nat) : AV := .inr (.inr i)
def tr (ad : Nat × Nat → Nat) : AV → Value
  | .inl x => .int x
  | .inr (.inl x) => .long x
  | .inr (.inr i) => .ref (ad i)
def acat : AV → Nat
  | .inl _ => 1
  | .inr (.inl _) => 2
  | .inr (.inr _) => 1
theorem tr_cat (ad : Nat × Nat → Nat) (v : AV) : (tr ad v).category = acat v := by
  rcases v with x | x | x <;> rfl
def upA (σ : Sg) (i : Nat × Nat) (f : Nat → Int32) : Sg := fun j => if j = i then f else σ j
def upS (σ : Sg) (i : Nat × Nat) (k : Nat) (v : Int32) : Sg := upA σ i (upd (σ i) k v)
theorem upA_same (σ : Sg) (i : Nat × Nat) (f : Nat → Int32) : upA σ i f i = f := if_pos rfl
theorem upA_ne (σ : Sg) {i j : Nat × Nat} (f : Nat → Int32) (h : j ≠ i) : upA σ i f j = σ j := if_neg h
/-- what a cell holds -/
def ly_dyn (z : Int32) : Option (Nat × Nat) := if z = 1 then some (0, ly_kept) else if z = 2 then some (0, ly_imaged) else none
def ly_v (ad : Nat × Nat → Nat) (σ : Sg) (i : Nat × Nat) (k : Nat) : Value := match ly_f i k with
  | .inl 2 => va_rf ((ly_dyn (σ i k)).map ad)
  | .inl _ => .int (σ i k)
  | .inr j => .ref (ad j)
def cont (cI : ClassId) (ad : Nat × Nat → Nat) (σ : Sg) (i : Nat × Nat) : va_E := match ly_len i.2 with
  | some n => .inl (cI, n, .inl (σ i))
  | none => .inr (ly_cls i.2, (List.range (ly_n i.2)).map (ly_v ad σ i))
def wOf (ids : List (Nat × Nat)) (cI : ClassId) (ad : Nat × Nat → Nat) (σ : Sg) : va_W := ids.map (fun i => (ad i, cont cI ad σ i))
theorem cont_congr {cI : ClassId} {ad : Nat × Nat → Nat} {σ σ' : Sg} {i : Nat × Nat} (h : σ' i = σ i) : cont cI ad σ' i = cont cI ad σ i := by
  have e : ly_v ad σ' i = ly_v ad σ i := by funext k; unfold ly_v; rw [h]
  unfold cont
  rw [h, e]
theorem w_at {ids : List (Nat × Nat)} (cI : ClassId) (ad : Nat × Nat → Nat) (σ : Sg) {i : Nat × Nat} (h : i ∈ ids) : ∃ k : Nat, ids[k]? = some i ∧ (wOf ids cI ad σ)[k]? = some (ad i, cont cI ad σ i) := by
  obtain ⟨k, hk⟩ := List.getElem?_of_mem h
  exact ⟨k, hk, by unfold wOf; rw [List.getElem?_map, hk]; rfl⟩
/-- no cell twice -/
def Ndp (ids : List (Nat × Nat)) : Prop := ∀ (a b : Nat) (i : Nat × Nat), ids[a]? = some i → ids[b]? = some i → a = b
def ndb : List (Nat × Nat) → Bool
  | [] => true
  | a :: l => decide (a ∉ l) && ndb l
theorem Ndp.of : ∀ (l : List (Nat × Nat)), ndb l = true → Ndp l
  | [], _, i, j, a, h, _ => by simp at h
  | b :: l, hn, i, j, a, h1, h2 => by
    simp only [ndb, Bool.and_eq_true, decide_eq_true_eq] at hn
    cases i with
    | zero =>
      cases j with
      | zero => rfl
      | succ j =>
        rw [List.getElem?_cons_zero] at h1
        rw [List.getElem?_cons_succ] at h2
        cases h1
        exact absurd (List.mem_of_getElem? h2) hn.1
    | succ i =>
      rw [List.getElem?_cons_succ] at h1
      cases j with
      | zero =>
        rw [List.getElem?_cons_zero] at h2
        cases h2
        exact absurd (List.mem_of_getElem? h1) hn.1
      | succ j =>
        rw [List.getElem?_cons_succ] at h2
        rw [Ndp.of l hn.2 i j a h1 h2]
theorem w_set {ids : List (Nat × Nat)} (hn : Ndp ids) (cI : ClassId) (ad : Nat × Nat → Nat) (σ : Sg) {i : Nat × Nat} (f : Nat → Int32) {k : Nat} (hk : ids[k]? = some i) : (wOf ids cI ad σ).set k (ad i, cont cI ad (upA σ i f) i) = wOf ids cI ad (upA σ i f) := by
  obtain ⟨hl, hki⟩ := List.getElem?_eq_some_iff.mp hk
  apply List.ext_getElem?
  intro n
  by_cases hnk : n = k
  · subst hnk
    rw [List.getElem?_set_self (by unfold wOf; rw [List.length_map]; exact hl)]
    unfold wOf
    rw [List.getElem?_map, hk]
    rfl
  · rw [List.getElem?_set_ne (Ne.symm hnk)]
    unfold wOf
    rw [List.getElem?_map, List.getElem?_map]
    cases hq : ids[n]? with
    | none => rfl
    | some j =>
      have hji : j ≠ i := by
        intro e
        subst e
        exact hnk (hn _ _ _ hq hk)
      show some (ad j, cont cI ad σ j) = some (ad j, cont cI ad (upA σ i f) j)
      rw [cont_congr (upA_ne σ f hji)]
def inA (ids : List (Nat × Nat)) (ad : Nat × Nat → Nat) : Nat → Prop := fun q => ∃ i ∈ ids, q = ad i
def inj (ids : List (Nat × Nat)) (ad : Nat × Nat → Nat) : Prop := ∀ i ∈ ids, ∀ j ∈ ids, ad i = ad j → i = j
theorem w_D {ids : List (Nat × Nat)} {ad : Nat × Nat → Nat} (hn : Ndp ids) (hj : inj ids ad) (cI : ClassId) (σ : Sg) : va_D (inA ids ad) (wOf ids cI ad σ) := by
  have key : ∀ (k : Nat) (q : Nat × va_E), (wOf ids cI ad σ)[k]? = some q → ∃ i, ids[k]? = some i ∧ q.1 = ad i := by
    intro k q hq
    unfold wOf at hq
    rw [List.getElem?_map] at hq
    cases hi : ids[k]? with
    | none => rw [hi] at hq; cases hq
    | some i => rw [hi] at hq; cases hq; exact ⟨i, rfl, rfl⟩
  refine ⟨fun a b p q ha hb e => ?_, fun k q hq => ?_⟩
  · obtain ⟨i, h1, h2⟩ := key a p ha
    obtain ⟨j, h3, h4⟩ := key b q hb
    have hij := hj i (List.mem_of_getElem? h1) j (List.mem_of_getElem? h3) (h2.symm.trans (e.trans h4))
    subst hij
    exact hn _ _ _ h1 h3
  · obtain ⟨i, h1, h2⟩ := key k q hq
    exact ⟨i, List.mem_of_getElem? h1, h2⟩
/-! locals by place -/
def toAL (ad : Nat × Nat → Nat) : Nat → List (Option AV) → List (Nat × Value)
  | _, [] => []
  | k, none :: t => toAL ad (k + 1) t
  | k, some v :: t => (k, tr ad v) :: toAL ad (k + 1) t
theorem toAL_get {ad : Nat × Nat → Nat} : ∀ (L : List (Option AV)) (b k : Nat) (v : AV), L[k]? = some (some v) → (b + k, tr ad v) ∈ toAL ad b L
  | [], _, _, _, h => by simp at h
  | x :: t, b, 0, v, h => by
    rw [List.getElem?_cons_zero] at h
    cases h
    exact List.mem_cons_self
  | x :: t, b, k + 1, v, h => by
    rw [List.getElem?_cons_succ] at h
    have h1 := toAL_get (ad := ad) t (b + 1) k v h
    rw [show b + 1 + k = b + (k + 1) by omega] at h1
    cases x with
    | none => exact h1
    | some w => exact List.mem_cons_of_mem _ h1
theorem toAL_mem {ad : Nat × Nat → Nat} : ∀ (L : List (Option AV)) (b : Nat) (q : Nat × Value), q ∈ toAL ad b L → ∃ k v, L[k]? = some (some v) ∧ q = (b + k, tr ad v)
  | [], _, _, h => by cases h
  | none :: t, b, q, h => by
    obtain ⟨k, v, h1, h2⟩ := toAL_mem t (b + 1) q h
    exact ⟨k + 1, v, by rw [List.getElem?_cons_succ]; exact h1, by rw [h2, show b + 1 + k = b + (k + 1) by omega]⟩
  | some w :: t, b, q, h => by
    rcases List.mem_cons.mp h with rfl | h
    · exact ⟨0, w, rfl, rfl⟩
    · obtain ⟨k, v, h1, h2⟩ := toAL_mem t (b + 1) q h
      exact ⟨k + 1, v, by rw [List.getElem?_cons_succ]; exact h1, by rw [h2, show b + 1 + k = b + (k + 1) by omega]⟩
/-- the value in place i is put; a long that lay across is not among those kept -/
def okS (i : Nat) (L : List (Option AV)) : Bool := match i with
  | 0 => true
  | j + 1 => match L[j]? with
    | some (some (.inr (.inl _))) => false
    | _ => true
theorem lv_setA {ad : Nat × Nat → Nat} {ls : Array Slot} {nL i : Nat} {v : AV} {L L' : List (Option AV)} (h : lv_has ls nL ((i, tr ad v) :: (toAL ad 0 L).filter (fun q => !(q.1 == i) && !(q.1 + 1 == i && q.2.category == 2)))) (hL : L.set i (some v) = L') (ho : okS i L = true) : lv_has ls nL (toAL ad 0 L') := by
  refine ⟨h.1, h.2.1, fun q hq => ?_⟩
  obtain ⟨k, w, h1, rfl⟩ := toAL_mem L' 0 q hq
  rw [Nat.zero_add]
  subst hL
  by_cases hk : k = i
  · subst hk
    have hl : k < L.length := by
      have := (List.getElem?_eq_some_iff.mp h1).1
      rwa [List.length_set] at this
    rw [List.getElem?_set_self hl] at h1
    cases h1
    exact h.2.2 (k, tr ad v) List.mem_cons_self
  · rw [List.getElem?_set_ne (Ne.symm hk)] at h1
    refine h.2.2 (k, tr ad w) (List.mem_cons_of_mem _ (List.mem_filter.mpr ⟨by have := toAL_get (ad := ad) L 0 k w h1; rwa [Nat.zero_add] at this, ?_⟩))
    simp only [Bool.and_eq_true, Bool.not_eq_true', beq_eq_false_iff_ne, ne_eq, Bool.and_eq_false_iff]
    refine ⟨hk, ?_⟩
    by_cases hki : k + 1 = i
    · right
      subst hki
      rw [tr_cat]
      rcases w with x | x | x
      · exact (by decide : ¬ (1 = 2))
      · have ho2 : (match L[k]? with | some (some (.inr (.inl _))) => false | _ => true) = true := ho
        rw [h1] at ho2
        cases ho2
      · exact (by decide : ¬ (1 = 2))
    · left; exact hki
theorem lv_atA {ad : Nat × Nat → Nat} {ls : Array Slot} {nL k : Nat} {v : AV} {L : List (Option AV)} (h : lv_has ls nL (toAL ad 0 L)) (hk : L[k]? = some (some v)) : ls[k]? = some (.val (tr ad v)) := by
  have h1 := h.2.2 _ (toAL_get (ad := ad) L 0 k v hk)
  rwa [Nat.zero_add] at h1
def leL : List (Option AV) → List (Option AV) → Prop
  | [], _ => True
  | none :: t, [] => leL t []
  | none :: t, _ :: t' => leL t t'
  | some _ :: _, [] => False
  | some v :: t, w :: t' => w = some v ∧ leL t t'
theorem leL_get : ∀ (L' L : List (Option AV)) (k : Nat) (v : AV), leL L' L → L'[k]? = some (some v) → L[k]? = some (some v)
  | [], _, _, _, _, h => by simp at h
  | none :: t, [], 0, v, _, h => by simp at h
  | none :: t, [], k + 1, v, hl, h => by
    rw [List.getElem?_cons_succ] at h
    have := leL_get t [] k v hl h
    simp at this
  | none :: t, x :: t', 0, v, _, h => by simp at h
  | none :: t, x :: t', k + 1, v, hl, h => by
    rw [List.getElem?_cons_succ] at h ⊢
    exact leL_get t t' k v hl h
  | some w :: t, [], _, _, hl, _ => hl.elim
  | some w :: t, x :: t', 0, v, hl, h => by
    rw [List.getElem?_cons_zero] at h ⊢
    cases h
    rw [hl.1]
  | some w :: t, x :: t', k + 1, v, hl, h => by
    rw [List.getElem?_cons_succ] at h ⊢
    exact leL_get t t' k v hl.2 h
theorem lv_leA {ad : Nat × Nat → Nat} {ls : Array Slot} {nL : Nat} {L L' : List (Option AV)} (h : lv_has ls nL (toAL ad 0 L)) (hL : leL L' L) : lv_has ls nL (toAL ad 0 L') := by
  refine ⟨h.1, h.2.1, fun q hq => ?_⟩
  obtain ⟨k, w, h1, rfl⟩ := toAL_mem L' 0 q hq
  exact h.2.2 _ (toAL_get (ad := ad) L 0 k w (leL_get L' L k w hL h1))
/-! what stays: the classes, the nest's links, the text constants -/
def StrOK (ids : List (Nat × Nat)) (ad : Nat × Nat → Nat) (U : State) : Prop := vk_S 7 strLen strByt (fun k => ad (5, k)) (fun k => ad (6, k)) (inA ids ad) U U.heap ∧ (∀ k : Nat, k < 7 → vk_R RX4 (strIdx k) (strTx k) (ad (5, k)) U) ∧ va_Z RJ0 "COMPACT_STRINGS" "Z" (.int 1) (inA ids ad) U U.heap ∧ va_Zq RJ3 "SIOOBE_FORMATTER" "Ljava/util/function/BiFunction;" (inA ids ad) U U.heap
def St (ids : List (Nat × Nat)) (D : va_G) (cI : ClassId) (ad : Nat × Nat → Nat) (U : State) : Prop := va_K D vwCl [(cI, .int)] U ∧ (∀ q ∈ nestL, va_Nw (.methodLinkNest q.1 q.2.1 q.2.2.1 q.2.2.2) U) ∧ StrOK ids ad U ∧ inj ids ad
theorem St.go {ids : List (Nat × Nat)} {D : va_G} {cI : ClassId} {ad : Nat × Nat → Nat} {s U : State} {H : Heap} {locs : List Loc} (h : St ids D cI ad s) (hS : va_S (inA ids ad) s.heap H locs) (hU : U.heap = H) (hW : s.WarmedH U.vm) : St ids D cI ad U := by
  obtain ⟨h1, h2, ⟨h3, h4, h6, h7⟩, h5⟩ := h
  refine ⟨va_K.moved hW.alike h1, fun q hq => va_Nw.warmM hW (h2 q hq), ⟨?_, fun k hk => vk_R.warm hW (h4 k hk), ?_, ?_⟩, h5⟩
  · rw [hU]
    exact vk_S.moved hW.alike (h3.kept hS.2.1)
  · rw [hU]
    exact va_Z.moved hW.alike (h6.kept hS.2.1)
  · rw [hU]
    exact va_Zq.moved hW.alike (h7.kept hS.2.1)
theorem St.same {ids : List (Nat × Nat)} {D : va_G} {cI : ClassId} {ad : Nat × Nat → Nat} {u U : State} (h : St ids D cI ad u) (hh : U.heap = u.heap) (hv : u.vm = U.vm) : St ids D cI ad U := by
  obtain ⟨h1, h2, ⟨h3, h4, h6, h7⟩, h5⟩ := h
  have ha : u.vm.Alike U.vm := by rw [hv]; exact Vm.Alike.refl U.vm
  refine ⟨va_K.moved ha h1, fun q hq => va_Nw.same rfl hv (h2 q hq), ⟨?_, fun k hk => vk_R.same hv.symm (h4 k hk), ?_, ?_⟩, h5⟩
  · rw [hh]
    exact vk_S.moved ha h3
  · rw [hh]
    exact va_Z.moved ha h6
  · rw [hh]
    exact va_Zq.moved ha h7
/-! the judgement: from pc, locals, stack, state the method comes to an end that Φ holds of -/
abbrev MI : Type := ByteArray × Nat × String × Option FieldType × Nat × Nat × (State → (Nat × Nat → Nat) → Prop)
abbrev noX : State → (Nat × Nat → Nat) → Prop := fun _ _ => True
def Fx (M : MI) (ids : List (Nat × Nat)) (p : Program) (R : Room) (s : State) (m : MethodId) (args : Array Value) (c : Code) (cells slots : Nat) (D : va_G) (cI : ClassId) (ad : Nat × Nat → Nat) : Prop :=
  p.tables.exec = Jvm.exec ∧ c.code = M.1 ∧ c.maxLocals = M.2.1 ∧ s.vm.findClass M.2.2.1 = some m.cls ∧ (∀ w ∈ TT, w.before args s = true) ∧ (M.2.2.2.2.1 ≤ R.frames ∧ M.2.2.2.2.2.1 ≤ R.locals ∧ cells ≤ R.cells ∧ slots ≤ R.slots) ∧ St ids D cI ad s ∧ Ndp ids
def retD (M : MI) (pc : Nat) : Option AV → Prop
  | none => M.2.2.2.1 = none ∧ decode M.1 pc = .ok (.return_, 1)
  | some (.inl v) => decode M.1 pc = .ok (.ireturn, 1) ∧ ∃ ty, M.2.2.2.1 = some ty ∧ narrow ty (.int v) = .int v
  | some (.inr (.inl _)) => decode M.1 pc = .ok (.lreturn, 1) ∧ M.2.2.2.1 = some .long
  | some (.inr (.inr _)) => decode M.1 pc = .ok (.areturn, 1) ∧ ∃ n, M.2.2.2.1 = some (.object n)
def RetOK (M : MI) (ids : List (Nat × Nat)) (Φ : Option AV → Sg → Prop) (p : Program) (l : Launch) (e : Env) (R : Room) (s : State) (m : MethodId) (args : Array Value) (below : List Frame) (meth : Method) (c : Code) (cells slots : Nat) (Q : State → Prop) (D : va_G) (cI : ClassId) (ad : Nat × Nat → Nat) : Prop :=
  M.2.2.2.2.2.2 s ad ∧ ∀ (r : Option AV) (σ : Sg) (pc : Nat) (H : Heap) (locs : List Loc) (ls : Array Slot), Φ r σ → retD M pc r → va_P D vwCl (wOf ids cI ad σ) H → va_S (inA ids ad) s.heap H locs → W p l e R s m args below meth c H locs cells slots Q (F0 m pc ls (r.toList.map (tr ad)))
def Aj (M : MI) (ids : List (Nat × Nat)) (Φ : Option AV → Sg → Prop) (pc : Nat) (L : List (Option AV)) (S : List AV) (σ : Sg) : Prop :=
  ∀ (p : Program) (l : Launch) (e : Env) (R : Room) (s : State) (m : MethodId) (args : Array Value) (below : List Frame) (meth : Method) (c : Code) (cells slots : Nat) (Q : State → Prop) (D : va_G) (cI : ClassId) (ad : Nat × Nat → Nat),
    Fx M ids p R s m args c cells slots D cI ad → RetOK M ids Φ p l e R s m args below meth c cells slots Q D cI ad →
    ∀ (H : Heap) (locs : List Loc) (ls : Array Slot), va_P D vwCl (wOf ids cI ad σ) H → va_S (inA ids ad) s.heap H locs → lv_has ls M.2.1 (toAL ad 0 L) →
    W p l e R s m args below meth c H locs cells slots Q (F0 m pc ls (S.map (tr ad)))
/-- one part of a run: from here it comes to there -/
def Tj (M : MI) (ids : List (Nat × Nat)) (pc : Nat) (L : List (Option AV)) (S : List AV) (σ : Sg) (pc' : Nat) (L' : List (Option AV)) (S' : List AV) (σ' : Sg) : Prop :=
  ∀ Φ : Option AV → Sg → Prop, Aj M ids Φ pc' L' S' σ' → Aj M ids Φ pc L S σ
/-- where the pure program o has an answer, the run ends with it -/
def Gj {β : Type} (K : β → Option AV × Sg) (M : MI) (ids : List (Nat × Nat)) (pc : Nat) (L : List (Option AV)) (S : List AV) (σ : Sg) (o : Option β) : Prop :=
  ∀ (Φ : Option AV → Sg → Prop) (x : β), o = some x → Φ (K x).1 (K x).2 → Aj M ids Φ pc L S σ
/-- what a method is owed: from arguments and state to answer and state -/
def rmM (M : MI) : Room := { frames := M.2.2.2.2.1, cells := 0, slots := 0, locals := M.2.2.2.2.2.1 }
def wsM (M : MI) (y : MethodName) : List Cond := .code y M.1 M.2.1 M.2.2.2.1 :: TT
def Mt0 (M : MI) (y : MethodName) (ids : List (Nat × Nat)) (as : List AV) (σ : Sg) (r : Option AV) (σ' : Sg) : Prop :=
  ∀ (l : Launch) (D : va_G) (cI : ClassId) (ad : Nat × Nat → Nat), Met l y (wsM M y) (rmM M) (va_Pc (as.map (tr ad)) (fun U => va_P D vwCl (wOf ids cI ad σ) U.heap ∧ St ids D cI ad U)) (fun _ st o t => o = .returned (r.map (tr ad)) ∧ va_P D vwCl (wOf ids cI ad σ') t.heap ∧ va_F (inA ids ad) st t) 0 0 (inA ids ad)
abbrev kI : Int32 × Sg → Option AV × Sg := fun q => (some (aI q.1), q.2)
abbrev kL : Int64 × Sg → Option AV × Sg := fun q => (some (aL q.1), q.2)
abbrev kV : Unit × Sg → Option AV × Sg := fun q => (none, q.2)
abbrev kR : (Nat × Nat) × Sg → Option AV × Sg := fun q => (some (aR q.1), q.2)
section GG
variable {β : Type} {K : β → Option AV × Sg} {M : MI} {ids : List (Nat × Nat)} {pc pc' pc'' : Nat} {L L' L'' : List (Option AV)} {S S' S'' : List AV} {σ σ' σ'' : Sg} {o o1 o2 : Option β}
theorem Tj.rf : Tj M ids pc L S σ pc L S σ := fun _ h => h
theorem Tj.tr (h : Tj M ids pc L S σ pc' L' S' σ') (k : Tj M ids pc' L' S' σ' pc'' L'' S'' σ'') : Tj M ids pc L S σ pc'' L'' S'' σ'' := fun Φ h1 => h Φ (k Φ h1)
theorem Tj.dia {c : Prop} {dc : Decidable c} {a b : Int32} (h1 : c → Tj M ids pc L S σ pc' L' (aI a :: S') σ') (h2 : ¬ c → Tj M ids pc L S σ pc' L' (aI b :: S') σ') : Tj M ids pc L S σ pc' L' (aI (@ite _ c dc a b) :: S') σ' := by
  by_cases h : c
  · rw [if_pos h]; exact h1 h
  · rw [if_neg h]; exact h2 h
theorem Tj.diaL {c : Prop} {dc : Decidable c} {a b : Int64} (h1 : c → Tj M ids pc L S σ pc' L' (aL a :: S') σ') (h2 : ¬ c → Tj M ids pc L S σ pc' L' (aL b :: S') σ') : Tj M ids pc L S σ pc' L' (aL (@ite _ c dc a b) :: S') σ' := by
  by_cases h : c
  · rw [if_pos h]; exact h1 h
  · rw [if_neg h]; exact h2 h
theorem G_st (h : Tj M ids pc L S σ pc' L' S' σ') (k : Gj K M ids pc' L' S' σ' o) : Gj K M ids pc L S σ o := fun Φ x h1 h2 => h Φ (k Φ x h1 h2)
theorem G_ite {c : Prop} {dc : Decidable c} (h1 : c → Gj K M ids pc L S σ o1) (h2 : ¬ c → Gj K M ids pc L S σ o2) : Gj K M ids pc L S σ (@ite _ c dc o1 o2) := by
  by_cases h : c
  · rw [if_pos h]; exact h1 h
  · rw [if_neg h]; exact h2 h
end GG
theorem cat_map (ad : Nat × Nat → Nat) (S : List AV) : ((S.map (tr ad)).map fun v => v.category) = S.map acat := by
  rw [List.map_map]
  exact List.map_congr_left (fun v _ => tr_cat ad v)
section TT1
variable {M : MI} {ids : List (Nat × Nat)} {pc : Nat} {L : List (Option AV)} {S : List AV} {σ : Sg}
theorem x_iconst {n : Int} (v : Int32) (hd : decode M.1 pc = .ok (.iconst n, 1)) (hv : Int32.ofInt n = v) : Tj M ids pc L S σ (pc + 1) L (aI v :: S) σ := by
  intro Φ hA p l e R s m args below meth c cells slots Q D cI ad hF hR H locs ls hP hS hl
  obtain ⟨hx, hb, hml, hown, hts, hroom, hSt, hn⟩ := id hF
  exact lv_iconst hx hb hd hv (hA p l e R s m args below meth c cells slots Q D cI ad hF hR H locs ls hP hS hl)

theorem x_bipush {n : Int} (v : Int32) (hd : decode M.1 pc = .ok (.bipush n, 2)) (hv : (Int8.ofInt n).toInt32 = v) : Tj M ids pc L S σ (pc + 2) L (aI v :: S) σ := by
  intro Φ hA p l e R s m args below meth c cells slots Q D cI ad hF hR H locs ls hP hS hl
  obtain ⟨hx, hb, hml, hown, hts, hroom, hSt, hn⟩ := id hF
  exact lv_bipush hx hb hd hv (hA p l e R s m args below meth c cells slots Q D cI ad hF hR H locs ls hP hS hl)

theorem x_sipush {n : Int} (v : Int32) (hd : decode M.1 pc = .ok (.sipush n, 3)) (hv : (Int16.ofInt n).toInt32 = v) : Tj M ids pc L S σ (pc + 3) L (aI v :: S) σ := by
  intro Φ hA p l e R s m args below meth c cells slots Q D cI ad hF hR H locs ls hP hS hl
  obtain ⟨hx, hb, hml, hown, hts, hroom, hSt, hn⟩ := id hF
  exact lv_sipush hx hb hd hv (hA p l e R s m args below meth c cells slots Q D cI ad hF hR H locs ls hP hS hl)

theorem x_lconst {n : Fin 2} (v : Int64) (hd : decode M.1 pc = .ok (.lconst n, 1)) (hv : Int64.ofNat (n : Nat) = v) : Tj M ids pc L S σ (pc + 1) L (aL v :: S) σ := by
  intro Φ hA p l e R s m args below meth c cells slots Q D cI ad hF hR H locs ls hP hS hl
  obtain ⟨hx, hb, hml, hown, hts, hroom, hSt, hn⟩ := id hF
  exact lv_lconst hx hb hd hv (hA p l e R s m args below meth c cells slots Q D cI ad hF hR H locs ls hP hS hl)

theorem x_ldc {n : Nat} {v : Int32} (hd : decode M.1 pc = .ok (.ldc n, 2)) (hw : Cond.constant M.2.2.1 n v ∈ TT) : Tj M ids pc L S σ (pc + 2) L (aI v :: S) σ := by
  intro Φ hA p l e R s m args below meth c cells slots Q D cI ad hF hR H locs ls hP hS hl
  obtain ⟨hx, hb, hml, hown, hts, hroom, hSt, hn⟩ := id hF
  exact lv_ldc hx hb hown (hts _ hw) hd (hA p l e R s m args below meth c cells slots Q D cI ad hF hR H locs ls hP hS hl)

theorem x_ldcw {n : Nat} {v : Int32} (hd : decode M.1 pc = .ok (.ldc_w n, 3)) (hw : Cond.constant M.2.2.1 n v ∈ TT) : Tj M ids pc L S σ (pc + 3) L (aI v :: S) σ := by
  intro Φ hA p l e R s m args below meth c cells slots Q D cI ad hF hR H locs ls hP hS hl
  obtain ⟨hx, hb, hml, hown, hts, hroom, hSt, hn⟩ := id hF
  exact lv_ldcw hx hb hown (hts _ hw) hd (hA p l e R s m args below meth c cells slots Q D cI ad hF hR H locs ls hP hS hl)

theorem x_ldc2 {n : Nat} {v : Int64} (hd : decode M.1 pc = .ok (.ldc2_w n, 3)) (hw : Cond.constantLong M.2.2.1 n v ∈ TT) : Tj M ids pc L S σ (pc + 3) L (aL v :: S) σ := by
  intro Φ hA p l e R s m args below meth c cells slots Q D cI ad hF hR H locs ls hP hS hl
  obtain ⟨hx, hb, hml, hown, hts, hroom, hSt, hn⟩ := id hF
  exact lv_ldc2 hx hb hown (hts _ hw) hd (hA p l e R s m args below meth c cells slots Q D cI ad hF hR H locs ls hP hS hl)

theorem x_iload_n {k : Fin 4} {x : Int32} (hd : decode M.1 pc = .ok (.iload_n k, 1)) (hk : L[(k : Nat)]? = some (some (aI x))) : Tj M ids pc L S σ (pc + 1) L (aI x :: S) σ := by
  intro Φ hA p l e R s m args below meth c cells slots Q D cI ad hF hR H locs ls hP hS hl
  obtain ⟨hx, hb, hml, hown, hts, hroom, hSt, hn⟩ := id hF
  exact lv_iload_n hx hb hd rfl (lv_atA hl hk) (hA p l e R s m args below meth c cells slots Q D cI ad hF hR H locs ls hP hS hl)

theorem x_iload {k : Nat} {x : Int32} (hd : decode M.1 pc = .ok (.iload k, 2)) (hk : L[k]? = some (some (aI x))) : Tj M ids pc L S σ (pc + 2) L (aI x :: S) σ := by
  intro Φ hA p l e R s m args below meth c cells slots Q D cI ad hF hR H locs ls hP hS hl
  obtain ⟨hx, hb, hml, hown, hts, hroom, hSt, hn⟩ := id hF
  exact lv_iload hx hb hd (lv_atA hl hk) (hA p l e R s m args below meth c cells slots Q D cI ad hF hR H locs ls hP hS hl)

theorem x_lload_n {k : Fin 4} {x : Int64} (hd : decode M.1 pc = .ok (.lload_n k, 1)) (hk : L[(k : Nat)]? = some (some (aL x))) : Tj M ids pc L S σ (pc + 1) L (aL x :: S) σ := by
  intro Φ hA p l e R s m args below meth c cells slots Q D cI ad hF hR H locs ls hP hS hl
  obtain ⟨hx, hb, hml, hown, hts, hroom, hSt, hn⟩ := id hF
  exact lv_lload_n hx hb hd rfl (lv_atA hl hk) (hA p l e R s m args below meth c cells slots Q D cI ad hF hR H locs ls hP hS hl)

theorem x_lload {k : Nat} {x : Int64} (hd : decode M.1 pc = .ok (.lload k, 2)) (hk : L[k]? = some (some (aL x))) : Tj M ids pc L S σ (pc + 2) L (aL x :: S) σ := by
  intro Φ hA p l e R s m args below meth c cells slots Q D cI ad hF hR H locs ls hP hS hl
  obtain ⟨hx, hb, hml, hown, hts, hroom, hSt, hn⟩ := id hF
  exact lv_lload hx hb hd (lv_atA hl hk) (hA p l e R s m args below meth c cells slots Q D cI ad hF hR H locs ls hP hS hl)

theorem x_aload_n {k : Fin 4} {x : Nat × Nat} (hd : decode M.1 pc = .ok (.aload_n k, 1)) (hk : L[(k : Nat)]? = some (some (aR x))) : Tj M ids pc L S σ (pc + 1) L (aR x :: S) σ := by
  intro Φ hA p l e R s m args below meth c cells slots Q D cI ad hF hR H locs ls hP hS hl
  obtain ⟨hx, hb, hml, hown, hts, hroom, hSt, hn⟩ := id hF
  exact lv_aload_n hx hb hd rfl (lv_atA hl hk) (hA p l e R s m args below meth c cells slots Q D cI ad hF hR H locs ls hP hS hl)

theorem x_aload {k : Nat} {x : Nat × Nat} (hd : decode M.1 pc = .ok (.aload k, 2)) (hk : L[k]? = some (some (aR x))) : Tj M ids pc L S σ (pc + 2) L (aR x :: S) σ := by
  intro Φ hA p l e R s m args below meth c cells slots Q D cI ad hF hR H locs ls hP hS hl
  obtain ⟨hx, hb, hml, hown, hts, hroom, hSt, hn⟩ := id hF
  exact lv_aload hx hb hd (lv_atA hl hk) (hA p l e R s m args below meth c cells slots Q D cI ad hF hR H locs ls hP hS hl)

theorem x_istore_n {k : Fin 4} {x : Int32} (L' : List (Option AV)) (hd : decode M.1 pc = .ok (.istore_n k, 1)) (hk : (k : Nat) < M.2.1) (hL : L.set (k : Nat) (some (aI x)) = L') (ho : okS (k : Nat) L = true) : Tj M ids pc L (aI x :: S) σ (pc + 1) L' S σ := by
  intro Φ hA p l e R s m args below meth c cells slots Q D cI ad hF hR H locs ls hP hS hl
  obtain ⟨hx, hb, hml, hown, hts, hroom, hSt, hn⟩ := id hF
  exact lv_istore_n hx hb hd rfl hl hk rfl (fun ls' hl' => hA p l e R s m args below meth c cells slots Q D cI ad hF hR H locs ls' hP hS (lv_setA (v := aI x) hl' hL ho))

theorem x_istore {k : Nat} {x : Int32} (L' : List (Option AV)) (hd : decode M.1 pc = .ok (.istore k, 2)) (hk : k < M.2.1) (hL : L.set k (some (aI x)) = L') (ho : okS k L = true) : Tj M ids pc L (aI x :: S) σ (pc + 2) L' S σ := by
  intro Φ hA p l e R s m args below meth c cells slots Q D cI ad hF hR H locs ls hP hS hl
  obtain ⟨hx, hb, hml, hown, hts, hroom, hSt, hn⟩ := id hF
  exact lv_istore hx hb hd hl hk rfl (fun ls' hl' => hA p l e R s m args below meth c cells slots Q D cI ad hF hR H locs ls' hP hS (lv_setA (v := aI x) hl' hL ho))

theorem x_astore_n {k : Fin 4} {x : Nat × Nat} (L' : List (Option AV)) (hd : decode M.1 pc = .ok (.astore_n k, 1)) (hk : (k : Nat) < M.2.1) (hL : L.set (k : Nat) (some (aR x)) = L') (ho : okS (k : Nat) L = true) : Tj M ids pc L (aR x :: S) σ (pc + 1) L' S σ := by
  intro Φ hA p l e R s m args below meth c cells slots Q D cI ad hF hR H locs ls hP hS hl
  obtain ⟨hx, hb, hml, hown, hts, hroom, hSt, hn⟩ := id hF
  exact lv_astore_n hx hb hd rfl hl hk rfl (fun ls' hl' => hA p l e R s m args below meth c cells slots Q D cI ad hF hR H locs ls' hP hS (lv_setA (v := aR x) hl' hL ho))

theorem x_astore {k : Nat} {x : Nat × Nat} (L' : List (Option AV)) (hd : decode M.1 pc = .ok (.astore k, 2)) (hk : k < M.2.1) (hL : L.set k (some (aR x)) = L') (ho : okS k L = true) : Tj M ids pc L (aR x :: S) σ (pc + 2) L' S σ := by
  intro Φ hA p l e R s m args below meth c cells slots Q D cI ad hF hR H locs ls hP hS hl
  obtain ⟨hx, hb, hml, hown, hts, hroom, hSt, hn⟩ := id hF
  exact lv_astore hx hb hd hl hk rfl (fun ls' hl' => hA p l e R s m args below meth c cells slots Q D cI ad hF hR H locs ls' hP hS (lv_setA (v := aR x) hl' hL ho))

theorem x_iinc {k : Nat} {n : Int} {x : Int32} (v : Int32) (L' : List (Option AV)) (hd : decode M.1 pc = .ok (.iinc k n, 3)) (hk : k < M.2.1) (hx0 : L[k]? = some (some (aI x))) (hv : x + Int32.ofInt n = v) (hL : L.set k (some (aI v)) = L') (ho : okS k L = true) : Tj M ids pc L S σ (pc + 3) L' S σ := by
  intro Φ hA p l e R s m args below meth c cells slots Q D cI ad hF hR H locs ls hP hS hl
  obtain ⟨hx, hb, hml, hown, hts, hroom, hSt, hn⟩ := id hF
  have h1 : (k, tr ad (aI x)) ∈ toAL ad 0 L := by have := toAL_get (ad := ad) L 0 k _ hx0; rwa [Nat.zero_add] at this
  obtain ⟨j, hj⟩ := List.getElem?_of_mem h1
  exact lv_iinc hx hb hd hl hj hv hk rfl (fun ls' hl' => hA p l e R s m args below meth c cells slots Q D cI ad hF hR H locs ls' hP hS (lv_setA (v := aI v) hl' hL ho))

theorem x_iadd {x y : Int32} (hd : decode M.1 pc = .ok (.iadd, 1)) : Tj M ids pc L (aI y :: aI x :: S) σ (pc + 1) L (aI (x + y) :: S) σ := by
  intro Φ hA p l e R s m args below meth c cells slots Q D cI ad hF hR H locs ls hP hS hl
  obtain ⟨hx, hb, hml, hown, hts, hroom, hSt, hn⟩ := id hF
  exact lv_iadd hx hb hd (hA p l e R s m args below meth c cells slots Q D cI ad hF hR H locs ls hP hS hl)

theorem x_isub {x y : Int32} (hd : decode M.1 pc = .ok (.isub, 1)) : Tj M ids pc L (aI y :: aI x :: S) σ (pc + 1) L (aI (x - y) :: S) σ := by
  intro Φ hA p l e R s m args below meth c cells slots Q D cI ad hF hR H locs ls hP hS hl
  obtain ⟨hx, hb, hml, hown, hts, hroom, hSt, hn⟩ := id hF
  exact lv_isub hx hb hd (hA p l e R s m args below meth c cells slots Q D cI ad hF hR H locs ls hP hS hl)

theorem x_imul {x y : Int32} (hd : decode M.1 pc = .ok (.imul, 1)) : Tj M ids pc L (aI y :: aI x :: S) σ (pc + 1) L (aI (x * y) :: S) σ := by
  intro Φ hA p l e R s m args below meth c cells slots Q D cI ad hF hR H locs ls hP hS hl
  obtain ⟨hx, hb, hml, hown, hts, hroom, hSt, hn⟩ := id hF
  exact lv_imul hx hb hd (hA p l e R s m args below meth c cells slots Q D cI ad hF hR H locs ls hP hS hl)

theorem x_iand {x y : Int32} (hd : decode M.1 pc = .ok (.iand, 1)) : Tj M ids pc L (aI y :: aI x :: S) σ (pc + 1) L (aI (x &&& y) :: S) σ := by
  intro Φ hA p l e R s m args below meth c cells slots Q D cI ad hF hR H locs ls hP hS hl
  obtain ⟨hx, hb, hml, hown, hts, hroom, hSt, hn⟩ := id hF
  exact lv_iand hx hb hd (hA p l e R s m args below meth c cells slots Q D cI ad hF hR H locs ls hP hS hl)

theorem x_ior {x y : Int32} (hd : decode M.1 pc = .ok (.ior, 1)) : Tj M ids pc L (aI y :: aI x :: S) σ (pc + 1) L (aI (x ||| y) :: S) σ := by
  intro Φ hA p l e R s m args below meth c cells slots Q D cI ad hF hR H locs ls hP hS hl
  obtain ⟨hx, hb, hml, hown, hts, hroom, hSt, hn⟩ := id hF
  exact lv_ior hx hb hd (hA p l e R s m args below meth c cells slots Q D cI ad hF hR H locs ls hP hS hl)

theorem x_ishl {x y : Int32} (hd : decode M.1 pc = .ok (.ishl, 1)) : Tj M ids pc L (aI y :: aI x :: S) σ (pc + 1) L (aI (x <<< (y &&& 31)) :: S) σ := by
  intro Φ hA p l e R s m args below meth c cells slots Q D cI ad hF hR H locs ls hP hS hl
  obtain ⟨hx, hb, hml, hown, hts, hroom, hSt, hn⟩ := id hF
  exact lv_ishl hx hb hd (hA p l e R s m args below meth c cells slots Q D cI ad hF hR H locs ls hP hS hl)

theorem x_ishr {x y : Int32} (hd : decode M.1 pc = .ok (.ishr, 1)) : Tj M ids pc L (aI y :: aI x :: S) σ (pc + 1) L (aI (x >>> (y &&& 31)) :: S) σ := by
  intro Φ hA p l e R s m args below meth c cells slots Q D cI ad hF hR H locs ls hP hS hl
  obtain ⟨hx, hb, hml, hown, hts, hroom, hSt, hn⟩ := id hF
  exact lv_ishr hx hb hd (hA p l e R s m args below meth c cells slots Q D cI ad hF hR H locs ls hP hS hl)

theorem x_idiv {x y : Int32} (hd : decode M.1 pc = .ok (.idiv, 1)) (h0 : ¬ y = 0) : Tj M ids pc L (aI y :: aI x :: S) σ (pc + 1) L (aI (x / y) :: S) σ := by
  intro Φ hA p l e R s m args below meth c cells slots Q D cI ad hF hR H locs ls hP hS hl
  obtain ⟨hx, hb, hml, hown, hts, hroom, hSt, hn⟩ := id hF
  exact lv_idiv hx hb hd h0 (hA p l e R s m args below meth c cells slots Q D cI ad hF hR H locs ls hP hS hl)

theorem x_irem {x y : Int32} (hd : decode M.1 pc = .ok (.irem, 1)) (h0 : ¬ y = 0) : Tj M ids pc L (aI y :: aI x :: S) σ (pc + 1) L (aI (x - x / y * y) :: S) σ := by
  intro Φ hA p l e R s m args below meth c cells slots Q D cI ad hF hR H locs ls hP hS hl
  obtain ⟨hx, hb, hml, hown, hts, hroom, hSt, hn⟩ := id hF
  exact lv_irem hx hb hd h0 (hA p l e R s m args below meth c cells slots Q D cI ad hF hR H locs ls hP hS hl)

theorem x_ineg {x : Int32} (hd : decode M.1 pc = .ok (.ineg, 1)) : Tj M ids pc L (aI x :: S) σ (pc + 1) L (aI (-x) :: S) σ := by
  intro Φ hA p l e R s m args below meth c cells slots Q D cI ad hF hR H locs ls hP hS hl
  obtain ⟨hx, hb, hml, hown, hts, hroom, hSt, hn⟩ := id hF
  exact lv_ineg hx hb hd (hA p l e R s m args below meth c cells slots Q D cI ad hF hR H locs ls hP hS hl)

theorem x_i2l {x : Int32} (hd : decode M.1 pc = .ok (.i2l, 1)) : Tj M ids pc L (aI x :: S) σ (pc + 1) L (aL x.toInt64 :: S) σ := by
  intro Φ hA p l e R s m args below meth c cells slots Q D cI ad hF hR H locs ls hP hS hl
  obtain ⟨hx, hb, hml, hown, hts, hroom, hSt, hn⟩ := id hF
  exact lv_i2l hx hb hd rfl (hA p l e R s m args below meth c cells slots Q D cI ad hF hR H locs ls hP hS hl)

theorem x_lsub {x y : Int64} (hd : decode M.1 pc = .ok (.lsub, 1)) : Tj M ids pc L (aL y :: aL x :: S) σ (pc + 1) L (aL (x - y) :: S) σ := by
  intro Φ hA p l e R s m args below meth c cells slots Q D cI ad hF hR H locs ls hP hS hl
  obtain ⟨hx, hb, hml, hown, hts, hroom, hSt, hn⟩ := id hF
  exact lv_lsub hx hb hd (hA p l e R s m args below meth c cells slots Q D cI ad hF hR H locs ls hP hS hl)

theorem x_lcmp {x y : Int64} (hd : decode M.1 pc = .ok (.lcmp, 1)) : Tj M ids pc L (aL y :: aL x :: S) σ (pc + 1) L (aI (lg_cmp x y) :: S) σ := by
  intro Φ hA p l e R s m args below meth c cells slots Q D cI ad hF hR H locs ls hP hS hl
  obtain ⟨hx, hb, hml, hown, hts, hroom, hSt, hn⟩ := id hF
  exact W.lcmp hx hb hd (hA p l e R s m args below meth c cells slots Q D cI ad hF hR H locs ls hP hS hl)

theorem x_dup {v : AV} (hd : decode M.1 pc = .ok (.dup, 1)) (hv : acat v = 1) : Tj M ids pc L (v :: S) σ (pc + 1) L (v :: v :: S) σ := by
  intro Φ hA p l e R s m args below meth c cells slots Q D cI ad hF hR H locs ls hP hS hl
  obtain ⟨hx, hb, hml, hown, hts, hroom, hSt, hn⟩ := id hF
  exact lv_dup hx hb hd ((tr_cat ad v).trans hv) (hA p l e R s m args below meth c cells slots Q D cI ad hF hR H locs ls hP hS hl)

theorem x_pop {v : AV} (hd : decode M.1 pc = .ok (.pop, 1)) (hv : acat v = 1) : Tj M ids pc L (v :: S) σ (pc + 1) L S σ := by
  intro Φ hA p l e R s m args below meth c cells slots Q D cI ad hF hR H locs ls hP hS hl
  obtain ⟨hx, hb, hml, hown, hts, hroom, hSt, hn⟩ := id hF
  exact lv_pop hx hb hd ((tr_cat ad v).trans hv) (hA p l e R s m args below meth c cells slots Q D cI ad hF hR H locs ls hP hS hl)

theorem x_dup2 {v w : AV} (hd : decode M.1 pc = .ok (.dup2, 1)) (hv : acat v = 1) (hw : acat w = 1) : Tj M ids pc L (v :: w :: S) σ (pc + 1) L (v :: w :: v :: w :: S) σ := by
  intro Φ hA p l e R s m args below meth c cells slots Q D cI ad hF hR H locs ls hP hS hl
  obtain ⟨hx, hb, hml, hown, hts, hroom, hSt, hn⟩ := id hF
  exact lv_dup2_11 hx hb hd ((tr_cat ad v).trans hv) ((tr_cat ad w).trans hw) (hA p l e R s m args below meth c cells slots Q D cI ad hF hR H locs ls hP hS hl)

theorem x_goto {off : Int} {tgt : Nat} (hd : decode M.1 pc = .ok (.goto off, 3)) (ht : (pc : Int) + off = (tgt : Int)) : Tj M ids pc L S σ tgt L S σ := by
  intro Φ hA p l e R s m args below meth c cells slots Q D cI ad hF hR H locs ls hP hS hl
  obtain ⟨hx, hb, hml, hown, hts, hroom, hSt, hn⟩ := id hF
  exact lv_goto hx hb hd ht (hA p l e R s m args below meth c cells slots Q D cI ad hF hR H locs ls hP hS hl)

theorem x_if_eq_t {off : Int} {tgt : Nat} {x : Int32} (hd : decode M.1 pc = .ok (.ifCond .eq off, 3)) (ht : (pc : Int) + off = (tgt : Int)) (hc : x = 0) : Tj M ids pc L (aI x :: S) σ tgt L S σ := by
  intro Φ hA p l e R s m args below meth c cells slots Q D cI ad hF hR H locs ls hP hS hl
  obtain ⟨hx, hb, hml, hown, hts, hroom, hSt, hn⟩ := id hF
  exact lv_if_eq hx hb hd ht (fun _ => (hA p l e R s m args below meth c cells slots Q D cI ad hF hR H locs ls hP hS hl)) (fun h => absurd hc h)

theorem x_if_eq_f {off : Int} (tgt : Nat) {x : Int32} (hd : decode M.1 pc = .ok (.ifCond .eq off, 3)) (ht : (pc : Int) + off = (tgt : Int)) (hc : ¬ x = 0) : Tj M ids pc L (aI x :: S) σ (pc + 3) L S σ := by
  intro Φ hA p l e R s m args below meth c cells slots Q D cI ad hF hR H locs ls hP hS hl
  obtain ⟨hx, hb, hml, hown, hts, hroom, hSt, hn⟩ := id hF
  exact lv_if_eq hx hb hd ht (fun h => absurd h hc) (fun _ => (hA p l e R s m args below meth c cells slots Q D cI ad hF hR H locs ls hP hS hl))

theorem x_icmp_eq_t {off : Int} {tgt : Nat} {x y : Int32} (hd : decode M.1 pc = .ok (.if_icmp .eq off, 3)) (ht : (pc : Int) + off = (tgt : Int)) (hc : x = y) : Tj M ids pc L (aI y :: aI x :: S) σ tgt L S σ := by
  intro Φ hA p l e R s m args below meth c cells slots Q D cI ad hF hR H locs ls hP hS hl
  obtain ⟨hx, hb, hml, hown, hts, hroom, hSt, hn⟩ := id hF
  exact lv_icmp_eq hx hb hd ht (fun _ => (hA p l e R s m args below meth c cells slots Q D cI ad hF hR H locs ls hP hS hl)) (fun h => absurd hc h)

theorem x_icmp_eq_f {off : Int} (tgt : Nat) {x y : Int32} (hd : decode M.1 pc = .ok (.if_icmp .eq off, 3)) (ht : (pc : Int) + off = (tgt : Int)) (hc : ¬ x = y) : Tj M ids pc L (aI y :: aI x :: S) σ (pc + 3) L S σ := by
  intro Φ hA p l e R s m args below meth c cells slots Q D cI ad hF hR H locs ls hP hS hl
  obtain ⟨hx, hb, hml, hown, hts, hroom, hSt, hn⟩ := id hF
  exact lv_icmp_eq hx hb hd ht (fun h => absurd h hc) (fun _ => (hA p l e R s m args below meth c cells slots Q D cI ad hF hR H locs ls hP hS hl))

theorem x_if_ne_t {off : Int} {tgt : Nat} {x : Int32} (hd : decode M.1 pc = .ok (.ifCond .ne off, 3)) (ht : (pc : Int) + off = (tgt : Int)) (hc : ¬ x = 0) : Tj M ids pc L (aI x :: S) σ tgt L S σ := by
  intro Φ hA p l e R s m args below meth c cells slots Q D cI ad hF hR H locs ls hP hS hl
  obtain ⟨hx, hb, hml, hown, hts, hroom, hSt, hn⟩ := id hF
  exact lv_if_ne hx hb hd ht (fun _ => (hA p l e R s m args below meth c cells slots Q D cI ad hF hR H locs ls hP hS hl)) (fun h => absurd h hc)

theorem x_if_ne_f {off : Int} (tgt : Nat) {x : Int32} (hd : decode M.1 pc = .ok (.ifCond .ne off, 3)) (ht : (pc : Int) + off = (tgt : Int)) (hc : x = 0) : Tj M ids pc L (aI x :: S) σ (pc + 3) L S σ := by
  intro Φ hA p l e R s m args below meth c cells slots Q D cI ad hF hR H locs ls hP hS hl
  obtain ⟨hx, hb, hml, hown, hts, hroom, hSt, hn⟩ := id hF
  exact lv_if_ne hx hb hd ht (fun h => absurd hc h) (fun _ => (hA p l e R s m args below meth c cells slots Q D cI ad hF hR H locs ls hP hS hl))

theorem x_icmp_ne_t {off : Int} {tgt : Nat} {x y : Int32} (hd : decode M.1 pc = .ok (.if_icmp .ne off, 3)) (ht : (pc : Int) + off = (tgt : Int)) (hc : ¬ x = y) : Tj M ids pc L (aI y :: aI x :: S) σ tgt L S σ := by
  intro Φ hA p l e R s m args below meth c cells slots Q D cI ad hF hR H locs ls hP hS hl
  obtain ⟨hx, hb, hml, hown, hts, hroom, hSt, hn⟩ := id hF
  exact lv_icmp_ne hx hb hd ht (fun _ => (hA p l e R s m args below meth c cells slots Q D cI ad hF hR H locs ls hP hS hl)) (fun h => absurd h hc)

theorem x_icmp_ne_f {off : Int} (tgt : Nat) {x y : Int32} (hd : decode M.1 pc = .ok (.if_icmp .ne off, 3)) (ht : (pc : Int) + off = (tgt : Int)) (hc : x = y) : Tj M ids pc L (aI y :: aI x :: S) σ (pc + 3) L S σ := by
  intro Φ hA p l e R s m args below meth c cells slots Q D cI ad hF hR H locs ls hP hS hl
  obtain ⟨hx, hb, hml, hown, hts, hroom, hSt, hn⟩ := id hF
  exact lv_icmp_ne hx hb hd ht (fun h => absurd hc h) (fun _ => (hA p l e R s m args below meth c cells slots Q D cI ad hF hR H locs ls hP hS hl))

theorem x_if_lt_t {off : Int} {tgt : Nat} {x : Int32} (hd : decode M.1 pc = .ok (.ifCond .lt off, 3)) (ht : (pc : Int) + off = (tgt : Int)) (hc : x < 0) : Tj M ids pc L (aI x :: S) σ tgt L S σ := by
  intro Φ hA p l e R s m args below meth c cells slots Q D cI ad hF hR H locs ls hP hS hl
  obtain ⟨hx, hb, hml, hown, hts, hroom, hSt, hn⟩ := id hF
  exact lv_if_lt hx hb hd ht (fun _ => (hA p l e R s m args below meth c cells slots Q D cI ad hF hR H locs ls hP hS hl)) (fun h => absurd hc h)

theorem x_if_lt_f {off : Int} (tgt : Nat) {x : Int32} (hd : decode M.1 pc = .ok (.ifCond .lt off, 3)) (ht : (pc : Int) + off = (tgt : Int)) (hc : ¬ x < 0) : Tj M ids pc L (aI x :: S) σ (pc + 3) L S σ := by
  intro Φ hA p l e R s m args below meth c cells slots Q D cI ad hF hR H locs ls hP hS hl
  obtain ⟨hx, hb, hml, hown, hts, hroom, hSt, hn⟩ := id hF
  exact lv_if_lt hx hb hd ht (fun h => absurd h hc) (fun _ => (hA p l e R s m args below meth c cells slots Q D cI ad hF hR H locs ls hP hS hl))

theorem x_icmp_lt_t {off : Int} {tgt : Nat} {x y : Int32} (hd : decode M.1 pc = .ok (.if_icmp .lt off, 3)) (ht : (pc : Int) + off = (tgt : Int)) (hc : x < y) : Tj M ids pc L (aI y :: aI x :: S) σ tgt L S σ := by
  intro Φ hA p l e R s m args below meth c cells slots Q D cI ad hF hR H locs ls hP hS hl
  obtain ⟨hx, hb, hml, hown, hts, hroom, hSt, hn⟩ := id hF
  exact lv_icmp_lt hx hb hd ht (fun _ => (hA p l e R s m args below meth c cells slots Q D cI ad hF hR H locs ls hP hS hl)) (fun h => absurd hc h)

theorem x_icmp_lt_f {off : Int} (tgt : Nat) {x y : Int32} (hd : decode M.1 pc = .ok (.if_icmp .lt off, 3)) (ht : (pc : Int) + off = (tgt : Int)) (hc : ¬ x < y) : Tj M ids pc L (aI y :: aI x :: S) σ (pc + 3) L S σ := by
  intro Φ hA p l e R s m args below meth c cells slots Q D cI ad hF hR H locs ls hP hS hl
  obtain ⟨hx, hb, hml, hown, hts, hroom, hSt, hn⟩ := id hF
  exact lv_icmp_lt hx hb hd ht (fun h => absurd h hc) (fun _ => (hA p l e R s m args below meth c cells slots Q D cI ad hF hR H locs ls hP hS hl))

theorem x_if_ge_t {off : Int} {tgt : Nat} {x : Int32} (hd : decode M.1 pc = .ok (.ifCond .ge off, 3)) (ht : (pc : Int) + off = (tgt : Int)) (hc : 0 ≤ x) : Tj M ids pc L (aI x :: S) σ tgt L S σ := by
  intro Φ hA p l e R s m args below meth c cells slots Q D cI ad hF hR H locs ls hP hS hl
  obtain ⟨hx, hb, hml, hown, hts, hroom, hSt, hn⟩ := id hF
  exact lv_if_ge hx hb hd ht (fun _ => (hA p l e R s m args below meth c cells slots Q D cI ad hF hR H locs ls hP hS hl)) (fun h => absurd hc h)

theorem x_if_ge_f {off : Int} (tgt : Nat) {x : Int32} (hd : decode M.1 pc = .ok (.ifCond .ge off, 3)) (ht : (pc : Int) + off = (tgt : Int)) (hc : ¬ 0 ≤ x) : Tj M ids pc L (aI x :: S) σ (pc + 3) L S σ := by
  intro Φ hA p l e R s m args below meth c cells slots Q D cI ad hF hR H locs ls hP hS hl
  obtain ⟨hx, hb, hml, hown, hts, hroom, hSt, hn⟩ := id hF
  exact lv_if_ge hx hb hd ht (fun h => absurd h hc) (fun _ => (hA p l e R s m args below meth c cells slots Q D cI ad hF hR H locs ls hP hS hl))

theorem x_icmp_ge_t {off : Int} {tgt : Nat} {x y : Int32} (hd : decode M.1 pc = .ok (.if_icmp .ge off, 3)) (ht : (pc : Int) + off = (tgt : Int)) (hc : y ≤ x) : Tj M ids pc L (aI y :: aI x :: S) σ tgt L S σ := by
  intro Φ hA p l e R s m args below meth c cells slots Q D cI ad hF hR H locs ls hP hS hl
  obtain ⟨hx, hb, hml, hown, hts, hroom, hSt, hn⟩ := id hF
  exact lv_icmp_ge hx hb hd ht (fun _ => (hA p l e R s m args below meth c cells slots Q D cI ad hF hR H locs ls hP hS hl)) (fun h => absurd hc h)

theorem x_icmp_ge_f {off : Int} (tgt : Nat) {x y : Int32} (hd : decode M.1 pc = .ok (.if_icmp .ge off, 3)) (ht : (pc : Int) + off = (tgt : Int)) (hc : ¬ y ≤ x) : Tj M ids pc L (aI y :: aI x :: S) σ (pc + 3) L S σ := by
  intro Φ hA p l e R s m args below meth c cells slots Q D cI ad hF hR H locs ls hP hS hl
  obtain ⟨hx, hb, hml, hown, hts, hroom, hSt, hn⟩ := id hF
  exact lv_icmp_ge hx hb hd ht (fun h => absurd h hc) (fun _ => (hA p l e R s m args below meth c cells slots Q D cI ad hF hR H locs ls hP hS hl))

theorem x_if_gt_t {off : Int} {tgt : Nat} {x : Int32} (hd : decode M.1 pc = .ok (.ifCond .gt off, 3)) (ht : (pc : Int) + off = (tgt : Int)) (hc : 0 < x) : Tj M ids pc L (aI x :: S) σ tgt L S σ := by
  intro Φ hA p l e R s m args below meth c cells slots Q D cI ad hF hR H locs ls hP hS hl
  obtain ⟨hx, hb, hml, hown, hts, hroom, hSt, hn⟩ := id hF
  exact lv_if_gt hx hb hd ht (fun _ => (hA p l e R s m args below meth c cells slots Q D cI ad hF hR H locs ls hP hS hl)) (fun h => absurd hc h)

theorem x_if_gt_f {off : Int} (tgt : Nat) {x : Int32} (hd : decode M.1 pc = .ok (.ifCond .gt off, 3)) (ht : (pc : Int) + off = (tgt : Int)) (hc : ¬ 0 < x) : Tj M ids pc L (aI x :: S) σ (pc + 3) L S σ := by
  intro Φ hA p l e R s m args below meth c cells slots Q D cI ad hF hR H locs ls hP hS hl
  obtain ⟨hx, hb, hml, hown, hts, hroom, hSt, hn⟩ := id hF
  exact lv_if_gt hx hb hd ht (fun h => absurd h hc) (fun _ => (hA p l e R s m args below meth c cells slots Q D cI ad hF hR H locs ls hP hS hl))

theorem x_icmp_gt_t {off : Int} {tgt : Nat} {x y : Int32} (hd : decode M.1 pc = .ok (.if_icmp .gt off, 3)) (ht : (pc : Int) + off = (tgt : Int)) (hc : y < x) : Tj M ids pc L (aI y :: aI x :: S) σ tgt L S σ := by
  intro Φ hA p l e R s m args below meth c cells slots Q D cI ad hF hR H locs ls hP hS hl
  obtain ⟨hx, hb, hml, hown, hts, hroom, hSt, hn⟩ := id hF
  exact lv_icmp_gt hx hb hd ht (fun _ => (hA p l e R s m args below meth c cells slots Q D cI ad hF hR H locs ls hP hS hl)) (fun h => absurd hc h)

theorem x_icmp_gt_f {off : Int} (tgt : Nat) {x y : Int32} (hd : decode M.1 pc = .ok (.if_icmp .gt off, 3)) (ht : (pc : Int) + off = (tgt : Int)) (hc : ¬ y < x) : Tj M ids pc L (aI y :: aI x :: S) σ (pc + 3) L S σ := by
  intro Φ hA p l e R s m args below meth c cells slots Q D cI ad hF hR H locs ls hP hS hl
  obtain ⟨hx, hb, hml, hown, hts, hroom, hSt, hn⟩ := id hF
  exact lv_icmp_gt hx hb hd ht (fun h => absurd h hc) (fun _ => (hA p l e R s m args below meth c cells slots Q D cI ad hF hR H locs ls hP hS hl))

theorem x_if_le_t {off : Int} {tgt : Nat} {x : Int32} (hd : decode M.1 pc = .ok (.ifCond .le off, 3)) (ht : (pc : Int) + off = (tgt : Int)) (hc : x ≤ 0) : Tj M ids pc L (aI x :: S) σ tgt L S σ := by
  intro Φ hA p l e R s m args below meth c cells slots Q D cI ad hF hR H locs ls hP hS hl
  obtain ⟨hx, hb, hml, hown, hts, hroom, hSt, hn⟩ := id hF
  exact lv_if_le hx hb hd ht (fun _ => (hA p l e R s m args below meth c cells slots Q D cI ad hF hR H locs ls hP hS hl)) (fun h => absurd hc h)

theorem x_if_le_f {off : Int} (tgt : Nat) {x : Int32} (hd : decode M.1 pc = .ok (.ifCond .le off, 3)) (ht : (pc : Int) + off = (tgt : Int)) (hc : ¬ x ≤ 0) : Tj M ids pc L (aI x :: S) σ (pc + 3) L S σ := by
  intro Φ hA p l e R s m args below meth c cells slots Q D cI ad hF hR H locs ls hP hS hl
  obtain ⟨hx, hb, hml, hown, hts, hroom, hSt, hn⟩ := id hF
  exact lv_if_le hx hb hd ht (fun h => absurd h hc) (fun _ => (hA p l e R s m args below meth c cells slots Q D cI ad hF hR H locs ls hP hS hl))

theorem x_icmp_le_t {off : Int} {tgt : Nat} {x y : Int32} (hd : decode M.1 pc = .ok (.if_icmp .le off, 3)) (ht : (pc : Int) + off = (tgt : Int)) (hc : x ≤ y) : Tj M ids pc L (aI y :: aI x :: S) σ tgt L S σ := by
  intro Φ hA p l e R s m args below meth c cells slots Q D cI ad hF hR H locs ls hP hS hl
  obtain ⟨hx, hb, hml, hown, hts, hroom, hSt, hn⟩ := id hF
  exact lv_icmp_le hx hb hd ht (fun _ => (hA p l e R s m args below meth c cells slots Q D cI ad hF hR H locs ls hP hS hl)) (fun h => absurd hc h)

theorem x_icmp_le_f {off : Int} (tgt : Nat) {x y : Int32} (hd : decode M.1 pc = .ok (.if_icmp .le off, 3)) (ht : (pc : Int) + off = (tgt : Int)) (hc : ¬ x ≤ y) : Tj M ids pc L (aI y :: aI x :: S) σ (pc + 3) L S σ := by
  intro Φ hA p l e R s m args below meth c cells slots Q D cI ad hF hR H locs ls hP hS hl
  obtain ⟨hx, hb, hml, hown, hts, hroom, hSt, hn⟩ := id hF
  exact lv_icmp_le hx hb hd ht (fun h => absurd h hc) (fun _ => (hA p l e R s m args below meth c cells slots Q D cI ad hF hR H locs ls hP hS hl))

theorem x_tabIn {dflt lo hi : Int} {offs : Array Int} {len : Nat} {x : Int32} {off : Int} {tgt : Nat} (z : Int32) (hd : decode M.1 pc = .ok (.tableswitch dflt lo hi offs, len)) (hz : x = z) (h1 : ¬ z.toInt < lo) (h2 : ¬ hi < z.toInt) (ho : offs[(z.toInt - lo).toNat]? = some off) (ht : (pc : Int) + off = (tgt : Int)) : Tj M ids pc L (aI x :: S) σ tgt L S σ := by
  subst hz
  intro Φ hA p l e R s m args below meth c cells slots Q D cI ad hF hR H locs ls hP hS hl
  obtain ⟨hx, hb, hml, hown, hts, hroom, hSt, hn⟩ := id hF
  exact lv_tableIn hx hb hd h1 h2 ho ht (hA p l e R s m args below meth c cells slots Q D cI ad hF hR H locs ls hP hS hl)

theorem x_tabOut {dflt lo hi : Int} {offs : Array Int} {len : Nat} {x : Int32} {tgt : Nat} (hd : decode M.1 pc = .ok (.tableswitch dflt lo hi offs, len)) (h : x.toInt < lo ∨ hi < x.toInt) (ht : (pc : Int) + dflt = (tgt : Int)) : Tj M ids pc L (aI x :: S) σ tgt L S σ := by
  intro Φ hA p l e R s m args below meth c cells slots Q D cI ad hF hR H locs ls hP hS hl
  obtain ⟨hx, hb, hml, hown, hts, hroom, hSt, hn⟩ := id hF
  exact lv_tableOut hx hb hd h ht (hA p l e R s m args below meth c cells slots Q D cI ad hF hR H locs ls hP hS hl)

theorem x_look {dflt : Int} {ps : Array (Int × Int)} {len : Nat} {x : Int32} {off : Int} {tgt : Nat} (hd : decode M.1 pc = .ok (.lookupswitch dflt ps, len)) (hp : (ps.toList.zip (ps.toList.drop 1)).all (fun (a, next) => a.1 < next.1) = true) (ho : Op.lookupswitch.offset ps.toList dflt x.toInt = off) (ht : (pc : Int) + off = (tgt : Int)) : Tj M ids pc L (aI x :: S) σ tgt L S σ := by
  intro Φ hA p l e R s m args below meth c cells slots Q D cI ad hF hR H locs ls hP hS hl
  obtain ⟨hx, hb, hml, hown, hts, hroom, hSt, hn⟩ := id hF
  exact lv_lookup hx hb hd hp ho ht (hA p l e R s m args below meth c cells slots Q D cI ad hF hR H locs ls hP hS hl)

theorem x_get {i : Nat × Nat} {idx ci k N : Nat} {C : String} {T : u_T} (v : AV) (hd : decode M.1 pc = .ok (.getfield idx, 3)) (hi : i ∈ ids) (hc : ly_len i.2 = none) (hcl : ly_cls i.2 = ci) (hN : ly_n i.2 = N) (hv : vwCl[ci]? = some (C, T, N)) (hin : ∀ w ∈ u_ws C T N, w ∈ TT) (hk : k < N) (hw : Cond.fieldLink M.2.2.1 idx (T k).1 (T k).2.1 (T k).2.2.1 ∈ TT) (ha : ∀ ad, ly_v ad σ i k = tr ad v) : Tj M ids pc L (aR i :: S) σ (pc + 3) L (v :: S) σ := by
  intro Φ hA p l e R s m args below meth c cells slots Q D cI ad hF hR H locs ls hP hS hl
  obtain ⟨hx, hb, hml, hown, hts, hroom, hSt, hn⟩ := id hF
  obtain ⟨q0, h1, h2⟩ := w_at cI ad σ hi
  have h3 : cont cI ad σ i = .inr (ci, (List.range N).map (ly_v ad σ i)) := by unfold cont; rw [hc, hcl, hN]
  rw [h3] at h2
  exact va_get (v := tr ad v) hx hb hts hin hown hSt.1 hP q0 h2 hv k hk (hts _ hw) (fun _ h => h) (by rw [List.getElem?_map, List.getElem?_range hk]; exact congrArg some (ha ad)) hd (hA p l e R s m args below meth c cells slots Q D cI ad hF hR H locs ls hP hS hl)

theorem x_put {i : Nat × Nat} {idx ci k N : Nat} {C : String} {T : u_T} {ty0 : Nat → FieldType} {ty : FieldType} {v : AV} {z : Int32} (σ' : Sg) (hd : decode M.1 pc = .ok (.putfield idx, 3)) (hi : i ∈ ids) (hc : ly_len i.2 = none) (hcl : ly_cls i.2 = ci) (hN : ly_n i.2 = N) (hv : vwCl[ci]? = some (C, T, N)) (hin : ∀ w ∈ u_ws C T N, w ∈ TT) (hty : ∀ k, k < N → parseFieldDescriptor (T k).2.2.1 = some (ty0 k)) (hnm : ∀ a, a < N → ∀ b, b < N → a ≠ b → (T a).2.1 ≠ (T b).2.1) (hk : k < N) (hw : Cond.fieldLink M.2.2.1 idx (T k).1 (T k).2.1 (T k).2.2.1 ∈ TT) (hfin : (T k).2.2.2 = false) (hpf : parseFieldDescriptor (T k).2.2.1 = some ty) (hnar : ∀ ad, narrow ty (tr ad v) = tr ad v) (hfit : ∀ ad, fits ty (tr ad v) = true) (ha : ∀ ad, ly_v ad (upS σ i k z) i k = tr ad v) (hσ : upS σ i k z = σ') : Tj M ids pc L (v :: aR i :: S) σ (pc + 3) L S σ' := by
  subst hσ
  intro Φ hA p l e R s m args below meth c cells slots Q D cI ad hF hR H locs ls hP hS hl
  obtain ⟨hx, hb, hml, hown, hts, hroom, hSt, hn⟩ := id hF
  obtain ⟨q0, h1, h2⟩ := w_at cI ad σ hi
  have h3 : ∀ τ : Sg, cont cI ad τ i = .inr (ci, (List.range N).map (ly_v ad τ i)) := fun τ => by unfold cont; rw [hc, hcl, hN]
  rw [h3] at h2
  have e9 : ((List.range N).map (ly_v ad σ i)).set k (tr ad v) = (List.range N).map (ly_v ad (upS σ i k z) i) := by
    apply List.ext_getElem?
    intro n
    by_cases hnk : n = k
    · subst hnk
      rw [List.getElem?_set_self (by rw [List.length_map, List.length_range]; exact hk), List.getElem?_map, List.getElem?_range hk]
      exact congrArg some (ha ad).symm
    · rw [List.getElem?_set_ne (Ne.symm hnk), List.getElem?_map, List.getElem?_map]
      cases hq : (List.range N)[n]? with
      | none => rfl
      | some j =>
        have hj : j = n := by
          have h8 := List.getElem?_eq_some_iff.mp hq
          obtain ⟨h8a, h8b⟩ := h8
          rw [List.getElem_range] at h8b
          exact h8b.symm
        subst hj
        show some (ly_v ad σ i j) = some (ly_v ad (upS σ i k z) i j)
        congr 1
        unfold ly_v upS
        rw [upA_same]
        have h7 : upd (σ i) k z j = σ i j := if_neg hnk
        rw [h7]
  have e8 : (wOf ids cI ad σ).set q0 (ad i, .inr (ci, ((List.range N).map (ly_v ad σ i)).set k (tr ad v))) = wOf ids cI ad (upS σ i k z) := by
    rw [e9, ← h3 (upS σ i k z)]
    exact w_set hn cI ad σ _ h1
  exact va_put hx hb hts hin ty0 hty hnm hown hSt.1 hP (w_D hn hSt.2.2.2 cI σ) hS q0 h2 hv k hk (hts _ hw) (fun _ h => h) hfin hpf (hnar ad) (hfit ad) (by rw [List.length_map, List.length_range]; exact hk) hd (fun H1 locs1 hP1 _ hS1 => hA p l e R s m args below meth c cells slots Q D cI ad hF hR H1 locs1 ls (by rw [← e8]; exact hP1) hS1 hl)

theorem x_iaload {i : Nat × Nat} {n : Nat} {j : Int32} (hd : decode M.1 pc = .ok (.iaload, 1)) (hi : i ∈ ids) (hn0 : ly_len i.2 = some n) (hin : vp_in j n) : Tj M ids pc L (aI j :: aR i :: S) σ (pc + 1) L (aI (σ i j.toNatClampNeg) :: S) σ := by
  intro Φ hA p l e R s m args below meth c cells slots Q D cI ad hF hR H locs ls hP hS hl
  obtain ⟨hx, hb, hml, hown, hts, hroom, hSt, hn⟩ := id hF
  obtain ⟨q0, h1, h2⟩ := w_at cI ad σ hi
  have h3 : cont cI ad σ i = .inl (cI, n, .inl (σ i)) := by unfold cont; rw [hn0]
  rw [h3] at h2
  exact va_iald hx hb hSt.1 hP q0 0 h2 rfl hin hd (hA p l e R s m args below meth c cells slots Q D cI ad hF hR H locs ls hP hS hl)

theorem x_iastore {i : Nat × Nat} {n : Nat} {j x : Int32} (hd : decode M.1 pc = .ok (.iastore, 1)) (hi : i ∈ ids) (hn0 : ly_len i.2 = some n) (hin : vp_in j n) : Tj M ids pc L (aI x :: aI j :: aR i :: S) σ (pc + 1) L S (upS σ i j.toNatClampNeg x) := by
  intro Φ hA p l e R s m args below meth c cells slots Q D cI ad hF hR H locs ls hP hS hl
  obtain ⟨hx, hb, hml, hown, hts, hroom, hSt, hn⟩ := id hF
  obtain ⟨q0, h1, h2⟩ := w_at cI ad σ hi
  have h3 : ∀ τ : Sg, cont cI ad τ i = .inl (cI, n, .inl (τ i)) := fun τ => by unfold cont; rw [hn0]
  rw [h3] at h2
  have e8 : (wOf ids cI ad σ).set q0 (ad i, .inl (cI, n, .inl (upd (σ i) j.toNatClampNeg x))) = wOf ids cI ad (upS σ i j.toNatClampNeg x) := by
    unfold upS
    rw [← w_set hn cI ad σ (upd (σ i) j.toNatClampNeg x) h1, h3, upA_same]
  exact va_iast hx hb hSt.1 hP (w_D hn hSt.2.2.2 cI σ) hS q0 0 h2 rfl hin hd (fun H1 locs1 hP1 _ hS1 => hA p l e R s m args below meth c cells slots Q D cI ad hF hR H1 locs1 ls (by rw [← e8]; exact hP1) hS1 hl)

theorem x_alen {i : Nat × Nat} {n : Nat} {v : Int32} (hd : decode M.1 pc = .ok (.arraylength, 1)) (hi : i ∈ ids) (hn0 : ly_len i.2 = some n) (hv : Int32.ofNat n = v) : Tj M ids pc L (aR i :: S) σ (pc + 1) L (aI v :: S) σ := by
  intro Φ hA p l e R s m args below meth c cells slots Q D cI ad hF hR H locs ls hP hS hl
  obtain ⟨hx, hb, hml, hown, hts, hroom, hSt, hn⟩ := id hF
  obtain ⟨q0, h1, h2⟩ := w_at cI ad σ hi
  have h3 : cont cI ad σ i = .inl (cI, n, .inl (σ i)) := by unfold cont; rw [hn0]
  rw [h3] at h2
  exact va_alen hx hb hSt.1 hP q0 0 h2 rfl hv hd (hA p l e R s m args below meth c cells slots Q D cI ad hF hR H locs ls hP hS hl)

theorem x_mmax {idx : Nat} {x y : Int32} (hd : decode M.1 pc = .ok (.invokestatic idx, 3)) (hw : Cond.methodLink M.2.2.1 idx Lib.Math.max.name ∈ TT) (hw1 : Cond.static Lib.Math.max.name ∈ TT) (hw2 : Cond.initialized "java/lang/Math" ∈ TT) (hw3 : Cond.code Lib.Math.max.name Lib.Math.max.code 2 (some .int) ∈ TT) (hr : 1 ≤ M.2.2.2.2.1 ∧ 21 ≤ M.2.2.2.2.2.1) (hs : (S.map acat).sum ≤ 8) : Tj M ids pc L (aI y :: aI x :: S) σ (pc + 3) L (aI (if x < y then y else x) :: S) σ := by
  intro Φ hA p l e R s m args below meth c cells slots Q D cI ad hF hR H locs ls hP hS hl
  obtain ⟨hx, hb, hml, hown, hts, hroom, hSt, hn⟩ := id hF
  have hs2 : ((S.map (tr ad)).map fun v => v.category).sum ≤ 8 := by rw [cat_map]; exact hs
  exact va_mmax hx hb (hml.trans hl.1.symm) hown (hts _ hw) (hts _ hw1) (hts _ hw2) (hts _ hw3) (Nat.le_trans hr.1 hroom.1) (by have := hr.2; have := hroom.2.1; omega) hroom.2.2.1 hroom.2.2.2 hd (hA p l e R s m args below meth c cells slots Q D cI ad hF hR H locs ls hP hS hl)

theorem x_mmin {idx : Nat} {x y : Int32} (hd : decode M.1 pc = .ok (.invokestatic idx, 3)) (hw : Cond.methodLink M.2.2.1 idx Lib.Math.min.name ∈ TT) (hw1 : Cond.static Lib.Math.min.name ∈ TT) (hw2 : Cond.initialized "java/lang/Math" ∈ TT) (hw3 : Cond.code Lib.Math.min.name Lib.Math.min.code 2 (some .int) ∈ TT) (hr : 1 ≤ M.2.2.2.2.1 ∧ 21 ≤ M.2.2.2.2.2.1) (hs : (S.map acat).sum ≤ 8) : Tj M ids pc L (aI y :: aI x :: S) σ (pc + 3) L (aI (if y < x then y else x) :: S) σ := by
  intro Φ hA p l e R s m args below meth c cells slots Q D cI ad hF hR H locs ls hP hS hl
  obtain ⟨hx, hb, hml, hown, hts, hroom, hSt, hn⟩ := id hF
  have hs2 : ((S.map (tr ad)).map fun v => v.category).sum ≤ 8 := by rw [cat_map]; exact hs
  exact va_mmin hx hb (hml.trans hl.1.symm) hown (hts _ hw) (hts _ hw1) (hts _ hw2) (hts _ hw3) (Nat.le_trans hr.1 hroom.1) (by have := hr.2; have := hroom.2.1; omega) hroom.2.2.1 hroom.2.2.2 hd (hA p l e R s m args below meth c cells slots Q D cI ad hF hR H locs ls hP hS hl)

theorem x_mabs {idx : Nat} {x : Int32} (hd : decode M.1 pc = .ok (.invokestatic idx, 3)) (hw : Cond.methodLink M.2.2.1 idx Lib.Math.abs.name ∈ TT) (hw1 : Cond.static Lib.Math.abs.name ∈ TT) (hw2 : Cond.initialized "java/lang/Math" ∈ TT) (hw3 : Cond.code Lib.Math.abs.name Lib.Math.abs.code 1 (some .int) ∈ TT) (hr : 1 ≤ M.2.2.2.2.1 ∧ 21 ≤ M.2.2.2.2.2.1) (hs : (S.map acat).sum ≤ 8) : Tj M ids pc L (aI x :: S) σ (pc + 3) L (aI (if 0 ≤ x then x else 0 - x) :: S) σ := by
  intro Φ hA p l e R s m args below meth c cells slots Q D cI ad hF hR H locs ls hP hS hl
  obtain ⟨hx, hb, hml, hown, hts, hroom, hSt, hn⟩ := id hF
  have hs2 : ((S.map (tr ad)).map fun v => v.category).sum ≤ 8 := by rw [cat_map]; exact hs
  exact va_mabs hx hb (hml.trans hl.1.symm) hown (hts _ hw) (hts _ hw1) (hts _ hw2) (hts _ hw3) (Nat.le_trans hr.1 hroom.1) (by have := hr.2; have := hroom.2.1; omega) hroom.2.2.1 hroom.2.2.2 hd (hA p l e R s m args below meth c cells slots Q D cI ad hF hR H locs ls hP hS hl)

theorem x_copy {idx : Nat} {i j : Nat × Nat} {n0 n1 : Nat} {sp dp n : Int32} (hd : decode M.1 pc = .ok (.invokestatic idx, 3)) (hw : Cond.methodLink M.2.2.1 idx arraycopyName ∈ TT) (hw1 : Cond.native arraycopyName ∈ TT) (hw2 : Cond.static arraycopyName ∈ TT) (hw3 : Cond.initialized "java/lang/System" ∈ TT) (hi : i ∈ ids) (hj : j ∈ ids) (hn0 : ly_len i.2 = some n0) (hn1 : ly_len j.2 = some n1) (h1 : ¬ sp < 0) (h2 : ¬ dp < 0) (h3 : ¬ n < 0) (h4 : sp.toNatClampNeg + n.toNatClampNeg ≤ n0) (h5 : dp.toNatClampNeg + n.toNatClampNeg ≤ n1) (hr : 1 ≤ M.2.2.2.2.1 ∧ 8 + (nativeFrameWords "java/lang/System" "arraycopy" 5 + 11) ≤ M.2.2.2.2.2.1) (hs : (S.map acat).sum ≤ 8) : Tj M ids pc L (aI n :: aI dp :: aR j :: aI sp :: aR i :: S) σ (pc + 3) L S (upA σ j (va_cpy (σ i) (σ j) sp.toNatClampNeg dp.toNatClampNeg n.toNatClampNeg)) := by
  intro Φ hA p l e R s m args below meth c cells slots Q D cI ad hF hR H locs ls hP hS hl
  obtain ⟨hx, hb, hml, hown, hts, hroom, hSt, hn⟩ := id hF
  have hs2 : ((S.map (tr ad)).map fun v => v.category).sum ≤ 8 := by rw [cat_map]; exact hs
  obtain ⟨q0, g1, g2⟩ := w_at cI ad σ hi
  obtain ⟨q1, g3, g4⟩ := w_at cI ad σ hj
  have e1 : cont cI ad σ i = .inl (cI, n0, .inl (σ i)) := by unfold cont; rw [hn0]
  have e2 : ∀ τ : Sg, cont cI ad τ j = .inl (cI, n1, .inl (τ j)) := fun τ => by unfold cont; rw [hn1]
  rw [e1] at g2
  rw [e2] at g4
  have e8 : (wOf ids cI ad σ).set q1 (ad j, .inl (cI, n1, .inl (va_cpy (σ i) (σ j) sp.toNatClampNeg dp.toNatClampNeg n.toNatClampNeg))) = wOf ids cI ad (upA σ j (va_cpy (σ i) (σ j) sp.toNatClampNeg dp.toNatClampNeg n.toNatClampNeg)) := by
    rw [← w_set hn cI ad σ (va_cpy (σ i) (σ j) sp.toNatClampNeg dp.toNatClampNeg n.toNatClampNeg) g3, e2, upA_same]
  exact va_copyi hx hb (hml.trans hl.1.symm) hown (hts _ hw) (hts _ hw1) (hts _ hw2) (hts _ hw3) hSt.1 hP (w_D hn hSt.2.2.2 cI σ) hS q0 q1 0 0 g2 g4 rfl rfl rfl h1 h2 h3 h4 h5 (fun _ _ => rfl) (Nat.le_trans hr.1 hroom.1) (by have := hr.2; have := hroom.2.1; omega) hd (fun H1 locs1 hP1 _ hS1 => hA p l e R s m args below meth c cells slots Q D cI ad hF hR H1 locs1 ls (by rw [← e8]; exact hP1) hS1 hl)

end TT1
def chk {β : Type} (c : Prop) [Decidable c] (o : Option β) : Option β := if c then o else none
def bd {α β : Type} (o : Option (α × Sg)) (k : α → Sg → Option β) : Option β := match o with
  | some q => k q.1 q.2
  | none => none
def bv {α β : Type} (a : α) (k : α → Option β) : Option β := k a
def alen (i : Nat × Nat) : Nat := (ly_len i.2).getD 0
abbrev inb (j : Int32) (n : Nat) : Prop := ¬ (j < 0 ∨ n ≤ j.toNatClampNeg)
def dynId (z : Int32) : Nat × Nat := if z = 1 then (0, ly_kept) else (0, ly_imaged)
def InR (ids : List (Nat × Nat)) (h a b : Nat) : Prop := ∀ m, a ≤ m → m ≤ b → (h, m) ∈ ids
theorem InR.sub {ids : List (Nat × Nat)} {h a b a' b' : Nat} (H : InR ids h a b) (h1 : a ≤ a') (h2 : b' ≤ b) : InR ids h a' b' := fun m x y => H m (Nat.le_trans h1 x) (Nat.le_trans y h2)
theorem dyn_len {z : Int32} : ly_len (dynId z).2 = some 810 := by unfold dynId; split <;> rfl
theorem dyn_in {ids : List (Nat × Nat)} {z : Int32} (h1 : (0, ly_kept) ∈ ids) (h2 : (0, ly_imaged) ∈ ids) : dynId z ∈ ids := by unfold dynId; split <;> assumption
theorem dyn_v {z : Int32} (h : z = 1 ∨ z = 2) (ad : Nat × Nat → Nat) : va_rf ((ly_dyn z).map ad) = tr ad (aR (dynId z)) := by
  unfold dynId ly_dyn
  by_cases h1 : z = 1
  · rw [if_pos h1, if_pos h1]; rfl
  · have h2 : z = 2 := h.resolve_left h1
    rw [if_neg h1, if_neg h1, if_pos h2]; rfl
theorem put_i0 (ad : Nat × Nat → Nat) (σ : Sg) (i : Nat × Nat) (k : Nat) (z : Int32) (h : ly_f i k = .inl 0) : ly_v ad (upS σ i k z) i k = tr ad (aI z) := by
  unfold ly_v upS
  rw [h, upA_same]
  show Value.int (upd (σ i) k z k) = Value.int z
  unfold upd
  rw [if_pos rfl]
theorem put_i1 (ad : Nat × Nat → Nat) (σ : Sg) (i : Nat × Nat) (k : Nat) (z : Int32) (h : ly_f i k = .inl 1) : ly_v ad (upS σ i k z) i k = tr ad (aI z) := by
  unfold ly_v upS
  rw [h, upA_same]
  show Value.int (upd (σ i) k z k) = Value.int z
  unfold upd
  rw [if_pos rfl]
theorem put_dyn {i : Nat × Nat} (h : i = (0, ly_kept) ∨ i = (0, ly_imaged)) (ad : Nat × Nat → Nat) (σ : Sg) {j : Nat × Nat} {k : Nat} (hf : ly_f j k = .inl 2) : ly_v ad (upS σ j k (if i = (0, ly_kept) then (1 : Int32) else 2)) j k = tr ad (aR i) := by
  unfold ly_v upS
  rw [hf, upA_same]
  unfold upd
  rw [if_pos rfl]
  rcases h with rfl | rfl <;> rfl
theorem cp_le {a b : Nat} (h : a ≤ b) : (0 : Int32).toNatClampNeg + a ≤ b := by
  show 0 + a ≤ b
  omega
abbrev jmax (x y : Int32) : Int32 := if x < y then y else x
abbrev jmin (x y : Int32) : Int32 := if y < x then y else x
abbrev jabs (x : Int32) : Int32 := if 0 ≤ x then x else 0 - x
def fuel : Nat := 2000
theorem leL_e (t : List (Option AV)) : leL [] t := trivial
theorem leL_s {v : AV} {t t' : List (Option AV)} (h : leL t t') : leL (some v :: t) (some v :: t') := ⟨rfl, h⟩
theorem leL_n {x : Option AV} {t t' : List (Option AV)} (h : leL t t') : leL (none :: t) (x :: t') := h
theorem nar_b {v : Int32} (h : v = 0 ∨ v = 1) : narrow .boolean (.int v) = .int v := by rcases h with rfl | rfl <;> rfl
theorem fit_b {v : Int32} (h : v = 0 ∨ v = 1) : fits .boolean (.int v) = true := by rcases h with rfl | rfl <;> rfl
theorem b_ite {c : Prop} {dc : Decidable c} {a b : Int32} (h1 : a = 0 ∨ a = 1) (h2 : b = 0 ∨ b = 1) : @ite _ c dc a b = 0 ∨ @ite _ c dc a b = 1 := by
  split
  · exact h1
  · exact h2
section GG2
variable {β α : Type} {K : β → Option AV × Sg} {M Mc : MI} {ids : List (Nat × Nat)} {pc : Nat} {L L' : List (Option AV)} {S : List AV} {σ σ' : Sg} {o : Option β}
theorem G_chk {c : Prop} {dc : Decidable c} (h : c → Gj K M ids pc L S σ o) : Gj K M ids pc L S σ (@chk β c dc o) := by
  intro Φ x h1 h2
  unfold chk at h1
  split at h1
  · next hc => exact h hc Φ x h1 h2
  · cases h1
theorem G_bd {fo : Option (α × Sg)} {k : α → Sg → Option β} (h : ∀ r σ1, fo = some (r, σ1) → Gj K M ids pc L S σ (k r σ1)) : Gj K M ids pc L S σ (bd fo k) := by
  intro Φ x h1 h2
  unfold bd at h1
  split at h1
  · next q => exact h q.1 q.2 rfl Φ x h1 h2
  · cases h1
theorem G_bvI {e : Int32} {k : Int32 → Option β} (h : ∀ y, Gj K M ids pc L (aI y :: S) σ (k y)) : Gj K M ids pc L (aI e :: S) σ (bv e k) := h e
theorem G_bvL {e : Int64} {k : Int64 → Option β} (h : ∀ y, Gj K M ids pc L (aL y :: S) σ (k y)) : Gj K M ids pc L (aL e :: S) σ (bv e k) := h e
theorem G_bvS {k : Sg → Option β} (h : ∀ y, Gj K M ids pc L S y (k y)) : Gj K M ids pc L S σ (bv σ k) := h σ
theorem G_weak (L' : List (Option AV)) (h : leL L' L) (k : Gj K M ids pc L' S σ o) : Gj K M ids pc L S σ o := by
  intro Φ x h1 h2 p l e R s m args below meth c cells slots Q D cI ad hF hR H locs ls hP hS hl
  exact k Φ x h1 h2 p l e R s m args below meth c cells slots Q D cI ad hF hR H locs ls hP hS (lv_leA hl h)
theorem G_none : Gj K M ids pc L S σ none := fun _ _ h => by cases h
theorem G_ret {x : β} {r : Option AV} (hK : K x = (r, σ)) (hd : retD M pc r) (hS : S = r.toList) : Gj K M ids pc L S σ (some x) := by
  intro Φ x' h1 h2 p l e R s m args below meth c cells slots Q D cI ad hF hR H locs ls hP hS1 hl
  cases h1
  rw [hK] at h2
  subst hS
  exact hR.2 r σ pc H locs ls h2 hd hP hS1
/-- a method's contract out of a run of its body -/
theorem Met_of {y : MethodName} {vs : List Value} {x : β} (l : Launch) (D : va_G) (cI : ClassId) (ad : Nat × Nat → Nat) (hG : Gj K M ids 0 L [] σ o) (ho : o = some x) (hX : ∀ s ad, M.2.2.2.2.2.2 s ad) (hy : plainName y.cls = true) (hown : y.cls = M.2.2.1) (hn : Ndp ids) (hL : ∀ q ∈ toAL ad 0 L, q ∈ lv_args 0 vs) (hlen : (lg_sl vs).length ≤ M.2.1) : Met l y (wsM M y) (rmM M) (va_Pc vs (fun U => va_P D vwCl (wOf ids cI ad σ) U.heap ∧ St ids D cI ad U)) (fun _ st o t => o = .returned ((K x).1.map (tr ad)) ∧ va_P D vwCl (wOf ids cI ad (K x).2) t.heap ∧ va_F (inA ids ad) st t) 0 0 (inA ids ad) := by
  refine Met.ofW (cc := M.1) (maxL := M.2.1) (ret := M.2.2.2.1) hy rfl ?_
  intro p e s m args below meth c s₁ B hml hv
  obtain ⟨rfl, hP, hSt⟩ := hv
  have hr := B.returns
  have hts := atoms_spec (ws := wsM M y) B.pre
  have hown1 : s.vm.findClass y.cls = some m.cls := findClass_of_methodNamed B.named
  have hlocks := B.notSynchronized
  have hl := lv_entry vs (n := M.2.1) hlen
  rw [lg_entry_eq]
  replace hl := (⟨hl.1, hl.2.1, fun q hq => hl.2.2 q (hL q hq)⟩ : lv_has _ M.2.1 (toAL ad 0 L))
  refine hG (fun r τ => r = (K x).1 ∧ τ = (K x).2) x ho ⟨rfl, rfl⟩ p l e (rmM M) s m _ below meth c 0 0 _ D cI ad ⟨B.exec, B.bytes, hml, by rw [← hown]; exact hown1, fun w hw => hts w (List.mem_cons_of_mem _ hw), ⟨Nat.le_refl _, Nat.le_refl _, Nat.le_refl _, Nat.le_refl _⟩, hSt, hn⟩ ⟨hX s ad, ?_⟩ s.heap [] _ hP va_S.rf hl
  intro r τ pc H locs ls hΦ hd hP1 hS1
  obtain ⟨rfl, rfl⟩ := hΦ
  have post : ∀ v, v = (K x).1.map (tr ad) → ∀ t : State, t.heap = H → s.WarmedH t.vm → ((Outcome.returned v = .returned ((K x).1.map (tr ad)) ∧ va_P D vwCl (wOf ids cI ad (K x).2) t.heap ∧ va_F (inA ids ad) s t)) := fun v hv t ht _ => ⟨by rw [hv], by rw [ht]; exact hP1, hS1.F ht⟩
  revert hd post
  generalize (K x).1 = r9
  intro hd post
  match r9, hd, post with
  | none, hd, post => exact W.vret B.exec B.bytes (hr.trans hd.1) (post none rfl) hS1.2.2 hd.2 hlocks
  | some (.inl v), hd, post =>
    obtain ⟨h1, ty, h2, h3⟩ := hd
    exact W.zret B.exec B.bytes (hr.trans h2) h3 (post (some (.int v)) rfl) hS1.2.2 h1 hlocks
  | some (.inr (.inl v)), hd, post => exact W.lret B.exec B.bytes (hr.trans hd.2) (post (some (.long v)) rfl) hS1.2.2 hd.1 hlocks
  | some (.inr (.inr i)), hd, post =>
    obtain ⟨h1, n, h2⟩ := hd
    exact W.aret B.exec B.bytes (hr.trans h2) (Or.inl ⟨n, rfl⟩) (Or.inr ⟨_, rfl⟩) (post (some (.ref (ad i))) rfl) hS1.2.2 h1 hlocks
theorem Mt_of {y : MethodName} {as : List AV} {x : β} (hG : Gj K M ids 0 L [] σ o) (ho : o = some x) (hX : ∀ s ad, M.2.2.2.2.2.2 s ad) (hy : plainName y.cls = true) (hown : y.cls = M.2.2.1) (hn : Ndp ids) (hL : ∀ ad : Nat × Nat → Nat, lv_args 0 (as.map (tr ad)) = toAL ad 0 L) (hlen : ∀ ad : Nat × Nat → Nat, (lg_sl (as.map (tr ad))).length ≤ M.2.1) : Mt0 M y ids as σ (K x).1 (K x).2 :=
  fun l D cI ad => Met_of l D cI ad hG ho hX hy hown hn (fun q hq => by rw [hL ad]; exact hq) (hlen ad)
end GG2
/-! calls -/
theorem runGo {p : Program} {l : Launch} {e : Env} {R : Room} {s : State} {m : MethodId} {args : Array Value} {below : List Frame} {meth : Method} {c : Code} {H : Heap} {locs : List Loc} {cells slots : Nat} {Q : State → Prop} {pc : Nat} {ls : Array Slot} {st0 rest : List Value} {v : Option Value} {PP : Heap → Prop} {A1 : Nat → Prop}
    (hr : va_Run p l e R s m args below meth c H locs cells slots 0 0 (F0 m pc ls st0) rest (fun st o t => o = .returned v ∧ PP t.heap ∧ va_F A1 st t) A1) (hS : va_S A1 s.heap H locs)
    (kk : ∀ (H1 : Heap) (locs1 : List Loc), PP H1 → va_S A1 s.heap H1 locs1 → W p l e R s m args below meth c H1 locs1 cells slots Q (F0 m (pc + 3) ls (v.toList ++ rest))) : W p l e R s m args below meth c H locs cells slots Q (F0 m pc ls st0) := by
  intro T hT X
  obtain ⟨v', st₀, t, T', L, h0, X', hL, e1, e2, ⟨hv, hp, hz, hk⟩, st⟩ := hr T hT X
  cases hv
  rw [h0] at hz hk
  obtain ⟨t2, a1, b1⟩ := kk T'.heap (locs ++ L) (by rw [e1]; exact hp)
    ⟨Nat.le_trans hS.1 (by rw [e1]; exact hz), fun q h1 h2 => by rw [e1, hk q (Nat.lt_of_lt_of_le h1 hS.1) h2]; exact hS.2.1 q h1 h2, fun q hq => by
      rcases List.mem_append.mp hq with h | h
      · exact hS.2.2 q h
      · exact hL q h⟩ T' rfl X'
  exact ⟨t2, st t2 a1, b1⟩
theorem pcBlind {vs : List Value} {ids : List (Nat × Nat)} {D : va_G} {cI : ClassId} {ad : Nat × Nat → Nat} {σ : Sg} : FrameBlind (va_Pc vs (fun U => va_P D vwCl (wOf ids cI ad σ) U.heap ∧ St ids D cI ad U)) := by
  intro a U g mk q
  obtain ⟨q0, q1, q2⟩ := q
  exact ⟨q0, q1, St.same q2 rfl rfl⟩
/-- what the tables say of a method that is called: static, of an object -/
def kSt (Mc : MI) (y : MethodName) (n : Nat) : Prop := Cond.static y ∈ TT ∧ Cond.initialized y.cls ∈ TT ∧ Cond.code y Mc.1 Mc.2.1 Mc.2.2.2.1 ∈ TT ∧ y.cls ≠ "java/lang/invoke/MethodHandle" ∧ y.cls ≠ "java/lang/invoke/VarHandle" ∧ (parseMethodDescriptor y.desc).map (fun d => d.parameters.length) = some n
def kVi (Mc : MI) (y : MethodName) (n : Nat) : Prop := (Cond.instanceMethod y ∈ TT ∧ Cond.selects y.cls y y ∈ TT) ∧ Cond.initialized y.cls ∈ TT ∧ Cond.code y Mc.1 Mc.2.1 Mc.2.2.2.1 ∈ TT ∧ y.cls ≠ "java/lang/invoke/MethodHandle" ∧ y.cls ≠ "java/lang/invoke/VarHandle" ∧ (parseMethodDescriptor y.desc).map (fun d => d.parameters.length) = some n
def fits2 (M Mc : MI) : Prop := Mc.2.2.2.2.1 + 1 ≤ M.2.2.2.2.1 ∧ 8 + (Mc.2.1 + 11) + Mc.2.2.2.2.2.1 ≤ M.2.2.2.2.2.1
section CC
variable {M Mc : MI} {ids : List (Nat × Nat)} {pc idx n : Nat} {L : List (Option AV)} {S st : List AV} {σ σ' : Sg} {as : List AV} {r : Option AV} {y : MethodName}
theorem good_ws {hc : Cond.code y Mc.1 Mc.2.1 Mc.2.2.2.1 ∈ TT} : GoodIn TT (wsM Mc y) := fun w hw => by
  rcases List.mem_cons.mp hw with rfl | hw
  · exact tt_good _ hc
  · exact tt_good _ hw
theorem x_callS (S : List AV) (hM : Mt0 Mc y ids as σ r σ') (hd : decode M.1 pc = .ok (.invokestatic idx, 3)) (hl : Cond.methodLink M.2.2.1 idx y ∈ TT) (k : kSt Mc y n) (hn : as.length = n) (hf : fits2 M Mc) (hS0 : (S.map acat).sum ≤ 8) (hst : as.reverse ++ S = st) : Tj M ids pc L st σ (pc + 3) L (r.toList ++ S) σ' := by
  subst hst
  intro Φ hA p l e R s m args below meth c cells slots Q D cI ad hF hR H locs ls hP hS hl1
  obtain ⟨hx, hb, hml, hown, hts, hroom, hSt, hnd⟩ := id hF
  obtain ⟨k1, k2, k3, k4, k5, k6⟩ := k
  have hs2 : ((S.map (tr ad)).map fun v => v.category).sum ≤ 8 := by rw [cat_map]; exact hS0
  have cw : CallB R s args M.2.2.1 idx y Mc.1 Mc.2.1 Mc.2.2.2.1 (wsM Mc y) (rmM Mc) 0 0 n ∧ (Cond.static y).before args s = true := ⟨callB_of n hts (good_ws (hc := k3)) rfl rfl rfl (hts _ k2) (hts _ hl) ⟨k4, k5, k6⟩ ⟨Nat.le_trans hf.1 hroom.1, Nat.le_trans hf.2 hroom.2.1⟩, hts _ k1⟩
  refine runGo (v := r.map (tr ad)) (PP := fun h => va_P D vwCl (wOf ids cI ad σ') h) (A1 := inA ids ad) (rest := S.map (tr ad)) (va_runS (As := as.map (tr ad)) ⟨hx, hb, hml, hown, hts⟩ (hM l D cI ad) cw ⟨pcBlind, fun U hU hW => ⟨rfl, by rw [hU]; exact hP, hSt.go hS hU hW⟩⟩ rfl (by rw [List.length_map]; exact hn) hl1.1 (by rw [List.map_append, List.map_reverse]) (lv_room hs2) hd ⟨hroom.2.2.1, hroom.2.2.2⟩) hS ?_
  intro H1 locs1 hP1 hS1
  have h9 := hA p l e R s m args below meth c cells slots Q D cI ad hF hR H1 locs1 ls hP1 hS1 hl1
  rw [List.map_append] at h9
  cases r <;> exact h9
theorem x_callN (S : List AV) {host : String} (hM : Mt0 Mc y ids as σ r σ') (hd : decode M.1 pc = .ok (.invokestatic idx, 3)) (hl : (M.2.2.1, idx, y, host) ∈ nestL) (k : kSt Mc y n) (hn : as.length = n) (hf : fits2 M Mc) (hS0 : (S.map acat).sum ≤ 8) (hst : as.reverse ++ S = st) : Tj M ids pc L st σ (pc + 3) L (r.toList ++ S) σ' := by
  subst hst
  intro Φ hA p l e R s m args below meth c cells slots Q D cI ad hF hR H locs ls hP hS hl1
  obtain ⟨hx, hb, hml, hown, hts, hroom, hSt, hnd⟩ := id hF
  obtain ⟨k1, k2, k3, k4, k5, k6⟩ := k
  have hs2 : ((S.map (tr ad)).map fun v => v.category).sum ≤ 8 := by rw [cat_map]; exact hS0
  have cw := va_cnB (R := R) (own := M.2.2.1) (index := idx) (host := host) (rm := rmM Mc) (mc := 0) (ms := 0) (ws := wsM Mc y) (y := y) n hts (good_ws (hc := k3)) rfl rfl rfl (hSt.2.1 _ hl) (hts _ k2) ⟨k4, k5, k6⟩ ⟨Nat.le_trans hf.1 hroom.1, Nat.le_trans hf.2 hroom.2.1⟩
  refine runGo (v := r.map (tr ad)) (PP := fun h => va_P D vwCl (wOf ids cI ad σ') h) (A1 := inA ids ad) (rest := S.map (tr ad)) (va_runSN (As := as.map (tr ad)) ⟨hx, hb, hml, hown, hts⟩ (hM l D cI ad) ⟨cw, hts _ k1, trivial⟩ ⟨pcBlind, fun U hU hW => ⟨rfl, by rw [hU]; exact hP, hSt.go hS hU hW⟩⟩ rfl (by rw [List.length_map]; exact hn) hl1.1 (by rw [List.map_append, List.map_reverse]) (lv_room hs2) hd ⟨hroom.2.2.1, hroom.2.2.2⟩) hS ?_
  intro H1 locs1 hP1 hS1
  have h9 := hA p l e R s m args below meth c cells slots Q D cI ad hF hR H1 locs1 ls hP1 hS1 hl1
  rw [List.map_append] at h9
  cases r <;> exact h9
theorem x_callV (S : List AV) {i : Nat × Nat} {ci N : Nat} {T : u_T} (hM : Mt0 Mc y ids (aR i :: as) σ r σ') (hd : decode M.1 pc = .ok (.invokevirtual idx, 3)) (hl : Cond.methodLink M.2.2.1 idx y ∈ TT) (k : kVi Mc y n) (hi : i ∈ ids) (hc0 : ly_len i.2 = none) (hcl : ly_cls i.2 = ci) (hv : vwCl[ci]? = some (y.cls, T, N)) (hn : as.length = n) (hf : fits2 M Mc) (hS0 : (S.map acat).sum ≤ 8) (hst : as.reverse ++ (aR i :: S) = st) : Tj M ids pc L st σ (pc + 3) L (r.toList ++ S) σ' := by
  subst hst
  intro Φ hA p l e R s m args below meth c cells slots Q D cI ad hF hR H locs ls hP hS hl1
  obtain ⟨hx, hb, hml, hown, hts, hroom, hSt, hnd⟩ := id hF
  obtain ⟨⟨k1, k1b⟩, k2, k3, k4, k5, k6⟩ := k
  have hs2 : ((S.map (tr ad)).map fun v => v.category).sum ≤ 8 := by rw [cat_map]; exact hS0
  have cw := cwV (R := R) (own := M.2.2.1) (C := y.cls) (index := idx) (rm := rmM Mc) (mc := 0) (ms := 0) (ws := wsM Mc y) (y := y) n hts (fun w hw => by
    unfold wsV at hw
    rcases List.mem_append.mp hw with h | h
    · simp only [List.mem_cons, List.not_mem_nil, or_false] at h
      rcases h with rfl | rfl | rfl | rfl
      · exact tt_good _ hl
      · exact tt_good _ k1
      · exact tt_good _ k1b
      · exact tt_good _ k2
    · exact good_ws (hc := k3) w h) rfl rfl rfl ⟨rfl, k4, k5, k6⟩ ⟨Nat.le_trans hf.1 hroom.1, Nat.le_trans hf.2 hroom.2.1⟩
  obtain ⟨q0, g1, g2⟩ := w_at cI ad σ hi
  have h3 : cont cI ad σ i = .inr (ci, (List.range (ly_n i.2)).map (ly_v ad σ i)) := by unfold cont; rw [hc0, hcl]
  rw [h3] at g2
  refine runGo (v := r.map (tr ad)) (PP := fun h => va_P D vwCl (wOf ids cI ad σ') h) (A1 := inA ids ad) (rest := S.map (tr ad)) (va_runV (b := ad i) (As := as.map (tr ad)) ⟨hx, hb, hml, hown, hts⟩ (hM l D cI ad) cw ⟨pcBlind, va_recv hSt.1 hP hv g2, fun U hU hW => ⟨rfl, by rw [hU]; exact hP, hSt.go hS hU hW⟩⟩ rfl (by rw [List.length_map]; exact hn) hl1.1 (by rw [List.map_append, List.map_reverse]; rfl) (lv_room hs2) hd ⟨hroom.2.2.1, hroom.2.2.2⟩) hS ?_
  intro H1 locs1 hP1 hS1
  have h9 := hA p l e R s m args below meth c cells slots Q D cI ad hF hR H1 locs1 ls hP1 hS1 hl1
  rw [List.map_append] at h9
  cases r <;> exact h9
end CC
/-! a call that is given a part of the world alone (the law's: the class's cells, or the reference's) -/
def mrg (ids' : List (Nat × Nat)) (σ' σ : Sg) : Sg := fun i => if i ∈ ids' then σ' i else σ i
theorem A_st {M : MI} {ids : List (Nat × Nat)} {Φ : Option AV → Sg → Prop} {pc pc' : Nat} {L L' : List (Option AV)} {S S' : List AV} {σ σ' : Sg} (h : Tj M ids pc L S σ pc' L' S' σ') (k : Aj M ids Φ pc' L' S' σ') : Aj M ids Φ pc L S σ := h Φ k
theorem wOf_congr {ids : List (Nat × Nat)} {cI : ClassId} {ad : Nat × Nat → Nat} {σ τ : Sg} (h : ∀ i ∈ ids, σ i = τ i) : wOf ids cI ad σ = wOf ids cI ad τ := by
  unfold wOf
  exact List.map_congr_left (fun i hi => by rw [cont_congr (h i hi)])
theorem wOf_at {ids : List (Nat × Nat)} {cI : ClassId} {ad : Nat × Nat → Nat} {σ : Sg} {k : Nat} {q : Nat × va_E} (h : (wOf ids cI ad σ)[k]? = some q) : ∃ i, i ∈ ids ∧ q = (ad i, cont cI ad σ i) := by
  unfold wOf at h
  rw [List.getElem?_map] at h
  cases hi : ids[k]? with
  | none => rw [hi] at h; cases h
  | some i => rw [hi] at h; cases h; exact ⟨i, List.mem_of_getElem? hi, rfl⟩
theorem wOf_P {ids : List (Nat × Nat)} {D : va_G} {cI : ClassId} {ad : Nat × Nat → Nat} {σ : Sg} {H : Heap} : va_P D vwCl (wOf ids cI ad σ) H ↔ ∀ i ∈ ids, va_at D vwCl (ad i, cont cI ad σ i) H := by
  constructor
  · intro h i hi
    obtain ⟨k, -, hk⟩ := w_at cI ad σ hi
    exact h k _ hk
  · intro h k q hq
    obtain ⟨i, hi, rfl⟩ := wOf_at hq
    exact h i hi
theorem StrOK.narrow {ids ids' : List (Nat × Nat)} {ad : Nat × Nat → Nat} {U : State} (h : StrOK ids ad U) (hs : ∀ i ∈ ids', i ∈ ids) : StrOK ids' ad U := by
  have hA : ∀ q, inA ids' ad q → inA ids ad q := fun q ⟨i, hi, e⟩ => ⟨i, hs i hi, e⟩
  obtain ⟨h1, h2, h3, h4⟩ := h
  exact ⟨vk_S.narrow h1 hA, h2, va_Z.narrow h3 hA, va_Zq.narrow h4 hA⟩
theorem St.narrow {ids ids' : List (Nat × Nat)} {D : va_G} {cI : ClassId} {ad : Nat × Nat → Nat} {U : State} (h : St ids D cI ad U) (hs : ∀ i ∈ ids', i ∈ ids) : St ids' D cI ad U := ⟨h.1, h.2.1, h.2.2.1.narrow hs, fun i hi j hj e => h.2.2.2 i (hs i hi) j (hs j hj) e⟩
theorem runGoW {p : Program} {l : Launch} {e : Env} {R : Room} {s : State} {m : MethodId} {args : Array Value} {below : List Frame} {meth : Method} {c : Code} {H : Heap} {locs : List Loc} {cells slots : Nat} {Q : State → Prop} {pc : Nat} {ls : Array Slot} {st0 rest : List Value} {v : Option Value} {PP : Heap → Prop} {A A1 : Nat → Prop} (hAA : ∀ q, A1 q → A q)
    (hr : va_Run p l e R s m args below meth c H locs cells slots 0 0 (F0 m pc ls st0) rest (fun st o t => o = .returned v ∧ PP t.heap ∧ va_F A1 st t) A1) (hS : va_S A s.heap H locs)
    (kk : ∀ (H1 : Heap) (locs1 : List Loc), PP H1 → (H.size ≤ H1.size ∧ ∀ q : Nat, q < H.size → ¬ A1 q → H1[q]? = H[q]?) → va_S A s.heap H1 locs1 → W p l e R s m args below meth c H1 locs1 cells slots Q (F0 m (pc + 3) ls (v.toList ++ rest))) : W p l e R s m args below meth c H locs cells slots Q (F0 m pc ls st0) := by
  intro T hT X
  obtain ⟨v', st₀, t, T', L, h0, X', hL, e1, e2, ⟨hv, hp, hz, hk⟩, st⟩ := hr T hT X
  cases hv
  rw [h0] at hz hk
  obtain ⟨t2, a1, b1⟩ := kk T'.heap (locs ++ L) (by rw [e1]; exact hp) ⟨by rw [e1]; exact hz, fun q h1 h2 => by rw [e1]; exact hk q h1 h2⟩
    ⟨Nat.le_trans hS.1 (by rw [e1]; exact hz), fun q h1 h2 => by rw [e1, hk q (Nat.lt_of_lt_of_le h1 hS.1) (fun z => h2 (hAA q z))]; exact hS.2.1 q h1 h2, fun q hq => by
      rcases List.mem_append.mp hq with h | h
      · exact hS.2.2 q h
      · exact hAA _ (hL q h)⟩ T' rfl X'
  exact ⟨t2, st t2 a1, b1⟩
section CCW
variable {M Mc : MI} {ids ids' : List (Nat × Nat)} {pc idx n : Nat} {L : List (Option AV)} {S st : List AV} {σ τ τ' : Sg} {as : List AV} {r : Option AV} {y : MethodName}
theorem x_callW (S : List AV) {i : Nat × Nat} {ci N : Nat} {T : u_T} (hM : Mt0 Mc y ids' (aR i :: as) τ r τ') (hs : ∀ j ∈ ids', j ∈ ids) (hτ : ∀ j ∈ ids', σ j = τ j) (hd : decode M.1 pc = .ok (.invokevirtual idx, 3)) (hl : Cond.methodLink M.2.2.1 idx y ∈ TT) (k : kVi Mc y n) (hi : i ∈ ids) (hc0 : ly_len i.2 = none) (hcl : ly_cls i.2 = ci) (hv : vwCl[ci]? = some (y.cls, T, N)) (hn : as.length = n) (hf : fits2 M Mc) (hS0 : (S.map acat).sum ≤ 8) (hst : as.reverse ++ (aR i :: S) = st) : Tj M ids pc L st σ (pc + 3) L (r.toList ++ S) (mrg ids' τ' σ) := by
  subst hst
  intro Φ hA p l e R s m args below meth c cells slots Q D cI ad hF hR H locs ls hP hS hl1
  obtain ⟨hx, hb, hml, hown, hts, hroom, hSt, hnd⟩ := id hF
  obtain ⟨⟨k1, k1b⟩, k2, k3, k4, k5, k6⟩ := k
  have hs2 : ((S.map (tr ad)).map fun v => v.category).sum ≤ 8 := by rw [cat_map]; exact hS0
  have cw := cwV (R := R) (own := M.2.2.1) (C := y.cls) (index := idx) (rm := rmM Mc) (mc := 0) (ms := 0) (ws := wsM Mc y) (y := y) n hts (fun w hw => by
    unfold wsV at hw
    rcases List.mem_append.mp hw with h | h
    · simp only [List.mem_cons, List.not_mem_nil, or_false] at h
      rcases h with rfl | rfl | rfl | rfl
      · exact tt_good _ hl
      · exact tt_good _ k1
      · exact tt_good _ k1b
      · exact tt_good _ k2
    · exact good_ws (hc := k3) w h) rfl rfl rfl ⟨rfl, k4, k5, k6⟩ ⟨Nat.le_trans hf.1 hroom.1, Nat.le_trans hf.2 hroom.2.1⟩
  obtain ⟨q0, g1, g2⟩ := w_at cI ad σ hi
  have h3 : cont cI ad σ i = .inr (ci, (List.range (ly_n i.2)).map (ly_v ad σ i)) := by unfold cont; rw [hc0, hcl]
  rw [h3] at g2
  have hAA : ∀ q, inA ids' ad q → inA ids ad q := fun q ⟨j, hj, e⟩ => ⟨j, hs j hj, e⟩
  have hPi := wOf_P.mp hP
  have hP' : va_P D vwCl (wOf ids' cI ad τ) H := by
    rw [← wOf_congr hτ]
    exact wOf_P.mpr (fun j hj => hPi j (hs j hj))
  refine runGoW (v := r.map (tr ad)) (PP := fun h => va_P D vwCl (wOf ids' cI ad τ') h) (A := inA ids ad) (A1 := inA ids' ad) (rest := S.map (tr ad)) hAA (va_runV (b := ad i) (As := as.map (tr ad)) ⟨hx, hb, hml, hown, hts⟩ (hM l D cI ad) cw ⟨pcBlind, va_recv hSt.1 hP hv g2, fun U hU hW => ⟨rfl, by rw [hU]; exact hP', (hSt.go hS hU hW).narrow hs⟩⟩ rfl (by rw [List.length_map]; exact hn) hl1.1 (by rw [List.map_append, List.map_reverse]; rfl) (lv_room hs2) hd ⟨hroom.2.2.1, hroom.2.2.2⟩) hS ?_
  intro H1 locs1 hP1 hK1 hS1
  have hP2 : va_P D vwCl (wOf ids cI ad (mrg ids' τ' σ)) H1 := by
    refine wOf_P.mpr (fun j hj => ?_)
    by_cases hj' : j ∈ ids'
    · have e9 : mrg ids' τ' σ j = τ' j := if_pos hj'
      rw [cont_congr e9]
      exact wOf_P.mp hP1 j hj'
    · have e9 : mrg ids' τ' σ j = σ j := if_neg hj'
      rw [cont_congr e9]
      refine (hPi j hj).kept (hK1.2 _ (hPi j hj).lt (fun ⟨i2, h1, h2⟩ => ?_))
      have := hSt.2.2.2 j hj i2 (hs i2 h1) h2
      subst this
      exact hj' h1
  have h9 := hA p l e R s m args below meth c cells slots Q D cI ad hF hR H1 locs1 ls hP2 hS1 hl1
  rw [List.map_append] at h9
  cases r <;> exact h9
/-- the law's script -/
def scrX (L : Nat) (xs : Nat → Int32) (ids : List (Nat × Nat)) : State → (Nat × Nat → Nat) → Prop := fun s ad => va_X (ad (7, 0)) L xs s s.heap ∧ ad (7, 0) < s.heap.size ∧ ¬ inA ids ad (ad (7, 0))
theorem x_sld {N : Nat} {xs : Nat → Int32} {j : Int32} (hX : M.2.2.2.2.2.2 = scrX N xs ids) (hd : decode M.1 pc = .ok (.iaload, 1)) (hj : inb j N) : Tj M ids pc L (aI j :: aR (7, 0) :: S) σ (pc + 1) L (aI (xs j.toNatClampNeg) :: S) σ := by
  intro Φ hA p l e R s m args below meth c cells slots Q D cI ad hF hR H locs ls hP hS hl
  obtain ⟨hx, hb, hml, hown, hts, hroom, hSt, hn⟩ := id hF
  have h1 := hR.1
  rw [hX] at h1
  exact va_sld hx hb h1.1 h1.2.1 h1.2.2 hS hj hd (hA p l e R s m args below meth c cells slots Q D cI ad hF hR H locs ls hP hS hl)
theorem x_sln {N : Nat} {xs : Nat → Int32} (hX : M.2.2.2.2.2.2 = scrX N xs ids) (hd : decode M.1 pc = .ok (.arraylength, 1)) : Tj M ids pc L (aR (7, 0) :: S) σ (pc + 1) L (aI (Int32.ofNat N) :: S) σ := by
  intro Φ hA p l e R s m args below meth c cells slots Q D cI ad hF hR H locs ls hP hS hl
  obtain ⟨hx, hb, hml, hown, hts, hroom, hSt, hn⟩ := id hF
  have h1 := hR.1
  rw [hX] at h1
  exact va_slen hx hb h1.1 h1.2.1 h1.2.2 hS hd (hA p l e R s m args below meth c cells slots Q D cI ad hF hR H locs ls hP hS hl)
end CCW
