abbrev isStr (i : Nat × Nat) : Prop := i.1 = 5 ∧ i.2 < 7
def f_J0_length_8abf5 (i0 : Nat × Nat) (t0 : Sg) : Option (Int32 × Sg) := some (nI (strLen.getD i0.2 0), t0)
def f_J0_isEmpty_aae02 (i0 : Nat × Nat) (t0 : Sg) : Option (Int32 × Sg) := some ((if strLen.getD i0.2 0 = 0 then 1 else 0), t0)
def f_J0_charAt_5068e (i0 : Nat × Nat) (v1 : Int32) (t0 : Sg) : Option (Int32 × Sg) := chk (inb v1 (strLen.getD i0.2 0)) (some ((strByt.getD i0.2 []).getD v1.toNatClampNeg 0, t0))
def f_J7_fill_53178_5 (i0 : Nat × Nat)  : Nat → Int32 → Int32 → Int32 → Sg → Option (Unit × Sg)
  | 0, _, _, _, _ => none
  | n + 1, v1, v2, v3, t0 =>
  (if v3 ≤ v2 then (some ((), t0)) else (chk (inb v2 (alen i0)) ((bv (upS t0 i0 (v2).toNatClampNeg v1) (fun t4 => ((f_J7_fill_53178_5 i0 n) v1 (v2 + (1 : Int32)) v3 t4))))))
def f_J7_fill_53178 (i0 : Nat × Nat) (v1 : Int32) (t0 : Sg) : Option (Unit × Sg) :=
  (bv ((Int32.ofNat (alen i0))) (fun x1 => (f_J7_fill_53178_5 i0 fuel v1 (0 : Int32) x1 t0)))
def f_X6_set (i0 : Nat × Nat) (v1 : Int32) (v2 : Int32) (t0 : Sg) : Option (Unit × Sg) :=
  (if v1 < 0 then (some ((), t0)) else (if (Int32.ofNat (alen i0)) ≤ v1 then (some ((), t0)) else (chk (inb v1 (alen i0)) ((bv (upS t0 i0 (v1).toNatClampNeg v2) (fun t4 => (some ((), t4))))))))
def f_X0_settle (h : Nat) (v1 : Int32) (v2 : Int32) (t0 : Sg) : Option (Unit × Sg) :=
  (bd (f_X6_set (h, 14) v1 v2 t0) (fun _ t2 => (bd (f_X6_set (h, 13) v2 v1 t2) (fun _ t5 => (some ((), t5))))))
def f_X0_build_76 (h : Nat) (k68 : Int32 → Int32 → Int32 → Sg → Option (Unit × Sg)) : Nat → Int32 → Int32 → Int32 → Int32 → Sg → Option (Unit × Sg)
  | 0, _, _, _, _, _ => none
  | n + 1, v1, v2, v3, v4, t0 =>
  (if v2 ≤ v4 then (k68 v1 v2 (v3 + (1 : Int32)) t0) else (bd (f_X0_settle h ((v3 * v2) + v4) ((v3 * (4 : Int32)) + v4) t0) (fun _ t27 => ((f_X0_build_76 h k68 n) v1 v2 v3 (v4 + (1 : Int32)) t27))))
def f_X0_build_68 (h : Nat)  : Nat → Int32 → Int32 → Int32 → Sg → Option (Unit × Sg)
  | 0, _, _, _, _ => none
  | n + 1, v1, v2, v3, t0 =>
  (if v1 ≤ v3 then (some ((), t0)) else (f_X0_build_76 h (f_X0_build_68 h n) fuel v1 v2 v3 (0 : Int32) t0))
def f_X0_build (h : Nat) (v1 : Int32) (v2 : Int32) (t0 : Sg) : Option (Unit × Sg) :=
  (bv (upS t0 (h, 7) 0 v1) (fun t1 => (bv (upS t1 (h, 7) 1 v2) (fun t2 => (bd (f_J7_fill_53178 (h, 8) (0 : Int32) t2) (fun _ t4 => (bd (f_J7_fill_53178 (h, 9) (0 : Int32) t4) (fun _ t7 => (bd (f_J7_fill_53178 (h, 10) (0 : Int32) t7) (fun _ t10 => (bd (f_J7_fill_53178 (h, 11) (0 : Int32) t10) (fun _ t13 => (bd (f_J7_fill_53178 (h, 12) (0 : Int32) t13) (fun _ t16 => (bd (f_J7_fill_53178 (h, 13) (-1 : Int32) t16) (fun _ t19 => (bd (f_J7_fill_53178 (h, 14) (-1 : Int32) t19) (fun _ t22 => (f_X0_build_68 h fuel v1 v2 (0 : Int32) t22)))))))))))))))))))
def f_X6_copy (i0 : Nat × Nat) (i1 : Nat × Nat) (t0 : Sg) : Option (Unit × Sg) :=
  (chk (¬ (jmin (Int32.ofNat (alen i0)) (Int32.ofNat (alen i1))) < 0 ∧ (jmin (Int32.ofNat (alen i0)) (Int32.ofNat (alen i1))).toNatClampNeg ≤ (alen i0) ∧ (jmin (Int32.ofNat (alen i0)) (Int32.ofNat (alen i1))).toNatClampNeg ≤ (alen i1)) ((bv (upA t0 i1 (va_cpy (t0 i0) (t0 i1) (0 : Int32).toNatClampNeg (0 : Int32).toNatClampNeg (jmin (Int32.ofNat (alen i0)) (Int32.ofNat (alen i1))).toNatClampNeg)) (fun t2 => (some ((), t2))))))
def f_X0_copyFrom (h : Nat) (g : Nat) (t0 : Sg) : Option (Unit × Sg) :=
  (bv (upS t0 (h, 7) 0 (t0 (g, 7) 0)) (fun t1 => (bv (upS t1 (h, 7) 1 (t1 (g, 7) 1)) (fun t2 => (bv (upS t2 (h, 7) 2 (t2 (g, 7) 2)) (fun t3 => (bd (f_X6_copy (g, 8) (h, 8) t3) (fun _ t5 => (bd (f_X6_copy (g, 9) (h, 9) t5) (fun _ t8 => (bd (f_X6_copy (g, 10) (h, 10) t8) (fun _ t11 => (bd (f_X6_copy (g, 11) (h, 11) t11) (fun _ t14 => (bd (f_X6_copy (g, 12) (h, 12) t14) (fun _ t17 => (bd (f_X6_copy (g, 13) (h, 13) t17) (fun _ t20 => (bd (f_X6_copy (g, 14) (h, 14) t20) (fun _ t23 => (some ((), t23))))))))))))))))))))))
def f_X0_tenants (h : Nat) (t0 : Sg) : Option (Int32 × Sg) :=
  (some (((t0 (h, 7) 0) * (t0 (h, 7) 1)), t0))
def f_X0_place (h : Nat) (v1 : Int32) (v2 : Int32) (t0 : Sg) : Option (Int32 × Sg) :=
  (bv ((if v1 < 0 then (0 : Int32) else (if (t0 (h, 7) 0) ≤ v1 then (0 : Int32) else (if v2 < 0 then (0 : Int32) else (if (t0 (h, 7) 1) ≤ v2 then (0 : Int32) else (1 : Int32)))))) (fun x6 => (some ((if x6 = 0 then (-1 : Int32) else ((v1 * (4 : Int32)) + v2)), t0))))
def f_X0_placeOf (h : Nat) (v1 : Int32) (t0 : Sg) : Option (Int32 × Sg) :=
  (if 0 ≤ v1 then (bd (f_X0_place h (v1 / (10 : Int32)) (v1 - v1 / (10 : Int32) * (10 : Int32)) t0) (fun x2 t3 => (some (x2, t3)))) else (some ((-1 : Int32), t0)))
def f_X0_flatAt (v0 : Int32) (t0 : Sg) : Option (Int32 × Sg) :=
  (some ((((v0 / (4 : Int32)) * (10 : Int32)) + (v0 - v0 / (4 : Int32) * (4 : Int32))), t0))
def f_X6_get (i0 : Nat × Nat) (v1 : Int32) (t0 : Sg) : Option (Int32 × Sg) :=
  (if v1 < 0 then (some ((0 : Int32), t0)) else (if (Int32.ofNat (alen i0)) ≤ v1 then (some ((0 : Int32), t0)) else (chk (inb v1 (alen i0)) ((some ((t0 i0 (v1).toNatClampNeg), t0))))))
def f_X0_change (h : Nat) (v1 : Int32) (v2 : Int32) (t0 : Sg) : Option (Unit × Sg) :=
  (bd (f_X6_get (h, 14) v1 t0) (fun x1 t2 => (bd (f_X6_get (h, 14) v2 t2) (fun x4 t5 => (bd (f_X0_settle h v1 x4 t5) (fun _ t8 => (bd (f_X0_settle h v2 x1 t8) (fun _ t11 => (some ((), t11))))))))))
def f_X0_ring (h : Nat) (v1 : Int32) (v2 : Int32) (v3 : Int32) (t0 : Sg) : Option (Unit × Sg) :=
  (bd (f_X6_get (h, 14) v1 t0) (fun x1 t2 => (bd (f_X6_get (h, 14) v2 t2) (fun x4 t5 => (bd (f_X0_settle h v1 x4 t5) (fun _ t8 => (bd (f_X6_get (h, 14) v3 t8) (fun x10 t11 => (bd (f_X0_settle h v2 x10 t11) (fun _ t14 => (bd (f_X0_settle h v3 x1 t14) (fun _ t17 => (some ((), t17))))))))))))))
def f_X0_setSaucer (h : Nat) (v1 : Int32) (v2 : Int32) (t0 : Sg) : Option (Unit × Sg) :=
  (bd (f_X6_set (h, 8) v1 v2 t0) (fun _ t2 => (bd (f_X6_get (h, 9) v1 t2) (fun x4 t5 => (bd (f_X6_set (h, 9) v1 (jmin x4 v2) t5) (fun _ t8 => (some ((), t8))))))))
def f_X0_setWashing (h : Nat) (v1 : Int32) (v2 : Int32) (v3 : Int32) (t0 : Sg) : Option (Unit × Sg) :=
  (bd (f_X6_set (h, 11) v1 v2 t0) (fun _ t2 => (bd (f_X6_set (h, 12) v1 v3 t2) (fun _ t5 => (some ((), t5))))))
def f_X0_dry_2 (h : Nat)  : Nat → Int32 → Sg → Option (Unit × Sg)
  | 0, _, _ => none
  | n + 1, v1, t0 =>
  (if (24 : Int32) ≤ v1 then (some ((), t0)) else (chk (inb v1 24) ((chk (inb v1 24) ((bv (upS t0 (h, 9) (v1).toNatClampNeg (jmax (0 : Int32) ((t0 (h, 9) (v1).toNatClampNeg) - (1 : Int32)))) (fun t4 => ((f_X0_dry_2 h n) (v1 + (1 : Int32)) t4))))))))
def f_X0_dry (h : Nat) (t0 : Sg) : Option (Unit × Sg) :=
  (f_X0_dry_2 h fuel (0 : Int32) t0)
def f_X1_add (h : Nat) (v1 : Int32) (v2 : Int32) (v3 : Int32) (v4 : Int32) (t0 : Sg) : Option (Unit × Sg) :=
  (if (8 : Int32) ≤ (t0 (h, 15) 0) then (some ((), t0)) else (bd (f_X6_set (h, 16) (t0 (h, 15) 0) v1 t0) (fun _ t3 => (bd (f_X6_set (h, 17) (t3 (h, 15) 0) v2 t3) (fun _ t6 => (bd (f_X6_set (h, 18) (t6 (h, 15) 0) v3 t6) (fun _ t9 => (bd (f_X6_set (h, 19) (t9 (h, 15) 0) v4 t9) (fun _ t12 => (bv (upS t12 (h, 15) 0 ((t12 (h, 15) 0) + (1 : Int32))) (fun t14 => (some ((), t14)))))))))))))
def f_X1_copyFrom (h : Nat) (g : Nat) (t0 : Sg) : Option (Unit × Sg) :=
  (bv (upS t0 (h, 15) 0 (t0 (g, 15) 0)) (fun t1 => (bd (f_X6_copy (g, 16) (h, 16) t1) (fun _ t3 => (bd (f_X6_copy (g, 17) (h, 17) t3) (fun _ t6 => (bd (f_X6_copy (g, 18) (h, 18) t6) (fun _ t9 => (bd (f_X6_copy (g, 19) (h, 19) t9) (fun _ t12 => (some ((), t12))))))))))))
def f_X1_countOf_4 (h : Nat)  : Nat → Int32 → Int32 → Int32 → Sg → Option (Int32 × Sg)
  | 0, _, _, _, _ => none
  | n + 1, v1, v2, v3, t0 =>
  (if (t0 (h, 15) 0) ≤ v3 then (some (v2, t0)) else (bd (f_X6_get (h, 16) v3 t0) (fun x2 t3 => (bv ((v2 + (if x2 = v1 then (1 : Int32) else (0 : Int32)))) (fun x7 => ((f_X1_countOf_4 h n) v1 x7 (v3 + (1 : Int32)) t3))))))
def f_X1_countOf (h : Nat) (v1 : Int32) (t0 : Sg) : Option (Int32 × Sg) :=
  (f_X1_countOf_4 h fuel v1 (0 : Int32) (0 : Int32) t0)
def f_X6_within (v0 : Int32) (v1 : Int32) (v2 : Int32) (t0 : Sg) : Option (Int32 × Sg) :=
  (some ((if v0 < v1 then (0 : Int32) else (if v2 < v0 then (0 : Int32) else (1 : Int32))), t0))
def f_X1_putOff_58 (h : Nat) (k13 : Int32 → Int32 → Int32 → Sg → Option (Unit × Sg)) (v1 : Int32) (v2 : Int32) (v3 : Int32) (t0 : Sg) : Option (Unit × Sg) :=
  (k13 v1 v2 (v3 + (1 : Int32)) t0)
def f_X1_putOff_13 (h : Nat)  : Nat → Int32 → Int32 → Int32 → Sg → Option (Unit × Sg)
  | 0, _, _, _, _ => none
  | n + 1, v1, v2, v3, t0 =>
  (if (t0 (h, 15) 0) ≤ v3 then (some ((), t0)) else (bd (f_X6_get (h, 19) v3 t0) (fun x4 t5 => (bd (f_X6_within x4 v1 v2 t5) (fun x7 t8 => (if x7 = 0 then (f_X1_putOff_58 h (f_X1_putOff_13 h n) v1 v2 v3 t8) else (bd (f_X6_set (h, 19) v3 (if v2 = (7 : Int32) then (0 : Int32) else (v2 + (1 : Int32))) t8) (fun _ t14 => (f_X1_putOff_58 h (f_X1_putOff_13 h n) v1 v2 v3 t14)))))))))
def f_X1_putOff_11 (h : Nat)  (v1 : Int32) (v2 : Int32) (t0 : Sg) : Option (Unit × Sg) :=
  (f_X1_putOff_13 h fuel v1 v2 (0 : Int32) t0)
def f_X1_putOff (h : Nat) (v1 : Int32) (v2 : Int32) (t0 : Sg) : Option (Unit × Sg) :=
  (if v1 = 0 then (if v2 = (7 : Int32) then (some ((), t0)) else (f_X1_putOff_11 h v1 v2 t0)) else (f_X1_putOff_11 h v1 v2 t0))
def f_X1_raise_45 (h : Nat) (k2 : Int32 → Int32 → Sg → Option (Unit × Sg)) (v1 : Int32) (v2 : Int32) (t0 : Sg) : Option (Unit × Sg) :=
  (k2 v1 (v2 + (1 : Int32)) t0)
def f_X1_raise_2 (h : Nat)  : Nat → Int32 → Int32 → Sg → Option (Unit × Sg)
  | 0, _, _, _ => none
  | n + 1, v1, v2, t0 =>
  (if (t0 (h, 15) 0) ≤ v2 then (some ((), t0)) else (bd (f_X6_get (h, 16) v2 t0) (fun x2 t3 => (if x2 = v1 then (bd (f_X6_get (h, 18) v2 t3) (fun x6 t7 => (bd (f_X6_set (h, 18) v2 (jmin (9 : Int32) (x6 + (1 : Int32))) t7) (fun _ t10 => (f_X1_raise_45 h (f_X1_raise_2 h n) v1 v2 t10))))) else (f_X1_raise_45 h (f_X1_raise_2 h n) v1 v2 t3)))))
def f_X1_raise (h : Nat) (v1 : Int32) (t0 : Sg) : Option (Unit × Sg) :=
  (f_X1_raise_2 h fuel v1 (0 : Int32) t0)
def f_X3_copyFrom (h : Nat) (g : Nat) (t0 : Sg) : Option (Unit × Sg) :=
  (bd (f_X6_copy (g, 21) (h, 21) t0) (fun _ t2 => (bd (f_X6_copy (g, 22) (h, 22) t2) (fun _ t5 => (bd (f_X6_copy (g, 23) (h, 23) t5) (fun _ t8 => (bd (f_X6_copy (g, 24) (h, 24) t8) (fun _ t11 => (bv (upS t11 (h, 20) 4 (t11 (g, 20) 4)) (fun t13 => (some ((), t13))))))))))))
def f_X2_copyFrom (h : Nat) (g : Nat) (t0 : Sg) : Option (Unit × Sg) :=
  (bd (f_X0_copyFrom h g t0) (fun _ t2 => (bd (f_X1_copyFrom h g t2) (fun _ t5 => (bd (f_X3_copyFrom h g t5) (fun _ t8 => (bv (upS t8 (h, 6) 4 (t8 (g, 6) 4)) (fun t10 => (some ((), t10))))))))))
def f_X3_beginWeek (h : Nat) (t0 : Sg) : Option (Unit × Sg) :=
  (bd (f_J7_fill_53178 (h, 23) (0 : Int32) t0) (fun _ t2 => (bd (f_J7_fill_53178 (h, 24) (0 : Int32) t2) (fun _ t5 => (bv (upS t5 (h, 20) 4 (0 : Int32)) (fun t7 => (some ((), t7))))))))
def f_X3_clear (h : Nat) (t0 : Sg) : Option (Unit × Sg) :=
  (bd (f_J7_fill_53178 (h, 21) (0 : Int32) t0) (fun _ t2 => (bd (f_J7_fill_53178 (h, 22) (0 : Int32) t2) (fun _ t5 => (bd (f_X3_beginWeek h t5) (fun _ t8 => (some ((), t8))))))))
def f_X2_build (h : Nat) (v1 : Int32) (v2 : Int32) (t0 : Sg) : Option (Unit × Sg) :=
  (bd (f_X0_build h v1 v2 t0) (fun _ t2 => (bv (upS t2 (h, 15) 0 (0 : Int32)) (fun t4 => (bd (f_X3_clear h t4) (fun _ t6 => (some ((), t6))))))))
def f_X5_room (h : Nat) (v1 : Int32) (v2 : Int32) (t0 : Sg) : Option (Int32 × Sg) :=
  (if v1 = (3 : Int32) then (some ((0 : Int32), t0)) else (if v1 = (4 : Int32) then (some ((0 : Int32), t0)) else (bd (f_X6_get (h, 8) v2 t0) (fun x3 t4 => (bd (f_X6_get (h, 9) v2 t4) (fun x6 t7 => (bv ((jmax (0 : Int32) (x3 - x6))) (fun x9 => (if v1 = (5 : Int32) then (some ((x9 / (2 : Int32)), t7)) else (some (x9, t7)))))))))))
def f_X5_hold_34 (h : Nat) (g : Nat) (q : Nat)  : Nat → Int32 → Int32 → Int32 → Int32 → Sg → Option (Unit × Sg)
  | 0, _, _, _, _, _ => none
  | n + 1, v4, v5, v6, v7, t0 =>
  (if v6 ≤ v7 then (some ((), t0)) else (if v5 ≤ 0 then (some ((), t0)) else (bd (f_X6_get (h, 26) v7 t0) (fun x11 t12 => (bd (f_X5_room g v4 x11 t12) (fun x14 t15 => (bv ((jmin v5 x14)) (fun x17 => (bd (f_X6_set (h, 27) v7 v5 t15) (fun _ t19 => (bd (f_X6_set (h, 28) v7 x17 t19) (fun _ t22 => (bv (upS t22 (h, 25) 3 (v7 + (1 : Int32))) (fun t24 => (bv ((v5 - x17)) (fun x25 => ((f_X5_hold_34 h g q n) v4 x25 v6 (v7 + (1 : Int32)) t24)))))))))))))))))
def f_X5_hold (h : Nat) (g : Nat) (q : Nat) (v3 : Int32) (t0 : Sg) : Option (Unit × Sg) :=
  (bd (f_X6_get (q, 17) v3 t0) (fun x1 t2 => (bd (f_X6_get (q, 18) v3 t2) (fun x4 t5 => (bv ((t5 (h, 25) 3)) (fun x7 => (bv (upS t5 (h, 25) 3 (0 : Int32)) (fun t8 => (f_X5_hold_34 h g q fuel x1 x4 x7 (0 : Int32) t8)))))))))
def f_X5_next_153 (h : Nat)  (v3 : Int32) (v4 : Int32) (t0 : Sg) : Option (Int32 × Sg) :=
  (bd (f_X0_place h (v3 - (1 : Int32)) v4 t0) (fun x15 t16 => (some (x15, t16))))
def f_X5_next (h : Nat) (v1 : Int32) (v2 : Int32) (t0 : Sg) : Option (Int32 × Sg) :=
  (bv ((v2 / (4 : Int32))) (fun x1 => (bv ((v2 - v2 / (4 : Int32) * (4 : Int32))) (fun x2 => (if v1 = (1 : Int32) then (bd (f_X0_place h (x1 - (1 : Int32)) (x2 + (t0 (h, 7) 2)) t0) (fun x4 t5 => (some (x4, t5)))) else (if v1 = (2 : Int32) then (bd (f_X6_get (h, 10) v2 t0) (fun x8 t9 => (bd (f_X0_place h (x1 - (1 : Int32)) (x2 + x8) t9) (fun x11 t12 => (some (x11, t12)))))) else (if v1 = (3 : Int32) then (f_X5_next_153 h x1 x2 t0) else (if v1 = (4 : Int32) then (bd (f_X0_place h (x1 + (1 : Int32)) x2 t0) (fun x19 t20 => (bd (f_X6_get (h, 10) x19 t20) (fun x22 t23 => (some ((if x22 = 0 then x19 else (-1 : Int32)), t23)))))) else (if v1 = (5 : Int32) then (bv ((if (t0 (h, 7) 2) = 0 then (if x1 < (2 : Int32) then (0 : Int32) else (1 : Int32)) else (0 : Int32))) (fun x31 => (bd (f_X0_place h (if x31 = 0 then (x1 - (1 : Int32)) else (x1 - (2 : Int32))) (x2 + (t0 (h, 7) 2)) t0) (fun x34 t35 => (some (x34, t35)))))) else (f_X5_next_153 h x1 x2 t0))))))))))
def f_X5_trace_41 (h : Nat) (g : Nat) (q : Nat)  : Nat → Int32 → Int32 → Int32 → Sg → Option (Unit × Sg)
  | 0, _, _, _, _ => none
  | n + 1, v4, v5, v6, t0 =>
  (if (6 : Int32) ≤ v6 then (some ((), t0)) else (if v5 < 0 then (some ((), t0)) else (bd (f_X6_set (h, 26) v6 v5 t0) (fun _ t17 => (bv (upS t17 (h, 25) 3 (v6 + (1 : Int32))) (fun t19 => (bd (f_X5_next g v4 v5 t19) (fun x20 t21 => ((f_X5_trace_41 h g q n) v4 x20 (v6 + (1 : Int32)) t21)))))))))
def f_X5_trace (h : Nat) (g : Nat) (q : Nat) (v3 : Int32) (t0 : Sg) : Option (Unit × Sg) :=
  (bv (upS t0 (h, 25) 3 (0 : Int32)) (fun t1 => (bd (f_X6_get (q, 17) v3 t1) (fun x2 t3 => (bd (f_X6_get (q, 16) v3 t3) (fun x5 t6 => (bd (f_X6_get (g, 14) x5 t6) (fun x8 t9 => (bd (f_X5_next g x2 x8 t9) (fun x11 t12 => (f_X5_trace_41 h g q fuel x2 x11 (0 : Int32) t12)))))))))))
def f_X2_follow (h : Nat) (v1 : Int32) (t0 : Sg) : Option (Unit × Sg) :=
  (bd (f_X5_trace h h h v1 t0) (fun _ t2 => (bd (f_X5_hold h h h v1 t2) (fun _ t5 => (some ((), t5))))))
def f_X2_trace (h : Nat) (v1 : Int32) (t0 : Sg) : Option (Unit × Sg) :=
  (bd (f_X5_trace h h h v1 t0) (fun _ t2 => (some ((), t2))))
def f_X2_harmAt (h : Nat) (v1 : Int32) (v2 : Int32) (t0 : Sg) : Option (Int32 × Sg) :=
  (bd (f_X6_get (h, 26) v2 t0) (fun x1 t2 => (bd (f_X6_get (h, 11) x1 t2) (fun x4 t5 => (bd (f_X6_get (h, 12) x1 t5) (fun x7 t8 => (bd (f_X6_get (h, 19) v1 t8) (fun x10 t11 => (bv ((if ((x7 >>> (x10 &&& 31)) &&& (1 : Int32)) = (1 : Int32) then (1 : Int32) else (0 : Int32))) (fun x15 => (if x4 = 0 then (some ((0 : Int32), t11)) else (if x15 = 0 then (some ((0 : Int32), t11)) else (bd (f_X6_get (h, 27) v2 t11) (fun x18 t19 => (bv ((jmin x4 x18)) (fun x21 => (bd (f_X6_get (h, 17) v1 t19) (fun x22 t23 => (if x22 = (1 : Int32) then (some ((x21 / (2 : Int32)), t23)) else (if x22 = (2 : Int32) then (some (x21, t23)) else (if x22 = (3 : Int32) then (some (((2 : Int32) * x21), t23)) else (if x22 = (4 : Int32) then (some ((1 : Int32), t23)) else (if x22 = (5 : Int32) then (some (((x21 / (2 : Int32)) + (2 : Int32)), t23)) else (some (x21, t23)))))))))))))))))))))))))
def f_X3_pair (v0 : Int32) (v1 : Int32) (t0 : Sg) : Option (Int32 × Sg) :=
  (some (((v0 * (24 : Int32)) + v1), t0))
def f_X3_note (h : Nat) (v1 : Int32) (v2 : Int32) (v3 : Int32) (t0 : Sg) : Option (Unit × Sg) :=
  (if 0 < v3 then (bv (upS t0 (h, 20) 4 ((t0 (h, 20) 4) + v3)) (fun t2 => (bd (f_X6_get (h, 23) v1 t2) (fun x3 t4 => (bd (f_X6_set (h, 23) v1 (x3 + v3) t4) (fun _ t7 => (bd (f_X6_get (h, 24) v1 t7) (fun x9 t10 => (bd (f_X6_set (h, 24) v1 (x9 ||| ((1 : Int32) <<< (v2 &&& 31))) t10) (fun _ t13 => (bd (f_X6_get (h, 21) v1 t13) (fun x15 t16 => (bd (f_X6_set (h, 21) v1 (jmin (99999 : Int32) (x15 + v3)) t16) (fun _ t19 => (if v1 = v2 then (some ((), t19)) else (bd (f_X3_pair v1 v2 t19) (fun x22 t23 => (bd (f_X6_get (h, 22) x22 t23) (fun x25 t26 => (bd (f_X6_set (h, 22) x22 (jmin (999 : Int32) (x25 + v3)) t26) (fun _ t29 => (some ((), t29))))))))))))))))))))))) else (some ((), t0)))
def f_X2_fall_46 (h : Nat)  : Nat → Int32 → Int32 → Int32 → Sg → Option (Unit × Sg)
  | 0, _, _, _, _ => none
  | n + 1, v1, v2, v3, t0 =>
  (if (t0 (h, 25) 3) ≤ v3 then (some ((), t0)) else (bd (f_X6_get (h, 26) v3 t0) (fun x11 t12 => (bd (f_X6_get (h, 13) x11 t12) (fun x14 t15 => (bd (f_X2_harmAt h v1 v3 t15) (fun x17 t18 => (bd (f_X3_note h x14 v2 x17 t18) (fun _ t21 => (bd (f_X6_get (h, 9) x11 t21) (fun x23 t24 => (bd (f_X6_get (h, 28) v3 t24) (fun x26 t27 => (bd (f_X6_set (h, 9) x11 (x23 + x26) t27) (fun _ t30 => ((f_X2_fall_46 h n) v1 v2 (v3 + (1 : Int32)) t30))))))))))))))))
def f_X2_fall (h : Nat) (v1 : Int32) (t0 : Sg) : Option (Unit × Sg) :=
  (bd (f_X5_trace h h h v1 t0) (fun _ t2 => (bd (f_X5_hold h h h v1 t2) (fun _ t5 => (bd (f_X6_get (h, 16) v1 t5) (fun x7 t8 => (f_X2_fall_46 h fuel v1 x7 (0 : Int32) t8)))))))
def f_X2_spendWeek_48 (h : Nat) (k9 : Int32 → Sg → Option (Int32 × Sg)) (k17 : Int32 → Int32 → Sg → Option (Int32 × Sg)) (v1 : Int32) (v2 : Int32) (t0 : Sg) : Option (Int32 × Sg) :=
  (k17 v1 (v2 + (1 : Int32)) t0)
def f_X2_spendWeek_17 (h : Nat) (k9 : Int32 → Sg → Option (Int32 × Sg)) : Nat → Int32 → Int32 → Sg → Option (Int32 × Sg)
  | 0, _, _, _ => none
  | n + 1, v1, v2, t0 =>
  (if (t0 (h, 15) 0) ≤ v2 then (k9 (v1 + (1 : Int32)) t0) else (bd (f_X6_get (h, 19) v2 t0) (fun x10 t11 => (if x10 = v1 then (bd (f_X2_fall h v2 t11) (fun _ t15 => (f_X2_spendWeek_48 h k9 (f_X2_spendWeek_17 h k9 n) v1 v2 t15))) else (f_X2_spendWeek_48 h k9 (f_X2_spendWeek_17 h k9 n) v1 v2 t11)))))
def f_X2_spendWeek_9 (h : Nat)  : Nat → Int32 → Sg → Option (Int32 × Sg)
  | 0, _, _ => none
  | n + 1, v1, t0 =>
  (if (8 : Int32) ≤ v1 then (bd (f_X0_dry h t0) (fun _ t6 => (bv (upS t6 (h, 6) 4 ((t6 (h, 6) 4) + (1 : Int32))) (fun t8 => (some ((t8 (h, 20) 4), t8)))))) else (f_X2_spendWeek_17 h (f_X2_spendWeek_9 h n) fuel v1 (0 : Int32) t0))
def f_X2_spendWeek (h : Nat) (t0 : Sg) : Option (Int32 × Sg) :=
  (bd (f_X3_beginWeek h t0) (fun _ t2 => (f_X2_spendWeek_9 h fuel (0 : Int32) t2)))
def f_X3_isAngry_52 (h : Nat) (k2 : Int32 → Int32 → Sg → Option (Int32 × Sg)) (v1 : Int32) (v2 : Int32) (t0 : Sg) : Option (Int32 × Sg) :=
  (k2 v1 (v2 + (1 : Int32)) t0)
def f_X3_isAngry_2 (h : Nat)  : Nat → Int32 → Int32 → Sg → Option (Int32 × Sg)
  | 0, _, _, _ => none
  | n + 1, v1, v2, t0 =>
  (if (24 : Int32) ≤ v2 then (some ((0 : Int32), t0)) else (bd (f_X6_get (h, 24) v1 t0) (fun x2 t3 => (bv ((if ((x2 >>> (v2 &&& 31)) &&& (1 : Int32)) = (1 : Int32) then (1 : Int32) else (0 : Int32))) (fun x7 => (if x7 = 0 then (f_X3_isAngry_52 h (f_X3_isAngry_2 h n) v1 v2 t3) else (bd (f_X3_pair v1 v2 t3) (fun x9 t10 => (bd (f_X6_get (h, 22) x9 t10) (fun x12 t13 => (if x12 < (5 : Int32) then (f_X3_isAngry_52 h (f_X3_isAngry_2 h n) v1 v2 t13) else (some ((1 : Int32), t13)))))))))))))
def f_X3_isAngry (h : Nat) (v1 : Int32) (t0 : Sg) : Option (Int32 × Sg) :=
  (f_X3_isAngry_2 h fuel v1 (0 : Int32) t0)
def f_X2_takeRevenge_32 (h : Nat) (k2 : Int32 → Sg → Option (Unit × Sg)) (v1 : Int32) (t0 : Sg) : Option (Unit × Sg) :=
  (k2 (v1 + (1 : Int32)) t0)
def f_X2_takeRevenge_2 (h : Nat)  : Nat → Int32 → Sg → Option (Unit × Sg)
  | 0, _, _ => none
  | n + 1, v1, t0 =>
  (bd (f_X0_tenants h t0) (fun x1 t2 => (if x1 ≤ v1 then (some ((), t2)) else (bd (f_X3_isAngry h v1 t2) (fun x5 t6 => (if x5 = 0 then (f_X2_takeRevenge_32 h (f_X2_takeRevenge_2 h n) v1 t6) else (bd (f_X1_raise h v1 t6) (fun _ t10 => (f_X2_takeRevenge_32 h (f_X2_takeRevenge_2 h n) v1 t10)))))))))
def f_X2_takeRevenge (h : Nat) (t0 : Sg) : Option (Unit × Sg) :=
  (f_X2_takeRevenge_2 h fuel (0 : Int32) t0)
def f_X4_add (v1 : Int32) (t0 : Sg) : Option (Int32 × Sg) :=
  (if (96 : Int32) ≤ (t0 (0, 4) 1) then (some ((t0 (0, 4) 1), t0)) else (bd (f_X6_set (0, 5) (t0 (0, 4) 1) v1 t0) (fun _ t3 => (bv (upS t3 (0, 4) 1 ((t3 (0, 4) 1) + (1 : Int32))) (fun t5 => (some ((t5 (0, 4) 1), t5)))))))
def f_X4_letter (v1 : Int32) (t0 : Sg) : Option (Int32 × Sg) :=
  (if v1 < 0 then (some ((-1 : Int32), t0)) else (if (t0 (0, 4) 1) ≤ v1 then (some ((-1 : Int32), t0)) else (bd (f_X6_get (0, 5) v1 t0) (fun x3 t4 => (some (x3, t4))))))
def f_X4_digit (v1 : Int32) (t0 : Sg) : Option (Int32 × Sg) :=
  (bd (f_X4_letter v1 t0) (fun x1 t2 => (bd (f_X6_within x1 (48 : Int32) (57 : Int32) t2) (fun x4 t5 => (some ((if x4 = 0 then (-1 : Int32) else (x1 - (48 : Int32))), t5))))))
def f_X4_sign (v1 : Int32) (t0 : Sg) : Option (Int32 × Sg) :=
  (bd (f_X4_letter v1 t0) (fun x1 t2 => (if x1 = (43 : Int32) then (some ((1 : Int32), t2)) else (if x1 = (45 : Int32) then (some ((-1 : Int32), t2)) else (if x1 = (48 : Int32) then (some ((0 : Int32), t2)) else (some ((-2 : Int32), t2)))))))
def f_X4_carryOutFront_42 (h : Nat)  (v3 : Int32) (v4 : Int32) (w0 : Int32) (t0 : Sg) : Option (Int32 × Sg) :=
  (if w0 = 0 then (chk (w0 = 0 ∨ w0 = 1) ((some (w0, t0)))) else (bd (f_X2_build h v3 v4 t0) (fun _ t14 => (chk (w0 = 0 ∨ w0 = 1) ((some (w0, t14)))))))
def f_X4_carryOutFront_41 (h : Nat)  (v3 : Int32) (v4 : Int32) (t0 : Sg) : Option (Int32 × Sg) :=
  (f_X4_carryOutFront_42 h v3 v4 (0 : Int32) t0)
def f_X4_carryOutFront (v1 : Int32) (h : Nat) (t0 : Sg) : Option (Int32 × Sg) :=
  (bd (f_X4_digit (v1 + (1 : Int32)) t0) (fun x1 t2 => (bd (f_X4_digit (v1 + (2 : Int32)) t2) (fun x4 t5 => (bd (f_X6_within x1 (2 : Int32) (6 : Int32) t5) (fun x7 t8 => (if x7 = 0 then (f_X4_carryOutFront_41 h x1 x4 t8) else (bd (f_X6_within x4 (1 : Int32) (4 : Int32) t8) (fun x17 t18 => (if x17 = 0 then (f_X4_carryOutFront_41 h x1 x4 t18) else (f_X4_carryOutFront_42 h x1 x4 (1 : Int32) t18)))))))))))
def f_X6_isHour (v0 : Int32) (t0 : Sg) : Option (Int32 × Sg) :=
  (bd (f_X6_within v0 (0 : Int32) (7 : Int32) t0) (fun x1 t2 => (chk (x1 = 0 ∨ x1 = 1) ((some (x1, t2))))))
def f_X4_carryOutHabit_126 (h : Nat)  (v4 : Int32) (v5 : Int32) (v6 : Int32) (v7 : Int32) (w0 : Int32) (t0 : Sg) : Option (Int32 × Sg) :=
  (if w0 = 0 then (chk (w0 = 0 ∨ w0 = 1) ((some (w0, t0)))) else (bd (f_X4_digit (v5 + (1 : Int32)) t0) (fun x26 t27 => (bd (f_X1_add h v4 v6 x26 v7 t27) (fun _ t30 => (chk (w0 = 0 ∨ w0 = 1) ((some (w0, t30)))))))))
def f_X4_carryOutHabit_125 (h : Nat)  (v4 : Int32) (v5 : Int32) (v6 : Int32) (v7 : Int32) (t0 : Sg) : Option (Int32 × Sg) :=
  (f_X4_carryOutHabit_126 h v4 v5 v6 v7 (0 : Int32) t0)
def f_X4_carryOutHabit_48 (h : Nat)  (v1 : Int32) (v3 : Int32) (w0 : Int32) (t0 : Sg) : Option (Int32 × Sg) :=
  (bv ((if v3 = 0 then (v1 + (3 : Int32)) else (v1 + (4 : Int32)))) (fun x13 => (bd (f_X4_digit x13 t0) (fun x14 t15 => (bd (f_X4_digit (x13 + (2 : Int32)) t15) (fun x17 t18 => (bd (f_X0_tenants h t18) (fun x20 t21 => (if x20 ≤ w0 then (f_X4_carryOutHabit_125 h w0 x13 x14 x17 t21) else (if (5 : Int32) < x14 then (f_X4_carryOutHabit_125 h w0 x13 x14 x17 t21) else (bd (f_X6_isHour x17 t21) (fun x34 t35 => (if x34 = 0 then (f_X4_carryOutHabit_125 h w0 x13 x14 x17 t35) else (if (8 : Int32) ≤ (t35 (h, 15) 0) then (f_X4_carryOutHabit_125 h w0 x13 x14 x17 t35) else (f_X4_carryOutHabit_126 h w0 x13 x14 x17 (1 : Int32) t35)))))))))))))))
def f_X4_carryOutHabit (v1 : Int32) (h : Nat) (t0 : Sg) : Option (Int32 × Sg) :=
  (bd (f_X4_digit (v1 + (2 : Int32)) t0) (fun x1 t2 => (bv ((if x1 < 0 then (0 : Int32) else (1 : Int32))) (fun x6 => (if x6 = 0 then (bd (f_X4_digit (v1 + (1 : Int32)) t2) (fun x8 t9 => (f_X4_carryOutHabit_48 h v1 x6 x8 t9))) else (bd (f_X4_digit (v1 + (1 : Int32)) t2) (fun x39 t40 => (bd (f_X4_digit (v1 + (2 : Int32)) t40) (fun x42 t43 => (f_X4_carryOutHabit_48 h v1 x6 (((10 : Int32) * x39) + x42) t43))))))))))
def f_X4_hoursFrom_2   : Nat → Int32 → Int32 → Sg → Option (Int32 × Sg)
  | 0, _, _, _ => none
  | n + 1, v1, v2, t0 =>
  (if (8 : Int32) ≤ v2 then (some ((8 : Int32), t0)) else (bd (f_X4_digit (v1 + v2) t0) (fun x2 t3 => (bd (f_X6_isHour x2 t3) (fun x5 t6 => (if x5 = 0 then (some (v2, t6)) else ((f_X4_hoursFrom_2 n) v1 (v2 + (1 : Int32)) t6)))))))
def f_X4_hoursFrom (v1 : Int32) (t0 : Sg) : Option (Int32 × Sg) :=
  (f_X4_hoursFrom_2 fuel v1 (0 : Int32) t0)
def f_X4_hourBits_11   : Nat → Int32 → Int32 → Int32 → Int32 → Sg → Option (Int32 × Sg)
  | 0, _, _, _, _, _ => none
  | n + 1, v1, v2, v3, v4, t0 =>
  (if v3 ≤ v4 then (some (v2, t0)) else (bd (f_X4_digit (v1 + v4) t0) (fun x5 t6 => (bv ((v2 ||| ((1 : Int32) <<< (x5 &&& 31)))) (fun x8 => ((f_X4_hourBits_11 n) v1 x8 v3 (v4 + (1 : Int32)) t6))))))
def f_X4_hourBits (v1 : Int32) (t0 : Sg) : Option (Int32 × Sg) :=
  (bd (f_X4_hoursFrom v1 t0) (fun x1 t2 => (f_X4_hourBits_11 fuel v1 (0 : Int32) x1 (0 : Int32) t2)))
def f_X4_carryOut (v1 : Int32) (h : Nat) (t0 : Sg) : Option (Int32 × Sg) :=
  (bd (f_X4_letter v1 t0) (fun x1 t2 => (if x1 = (98 : Int32) then (bd (f_X4_sign (v1 + (1 : Int32)) t2) (fun x5 t6 => (bv (upS t6 (h, 7) 2 x5) (fun t8 => (some ((1 : Int32), t8)))))) else (bd (f_X4_letter v1 t2) (fun x9 t10 => (if x9 = (102 : Int32) then (bd (f_X4_carryOutFront v1 h t10) (fun x13 t14 => (chk (x13 = 0 ∨ x13 = 1) ((some (x13, t14)))))) else (bd (f_X4_letter v1 t10) (fun x17 t18 => (if x17 = (104 : Int32) then (bd (f_X4_carryOutHabit v1 h t18) (fun x21 t22 => (chk (x21 = 0 ∨ x21 = 1) ((some (x21, t22)))))) else (bd (f_X4_digit (v1 + (1 : Int32)) t18) (fun x25 t26 => (bd (f_X4_digit (v1 + (2 : Int32)) t26) (fun x28 t29 => (bd (f_X0_place h x25 x28 t29) (fun x31 t32 => (if 0 ≤ x31 then (bd (f_X4_letter v1 t32) (fun x35 t36 => (if x35 = (97 : Int32) then (bd (f_X4_sign (v1 + (3 : Int32)) t36) (fun x39 t40 => (bd (f_X6_set (h, 10) x31 x39 t40) (fun _ t43 => (some ((1 : Int32), t43)))))) else (if x35 = (115 : Int32) then (bd (f_X4_digit (v1 + (3 : Int32)) t36) (fun x46 t47 => (bd (f_X0_setSaucer h x31 x46 t47) (fun _ t50 => (some ((1 : Int32), t50)))))) else (bd (f_X4_digit (v1 + (3 : Int32)) t36) (fun x52 t53 => (bd (f_X4_hourBits (v1 + (4 : Int32)) t53) (fun x55 t56 => (bd (f_X0_setWashing h x31 x52 x55 t56) (fun _ t59 => (some ((1 : Int32), t59)))))))))))) else (some ((0 : Int32), t32))))))))))))))))))
def f_X4_tell_46 (h : Nat) (k4 : Int32 → Int32 → Sg → Option (Int32 × Sg)) (v2 : Int32) (v3 : Int32) (t0 : Sg) : Option (Int32 × Sg) :=
  (k4 v2 (v3 + (1 : Int32)) t0)
def f_X4_tell_28 (h : Nat) (k4 : Int32 → Int32 → Sg → Option (Int32 × Sg)) (v2 : Int32) (v3 : Int32) (t0 : Sg) : Option (Int32 × Sg) :=
  (bd (f_X4_carryOut v3 h t0) (fun x3 t4 => (if x3 = 0 then (some (((-2000 : Int32) - v3), t4)) else (f_X4_tell_46 h k4 (v2 + (1 : Int32)) v3 t4))))
def f_X4_tell_4 (h : Nat)  : Nat → Int32 → Int32 → Sg → Option (Int32 × Sg)
  | 0, _, _, _ => none
  | n + 1, v2, v3, t0 =>
  (if (t0 (0, 4) 1) ≤ v3 then (some (v2, t0)) else (if v3 = 0 then (f_X4_tell_28 h (f_X4_tell_4 h n) v2 v3 t0) else (bd (f_X4_letter (v3 - (1 : Int32)) t0) (fun x7 t8 => (if x7 = (59 : Int32) then (f_X4_tell_28 h (f_X4_tell_4 h n) v2 v3 t8) else (f_X4_tell_46 h (f_X4_tell_4 h n) v2 v3 t8))))))
def f_X4_tell (h : Nat) (t0 : Sg) : Option (Int32 × Sg) :=
  (f_X4_tell_4 h fuel (0 : Int32) (0 : Int32) t0)
def f_X4_formOf (v0 : Int32) (t0 : Sg) : Option ((Nat × Nat) × Sg) :=
  (if v0 = (97 : Int32) then (some (((5, 2) : Nat × Nat), t0)) else (if v0 = (98 : Int32) then (some (((5, 4) : Nat × Nat), t0)) else (if v0 = (102 : Int32) then (some (((5, 0) : Nat × Nat), t0)) else (if v0 = (104 : Int32) then (some (((5, 5) : Nat × Nat), t0)) else (if v0 = (115 : Int32) then (some (((5, 1) : Nat × Nat), t0)) else (if v0 = (119 : Int32) then (some (((5, 3) : Nat × Nat), t0)) else (some (((5, 6) : Nat × Nat), t0))))))))
def f_X4_lengthOf (v1 : Int32) (v2 : Int32) (t0 : Sg) : Option (Int32 × Sg) :=
  (if v1 = (100 : Int32) then (bd (f_X4_digit v2 t0) (fun x2 t3 => (some ((if x2 < 0 then (-1 : Int32) else (1 : Int32)), t3)))) else (if v1 = (104 : Int32) then (bd (f_X4_hoursFrom v2 t0) (fun x8 t9 => (some (x8, t9)))) else (if v1 = (111 : Int32) then (bd (f_X4_digit v2 t0) (fun x12 t13 => (some ((if x12 < 0 then (0 : Int32) else (1 : Int32)), t13)))) else (if v1 = (115 : Int32) then (bd (f_X4_sign v2 t0) (fun x18 t19 => (some ((if x18 = (-2 : Int32) then (-1 : Int32) else (1 : Int32)), t19)))) else (bd (f_X4_letter v2 t0) (fun x23 t24 => (some ((if x23 = v1 then (1 : Int32) else (-1 : Int32)), t24))))))))
def f_X4_statementEnd_27   : Nat → (Nat × Nat) → Int32 → Int32 → Sg → Option (Int32 × Sg)
  | 0, _, _, _, _ => none
  | n + 1, v2, v3, v4, t0 =>
  (chk (isStr v2) ((bd (f_J0_length_8abf5 v2 t0) (fun x15 t16 => (if x15 ≤ v4 then (chk (isStr v2) ((bd (f_J0_isEmpty_aae02 v2 t16) (fun x20 t21 => (some ((if x20 = 0 then v3 else ((-1 : Int32) - v3)), t21)))))) else (chk (isStr v2) ((bd (f_J0_charAt_5068e v2 v4 t16) (fun x26 t27 => (bd (f_X4_lengthOf x26 v3 t27) (fun x29 t30 => (if 0 ≤ x29 then (bv ((v3 + x29)) (fun x33 => ((f_X4_statementEnd_27 n) v2 x33 (v4 + (1 : Int32)) t30))) else (some (((-1 : Int32) - v3), t30))))))))))))))
def f_X4_statementEnd (v1 : Int32) (t0 : Sg) : Option (Int32 × Sg) :=
  (bd (f_X4_letter v1 t0) (fun x1 t2 => (bd (f_X4_formOf x1 t2) (fun x4 t5 => (chk (isStr x4) ((bd (f_J0_isEmpty_aae02 x4 t5) (fun x8 t9 => (bv ((if x8 = 0 then (v1 + (1 : Int32)) else v1)) (fun x13 => (f_X4_statementEnd_27 fuel x4 x13 (0 : Int32) t9)))))))))))
def f_X4_formFault_4   : Nat → Int32 → Int32 → Sg → Option (Int32 × Sg)
  | 0, _, _, _ => none
  | n + 1, v1, v2, t0 =>
  (if (96 : Int32) ≤ v2 then (some (v1, t0)) else (bd (f_X4_statementEnd v1 t0) (fun x2 t3 => (if 0 ≤ x2 then (if x2 < (t3 (0, 4) 1) then ((f_X4_formFault_4 n) x2 (v2 + (1 : Int32)) t3) else (some ((-1 : Int32), t3))) else (some (((-1 : Int32) - x2), t3))))))
def f_X4_formFault  (t0 : Sg) : Option (Int32 × Sg) :=
  (f_X4_formFault_4 fuel (0 : Int32) (0 : Int32) t0)
def f_X5_comesTo_2 (h : Nat)  : Nat → Int32 → Int32 → Sg → Option (Int32 × Sg)
  | 0, _, _, _ => none
  | n + 1, v1, v2, t0 =>
  (if (t0 (h, 25) 3) ≤ v2 then (some ((0 : Int32), t0)) else (bd (f_X6_get (h, 26) v2 t0) (fun x2 t3 => (if x2 = v1 then (some ((1 : Int32), t3)) else ((f_X5_comesTo_2 h n) v1 (v2 + (1 : Int32)) t3)))))
def f_X5_comesTo (h : Nat) (v1 : Int32) (t0 : Sg) : Option (Int32 × Sg) :=
  (f_X5_comesTo_2 h fuel v1 (0 : Int32) t0)
def f_X6_sum_4 (i0 : Nat × Nat)  : Nat → Int32 → Int32 → Sg → Option (Int32 × Sg)
  | 0, _, _, _ => none
  | n + 1, v1, v2, t0 =>
  (if (Int32.ofNat (alen i0)) ≤ v2 then (some (v1, t0)) else (chk (inb v2 (alen i0)) ((bv ((v1 + (t0 i0 (v2).toNatClampNeg))) (fun x3 => ((f_X6_sum_4 i0 n) x3 (v2 + (1 : Int32)) t0))))))
def f_X6_sum (i0 : Nat × Nat) (t0 : Sg) : Option (Int32 × Sg) :=
  (f_X6_sum_4 i0 fuel (0 : Int32) (0 : Int32) t0)
def f_X6_refuse (v1 : Int32) (t0 : Sg) : Option (Int32 × Sg) :=
  (bd (f_X6_get (0, 2) (-v1) t0) (fun x1 t2 => (bd (f_X6_set (0, 2) (-v1) (x1 + (1 : Int32)) t2) (fun _ t5 => (some (v1, t5))))))
def f_X6_isTenant (v1 : Int32) (t0 : Sg) : Option (Int32 × Sg) :=
  (bd (f_X0_tenants 1 t0) (fun x1 t2 => (bd (f_X6_within v1 (0 : Int32) (x1 - (1 : Int32)) t2) (fun x4 t5 => (chk (x4 = 0 ∨ x4 = 1) ((some (x4, t5))))))))
def f_X6_isHabit (v1 : Int32) (t0 : Sg) : Option (Int32 × Sg) :=
  (bd (f_X6_within v1 (0 : Int32) ((t0 (1, 15) 0) - (1 : Int32)) t0) (fun x1 t2 => (chk (x1 = 0 ∨ x1 = 1) ((some (x1, t2))))))
def f_X6_tryAnew  (t0 : Sg) : Option (Unit × Sg) :=
  (bd (f_X0_copyFrom 3 1 t0) (fun _ t2 => (bd (f_X1_copyFrom 3 1 t2) (fun _ t5 => (some ((), t5))))))
def f_X6_tryAsIs  (t0 : Sg) : Option (Int32 × Sg) :=
  (bd (f_X6_tryAnew t0) (fun _ t2 => (bd (f_X2_spendWeek 3 t2) (fun x4 t5 => (bd (f_X6_copy (3, 23) (0, 3) t5) (fun _ t8 => (some (x4, t8))))))))
def f_X6_tryHour (v1 : Int32) (v2 : Int32) (t0 : Sg) : Option (Int32 × Sg) :=
  (bd (f_X6_tryAnew t0) (fun _ t2 => (bd (f_X6_set (3, 19) v1 v2 t2) (fun _ t5 => (bd (f_X2_spendWeek 3 t5) (fun x7 t8 => (some (x7, t8))))))))
def f_X6_tryQuiet (v1 : Int32) (v2 : Int32) (t0 : Sg) : Option (Int32 × Sg) :=
  (bd (f_X6_tryAnew t0) (fun _ t2 => (bd (f_X1_putOff 3 v1 v2 t2) (fun _ t5 => (bd (f_X2_spendWeek 3 t5) (fun x7 t8 => (some (x7, t8))))))))
def f_X6_tryAwning (v1 : Int32) (v2 : Int32) (t0 : Sg) : Option (Int32 × Sg) :=
  (bd (f_X6_tryAnew t0) (fun _ t2 => (bd (f_X6_set (3, 10) v1 v2 t2) (fun _ t5 => (bd (f_X2_spendWeek 3 t5) (fun x7 t8 => (some (x7, t8))))))))
def f_X6_doneTo (v1 : Int32) (t0 : Sg) : Option (Int32 × Sg) :=
  (bd (f_X6_get (3, 23) v1 t0) (fun x1 t2 => (some (x1, t2))))
def f_X6_gain (v1 : Int32) (t0 : Sg) : Option (Int32 × Sg) :=
  (bd (f_X6_get (0, 3) v1 t0) (fun x1 t2 => (bd (f_X6_doneTo v1 t2) (fun x4 t5 => (some ((x1 - x4), t5))))))
def f_X6_feed_30    (t0 : Sg) : Option (Int32 × Sg) :=
  (bd (f_X6_refuse (-6 : Int32) t0) (fun x3 t4 => (some (x3, t4))))
def f_X6_feed (v1 : Int32) (t0 : Sg) : Option (Int32 × Sg) :=
  (if 0 ≤ v1 then (if (255 : Int32) < v1 then (f_X6_feed_30 t0) else (if (t0 (0, 4) 1) < (96 : Int32) then (bd (f_X4_add v1 t0) (fun x7 t8 => (some (x7, t8)))) else (f_X6_feed_30 t0))) else (bd (f_X6_refuse (-4 : Int32) t0) (fun x10 t11 => (some (x10, t11)))))
def f_X6_front_56   (v2 : Int32) (t0 : Sg) : Option (Int32 × Sg) :=
  (bv (upS t0 (0, 4) 1 (0 : Int32)) (fun t7 => (some (v2, t7))))
def f_X6_front_41   (v2 : Int32) (t0 : Sg) : Option (Int32 × Sg) :=
  (if v2 < 0 then (f_X6_front_56 v2 t0) else (bd (f_X2_copyFrom 1 3 t0) (fun _ t9 => (f_X6_front_56 v2 t9))))
def f_X6_front  (t0 : Sg) : Option (Int32 × Sg) :=
  (bd (f_X4_formFault t0) (fun x1 t2 => (bv (((-1000 : Int32) - x1)) (fun x4 => (if 0 ≤ x1 then (f_X6_front_41 x4 t2) else (bd (f_X2_copyFrom 3 1 t2) (fun _ t12 => (bd (f_X4_tell 3 t12) (fun x14 t15 => (f_X6_front_41 x14 t15))))))))))
def f_X6_flat (v1 : Int32) (v2 : Int32) (t0 : Sg) : Option (Int32 × Sg) :=
  (bd (f_X0_placeOf 1 v1 t0) (fun x1 t2 => (if 0 ≤ x1 then (if v2 = (0 : Int32) then (bd (f_X6_get (1, 8) x1 t2) (fun x6 t7 => (some (x6, t7)))) else (if v2 = (1 : Int32) then (bd (f_X6_get (1, 9) x1 t2) (fun x10 t11 => (some (x10, t11)))) else (if v2 = (2 : Int32) then (bd (f_X6_get (1, 10) x1 t2) (fun x14 t15 => (some ((x14 + (1 : Int32)), t15)))) else (if v2 = (3 : Int32) then (bd (f_X6_get (1, 11) x1 t2) (fun x18 t19 => (some (x18, t19)))) else (if v2 = (4 : Int32) then (bd (f_X6_get (1, 12) x1 t2) (fun x22 t23 => (some (x22, t23)))) else (if v2 = (5 : Int32) then (bd (f_X6_get (1, 13) x1 t2) (fun x26 t27 => (some (x26, t27)))) else (bd (f_X6_refuse (-2 : Int32) t2) (fun x29 t30 => (some (x29, t30)))))))))) else (bd (f_X6_refuse (-1 : Int32) t2) (fun x32 t33 => (some (x32, t33)))))))
def f_X6_tenant (v1 : Int32) (v2 : Int32) (t0 : Sg) : Option (Int32 × Sg) :=
  (bd (f_X6_isTenant v1 t0) (fun x1 t2 => (if x1 = 0 then (bd (f_X6_refuse (-1 : Int32) t2) (fun x5 t6 => (some (x5, t6)))) else (if v2 = (0 : Int32) then (bd (f_X6_get (1, 14) v1 t2) (fun x9 t10 => (bd (f_X0_flatAt x9 t10) (fun x12 t13 => (some (x12, t13)))))) else (if v2 = (1 : Int32) then (bd (f_X6_get (1, 21) v1 t2) (fun x16 t17 => (some (x16, t17)))) else (if v2 = (2 : Int32) then (bd (f_X1_countOf 1 v1 t2) (fun x20 t21 => (some (x20, t21)))) else (bd (f_X6_refuse (-2 : Int32) t2) (fun x23 t24 => (some (x23, t24))))))))))
def f_X6_anger_21    (t0 : Sg) : Option (Int32 × Sg) :=
  (bd (f_X6_refuse (-1 : Int32) t0) (fun x5 t6 => (some (x5, t6))))
def f_X6_anger (v1 : Int32) (v2 : Int32) (t0 : Sg) : Option (Int32 × Sg) :=
  (bd (f_X6_isTenant v1 t0) (fun x1 t2 => (if x1 = 0 then (f_X6_anger_21 t2) else (bd (f_X6_isTenant v2 t2) (fun x8 t9 => (if x8 = 0 then (f_X6_anger_21 t9) else (if v1 = v2 then (f_X6_anger_21 t9) else (bd (f_X3_pair v1 v2 t9) (fun x13 t14 => (bd (f_X6_get (1, 22) x13 t14) (fun x16 t17 => (some (x16, t17)))))))))))))
def f_X6_habit (v1 : Int32) (v2 : Int32) (t0 : Sg) : Option (Int32 × Sg) :=
  (bd (f_X6_isHabit v1 t0) (fun x1 t2 => (if x1 = 0 then (bd (f_X6_refuse (-1 : Int32) t2) (fun x5 t6 => (some (x5, t6)))) else (if v2 = (0 : Int32) then (bd (f_X6_get (1, 16) v1 t2) (fun x9 t10 => (some (x9, t10)))) else (if v2 = (1 : Int32) then (bd (f_X6_get (1, 17) v1 t2) (fun x13 t14 => (some (x13, t14)))) else (if v2 = (2 : Int32) then (bd (f_X6_get (1, 18) v1 t2) (fun x17 t18 => (some (x17, t18)))) else (if v2 = (3 : Int32) then (bd (f_X6_get (1, 19) v1 t2) (fun x21 t22 => (some (x21, t22)))) else (bd (f_X6_refuse (-2 : Int32) t2) (fun x24 t25 => (some (x24, t25)))))))))))
def f_X6_count (v1 : Int32) (t0 : Sg) : Option (Int32 × Sg) :=
  (bd (f_X6_within v1 (11 : Int32) (16 : Int32) t0) (fun x1 t2 => (if x1 = 0 then (if v1 = (0 : Int32) then (some ((t2 (1, 7) 0), t2)) else (if v1 = (1 : Int32) then (some ((t2 (1, 7) 1), t2)) else (if v1 = (2 : Int32) then (some ((t2 (1, 15) 0), t2)) else (if v1 = (3 : Int32) then (some ((t2 (1, 6) 4), t2)) else (if v1 = (4 : Int32) then (some (((t2 (1, 7) 2) + (1 : Int32)), t2)) else (if v1 = (5 : Int32) then (bd (f_X6_sum (1, 9) t2) (fun x11 t12 => (some (x11, t12)))) else (if v1 = (6 : Int32) then (bd (f_X6_sum (1, 21) t2) (fun x15 t16 => (some (x15, t16)))) else (if v1 = (7 : Int32) then (bd (f_X6_sum (1, 22) t2) (fun x19 t20 => (some (x19, t20)))) else (if v1 = (8 : Int32) then (some ((t2 (0, 4) 1), t2)) else (if v1 = (9 : Int32) then (some ((t2 (0, 0) 7), t2)) else (some ((-9 : Int32), t2)))))))))))) else (bd (f_X6_get (0, 2) (v1 - (10 : Int32)) t2) (fun x24 t25 => (some (x24, t25)))))))
def f_X6_put (v1 : Int32) (v2 : Int32) (t0 : Sg) : Option (Int32 × Sg) :=
  (bd (f_X6_isHabit v1 t0) (fun x1 t2 => (if x1 = 0 then (bd (f_X6_refuse (-1 : Int32) t2) (fun x5 t6 => (some (x5, t6)))) else (bd (f_X6_isHour v2 t2) (fun x8 t9 => (if x8 = 0 then (bd (f_X6_refuse (-2 : Int32) t9) (fun x12 t13 => (some (x12, t13)))) else (bd (f_X6_get (1, 19) v1 t9) (fun x15 t16 => (bd (f_X6_set (1, 19) v1 v2 t16) (fun _ t19 => (some (x15, t19))))))))))))
def f_X6_saucer (v1 : Int32) (v2 : Int32) (t0 : Sg) : Option (Int32 × Sg) :=
  (bd (f_X0_placeOf 1 v1 t0) (fun x1 t2 => (if 0 ≤ x1 then (if 0 ≤ v2 then (if v2 ≤ (9 : Int32) then (bd (f_X6_get (1, 8) x1 t2) (fun x7 t8 => (bd (f_X0_setSaucer 1 x1 v2 t8) (fun _ t11 => (some (x7, t11)))))) else (bd (f_X6_refuse (-6 : Int32) t2) (fun x13 t14 => (some (x13, t14))))) else (bd (f_X6_refuse (-4 : Int32) t2) (fun x16 t17 => (some (x16, t17))))) else (bd (f_X6_refuse (-1 : Int32) t2) (fun x19 t20 => (some (x19, t20)))))))
def f_X6_awning (v1 : Int32) (v2 : Int32) (t0 : Sg) : Option (Int32 × Sg) :=
  (bd (f_X0_placeOf 1 v1 t0) (fun x1 t2 => (if 0 ≤ x1 then (if (-1 : Int32) ≤ v2 then (if v2 ≤ (1 : Int32) then (bd (f_X6_get (1, 10) x1 t2) (fun x7 t8 => (bd (f_X6_set (1, 10) x1 v2 t8) (fun _ t11 => (some ((x7 + (1 : Int32)), t11)))))) else (bd (f_X6_refuse (-6 : Int32) t2) (fun x13 t14 => (some (x13, t14))))) else (bd (f_X6_refuse (-4 : Int32) t2) (fun x16 t17 => (some (x16, t17))))) else (bd (f_X6_refuse (-1 : Int32) t2) (fun x19 t20 => (some (x19, t20)))))))
def f_X6_wash_32    (t0 : Sg) : Option (Int32 × Sg) :=
  (bd (f_X6_refuse (-4 : Int32) t0) (fun x6 t7 => (some (x6, t7))))
def f_X6_wash_52    (t0 : Sg) : Option (Int32 × Sg) :=
  (bd (f_X6_refuse (-6 : Int32) t0) (fun x11 t12 => (some (x11, t12))))
def f_X6_wash (v1 : Int32) (v2 : Int32) (v3 : Int32) (t0 : Sg) : Option (Int32 × Sg) :=
  (bd (f_X0_placeOf 1 v1 t0) (fun x1 t2 => (if 0 ≤ x1 then (if v2 < 0 then (f_X6_wash_32 t2) else (if 0 ≤ v3 then (if (9 : Int32) < v2 then (f_X6_wash_52 t2) else (if v3 ≤ (255 : Int32) then (bd (f_X6_get (1, 11) x1 t2) (fun x15 t16 => (bd (f_X0_setWashing 1 x1 v2 v3 t16) (fun _ t19 => (some (x15, t19)))))) else (f_X6_wash_52 t2))) else (f_X6_wash_32 t2))) else (bd (f_X6_refuse (-1 : Int32) t2) (fun x21 t22 => (some (x21, t22)))))))
def f_X6_wind (v1 : Int32) (t0 : Sg) : Option (Int32 × Sg) :=
  (if (-1 : Int32) ≤ v1 then (if v1 ≤ (1 : Int32) then (bv ((t0 (1, 7) 2)) (fun x3 => (bv (upS t0 (1, 7) 2 v1) (fun t4 => (some ((x3 + (1 : Int32)), t4)))))) else (bd (f_X6_refuse (-6 : Int32) t0) (fun x5 t6 => (some (x5, t6))))) else (bd (f_X6_refuse (-4 : Int32) t0) (fun x8 t9 => (some (x8, t9)))))
def f_X6_move_21    (t0 : Sg) : Option (Int32 × Sg) :=
  (bd (f_X6_refuse (-1 : Int32) t0) (fun x5 t6 => (some (x5, t6))))
def f_X6_move (v1 : Int32) (v2 : Int32) (t0 : Sg) : Option (Int32 × Sg) :=
  (bd (f_X6_isTenant v1 t0) (fun x1 t2 => (if x1 = 0 then (f_X6_move_21 t2) else (bd (f_X6_isTenant v2 t2) (fun x8 t9 => (if x8 = 0 then (f_X6_move_21 t9) else (if v1 = v2 then (f_X6_move_21 t9) else (bd (f_X0_change 1 v1 v2 t9) (fun _ t14 => (bd (f_X6_get (1, 14) v1 t14) (fun x16 t17 => (bd (f_X0_flatAt x16 t17) (fun x19 t20 => (some (x19, t20)))))))))))))))
def f_X6_rain  (t0 : Sg) : Option (Int32 × Sg) :=
  (bd (f_X6_sum (1, 9) t0) (fun x1 t2 => (bd (f_J7_fill_53178 (1, 9) (0 : Int32) t2) (fun _ t5 => (some (x1, t5))))))
def f_X6_week  (t0 : Sg) : Option (Int32 × Sg) :=
  (if (t0 (1, 6) 4) < (9999 : Int32) then (bd (f_X2_spendWeek 1 t0) (fun x2 t3 => (some (x2, t3)))) else (bd (f_X6_refuse (-6 : Int32) t0) (fun x5 t6 => (some (x5, t6)))))
def f_X6_steps (v1 : Int32) (v2 : Int32) (t0 : Sg) : Option (Int32 × Sg) :=
  (bd (f_X6_isHabit v1 t0) (fun x1 t2 => (if x1 = 0 then (bd (f_X6_refuse (-1 : Int32) t2) (fun x5 t6 => (some (x5, t6)))) else (if (-1 : Int32) ≤ v2 then (bd (f_X2_follow 1 v1 t2) (fun _ t10 => (if v2 = (-1 : Int32) then (some ((t10 (1, 25) 3), t10)) else (if (t10 (1, 25) 3) ≤ v2 then (some ((-9 : Int32), t10)) else (bd (f_X6_get (1, 26) v2 t10) (fun x14 t15 => (bd (f_X0_flatAt x14 t15) (fun x17 t18 => (some (x17, t18)))))))))) else (bd (f_X6_refuse (-4 : Int32) t2) (fun x20 t21 => (some (x20, t21))))))))
def f_X6_down (v1 : Int32) (t0 : Sg) : Option (Int32 × Sg) :=
  (bd (f_X6_isHabit v1 t0) (fun x1 t2 => (if x1 = 0 then (bd (f_X6_refuse (-1 : Int32) t2) (fun x5 t6 => (some (x5, t6)))) else (bd (f_X2_follow 1 v1 t2) (fun _ t9 => (if (t9 (1, 25) 3) ≤ 0 then (some ((-9 : Int32), t9)) else (bd (f_X6_get (1, 26) ((t9 (1, 25) 3) - (1 : Int32)) t9) (fun x12 t13 => (bd (f_X0_flatAt x12 t13) (fun x15 t16 => (some (x15, t16))))))))))))
def f_X6_whom_101  (k42 : Int32 → Int32 → Int32 → Int32 → Sg → Option (Int32 × Sg)) (v2 : Int32) (v3 : Int32) (v4 : Int32) (v5 : Int32) (t0 : Sg) : Option (Int32 × Sg) :=
  (k42 v2 v3 v4 (v5 + (1 : Int32)) t0)
def f_X6_whom_42   : Nat → Int32 → Int32 → Int32 → Int32 → Sg → Option (Int32 × Sg)
  | 0, _, _, _, _, _ => none
  | n + 1, v2, v3, v4, v5, t0 =>
  (if (t0 (1, 15) 0) ≤ v5 then (some (v4, t0)) else (bd (f_X6_get (1, 19) v5 t0) (fun x13 t14 => (if x13 = v2 then (bd (f_X2_trace 1 v5 t14) (fun _ t18 => (bd (f_X5_comesTo 1 v3 t18) (fun x20 t21 => (if x20 = 0 then (f_X6_whom_101 (f_X6_whom_42 n) v2 v3 v4 v5 t21) else (bv ((v4 ||| ((1 : Int32) <<< (v5 &&& 31)))) (fun x24 => (f_X6_whom_101 (f_X6_whom_42 n) v2 v3 x24 v5 t21)))))))) else (f_X6_whom_101 (f_X6_whom_42 n) v2 v3 v4 v5 t14)))))
def f_X6_whom (v1 : Int32) (v2 : Int32) (t0 : Sg) : Option (Int32 × Sg) :=
  (bd (f_X0_placeOf 1 v1 t0) (fun x1 t2 => (if 0 ≤ x1 then (bd (f_X6_isHour v2 t2) (fun x5 t6 => (if x5 = 0 then (bd (f_X6_refuse (-2 : Int32) t6) (fun x9 t10 => (some (x9, t10)))) else (f_X6_whom_42 fuel v2 x1 (0 : Int32) (0 : Int32) t6)))) else (bd (f_X6_refuse (-1 : Int32) t2) (fun x25 t26 => (some (x25, t26)))))))
def f_X6_does_16    (t0 : Sg) : Option (Int32 × Sg) :=
  (bd (f_X6_refuse (-1 : Int32) t0) (fun x5 t6 => (some (x5, t6))))
def f_X6_does_87  (k37 : Int32 → Int32 → Int32 → Int32 → Sg → Option (Int32 × Sg)) (v1 : Int32) (v2 : Int32) (v4 : Int32) (v5 : Int32) (t0 : Sg) : Option (Int32 × Sg) :=
  (k37 v1 v2 v4 (v5 + (1 : Int32)) t0)
def f_X6_does_37   : Nat → Int32 → Int32 → Int32 → Int32 → Sg → Option (Int32 × Sg)
  | 0, _, _, _, _, _ => none
  | n + 1, v1, v2, v4, v5, t0 =>
  (if (t0 (1, 25) 3) ≤ v5 then (some (v4, t0)) else (bd (f_X6_get (1, 26) v5 t0) (fun x16 t17 => (bd (f_X6_get (1, 13) x16 t17) (fun x19 t20 => (if x19 = v2 then (bd (f_X2_harmAt 1 v1 v5 t20) (fun x23 t24 => (bv ((v4 + x23)) (fun x26 => (f_X6_does_87 (f_X6_does_37 n) v1 v2 x26 v5 t24))))) else (f_X6_does_87 (f_X6_does_37 n) v1 v2 v4 v5 t20)))))))
def f_X6_does (v1 : Int32) (v2 : Int32) (t0 : Sg) : Option (Int32 × Sg) :=
  (bd (f_X6_isHabit v1 t0) (fun x1 t2 => (if x1 = 0 then (f_X6_does_16 t2) else (bd (f_X6_isTenant v2 t2) (fun x8 t9 => (if x8 = 0 then (f_X6_does_16 t9) else (bd (f_X2_follow 1 v1 t9) (fun _ t13 => (f_X6_does_37 fuel v1 v2 (0 : Int32) (0 : Int32) t13)))))))))
def f_X6_harmed_84  (k53 : Int32 → Int32 → Int32 → Int32 → Sg → Option (Int32 × Sg)) (v1 : Int32) (v2 : Int32) (v4 : Int32) (w0 : Int32) (w1 : Int32) (t0 : Sg) : Option (Int32 × Sg) :=
  (bv ((w1 + w0)) (fun x12 => (k53 v1 v2 x12 (v4 + (1 : Int32)) t0)))
def f_X6_harmed_53   : Nat → Int32 → Int32 → Int32 → Int32 → Sg → Option (Int32 × Sg)
  | 0, _, _, _, _, _ => none
  | n + 1, v1, v2, v3, v4, t0 =>
  (if v2 ≤ v4 then (some (v3, t0)) else (bd (f_X2_spendWeek 3 t0) (fun x8 t9 => (if v1 = (-1 : Int32) then (f_X6_harmed_84 (f_X6_harmed_53 n) v1 v2 v4 x8 v3 t9) else (bd (f_X6_doneTo v1 t9) (fun x13 t14 => (f_X6_harmed_84 (f_X6_harmed_53 n) v1 v2 v4 x13 v3 t14)))))))
def f_X6_harmed_19   (v1 : Int32) (v2 : Int32) (t0 : Sg) : Option (Int32 × Sg) :=
  (if (1 : Int32) ≤ v2 then (if v2 ≤ (20 : Int32) then (bd (f_X6_tryAnew t0) (fun _ t5 => (f_X6_harmed_53 fuel v1 v2 (0 : Int32) (0 : Int32) t5))) else (bd (f_X6_refuse (-6 : Int32) t0) (fun x16 t17 => (some (x16, t17))))) else (bd (f_X6_refuse (-4 : Int32) t0) (fun x19 t20 => (some (x19, t20)))))
def f_X6_harmed (v1 : Int32) (v2 : Int32) (t0 : Sg) : Option (Int32 × Sg) :=
  (if v1 = (-1 : Int32) then (f_X6_harmed_19 v1 v2 t0) else (bd (f_X6_isTenant v1 t0) (fun x22 t23 => (if x22 = 0 then (bd (f_X6_refuse (-1 : Int32) t23) (fun x26 t27 => (some (x26, t27)))) else (f_X6_harmed_19 v1 v2 t23)))))
def f_X6_least_73  (k43 : Int32 → Int32 → Int32 → Int32 → Int32 → Sg → Option (Int32 × Sg)) (v1 : Int32) (v2 : Int32) (v3 : Int32) (v4 : Int32) (v5 : Int32) (t0 : Sg) : Option (Int32 × Sg) :=
  (k43 v1 v2 v3 v4 (v5 + (1 : Int32)) t0)
def f_X6_least_43   : Nat → Int32 → Int32 → Int32 → Int32 → Int32 → Sg → Option (Int32 × Sg)
  | 0, _, _, _, _, _, _ => none
  | n + 1, v1, v2, v3, v4, v5, t0 =>
  (if (8 : Int32) ≤ v5 then (some ((if v2 = 0 then v3 else v4), t0)) else (bd (f_X6_tryHour v1 v5 t0) (fun x15 t16 => (if v4 ≤ x15 then (f_X6_least_73 (f_X6_least_43 n) v1 v2 v3 v4 v5 t16) else (f_X6_least_73 (f_X6_least_43 n) v1 v2 v5 x15 v5 t16)))))
def f_X6_least_30   (v1 : Int32) (v2 : Int32) (t0 : Sg) : Option (Int32 × Sg) :=
  (bd (f_X6_tryHour v1 (0 : Int32) t0) (fun x9 t10 => (f_X6_least_43 fuel v1 v2 (0 : Int32) x9 (1 : Int32) t10)))
def f_X6_least (v1 : Int32) (v2 : Int32) (t0 : Sg) : Option (Int32 × Sg) :=
  (bd (f_X6_isHabit v1 t0) (fun x1 t2 => (if x1 = 0 then (bd (f_X6_refuse (-1 : Int32) t2) (fun x5 t6 => (some (x5, t6)))) else (if v2 = 0 then (f_X6_least_30 v1 v2 t2) else (if v2 = (1 : Int32) then (f_X6_least_30 v1 v2 t2) else (bd (f_X6_refuse (-2 : Int32) t2) (fun x20 t21 => (some (x20, t21)))))))))
def f_X6_hours_21    (t0 : Sg) : Option (Int32 × Sg) :=
  (bd (f_X6_refuse (-1 : Int32) t0) (fun x5 t6 => (some (x5, t6))))
def f_X6_hours_143  (k53 : Int32 → Int32 → Int32 → Int32 → Int32 → Int32 → Sg → Option (Int32 × Sg)) (k63 : Int32 → Int32 → Int32 → Int32 → Int32 → Int32 → Int32 → Sg → Option (Int32 × Sg)) (v1 : Int32) (v2 : Int32) (v3 : Int32) (v4 : Int32) (v5 : Int32) (v6 : Int32) (v7 : Int32) (t0 : Sg) : Option (Int32 × Sg) :=
  (k63 v1 v2 v3 v4 v5 v6 (v7 + (1 : Int32)) t0)
def f_X6_hours_129  (k53 : Int32 → Int32 → Int32 → Int32 → Int32 → Int32 → Sg → Option (Int32 × Sg)) (k63 : Int32 → Int32 → Int32 → Int32 → Int32 → Int32 → Int32 → Sg → Option (Int32 × Sg)) (v1 : Int32) (v2 : Int32) (v3 : Int32) (v6 : Int32) (v7 : Int32) (v8 : Int32) (t0 : Sg) : Option (Int32 × Sg) :=
  (bv ((((10 : Int32) * v6) + v7)) (fun x31 => (f_X6_hours_143 k53 k63 v1 v2 v3 x31 v8 v6 v7 t0)))
def f_X6_hours_63  (k53 : Int32 → Int32 → Int32 → Int32 → Int32 → Int32 → Sg → Option (Int32 × Sg)) : Nat → Int32 → Int32 → Int32 → Int32 → Int32 → Int32 → Int32 → Sg → Option (Int32 × Sg)
  | 0, _, _, _, _, _, _, _, _ => none
  | n + 1, v1, v2, v3, v4, v5, v6, v7, t0 =>
  (if (8 : Int32) ≤ v7 then (k53 v1 v2 v3 v4 v5 (v6 + (1 : Int32)) t0) else (bd (f_X6_tryAnew t0) (fun _ t19 => (bd (f_X6_set (3, 19) v1 v6 t19) (fun _ t22 => (bd (f_X6_set (3, 19) v2 v7 t22) (fun _ t25 => (bd (f_X2_spendWeek 3 t25) (fun x27 t28 => (if v4 = (-9 : Int32) then (f_X6_hours_129 k53 (f_X6_hours_63 k53 n) v1 v2 v3 v6 v7 x27 t28) else (if v5 ≤ x27 then (f_X6_hours_143 k53 (f_X6_hours_63 k53 n) v1 v2 v3 v4 v5 v6 v7 t28) else (f_X6_hours_129 k53 (f_X6_hours_63 k53 n) v1 v2 v3 v6 v7 x27 t28))))))))))))
def f_X6_hours_53   : Nat → Int32 → Int32 → Int32 → Int32 → Int32 → Int32 → Sg → Option (Int32 × Sg)
  | 0, _, _, _, _, _, _, _ => none
  | n + 1, v1, v2, v3, v4, v5, v6, t0 =>
  (if (8 : Int32) ≤ v6 then (some ((if v3 = 0 then v4 else v5), t0)) else (f_X6_hours_63 (f_X6_hours_53 n) fuel v1 v2 v3 v4 v5 v6 (0 : Int32) t0))
def f_X6_hours_43   (v1 : Int32) (v2 : Int32) (v3 : Int32) (t0 : Sg) : Option (Int32 × Sg) :=
  (f_X6_hours_53 fuel v1 v2 v3 (-9 : Int32) (0 : Int32) (0 : Int32) t0)
def f_X6_hours (v1 : Int32) (v2 : Int32) (v3 : Int32) (t0 : Sg) : Option (Int32 × Sg) :=
  (bd (f_X6_isHabit v1 t0) (fun x1 t2 => (if x1 = 0 then (f_X6_hours_21 t2) else (bd (f_X6_isHabit v2 t2) (fun x8 t9 => (if x8 = 0 then (f_X6_hours_21 t9) else (if v1 = v2 then (f_X6_hours_21 t9) else (if v3 = 0 then (f_X6_hours_43 v1 v2 v3 t9) else (if v3 = (1 : Int32) then (f_X6_hours_43 v1 v2 v3 t9) else (bd (f_X6_refuse (-2 : Int32) t9) (fun x34 t35 => (some (x34, t35)))))))))))))
def f_X6_quiet_14    (t0 : Sg) : Option (Int32 × Sg) :=
  (bd (f_X6_refuse (-2 : Int32) t0) (fun x5 t6 => (some (x5, t6))))
def f_X6_quiet (v1 : Int32) (v2 : Int32) (t0 : Sg) : Option (Int32 × Sg) :=
  (bd (f_X6_isHour v1 t0) (fun x1 t2 => (if x1 = 0 then (f_X6_quiet_14 t2) else (bd (f_X6_isHour v2 t2) (fun x8 t9 => (if x8 = 0 then (f_X6_quiet_14 t9) else (if v1 ≤ v2 then (bd (f_X6_tryQuiet v1 v2 t9) (fun x13 t14 => (some (x13, t14)))) else (bd (f_X6_refuse (-3 : Int32) t9) (fun x16 t17 => (some (x16, t17)))))))))))
def f_X6_rule_52  (k10 : Int32 → Int32 → Int32 → Sg → Option (Int32 × Sg)) (k19 : Int32 → Int32 → Int32 → Int32 → Sg → Option (Int32 × Sg)) (v1 : Int32) (v2 : Int32) (v3 : Int32) (v4 : Int32) (t0 : Sg) : Option (Int32 × Sg) :=
  (k19 v1 v2 v3 (v4 + (1 : Int32)) t0)
def f_X6_rule_19  (k10 : Int32 → Int32 → Int32 → Sg → Option (Int32 × Sg)) : Nat → Int32 → Int32 → Int32 → Int32 → Sg → Option (Int32 × Sg)
  | 0, _, _, _, _, _ => none
  | n + 1, v1, v2, v3, v4, t0 =>
  (if (8 : Int32) ≤ v4 then (k10 v1 v2 (v3 + (1 : Int32)) t0) else (bd (f_X6_tryQuiet v3 v4 t0) (fun x6 t7 => (if v2 ≤ x6 then (f_X6_rule_52 k10 (f_X6_rule_19 k10 n) v1 v2 v3 v4 t7) else (bv ((((10 : Int32) * v3) + v4)) (fun x10 => (f_X6_rule_52 k10 (f_X6_rule_19 k10 n) x10 x6 v3 v4 t7)))))))
def f_X6_rule_10   : Nat → Int32 → Int32 → Int32 → Sg → Option (Int32 × Sg)
  | 0, _, _, _, _ => none
  | n + 1, v1, v2, v3, t0 =>
  (if (8 : Int32) ≤ v3 then (some (v1, t0)) else (f_X6_rule_19 (f_X6_rule_10 n) fuel v1 v2 v3 v3 t0))
def f_X6_rule  (t0 : Sg) : Option (Int32 × Sg) :=
  (bd (f_X6_tryAsIs t0) (fun x1 t2 => (f_X6_rule_10 fuel (-9 : Int32) x1 (0 : Int32) t2)))
def f_X6_hang_112  (k47 : Int32 → Int32 → Int32 → Int32 → Int32 → Sg → Option (Int32 × Sg)) (v2 : Int32) (v3 : Int32) (v4 : Int32) (v5 : Int32) (v6 : Int32) (t0 : Sg) : Option (Int32 × Sg) :=
  (k47 v2 v3 v4 v5 (v6 + (1 : Int32)) t0)
def f_X6_hang_101  (k47 : Int32 → Int32 → Int32 → Int32 → Int32 → Sg → Option (Int32 × Sg)) (v2 : Int32) (v3 : Int32) (v6 : Int32) (t0 : Sg) : Option (Int32 × Sg) :=
  (bd (f_X6_doneTo v3 t0) (fun x19 t20 => (f_X6_hang_112 k47 v2 v3 v6 x19 v6 t20)))
def f_X6_hang_47   : Nat → Int32 → Int32 → Int32 → Int32 → Int32 → Sg → Option (Int32 × Sg)
  | 0, _, _, _, _, _, _ => none
  | n + 1, v2, v3, v4, v5, v6, t0 =>
  (if (8 : Int32) ≤ v6 then (some (v4, t0)) else (bd (f_X6_tryAnew t0) (fun _ t10 => (bd (f_X6_set (3, 12) v2 ((1 : Int32) <<< (v6 &&& 31)) t10) (fun _ t13 => (bd (f_X2_spendWeek 3 t13) (fun x15 t16 => (if v4 = (-9 : Int32) then (f_X6_hang_101 (f_X6_hang_47 n) v2 v3 v6 t16) else (bd (f_X6_doneTo v3 t16) (fun x22 t23 => (if v5 ≤ x22 then (f_X6_hang_112 (f_X6_hang_47 n) v2 v3 v4 v5 v6 t23) else (f_X6_hang_101 (f_X6_hang_47 n) v2 v3 v6 t23))))))))))))
def f_X6_hang (v1 : Int32) (t0 : Sg) : Option (Int32 × Sg) :=
  (bd (f_X0_placeOf 1 v1 t0) (fun x1 t2 => (if 0 ≤ x1 then (bd (f_X6_get (1, 13) x1 t2) (fun x5 t6 => (f_X6_hang_47 fuel x1 x5 (-9 : Int32) (0 : Int32) (0 : Int32) t6))) else (bd (f_X6_refuse (-1 : Int32) t2) (fun x26 t27 => (some (x26, t27)))))))
def f_X6_big_102  (k31 : Int32 → Int32 → Int32 → Int32 → Sg → Option (Int32 × Sg)) (v2 : Int32) (v3 : Int32) (v4 : Int32) (v5 : Int32) (t0 : Sg) : Option (Int32 × Sg) :=
  (k31 v2 v3 v4 (v5 + (1 : Int32)) t0)
def f_X6_big_95  (k31 : Int32 → Int32 → Int32 → Int32 → Sg → Option (Int32 × Sg)) (v2 : Int32) (v5 : Int32) (v6 : Int32) (t0 : Sg) : Option (Int32 × Sg) :=
  (f_X6_big_102 k31 v2 v5 v6 v5 t0)
def f_X6_big_31   : Nat → Int32 → Int32 → Int32 → Int32 → Sg → Option (Int32 × Sg)
  | 0, _, _, _, _, _ => none
  | n + 1, v2, v3, v4, v5, t0 =>
  (if (9 : Int32) < v5 then (some (v3, t0)) else (bd (f_X6_tryAnew t0) (fun _ t7 => (bd (f_X6_set (3, 8) v2 v5 t7) (fun _ t10 => (bd (f_X6_set (3, 9) v2 (0 : Int32) t10) (fun _ t13 => (bd (f_X2_spendWeek 3 t13) (fun x15 t16 => (if v3 = (-9 : Int32) then (f_X6_big_95 (f_X6_big_31 n) v2 v5 x15 t16) else (if v4 ≤ x15 then (f_X6_big_102 (f_X6_big_31 n) v2 v3 v4 v5 t16) else (f_X6_big_95 (f_X6_big_31 n) v2 v5 x15 t16))))))))))))
def f_X6_big (v1 : Int32) (t0 : Sg) : Option (Int32 × Sg) :=
  (bd (f_X0_placeOf 1 v1 t0) (fun x1 t2 => (if 0 ≤ x1 then (f_X6_big_31 fuel x1 (-9 : Int32) (0 : Int32) (0 : Int32) t2) else (bd (f_X6_refuse (-1 : Int32) t2) (fun x20 t21 => (some (x20, t21)))))))
def f_X6_leads_64  (k35 : Int32 → Int32 → Int32 → Int32 → Sg → Option (Int32 × Sg)) (v2 : Int32) (v3 : Int32) (v4 : Int32) (v5 : Int32) (t0 : Sg) : Option (Int32 × Sg) :=
  (k35 v2 v3 v4 (v5 + (1 : Int32)) t0)
def f_X6_leads_35   : Nat → Int32 → Int32 → Int32 → Int32 → Sg → Option (Int32 × Sg)
  | 0, _, _, _, _, _ => none
  | n + 1, v2, v3, v4, v5, t0 =>
  (if (1 : Int32) < v5 then (some ((v3 + (1 : Int32)), t0)) else (bd (f_X6_tryAwning v2 v5 t0) (fun x9 t10 => (if v4 ≤ x9 then (f_X6_leads_64 (f_X6_leads_35 n) v2 v3 v4 v5 t10) else (f_X6_leads_64 (f_X6_leads_35 n) v2 v5 x9 v5 t10)))))
def f_X6_leads (v1 : Int32) (t0 : Sg) : Option (Int32 × Sg) :=
  (bd (f_X0_placeOf 1 v1 t0) (fun x1 t2 => (if 0 ≤ x1 then (bd (f_X6_tryAwning x1 (-1 : Int32) t2) (fun x5 t6 => (f_X6_leads_35 fuel x1 (-1 : Int32) x5 (0 : Int32) t6))) else (bd (f_X6_refuse (-1 : Int32) t2) (fun x13 t14 => (some (x13, t14)))))))
def f_X6_whose_108  (k83 : Int32 → Int32 → Sg → Option (Int32 × Sg)) (v4 : Int32) (v5 : Int32) (t0 : Sg) : Option (Int32 × Sg) :=
  (k83 v4 (v5 + (1 : Int32)) t0)
def f_X6_whose_83   : Nat → Int32 → Int32 → Sg → Option (Int32 × Sg)
  | 0, _, _, _ => none
  | n + 1, v4, v5, t0 =>
  (if (24 : Int32) ≤ v5 then (some (v4, t0)) else (bd (f_X6_gain v5 t0) (fun x17 t18 => (if 0 ≤ x17 then (f_X6_whose_108 (f_X6_whose_83 n) v4 v5 t18) else (bv ((v4 ||| ((1 : Int32) <<< (v5 &&& 31)))) (fun x21 => (f_X6_whose_108 (f_X6_whose_83 n) x21 v5 t18)))))))
def f_X6_whose (v1 : Int32) (v2 : Int32) (t0 : Sg) : Option (Int32 × Sg) :=
  (bd (f_X0_placeOf 1 v1 t0) (fun x1 t2 => (if 0 ≤ x1 then (if (-1 : Int32) ≤ v2 then (if v2 ≤ (1 : Int32) then (bd (f_X6_tryAwning x1 (0 : Int32) t2) (fun x7 t8 => (bd (f_X6_copy (3, 23) (0, 3) t8) (fun _ t11 => (bd (f_X6_tryAwning x1 v2 t11) (fun x13 t14 => (f_X6_whose_83 fuel (0 : Int32) (0 : Int32) t14))))))) else (bd (f_X6_refuse (-6 : Int32) t2) (fun x22 t23 => (some (x22, t23))))) else (bd (f_X6_refuse (-4 : Int32) t2) (fun x25 t26 => (some (x25, t26))))) else (bd (f_X6_refuse (-1 : Int32) t2) (fun x28 t29 => (some (x28, t29)))))))
def f_X6_deal (v1 : Int32) (v2 : Int32) (t0 : Sg) : Option (Int32 × Sg) :=
  (bd (f_X6_isHabit v1 t0) (fun x1 t2 => (if x1 = 0 then (bd (f_X6_refuse (-1 : Int32) t2) (fun x5 t6 => (some (((1000000000 : Int32) - x5), t6)))) else (bd (f_X6_isHour v2 t2) (fun x8 t9 => (if x8 = 0 then (bd (f_X6_refuse (-2 : Int32) t9) (fun x12 t13 => (some (((1000000000 : Int32) - x12), t13)))) else (bd (f_X6_get (1, 16) v1 t9) (fun x15 t16 => (bd (f_X6_tryAsIs t16) (fun x18 t19 => (bd (f_X6_get (0, 3) x15 t19) (fun x21 t22 => (bv ((x18 - x21)) (fun x24 => (bd (f_X6_tryHour v1 v2 t22) (fun x25 t26 => (bd (f_X6_doneTo x15 t26) (fun x28 t29 => (bv ((x24 - (x25 - x28))) (fun x31 => (bd (f_X6_get (1, 19) v1 t29) (fun x32 t33 => (some ((x31 - (jabs (v2 - x32))), t33))))))))))))))))))))))))
def f_X6_pays_30    (t0 : Sg) : Option (Int32 × Sg) :=
  (bd (f_X6_refuse (-2 : Int32) t0) (fun x12 t13 => (some (x12, t13))))
def f_X6_pays_89  (k59 : Int32 → Int32 → Int32 → Int32 → Sg → Option (Int32 × Sg)) (v3 : Int32) (v4 : Int32) (v5 : Int32) (v6 : Int32) (t0 : Sg) : Option (Int32 × Sg) :=
  (k59 v3 v4 v5 (v6 + (1 : Int32)) t0)
def f_X6_pays_59   : Nat → Int32 → Int32 → Int32 → Int32 → Sg → Option (Int32 × Sg)
  | 0, _, _, _, _, _ => none
  | n + 1, v3, v4, v5, v6, t0 =>
  (if (24 : Int32) ≤ v6 then (some ((if v3 = 0 then v4 else v5), t0)) else (bd (f_X6_gain v6 t0) (fun x25 t26 => (if x25 ≤ v5 then (f_X6_pays_89 (f_X6_pays_59 n) v3 v4 v5 v6 t26) else (bd (f_X6_gain v6 t26) (fun x29 t30 => (f_X6_pays_89 (f_X6_pays_59 n) v3 v6 x29 v6 t30)))))))
def f_X6_pays_37   (v1 : Int32) (v2 : Int32) (v3 : Int32) (t0 : Sg) : Option (Int32 × Sg) :=
  (bd (f_X6_tryAsIs t0) (fun x16 t17 => (bd (f_X6_tryHour v1 v2 t17) (fun x19 t20 => (f_X6_pays_59 fuel v3 (-9 : Int32) (0 : Int32) (0 : Int32) t20)))))
def f_X6_pays (v1 : Int32) (v2 : Int32) (v3 : Int32) (t0 : Sg) : Option (Int32 × Sg) :=
  (bd (f_X6_isHabit v1 t0) (fun x1 t2 => (if x1 = 0 then (bd (f_X6_refuse (-1 : Int32) t2) (fun x5 t6 => (some (x5, t6)))) else (bd (f_X6_isHour v2 t2) (fun x8 t9 => (if x8 = 0 then (f_X6_pays_30 t9) else (if v3 = 0 then (f_X6_pays_37 v1 v2 v3 t9) else (if v3 = (1 : Int32) then (f_X6_pays_37 v1 v2 v3 t9) else (f_X6_pays_30 t9)))))))))
def f_X6_climbs_47  (k15 : Int32 → Int32 → Sg → Option (Int32 × Sg)) (v2 : Int32) (v3 : Int32) (t0 : Sg) : Option (Int32 × Sg) :=
  (k15 v3 (v2 + (1 : Int32)) t0)
def f_X6_climbs_15   : Nat → Int32 → Int32 → Sg → Option (Int32 × Sg)
  | 0, _, _, _ => none
  | n + 1, v1, v2, t0 =>
  (if (10 : Int32) ≤ v2 then (some ((-9 : Int32), t0)) else (bd (f_X2_takeRevenge 3 t0) (fun _ t6 => (bd (f_X2_spendWeek 3 t6) (fun x8 t9 => (if v2 ≤ 0 then (f_X6_climbs_47 (f_X6_climbs_15 n) v2 x8 t9) else (if v1 < x8 then (f_X6_climbs_47 (f_X6_climbs_15 n) v2 x8 t9) else (some (v2, t9)))))))))
def f_X6_climbs  (t0 : Sg) : Option (Int32 × Sg) :=
  (bd (f_X2_copyFrom 3 1 t0) (fun _ t2 => (f_X6_climbs_15 fuel (0 : Int32) (0 : Int32) t2)))
def f_X6_worth (v1 : Int32) (t0 : Sg) : Option (Int32 × Sg) :=
  (bd (f_X0_placeOf 1 v1 t0) (fun x1 t2 => (if 0 ≤ x1 then (bd (f_X6_tryAsIs t2) (fun x5 t6 => (bv ((x1 / (4 : Int32))) (fun x8 => (bd (f_X6_get (1, 13) x1 t6) (fun x9 t10 => (bd (f_X6_doneTo x9 t10) (fun x12 t13 => (some ((jmax (0 : Int32) (((100 : Int32) + ((5 : Int32) * x8)) - x12)), t13)))))))))) else (bd (f_X6_refuse (-1 : Int32) t2) (fun x15 t16 => (some (x15, t16)))))))
def f_X6_pairs_102  (k4 : Int32 → Int32 → Int32 → Sg → Option (Int32 × Sg)) (k15 : Int32 → Int32 → Int32 → Int32 → Sg → Option (Int32 × Sg)) (v1 : Int32) (v2 : Int32) (v3 : Int32) (v4 : Int32) (t0 : Sg) : Option (Int32 × Sg) :=
  (k15 v1 v2 v3 (v4 + (1 : Int32)) t0)
def f_X6_pairs_15  (k4 : Int32 → Int32 → Int32 → Sg → Option (Int32 × Sg)) : Nat → Int32 → Int32 → Int32 → Int32 → Sg → Option (Int32 × Sg)
  | 0, _, _, _, _, _ => none
  | n + 1, v1, v2, v3, v4, t0 =>
  (if (24 : Int32) ≤ v4 then (k4 v1 v2 (v3 + (1 : Int32)) t0) else (bd (f_X6_get (0, 3) v3 t0) (fun x6 t7 => (if x6 ≤ 0 then (f_X6_pairs_102 k4 (f_X6_pairs_15 k4 n) v1 v2 v3 v4 t7) else (bd (f_X6_get (0, 3) v4 t7) (fun x10 t11 => (if x10 ≤ 0 then (f_X6_pairs_102 k4 (f_X6_pairs_15 k4 n) v1 v2 v3 v4 t11) else (bd (f_X6_tryAnew t11) (fun _ t15 => (bd (f_X0_change 3 v3 v4 t15) (fun _ t18 => (bd (f_X2_spendWeek 3 t18) (fun x20 t21 => (bd (f_X6_gain v3 t21) (fun x23 t24 => (if x23 ≤ 0 then (f_X6_pairs_102 k4 (f_X6_pairs_15 k4 n) v1 v2 v3 v4 t24) else (bd (f_X6_gain v4 t24) (fun x27 t28 => (if x27 ≤ 0 then (f_X6_pairs_102 k4 (f_X6_pairs_15 k4 n) v1 v2 v3 v4 t28) else (if v1 = 0 then (f_X6_pairs_102 k4 (f_X6_pairs_15 k4 n) v1 (v2 + (1 : Int32)) v3 v4 t28) else (some ((((100 : Int32) * v3) + v4), t28))))))))))))))))))))))
def f_X6_pairs_4   : Nat → Int32 → Int32 → Int32 → Sg → Option (Int32 × Sg)
  | 0, _, _, _, _ => none
  | n + 1, v1, v2, v3, t0 =>
  (if (24 : Int32) ≤ v3 then (some ((if v1 = 0 then v2 else (-9 : Int32)), t0)) else (bv ((v3 + (1 : Int32))) (fun x4 => (f_X6_pairs_15 (f_X6_pairs_4 n) fuel v1 v2 v3 x4 t0))))
def f_X6_pairs (v1 : Int32) (t0 : Sg) : Option (Int32 × Sg) :=
  (f_X6_pairs_4 fuel v1 (0 : Int32) (0 : Int32) t0)
def f_X6_rings_143  (k4 : Int32 → Int32 → Sg → Option (Int32 × Sg)) (v1 : Int32) (v2 : Int32) (t0 : Sg) : Option (Int32 × Sg) :=
  (k4 v1 (v2 + (1 : Int32)) t0)
def f_X6_rings_137  (k4 : Int32 → Int32 → Sg → Option (Int32 × Sg)) (k14 : Int32 → Int32 → Int32 → Sg → Option (Int32 × Sg)) (v1 : Int32) (v2 : Int32) (v3 : Int32) (t0 : Sg) : Option (Int32 × Sg) :=
  (k14 v1 v2 (v3 + (1 : Int32)) t0)
def f_X6_rings_131  (k4 : Int32 → Int32 → Sg → Option (Int32 × Sg)) (k14 : Int32 → Int32 → Int32 → Sg → Option (Int32 × Sg)) (k36 : Int32 → Int32 → Int32 → Int32 → Sg → Option (Int32 × Sg)) (v1 : Int32) (v2 : Int32) (v3 : Int32) (v4 : Int32) (t0 : Sg) : Option (Int32 × Sg) :=
  (k36 v1 v2 v3 (v4 + (1 : Int32)) t0)
def f_X6_rings_129  (k4 : Int32 → Int32 → Sg → Option (Int32 × Sg)) (k14 : Int32 → Int32 → Int32 → Sg → Option (Int32 × Sg)) (k36 : Int32 → Int32 → Int32 → Int32 → Sg → Option (Int32 × Sg)) (v2 : Int32) (v3 : Int32) (v4 : Int32) (w0 : Int32) (w1 : Int32) (t0 : Sg) : Option (Int32 × Sg) :=
  (bv ((w1 + w0)) (fun x32 => (f_X6_rings_131 k4 k14 k36 x32 v2 v3 v4 t0)))
def f_X6_rings_128  (k4 : Int32 → Int32 → Sg → Option (Int32 × Sg)) (k14 : Int32 → Int32 → Int32 → Sg → Option (Int32 × Sg)) (k36 : Int32 → Int32 → Int32 → Int32 → Sg → Option (Int32 × Sg)) (v2 : Int32) (v3 : Int32) (v4 : Int32) (w0 : Int32) (t0 : Sg) : Option (Int32 × Sg) :=
  (f_X6_rings_129 k4 k14 k36 v2 v3 v4 (0 : Int32) w0 t0)
def f_X6_rings_36  (k4 : Int32 → Int32 → Sg → Option (Int32 × Sg)) (k14 : Int32 → Int32 → Int32 → Sg → Option (Int32 × Sg)) : Nat → Int32 → Int32 → Int32 → Int32 → Sg → Option (Int32 × Sg)
  | 0, _, _, _, _, _ => none
  | n + 1, v1, v2, v3, v4, t0 =>
  (if (24 : Int32) ≤ v4 then (f_X6_rings_137 k4 k14 v1 v2 v3 t0) else (bd (f_X6_get (0, 3) v3 t0) (fun x10 t11 => (if x10 ≤ 0 then (f_X6_rings_137 k4 k14 v1 v2 v3 t11) else (if v4 = v3 then (f_X6_rings_131 k4 k14 (f_X6_rings_36 k4 k14 n) v1 v2 v3 v4 t11) else (bd (f_X6_get (0, 3) v4 t11) (fun x15 t16 => (if x15 ≤ 0 then (f_X6_rings_131 k4 k14 (f_X6_rings_36 k4 k14 n) v1 v2 v3 v4 t16) else (bd (f_X6_tryAnew t16) (fun _ t20 => (bd (f_X0_ring 3 v2 v3 v4 t20) (fun _ t23 => (bd (f_X2_spendWeek 3 t23) (fun x25 t26 => (bd (f_X6_gain v2 t26) (fun x28 t29 => (if x28 ≤ 0 then (f_X6_rings_128 k4 k14 (f_X6_rings_36 k4 k14 n) v2 v3 v4 v1 t29) else (bd (f_X6_gain v3 t29) (fun x33 t34 => (if x33 ≤ 0 then (f_X6_rings_128 k4 k14 (f_X6_rings_36 k4 k14 n) v2 v3 v4 v1 t34) else (bd (f_X6_gain v4 t34) (fun x37 t38 => (if x37 ≤ 0 then (f_X6_rings_128 k4 k14 (f_X6_rings_36 k4 k14 n) v2 v3 v4 v1 t38) else (f_X6_rings_129 k4 k14 (f_X6_rings_36 k4 k14 n) v2 v3 v4 (1 : Int32) v1 t38))))))))))))))))))))))))
def f_X6_rings_14  (k4 : Int32 → Int32 → Sg → Option (Int32 × Sg)) : Nat → Int32 → Int32 → Int32 → Sg → Option (Int32 × Sg)
  | 0, _, _, _, _ => none
  | n + 1, v1, v2, v3, t0 =>
  (if (24 : Int32) ≤ v3 then (f_X6_rings_143 k4 v1 v2 t0) else (bd (f_X6_get (0, 3) v2 t0) (fun x4 t5 => (if x4 ≤ 0 then (f_X6_rings_143 k4 v1 v2 t5) else (bv ((v2 + (1 : Int32))) (fun x8 => (f_X6_rings_36 k4 (f_X6_rings_14 k4 n) fuel v1 v2 v3 x8 t5)))))))
def f_X6_rings_4   : Nat → Int32 → Int32 → Sg → Option (Int32 × Sg)
  | 0, _, _, _ => none
  | n + 1, v1, v2, t0 =>
  (if (24 : Int32) ≤ v2 then (some (v1, t0)) else (bv ((v2 + (1 : Int32))) (fun x2 => (f_X6_rings_14 (f_X6_rings_4 n) fuel v1 v2 x2 t0))))
def f_X6_rings  (t0 : Sg) : Option (Int32 × Sg) :=
  (f_X6_rings_4 fuel (0 : Int32) (0 : Int32) t0)
def f_X6_swaps (v1 : Int32) (t0 : Sg) : Option (Int32 × Sg) :=
  (bd (f_X6_within v1 (0 : Int32) (2 : Int32) t0) (fun x1 t2 => (if x1 = 0 then (bd (f_X6_refuse (-2 : Int32) t2) (fun x5 t6 => (some (x5, t6)))) else (bd (f_X6_tryAsIs t2) (fun x8 t9 => (if v1 = (2 : Int32) then (bd (f_X6_rings t9) (fun x12 t13 => (some (x12, t13)))) else (bd (f_X6_pairs (if v1 = (1 : Int32) then (1 : Int32) else (0 : Int32)) t9) (fun x17 t18 => (some (x17, t18))))))))))
def f_X6_peg_26    (t0 : Sg) : Option (Int64 × Sg) :=
  (bd (f_X6_refuse (-1 : Int32) t0) (fun x5 t6 => (some (((4000000000000000000 : Int64) - (x5).toInt64), t6))))
def f_X6_peg_141   (v3 : Int32) (v7 : Int32) (v8 : Int32) (w0 : Int32) (t0 : Sg) : Option (Int64 × Sg) :=
  (if v3 = (1 : Int32) then (if w0 = 0 then (some ((v8).toInt64, t0)) else (some (((v8 / (2 : Int32))).toInt64, t0))) else (some ((if v7 = (1 : Int32) then (if w0 = 0 then (2 : Int64) else (1 : Int64)) else (1 : Int64)), t0)))
def f_X6_peg_140   (v3 : Int32) (v7 : Int32) (v8 : Int32) (t0 : Sg) : Option (Int64 × Sg) :=
  (f_X6_peg_141 v3 v7 v8 (0 : Int32) t0)
def f_X6_peg_58   (v2 : Int32) (v3 : Int32) (v4 : Int32) (t0 : Sg) : Option (Int64 × Sg) :=
  (bv ((v4 / (4 : Int32))) (fun x13 => (bd (f_X6_get (1, 14) v2 t0) (fun x14 t15 => (bv (((x14 / (4 : Int32)) - x13)) (fun x17 => (if (x14 - x14 / (4 : Int32) * (4 : Int32)) = (v4 - v4 / (4 : Int32) * (4 : Int32)) then (if 0 < x17 then (bv (((t15 (1, 7) 0) - x13)) (fun x20 => (if x17 = (1 : Int32) then (if (x20 - x20 / (2 : Int32) * (2 : Int32)) = 0 then (f_X6_peg_141 v3 x17 x20 (1 : Int32) t15) else (f_X6_peg_140 v3 x17 x20 t15)) else (f_X6_peg_140 v3 x17 x20 t15)))) else (some ((v3).toInt64, t15))) else (some ((v3).toInt64, t15)))))))))
def f_X6_peg (v1 : Int32) (v2 : Int32) (v3 : Int32) (t0 : Sg) : Option (Int64 × Sg) :=
  (bd (f_X0_placeOf 1 v1 t0) (fun x1 t2 => (if x1 < 0 then (f_X6_peg_26 t2) else (bd (f_X6_isTenant v2 t2) (fun x8 t9 => (if x8 = 0 then (f_X6_peg_26 t9) else (if v3 = 0 then (f_X6_peg_58 v2 v3 x1 t9) else (if v3 = (1 : Int32) then (f_X6_peg_58 v2 v3 x1 t9) else (bd (f_X6_refuse (-2 : Int32) t9) (fun x29 t30 => (some (((4000000000000000000 : Int64) - (x29).toInt64), t30))))))))))))
def f_X6_row_27    (t0 : Sg) : Option (Int32 × Sg) :=
  (bd (f_X6_refuse (-6 : Int32) t0) (fun x3 t4 => (some (x3, t4))))
def f_X6_row (v1 : Int32) (t0 : Sg) : Option (Int32 × Sg) :=
  (if 0 ≤ v1 then (if (999 : Int32) < v1 then (f_X6_row_27 t0) else (if (t0 (0, 0) 7) < (10 : Int32) then (bd (f_X6_set (0, 1) (t0 (0, 0) 7) v1 t0) (fun _ t8 => (bv (upS t8 (0, 0) 7 ((t8 (0, 0) 7) + (1 : Int32))) (fun t10 => (some ((t10 (0, 0) 7), t10)))))) else (f_X6_row_27 t0))) else (bd (f_X6_refuse (-4 : Int32) t0) (fun x11 t12 => (some (x11, t12)))))
def f_X6_judge_49   (v1 : Int32) (t0 : Sg) : Option (Int32 × Sg) :=
  (bv (upS t0 (0, 0) 7 (0 : Int32)) (fun t5 => (some (v1, t5))))
def f_X6_judge_43  (k9 : Int32 → Int32 → Sg → Option (Int32 × Sg)) (v1 : Int32) (v2 : Int32) (t0 : Sg) : Option (Int32 × Sg) :=
  (k9 v1 (v2 + (1 : Int32)) t0)
def f_X6_judge_9   : Nat → Int32 → Int32 → Sg → Option (Int32 × Sg)
  | 0, _, _, _ => none
  | n + 1, v1, v2, t0 =>
  (if (t0 (0, 0) 7) ≤ v2 then (f_X6_judge_49 v1 t0) else (if v1 = (-9 : Int32) then (bd (f_X2_spendWeek 3 t0) (fun x7 t8 => (bd (f_X6_get (0, 1) v2 t8) (fun x10 t11 => (if x7 = x10 then (f_X6_judge_43 (f_X6_judge_9 n) v1 v2 t11) else (f_X6_judge_43 (f_X6_judge_9 n) v2 v2 t11)))))) else (f_X6_judge_49 v1 t0)))
def f_X6_judge  (t0 : Sg) : Option (Int32 × Sg) :=
  (bd (f_X6_tryAnew t0) (fun _ t2 => (f_X6_judge_9 fuel (-9 : Int32) (0 : Int32) t2)))
def f_X6_seeds_46  (k37 : Int32 → Int32 → Int32 → Int32 → Sg → Option (Int32 × Sg)) : Nat → Int32 → Int32 → Int32 → Int32 → Int32 → Sg → Option (Int32 × Sg)
  | 0, _, _, _, _, _, _ => none
  | n + 1, v1, v3, v4, v5, v6, t0 =>
  (if (t0 (3, 15) 0) ≤ v6 then (bd (f_X2_spendWeek 3 t0) (fun x8 t9 => (bv ((v4 + x8)) (fun x11 => (k37 v1 v3 x11 (v5 + (1 : Int32)) t9))))) else (bv (((v3 * (1103515245 : Int32)) + (12345 : Int32))) (fun x12 => (bd (f_X6_set (3, 19) v6 (((x12 &&& (2147483647 : Int32)) / (65536 : Int32)) - ((x12 &&& (2147483647 : Int32)) / (65536 : Int32)) / (8 : Int32) * (8 : Int32)) t0) (fun _ t14 => ((f_X6_seeds_46 k37 n) v1 x12 v4 v5 (v6 + (1 : Int32)) t14))))))
def f_X6_seeds_37   : Nat → Int32 → Int32 → Int32 → Int32 → Sg → Option (Int32 × Sg)
  | 0, _, _, _, _, _ => none
  | n + 1, v1, v3, v4, v5, t0 =>
  (if v1 ≤ v5 then (some (v4, t0)) else (f_X6_seeds_46 (f_X6_seeds_37 n) fuel v1 v3 v4 v5 (0 : Int32) t0))
def f_X6_seeds (v1 : Int32) (v2 : Int32) (t0 : Sg) : Option (Int32 × Sg) :=
  (if (1 : Int32) ≤ v1 then (if v1 ≤ (20 : Int32) then (bd (f_X6_tryAnew t0) (fun _ t4 => (f_X6_seeds_37 fuel v1 v2 (0 : Int32) (0 : Int32) t4))) else (bd (f_X6_refuse (-6 : Int32) t0) (fun x16 t17 => (some (x16, t17))))) else (bd (f_X6_refuse (-4 : Int32) t0) (fun x19 t20 => (some (x19, t20)))))
def f_X6_image  (t0 : Sg) : Option (Int32 × Sg) :=
  (bd (f_X2_copyFrom 2 1 t0) (fun _ t2 => (bv (upS t2 (0, 0) 8 (1 : Int32)) (fun t4 => (some ((t4 (1, 6) 4), t4))))))
def f_X6_restore  (t0 : Sg) : Option (Int32 × Sg) :=
  (if (t0 (0, 0) 8) = 0 then (bd (f_X6_refuse (-3 : Int32) t0) (fun x2 t3 => (some (x2, t3)))) else (bd (f_X2_copyFrom 1 2 t0) (fun _ t6 => (some ((t6 (1, 6) 4), t6)))))
def f_X7_clearAll_91   : Nat → Int32 → Sg → Option (Unit × Sg)
  | 0, _, _ => none
  | n + 1, v1, t0 =>
  (if (576 : Int32) ≤ v1 then (some ((), t0)) else (chk (inb v1 576) ((bv (upS t0 (0, 38) (v1).toNatClampNeg (0 : Int32)) (fun t5 => ((f_X7_clearAll_91 n) (v1 + (1 : Int32)) t5))))))
def f_X7_clearAll_7   : Nat → Int32 → Sg → Option (Unit × Sg)
  | 0, _, _ => none
  | n + 1, v1, t0 =>
  (if (24 : Int32) ≤ v1 then (f_X7_clearAll_91 fuel (0 : Int32) t0) else (chk (inb v1 24) ((bv (upS t0 (0, 30) (v1).toNatClampNeg (0 : Int32)) (fun t7 => (chk (inb v1 24) ((bv (upS t7 (0, 31) (v1).toNatClampNeg (0 : Int32)) (fun t9 => (chk (inb v1 24) ((bv (upS t9 (0, 32) (v1).toNatClampNeg (0 : Int32)) (fun t11 => (chk (inb v1 24) ((bv (upS t11 (0, 33) (v1).toNatClampNeg (0 : Int32)) (fun t13 => (chk (inb v1 24) ((bv (upS t13 (0, 34) (v1).toNatClampNeg (0 : Int32)) (fun t15 => (chk (¬ (t15 (0, 29) 1) = 0) ((chk (¬ (t15 (0, 29) 1) = 0) ((chk (inb v1 24) ((bv (upS t15 (0, 35) (v1).toNatClampNeg (((4 : Int32) * (v1 / (t15 (0, 29) 1))) + (v1 - v1 / (t15 (0, 29) 1) * (t15 (0, 29) 1)))) (fun t19 => (chk (inb v1 24) ((bv (upS t19 (0, 36) (v1).toNatClampNeg (0 : Int32)) (fun t21 => (chk (inb v1 24) ((bv (upS t21 (0, 37) (v1).toNatClampNeg (0 : Int32)) (fun t23 => ((f_X7_clearAll_7 n) (v1 + (1 : Int32)) t23))))))))))))))))))))))))))))))))))))))
def f_X7_clearAll  (t0 : Sg) : Option (Unit × Sg) :=
  (bv (upS t0 (0, 29) 4 (0 : Int32)) (fun t1 => (f_X7_clearAll_7 fuel (0 : Int32) t1)))
def f_X7_in (v0 : Int64) (v2 : Int64) (v4 : Int64) (t0 : Sg) : Option (Int32 × Sg) :=
  (some ((if (lg_cmp v0 v2) < 0 then (0 : Int32) else (if 0 < (lg_cmp v0 v4) then (0 : Int32) else (1 : Int32))), t0))
def f_X7_refuse (v1 : Int32) (t0 : Sg) : Option (Int32 × Sg) :=
  (chk (inb (-v1) 7) ((chk (inb (-v1) 7) ((bv (upS t0 (0, 43) ((-v1)).toNatClampNeg ((t0 (0, 43) ((-v1)).toNatClampNeg) + (1 : Int32))) (fun t3 => (some (v1, t3))))))))
def f_X7_tenants  (t0 : Sg) : Option (Int32 × Sg) :=
  (some (((t0 (0, 29) 0) * (t0 (0, 29) 1)), t0))
def f_X7_flatAt_31   (v1 : Int32) (w0 : Int32) (t0 : Sg) : Option (Int32 × Sg) :=
  (if w0 = 0 then (some ((-1 : Int32), t0)) else (some ((((4 : Int32) * (v1 / (10 : Int32))) + (v1 - v1 / (10 : Int32) * (10 : Int32))), t0)))
def f_X7_flatAt_30   (v1 : Int32) (t0 : Sg) : Option (Int32 × Sg) :=
  (f_X7_flatAt_31 v1 (0 : Int32) t0)
def f_X7_flatAt (v1 : Int32) (t0 : Sg) : Option (Int32 × Sg) :=
  (if v1 < 0 then (f_X7_flatAt_30 v1 t0) else (if (t0 (0, 29) 0) ≤ (v1 / (10 : Int32)) then (f_X7_flatAt_30 v1 t0) else (if (t0 (0, 29) 1) ≤ (v1 - v1 / (10 : Int32) * (10 : Int32)) then (f_X7_flatAt_30 v1 t0) else (f_X7_flatAt_31 v1 (1 : Int32) t0))))
def f_X7_toldAs (v0 : Int32) (t0 : Sg) : Option (Int32 × Sg) :=
  (some ((((10 : Int32) * (v0 / (4 : Int32))) + (v0 - v0 / (4 : Int32) * (4 : Int32))), t0))
def f_X7_isTenant (v1 : Int32) (t0 : Sg) : Option (Int32 × Sg) :=
  (bd (f_X7_tenants t0) (fun x1 t2 => (bd (f_X7_in (v1).toInt64 (0 : Int64) ((x1 - (1 : Int32))).toInt64 t2) (fun x4 t5 => (chk (x4 = 0 ∨ x4 = 1) ((some (x4, t5))))))))
def f_X7_areTenants (v1 : Int32) (v2 : Int32) (t0 : Sg) : Option (Int32 × Sg) :=
  (bd (f_X7_isTenant v1 t0) (fun x1 t2 => (if x1 = 0 then (some ((0 : Int32), t2)) else (bd (f_X7_isTenant v2 t2) (fun x5 t6 => (if x5 = 0 then (some ((0 : Int32), t6)) else (if v1 = v2 then (some ((0 : Int32), t6)) else (some ((1 : Int32), t6)))))))))
def f_X7_isHabit (v1 : Int32) (t0 : Sg) : Option (Int32 × Sg) :=
  (bd (f_X7_in (v1).toInt64 (0 : Int64) (((t0 (0, 29) 4) - (1 : Int32))).toInt64 t0) (fun x1 t2 => (chk (x1 = 0 ∨ x1 = 1) ((some (x1, t2))))))
def f_X7_livesIn_2   : Nat → Int32 → Int32 → Sg → Option (Int32 × Sg)
  | 0, _, _, _ => none
  | n + 1, v1, v2, t0 =>
  (chk (inb v2 24) ((if (t0 (0, 35) (v2).toNatClampNeg) = v1 then (some (v2, t0)) else ((f_X7_livesIn_2 n) v1 (v2 + (1 : Int32)) t0))))
def f_X7_livesIn (v1 : Int32) (t0 : Sg) : Option (Int32 × Sg) :=
  (f_X7_livesIn_2 fuel v1 (0 : Int32) t0)
def f_X7_nextOf_68   (v1 : Int32) (v2 : Int32) (v3 : Int32) (v4 : Int32) (t0 : Sg) : Option (Int32 × Sg) :=
  (bv (((v2 - v2 / (4 : Int32) * (4 : Int32)) + v4)) (fun x8 => (bd (f_X7_in (v3).toInt64 (0 : Int64) (((t0 (0, 29) 0) - (1 : Int32))).toInt64 t0) (fun x9 t10 => (if x9 = 0 then (some ((-1 : Int32), t10)) else (bd (f_X7_in (x8).toInt64 (0 : Int64) (((t10 (0, 29) 1) - (1 : Int32))).toInt64 t10) (fun x13 t14 => (if x13 = 0 then (some ((-1 : Int32), t14)) else (bv ((((4 : Int32) * v3) + x8)) (fun x17 => (if v1 = (4 : Int32) then (chk (inb x17 24) ((if (t14 (0, 32) (x17).toNatClampNeg) = 0 then (some (x17, t14)) else (some ((-1 : Int32), t14))))) else (some (x17, t14)))))))))))))
def f_X7_nextOf_47   (v1 : Int32) (v2 : Int32) (v3 : Int32) (w0 : Int32) (t0 : Sg) : Option (Int32 × Sg) :=
  (if v1 = (5 : Int32) then (if (t0 (0, 29) 2) = 0 then (if v3 ≤ 0 then (f_X7_nextOf_68 v1 v2 v3 w0 t0) else (f_X7_nextOf_68 v1 v2 (v3 + (-1 : Int32)) w0 t0)) else (f_X7_nextOf_68 v1 v2 v3 w0 t0)) else (f_X7_nextOf_68 v1 v2 v3 w0 t0))
def f_X7_nextOf_25   (v1 : Int32) (v2 : Int32) (v3 : Int32) (t0 : Sg) : Option (Int32 × Sg) :=
  (f_X7_nextOf_47 v1 v2 v3 (t0 (0, 29) 2) t0)
def f_X7_nextOf (v1 : Int32) (v2 : Int32) (t0 : Sg) : Option (Int32 × Sg) :=
  (bv (((v2 / (4 : Int32)) + (if v1 = (4 : Int32) then (1 : Int32) else (-1 : Int32)))) (fun x3 => (if v1 = (1 : Int32) then (f_X7_nextOf_25 v1 v2 x3 t0) else (if v1 = (5 : Int32) then (f_X7_nextOf_25 v1 v2 x3 t0) else (if v1 = (2 : Int32) then (chk (inb v2 24) ((f_X7_nextOf_47 v1 v2 x3 (t0 (0, 32) (v2).toNatClampNeg) t0))) else (f_X7_nextOf_47 v1 v2 x3 (0 : Int32) t0))))))
def f_X7_lesser (v0 : Int32) (v1 : Int32) (t0 : Sg) : Option (Int32 × Sg) :=
  (some ((if v1 ≤ v0 then v1 else v0), t0))
def f_X7_harmOf (v1 : Int32) (v2 : Int32) (v3 : Int32) (v4 : Int32) (t0 : Sg) : Option (Int32 × Sg) :=
  (chk (inb v2 24) ((if (t0 (0, 33) (v2).toNatClampNeg) = 0 then (some ((0 : Int32), t0)) else (chk (inb v2 24) ((if (((t0 (0, 34) (v2).toNatClampNeg) >>> (v3 &&& 31)) &&& (1 : Int32)) = 0 then (some ((0 : Int32), t0)) else (chk (inb v2 24) ((bd (f_X7_lesser v4 (t0 (0, 33) (v2).toNatClampNeg) t0) (fun x6 t7 => (if v1 = (1 : Int32) then (some ((x6 / (2 : Int32)), t7)) else (if v1 = (2 : Int32) then (some (x6, t7)) else (if v1 = (3 : Int32) then (some (((2 : Int32) * x6), t7)) else (if v1 = (4 : Int32) then (some ((1 : Int32), t7)) else (if v1 = (5 : Int32) then (some (((x6 / (2 : Int32)) + (2 : Int32)), t7)) else (some (x6, t7)))))))))))))))))
def f_X7_clearHarm_23   : Nat → Int32 → Sg → Option (Unit × Sg)
  | 0, _, _ => none
  | n + 1, v1, t0 =>
  (if (576 : Int32) ≤ v1 then (some ((), t0)) else (chk (inb v1 576) ((bv (upS t0 (0, 46) (v1).toNatClampNeg (0 : Int32)) (fun t4 => ((f_X7_clearHarm_23 n) (v1 + (1 : Int32)) t4))))))
def f_X7_clearHarm_2   : Nat → Int32 → Sg → Option (Unit × Sg)
  | 0, _, _ => none
  | n + 1, v1, t0 =>
  (if (24 : Int32) ≤ v1 then (f_X7_clearHarm_23 fuel (0 : Int32) t0) else (chk (inb v1 24) ((bv (upS t0 (0, 45) (v1).toNatClampNeg (0 : Int32)) (fun t6 => ((f_X7_clearHarm_2 n) (v1 + (1 : Int32)) t6))))))
def f_X7_clearHarm  (t0 : Sg) : Option (Unit × Sg) :=
  (f_X7_clearHarm_2 fuel (0 : Int32) t0)
def f_X7_beginMind_2   : Nat → Int32 → Sg → Option (Unit × Sg)
  | 0, _, _ => none
  | n + 1, v1, t0 =>
  (if (24 : Int32) ≤ v1 then (bd (f_X7_clearHarm t0) (fun _ t3 => (some ((), t3)))) else (chk (inb v1 24) ((chk (inb v1 24) ((bv (upS t0 (0, 44) (v1).toNatClampNeg (t0 (0, 31) (v1).toNatClampNeg)) (fun t7 => ((f_X7_beginMind_2 n) (v1 + (1 : Int32)) t7))))))))
def f_X7_beginMind  (t0 : Sg) : Option (Unit × Sg) :=
  (f_X7_beginMind_2 fuel (0 : Int32) t0)
def f_X7_keptAt_44   (w0 : Int32) (w1 : Int32) (t0 : Sg) : Option (Int32 × Sg) :=
  (bd (f_X7_lesser w1 w0 t0) (fun x7 t8 => (some (x7, t8))))
def f_X7_keptAt (v1 : Int32) (v2 : Int32) (v3 : Int32) (t0 : Sg) : Option (Int32 × Sg) :=
  (chk (inb v2 24) ((chk (inb v2 24) ((bv (((t0 (0, 30) (v2).toNatClampNeg) - (t0 (0, 44) (v2).toNatClampNeg))) (fun x3 => (if v1 = (3 : Int32) then (some ((0 : Int32), t0)) else (if v1 = (4 : Int32) then (some ((0 : Int32), t0)) else (if v1 = (5 : Int32) then (f_X7_keptAt_44 (x3 / (2 : Int32)) v3 t0) else (f_X7_keptAt_44 x3 v3 t0))))))))))
def f_X7_fall_171  (k45 : Int32 → Int32 → Int32 → Int32 → Sg → Option (Unit × Sg)) (v1 : Int32) (v2 : Int32) (v3 : Int32) (w0 : Int32) (t0 : Sg) : Option (Unit × Sg) :=
  (k45 v1 v2 v3 w0 t0)
def f_X7_fall_45   : Nat → Int32 → Int32 → Int32 → Int32 → Sg → Option (Unit × Sg)
  | 0, _, _, _, _, _ => none
  | n + 1, v1, v2, v3, v4, t0 =>
  (if v4 < 0 then (some ((), t0)) else (bd (f_X7_livesIn v4 t0) (fun x8 t9 => (chk (inb v1 8) ((bd (f_X7_harmOf v2 v4 (t9 (0, 42) (v1).toNatClampNeg) v3 t9) (fun x12 t13 => (bd (f_X7_keptAt v2 v4 v3 t13) (fun x15 t16 => (chk (inb (t16 (0, 29) 24) 8) ((bv (upS t16 (0, 47) ((t16 (0, 29) 24)).toNatClampNeg v4) (fun t19 => (bv (upS t19 (0, 29) 24 ((t19 (0, 29) 24) + (1 : Int32))) (fun t20 => (chk (inb x8 24) ((chk (inb x8 24) ((bv (upS t20 (0, 45) (x8).toNatClampNeg ((t20 (0, 45) (x8).toNatClampNeg) + x12)) (fun t23 => (chk (inb v1 8) ((chk (inb (((24 : Int32) * x8) + (t23 (0, 39) (v1).toNatClampNeg)) 576) ((chk (inb (((24 : Int32) * x8) + (t23 (0, 39) (v1).toNatClampNeg)) 576) ((bv (upS t23 (0, 46) ((((24 : Int32) * x8) + (t23 (0, 39) (v1).toNatClampNeg))).toNatClampNeg ((t23 (0, 46) ((((24 : Int32) * x8) + (t23 (0, 39) (v1).toNatClampNeg))).toNatClampNeg) + x12)) (fun t27 => (chk (inb v4 24) ((chk (inb v4 24) ((bv (upS t27 (0, 44) (v4).toNatClampNeg ((t27 (0, 44) (v4).toNatClampNeg) + x15)) (fun t30 => (bv ((v3 - x15)) (fun x31 => (if x31 = 0 then (f_X7_fall_171 (f_X7_fall_45 n) v1 v2 x31 (-1 : Int32) t30) else (bd (f_X7_nextOf v2 v4 t30) (fun x33 t34 => (f_X7_fall_171 (f_X7_fall_45 n) v1 v2 x31 x33 t34)))))))))))))))))))))))))))))))))))))))))
def f_X7_fall_38   (v1 : Int32) (v2 : Int32) (v3 : Int32) (w0 : Int32) (t0 : Sg) : Option (Unit × Sg) :=
  (bv (upS t0 (0, 29) 24 (0 : Int32)) (fun t6 => (f_X7_fall_45 fuel v1 v2 v3 w0 t6)))
def f_X7_fall (v1 : Int32) (t0 : Sg) : Option (Unit × Sg) :=
  (chk (inb v1 8) ((bv ((t0 (0, 40) (v1).toNatClampNeg)) (fun x2 => (chk (inb v1 8) ((bv ((t0 (0, 41) (v1).toNatClampNeg)) (fun x4 => (if x4 = 0 then (f_X7_fall_38 v1 x2 x4 (-1 : Int32) t0) else (chk (inb v1 8) ((chk (inb (t0 (0, 39) (v1).toNatClampNeg) 24) ((bd (f_X7_nextOf x2 (t0 (0, 35) ((t0 (0, 39) (v1).toNatClampNeg)).toNatClampNeg) t0) (fun x38 t39 => (f_X7_fall_38 v1 x2 x4 x38 t39))))))))))))))))
def f_X7_sumHarm_4   : Nat → Int32 → Int32 → Sg → Option (Int32 × Sg)
  | 0, _, _, _ => none
  | n + 1, v1, v2, t0 =>
  (bd (f_X7_tenants t0) (fun x1 t2 => (if x1 ≤ v2 then (some (v1, t2)) else (chk (inb v2 24) ((bv ((v1 + (t2 (0, 45) (v2).toNatClampNeg))) (fun x6 => ((f_X7_sumHarm_4 n) x6 (v2 + (1 : Int32)) t2))))))))
def f_X7_sumHarm  (t0 : Sg) : Option (Int32 × Sg) :=
  (f_X7_sumHarm_4 fuel (0 : Int32) (0 : Int32) t0)
def f_X7_weekOn_51   : Nat → Int32 → Sg → Option (Int32 × Sg)
  | 0, _, _ => none
  | n + 1, v1, t0 =>
  (if (24 : Int32) ≤ v1 then (bd (f_X7_sumHarm t0) (fun x6 t7 => (some (x6, t7)))) else (chk (inb v1 24) ((chk (inb v1 24) ((chk (inb v1 24) ((bv (upS t0 (0, 44) (v1).toNatClampNeg ((t0 (0, 44) (v1).toNatClampNeg) - (if (t0 (0, 44) (v1).toNatClampNeg) ≤ 0 then (0 : Int32) else (1 : Int32)))) (fun t14 => ((f_X7_weekOn_51 n) (v1 + (1 : Int32)) t14))))))))))
def f_X7_weekOn_37  (k6 : Int32 → Sg → Option (Int32 × Sg)) (k14 : Int32 → Int32 → Sg → Option (Int32 × Sg)) (v1 : Int32) (v2 : Int32) (t0 : Sg) : Option (Int32 × Sg) :=
  (k14 v1 (v2 + (1 : Int32)) t0)
def f_X7_weekOn_14  (k6 : Int32 → Sg → Option (Int32 × Sg)) : Nat → Int32 → Int32 → Sg → Option (Int32 × Sg)
  | 0, _, _, _ => none
  | n + 1, v1, v2, t0 =>
  (if (t0 (0, 29) 4) ≤ v2 then (k6 (v1 + (1 : Int32)) t0) else (chk (inb v2 8) ((if (t0 (0, 42) (v2).toNatClampNeg) = v1 then (bd (f_X7_fall v2 t0) (fun _ t19 => (f_X7_weekOn_37 k6 (f_X7_weekOn_14 k6 n) v1 v2 t19))) else (f_X7_weekOn_37 k6 (f_X7_weekOn_14 k6 n) v1 v2 t0)))))
def f_X7_weekOn_6   : Nat → Int32 → Sg → Option (Int32 × Sg)
  | 0, _, _ => none
  | n + 1, v1, t0 =>
  (if (8 : Int32) ≤ v1 then (f_X7_weekOn_51 fuel (0 : Int32) t0) else (f_X7_weekOn_14 (f_X7_weekOn_6 n) fuel v1 (0 : Int32) t0))
def f_X7_weekOn  (t0 : Sg) : Option (Int32 × Sg) :=
  (bd (f_X7_clearHarm t0) (fun _ t2 => (f_X7_weekOn_6 fuel (0 : Int32) t2)))
def f_X7_oneWeek  (t0 : Sg) : Option (Int32 × Sg) :=
  (bd (f_X7_beginMind t0) (fun _ t2 => (bd (f_X7_weekOn t2) (fun x4 t5 => (some (x4, t5))))))
def f_X7_oneWeekOf (v1 : Int32) (t0 : Sg) : Option (Int32 × Sg) :=
  (bd (f_X7_oneWeek t0) (fun x1 t2 => (chk (inb v1 24) ((some ((t2 (0, 45) (v1).toNatClampNeg), t2))))))
def f_X7_keepWeek_67  (k28 : Int32 → Sg → Option (Unit × Sg)) : Nat → Int32 → Int32 → Sg → Option (Unit × Sg)
  | 0, _, _, _ => none
  | n + 1, v1, v2, t0 =>
  (if (24 : Int32) ≤ v2 then (k28 (v1 + (1 : Int32)) t0) else (chk (inb (((24 : Int32) * v1) + v2) 576) ((bv ((t0 (0, 46) ((((24 : Int32) * v1) + v2)).toNatClampNeg)) (fun x15 => (chk (inb (((24 : Int32) * v1) + v2) 576) ((bd (f_X7_lesser (999 : Int32) ((t0 (0, 38) ((((24 : Int32) * v1) + v2)).toNatClampNeg) + x15) t0) (fun x17 t18 => (chk (inb (((24 : Int32) * v1) + v2) 576) ((bv (upS t18 (0, 38) ((((24 : Int32) * v1) + v2)).toNatClampNeg x17) (fun t21 => (chk (inb v1 24) ((chk (inb v1 24) ((bv (upS t21 (0, 37) (v1).toNatClampNeg ((t21 (0, 37) (v1).toNatClampNeg) ||| (if x15 ≤ 0 then (0 : Int32) else ((1 : Int32) <<< (v2 &&& 31))))) (fun t26 => ((f_X7_keepWeek_67 k28 n) v1 (v2 + (1 : Int32)) t26))))))))))))))))))))
def f_X7_keepWeek_28   : Nat → Int32 → Sg → Option (Unit × Sg)
  | 0, _, _ => none
  | n + 1, v1, t0 =>
  (if (24 : Int32) ≤ v1 then (bv (upS t0 (0, 29) 3 ((t0 (0, 29) 3) + (1 : Int32))) (fun t3 => (some ((), t3)))) else (chk (inb v1 24) ((chk (inb v1 24) ((bd (f_X7_lesser (99999 : Int32) ((t0 (0, 36) (v1).toNatClampNeg) + (t0 (0, 45) (v1).toNatClampNeg)) t0) (fun x6 t7 => (chk (inb v1 24) ((bv (upS t7 (0, 36) (v1).toNatClampNeg x6) (fun t10 => (chk (inb v1 24) ((bv (upS t10 (0, 37) (v1).toNatClampNeg (0 : Int32)) (fun t12 => (f_X7_keepWeek_67 (f_X7_keepWeek_28 n) fuel v1 (0 : Int32) t12))))))))))))))))
def f_X7_keepWeek_2   : Nat → Int32 → Sg → Option (Unit × Sg)
  | 0, _, _ => none
  | n + 1, v1, t0 =>
  (if (24 : Int32) ≤ v1 then (f_X7_keepWeek_28 fuel (0 : Int32) t0) else (chk (inb v1 24) ((chk (inb v1 24) ((bv (upS t0 (0, 31) (v1).toNatClampNeg (t0 (0, 44) (v1).toNatClampNeg)) (fun t29 => ((f_X7_keepWeek_2 n) (v1 + (1 : Int32)) t29))))))))
def f_X7_keepWeek  (t0 : Sg) : Option (Unit × Sg) :=
  (f_X7_keepWeek_2 fuel (0 : Int32) t0)
def f_X7_feed_32    (t0 : Sg) : Option (Int32 × Sg) :=
  (bd (f_X7_refuse (-6 : Int32) t0) (fun x4 t5 => (some (x4, t5))))
def f_X7_feed (v1 : Int32) (t0 : Sg) : Option (Int32 × Sg) :=
  (bv (upS t0 (0, 29) 18 (0 : Int32)) (fun t1 => (if 0 ≤ v1 then (if (255 : Int32) < v1 then (f_X7_feed_32 t1) else (if (t1 (0, 29) 26) = (96 : Int32) then (f_X7_feed_32 t1) else (chk (inb (t1 (0, 29) 26) 96) ((bv (upS t1 (0, 48) ((t1 (0, 29) 26)).toNatClampNeg v1) (fun t9 => (bv (upS t9 (0, 29) 26 ((t9 (0, 29) 26) + (1 : Int32))) (fun t10 => (some ((t10 (0, 29) 26), t10)))))))))) else (bd (f_X7_refuse (-4 : Int32) t1) (fun x11 t12 => (some (x11, t12)))))))
def f_X7_here  (t0 : Sg) : Option (Int32 × Sg) :=
  (if (t0 (0, 29) 26) ≤ (t0 (0, 29) 27) then (some ((-1 : Int32), t0)) else (chk (inb (t0 (0, 29) 27) 96) ((some ((t0 (0, 48) ((t0 (0, 29) 27)).toNatClampNeg), t0)))))
def f_X7_readDigit_30   (w0 : Int32) (t0 : Sg) : Option (Int32 × Sg) :=
  (chk (w0 = 0 ∨ w0 = 1) ((bv (upS t0 (0, 29) 28 w0) (fun t9 => (if (t9 (0, 29) 28) = 0 then (bv (upS t9 (0, 29) 27 ((t9 (0, 29) 27) + (1 : Int32))) (fun t12 => (chk (inb ((t12 (0, 29) 27) - (1 : Int32)) 96) ((some (((t12 (0, 48) (((t12 (0, 29) 27) - (1 : Int32))).toNatClampNeg) - (48 : Int32)), t12)))))) else (some ((0 : Int32), t9)))))))
def f_X7_readDigit_25    (t0 : Sg) : Option (Int32 × Sg) :=
  (f_X7_readDigit_30 (1 : Int32) t0)
def f_X7_readDigit  (t0 : Sg) : Option (Int32 × Sg) :=
  (if (t0 (0, 29) 28) = 0 then (bd (f_X7_here t0) (fun x2 t3 => (bd (f_X7_in (x2).toInt64 (48 : Int64) (57 : Int64) t3) (fun x5 t6 => (if x5 = 0 then (f_X7_readDigit_25 t6) else (f_X7_readDigit_30 (0 : Int32) t6)))))) else (f_X7_readDigit_25 t0))
def f_X7_readTwo  (t0 : Sg) : Option (Int32 × Sg) :=
  (bd (f_X7_readDigit t0) (fun x1 t2 => (bd (f_X7_readDigit t2) (fun x4 t5 => (some ((((10 : Int32) * x1) + x4), t5))))))
def f_X7_readSign  (t0 : Sg) : Option (Int32 × Sg) :=
  (bd (f_X7_here t0) (fun x1 t2 => (bv (upS t2 (0, 29) 28 (if (t2 (0, 29) 28) = 0 then (if x1 = (43 : Int32) then (0 : Int32) else (if x1 = (45 : Int32) then (0 : Int32) else (if x1 = (48 : Int32) then (0 : Int32) else (1 : Int32)))) else (1 : Int32))) (fun t9 => (bv (upS t9 (0, 29) 27 ((t9 (0, 29) 27) + (if (t9 (0, 29) 28) = 0 then (1 : Int32) else (0 : Int32)))) (fun t12 => (some ((if x1 = (43 : Int32) then (1 : Int32) else (if x1 = (45 : Int32) then (-1 : Int32) else (0 : Int32))), t12))))))))
def f_X7_readHours_4   : Nat → Int32 → Int32 → Sg → Option (Int32 × Sg)
  | 0, _, _, _ => none
  | n + 1, v1, v2, t0 =>
  (if (8 : Int32) ≤ v2 then (some (v1, t0)) else (if (t0 (0, 29) 28) = 0 then (bd (f_X7_here t0) (fun x3 t4 => (bd (f_X7_in (x3).toInt64 (48 : Int64) (55 : Int64) t4) (fun x6 t7 => (if x6 = 0 then (some (v1, t7)) else (bd (f_X7_readDigit t7) (fun x10 t11 => (bv ((v1 ||| ((1 : Int32) <<< (x10 &&& 31)))) (fun x13 => ((f_X7_readHours_4 n) x13 (v2 + (1 : Int32)) t11)))))))))) else (some (v1, t0))))
def f_X7_readHours  (t0 : Sg) : Option (Int32 × Sg) :=
  (f_X7_readHours_4 fuel (0 : Int32) (0 : Int32) t0)
def f_X7_readTenant_61   (v1 : Int32) (w0 : Int32) (t0 : Sg) : Option (Int32 × Sg) :=
  (chk (w0 = 0 ∨ w0 = 1) ((bv (upS t0 (0, 29) 28 w0) (fun t17 => (bv (upS t17 (0, 29) 27 ((t17 (0, 29) 27) + (if (t17 (0, 29) 28) = 0 then (1 : Int32) else (0 : Int32)))) (fun t21 => (some (v1, t21))))))))
def f_X7_readTenant_56   (v1 : Int32) (t0 : Sg) : Option (Int32 × Sg) :=
  (f_X7_readTenant_61 v1 (1 : Int32) t0)
def f_X7_readTenant_39   (v1 : Int32) (t0 : Sg) : Option (Int32 × Sg) :=
  (if (t0 (0, 29) 28) = 0 then (bd (f_X7_here t0) (fun x13 t14 => (if x13 = (44 : Int32) then (f_X7_readTenant_61 v1 (0 : Int32) t14) else (f_X7_readTenant_56 v1 t14)))) else (f_X7_readTenant_56 v1 t0))
def f_X7_readTenant  (t0 : Sg) : Option (Int32 × Sg) :=
  (bd (f_X7_readDigit t0) (fun x1 t2 => (if (t2 (0, 29) 28) = 0 then (bd (f_X7_here t2) (fun x5 t6 => (bd (f_X7_in (x5).toInt64 (48 : Int64) (57 : Int64) t6) (fun x8 t9 => (if x8 = 0 then (f_X7_readTenant_39 x1 t9) else (bd (f_X7_readDigit t9) (fun x22 t23 => (bv ((((10 : Int32) * x1) + x22)) (fun x25 => (f_X7_readTenant_39 x25 t23)))))))))) else (f_X7_readTenant_39 x1 t2))))
def f_X7_readStatement_349   (w0 : Int32) (t0 : Sg) : Option (Unit × Sg) :=
  (chk (w0 = 0 ∨ w0 = 1) ((bv (upS t0 (0, 29) 28 w0) (fun t38 => (bv (upS t38 (0, 29) 27 ((t38 (0, 29) 27) + (if (t38 (0, 29) 28) = 0 then (1 : Int32) else (0 : Int32)))) (fun t42 => (bv (upS t42 (0, 29) 29 ((t42 (0, 29) 29) + (1 : Int32))) (fun t43 => (some ((), t43))))))))))
def f_X7_readStatement_344    (t0 : Sg) : Option (Unit × Sg) :=
  (f_X7_readStatement_349 (1 : Int32) t0)
def f_X7_readStatement_327    (t0 : Sg) : Option (Unit × Sg) :=
  (if (t0 (0, 29) 28) = 0 then (bd (f_X7_here t0) (fun x34 t35 => (if x34 = (59 : Int32) then (f_X7_readStatement_349 (0 : Int32) t35) else (f_X7_readStatement_344 t35)))) else (f_X7_readStatement_344 t0))
def f_X7_readStatement  (t0 : Sg) : Option (Unit × Sg) :=
  (bv ((t0 (0, 29) 29)) (fun x1 => (bd (f_X7_here t0) (fun x2 t3 => (chk (inb x1 49) ((bv (upS t3 (0, 49) (x1).toNatClampNeg (t3 (0, 29) 27)) (fun t6 => (chk (inb x1 49) ((bv (upS t6 (0, 50) (x1).toNatClampNeg x2) (fun t8 => (bv (upS t8 (0, 29) 28 (if (t8 (0, 29) 28) = 0 then (if x2 = (102 : Int32) then (0 : Int32) else (if x2 = (115 : Int32) then (0 : Int32) else (if x2 = (97 : Int32) then (0 : Int32) else (if x2 = (119 : Int32) then (0 : Int32) else (if x2 = (98 : Int32) then (0 : Int32) else (if x2 = (104 : Int32) then (0 : Int32) else (1 : Int32))))))) else (1 : Int32))) (fun t17 => (bv (upS t17 (0, 29) 27 ((t17 (0, 29) 27) + (if (t17 (0, 29) 28) = 0 then (1 : Int32) else (0 : Int32)))) (fun t20 => (bv (((4 : Int32) * x1)) (fun x21 => (if x2 = (97 : Int32) then (bd (f_X7_readTwo t20) (fun x23 t24 => (chk (inb x21 196) ((bv (upS t24 (0, 51) (x21).toNatClampNeg x23) (fun t27 => (bd (f_X7_readSign t27) (fun x28 t29 => (chk (inb (x21 + (1 : Int32)) 196) ((bv (upS t29 (0, 51) ((x21 + (1 : Int32))).toNatClampNeg x28) (fun t32 => (f_X7_readStatement_327 t32))))))))))))) else (if x2 = (98 : Int32) then (bd (f_X7_readSign t20) (fun x45 t46 => (chk (inb x21 196) ((bv (upS t46 (0, 51) (x21).toNatClampNeg x45) (fun t49 => (f_X7_readStatement_327 t49))))))) else (if x2 = (102 : Int32) then (bd (f_X7_readDigit t20) (fun x51 t52 => (chk (inb x21 196) ((bv (upS t52 (0, 51) (x21).toNatClampNeg x51) (fun t55 => (bd (f_X7_readDigit t55) (fun x56 t57 => (chk (inb (x21 + (1 : Int32)) 196) ((bv (upS t57 (0, 51) ((x21 + (1 : Int32))).toNatClampNeg x56) (fun t60 => (f_X7_readStatement_327 t60))))))))))))) else (if x2 = (115 : Int32) then (bd (f_X7_readTwo t20) (fun x62 t63 => (chk (inb x21 196) ((bv (upS t63 (0, 51) (x21).toNatClampNeg x62) (fun t66 => (bd (f_X7_readDigit t66) (fun x67 t68 => (chk (inb (x21 + (1 : Int32)) 196) ((bv (upS t68 (0, 51) ((x21 + (1 : Int32))).toNatClampNeg x67) (fun t71 => (f_X7_readStatement_327 t71))))))))))))) else (if x2 = (119 : Int32) then (bd (f_X7_readTwo t20) (fun x73 t74 => (chk (inb x21 196) ((bv (upS t74 (0, 51) (x21).toNatClampNeg x73) (fun t77 => (bd (f_X7_readDigit t77) (fun x78 t79 => (chk (inb (x21 + (1 : Int32)) 196) ((bv (upS t79 (0, 51) ((x21 + (1 : Int32))).toNatClampNeg x78) (fun t82 => (bd (f_X7_readHours t82) (fun x83 t84 => (chk (inb (x21 + (2 : Int32)) 196) ((bv (upS t84 (0, 51) ((x21 + (2 : Int32))).toNatClampNeg x83) (fun t87 => (f_X7_readStatement_327 t87))))))))))))))))))) else (bd (f_X7_readTenant t20) (fun x88 t89 => (chk (inb x21 196) ((bv (upS t89 (0, 51) (x21).toNatClampNeg x88) (fun t92 => (bd (f_X7_readDigit t92) (fun x93 t94 => (chk (inb (x21 + (1 : Int32)) 196) ((bv (upS t94 (0, 51) ((x21 + (1 : Int32))).toNatClampNeg x93) (fun t97 => (bd (f_X7_readDigit t97) (fun x98 t99 => (chk (inb (x21 + (2 : Int32)) 196) ((bv (upS t99 (0, 51) ((x21 + (2 : Int32))).toNatClampNeg x98) (fun t102 => (bd (f_X7_readDigit t102) (fun x103 t104 => (chk (inb (x21 + (3 : Int32)) 196) ((bv (upS t104 (0, 51) ((x21 + (3 : Int32))).toNatClampNeg x103) (fun t107 => (f_X7_readStatement_327 t107))))))))))))))))))))))))))))))))))))))))))))))))
def f_X7_frontComes_31   (v1 : Int32) (v2 : Int32) (w0 : Int32) (t0 : Sg) : Option (Int32 × Sg) :=
  (if w0 = 0 then (chk (w0 = 0 ∨ w0 = 1) ((some (w0, t0)))) else (bv (upS t0 (0, 29) 0 v1) (fun t7 => (bv (upS t7 (0, 29) 1 v2) (fun t8 => (bd (f_X7_clearAll t8) (fun _ t10 => (chk (w0 = 0 ∨ w0 = 1) ((some (w0, t10)))))))))))
def f_X7_frontComes_30   (v1 : Int32) (v2 : Int32) (t0 : Sg) : Option (Int32 × Sg) :=
  (f_X7_frontComes_31 v1 v2 (0 : Int32) t0)
def f_X7_frontComes (v1 : Int32) (v2 : Int32) (t0 : Sg) : Option (Int32 × Sg) :=
  (bd (f_X7_in (v1).toInt64 (2 : Int64) (6 : Int64) t0) (fun x1 t2 => (if x1 = 0 then (f_X7_frontComes_30 v1 v2 t2) else (bd (f_X7_in (v2).toInt64 (1 : Int64) (4 : Int64) t2) (fun x13 t14 => (if x13 = 0 then (f_X7_frontComes_30 v1 v2 t14) else (f_X7_frontComes_31 v1 v2 (1 : Int32) t14)))))))
def f_X7_habitComes_53   (v1 : Int32) (w0 : Int32) (t0 : Sg) : Option (Int32 × Sg) :=
  (if w0 = 0 then (chk (w0 = 0 ∨ w0 = 1) ((some (w0, t0)))) else (chk (inb v1 196) ((chk (inb (t0 (0, 29) 4) 8) ((bv (upS t0 (0, 39) ((t0 (0, 29) 4)).toNatClampNeg (t0 (0, 51) (v1).toNatClampNeg)) (fun t10 => (chk (inb (v1 + (1 : Int32)) 196) ((chk (inb (t10 (0, 29) 4) 8) ((bv (upS t10 (0, 40) ((t10 (0, 29) 4)).toNatClampNeg (t10 (0, 51) ((v1 + (1 : Int32))).toNatClampNeg)) (fun t13 => (chk (inb (v1 + (2 : Int32)) 196) ((chk (inb (t13 (0, 29) 4) 8) ((bv (upS t13 (0, 41) ((t13 (0, 29) 4)).toNatClampNeg (t13 (0, 51) ((v1 + (2 : Int32))).toNatClampNeg)) (fun t16 => (chk (inb (v1 + (3 : Int32)) 196) ((chk (inb (t16 (0, 29) 4) 8) ((bv (upS t16 (0, 42) ((t16 (0, 29) 4)).toNatClampNeg (t16 (0, 51) ((v1 + (3 : Int32))).toNatClampNeg)) (fun t19 => (bv (upS t19 (0, 29) 4 ((t19 (0, 29) 4) + (1 : Int32))) (fun t20 => (chk (w0 = 0 ∨ w0 = 1) ((some (w0, t20)))))))))))))))))))))))))))))))
def f_X7_habitComes_52   (v1 : Int32) (t0 : Sg) : Option (Int32 × Sg) :=
  (f_X7_habitComes_53 v1 (0 : Int32) t0)
def f_X7_habitComes (v1 : Int32) (t0 : Sg) : Option (Int32 × Sg) :=
  (chk (inb v1 196) ((bd (f_X7_tenants t0) (fun x2 t3 => (if x2 ≤ (t0 (0, 51) (v1).toNatClampNeg) then (f_X7_habitComes_52 v1 t3) else (chk (inb (v1 + (1 : Int32)) 196) ((if (6 : Int32) ≤ (t3 (0, 51) ((v1 + (1 : Int32))).toNatClampNeg) then (f_X7_habitComes_52 v1 t3) else (chk (inb (v1 + (3 : Int32)) 196) ((if (8 : Int32) ≤ (t3 (0, 51) ((v1 + (3 : Int32))).toNatClampNeg) then (f_X7_habitComes_52 v1 t3) else (if (8 : Int32) ≤ (t3 (0, 29) 4) then (f_X7_habitComes_52 v1 t3) else (f_X7_habitComes_53 v1 (1 : Int32) t3)))))))))))))
def f_X7_saucerIs (v1 : Int32) (v2 : Int32) (t0 : Sg) : Option (Unit × Sg) :=
  (chk (inb v1 24) ((bv (upS t0 (0, 30) (v1).toNatClampNeg v2) (fun t2 => (chk (inb v1 24) ((bd (f_X7_lesser (t2 (0, 31) (v1).toNatClampNeg) v2 t2) (fun x4 t5 => (chk (inb v1 24) ((bv (upS t5 (0, 31) (v1).toNatClampNeg x4) (fun t8 => (some ((), t8))))))))))))))
def f_X7_flatComes (v1 : Int32) (v2 : Int32) (t0 : Sg) : Option (Int32 × Sg) :=
  (chk (inb v2 196) ((bd (f_X7_flatAt (t0 (0, 51) (v2).toNatClampNeg) t0) (fun x2 t3 => (if 0 ≤ x2 then (if v1 = (115 : Int32) then (chk (inb (v2 + (1 : Int32)) 196) ((bd (f_X7_saucerIs x2 (t3 (0, 51) ((v2 + (1 : Int32))).toNatClampNeg) t3) (fun _ t9 => (some ((1 : Int32), t9)))))) else (if v1 = (97 : Int32) then (chk (inb (v2 + (1 : Int32)) 196) ((chk (inb x2 24) ((bv (upS t3 (0, 32) (x2).toNatClampNeg (t3 (0, 51) ((v2 + (1 : Int32))).toNatClampNeg)) (fun t14 => (some ((1 : Int32), t14)))))))) else (chk (inb (v2 + (1 : Int32)) 196) ((chk (inb x2 24) ((bv (upS t3 (0, 33) (x2).toNatClampNeg (t3 (0, 51) ((v2 + (1 : Int32))).toNatClampNeg)) (fun t17 => (chk (inb (v2 + (2 : Int32)) 196) ((chk (inb x2 24) ((bv (upS t17 (0, 34) (x2).toNatClampNeg (t17 (0, 51) ((v2 + (2 : Int32))).toNatClampNeg)) (fun t20 => (some ((1 : Int32), t20)))))))))))))))) else (some ((0 : Int32), t3)))))))
def f_X7_comes (v1 : Int32) (t0 : Sg) : Option (Int32 × Sg) :=
  (bv (((4 : Int32) * v1)) (fun x1 => (chk (inb v1 49) ((bv ((t0 (0, 50) (v1).toNatClampNeg)) (fun x3 => (if x3 = (98 : Int32) then (chk (inb x1 196) ((bv (upS t0 (0, 29) 2 (t0 (0, 51) (x1).toNatClampNeg)) (fun t6 => (some ((1 : Int32), t6)))))) else (if x3 = (102 : Int32) then (chk (inb x1 196) ((chk (inb (x1 + (1 : Int32)) 196) ((bd (f_X7_frontComes (t0 (0, 51) (x1).toNatClampNeg) (t0 (0, 51) ((x1 + (1 : Int32))).toNatClampNeg) t0) (fun x10 t11 => (chk (x10 = 0 ∨ x10 = 1) ((some (x10, t11)))))))))) else (if x3 = (104 : Int32) then (bd (f_X7_habitComes x1 t0) (fun x15 t16 => (chk (x15 = 0 ∨ x15 = 1) ((some (x15, t16)))))) else (chk (inb v1 49) ((bd (f_X7_flatComes (t0 (0, 50) (v1).toNatClampNeg) x1 t0) (fun x20 t21 => (chk (x20 = 0 ∨ x20 = 1) ((some (x20, t21)))))))))))))))))
def f_X7_carry_17    (t0 : Sg) : Option (Int32 × Sg) :=
  (bv (upS t0 (0, 29) 36 ((t0 (0, 29) 36) + (1 : Int32))) (fun t2 => (chk ((t2 (0, 29) 38) = 1 ∨ (t2 (0, 29) 38) = 2) ((chk (inb ((t2 (0, 29) 36) - (1 : Int32)) 810) ((some ((t2 (dynId (t2 (0, 29) 38)) (((t2 (0, 29) 36) - (1 : Int32))).toNatClampNeg), t2))))))))
def f_X7_carry (v1 : Int32) (t0 : Sg) : Option (Int32 × Sg) :=
  (if (t0 (0, 29) 37) = 0 then (f_X7_carry_17 t0) else (chk ((t0 (0, 29) 38) = 1 ∨ (t0 (0, 29) 38) = 2) ((chk (inb (t0 (0, 29) 36) 810) ((bv (upS t0 (dynId (t0 (0, 29) 38)) ((t0 (0, 29) 36)).toNatClampNeg v1) (fun t7 => (f_X7_carry_17 t7))))))))
def f_X7_carryAll_250 (i1 : Nat × Nat)  : Nat → Int32 → Sg → Option (Unit × Sg)
  | 0, _, _ => none
  | n + 1, v3, t0 =>
  (if (8 : Int32) ≤ v3 then (some ((), t0)) else (chk (inb v3 8) ((bd (f_X7_carry (t0 (0, 39) (v3).toNatClampNeg) t0) (fun x30 t31 => (chk (inb v3 8) ((bv (upS t31 (0, 39) (v3).toNatClampNeg x30) (fun t34 => (chk (inb v3 8) ((bd (f_X7_carry (t34 (0, 40) (v3).toNatClampNeg) t34) (fun x36 t37 => (chk (inb v3 8) ((bv (upS t37 (0, 40) (v3).toNatClampNeg x36) (fun t40 => (chk (inb v3 8) ((bd (f_X7_carry (t40 (0, 41) (v3).toNatClampNeg) t40) (fun x42 t43 => (chk (inb v3 8) ((bv (upS t43 (0, 41) (v3).toNatClampNeg x42) (fun t46 => (chk (inb v3 8) ((bd (f_X7_carry (t46 (0, 42) (v3).toNatClampNeg) t46) (fun x48 t49 => (chk (inb v3 8) ((bv (upS t49 (0, 42) (v3).toNatClampNeg x48) (fun t52 => ((f_X7_carryAll_250 i1 n) (v3 + (1 : Int32)) t52))))))))))))))))))))))))))))))))))
def f_X7_carryAll_219 (i1 : Nat × Nat)  : Nat → Int32 → Sg → Option (Unit × Sg)
  | 0, _, _ => none
  | n + 1, v3, t0 =>
  (if (576 : Int32) ≤ v3 then (f_X7_carryAll_250 i1 fuel (0 : Int32) t0) else (chk (inb v3 576) ((bd (f_X7_carry (t0 (0, 38) (v3).toNatClampNeg) t0) (fun x54 t55 => (chk (inb v3 576) ((bv (upS t55 (0, 38) (v3).toNatClampNeg x54) (fun t58 => ((f_X7_carryAll_219 i1 n) (v3 + (1 : Int32)) t58))))))))))
def f_X7_carryAll_77 (i1 : Nat × Nat)  : Nat → Int32 → Sg → Option (Unit × Sg)
  | 0, _, _ => none
  | n + 1, v3, t0 =>
  (if (24 : Int32) ≤ v3 then (f_X7_carryAll_219 i1 fuel (0 : Int32) t0) else (chk (inb v3 24) ((bd (f_X7_carry (t0 (0, 30) (v3).toNatClampNeg) t0) (fun x60 t61 => (chk (inb v3 24) ((bv (upS t61 (0, 30) (v3).toNatClampNeg x60) (fun t64 => (chk (inb v3 24) ((bd (f_X7_carry (t64 (0, 31) (v3).toNatClampNeg) t64) (fun x66 t67 => (chk (inb v3 24) ((bv (upS t67 (0, 31) (v3).toNatClampNeg x66) (fun t70 => (chk (inb v3 24) ((bd (f_X7_carry (t70 (0, 32) (v3).toNatClampNeg) t70) (fun x72 t73 => (chk (inb v3 24) ((bv (upS t73 (0, 32) (v3).toNatClampNeg x72) (fun t76 => (chk (inb v3 24) ((bd (f_X7_carry (t76 (0, 33) (v3).toNatClampNeg) t76) (fun x78 t79 => (chk (inb v3 24) ((bv (upS t79 (0, 33) (v3).toNatClampNeg x78) (fun t82 => (chk (inb v3 24) ((bd (f_X7_carry (t82 (0, 34) (v3).toNatClampNeg) t82) (fun x84 t85 => (chk (inb v3 24) ((bv (upS t85 (0, 34) (v3).toNatClampNeg x84) (fun t88 => (chk (inb v3 24) ((bd (f_X7_carry (t88 (0, 35) (v3).toNatClampNeg) t88) (fun x90 t91 => (chk (inb v3 24) ((bv (upS t91 (0, 35) (v3).toNatClampNeg x90) (fun t94 => (chk (inb v3 24) ((bd (f_X7_carry (t94 (0, 36) (v3).toNatClampNeg) t94) (fun x96 t97 => (chk (inb v3 24) ((bv (upS t97 (0, 36) (v3).toNatClampNeg x96) (fun t100 => (chk (inb v3 24) ((bd (f_X7_carry (t100 (0, 37) (v3).toNatClampNeg) t100) (fun x102 t103 => (chk (inb v3 24) ((bv (upS t103 (0, 37) (v3).toNatClampNeg x102) (fun t106 => ((f_X7_carryAll_77 i1 n) (v3 + (1 : Int32)) t106))))))))))))))))))))))))))))))))))))))))))))))))))))))))))))))))))
def f_X7_carryAll (i1 : Nat × Nat) (v2 : Int32) (t0 : Sg) : Option (Unit × Sg) :=
  (chk (i1 = (0, ly_kept) ∨ i1 = (0, ly_imaged)) ((bv (upS t0 (0, 29) 38 (if i1 = (0, ly_kept) then (1 : Int32) else 2)) (fun t1 => (chk (v2 = 0 ∨ v2 = 1) ((bv (upS t1 (0, 29) 37 v2) (fun t3 => (bv (upS t3 (0, 29) 36 (0 : Int32)) (fun t5 => (bd (f_X7_carry (t5 (0, 29) 0) t5) (fun x6 t7 => (bv (upS t7 (0, 29) 0 x6) (fun t9 => (bd (f_X7_carry (t9 (0, 29) 1) t9) (fun x10 t11 => (bv (upS t11 (0, 29) 1 x10) (fun t13 => (bd (f_X7_carry (t13 (0, 29) 2) t13) (fun x14 t15 => (bv (upS t15 (0, 29) 2 x14) (fun t17 => (bd (f_X7_carry (t17 (0, 29) 3) t17) (fun x18 t19 => (bv (upS t19 (0, 29) 3 x18) (fun t21 => (bd (f_X7_carry (t21 (0, 29) 4) t21) (fun x22 t23 => (bv (upS t23 (0, 29) 4 x22) (fun t25 => (f_X7_carryAll_77 i1 fuel (0 : Int32) t25)))))))))))))))))))))))))))))))
def f_X7_front_45  (k20 : Sg → Option (Int32 × Sg))  (t0 : Sg) : Option (Int32 × Sg) :=
  (bd (f_X7_readStatement t0) (fun _ t8 => (k20 t8)))
def f_X7_front_84   : Nat → Int32 → Sg → Option (Int32 × Sg)
  | 0, _, _ => none
  | n + 1, v1, t0 =>
  (if (t0 (0, 29) 29) ≤ v1 then (some ((t0 (0, 29) 29), t0)) else (bd (f_X7_comes v1 t0) (fun x17 t18 => (if x17 = 0 then (bd (f_X7_carryAll (0, 52) (0 : Int32) t18) (fun _ t22 => (chk (inb v1 49) ((some (((-2000 : Int32) - (t22 (0, 49) (v1).toNatClampNeg)), t22)))))) else ((f_X7_front_84 n) (v1 + (1 : Int32)) t18)))))
def f_X7_front_52    (t0 : Sg) : Option (Int32 × Sg) :=
  (bv (upS t0 (0, 29) 26 (0 : Int32)) (fun t11 => (if (t11 (0, 29) 28) = 0 then (bd (f_X7_carryAll (0, 52) (1 : Int32) t11) (fun _ t14 => (f_X7_front_84 fuel (0 : Int32) t14))) else (some (((-1000 : Int32) - (t11 (0, 29) 27)), t11)))))
def f_X7_front_20   : Nat → Sg → Option (Int32 × Sg)
  | 0, _ => none
  | n + 1, t0 =>
  (if (t0 (0, 29) 28) = 0 then (if (t0 (0, 29) 29) = 0 then (f_X7_front_45 (f_X7_front_20 n) t0) else (if (t0 (0, 29) 26) ≤ (t0 (0, 29) 27) then (f_X7_front_52 t0) else (f_X7_front_45 (f_X7_front_20 n) t0))) else (f_X7_front_52 t0))
def f_X7_front  (t0 : Sg) : Option (Int32 × Sg) :=
  (bv (upS t0 (0, 29) 18 (0 : Int32)) (fun t1 => (bv (upS t1 (0, 29) 27 (0 : Int32)) (fun t2 => (bv (upS t2 (0, 29) 28 (0 : Int32)) (fun t3 => (bv (upS t3 (0, 29) 29 (0 : Int32)) (fun t4 => (f_X7_front_20 fuel t4)))))))))
def f_X7_image  (t0 : Sg) : Option (Int32 × Sg) :=
  (bv (upS t0 (0, 29) 18 (0 : Int32)) (fun t1 => (bv (upS t1 (0, 29) 35 (1 : Int32)) (fun t2 => (bd (f_X7_carryAll (0, 53) (1 : Int32) t2) (fun _ t4 => (some ((t4 (0, 29) 3), t4))))))))
def f_X7_restore  (t0 : Sg) : Option (Int32 × Sg) :=
  (bv (upS t0 (0, 29) 18 (0 : Int32)) (fun t1 => (if (t1 (0, 29) 35) = 0 then (bd (f_X7_refuse (-3 : Int32) t1) (fun x3 t4 => (some (x3, t4)))) else (bd (f_X7_carryAll (0, 53) (0 : Int32) t1) (fun _ t7 => (some ((t7 (0, 29) 3), t7)))))))
def f_X7_flat_27   (v3 : Int32) (t0 : Sg) : Option (Int32 × Sg) :=
  (bd (f_X7_refuse (if 0 ≤ v3 then (-2 : Int32) else (-1 : Int32)) t0) (fun x8 t9 => (some (x8, t9))))
def f_X7_flat (v1 : Int32) (v2 : Int32) (t0 : Sg) : Option (Int32 × Sg) :=
  (bv (upS t0 (0, 29) 18 (0 : Int32)) (fun t1 => (bd (f_X7_flatAt v1 t1) (fun x2 t3 => (if x2 < 0 then (f_X7_flat_27 x2 t3) else (bd (f_X7_in (v2).toInt64 (0 : Int64) (5 : Int64) t3) (fun x11 t12 => (if x11 = 0 then (f_X7_flat_27 x2 t12) else (if v2 = (0 : Int32) then (chk (inb x2 24) ((some ((t12 (0, 30) (x2).toNatClampNeg), t12)))) else (if v2 = (1 : Int32) then (chk (inb x2 24) ((some ((t12 (0, 31) (x2).toNatClampNeg), t12)))) else (if v2 = (2 : Int32) then (chk (inb x2 24) ((some (((1 : Int32) + (t12 (0, 32) (x2).toNatClampNeg)), t12)))) else (if v2 = (3 : Int32) then (chk (inb x2 24) ((some ((t12 (0, 33) (x2).toNatClampNeg), t12)))) else (if v2 = (4 : Int32) then (chk (inb x2 24) ((some ((t12 (0, 34) (x2).toNatClampNeg), t12)))) else (bd (f_X7_livesIn x2 t12) (fun x25 t26 => (some (x25, t26)))))))))))))))))
def f_X7_habitsOf_4   : Nat → Int32 → Int32 → Int32 → Sg → Option (Int32 × Sg)
  | 0, _, _, _, _ => none
  | n + 1, v1, v2, v3, t0 =>
  (if (t0 (0, 29) 4) ≤ v3 then (some (v2, t0)) else (chk (inb v3 8) ((bv ((v2 + (if (t0 (0, 39) (v3).toNatClampNeg) = v1 then (1 : Int32) else (0 : Int32)))) (fun x5 => ((f_X7_habitsOf_4 n) v1 x5 (v3 + (1 : Int32)) t0))))))
def f_X7_habitsOf (v1 : Int32) (t0 : Sg) : Option (Int32 × Sg) :=
  (f_X7_habitsOf_4 fuel v1 (0 : Int32) (0 : Int32) t0)
def f_X7_tenant_25   (v1 : Int32) (t0 : Sg) : Option (Int32 × Sg) :=
  (bd (f_X7_isTenant v1 t0) (fun x6 t7 => (bd (f_X7_refuse (if x6 = 0 then (-1 : Int32) else (-2 : Int32)) t7) (fun x11 t12 => (some (x11, t12))))))
def f_X7_tenant (v1 : Int32) (v2 : Int32) (t0 : Sg) : Option (Int32 × Sg) :=
  (bv (upS t0 (0, 29) 18 (0 : Int32)) (fun t1 => (bd (f_X7_isTenant v1 t1) (fun x2 t3 => (if x2 = 0 then (f_X7_tenant_25 v1 t3) else (bd (f_X7_in (v2).toInt64 (0 : Int64) (2 : Int64) t3) (fun x14 t15 => (if x14 = 0 then (f_X7_tenant_25 v1 t15) else (if v2 = 0 then (chk (inb v1 24) ((bd (f_X7_toldAs (t15 (0, 35) (v1).toNatClampNeg) t15) (fun x20 t21 => (some (x20, t21)))))) else (if v2 = (1 : Int32) then (chk (inb v1 24) ((some ((t15 (0, 36) (v1).toNatClampNeg), t15)))) else (bd (f_X7_habitsOf v1 t15) (fun x25 t26 => (some (x25, t26))))))))))))))
def f_X7_anger (v1 : Int32) (v2 : Int32) (t0 : Sg) : Option (Int32 × Sg) :=
  (bv (upS t0 (0, 29) 18 (0 : Int32)) (fun t1 => (bd (f_X7_areTenants v1 v2 t1) (fun x2 t3 => (if x2 = 0 then (bd (f_X7_refuse (-1 : Int32) t3) (fun x6 t7 => (some (x6, t7)))) else (chk (inb (((24 : Int32) * v1) + v2) 576) ((some ((t3 (0, 38) ((((24 : Int32) * v1) + v2)).toNatClampNeg), t3)))))))))
def f_X7_habit_25   (v1 : Int32) (t0 : Sg) : Option (Int32 × Sg) :=
  (bd (f_X7_isHabit v1 t0) (fun x6 t7 => (bd (f_X7_refuse (if x6 = 0 then (-1 : Int32) else (-2 : Int32)) t7) (fun x11 t12 => (some (x11, t12))))))
def f_X7_habit (v1 : Int32) (v2 : Int32) (t0 : Sg) : Option (Int32 × Sg) :=
  (bv (upS t0 (0, 29) 18 (0 : Int32)) (fun t1 => (bd (f_X7_isHabit v1 t1) (fun x2 t3 => (if x2 = 0 then (f_X7_habit_25 v1 t3) else (bd (f_X7_in (v2).toInt64 (0 : Int64) (3 : Int64) t3) (fun x14 t15 => (if x14 = 0 then (f_X7_habit_25 v1 t15) else (if v2 = 0 then (chk (inb v1 8) ((some ((t15 (0, 39) (v1).toNatClampNeg), t15)))) else (if v2 = (1 : Int32) then (chk (inb v1 8) ((some ((t15 (0, 40) (v1).toNatClampNeg), t15)))) else (if v2 = (2 : Int32) then (chk (inb v1 8) ((some ((t15 (0, 41) (v1).toNatClampNeg), t15)))) else (chk (inb v1 8) ((some ((t15 (0, 42) (v1).toNatClampNeg), t15)))))))))))))))
def f_X7_isTime (v0 : Int32) (t0 : Sg) : Option (Int32 × Sg) :=
  (bd (f_X7_in (v0).toInt64 (0 : Int64) (7 : Int64) t0) (fun x1 t2 => (chk (x1 = 0 ∨ x1 = 1) ((some (x1, t2))))))
def f_X7_put_20   (v1 : Int32) (t0 : Sg) : Option (Int32 × Sg) :=
  (bd (f_X7_isHabit v1 t0) (fun x6 t7 => (bd (f_X7_refuse (if x6 = 0 then (-1 : Int32) else (-2 : Int32)) t7) (fun x11 t12 => (some (x11, t12))))))
def f_X7_put (v1 : Int32) (v2 : Int32) (t0 : Sg) : Option (Int32 × Sg) :=
  (bv (upS t0 (0, 29) 18 (0 : Int32)) (fun t1 => (bd (f_X7_isHabit v1 t1) (fun x2 t3 => (if x2 = 0 then (f_X7_put_20 v1 t3) else (bd (f_X7_isTime v2 t3) (fun x14 t15 => (if x14 = 0 then (f_X7_put_20 v1 t15) else (chk (inb v1 8) ((bv ((t15 (0, 42) (v1).toNatClampNeg)) (fun x19 => (chk (inb v1 8) ((bv (upS t15 (0, 42) (v1).toNatClampNeg v2) (fun t21 => (some (x19, t21))))))))))))))))))
def f_X7_wrongNumber (v0 : Int32) (v1 : Int32) (v2 : Int32) (t0 : Sg) : Option (Int32 × Sg) :=
  (some ((if v1 ≤ v0 then (if v0 ≤ v2 then (0 : Int32) else (-6 : Int32)) else (-4 : Int32)), t0))
def f_X7_saucer_26   (v2 : Int32) (v3 : Int32) (w0 : Int32) (t0 : Sg) : Option (Int32 × Sg) :=
  (if 0 ≤ w0 then (chk (inb v3 24) ((bv ((t0 (0, 30) (v3).toNatClampNeg)) (fun x11 => (bd (f_X7_saucerIs v3 v2 t0) (fun _ t13 => (some (x11, t13)))))))) else (bd (f_X7_refuse w0 t0) (fun x15 t16 => (some (x15, t16)))))
def f_X7_saucer (v1 : Int32) (v2 : Int32) (t0 : Sg) : Option (Int32 × Sg) :=
  (bv (upS t0 (0, 29) 18 (0 : Int32)) (fun t1 => (bd (f_X7_flatAt v1 t1) (fun x2 t3 => (if 0 ≤ x2 then (bd (f_X7_wrongNumber v2 (0 : Int32) (9 : Int32) t3) (fun x6 t7 => (f_X7_saucer_26 v2 x2 x6 t7))) else (f_X7_saucer_26 v2 x2 (-1 : Int32) t3))))))
def f_X7_awning_25   (v2 : Int32) (v3 : Int32) (w0 : Int32) (t0 : Sg) : Option (Int32 × Sg) :=
  (if 0 ≤ w0 then (chk (inb v3 24) ((bv ((t0 (0, 32) (v3).toNatClampNeg)) (fun x11 => (chk (inb v3 24) ((bv (upS t0 (0, 32) (v3).toNatClampNeg v2) (fun t13 => (some (((1 : Int32) + x11), t13)))))))))) else (bd (f_X7_refuse w0 t0) (fun x14 t15 => (some (x14, t15)))))
def f_X7_awning (v1 : Int32) (v2 : Int32) (t0 : Sg) : Option (Int32 × Sg) :=
  (bv (upS t0 (0, 29) 18 (0 : Int32)) (fun t1 => (bd (f_X7_flatAt v1 t1) (fun x2 t3 => (if 0 ≤ x2 then (bd (f_X7_wrongNumber v2 (-1 : Int32) (1 : Int32) t3) (fun x6 t7 => (f_X7_awning_25 v2 x2 x6 t7))) else (f_X7_awning_25 v2 x2 (-1 : Int32) t3))))))
def f_X7_wash (v1 : Int32) (v2 : Int32) (v3 : Int32) (t0 : Sg) : Option (Int32 × Sg) :=
  (bv (upS t0 (0, 29) 18 (0 : Int32)) (fun t1 => (bd (f_X7_flatAt v1 t1) (fun x2 t3 => (bv ((if 0 ≤ x2 then (if v2 < 0 then (-4 : Int32) else (if 0 ≤ v3 then (if (9 : Int32) < v2 then (-6 : Int32) else (if v3 ≤ (255 : Int32) then (0 : Int32) else (-6 : Int32))) else (-4 : Int32))) else (-1 : Int32))) (fun x11 => (if 0 ≤ x11 then (chk (inb x2 24) ((bv ((t3 (0, 33) (x2).toNatClampNeg)) (fun x14 => (chk (inb x2 24) ((bv (upS t3 (0, 33) (x2).toNatClampNeg v2) (fun t16 => (chk (inb x2 24) ((bv (upS t16 (0, 34) (x2).toNatClampNeg v3) (fun t18 => (some (x14, t18)))))))))))))) else (bd (f_X7_refuse x11 t3) (fun x19 t20 => (some (x19, t20)))))))))))
def f_X7_wind (v1 : Int32) (t0 : Sg) : Option (Int32 × Sg) :=
  (bv (upS t0 (0, 29) 18 (0 : Int32)) (fun t1 => (bd (f_X7_wrongNumber v1 (-1 : Int32) (1 : Int32) t1) (fun x2 t3 => (if 0 ≤ x2 then (bv ((t3 (0, 29) 2)) (fun x6 => (bv (upS t3 (0, 29) 2 v1) (fun t7 => (some (((1 : Int32) + x6), t7)))))) else (bd (f_X7_wrongNumber v1 (-1 : Int32) (1 : Int32) t3) (fun x8 t9 => (bd (f_X7_refuse x8 t9) (fun x11 t12 => (some (x11, t12)))))))))))
def f_X7_change (v1 : Int32) (v2 : Int32) (t0 : Sg) : Option (Unit × Sg) :=
  (chk (inb v1 24) ((bv ((t0 (0, 35) (v1).toNatClampNeg)) (fun x2 => (chk (inb v2 24) ((chk (inb v1 24) ((bv (upS t0 (0, 35) (v1).toNatClampNeg (t0 (0, 35) (v2).toNatClampNeg)) (fun t5 => (chk (inb v2 24) ((bv (upS t5 (0, 35) (v2).toNatClampNeg x2) (fun t7 => (some ((), t7))))))))))))))))
def f_X7_move (v1 : Int32) (v2 : Int32) (t0 : Sg) : Option (Int32 × Sg) :=
  (bv (upS t0 (0, 29) 18 (0 : Int32)) (fun t1 => (bd (f_X7_areTenants v1 v2 t1) (fun x2 t3 => (if x2 = 0 then (bd (f_X7_refuse (-1 : Int32) t3) (fun x6 t7 => (some (x6, t7)))) else (bd (f_X7_change v1 v2 t3) (fun _ t10 => (chk (inb v1 24) ((bd (f_X7_toldAs (t10 (0, 35) (v1).toNatClampNeg) t10) (fun x13 t14 => (some (x13, t14)))))))))))))
def f_X7_rain_9   : Nat → Int32 → Int32 → Sg → Option (Int32 × Sg)
  | 0, _, _, _ => none
  | n + 1, v1, v2, t0 =>
  (if (24 : Int32) ≤ v2 then (some (v1, t0)) else (chk (inb v2 24) ((bv ((v1 + (t0 (0, 31) (v2).toNatClampNeg))) (fun x4 => (chk (inb v2 24) ((bv (upS t0 (0, 31) (v2).toNatClampNeg (0 : Int32)) (fun t6 => ((f_X7_rain_9 n) x4 (v2 + (1 : Int32)) t6))))))))))
def f_X7_rain  (t0 : Sg) : Option (Int32 × Sg) :=
  (bv (upS t0 (0, 29) 18 (0 : Int32)) (fun t1 => (f_X7_rain_9 fuel (0 : Int32) (0 : Int32) t1)))
def f_X7_week  (t0 : Sg) : Option (Int32 × Sg) :=
  (bv (upS t0 (0, 29) 18 (0 : Int32)) (fun t1 => (if (t1 (0, 29) 3) = (9999 : Int32) then (bd (f_X7_refuse (-6 : Int32) t1) (fun x3 t4 => (some (x3, t4)))) else (bd (f_X7_oneWeek t1) (fun x6 t7 => (bd (f_X7_keepWeek t7) (fun _ t10 => (some (x6, t10)))))))))
def f_X7_fallAlone (v1 : Int32) (t0 : Sg) : Option (Unit × Sg) :=
  (bd (f_X7_beginMind t0) (fun _ t2 => (bd (f_X7_fall v1 t2) (fun _ t5 => (some ((), t5))))))
def f_X7_steps_18   (v1 : Int32) (t0 : Sg) : Option (Int32 × Sg) :=
  (bd (f_X7_isHabit v1 t0) (fun x6 t7 => (bd (f_X7_refuse (if x6 = 0 then (-1 : Int32) else (-4 : Int32)) t7) (fun x11 t12 => (some (x11, t12))))))
def f_X7_steps (v1 : Int32) (v2 : Int32) (t0 : Sg) : Option (Int32 × Sg) :=
  (bv (upS t0 (0, 29) 18 (0 : Int32)) (fun t1 => (bd (f_X7_isHabit v1 t1) (fun x2 t3 => (if x2 = 0 then (f_X7_steps_18 v1 t3) else (if (-1 : Int32) ≤ v2 then (bd (f_X7_fallAlone v1 t3) (fun _ t16 => (if 0 ≤ v2 then (if (t16 (0, 29) 24) ≤ v2 then (some ((-9 : Int32), t16)) else (chk (inb v2 8) ((bd (f_X7_toldAs (t16 (0, 47) (v2).toNatClampNeg) t16) (fun x21 t22 => (some (x21, t22))))))) else (some ((t16 (0, 29) 24), t16))))) else (f_X7_steps_18 v1 t3)))))))
def f_X7_down (v1 : Int32) (t0 : Sg) : Option (Int32 × Sg) :=
  (bv (upS t0 (0, 29) 18 (0 : Int32)) (fun t1 => (bd (f_X7_isHabit v1 t1) (fun x2 t3 => (if x2 = 0 then (bd (f_X7_refuse (-1 : Int32) t3) (fun x6 t7 => (some (x6, t7)))) else (bd (f_X7_fallAlone v1 t3) (fun _ t10 => (if (t10 (0, 29) 24) = 0 then (some ((-9 : Int32), t10)) else (chk (inb ((t10 (0, 29) 24) - (1 : Int32)) 8) ((bd (f_X7_toldAs (t10 (0, 47) (((t10 (0, 29) 24) - (1 : Int32))).toNatClampNeg) t10) (fun x14 t15 => (some (x14, t15))))))))))))))
def f_X7_comesTo_46   (v3 : Int32) (t0 : Sg) : Option (Int32 × Sg) :=
  (some ((if v3 < 0 then (0 : Int32) else (1 : Int32)), t0))
def f_X7_comesTo_22   : Nat → Int32 → Int32 → Int32 → Sg → Option (Int32 × Sg)
  | 0, _, _, _, _ => none
  | n + 1, v1, v2, v3, t0 =>
  (if v3 < 0 then (f_X7_comesTo_46 v3 t0) else (if v3 = v2 then (f_X7_comesTo_46 v3 t0) else (chk (inb v1 8) ((bd (f_X7_nextOf (t0 (0, 40) (v1).toNatClampNeg) v3 t0) (fun x12 t13 => ((f_X7_comesTo_22 n) v1 v2 x12 t13)))))))
def f_X7_comesTo (v1 : Int32) (v2 : Int32) (t0 : Sg) : Option (Int32 × Sg) :=
  (chk (inb v1 8) ((chk (inb v1 8) ((chk (inb (t0 (0, 39) (v1).toNatClampNeg) 24) ((bd (f_X7_nextOf (t0 (0, 40) (v1).toNatClampNeg) (t0 (0, 35) ((t0 (0, 39) (v1).toNatClampNeg)).toNatClampNeg) t0) (fun x4 t5 => (f_X7_comesTo_22 fuel v1 v2 x4 t5)))))))))
def f_X7_whom_22   (v3 : Int32) (t0 : Sg) : Option (Int32 × Sg) :=
  (bd (f_X7_refuse (if 0 ≤ v3 then (-2 : Int32) else (-1 : Int32)) t0) (fun x8 t9 => (some (x8, t9))))
def f_X7_whom_83  (k43 : Int32 → Int32 → Int32 → Int32 → Sg → Option (Int32 × Sg)) (v2 : Int32) (v3 : Int32) (v5 : Int32) (w0 : Int32) (w1 : Int32) (t0 : Sg) : Option (Int32 × Sg) :=
  (bv ((w1 ||| w0)) (fun x22 => (k43 v2 v3 x22 (v5 + (1 : Int32)) t0)))
def f_X7_whom_82  (k43 : Int32 → Int32 → Int32 → Int32 → Sg → Option (Int32 × Sg)) (v2 : Int32) (v3 : Int32) (v5 : Int32) (w0 : Int32) (t0 : Sg) : Option (Int32 × Sg) :=
  (f_X7_whom_83 k43 v2 v3 v5 (0 : Int32) w0 t0)
def f_X7_whom_43   : Nat → Int32 → Int32 → Int32 → Int32 → Sg → Option (Int32 × Sg)
  | 0, _, _, _, _, _ => none
  | n + 1, v2, v3, v4, v5, t0 =>
  (if (t0 (0, 29) 4) ≤ v5 then (some (v4, t0)) else (chk (inb v5 8) ((if (t0 (0, 42) (v5).toNatClampNeg) = v2 then (bd (f_X7_comesTo v5 v3 t0) (fun x18 t19 => (if x18 = 0 then (f_X7_whom_82 (f_X7_whom_43 n) v2 v3 v5 v4 t19) else (f_X7_whom_83 (f_X7_whom_43 n) v2 v3 v5 ((1 : Int32) <<< (v5 &&& 31)) v4 t19)))) else (f_X7_whom_82 (f_X7_whom_43 n) v2 v3 v5 v4 t0)))))
def f_X7_whom (v1 : Int32) (v2 : Int32) (t0 : Sg) : Option (Int32 × Sg) :=
  (bv (upS t0 (0, 29) 18 (0 : Int32)) (fun t1 => (bd (f_X7_flatAt v1 t1) (fun x2 t3 => (if x2 < 0 then (f_X7_whom_22 x2 t3) else (bd (f_X7_isTime v2 t3) (fun x11 t12 => (if x11 = 0 then (f_X7_whom_22 x2 t12) else (f_X7_whom_43 fuel v2 x2 (0 : Int32) (0 : Int32) t12)))))))))
def f_X7_does_21    (t0 : Sg) : Option (Int32 × Sg) :=
  (bd (f_X7_refuse (-1 : Int32) t0) (fun x6 t7 => (some (x6, t7))))
def f_X7_does (v1 : Int32) (v2 : Int32) (t0 : Sg) : Option (Int32 × Sg) :=
  (bv (upS t0 (0, 29) 18 (0 : Int32)) (fun t1 => (bd (f_X7_isHabit v1 t1) (fun x2 t3 => (if x2 = 0 then (f_X7_does_21 t3) else (bd (f_X7_isTenant v2 t3) (fun x9 t10 => (if x9 = 0 then (f_X7_does_21 t10) else (bd (f_X7_fallAlone v1 t10) (fun _ t14 => (chk (inb v2 24) ((some ((t14 (0, 45) (v2).toNatClampNeg), t14))))))))))))))
def f_X7_harmed_79  (k50 : Int32 → Int32 → Int32 → Int32 → Sg → Option (Int32 × Sg)) (v1 : Int32) (v2 : Int32) (v5 : Int32) (w0 : Int32) (w1 : Int32) (t0 : Sg) : Option (Int32 × Sg) :=
  (bv ((w1 + w0)) (fun x16 => (k50 v1 v2 x16 (v5 + (1 : Int32)) t0)))
def f_X7_harmed_50   : Nat → Int32 → Int32 → Int32 → Int32 → Sg → Option (Int32 × Sg)
  | 0, _, _, _, _, _ => none
  | n + 1, v1, v2, v4, v5, t0 =>
  (if v2 ≤ v5 then (some (v4, t0)) else (bd (f_X7_weekOn t0) (fun x11 t12 => (if 0 ≤ v1 then (chk (inb v1 24) ((f_X7_harmed_79 (f_X7_harmed_50 n) v1 v2 v5 (t12 (0, 45) (v1).toNatClampNeg) v4 t12))) else (f_X7_harmed_79 (f_X7_harmed_50 n) v1 v2 v5 x11 v4 t12)))))
def f_X7_harmed_29   (v1 : Int32) (v2 : Int32) (w0 : Int32) (t0 : Sg) : Option (Int32 × Sg) :=
  (if 0 ≤ w0 then (bd (f_X7_beginMind t0) (fun _ t8 => (f_X7_harmed_50 fuel v1 v2 (0 : Int32) (0 : Int32) t8))) else (bd (f_X7_refuse w0 t0) (fun x17 t18 => (some (x17, t18)))))
def f_X7_harmed_18   (v1 : Int32) (v2 : Int32) (t0 : Sg) : Option (Int32 × Sg) :=
  (bd (f_X7_wrongNumber v2 (1 : Int32) (20 : Int32) t0) (fun x3 t4 => (f_X7_harmed_29 v1 v2 x3 t4)))
def f_X7_harmed (v1 : Int32) (v2 : Int32) (t0 : Sg) : Option (Int32 × Sg) :=
  (bv (upS t0 (0, 29) 18 (0 : Int32)) (fun t1 => (if v1 = (-1 : Int32) then (f_X7_harmed_18 v1 v2 t1) else (bd (f_X7_isTenant v1 t1) (fun x20 t21 => (if x20 = 0 then (f_X7_harmed_29 v1 v2 (-1 : Int32) t21) else (f_X7_harmed_18 v1 v2 t21)))))))
def f_X7_least_23   (v1 : Int32) (t0 : Sg) : Option (Int32 × Sg) :=
  (bd (f_X7_isHabit v1 t0) (fun x6 t7 => (bd (f_X7_refuse (if x6 = 0 then (-1 : Int32) else (-2 : Int32)) t7) (fun x11 t12 => (some (x11, t12))))))
def f_X7_least_58   : Nat → Int32 → Int32 → Int32 → Int32 → Int32 → Int32 → Sg → Option (Int32 × Sg)
  | 0, _, _, _, _, _, _, _ => none
  | n + 1, v1, v2, v3, v4, v5, v6, t0 =>
  (if (8 : Int32) ≤ v6 then (chk (inb v1 8) ((bv (upS t0 (0, 42) (v1).toNatClampNeg v3) (fun t22 => (some ((if v2 = 0 then v4 else v5), t22)))))) else (chk (inb v1 8) ((bv (upS t0 (0, 42) (v1).toNatClampNeg v6) (fun t26 => (bd (f_X7_oneWeek t26) (fun x27 t28 => (bv ((if v4 < 0 then (1 : Int32) else (if v5 ≤ x27 then (0 : Int32) else (1 : Int32)))) (fun x33 => (bv ((if x33 = 0 then v4 else v6)) (fun x36 => (bv ((if x33 = 0 then v5 else x27)) (fun x39 => ((f_X7_least_58 n) v1 v2 v3 x36 x39 (v6 + (1 : Int32)) t28))))))))))))))
def f_X7_least (v1 : Int32) (v2 : Int32) (t0 : Sg) : Option (Int32 × Sg) :=
  (bv (upS t0 (0, 29) 18 (0 : Int32)) (fun t1 => (bd (f_X7_isHabit v1 t1) (fun x2 t3 => (if x2 = 0 then (f_X7_least_23 v1 t3) else (bd (f_X7_in (v2).toInt64 (0 : Int64) (1 : Int64) t3) (fun x14 t15 => (if x14 = 0 then (f_X7_least_23 v1 t15) else (chk (inb v1 8) ((bv ((t15 (0, 42) (v1).toNatClampNeg)) (fun x19 => (f_X7_least_58 fuel v1 v2 x19 (-1 : Int32) (0 : Int32) (0 : Int32) t15)))))))))))))
def f_X7_hours_26    (t0 : Sg) : Option (Int32 × Sg) :=
  (bd (f_X7_refuse (-1 : Int32) t0) (fun x6 t7 => (some (x6, t7))))
def f_X7_hours_152  (k74 : Int32 → Int32 → Int32 → Int32 → Int32 → Int32 → Int32 → Int32 → Sg → Option (Int32 × Sg)) (v1 : Int32) (v2 : Int32) (v3 : Int32) (v4 : Int32) (v5 : Int32) (v7 : Int32) (v8 : Int32) (v9 : Int32) (v10 : Int32) (w0 : Int32) (t0 : Sg) : Option (Int32 × Sg) :=
  (bv ((if v10 = 0 then v7 else v9)) (fun x46 => (k74 v1 v2 v3 v4 v5 w0 x46 (v8 + (1 : Int32)) t0)))
def f_X7_hours_74   : Nat → Int32 → Int32 → Int32 → Int32 → Int32 → Int32 → Int32 → Int32 → Sg → Option (Int32 × Sg)
  | 0, _, _, _, _, _, _, _, _, _ => none
  | n + 1, v1, v2, v3, v4, v5, v6, v7, v8, t0 =>
  (if (64 : Int32) ≤ v8 then (chk (inb v1 8) ((bv (upS t0 (0, 42) (v1).toNatClampNeg v4) (fun t27 => (chk (inb v2 8) ((bv (upS t27 (0, 42) (v2).toNatClampNeg v5) (fun t29 => (some ((if v3 = 0 then v6 else v7), t29)))))))))) else (chk (inb v1 8) ((bv (upS t0 (0, 42) (v1).toNatClampNeg (v8 / (8 : Int32))) (fun t33 => (chk (inb v2 8) ((bv (upS t33 (0, 42) (v2).toNatClampNeg (v8 - v8 / (8 : Int32) * (8 : Int32))) (fun t35 => (bd (f_X7_oneWeek t35) (fun x36 t37 => (bv ((if v6 < 0 then (1 : Int32) else (if v7 ≤ x36 then (0 : Int32) else (1 : Int32)))) (fun x42 => (if x42 = 0 then (f_X7_hours_152 (f_X7_hours_74 n) v1 v2 v3 v4 v5 v7 v8 x36 x42 v6 t37) else (f_X7_hours_152 (f_X7_hours_74 n) v1 v2 v3 v4 v5 v7 v8 x36 x42 (((10 : Int32) * (v8 / (8 : Int32))) + (v8 - v8 / (8 : Int32) * (8 : Int32))) t37)))))))))))))))
def f_X7_hours (v1 : Int32) (v2 : Int32) (v3 : Int32) (t0 : Sg) : Option (Int32 × Sg) :=
  (bv (upS t0 (0, 29) 18 (0 : Int32)) (fun t1 => (bd (f_X7_isHabit v1 t1) (fun x2 t3 => (if x2 = 0 then (f_X7_hours_26 t3) else (bd (f_X7_isHabit v2 t3) (fun x9 t10 => (if x9 = 0 then (f_X7_hours_26 t10) else (if v1 = v2 then (f_X7_hours_26 t10) else (bd (f_X7_in (v3).toInt64 (0 : Int64) (1 : Int64) t10) (fun x14 t15 => (if x14 = 0 then (bd (f_X7_refuse (-2 : Int32) t15) (fun x18 t19 => (some (x18, t19)))) else (chk (inb v1 8) ((bv ((t15 (0, 42) (v1).toNatClampNeg)) (fun x22 => (chk (inb v2 8) ((bv ((t15 (0, 42) (v2).toNatClampNeg)) (fun x24 => (f_X7_hours_74 fuel v1 v2 v3 x22 x24 (-1 : Int32) (0 : Int32) (0 : Int32) t15)))))))))))))))))))))
def f_X7_keepTimes_2   : Nat → Int32 → Sg → Option (Unit × Sg)
  | 0, _, _ => none
  | n + 1, v1, t0 =>
  (if (8 : Int32) ≤ v1 then (some ((), t0)) else (chk (inb v1 8) ((chk (inb v1 8) ((bv (upS t0 (0, 54) (v1).toNatClampNeg (t0 (0, 42) (v1).toNatClampNeg)) (fun t4 => ((f_X7_keepTimes_2 n) (v1 + (1 : Int32)) t4))))))))
def f_X7_keepTimes  (t0 : Sg) : Option (Unit × Sg) :=
  (f_X7_keepTimes_2 fuel (0 : Int32) t0)
def f_X7_timesBack_2   : Nat → Int32 → Sg → Option (Unit × Sg)
  | 0, _, _ => none
  | n + 1, v1, t0 =>
  (if (8 : Int32) ≤ v1 then (some ((), t0)) else (chk (inb v1 8) ((chk (inb v1 8) ((bv (upS t0 (0, 42) (v1).toNatClampNeg (t0 (0, 54) (v1).toNatClampNeg)) (fun t4 => ((f_X7_timesBack_2 n) (v1 + (1 : Int32)) t4))))))))
def f_X7_timesBack  (t0 : Sg) : Option (Unit × Sg) :=
  (f_X7_timesBack_2 fuel (0 : Int32) t0)
def f_X7_quietHarm_71  (k6 : Int32 → Int32 → Int32 → Sg → Option (Int32 × Sg)) (v1 : Int32) (v2 : Int32) (v3 : Int32) (w0 : Int32) (w1 : Int32) (t0 : Sg) : Option (Int32 × Sg) :=
  (chk (inb w1 8) ((bv (upS t0 (0, 42) (w1).toNatClampNeg w0) (fun t22 => (k6 v1 v2 (v3 + (1 : Int32)) t22)))))
def f_X7_quietHarm_6   : Nat → Int32 → Int32 → Int32 → Sg → Option (Int32 × Sg)
  | 0, _, _, _, _ => none
  | n + 1, v1, v2, v3, t0 =>
  (if (t0 (0, 29) 4) ≤ v3 then (bd (f_X7_oneWeek t0) (fun x5 t6 => (bd (f_X7_timesBack t6) (fun _ t9 => (some (x5, t9)))))) else (chk (inb v3 8) ((bd (f_X7_in ((t0 (0, 42) (v3).toNatClampNeg)).toInt64 (v1).toInt64 (v2).toInt64 t0) (fun x12 t13 => (bv ((if x12 = 0 then (0 : Int32) else (if (7 : Int32) ≤ (v2 - v1) then (0 : Int32) else (1 : Int32)))) (fun x18 => (if x18 = 0 then (chk (inb v3 8) ((f_X7_quietHarm_71 (f_X7_quietHarm_6 n) v1 v2 v3 (t13 (0, 42) (v3).toNatClampNeg) v3 t13))) else (f_X7_quietHarm_71 (f_X7_quietHarm_6 n) v1 v2 v3 ((v2 + (1 : Int32)) - (v2 + (1 : Int32)) / (8 : Int32) * (8 : Int32)) v3 t13)))))))))
def f_X7_quietHarm (v1 : Int32) (v2 : Int32) (t0 : Sg) : Option (Int32 × Sg) :=
  (bd (f_X7_keepTimes t0) (fun _ t2 => (f_X7_quietHarm_6 fuel v1 v2 (0 : Int32) t2)))
def f_X7_quiet_19    (t0 : Sg) : Option (Int32 × Sg) :=
  (bd (f_X7_refuse (-2 : Int32) t0) (fun x6 t7 => (some (x6, t7))))
def f_X7_quiet (v1 : Int32) (v2 : Int32) (t0 : Sg) : Option (Int32 × Sg) :=
  (bv (upS t0 (0, 29) 18 (0 : Int32)) (fun t1 => (bd (f_X7_isTime v1 t1) (fun x2 t3 => (if x2 = 0 then (f_X7_quiet_19 t3) else (bd (f_X7_isTime v2 t3) (fun x9 t10 => (if x9 = 0 then (f_X7_quiet_19 t10) else (if v1 ≤ v2 then (bd (f_X7_quietHarm v1 v2 t10) (fun x14 t15 => (some (x14, t15)))) else (bd (f_X7_refuse (-3 : Int32) t10) (fun x17 t18 => (some (x17, t18)))))))))))))
def f_X7_rule_24  (k15 : Int32 → Int32 → Int32 → Sg → Option (Int32 × Sg)) : Nat → Int32 → Int32 → Int32 → Int32 → Sg → Option (Int32 × Sg)
  | 0, _, _, _, _, _ => none
  | n + 1, v1, v2, v3, v4, t0 =>
  (if (8 : Int32) ≤ v4 then (k15 v1 v2 (v3 + (1 : Int32)) t0) else (bd (f_X7_quietHarm v3 v4 t0) (fun x7 t8 => (bv ((if v1 ≤ x7 then v2 else (((10 : Int32) * v3) + v4))) (fun x12 => (bv ((if v1 ≤ x7 then v1 else x7)) (fun x15 => ((f_X7_rule_24 k15 n) x15 x12 v3 (v4 + (1 : Int32)) t8))))))))
def f_X7_rule_15   : Nat → Int32 → Int32 → Int32 → Sg → Option (Int32 × Sg)
  | 0, _, _, _, _ => none
  | n + 1, v1, v2, v3, t0 =>
  (if (8 : Int32) ≤ v3 then (some (v2, t0)) else (f_X7_rule_24 (f_X7_rule_15 n) fuel v1 v2 v3 v3 t0))
def f_X7_rule  (t0 : Sg) : Option (Int32 × Sg) :=
  (bv (upS t0 (0, 29) 18 (0 : Int32)) (fun t1 => (bd (f_X7_oneWeek t1) (fun x2 t3 => (f_X7_rule_15 fuel x2 (-9 : Int32) (0 : Int32) t3)))))
def f_X7_hang_44   : Nat → Int32 → Int32 → Int32 → Int32 → Int32 → Int32 → Sg → Option (Int32 × Sg)
  | 0, _, _, _, _, _, _, _ => none
  | n + 1, v2, v3, v4, v5, v6, v7, t0 =>
  (if (8 : Int32) ≤ v7 then (chk (inb v2 24) ((bv (upS t0 (0, 34) (v2).toNatClampNeg v3) (fun t13 => (some (v5, t13)))))) else (chk (inb v2 24) ((bv (upS t0 (0, 34) (v2).toNatClampNeg ((1 : Int32) <<< (v7 &&& 31))) (fun t15 => (bd (f_X7_oneWeekOf v4 t15) (fun x16 t17 => (bv ((if v5 < 0 then (1 : Int32) else (if v6 ≤ x16 then (0 : Int32) else (1 : Int32)))) (fun x22 => (bv ((if x22 = 0 then v5 else v7)) (fun x25 => (bv ((if x22 = 0 then v6 else x16)) (fun x28 => ((f_X7_hang_44 n) v2 v3 v4 x25 x28 (v7 + (1 : Int32)) t17))))))))))))))
def f_X7_hang (v1 : Int32) (t0 : Sg) : Option (Int32 × Sg) :=
  (bv (upS t0 (0, 29) 18 (0 : Int32)) (fun t1 => (bd (f_X7_flatAt v1 t1) (fun x2 t3 => (if 0 ≤ x2 then (chk (inb x2 24) ((bv ((t3 (0, 34) (x2).toNatClampNeg)) (fun x7 => (bd (f_X7_livesIn x2 t3) (fun x8 t9 => (f_X7_hang_44 fuel x2 x7 x8 (-1 : Int32) (0 : Int32) (0 : Int32) t9))))))) else (bd (f_X7_refuse (-1 : Int32) t3) (fun x29 t30 => (some (x29, t30)))))))))
def f_X7_big_52   : Nat → Int32 → Int32 → Int32 → Int32 → Int32 → Int32 → Sg → Option (Int32 × Sg)
  | 0, _, _, _, _, _, _, _ => none
  | n + 1, v2, v3, v4, v5, v6, v7, t0 =>
  (if (10 : Int32) ≤ v7 then (chk (inb v2 24) ((bv (upS t0 (0, 30) (v2).toNatClampNeg v3) (fun t14 => (chk (inb v2 24) ((bv (upS t14 (0, 31) (v2).toNatClampNeg v4) (fun t16 => (some (v5, t16)))))))))) else (chk (inb v2 24) ((bv (upS t0 (0, 30) (v2).toNatClampNeg v7) (fun t18 => (bd (f_X7_oneWeek t18) (fun x19 t20 => (bv ((if v5 < 0 then (1 : Int32) else (if v6 ≤ x19 then (0 : Int32) else (1 : Int32)))) (fun x25 => (bv ((if x25 = 0 then v5 else v7)) (fun x28 => (bv ((if x25 = 0 then v6 else x19)) (fun x31 => ((f_X7_big_52 n) v2 v3 v4 x28 x31 (v7 + (1 : Int32)) t20))))))))))))))
def f_X7_big (v1 : Int32) (t0 : Sg) : Option (Int32 × Sg) :=
  (bv (upS t0 (0, 29) 18 (0 : Int32)) (fun t1 => (bd (f_X7_flatAt v1 t1) (fun x2 t3 => (if 0 ≤ x2 then (chk (inb x2 24) ((bv ((t3 (0, 30) (x2).toNatClampNeg)) (fun x7 => (chk (inb x2 24) ((bv ((t3 (0, 31) (x2).toNatClampNeg)) (fun x9 => (chk (inb x2 24) ((bv (upS t3 (0, 31) (x2).toNatClampNeg (0 : Int32)) (fun t11 => (f_X7_big_52 fuel x2 x7 x9 (-1 : Int32) (0 : Int32) (0 : Int32) t11))))))))))))) else (bd (f_X7_refuse (-1 : Int32) t3) (fun x32 t33 => (some (x32, t33)))))))))
def f_X7_leads_38   : Nat → Int32 → Int32 → Int32 → Int32 → Int32 → Sg → Option (Int32 × Sg)
  | 0, _, _, _, _, _, _ => none
  | n + 1, v2, v3, v4, v5, v6, t0 =>
  (if (2 : Int32) ≤ v6 then (chk (inb v2 24) ((bv (upS t0 (0, 32) (v2).toNatClampNeg v3) (fun t10 => (some (((1 : Int32) + v4), t10)))))) else (chk (inb v2 24) ((bv (upS t0 (0, 32) (v2).toNatClampNeg v6) (fun t12 => (bd (f_X7_oneWeek t12) (fun x13 t14 => (bv ((if v4 < (-1 : Int32) then (1 : Int32) else (if v5 ≤ x13 then (0 : Int32) else (1 : Int32)))) (fun x19 => (bv ((if x19 = 0 then v4 else v6)) (fun x22 => (bv ((if x19 = 0 then v5 else x13)) (fun x25 => ((f_X7_leads_38 n) v2 v3 x22 x25 (v6 + (1 : Int32)) t14))))))))))))))
def f_X7_leads (v1 : Int32) (t0 : Sg) : Option (Int32 × Sg) :=
  (bv (upS t0 (0, 29) 18 (0 : Int32)) (fun t1 => (bd (f_X7_flatAt v1 t1) (fun x2 t3 => (if 0 ≤ x2 then (chk (inb x2 24) ((bv ((t3 (0, 32) (x2).toNatClampNeg)) (fun x7 => (f_X7_leads_38 fuel x2 x7 (-2 : Int32) (0 : Int32) (-1 : Int32) t3))))) else (bd (f_X7_refuse (-1 : Int32) t3) (fun x26 t27 => (some (x26, t27)))))))))
def f_X7_keepHarm_2   : Nat → Int32 → Sg → Option (Unit × Sg)
  | 0, _, _ => none
  | n + 1, v1, t0 =>
  (if (24 : Int32) ≤ v1 then (some ((), t0)) else (chk (inb v1 24) ((chk (inb v1 24) ((bv (upS t0 (0, 55) (v1).toNatClampNeg (t0 (0, 45) (v1).toNatClampNeg)) (fun t4 => ((f_X7_keepHarm_2 n) (v1 + (1 : Int32)) t4))))))))
def f_X7_keepHarm  (t0 : Sg) : Option (Unit × Sg) :=
  (f_X7_keepHarm_2 fuel (0 : Int32) t0)
def f_X7_whose_89   : Nat → Int32 → Int32 → Sg → Option (Int32 × Sg)
  | 0, _, _, _ => none
  | n + 1, v6, v7, t0 =>
  (bd (f_X7_tenants t0) (fun x27 t28 => (if x27 ≤ v7 then (some (v6, t28)) else (chk (inb v7 24) ((chk (inb v7 24) ((bv ((v6 ||| (if (t28 (0, 45) (v7).toNatClampNeg) ≤ (t28 (0, 55) (v7).toNatClampNeg) then (0 : Int32) else ((1 : Int32) <<< (v7 &&& 31))))) (fun x35 => ((f_X7_whose_89 n) x35 (v7 + (1 : Int32)) t28))))))))))
def f_X7_whose_25   (v2 : Int32) (v3 : Int32) (w0 : Int32) (t0 : Sg) : Option (Int32 × Sg) :=
  (if 0 ≤ w0 then (chk (inb v3 24) ((bv ((t0 (0, 32) (v3).toNatClampNeg)) (fun x11 => (chk (inb v3 24) ((bv (upS t0 (0, 32) (v3).toNatClampNeg (0 : Int32)) (fun t13 => (bd (f_X7_oneWeek t13) (fun x14 t15 => (bd (f_X7_keepHarm t15) (fun _ t18 => (chk (inb v3 24) ((bv (upS t18 (0, 32) (v3).toNatClampNeg v2) (fun t21 => (bd (f_X7_oneWeek t21) (fun x22 t23 => (chk (inb v3 24) ((bv (upS t23 (0, 32) (v3).toNatClampNeg x11) (fun t26 => (f_X7_whose_89 fuel (0 : Int32) (0 : Int32) t26))))))))))))))))))))))) else (bd (f_X7_refuse w0 t0) (fun x36 t37 => (some (x36, t37)))))
def f_X7_whose (v1 : Int32) (v2 : Int32) (t0 : Sg) : Option (Int32 × Sg) :=
  (bv (upS t0 (0, 29) 18 (0 : Int32)) (fun t1 => (bd (f_X7_flatAt v1 t1) (fun x2 t3 => (if 0 ≤ x2 then (bd (f_X7_wrongNumber v2 (-1 : Int32) (1 : Int32) t3) (fun x6 t7 => (f_X7_whose_25 v2 x2 x6 t7))) else (f_X7_whose_25 v2 x2 (-1 : Int32) t3))))))
def f_X7_weekBoth (v1 : Int32) (v2 : Int32) (t0 : Sg) : Option (Unit × Sg) :=
  (chk (inb v1 8) ((bv ((t0 (0, 42) (v1).toNatClampNeg)) (fun x2 => (bd (f_X7_oneWeek t0) (fun x3 t4 => (bd (f_X7_keepHarm t4) (fun _ t7 => (chk (inb v1 8) ((bv (upS t7 (0, 42) (v1).toNatClampNeg v2) (fun t10 => (bd (f_X7_oneWeek t10) (fun x11 t12 => (chk (inb v1 8) ((bv (upS t12 (0, 42) (v1).toNatClampNeg x2) (fun t15 => (some ((), t15))))))))))))))))))))
def f_X7_deal_20   (v1 : Int32) (t0 : Sg) : Option (Int32 × Sg) :=
  (bd (f_X7_isHabit v1 t0) (fun x6 t7 => (bd (f_X7_refuse (if x6 = 0 then (-1 : Int32) else (-2 : Int32)) t7) (fun x11 t12 => (some (((1000000000 : Int32) - x11), t12))))))
def f_X7_deal_94  (k54 : Int32 → Int32 → Int32 → Int32 → Sg → Option (Int32 × Sg)) (v1 : Int32) (v2 : Int32) (v4 : Int32) (w0 : Int32) (w1 : Int32) (t0 : Sg) : Option (Int32 × Sg) :=
  (bv ((w1 + w0)) (fun x31 => (k54 v1 v2 x31 (v4 + (1 : Int32)) t0)))
def f_X7_deal_54   : Nat → Int32 → Int32 → Int32 → Int32 → Sg → Option (Int32 × Sg)
  | 0, _, _, _, _, _ => none
  | n + 1, v1, v2, v3, v4, t0 =>
  (bd (f_X7_tenants t0) (fun x21 t22 => (if x21 ≤ v4 then (chk (inb v1 8) ((if v2 ≤ (t22 (0, 42) (v1).toNatClampNeg) then (chk (inb v1 8) ((some ((v3 - ((t22 (0, 42) (v1).toNatClampNeg) - v2)), t22)))) else (chk (inb v1 8) ((some ((v3 - (v2 - (t22 (0, 42) (v1).toNatClampNeg))), t22))))))) else (chk (inb v1 8) ((if v4 = (t22 (0, 39) (v1).toNatClampNeg) then (f_X7_deal_94 (f_X7_deal_54 n) v1 v2 v4 (0 : Int32) v3 t22) else (chk (inb v4 24) ((chk (inb v4 24) ((f_X7_deal_94 (f_X7_deal_54 n) v1 v2 v4 ((t22 (0, 55) (v4).toNatClampNeg) - (t22 (0, 45) (v4).toNatClampNeg)) v3 t22)))))))))))
def f_X7_deal (v1 : Int32) (v2 : Int32) (t0 : Sg) : Option (Int32 × Sg) :=
  (bv (upS t0 (0, 29) 18 (0 : Int32)) (fun t1 => (bd (f_X7_isHabit v1 t1) (fun x2 t3 => (if x2 = 0 then (f_X7_deal_20 v1 t3) else (bd (f_X7_isTime v2 t3) (fun x14 t15 => (if x14 = 0 then (f_X7_deal_20 v1 t15) else (bd (f_X7_weekBoth v1 v2 t15) (fun _ t19 => (f_X7_deal_54 fuel v1 v2 (0 : Int32) (0 : Int32) t19)))))))))))
def f_X7_pays_36    (t0 : Sg) : Option (Int32 × Sg) :=
  (bd (f_X7_refuse (-2 : Int32) t0) (fun x13 t14 => (some (x13, t14))))
def f_X7_pays_59   : Nat → Int32 → Int32 → Int32 → Int32 → Sg → Option (Int32 × Sg)
  | 0, _, _, _, _, _ => none
  | n + 1, v3, v4, v5, v6, t0 =>
  (bd (f_X7_tenants t0) (fun x23 t24 => (if x23 ≤ v6 then (some ((if v3 = 0 then v4 else v5), t24)) else (chk (inb v6 24) ((chk (inb v6 24) ((bv (((t24 (0, 55) (v6).toNatClampNeg) - (t24 (0, 45) (v6).toNatClampNeg))) (fun x31 => (bv ((if x31 ≤ v5 then v4 else v6)) (fun x34 => (bv ((if x31 ≤ v5 then v5 else x31)) (fun x37 => ((f_X7_pays_59 n) v3 x34 x37 (v6 + (1 : Int32)) t24))))))))))))))
def f_X7_pays (v1 : Int32) (v2 : Int32) (v3 : Int32) (t0 : Sg) : Option (Int32 × Sg) :=
  (bv (upS t0 (0, 29) 18 (0 : Int32)) (fun t1 => (bd (f_X7_isHabit v1 t1) (fun x2 t3 => (if x2 = 0 then (bd (f_X7_refuse (-1 : Int32) t3) (fun x6 t7 => (some (x6, t7)))) else (bd (f_X7_isTime v2 t3) (fun x9 t10 => (if x9 = 0 then (f_X7_pays_36 t10) else (bd (f_X7_in (v3).toInt64 (0 : Int64) (1 : Int64) t10) (fun x16 t17 => (if x16 = 0 then (f_X7_pays_36 t17) else (bd (f_X7_weekBoth v1 v2 t17) (fun _ t21 => (f_X7_pays_59 fuel v3 (-9 : Int32) (0 : Int32) (0 : Int32) t21))))))))))))))
def f_X7_isAngry_48  (k4 : Int32 → Int32 → Int32 → Sg → Option (Int32 × Sg)) (v1 : Int32) (v3 : Int32) (w0 : Int32) (t0 : Sg) : Option (Int32 × Sg) :=
  (k4 v1 w0 (v3 + (1 : Int32)) t0)
def f_X7_isAngry_47  (k4 : Int32 → Int32 → Int32 → Sg → Option (Int32 × Sg)) (v1 : Int32) (v3 : Int32) (t0 : Sg) : Option (Int32 × Sg) :=
  (f_X7_isAngry_48 k4 v1 v3 (0 : Int32) t0)
def f_X7_isAngry_43  (k4 : Int32 → Int32 → Int32 → Sg → Option (Int32 × Sg)) (v1 : Int32) (v3 : Int32) (t0 : Sg) : Option (Int32 × Sg) :=
  (f_X7_isAngry_48 k4 v1 v3 (1 : Int32) t0)
def f_X7_isAngry_4   : Nat → Int32 → Int32 → Int32 → Sg → Option (Int32 × Sg)
  | 0, _, _, _, _ => none
  | n + 1, v1, v2, v3, t0 =>
  (if (24 : Int32) ≤ v3 then (chk (v2 = 0 ∨ v2 = 1) ((some (v2, t0)))) else (if v2 = 0 then (chk (inb v1 24) ((if (((t0 (0, 37) (v1).toNatClampNeg) >>> (v3 &&& 31)) &&& (1 : Int32)) = (1 : Int32) then (chk (inb (((24 : Int32) * v1) + v3) 576) ((if (t0 (0, 38) ((((24 : Int32) * v1) + v3)).toNatClampNeg) < (5 : Int32) then (f_X7_isAngry_47 (f_X7_isAngry_4 n) v1 v3 t0) else (f_X7_isAngry_43 (f_X7_isAngry_4 n) v1 v3 t0)))) else (f_X7_isAngry_47 (f_X7_isAngry_4 n) v1 v3 t0)))) else (f_X7_isAngry_43 (f_X7_isAngry_4 n) v1 v3 t0)))
def f_X7_isAngry (v1 : Int32) (t0 : Sg) : Option (Int32 × Sg) :=
  (f_X7_isAngry_4 fuel v1 (0 : Int32) (0 : Int32) t0)
def f_X7_revenge_46  (k2 : Int32 → Sg → Option (Unit × Sg)) (v1 : Int32) (w0 : Int32) (w1 : Int32) (w2 : Int32) (t0 : Sg) : Option (Unit × Sg) :=
  (chk (inb w2 8) ((bv (upS t0 (0, 41) (w2).toNatClampNeg (w1 + w0)) (fun t9 => (k2 (v1 + (1 : Int32)) t9)))))
def f_X7_revenge_45  (k2 : Int32 → Sg → Option (Unit × Sg)) (v1 : Int32) (w0 : Int32) (w1 : Int32) (t0 : Sg) : Option (Unit × Sg) :=
  (f_X7_revenge_46 k2 v1 (0 : Int32) w0 w1 t0)
def f_X7_revenge_2   : Nat → Int32 → Sg → Option (Unit × Sg)
  | 0, _, _ => none
  | n + 1, v1, t0 =>
  (if (t0 (0, 29) 4) ≤ v1 then (some ((), t0)) else (chk (inb v1 8) ((chk (inb v1 8) ((bd (f_X7_isAngry (t0 (0, 39) (v1).toNatClampNeg) t0) (fun x4 t5 => (if x4 = 0 then (f_X7_revenge_45 (f_X7_revenge_2 n) v1 (t0 (0, 41) (v1).toNatClampNeg) v1 t5) else (chk (inb v1 8) ((if (9 : Int32) ≤ (t5 (0, 41) (v1).toNatClampNeg) then (f_X7_revenge_45 (f_X7_revenge_2 n) v1 (t0 (0, 41) (v1).toNatClampNeg) v1 t5) else (f_X7_revenge_46 (f_X7_revenge_2 n) v1 (1 : Int32) (t0 (0, 41) (v1).toNatClampNeg) v1 t5))))))))))))
def f_X7_revenge  (t0 : Sg) : Option (Unit × Sg) :=
  (f_X7_revenge_2 fuel (0 : Int32) t0)
def f_X7_climbs_71   (v1 : Int32) (t0 : Sg) : Option (Int32 × Sg) :=
  (bd (f_X7_carryAll (0, 52) (0 : Int32) t0) (fun _ t7 => (some (v1, t7))))
def f_X7_climbs_21   : Nat → Int32 → Int32 → Int32 → Sg → Option (Int32 × Sg)
  | 0, _, _, _, _ => none
  | n + 1, v1, v2, v3, t0 =>
  (if (10 : Int32) ≤ v3 then (f_X7_climbs_71 v1 t0) else (if 0 ≤ v1 then (f_X7_climbs_71 v1 t0) else (bd (f_X7_revenge t0) (fun _ t11 => (bd (f_X7_oneWeek t11) (fun x13 t14 => (bd (f_X7_keepWeek t14) (fun _ t17 => (bv ((if v3 ≤ 0 then (-9 : Int32) else (if v2 < x13 then (-9 : Int32) else v3))) (fun x22 => ((f_X7_climbs_21 n) x22 x13 (v3 + (1 : Int32)) t17)))))))))))
def f_X7_climbs  (t0 : Sg) : Option (Int32 × Sg) :=
  (bv (upS t0 (0, 29) 18 (0 : Int32)) (fun t1 => (bd (f_X7_carryAll (0, 52) (1 : Int32) t1) (fun _ t3 => (f_X7_climbs_21 fuel (-9 : Int32) (0 : Int32) (0 : Int32) t3)))))
def f_X7_worth (v1 : Int32) (t0 : Sg) : Option (Int32 × Sg) :=
  (bv (upS t0 (0, 29) 18 (0 : Int32)) (fun t1 => (bd (f_X7_flatAt v1 t1) (fun x2 t3 => (if 0 ≤ x2 then (bd (f_X7_livesIn x2 t3) (fun x6 t7 => (bd (f_X7_oneWeekOf x6 t7) (fun x9 t10 => (bv ((((100 : Int32) + ((5 : Int32) * (x2 / (4 : Int32)))) - x9)) (fun x12 => (some ((if 0 ≤ x12 then x12 else (0 : Int32)), t10)))))))) else (bd (f_X7_refuse (-1 : Int32) t3) (fun x15 t16 => (some (x15, t16)))))))))
def f_X7_haveLess (v1 : Int32) (v2 : Int32) (t0 : Sg) : Option (Int32 × Sg) :=
  (bd (f_X7_oneWeek t0) (fun x1 t2 => (chk (inb v1 24) ((chk (inb v1 24) ((if (t2 (0, 55) (v1).toNatClampNeg) ≤ (t2 (0, 45) (v1).toNatClampNeg) then (some ((0 : Int32), t2)) else (chk (inb v2 24) ((chk (inb v2 24) ((if (t2 (0, 55) (v2).toNatClampNeg) ≤ (t2 (0, 45) (v2).toNatClampNeg) then (some ((0 : Int32), t2)) else (some ((1 : Int32), t2))))))))))))))
def f_X7_pairsOf_23  (k8 : Int32 → Int32 → Int32 → Int32 → Sg → Option (Int32 × Sg)) : Nat → Int32 → Int32 → Int32 → Int32 → Int32 → Sg → Option (Int32 × Sg)
  | 0, _, _, _, _, _, _ => none
  | n + 1, v1, v2, v3, v4, v5, t0 =>
  (bd (f_X7_tenants t0) (fun x8 t9 => (if x8 ≤ v5 then (k8 v1 v2 v3 (v4 + (1 : Int32)) t9) else (bd (f_X7_change v4 v5 t9) (fun _ t13 => (bd (f_X7_haveLess v4 v5 t13) (fun x15 t16 => (bd (f_X7_change v4 v5 t16) (fun _ t19 => (bv ((if x15 = 0 then v3 else (if v2 = 0 then (((100 : Int32) * v4) + v5) else v3))) (fun x24 => (bv ((v2 + (if x15 = 0 then (0 : Int32) else (1 : Int32)))) (fun x27 => ((f_X7_pairsOf_23 k8 n) v1 x27 x24 v4 (v5 + (1 : Int32)) t19))))))))))))))
def f_X7_pairsOf_8   : Nat → Int32 → Int32 → Int32 → Int32 → Sg → Option (Int32 × Sg)
  | 0, _, _, _, _, _ => none
  | n + 1, v1, v2, v3, v4, t0 =>
  (bd (f_X7_tenants t0) (fun x1 t2 => (if x1 ≤ v4 then (some ((if v1 = 0 then v2 else v3), t2)) else (bv ((v4 + (1 : Int32))) (fun x7 => (f_X7_pairsOf_23 (f_X7_pairsOf_8 n) fuel v1 v2 v3 v4 x7 t2))))))
def f_X7_pairsOf (v1 : Int32) (t0 : Sg) : Option (Int32 × Sg) :=
  (f_X7_pairsOf_8 fuel v1 (0 : Int32) (-9 : Int32) (0 : Int32) t0)
def f_X7_isRing_69   (v1 : Int32) (v2 : Int32) (v3 : Int32) (v4 : Int32) (w0 : Int32) (t0 : Sg) : Option (Int32 × Sg) :=
  (chk (inb v2 24) ((chk (inb v3 24) ((bv (upS t0 (0, 35) (v3).toNatClampNeg (t0 (0, 35) (v2).toNatClampNeg)) (fun t17 => (chk (inb v1 24) ((chk (inb v2 24) ((bv (upS t17 (0, 35) (v2).toNatClampNeg (t17 (0, 35) (v1).toNatClampNeg)) (fun t20 => (chk (inb v1 24) ((bv (upS t20 (0, 35) (v1).toNatClampNeg v4) (fun t22 => (chk (w0 = 0 ∨ w0 = 1) ((some (w0, t22))))))))))))))))))))
def f_X7_isRing_68   (v1 : Int32) (v2 : Int32) (v3 : Int32) (v4 : Int32) (t0 : Sg) : Option (Int32 × Sg) :=
  (f_X7_isRing_69 v1 v2 v3 v4 (0 : Int32) t0)
def f_X7_isRing (v1 : Int32) (v2 : Int32) (v3 : Int32) (t0 : Sg) : Option (Int32 × Sg) :=
  (chk (inb v1 24) ((bv ((t0 (0, 35) (v1).toNatClampNeg)) (fun x2 => (chk (inb v2 24) ((chk (inb v1 24) ((bv (upS t0 (0, 35) (v1).toNatClampNeg (t0 (0, 35) (v2).toNatClampNeg)) (fun t5 => (chk (inb v3 24) ((chk (inb v2 24) ((bv (upS t5 (0, 35) (v2).toNatClampNeg (t5 (0, 35) (v3).toNatClampNeg)) (fun t8 => (chk (inb v3 24) ((bv (upS t8 (0, 35) (v3).toNatClampNeg x2) (fun t10 => (bd (f_X7_haveLess v1 v2 t10) (fun x11 t12 => (if x11 = 0 then (f_X7_isRing_68 v1 v2 v3 x2 t12) else (chk (inb v3 24) ((chk (inb v3 24) ((if (t12 (0, 55) (v3).toNatClampNeg) ≤ (t12 (0, 45) (v3).toNatClampNeg) then (f_X7_isRing_68 v1 v2 v3 x2 t12) else (f_X7_isRing_69 v1 v2 v3 x2 (1 : Int32) t12)))))))))))))))))))))))))))))
def f_X7_ringsOf_61  (k4 : Int32 → Int32 → Sg → Option (Int32 × Sg)) (k16 : Int32 → Int32 → Int32 → Sg → Option (Int32 × Sg)) (k29 : Int32 → Int32 → Int32 → Int32 → Sg → Option (Int32 × Sg)) (v2 : Int32) (v3 : Int32) (v4 : Int32) (w0 : Int32) (w1 : Int32) (t0 : Sg) : Option (Int32 × Sg) :=
  (bv ((w1 + w0)) (fun x16 => (k29 x16 v2 v3 (v4 + (1 : Int32)) t0)))
def f_X7_ringsOf_60  (k4 : Int32 → Int32 → Sg → Option (Int32 × Sg)) (k16 : Int32 → Int32 → Int32 → Sg → Option (Int32 × Sg)) (k29 : Int32 → Int32 → Int32 → Int32 → Sg → Option (Int32 × Sg)) (v2 : Int32) (v3 : Int32) (v4 : Int32) (w0 : Int32) (t0 : Sg) : Option (Int32 × Sg) :=
  (f_X7_ringsOf_61 k4 k16 k29 v2 v3 v4 (0 : Int32) w0 t0)
def f_X7_ringsOf_29  (k4 : Int32 → Int32 → Sg → Option (Int32 × Sg)) (k16 : Int32 → Int32 → Int32 → Sg → Option (Int32 × Sg)) : Nat → Int32 → Int32 → Int32 → Int32 → Sg → Option (Int32 × Sg)
  | 0, _, _, _, _, _ => none
  | n + 1, v1, v2, v3, v4, t0 =>
  (bd (f_X7_tenants t0) (fun x11 t12 => (if x11 ≤ v4 then (k16 v1 v2 (v3 + (1 : Int32)) t12) else (if v3 = v4 then (f_X7_ringsOf_60 k4 k16 (f_X7_ringsOf_29 k4 k16 n) v2 v3 v4 v1 t12) else (bd (f_X7_isRing v2 v3 v4 t12) (fun x17 t18 => (if x17 = 0 then (f_X7_ringsOf_60 k4 k16 (f_X7_ringsOf_29 k4 k16 n) v2 v3 v4 v1 t18) else (f_X7_ringsOf_61 k4 k16 (f_X7_ringsOf_29 k4 k16 n) v2 v3 v4 (1 : Int32) v1 t18))))))))
def f_X7_ringsOf_16  (k4 : Int32 → Int32 → Sg → Option (Int32 × Sg)) : Nat → Int32 → Int32 → Int32 → Sg → Option (Int32 × Sg)
  | 0, _, _, _, _ => none
  | n + 1, v1, v2, v3, t0 =>
  (bd (f_X7_tenants t0) (fun x6 t7 => (if x6 ≤ v3 then (k4 v1 (v2 + (1 : Int32)) t7) else (bv ((v2 + (1 : Int32))) (fun x10 => (f_X7_ringsOf_29 k4 (f_X7_ringsOf_16 k4 n) fuel v1 v2 v3 x10 t7))))))
def f_X7_ringsOf_4   : Nat → Int32 → Int32 → Sg → Option (Int32 × Sg)
  | 0, _, _, _ => none
  | n + 1, v1, v2, t0 =>
  (bd (f_X7_tenants t0) (fun x1 t2 => (if x1 ≤ v2 then (some (v1, t2)) else (bv ((v2 + (1 : Int32))) (fun x5 => (f_X7_ringsOf_16 (f_X7_ringsOf_4 n) fuel v1 v2 x5 t2))))))
def f_X7_ringsOf  (t0 : Sg) : Option (Int32 × Sg) :=
  (f_X7_ringsOf_4 fuel (0 : Int32) (0 : Int32) t0)
def f_X7_swaps (v1 : Int32) (t0 : Sg) : Option (Int32 × Sg) :=
  (bv (upS t0 (0, 29) 18 (0 : Int32)) (fun t1 => (bd (f_X7_in (v1).toInt64 (0 : Int64) (2 : Int64) t1) (fun x2 t3 => (if x2 = 0 then (bd (f_X7_refuse (-2 : Int32) t3) (fun x6 t7 => (some (x6, t7)))) else (bd (f_X7_oneWeek t3) (fun x9 t10 => (bd (f_X7_keepHarm t10) (fun _ t13 => (if (2 : Int32) ≤ v1 then (bd (f_X7_ringsOf t13) (fun x16 t17 => (some (x16, t17)))) else (bd (f_X7_pairsOf v1 t13) (fun x19 t20 => (some (x19, t20))))))))))))))
def f_X7_divisor_4   : Nat → Int32 → Int32 → Sg → Option (Int32 × Sg)
  | 0, _, _, _ => none
  | n + 1, v2, v3, t0 =>
  (if v3 = 0 then (some (v2, t0)) else (chk (¬ v3 = 0) ((bv ((v2 - v2 / v3 * v3)) (fun x3 => ((f_X7_divisor_4 n) v3 x3 t0))))))
def f_X7_divisor (v0 : Int32) (v1 : Int32) (t0 : Sg) : Option (Int32 × Sg) :=
  (f_X7_divisor_4 fuel v0 v1 t0)
def f_X7_peg_25    (t0 : Sg) : Option (Int64 × Sg) :=
  (bd (f_X7_refuse (-1 : Int32) t0) (fun x6 t7 => (some (((4000000000000000000 : Int64) - (x6).toInt64), t7))))
def f_X7_peg_70   : Nat → Int32 → Int32 → Int32 → Int32 → Int32 → Int32 → Sg → Option (Int64 × Sg)
  | 0, _, _, _, _, _, _, _ => none
  | n + 1, v2, v3, v4, v5, v6, v7, t0 =>
  (if ((4 : Int32) * (t0 (0, 29) 0)) ≤ v7 then (if v6 = 0 then (some ((v3).toInt64, t0)) else (bd (f_X7_divisor v5 v6 t0) (fun x23 t24 => (if v3 = 0 then (chk (¬ x23 = 0) ((some (((v6 / x23)).toInt64, t24)))) else (chk (¬ x23 = 0) ((some (((v5 / x23)).toInt64, t24)))))))) else (bv ((if v7 = (v4 + (4 : Int32)) then (2 : Int32) else (1 : Int32))) (fun x31 => (bv ((v5 + x31)) (fun x32 => (bd (f_X7_livesIn v7 t0) (fun x33 t34 => (bv ((v6 + (if x33 = v2 then x31 else (0 : Int32)))) (fun x38 => ((f_X7_peg_70 n) v2 v3 v4 x32 x38 (v7 + (4 : Int32)) t34))))))))))
def f_X7_peg (v1 : Int32) (v2 : Int32) (v3 : Int32) (t0 : Sg) : Option (Int64 × Sg) :=
  (bv (upS t0 (0, 29) 18 (0 : Int32)) (fun t1 => (bd (f_X7_flatAt v1 t1) (fun x2 t3 => (if x2 < 0 then (f_X7_peg_25 t3) else (bd (f_X7_isTenant v2 t3) (fun x9 t10 => (if x9 = 0 then (f_X7_peg_25 t10) else (bd (f_X7_in (v3).toInt64 (0 : Int64) (1 : Int64) t10) (fun x13 t14 => (if x13 = 0 then (bd (f_X7_refuse (-2 : Int32) t14) (fun x17 t18 => (some (((4000000000000000000 : Int64) - (x17).toInt64), t18)))) else (bv ((x2 + (4 : Int32))) (fun x20 => (f_X7_peg_70 fuel v2 v3 x2 (0 : Int32) (0 : Int32) x20 t14))))))))))))))
def f_X7_row_32    (t0 : Sg) : Option (Int32 × Sg) :=
  (bd (f_X7_refuse (-6 : Int32) t0) (fun x4 t5 => (some (x4, t5))))
def f_X7_row (v1 : Int32) (t0 : Sg) : Option (Int32 × Sg) :=
  (bv (upS t0 (0, 29) 18 (0 : Int32)) (fun t1 => (if 0 ≤ v1 then (if (999 : Int32) < v1 then (f_X7_row_32 t1) else (if (t1 (0, 29) 42) = (10 : Int32) then (f_X7_row_32 t1) else (chk (inb (t1 (0, 29) 42) 10) ((bv (upS t1 (0, 56) ((t1 (0, 29) 42)).toNatClampNeg v1) (fun t9 => (bv (upS t9 (0, 29) 42 ((t9 (0, 29) 42) + (1 : Int32))) (fun t10 => (some ((t10 (0, 29) 42), t10)))))))))) else (bd (f_X7_refuse (-4 : Int32) t1) (fun x11 t12 => (some (x11, t12)))))))
def f_X7_judge_21   : Nat → Int32 → Int32 → Sg → Option (Int32 × Sg)
  | 0, _, _, _ => none
  | n + 1, v1, v2, t0 =>
  (if v1 ≤ v2 then (some ((-9 : Int32), t0)) else (bd (f_X7_weekOn t0) (fun x8 t9 => (chk (inb v2 10) ((if x8 = (t9 (0, 56) (v2).toNatClampNeg) then ((f_X7_judge_21 n) v1 (v2 + (1 : Int32)) t9) else (some (v2, t9))))))))
def f_X7_judge  (t0 : Sg) : Option (Int32 × Sg) :=
  (bv (upS t0 (0, 29) 18 (0 : Int32)) (fun t1 => (bv ((t1 (0, 29) 42)) (fun x2 => (bv (upS t1 (0, 29) 42 (0 : Int32)) (fun t3 => (bd (f_X7_beginMind t3) (fun _ t5 => (f_X7_judge_21 fuel x2 (0 : Int32) t5)))))))))
def f_X7_seeds_52  (k43 : Int32 → Int32 → Int32 → Int32 → Sg → Option (Int32 × Sg)) : Nat → Int32 → Int32 → Int32 → Int32 → Int32 → Sg → Option (Int32 × Sg)
  | 0, _, _, _, _, _, _ => none
  | n + 1, v1, v3, v4, v5, v6, t0 =>
  (if (t0 (0, 29) 4) ≤ v6 then (bd (f_X7_weekOn t0) (fun x17 t18 => (bv ((v4 + x17)) (fun x20 => (k43 v1 v3 x20 (v5 + (1 : Int32)) t18))))) else (bv (((v3 * (1103515245 : Int32)) + (12345 : Int32))) (fun x21 => (chk (inb v6 8) ((bv (upS t0 (0, 42) (v6).toNatClampNeg (((x21 &&& (2147483647 : Int32)) / (65536 : Int32)) - ((x21 &&& (2147483647 : Int32)) / (65536 : Int32)) / (8 : Int32) * (8 : Int32))) (fun t23 => ((f_X7_seeds_52 k43 n) v1 x21 v4 v5 (v6 + (1 : Int32)) t23))))))))
def f_X7_seeds_43   : Nat → Int32 → Int32 → Int32 → Int32 → Sg → Option (Int32 × Sg)
  | 0, _, _, _, _, _ => none
  | n + 1, v1, v3, v4, v5, t0 =>
  (if v1 ≤ v5 then (bd (f_X7_timesBack t0) (fun _ t14 => (some (v4, t14)))) else (f_X7_seeds_52 (f_X7_seeds_43 n) fuel v1 v3 v4 v5 (0 : Int32) t0))
def f_X7_seeds (v1 : Int32) (v2 : Int32) (t0 : Sg) : Option (Int32 × Sg) :=
  (bv (upS t0 (0, 29) 18 (0 : Int32)) (fun t1 => (bd (f_X7_wrongNumber v1 (1 : Int32) (20 : Int32) t1) (fun x2 t3 => (if 0 ≤ x2 then (bd (f_X7_keepTimes t3) (fun _ t7 => (bd (f_X7_beginMind t7) (fun _ t10 => (f_X7_seeds_43 fuel v1 v2 (0 : Int32) (0 : Int32) t10))))) else (bd (f_X7_wrongNumber v1 (1 : Int32) (20 : Int32) t3) (fun x24 t25 => (bd (f_X7_refuse x24 t25) (fun x27 t28 => (some (x27, t28)))))))))))
def f_X7_sumOf_4 (i0 : Nat × Nat)  : Nat → Int32 → Int32 → Int32 → Sg → Option (Int32 × Sg)
  | 0, _, _, _, _ => none
  | n + 1, v1, v2, v3, t0 =>
  (if v1 ≤ v3 then (some (v2, t0)) else (chk (inb v3 (alen i0)) ((bv ((v2 + (t0 i0 (v3).toNatClampNeg))) (fun x3 => ((f_X7_sumOf_4 i0 n) v1 x3 (v3 + (1 : Int32)) t0))))))
def f_X7_sumOf (i0 : Nat × Nat) (v1 : Int32) (t0 : Sg) : Option (Int32 × Sg) :=
  (f_X7_sumOf_4 i0 fuel v1 (0 : Int32) (0 : Int32) t0)
def f_X7_count (v1 : Int32) (t0 : Sg) : Option (Int32 × Sg) :=
  (bv (upS t0 (0, 29) 18 (0 : Int32)) (fun t1 => (if v1 = (0 : Int32) then (some ((t1 (0, 29) 0), t1)) else (if v1 = (1 : Int32) then (some ((t1 (0, 29) 1), t1)) else (if v1 = (2 : Int32) then (some ((t1 (0, 29) 4), t1)) else (if v1 = (3 : Int32) then (some ((t1 (0, 29) 3), t1)) else (if v1 = (4 : Int32) then (some (((1 : Int32) + (t1 (0, 29) 2)), t1)) else (if v1 = (5 : Int32) then (bd (f_X7_sumOf (0, 31) (24 : Int32) t1) (fun x8 t9 => (some (x8, t9)))) else (if v1 = (6 : Int32) then (bd (f_X7_sumOf (0, 36) (24 : Int32) t1) (fun x12 t13 => (some (x12, t13)))) else (if v1 = (7 : Int32) then (bd (f_X7_sumOf (0, 38) (576 : Int32) t1) (fun x16 t17 => (some (x16, t17)))) else (if v1 = (8 : Int32) then (some ((t1 (0, 29) 26), t1)) else (if v1 = (9 : Int32) then (some ((t1 (0, 29) 42), t1)) else (bd (f_X7_in (v1).toInt64 (11 : Int64) (16 : Int64) t1) (fun x21 t22 => (if x21 = 0 then (some ((-9 : Int32), t22)) else (chk (inb (v1 - (10 : Int32)) 7) ((some ((t22 (0, 43) ((v1 - (10 : Int32))).toNatClampNeg), t22)))))))))))))))))))
