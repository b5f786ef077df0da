/-! the seven constructors and lays: cells in the order in which they come; f gives their addresses -/
def kr3 : Row := upd (upd (upd (fun _ => 0) 0 (-1)) 1 (-1)) 2 (-1)
def kz3 : Row := upd (upd (upd (fun _ => 0) 0 0) 1 0) 2 0
def kr6 : Row := upd (upd (upd (upd (upd (upd (fun _ => 0) 0 (-1)) 1 (-1)) 2 (-1)) 3 (-1)) 4 (-1)) 5 (-1)
def qr (n : Nat) (g : Nat → Nat) : Nat → Option Nat := fun j => if j < n then some (g j) else none
def LyC (ct : Nat → ClassId) (f : Nat → Nat) : va_W := [(f 0, .inr (0, [.ref (f 1), .ref (f 2)])), (f 1, kI ct 3 (fun _ => 0)), (f 2, kI ct 3 (fun _ => 0))]
def LyP (ct : Nat → ClassId) (f : Nat → Nat) : va_W := [(f 0, .inr (2, [.int (-1), .int 0, .int 0, .int 0, .ref (f 1), .ref (f 2), .ref (f 3)])), (f 1, kI ct 3 kr3), (f 2, kI ct 3 kz3), (f 3, kI ct 6 kr6)]
def LyL (ct : Nat → ClassId) (f : Nat → Nat) : va_W := [(f 0, .inr (1, [.int 0, .ref (f 1), .ref (f 2), .ref (f 3), .ref (f 4), .ref (f 5), .ref (f 6)])), (f 1, kI ct 48 (fun _ => 0)), (f 2, kI ct 48 (fun _ => 0)), (f 3, kI ct 48 (fun _ => 0)), (f 4, kI ct 48 (fun _ => 0)), (f 5, kI ct 48 (fun _ => 0)), (f 6, kI ct 48 (fun _ => 0))]
def LyR (ct : Nat → ClassId) (f : Nat → Nat) : va_W := [(f 0, .inr (3, [.ref (f 1), .int 0, .ref (f 2), .ref (f 3), .int 0, .int 0, .int 0, .int 0, .int 0])), (f 1, kI ct 120 (fun _ => 0)), (f 2, kI ct 40 (fun _ => 0)), (f 3, kI ct 200 (fun _ => 0))]
def LyS (ct : Nat → ClassId) (f : Nat → Nat) : va_W := [(f 0, .inr (4, [.int 0, .int 5, .ref (f 1), .ref (f 2), .ref (f 3)])), (f 1, kI ct 3 (fun _ => 0)), (f 2, kQf (ct 3) 4 (qr 4 (fun j => f (4 + 4 * j)))), (f 3, kQf (ct 4) 2 (qr 2 (fun j => f (20 + 3 * j))))] ++ LyP ct (fun i => f (4 + i)) ++ LyP ct (fun i => f (8 + i)) ++ LyP ct (fun i => f (12 + i)) ++ LyP ct (fun i => f (16 + i)) ++ LyC ct (fun i => f (20 + i)) ++ LyC ct (fun i => f (23 + i))
def LyO (ct : Nat → ClassId) (f : Nat → Nat) : va_W := [(f 33, kI ct 5 (fun _ => 0)), (f 28, kQf (ct 2) 6 (qr 6 (fun j => f (55 + 26 * j)))), (f 0, .inr (5, [.ref (f 1), .ref (f 2), .ref (f 28), .int 0, .int 0, .ref (f 29), .ref (f 33), .int 0, .int 0])), (f 1, kQf (ct 1) 3 (qr 3 (fun j => f (34 + 7 * j))))] ++ (LyS ct (fun i => f (2 + i)) ++ LyR ct (fun i => f (29 + i)) ++ LyL ct (fun i => f (34 + i)) ++ LyL ct (fun i => f (41 + i)) ++ LyL ct (fun i => f (48 + i)) ++ LyS ct (fun i => f (55 + i)) ++ LyS ct (fun i => f (81 + i)) ++ LyS ct (fun i => f (107 + i)) ++ LyS ct (fun i => f (133 + i)) ++ LyS ct (fun i => f (159 + i)) ++ LyS ct (fun i => f (185 + i)))
def LyM (ct : Nat → ClassId) (f : Nat → Nat) (r : Row) : va_W := [(f 0, .inr (6, [.ref (f 1), .ref (f 2), .int 0, .int 0, .ref (f 3), .ref (f 4), .int 0, .int 0, .int 0, .int 0, .ref (f 5), .ref (f 6), .int 0, .long 0])), (f 1, kI ct 945 r), (f 2, kI ct 6615 (fun _ => 0)), (f 3, kI ct 5 (fun _ => 0)), (f 4, kI ct 120 (fun _ => 0)), (f 5, kI ct 40 (fun _ => 0)), (f 6, kI ct 200 (fun _ => 0))]
def kr0 : Row := upd (upd (upd (upd (upd (fun _ => 0) (1 : Int32).toNatClampNeg 5) ((2 : Int32) + 16 * 0 + 0).toNatClampNeg (-1)) ((2 : Int32) + 16 * 1 + 0).toNatClampNeg (-1)) ((2 : Int32) + 16 * 2 + 0).toNatClampNeg (-1)) ((2 : Int32) + 16 * 3 + 0).toNatClampNeg (-1)
def kX0 : kMt := ((yX0_init, cX0_init, 1, none, 1, 12), 2, 6)
def kX1 : kMt := ((yX1_init, cX1_init, 1, none, 1, 12), 6, 288)
def kX2 : kMt := ((yX2_init, cX2_init, 1, none, 1, 12), 3, 12)
def kX3 : kMt := ((yX3_init, cX3_init, 1, none, 1, 12), 3, 360)
def kX4 : kMt := ((yX4_init, cX4_init, 2, none, 2, 32), 25, 101)
def kX5 : kMt := ((yX5_init, cX5_init, 2, none, 3, 53), 210, 2010)
def kX6 : kMt := ((yX6_init, cX6_init, 2, none, 1, 23), 6, 7925)
def kXl : kMt := ((yX6_lays, cX6_lays, 4, none, 0, 0), 0, 0)
theorem K0 (D : va_G) (ct : Nat → ClassId) (q : Nat) : kMet kX0 D ct [.ref q] [(q, .inr (0, [.null, .null]))] (fun w1 => ∃ f, f 0 = q ∧ w1 = LyC ct f) := by
  refine kMet_of (by decide) rfl (Nat.le_of_ble_eq_true rfl) ?_
  show kOk kX0 D ct 0 [(0, .ref q)] [] [(q, .inr (0, [.null, .null]))] 0 0 _
  refine k_aload (j := 0) dX0_init_0 rfl rfl ?_
  refine k_obj dX0_init_1 xw_69 (by decide) (by decide) ?_
  refine k_aload (j := 0) dX0_init_4 rfl rfl ?_
  refine k_iconst (v := (3 : Int32)) dX0_init_5 (by decide) ?_
  refine k_newa (N := 3) dX0_init_6 (by decide) (by decide) (Nat.le_of_ble_eq_true rfl) (Nat.le_of_ble_eq_true rfl) (Nat.le_of_ble_eq_true rfl) (fun q1 => ?_)
  show kOk kX0 D ct 8 [(0, .ref q)] [.ref q1, .ref q] ([(q, .inr (0, [.null, .null])), (q1, kI ct 3 (fun _ => 0))]) 1 3 _
  refine k_putF (q0 := 0) 0 tyX0 tyX0_ok nmX0 dX0_init_8 rfl rfl inX0 (by decide) xw_70 rfl rfl rfl (tyX0_ok 0 (by decide)) rfl rfl (Nat.le_of_ble_eq_true rfl) ?_
  show kOk kX0 D ct 11 [(0, .ref q)] [] ([(q, .inr (0, [.ref q1, .null])), (q1, kI ct 3 (fun _ => 0))]) 1 3 _
  refine k_aload (j := 0) dX0_init_11 rfl rfl ?_
  refine k_iconst (v := (3 : Int32)) dX0_init_12 (by decide) ?_
  refine k_newa (N := 3) dX0_init_13 (by decide) (by decide) (Nat.le_of_ble_eq_true rfl) (Nat.le_of_ble_eq_true rfl) (Nat.le_of_ble_eq_true rfl) (fun q2 => ?_)
  show kOk kX0 D ct 15 [(0, .ref q)] [.ref q2, .ref q] ([(q, .inr (0, [.ref q1, .null])), (q1, kI ct 3 (fun _ => 0)), (q2, kI ct 3 (fun _ => 0))]) 2 6 _
  refine k_putF (q0 := 0) 1 tyX0 tyX0_ok nmX0 dX0_init_15 rfl rfl inX0 (by decide) xw_72 rfl rfl rfl (tyX0_ok 1 (by decide)) rfl rfl (Nat.le_of_ble_eq_true rfl) ?_
  show kOk kX0 D ct 18 [(0, .ref q)] [] ([(q, .inr (0, [.ref q1, .ref q2])), (q1, kI ct 3 (fun _ => 0)), (q2, kI ct 3 (fun _ => 0))]) 2 6 _
  exact k_ret dX0_init_18 (Nat.le_of_ble_eq_true rfl) (Nat.le_of_ble_eq_true rfl) ⟨(fun i => ([q, q1, q2] : List Nat).getD i 0), rfl, rfl⟩
theorem K2 (D : va_G) (ct : Nat → ClassId) (q : Nat) : kMet kX2 D ct [.ref q] [(q, .inr (2, [.int 0, .int 0, .int 0, .int 0, .null, .null, .null]))] (fun w1 => ∃ f, f 0 = q ∧ w1 = LyP ct f) := by
  refine kMet_of (by decide) rfl (Nat.le_of_ble_eq_true rfl) ?_
  show kOk kX2 D ct 0 [(0, .ref q)] [] [(q, .inr (2, [.int 0, .int 0, .int 0, .int 0, .null, .null, .null]))] 0 0 _
  refine k_aload (j := 0) dX2_init_0 rfl rfl ?_
  refine k_obj dX2_init_1 xw_34 (by decide) (by decide) ?_
  refine k_aload (j := 0) dX2_init_4 rfl rfl ?_
  refine k_iconst (v := (-1 : Int32)) dX2_init_5 (by decide) ?_
  refine k_put (q0 := 0) 0 tyX2 tyX2_ok nmX2 dX2_init_6 rfl rfl inX2 (by decide) xw_35 rfl (tyX2_ok 0 (by decide)) rfl rfl (Nat.le_of_ble_eq_true rfl) ?_
  show kOk kX2 D ct 9 [(0, .ref q)] [] ([(q, .inr (2, [.int (-1 : Int32), .int 0, .int 0, .int 0, .null, .null, .null]))]) 0 0 _
  refine k_aload (j := 0) dX2_init_9 rfl rfl ?_
  refine k_iconst (v := (0 : Int32)) dX2_init_10 (by decide) ?_
  refine k_put (q0 := 0) 1 tyX2 tyX2_ok nmX2 dX2_init_11 rfl rfl inX2 (by decide) xw_37 rfl (tyX2_ok 1 (by decide)) rfl rfl (Nat.le_of_ble_eq_true rfl) ?_
  show kOk kX2 D ct 14 [(0, .ref q)] [] ([(q, .inr (2, [.int (-1 : Int32), .int (0 : Int32), .int 0, .int 0, .null, .null, .null]))]) 0 0 _
  refine k_aload (j := 0) dX2_init_14 rfl rfl ?_
  refine k_iconst (v := (0 : Int32)) dX2_init_15 (by decide) ?_
  refine k_put (q0 := 0) 2 tyX2 tyX2_ok nmX2 dX2_init_16 rfl rfl inX2 (by decide) xw_39 rfl (tyX2_ok 2 (by decide)) rfl rfl (Nat.le_of_ble_eq_true rfl) ?_
  show kOk kX2 D ct 19 [(0, .ref q)] [] ([(q, .inr (2, [.int (-1 : Int32), .int (0 : Int32), .int (0 : Int32), .int 0, .null, .null, .null]))]) 0 0 _
  refine k_aload (j := 0) dX2_init_19 rfl rfl ?_
  refine k_iconst (v := (0 : Int32)) dX2_init_20 (by decide) ?_
  refine k_put (q0 := 0) 3 tyX2 tyX2_ok nmX2 dX2_init_21 rfl rfl inX2 (by decide) xw_41 rfl (tyX2_ok 3 (by decide)) rfl rfl (Nat.le_of_ble_eq_true rfl) ?_
  show kOk kX2 D ct 24 [(0, .ref q)] [] ([(q, .inr (2, [.int (-1 : Int32), .int (0 : Int32), .int (0 : Int32), .int (0 : Int32), .null, .null, .null]))]) 0 0 _
  refine k_aload (j := 0) dX2_init_24 rfl rfl ?_
  refine k_iconst (v := (3 : Int32)) dX2_init_25 (by decide) ?_
  refine k_newa (N := 3) dX2_init_26 (by decide) (by decide) (Nat.le_of_ble_eq_true rfl) (Nat.le_of_ble_eq_true rfl) (Nat.le_of_ble_eq_true rfl) (fun q1 => ?_)
  show kOk kX2 D ct 28 [(0, .ref q)] [.ref q1, .ref q] ([(q, .inr (2, [.int (-1 : Int32), .int (0 : Int32), .int (0 : Int32), .int (0 : Int32), .null, .null, .null])), (q1, kI ct 3 (fun _ => 0))]) 1 3 _
  refine k_dup dX2_init_28 rfl ?_
  refine k_iconst (v := (0 : Int32)) dX2_init_29 (by decide) ?_
  refine k_iconst (v := (-1 : Int32)) dX2_init_30 (by decide) ?_
  refine k_iast (q0 := 1) dX2_init_31 rfl (vp_in_nI (n := 0) (by decide) (by decide)) ?_
  show kOk kX2 D ct 32 [(0, .ref q)] [.ref q1, .ref q] ([(q, .inr (2, [.int (-1 : Int32), .int (0 : Int32), .int (0 : Int32), .int (0 : Int32), .null, .null, .null])), (q1, kI ct 3 (upd (fun _ => 0) (0 : Int32).toNatClampNeg (-1 : Int32)))]) 1 3 _
  refine k_dup dX2_init_32 rfl ?_
  refine k_iconst (v := (1 : Int32)) dX2_init_33 (by decide) ?_
  refine k_iconst (v := (-1 : Int32)) dX2_init_34 (by decide) ?_
  refine k_iast (q0 := 1) dX2_init_35 rfl (vp_in_nI (n := 1) (by decide) (by decide)) ?_
  show kOk kX2 D ct 36 [(0, .ref q)] [.ref q1, .ref q] ([(q, .inr (2, [.int (-1 : Int32), .int (0 : Int32), .int (0 : Int32), .int (0 : Int32), .null, .null, .null])), (q1, kI ct 3 (upd (upd (fun _ => 0) (0 : Int32).toNatClampNeg (-1 : Int32)) (1 : Int32).toNatClampNeg (-1 : Int32)))]) 1 3 _
  refine k_dup dX2_init_36 rfl ?_
  refine k_iconst (v := (2 : Int32)) dX2_init_37 (by decide) ?_
  refine k_iconst (v := (-1 : Int32)) dX2_init_38 (by decide) ?_
  refine k_iast (q0 := 1) dX2_init_39 rfl (vp_in_nI (n := 2) (by decide) (by decide)) ?_
  show kOk kX2 D ct 40 [(0, .ref q)] [.ref q1, .ref q] ([(q, .inr (2, [.int (-1 : Int32), .int (0 : Int32), .int (0 : Int32), .int (0 : Int32), .null, .null, .null])), (q1, kI ct 3 (upd (upd (upd (fun _ => 0) (0 : Int32).toNatClampNeg (-1 : Int32)) (1 : Int32).toNatClampNeg (-1 : Int32)) (2 : Int32).toNatClampNeg (-1 : Int32)))]) 1 3 _
  refine k_putF (q0 := 0) 4 tyX2 tyX2_ok nmX2 dX2_init_40 rfl rfl inX2 (by decide) xw_43 rfl rfl rfl (tyX2_ok 4 (by decide)) rfl rfl (Nat.le_of_ble_eq_true rfl) ?_
  show kOk kX2 D ct 43 [(0, .ref q)] [] ([(q, .inr (2, [.int (-1 : Int32), .int (0 : Int32), .int (0 : Int32), .int (0 : Int32), .ref q1, .null, .null])), (q1, kI ct 3 (upd (upd (upd (fun _ => 0) (0 : Int32).toNatClampNeg (-1 : Int32)) (1 : Int32).toNatClampNeg (-1 : Int32)) (2 : Int32).toNatClampNeg (-1 : Int32)))]) 1 3 _
  refine k_aload (j := 0) dX2_init_43 rfl rfl ?_
  refine k_iconst (v := (3 : Int32)) dX2_init_44 (by decide) ?_
  refine k_newa (N := 3) dX2_init_45 (by decide) (by decide) (Nat.le_of_ble_eq_true rfl) (Nat.le_of_ble_eq_true rfl) (Nat.le_of_ble_eq_true rfl) (fun q2 => ?_)
  show kOk kX2 D ct 47 [(0, .ref q)] [.ref q2, .ref q] ([(q, .inr (2, [.int (-1 : Int32), .int (0 : Int32), .int (0 : Int32), .int (0 : Int32), .ref q1, .null, .null])), (q1, kI ct 3 (upd (upd (upd (fun _ => 0) (0 : Int32).toNatClampNeg (-1 : Int32)) (1 : Int32).toNatClampNeg (-1 : Int32)) (2 : Int32).toNatClampNeg (-1 : Int32))), (q2, kI ct 3 (fun _ => 0))]) 2 6 _
  refine k_dup dX2_init_47 rfl ?_
  refine k_iconst (v := (0 : Int32)) dX2_init_48 (by decide) ?_
  refine k_iconst (v := (0 : Int32)) dX2_init_49 (by decide) ?_
  refine k_iast (q0 := 2) dX2_init_50 rfl (vp_in_nI (n := 0) (by decide) (by decide)) ?_
  show kOk kX2 D ct 51 [(0, .ref q)] [.ref q2, .ref q] ([(q, .inr (2, [.int (-1 : Int32), .int (0 : Int32), .int (0 : Int32), .int (0 : Int32), .ref q1, .null, .null])), (q1, kI ct 3 (upd (upd (upd (fun _ => 0) (0 : Int32).toNatClampNeg (-1 : Int32)) (1 : Int32).toNatClampNeg (-1 : Int32)) (2 : Int32).toNatClampNeg (-1 : Int32))), (q2, kI ct 3 (upd (fun _ => 0) (0 : Int32).toNatClampNeg (0 : Int32)))]) 2 6 _
  refine k_dup dX2_init_51 rfl ?_
  refine k_iconst (v := (1 : Int32)) dX2_init_52 (by decide) ?_
  refine k_iconst (v := (0 : Int32)) dX2_init_53 (by decide) ?_
  refine k_iast (q0 := 2) dX2_init_54 rfl (vp_in_nI (n := 1) (by decide) (by decide)) ?_
  show kOk kX2 D ct 55 [(0, .ref q)] [.ref q2, .ref q] ([(q, .inr (2, [.int (-1 : Int32), .int (0 : Int32), .int (0 : Int32), .int (0 : Int32), .ref q1, .null, .null])), (q1, kI ct 3 (upd (upd (upd (fun _ => 0) (0 : Int32).toNatClampNeg (-1 : Int32)) (1 : Int32).toNatClampNeg (-1 : Int32)) (2 : Int32).toNatClampNeg (-1 : Int32))), (q2, kI ct 3 (upd (upd (fun _ => 0) (0 : Int32).toNatClampNeg (0 : Int32)) (1 : Int32).toNatClampNeg (0 : Int32)))]) 2 6 _
  refine k_dup dX2_init_55 rfl ?_
  refine k_iconst (v := (2 : Int32)) dX2_init_56 (by decide) ?_
  refine k_iconst (v := (0 : Int32)) dX2_init_57 (by decide) ?_
  refine k_iast (q0 := 2) dX2_init_58 rfl (vp_in_nI (n := 2) (by decide) (by decide)) ?_
  show kOk kX2 D ct 59 [(0, .ref q)] [.ref q2, .ref q] ([(q, .inr (2, [.int (-1 : Int32), .int (0 : Int32), .int (0 : Int32), .int (0 : Int32), .ref q1, .null, .null])), (q1, kI ct 3 (upd (upd (upd (fun _ => 0) (0 : Int32).toNatClampNeg (-1 : Int32)) (1 : Int32).toNatClampNeg (-1 : Int32)) (2 : Int32).toNatClampNeg (-1 : Int32))), (q2, kI ct 3 (upd (upd (upd (fun _ => 0) (0 : Int32).toNatClampNeg (0 : Int32)) (1 : Int32).toNatClampNeg (0 : Int32)) (2 : Int32).toNatClampNeg (0 : Int32)))]) 2 6 _
  refine k_putF (q0 := 0) 5 tyX2 tyX2_ok nmX2 dX2_init_59 rfl rfl inX2 (by decide) xw_45 rfl rfl rfl (tyX2_ok 5 (by decide)) rfl rfl (Nat.le_of_ble_eq_true rfl) ?_
  show kOk kX2 D ct 62 [(0, .ref q)] [] ([(q, .inr (2, [.int (-1 : Int32), .int (0 : Int32), .int (0 : Int32), .int (0 : Int32), .ref q1, .ref q2, .null])), (q1, kI ct 3 (upd (upd (upd (fun _ => 0) (0 : Int32).toNatClampNeg (-1 : Int32)) (1 : Int32).toNatClampNeg (-1 : Int32)) (2 : Int32).toNatClampNeg (-1 : Int32))), (q2, kI ct 3 (upd (upd (upd (fun _ => 0) (0 : Int32).toNatClampNeg (0 : Int32)) (1 : Int32).toNatClampNeg (0 : Int32)) (2 : Int32).toNatClampNeg (0 : Int32)))]) 2 6 _
  refine k_aload (j := 0) dX2_init_62 rfl rfl ?_
  refine k_bipush (v := (6 : Int32)) dX2_init_63 (by decide) ?_
  refine k_newa (N := 6) dX2_init_65 (by decide) (by decide) (Nat.le_of_ble_eq_true rfl) (Nat.le_of_ble_eq_true rfl) (Nat.le_of_ble_eq_true rfl) (fun q3 => ?_)
  show kOk kX2 D ct 67 [(0, .ref q)] [.ref q3, .ref q] ([(q, .inr (2, [.int (-1 : Int32), .int (0 : Int32), .int (0 : Int32), .int (0 : Int32), .ref q1, .ref q2, .null])), (q1, kI ct 3 (upd (upd (upd (fun _ => 0) (0 : Int32).toNatClampNeg (-1 : Int32)) (1 : Int32).toNatClampNeg (-1 : Int32)) (2 : Int32).toNatClampNeg (-1 : Int32))), (q2, kI ct 3 (upd (upd (upd (fun _ => 0) (0 : Int32).toNatClampNeg (0 : Int32)) (1 : Int32).toNatClampNeg (0 : Int32)) (2 : Int32).toNatClampNeg (0 : Int32))), (q3, kI ct 6 (fun _ => 0))]) 3 12 _
  refine k_dup dX2_init_67 rfl ?_
  refine k_iconst (v := (0 : Int32)) dX2_init_68 (by decide) ?_
  refine k_iconst (v := (-1 : Int32)) dX2_init_69 (by decide) ?_
  refine k_iast (q0 := 3) dX2_init_70 rfl (vp_in_nI (n := 0) (by decide) (by decide)) ?_
  show kOk kX2 D ct 71 [(0, .ref q)] [.ref q3, .ref q] ([(q, .inr (2, [.int (-1 : Int32), .int (0 : Int32), .int (0 : Int32), .int (0 : Int32), .ref q1, .ref q2, .null])), (q1, kI ct 3 (upd (upd (upd (fun _ => 0) (0 : Int32).toNatClampNeg (-1 : Int32)) (1 : Int32).toNatClampNeg (-1 : Int32)) (2 : Int32).toNatClampNeg (-1 : Int32))), (q2, kI ct 3 (upd (upd (upd (fun _ => 0) (0 : Int32).toNatClampNeg (0 : Int32)) (1 : Int32).toNatClampNeg (0 : Int32)) (2 : Int32).toNatClampNeg (0 : Int32))), (q3, kI ct 6 (upd (fun _ => 0) (0 : Int32).toNatClampNeg (-1 : Int32)))]) 3 12 _
  refine k_dup dX2_init_71 rfl ?_
  refine k_iconst (v := (1 : Int32)) dX2_init_72 (by decide) ?_
  refine k_iconst (v := (-1 : Int32)) dX2_init_73 (by decide) ?_
  refine k_iast (q0 := 3) dX2_init_74 rfl (vp_in_nI (n := 1) (by decide) (by decide)) ?_
  show kOk kX2 D ct 75 [(0, .ref q)] [.ref q3, .ref q] ([(q, .inr (2, [.int (-1 : Int32), .int (0 : Int32), .int (0 : Int32), .int (0 : Int32), .ref q1, .ref q2, .null])), (q1, kI ct 3 (upd (upd (upd (fun _ => 0) (0 : Int32).toNatClampNeg (-1 : Int32)) (1 : Int32).toNatClampNeg (-1 : Int32)) (2 : Int32).toNatClampNeg (-1 : Int32))), (q2, kI ct 3 (upd (upd (upd (fun _ => 0) (0 : Int32).toNatClampNeg (0 : Int32)) (1 : Int32).toNatClampNeg (0 : Int32)) (2 : Int32).toNatClampNeg (0 : Int32))), (q3, kI ct 6 (upd (upd (fun _ => 0) (0 : Int32).toNatClampNeg (-1 : Int32)) (1 : Int32).toNatClampNeg (-1 : Int32)))]) 3 12 _
  refine k_dup dX2_init_75 rfl ?_
  refine k_iconst (v := (2 : Int32)) dX2_init_76 (by decide) ?_
  refine k_iconst (v := (-1 : Int32)) dX2_init_77 (by decide) ?_
  refine k_iast (q0 := 3) dX2_init_78 rfl (vp_in_nI (n := 2) (by decide) (by decide)) ?_
  show kOk kX2 D ct 79 [(0, .ref q)] [.ref q3, .ref q] ([(q, .inr (2, [.int (-1 : Int32), .int (0 : Int32), .int (0 : Int32), .int (0 : Int32), .ref q1, .ref q2, .null])), (q1, kI ct 3 (upd (upd (upd (fun _ => 0) (0 : Int32).toNatClampNeg (-1 : Int32)) (1 : Int32).toNatClampNeg (-1 : Int32)) (2 : Int32).toNatClampNeg (-1 : Int32))), (q2, kI ct 3 (upd (upd (upd (fun _ => 0) (0 : Int32).toNatClampNeg (0 : Int32)) (1 : Int32).toNatClampNeg (0 : Int32)) (2 : Int32).toNatClampNeg (0 : Int32))), (q3, kI ct 6 (upd (upd (upd (fun _ => 0) (0 : Int32).toNatClampNeg (-1 : Int32)) (1 : Int32).toNatClampNeg (-1 : Int32)) (2 : Int32).toNatClampNeg (-1 : Int32)))]) 3 12 _
  refine k_dup dX2_init_79 rfl ?_
  refine k_iconst (v := (3 : Int32)) dX2_init_80 (by decide) ?_
  refine k_iconst (v := (-1 : Int32)) dX2_init_81 (by decide) ?_
  refine k_iast (q0 := 3) dX2_init_82 rfl (vp_in_nI (n := 3) (by decide) (by decide)) ?_
  show kOk kX2 D ct 83 [(0, .ref q)] [.ref q3, .ref q] ([(q, .inr (2, [.int (-1 : Int32), .int (0 : Int32), .int (0 : Int32), .int (0 : Int32), .ref q1, .ref q2, .null])), (q1, kI ct 3 (upd (upd (upd (fun _ => 0) (0 : Int32).toNatClampNeg (-1 : Int32)) (1 : Int32).toNatClampNeg (-1 : Int32)) (2 : Int32).toNatClampNeg (-1 : Int32))), (q2, kI ct 3 (upd (upd (upd (fun _ => 0) (0 : Int32).toNatClampNeg (0 : Int32)) (1 : Int32).toNatClampNeg (0 : Int32)) (2 : Int32).toNatClampNeg (0 : Int32))), (q3, kI ct 6 (upd (upd (upd (upd (fun _ => 0) (0 : Int32).toNatClampNeg (-1 : Int32)) (1 : Int32).toNatClampNeg (-1 : Int32)) (2 : Int32).toNatClampNeg (-1 : Int32)) (3 : Int32).toNatClampNeg (-1 : Int32)))]) 3 12 _
  refine k_dup dX2_init_83 rfl ?_
  refine k_iconst (v := (4 : Int32)) dX2_init_84 (by decide) ?_
  refine k_iconst (v := (-1 : Int32)) dX2_init_85 (by decide) ?_
  refine k_iast (q0 := 3) dX2_init_86 rfl (vp_in_nI (n := 4) (by decide) (by decide)) ?_
  show kOk kX2 D ct 87 [(0, .ref q)] [.ref q3, .ref q] ([(q, .inr (2, [.int (-1 : Int32), .int (0 : Int32), .int (0 : Int32), .int (0 : Int32), .ref q1, .ref q2, .null])), (q1, kI ct 3 (upd (upd (upd (fun _ => 0) (0 : Int32).toNatClampNeg (-1 : Int32)) (1 : Int32).toNatClampNeg (-1 : Int32)) (2 : Int32).toNatClampNeg (-1 : Int32))), (q2, kI ct 3 (upd (upd (upd (fun _ => 0) (0 : Int32).toNatClampNeg (0 : Int32)) (1 : Int32).toNatClampNeg (0 : Int32)) (2 : Int32).toNatClampNeg (0 : Int32))), (q3, kI ct 6 (upd (upd (upd (upd (upd (fun _ => 0) (0 : Int32).toNatClampNeg (-1 : Int32)) (1 : Int32).toNatClampNeg (-1 : Int32)) (2 : Int32).toNatClampNeg (-1 : Int32)) (3 : Int32).toNatClampNeg (-1 : Int32)) (4 : Int32).toNatClampNeg (-1 : Int32)))]) 3 12 _
  refine k_dup dX2_init_87 rfl ?_
  refine k_iconst (v := (5 : Int32)) dX2_init_88 (by decide) ?_
  refine k_iconst (v := (-1 : Int32)) dX2_init_89 (by decide) ?_
  refine k_iast (q0 := 3) dX2_init_90 rfl (vp_in_nI (n := 5) (by decide) (by decide)) ?_
  show kOk kX2 D ct 91 [(0, .ref q)] [.ref q3, .ref q] ([(q, .inr (2, [.int (-1 : Int32), .int (0 : Int32), .int (0 : Int32), .int (0 : Int32), .ref q1, .ref q2, .null])), (q1, kI ct 3 (upd (upd (upd (fun _ => 0) (0 : Int32).toNatClampNeg (-1 : Int32)) (1 : Int32).toNatClampNeg (-1 : Int32)) (2 : Int32).toNatClampNeg (-1 : Int32))), (q2, kI ct 3 (upd (upd (upd (fun _ => 0) (0 : Int32).toNatClampNeg (0 : Int32)) (1 : Int32).toNatClampNeg (0 : Int32)) (2 : Int32).toNatClampNeg (0 : Int32))), (q3, kI ct 6 (upd (upd (upd (upd (upd (upd (fun _ => 0) (0 : Int32).toNatClampNeg (-1 : Int32)) (1 : Int32).toNatClampNeg (-1 : Int32)) (2 : Int32).toNatClampNeg (-1 : Int32)) (3 : Int32).toNatClampNeg (-1 : Int32)) (4 : Int32).toNatClampNeg (-1 : Int32)) (5 : Int32).toNatClampNeg (-1 : Int32)))]) 3 12 _
  refine k_putF (q0 := 0) 6 tyX2 tyX2_ok nmX2 dX2_init_91 rfl rfl inX2 (by decide) xw_47 rfl rfl rfl (tyX2_ok 6 (by decide)) rfl rfl (Nat.le_of_ble_eq_true rfl) ?_
  show kOk kX2 D ct 94 [(0, .ref q)] [] ([(q, .inr (2, [.int (-1 : Int32), .int (0 : Int32), .int (0 : Int32), .int (0 : Int32), .ref q1, .ref q2, .ref q3])), (q1, kI ct 3 (upd (upd (upd (fun _ => 0) (0 : Int32).toNatClampNeg (-1 : Int32)) (1 : Int32).toNatClampNeg (-1 : Int32)) (2 : Int32).toNatClampNeg (-1 : Int32))), (q2, kI ct 3 (upd (upd (upd (fun _ => 0) (0 : Int32).toNatClampNeg (0 : Int32)) (1 : Int32).toNatClampNeg (0 : Int32)) (2 : Int32).toNatClampNeg (0 : Int32))), (q3, kI ct 6 (upd (upd (upd (upd (upd (upd (fun _ => 0) (0 : Int32).toNatClampNeg (-1 : Int32)) (1 : Int32).toNatClampNeg (-1 : Int32)) (2 : Int32).toNatClampNeg (-1 : Int32)) (3 : Int32).toNatClampNeg (-1 : Int32)) (4 : Int32).toNatClampNeg (-1 : Int32)) (5 : Int32).toNatClampNeg (-1 : Int32)))]) 3 12 _
  exact k_ret dX2_init_94 (Nat.le_of_ble_eq_true rfl) (Nat.le_of_ble_eq_true rfl) ⟨(fun i => ([q, q1, q2, q3] : List Nat).getD i 0), rfl, rfl⟩
theorem K1 (D : va_G) (ct : Nat → ClassId) (q : Nat) : kMet kX1 D ct [.ref q] [(q, .inr (1, [.int 0, .null, .null, .null, .null, .null, .null]))] (fun w1 => ∃ f, f 0 = q ∧ w1 = LyL ct f) := by
  refine kMet_of (by decide) rfl (Nat.le_of_ble_eq_true rfl) ?_
  show kOk kX1 D ct 0 [(0, .ref q)] [] [(q, .inr (1, [.int 0, .null, .null, .null, .null, .null, .null]))] 0 0 _
  refine k_aload (j := 0) dX1_init_0 rfl rfl ?_
  refine k_obj dX1_init_1 xw_144 (by decide) (by decide) ?_
  refine k_aload (j := 0) dX1_init_4 rfl rfl ?_
  refine k_iconst (v := (0 : Int32)) dX1_init_5 (by decide) ?_
  refine k_put (q0 := 0) 0 tyX1 tyX1_ok nmX1 dX1_init_6 rfl rfl inX1 (by decide) xw_145 rfl (tyX1_ok 0 (by decide)) rfl rfl (Nat.le_of_ble_eq_true rfl) ?_
  show kOk kX1 D ct 9 [(0, .ref q)] [] ([(q, .inr (1, [.int (0 : Int32), .null, .null, .null, .null, .null, .null]))]) 0 0 _
  refine k_aload (j := 0) dX1_init_9 rfl rfl ?_
  refine k_bipush (v := (48 : Int32)) dX1_init_10 (by decide) ?_
  refine k_newa (N := 48) dX1_init_12 (by decide) (by decide) (Nat.le_of_ble_eq_true rfl) (Nat.le_of_ble_eq_true rfl) (Nat.le_of_ble_eq_true rfl) (fun q1 => ?_)
  show kOk kX1 D ct 14 [(0, .ref q)] [.ref q1, .ref q] ([(q, .inr (1, [.int (0 : Int32), .null, .null, .null, .null, .null, .null])), (q1, kI ct 48 (fun _ => 0))]) 1 48 _
  refine k_putF (q0 := 0) 1 tyX1 tyX1_ok nmX1 dX1_init_14 rfl rfl inX1 (by decide) xw_147 rfl rfl rfl (tyX1_ok 1 (by decide)) rfl rfl (Nat.le_of_ble_eq_true rfl) ?_
  show kOk kX1 D ct 17 [(0, .ref q)] [] ([(q, .inr (1, [.int (0 : Int32), .ref q1, .null, .null, .null, .null, .null])), (q1, kI ct 48 (fun _ => 0))]) 1 48 _
  refine k_aload (j := 0) dX1_init_17 rfl rfl ?_
  refine k_bipush (v := (48 : Int32)) dX1_init_18 (by decide) ?_
  refine k_newa (N := 48) dX1_init_20 (by decide) (by decide) (Nat.le_of_ble_eq_true rfl) (Nat.le_of_ble_eq_true rfl) (Nat.le_of_ble_eq_true rfl) (fun q2 => ?_)
  show kOk kX1 D ct 22 [(0, .ref q)] [.ref q2, .ref q] ([(q, .inr (1, [.int (0 : Int32), .ref q1, .null, .null, .null, .null, .null])), (q1, kI ct 48 (fun _ => 0)), (q2, kI ct 48 (fun _ => 0))]) 2 96 _
  refine k_putF (q0 := 0) 2 tyX1 tyX1_ok nmX1 dX1_init_22 rfl rfl inX1 (by decide) xw_149 rfl rfl rfl (tyX1_ok 2 (by decide)) rfl rfl (Nat.le_of_ble_eq_true rfl) ?_
  show kOk kX1 D ct 25 [(0, .ref q)] [] ([(q, .inr (1, [.int (0 : Int32), .ref q1, .ref q2, .null, .null, .null, .null])), (q1, kI ct 48 (fun _ => 0)), (q2, kI ct 48 (fun _ => 0))]) 2 96 _
  refine k_aload (j := 0) dX1_init_25 rfl rfl ?_
  refine k_bipush (v := (48 : Int32)) dX1_init_26 (by decide) ?_
  refine k_newa (N := 48) dX1_init_28 (by decide) (by decide) (Nat.le_of_ble_eq_true rfl) (Nat.le_of_ble_eq_true rfl) (Nat.le_of_ble_eq_true rfl) (fun q3 => ?_)
  show kOk kX1 D ct 30 [(0, .ref q)] [.ref q3, .ref q] ([(q, .inr (1, [.int (0 : Int32), .ref q1, .ref q2, .null, .null, .null, .null])), (q1, kI ct 48 (fun _ => 0)), (q2, kI ct 48 (fun _ => 0)), (q3, kI ct 48 (fun _ => 0))]) 3 144 _
  refine k_putF (q0 := 0) 3 tyX1 tyX1_ok nmX1 dX1_init_30 rfl rfl inX1 (by decide) xw_151 rfl rfl rfl (tyX1_ok 3 (by decide)) rfl rfl (Nat.le_of_ble_eq_true rfl) ?_
  show kOk kX1 D ct 33 [(0, .ref q)] [] ([(q, .inr (1, [.int (0 : Int32), .ref q1, .ref q2, .ref q3, .null, .null, .null])), (q1, kI ct 48 (fun _ => 0)), (q2, kI ct 48 (fun _ => 0)), (q3, kI ct 48 (fun _ => 0))]) 3 144 _
  refine k_aload (j := 0) dX1_init_33 rfl rfl ?_
  refine k_bipush (v := (48 : Int32)) dX1_init_34 (by decide) ?_
  refine k_newa (N := 48) dX1_init_36 (by decide) (by decide) (Nat.le_of_ble_eq_true rfl) (Nat.le_of_ble_eq_true rfl) (Nat.le_of_ble_eq_true rfl) (fun q4 => ?_)
  show kOk kX1 D ct 38 [(0, .ref q)] [.ref q4, .ref q] ([(q, .inr (1, [.int (0 : Int32), .ref q1, .ref q2, .ref q3, .null, .null, .null])), (q1, kI ct 48 (fun _ => 0)), (q2, kI ct 48 (fun _ => 0)), (q3, kI ct 48 (fun _ => 0)), (q4, kI ct 48 (fun _ => 0))]) 4 192 _
  refine k_putF (q0 := 0) 4 tyX1 tyX1_ok nmX1 dX1_init_38 rfl rfl inX1 (by decide) xw_153 rfl rfl rfl (tyX1_ok 4 (by decide)) rfl rfl (Nat.le_of_ble_eq_true rfl) ?_
  show kOk kX1 D ct 41 [(0, .ref q)] [] ([(q, .inr (1, [.int (0 : Int32), .ref q1, .ref q2, .ref q3, .ref q4, .null, .null])), (q1, kI ct 48 (fun _ => 0)), (q2, kI ct 48 (fun _ => 0)), (q3, kI ct 48 (fun _ => 0)), (q4, kI ct 48 (fun _ => 0))]) 4 192 _
  refine k_aload (j := 0) dX1_init_41 rfl rfl ?_
  refine k_bipush (v := (48 : Int32)) dX1_init_42 (by decide) ?_
  refine k_newa (N := 48) dX1_init_44 (by decide) (by decide) (Nat.le_of_ble_eq_true rfl) (Nat.le_of_ble_eq_true rfl) (Nat.le_of_ble_eq_true rfl) (fun q5 => ?_)
  show kOk kX1 D ct 46 [(0, .ref q)] [.ref q5, .ref q] ([(q, .inr (1, [.int (0 : Int32), .ref q1, .ref q2, .ref q3, .ref q4, .null, .null])), (q1, kI ct 48 (fun _ => 0)), (q2, kI ct 48 (fun _ => 0)), (q3, kI ct 48 (fun _ => 0)), (q4, kI ct 48 (fun _ => 0)), (q5, kI ct 48 (fun _ => 0))]) 5 240 _
  refine k_putF (q0 := 0) 5 tyX1 tyX1_ok nmX1 dX1_init_46 rfl rfl inX1 (by decide) xw_155 rfl rfl rfl (tyX1_ok 5 (by decide)) rfl rfl (Nat.le_of_ble_eq_true rfl) ?_
  show kOk kX1 D ct 49 [(0, .ref q)] [] ([(q, .inr (1, [.int (0 : Int32), .ref q1, .ref q2, .ref q3, .ref q4, .ref q5, .null])), (q1, kI ct 48 (fun _ => 0)), (q2, kI ct 48 (fun _ => 0)), (q3, kI ct 48 (fun _ => 0)), (q4, kI ct 48 (fun _ => 0)), (q5, kI ct 48 (fun _ => 0))]) 5 240 _
  refine k_aload (j := 0) dX1_init_49 rfl rfl ?_
  refine k_bipush (v := (48 : Int32)) dX1_init_50 (by decide) ?_
  refine k_newa (N := 48) dX1_init_52 (by decide) (by decide) (Nat.le_of_ble_eq_true rfl) (Nat.le_of_ble_eq_true rfl) (Nat.le_of_ble_eq_true rfl) (fun q6 => ?_)
  show kOk kX1 D ct 54 [(0, .ref q)] [.ref q6, .ref q] ([(q, .inr (1, [.int (0 : Int32), .ref q1, .ref q2, .ref q3, .ref q4, .ref q5, .null])), (q1, kI ct 48 (fun _ => 0)), (q2, kI ct 48 (fun _ => 0)), (q3, kI ct 48 (fun _ => 0)), (q4, kI ct 48 (fun _ => 0)), (q5, kI ct 48 (fun _ => 0)), (q6, kI ct 48 (fun _ => 0))]) 6 288 _
  refine k_putF (q0 := 0) 6 tyX1 tyX1_ok nmX1 dX1_init_54 rfl rfl inX1 (by decide) xw_156 rfl rfl rfl (tyX1_ok 6 (by decide)) rfl rfl (Nat.le_of_ble_eq_true rfl) ?_
  show kOk kX1 D ct 57 [(0, .ref q)] [] ([(q, .inr (1, [.int (0 : Int32), .ref q1, .ref q2, .ref q3, .ref q4, .ref q5, .ref q6])), (q1, kI ct 48 (fun _ => 0)), (q2, kI ct 48 (fun _ => 0)), (q3, kI ct 48 (fun _ => 0)), (q4, kI ct 48 (fun _ => 0)), (q5, kI ct 48 (fun _ => 0)), (q6, kI ct 48 (fun _ => 0))]) 6 288 _
  exact k_ret dX1_init_57 (Nat.le_of_ble_eq_true rfl) (Nat.le_of_ble_eq_true rfl) ⟨(fun i => ([q, q1, q2, q3, q4, q5, q6] : List Nat).getD i 0), rfl, rfl⟩
theorem K3 (D : va_G) (ct : Nat → ClassId) (q : Nat) : kMet kX3 D ct [.ref q] [(q, .inr (3, [.null, .int 0, .null, .null, .int 0, .int 0, .int 0, .int 0, .int 0]))] (fun w1 => ∃ f, f 0 = q ∧ w1 = LyR ct f) := by
  refine kMet_of (by decide) rfl (Nat.le_of_ble_eq_true rfl) ?_
  show kOk kX3 D ct 0 [(0, .ref q)] [] [(q, .inr (3, [.null, .int 0, .null, .null, .int 0, .int 0, .int 0, .int 0, .int 0]))] 0 0 _
  refine k_aload (j := 0) dX3_init_0 rfl rfl ?_
  refine k_obj dX3_init_1 xw_106 (by decide) (by decide) ?_
  refine k_aload (j := 0) dX3_init_4 rfl rfl ?_
  refine k_bipush (v := (120 : Int32)) dX3_init_5 (by decide) ?_
  refine k_newa (N := 120) dX3_init_7 (by decide) (by decide) (Nat.le_of_ble_eq_true rfl) (Nat.le_of_ble_eq_true rfl) (Nat.le_of_ble_eq_true rfl) (fun q1 => ?_)
  show kOk kX3 D ct 9 [(0, .ref q)] [.ref q1, .ref q] ([(q, .inr (3, [.null, .int 0, .null, .null, .int 0, .int 0, .int 0, .int 0, .int 0])), (q1, kI ct 120 (fun _ => 0))]) 1 120 _
  refine k_putF (q0 := 0) 0 tyX3 tyX3_ok nmX3 dX3_init_9 rfl rfl inX3 (by decide) xw_107 rfl rfl rfl (tyX3_ok 0 (by decide)) rfl rfl (Nat.le_of_ble_eq_true rfl) ?_
  show kOk kX3 D ct 12 [(0, .ref q)] [] ([(q, .inr (3, [.ref q1, .int 0, .null, .null, .int 0, .int 0, .int 0, .int 0, .int 0])), (q1, kI ct 120 (fun _ => 0))]) 1 120 _
  refine k_aload (j := 0) dX3_init_12 rfl rfl ?_
  refine k_iconst (v := (0 : Int32)) dX3_init_13 (by decide) ?_
  refine k_put (q0 := 0) 1 tyX3 tyX3_ok nmX3 dX3_init_14 rfl rfl inX3 (by decide) xw_109 rfl (tyX3_ok 1 (by decide)) rfl rfl (Nat.le_of_ble_eq_true rfl) ?_
  show kOk kX3 D ct 17 [(0, .ref q)] [] ([(q, .inr (3, [.ref q1, .int (0 : Int32), .null, .null, .int 0, .int 0, .int 0, .int 0, .int 0])), (q1, kI ct 120 (fun _ => 0))]) 1 120 _
  refine k_aload (j := 0) dX3_init_17 rfl rfl ?_
  refine k_bipush (v := (40 : Int32)) dX3_init_18 (by decide) ?_
  refine k_newa (N := 40) dX3_init_20 (by decide) (by decide) (Nat.le_of_ble_eq_true rfl) (Nat.le_of_ble_eq_true rfl) (Nat.le_of_ble_eq_true rfl) (fun q2 => ?_)
  show kOk kX3 D ct 22 [(0, .ref q)] [.ref q2, .ref q] ([(q, .inr (3, [.ref q1, .int (0 : Int32), .null, .null, .int 0, .int 0, .int 0, .int 0, .int 0])), (q1, kI ct 120 (fun _ => 0)), (q2, kI ct 40 (fun _ => 0))]) 2 160 _
  refine k_putF (q0 := 0) 2 tyX3 tyX3_ok nmX3 dX3_init_22 rfl rfl inX3 (by decide) xw_111 rfl rfl rfl (tyX3_ok 2 (by decide)) rfl rfl (Nat.le_of_ble_eq_true rfl) ?_
  show kOk kX3 D ct 25 [(0, .ref q)] [] ([(q, .inr (3, [.ref q1, .int (0 : Int32), .ref q2, .null, .int 0, .int 0, .int 0, .int 0, .int 0])), (q1, kI ct 120 (fun _ => 0)), (q2, kI ct 40 (fun _ => 0))]) 2 160 _
  refine k_aload (j := 0) dX3_init_25 rfl rfl ?_
  refine k_sipush (v := (200 : Int32)) dX3_init_26 (by decide) ?_
  refine k_newa (N := 200) dX3_init_29 (by decide) (by decide) (Nat.le_of_ble_eq_true rfl) (Nat.le_of_ble_eq_true rfl) (Nat.le_of_ble_eq_true rfl) (fun q3 => ?_)
  show kOk kX3 D ct 31 [(0, .ref q)] [.ref q3, .ref q] ([(q, .inr (3, [.ref q1, .int (0 : Int32), .ref q2, .null, .int 0, .int 0, .int 0, .int 0, .int 0])), (q1, kI ct 120 (fun _ => 0)), (q2, kI ct 40 (fun _ => 0)), (q3, kI ct 200 (fun _ => 0))]) 3 360 _
  refine k_putF (q0 := 0) 3 tyX3 tyX3_ok nmX3 dX3_init_31 rfl rfl inX3 (by decide) xw_113 rfl rfl rfl (tyX3_ok 3 (by decide)) rfl rfl (Nat.le_of_ble_eq_true rfl) ?_
  show kOk kX3 D ct 34 [(0, .ref q)] [] ([(q, .inr (3, [.ref q1, .int (0 : Int32), .ref q2, .ref q3, .int 0, .int 0, .int 0, .int 0, .int 0])), (q1, kI ct 120 (fun _ => 0)), (q2, kI ct 40 (fun _ => 0)), (q3, kI ct 200 (fun _ => 0))]) 3 360 _
  refine k_aload (j := 0) dX3_init_34 rfl rfl ?_
  refine k_iconst (v := (0 : Int32)) dX3_init_35 (by decide) ?_
  refine k_put (q0 := 0) 4 tyX3 tyX3_ok nmX3 dX3_init_36 rfl rfl inX3 (by decide) xw_115 rfl (tyX3_ok 4 (by decide)) rfl rfl (Nat.le_of_ble_eq_true rfl) ?_
  show kOk kX3 D ct 39 [(0, .ref q)] [] ([(q, .inr (3, [.ref q1, .int (0 : Int32), .ref q2, .ref q3, .int (0 : Int32), .int 0, .int 0, .int 0, .int 0])), (q1, kI ct 120 (fun _ => 0)), (q2, kI ct 40 (fun _ => 0)), (q3, kI ct 200 (fun _ => 0))]) 3 360 _
  refine k_aload (j := 0) dX3_init_39 rfl rfl ?_
  refine k_iconst (v := (0 : Int32)) dX3_init_40 (by decide) ?_
  refine k_put (q0 := 0) 5 tyX3 tyX3_ok nmX3 dX3_init_41 rfl rfl inX3 (by decide) xw_117 rfl (tyX3_ok 5 (by decide)) rfl rfl (Nat.le_of_ble_eq_true rfl) ?_
  show kOk kX3 D ct 44 [(0, .ref q)] [] ([(q, .inr (3, [.ref q1, .int (0 : Int32), .ref q2, .ref q3, .int (0 : Int32), .int (0 : Int32), .int 0, .int 0, .int 0])), (q1, kI ct 120 (fun _ => 0)), (q2, kI ct 40 (fun _ => 0)), (q3, kI ct 200 (fun _ => 0))]) 3 360 _
  refine k_aload (j := 0) dX3_init_44 rfl rfl ?_
  refine k_iconst (v := (0 : Int32)) dX3_init_45 (by decide) ?_
  refine k_put (q0 := 0) 6 tyX3 tyX3_ok nmX3 dX3_init_46 rfl rfl inX3 (by decide) xw_118 rfl (tyX3_ok 6 (by decide)) rfl rfl (Nat.le_of_ble_eq_true rfl) ?_
  show kOk kX3 D ct 49 [(0, .ref q)] [] ([(q, .inr (3, [.ref q1, .int (0 : Int32), .ref q2, .ref q3, .int (0 : Int32), .int (0 : Int32), .int (0 : Int32), .int 0, .int 0])), (q1, kI ct 120 (fun _ => 0)), (q2, kI ct 40 (fun _ => 0)), (q3, kI ct 200 (fun _ => 0))]) 3 360 _
  refine k_aload (j := 0) dX3_init_49 rfl rfl ?_
  refine k_iconst (v := (0 : Int32)) dX3_init_50 (by decide) ?_
  refine k_put (q0 := 0) 7 tyX3 tyX3_ok nmX3 dX3_init_51 rfl rfl inX3 (by decide) xw_119 rfl (tyX3_ok 7 (by decide)) rfl rfl (Nat.le_of_ble_eq_true rfl) ?_
  show kOk kX3 D ct 54 [(0, .ref q)] [] ([(q, .inr (3, [.ref q1, .int (0 : Int32), .ref q2, .ref q3, .int (0 : Int32), .int (0 : Int32), .int (0 : Int32), .int (0 : Int32), .int 0])), (q1, kI ct 120 (fun _ => 0)), (q2, kI ct 40 (fun _ => 0)), (q3, kI ct 200 (fun _ => 0))]) 3 360 _
  refine k_aload (j := 0) dX3_init_54 rfl rfl ?_
  refine k_iconst (v := (0 : Int32)) dX3_init_55 (by decide) ?_
  refine k_put (q0 := 0) 8 tyX3 tyX3_ok nmX3 dX3_init_56 rfl rfl inX3 (by decide) xw_120 rfl (tyX3_ok 8 (by decide)) rfl rfl (Nat.le_of_ble_eq_true rfl) ?_
  show kOk kX3 D ct 59 [(0, .ref q)] [] ([(q, .inr (3, [.ref q1, .int (0 : Int32), .ref q2, .ref q3, .int (0 : Int32), .int (0 : Int32), .int (0 : Int32), .int (0 : Int32), .int (0 : Int32)])), (q1, kI ct 120 (fun _ => 0)), (q2, kI ct 40 (fun _ => 0)), (q3, kI ct 200 (fun _ => 0))]) 3 360 _
  exact k_ret dX3_init_59 (Nat.le_of_ble_eq_true rfl) (Nat.le_of_ble_eq_true rfl) ⟨(fun i => ([q, q1, q2, q3] : List Nat).getD i 0), rfl, rfl⟩
theorem K4 (D : va_G) (ct : Nat → ClassId) (q : Nat) : kMet kX4 D ct [.ref q] [(q, .inr (4, [.int 0, .int 0, .null, .null, .null]))] (fun w1 => ∃ f, f 0 = q ∧ w1 = LyS ct f) := by
  refine kMet_of (by decide) rfl (Nat.le_of_ble_eq_true rfl) ?_
  show kOk kX4 D ct 0 [(0, .ref q)] [] [(q, .inr (4, [.int 0, .int 0, .null, .null, .null]))] 0 0 _
  refine k_aload (j := 0) dX4_init_0 rfl rfl ?_
  refine k_obj dX4_init_1 xw_25 (by decide) (by decide) ?_
  refine k_aload (j := 0) dX4_init_4 rfl rfl ?_
  refine k_iconst (v := (0 : Int32)) dX4_init_5 (by decide) ?_
  refine k_put (q0 := 0) 0 tyX4 tyX4_ok nmX4 dX4_init_6 rfl rfl inX4 (by decide) xw_79 rfl (tyX4_ok 0 (by decide)) rfl rfl (Nat.le_of_ble_eq_true rfl) ?_
  show kOk kX4 D ct 9 [(0, .ref q)] [] ([(q, .inr (4, [.int (0 : Int32), .int 0, .null, .null, .null]))]) 0 0 _
  refine k_aload (j := 0) dX4_init_9 rfl rfl ?_
  refine k_iconst (v := (5 : Int32)) dX4_init_10 (by decide) ?_
  refine k_put (q0 := 0) 1 tyX4 tyX4_ok nmX4 dX4_init_11 rfl rfl inX4 (by decide) xw_81 rfl (tyX4_ok 1 (by decide)) rfl rfl (Nat.le_of_ble_eq_true rfl) ?_
  show kOk kX4 D ct 14 [(0, .ref q)] [] ([(q, .inr (4, [.int (0 : Int32), .int (5 : Int32), .null, .null, .null]))]) 0 0 _
  refine k_aload (j := 0) dX4_init_14 rfl rfl ?_
  refine k_iconst (v := (3 : Int32)) dX4_init_15 (by decide) ?_
  refine k_newa (N := 3) dX4_init_16 (by decide) (by decide) (Nat.le_of_ble_eq_true rfl) (Nat.le_of_ble_eq_true rfl) (Nat.le_of_ble_eq_true rfl) (fun q1 => ?_)
  show kOk kX4 D ct 18 [(0, .ref q)] [.ref q1, .ref q] ([(q, .inr (4, [.int (0 : Int32), .int (5 : Int32), .null, .null, .null])), (q1, kI ct 3 (fun _ => 0))]) 1 3 _
  refine k_putF (q0 := 0) 2 tyX4 tyX4_ok nmX4 dX4_init_18 rfl rfl inX4 (by decide) xw_83 rfl rfl rfl (tyX4_ok 2 (by decide)) rfl rfl (Nat.le_of_ble_eq_true rfl) ?_
  show kOk kX4 D ct 21 [(0, .ref q)] [] ([(q, .inr (4, [.int (0 : Int32), .int (5 : Int32), .ref q1, .null, .null])), (q1, kI ct 3 (fun _ => 0))]) 1 3 _
  refine k_aload (j := 0) dX4_init_21 rfl rfl ?_
  refine k_iconst (v := (4 : Int32)) dX4_init_22 (by decide) ?_
  refine k_newq (N := 4) (t := 3) dX4_init_23 xw_26 rfl (fun _ z => z.2.1.2.2.1) (by decide) (by decide) (Nat.le_of_ble_eq_true rfl) (Nat.le_of_ble_eq_true rfl) (Nat.le_of_ble_eq_true rfl) (fun q2 => ?_)
  show kOk kX4 D ct 26 [(0, .ref q)] [.ref q2, .ref q] ([(q, .inr (4, [.int (0 : Int32), .int (5 : Int32), .ref q1, .null, .null])), (q1, kI ct 3 (fun _ => 0)), (q2, kQf (ct 3) 4 (fun _ => none))]) 2 7 _
  refine k_putF (q0 := 0) 3 tyX4 tyX4_ok nmX4 dX4_init_26 rfl rfl inX4 (by decide) xw_85 rfl rfl rfl (tyX4_ok 3 (by decide)) rfl rfl (Nat.le_of_ble_eq_true rfl) ?_
  show kOk kX4 D ct 29 [(0, .ref q)] [] ([(q, .inr (4, [.int (0 : Int32), .int (5 : Int32), .ref q1, .ref q2, .null])), (q1, kI ct 3 (fun _ => 0)), (q2, kQf (ct 3) 4 (fun _ => none))]) 2 7 _
  refine k_aload (j := 0) dX4_init_29 rfl rfl ?_
  refine k_iconst (v := (2 : Int32)) dX4_init_30 (by decide) ?_
  refine k_newq (N := 2) (t := 4) dX4_init_31 xw_28 rfl (fun _ z => z.2.1.2.2.2) (by decide) (by decide) (Nat.le_of_ble_eq_true rfl) (Nat.le_of_ble_eq_true rfl) (Nat.le_of_ble_eq_true rfl) (fun q3 => ?_)
  show kOk kX4 D ct 34 [(0, .ref q)] [.ref q3, .ref q] ([(q, .inr (4, [.int (0 : Int32), .int (5 : Int32), .ref q1, .ref q2, .null])), (q1, kI ct 3 (fun _ => 0)), (q2, kQf (ct 3) 4 (fun _ => none)), (q3, kQf (ct 4) 2 (fun _ => none))]) 3 9 _
  refine k_putF (q0 := 0) 4 tyX4 tyX4_ok nmX4 dX4_init_34 rfl rfl inX4 (by decide) xw_87 rfl rfl rfl (tyX4_ok 4 (by decide)) rfl rfl (Nat.le_of_ble_eq_true rfl) ?_
  show kOk kX4 D ct 37 [(0, .ref q)] [] ([(q, .inr (4, [.int (0 : Int32), .int (5 : Int32), .ref q1, .ref q2, .ref q3])), (q1, kI ct 3 (fun _ => 0)), (q2, kQf (ct 3) 4 (fun _ => none)), (q3, kQf (ct 4) 2 (fun _ => none))]) 3 9 _
  refine k_iconst (v := (0 : Int32)) dX4_init_37 (by decide) ?_
  refine k_istore (ls2 := [(1, .int (0 : Int32)), (0, .ref q)]) dX4_init_38 rfl (by decide) rfl ?_
  refine k_iload (j := 0) dX4_init_39 rfl rfl ?_
  refine k_iconst (v := (4 : Int32)) dX4_init_40 (by decide) ?_
  refine k_icmp_ge (tgt := 63) dX4_init_41 (by decide) ⟨fun z => absurd z (by decide), fun _ => ?_⟩
  refine k_aload (j := 1) dX4_init_44 rfl rfl ?_
  refine k_get (q0 := 0) (v := .ref q2) 3 dX4_init_45 rfl rfl inX4 (by decide) xw_85 rfl ?_
  refine k_iload (j := 0) dX4_init_48 rfl rfl ?_
  refine k_new (ci := 2) (fs := [.int 0, .int 0, .int 0, .int 0, .null, .null, .null]) tyX2 dX4_init_49 inX2 tyX2_ok xw_26 xw_30 xw_3 rfl (by decide) (Nat.le_of_ble_eq_true rfl) (Nat.le_of_ble_eq_true rfl) (fun q4 => ?_)
  refine k_dup dX4_init_52 rfl ?_
  refine k_callN (K' := kX2) dX4_init_53 (K2 D ct q4) (fun _ z => z.2.2.1) rfl xw_33 xw_3 xw_32 rfl ⟨by decide, by decide, by decide +kernel⟩ ⟨(Nat.le_of_ble_eq_true rfl), (Nat.le_of_ble_eq_true rfl)⟩ (Nat.le_of_ble_eq_true rfl) (Nat.le_of_ble_eq_true rfl) (Nat.le_of_ble_eq_true rfl) (fun w1 hw => ?_)
  obtain ⟨f5, rfl, rfl⟩ := hw
  show kOk kX4 D ct 56 [(1, .int (0 : Int32)), (0, .ref q)] [.ref (f5 0), .int (0 : Int32), .ref q2] ([(q, .inr (4, [.int (0 : Int32), .int (5 : Int32), .ref q1, .ref q2, .ref q3])), (q1, kI ct 3 (fun _ => 0)), (q2, kQf (ct 3) 4 (fun _ => none)), (q3, kQf (ct 4) 2 (fun _ => none))] ++ LyP ct f5) 7 28 _
  refine k_astq (q0 := 2) (qk := 4) (t := 3) (ci := 2) dX4_init_56 rfl rfl rfl rfl (vp_in_nI (n := 0) (by decide) (by decide)) ?_
  show kOk kX4 D ct 57 [(1, .int (0 : Int32)), (0, .ref q)] [] ([(q, .inr (4, [.int (0 : Int32), .int (5 : Int32), .ref q1, .ref q2, .ref q3])), (q1, kI ct 3 (fun _ => 0)), (q2, kQf (ct 3) 4 (va_up (fun _ => none) (0 : Int32).toNatClampNeg (some (f5 0)))), (q3, kQf (ct 4) 2 (fun _ => none))] ++ LyP ct f5) 7 28 _
  refine k_iinc (j := 0) (v := (1 : Int32)) (ls2 := [(1, .int (1 : Int32)), (0, .ref q)]) dX4_init_57 rfl (by decide) (by decide) rfl ?_
  refine k_goto (tgt := 39) dX4_init_60 (by decide) ?_
  refine k_iload (j := 0) dX4_init_39 rfl rfl ?_
  refine k_iconst (v := (4 : Int32)) dX4_init_40 (by decide) ?_
  refine k_icmp_ge (tgt := 63) dX4_init_41 (by decide) ⟨fun z => absurd z (by decide), fun _ => ?_⟩
  refine k_aload (j := 1) dX4_init_44 rfl rfl ?_
  refine k_get (q0 := 0) (v := .ref q2) 3 dX4_init_45 rfl rfl inX4 (by decide) xw_85 rfl ?_
  refine k_iload (j := 0) dX4_init_48 rfl rfl ?_
  refine k_new (ci := 2) (fs := [.int 0, .int 0, .int 0, .int 0, .null, .null, .null]) tyX2 dX4_init_49 inX2 tyX2_ok xw_26 xw_30 xw_3 rfl (by decide) (Nat.le_of_ble_eq_true rfl) (Nat.le_of_ble_eq_true rfl) (fun q6 => ?_)
  refine k_dup dX4_init_52 rfl ?_
  refine k_callN (K' := kX2) dX4_init_53 (K2 D ct q6) (fun _ z => z.2.2.1) rfl xw_33 xw_3 xw_32 rfl ⟨by decide, by decide, by decide +kernel⟩ ⟨(Nat.le_of_ble_eq_true rfl), (Nat.le_of_ble_eq_true rfl)⟩ (Nat.le_of_ble_eq_true rfl) (Nat.le_of_ble_eq_true rfl) (Nat.le_of_ble_eq_true rfl) (fun w1 hw => ?_)
  obtain ⟨f7, rfl, rfl⟩ := hw
  show kOk kX4 D ct 56 [(1, .int (1 : Int32)), (0, .ref q)] [.ref (f7 0), .int (1 : Int32), .ref q2] ([(q, .inr (4, [.int (0 : Int32), .int (5 : Int32), .ref q1, .ref q2, .ref q3])), (q1, kI ct 3 (fun _ => 0)), (q2, kQf (ct 3) 4 (va_up (fun _ => none) (0 : Int32).toNatClampNeg (some (f5 0)))), (q3, kQf (ct 4) 2 (fun _ => none))] ++ LyP ct f5 ++ LyP ct f7) 11 47 _
  refine k_astq (q0 := 2) (qk := 8) (t := 3) (ci := 2) dX4_init_56 rfl rfl rfl rfl (vp_in_nI (n := 1) (by decide) (by decide)) ?_
  show kOk kX4 D ct 57 [(1, .int (1 : Int32)), (0, .ref q)] [] ([(q, .inr (4, [.int (0 : Int32), .int (5 : Int32), .ref q1, .ref q2, .ref q3])), (q1, kI ct 3 (fun _ => 0)), (q2, kQf (ct 3) 4 (va_up (va_up (fun _ => none) (0 : Int32).toNatClampNeg (some (f5 0))) (1 : Int32).toNatClampNeg (some (f7 0)))), (q3, kQf (ct 4) 2 (fun _ => none))] ++ LyP ct f5 ++ LyP ct f7) 11 47 _
  refine k_iinc (j := 0) (v := (2 : Int32)) (ls2 := [(1, .int (2 : Int32)), (0, .ref q)]) dX4_init_57 rfl (by decide) (by decide) rfl ?_
  refine k_goto (tgt := 39) dX4_init_60 (by decide) ?_
  refine k_iload (j := 0) dX4_init_39 rfl rfl ?_
  refine k_iconst (v := (4 : Int32)) dX4_init_40 (by decide) ?_
  refine k_icmp_ge (tgt := 63) dX4_init_41 (by decide) ⟨fun z => absurd z (by decide), fun _ => ?_⟩
  refine k_aload (j := 1) dX4_init_44 rfl rfl ?_
  refine k_get (q0 := 0) (v := .ref q2) 3 dX4_init_45 rfl rfl inX4 (by decide) xw_85 rfl ?_
  refine k_iload (j := 0) dX4_init_48 rfl rfl ?_
  refine k_new (ci := 2) (fs := [.int 0, .int 0, .int 0, .int 0, .null, .null, .null]) tyX2 dX4_init_49 inX2 tyX2_ok xw_26 xw_30 xw_3 rfl (by decide) (Nat.le_of_ble_eq_true rfl) (Nat.le_of_ble_eq_true rfl) (fun q8 => ?_)
  refine k_dup dX4_init_52 rfl ?_
  refine k_callN (K' := kX2) dX4_init_53 (K2 D ct q8) (fun _ z => z.2.2.1) rfl xw_33 xw_3 xw_32 rfl ⟨by decide, by decide, by decide +kernel⟩ ⟨(Nat.le_of_ble_eq_true rfl), (Nat.le_of_ble_eq_true rfl)⟩ (Nat.le_of_ble_eq_true rfl) (Nat.le_of_ble_eq_true rfl) (Nat.le_of_ble_eq_true rfl) (fun w1 hw => ?_)
  obtain ⟨f9, rfl, rfl⟩ := hw
  show kOk kX4 D ct 56 [(1, .int (2 : Int32)), (0, .ref q)] [.ref (f9 0), .int (2 : Int32), .ref q2] ([(q, .inr (4, [.int (0 : Int32), .int (5 : Int32), .ref q1, .ref q2, .ref q3])), (q1, kI ct 3 (fun _ => 0)), (q2, kQf (ct 3) 4 (va_up (va_up (fun _ => none) (0 : Int32).toNatClampNeg (some (f5 0))) (1 : Int32).toNatClampNeg (some (f7 0)))), (q3, kQf (ct 4) 2 (fun _ => none))] ++ LyP ct f5 ++ LyP ct f7 ++ LyP ct f9) 15 66 _
  refine k_astq (q0 := 2) (qk := 12) (t := 3) (ci := 2) dX4_init_56 rfl rfl rfl rfl (vp_in_nI (n := 2) (by decide) (by decide)) ?_
  show kOk kX4 D ct 57 [(1, .int (2 : Int32)), (0, .ref q)] [] ([(q, .inr (4, [.int (0 : Int32), .int (5 : Int32), .ref q1, .ref q2, .ref q3])), (q1, kI ct 3 (fun _ => 0)), (q2, kQf (ct 3) 4 (va_up (va_up (va_up (fun _ => none) (0 : Int32).toNatClampNeg (some (f5 0))) (1 : Int32).toNatClampNeg (some (f7 0))) (2 : Int32).toNatClampNeg (some (f9 0)))), (q3, kQf (ct 4) 2 (fun _ => none))] ++ LyP ct f5 ++ LyP ct f7 ++ LyP ct f9) 15 66 _
  refine k_iinc (j := 0) (v := (3 : Int32)) (ls2 := [(1, .int (3 : Int32)), (0, .ref q)]) dX4_init_57 rfl (by decide) (by decide) rfl ?_
  refine k_goto (tgt := 39) dX4_init_60 (by decide) ?_
  refine k_iload (j := 0) dX4_init_39 rfl rfl ?_
  refine k_iconst (v := (4 : Int32)) dX4_init_40 (by decide) ?_
  refine k_icmp_ge (tgt := 63) dX4_init_41 (by decide) ⟨fun z => absurd z (by decide), fun _ => ?_⟩
  refine k_aload (j := 1) dX4_init_44 rfl rfl ?_
  refine k_get (q0 := 0) (v := .ref q2) 3 dX4_init_45 rfl rfl inX4 (by decide) xw_85 rfl ?_
  refine k_iload (j := 0) dX4_init_48 rfl rfl ?_
  refine k_new (ci := 2) (fs := [.int 0, .int 0, .int 0, .int 0, .null, .null, .null]) tyX2 dX4_init_49 inX2 tyX2_ok xw_26 xw_30 xw_3 rfl (by decide) (Nat.le_of_ble_eq_true rfl) (Nat.le_of_ble_eq_true rfl) (fun q10 => ?_)
  refine k_dup dX4_init_52 rfl ?_
  refine k_callN (K' := kX2) dX4_init_53 (K2 D ct q10) (fun _ z => z.2.2.1) rfl xw_33 xw_3 xw_32 rfl ⟨by decide, by decide, by decide +kernel⟩ ⟨(Nat.le_of_ble_eq_true rfl), (Nat.le_of_ble_eq_true rfl)⟩ (Nat.le_of_ble_eq_true rfl) (Nat.le_of_ble_eq_true rfl) (Nat.le_of_ble_eq_true rfl) (fun w1 hw => ?_)
  obtain ⟨f11, rfl, rfl⟩ := hw
  show kOk kX4 D ct 56 [(1, .int (3 : Int32)), (0, .ref q)] [.ref (f11 0), .int (3 : Int32), .ref q2] ([(q, .inr (4, [.int (0 : Int32), .int (5 : Int32), .ref q1, .ref q2, .ref q3])), (q1, kI ct 3 (fun _ => 0)), (q2, kQf (ct 3) 4 (va_up (va_up (va_up (fun _ => none) (0 : Int32).toNatClampNeg (some (f5 0))) (1 : Int32).toNatClampNeg (some (f7 0))) (2 : Int32).toNatClampNeg (some (f9 0)))), (q3, kQf (ct 4) 2 (fun _ => none))] ++ LyP ct f5 ++ LyP ct f7 ++ LyP ct f9 ++ LyP ct f11) 19 85 _
  refine k_astq (q0 := 2) (qk := 16) (t := 3) (ci := 2) dX4_init_56 rfl rfl rfl rfl (vp_in_nI (n := 3) (by decide) (by decide)) ?_
  show kOk kX4 D ct 57 [(1, .int (3 : Int32)), (0, .ref q)] [] ([(q, .inr (4, [.int (0 : Int32), .int (5 : Int32), .ref q1, .ref q2, .ref q3])), (q1, kI ct 3 (fun _ => 0)), (q2, kQf (ct 3) 4 (va_up (va_up (va_up (va_up (fun _ => none) (0 : Int32).toNatClampNeg (some (f5 0))) (1 : Int32).toNatClampNeg (some (f7 0))) (2 : Int32).toNatClampNeg (some (f9 0))) (3 : Int32).toNatClampNeg (some (f11 0)))), (q3, kQf (ct 4) 2 (fun _ => none))] ++ LyP ct f5 ++ LyP ct f7 ++ LyP ct f9 ++ LyP ct f11) 19 85 _
  refine k_iinc (j := 0) (v := (4 : Int32)) (ls2 := [(1, .int (4 : Int32)), (0, .ref q)]) dX4_init_57 rfl (by decide) (by decide) rfl ?_
  refine k_goto (tgt := 39) dX4_init_60 (by decide) ?_
  refine k_iload (j := 0) dX4_init_39 rfl rfl ?_
  refine k_iconst (v := (4 : Int32)) dX4_init_40 (by decide) ?_
  refine k_icmp_ge (tgt := 63) dX4_init_41 (by decide) ⟨fun _ => ?_, fun z => absurd (by decide) z⟩
  refine k_iconst (v := (0 : Int32)) dX4_init_63 (by decide) ?_
  refine k_istore (ls2 := [(1, .int (0 : Int32)), (0, .ref q)]) dX4_init_64 rfl (by decide) rfl ?_
  refine k_iload (j := 0) dX4_init_65 rfl rfl ?_
  refine k_iconst (v := (2 : Int32)) dX4_init_66 (by decide) ?_
  refine k_icmp_ge (tgt := 89) dX4_init_67 (by decide) ⟨fun z => absurd z (by decide), fun _ => ?_⟩
  refine k_aload (j := 1) dX4_init_70 rfl rfl ?_
  refine k_get (q0 := 0) (v := .ref q3) 4 dX4_init_71 rfl rfl inX4 (by decide) xw_87 rfl ?_
  refine k_iload (j := 0) dX4_init_74 rfl rfl ?_
  refine k_new (ci := 0) (fs := [.null, .null]) tyX0 dX4_init_75 inX0 tyX0_ok xw_28 xw_65 xw_4 rfl (by decide) (Nat.le_of_ble_eq_true rfl) (Nat.le_of_ble_eq_true rfl) (fun q12 => ?_)
  refine k_dup dX4_init_78 rfl ?_
  refine k_callN (K' := kX0) dX4_init_79 (K0 D ct q12) (fun _ z => z.2.2.2.1) rfl xw_68 xw_4 xw_67 rfl ⟨by decide, by decide, by decide +kernel⟩ ⟨(Nat.le_of_ble_eq_true rfl), (Nat.le_of_ble_eq_true rfl)⟩ (Nat.le_of_ble_eq_true rfl) (Nat.le_of_ble_eq_true rfl) (Nat.le_of_ble_eq_true rfl) (fun w1 hw => ?_)
  obtain ⟨f13, rfl, rfl⟩ := hw
  show kOk kX4 D ct 82 [(1, .int (0 : Int32)), (0, .ref q)] [.ref (f13 0), .int (0 : Int32), .ref q3] ([(q, .inr (4, [.int (0 : Int32), .int (5 : Int32), .ref q1, .ref q2, .ref q3])), (q1, kI ct 3 (fun _ => 0)), (q2, kQf (ct 3) 4 (va_up (va_up (va_up (va_up (fun _ => none) (0 : Int32).toNatClampNeg (some (f5 0))) (1 : Int32).toNatClampNeg (some (f7 0))) (2 : Int32).toNatClampNeg (some (f9 0))) (3 : Int32).toNatClampNeg (some (f11 0)))), (q3, kQf (ct 4) 2 (fun _ => none))] ++ LyP ct f5 ++ LyP ct f7 ++ LyP ct f9 ++ LyP ct f11 ++ LyC ct f13) 22 93 _
  refine k_astq (q0 := 3) (qk := 20) (t := 4) (ci := 0) dX4_init_82 rfl rfl rfl rfl (vp_in_nI (n := 0) (by decide) (by decide)) ?_
  show kOk kX4 D ct 83 [(1, .int (0 : Int32)), (0, .ref q)] [] ([(q, .inr (4, [.int (0 : Int32), .int (5 : Int32), .ref q1, .ref q2, .ref q3])), (q1, kI ct 3 (fun _ => 0)), (q2, kQf (ct 3) 4 (va_up (va_up (va_up (va_up (fun _ => none) (0 : Int32).toNatClampNeg (some (f5 0))) (1 : Int32).toNatClampNeg (some (f7 0))) (2 : Int32).toNatClampNeg (some (f9 0))) (3 : Int32).toNatClampNeg (some (f11 0)))), (q3, kQf (ct 4) 2 (va_up (fun _ => none) (0 : Int32).toNatClampNeg (some (f13 0))))] ++ LyP ct f5 ++ LyP ct f7 ++ LyP ct f9 ++ LyP ct f11 ++ LyC ct f13) 22 93 _
  refine k_iinc (j := 0) (v := (1 : Int32)) (ls2 := [(1, .int (1 : Int32)), (0, .ref q)]) dX4_init_83 rfl (by decide) (by decide) rfl ?_
  refine k_goto (tgt := 65) dX4_init_86 (by decide) ?_
  refine k_iload (j := 0) dX4_init_65 rfl rfl ?_
  refine k_iconst (v := (2 : Int32)) dX4_init_66 (by decide) ?_
  refine k_icmp_ge (tgt := 89) dX4_init_67 (by decide) ⟨fun z => absurd z (by decide), fun _ => ?_⟩
  refine k_aload (j := 1) dX4_init_70 rfl rfl ?_
  refine k_get (q0 := 0) (v := .ref q3) 4 dX4_init_71 rfl rfl inX4 (by decide) xw_87 rfl ?_
  refine k_iload (j := 0) dX4_init_74 rfl rfl ?_
  refine k_new (ci := 0) (fs := [.null, .null]) tyX0 dX4_init_75 inX0 tyX0_ok xw_28 xw_65 xw_4 rfl (by decide) (Nat.le_of_ble_eq_true rfl) (Nat.le_of_ble_eq_true rfl) (fun q14 => ?_)
  refine k_dup dX4_init_78 rfl ?_
  refine k_callN (K' := kX0) dX4_init_79 (K0 D ct q14) (fun _ z => z.2.2.2.1) rfl xw_68 xw_4 xw_67 rfl ⟨by decide, by decide, by decide +kernel⟩ ⟨(Nat.le_of_ble_eq_true rfl), (Nat.le_of_ble_eq_true rfl)⟩ (Nat.le_of_ble_eq_true rfl) (Nat.le_of_ble_eq_true rfl) (Nat.le_of_ble_eq_true rfl) (fun w1 hw => ?_)
  obtain ⟨f15, rfl, rfl⟩ := hw
  show kOk kX4 D ct 82 [(1, .int (1 : Int32)), (0, .ref q)] [.ref (f15 0), .int (1 : Int32), .ref q3] ([(q, .inr (4, [.int (0 : Int32), .int (5 : Int32), .ref q1, .ref q2, .ref q3])), (q1, kI ct 3 (fun _ => 0)), (q2, kQf (ct 3) 4 (va_up (va_up (va_up (va_up (fun _ => none) (0 : Int32).toNatClampNeg (some (f5 0))) (1 : Int32).toNatClampNeg (some (f7 0))) (2 : Int32).toNatClampNeg (some (f9 0))) (3 : Int32).toNatClampNeg (some (f11 0)))), (q3, kQf (ct 4) 2 (va_up (fun _ => none) (0 : Int32).toNatClampNeg (some (f13 0))))] ++ LyP ct f5 ++ LyP ct f7 ++ LyP ct f9 ++ LyP ct f11 ++ LyC ct f13 ++ LyC ct f15) 25 101 _
  refine k_astq (q0 := 3) (qk := 23) (t := 4) (ci := 0) dX4_init_82 rfl rfl rfl rfl (vp_in_nI (n := 1) (by decide) (by decide)) ?_
  show kOk kX4 D ct 83 [(1, .int (1 : Int32)), (0, .ref q)] [] ([(q, .inr (4, [.int (0 : Int32), .int (5 : Int32), .ref q1, .ref q2, .ref q3])), (q1, kI ct 3 (fun _ => 0)), (q2, kQf (ct 3) 4 (va_up (va_up (va_up (va_up (fun _ => none) (0 : Int32).toNatClampNeg (some (f5 0))) (1 : Int32).toNatClampNeg (some (f7 0))) (2 : Int32).toNatClampNeg (some (f9 0))) (3 : Int32).toNatClampNeg (some (f11 0)))), (q3, kQf (ct 4) 2 (va_up (va_up (fun _ => none) (0 : Int32).toNatClampNeg (some (f13 0))) (1 : Int32).toNatClampNeg (some (f15 0))))] ++ LyP ct f5 ++ LyP ct f7 ++ LyP ct f9 ++ LyP ct f11 ++ LyC ct f13 ++ LyC ct f15) 25 101 _
  refine k_iinc (j := 0) (v := (2 : Int32)) (ls2 := [(1, .int (2 : Int32)), (0, .ref q)]) dX4_init_83 rfl (by decide) (by decide) rfl ?_
  refine k_goto (tgt := 65) dX4_init_86 (by decide) ?_
  refine k_iload (j := 0) dX4_init_65 rfl rfl ?_
  refine k_iconst (v := (2 : Int32)) dX4_init_66 (by decide) ?_
  refine k_icmp_ge (tgt := 89) dX4_init_67 (by decide) ⟨fun _ => ?_, fun z => absurd (by decide) z⟩
  refine k_conv (q0 := 2) (g := qr 4 (fun j => (fun i => ([q, q1, q2, q3, f5 0, f5 1, f5 2, f5 3, f7 0, f7 1, f7 2, f7 3, f9 0, f9 1, f9 2, f9 3, f11 0, f11 1, f11 2, f11 3, f13 0, f13 1, f13 2, f15 0, f15 1, f15 2] : List Nat).getD i 0) (4 + 4 * j))) rfl (fun j hj => by
    have hj : j = 0 ∨ j = 1 ∨ j = 2 ∨ j = 3 := by omega
    rcases hj with rfl | rfl | rfl | rfl <;> rfl) ?_
  refine k_conv (q0 := 3) (g := qr 2 (fun j => (fun i => ([q, q1, q2, q3, f5 0, f5 1, f5 2, f5 3, f7 0, f7 1, f7 2, f7 3, f9 0, f9 1, f9 2, f9 3, f11 0, f11 1, f11 2, f11 3, f13 0, f13 1, f13 2, f15 0, f15 1, f15 2] : List Nat).getD i 0) (20 + 3 * j))) rfl (fun j hj => by
    have hj : j = 0 ∨ j = 1 := by omega
    rcases hj with rfl | rfl <;> rfl) ?_
  exact k_ret dX4_init_89 (Nat.le_of_ble_eq_true rfl) (Nat.le_of_ble_eq_true rfl) ⟨(fun i => ([q, q1, q2, q3, f5 0, f5 1, f5 2, f5 3, f7 0, f7 1, f7 2, f7 3, f9 0, f9 1, f9 2, f9 3, f11 0, f11 1, f11 2, f11 3, f13 0, f13 1, f13 2, f15 0, f15 1, f15 2] : List Nat).getD i 0), rfl, rfl⟩
theorem K6l (D : va_G) (ct : Nat → ClassId) (f : Nat → Nat) (r : Row) (x y v : Int32) (hi : vp_in (2 + 16 * x + y) 945) : kMet kXl D ct [.ref (f 0), .int x, .int y, .int v] (LyM ct f r) (fun w1 => w1 = LyM ct f (upd r (2 + 16 * x + y).toNatClampNeg v)) := by
  refine kMet_of (by decide) rfl (Nat.le_of_ble_eq_true rfl) ?_
  show kOk kXl D ct 0 [(0, .ref (f 0)), (1, .int x), (2, .int y), (3, .int v)] [] (LyM ct f r) 0 0 _
  refine k_aload (j := 0) dX6_lays_0 rfl rfl ?_
  refine k_get (q0 := 0) (v := .ref (f 1)) 0 dX6_lays_1 rfl rfl inX6 (by decide) xw_530 rfl ?_
  refine k_iconst (v := (2 : Int32)) dX6_lays_4 (by decide) ?_
  refine k_bipush (v := (16 : Int32)) dX6_lays_5 (by decide) ?_
  refine k_iload (j := 1) dX6_lays_7 rfl rfl ?_
  refine k_imul dX6_lays_8 ?_
  refine k_iadd dX6_lays_9 ?_
  refine k_iload (j := 2) dX6_lays_10 rfl rfl ?_
  refine k_iadd dX6_lays_11 ?_
  refine k_iload (j := 3) dX6_lays_12 rfl rfl ?_
  refine k_iast (q0 := 1) dX6_lays_13 rfl hi ?_
  exact k_ret dX6_lays_14 (Nat.le_of_ble_eq_true rfl) (Nat.le_of_ble_eq_true rfl) rfl
theorem K6 (D : va_G) (ct : Nat → ClassId) (q : Nat) : kMet kX6 D ct [.ref q] [(q, .inr (6, [.null, .null, .int 0, .int 0, .null, .null, .int 0, .int 0, .int 0, .int 0, .null, .null, .int 0, .long 0]))] (fun w1 => ∃ f, f 0 = q ∧ w1 = LyM ct f kr0) := by
  refine kMet_of (by decide) rfl (Nat.le_of_ble_eq_true rfl) ?_
  show kOk kX6 D ct 0 [(0, .ref q)] [] [(q, .inr (6, [.null, .null, .int 0, .int 0, .null, .null, .int 0, .int 0, .int 0, .int 0, .null, .null, .int 0, .long 0]))] 0 0 _
  refine k_aload (j := 0) dX6_init_0 rfl rfl ?_
  refine k_obj dX6_init_1 xw_525 (by decide) (by decide) ?_
  refine k_aload (j := 0) dX6_init_4 rfl rfl ?_
  refine k_sipush (v := (945 : Int32)) dX6_init_5 (by decide) ?_
  refine k_newa (N := 945) dX6_init_8 (by decide) (by decide) (Nat.le_of_ble_eq_true rfl) (Nat.le_of_ble_eq_true rfl) (Nat.le_of_ble_eq_true rfl) (fun q1 => ?_)
  show kOk kX6 D ct 10 [(0, .ref q)] [.ref q1, .ref q] ([(q, .inr (6, [.null, .null, .int 0, .int 0, .null, .null, .int 0, .int 0, .int 0, .int 0, .null, .null, .int 0, .long 0])), (q1, kI ct 945 (fun _ => 0))]) 1 945 _
  refine k_putF (q0 := 0) 0 tyX6 tyX6_ok nmX6 dX6_init_10 rfl rfl inX6 (by decide) xw_530 rfl rfl rfl (tyX6_ok 0 (by decide)) rfl rfl (Nat.le_of_ble_eq_true rfl) ?_
  show kOk kX6 D ct 13 [(0, .ref q)] [] ([(q, .inr (6, [.ref q1, .null, .int 0, .int 0, .null, .null, .int 0, .int 0, .int 0, .int 0, .null, .null, .int 0, .long 0])), (q1, kI ct 945 (fun _ => 0))]) 1 945 _
  refine k_aload (j := 0) dX6_init_13 rfl rfl ?_
  refine k_sipush (v := (6615 : Int32)) dX6_init_14 (by decide) ?_
  refine k_newa (N := 6615) dX6_init_17 (by decide) (by decide) (Nat.le_of_ble_eq_true rfl) (Nat.le_of_ble_eq_true rfl) (Nat.le_of_ble_eq_true rfl) (fun q2 => ?_)
  show kOk kX6 D ct 19 [(0, .ref q)] [.ref q2, .ref q] ([(q, .inr (6, [.ref q1, .null, .int 0, .int 0, .null, .null, .int 0, .int 0, .int 0, .int 0, .null, .null, .int 0, .long 0])), (q1, kI ct 945 (fun _ => 0)), (q2, kI ct 6615 (fun _ => 0))]) 2 7560 _
  refine k_putF (q0 := 0) 1 tyX6 tyX6_ok nmX6 dX6_init_19 rfl rfl inX6 (by decide) xw_531 rfl rfl rfl (tyX6_ok 1 (by decide)) rfl rfl (Nat.le_of_ble_eq_true rfl) ?_
  show kOk kX6 D ct 22 [(0, .ref q)] [] ([(q, .inr (6, [.ref q1, .ref q2, .int 0, .int 0, .null, .null, .int 0, .int 0, .int 0, .int 0, .null, .null, .int 0, .long 0])), (q1, kI ct 945 (fun _ => 0)), (q2, kI ct 6615 (fun _ => 0))]) 2 7560 _
  refine k_aload (j := 0) dX6_init_22 rfl rfl ?_
  refine k_iconst (v := (5 : Int32)) dX6_init_23 (by decide) ?_
  refine k_newa (N := 5) dX6_init_24 (by decide) (by decide) (Nat.le_of_ble_eq_true rfl) (Nat.le_of_ble_eq_true rfl) (Nat.le_of_ble_eq_true rfl) (fun q3 => ?_)
  show kOk kX6 D ct 26 [(0, .ref q)] [.ref q3, .ref q] ([(q, .inr (6, [.ref q1, .ref q2, .int 0, .int 0, .null, .null, .int 0, .int 0, .int 0, .int 0, .null, .null, .int 0, .long 0])), (q1, kI ct 945 (fun _ => 0)), (q2, kI ct 6615 (fun _ => 0)), (q3, kI ct 5 (fun _ => 0))]) 3 7565 _
  refine k_putF (q0 := 0) 4 tyX6 tyX6_ok nmX6 dX6_init_26 rfl rfl inX6 (by decide) xw_534 rfl rfl rfl (tyX6_ok 4 (by decide)) rfl rfl (Nat.le_of_ble_eq_true rfl) ?_
  show kOk kX6 D ct 29 [(0, .ref q)] [] ([(q, .inr (6, [.ref q1, .ref q2, .int 0, .int 0, .ref q3, .null, .int 0, .int 0, .int 0, .int 0, .null, .null, .int 0, .long 0])), (q1, kI ct 945 (fun _ => 0)), (q2, kI ct 6615 (fun _ => 0)), (q3, kI ct 5 (fun _ => 0))]) 3 7565 _
  refine k_aload (j := 0) dX6_init_29 rfl rfl ?_
  refine k_bipush (v := (120 : Int32)) dX6_init_30 (by decide) ?_
  refine k_newa (N := 120) dX6_init_32 (by decide) (by decide) (Nat.le_of_ble_eq_true rfl) (Nat.le_of_ble_eq_true rfl) (Nat.le_of_ble_eq_true rfl) (fun q4 => ?_)
  show kOk kX6 D ct 34 [(0, .ref q)] [.ref q4, .ref q] ([(q, .inr (6, [.ref q1, .ref q2, .int 0, .int 0, .ref q3, .null, .int 0, .int 0, .int 0, .int 0, .null, .null, .int 0, .long 0])), (q1, kI ct 945 (fun _ => 0)), (q2, kI ct 6615 (fun _ => 0)), (q3, kI ct 5 (fun _ => 0)), (q4, kI ct 120 (fun _ => 0))]) 4 7685 _
  refine k_putF (q0 := 0) 5 tyX6 tyX6_ok nmX6 dX6_init_34 rfl rfl inX6 (by decide) xw_535 rfl rfl rfl (tyX6_ok 5 (by decide)) rfl rfl (Nat.le_of_ble_eq_true rfl) ?_
  show kOk kX6 D ct 37 [(0, .ref q)] [] ([(q, .inr (6, [.ref q1, .ref q2, .int 0, .int 0, .ref q3, .ref q4, .int 0, .int 0, .int 0, .int 0, .null, .null, .int 0, .long 0])), (q1, kI ct 945 (fun _ => 0)), (q2, kI ct 6615 (fun _ => 0)), (q3, kI ct 5 (fun _ => 0)), (q4, kI ct 120 (fun _ => 0))]) 4 7685 _
  refine k_aload (j := 0) dX6_init_37 rfl rfl ?_
  refine k_bipush (v := (40 : Int32)) dX6_init_38 (by decide) ?_
  refine k_newa (N := 40) dX6_init_40 (by decide) (by decide) (Nat.le_of_ble_eq_true rfl) (Nat.le_of_ble_eq_true rfl) (Nat.le_of_ble_eq_true rfl) (fun q5 => ?_)
  show kOk kX6 D ct 42 [(0, .ref q)] [.ref q5, .ref q] ([(q, .inr (6, [.ref q1, .ref q2, .int 0, .int 0, .ref q3, .ref q4, .int 0, .int 0, .int 0, .int 0, .null, .null, .int 0, .long 0])), (q1, kI ct 945 (fun _ => 0)), (q2, kI ct 6615 (fun _ => 0)), (q3, kI ct 5 (fun _ => 0)), (q4, kI ct 120 (fun _ => 0)), (q5, kI ct 40 (fun _ => 0))]) 5 7725 _
  refine k_putF (q0 := 0) 10 tyX6 tyX6_ok nmX6 dX6_init_42 rfl rfl inX6 (by decide) xw_540 rfl rfl rfl (tyX6_ok 10 (by decide)) rfl rfl (Nat.le_of_ble_eq_true rfl) ?_
  show kOk kX6 D ct 45 [(0, .ref q)] [] ([(q, .inr (6, [.ref q1, .ref q2, .int 0, .int 0, .ref q3, .ref q4, .int 0, .int 0, .int 0, .int 0, .ref q5, .null, .int 0, .long 0])), (q1, kI ct 945 (fun _ => 0)), (q2, kI ct 6615 (fun _ => 0)), (q3, kI ct 5 (fun _ => 0)), (q4, kI ct 120 (fun _ => 0)), (q5, kI ct 40 (fun _ => 0))]) 5 7725 _
  refine k_aload (j := 0) dX6_init_45 rfl rfl ?_
  refine k_sipush (v := (200 : Int32)) dX6_init_46 (by decide) ?_
  refine k_newa (N := 200) dX6_init_49 (by decide) (by decide) (Nat.le_of_ble_eq_true rfl) (Nat.le_of_ble_eq_true rfl) (Nat.le_of_ble_eq_true rfl) (fun q6 => ?_)
  show kOk kX6 D ct 51 [(0, .ref q)] [.ref q6, .ref q] ([(q, .inr (6, [.ref q1, .ref q2, .int 0, .int 0, .ref q3, .ref q4, .int 0, .int 0, .int 0, .int 0, .ref q5, .null, .int 0, .long 0])), (q1, kI ct 945 (fun _ => 0)), (q2, kI ct 6615 (fun _ => 0)), (q3, kI ct 5 (fun _ => 0)), (q4, kI ct 120 (fun _ => 0)), (q5, kI ct 40 (fun _ => 0)), (q6, kI ct 200 (fun _ => 0))]) 6 7925 _
  refine k_putF (q0 := 0) 11 tyX6 tyX6_ok nmX6 dX6_init_51 rfl rfl inX6 (by decide) xw_541 rfl rfl rfl (tyX6_ok 11 (by decide)) rfl rfl (Nat.le_of_ble_eq_true rfl) ?_
  show kOk kX6 D ct 54 [(0, .ref q)] [] ([(q, .inr (6, [.ref q1, .ref q2, .int 0, .int 0, .ref q3, .ref q4, .int 0, .int 0, .int 0, .int 0, .ref q5, .ref q6, .int 0, .long 0])), (q1, kI ct 945 (fun _ => 0)), (q2, kI ct 6615 (fun _ => 0)), (q3, kI ct 5 (fun _ => 0)), (q4, kI ct 120 (fun _ => 0)), (q5, kI ct 40 (fun _ => 0)), (q6, kI ct 200 (fun _ => 0))]) 6 7925 _
  refine k_aload (j := 0) dX6_init_54 rfl rfl ?_
  refine k_get (q0 := 0) (v := .ref q1) 0 dX6_init_55 rfl rfl inX6 (by decide) xw_530 rfl ?_
  refine k_iconst (v := (1 : Int32)) dX6_init_58 (by decide) ?_
  refine k_iconst (v := (5 : Int32)) dX6_init_59 (by decide) ?_
  refine k_iast (q0 := 1) dX6_init_60 rfl (vp_in_nI (n := 1) (by decide) (by decide)) ?_
  show kOk kX6 D ct 61 [(0, .ref q)] [] ([(q, .inr (6, [.ref q1, .ref q2, .int 0, .int 0, .ref q3, .ref q4, .int 0, .int 0, .int 0, .int 0, .ref q5, .ref q6, .int 0, .long 0])), (q1, kI ct 945 (upd (fun _ => 0) (1 : Int32).toNatClampNeg (5 : Int32))), (q2, kI ct 6615 (fun _ => 0)), (q3, kI ct 5 (fun _ => 0)), (q4, kI ct 120 (fun _ => 0)), (q5, kI ct 40 (fun _ => 0)), (q6, kI ct 200 (fun _ => 0))]) 6 7925 _
  refine k_iconst (v := (0 : Int32)) dX6_init_61 (by decide) ?_
  refine k_istore (ls2 := [(1, .int (0 : Int32)), (0, .ref q)]) dX6_init_62 rfl (by decide) rfl ?_
  refine k_iload (j := 0) dX6_init_63 rfl rfl ?_
  refine k_iconst (v := (4 : Int32)) dX6_init_64 (by decide) ?_
  refine k_icmp_ge (tgt := 81) dX6_init_65 (by decide) ⟨fun z => absurd z (by decide), fun _ => ?_⟩
  refine k_aload (j := 1) dX6_init_68 rfl rfl ?_
  refine k_iload (j := 0) dX6_init_69 rfl rfl ?_
  refine k_iconst (v := (0 : Int32)) dX6_init_70 (by decide) ?_
  refine k_iconst (v := (-1 : Int32)) dX6_init_71 (by decide) ?_
  refine k_callV (K' := kXl) (q0 := 0) (ci := 6) [.int (0 : Int32), .int (0 : Int32), .int (-1)] dX6_init_72 (K6l D ct (fun i => ([q, q1, q2, q3, q4, q5, q6] : List Nat).getD i 0) (upd (fun _ => 0) (1 : Int32).toNatClampNeg (5 : Int32)) (0 : Int32) (0 : Int32) (-1) (vp_in_nI (n := 2) (by decide) (by decide))) rfl rfl xw_526 fV_X6_lays fS_X6_lays rfl ⟨(Nat.le_of_ble_eq_true rfl), (Nat.le_of_ble_eq_true rfl)⟩ (Nat.le_of_ble_eq_true rfl) (Nat.le_of_ble_eq_true rfl) (Nat.le_of_ble_eq_true rfl) (fun w1 hw => ?_)
  subst hw
  show kOk kX6 D ct 75 [(1, .int (0 : Int32)), (0, .ref q)] [] ([(q, .inr (6, [.ref q1, .ref q2, .int 0, .int 0, .ref q3, .ref q4, .int 0, .int 0, .int 0, .int 0, .ref q5, .ref q6, .int 0, .long 0])), (q1, kI ct 945 (upd (upd (fun _ => 0) (1 : Int32).toNatClampNeg (5 : Int32)) ((2 : Int32) + 16 * (0 : Int32) + (0 : Int32)).toNatClampNeg (-1))), (q2, kI ct 6615 (fun _ => 0)), (q3, kI ct 5 (fun _ => 0)), (q4, kI ct 120 (fun _ => 0)), (q5, kI ct 40 (fun _ => 0)), (q6, kI ct 200 (fun _ => 0))]) 6 7925 _
  refine k_iinc (j := 0) (v := (1 : Int32)) (ls2 := [(1, .int (1 : Int32)), (0, .ref q)]) dX6_init_75 rfl (by decide) (by decide) rfl ?_
  refine k_goto (tgt := 63) dX6_init_78 (by decide) ?_
  refine k_iload (j := 0) dX6_init_63 rfl rfl ?_
  refine k_iconst (v := (4 : Int32)) dX6_init_64 (by decide) ?_
  refine k_icmp_ge (tgt := 81) dX6_init_65 (by decide) ⟨fun z => absurd z (by decide), fun _ => ?_⟩
  refine k_aload (j := 1) dX6_init_68 rfl rfl ?_
  refine k_iload (j := 0) dX6_init_69 rfl rfl ?_
  refine k_iconst (v := (0 : Int32)) dX6_init_70 (by decide) ?_
  refine k_iconst (v := (-1 : Int32)) dX6_init_71 (by decide) ?_
  refine k_callV (K' := kXl) (q0 := 0) (ci := 6) [.int (1 : Int32), .int (0 : Int32), .int (-1)] dX6_init_72 (K6l D ct (fun i => ([q, q1, q2, q3, q4, q5, q6] : List Nat).getD i 0) (upd (upd (fun _ => 0) (1 : Int32).toNatClampNeg (5 : Int32)) ((2 : Int32) + 16 * (0 : Int32) + (0 : Int32)).toNatClampNeg (-1)) (1 : Int32) (0 : Int32) (-1) (vp_in_nI (n := 18) (by decide) (by decide))) rfl rfl xw_526 fV_X6_lays fS_X6_lays rfl ⟨(Nat.le_of_ble_eq_true rfl), (Nat.le_of_ble_eq_true rfl)⟩ (Nat.le_of_ble_eq_true rfl) (Nat.le_of_ble_eq_true rfl) (Nat.le_of_ble_eq_true rfl) (fun w1 hw => ?_)
  subst hw
  show kOk kX6 D ct 75 [(1, .int (1 : Int32)), (0, .ref q)] [] ([(q, .inr (6, [.ref q1, .ref q2, .int 0, .int 0, .ref q3, .ref q4, .int 0, .int 0, .int 0, .int 0, .ref q5, .ref q6, .int 0, .long 0])), (q1, kI ct 945 (upd (upd (upd (fun _ => 0) (1 : Int32).toNatClampNeg (5 : Int32)) ((2 : Int32) + 16 * (0 : Int32) + (0 : Int32)).toNatClampNeg (-1)) ((2 : Int32) + 16 * (1 : Int32) + (0 : Int32)).toNatClampNeg (-1))), (q2, kI ct 6615 (fun _ => 0)), (q3, kI ct 5 (fun _ => 0)), (q4, kI ct 120 (fun _ => 0)), (q5, kI ct 40 (fun _ => 0)), (q6, kI ct 200 (fun _ => 0))]) 6 7925 _
  refine k_iinc (j := 0) (v := (2 : Int32)) (ls2 := [(1, .int (2 : Int32)), (0, .ref q)]) dX6_init_75 rfl (by decide) (by decide) rfl ?_
  refine k_goto (tgt := 63) dX6_init_78 (by decide) ?_
  refine k_iload (j := 0) dX6_init_63 rfl rfl ?_
  refine k_iconst (v := (4 : Int32)) dX6_init_64 (by decide) ?_
  refine k_icmp_ge (tgt := 81) dX6_init_65 (by decide) ⟨fun z => absurd z (by decide), fun _ => ?_⟩
  refine k_aload (j := 1) dX6_init_68 rfl rfl ?_
  refine k_iload (j := 0) dX6_init_69 rfl rfl ?_
  refine k_iconst (v := (0 : Int32)) dX6_init_70 (by decide) ?_
  refine k_iconst (v := (-1 : Int32)) dX6_init_71 (by decide) ?_
  refine k_callV (K' := kXl) (q0 := 0) (ci := 6) [.int (2 : Int32), .int (0 : Int32), .int (-1)] dX6_init_72 (K6l D ct (fun i => ([q, q1, q2, q3, q4, q5, q6] : List Nat).getD i 0) (upd (upd (upd (fun _ => 0) (1 : Int32).toNatClampNeg (5 : Int32)) ((2 : Int32) + 16 * (0 : Int32) + (0 : Int32)).toNatClampNeg (-1)) ((2 : Int32) + 16 * (1 : Int32) + (0 : Int32)).toNatClampNeg (-1)) (2 : Int32) (0 : Int32) (-1) (vp_in_nI (n := 34) (by decide) (by decide))) rfl rfl xw_526 fV_X6_lays fS_X6_lays rfl ⟨(Nat.le_of_ble_eq_true rfl), (Nat.le_of_ble_eq_true rfl)⟩ (Nat.le_of_ble_eq_true rfl) (Nat.le_of_ble_eq_true rfl) (Nat.le_of_ble_eq_true rfl) (fun w1 hw => ?_)
  subst hw
  show kOk kX6 D ct 75 [(1, .int (2 : Int32)), (0, .ref q)] [] ([(q, .inr (6, [.ref q1, .ref q2, .int 0, .int 0, .ref q3, .ref q4, .int 0, .int 0, .int 0, .int 0, .ref q5, .ref q6, .int 0, .long 0])), (q1, kI ct 945 (upd (upd (upd (upd (fun _ => 0) (1 : Int32).toNatClampNeg (5 : Int32)) ((2 : Int32) + 16 * (0 : Int32) + (0 : Int32)).toNatClampNeg (-1)) ((2 : Int32) + 16 * (1 : Int32) + (0 : Int32)).toNatClampNeg (-1)) ((2 : Int32) + 16 * (2 : Int32) + (0 : Int32)).toNatClampNeg (-1))), (q2, kI ct 6615 (fun _ => 0)), (q3, kI ct 5 (fun _ => 0)), (q4, kI ct 120 (fun _ => 0)), (q5, kI ct 40 (fun _ => 0)), (q6, kI ct 200 (fun _ => 0))]) 6 7925 _
  refine k_iinc (j := 0) (v := (3 : Int32)) (ls2 := [(1, .int (3 : Int32)), (0, .ref q)]) dX6_init_75 rfl (by decide) (by decide) rfl ?_
  refine k_goto (tgt := 63) dX6_init_78 (by decide) ?_
  refine k_iload (j := 0) dX6_init_63 rfl rfl ?_
  refine k_iconst (v := (4 : Int32)) dX6_init_64 (by decide) ?_
  refine k_icmp_ge (tgt := 81) dX6_init_65 (by decide) ⟨fun z => absurd z (by decide), fun _ => ?_⟩
  refine k_aload (j := 1) dX6_init_68 rfl rfl ?_
  refine k_iload (j := 0) dX6_init_69 rfl rfl ?_
  refine k_iconst (v := (0 : Int32)) dX6_init_70 (by decide) ?_
  refine k_iconst (v := (-1 : Int32)) dX6_init_71 (by decide) ?_
  refine k_callV (K' := kXl) (q0 := 0) (ci := 6) [.int (3 : Int32), .int (0 : Int32), .int (-1)] dX6_init_72 (K6l D ct (fun i => ([q, q1, q2, q3, q4, q5, q6] : List Nat).getD i 0) (upd (upd (upd (upd (fun _ => 0) (1 : Int32).toNatClampNeg (5 : Int32)) ((2 : Int32) + 16 * (0 : Int32) + (0 : Int32)).toNatClampNeg (-1)) ((2 : Int32) + 16 * (1 : Int32) + (0 : Int32)).toNatClampNeg (-1)) ((2 : Int32) + 16 * (2 : Int32) + (0 : Int32)).toNatClampNeg (-1)) (3 : Int32) (0 : Int32) (-1) (vp_in_nI (n := 50) (by decide) (by decide))) rfl rfl xw_526 fV_X6_lays fS_X6_lays rfl ⟨(Nat.le_of_ble_eq_true rfl), (Nat.le_of_ble_eq_true rfl)⟩ (Nat.le_of_ble_eq_true rfl) (Nat.le_of_ble_eq_true rfl) (Nat.le_of_ble_eq_true rfl) (fun w1 hw => ?_)
  subst hw
  show kOk kX6 D ct 75 [(1, .int (3 : Int32)), (0, .ref q)] [] ([(q, .inr (6, [.ref q1, .ref q2, .int 0, .int 0, .ref q3, .ref q4, .int 0, .int 0, .int 0, .int 0, .ref q5, .ref q6, .int 0, .long 0])), (q1, kI ct 945 (upd (upd (upd (upd (upd (fun _ => 0) (1 : Int32).toNatClampNeg (5 : Int32)) ((2 : Int32) + 16 * (0 : Int32) + (0 : Int32)).toNatClampNeg (-1)) ((2 : Int32) + 16 * (1 : Int32) + (0 : Int32)).toNatClampNeg (-1)) ((2 : Int32) + 16 * (2 : Int32) + (0 : Int32)).toNatClampNeg (-1)) ((2 : Int32) + 16 * (3 : Int32) + (0 : Int32)).toNatClampNeg (-1))), (q2, kI ct 6615 (fun _ => 0)), (q3, kI ct 5 (fun _ => 0)), (q4, kI ct 120 (fun _ => 0)), (q5, kI ct 40 (fun _ => 0)), (q6, kI ct 200 (fun _ => 0))]) 6 7925 _
  refine k_iinc (j := 0) (v := (4 : Int32)) (ls2 := [(1, .int (4 : Int32)), (0, .ref q)]) dX6_init_75 rfl (by decide) (by decide) rfl ?_
  refine k_goto (tgt := 63) dX6_init_78 (by decide) ?_
  refine k_iload (j := 0) dX6_init_63 rfl rfl ?_
  refine k_iconst (v := (4 : Int32)) dX6_init_64 (by decide) ?_
  refine k_icmp_ge (tgt := 81) dX6_init_65 (by decide) ⟨fun _ => ?_, fun z => absurd (by decide) z⟩
  exact k_ret dX6_init_81 (Nat.le_of_ble_eq_true rfl) (Nat.le_of_ble_eq_true rfl) ⟨(fun i => ([q, q1, q2, q3, q4, q5, q6] : List Nat).getD i 0), rfl, rfl⟩
