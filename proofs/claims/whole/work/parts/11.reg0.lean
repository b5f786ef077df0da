set_option maxRecDepth 100000 in
set_option maxHeartbeats 4000000 in
theorem eX4_copy {a b : xA} {h0 : Int64} {Q : xM → Prop} {sx0 : Nat} {sx1 : Nat} (hsx0 : sx0 < 7) (hsx1 : sx1 < 7) (h : xOk mX4_copy 32 [(0, vR 4 sx0 0), (1, vR 4 sx1 0), (2, vI (0 : Int32))] [] ((xCp (xUp (xUp a 4 sx0 0 0 (a 4 sx1 0 0)) 4 sx0 0 1 ((xUp a 4 sx0 0 0 (a 4 sx1 0 0)) 4 sx1 0 1)) 16 sx1 0 16 sx0 0 3), (b, h0)) (qV Q)) : CV mX4_copy [vR 4 sx0 0, vR 4 sx1 0] (a, (b, h0)) Q := by
  refine xCalls_of (by decide) (Nat.le_of_ble_eq_true rfl) ?_
  show xOk mX4_copy 0 [(0, vR 4 sx0 0), (1, vR 4 sx1 0)] [] (a, (b, h0)) (qV Q)
  refine ok_aload_n (j := 0) dX4_copy_0 rfl rfl ?_
  refine ok_aload_n (j := 1) dX4_copy_1 rfl rfl ?_
  refine gf_4_0 dX4_copy_2 (v4 hsx1) xw_79 ?_
  refine pf_4_0 dX4_copy_5 (v4 hsx0) xw_79 ?_
  refine ok_aload_n (j := 0) dX4_copy_8 rfl rfl ?_
  refine ok_aload_n (j := 1) dX4_copy_9 rfl rfl ?_
  refine gf_4_1 dX4_copy_10 (v4 hsx1) xw_81 ?_
  refine pf_4_1 dX4_copy_13 (v4 hsx0) xw_81 ?_
  refine ok_aload_n (j := 1) dX4_copy_16 rfl rfl ?_
  refine gf_4_2 dX4_copy_17 (v4 hsx1) xw_83 ?_
  refine ok_iconst (v := (0 : Int32)) dX4_copy_20 (by decide) ?_
  refine ok_aload_n (j := 0) dX4_copy_21 rfl rfl ?_
  refine gf_4_2 dX4_copy_22 (v4 hsx0) xw_83 ?_
  refine ok_iconst (v := (0 : Int32)) dX4_copy_25 (by decide) ?_
  refine ok_iconst (v := (3 : Int32)) dX4_copy_26 (by decide) ?_
  refine ok_copy (nn := 3) dX4_copy_27 xw_220 (v16 hsx1) (v16 hsx0) (fun _ => rfl) (fun _ _ => rfl) (by decide) (by decide) ⟨Nat.le_of_ble_eq_true rfl, Nat.le_of_ble_eq_true rfl⟩ ?_
  refine ok_iconst (v := (0 : Int32)) dX4_copy_30 (by decide) ?_
  refine ok_istore_n (ls2 := [(2, vI (0 : Int32)), (0, vR 4 sx0 0), (1, vR 4 sx1 0)]) dX4_copy_31 rfl (by decide) rfl ?_
  exact ok_sub [(0, vR 4 sx0 0), (1, vR 4 sx1 0), (2, vI (0 : Int32))] [1, 2, 0] rfl h
set_option maxRecDepth 100000 in
set_option maxHeartbeats 4000000 in
theorem rX4_copy_32 {a b : xA} {h0 : Int64} {Q : xM → Prop} {sx0 : Nat} {sx1 : Nat} {x2 : Int32} (hsx0 : sx0 < 7) (hsx1 : sx1 < 7) (h : (((4 : Int32) ≤ x2 → xOk mX4_copy 60 [(0, vR 4 sx0 0), (1, vR 4 sx1 0), (2, vI (0 : Int32))] [] (a, (b, h0)) (qV Q)) ∧ (¬ (4 : Int32) ≤ x2 → (vp_in x2 4 ∧ (vp_in x2 4 ∧ (CV mX2_copy [vR 2 sx0 (Int32.toNatClampNeg x2), vR 2 sx1 (Int32.toNatClampNeg x2)] (a, (b, h0)) (fun μ3 => xOk mX4_copy 32 [(0, vR 4 sx0 0), (1, vR 4 sx1 0), (2, vI (x2 + 1))] [] μ3 (qV Q)))))))) : xOk mX4_copy 32 [(0, vR 4 sx0 0), (1, vR 4 sx1 0), (2, vI x2)] [] (a, (b, h0)) (qV Q) := by
  refine ok_iload_n (j := 2) dX4_copy_32 rfl rfl ?_
  refine ok_iconst (v := (4 : Int32)) dX4_copy_33 (by decide) ?_
  refine ok_icmp_ge (tgt := 58) dX4_copy_34 (by decide) ⟨fun z => ?_, fun z => ?_⟩
  · have h := h.1 z
    refine ok_iconst (v := (0 : Int32)) dX4_copy_58 (by decide) ?_
    refine ok_istore_n (ls2 := [(2, vI (0 : Int32)), (0, vR 4 sx0 0), (1, vR 4 sx1 0)]) dX4_copy_59 rfl (by decide) rfl ?_
    exact ok_sub [(0, vR 4 sx0 0), (1, vR 4 sx1 0), (2, vI (0 : Int32))] [1, 2, 0] rfl h
  · have h := h.2 z
    refine ok_aload_n (j := 0) dX4_copy_37 rfl rfl ?_
    refine gf_4_3 dX4_copy_38 (v4 hsx0) xw_85 ?_
    refine ok_iload_n (j := 2) dX4_copy_41 rfl rfl ?_
    obtain ⟨hb1, h⟩ := h
    refine aa_42 dX4_copy_42 (v42 hsx0) hb1 ?_
    refine ok_aload_n (j := 1) dX4_copy_43 rfl rfl ?_
    refine gf_4_3 dX4_copy_44 (v4 hsx1) xw_85 ?_
    refine ok_iload_n (j := 2) dX4_copy_47 rfl rfl ?_
    obtain ⟨hb2, h⟩ := h
    refine aa_42 dX4_copy_48 (v42 hsx1) hb2 ?_
    refine ok_callV (M' := mX2_copy) [vR 2 sx1 (Int32.toNatClampNeg x2)] dX4_copy_49 xw_223 fV_X2_copy fS_X2_copy rfl (by decide) (v2 hsx0 (vp_lt hb1)) (ob_2 _ _ _) rfl (Nat.le_of_ble_eq_true rfl) (CV.to (CV.mono h ?_))
    intro μ3 h
    refine ok_iinc (j := 2) (v := (x2 + 1)) (ls2 := [(2, vI (x2 + 1)), (0, vR 4 sx0 0), (1, vR 4 sx1 0)]) dX4_copy_52 rfl rfl (by decide) rfl ?_
    refine ok_goto (tgt := 32) dX4_copy_55 (by decide) ?_
    exact ok_sub [(0, vR 4 sx0 0), (1, vR 4 sx1 0), (2, vI (x2 + 1))] [1, 2, 0] rfl h
set_option maxRecDepth 100000 in
set_option maxHeartbeats 4000000 in
theorem rX4_copy_60 {a b : xA} {h0 : Int64} {Q : xM → Prop} {sx0 : Nat} {sx1 : Nat} {x2 : Int32} (hsx0 : sx0 < 7) (hsx1 : sx1 < 7) (h : (((2 : Int32) ≤ x2 → Q (a, (b, h0))) ∧ (¬ (2 : Int32) ≤ x2 → (vp_in x2 2 ∧ (vp_in x2 2 ∧ (CV mX0_copy [vR 0 sx0 (Int32.toNatClampNeg x2), vR 0 sx1 (Int32.toNatClampNeg x2)] (a, (b, h0)) (fun μ3 => xOk mX4_copy 60 [(0, vR 4 sx0 0), (1, vR 4 sx1 0), (2, vI (x2 + 1))] [] μ3 (qV Q)))))))) : xOk mX4_copy 60 [(0, vR 4 sx0 0), (1, vR 4 sx1 0), (2, vI x2)] [] (a, (b, h0)) (qV Q) := by
  refine ok_iload_n (j := 2) dX4_copy_60 rfl rfl ?_
  refine ok_iconst (v := (2 : Int32)) dX4_copy_61 (by decide) ?_
  refine ok_icmp_ge (tgt := 86) dX4_copy_62 (by decide) ⟨fun z => ?_, fun z => ?_⟩
  · have h := h.1 z
    exact ok_vret rfl dX4_copy_86 ⟨rfl, h⟩
  · have h := h.2 z
    refine ok_aload_n (j := 0) dX4_copy_65 rfl rfl ?_
    refine gf_4_4 dX4_copy_66 (v4 hsx0) xw_87 ?_
    refine ok_iload_n (j := 2) dX4_copy_69 rfl rfl ?_
    obtain ⟨hb1, h⟩ := h
    refine aa_43 dX4_copy_70 (v43 hsx0) hb1 ?_
    refine ok_aload_n (j := 1) dX4_copy_71 rfl rfl ?_
    refine gf_4_4 dX4_copy_72 (v4 hsx1) xw_87 ?_
    refine ok_iload_n (j := 2) dX4_copy_75 rfl rfl ?_
    obtain ⟨hb2, h⟩ := h
    refine aa_43 dX4_copy_76 (v43 hsx1) hb2 ?_
    refine ok_callV (M' := mX0_copy) [vR 0 sx1 (Int32.toNatClampNeg x2)] dX4_copy_77 xw_228 fV_X0_copy fS_X0_copy rfl (by decide) (v0 hsx0 (vp_lt hb1)) (ob_0 _ _ _) rfl (Nat.le_of_ble_eq_true rfl) (CV.to (CV.mono h ?_))
    intro μ3 h
    refine ok_iinc (j := 2) (v := (x2 + 1)) (ls2 := [(2, vI (x2 + 1)), (0, vR 4 sx0 0), (1, vR 4 sx1 0)]) dX4_copy_80 rfl rfl (by decide) rfl ?_
    refine ok_goto (tgt := 60) dX4_copy_83 (by decide) ?_
    exact ok_sub [(0, vR 4 sx0 0), (1, vR 4 sx1 0), (2, vI (x2 + 1))] [1, 2, 0] rfl h
set_option maxRecDepth 100000 in
set_option maxHeartbeats 4000000 in
theorem eX2_copy {a b : xA} {h0 : Int64} {Q : xM → Prop} {sx0 wx0 : Nat} {sx1 wx1 : Nat} (hsx0 : sx0 < 7) (hwx0 : wx0 < 4) (hsx1 : sx1 < 7) (hwx1 : wx1 < 4) (h : Q ((xCp (xCp (xCp (xUp (xUp (xUp (xUp a 2 sx0 wx0 0 (a 2 sx1 wx1 0)) 2 sx0 wx0 1 ((xUp a 2 sx0 wx0 0 (a 2 sx1 wx1 0)) 2 sx1 wx1 1)) 2 sx0 wx0 2 ((xUp (xUp a 2 sx0 wx0 0 (a 2 sx1 wx1 0)) 2 sx0 wx0 1 ((xUp a 2 sx0 wx0 0 (a 2 sx1 wx1 0)) 2 sx1 wx1 1)) 2 sx1 wx1 2)) 2 sx0 wx0 3 ((xUp (xUp (xUp a 2 sx0 wx0 0 (a 2 sx1 wx1 0)) 2 sx0 wx0 1 ((xUp a 2 sx0 wx0 0 (a 2 sx1 wx1 0)) 2 sx1 wx1 1)) 2 sx0 wx0 2 ((xUp (xUp a 2 sx0 wx0 0 (a 2 sx1 wx1 0)) 2 sx0 wx0 1 ((xUp a 2 sx0 wx0 0 (a 2 sx1 wx1 0)) 2 sx1 wx1 1)) 2 sx1 wx1 2)) 2 sx1 wx1 3)) 17 sx1 wx1 17 sx0 wx0 3) 18 sx1 wx1 18 sx0 wx0 3) 19 sx1 wx1 19 sx0 wx0 6), (b, h0))) : CV mX2_copy [vR 2 sx0 wx0, vR 2 sx1 wx1] (a, (b, h0)) Q := by
  refine xCalls_of (by decide) (Nat.le_of_ble_eq_true rfl) ?_
  show xOk mX2_copy 0 [(0, vR 2 sx0 wx0), (1, vR 2 sx1 wx1)] [] (a, (b, h0)) (qV Q)
  refine ok_aload_n (j := 0) dX2_copy_0 rfl rfl ?_
  refine ok_aload_n (j := 1) dX2_copy_1 rfl rfl ?_
  refine gf_2_0 dX2_copy_2 (v2 hsx1 hwx1) xw_35 ?_
  refine pf_2_0 dX2_copy_5 (v2 hsx0 hwx0) xw_35 ?_
  refine ok_aload_n (j := 0) dX2_copy_8 rfl rfl ?_
  refine ok_aload_n (j := 1) dX2_copy_9 rfl rfl ?_
  refine gf_2_1 dX2_copy_10 (v2 hsx1 hwx1) xw_37 ?_
  refine pf_2_1 dX2_copy_13 (v2 hsx0 hwx0) xw_37 ?_
  refine ok_aload_n (j := 0) dX2_copy_16 rfl rfl ?_
  refine ok_aload_n (j := 1) dX2_copy_17 rfl rfl ?_
  refine gf_2_2 dX2_copy_18 (v2 hsx1 hwx1) xw_39 ?_
  refine pf_2_2 dX2_copy_21 (v2 hsx0 hwx0) xw_39 ?_
  refine ok_aload_n (j := 0) dX2_copy_24 rfl rfl ?_
  refine ok_aload_n (j := 1) dX2_copy_25 rfl rfl ?_
  refine gf_2_3 dX2_copy_26 (v2 hsx1 hwx1) xw_41 ?_
  refine pf_2_3 dX2_copy_29 (v2 hsx0 hwx0) xw_41 ?_
  refine ok_aload_n (j := 1) dX2_copy_32 rfl rfl ?_
  refine gf_2_4 dX2_copy_33 (v2 hsx1 hwx1) xw_43 ?_
  refine ok_iconst (v := (0 : Int32)) dX2_copy_36 (by decide) ?_
  refine ok_aload_n (j := 0) dX2_copy_37 rfl rfl ?_
  refine gf_2_4 dX2_copy_38 (v2 hsx0 hwx0) xw_43 ?_
  refine ok_iconst (v := (0 : Int32)) dX2_copy_41 (by decide) ?_
  refine ok_iconst (v := (3 : Int32)) dX2_copy_42 (by decide) ?_
  refine ok_copy (nn := 3) dX2_copy_43 xw_227 (v17 hsx1 hwx1) (v17 hsx0 hwx0) (fun _ => rfl) (fun _ _ => rfl) (by decide) (by decide) ⟨Nat.le_of_ble_eq_true rfl, Nat.le_of_ble_eq_true rfl⟩ ?_
  refine ok_aload_n (j := 1) dX2_copy_46 rfl rfl ?_
  refine gf_2_5 dX2_copy_47 (v2 hsx1 hwx1) xw_45 ?_
  refine ok_iconst (v := (0 : Int32)) dX2_copy_50 (by decide) ?_
  refine ok_aload_n (j := 0) dX2_copy_51 rfl rfl ?_
  refine gf_2_5 dX2_copy_52 (v2 hsx0 hwx0) xw_45 ?_
  refine ok_iconst (v := (0 : Int32)) dX2_copy_55 (by decide) ?_
  refine ok_iconst (v := (3 : Int32)) dX2_copy_56 (by decide) ?_
  refine ok_copy (nn := 3) dX2_copy_57 xw_227 (v18 hsx1 hwx1) (v18 hsx0 hwx0) (fun _ => rfl) (fun _ _ => rfl) (by decide) (by decide) ⟨Nat.le_of_ble_eq_true rfl, Nat.le_of_ble_eq_true rfl⟩ ?_
  refine ok_aload_n (j := 1) dX2_copy_60 rfl rfl ?_
  refine gf_2_6 dX2_copy_61 (v2 hsx1 hwx1) xw_47 ?_
  refine ok_iconst (v := (0 : Int32)) dX2_copy_64 (by decide) ?_
  refine ok_aload_n (j := 0) dX2_copy_65 rfl rfl ?_
  refine gf_2_6 dX2_copy_66 (v2 hsx0 hwx0) xw_47 ?_
  refine ok_iconst (v := (0 : Int32)) dX2_copy_69 (by decide) ?_
  refine ok_bipush (v := (6 : Int32)) dX2_copy_70 (by decide) ?_
  refine ok_copy (nn := 6) dX2_copy_72 xw_227 (v19 hsx1 hwx1) (v19 hsx0 hwx0) (fun _ => rfl) (fun _ _ => rfl) (by decide) (by decide) ⟨Nat.le_of_ble_eq_true rfl, Nat.le_of_ble_eq_true rfl⟩ ?_
  exact ok_vret rfl dX2_copy_75 ⟨rfl, h⟩
set_option maxRecDepth 100000 in
set_option maxHeartbeats 4000000 in
theorem eX0_copy {a b : xA} {h0 : Int64} {Q : xM → Prop} {sx0 wx0 : Nat} {sx1 wx1 : Nat} (hsx0 : sx0 < 7) (hwx0 : wx0 < 2) (hsx1 : sx1 < 7) (hwx1 : wx1 < 2) (h : Q ((xCp (xCp a 20 sx1 wx1 20 sx0 wx0 3) 21 sx1 wx1 21 sx0 wx0 3), (b, h0))) : CV mX0_copy [vR 0 sx0 wx0, vR 0 sx1 wx1] (a, (b, h0)) Q := by
  refine xCalls_of (by decide) (Nat.le_of_ble_eq_true rfl) ?_
  show xOk mX0_copy 0 [(0, vR 0 sx0 wx0), (1, vR 0 sx1 wx1)] [] (a, (b, h0)) (qV Q)
  refine ok_aload_n (j := 1) dX0_copy_0 rfl rfl ?_
  refine gf_0_0 dX0_copy_1 (v0 hsx1 hwx1) xw_70 ?_
  refine ok_iconst (v := (0 : Int32)) dX0_copy_4 (by decide) ?_
  refine ok_aload_n (j := 0) dX0_copy_5 rfl rfl ?_
  refine gf_0_0 dX0_copy_6 (v0 hsx0 hwx0) xw_70 ?_
  refine ok_iconst (v := (0 : Int32)) dX0_copy_9 (by decide) ?_
  refine ok_iconst (v := (3 : Int32)) dX0_copy_10 (by decide) ?_
  refine ok_copy (nn := 3) dX0_copy_11 xw_232 (v20 hsx1 hwx1) (v20 hsx0 hwx0) (fun _ => rfl) (fun _ _ => rfl) (by decide) (by decide) ⟨Nat.le_of_ble_eq_true rfl, Nat.le_of_ble_eq_true rfl⟩ ?_
  refine ok_aload_n (j := 1) dX0_copy_14 rfl rfl ?_
  refine gf_0_1 dX0_copy_15 (v0 hsx1 hwx1) xw_72 ?_
  refine ok_iconst (v := (0 : Int32)) dX0_copy_18 (by decide) ?_
  refine ok_aload_n (j := 0) dX0_copy_19 rfl rfl ?_
  refine gf_0_1 dX0_copy_20 (v0 hsx0 hwx0) xw_72 ?_
  refine ok_iconst (v := (0 : Int32)) dX0_copy_23 (by decide) ?_
  refine ok_iconst (v := (3 : Int32)) dX0_copy_24 (by decide) ?_
  refine ok_copy (nn := 3) dX0_copy_25 xw_232 (v21 hsx1 hwx1) (v21 hsx0 hwx0) (fun _ => rfl) (fun _ _ => rfl) (by decide) (by decide) ⟨Nat.le_of_ble_eq_true rfl, Nat.le_of_ble_eq_true rfl⟩ ?_
  exact ok_vret rfl dX0_copy_28 ⟨rfl, h⟩
set_option maxRecDepth 100000 in
set_option maxHeartbeats 4000000 in
theorem eX2_schedule {a b : xA} {h0 : Int64} {Q : Int32 → xM → Prop} {sx0 wx0 : Nat} {x1 : Int32} (hsx0 : sx0 < 7) (hwx0 : wx0 < 4) (h : xOk mX2_schedule 4 [(0, vR 2 sx0 wx0), (1, vI x1), (2, vI (0 : Int32)), (3, vI (0 : Int32))] [] (a, (b, h0)) (qI Q)) : CI mX2_schedule [vR 2 sx0 wx0, vI x1] (a, (b, h0)) Q := by
  refine xCalls_of (by decide) (Nat.le_of_ble_eq_true rfl) ?_
  show xOk mX2_schedule 0 [(0, vR 2 sx0 wx0), (1, vI x1)] [] (a, (b, h0)) (qI Q)
  refine ok_iconst (v := (0 : Int32)) dX2_schedule_0 (by decide) ?_
  refine ok_istore_n (ls2 := [(2, vI (0 : Int32)), (0, vR 2 sx0 wx0), (1, vI x1)]) dX2_schedule_1 rfl (by decide) rfl ?_
  refine ok_iconst (v := (0 : Int32)) dX2_schedule_2 (by decide) ?_
  refine ok_istore_n (ls2 := [(3, vI (0 : Int32)), (2, vI (0 : Int32)), (0, vR 2 sx0 wx0), (1, vI x1)]) dX2_schedule_3 rfl (by decide) rfl ?_
  exact ok_sub [(0, vR 2 sx0 wx0), (1, vI x1), (2, vI (0 : Int32)), (3, vI (0 : Int32))] [2, 3, 1, 0] rfl h
set_option maxRecDepth 100000 in
set_option maxHeartbeats 4000000 in
theorem rX2_schedule_4 {a b : xA} {h0 : Int64} {Q : Int32 → xM → Prop} {sx0 wx0 : Nat} {x1 : Int32} {x2 : Int32} {x3 : Int32} (hsx0 : sx0 < 7) (hwx0 : wx0 < 4) (h : (((3 : Int32) ≤ x3 → Q x2 (a, (b, h0))) ∧ (¬ (3 : Int32) ≤ x3 → (vp_in x3 3 ∧ (((a 17 sx0 wx0 (Int32.toNatClampNeg x3)) = (-1 : Int32) → xOk mX2_schedule 4 [(0, vR 2 sx0 wx0), (1, vI x1), (2, vI x2), (3, vI (x3 + 1))] [] (a, (b, h0)) (qI Q)) ∧ (¬ (a 17 sx0 wx0 (Int32.toNatClampNeg x3)) = (-1 : Int32) → (vp_in x3 3 ∧ xOk mX2_schedule 4 [(0, vR 2 sx0 wx0), (1, vI x1), (2, vI (x2 + 1)), (3, vI (x3 + 1))] [] ((xUp a 18 sx0 wx0 (Int32.toNatClampNeg x3) (x1 + (x2 + 1))), (b, h0)) (qI Q)))))))) : xOk mX2_schedule 4 [(0, vR 2 sx0 wx0), (1, vI x1), (2, vI x2), (3, vI x3)] [] (a, (b, h0)) (qI Q) := by
  refine ok_iload_n (j := 3) dX2_schedule_4 rfl rfl ?_
  refine ok_iconst (v := (3 : Int32)) dX2_schedule_5 (by decide) ?_
  refine ok_icmp_ge (tgt := 37) dX2_schedule_6 (by decide) ⟨fun z => ?_, fun z => ?_⟩
  · have h := h.1 z
    refine ok_iload_n (j := 2) dX2_schedule_37 rfl rfl ?_
    exact ok_iret rfl dX2_schedule_38 ⟨_, rfl, h⟩
  · have h := h.2 z
    refine ok_aload_n (j := 0) dX2_schedule_9 rfl rfl ?_
    refine gf_2_4 dX2_schedule_10 (v2 hsx0 hwx0) xw_43 ?_
    refine ok_iload_n (j := 3) dX2_schedule_13 rfl rfl ?_
    obtain ⟨hb1, h⟩ := h
    refine al_17 dX2_schedule_14 (v17 hsx0 hwx0) hb1 ?_
    refine ok_iconst (v := (-1 : Int32)) dX2_schedule_15 (by decide) ?_
    refine ok_icmp_eq (tgt := 31) dX2_schedule_16 (by decide) ⟨fun z => ?_, fun z => ?_⟩
    · have h := h.1 z
      refine ok_iinc (j := 3) (v := (x3 + 1)) (ls2 := [(3, vI (x3 + 1)), (0, vR 2 sx0 wx0), (1, vI x1), (2, vI x2)]) dX2_schedule_31 rfl rfl (by decide) rfl ?_
      refine ok_goto (tgt := 4) dX2_schedule_34 (by decide) ?_
      exact ok_sub [(0, vR 2 sx0 wx0), (1, vI x1), (2, vI x2), (3, vI (x3 + 1))] [1, 2, 3, 0] rfl h
    · have h := h.2 z
      refine ok_iinc (j := 2) (v := (x2 + 1)) (ls2 := [(2, vI (x2 + 1)), (0, vR 2 sx0 wx0), (1, vI x1), (3, vI x3)]) dX2_schedule_19 rfl rfl (by decide) rfl ?_
      refine ok_aload_n (j := 1) dX2_schedule_22 rfl rfl ?_
      refine gf_2_5 dX2_schedule_23 (v2 hsx0 hwx0) xw_45 ?_
      refine ok_iload_n (j := 3) dX2_schedule_26 rfl rfl ?_
      refine ok_iload_n (j := 2) dX2_schedule_27 rfl rfl ?_
      refine ok_iload_n (j := 0) dX2_schedule_28 rfl rfl ?_
      refine ok_iadd dX2_schedule_29 ?_
      obtain ⟨hb2, h⟩ := h
      refine as_18 dX2_schedule_30 (v18 hsx0 hwx0) hb2 ?_
      refine ok_iinc (j := 3) (v := (x3 + 1)) (ls2 := [(3, vI (x3 + 1)), (2, vI (x2 + 1)), (0, vR 2 sx0 wx0), (1, vI x1)]) dX2_schedule_31 rfl rfl (by decide) rfl ?_
      refine ok_goto (tgt := 4) dX2_schedule_34 (by decide) ?_
      exact ok_sub [(0, vR 2 sx0 wx0), (1, vI x1), (2, vI (x2 + 1)), (3, vI (x3 + 1))] [2, 3, 1, 0] rfl h
set_option maxRecDepth 100000 in
set_option maxHeartbeats 4000000 in
theorem eX0_save {a b : xA} {h0 : Int64} {Q : xM → Prop} {sx0 wx0 : Nat} {sx1 wx1 : Nat} {x2 : Int32} (hsx0 : sx0 < 7) (hwx0 : wx0 < 2) (hsx1 : sx1 < 7) (hwx1 : wx1 < 4) (h : xOk mX0_save 2 [(0, vR 0 sx0 wx0), (1, vR 19 sx1 wx1), (2, vI x2), (3, vI (0 : Int32))] [] (a, (b, h0)) (qV Q)) : CV mX0_save [vR 0 sx0 wx0, vR 19 sx1 wx1, vI x2] (a, (b, h0)) Q := by
  refine xCalls_of (by decide) (Nat.le_of_ble_eq_true rfl) ?_
  show xOk mX0_save 0 [(0, vR 0 sx0 wx0), (1, vR 19 sx1 wx1), (2, vI x2)] [] (a, (b, h0)) (qV Q)
  refine ok_iconst (v := (0 : Int32)) dX0_save_0 (by decide) ?_
  refine ok_istore_n (ls2 := [(3, vI (0 : Int32)), (0, vR 0 sx0 wx0), (1, vR 19 sx1 wx1), (2, vI x2)]) dX0_save_1 rfl (by decide) rfl ?_
  exact ok_sub [(0, vR 0 sx0 wx0), (1, vR 19 sx1 wx1), (2, vI x2), (3, vI (0 : Int32))] [1, 2, 3, 0] rfl h
set_option maxRecDepth 100000 in
set_option maxHeartbeats 4000000 in
theorem rX0_save_2 {a b : xA} {h0 : Int64} {Q : xM → Prop} {sx0 wx0 : Nat} {sx1 wx1 : Nat} {x2 : Int32} {x3 : Int32} (hsx0 : sx0 < 7) (hwx0 : wx0 < 2) (hsx1 : sx1 < 7) (hwx1 : wx1 < 4) (h : (((3 : Int32) ≤ x3 → Q (a, (b, h0))) ∧ (¬ (3 : Int32) ≤ x3 → (vp_in (x2 + x3) 6 ∧ (((a 19 sx1 wx1 (Int32.toNatClampNeg (x2 + x3))) = (-1 : Int32) → xOk mX0_save 2 [(0, vR 0 sx0 wx0), (1, vR 19 sx1 wx1), (2, vI x2), (3, vI (x3 + 1))] [] (a, (b, h0)) (qV Q)) ∧ (¬ (a 19 sx1 wx1 (Int32.toNatClampNeg (x2 + x3))) = (-1 : Int32) → (vp_in (x2 + x3) 6 ∧ (vp_in x3 3 ∧ xOk mX0_save 2 [(0, vR 0 sx0 wx0), (1, vR 19 sx1 wx1), (2, vI x2), (3, vI (x3 + 1))] [] ((xUp a 21 sx0 wx0 (Int32.toNatClampNeg x3) (a 19 sx1 wx1 (Int32.toNatClampNeg (x2 + x3)))), (b, h0)) (qV Q))))))))) : xOk mX0_save 2 [(0, vR 0 sx0 wx0), (1, vR 19 sx1 wx1), (2, vI x2), (3, vI x3)] [] (a, (b, h0)) (qV Q) := by
  refine ok_iload_n (j := 3) dX0_save_2 rfl rfl ?_
  refine ok_iconst (v := (3 : Int32)) dX0_save_3 (by decide) ?_
  refine ok_icmp_ge (tgt := 33) dX0_save_4 (by decide) ⟨fun z => ?_, fun z => ?_⟩
  · have h := h.1 z
    exact ok_vret rfl dX0_save_33 ⟨rfl, h⟩
  · have h := h.2 z
    refine ok_aload_n (j := 1) dX0_save_7 rfl rfl ?_
    refine ok_iload_n (j := 2) dX0_save_8 rfl rfl ?_
    refine ok_iload_n (j := 3) dX0_save_9 rfl rfl ?_
    refine ok_iadd dX0_save_10 ?_
    obtain ⟨hb1, h⟩ := h
    refine al_19 dX0_save_11 (v19 hsx1 hwx1) hb1 ?_
    refine ok_iconst (v := (-1 : Int32)) dX0_save_12 (by decide) ?_
    refine ok_icmp_eq (tgt := 27) dX0_save_13 (by decide) ⟨fun z => ?_, fun z => ?_⟩
    · have h := h.1 z
      refine ok_iinc (j := 3) (v := (x3 + 1)) (ls2 := [(3, vI (x3 + 1)), (0, vR 0 sx0 wx0), (1, vR 19 sx1 wx1), (2, vI x2)]) dX0_save_27 rfl rfl (by decide) rfl ?_
      refine ok_goto (tgt := 2) dX0_save_30 (by decide) ?_
      exact ok_sub [(0, vR 0 sx0 wx0), (1, vR 19 sx1 wx1), (2, vI x2), (3, vI (x3 + 1))] [1, 2, 3, 0] rfl h
    · have h := h.2 z
      refine ok_aload_n (j := 0) dX0_save_16 rfl rfl ?_
      refine gf_0_1 dX0_save_17 (v0 hsx0 hwx0) xw_72 ?_
      refine ok_iload_n (j := 3) dX0_save_20 rfl rfl ?_
      refine ok_aload_n (j := 1) dX0_save_21 rfl rfl ?_
      refine ok_iload_n (j := 2) dX0_save_22 rfl rfl ?_
      refine ok_iload_n (j := 3) dX0_save_23 rfl rfl ?_
      refine ok_iadd dX0_save_24 ?_
      obtain ⟨hb2, h⟩ := h
      refine al_19 dX0_save_25 (v19 hsx1 hwx1) hb2 ?_
      obtain ⟨hb3, h⟩ := h
      refine as_21 dX0_save_26 (v21 hsx0 hwx0) hb3 ?_
      refine ok_iinc (j := 3) (v := (x3 + 1)) (ls2 := [(3, vI (x3 + 1)), (0, vR 0 sx0 wx0), (1, vR 19 sx1 wx1), (2, vI x2)]) dX0_save_27 rfl rfl (by decide) rfl ?_
      refine ok_goto (tgt := 2) dX0_save_30 (by decide) ?_
      exact ok_sub [(0, vR 0 sx0 wx0), (1, vR 19 sx1 wx1), (2, vI x2), (3, vI (x3 + 1))] [1, 2, 3, 0] rfl h
set_option maxRecDepth 100000 in
set_option maxHeartbeats 4000000 in
theorem eX2_rest {a b : xA} {h0 : Int64} {Q : xM → Prop} {sx0 wx0 : Nat} (hsx0 : sx0 < 7) (hwx0 : wx0 < 4) (h : xOk mX2_rest 12 [(0, vR 2 sx0 wx0), (1, vI (0 : Int32))] [] ((xUp (xUp a 2 sx0 wx0 1 (0 : Int32)) 2 sx0 wx0 2 (0 : Int32)), (b, h0)) (qV Q)) : CV mX2_rest [vR 2 sx0 wx0] (a, (b, h0)) Q := by
  refine xCalls_of (by decide) (Nat.le_of_ble_eq_true rfl) ?_
  show xOk mX2_rest 0 [(0, vR 2 sx0 wx0)] [] (a, (b, h0)) (qV Q)
  refine ok_aload_n (j := 0) dX2_rest_0 rfl rfl ?_
  refine ok_iconst (v := (0 : Int32)) dX2_rest_1 (by decide) ?_
  refine pf_2_1 dX2_rest_2 (v2 hsx0 hwx0) xw_37 ?_
  refine ok_aload_n (j := 0) dX2_rest_5 rfl rfl ?_
  refine ok_iconst (v := (0 : Int32)) dX2_rest_6 (by decide) ?_
  refine pf_2_2 dX2_rest_7 (v2 hsx0 hwx0) xw_39 ?_
  refine ok_iconst (v := (0 : Int32)) dX2_rest_10 (by decide) ?_
  refine ok_istore_n (ls2 := [(1, vI (0 : Int32)), (0, vR 2 sx0 wx0)]) dX2_rest_11 rfl (by decide) rfl ?_
  exact ok_sub [(0, vR 2 sx0 wx0), (1, vI (0 : Int32))] [1, 0] rfl h
set_option maxRecDepth 100000 in
set_option maxHeartbeats 4000000 in
theorem rX2_rest_12 {a b : xA} {h0 : Int64} {Q : xM → Prop} {sx0 wx0 : Nat} {x1 : Int32} (hsx0 : sx0 < 7) (hwx0 : wx0 < 4) (h : (((3 : Int32) ≤ x1 → xOk mX2_rest 32 [(0, vR 2 sx0 wx0), (1, vI (0 : Int32))] [] (a, (b, h0)) (qV Q)) ∧ (¬ (3 : Int32) ≤ x1 → (vp_in x1 3 ∧ xOk mX2_rest 12 [(0, vR 2 sx0 wx0), (1, vI (x1 + 1))] [] ((xUp a 17 sx0 wx0 (Int32.toNatClampNeg x1) (-1 : Int32)), (b, h0)) (qV Q))))) : xOk mX2_rest 12 [(0, vR 2 sx0 wx0), (1, vI x1)] [] (a, (b, h0)) (qV Q) := by
  refine ok_iload_n (j := 1) dX2_rest_12 rfl rfl ?_
  refine ok_iconst (v := (3 : Int32)) dX2_rest_13 (by decide) ?_
  refine ok_icmp_ge (tgt := 30) dX2_rest_14 (by decide) ⟨fun z => ?_, fun z => ?_⟩
  · have h := h.1 z
    refine ok_iconst (v := (0 : Int32)) dX2_rest_30 (by decide) ?_
    refine ok_istore_n (ls2 := [(1, vI (0 : Int32)), (0, vR 2 sx0 wx0)]) dX2_rest_31 rfl (by decide) rfl ?_
    exact ok_sub [(0, vR 2 sx0 wx0), (1, vI (0 : Int32))] [1, 0] rfl h
  · have h := h.2 z
    refine ok_aload_n (j := 0) dX2_rest_17 rfl rfl ?_
    refine gf_2_4 dX2_rest_18 (v2 hsx0 hwx0) xw_43 ?_
    refine ok_iload_n (j := 1) dX2_rest_21 rfl rfl ?_
    refine ok_iconst (v := (-1 : Int32)) dX2_rest_22 (by decide) ?_
    obtain ⟨hb1, h⟩ := h
    refine as_17 dX2_rest_23 (v17 hsx0 hwx0) hb1 ?_
    refine ok_iinc (j := 1) (v := (x1 + 1)) (ls2 := [(1, vI (x1 + 1)), (0, vR 2 sx0 wx0)]) dX2_rest_24 rfl rfl (by decide) rfl ?_
    refine ok_goto (tgt := 12) dX2_rest_27 (by decide) ?_
    exact ok_sub [(0, vR 2 sx0 wx0), (1, vI (x1 + 1))] [1, 0] rfl h
set_option maxRecDepth 100000 in
set_option maxHeartbeats 4000000 in
theorem rX2_rest_32 {a b : xA} {h0 : Int64} {Q : xM → Prop} {sx0 wx0 : Nat} {x1 : Int32} (hsx0 : sx0 < 7) (hwx0 : wx0 < 4) (h : (((6 : Int32) ≤ x1 → Q (a, (b, h0))) ∧ (¬ (6 : Int32) ≤ x1 → (vp_in x1 6 ∧ xOk mX2_rest 32 [(0, vR 2 sx0 wx0), (1, vI (x1 + 1))] [] ((xUp a 19 sx0 wx0 (Int32.toNatClampNeg x1) (-1 : Int32)), (b, h0)) (qV Q))))) : xOk mX2_rest 32 [(0, vR 2 sx0 wx0), (1, vI x1)] [] (a, (b, h0)) (qV Q) := by
  refine ok_iload_n (j := 1) dX2_rest_32 rfl rfl ?_
  refine ok_bipush (v := (6 : Int32)) dX2_rest_33 (by decide) ?_
  refine ok_icmp_ge (tgt := 51) dX2_rest_35 (by decide) ⟨fun z => ?_, fun z => ?_⟩
  · have h := h.1 z
    exact ok_vret rfl dX2_rest_51 ⟨rfl, h⟩
  · have h := h.2 z
    refine ok_aload_n (j := 0) dX2_rest_38 rfl rfl ?_
    refine gf_2_6 dX2_rest_39 (v2 hsx0 hwx0) xw_47 ?_
    refine ok_iload_n (j := 1) dX2_rest_42 rfl rfl ?_
    refine ok_iconst (v := (-1 : Int32)) dX2_rest_43 (by decide) ?_
    obtain ⟨hb1, h⟩ := h
    refine as_19 dX2_rest_44 (v19 hsx0 hwx0) hb1 ?_
    refine ok_iinc (j := 1) (v := (x1 + 1)) (ls2 := [(1, vI (x1 + 1)), (0, vR 2 sx0 wx0)]) dX2_rest_45 rfl rfl (by decide) rfl ?_
    refine ok_goto (tgt := 32) dX2_rest_48 (by decide) ?_
    exact ok_sub [(0, vR 2 sx0 wx0), (1, vI (x1 + 1))] [1, 0] rfl h
set_option maxRecDepth 100000 in
set_option maxHeartbeats 4000000 in
theorem eX1_twinOf {a b : xA} {h0 : Int64} {Q : Int32 → xM → Prop} {wx0 : Nat} {x1 : Int32} {x2 : Int32} {x3 : Int32} (hwx0 : wx0 < 3) (h : xOk mX1_twinOf 9 [(0, vR 1 0 wx0), (1, vI x1), (2, vI x2), (3, vI x3), (4, vI (a 1 0 wx0 0)), (5, vI (0 : Int32))] [] (a, (b, h0)) (qI Q)) : CI mX1_twinOf [vR 1 0 wx0, vI x1, vI x2, vI x3] (a, (b, h0)) Q := by
  refine xCalls_of (by decide) (Nat.le_of_ble_eq_true rfl) ?_
  show xOk mX1_twinOf 0 [(0, vR 1 0 wx0), (1, vI x1), (2, vI x2), (3, vI x3)] [] (a, (b, h0)) (qI Q)
  refine ok_aload_n (j := 0) dX1_twinOf_0 rfl rfl ?_
  refine gf_1_0 dX1_twinOf_1 (v1 hwx0) xw_145 ?_
  refine ok_istore (ls2 := [(4, vI (a 1 0 wx0 0)), (0, vR 1 0 wx0), (1, vI x1), (2, vI x2), (3, vI x3)]) dX1_twinOf_4 (by decide) rfl ?_
  refine ok_iconst (v := (0 : Int32)) dX1_twinOf_6 (by decide) ?_
  refine ok_istore (ls2 := [(5, vI (0 : Int32)), (4, vI (a 1 0 wx0 0)), (0, vR 1 0 wx0), (1, vI x1), (2, vI x2), (3, vI x3)]) dX1_twinOf_7 (by decide) rfl ?_
  exact ok_sub [(0, vR 1 0 wx0), (1, vI x1), (2, vI x2), (3, vI x3), (4, vI (a 1 0 wx0 0)), (5, vI (0 : Int32))] [2, 3, 4, 5, 1, 0] rfl h
set_option maxRecDepth 100000 in
set_option maxHeartbeats 4000000 in
theorem rX1_twinOf_9 {a b : xA} {h0 : Int64} {Q : Int32 → xM → Prop} {wx0 : Nat} {x1 : Int32} {x2 : Int32} {x3 : Int32} {x4 : Int32} {x5 : Int32} (hwx0 : wx0 < 3) (h : (((3 : Int32) ≤ x5 → Q (-1 : Int32) (a, (b, h0))) ∧ (¬ (3 : Int32) ≤ x5 → (CI mX1_lastBefore [vR 1 0 wx0, vI x4, vI x1, vI x2] (a, (b, h0)) (fun r1 μ1 => ((r1 = (-1 : Int32) → Q r1 μ1) ∧ (¬ r1 = (-1 : Int32) → (vp_in r1 48 ∧ ((¬ (μ1.1 12 0 wx0 (Int32.toNatClampNeg r1)) = x3 → xOk mX1_twinOf 9 [(0, vR 1 0 wx0), (1, vI x1), (2, vI x2), (3, vI x3), (4, vI r1), (5, vI (x5 + 1))] [] μ1 (qI Q)) ∧ ((μ1.1 12 0 wx0 (Int32.toNatClampNeg r1)) = x3 → Q r1 μ1)))))))))) : xOk mX1_twinOf 9 [(0, vR 1 0 wx0), (1, vI x1), (2, vI x2), (3, vI x3), (4, vI x4), (5, vI x5)] [] (a, (b, h0)) (qI Q) := by
  refine ok_iload (j := 5) dX1_twinOf_9 rfl ?_
  refine ok_iconst (v := (3 : Int32)) dX1_twinOf_11 (by decide) ?_
  refine ok_icmp_ge (tgt := 51) dX1_twinOf_12 (by decide) ⟨fun z => ?_, fun z => ?_⟩
  · have h := h.1 z
    refine ok_iconst (v := (-1 : Int32)) dX1_twinOf_51 (by decide) ?_
    exact ok_iret rfl dX1_twinOf_52 ⟨_, rfl, h⟩
  · have h := h.2 z
    refine ok_aload_n (j := 0) dX1_twinOf_15 rfl rfl ?_
    refine ok_iload (j := 4) dX1_twinOf_16 rfl ?_
    refine ok_iload_n (j := 1) dX1_twinOf_18 rfl rfl ?_
    refine ok_iload_n (j := 2) dX1_twinOf_19 rfl rfl ?_
    refine ok_callV (M' := mX1_lastBefore) [vI x4, vI x1, vI x2] dX1_twinOf_20 xw_276 fV_X1_lastBefore fS_X1_lastBefore rfl (by decide) (v1 hwx0) (ob_1 _ _ _) rfl (Nat.le_of_ble_eq_true rfl) (CI.to (CI.mono h ?_))
    intro r1 μ1 h
    refine ok_istore (ls2 := [(4, vI r1), (0, vR 1 0 wx0), (1, vI x1), (2, vI x2), (3, vI x3), (5, vI x5)]) dX1_twinOf_23 (by decide) rfl ?_
    refine ok_iload (j := 0) dX1_twinOf_25 rfl ?_
    refine ok_iconst (v := (-1 : Int32)) dX1_twinOf_27 (by decide) ?_
    refine ok_icmp_eq (tgt := 42) dX1_twinOf_28 (by decide) ⟨fun z => ?_, fun z => ?_⟩
    · have h := h.1 z
      refine ok_iload (j := 0) dX1_twinOf_42 rfl ?_
      exact ok_iret rfl dX1_twinOf_44 ⟨_, rfl, h⟩
    · have h := h.2 z
      refine ok_aload_n (j := 1) dX1_twinOf_31 rfl rfl ?_
      refine gf_1_3 dX1_twinOf_32 (v1 hwx0) xw_151 ?_
      refine ok_iload (j := 0) dX1_twinOf_35 rfl ?_
      obtain ⟨hb2, h⟩ := h
      refine al_12 dX1_twinOf_37 (v12 hwx0) hb2 ?_
      refine ok_iload_n (j := 4) dX1_twinOf_38 rfl rfl ?_
      refine ok_icmp_ne (tgt := 45) dX1_twinOf_39 (by decide) ⟨fun z => ?_, fun z => ?_⟩
      · have h := h.1 z
        refine ok_iinc (j := 5) (v := (x5 + 1)) (ls2 := [(5, vI (x5 + 1)), (4, vI r1), (0, vR 1 0 wx0), (1, vI x1), (2, vI x2), (3, vI x3)]) dX1_twinOf_45 rfl rfl (by decide) rfl ?_
        refine ok_goto (tgt := 9) dX1_twinOf_48 (by decide) ?_
        exact ok_sub [(0, vR 1 0 wx0), (1, vI x1), (2, vI x2), (3, vI x3), (4, vI r1), (5, vI (x5 + 1))] [2, 3, 4, 5, 1, 0] rfl h
      · have h := h.2 z
        refine ok_iload (j := 0) dX1_twinOf_42 rfl ?_
        exact ok_iret rfl dX1_twinOf_44 ⟨_, rfl, h⟩
set_option maxRecDepth 100000 in
set_option maxHeartbeats 4000000 in
theorem eX1_lastBefore {a b : xA} {h0 : Int64} {Q : Int32 → xM → Prop} {wx0 : Nat} {x1 : Int32} {x2 : Int32} {x3 : Int32} (hwx0 : wx0 < 3) (h : xOk mX1_lastBefore 5 [(0, vR 1 0 wx0), (2, vI x2), (3, vI x3), (4, vI (x1 - (1 : Int32)))] [] (a, (b, h0)) (qI Q)) : CI mX1_lastBefore [vR 1 0 wx0, vI x1, vI x2, vI x3] (a, (b, h0)) Q := by
  refine xCalls_of (by decide) (Nat.le_of_ble_eq_true rfl) ?_
  show xOk mX1_lastBefore 0 [(0, vR 1 0 wx0), (1, vI x1), (2, vI x2), (3, vI x3)] [] (a, (b, h0)) (qI Q)
  refine ok_iload_n (j := 1) dX1_lastBefore_0 rfl rfl ?_
  refine ok_iconst (v := (1 : Int32)) dX1_lastBefore_1 (by decide) ?_
  refine ok_isub dX1_lastBefore_2 ?_
  refine ok_istore (ls2 := [(4, vI (x1 - (1 : Int32))), (0, vR 1 0 wx0), (1, vI x1), (2, vI x2), (3, vI x3)]) dX1_lastBefore_3 (by decide) rfl ?_
  exact ok_sub [(0, vR 1 0 wx0), (2, vI x2), (3, vI x3), (4, vI (x1 - (1 : Int32)))] [1, 3, 4, 0] rfl h
set_option maxRecDepth 100000 in
set_option maxHeartbeats 4000000 in
theorem rX1_lastBefore_5 {a b : xA} {h0 : Int64} {Q : Int32 → xM → Prop} {wx0 : Nat} {x2 : Int32} {x3 : Int32} {x4 : Int32} (hwx0 : wx0 < 3) (h : ((x4 < 0 → Q (-1 : Int32) (a, (b, h0))) ∧ (¬ x4 < 0 → (vp_in x4 48 ∧ ((¬ (a 10 0 wx0 (Int32.toNatClampNeg x4)) = x2 → xOk mX1_lastBefore 5 [(0, vR 1 0 wx0), (2, vI x2), (3, vI x3), (4, vI (x4 + (-1 : Int32)))] [] (a, (b, h0)) (qI Q)) ∧ ((a 10 0 wx0 (Int32.toNatClampNeg x4)) = x2 → (vp_in x4 48 ∧ ((¬ (a 11 0 wx0 (Int32.toNatClampNeg x4)) = x3 → xOk mX1_lastBefore 5 [(0, vR 1 0 wx0), (2, vI x2), (3, vI x3), (4, vI (x4 + (-1 : Int32)))] [] (a, (b, h0)) (qI Q)) ∧ ((a 11 0 wx0 (Int32.toNatClampNeg x4)) = x3 → (CI mX1_isMarker [vR 1 0 wx0, vI x4] (a, (b, h0)) (fun r3 μ3 => ((¬ r3 = 0 → xOk mX1_lastBefore 5 [(0, vR 1 0 wx0), (2, vI x2), (3, vI x3), (4, vI (x4 + (-1 : Int32)))] [] μ3 (qI Q)) ∧ (r3 = 0 → Q x4 μ3))))))))))))) : xOk mX1_lastBefore 5 [(0, vR 1 0 wx0), (2, vI x2), (3, vI x3), (4, vI x4)] [] (a, (b, h0)) (qI Q) := by
  refine ok_iload (j := 3) dX1_lastBefore_5 rfl ?_
  refine ok_if_lt (tgt := 50) dX1_lastBefore_7 (by decide) ⟨fun z => ?_, fun z => ?_⟩
  · have h := h.1 z
    refine ok_iconst (v := (-1 : Int32)) dX1_lastBefore_50 (by decide) ?_
    exact ok_iret rfl dX1_lastBefore_51 ⟨_, rfl, h⟩
  · have h := h.2 z
    refine ok_aload_n (j := 0) dX1_lastBefore_10 rfl rfl ?_
    refine gf_1_1 dX1_lastBefore_11 (v1 hwx0) xw_147 ?_
    refine ok_iload (j := 3) dX1_lastBefore_14 rfl ?_
    obtain ⟨hb1, h⟩ := h
    refine al_10 dX1_lastBefore_16 (v10 hwx0) hb1 ?_
    refine ok_iload_n (j := 1) dX1_lastBefore_17 rfl rfl ?_
    refine ok_icmp_ne (tgt := 44) dX1_lastBefore_18 (by decide) ⟨fun z => ?_, fun z => ?_⟩
    · have h := h.1 z
      refine ok_iinc (j := 3) (v := (x4 + (-1 : Int32))) (ls2 := [(4, vI (x4 + (-1 : Int32))), (0, vR 1 0 wx0), (2, vI x2), (3, vI x3)]) dX1_lastBefore_44 rfl rfl (by decide) rfl ?_
      refine ok_goto (tgt := 5) dX1_lastBefore_47 (by decide) ?_
      exact ok_sub [(0, vR 1 0 wx0), (2, vI x2), (3, vI x3), (4, vI (x4 + (-1 : Int32)))] [1, 2, 3, 0] rfl h
    · have h := h.2 z
      refine ok_aload_n (j := 0) dX1_lastBefore_21 rfl rfl ?_
      refine gf_1_2 dX1_lastBefore_22 (v1 hwx0) xw_149 ?_
      refine ok_iload (j := 3) dX1_lastBefore_25 rfl ?_
      obtain ⟨hb2, h⟩ := h
      refine al_11 dX1_lastBefore_27 (v11 hwx0) hb2 ?_
      refine ok_iload_n (j := 2) dX1_lastBefore_28 rfl rfl ?_
      refine ok_icmp_ne (tgt := 44) dX1_lastBefore_29 (by decide) ⟨fun z => ?_, fun z => ?_⟩
      · have h := h.1 z
        refine ok_iinc (j := 3) (v := (x4 + (-1 : Int32))) (ls2 := [(4, vI (x4 + (-1 : Int32))), (0, vR 1 0 wx0), (2, vI x2), (3, vI x3)]) dX1_lastBefore_44 rfl rfl (by decide) rfl ?_
        refine ok_goto (tgt := 5) dX1_lastBefore_47 (by decide) ?_
        exact ok_sub [(0, vR 1 0 wx0), (2, vI x2), (3, vI x3), (4, vI (x4 + (-1 : Int32)))] [1, 2, 3, 0] rfl h
      · have h := h.2 z
        refine ok_aload_n (j := 0) dX1_lastBefore_32 rfl rfl ?_
        refine ok_iload (j := 3) dX1_lastBefore_33 rfl ?_
        refine ok_callV (M' := mX1_isMarker) [vI x4] dX1_lastBefore_35 xw_280 fV_X1_isMarker fS_X1_isMarker rfl (by decide) (v1 hwx0) (ob_1 _ _ _) rfl (Nat.le_of_ble_eq_true rfl) (CI.to (CI.mono h ?_))
        intro r3 μ3 h
        refine ok_if_ne (tgt := 44) dX1_lastBefore_38 (by decide) ⟨fun z => ?_, fun z => ?_⟩
        · have h := h.1 z
          refine ok_iinc (j := 3) (v := (x4 + (-1 : Int32))) (ls2 := [(4, vI (x4 + (-1 : Int32))), (0, vR 1 0 wx0), (2, vI x2), (3, vI x3)]) dX1_lastBefore_44 rfl rfl (by decide) rfl ?_
          refine ok_goto (tgt := 5) dX1_lastBefore_47 (by decide) ?_
          exact ok_sub [(0, vR 1 0 wx0), (2, vI x2), (3, vI x3), (4, vI (x4 + (-1 : Int32)))] [1, 2, 3, 0] rfl h
        · have h := h.2 z
          refine ok_iload (j := 3) dX1_lastBefore_41 rfl ?_
          exact ok_iret rfl dX1_lastBefore_43 ⟨_, rfl, h⟩
set_option maxRecDepth 100000 in
set_option maxHeartbeats 4000000 in
theorem eX1_isMarker {a b : xA} {h0 : Int64} {Q : Int32 → xM → Prop} {wx0 : Nat} {x1 : Int32} (hwx0 : wx0 < 3) (h : (vp_in x1 48 ∧ ((¬ (a 12 0 wx0 (Int32.toNatClampNeg x1)) = (-1 : Int32) → Q (0 : Int32) (a, (b, h0))) ∧ ((a 12 0 wx0 (Int32.toNatClampNeg x1)) = (-1 : Int32) → Q (1 : Int32) (a, (b, h0)))))) : CI mX1_isMarker [vR 1 0 wx0, vI x1] (a, (b, h0)) Q := by
  refine xCalls_of (by decide) (Nat.le_of_ble_eq_true rfl) ?_
  show xOk mX1_isMarker 0 [(0, vR 1 0 wx0), (1, vI x1)] [] (a, (b, h0)) (qI Q)
  refine ok_aload_n (j := 0) dX1_isMarker_0 rfl rfl ?_
  refine gf_1_3 dX1_isMarker_1 (v1 hwx0) xw_151 ?_
  refine ok_iload_n (j := 1) dX1_isMarker_4 rfl rfl ?_
  obtain ⟨hb1, h⟩ := h
  refine al_12 dX1_isMarker_5 (v12 hwx0) hb1 ?_
  refine ok_iconst (v := (-1 : Int32)) dX1_isMarker_6 (by decide) ?_
  refine ok_icmp_ne (tgt := 14) dX1_isMarker_7 (by decide) ⟨fun z => ?_, fun z => ?_⟩
  · have h := h.1 z
    refine ok_iconst (v := (0 : Int32)) dX1_isMarker_14 (by decide) ?_
    exact ok_zret rfl (by decide) dX1_isMarker_15 ⟨_, rfl, h⟩
  · have h := h.2 z
    refine ok_iconst (v := (1 : Int32)) dX1_isMarker_10 (by decide) ?_
    refine ok_goto (tgt := 15) dX1_isMarker_11 (by decide) ?_
    exact ok_zret rfl (by decide) dX1_isMarker_15 ⟨_, rfl, h⟩
set_option maxRecDepth 100000 in
set_option maxHeartbeats 4000000 in
theorem eX1_numberDue {a b : xA} {h0 : Int64} {Q : Int32 → xM → Prop} {wx0 : Nat} {x1 : Int32} {x2 : Int32} (hwx0 : wx0 < 3) (h : (CI mX1_lastBefore [vR 1 0 wx0, vI (a 1 0 wx0 0), vI x1, vI x2] (a, (b, h0)) (fun r1 μ1 => ((¬ r1 = (-1 : Int32) → (vp_in r1 48 ∧ Q ((μ1.1 12 0 wx0 (Int32.toNatClampNeg r1)) + (1 : Int32)) μ1)) ∧ (r1 = (-1 : Int32) → Q (0 : Int32) μ1))))) : CI mX1_numberDue [vR 1 0 wx0, vI x1, vI x2] (a, (b, h0)) Q := by
  refine xCalls_of (by decide) (Nat.le_of_ble_eq_true rfl) ?_
  show xOk mX1_numberDue 0 [(0, vR 1 0 wx0), (1, vI x1), (2, vI x2)] [] (a, (b, h0)) (qI Q)
  refine ok_aload_n (j := 0) dX1_numberDue_0 rfl rfl ?_
  refine ok_aload_n (j := 0) dX1_numberDue_1 rfl rfl ?_
  refine gf_1_0 dX1_numberDue_2 (v1 hwx0) xw_145 ?_
  refine ok_iload_n (j := 1) dX1_numberDue_5 rfl rfl ?_
  refine ok_iload_n (j := 2) dX1_numberDue_6 rfl rfl ?_
  refine ok_callV (M' := mX1_lastBefore) [vI (a 1 0 wx0 0), vI x1, vI x2] dX1_numberDue_7 xw_276 fV_X1_lastBefore fS_X1_lastBefore rfl (by decide) (v1 hwx0) (ob_1 _ _ _) rfl (Nat.le_of_ble_eq_true rfl) (CI.to (CI.mono h ?_))
  intro r1 μ1 h
  refine ok_istore_n (ls2 := [(3, vI r1), (0, vR 1 0 wx0), (1, vI x1), (2, vI x2)]) dX1_numberDue_10 rfl (by decide) rfl ?_
  refine ok_iload_n (j := 0) dX1_numberDue_11 rfl rfl ?_
  refine ok_iconst (v := (-1 : Int32)) dX1_numberDue_12 (by decide) ?_
  refine ok_icmp_ne (tgt := 20) dX1_numberDue_13 (by decide) ⟨fun z => ?_, fun z => ?_⟩
  · have h := h.1 z
    refine ok_aload_n (j := 1) dX1_numberDue_20 rfl rfl ?_
    refine gf_1_3 dX1_numberDue_21 (v1 hwx0) xw_151 ?_
    refine ok_iload_n (j := 0) dX1_numberDue_24 rfl rfl ?_
    obtain ⟨hb2, h⟩ := h
    refine al_12 dX1_numberDue_25 (v12 hwx0) hb2 ?_
    refine ok_iconst (v := (1 : Int32)) dX1_numberDue_26 (by decide) ?_
    refine ok_iadd dX1_numberDue_27 ?_
    exact ok_iret rfl dX1_numberDue_28 ⟨_, rfl, h⟩
  · have h := h.2 z
    refine ok_iconst (v := (0 : Int32)) dX1_numberDue_16 (by decide) ?_
    refine ok_goto (tgt := 28) dX1_numberDue_17 (by decide) ?_
    exact ok_iret rfl dX1_numberDue_28 ⟨_, rfl, h⟩
set_option maxRecDepth 100000 in
set_option maxHeartbeats 4000000 in
theorem eX1_append {a b : xA} {h0 : Int64} {Q : Int32 → xM → Prop} {wx0 : Nat} {x1 : Int32} {x2 : Int32} {x3 : Int32} {x4 : Int32} {x5 : Int32} (hwx0 : wx0 < 3) (h : (((a 1 0 wx0 0) < (48 : Int32) → (vp_in (a 1 0 wx0 0) 48 ∧ (vp_in (a 1 0 wx0 0) 48 ∧ (vp_in (a 1 0 wx0 0) 48 ∧ (vp_in (a 1 0 wx0 0) 48 ∧ (vp_in (a 1 0 wx0 0) 48 ∧ (vp_in (a 1 0 wx0 0) 48 ∧ Q (a 1 0 wx0 0) ((xUp (xUp (xUp (xUp (xUp (xUp (xUp a 10 0 wx0 (Int32.toNatClampNeg (a 1 0 wx0 0)) x1) 11 0 wx0 (Int32.toNatClampNeg (a 1 0 wx0 0)) x2) 12 0 wx0 (Int32.toNatClampNeg (a 1 0 wx0 0)) x3) 13 0 wx0 (Int32.toNatClampNeg (a 1 0 wx0 0)) x4) 14 0 wx0 (Int32.toNatClampNeg (a 1 0 wx0 0)) x5) 15 0 wx0 (Int32.toNatClampNeg (a 1 0 wx0 0)) (-1 : Int32)) 1 0 wx0 0 (((xUp (xUp (xUp (xUp (xUp (xUp a 10 0 wx0 (Int32.toNatClampNeg (a 1 0 wx0 0)) x1) 11 0 wx0 (Int32.toNatClampNeg (a 1 0 wx0 0)) x2) 12 0 wx0 (Int32.toNatClampNeg (a 1 0 wx0 0)) x3) 13 0 wx0 (Int32.toNatClampNeg (a 1 0 wx0 0)) x4) 14 0 wx0 (Int32.toNatClampNeg (a 1 0 wx0 0)) x5) 15 0 wx0 (Int32.toNatClampNeg (a 1 0 wx0 0)) (-1 : Int32)) 1 0 wx0 0) + (1 : Int32))), (b, h0))))))))) ∧ (¬ (a 1 0 wx0 0) < (48 : Int32) → Q (-1 : Int32) (a, (b, h0))))) : CI mX1_append [vR 1 0 wx0, vI x1, vI x2, vI x3, vI x4, vI x5] (a, (b, h0)) Q := by
  refine xCalls_of (by decide) (Nat.le_of_ble_eq_true rfl) ?_
  show xOk mX1_append 0 [(0, vR 1 0 wx0), (1, vI x1), (2, vI x2), (3, vI x3), (4, vI x4), (5, vI x5)] [] (a, (b, h0)) (qI Q)
  refine ok_aload_n (j := 0) dX1_append_0 rfl rfl ?_
  refine gf_1_0 dX1_append_1 (v1 hwx0) xw_145 ?_
  refine ok_bipush (v := (48 : Int32)) dX1_append_4 (by decide) ?_
  refine ok_icmp_lt (tgt := 11) dX1_append_6 (by decide) ⟨fun z => ?_, fun z => ?_⟩
  · have h := h.1 z
    refine ok_aload_n (j := 0) dX1_append_11 rfl rfl ?_
    refine gf_1_0 dX1_append_12 (v1 hwx0) xw_145 ?_
    refine ok_istore (ls2 := [(6, vI (a 1 0 wx0 0)), (0, vR 1 0 wx0), (1, vI x1), (2, vI x2), (3, vI x3), (4, vI x4), (5, vI x5)]) dX1_append_15 (by decide) rfl ?_
    refine ok_aload_n (j := 1) dX1_append_17 rfl rfl ?_
    refine gf_1_1 dX1_append_18 (v1 hwx0) xw_147 ?_
    refine ok_iload (j := 0) dX1_append_21 rfl ?_
    refine ok_iload_n (j := 2) dX1_append_23 rfl rfl ?_
    obtain ⟨hb1, h⟩ := h
    refine as_10 dX1_append_24 (v10 hwx0) hb1 ?_
    refine ok_aload_n (j := 1) dX1_append_25 rfl rfl ?_
    refine gf_1_2 dX1_append_26 (v1 hwx0) xw_149 ?_
    refine ok_iload (j := 0) dX1_append_29 rfl ?_
    refine ok_iload_n (j := 3) dX1_append_31 rfl rfl ?_
    obtain ⟨hb2, h⟩ := h
    refine as_11 dX1_append_32 (v11 hwx0) hb2 ?_
    refine ok_aload_n (j := 1) dX1_append_33 rfl rfl ?_
    refine gf_1_3 dX1_append_34 (v1 hwx0) xw_151 ?_
    refine ok_iload (j := 0) dX1_append_37 rfl ?_
    refine ok_iload_n (j := 4) dX1_append_39 rfl rfl ?_
    obtain ⟨hb3, h⟩ := h
    refine as_12 dX1_append_40 (v12 hwx0) hb3 ?_
    refine ok_aload_n (j := 1) dX1_append_41 rfl rfl ?_
    refine gf_1_4 dX1_append_42 (v1 hwx0) xw_153 ?_
    refine ok_iload (j := 0) dX1_append_45 rfl ?_
    refine ok_iload (j := 5) dX1_append_47 rfl ?_
    obtain ⟨hb4, h⟩ := h
    refine as_13 dX1_append_49 (v13 hwx0) hb4 ?_
    refine ok_aload_n (j := 1) dX1_append_50 rfl rfl ?_
    refine gf_1_5 dX1_append_51 (v1 hwx0) xw_155 ?_
    refine ok_iload (j := 0) dX1_append_54 rfl ?_
    refine ok_iload (j := 6) dX1_append_56 rfl ?_
    obtain ⟨hb5, h⟩ := h
    refine as_14 dX1_append_58 (v14 hwx0) hb5 ?_
    refine ok_aload_n (j := 1) dX1_append_59 rfl rfl ?_
    refine gf_1_6 dX1_append_60 (v1 hwx0) xw_156 ?_
    refine ok_iload (j := 0) dX1_append_63 rfl ?_
    refine ok_iconst (v := (-1 : Int32)) dX1_append_65 (by decide) ?_
    obtain ⟨hb6, h⟩ := h
    refine as_15 dX1_append_66 (v15 hwx0) hb6 ?_
    refine ok_aload_n (j := 1) dX1_append_67 rfl rfl ?_
    refine ok_dup dX1_append_68 rfl ?_
    refine gf_1_0 dX1_append_69 (v1 hwx0) xw_145 ?_
    refine ok_iconst (v := (1 : Int32)) dX1_append_72 (by decide) ?_
    refine ok_iadd dX1_append_73 ?_
    refine pf_1_0 dX1_append_74 (v1 hwx0) xw_145 ?_
    refine ok_iload (j := 0) dX1_append_77 rfl ?_
    exact ok_iret rfl dX1_append_79 ⟨_, rfl, h⟩
  · have h := h.2 z
    refine ok_iconst (v := (-1 : Int32)) dX1_append_9 (by decide) ?_
    exact ok_iret rfl dX1_append_10 ⟨_, rfl, h⟩
set_option maxRecDepth 100000 in
set_option maxHeartbeats 4000000 in
theorem eX2_partDueAt {a b : xA} {h0 : Int64} {Q : Int32 → xM → Prop} {sx0 wx0 : Nat} {x1 : Int32} (hsx0 : sx0 < 7) (hwx0 : wx0 < 4) (h : xOk mX2_partDueAt 2 [(0, vR 2 sx0 wx0), (1, vI x1), (2, vI (0 : Int32))] [] (a, (b, h0)) (qI Q)) : CI mX2_partDueAt [vR 2 sx0 wx0, vI x1] (a, (b, h0)) Q := by
  refine xCalls_of (by decide) (Nat.le_of_ble_eq_true rfl) ?_
  show xOk mX2_partDueAt 0 [(0, vR 2 sx0 wx0), (1, vI x1)] [] (a, (b, h0)) (qI Q)
  refine ok_iconst (v := (0 : Int32)) dX2_partDueAt_0 (by decide) ?_
  refine ok_istore_n (ls2 := [(2, vI (0 : Int32)), (0, vR 2 sx0 wx0), (1, vI x1)]) dX2_partDueAt_1 rfl (by decide) rfl ?_
  exact ok_sub [(0, vR 2 sx0 wx0), (1, vI x1), (2, vI (0 : Int32))] [1, 2, 0] rfl h
set_option maxRecDepth 100000 in
set_option maxHeartbeats 4000000 in
theorem rX2_partDueAt_2 {a b : xA} {h0 : Int64} {Q : Int32 → xM → Prop} {sx0 wx0 : Nat} {x1 : Int32} {x2 : Int32} (hsx0 : sx0 < 7) (hwx0 : wx0 < 4) (h : (((3 : Int32) ≤ x2 → Q (-1 : Int32) (a, (b, h0))) ∧ (¬ (3 : Int32) ≤ x2 → (vp_in x2 3 ∧ (((a 18 sx0 wx0 (Int32.toNatClampNeg x2)) = 0 → xOk mX2_partDueAt 2 [(0, vR 2 sx0 wx0), (1, vI x1), (2, vI (x2 + 1))] [] (a, (b, h0)) (qI Q)) ∧ (¬ (a 18 sx0 wx0 (Int32.toNatClampNeg x2)) = 0 → (vp_in x2 3 ∧ ((¬ (a 18 sx0 wx0 (Int32.toNatClampNeg x2)) = x1 → xOk mX2_partDueAt 2 [(0, vR 2 sx0 wx0), (1, vI x1), (2, vI (x2 + 1))] [] (a, (b, h0)) (qI Q)) ∧ ((a 18 sx0 wx0 (Int32.toNatClampNeg x2)) = x1 → Q x2 (a, (b, h0))))))))))) : xOk mX2_partDueAt 2 [(0, vR 2 sx0 wx0), (1, vI x1), (2, vI x2)] [] (a, (b, h0)) (qI Q) := by
  refine ok_iload_n (j := 2) dX2_partDueAt_2 rfl rfl ?_
  refine ok_iconst (v := (3 : Int32)) dX2_partDueAt_3 (by decide) ?_
  refine ok_icmp_ge (tgt := 34) dX2_partDueAt_4 (by decide) ⟨fun z => ?_, fun z => ?_⟩
  · have h := h.1 z
    refine ok_iconst (v := (-1 : Int32)) dX2_partDueAt_34 (by decide) ?_
    exact ok_iret rfl dX2_partDueAt_35 ⟨_, rfl, h⟩
  · have h := h.2 z
    refine ok_aload_n (j := 0) dX2_partDueAt_7 rfl rfl ?_
    refine gf_2_5 dX2_partDueAt_8 (v2 hsx0 hwx0) xw_45 ?_
    refine ok_iload_n (j := 2) dX2_partDueAt_11 rfl rfl ?_
    obtain ⟨hb1, h⟩ := h
    refine al_18 dX2_partDueAt_12 (v18 hsx0 hwx0) hb1 ?_
    refine ok_if_eq (tgt := 28) dX2_partDueAt_13 (by decide) ⟨fun z => ?_, fun z => ?_⟩
    · have h := h.1 z
      refine ok_iinc (j := 2) (v := (x2 + 1)) (ls2 := [(2, vI (x2 + 1)), (0, vR 2 sx0 wx0), (1, vI x1)]) dX2_partDueAt_28 rfl rfl (by decide) rfl ?_
      refine ok_goto (tgt := 2) dX2_partDueAt_31 (by decide) ?_
      exact ok_sub [(0, vR 2 sx0 wx0), (1, vI x1), (2, vI (x2 + 1))] [1, 2, 0] rfl h
    · have h := h.2 z
      refine ok_aload_n (j := 0) dX2_partDueAt_16 rfl rfl ?_
      refine gf_2_5 dX2_partDueAt_17 (v2 hsx0 hwx0) xw_45 ?_
      refine ok_iload_n (j := 2) dX2_partDueAt_20 rfl rfl ?_
      obtain ⟨hb2, h⟩ := h
      refine al_18 dX2_partDueAt_21 (v18 hsx0 hwx0) hb2 ?_
      refine ok_iload_n (j := 1) dX2_partDueAt_22 rfl rfl ?_
      refine ok_icmp_ne (tgt := 28) dX2_partDueAt_23 (by decide) ⟨fun z => ?_, fun z => ?_⟩
      · have h := h.1 z
        refine ok_iinc (j := 2) (v := (x2 + 1)) (ls2 := [(2, vI (x2 + 1)), (0, vR 2 sx0 wx0), (1, vI x1)]) dX2_partDueAt_28 rfl rfl (by decide) rfl ?_
        refine ok_goto (tgt := 2) dX2_partDueAt_31 (by decide) ?_
        exact ok_sub [(0, vR 2 sx0 wx0), (1, vI x1), (2, vI (x2 + 1))] [1, 2, 0] rfl h
      · have h := h.2 z
        refine ok_iload_n (j := 2) dX2_partDueAt_26 rfl rfl ?_
        exact ok_iret rfl dX2_partDueAt_27 ⟨_, rfl, h⟩
set_option maxRecDepth 100000 in
set_option maxHeartbeats 4000000 in
theorem eX1_appendMarker {a b : xA} {h0 : Int64} {Q : xM → Prop} {wx0 : Nat} {x1 : Int32} {x2 : Int32} {x3 : Int32} {x4 : Int32} (hwx0 : wx0 < 3) (h : (CI mX1_append [vR 1 0 wx0, vI x1, vI x2, vI (-1 : Int32), vI x3, vI x4] (a, (b, h0)) (fun r1 μ1 => ((x4 < 0 → Q μ1) ∧ (¬ x4 < 0 → ((r1 ≤ x4 → Q μ1) ∧ (¬ r1 ≤ x4 → (vp_in x4 48 ∧ Q ((xUp μ1.1 15 0 wx0 (Int32.toNatClampNeg x4) r1), μ1.2))))))))) : CV mX1_appendMarker [vR 1 0 wx0, vI x1, vI x2, vI x3, vI x4] (a, (b, h0)) Q := by
  refine xCalls_of (by decide) (Nat.le_of_ble_eq_true rfl) ?_
  show xOk mX1_appendMarker 0 [(0, vR 1 0 wx0), (1, vI x1), (2, vI x2), (3, vI x3), (4, vI x4)] [] (a, (b, h0)) (qV Q)
  refine ok_aload_n (j := 0) dX1_appendMarker_0 rfl rfl ?_
  refine ok_iload_n (j := 1) dX1_appendMarker_1 rfl rfl ?_
  refine ok_iload_n (j := 2) dX1_appendMarker_2 rfl rfl ?_
  refine ok_iconst (v := (-1 : Int32)) dX1_appendMarker_3 (by decide) ?_
  refine ok_iload_n (j := 3) dX1_appendMarker_4 rfl rfl ?_
  refine ok_iload (j := 4) dX1_appendMarker_5 rfl ?_
  refine ok_callV (M' := mX1_append) [vI x1, vI x2, vI (-1 : Int32), vI x3, vI x4] dX1_appendMarker_7 xw_320 fV_X1_append fS_X1_append rfl (by decide) (v1 hwx0) (ob_1 _ _ _) rfl (Nat.le_of_ble_eq_true rfl) (CI.to (CI.mono h ?_))
  intro r1 μ1 h
  refine ok_istore (ls2 := [(5, vI r1), (0, vR 1 0 wx0), (1, vI x1), (2, vI x2), (3, vI x3), (4, vI x4)]) dX1_appendMarker_10 (by decide) rfl ?_
  refine ok_iload (j := 5) dX1_appendMarker_12 rfl ?_
  refine ok_if_lt (tgt := 33) dX1_appendMarker_14 (by decide) ⟨fun z => ?_, fun z => ?_⟩
  · have h := h.1 z
    exact ok_vret rfl dX1_appendMarker_33 ⟨rfl, h⟩
  · have h := h.2 z
    refine ok_iload (j := 5) dX1_appendMarker_17 rfl ?_
    refine ok_iload (j := 0) dX1_appendMarker_19 rfl ?_
    refine ok_icmp_ge (tgt := 33) dX1_appendMarker_21 (by decide) ⟨fun z => ?_, fun z => ?_⟩
    · have h := h.1 z
      exact ok_vret rfl dX1_appendMarker_33 ⟨rfl, h⟩
    · have h := h.2 z
      refine ok_aload_n (j := 1) dX1_appendMarker_24 rfl rfl ?_
      refine gf_1_6 dX1_appendMarker_25 (v1 hwx0) xw_156 ?_
      refine ok_iload (j := 5) dX1_appendMarker_28 rfl ?_
      refine ok_iload (j := 0) dX1_appendMarker_30 rfl ?_
      obtain ⟨hb2, h⟩ := h
      refine as_15 dX1_appendMarker_32 (v15 hwx0) hb2 ?_
      exact ok_vret rfl dX1_appendMarker_33 ⟨rfl, h⟩
set_option maxRecDepth 100000 in
set_option maxHeartbeats 4000000 in
theorem eX2_markersDue {a b : xA} {h0 : Int64} {Q : Int32 → xM → Prop} {sx0 wx0 : Nat} (hsx0 : sx0 < 7) (hwx0 : wx0 < 4) (h : xOk mX2_markersDue 4 [(0, vR 2 sx0 wx0), (1, vI (0 : Int32)), (2, vI (0 : Int32))] [] (a, (b, h0)) (qI Q)) : CI mX2_markersDue [vR 2 sx0 wx0] (a, (b, h0)) Q := by
  refine xCalls_of (by decide) (Nat.le_of_ble_eq_true rfl) ?_
  show xOk mX2_markersDue 0 [(0, vR 2 sx0 wx0)] [] (a, (b, h0)) (qI Q)
  refine ok_iconst (v := (0 : Int32)) dX2_markersDue_0 (by decide) ?_
  refine ok_istore_n (ls2 := [(1, vI (0 : Int32)), (0, vR 2 sx0 wx0)]) dX2_markersDue_1 rfl (by decide) rfl ?_
  refine ok_iconst (v := (0 : Int32)) dX2_markersDue_2 (by decide) ?_
  refine ok_istore_n (ls2 := [(2, vI (0 : Int32)), (1, vI (0 : Int32)), (0, vR 2 sx0 wx0)]) dX2_markersDue_3 rfl (by decide) rfl ?_
  exact ok_sub [(0, vR 2 sx0 wx0), (1, vI (0 : Int32)), (2, vI (0 : Int32))] [2, 1, 0] rfl h
set_option maxRecDepth 100000 in
set_option maxHeartbeats 4000000 in
theorem rX2_markersDue_4 {a b : xA} {h0 : Int64} {Q : Int32 → xM → Prop} {sx0 wx0 : Nat} {x1 : Int32} {x2 : Int32} (hsx0 : sx0 < 7) (hwx0 : wx0 < 4) (h : (((3 : Int32) ≤ x2 → Q x1 (a, (b, h0))) ∧ (¬ (3 : Int32) ≤ x2 → (vp_in x2 3 ∧ (((a 18 sx0 wx0 (Int32.toNatClampNeg x2)) = 0 → xOk mX2_markersDue 4 [(0, vR 2 sx0 wx0), (1, vI x1), (2, vI (x2 + 1))] [] (a, (b, h0)) (qI Q)) ∧ (¬ (a 18 sx0 wx0 (Int32.toNatClampNeg x2)) = 0 → xOk mX2_markersDue 4 [(0, vR 2 sx0 wx0), (1, vI (x1 + 1)), (2, vI (x2 + 1))] [] (a, (b, h0)) (qI Q))))))) : xOk mX2_markersDue 4 [(0, vR 2 sx0 wx0), (1, vI x1), (2, vI x2)] [] (a, (b, h0)) (qI Q) := by
  refine ok_iload_n (j := 2) dX2_markersDue_4 rfl rfl ?_
  refine ok_iconst (v := (3 : Int32)) dX2_markersDue_5 (by decide) ?_
  refine ok_icmp_ge (tgt := 27) dX2_markersDue_6 (by decide) ⟨fun z => ?_, fun z => ?_⟩
  · have h := h.1 z
    refine ok_iload_n (j := 1) dX2_markersDue_27 rfl rfl ?_
    exact ok_iret rfl dX2_markersDue_28 ⟨_, rfl, h⟩
  · have h := h.2 z
    refine ok_aload_n (j := 0) dX2_markersDue_9 rfl rfl ?_
    refine gf_2_5 dX2_markersDue_10 (v2 hsx0 hwx0) xw_45 ?_
    refine ok_iload_n (j := 2) dX2_markersDue_13 rfl rfl ?_
    obtain ⟨hb1, h⟩ := h
    refine al_18 dX2_markersDue_14 (v18 hsx0 hwx0) hb1 ?_
    refine ok_if_eq (tgt := 21) dX2_markersDue_15 (by decide) ⟨fun z => ?_, fun z => ?_⟩
    · have h := h.1 z
      refine ok_iinc (j := 2) (v := (x2 + 1)) (ls2 := [(2, vI (x2 + 1)), (0, vR 2 sx0 wx0), (1, vI x1)]) dX2_markersDue_21 rfl rfl (by decide) rfl ?_
      refine ok_goto (tgt := 4) dX2_markersDue_24 (by decide) ?_
      exact ok_sub [(0, vR 2 sx0 wx0), (1, vI x1), (2, vI (x2 + 1))] [1, 2, 0] rfl h
    · have h := h.2 z
      refine ok_iinc (j := 1) (v := (x1 + 1)) (ls2 := [(1, vI (x1 + 1)), (0, vR 2 sx0 wx0), (2, vI x2)]) dX2_markersDue_18 rfl rfl (by decide) rfl ?_
      refine ok_iinc (j := 2) (v := (x2 + 1)) (ls2 := [(2, vI (x2 + 1)), (1, vI (x1 + 1)), (0, vR 2 sx0 wx0)]) dX2_markersDue_21 rfl rfl (by decide) rfl ?_
      refine ok_goto (tgt := 4) dX2_markersDue_24 (by decide) ?_
      exact ok_sub [(0, vR 2 sx0 wx0), (1, vI (x1 + 1)), (2, vI (x2 + 1))] [2, 1, 0] rfl h
set_option maxRecDepth 100000 in
set_option maxHeartbeats 4000000 in
theorem eX2_partSet {a b : xA} {h0 : Int64} {Q : Int32 → xM → Prop} {sx0 wx0 : Nat} (hsx0 : sx0 < 7) (hwx0 : wx0 < 4) (h : xOk mX2_partSet 4 [(0, vR 2 sx0 wx0), (1, vI (0 : Int32)), (2, vI (0 : Int32))] [] (a, (b, h0)) (qI Q)) : CI mX2_partSet [vR 2 sx0 wx0] (a, (b, h0)) Q := by
  refine xCalls_of (by decide) (Nat.le_of_ble_eq_true rfl) ?_
  show xOk mX2_partSet 0 [(0, vR 2 sx0 wx0)] [] (a, (b, h0)) (qI Q)
  refine ok_iconst (v := (0 : Int32)) dX2_partSet_0 (by decide) ?_
  refine ok_istore_n (ls2 := [(1, vI (0 : Int32)), (0, vR 2 sx0 wx0)]) dX2_partSet_1 rfl (by decide) rfl ?_
  refine ok_iconst (v := (0 : Int32)) dX2_partSet_2 (by decide) ?_
  refine ok_istore_n (ls2 := [(2, vI (0 : Int32)), (1, vI (0 : Int32)), (0, vR 2 sx0 wx0)]) dX2_partSet_3 rfl (by decide) rfl ?_
  exact ok_sub [(0, vR 2 sx0 wx0), (1, vI (0 : Int32)), (2, vI (0 : Int32))] [2, 1, 0] rfl h
set_option maxRecDepth 100000 in
set_option maxHeartbeats 4000000 in
theorem rX2_partSet_4 {a b : xA} {h0 : Int64} {Q : Int32 → xM → Prop} {sx0 wx0 : Nat} {x1 : Int32} {x2 : Int32} (hsx0 : sx0 < 7) (hwx0 : wx0 < 4) (h : (((3 : Int32) ≤ x2 → Q x1 (a, (b, h0))) ∧ (¬ (3 : Int32) ≤ x2 → (vp_in x2 3 ∧ (((a 17 sx0 wx0 (Int32.toNatClampNeg x2)) = (-1 : Int32) → xOk mX2_partSet 4 [(0, vR 2 sx0 wx0), (1, vI x1), (2, vI (x2 + 1))] [] (a, (b, h0)) (qI Q)) ∧ (¬ (a 17 sx0 wx0 (Int32.toNatClampNeg x2)) = (-1 : Int32) → xOk mX2_partSet 4 [(0, vR 2 sx0 wx0), (1, vI (x1 ||| ((1 : Int32) <<< (x2 &&& 31)))), (2, vI (x2 + 1))] [] (a, (b, h0)) (qI Q))))))) : xOk mX2_partSet 4 [(0, vR 2 sx0 wx0), (1, vI x1), (2, vI x2)] [] (a, (b, h0)) (qI Q) := by
  refine ok_iload_n (j := 2) dX2_partSet_4 rfl rfl ?_
  refine ok_iconst (v := (3 : Int32)) dX2_partSet_5 (by decide) ?_
  refine ok_icmp_ge (tgt := 31) dX2_partSet_6 (by decide) ⟨fun z => ?_, fun z => ?_⟩
  · have h := h.1 z
    refine ok_iload_n (j := 1) dX2_partSet_31 rfl rfl ?_
    exact ok_iret rfl dX2_partSet_32 ⟨_, rfl, h⟩
  · have h := h.2 z
    refine ok_aload_n (j := 0) dX2_partSet_9 rfl rfl ?_
    refine gf_2_4 dX2_partSet_10 (v2 hsx0 hwx0) xw_43 ?_
    refine ok_iload_n (j := 2) dX2_partSet_13 rfl rfl ?_
    obtain ⟨hb1, h⟩ := h
    refine al_17 dX2_partSet_14 (v17 hsx0 hwx0) hb1 ?_
    refine ok_iconst (v := (-1 : Int32)) dX2_partSet_15 (by decide) ?_
    refine ok_icmp_eq (tgt := 25) dX2_partSet_16 (by decide) ⟨fun z => ?_, fun z => ?_⟩
    · have h := h.1 z
      refine ok_iinc (j := 2) (v := (x2 + 1)) (ls2 := [(2, vI (x2 + 1)), (0, vR 2 sx0 wx0), (1, vI x1)]) dX2_partSet_25 rfl rfl (by decide) rfl ?_
      refine ok_goto (tgt := 4) dX2_partSet_28 (by decide) ?_
      exact ok_sub [(0, vR 2 sx0 wx0), (1, vI x1), (2, vI (x2 + 1))] [1, 2, 0] rfl h
    · have h := h.2 z
      refine ok_iload_n (j := 1) dX2_partSet_19 rfl rfl ?_
      refine ok_iconst (v := (1 : Int32)) dX2_partSet_20 (by decide) ?_
      refine ok_iload_n (j := 2) dX2_partSet_21 rfl rfl ?_
      refine ok_ishl dX2_partSet_22 ?_
      refine ok_ior dX2_partSet_23 ?_
      refine ok_istore_n (ls2 := [(1, vI (x1 ||| ((1 : Int32) <<< (x2 &&& 31)))), (0, vR 2 sx0 wx0), (2, vI x2)]) dX2_partSet_24 rfl (by decide) rfl ?_
      refine ok_iinc (j := 2) (v := (x2 + 1)) (ls2 := [(2, vI (x2 + 1)), (1, vI (x1 ||| ((1 : Int32) <<< (x2 &&& 31)))), (0, vR 2 sx0 wx0)]) dX2_partSet_25 rfl rfl (by decide) rfl ?_
      refine ok_goto (tgt := 4) dX2_partSet_28 (by decide) ?_
      exact ok_sub [(0, vR 2 sx0 wx0), (1, vI (x1 ||| ((1 : Int32) <<< (x2 &&& 31)))), (2, vI (x2 + 1))] [2, 1, 0] rfl h
set_option maxRecDepth 100000 in
set_option maxHeartbeats 4000000 in
theorem eX1_fate {a b : xA} {h0 : Int64} {Q : Int32 → xM → Prop} {wx0 : Nat} {x1 : Int32} (hwx0 : wx0 < 3) (h : (CI mX1_isMarker [vR 1 0 wx0, vI x1] (a, (b, h0)) (fun r1 μ1 => ((r1 = 0 → (vp_in x1 48 ∧ (CI mX5_outside [vI (μ1.1 14 0 wx0 (Int32.toNatClampNeg x1)), vI (μ1.1 1 0 wx0 0)] μ1 (fun r3 μ3 => ((r3 = 0 → (vp_in (μ1.1 14 0 wx0 (Int32.toNatClampNeg x1)) 48 ∧ (CI mX5_outside [vI (μ3.1 15 0 wx0 (Int32.toNatClampNeg (μ1.1 14 0 wx0 (Int32.toNatClampNeg x1)))), vI (μ3.1 1 0 wx0 0)] μ3 (fun r5 μ5 => ((r5 = 0 → (vp_in (μ3.1 15 0 wx0 (Int32.toNatClampNeg (μ1.1 14 0 wx0 (Int32.toNatClampNeg x1)))) 48 ∧ ((¬ (μ5.1 13 0 wx0 (Int32.toNatClampNeg (μ3.1 15 0 wx0 (Int32.toNatClampNeg (μ1.1 14 0 wx0 (Int32.toNatClampNeg x1)))))) = (1 : Int32) → Q (3 : Int32) μ5) ∧ ((μ5.1 13 0 wx0 (Int32.toNatClampNeg (μ3.1 15 0 wx0 (Int32.toNatClampNeg (μ1.1 14 0 wx0 (Int32.toNatClampNeg x1)))))) = (1 : Int32) → Q (2 : Int32) μ5)))) ∧ (¬ r5 = 0 → Q (1 : Int32) μ5)))))) ∧ (¬ r3 = 0 → Q (0 : Int32) μ3)))))) ∧ (¬ r1 = 0 → Q (-1 : Int32) μ1))))) : CI mX1_fate [vR 1 0 wx0, vI x1] (a, (b, h0)) Q := by
  refine xCalls_of (by decide) (Nat.le_of_ble_eq_true rfl) ?_
  show xOk mX1_fate 0 [(0, vR 1 0 wx0), (1, vI x1)] [] (a, (b, h0)) (qI Q)
  refine ok_aload_n (j := 0) dX1_fate_0 rfl rfl ?_
  refine ok_iload_n (j := 1) dX1_fate_1 rfl rfl ?_
  refine ok_callV (M' := mX1_isMarker) [vI x1] dX1_fate_2 xw_280 fV_X1_isMarker fS_X1_isMarker rfl (by decide) (v1 hwx0) (ob_1 _ _ _) rfl (Nat.le_of_ble_eq_true rfl) (CI.to (CI.mono h ?_))
  intro r1 μ1 h
  refine ok_if_eq (tgt := 10) dX1_fate_5 (by decide) ⟨fun z => ?_, fun z => ?_⟩
  · have h := h.1 z
    refine ok_aload_n (j := 0) dX1_fate_10 rfl rfl ?_
    refine gf_1_5 dX1_fate_11 (v1 hwx0) xw_155 ?_
    refine ok_iload_n (j := 1) dX1_fate_14 rfl rfl ?_
    obtain ⟨hb2, h⟩ := h
    refine al_14 dX1_fate_15 (v14 hwx0) hb2 ?_
    refine ok_istore_n (ls2 := [(2, vI (μ1.1 14 0 wx0 (Int32.toNatClampNeg x1))), (0, vR 1 0 wx0), (1, vI x1)]) dX1_fate_16 rfl (by decide) rfl ?_
    refine ok_iload_n (j := 0) dX1_fate_17 rfl rfl ?_
    refine ok_aload_n (j := 1) dX1_fate_18 rfl rfl ?_
    refine gf_1_0 dX1_fate_19 (v1 hwx0) xw_145 ?_
    refine ok_callSN (M' := mX5_outside) [vI (μ1.1 14 0 wx0 (Int32.toNatClampNeg x1)), vI (μ1.1 1 0 wx0 0)] dX1_fate_22 (fun _ _ z => z.2) fV_X5_outside fS_X5_outside ⟨by decide, by decide⟩ rfl (Nat.le_of_ble_eq_true rfl) (CI.to (CI.mono h ?_))
    intro r3 μ3 h
    refine ok_if_eq (tgt := 30) dX1_fate_25 (by decide) ⟨fun z => ?_, fun z => ?_⟩
    · have h := h.1 z
      refine ok_aload_n (j := 1) dX1_fate_30 rfl rfl ?_
      refine gf_1_6 dX1_fate_31 (v1 hwx0) xw_156 ?_
      refine ok_iload_n (j := 0) dX1_fate_34 rfl rfl ?_
      obtain ⟨hb4, h⟩ := h
      refine al_15 dX1_fate_35 (v15 hwx0) hb4 ?_
      refine ok_istore_n (ls2 := [(3, vI (μ3.1 15 0 wx0 (Int32.toNatClampNeg (μ1.1 14 0 wx0 (Int32.toNatClampNeg x1))))), (2, vI (μ1.1 14 0 wx0 (Int32.toNatClampNeg x1))), (0, vR 1 0 wx0), (1, vI x1)]) dX1_fate_36 rfl (by decide) rfl ?_
      refine ok_iload_n (j := 0) dX1_fate_37 rfl rfl ?_
      refine ok_aload_n (j := 2) dX1_fate_38 rfl rfl ?_
      refine gf_1_0 dX1_fate_39 (v1 hwx0) xw_145 ?_
      refine ok_callSN (M' := mX5_outside) [vI (μ3.1 15 0 wx0 (Int32.toNatClampNeg (μ1.1 14 0 wx0 (Int32.toNatClampNeg x1)))), vI (μ3.1 1 0 wx0 0)] dX1_fate_42 (fun _ _ z => z.2) fV_X5_outside fS_X5_outside ⟨by decide, by decide⟩ rfl (Nat.le_of_ble_eq_true rfl) (CI.to (CI.mono h ?_))
      intro r5 μ5 h
      refine ok_if_eq (tgt := 50) dX1_fate_45 (by decide) ⟨fun z => ?_, fun z => ?_⟩
      · have h := h.1 z
        refine ok_aload_n (j := 2) dX1_fate_50 rfl rfl ?_
        refine gf_1_4 dX1_fate_51 (v1 hwx0) xw_153 ?_
        refine ok_iload_n (j := 0) dX1_fate_54 rfl rfl ?_
        obtain ⟨hb6, h⟩ := h
        refine al_13 dX1_fate_55 (v13 hwx0) hb6 ?_
        refine ok_iconst (v := (1 : Int32)) dX1_fate_56 (by decide) ?_
        refine ok_icmp_ne (tgt := 64) dX1_fate_57 (by decide) ⟨fun z => ?_, fun z => ?_⟩
        · have h := h.1 z
          refine ok_iconst (v := (3 : Int32)) dX1_fate_64 (by decide) ?_
          exact ok_iret rfl dX1_fate_65 ⟨_, rfl, h⟩
        · have h := h.2 z
          refine ok_iconst (v := (2 : Int32)) dX1_fate_60 (by decide) ?_
          refine ok_goto (tgt := 65) dX1_fate_61 (by decide) ?_
          exact ok_iret rfl dX1_fate_65 ⟨_, rfl, h⟩
      · have h := h.2 z
        refine ok_iconst (v := (1 : Int32)) dX1_fate_48 (by decide) ?_
        exact ok_iret rfl dX1_fate_49 ⟨_, rfl, h⟩
    · have h := h.2 z
      refine ok_iconst (v := (0 : Int32)) dX1_fate_28 (by decide) ?_
      exact ok_iret rfl dX1_fate_29 ⟨_, rfl, h⟩
  · have h := h.2 z
    refine ok_iconst (v := (-1 : Int32)) dX1_fate_8 (by decide) ?_
    exact ok_iret rfl dX1_fate_9 ⟨_, rfl, h⟩
set_option maxRecDepth 100000 in
set_option maxHeartbeats 4000000 in
theorem eX2_holds {a b : xA} {h0 : Int64} {Q : Int32 → xM → Prop} {sx0 wx0 : Nat} {x1 : Int32} (hsx0 : sx0 < 7) (hwx0 : wx0 < 4) (h : (vp_in x1 3 ∧ (((a 17 sx0 wx0 (Int32.toNatClampNeg x1)) = (-1 : Int32) → Q (0 : Int32) (a, (b, h0))) ∧ (¬ (a 17 sx0 wx0 (Int32.toNatClampNeg x1)) = (-1 : Int32) → (((a 2 sx0 wx0 1) = (1 : Int32) → Q (1 : Int32) (a, (b, h0))) ∧ (¬ (a 2 sx0 wx0 1) = (1 : Int32) → (vp_in x1 3 ∧ (((a 18 sx0 wx0 (Int32.toNatClampNeg x1)) = 0 → Q (0 : Int32) (a, (b, h0))) ∧ (¬ (a 18 sx0 wx0 (Int32.toNatClampNeg x1)) = 0 → Q (1 : Int32) (a, (b, h0))))))))))) : CI mX2_holds [vR 2 sx0 wx0, vI x1] (a, (b, h0)) Q := by
  refine xCalls_of (by decide) (Nat.le_of_ble_eq_true rfl) ?_
  show xOk mX2_holds 0 [(0, vR 2 sx0 wx0), (1, vI x1)] [] (a, (b, h0)) (qI Q)
  refine ok_aload_n (j := 0) dX2_holds_0 rfl rfl ?_
  refine gf_2_4 dX2_holds_1 (v2 hsx0 hwx0) xw_43 ?_
  refine ok_iload_n (j := 1) dX2_holds_4 rfl rfl ?_
  obtain ⟨hb1, h⟩ := h
  refine al_17 dX2_holds_5 (v17 hsx0 hwx0) hb1 ?_
  refine ok_iconst (v := (-1 : Int32)) dX2_holds_6 (by decide) ?_
  refine ok_icmp_eq (tgt := 31) dX2_holds_7 (by decide) ⟨fun z => ?_, fun z => ?_⟩
  · have h := h.1 z
    refine ok_iconst (v := (0 : Int32)) dX2_holds_31 (by decide) ?_
    exact ok_zret rfl (by decide) dX2_holds_32 ⟨_, rfl, h⟩
  · have h := h.2 z
    refine ok_aload_n (j := 0) dX2_holds_10 rfl rfl ?_
    refine gf_2_1 dX2_holds_11 (v2 hsx0 hwx0) xw_37 ?_
    refine ok_iconst (v := (1 : Int32)) dX2_holds_14 (by decide) ?_
    refine ok_icmp_eq (tgt := 27) dX2_holds_15 (by decide) ⟨fun z => ?_, fun z => ?_⟩
    · have h := h.1 z
      refine ok_iconst (v := (1 : Int32)) dX2_holds_27 (by decide) ?_
      refine ok_goto (tgt := 32) dX2_holds_28 (by decide) ?_
      exact ok_zret rfl (by decide) dX2_holds_32 ⟨_, rfl, h⟩
    · have h := h.2 z
      refine ok_aload_n (j := 0) dX2_holds_18 rfl rfl ?_
      refine gf_2_5 dX2_holds_19 (v2 hsx0 hwx0) xw_45 ?_
      refine ok_iload_n (j := 1) dX2_holds_22 rfl rfl ?_
      obtain ⟨hb2, h⟩ := h
      refine al_18 dX2_holds_23 (v18 hsx0 hwx0) hb2 ?_
      refine ok_if_eq (tgt := 31) dX2_holds_24 (by decide) ⟨fun z => ?_, fun z => ?_⟩
      · have h := h.1 z
        refine ok_iconst (v := (0 : Int32)) dX2_holds_31 (by decide) ?_
        exact ok_zret rfl (by decide) dX2_holds_32 ⟨_, rfl, h⟩
      · have h := h.2 z
        refine ok_iconst (v := (1 : Int32)) dX2_holds_27 (by decide) ?_
        refine ok_goto (tgt := 32) dX2_holds_28 (by decide) ?_
        exact ok_zret rfl (by decide) dX2_holds_32 ⟨_, rfl, h⟩
set_option maxRecDepth 100000 in
set_option maxHeartbeats 4000000 in
theorem eX1_isVisible {a b : xA} {h0 : Int64} {Q : Int32 → xM → Prop} {wx0 : Nat} {x1 : Int32} {x2 : Int32} (hwx0 : wx0 < 3) (h : (CI mX1_fate [vR 1 0 wx0, vI x1] (a, (b, h0)) (fun r1 μ1 => ((x2 ≤ x1 → Q (0 : Int32) μ1) ∧ (¬ x2 ≤ x1 → ((r1 = 0 → Q (1 : Int32) μ1) ∧ (¬ r1 = 0 → ((¬ r1 = (2 : Int32) → Q (0 : Int32) μ1) ∧ (r1 = (2 : Int32) → Q (1 : Int32) μ1))))))))) : CI mX1_isVisible [vR 1 0 wx0, vI x1, vI x2] (a, (b, h0)) Q := by
  refine xCalls_of (by decide) (Nat.le_of_ble_eq_true rfl) ?_
  show xOk mX1_isVisible 0 [(0, vR 1 0 wx0), (1, vI x1), (2, vI x2)] [] (a, (b, h0)) (qI Q)
  refine ok_aload_n (j := 0) dX1_isVisible_0 rfl rfl ?_
  refine ok_iload_n (j := 1) dX1_isVisible_1 rfl rfl ?_
  refine ok_callV (M' := mX1_fate) [vI x1] dX1_isVisible_2 xw_367 fV_X1_fate fS_X1_fate rfl (by decide) (v1 hwx0) (ob_1 _ _ _) rfl (Nat.le_of_ble_eq_true rfl) (CI.to (CI.mono h ?_))
  intro r1 μ1 h
  refine ok_istore_n (ls2 := [(3, vI r1), (0, vR 1 0 wx0), (1, vI x1), (2, vI x2)]) dX1_isVisible_5 rfl (by decide) rfl ?_
  refine ok_iload_n (j := 2) dX1_isVisible_6 rfl rfl ?_
  refine ok_iload_n (j := 3) dX1_isVisible_7 rfl rfl ?_
  refine ok_icmp_ge (tgt := 24) dX1_isVisible_8 (by decide) ⟨fun z => ?_, fun z => ?_⟩
  · have h := h.1 z
    refine ok_iconst (v := (0 : Int32)) dX1_isVisible_24 (by decide) ?_
    exact ok_zret rfl (by decide) dX1_isVisible_25 ⟨_, rfl, h⟩
  · have h := h.2 z
    refine ok_iload_n (j := 0) dX1_isVisible_11 rfl rfl ?_
    refine ok_if_eq (tgt := 20) dX1_isVisible_12 (by decide) ⟨fun z => ?_, fun z => ?_⟩
    · have h := h.1 z
      refine ok_iconst (v := (1 : Int32)) dX1_isVisible_20 (by decide) ?_
      refine ok_goto (tgt := 25) dX1_isVisible_21 (by decide) ?_
      exact ok_zret rfl (by decide) dX1_isVisible_25 ⟨_, rfl, h⟩
    · have h := h.2 z
      refine ok_iload_n (j := 0) dX1_isVisible_15 rfl rfl ?_
      refine ok_iconst (v := (2 : Int32)) dX1_isVisible_16 (by decide) ?_
      refine ok_icmp_ne (tgt := 24) dX1_isVisible_17 (by decide) ⟨fun z => ?_, fun z => ?_⟩
      · have h := h.1 z
        refine ok_iconst (v := (0 : Int32)) dX1_isVisible_24 (by decide) ?_
        exact ok_zret rfl (by decide) dX1_isVisible_25 ⟨_, rfl, h⟩
      · have h := h.2 z
        refine ok_iconst (v := (1 : Int32)) dX1_isVisible_20 (by decide) ?_
        refine ok_goto (tgt := 25) dX1_isVisible_21 (by decide) ?_
        exact ok_zret rfl (by decide) dX1_isVisible_25 ⟨_, rfl, h⟩
set_option maxRecDepth 100000 in
set_option maxHeartbeats 4000000 in
theorem eX1_visibleFrom {a b : xA} {h0 : Int64} {Q : Int32 → xM → Prop} {wx0 : Nat} {x1 : Int32} {x2 : Int32} (hwx0 : wx0 < 3) (h : xOk mX1_visibleFrom 5 [(0, vR 1 0 wx0), (2, vI x2), (3, vI (0 : Int32)), (4, vI x1)] [] (a, (b, h0)) (qI Q)) : CI mX1_visibleFrom [vR 1 0 wx0, vI x1, vI x2] (a, (b, h0)) Q := by
  refine xCalls_of (by decide) (Nat.le_of_ble_eq_true rfl) ?_
  show xOk mX1_visibleFrom 0 [(0, vR 1 0 wx0), (1, vI x1), (2, vI x2)] [] (a, (b, h0)) (qI Q)
  refine ok_iconst (v := (0 : Int32)) dX1_visibleFrom_0 (by decide) ?_
  refine ok_istore_n (ls2 := [(3, vI (0 : Int32)), (0, vR 1 0 wx0), (1, vI x1), (2, vI x2)]) dX1_visibleFrom_1 rfl (by decide) rfl ?_
  refine ok_iload_n (j := 2) dX1_visibleFrom_2 rfl rfl ?_
  refine ok_istore (ls2 := [(4, vI x1), (3, vI (0 : Int32)), (0, vR 1 0 wx0), (1, vI x1), (2, vI x2)]) dX1_visibleFrom_3 (by decide) rfl ?_
  exact ok_sub [(0, vR 1 0 wx0), (2, vI x2), (3, vI (0 : Int32)), (4, vI x1)] [2, 4, 1, 0] rfl h
set_option maxRecDepth 100000 in
set_option maxHeartbeats 4000000 in
theorem rX1_visibleFrom_5 {a b : xA} {h0 : Int64} {Q : Int32 → xM → Prop} {wx0 : Nat} {x2 : Int32} {x3 : Int32} {x4 : Int32} (hwx0 : wx0 < 3) (h : (((a 1 0 wx0 0) ≤ x4 → Q x3 (a, (b, h0))) ∧ (¬ (a 1 0 wx0 0) ≤ x4 → (CI mX1_isVisible [vR 1 0 wx0, vI x4, vI x2] (a, (b, h0)) (fun r1 μ1 => ((r1 = 0 → xOk mX1_visibleFrom 5 [(0, vR 1 0 wx0), (2, vI x2), (3, vI x3), (4, vI (x4 + 1))] [] μ1 (qI Q)) ∧ (¬ r1 = 0 → xOk mX1_visibleFrom 5 [(0, vR 1 0 wx0), (2, vI x2), (3, vI (x3 + 1)), (4, vI (x4 + 1))] [] μ1 (qI Q)))))))) : xOk mX1_visibleFrom 5 [(0, vR 1 0 wx0), (2, vI x2), (3, vI x3), (4, vI x4)] [] (a, (b, h0)) (qI Q) := by
  refine ok_iload (j := 3) dX1_visibleFrom_5 rfl ?_
  refine ok_aload_n (j := 0) dX1_visibleFrom_7 rfl rfl ?_
  refine gf_1_0 dX1_visibleFrom_8 (v1 hwx0) xw_145 ?_
  refine ok_icmp_ge (tgt := 33) dX1_visibleFrom_11 (by decide) ⟨fun z => ?_, fun z => ?_⟩
  · have h := h.1 z
    refine ok_iload_n (j := 2) dX1_visibleFrom_33 rfl rfl ?_
    exact ok_iret rfl dX1_visibleFrom_34 ⟨_, rfl, h⟩
  · have h := h.2 z
    refine ok_aload_n (j := 0) dX1_visibleFrom_14 rfl rfl ?_
    refine ok_iload (j := 3) dX1_visibleFrom_15 rfl ?_
    refine ok_iload_n (j := 1) dX1_visibleFrom_17 rfl rfl ?_
    refine ok_callV (M' := mX1_isVisible) [vI x4, vI x2] dX1_visibleFrom_18 xw_376 fV_X1_isVisible fS_X1_isVisible rfl (by decide) (v1 hwx0) (ob_1 _ _ _) rfl (Nat.le_of_ble_eq_true rfl) (CI.to (CI.mono h ?_))
    intro r1 μ1 h
    refine ok_if_eq (tgt := 27) dX1_visibleFrom_21 (by decide) ⟨fun z => ?_, fun z => ?_⟩
    · have h := h.1 z
      refine ok_iinc (j := 3) (v := (x4 + 1)) (ls2 := [(4, vI (x4 + 1)), (0, vR 1 0 wx0), (2, vI x2), (3, vI x3)]) dX1_visibleFrom_27 rfl rfl (by decide) rfl ?_
      refine ok_goto (tgt := 5) dX1_visibleFrom_30 (by decide) ?_
      exact ok_sub [(0, vR 1 0 wx0), (2, vI x2), (3, vI x3), (4, vI (x4 + 1))] [1, 2, 3, 0] rfl h
    · have h := h.2 z
      refine ok_iinc (j := 2) (v := (x3 + 1)) (ls2 := [(3, vI (x3 + 1)), (0, vR 1 0 wx0), (2, vI x2), (4, vI x4)]) dX1_visibleFrom_24 rfl rfl (by decide) rfl ?_
      refine ok_iinc (j := 3) (v := (x4 + 1)) (ls2 := [(4, vI (x4 + 1)), (3, vI (x3 + 1)), (0, vR 1 0 wx0), (2, vI x2)]) dX1_visibleFrom_27 rfl rfl (by decide) rfl ?_
      refine ok_goto (tgt := 5) dX1_visibleFrom_30 (by decide) ?_
      exact ok_sub [(0, vR 1 0 wx0), (2, vI x2), (3, vI (x3 + 1)), (4, vI (x4 + 1))] [2, 3, 1, 0] rfl h
set_option maxRecDepth 100000 in
set_option maxHeartbeats 4000000 in
theorem eX1_abortedDeeds {a b : xA} {h0 : Int64} {Q : Int32 → xM → Prop} {wx0 : Nat} (hwx0 : wx0 < 3) (h : xOk mX1_abortedDeeds 4 [(0, vR 1 0 wx0), (1, vI (0 : Int32)), (2, vI (0 : Int32))] [] (a, (b, h0)) (qI Q)) : CI mX1_abortedDeeds [vR 1 0 wx0] (a, (b, h0)) Q := by
  refine xCalls_of (by decide) (Nat.le_of_ble_eq_true rfl) ?_
  show xOk mX1_abortedDeeds 0 [(0, vR 1 0 wx0)] [] (a, (b, h0)) (qI Q)
  refine ok_iconst (v := (0 : Int32)) dX1_abortedDeeds_0 (by decide) ?_
  refine ok_istore_n (ls2 := [(1, vI (0 : Int32)), (0, vR 1 0 wx0)]) dX1_abortedDeeds_1 rfl (by decide) rfl ?_
  refine ok_iconst (v := (0 : Int32)) dX1_abortedDeeds_2 (by decide) ?_
  refine ok_istore_n (ls2 := [(2, vI (0 : Int32)), (1, vI (0 : Int32)), (0, vR 1 0 wx0)]) dX1_abortedDeeds_3 rfl (by decide) rfl ?_
  exact ok_sub [(0, vR 1 0 wx0), (1, vI (0 : Int32)), (2, vI (0 : Int32))] [2, 1, 0] rfl h
set_option maxRecDepth 100000 in
set_option maxHeartbeats 4000000 in
theorem rX1_abortedDeeds_4 {a b : xA} {h0 : Int64} {Q : Int32 → xM → Prop} {wx0 : Nat} {x1 : Int32} {x2 : Int32} (hwx0 : wx0 < 3) (h : (((a 1 0 wx0 0) ≤ x2 → Q x1 (a, (b, h0))) ∧ (¬ (a 1 0 wx0 0) ≤ x2 → (CI mX1_startsAborted [vR 1 0 wx0, vI x2] (a, (b, h0)) (fun r1 μ1 => ((r1 = 0 → xOk mX1_abortedDeeds 4 [(0, vR 1 0 wx0), (1, vI x1), (2, vI (x2 + 1))] [] μ1 (qI Q)) ∧ (¬ r1 = 0 → xOk mX1_abortedDeeds 4 [(0, vR 1 0 wx0), (1, vI (x1 + 1)), (2, vI (x2 + 1))] [] μ1 (qI Q)))))))) : xOk mX1_abortedDeeds 4 [(0, vR 1 0 wx0), (1, vI x1), (2, vI x2)] [] (a, (b, h0)) (qI Q) := by
  refine ok_iload_n (j := 2) dX1_abortedDeeds_4 rfl rfl ?_
  refine ok_aload_n (j := 0) dX1_abortedDeeds_5 rfl rfl ?_
  refine gf_1_0 dX1_abortedDeeds_6 (v1 hwx0) xw_145 ?_
  refine ok_icmp_ge (tgt := 29) dX1_abortedDeeds_9 (by decide) ⟨fun z => ?_, fun z => ?_⟩
  · have h := h.1 z
    refine ok_iload_n (j := 1) dX1_abortedDeeds_29 rfl rfl ?_
    exact ok_iret rfl dX1_abortedDeeds_30 ⟨_, rfl, h⟩
  · have h := h.2 z
    refine ok_aload_n (j := 0) dX1_abortedDeeds_12 rfl rfl ?_
    refine ok_iload_n (j := 2) dX1_abortedDeeds_13 rfl rfl ?_
    refine ok_callV (M' := mX1_startsAborted) [vI x2] dX1_abortedDeeds_14 xw_381 fV_X1_startsAborted fS_X1_startsAborted rfl (by decide) (v1 hwx0) (ob_1 _ _ _) rfl (Nat.le_of_ble_eq_true rfl) (CI.to (CI.mono h ?_))
    intro r1 μ1 h
    refine ok_if_eq (tgt := 23) dX1_abortedDeeds_17 (by decide) ⟨fun z => ?_, fun z => ?_⟩
    · have h := h.1 z
      refine ok_iinc (j := 2) (v := (x2 + 1)) (ls2 := [(2, vI (x2 + 1)), (0, vR 1 0 wx0), (1, vI x1)]) dX1_abortedDeeds_23 rfl rfl (by decide) rfl ?_
      refine ok_goto (tgt := 4) dX1_abortedDeeds_26 (by decide) ?_
      exact ok_sub [(0, vR 1 0 wx0), (1, vI x1), (2, vI (x2 + 1))] [1, 2, 0] rfl h
    · have h := h.2 z
      refine ok_iinc (j := 1) (v := (x1 + 1)) (ls2 := [(1, vI (x1 + 1)), (0, vR 1 0 wx0), (2, vI x2)]) dX1_abortedDeeds_20 rfl rfl (by decide) rfl ?_
      refine ok_iinc (j := 2) (v := (x2 + 1)) (ls2 := [(2, vI (x2 + 1)), (1, vI (x1 + 1)), (0, vR 1 0 wx0)]) dX1_abortedDeeds_23 rfl rfl (by decide) rfl ?_
      refine ok_goto (tgt := 4) dX1_abortedDeeds_26 (by decide) ?_
      exact ok_sub [(0, vR 1 0 wx0), (1, vI (x1 + 1)), (2, vI (x2 + 1))] [2, 1, 0] rfl h
set_option maxRecDepth 100000 in
set_option maxHeartbeats 4000000 in
theorem eX1_startsAborted {a b : xA} {h0 : Int64} {Q : Int32 → xM → Prop} {wx0 : Nat} {x1 : Int32} (hwx0 : wx0 < 3) (h : (vp_in x1 48 ∧ ((¬ (a 14 0 wx0 (Int32.toNatClampNeg x1)) = x1 → Q (0 : Int32) (a, (b, h0))) ∧ ((a 14 0 wx0 (Int32.toNatClampNeg x1)) = x1 → (CI mX1_fate [vR 1 0 wx0, vI x1] (a, (b, h0)) (fun r2 μ2 => ((¬ r2 = (3 : Int32) → Q (0 : Int32) μ2) ∧ (r2 = (3 : Int32) → Q (1 : Int32) μ2)))))))) : CI mX1_startsAborted [vR 1 0 wx0, vI x1] (a, (b, h0)) Q := by
  refine xCalls_of (by decide) (Nat.le_of_ble_eq_true rfl) ?_
  show xOk mX1_startsAborted 0 [(0, vR 1 0 wx0), (1, vI x1)] [] (a, (b, h0)) (qI Q)
  refine ok_aload_n (j := 0) dX1_startsAborted_0 rfl rfl ?_
  refine gf_1_5 dX1_startsAborted_1 (v1 hwx0) xw_155 ?_
  refine ok_iload_n (j := 1) dX1_startsAborted_4 rfl rfl ?_
  obtain ⟨hb1, h⟩ := h
  refine al_14 dX1_startsAborted_5 (v14 hwx0) hb1 ?_
  refine ok_iload_n (j := 1) dX1_startsAborted_6 rfl rfl ?_
  refine ok_icmp_ne (tgt := 23) dX1_startsAborted_7 (by decide) ⟨fun z => ?_, fun z => ?_⟩
  · have h := h.1 z
    refine ok_iconst (v := (0 : Int32)) dX1_startsAborted_23 (by decide) ?_
    exact ok_zret rfl (by decide) dX1_startsAborted_24 ⟨_, rfl, h⟩
  · have h := h.2 z
    refine ok_aload_n (j := 0) dX1_startsAborted_10 rfl rfl ?_
    refine ok_iload_n (j := 1) dX1_startsAborted_11 rfl rfl ?_
    refine ok_callV (M' := mX1_fate) [vI x1] dX1_startsAborted_12 xw_367 fV_X1_fate fS_X1_fate rfl (by decide) (v1 hwx0) (ob_1 _ _ _) rfl (Nat.le_of_ble_eq_true rfl) (CI.to (CI.mono h ?_))
    intro r2 μ2 h
    refine ok_iconst (v := (3 : Int32)) dX1_startsAborted_15 (by decide) ?_
    refine ok_icmp_ne (tgt := 23) dX1_startsAborted_16 (by decide) ⟨fun z => ?_, fun z => ?_⟩
    · have h := h.1 z
      refine ok_iconst (v := (0 : Int32)) dX1_startsAborted_23 (by decide) ?_
      exact ok_zret rfl (by decide) dX1_startsAborted_24 ⟨_, rfl, h⟩
    · have h := h.2 z
      refine ok_iconst (v := (1 : Int32)) dX1_startsAborted_19 (by decide) ?_
      refine ok_goto (tgt := 24) dX1_startsAborted_20 (by decide) ?_
      exact ok_zret rfl (by decide) dX1_startsAborted_24 ⟨_, rfl, h⟩
set_option maxRecDepth 100000 in
set_option maxHeartbeats 4000000 in
theorem eX1_abortedFirst {a b : xA} {h0 : Int64} {Q : Int32 → xM → Prop} {wx0 : Nat} {x1 : Int32} (hwx0 : wx0 < 3) (h : xOk mX1_abortedFirst 4 [(0, vR 1 0 wx0), (1, vI x1), (2, vI (0 : Int32)), (3, vI (0 : Int32))] [] (a, (b, h0)) (qI Q)) : CI mX1_abortedFirst [vR 1 0 wx0, vI x1] (a, (b, h0)) Q := by
  refine xCalls_of (by decide) (Nat.le_of_ble_eq_true rfl) ?_
  show xOk mX1_abortedFirst 0 [(0, vR 1 0 wx0), (1, vI x1)] [] (a, (b, h0)) (qI Q)
  refine ok_iconst (v := (0 : Int32)) dX1_abortedFirst_0 (by decide) ?_
  refine ok_istore_n (ls2 := [(2, vI (0 : Int32)), (0, vR 1 0 wx0), (1, vI x1)]) dX1_abortedFirst_1 rfl (by decide) rfl ?_
  refine ok_iconst (v := (0 : Int32)) dX1_abortedFirst_2 (by decide) ?_
  refine ok_istore_n (ls2 := [(3, vI (0 : Int32)), (2, vI (0 : Int32)), (0, vR 1 0 wx0), (1, vI x1)]) dX1_abortedFirst_3 rfl (by decide) rfl ?_
  exact ok_sub [(0, vR 1 0 wx0), (1, vI x1), (2, vI (0 : Int32)), (3, vI (0 : Int32))] [2, 3, 1, 0] rfl h
set_option maxRecDepth 100000 in
set_option maxHeartbeats 4000000 in
theorem rX1_abortedFirst_4 {a b : xA} {h0 : Int64} {Q : Int32 → xM → Prop} {wx0 : Nat} {x1 : Int32} {x2 : Int32} {x3 : Int32} (hwx0 : wx0 < 3) (h : (((a 1 0 wx0 0) ≤ x3 → Q (-1 : Int32) (a, (b, h0))) ∧ (¬ (a 1 0 wx0 0) ≤ x3 → (CI mX1_startsAborted [vR 1 0 wx0, vI x3] (a, (b, h0)) (fun r1 μ1 => ((r1 = 0 → xOk mX1_abortedFirst 4 [(0, vR 1 0 wx0), (1, vI x1), (2, vI x2), (3, vI (x3 + 1))] [] μ1 (qI Q)) ∧ (¬ r1 = 0 → ((¬ x2 = x1 → xOk mX1_abortedFirst 4 [(0, vR 1 0 wx0), (1, vI x1), (2, vI (x2 + 1)), (3, vI (x3 + 1))] [] μ1 (qI Q)) ∧ (x2 = x1 → Q x3 μ1))))))))) : xOk mX1_abortedFirst 4 [(0, vR 1 0 wx0), (1, vI x1), (2, vI x2), (3, vI x3)] [] (a, (b, h0)) (qI Q) := by
  refine ok_iload_n (j := 3) dX1_abortedFirst_4 rfl rfl ?_
  refine ok_aload_n (j := 0) dX1_abortedFirst_5 rfl rfl ?_
  refine gf_1_0 dX1_abortedFirst_6 (v1 hwx0) xw_145 ?_
  refine ok_icmp_ge (tgt := 36) dX1_abortedFirst_9 (by decide) ⟨fun z => ?_, fun z => ?_⟩
  · have h := h.1 z
    refine ok_iconst (v := (-1 : Int32)) dX1_abortedFirst_36 (by decide) ?_
    exact ok_iret rfl dX1_abortedFirst_37 ⟨_, rfl, h⟩
  · have h := h.2 z
    refine ok_aload_n (j := 0) dX1_abortedFirst_12 rfl rfl ?_
    refine ok_iload_n (j := 3) dX1_abortedFirst_13 rfl rfl ?_
    refine ok_callV (M' := mX1_startsAborted) [vI x3] dX1_abortedFirst_14 xw_381 fV_X1_startsAborted fS_X1_startsAborted rfl (by decide) (v1 hwx0) (ob_1 _ _ _) rfl (Nat.le_of_ble_eq_true rfl) (CI.to (CI.mono h ?_))
    intro r1 μ1 h
    refine ok_if_eq (tgt := 30) dX1_abortedFirst_17 (by decide) ⟨fun z => ?_, fun z => ?_⟩
    · have h := h.1 z
      refine ok_iinc (j := 3) (v := (x3 + 1)) (ls2 := [(3, vI (x3 + 1)), (0, vR 1 0 wx0), (1, vI x1), (2, vI x2)]) dX1_abortedFirst_30 rfl rfl (by decide) rfl ?_
      refine ok_goto (tgt := 4) dX1_abortedFirst_33 (by decide) ?_
      exact ok_sub [(0, vR 1 0 wx0), (1, vI x1), (2, vI x2), (3, vI (x3 + 1))] [1, 2, 3, 0] rfl h
    · have h := h.2 z
      refine ok_iload_n (j := 2) dX1_abortedFirst_20 rfl rfl ?_
      refine ok_iload_n (j := 1) dX1_abortedFirst_21 rfl rfl ?_
      refine ok_icmp_ne (tgt := 27) dX1_abortedFirst_22 (by decide) ⟨fun z => ?_, fun z => ?_⟩
      · have h := h.1 z
        refine ok_iinc (j := 2) (v := (x2 + 1)) (ls2 := [(2, vI (x2 + 1)), (0, vR 1 0 wx0), (1, vI x1), (3, vI x3)]) dX1_abortedFirst_27 rfl rfl (by decide) rfl ?_
        refine ok_iinc (j := 3) (v := (x3 + 1)) (ls2 := [(3, vI (x3 + 1)), (2, vI (x2 + 1)), (0, vR 1 0 wx0), (1, vI x1)]) dX1_abortedFirst_30 rfl rfl (by decide) rfl ?_
        refine ok_goto (tgt := 4) dX1_abortedFirst_33 (by decide) ?_
        exact ok_sub [(0, vR 1 0 wx0), (1, vI x1), (2, vI (x2 + 1)), (3, vI (x3 + 1))] [2, 3, 1, 0] rfl h
      · have h := h.2 z
        refine ok_iload_n (j := 3) dX1_abortedFirst_25 rfl rfl ?_
        exact ok_iret rfl dX1_abortedFirst_26 ⟨_, rfl, h⟩
set_option maxRecDepth 100000 in
set_option maxHeartbeats 4000000 in
theorem eX1_nextVisible {a b : xA} {h0 : Int64} {Q : Int32 → xM → Prop} {wx0 : Nat} {x1 : Int32} {x2 : Int32} (hwx0 : wx0 < 3) (h : xOk mX1_nextVisible 2 [(0, vR 1 0 wx0), (2, vI x2), (3, vI x1)] [] (a, (b, h0)) (qI Q)) : CI mX1_nextVisible [vR 1 0 wx0, vI x1, vI x2] (a, (b, h0)) Q := by
  refine xCalls_of (by decide) (Nat.le_of_ble_eq_true rfl) ?_
  show xOk mX1_nextVisible 0 [(0, vR 1 0 wx0), (1, vI x1), (2, vI x2)] [] (a, (b, h0)) (qI Q)
  refine ok_iload_n (j := 1) dX1_nextVisible_0 rfl rfl ?_
  refine ok_istore_n (ls2 := [(3, vI x1), (0, vR 1 0 wx0), (1, vI x1), (2, vI x2)]) dX1_nextVisible_1 rfl (by decide) rfl ?_
  exact ok_sub [(0, vR 1 0 wx0), (2, vI x2), (3, vI x1)] [1, 3, 0] rfl h
set_option maxRecDepth 100000 in
set_option maxHeartbeats 4000000 in
theorem rX1_nextVisible_2 {a b : xA} {h0 : Int64} {Q : Int32 → xM → Prop} {wx0 : Nat} {x2 : Int32} {x3 : Int32} (hwx0 : wx0 < 3) (h : (((a 1 0 wx0 0) ≤ x3 → Q (-1 : Int32) (a, (b, h0))) ∧ (¬ (a 1 0 wx0 0) ≤ x3 → (CI mX1_isVisible [vR 1 0 wx0, vI x3, vI x2] (a, (b, h0)) (fun r1 μ1 => ((r1 = 0 → xOk mX1_nextVisible 2 [(0, vR 1 0 wx0), (2, vI x2), (3, vI (x3 + 1))] [] μ1 (qI Q)) ∧ (¬ r1 = 0 → Q x3 μ1))))))) : xOk mX1_nextVisible 2 [(0, vR 1 0 wx0), (2, vI x2), (3, vI x3)] [] (a, (b, h0)) (qI Q) := by
  refine ok_iload_n (j := 2) dX1_nextVisible_2 rfl rfl ?_
  refine ok_aload_n (j := 0) dX1_nextVisible_3 rfl rfl ?_
  refine gf_1_0 dX1_nextVisible_4 (v1 hwx0) xw_145 ?_
  refine ok_icmp_ge (tgt := 27) dX1_nextVisible_7 (by decide) ⟨fun z => ?_, fun z => ?_⟩
  · have h := h.1 z
    refine ok_iconst (v := (-1 : Int32)) dX1_nextVisible_27 (by decide) ?_
    exact ok_iret rfl dX1_nextVisible_28 ⟨_, rfl, h⟩
  · have h := h.2 z
    refine ok_aload_n (j := 0) dX1_nextVisible_10 rfl rfl ?_
    refine ok_iload_n (j := 2) dX1_nextVisible_11 rfl rfl ?_
    refine ok_iload_n (j := 1) dX1_nextVisible_12 rfl rfl ?_
    refine ok_callV (M' := mX1_isVisible) [vI x3, vI x2] dX1_nextVisible_13 xw_376 fV_X1_isVisible fS_X1_isVisible rfl (by decide) (v1 hwx0) (ob_1 _ _ _) rfl (Nat.le_of_ble_eq_true rfl) (CI.to (CI.mono h ?_))
    intro r1 μ1 h
    refine ok_if_eq (tgt := 21) dX1_nextVisible_16 (by decide) ⟨fun z => ?_, fun z => ?_⟩
    · have h := h.1 z
      refine ok_iinc (j := 2) (v := (x3 + 1)) (ls2 := [(3, vI (x3 + 1)), (0, vR 1 0 wx0), (2, vI x2)]) dX1_nextVisible_21 rfl rfl (by decide) rfl ?_
      refine ok_goto (tgt := 2) dX1_nextVisible_24 (by decide) ?_
      exact ok_sub [(0, vR 1 0 wx0), (2, vI x2), (3, vI (x3 + 1))] [1, 2, 0] rfl h
    · have h := h.2 z
      refine ok_iload_n (j := 2) dX1_nextVisible_19 rfl rfl ?_
      exact ok_iret rfl dX1_nextVisible_20 ⟨_, rfl, h⟩
set_option maxRecDepth 100000 in
set_option maxHeartbeats 4000000 in
theorem eX0_returnToSaved {a b : xA} {h0 : Int64} {Q : Int32 → xM → Prop} {sx0 wx0 : Nat} (hsx0 : sx0 < 7) (hwx0 : wx0 < 2) (h : xOk mX0_returnToSaved 4 [(0, vR 0 sx0 wx0), (1, vI (0 : Int32)), (2, vI (0 : Int32))] [] (a, (b, h0)) (qI Q)) : CI mX0_returnToSaved [vR 0 sx0 wx0] (a, (b, h0)) Q := by
  refine xCalls_of (by decide) (Nat.le_of_ble_eq_true rfl) ?_
  show xOk mX0_returnToSaved 0 [(0, vR 0 sx0 wx0)] [] (a, (b, h0)) (qI Q)
  refine ok_iconst (v := (0 : Int32)) dX0_returnToSaved_0 (by decide) ?_
  refine ok_istore_n (ls2 := [(1, vI (0 : Int32)), (0, vR 0 sx0 wx0)]) dX0_returnToSaved_1 rfl (by decide) rfl ?_
  refine ok_iconst (v := (0 : Int32)) dX0_returnToSaved_2 (by decide) ?_
  refine ok_istore_n (ls2 := [(2, vI (0 : Int32)), (1, vI (0 : Int32)), (0, vR 0 sx0 wx0)]) dX0_returnToSaved_3 rfl (by decide) rfl ?_
  exact ok_sub [(0, vR 0 sx0 wx0), (1, vI (0 : Int32)), (2, vI (0 : Int32))] [2, 1, 0] rfl h
set_option maxRecDepth 100000 in
set_option maxHeartbeats 4000000 in
theorem rX0_returnToSaved_4 {a b : xA} {h0 : Int64} {Q : Int32 → xM → Prop} {sx0 wx0 : Nat} {x1 : Int32} {x2 : Int32} (hsx0 : sx0 < 7) (hwx0 : wx0 < 2) (h : (((3 : Int32) ≤ x2 → Q x1 (a, (b, h0))) ∧ (¬ (3 : Int32) ≤ x2 → (vp_in x2 3 ∧ (vp_in x2 3 ∧ (((a 20 sx0 wx0 (Int32.toNatClampNeg x2)) = (a 21 sx0 wx0 (Int32.toNatClampNeg x2)) → xOk mX0_returnToSaved 4 [(0, vR 0 sx0 wx0), (1, vI x1), (2, vI (x2 + 1))] [] (a, (b, h0)) (qI Q)) ∧ (¬ (a 20 sx0 wx0 (Int32.toNatClampNeg x2)) = (a 21 sx0 wx0 (Int32.toNatClampNeg x2)) → (vp_in x2 3 ∧ (vp_in x2 3 ∧ xOk mX0_returnToSaved 4 [(0, vR 0 sx0 wx0), (1, vI (x1 + 1)), (2, vI (x2 + 1))] [] ((xUp a 20 sx0 wx0 (Int32.toNatClampNeg x2) (a 21 sx0 wx0 (Int32.toNatClampNeg x2))), (b, h0)) (qI Q)))))))))) : xOk mX0_returnToSaved 4 [(0, vR 0 sx0 wx0), (1, vI x1), (2, vI x2)] [] (a, (b, h0)) (qI Q) := by
  refine ok_iload_n (j := 2) dX0_returnToSaved_4 rfl rfl ?_
  refine ok_iconst (v := (3 : Int32)) dX0_returnToSaved_5 (by decide) ?_
  refine ok_icmp_ge (tgt := 45) dX0_returnToSaved_6 (by decide) ⟨fun z => ?_, fun z => ?_⟩
  · have h := h.1 z
    refine ok_iload_n (j := 1) dX0_returnToSaved_45 rfl rfl ?_
    exact ok_iret rfl dX0_returnToSaved_46 ⟨_, rfl, h⟩
  · have h := h.2 z
    refine ok_aload_n (j := 0) dX0_returnToSaved_9 rfl rfl ?_
    refine gf_0_0 dX0_returnToSaved_10 (v0 hsx0 hwx0) xw_70 ?_
    refine ok_iload_n (j := 2) dX0_returnToSaved_13 rfl rfl ?_
    obtain ⟨hb1, h⟩ := h
    refine al_20 dX0_returnToSaved_14 (v20 hsx0 hwx0) hb1 ?_
    refine ok_aload_n (j := 0) dX0_returnToSaved_15 rfl rfl ?_
    refine gf_0_1 dX0_returnToSaved_16 (v0 hsx0 hwx0) xw_72 ?_
    refine ok_iload_n (j := 2) dX0_returnToSaved_19 rfl rfl ?_
    obtain ⟨hb2, h⟩ := h
    refine al_21 dX0_returnToSaved_20 (v21 hsx0 hwx0) hb2 ?_
    refine ok_icmp_eq (tgt := 39) dX0_returnToSaved_21 (by decide) ⟨fun z => ?_, fun z => ?_⟩
    · have h := h.1 z
      refine ok_iinc (j := 2) (v := (x2 + 1)) (ls2 := [(2, vI (x2 + 1)), (0, vR 0 sx0 wx0), (1, vI x1)]) dX0_returnToSaved_39 rfl rfl (by decide) rfl ?_
      refine ok_goto (tgt := 4) dX0_returnToSaved_42 (by decide) ?_
      exact ok_sub [(0, vR 0 sx0 wx0), (1, vI x1), (2, vI (x2 + 1))] [1, 2, 0] rfl h
    · have h := h.2 z
      refine ok_iinc (j := 1) (v := (x1 + 1)) (ls2 := [(1, vI (x1 + 1)), (0, vR 0 sx0 wx0), (2, vI x2)]) dX0_returnToSaved_24 rfl rfl (by decide) rfl ?_
      refine ok_aload_n (j := 1) dX0_returnToSaved_27 rfl rfl ?_
      refine gf_0_0 dX0_returnToSaved_28 (v0 hsx0 hwx0) xw_70 ?_
      refine ok_iload_n (j := 2) dX0_returnToSaved_31 rfl rfl ?_
      refine ok_aload_n (j := 1) dX0_returnToSaved_32 rfl rfl ?_
      refine gf_0_1 dX0_returnToSaved_33 (v0 hsx0 hwx0) xw_72 ?_
      refine ok_iload_n (j := 2) dX0_returnToSaved_36 rfl rfl ?_
      obtain ⟨hb3, h⟩ := h
      refine al_21 dX0_returnToSaved_37 (v21 hsx0 hwx0) hb3 ?_
      obtain ⟨hb4, h⟩ := h
      refine as_20 dX0_returnToSaved_38 (v20 hsx0 hwx0) hb4 ?_
      refine ok_iinc (j := 2) (v := (x2 + 1)) (ls2 := [(2, vI (x2 + 1)), (1, vI (x1 + 1)), (0, vR 0 sx0 wx0)]) dX0_returnToSaved_39 rfl rfl (by decide) rfl ?_
      refine ok_goto (tgt := 4) dX0_returnToSaved_42 (by decide) ?_
      exact ok_sub [(0, vR 0 sx0 wx0), (1, vI (x1 + 1)), (2, vI (x2 + 1))] [2, 1, 0] rfl h
set_option maxRecDepth 100000 in
set_option maxHeartbeats 4000000 in
theorem eX3_findFault {a b : xA} {h0 : Int64} {Q : Int32 → xM → Prop}   (h : xOk mX3_findFault 12 [(0, vR 3 0 0), (1, vI (0 : Int32))] [] ((xUp (xUp a 3 0 0 4 (0 : Int32)) 3 0 0 5 (0 : Int32)), (b, h0)) (qI Q)) : CI mX3_findFault [vR 3 0 0] (a, (b, h0)) Q := by
  refine xCalls_of (by decide) (Nat.le_of_ble_eq_true rfl) ?_
  show xOk mX3_findFault 0 [(0, vR 3 0 0)] [] (a, (b, h0)) (qI Q)
  refine ok_aload_n (j := 0) dX3_findFault_0 rfl rfl ?_
  refine ok_iconst (v := (0 : Int32)) dX3_findFault_1 (by decide) ?_
  refine pf_3_4 dX3_findFault_2 v3 xw_115 ?_
  refine ok_aload_n (j := 0) dX3_findFault_5 rfl rfl ?_
  refine ok_iconst (v := (0 : Int32)) dX3_findFault_6 (by decide) ?_
  refine pf_3_5 dX3_findFault_7 v3 xw_117 (by decide) ?_
  refine ok_iconst (v := (0 : Int32)) dX3_findFault_10 (by decide) ?_
  refine ok_istore_n (ls2 := [(1, vI (0 : Int32)), (0, vR 3 0 0)]) dX3_findFault_11 rfl (by decide) rfl ?_
  exact ok_sub [(0, vR 3 0 0), (1, vI (0 : Int32))] [1, 0] rfl h
set_option maxRecDepth 100000 in
set_option maxHeartbeats 4000000 in
theorem rX3_findFault_12 {a b : xA} {h0 : Int64} {Q : Int32 → xM → Prop} {x1 : Int32}  (h : (((a 3 0 0 1) ≤ x1 → ((¬ (a 3 0 0 5) = 0 → Q (a 3 0 0 1) (a, (b, h0))) ∧ ((a 3 0 0 5) = 0 → ((¬ (a 3 0 0 4) = 0 → Q (-1 : Int32) (a, (b, h0))) ∧ ((a 3 0 0 4) = 0 → Q (a 3 0 0 1) (a, (b, h0))))))) ∧ (¬ (a 3 0 0 1) ≤ x1 → (vp_in x1 120 ∧ (CI mX3_takes [vR 3 0 0, vI (a 22 0 0 (Int32.toNatClampNeg x1))] (a, (b, h0)) (fun r2 μ2 => ((¬ r2 = 0 → xOk mX3_findFault 12 [(0, vR 3 0 0), (1, vI (x1 + 1))] [] μ2 (qI Q)) ∧ (r2 = 0 → Q x1 μ2)))))))) : xOk mX3_findFault 12 [(0, vR 3 0 0), (1, vI x1)] [] (a, (b, h0)) (qI Q) := by
  refine ok_iload_n (j := 1) dX3_findFault_12 rfl rfl ?_
  refine ok_aload_n (j := 0) dX3_findFault_13 rfl rfl ?_
  refine gf_3_1 dX3_findFault_14 v3 xw_109 ?_
  refine ok_icmp_ge (tgt := 41) dX3_findFault_17 (by decide) ⟨fun z => ?_, fun z => ?_⟩
  · have h := h.1 z
    refine ok_aload_n (j := 0) dX3_findFault_41 rfl rfl ?_
    refine gf_3_5 dX3_findFault_42 v3 xw_117 ?_
    refine ok_if_ne (tgt := 55) dX3_findFault_45 (by decide) ⟨fun z => ?_, fun z => ?_⟩
    · have h := h.1 z
      refine ok_aload_n (j := 0) dX3_findFault_55 rfl rfl ?_
      refine gf_3_1 dX3_findFault_56 v3 xw_109 ?_
      refine ok_goto (tgt := 63) dX3_findFault_59 (by decide) ?_
      exact ok_iret rfl dX3_findFault_63 ⟨_, rfl, h⟩
    · have h := h.2 z
      refine ok_aload_n (j := 0) dX3_findFault_48 rfl rfl ?_
      refine gf_3_4 dX3_findFault_49 v3 xw_115 ?_
      refine ok_if_ne (tgt := 62) dX3_findFault_52 (by decide) ⟨fun z => ?_, fun z => ?_⟩
      · have h := h.1 z
        refine ok_iconst (v := (-1 : Int32)) dX3_findFault_62 (by decide) ?_
        exact ok_iret rfl dX3_findFault_63 ⟨_, rfl, h⟩
      · have h := h.2 z
        refine ok_aload_n (j := 0) dX3_findFault_55 rfl rfl ?_
        refine gf_3_1 dX3_findFault_56 v3 xw_109 ?_
        refine ok_goto (tgt := 63) dX3_findFault_59 (by decide) ?_
        exact ok_iret rfl dX3_findFault_63 ⟨_, rfl, h⟩
  · have h := h.2 z
    refine ok_aload_n (j := 0) dX3_findFault_20 rfl rfl ?_
    refine ok_aload_n (j := 0) dX3_findFault_21 rfl rfl ?_
    refine gf_3_0 dX3_findFault_22 v3 xw_107 ?_
    refine ok_iload_n (j := 1) dX3_findFault_25 rfl rfl ?_
    obtain ⟨hb1, h⟩ := h
    refine al_22 dX3_findFault_26 v22 hb1 ?_
    refine ok_callV (M' := mX3_takes) [vI (a 22 0 0 (Int32.toNatClampNeg x1))] dX3_findFault_27 xw_429 fV_X3_takes fS_X3_takes rfl (by decide) v3 (ob_3 _ _ _) rfl (Nat.le_of_ble_eq_true rfl) (CI.to (CI.mono h ?_))
    intro r2 μ2 h
    refine ok_if_ne (tgt := 35) dX3_findFault_30 (by decide) ⟨fun z => ?_, fun z => ?_⟩
    · have h := h.1 z
      refine ok_iinc (j := 1) (v := (x1 + 1)) (ls2 := [(1, vI (x1 + 1)), (0, vR 3 0 0)]) dX3_findFault_35 rfl rfl (by decide) rfl ?_
      refine ok_goto (tgt := 12) dX3_findFault_38 (by decide) ?_
      exact ok_sub [(0, vR 3 0 0), (1, vI (x1 + 1))] [1, 0] rfl h
    · have h := h.2 z
      refine ok_iload_n (j := 1) dX3_findFault_33 rfl rfl ?_
      exact ok_iret rfl dX3_findFault_34 ⟨_, rfl, h⟩
set_option maxRecDepth 100000 in
set_option maxHeartbeats 4000000 in
theorem eX3_takes {a b : xA} {h0 : Int64} {Q : Int32 → xM → Prop} {x1 : Int32}  (h : ((¬ x1 = (32 : Int32) → ((¬ (a 3 0 0 5) = 0 → ((¬ x1 = (59 : Int32) → ((x1 < (48 : Int32) → Q (0 : Int32) (a, (b, h0))) ∧ (¬ x1 < (48 : Int32) → (((57 : Int32) < x1 → Q (0 : Int32) (a, (b, h0))) ∧ (¬ (57 : Int32) < x1 → (CI mX3_takesDigit [vR 3 0 0, vI (x1 - (48 : Int32))] (a, (b, h0)) (fun r1 μ1 => ((r1 = 0 → Q (0 : Int32) μ1) ∧ (¬ r1 = 0 → Q (1 : Int32) μ1))))))))) ∧ (x1 = (59 : Int32) → (CI mX3_takesEnd [vR 3 0 0] (a, (b, h0)) (fun r2 μ2 => ((r2 = 0 ∨ r2 = 1) ∧ Q r2 μ2)))))) ∧ ((a 3 0 0 5) = 0 → (CI mX3_takesLetter [vR 3 0 0, vI x1] (a, (b, h0)) (fun r3 μ3 => ((r3 = 0 ∨ r3 = 1) ∧ Q r3 μ3)))))) ∧ (x1 = (32 : Int32) → Q (1 : Int32) ((xUp a 3 0 0 8 (0 : Int32)), (b, h0))))) : CI mX3_takes [vR 3 0 0, vI x1] (a, (b, h0)) Q := by
  refine xCalls_of (by decide) (Nat.le_of_ble_eq_true rfl) ?_
  show xOk mX3_takes 0 [(0, vR 3 0 0), (1, vI x1)] [] (a, (b, h0)) (qI Q)
  refine ok_iload_n (j := 1) dX3_takes_0 rfl rfl ?_
  refine ok_bipush (v := (32 : Int32)) dX3_takes_1 (by decide) ?_
  refine ok_icmp_ne (tgt := 13) dX3_takes_3 (by decide) ⟨fun z => ?_, fun z => ?_⟩
  · have h := h.1 z
    refine ok_aload_n (j := 0) dX3_takes_13 rfl rfl ?_
    refine gf_3_5 dX3_takes_14 v3 xw_117 ?_
    refine ok_if_ne (tgt := 26) dX3_takes_17 (by decide) ⟨fun z => ?_, fun z => ?_⟩
    · have h := h.1 z
      refine ok_iload_n (j := 1) dX3_takes_26 rfl rfl ?_
      refine ok_bipush (v := (59 : Int32)) dX3_takes_27 (by decide) ?_
      refine ok_icmp_ne (tgt := 37) dX3_takes_29 (by decide) ⟨fun z => ?_, fun z => ?_⟩
      · have h := h.1 z
        refine ok_iload_n (j := 1) dX3_takes_37 rfl rfl ?_
        refine ok_bipush (v := (48 : Int32)) dX3_takes_38 (by decide) ?_
        refine ok_icmp_lt (tgt := 64) dX3_takes_40 (by decide) ⟨fun z => ?_, fun z => ?_⟩
        · have h := h.1 z
          refine ok_iconst (v := (0 : Int32)) dX3_takes_64 (by decide) ?_
          exact ok_zret rfl (by decide) dX3_takes_65 ⟨_, rfl, h⟩
        · have h := h.2 z
          refine ok_iload_n (j := 1) dX3_takes_43 rfl rfl ?_
          refine ok_bipush (v := (57 : Int32)) dX3_takes_44 (by decide) ?_
          refine ok_icmp_gt (tgt := 64) dX3_takes_46 (by decide) ⟨fun z => ?_, fun z => ?_⟩
          · have h := h.1 z
            refine ok_iconst (v := (0 : Int32)) dX3_takes_64 (by decide) ?_
            exact ok_zret rfl (by decide) dX3_takes_65 ⟨_, rfl, h⟩
          · have h := h.2 z
            refine ok_aload_n (j := 0) dX3_takes_49 rfl rfl ?_
            refine ok_iload_n (j := 1) dX3_takes_50 rfl rfl ?_
            refine ok_bipush (v := (48 : Int32)) dX3_takes_51 (by decide) ?_
            refine ok_isub dX3_takes_53 ?_
            refine ok_callV (M' := mX3_takesDigit) [vI (x1 - (48 : Int32))] dX3_takes_54 xw_444 fV_X3_takesDigit fS_X3_takesDigit rfl (by decide) v3 (ob_3 _ _ _) rfl (Nat.le_of_ble_eq_true rfl) (CI.to (CI.mono h ?_))
            intro r1 μ1 h
            refine ok_if_eq (tgt := 64) dX3_takes_57 (by decide) ⟨fun z => ?_, fun z => ?_⟩
            · have h := h.1 z
              refine ok_iconst (v := (0 : Int32)) dX3_takes_64 (by decide) ?_
              exact ok_zret rfl (by decide) dX3_takes_65 ⟨_, rfl, h⟩
            · have h := h.2 z
              refine ok_iconst (v := (1 : Int32)) dX3_takes_60 (by decide) ?_
              refine ok_goto (tgt := 65) dX3_takes_61 (by decide) ?_
              exact ok_zret rfl (by decide) dX3_takes_65 ⟨_, rfl, h⟩
      · have h := h.2 z
        refine ok_aload_n (j := 0) dX3_takes_32 rfl rfl ?_
        refine ok_callV (M' := mX3_takesEnd) [] dX3_takes_33 xw_440 fV_X3_takesEnd fS_X3_takesEnd rfl (by decide) v3 (ob_3 _ _ _) rfl (Nat.le_of_ble_eq_true rfl) (CI.to (CI.mono h ?_))
        intro r2 μ2 h
        obtain ⟨hz, h⟩ := h
        exact ok_zret rfl hz dX3_takes_36 ⟨_, rfl, h⟩
    · have h := h.2 z
      refine ok_aload_n (j := 0) dX3_takes_20 rfl rfl ?_
      refine ok_iload_n (j := 1) dX3_takes_21 rfl rfl ?_
      refine ok_callV (M' := mX3_takesLetter) [vI x1] dX3_takes_22 xw_433 fV_X3_takesLetter fS_X3_takesLetter rfl (by decide) v3 (ob_3 _ _ _) rfl (Nat.le_of_ble_eq_true rfl) (CI.to (CI.mono h ?_))
      intro r3 μ3 h
      obtain ⟨hz, h⟩ := h
      exact ok_zret rfl hz dX3_takes_25 ⟨_, rfl, h⟩
  · have h := h.2 z
    refine ok_aload_n (j := 0) dX3_takes_6 rfl rfl ?_
    refine ok_iconst (v := (0 : Int32)) dX3_takes_7 (by decide) ?_
    refine pf_3_8 dX3_takes_8 v3 xw_120 ?_
    refine ok_iconst (v := (1 : Int32)) dX3_takes_11 (by decide) ?_
    exact ok_zret rfl (by decide) dX3_takes_12 ⟨_, rfl, h⟩
set_option maxRecDepth 100000 in
set_option maxHeartbeats 4000000 in
theorem eX3_takesLetter {a b : xA} {h0 : Int64} {Q : Int32 → xM → Prop} {x1 : Int32}  (h : (CI mX3_numbersOf [vI x1] (a, (b, h0)) (fun r1 μ1 => ((r1 = 0 → Q (0 : Int32) μ1) ∧ (¬ r1 = 0 → (((μ1.1 3 0 0 4) < (40 : Int32) → (vp_in (μ1.1 3 0 0 4) 40 ∧ Q (1 : Int32) ((xUp (xUp (xUp (xUp (xUp μ1.1 23 0 0 (Int32.toNatClampNeg (μ1.1 3 0 0 4)) x1) 3 0 0 5 (1 : Int32)) 3 0 0 6 r1) 3 0 0 7 (0 : Int32)) 3 0 0 8 (0 : Int32)), μ1.2))) ∧ (¬ (μ1.1 3 0 0 4) < (40 : Int32) → Q (0 : Int32) μ1))))))) : CI mX3_takesLetter [vR 3 0 0, vI x1] (a, (b, h0)) Q := by
  refine xCalls_of (by decide) (Nat.le_of_ble_eq_true rfl) ?_
  show xOk mX3_takesLetter 0 [(0, vR 3 0 0), (1, vI x1)] [] (a, (b, h0)) (qI Q)
  refine ok_iload_n (j := 1) dX3_takesLetter_0 rfl rfl ?_
  refine ok_callS (M' := mX3_numbersOf) [vI x1] dX3_takesLetter_1 xw_437 fV_X3_numbersOf fS_X3_numbersOf (by decide) rfl (Nat.le_of_ble_eq_true rfl) (CI.to (CI.mono h ?_))
  intro r1 μ1 h
  refine ok_istore_n (ls2 := [(2, vI r1), (0, vR 3 0 0), (1, vI x1)]) dX3_takesLetter_4 rfl (by decide) rfl ?_
  refine ok_iload_n (j := 0) dX3_takesLetter_5 rfl rfl ?_
  refine ok_if_eq (tgt := 18) dX3_takesLetter_6 (by decide) ⟨fun z => ?_, fun z => ?_⟩
  · have h := h.1 z
    refine ok_iconst (v := (0 : Int32)) dX3_takesLetter_18 (by decide) ?_
    exact ok_zret rfl (by decide) dX3_takesLetter_19 ⟨_, rfl, h⟩
  · have h := h.2 z
    refine ok_aload_n (j := 1) dX3_takesLetter_9 rfl rfl ?_
    refine gf_3_4 dX3_takesLetter_10 v3 xw_115 ?_
    refine ok_bipush (v := (40 : Int32)) dX3_takesLetter_13 (by decide) ?_
    refine ok_icmp_lt (tgt := 20) dX3_takesLetter_15 (by decide) ⟨fun z => ?_, fun z => ?_⟩
    · have h := h.1 z
      refine ok_aload_n (j := 1) dX3_takesLetter_20 rfl rfl ?_
      refine gf_3_2 dX3_takesLetter_21 v3 xw_111 ?_
      refine ok_aload_n (j := 1) dX3_takesLetter_24 rfl rfl ?_
      refine gf_3_4 dX3_takesLetter_25 v3 xw_115 ?_
      refine ok_iload_n (j := 2) dX3_takesLetter_28 rfl rfl ?_
      obtain ⟨hb2, h⟩ := h
      refine as_23 dX3_takesLetter_29 v23 hb2 ?_
      refine ok_aload_n (j := 1) dX3_takesLetter_30 rfl rfl ?_
      refine ok_iconst (v := (1 : Int32)) dX3_takesLetter_31 (by decide) ?_
      refine pf_3_5 dX3_takesLetter_32 v3 xw_117 (by decide) ?_
      refine ok_aload_n (j := 1) dX3_takesLetter_35 rfl rfl ?_
      refine ok_iload_n (j := 0) dX3_takesLetter_36 rfl rfl ?_
      refine pf_3_6 dX3_takesLetter_37 v3 xw_118 ?_
      refine ok_aload_n (j := 1) dX3_takesLetter_40 rfl rfl ?_
      refine ok_iconst (v := (0 : Int32)) dX3_takesLetter_41 (by decide) ?_
      refine pf_3_7 dX3_takesLetter_42 v3 xw_119 ?_
      refine ok_aload_n (j := 1) dX3_takesLetter_45 rfl rfl ?_
      refine ok_iconst (v := (0 : Int32)) dX3_takesLetter_46 (by decide) ?_
      refine pf_3_8 dX3_takesLetter_47 v3 xw_120 ?_
      refine ok_iconst (v := (1 : Int32)) dX3_takesLetter_50 (by decide) ?_
      exact ok_zret rfl (by decide) dX3_takesLetter_51 ⟨_, rfl, h⟩
    · have h := h.2 z
      refine ok_iconst (v := (0 : Int32)) dX3_takesLetter_18 (by decide) ?_
      exact ok_zret rfl (by decide) dX3_takesLetter_19 ⟨_, rfl, h⟩
set_option maxRecDepth 100000 in
set_option maxHeartbeats 4000000 in
theorem eX3_numbersOf {a b : xA} {h0 : Int64} {Q : Int32 → xM → Prop} {x0 : Int32}  (h : ((x0 = (98 : Int32) → Q (1 : Int32) (a, (b, h0))) ∧ (¬ x0 = (98 : Int32) → ((x0 = (99 : Int32) → Q (4 : Int32) (a, (b, h0))) ∧ (¬ x0 = (99 : Int32) → ((x0 = (101 : Int32) → Q (3 : Int32) (a, (b, h0))) ∧ (¬ x0 = (101 : Int32) → ((x0 = (111 : Int32) → Q (2 : Int32) (a, (b, h0))) ∧ (¬ x0 = (111 : Int32) → ((x0 = (114 : Int32) → Q (2 : Int32) (a, (b, h0))) ∧ (¬ x0 = (114 : Int32) → ((x0 = (115 : Int32) → Q (5 : Int32) (a, (b, h0))) ∧ (¬ x0 = (115 : Int32) → ((x0 = (116 : Int32) → Q (1 : Int32) (a, (b, h0))) ∧ (¬ x0 = (116 : Int32) → Q (0 : Int32) (a, (b, h0))))))))))))))))) : CI mX3_numbersOf [vI x0] (a, (b, h0)) Q := by
  refine xCalls_of (by decide) (Nat.le_of_ble_eq_true rfl) ?_
  show xOk mX3_numbersOf 0 [(0, vI x0)] [] (a, (b, h0)) (qI Q)
  refine ok_iload_n (j := 0) dX3_numbersOf_0 rfl rfl ?_
  by_cases z0 : x0 = (98 : Int32)
  · have h := h.1 z0
    refine ok_table dX3_numbersOf_1 rfl (off := 91) (tgt := 92) (by (try dsimp only); rw [z0]; decide) (by decide) ?_
    refine ok_iconst (v := (1 : Int32)) dX3_numbersOf_92 (by decide) ?_
    exact ok_iret rfl dX3_numbersOf_93 ⟨_, rfl, h⟩
  · have h := h.2 z0
    by_cases z1 : x0 = (99 : Int32)
    · have h := h.1 z1
      refine ok_table dX3_numbersOf_1 rfl (off := 97) (tgt := 98) (by (try dsimp only); rw [z1]; decide) (by decide) ?_
      refine ok_iconst (v := (4 : Int32)) dX3_numbersOf_98 (by decide) ?_
      exact ok_iret rfl dX3_numbersOf_99 ⟨_, rfl, h⟩
    · have h := h.2 z1
      by_cases z2 : x0 = (101 : Int32)
      · have h := h.1 z2
        refine ok_table dX3_numbersOf_1 rfl (off := 95) (tgt := 96) (by (try dsimp only); rw [z2]; decide) (by decide) ?_
        refine ok_iconst (v := (3 : Int32)) dX3_numbersOf_96 (by decide) ?_
        exact ok_iret rfl dX3_numbersOf_97 ⟨_, rfl, h⟩
      · have h := h.2 z2
        by_cases z3 : x0 = (111 : Int32)
        · have h := h.1 z3
          refine ok_table dX3_numbersOf_1 rfl (off := 93) (tgt := 94) (by (try dsimp only); rw [z3]; decide) (by decide) ?_
          refine ok_iconst (v := (2 : Int32)) dX3_numbersOf_94 (by decide) ?_
          exact ok_iret rfl dX3_numbersOf_95 ⟨_, rfl, h⟩
        · have h := h.2 z3
          by_cases z4 : x0 = (114 : Int32)
          · have h := h.1 z4
            refine ok_table dX3_numbersOf_1 rfl (off := 93) (tgt := 94) (by (try dsimp only); rw [z4]; decide) (by decide) ?_
            refine ok_iconst (v := (2 : Int32)) dX3_numbersOf_94 (by decide) ?_
            exact ok_iret rfl dX3_numbersOf_95 ⟨_, rfl, h⟩
          · have h := h.2 z4
            by_cases z5 : x0 = (115 : Int32)
            · have h := h.1 z5
              refine ok_table dX3_numbersOf_1 rfl (off := 99) (tgt := 100) (by (try dsimp only); rw [z5]; decide) (by decide) ?_
              refine ok_iconst (v := (5 : Int32)) dX3_numbersOf_100 (by decide) ?_
              exact ok_iret rfl dX3_numbersOf_101 ⟨_, rfl, h⟩
            · have h := h.2 z5
              by_cases z6 : x0 = (116 : Int32)
              · have h := h.1 z6
                refine ok_table dX3_numbersOf_1 rfl (off := 91) (tgt := 92) (by (try dsimp only); rw [z6]; decide) (by decide) ?_
                refine ok_iconst (v := (1 : Int32)) dX3_numbersOf_92 (by decide) ?_
                exact ok_iret rfl dX3_numbersOf_93 ⟨_, rfl, h⟩
              · have h := h.2 z6
                refine ok_table dX3_numbersOf_1 rfl (tgt := 102) (xSw_d [(98 : Int32), (99 : Int32), (101 : Int32), (111 : Int32), (114 : Int32), (115 : Int32), (116 : Int32)] (by decide) rfl (by simp only [List.mem_cons, List.not_mem_nil, or_false]; rintro c (rfl | rfl | rfl | rfl | rfl | rfl | rfl) <;> assumption)) (by decide) ?_
                refine ok_iconst (v := (0 : Int32)) dX3_numbersOf_102 (by decide) ?_
                exact ok_iret rfl dX3_numbersOf_103 ⟨_, rfl, h⟩
set_option maxRecDepth 100000 in
set_option maxHeartbeats 4000000 in
theorem eX3_takesEnd {a b : xA} {h0 : Int64} {Q : Int32 → xM → Prop}   (h : (((a 3 0 0 6) ≤ (a 3 0 0 7) → Q (1 : Int32) ((xUp (xUp a 3 0 0 5 (0 : Int32)) 3 0 0 4 (((xUp a 3 0 0 5 (0 : Int32)) 3 0 0 4) + (1 : Int32))), (b, h0))) ∧ (¬ (a 3 0 0 6) ≤ (a 3 0 0 7) → Q (0 : Int32) (a, (b, h0))))) : CI mX3_takesEnd [vR 3 0 0] (a, (b, h0)) Q := by
  refine xCalls_of (by decide) (Nat.le_of_ble_eq_true rfl) ?_
  show xOk mX3_takesEnd 0 [(0, vR 3 0 0)] [] (a, (b, h0)) (qI Q)
  refine ok_aload_n (j := 0) dX3_takesEnd_0 rfl rfl ?_
  refine gf_3_7 dX3_takesEnd_1 v3 xw_119 ?_
  refine ok_aload_n (j := 0) dX3_takesEnd_4 rfl rfl ?_
  refine gf_3_6 dX3_takesEnd_5 v3 xw_118 ?_
  refine ok_icmp_ge (tgt := 13) dX3_takesEnd_8 (by decide) ⟨fun z => ?_, fun z => ?_⟩
  · have h := h.1 z
    refine ok_aload_n (j := 0) dX3_takesEnd_13 rfl rfl ?_
    refine ok_iconst (v := (0 : Int32)) dX3_takesEnd_14 (by decide) ?_
    refine pf_3_5 dX3_takesEnd_15 v3 xw_117 (by decide) ?_
    refine ok_aload_n (j := 0) dX3_takesEnd_18 rfl rfl ?_
    refine ok_dup dX3_takesEnd_19 rfl ?_
    refine gf_3_4 dX3_takesEnd_20 v3 xw_115 ?_
    refine ok_iconst (v := (1 : Int32)) dX3_takesEnd_23 (by decide) ?_
    refine ok_iadd dX3_takesEnd_24 ?_
    refine pf_3_4 dX3_takesEnd_25 v3 xw_115 ?_
    refine ok_iconst (v := (1 : Int32)) dX3_takesEnd_28 (by decide) ?_
    exact ok_zret rfl (by decide) dX3_takesEnd_29 ⟨_, rfl, h⟩
  · have h := h.2 z
    refine ok_iconst (v := (0 : Int32)) dX3_takesEnd_11 (by decide) ?_
    exact ok_zret rfl (by decide) dX3_takesEnd_12 ⟨_, rfl, h⟩
set_option maxRecDepth 100000 in
set_option maxHeartbeats 4000000 in
theorem eX3_takesDigit {a b : xA} {h0 : Int64} {Q : Int32 → xM → Prop} {x1 : Int32}  (h : (((a 3 0 0 8) = (2 : Int32) → Q (0 : Int32) (a, (b, h0))) ∧ (¬ (a 3 0 0 8) = (2 : Int32) → ((¬ (a 3 0 0 8) = 0 → xOk mX3_takesDigit 28 [(0, vR 3 0 0), (1, vI x1)] [] (a, (b, h0)) (qI Q)) ∧ ((a 3 0 0 8) = 0 → ((¬ (a 3 0 0 7) = (a 3 0 0 6) → xOk mX3_takesDigit 28 [(0, vR 3 0 0), (1, vI x1)] [] (a, (b, h0)) (qI Q)) ∧ ((a 3 0 0 7) = (a 3 0 0 6) → Q (0 : Int32) (a, (b, h0))))))))) : CI mX3_takesDigit [vR 3 0 0, vI x1] (a, (b, h0)) Q := by
  refine xCalls_of (by decide) (Nat.le_of_ble_eq_true rfl) ?_
  show xOk mX3_takesDigit 0 [(0, vR 3 0 0), (1, vI x1)] [] (a, (b, h0)) (qI Q)
  refine ok_aload_n (j := 0) dX3_takesDigit_0 rfl rfl ?_
  refine gf_3_8 dX3_takesDigit_1 v3 xw_120 ?_
  refine ok_iconst (v := (2 : Int32)) dX3_takesDigit_4 (by decide) ?_
  refine ok_icmp_eq (tgt := 26) dX3_takesDigit_5 (by decide) ⟨fun z => ?_, fun z => ?_⟩
  · have h := h.1 z
    refine ok_iconst (v := (0 : Int32)) dX3_takesDigit_26 (by decide) ?_
    exact ok_zret rfl (by decide) dX3_takesDigit_27 ⟨_, rfl, h⟩
  · have h := h.2 z
    refine ok_aload_n (j := 0) dX3_takesDigit_8 rfl rfl ?_
    refine gf_3_8 dX3_takesDigit_9 v3 xw_120 ?_
    refine ok_if_ne (tgt := 28) dX3_takesDigit_12 (by decide) ⟨fun z => ?_, fun z => ?_⟩
    · have h := h.1 z
      exact ok_sub [(0, vR 3 0 0), (1, vI x1)] [0, 1] rfl h
    · have h := h.2 z
      refine ok_aload_n (j := 0) dX3_takesDigit_15 rfl rfl ?_
      refine gf_3_7 dX3_takesDigit_16 v3 xw_119 ?_
      refine ok_aload_n (j := 0) dX3_takesDigit_19 rfl rfl ?_
      refine gf_3_6 dX3_takesDigit_20 v3 xw_118 ?_
      refine ok_icmp_ne (tgt := 28) dX3_takesDigit_23 (by decide) ⟨fun z => ?_, fun z => ?_⟩
      · have h := h.1 z
        exact ok_sub [(0, vR 3 0 0), (1, vI x1)] [0, 1] rfl h
      · have h := h.2 z
        refine ok_iconst (v := (0 : Int32)) dX3_takesDigit_26 (by decide) ?_
        exact ok_zret rfl (by decide) dX3_takesDigit_27 ⟨_, rfl, h⟩
set_option maxRecDepth 100000 in
set_option maxHeartbeats 4000000 in
theorem rX3_takesDigit_28 {a b : xA} {h0 : Int64} {Q : Int32 → xM → Prop} {x1 : Int32}  (h : ((¬ (a 3 0 0 8) = 0 → (vp_in ((((a 3 0 0 4) * (5 : Int32)) + (a 3 0 0 7)) - (1 : Int32)) 200 ∧ (vp_in ((((a 3 0 0 4) * (5 : Int32)) + (a 3 0 0 7)) - (1 : Int32)) 200 ∧ Q (1 : Int32) ((xUp (xUp a 24 0 0 (Int32.toNatClampNeg ((((a 3 0 0 4) * (5 : Int32)) + (a 3 0 0 7)) - (1 : Int32))) (((10 : Int32) * (a 24 0 0 (Int32.toNatClampNeg ((((a 3 0 0 4) * (5 : Int32)) + (a 3 0 0 7)) - (1 : Int32))))) + x1)) 3 0 0 8 (((xUp a 24 0 0 (Int32.toNatClampNeg ((((a 3 0 0 4) * (5 : Int32)) + (a 3 0 0 7)) - (1 : Int32))) (((10 : Int32) * (a 24 0 0 (Int32.toNatClampNeg ((((a 3 0 0 4) * (5 : Int32)) + (a 3 0 0 7)) - (1 : Int32))))) + x1)) 3 0 0 8) + (1 : Int32))), (b, h0))))) ∧ ((a 3 0 0 8) = 0 → (vp_in (((a 3 0 0 4) * (5 : Int32)) + (a 3 0 0 7)) 200 ∧ Q (1 : Int32) ((xUp (xUp (xUp a 24 0 0 (Int32.toNatClampNeg (((a 3 0 0 4) * (5 : Int32)) + (a 3 0 0 7))) x1) 3 0 0 7 (((xUp a 24 0 0 (Int32.toNatClampNeg (((a 3 0 0 4) * (5 : Int32)) + (a 3 0 0 7))) x1) 3 0 0 7) + (1 : Int32))) 3 0 0 8 (((xUp (xUp a 24 0 0 (Int32.toNatClampNeg (((a 3 0 0 4) * (5 : Int32)) + (a 3 0 0 7))) x1) 3 0 0 7 (((xUp a 24 0 0 (Int32.toNatClampNeg (((a 3 0 0 4) * (5 : Int32)) + (a 3 0 0 7))) x1) 3 0 0 7) + (1 : Int32))) 3 0 0 8) + (1 : Int32))), (b, h0)))))) : xOk mX3_takesDigit 28 [(0, vR 3 0 0), (1, vI x1)] [] (a, (b, h0)) (qI Q) := by
  refine ok_aload_n (j := 0) dX3_takesDigit_28 rfl rfl ?_
  refine gf_3_4 dX3_takesDigit_29 v3 xw_115 ?_
  refine ok_iconst (v := (5 : Int32)) dX3_takesDigit_32 (by decide) ?_
  refine ok_imul dX3_takesDigit_33 ?_
  refine ok_aload_n (j := 0) dX3_takesDigit_34 rfl rfl ?_
  refine gf_3_7 dX3_takesDigit_35 v3 xw_119 ?_
  refine ok_iadd dX3_takesDigit_38 ?_
  refine ok_istore_n (ls2 := [(2, vI (((a 3 0 0 4) * (5 : Int32)) + (a 3 0 0 7))), (0, vR 3 0 0), (1, vI x1)]) dX3_takesDigit_39 rfl (by decide) rfl ?_
  refine ok_aload_n (j := 1) dX3_takesDigit_40 rfl rfl ?_
  refine gf_3_8 dX3_takesDigit_41 v3 xw_120 ?_
  refine ok_if_ne (tgt := 67) dX3_takesDigit_44 (by decide) ⟨fun z => ?_, fun z => ?_⟩
  · have h := h.1 z
    refine ok_aload_n (j := 1) dX3_takesDigit_67 rfl rfl ?_
    refine gf_3_3 dX3_takesDigit_68 v3 xw_113 ?_
    refine ok_iload_n (j := 0) dX3_takesDigit_71 rfl rfl ?_
    refine ok_iconst (v := (1 : Int32)) dX3_takesDigit_72 (by decide) ?_
    refine ok_isub dX3_takesDigit_73 ?_
    refine ok_bipush (v := (10 : Int32)) dX3_takesDigit_74 (by decide) ?_
    refine ok_aload_n (j := 1) dX3_takesDigit_76 rfl rfl ?_
    refine gf_3_3 dX3_takesDigit_77 v3 xw_113 ?_
    refine ok_iload_n (j := 0) dX3_takesDigit_80 rfl rfl ?_
    refine ok_iconst (v := (1 : Int32)) dX3_takesDigit_81 (by decide) ?_
    refine ok_isub dX3_takesDigit_82 ?_
    obtain ⟨hb1, h⟩ := h
    refine al_24 dX3_takesDigit_83 v24 hb1 ?_
    refine ok_imul dX3_takesDigit_84 ?_
    refine ok_iload_n (j := 2) dX3_takesDigit_85 rfl rfl ?_
    refine ok_iadd dX3_takesDigit_86 ?_
    obtain ⟨hb2, h⟩ := h
    refine as_24 dX3_takesDigit_87 v24 hb2 ?_
    refine ok_aload_n (j := 1) dX3_takesDigit_88 rfl rfl ?_
    refine ok_dup dX3_takesDigit_89 rfl ?_
    refine gf_3_8 dX3_takesDigit_90 v3 xw_120 ?_
    refine ok_iconst (v := (1 : Int32)) dX3_takesDigit_93 (by decide) ?_
    refine ok_iadd dX3_takesDigit_94 ?_
    refine pf_3_8 dX3_takesDigit_95 v3 xw_120 ?_
    refine ok_iconst (v := (1 : Int32)) dX3_takesDigit_98 (by decide) ?_
    exact ok_zret rfl (by decide) dX3_takesDigit_99 ⟨_, rfl, h⟩
  · have h := h.2 z
    refine ok_aload_n (j := 1) dX3_takesDigit_47 rfl rfl ?_
    refine gf_3_3 dX3_takesDigit_48 v3 xw_113 ?_
    refine ok_iload_n (j := 0) dX3_takesDigit_51 rfl rfl ?_
    refine ok_iload_n (j := 2) dX3_takesDigit_52 rfl rfl ?_
    obtain ⟨hb3, h⟩ := h
    refine as_24 dX3_takesDigit_53 v24 hb3 ?_
    refine ok_aload_n (j := 1) dX3_takesDigit_54 rfl rfl ?_
    refine ok_dup dX3_takesDigit_55 rfl ?_
    refine gf_3_7 dX3_takesDigit_56 v3 xw_119 ?_
    refine ok_iconst (v := (1 : Int32)) dX3_takesDigit_59 (by decide) ?_
    refine ok_iadd dX3_takesDigit_60 ?_
    refine pf_3_7 dX3_takesDigit_61 v3 xw_119 ?_
    refine ok_goto (tgt := 88) dX3_takesDigit_64 (by decide) ?_
    refine ok_aload_n (j := 1) dX3_takesDigit_88 rfl rfl ?_
    refine ok_dup dX3_takesDigit_89 rfl ?_
    refine gf_3_8 dX3_takesDigit_90 v3 xw_120 ?_
    refine ok_iconst (v := (1 : Int32)) dX3_takesDigit_93 (by decide) ?_
    refine ok_iadd dX3_takesDigit_94 ?_
    refine pf_3_8 dX3_takesDigit_95 v3 xw_120 ?_
    refine ok_iconst (v := (1 : Int32)) dX3_takesDigit_98 (by decide) ?_
    exact ok_zret rfl (by decide) dX3_takesDigit_99 ⟨_, rfl, h⟩
set_option maxRecDepth 100000 in
set_option maxHeartbeats 4000000 in
theorem eX1_markers {a b : xA} {h0 : Int64} {Q : Int32 → xM → Prop} {wx0 : Nat} (hwx0 : wx0 < 3) (h : xOk mX1_markers 4 [(0, vR 1 0 wx0), (1, vI (0 : Int32)), (2, vI (0 : Int32))] [] (a, (b, h0)) (qI Q)) : CI mX1_markers [vR 1 0 wx0] (a, (b, h0)) Q := by
  refine xCalls_of (by decide) (Nat.le_of_ble_eq_true rfl) ?_
  show xOk mX1_markers 0 [(0, vR 1 0 wx0)] [] (a, (b, h0)) (qI Q)
  refine ok_iconst (v := (0 : Int32)) dX1_markers_0 (by decide) ?_
  refine ok_istore_n (ls2 := [(1, vI (0 : Int32)), (0, vR 1 0 wx0)]) dX1_markers_1 rfl (by decide) rfl ?_
  refine ok_iconst (v := (0 : Int32)) dX1_markers_2 (by decide) ?_
  refine ok_istore_n (ls2 := [(2, vI (0 : Int32)), (1, vI (0 : Int32)), (0, vR 1 0 wx0)]) dX1_markers_3 rfl (by decide) rfl ?_
  exact ok_sub [(0, vR 1 0 wx0), (1, vI (0 : Int32)), (2, vI (0 : Int32))] [2, 1, 0] rfl h
set_option maxRecDepth 100000 in
set_option maxHeartbeats 4000000 in
theorem rX1_markers_4 {a b : xA} {h0 : Int64} {Q : Int32 → xM → Prop} {wx0 : Nat} {x1 : Int32} {x2 : Int32} (hwx0 : wx0 < 3) (h : (((a 1 0 wx0 0) ≤ x2 → Q x1 (a, (b, h0))) ∧ (¬ (a 1 0 wx0 0) ≤ x2 → (CI mX1_isMarker [vR 1 0 wx0, vI x2] (a, (b, h0)) (fun r1 μ1 => ((r1 = 0 → xOk mX1_markers 4 [(0, vR 1 0 wx0), (1, vI x1), (2, vI (x2 + 1))] [] μ1 (qI Q)) ∧ (¬ r1 = 0 → xOk mX1_markers 4 [(0, vR 1 0 wx0), (1, vI (x1 + 1)), (2, vI (x2 + 1))] [] μ1 (qI Q)))))))) : xOk mX1_markers 4 [(0, vR 1 0 wx0), (1, vI x1), (2, vI x2)] [] (a, (b, h0)) (qI Q) := by
  refine ok_iload_n (j := 2) dX1_markers_4 rfl rfl ?_
  refine ok_aload_n (j := 0) dX1_markers_5 rfl rfl ?_
  refine gf_1_0 dX1_markers_6 (v1 hwx0) xw_145 ?_
  refine ok_icmp_ge (tgt := 29) dX1_markers_9 (by decide) ⟨fun z => ?_, fun z => ?_⟩
  · have h := h.1 z
    refine ok_iload_n (j := 1) dX1_markers_29 rfl rfl ?_
    exact ok_iret rfl dX1_markers_30 ⟨_, rfl, h⟩
  · have h := h.2 z
    refine ok_aload_n (j := 0) dX1_markers_12 rfl rfl ?_
    refine ok_iload_n (j := 2) dX1_markers_13 rfl rfl ?_
    refine ok_callV (M' := mX1_isMarker) [vI x2] dX1_markers_14 xw_280 fV_X1_isMarker fS_X1_isMarker rfl (by decide) (v1 hwx0) (ob_1 _ _ _) rfl (Nat.le_of_ble_eq_true rfl) (CI.to (CI.mono h ?_))
    intro r1 μ1 h
    refine ok_if_eq (tgt := 23) dX1_markers_17 (by decide) ⟨fun z => ?_, fun z => ?_⟩
    · have h := h.1 z
      refine ok_iinc (j := 2) (v := (x2 + 1)) (ls2 := [(2, vI (x2 + 1)), (0, vR 1 0 wx0), (1, vI x1)]) dX1_markers_23 rfl rfl (by decide) rfl ?_
      refine ok_goto (tgt := 4) dX1_markers_26 (by decide) ?_
      exact ok_sub [(0, vR 1 0 wx0), (1, vI x1), (2, vI (x2 + 1))] [1, 2, 0] rfl h
    · have h := h.2 z
      refine ok_iinc (j := 1) (v := (x1 + 1)) (ls2 := [(1, vI (x1 + 1)), (0, vR 1 0 wx0), (2, vI x2)]) dX1_markers_20 rfl rfl (by decide) rfl ?_
      refine ok_iinc (j := 2) (v := (x2 + 1)) (ls2 := [(2, vI (x2 + 1)), (1, vI (x1 + 1)), (0, vR 1 0 wx0)]) dX1_markers_23 rfl rfl (by decide) rfl ?_
      refine ok_goto (tgt := 4) dX1_markers_26 (by decide) ?_
      exact ok_sub [(0, vR 1 0 wx0), (1, vI (x1 + 1)), (2, vI (x2 + 1))] [2, 1, 0] rfl h
set_option maxRecDepth 100000 in
set_option maxHeartbeats 4000000 in
theorem eX1_cut {a b : xA} {h0 : Int64} {Q : xM → Prop} {wx0 : Nat} {x1 : Int32} (hwx0 : wx0 < 3) (h : xOk mX1_cut 7 [(0, vR 1 0 wx0), (2, vI (0 : Int32))] [] ((xUp a 1 0 wx0 0 x1), (b, h0)) (qV Q)) : CV mX1_cut [vR 1 0 wx0, vI x1] (a, (b, h0)) Q := by
  refine xCalls_of (by decide) (Nat.le_of_ble_eq_true rfl) ?_
  show xOk mX1_cut 0 [(0, vR 1 0 wx0), (1, vI x1)] [] (a, (b, h0)) (qV Q)
  refine ok_aload_n (j := 0) dX1_cut_0 rfl rfl ?_
  refine ok_iload_n (j := 1) dX1_cut_1 rfl rfl ?_
  refine pf_1_0 dX1_cut_2 (v1 hwx0) xw_145 ?_
  refine ok_iconst (v := (0 : Int32)) dX1_cut_5 (by decide) ?_
  refine ok_istore_n (ls2 := [(2, vI (0 : Int32)), (0, vR 1 0 wx0), (1, vI x1)]) dX1_cut_6 rfl (by decide) rfl ?_
  exact ok_sub [(0, vR 1 0 wx0), (2, vI (0 : Int32))] [1, 0] rfl h
set_option maxRecDepth 100000 in
set_option maxHeartbeats 4000000 in
theorem rX1_cut_7 {a b : xA} {h0 : Int64} {Q : xM → Prop} {wx0 : Nat} {x2 : Int32} (hwx0 : wx0 < 3) (h : (((a 1 0 wx0 0) ≤ x2 → Q (a, (b, h0))) ∧ (¬ (a 1 0 wx0 0) ≤ x2 → (vp_in x2 48 ∧ (((a 15 0 wx0 (Int32.toNatClampNeg x2)) < (a 1 0 wx0 0) → xOk mX1_cut 7 [(0, vR 1 0 wx0), (2, vI (x2 + 1))] [] (a, (b, h0)) (qV Q)) ∧ (¬ (a 15 0 wx0 (Int32.toNatClampNeg x2)) < (a 1 0 wx0 0) → (vp_in x2 48 ∧ xOk mX1_cut 7 [(0, vR 1 0 wx0), (2, vI (x2 + 1))] [] ((xUp a 15 0 wx0 (Int32.toNatClampNeg x2) (-1 : Int32)), (b, h0)) (qV Q)))))))) : xOk mX1_cut 7 [(0, vR 1 0 wx0), (2, vI x2)] [] (a, (b, h0)) (qV Q) := by
  refine ok_iload_n (j := 1) dX1_cut_7 rfl rfl ?_
  refine ok_aload_n (j := 0) dX1_cut_8 rfl rfl ?_
  refine gf_1_0 dX1_cut_9 (v1 hwx0) xw_145 ?_
  refine ok_icmp_ge (tgt := 41) dX1_cut_12 (by decide) ⟨fun z => ?_, fun z => ?_⟩
  · have h := h.1 z
    exact ok_vret rfl dX1_cut_41 ⟨rfl, h⟩
  · have h := h.2 z
    refine ok_aload_n (j := 0) dX1_cut_15 rfl rfl ?_
    refine gf_1_6 dX1_cut_16 (v1 hwx0) xw_156 ?_
    refine ok_iload_n (j := 1) dX1_cut_19 rfl rfl ?_
    obtain ⟨hb1, h⟩ := h
    refine al_15 dX1_cut_20 (v15 hwx0) hb1 ?_
    refine ok_aload_n (j := 0) dX1_cut_21 rfl rfl ?_
    refine gf_1_0 dX1_cut_22 (v1 hwx0) xw_145 ?_
    refine ok_icmp_lt (tgt := 35) dX1_cut_25 (by decide) ⟨fun z => ?_, fun z => ?_⟩
    · have h := h.1 z
      refine ok_iinc (j := 1) (v := (x2 + 1)) (ls2 := [(2, vI (x2 + 1)), (0, vR 1 0 wx0)]) dX1_cut_35 rfl rfl (by decide) rfl ?_
      refine ok_goto (tgt := 7) dX1_cut_38 (by decide) ?_
      exact ok_sub [(0, vR 1 0 wx0), (2, vI (x2 + 1))] [1, 0] rfl h
    · have h := h.2 z
      refine ok_aload_n (j := 0) dX1_cut_28 rfl rfl ?_
      refine gf_1_6 dX1_cut_29 (v1 hwx0) xw_156 ?_
      refine ok_iload_n (j := 1) dX1_cut_32 rfl rfl ?_
      refine ok_iconst (v := (-1 : Int32)) dX1_cut_33 (by decide) ?_
      obtain ⟨hb2, h⟩ := h
      refine as_15 dX1_cut_34 (v15 hwx0) hb2 ?_
      refine ok_iinc (j := 1) (v := (x2 + 1)) (ls2 := [(2, vI (x2 + 1)), (0, vR 1 0 wx0)]) dX1_cut_35 rfl rfl (by decide) rfl ?_
      refine ok_goto (tgt := 7) dX1_cut_38 (by decide) ?_
      exact ok_sub [(0, vR 1 0 wx0), (2, vI (x2 + 1))] [1, 0] rfl h
