set_option maxRecDepth 100000 in
set_option maxHeartbeats 4000000 in
theorem eX6_lays {a b : xA} {h0 : Int64} {Q : xM → Prop} {x1 : Int32} {x2 : Int32} {x3 : Int32}  (h : (vp_in (((2 : Int32) + ((16 : Int32) * x1)) + x2) 945 ∧ Q (a, ((xUp b 30 0 0 (Int32.toNatClampNeg (((2 : Int32) + ((16 : Int32) * x1)) + x2)) x3), h0)))) : CV mX6_lays [vR 6 0 0, vI x1, vI x2, vI x3] (a, (b, h0)) Q := by
  refine xCalls_of (by decide) (Nat.le_of_ble_eq_true rfl) ?_
  show xOk mX6_lays 0 [(0, vR 6 0 0), (1, vI x1), (2, vI x2), (3, vI x3)] [] (a, (b, h0)) (qV Q)
  refine ok_aload_n (j := 0) dX6_lays_0 rfl rfl ?_
  refine gf_6_0 dX6_lays_1 v6 xw_530 ?_
  refine ok_iconst (v := (2 : Int32)) dX6_lays_4 (by decide) ?_
  refine ok_bipush (v := (16 : Int32)) dX6_lays_5 (by decide) ?_
  refine ok_iload_n (j := 1) dX6_lays_7 rfl rfl ?_
  refine ok_imul dX6_lays_8 ?_
  refine ok_iadd dX6_lays_9 ?_
  refine ok_iload_n (j := 2) dX6_lays_10 rfl rfl ?_
  refine ok_iadd dX6_lays_11 ?_
  refine ok_iload_n (j := 3) dX6_lays_12 rfl rfl ?_
  obtain ⟨hb1, h⟩ := h
  refine as_30 dX6_lays_13 v30 hb1 ?_
  exact ok_vret rfl dX6_lays_14 ⟨rfl, h⟩
set_option maxRecDepth 100000 in
set_option maxHeartbeats 4000000 in
theorem eX6_begins {a b : xA} {h0 : Int64} {Q : Int32 → xM → Prop} {x1 : Int32}  (h : (CI mX6_isWriter [vI x1] (a, (b, h0)) (fun r1 μ1 => ((¬ r1 = 0 → (CI mX6_of [vR 6 0 0, vI x1, vI (1 : Int32)] μ1 (fun r2 μ2 => ((¬ r2 = (2 : Int32) → (CI mX6_of [vR 6 0 0, vI x1, vI (0 : Int32)] μ2 (fun r3 μ3 => ((r3 < (99 : Int32) → (CV mX6_notes [vR 6 0 0] μ3 (fun μ4 => (CI mX6_of [vR 6 0 0, vI x1, vI (0 : Int32)] μ4 (fun r5 μ5 => (CV mX6_lays [vR 6 0 0, vI x1, vI (0 : Int32), vI (r5 + (1 : Int32))] μ5 (fun μ6 => (CI mX6_of [vR 6 0 0, vI x1, vI (1 : Int32)] μ6 (fun r7 μ7 => ((¬ r7 = (1 : Int32) → (CI mX6_of [vR 6 0 0, vI x1, vI (0 : Int32)] μ7 (fun r8 μ8 => Q r8 μ8))) ∧ (r7 = (1 : Int32) → (CV mX6_endDeed [vR 6 0 0, vI x1, vI (0 : Int32)] μ7 (fun μ9 => (CI mX6_of [vR 6 0 0, vI x1, vI (0 : Int32)] μ9 (fun r10 μ10 => Q r10 μ10))))))))))))))) ∧ (¬ r3 < (99 : Int32) → (CI mX6_refuse [vR 6 0 0, vI (4 : Int32), vI (-4 : Int32)] μ3 (fun r11 μ11 => Q r11 μ11))))))) ∧ (r2 = (2 : Int32) → (CI mX6_refuse [vR 6 0 0, vI (2 : Int32), vI (-3 : Int32)] μ2 (fun r12 μ12 => Q r12 μ12))))))) ∧ (r1 = 0 → (CI mX6_bad [vR 6 0 0] μ1 (fun r13 μ13 => Q r13 μ13))))))) : CI mX6_begins [vR 6 0 0, vI x1] (a, (b, h0)) Q := by
  refine xCalls_of (by decide) (Nat.le_of_ble_eq_true rfl) ?_
  show xOk mX6_begins 0 [(0, vR 6 0 0), (1, vI x1)] [] (a, (b, h0)) (qI Q)
  refine ok_iload_n (j := 1) dX6_begins_0 rfl rfl ?_
  refine ok_callS (M' := mX6_isWriter) [vI x1] dX6_begins_1 xw_577 fV_X6_isWriter fS_X6_isWriter (by decide) rfl (Nat.le_of_ble_eq_true rfl) (CI.to (CI.mono h ?_))
  intro r1 μ1 h
  refine ok_if_ne (tgt := 12) dX6_begins_4 (by decide) ⟨fun z => ?_, fun z => ?_⟩
  · have h := h.1 z
    refine ok_aload_n (j := 0) dX6_begins_12 rfl rfl ?_
    refine ok_iload_n (j := 1) dX6_begins_13 rfl rfl ?_
    refine ok_iconst (v := (1 : Int32)) dX6_begins_14 (by decide) ?_
    refine ok_callV (M' := mX6_of) [vI x1, vI (1 : Int32)] dX6_begins_15 xw_591 fV_X6_of fS_X6_of rfl (by decide) v6 (ob_6 _ _ _) rfl (Nat.le_of_ble_eq_true rfl) (CI.to (CI.mono h ?_))
    intro r2 μ2 h
    refine ok_iconst (v := (2 : Int32)) dX6_begins_18 (by decide) ?_
    refine ok_icmp_ne (tgt := 30) dX6_begins_19 (by decide) ⟨fun z => ?_, fun z => ?_⟩
    · have h := h.1 z
      refine ok_aload_n (j := 0) dX6_begins_30 rfl rfl ?_
      refine ok_iload_n (j := 1) dX6_begins_31 rfl rfl ?_
      refine ok_iconst (v := (0 : Int32)) dX6_begins_32 (by decide) ?_
      refine ok_callV (M' := mX6_of) [vI x1, vI (0 : Int32)] dX6_begins_33 xw_591 fV_X6_of fS_X6_of rfl (by decide) v6 (ob_6 _ _ _) rfl (Nat.le_of_ble_eq_true rfl) (CI.to (CI.mono h ?_))
      intro r3 μ3 h
      refine ok_bipush (v := (99 : Int32)) dX6_begins_36 (by decide) ?_
      refine ok_icmp_lt (tgt := 49) dX6_begins_38 (by decide) ⟨fun z => ?_, fun z => ?_⟩
      · have h := h.1 z
        refine ok_aload_n (j := 0) dX6_begins_49 rfl rfl ?_
        refine ok_callV (M' := mX6_notes) [] dX6_begins_50 xw_595 fV_X6_notes fS_X6_notes rfl (by decide) v6 (ob_6 _ _ _) rfl (Nat.le_of_ble_eq_true rfl) (CV.to (CV.mono h ?_))
        intro μ4 h
        refine ok_aload_n (j := 0) dX6_begins_53 rfl rfl ?_
        refine ok_iload_n (j := 1) dX6_begins_54 rfl rfl ?_
        refine ok_iconst (v := (0 : Int32)) dX6_begins_55 (by decide) ?_
        refine ok_aload_n (j := 0) dX6_begins_56 rfl rfl ?_
        refine ok_iload_n (j := 1) dX6_begins_57 rfl rfl ?_
        refine ok_iconst (v := (0 : Int32)) dX6_begins_58 (by decide) ?_
        refine ok_callV (M' := mX6_of) [vI x1, vI (0 : Int32)] dX6_begins_59 xw_591 fV_X6_of fS_X6_of rfl (by decide) v6 (ob_6 _ _ _) rfl (Nat.le_of_ble_eq_true rfl) (CI.to (CI.mono h ?_))
        intro r5 μ5 h
        refine ok_iconst (v := (1 : Int32)) dX6_begins_62 (by decide) ?_
        refine ok_iadd dX6_begins_63 ?_
        refine ok_callV (M' := mX6_lays) [vI x1, vI (0 : Int32), vI (r5 + (1 : Int32))] dX6_begins_64 xw_526 fV_X6_lays fS_X6_lays rfl (by decide) v6 (ob_6 _ _ _) rfl (Nat.le_of_ble_eq_true rfl) (CV.to (CV.mono h ?_))
        intro μ6 h
        refine ok_aload_n (j := 0) dX6_begins_67 rfl rfl ?_
        refine ok_iload_n (j := 1) dX6_begins_68 rfl rfl ?_
        refine ok_iconst (v := (1 : Int32)) dX6_begins_69 (by decide) ?_
        refine ok_callV (M' := mX6_of) [vI x1, vI (1 : Int32)] dX6_begins_70 xw_591 fV_X6_of fS_X6_of rfl (by decide) v6 (ob_6 _ _ _) rfl (Nat.le_of_ble_eq_true rfl) (CI.to (CI.mono h ?_))
        intro r7 μ7 h
        refine ok_iconst (v := (1 : Int32)) dX6_begins_73 (by decide) ?_
        refine ok_icmp_ne (tgt := 83) dX6_begins_74 (by decide) ⟨fun z => ?_, fun z => ?_⟩
        · have h := h.1 z
          refine ok_aload_n (j := 0) dX6_begins_83 rfl rfl ?_
          refine ok_iload_n (j := 1) dX6_begins_84 rfl rfl ?_
          refine ok_iconst (v := (0 : Int32)) dX6_begins_85 (by decide) ?_
          refine ok_callV (M' := mX6_of) [vI x1, vI (0 : Int32)] dX6_begins_86 xw_591 fV_X6_of fS_X6_of rfl (by decide) v6 (ob_6 _ _ _) rfl (Nat.le_of_ble_eq_true rfl) (CI.to (CI.mono h ?_))
          intro r8 μ8 h
          exact ok_iret rfl dX6_begins_89 ⟨_, rfl, h⟩
        · have h := h.2 z
          refine ok_aload_n (j := 0) dX6_begins_77 rfl rfl ?_
          refine ok_iload_n (j := 1) dX6_begins_78 rfl rfl ?_
          refine ok_iconst (v := (0 : Int32)) dX6_begins_79 (by decide) ?_
          refine ok_callV (M' := mX6_endDeed) [vI x1, vI (0 : Int32)] dX6_begins_80 xw_607 fV_X6_endDeed fS_X6_endDeed rfl (by decide) v6 (ob_6 _ _ _) rfl (Nat.le_of_ble_eq_true rfl) (CV.to (CV.mono h ?_))
          intro μ9 h
          refine ok_aload_n (j := 0) dX6_begins_83 rfl rfl ?_
          refine ok_iload_n (j := 1) dX6_begins_84 rfl rfl ?_
          refine ok_iconst (v := (0 : Int32)) dX6_begins_85 (by decide) ?_
          refine ok_callV (M' := mX6_of) [vI x1, vI (0 : Int32)] dX6_begins_86 xw_591 fV_X6_of fS_X6_of rfl (by decide) v6 (ob_6 _ _ _) rfl (Nat.le_of_ble_eq_true rfl) (CI.to (CI.mono h ?_))
          intro r10 μ10 h
          exact ok_iret rfl dX6_begins_89 ⟨_, rfl, h⟩
      · have h := h.2 z
        refine ok_aload_n (j := 0) dX6_begins_41 rfl rfl ?_
        refine ok_iconst (v := (4 : Int32)) dX6_begins_42 (by decide) ?_
        refine ok_bipush (v := (-4 : Int32)) dX6_begins_43 (by decide) ?_
        refine ok_callV (M' := mX6_refuse) [vI (4 : Int32), vI (-4 : Int32)] dX6_begins_45 xw_587 fV_X6_refuse fS_X6_refuse rfl (by decide) v6 (ob_6 _ _ _) rfl (Nat.le_of_ble_eq_true rfl) (CI.to (CI.mono h ?_))
        intro r11 μ11 h
        exact ok_iret rfl dX6_begins_48 ⟨_, rfl, h⟩
    · have h := h.2 z
      refine ok_aload_n (j := 0) dX6_begins_22 rfl rfl ?_
      refine ok_iconst (v := (2 : Int32)) dX6_begins_23 (by decide) ?_
      refine ok_bipush (v := (-3 : Int32)) dX6_begins_24 (by decide) ?_
      refine ok_callV (M' := mX6_refuse) [vI (2 : Int32), vI (-3 : Int32)] dX6_begins_26 xw_587 fV_X6_refuse fS_X6_refuse rfl (by decide) v6 (ob_6 _ _ _) rfl (Nat.le_of_ble_eq_true rfl) (CI.to (CI.mono h ?_))
      intro r12 μ12 h
      exact ok_iret rfl dX6_begins_29 ⟨_, rfl, h⟩
  · have h := h.2 z
    refine ok_aload_n (j := 0) dX6_begins_7 rfl rfl ?_
    refine ok_callV (M' := mX6_bad) [] dX6_begins_8 xw_583 fV_X6_bad fS_X6_bad rfl (by decide) v6 (ob_6 _ _ _) rfl (Nat.le_of_ble_eq_true rfl) (CI.to (CI.mono h ?_))
    intro r13 μ13 h
    exact ok_iret rfl dX6_begins_11 ⟨_, rfl, h⟩
set_option maxRecDepth 100000 in
set_option maxHeartbeats 4000000 in
theorem eX6_isWriter {a b : xA} {h0 : Int64} {Q : Int32 → xM → Prop} {x0 : Int32}  (h : (CI mX6_in [vI x0, vI (0 : Int32), vI (3 : Int32)] (a, (b, h0)) (fun r1 μ1 => ((r1 = 0 ∨ r1 = 1) ∧ Q r1 μ1)))) : CI mX6_isWriter [vI x0] (a, (b, h0)) Q := by
  refine xCalls_of (by decide) (Nat.le_of_ble_eq_true rfl) ?_
  show xOk mX6_isWriter 0 [(0, vI x0)] [] (a, (b, h0)) (qI Q)
  refine ok_iload_n (j := 0) dX6_isWriter_0 rfl rfl ?_
  refine ok_iconst (v := (0 : Int32)) dX6_isWriter_1 (by decide) ?_
  refine ok_iconst (v := (3 : Int32)) dX6_isWriter_2 (by decide) ?_
  refine ok_callS (M' := mX6_in) [vI x0, vI (0 : Int32), vI (3 : Int32)] dX6_isWriter_3 xw_580 fV_X6_in fS_X6_in (by decide) rfl (Nat.le_of_ble_eq_true rfl) (CI.to (CI.mono h ?_))
  intro r1 μ1 h
  obtain ⟨hz, h⟩ := h
  exact ok_zret rfl hz dX6_isWriter_6 ⟨_, rfl, h⟩
set_option maxRecDepth 100000 in
set_option maxHeartbeats 4000000 in
theorem eX6_in {a b : xA} {h0 : Int64} {Q : Int32 → xM → Prop} {x0 : Int32} {x1 : Int32} {x2 : Int32}  (h : ((x0 < x1 → Q (0 : Int32) (a, (b, h0))) ∧ (¬ x0 < x1 → ((x2 < x0 → Q (0 : Int32) (a, (b, h0))) ∧ (¬ x2 < x0 → Q (1 : Int32) (a, (b, h0))))))) : CI mX6_in [vI x0, vI x1, vI x2] (a, (b, h0)) Q := by
  refine xCalls_of (by decide) (Nat.le_of_ble_eq_true rfl) ?_
  show xOk mX6_in 0 [(0, vI x0), (1, vI x1), (2, vI x2)] [] (a, (b, h0)) (qI Q)
  refine ok_iload_n (j := 0) dX6_in_0 rfl rfl ?_
  refine ok_iload_n (j := 1) dX6_in_1 rfl rfl ?_
  refine ok_icmp_lt (tgt := 14) dX6_in_2 (by decide) ⟨fun z => ?_, fun z => ?_⟩
  · have h := h.1 z
    refine ok_iconst (v := (0 : Int32)) dX6_in_14 (by decide) ?_
    exact ok_zret rfl (by decide) dX6_in_15 ⟨_, rfl, h⟩
  · have h := h.2 z
    refine ok_iload_n (j := 0) dX6_in_5 rfl rfl ?_
    refine ok_iload_n (j := 2) dX6_in_6 rfl rfl ?_
    refine ok_icmp_gt (tgt := 14) dX6_in_7 (by decide) ⟨fun z => ?_, fun z => ?_⟩
    · have h := h.1 z
      refine ok_iconst (v := (0 : Int32)) dX6_in_14 (by decide) ?_
      exact ok_zret rfl (by decide) dX6_in_15 ⟨_, rfl, h⟩
    · have h := h.2 z
      refine ok_iconst (v := (1 : Int32)) dX6_in_10 (by decide) ?_
      refine ok_goto (tgt := 15) dX6_in_11 (by decide) ?_
      exact ok_zret rfl (by decide) dX6_in_15 ⟨_, rfl, h⟩
set_option maxRecDepth 100000 in
set_option maxHeartbeats 4000000 in
theorem eX6_bad {a b : xA} {h0 : Int64} {Q : Int32 → xM → Prop}   (h : (CI mX6_refuse [vR 6 0 0, vI (0 : Int32), vI (-2 : Int32)] (a, (b, h0)) (fun r1 μ1 => Q r1 μ1))) : CI mX6_bad [vR 6 0 0] (a, (b, h0)) Q := by
  refine xCalls_of (by decide) (Nat.le_of_ble_eq_true rfl) ?_
  show xOk mX6_bad 0 [(0, vR 6 0 0)] [] (a, (b, h0)) (qI Q)
  refine ok_aload_n (j := 0) dX6_bad_0 rfl rfl ?_
  refine ok_iconst (v := (0 : Int32)) dX6_bad_1 (by decide) ?_
  refine ok_bipush (v := (-2 : Int32)) dX6_bad_2 (by decide) ?_
  refine ok_callV (M' := mX6_refuse) [vI (0 : Int32), vI (-2 : Int32)] dX6_bad_4 xw_587 fV_X6_refuse fS_X6_refuse rfl (by decide) v6 (ob_6 _ _ _) rfl (Nat.le_of_ble_eq_true rfl) (CI.to (CI.mono h ?_))
  intro r1 μ1 h
  exact ok_iret rfl dX6_bad_7 ⟨_, rfl, h⟩
set_option maxRecDepth 100000 in
set_option maxHeartbeats 4000000 in
theorem eX6_refuse {a b : xA} {h0 : Int64} {Q : Int32 → xM → Prop} {x1 : Int32} {x2 : Int32}  (h : (vp_in x1 5 ∧ (vp_in x1 5 ∧ Q x2 (a, ((xUp b 32 0 0 (Int32.toNatClampNeg x1) ((b 32 0 0 (Int32.toNatClampNeg x1)) + (1 : Int32))), h0))))) : CI mX6_refuse [vR 6 0 0, vI x1, vI x2] (a, (b, h0)) Q := by
  refine xCalls_of (by decide) (Nat.le_of_ble_eq_true rfl) ?_
  show xOk mX6_refuse 0 [(0, vR 6 0 0), (1, vI x1), (2, vI x2)] [] (a, (b, h0)) (qI Q)
  refine ok_aload_n (j := 0) dX6_refuse_0 rfl rfl ?_
  refine gf_6_4 dX6_refuse_1 v6 xw_534 ?_
  refine ok_iload_n (j := 1) dX6_refuse_4 rfl rfl ?_
  refine ok_dup2 dX6_refuse_5 rfl rfl ?_
  obtain ⟨hb1, h⟩ := h
  refine al_32 dX6_refuse_6 v32 hb1 ?_
  refine ok_iconst (v := (1 : Int32)) dX6_refuse_7 (by decide) ?_
  refine ok_iadd dX6_refuse_8 ?_
  obtain ⟨hb2, h⟩ := h
  refine as_32 dX6_refuse_9 v32 hb2 ?_
  refine ok_iload_n (j := 2) dX6_refuse_10 rfl rfl ?_
  exact ok_iret rfl dX6_refuse_11 ⟨_, rfl, h⟩
set_option maxRecDepth 100000 in
set_option maxHeartbeats 4000000 in
theorem eX6_of {a b : xA} {h0 : Int64} {Q : Int32 → xM → Prop} {x1 : Int32} {x2 : Int32}  (h : (vp_in (((2 : Int32) + ((16 : Int32) * x1)) + x2) 945 ∧ Q (b 30 0 0 (Int32.toNatClampNeg (((2 : Int32) + ((16 : Int32) * x1)) + x2))) (a, (b, h0)))) : CI mX6_of [vR 6 0 0, vI x1, vI x2] (a, (b, h0)) Q := by
  refine xCalls_of (by decide) (Nat.le_of_ble_eq_true rfl) ?_
  show xOk mX6_of 0 [(0, vR 6 0 0), (1, vI x1), (2, vI x2)] [] (a, (b, h0)) (qI Q)
  refine ok_aload_n (j := 0) dX6_of_0 rfl rfl ?_
  refine gf_6_0 dX6_of_1 v6 xw_530 ?_
  refine ok_iconst (v := (2 : Int32)) dX6_of_4 (by decide) ?_
  refine ok_bipush (v := (16 : Int32)) dX6_of_5 (by decide) ?_
  refine ok_iload_n (j := 1) dX6_of_7 rfl rfl ?_
  refine ok_imul dX6_of_8 ?_
  refine ok_iadd dX6_of_9 ?_
  refine ok_iload_n (j := 2) dX6_of_10 rfl rfl ?_
  refine ok_iadd dX6_of_11 ?_
  obtain ⟨hb1, h⟩ := h
  refine al_30 dX6_of_12 v30 hb1 ?_
  exact ok_iret rfl dX6_of_13 ⟨_, rfl, h⟩
set_option maxRecDepth 100000 in
set_option maxHeartbeats 4000000 in
theorem eX6_notes {a b : xA} {h0 : Int64} {Q : xM → Prop}   (h : ((¬ (b 6 0 0 3) = 0 → Q (a, (b, h0))) ∧ ((b 6 0 0 3) = 0 → (CV mX6_keeps [vR 6 0 0, vR 30 0 0, vI (0 : Int32)] (a, (b, h0)) (fun μ1 => Q μ1))))) : CV mX6_notes [vR 6 0 0] (a, (b, h0)) Q := by
  refine xCalls_of (by decide) (Nat.le_of_ble_eq_true rfl) ?_
  show xOk mX6_notes 0 [(0, vR 6 0 0)] [] (a, (b, h0)) (qV Q)
  refine ok_aload_n (j := 0) dX6_notes_0 rfl rfl ?_
  refine gf_6_3 dX6_notes_1 v6 xw_533 ?_
  refine ok_if_ne (tgt := 16) dX6_notes_4 (by decide) ⟨fun z => ?_, fun z => ?_⟩
  · have h := h.1 z
    exact ok_vret rfl dX6_notes_16 ⟨rfl, h⟩
  · have h := h.2 z
    refine ok_aload_n (j := 0) dX6_notes_7 rfl rfl ?_
    refine ok_aload_n (j := 0) dX6_notes_8 rfl rfl ?_
    refine gf_6_0 dX6_notes_9 v6 xw_530 ?_
    refine ok_iconst (v := (0 : Int32)) dX6_notes_12 (by decide) ?_
    refine ok_callV (M' := mX6_keeps) [vR 30 0 0, vI (0 : Int32)] dX6_notes_13 xw_599 fV_X6_keeps fS_X6_keeps rfl (by decide) v6 (ob_6 _ _ _) rfl (Nat.le_of_ble_eq_true rfl) (CV.to (CV.mono h ?_))
    intro μ1 h
    exact ok_vret rfl dX6_notes_16 ⟨rfl, h⟩
set_option maxRecDepth 100000 in
set_option maxHeartbeats 4000000 in
theorem eX6_endDeed {a b : xA} {h0 : Int64} {Q : xM → Prop} {x1 : Int32} {x2 : Int32}  (h : (CV mX6_lays [vR 6 0 0, vI x1, vI (4 : Int32), vI x2] (a, (b, h0)) (fun μ1 => (CV mX6_lays [vR 6 0 0, vI x1, vI (3 : Int32), vI (0 : Int32)] μ1 (fun μ2 => (vp_in (0 : Int32) 945 ∧ (CV mX6_lays [vR 6 0 0, vI x1, vI (6 : Int32), vI (μ2.2.1 30 0 0 (Int32.toNatClampNeg (0 : Int32)))] μ2 (fun μ4 => (CV mX6_lays [vR 6 0 0, vI x1, vI (1 : Int32), vI (2 : Int32)] μ4 (fun μ5 => (CI mX6_of [vR 6 0 0, vI x1, vI (2 : Int32)] μ5 (fun r6 μ6 => ((¬ r6 = 0 → Q μ6) ∧ (r6 = 0 → (CV mX6_isOver [vR 6 0 0, vI x1] μ6 (fun μ7 => Q μ7)))))))))))))))) : CV mX6_endDeed [vR 6 0 0, vI x1, vI x2] (a, (b, h0)) Q := by
  refine xCalls_of (by decide) (Nat.le_of_ble_eq_true rfl) ?_
  show xOk mX6_endDeed 0 [(0, vR 6 0 0), (1, vI x1), (2, vI x2)] [] (a, (b, h0)) (qV Q)
  refine ok_aload_n (j := 0) dX6_endDeed_0 rfl rfl ?_
  refine ok_iload_n (j := 1) dX6_endDeed_1 rfl rfl ?_
  refine ok_iconst (v := (4 : Int32)) dX6_endDeed_2 (by decide) ?_
  refine ok_iload_n (j := 2) dX6_endDeed_3 rfl rfl ?_
  refine ok_callV (M' := mX6_lays) [vI x1, vI (4 : Int32), vI x2] dX6_endDeed_4 xw_526 fV_X6_lays fS_X6_lays rfl (by decide) v6 (ob_6 _ _ _) rfl (Nat.le_of_ble_eq_true rfl) (CV.to (CV.mono h ?_))
  intro μ1 h
  refine ok_aload_n (j := 0) dX6_endDeed_7 rfl rfl ?_
  refine ok_iload_n (j := 1) dX6_endDeed_8 rfl rfl ?_
  refine ok_iconst (v := (3 : Int32)) dX6_endDeed_9 (by decide) ?_
  refine ok_iconst (v := (0 : Int32)) dX6_endDeed_10 (by decide) ?_
  refine ok_callV (M' := mX6_lays) [vI x1, vI (3 : Int32), vI (0 : Int32)] dX6_endDeed_11 xw_526 fV_X6_lays fS_X6_lays rfl (by decide) v6 (ob_6 _ _ _) rfl (Nat.le_of_ble_eq_true rfl) (CV.to (CV.mono h ?_))
  intro μ2 h
  refine ok_aload_n (j := 0) dX6_endDeed_14 rfl rfl ?_
  refine ok_iload_n (j := 1) dX6_endDeed_15 rfl rfl ?_
  refine ok_bipush (v := (6 : Int32)) dX6_endDeed_16 (by decide) ?_
  refine ok_aload_n (j := 0) dX6_endDeed_18 rfl rfl ?_
  refine gf_6_0 dX6_endDeed_19 v6 xw_530 ?_
  refine ok_iconst (v := (0 : Int32)) dX6_endDeed_22 (by decide) ?_
  obtain ⟨hb3, h⟩ := h
  refine al_30 dX6_endDeed_23 v30 hb3 ?_
  refine ok_callV (M' := mX6_lays) [vI x1, vI (6 : Int32), vI (μ2.2.1 30 0 0 (Int32.toNatClampNeg (0 : Int32)))] dX6_endDeed_24 xw_526 fV_X6_lays fS_X6_lays rfl (by decide) v6 (ob_6 _ _ _) rfl (Nat.le_of_ble_eq_true rfl) (CV.to (CV.mono h ?_))
  intro μ4 h
  refine ok_aload_n (j := 0) dX6_endDeed_27 rfl rfl ?_
  refine ok_iload_n (j := 1) dX6_endDeed_28 rfl rfl ?_
  refine ok_iconst (v := (1 : Int32)) dX6_endDeed_29 (by decide) ?_
  refine ok_iconst (v := (2 : Int32)) dX6_endDeed_30 (by decide) ?_
  refine ok_callV (M' := mX6_lays) [vI x1, vI (1 : Int32), vI (2 : Int32)] dX6_endDeed_31 xw_526 fV_X6_lays fS_X6_lays rfl (by decide) v6 (ob_6 _ _ _) rfl (Nat.le_of_ble_eq_true rfl) (CV.to (CV.mono h ?_))
  intro μ5 h
  refine ok_aload_n (j := 0) dX6_endDeed_34 rfl rfl ?_
  refine ok_iload_n (j := 1) dX6_endDeed_35 rfl rfl ?_
  refine ok_iconst (v := (2 : Int32)) dX6_endDeed_36 (by decide) ?_
  refine ok_callV (M' := mX6_of) [vI x1, vI (2 : Int32)] dX6_endDeed_37 xw_591 fV_X6_of fS_X6_of rfl (by decide) v6 (ob_6 _ _ _) rfl (Nat.le_of_ble_eq_true rfl) (CI.to (CI.mono h ?_))
  intro r6 μ6 h
  refine ok_if_ne (tgt := 48) dX6_endDeed_40 (by decide) ⟨fun z => ?_, fun z => ?_⟩
  · have h := h.1 z
    exact ok_vret rfl dX6_endDeed_48 ⟨rfl, h⟩
  · have h := h.2 z
    refine ok_aload_n (j := 0) dX6_endDeed_43 rfl rfl ?_
    refine ok_iload_n (j := 1) dX6_endDeed_44 rfl rfl ?_
    refine ok_callV (M' := mX6_isOver) [vI x1] dX6_endDeed_45 xw_611 fV_X6_isOver fS_X6_isOver rfl (by decide) v6 (ob_6 _ _ _) rfl (Nat.le_of_ble_eq_true rfl) (CV.to (CV.mono h ?_))
    intro μ7 h
    exact ok_vret rfl dX6_endDeed_48 ⟨rfl, h⟩
set_option maxRecDepth 100000 in
set_option maxHeartbeats 4000000 in
theorem eX6_isOver {a b : xA} {h0 : Int64} {Q : xM → Prop} {x1 : Int32}  (h : xOk mX6_isOver 2 [(0, vR 6 0 0), (1, vI x1), (2, vI (0 : Int32))] [] (a, (b, h0)) (qV Q)) : CV mX6_isOver [vR 6 0 0, vI x1] (a, (b, h0)) Q := by
  refine xCalls_of (by decide) (Nat.le_of_ble_eq_true rfl) ?_
  show xOk mX6_isOver 0 [(0, vR 6 0 0), (1, vI x1)] [] (a, (b, h0)) (qV Q)
  refine ok_iconst (v := (0 : Int32)) dX6_isOver_0 (by decide) ?_
  refine ok_istore_n (ls2 := [(2, vI (0 : Int32)), (0, vR 6 0 0), (1, vI x1)]) dX6_isOver_1 rfl (by decide) rfl ?_
  exact ok_sub [(0, vR 6 0 0), (1, vI x1), (2, vI (0 : Int32))] [1, 2, 0] rfl h
set_option maxRecDepth 100000 in
set_option maxHeartbeats 4000000 in
theorem rX6_isOver_2 {a b : xA} {h0 : Int64} {Q : xM → Prop} {x1 : Int32} {x2 : Int32}  (h : (((2 : Int32) ≤ x2 → (CV mX6_lays [vR 6 0 0, vI x1, vI (1 : Int32), vI (0 : Int32)] (a, (b, h0)) (fun μ1 => (CV mX6_lays [vR 6 0 0, vI x1, vI (2 : Int32), vI (0 : Int32)] μ1 (fun μ2 => (CV mX6_lays [vR 6 0 0, vI x1, vI (3 : Int32), vI (0 : Int32)] μ2 (fun μ3 => (CV mX6_lays [vR 6 0 0, vI x1, vI (4 : Int32), vI (0 : Int32)] μ3 (fun μ4 => Q μ4))))))))) ∧ (¬ (2 : Int32) ≤ x2 → xOk mX6_isOver 9 [(0, vR 6 0 0), (1, vI x1), (2, vI x2), (3, vI (0 : Int32))] [] (a, (b, h0)) (qV Q)))) : xOk mX6_isOver 2 [(0, vR 6 0 0), (1, vI x1), (2, vI x2)] [] (a, (b, h0)) (qV Q) := by
  refine ok_iload_n (j := 2) dX6_isOver_2 rfl rfl ?_
  refine ok_iconst (v := (2 : Int32)) dX6_isOver_3 (by decide) ?_
  refine ok_icmp_ge (tgt := 74) dX6_isOver_4 (by decide) ⟨fun z => ?_, fun z => ?_⟩
  · have h := h.1 z
    refine ok_aload_n (j := 0) dX6_isOver_74 rfl rfl ?_
    refine ok_iload_n (j := 1) dX6_isOver_75 rfl rfl ?_
    refine ok_iconst (v := (1 : Int32)) dX6_isOver_76 (by decide) ?_
    refine ok_iconst (v := (0 : Int32)) dX6_isOver_77 (by decide) ?_
    refine ok_callV (M' := mX6_lays) [vI x1, vI (1 : Int32), vI (0 : Int32)] dX6_isOver_78 xw_526 fV_X6_lays fS_X6_lays rfl (by decide) v6 (ob_6 _ _ _) rfl (Nat.le_of_ble_eq_true rfl) (CV.to (CV.mono h ?_))
    intro μ1 h
    refine ok_aload_n (j := 0) dX6_isOver_81 rfl rfl ?_
    refine ok_iload_n (j := 1) dX6_isOver_82 rfl rfl ?_
    refine ok_iconst (v := (2 : Int32)) dX6_isOver_83 (by decide) ?_
    refine ok_iconst (v := (0 : Int32)) dX6_isOver_84 (by decide) ?_
    refine ok_callV (M' := mX6_lays) [vI x1, vI (2 : Int32), vI (0 : Int32)] dX6_isOver_85 xw_526 fV_X6_lays fS_X6_lays rfl (by decide) v6 (ob_6 _ _ _) rfl (Nat.le_of_ble_eq_true rfl) (CV.to (CV.mono h ?_))
    intro μ2 h
    refine ok_aload_n (j := 0) dX6_isOver_88 rfl rfl ?_
    refine ok_iload_n (j := 1) dX6_isOver_89 rfl rfl ?_
    refine ok_iconst (v := (3 : Int32)) dX6_isOver_90 (by decide) ?_
    refine ok_iconst (v := (0 : Int32)) dX6_isOver_91 (by decide) ?_
    refine ok_callV (M' := mX6_lays) [vI x1, vI (3 : Int32), vI (0 : Int32)] dX6_isOver_92 xw_526 fV_X6_lays fS_X6_lays rfl (by decide) v6 (ob_6 _ _ _) rfl (Nat.le_of_ble_eq_true rfl) (CV.to (CV.mono h ?_))
    intro μ3 h
    refine ok_aload_n (j := 0) dX6_isOver_95 rfl rfl ?_
    refine ok_iload_n (j := 1) dX6_isOver_96 rfl rfl ?_
    refine ok_iconst (v := (4 : Int32)) dX6_isOver_97 (by decide) ?_
    refine ok_iconst (v := (0 : Int32)) dX6_isOver_98 (by decide) ?_
    refine ok_callV (M' := mX6_lays) [vI x1, vI (4 : Int32), vI (0 : Int32)] dX6_isOver_99 xw_526 fV_X6_lays fS_X6_lays rfl (by decide) v6 (ob_6 _ _ _) rfl (Nat.le_of_ble_eq_true rfl) (CV.to (CV.mono h ?_))
    intro μ4 h
    exact ok_vret rfl dX6_isOver_102 ⟨rfl, h⟩
  · have h := h.2 z
    refine ok_iconst (v := (0 : Int32)) dX6_isOver_7 (by decide) ?_
    refine ok_istore_n (ls2 := [(3, vI (0 : Int32)), (0, vR 6 0 0), (1, vI x1), (2, vI x2)]) dX6_isOver_8 rfl (by decide) rfl ?_
    exact ok_sub [(0, vR 6 0 0), (1, vI x1), (2, vI x2), (3, vI (0 : Int32))] [1, 2, 3, 0] rfl h
set_option maxRecDepth 100000 in
set_option maxHeartbeats 4000000 in
theorem rX6_isOver_9 {a b : xA} {h0 : Int64} {Q : xM → Prop} {x1 : Int32} {x2 : Int32} {x3 : Int32}  (h : (((3 : Int32) ≤ x3 → xOk mX6_isOver 2 [(0, vR 6 0 0), (1, vI x1), (2, vI (x2 + 1))] [] (a, (b, h0)) (qV Q)) ∧ (¬ (3 : Int32) ≤ x3 → (CI mX6_of [vR 6 0 0, vI x1, vI (((10 : Int32) + ((3 : Int32) * x2)) + x3)] (a, (b, h0)) (fun r1 μ1 => (CI mX6_of [vR 6 0 0, vI x1, vI (4 : Int32)] μ1 (fun r2 μ2 => ((¬ r2 = (1 : Int32) → xOk mX6_isOver 9 [(0, vR 6 0 0), (1, vI x1), (2, vI x2), (3, vI (x3 + 1))] [] μ2 (qV Q)) ∧ (r2 = (1 : Int32) → ((r1 < 0 → xOk mX6_isOver 9 [(0, vR 6 0 0), (1, vI x1), (2, vI x2), (3, vI (x3 + 1))] [] μ2 (qV Q)) ∧ (¬ r1 < 0 → (vp_in ((((69 : Int32) + ((6 : Int32) * x2)) + (3 : Int32)) + x3) 945 ∧ xOk mX6_isOver 9 [(0, vR 6 0 0), (1, vI x1), (2, vI x2), (3, vI (x3 + 1))] [] (μ2.1, ((xUp μ2.2.1 30 0 0 (Int32.toNatClampNeg ((((69 : Int32) + ((6 : Int32) * x2)) + (3 : Int32)) + x3)) r1), μ2.2.2)) (qV Q))))))))))))) : xOk mX6_isOver 9 [(0, vR 6 0 0), (1, vI x1), (2, vI x2), (3, vI x3)] [] (a, (b, h0)) (qV Q) := by
  refine ok_iload_n (j := 3) dX6_isOver_9 rfl rfl ?_
  refine ok_iconst (v := (3 : Int32)) dX6_isOver_10 (by decide) ?_
  refine ok_icmp_ge (tgt := 68) dX6_isOver_11 (by decide) ⟨fun z => ?_, fun z => ?_⟩
  · have h := h.1 z
    refine ok_iinc (j := 2) (v := (x2 + 1)) (ls2 := [(2, vI (x2 + 1)), (0, vR 6 0 0), (1, vI x1), (3, vI x3)]) dX6_isOver_68 rfl rfl (by decide) rfl ?_
    refine ok_goto (tgt := 2) dX6_isOver_71 (by decide) ?_
    exact ok_sub [(0, vR 6 0 0), (1, vI x1), (2, vI (x2 + 1))] [1, 2, 0] rfl h
  · have h := h.2 z
    refine ok_aload_n (j := 0) dX6_isOver_14 rfl rfl ?_
    refine ok_iload_n (j := 1) dX6_isOver_15 rfl rfl ?_
    refine ok_bipush (v := (10 : Int32)) dX6_isOver_16 (by decide) ?_
    refine ok_iconst (v := (3 : Int32)) dX6_isOver_18 (by decide) ?_
    refine ok_iload_n (j := 2) dX6_isOver_19 rfl rfl ?_
    refine ok_imul dX6_isOver_20 ?_
    refine ok_iadd dX6_isOver_21 ?_
    refine ok_iload_n (j := 3) dX6_isOver_22 rfl rfl ?_
    refine ok_iadd dX6_isOver_23 ?_
    refine ok_callV (M' := mX6_of) [vI x1, vI (((10 : Int32) + ((3 : Int32) * x2)) + x3)] dX6_isOver_24 xw_591 fV_X6_of fS_X6_of rfl (by decide) v6 (ob_6 _ _ _) rfl (Nat.le_of_ble_eq_true rfl) (CI.to (CI.mono h ?_))
    intro r1 μ1 h
    refine ok_istore (ls2 := [(4, vI r1), (0, vR 6 0 0), (1, vI x1), (2, vI x2), (3, vI x3)]) dX6_isOver_27 (by decide) rfl ?_
    refine ok_aload_n (j := 1) dX6_isOver_29 rfl rfl ?_
    refine ok_iload_n (j := 2) dX6_isOver_30 rfl rfl ?_
    refine ok_iconst (v := (4 : Int32)) dX6_isOver_31 (by decide) ?_
    refine ok_callV (M' := mX6_of) [vI x1, vI (4 : Int32)] dX6_isOver_32 xw_591 fV_X6_of fS_X6_of rfl (by decide) v6 (ob_6 _ _ _) rfl (Nat.le_of_ble_eq_true rfl) (CI.to (CI.mono h ?_))
    intro r2 μ2 h
    refine ok_iconst (v := (1 : Int32)) dX6_isOver_35 (by decide) ?_
    refine ok_icmp_ne (tgt := 62) dX6_isOver_36 (by decide) ⟨fun z => ?_, fun z => ?_⟩
    · have h := h.1 z
      refine ok_iinc (j := 4) (v := (x3 + 1)) (ls2 := [(3, vI (x3 + 1)), (4, vI r1), (0, vR 6 0 0), (1, vI x1), (2, vI x2)]) dX6_isOver_62 rfl rfl (by decide) rfl ?_
      refine ok_goto (tgt := 9) dX6_isOver_65 (by decide) ?_
      exact ok_sub [(0, vR 6 0 0), (1, vI x1), (2, vI x2), (3, vI (x3 + 1))] [2, 3, 4, 0] rfl h
    · have h := h.2 z
      refine ok_iload (j := 0) dX6_isOver_39 rfl ?_
      refine ok_if_lt (tgt := 62) dX6_isOver_41 (by decide) ⟨fun z => ?_, fun z => ?_⟩
      · have h := h.1 z
        refine ok_iinc (j := 4) (v := (x3 + 1)) (ls2 := [(3, vI (x3 + 1)), (4, vI r1), (0, vR 6 0 0), (1, vI x1), (2, vI x2)]) dX6_isOver_62 rfl rfl (by decide) rfl ?_
        refine ok_goto (tgt := 9) dX6_isOver_65 (by decide) ?_
        exact ok_sub [(0, vR 6 0 0), (1, vI x1), (2, vI x2), (3, vI (x3 + 1))] [2, 3, 4, 0] rfl h
      · have h := h.2 z
        refine ok_aload_n (j := 1) dX6_isOver_44 rfl rfl ?_
        refine gf_6_0 dX6_isOver_45 v6 xw_530 ?_
        refine ok_bipush (v := (69 : Int32)) dX6_isOver_48 (by decide) ?_
        refine ok_bipush (v := (6 : Int32)) dX6_isOver_50 (by decide) ?_
        refine ok_iload_n (j := 3) dX6_isOver_52 rfl rfl ?_
        refine ok_imul dX6_isOver_53 ?_
        refine ok_iadd dX6_isOver_54 ?_
        refine ok_iconst (v := (3 : Int32)) dX6_isOver_55 (by decide) ?_
        refine ok_iadd dX6_isOver_56 ?_
        refine ok_iload_n (j := 4) dX6_isOver_57 rfl rfl ?_
        refine ok_iadd dX6_isOver_58 ?_
        refine ok_iload (j := 0) dX6_isOver_59 rfl ?_
        obtain ⟨hb3, h⟩ := h
        refine as_30 dX6_isOver_61 v30 hb3 ?_
        refine ok_iinc (j := 4) (v := (x3 + 1)) (ls2 := [(3, vI (x3 + 1)), (4, vI r1), (0, vR 6 0 0), (1, vI x1), (2, vI x2)]) dX6_isOver_62 rfl rfl (by decide) rfl ?_
        refine ok_goto (tgt := 9) dX6_isOver_65 (by decide) ?_
        exact ok_sub [(0, vR 6 0 0), (1, vI x1), (2, vI x2), (3, vI (x3 + 1))] [2, 3, 4, 0] rfl h
set_option maxRecDepth 100000 in
set_option maxHeartbeats 4000000 in
theorem eX6_opens {a b : xA} {h0 : Int64} {Q : Int32 → xM → Prop} {x1 : Int32} {x2 : Int32}  (h : (CI mX6_isAge [vR 6 0 0, vI x1, vI x2] (a, (b, h0)) (fun r1 μ1 => ((¬ r1 = 0 → (CI mX6_of [vR 6 0 0, vI x1, vI (0 : Int32)] μ1 (fun r2 μ2 => ((r2 ≤ x2 → (CI mX6_of [vR 6 0 0, vI x1, vI (1 : Int32)] μ2 (fun r3 μ3 => ((r3 = 0 → (CV mX6_notes [vR 6 0 0] μ3 (fun μ4 => (CV mX6_lays [vR 6 0 0, vI x1, vI (1 : Int32), vI (1 : Int32)] μ4 (fun μ5 => (CV mX6_lays [vR 6 0 0, vI x1, vI (2 : Int32), vI (0 : Int32)] μ5 (fun μ6 => (CV mX6_lays [vR 6 0 0, vI x1, vI (3 : Int32), vI (0 : Int32)] μ6 (fun μ7 => (vp_in (0 : Int32) 945 ∧ (CV mX6_lays [vR 6 0 0, vI x1, vI (5 : Int32), vI (μ7.2.1 30 0 0 (Int32.toNatClampNeg (0 : Int32)))] μ7 (fun μ9 => xOk mX6_opens 88 [(0, vR 6 0 0), (1, vI x1), (3, vI (0 : Int32))] [] μ9 (qI Q))))))))))))) ∧ (¬ r3 = 0 → (CI mX6_refuse [vR 6 0 0, vI (2 : Int32), vI (-3 : Int32)] μ3 (fun r10 μ10 => Q r10 μ10))))))) ∧ (¬ r2 ≤ x2 → (CI mX6_refuse [vR 6 0 0, vI (1 : Int32), vI (-6 : Int32)] μ2 (fun r11 μ11 => Q r11 μ11))))))) ∧ (r1 = 0 → (CI mX6_bad [vR 6 0 0] μ1 (fun r12 μ12 => Q r12 μ12))))))) : CI mX6_opens [vR 6 0 0, vI x1, vI x2] (a, (b, h0)) Q := by
  refine xCalls_of (by decide) (Nat.le_of_ble_eq_true rfl) ?_
  show xOk mX6_opens 0 [(0, vR 6 0 0), (1, vI x1), (2, vI x2)] [] (a, (b, h0)) (qI Q)
  refine ok_aload_n (j := 0) dX6_opens_0 rfl rfl ?_
  refine ok_iload_n (j := 1) dX6_opens_1 rfl rfl ?_
  refine ok_iload_n (j := 2) dX6_opens_2 rfl rfl ?_
  refine ok_callV (M' := mX6_isAge) [vI x1, vI x2] dX6_opens_3 xw_619 fV_X6_isAge fS_X6_isAge rfl (by decide) v6 (ob_6 _ _ _) rfl (Nat.le_of_ble_eq_true rfl) (CI.to (CI.mono h ?_))
  intro r1 μ1 h
  refine ok_if_ne (tgt := 14) dX6_opens_6 (by decide) ⟨fun z => ?_, fun z => ?_⟩
  · have h := h.1 z
    refine ok_iload_n (j := 2) dX6_opens_14 rfl rfl ?_
    refine ok_aload_n (j := 0) dX6_opens_15 rfl rfl ?_
    refine ok_iload_n (j := 1) dX6_opens_16 rfl rfl ?_
    refine ok_iconst (v := (0 : Int32)) dX6_opens_17 (by decide) ?_
    refine ok_callV (M' := mX6_of) [vI x1, vI (0 : Int32)] dX6_opens_18 xw_591 fV_X6_of fS_X6_of rfl (by decide) v6 (ob_6 _ _ _) rfl (Nat.le_of_ble_eq_true rfl) (CI.to (CI.mono h ?_))
    intro r2 μ2 h
    refine ok_icmp_ge (tgt := 32) dX6_opens_21 (by decide) ⟨fun z => ?_, fun z => ?_⟩
    · have h := h.1 z
      refine ok_aload_n (j := 0) dX6_opens_32 rfl rfl ?_
      refine ok_iload_n (j := 1) dX6_opens_33 rfl rfl ?_
      refine ok_iconst (v := (1 : Int32)) dX6_opens_34 (by decide) ?_
      refine ok_callV (M' := mX6_of) [vI x1, vI (1 : Int32)] dX6_opens_35 xw_591 fV_X6_of fS_X6_of rfl (by decide) v6 (ob_6 _ _ _) rfl (Nat.le_of_ble_eq_true rfl) (CI.to (CI.mono h ?_))
      intro r3 μ3 h
      refine ok_if_eq (tgt := 49) dX6_opens_38 (by decide) ⟨fun z => ?_, fun z => ?_⟩
      · have h := h.1 z
        refine ok_aload_n (j := 0) dX6_opens_49 rfl rfl ?_
        refine ok_callV (M' := mX6_notes) [] dX6_opens_50 xw_595 fV_X6_notes fS_X6_notes rfl (by decide) v6 (ob_6 _ _ _) rfl (Nat.le_of_ble_eq_true rfl) (CV.to (CV.mono h ?_))
        intro μ4 h
        refine ok_aload_n (j := 0) dX6_opens_53 rfl rfl ?_
        refine ok_iload_n (j := 1) dX6_opens_54 rfl rfl ?_
        refine ok_iconst (v := (1 : Int32)) dX6_opens_55 (by decide) ?_
        refine ok_iconst (v := (1 : Int32)) dX6_opens_56 (by decide) ?_
        refine ok_callV (M' := mX6_lays) [vI x1, vI (1 : Int32), vI (1 : Int32)] dX6_opens_57 xw_526 fV_X6_lays fS_X6_lays rfl (by decide) v6 (ob_6 _ _ _) rfl (Nat.le_of_ble_eq_true rfl) (CV.to (CV.mono h ?_))
        intro μ5 h
        refine ok_aload_n (j := 0) dX6_opens_60 rfl rfl ?_
        refine ok_iload_n (j := 1) dX6_opens_61 rfl rfl ?_
        refine ok_iconst (v := (2 : Int32)) dX6_opens_62 (by decide) ?_
        refine ok_iconst (v := (0 : Int32)) dX6_opens_63 (by decide) ?_
        refine ok_callV (M' := mX6_lays) [vI x1, vI (2 : Int32), vI (0 : Int32)] dX6_opens_64 xw_526 fV_X6_lays fS_X6_lays rfl (by decide) v6 (ob_6 _ _ _) rfl (Nat.le_of_ble_eq_true rfl) (CV.to (CV.mono h ?_))
        intro μ6 h
        refine ok_aload_n (j := 0) dX6_opens_67 rfl rfl ?_
        refine ok_iload_n (j := 1) dX6_opens_68 rfl rfl ?_
        refine ok_iconst (v := (3 : Int32)) dX6_opens_69 (by decide) ?_
        refine ok_iconst (v := (0 : Int32)) dX6_opens_70 (by decide) ?_
        refine ok_callV (M' := mX6_lays) [vI x1, vI (3 : Int32), vI (0 : Int32)] dX6_opens_71 xw_526 fV_X6_lays fS_X6_lays rfl (by decide) v6 (ob_6 _ _ _) rfl (Nat.le_of_ble_eq_true rfl) (CV.to (CV.mono h ?_))
        intro μ7 h
        refine ok_aload_n (j := 0) dX6_opens_74 rfl rfl ?_
        refine ok_iload_n (j := 1) dX6_opens_75 rfl rfl ?_
        refine ok_iconst (v := (5 : Int32)) dX6_opens_76 (by decide) ?_
        refine ok_aload_n (j := 0) dX6_opens_77 rfl rfl ?_
        refine gf_6_0 dX6_opens_78 v6 xw_530 ?_
        refine ok_iconst (v := (0 : Int32)) dX6_opens_81 (by decide) ?_
        obtain ⟨hb8, h⟩ := h
        refine al_30 dX6_opens_82 v30 hb8 ?_
        refine ok_callV (M' := mX6_lays) [vI x1, vI (5 : Int32), vI (μ7.2.1 30 0 0 (Int32.toNatClampNeg (0 : Int32)))] dX6_opens_83 xw_526 fV_X6_lays fS_X6_lays rfl (by decide) v6 (ob_6 _ _ _) rfl (Nat.le_of_ble_eq_true rfl) (CV.to (CV.mono h ?_))
        intro μ9 h
        refine ok_iconst (v := (0 : Int32)) dX6_opens_86 (by decide) ?_
        refine ok_istore_n (ls2 := [(3, vI (0 : Int32)), (0, vR 6 0 0), (1, vI x1), (2, vI x2)]) dX6_opens_87 rfl (by decide) rfl ?_
        exact ok_sub [(0, vR 6 0 0), (1, vI x1), (3, vI (0 : Int32))] [1, 2, 0] rfl h
      · have h := h.2 z
        refine ok_aload_n (j := 0) dX6_opens_41 rfl rfl ?_
        refine ok_iconst (v := (2 : Int32)) dX6_opens_42 (by decide) ?_
        refine ok_bipush (v := (-3 : Int32)) dX6_opens_43 (by decide) ?_
        refine ok_callV (M' := mX6_refuse) [vI (2 : Int32), vI (-3 : Int32)] dX6_opens_45 xw_587 fV_X6_refuse fS_X6_refuse rfl (by decide) v6 (ob_6 _ _ _) rfl (Nat.le_of_ble_eq_true rfl) (CI.to (CI.mono h ?_))
        intro r10 μ10 h
        exact ok_iret rfl dX6_opens_48 ⟨_, rfl, h⟩
    · have h := h.2 z
      refine ok_aload_n (j := 0) dX6_opens_24 rfl rfl ?_
      refine ok_iconst (v := (1 : Int32)) dX6_opens_25 (by decide) ?_
      refine ok_bipush (v := (-6 : Int32)) dX6_opens_26 (by decide) ?_
      refine ok_callV (M' := mX6_refuse) [vI (1 : Int32), vI (-6 : Int32)] dX6_opens_28 xw_587 fV_X6_refuse fS_X6_refuse rfl (by decide) v6 (ob_6 _ _ _) rfl (Nat.le_of_ble_eq_true rfl) (CI.to (CI.mono h ?_))
      intro r11 μ11 h
      exact ok_iret rfl dX6_opens_31 ⟨_, rfl, h⟩
  · have h := h.2 z
    refine ok_aload_n (j := 0) dX6_opens_9 rfl rfl ?_
    refine ok_callV (M' := mX6_bad) [] dX6_opens_10 xw_583 fV_X6_bad fS_X6_bad rfl (by decide) v6 (ob_6 _ _ _) rfl (Nat.le_of_ble_eq_true rfl) (CI.to (CI.mono h ?_))
    intro r12 μ12 h
    exact ok_iret rfl dX6_opens_13 ⟨_, rfl, h⟩
set_option maxRecDepth 100000 in
set_option maxHeartbeats 4000000 in
theorem rX6_opens_88 {a b : xA} {h0 : Int64} {Q : Int32 → xM → Prop} {x1 : Int32} {x3 : Int32}  (h : (((6 : Int32) ≤ x3 → (CI mX6_manyAre [vR 6 0 0, vI (1 : Int32)] (a, (b, h0)) (fun r1 μ1 => Q r1 μ1))) ∧ (¬ (6 : Int32) ≤ x3 → (CV mX6_lays [vR 6 0 0, vI x1, vI ((10 : Int32) + x3), vI (-1 : Int32)] (a, (b, h0)) (fun μ2 => xOk mX6_opens 88 [(0, vR 6 0 0), (1, vI x1), (3, vI (x3 + 1))] [] μ2 (qI Q)))))) : xOk mX6_opens 88 [(0, vR 6 0 0), (1, vI x1), (3, vI x3)] [] (a, (b, h0)) (qI Q) := by
  refine ok_iload_n (j := 2) dX6_opens_88 rfl rfl ?_
  refine ok_bipush (v := (6 : Int32)) dX6_opens_89 (by decide) ?_
  refine ok_icmp_ge (tgt := 110) dX6_opens_91 (by decide) ⟨fun z => ?_, fun z => ?_⟩
  · have h := h.1 z
    refine ok_aload_n (j := 0) dX6_opens_110 rfl rfl ?_
    refine ok_iconst (v := (1 : Int32)) dX6_opens_111 (by decide) ?_
    refine ok_callV (M' := mX6_manyAre) [vI (1 : Int32)] dX6_opens_112 xw_623 fV_X6_manyAre fS_X6_manyAre rfl (by decide) v6 (ob_6 _ _ _) rfl (Nat.le_of_ble_eq_true rfl) (CI.to (CI.mono h ?_))
    intro r1 μ1 h
    exact ok_iret rfl dX6_opens_115 ⟨_, rfl, h⟩
  · have h := h.2 z
    refine ok_aload_n (j := 0) dX6_opens_94 rfl rfl ?_
    refine ok_iload_n (j := 1) dX6_opens_95 rfl rfl ?_
    refine ok_bipush (v := (10 : Int32)) dX6_opens_96 (by decide) ?_
    refine ok_iload_n (j := 2) dX6_opens_98 rfl rfl ?_
    refine ok_iadd dX6_opens_99 ?_
    refine ok_iconst (v := (-1 : Int32)) dX6_opens_100 (by decide) ?_
    refine ok_callV (M' := mX6_lays) [vI x1, vI ((10 : Int32) + x3), vI (-1 : Int32)] dX6_opens_101 xw_526 fV_X6_lays fS_X6_lays rfl (by decide) v6 (ob_6 _ _ _) rfl (Nat.le_of_ble_eq_true rfl) (CV.to (CV.mono h ?_))
    intro μ2 h
    refine ok_iinc (j := 2) (v := (x3 + 1)) (ls2 := [(3, vI (x3 + 1)), (0, vR 6 0 0), (1, vI x1)]) dX6_opens_104 rfl rfl (by decide) rfl ?_
    refine ok_goto (tgt := 88) dX6_opens_107 (by decide) ?_
    exact ok_sub [(0, vR 6 0 0), (1, vI x1), (3, vI (x3 + 1))] [1, 2, 0] rfl h
set_option maxRecDepth 100000 in
set_option maxHeartbeats 4000000 in
theorem eX6_isAge {a b : xA} {h0 : Int64} {Q : Int32 → xM → Prop} {x1 : Int32} {x2 : Int32}  (h : (CI mX6_isWriter [vI x1] (a, (b, h0)) (fun r1 μ1 => ((r1 = 0 → Q (0 : Int32) μ1) ∧ (¬ r1 = 0 → (CI mX6_of [vR 6 0 0, vI x1, vI (0 : Int32)] μ1 (fun r2 μ2 => (CI mX6_in [vI x2, vI (0 : Int32), vI r2] μ2 (fun r3 μ3 => ((r3 = 0 → Q (0 : Int32) μ3) ∧ (¬ r3 = 0 → Q (1 : Int32) μ3))))))))))) : CI mX6_isAge [vR 6 0 0, vI x1, vI x2] (a, (b, h0)) Q := by
  refine xCalls_of (by decide) (Nat.le_of_ble_eq_true rfl) ?_
  show xOk mX6_isAge 0 [(0, vR 6 0 0), (1, vI x1), (2, vI x2)] [] (a, (b, h0)) (qI Q)
  refine ok_iload_n (j := 1) dX6_isAge_0 rfl rfl ?_
  refine ok_callS (M' := mX6_isWriter) [vI x1] dX6_isAge_1 xw_577 fV_X6_isWriter fS_X6_isWriter (by decide) rfl (Nat.le_of_ble_eq_true rfl) (CI.to (CI.mono h ?_))
  intro r1 μ1 h
  refine ok_if_eq (tgt := 25) dX6_isAge_4 (by decide) ⟨fun z => ?_, fun z => ?_⟩
  · have h := h.1 z
    refine ok_iconst (v := (0 : Int32)) dX6_isAge_25 (by decide) ?_
    exact ok_zret rfl (by decide) dX6_isAge_26 ⟨_, rfl, h⟩
  · have h := h.2 z
    refine ok_iload_n (j := 2) dX6_isAge_7 rfl rfl ?_
    refine ok_iconst (v := (0 : Int32)) dX6_isAge_8 (by decide) ?_
    refine ok_aload_n (j := 0) dX6_isAge_9 rfl rfl ?_
    refine ok_iload_n (j := 1) dX6_isAge_10 rfl rfl ?_
    refine ok_iconst (v := (0 : Int32)) dX6_isAge_11 (by decide) ?_
    refine ok_callV (M' := mX6_of) [vI x1, vI (0 : Int32)] dX6_isAge_12 xw_591 fV_X6_of fS_X6_of rfl (by decide) v6 (ob_6 _ _ _) rfl (Nat.le_of_ble_eq_true rfl) (CI.to (CI.mono h ?_))
    intro r2 μ2 h
    refine ok_callS (M' := mX6_in) [vI x2, vI (0 : Int32), vI r2] dX6_isAge_15 xw_580 fV_X6_in fS_X6_in (by decide) rfl (Nat.le_of_ble_eq_true rfl) (CI.to (CI.mono h ?_))
    intro r3 μ3 h
    refine ok_if_eq (tgt := 25) dX6_isAge_18 (by decide) ⟨fun z => ?_, fun z => ?_⟩
    · have h := h.1 z
      refine ok_iconst (v := (0 : Int32)) dX6_isAge_25 (by decide) ?_
      exact ok_zret rfl (by decide) dX6_isAge_26 ⟨_, rfl, h⟩
    · have h := h.2 z
      refine ok_iconst (v := (1 : Int32)) dX6_isAge_21 (by decide) ?_
      refine ok_goto (tgt := 26) dX6_isAge_22 (by decide) ?_
      exact ok_zret rfl (by decide) dX6_isAge_26 ⟨_, rfl, h⟩
set_option maxRecDepth 100000 in
set_option maxHeartbeats 4000000 in
theorem eX6_manyAre {a b : xA} {h0 : Int64} {Q : Int32 → xM → Prop} {x1 : Int32}  (h : xOk mX6_manyAre 4 [(0, vR 6 0 0), (1, vI x1), (2, vI (0 : Int32)), (3, vI (0 : Int32))] [] (a, (b, h0)) (qI Q)) : CI mX6_manyAre [vR 6 0 0, vI x1] (a, (b, h0)) Q := by
  refine xCalls_of (by decide) (Nat.le_of_ble_eq_true rfl) ?_
  show xOk mX6_manyAre 0 [(0, vR 6 0 0), (1, vI x1)] [] (a, (b, h0)) (qI Q)
  refine ok_iconst (v := (0 : Int32)) dX6_manyAre_0 (by decide) ?_
  refine ok_istore_n (ls2 := [(2, vI (0 : Int32)), (0, vR 6 0 0), (1, vI x1)]) dX6_manyAre_1 rfl (by decide) rfl ?_
  refine ok_iconst (v := (0 : Int32)) dX6_manyAre_2 (by decide) ?_
  refine ok_istore_n (ls2 := [(3, vI (0 : Int32)), (2, vI (0 : Int32)), (0, vR 6 0 0), (1, vI x1)]) dX6_manyAre_3 rfl (by decide) rfl ?_
  exact ok_sub [(0, vR 6 0 0), (1, vI x1), (2, vI (0 : Int32)), (3, vI (0 : Int32))] [2, 3, 1, 0] rfl h
set_option maxRecDepth 100000 in
set_option maxHeartbeats 4000000 in
theorem rX6_manyAre_4 {a b : xA} {h0 : Int64} {Q : Int32 → xM → Prop} {x1 : Int32} {x2 : Int32} {x3 : Int32}  (h : (((4 : Int32) ≤ x3 → Q x2 (a, (b, h0))) ∧ (¬ (4 : Int32) ≤ x3 → (CI mX6_of [vR 6 0 0, vI x3, vI (1 : Int32)] (a, (b, h0)) (fun r1 μ1 => ((¬ r1 = x1 → xOk mX6_manyAre 4 [(0, vR 6 0 0), (1, vI x1), (2, vI (x2 + (0 : Int32))), (3, vI (x3 + 1))] [] μ1 (qI Q)) ∧ (r1 = x1 → xOk mX6_manyAre 4 [(0, vR 6 0 0), (1, vI x1), (2, vI (x2 + (1 : Int32))), (3, vI (x3 + 1))] [] μ1 (qI Q)))))))) : xOk mX6_manyAre 4 [(0, vR 6 0 0), (1, vI x1), (2, vI x2), (3, vI x3)] [] (a, (b, h0)) (qI Q) := by
  refine ok_iload_n (j := 3) dX6_manyAre_4 rfl rfl ?_
  refine ok_iconst (v := (4 : Int32)) dX6_manyAre_5 (by decide) ?_
  refine ok_icmp_ge (tgt := 33) dX6_manyAre_6 (by decide) ⟨fun z => ?_, fun z => ?_⟩
  · have h := h.1 z
    refine ok_iload_n (j := 2) dX6_manyAre_33 rfl rfl ?_
    exact ok_iret rfl dX6_manyAre_34 ⟨_, rfl, h⟩
  · have h := h.2 z
    refine ok_iload_n (j := 2) dX6_manyAre_9 rfl rfl ?_
    refine ok_aload_n (j := 0) dX6_manyAre_10 rfl rfl ?_
    refine ok_iload_n (j := 3) dX6_manyAre_11 rfl rfl ?_
    refine ok_iconst (v := (1 : Int32)) dX6_manyAre_12 (by decide) ?_
    refine ok_callV (M' := mX6_of) [vI x3, vI (1 : Int32)] dX6_manyAre_13 xw_591 fV_X6_of fS_X6_of rfl (by decide) v6 (ob_6 _ _ _) rfl (Nat.le_of_ble_eq_true rfl) (CI.to (CI.mono h ?_))
    intro r1 μ1 h
    refine ok_iload_n (j := 1) dX6_manyAre_16 rfl rfl ?_
    refine ok_icmp_ne (tgt := 24) dX6_manyAre_17 (by decide) ⟨fun z => ?_, fun z => ?_⟩
    · have h := h.1 z
      refine ok_iconst (v := (0 : Int32)) dX6_manyAre_24 (by decide) ?_
      refine ok_iadd dX6_manyAre_25 ?_
      refine ok_istore_n (ls2 := [(2, vI (x2 + (0 : Int32))), (0, vR 6 0 0), (1, vI x1), (3, vI x3)]) dX6_manyAre_26 rfl (by decide) rfl ?_
      refine ok_iinc (j := 3) (v := (x3 + 1)) (ls2 := [(3, vI (x3 + 1)), (2, vI (x2 + (0 : Int32))), (0, vR 6 0 0), (1, vI x1)]) dX6_manyAre_27 rfl rfl (by decide) rfl ?_
      refine ok_goto (tgt := 4) dX6_manyAre_30 (by decide) ?_
      exact ok_sub [(0, vR 6 0 0), (1, vI x1), (2, vI (x2 + (0 : Int32))), (3, vI (x3 + 1))] [2, 3, 1, 0] rfl h
    · have h := h.2 z
      refine ok_iconst (v := (1 : Int32)) dX6_manyAre_20 (by decide) ?_
      refine ok_goto (tgt := 25) dX6_manyAre_21 (by decide) ?_
      refine ok_iadd dX6_manyAre_25 ?_
      refine ok_istore_n (ls2 := [(2, vI (x2 + (1 : Int32))), (0, vR 6 0 0), (1, vI x1), (3, vI x3)]) dX6_manyAre_26 rfl (by decide) rfl ?_
      refine ok_iinc (j := 3) (v := (x3 + 1)) (ls2 := [(3, vI (x3 + 1)), (2, vI (x2 + (1 : Int32))), (0, vR 6 0 0), (1, vI x1)]) dX6_manyAre_27 rfl rfl (by decide) rfl ?_
      refine ok_goto (tgt := 4) dX6_manyAre_30 (by decide) ?_
      exact ok_sub [(0, vR 6 0 0), (1, vI x1), (2, vI (x2 + (1 : Int32))), (3, vI (x3 + 1))] [2, 3, 1, 0] rfl h
set_option maxRecDepth 100000 in
set_option maxHeartbeats 4000000 in
theorem eX6_sends {a b : xA} {h0 : Int64} {Q : Int32 → xM → Prop} {x1 : Int32} {x2 : Int32} {x3 : Int32} {x4 : Int32} {x5 : Int32}  (h : (CI mX6_isAge [vR 6 0 0, vI x1, vI x2] (a, (b, h0)) (fun r1 μ1 => ((r1 = 0 → (CI mX6_bad [vR 6 0 0] μ1 (fun r2 μ2 => Q r2 μ2))) ∧ (¬ r1 = 0 → (CI mX6_isPart [vI x3] μ1 (fun r3 μ3 => ((r3 = 0 → (CI mX6_bad [vR 6 0 0] μ3 (fun r4 μ4 => Q r4 μ4))) ∧ (¬ r3 = 0 → (CI mX6_in [vI x4, vI (0 : Int32), vI (99 : Int32)] μ3 (fun r5 μ5 => ((r5 = 0 → (CI mX6_bad [vR 6 0 0] μ5 (fun r6 μ6 => Q r6 μ6))) ∧ (¬ r5 = 0 → (CI mX6_in [vI x5, vI (0 : Int32), vI (99 : Int32)] μ5 (fun r7 μ7 => ((¬ r7 = 0 → (CI mX6_of [vR 6 0 0, vI x1, vI (0 : Int32)] μ7 (fun r8 μ8 => ((r8 ≤ x2 → (CI mX6_of [vR 6 0 0, vI x1, vI (1 : Int32)] μ8 (fun r9 μ9 => ((¬ r9 = (2 : Int32) → (CI mX6_twinOf [vR 6 0 0, vI x1, vI x3, vI x4] μ9 (fun r10 μ10 => ((r10 < 0 → (CI mX6_dueOf [vR 6 0 0, vI x1, vI x3] μ10 (fun r11 μ11 => ((x4 = r11 → (CI mX6_sizeOf [vR 6 0 0, vI x3] μ11 (fun r12 μ12 => (CI mX6_owed [vR 6 0 0, vI x3] μ12 (fun r13 μ13 => (((r12 + r13) < (48 : Int32) → (CV mX6_notes [vR 6 0 0] μ13 (fun μ14 => (CI mX6_writes [vR 6 0 0, vI x1, vI x3, vI x4, vI x5] μ14 (fun r15 μ15 => Q r15 μ15))))) ∧ (¬ (r12 + r13) < (48 : Int32) → (CI mX6_refuse [vR 6 0 0, vI (4 : Int32), vI (-4 : Int32)] μ13 (fun r16 μ16 => Q r16 μ16))))))))) ∧ (¬ x4 = r11 → (CI mX6_refuse [vR 6 0 0, vI (3 : Int32), vI (-7 : Int32)] μ11 (fun r17 μ17 => Q r17 μ17))))))) ∧ (¬ r10 < 0 → Q ((1000 : Int32) + r10) μ10))))) ∧ (r9 = (2 : Int32) → (CI mX6_refuse [vR 6 0 0, vI (2 : Int32), vI (-3 : Int32)] μ9 (fun r18 μ18 => Q r18 μ18))))))) ∧ (¬ r8 ≤ x2 → (CI mX6_refuse [vR 6 0 0, vI (1 : Int32), vI (-6 : Int32)] μ8 (fun r19 μ19 => Q r19 μ19))))))) ∧ (r7 = 0 → (CI mX6_bad [vR 6 0 0] μ7 (fun r20 μ20 => Q r20 μ20))))))))))))))))))) : CI mX6_sends [vR 6 0 0, vI x1, vI x2, vI x3, vI x4, vI x5] (a, (b, h0)) Q := by
  refine xCalls_of (by decide) (Nat.le_of_ble_eq_true rfl) ?_
  show xOk mX6_sends 0 [(0, vR 6 0 0), (1, vI x1), (2, vI x2), (3, vI x3), (4, vI x4), (5, vI x5)] [] (a, (b, h0)) (qI Q)
  refine ok_aload_n (j := 0) dX6_sends_0 rfl rfl ?_
  refine ok_iload_n (j := 1) dX6_sends_1 rfl rfl ?_
  refine ok_iload_n (j := 2) dX6_sends_2 rfl rfl ?_
  refine ok_callV (M' := mX6_isAge) [vI x1, vI x2] dX6_sends_3 xw_619 fV_X6_isAge fS_X6_isAge rfl (by decide) v6 (ob_6 _ _ _) rfl (Nat.le_of_ble_eq_true rfl) (CI.to (CI.mono h ?_))
  intro r1 μ1 h
  refine ok_if_eq (tgt := 38) dX6_sends_6 (by decide) ⟨fun z => ?_, fun z => ?_⟩
  · have h := h.1 z
    refine ok_aload_n (j := 0) dX6_sends_38 rfl rfl ?_
    refine ok_callV (M' := mX6_bad) [] dX6_sends_39 xw_583 fV_X6_bad fS_X6_bad rfl (by decide) v6 (ob_6 _ _ _) rfl (Nat.le_of_ble_eq_true rfl) (CI.to (CI.mono h ?_))
    intro r2 μ2 h
    exact ok_iret rfl dX6_sends_42 ⟨_, rfl, h⟩
  · have h := h.2 z
    refine ok_iload_n (j := 3) dX6_sends_9 rfl rfl ?_
    refine ok_callS (M' := mX6_isPart) [vI x3] dX6_sends_10 xw_631 fV_X6_isPart fS_X6_isPart (by decide) rfl (Nat.le_of_ble_eq_true rfl) (CI.to (CI.mono h ?_))
    intro r3 μ3 h
    refine ok_if_eq (tgt := 38) dX6_sends_13 (by decide) ⟨fun z => ?_, fun z => ?_⟩
    · have h := h.1 z
      refine ok_aload_n (j := 0) dX6_sends_38 rfl rfl ?_
      refine ok_callV (M' := mX6_bad) [] dX6_sends_39 xw_583 fV_X6_bad fS_X6_bad rfl (by decide) v6 (ob_6 _ _ _) rfl (Nat.le_of_ble_eq_true rfl) (CI.to (CI.mono h ?_))
      intro r4 μ4 h
      exact ok_iret rfl dX6_sends_42 ⟨_, rfl, h⟩
    · have h := h.2 z
      refine ok_iload (j := 4) dX6_sends_16 rfl ?_
      refine ok_iconst (v := (0 : Int32)) dX6_sends_18 (by decide) ?_
      refine ok_bipush (v := (99 : Int32)) dX6_sends_19 (by decide) ?_
      refine ok_callS (M' := mX6_in) [vI x4, vI (0 : Int32), vI (99 : Int32)] dX6_sends_21 xw_580 fV_X6_in fS_X6_in (by decide) rfl (Nat.le_of_ble_eq_true rfl) (CI.to (CI.mono h ?_))
      intro r5 μ5 h
      refine ok_if_eq (tgt := 38) dX6_sends_24 (by decide) ⟨fun z => ?_, fun z => ?_⟩
      · have h := h.1 z
        refine ok_aload_n (j := 0) dX6_sends_38 rfl rfl ?_
        refine ok_callV (M' := mX6_bad) [] dX6_sends_39 xw_583 fV_X6_bad fS_X6_bad rfl (by decide) v6 (ob_6 _ _ _) rfl (Nat.le_of_ble_eq_true rfl) (CI.to (CI.mono h ?_))
        intro r6 μ6 h
        exact ok_iret rfl dX6_sends_42 ⟨_, rfl, h⟩
      · have h := h.2 z
        refine ok_iload (j := 5) dX6_sends_27 rfl ?_
        refine ok_iconst (v := (0 : Int32)) dX6_sends_29 (by decide) ?_
        refine ok_bipush (v := (99 : Int32)) dX6_sends_30 (by decide) ?_
        refine ok_callS (M' := mX6_in) [vI x5, vI (0 : Int32), vI (99 : Int32)] dX6_sends_32 xw_580 fV_X6_in fS_X6_in (by decide) rfl (Nat.le_of_ble_eq_true rfl) (CI.to (CI.mono h ?_))
        intro r7 μ7 h
        refine ok_if_ne (tgt := 43) dX6_sends_35 (by decide) ⟨fun z => ?_, fun z => ?_⟩
        · have h := h.1 z
          refine ok_iload_n (j := 2) dX6_sends_43 rfl rfl ?_
          refine ok_aload_n (j := 0) dX6_sends_44 rfl rfl ?_
          refine ok_iload_n (j := 1) dX6_sends_45 rfl rfl ?_
          refine ok_iconst (v := (0 : Int32)) dX6_sends_46 (by decide) ?_
          refine ok_callV (M' := mX6_of) [vI x1, vI (0 : Int32)] dX6_sends_47 xw_591 fV_X6_of fS_X6_of rfl (by decide) v6 (ob_6 _ _ _) rfl (Nat.le_of_ble_eq_true rfl) (CI.to (CI.mono h ?_))
          intro r8 μ8 h
          refine ok_icmp_ge (tgt := 61) dX6_sends_50 (by decide) ⟨fun z => ?_, fun z => ?_⟩
          · have h := h.1 z
            refine ok_aload_n (j := 0) dX6_sends_61 rfl rfl ?_
            refine ok_iload_n (j := 1) dX6_sends_62 rfl rfl ?_
            refine ok_iconst (v := (1 : Int32)) dX6_sends_63 (by decide) ?_
            refine ok_callV (M' := mX6_of) [vI x1, vI (1 : Int32)] dX6_sends_64 xw_591 fV_X6_of fS_X6_of rfl (by decide) v6 (ob_6 _ _ _) rfl (Nat.le_of_ble_eq_true rfl) (CI.to (CI.mono h ?_))
            intro r9 μ9 h
            refine ok_iconst (v := (2 : Int32)) dX6_sends_67 (by decide) ?_
            refine ok_icmp_ne (tgt := 79) dX6_sends_68 (by decide) ⟨fun z => ?_, fun z => ?_⟩
            · have h := h.1 z
              refine ok_aload_n (j := 0) dX6_sends_79 rfl rfl ?_
              refine ok_iload_n (j := 1) dX6_sends_80 rfl rfl ?_
              refine ok_iload_n (j := 3) dX6_sends_81 rfl rfl ?_
              refine ok_iload (j := 4) dX6_sends_82 rfl ?_
              refine ok_callV (M' := mX6_twinOf) [vI x1, vI x3, vI x4] dX6_sends_84 xw_634 fV_X6_twinOf fS_X6_twinOf rfl (by decide) v6 (ob_6 _ _ _) rfl (Nat.le_of_ble_eq_true rfl) (CI.to (CI.mono h ?_))
              intro r10 μ10 h
              refine ok_istore (ls2 := [(6, vI r10), (0, vR 6 0 0), (1, vI x1), (2, vI x2), (3, vI x3), (4, vI x4), (5, vI x5)]) dX6_sends_87 (by decide) rfl ?_
              refine ok_iload (j := 0) dX6_sends_89 rfl ?_
              refine ok_if_lt (tgt := 101) dX6_sends_91 (by decide) ⟨fun z => ?_, fun z => ?_⟩
              · have h := h.1 z
                refine ok_iload (j := 5) dX6_sends_101 rfl ?_
                refine ok_aload_n (j := 1) dX6_sends_103 rfl rfl ?_
                refine ok_iload_n (j := 2) dX6_sends_104 rfl rfl ?_
                refine ok_iload_n (j := 4) dX6_sends_105 rfl rfl ?_
                refine ok_callV (M' := mX6_dueOf) [vI x1, vI x3] dX6_sends_106 xw_650 fV_X6_dueOf fS_X6_dueOf rfl (by decide) v6 (ob_6 _ _ _) rfl (Nat.le_of_ble_eq_true rfl) (CI.to (CI.mono h ?_))
                intro r11 μ11 h
                refine ok_icmp_eq (tgt := 120) dX6_sends_109 (by decide) ⟨fun z => ?_, fun z => ?_⟩
                · have h := h.1 z
                  refine ok_aload_n (j := 1) dX6_sends_120 rfl rfl ?_
                  refine ok_iload_n (j := 4) dX6_sends_121 rfl rfl ?_
                  refine ok_callV (M' := mX6_sizeOf) [vI x3] dX6_sends_122 xw_638 fV_X6_sizeOf fS_X6_sizeOf rfl (by decide) v6 (ob_6 _ _ _) rfl (Nat.le_of_ble_eq_true rfl) (CI.to (CI.mono h ?_))
                  intro r12 μ12 h
                  refine ok_aload_n (j := 1) dX6_sends_125 rfl rfl ?_
                  refine ok_iload_n (j := 4) dX6_sends_126 rfl rfl ?_
                  refine ok_callV (M' := mX6_owed) [vI x3] dX6_sends_127 xw_654 fV_X6_owed fS_X6_owed rfl (by decide) v6 (ob_6 _ _ _) rfl (Nat.le_of_ble_eq_true rfl) (CI.to (CI.mono h ?_))
                  intro r13 μ13 h
                  refine ok_iadd dX6_sends_130 ?_
                  refine ok_bipush (v := (48 : Int32)) dX6_sends_131 (by decide) ?_
                  refine ok_icmp_lt (tgt := 144) dX6_sends_133 (by decide) ⟨fun z => ?_, fun z => ?_⟩
                  · have h := h.1 z
                    refine ok_aload_n (j := 1) dX6_sends_144 rfl rfl ?_
                    refine ok_callV (M' := mX6_notes) [] dX6_sends_145 xw_595 fV_X6_notes fS_X6_notes rfl (by decide) v6 (ob_6 _ _ _) rfl (Nat.le_of_ble_eq_true rfl) (CV.to (CV.mono h ?_))
                    intro μ14 h
                    refine ok_aload_n (j := 1) dX6_sends_148 rfl rfl ?_
                    refine ok_iload_n (j := 2) dX6_sends_149 rfl rfl ?_
                    refine ok_iload_n (j := 4) dX6_sends_150 rfl rfl ?_
                    refine ok_iload (j := 5) dX6_sends_151 rfl ?_
                    refine ok_iload (j := 6) dX6_sends_153 rfl ?_
                    refine ok_callV (M' := mX6_writes) [vI x1, vI x3, vI x4, vI x5] dX6_sends_155 xw_665 fV_X6_writes fS_X6_writes rfl (by decide) v6 (ob_6 _ _ _) rfl (Nat.le_of_ble_eq_true rfl) (CI.to (CI.mono h ?_))
                    intro r15 μ15 h
                    exact ok_iret rfl dX6_sends_158 ⟨_, rfl, h⟩
                  · have h := h.2 z
                    refine ok_aload_n (j := 1) dX6_sends_136 rfl rfl ?_
                    refine ok_iconst (v := (4 : Int32)) dX6_sends_137 (by decide) ?_
                    refine ok_bipush (v := (-4 : Int32)) dX6_sends_138 (by decide) ?_
                    refine ok_callV (M' := mX6_refuse) [vI (4 : Int32), vI (-4 : Int32)] dX6_sends_140 xw_587 fV_X6_refuse fS_X6_refuse rfl (by decide) v6 (ob_6 _ _ _) rfl (Nat.le_of_ble_eq_true rfl) (CI.to (CI.mono h ?_))
                    intro r16 μ16 h
                    exact ok_iret rfl dX6_sends_143 ⟨_, rfl, h⟩
                · have h := h.2 z
                  refine ok_aload_n (j := 1) dX6_sends_112 rfl rfl ?_
                  refine ok_iconst (v := (3 : Int32)) dX6_sends_113 (by decide) ?_
                  refine ok_bipush (v := (-7 : Int32)) dX6_sends_114 (by decide) ?_
                  refine ok_callV (M' := mX6_refuse) [vI (3 : Int32), vI (-7 : Int32)] dX6_sends_116 xw_587 fV_X6_refuse fS_X6_refuse rfl (by decide) v6 (ob_6 _ _ _) rfl (Nat.le_of_ble_eq_true rfl) (CI.to (CI.mono h ?_))
                  intro r17 μ17 h
                  exact ok_iret rfl dX6_sends_119 ⟨_, rfl, h⟩
              · have h := h.2 z
                refine ok_sipush (v := (1000 : Int32)) dX6_sends_94 (by decide) ?_
                refine ok_iload (j := 0) dX6_sends_97 rfl ?_
                refine ok_iadd dX6_sends_99 ?_
                exact ok_iret rfl dX6_sends_100 ⟨_, rfl, h⟩
            · have h := h.2 z
              refine ok_aload_n (j := 0) dX6_sends_71 rfl rfl ?_
              refine ok_iconst (v := (2 : Int32)) dX6_sends_72 (by decide) ?_
              refine ok_bipush (v := (-3 : Int32)) dX6_sends_73 (by decide) ?_
              refine ok_callV (M' := mX6_refuse) [vI (2 : Int32), vI (-3 : Int32)] dX6_sends_75 xw_587 fV_X6_refuse fS_X6_refuse rfl (by decide) v6 (ob_6 _ _ _) rfl (Nat.le_of_ble_eq_true rfl) (CI.to (CI.mono h ?_))
              intro r18 μ18 h
              exact ok_iret rfl dX6_sends_78 ⟨_, rfl, h⟩
          · have h := h.2 z
            refine ok_aload_n (j := 0) dX6_sends_53 rfl rfl ?_
            refine ok_iconst (v := (1 : Int32)) dX6_sends_54 (by decide) ?_
            refine ok_bipush (v := (-6 : Int32)) dX6_sends_55 (by decide) ?_
            refine ok_callV (M' := mX6_refuse) [vI (1 : Int32), vI (-6 : Int32)] dX6_sends_57 xw_587 fV_X6_refuse fS_X6_refuse rfl (by decide) v6 (ob_6 _ _ _) rfl (Nat.le_of_ble_eq_true rfl) (CI.to (CI.mono h ?_))
            intro r19 μ19 h
            exact ok_iret rfl dX6_sends_60 ⟨_, rfl, h⟩
        · have h := h.2 z
          refine ok_aload_n (j := 0) dX6_sends_38 rfl rfl ?_
          refine ok_callV (M' := mX6_bad) [] dX6_sends_39 xw_583 fV_X6_bad fS_X6_bad rfl (by decide) v6 (ob_6 _ _ _) rfl (Nat.le_of_ble_eq_true rfl) (CI.to (CI.mono h ?_))
          intro r20 μ20 h
          exact ok_iret rfl dX6_sends_42 ⟨_, rfl, h⟩
set_option maxRecDepth 100000 in
set_option maxHeartbeats 4000000 in
theorem eX6_isPart {a b : xA} {h0 : Int64} {Q : Int32 → xM → Prop} {x0 : Int32}  (h : (CI mX6_in [vI x0, vI (0 : Int32), vI (2 : Int32)] (a, (b, h0)) (fun r1 μ1 => ((r1 = 0 ∨ r1 = 1) ∧ Q r1 μ1)))) : CI mX6_isPart [vI x0] (a, (b, h0)) Q := by
  refine xCalls_of (by decide) (Nat.le_of_ble_eq_true rfl) ?_
  show xOk mX6_isPart 0 [(0, vI x0)] [] (a, (b, h0)) (qI Q)
  refine ok_iload_n (j := 0) dX6_isPart_0 rfl rfl ?_
  refine ok_iconst (v := (0 : Int32)) dX6_isPart_1 (by decide) ?_
  refine ok_iconst (v := (2 : Int32)) dX6_isPart_2 (by decide) ?_
  refine ok_callS (M' := mX6_in) [vI x0, vI (0 : Int32), vI (2 : Int32)] dX6_isPart_3 xw_580 fV_X6_in fS_X6_in (by decide) rfl (Nat.le_of_ble_eq_true rfl) (CI.to (CI.mono h ?_))
  intro r1 μ1 h
  obtain ⟨hz, h⟩ := h
  exact ok_zret rfl hz dX6_isPart_6 ⟨_, rfl, h⟩
set_option maxRecDepth 100000 in
set_option maxHeartbeats 4000000 in
theorem eX6_twinOf {a b : xA} {h0 : Int64} {Q : Int32 → xM → Prop} {x1 : Int32} {x2 : Int32} {x3 : Int32}  (h : (CI mX6_sizeOf [vR 6 0 0, vI x2] (a, (b, h0)) (fun r1 μ1 => xOk mX6_twinOf 12 [(0, vR 6 0 0), (1, vI x1), (2, vI x2), (3, vI x3), (4, vI (0 : Int32)), (5, vI (r1 - (1 : Int32)))] [] μ1 (qI Q)))) : CI mX6_twinOf [vR 6 0 0, vI x1, vI x2, vI x3] (a, (b, h0)) Q := by
  refine xCalls_of (by decide) (Nat.le_of_ble_eq_true rfl) ?_
  show xOk mX6_twinOf 0 [(0, vR 6 0 0), (1, vI x1), (2, vI x2), (3, vI x3)] [] (a, (b, h0)) (qI Q)
  refine ok_iconst (v := (0 : Int32)) dX6_twinOf_0 (by decide) ?_
  refine ok_istore (ls2 := [(4, vI (0 : Int32)), (0, vR 6 0 0), (1, vI x1), (2, vI x2), (3, vI x3)]) dX6_twinOf_1 (by decide) rfl ?_
  refine ok_aload_n (j := 1) dX6_twinOf_3 rfl rfl ?_
  refine ok_iload_n (j := 3) dX6_twinOf_4 rfl rfl ?_
  refine ok_callV (M' := mX6_sizeOf) [vI x2] dX6_twinOf_5 xw_638 fV_X6_sizeOf fS_X6_sizeOf rfl (by decide) v6 (ob_6 _ _ _) rfl (Nat.le_of_ble_eq_true rfl) (CI.to (CI.mono h ?_))
  intro r1 μ1 h
  refine ok_iconst (v := (1 : Int32)) dX6_twinOf_8 (by decide) ?_
  refine ok_isub dX6_twinOf_9 ?_
  refine ok_istore (ls2 := [(5, vI (r1 - (1 : Int32))), (4, vI (0 : Int32)), (0, vR 6 0 0), (1, vI x1), (2, vI x2), (3, vI x3)]) dX6_twinOf_10 (by decide) rfl ?_
  exact ok_sub [(0, vR 6 0 0), (1, vI x1), (2, vI x2), (3, vI x3), (4, vI (0 : Int32)), (5, vI (r1 - (1 : Int32)))] [2, 3, 4, 5, 1, 0] rfl h
set_option maxRecDepth 100000 in
set_option maxHeartbeats 4000000 in
theorem rX6_twinOf_12 {a b : xA} {h0 : Int64} {Q : Int32 → xM → Prop} {x1 : Int32} {x2 : Int32} {x3 : Int32} {x4 : Int32} {x5 : Int32}  (h : ((x5 < 0 → Q (-1 : Int32) (a, (b, h0))) ∧ (¬ x5 < 0 → (((3 : Int32) ≤ x4 → Q (-1 : Int32) (a, (b, h0))) ∧ (¬ (3 : Int32) ≤ x4 → (CI mX6_isRecent [vR 6 0 0, vI x1, vI x2, vI x5] (a, (b, h0)) (fun r1 μ1 => ((r1 = 0 → xOk mX6_twinOf 12 [(0, vR 6 0 0), (1, vI x1), (2, vI x2), (3, vI x3), (4, vI x4), (5, vI (x5 + (-1 : Int32)))] [] μ1 (qI Q)) ∧ (¬ r1 = 0 → (CI mX6_cellOf [vR 6 0 0, vI x2, vI x5, vI (3 : Int32)] μ1 (fun r2 μ2 => ((¬ r2 = x3 → xOk mX6_twinOf 12 [(0, vR 6 0 0), (1, vI x1), (2, vI x2), (3, vI x3), (4, vI (x4 + 1)), (5, vI (x5 + (-1 : Int32)))] [] μ2 (qI Q)) ∧ (r2 = x3 → Q x5 μ2))))))))))))) : xOk mX6_twinOf 12 [(0, vR 6 0 0), (1, vI x1), (2, vI x2), (3, vI x3), (4, vI x4), (5, vI x5)] [] (a, (b, h0)) (qI Q) := by
  refine ok_iload (j := 5) dX6_twinOf_12 rfl ?_
  refine ok_if_lt (tgt := 58) dX6_twinOf_14 (by decide) ⟨fun z => ?_, fun z => ?_⟩
  · have h := h.1 z
    refine ok_iconst (v := (-1 : Int32)) dX6_twinOf_58 (by decide) ?_
    exact ok_iret rfl dX6_twinOf_59 ⟨_, rfl, h⟩
  · have h := h.2 z
    refine ok_iload (j := 4) dX6_twinOf_17 rfl ?_
    refine ok_iconst (v := (3 : Int32)) dX6_twinOf_19 (by decide) ?_
    refine ok_icmp_ge (tgt := 58) dX6_twinOf_20 (by decide) ⟨fun z => ?_, fun z => ?_⟩
    · have h := h.1 z
      refine ok_iconst (v := (-1 : Int32)) dX6_twinOf_58 (by decide) ?_
      exact ok_iret rfl dX6_twinOf_59 ⟨_, rfl, h⟩
    · have h := h.2 z
      refine ok_aload_n (j := 0) dX6_twinOf_23 rfl rfl ?_
      refine ok_iload_n (j := 1) dX6_twinOf_24 rfl rfl ?_
      refine ok_iload_n (j := 2) dX6_twinOf_25 rfl rfl ?_
      refine ok_iload (j := 5) dX6_twinOf_26 rfl ?_
      refine ok_callV (M' := mX6_isRecent) [vI x1, vI x2, vI x5] dX6_twinOf_28 xw_642 fV_X6_isRecent fS_X6_isRecent rfl (by decide) v6 (ob_6 _ _ _) rfl (Nat.le_of_ble_eq_true rfl) (CI.to (CI.mono h ?_))
      intro r1 μ1 h
      refine ok_if_eq (tgt := 52) dX6_twinOf_31 (by decide) ⟨fun z => ?_, fun z => ?_⟩
      · have h := h.1 z
        refine ok_iinc (j := 5) (v := (x5 + (-1 : Int32))) (ls2 := [(5, vI (x5 + (-1 : Int32))), (0, vR 6 0 0), (1, vI x1), (2, vI x2), (3, vI x3), (4, vI x4)]) dX6_twinOf_52 rfl rfl (by decide) rfl ?_
        refine ok_goto (tgt := 12) dX6_twinOf_55 (by decide) ?_
        exact ok_sub [(0, vR 6 0 0), (1, vI x1), (2, vI x2), (3, vI x3), (4, vI x4), (5, vI (x5 + (-1 : Int32)))] [1, 2, 3, 4, 5, 0] rfl h
      · have h := h.2 z
        refine ok_iinc (j := 4) (v := (x4 + 1)) (ls2 := [(4, vI (x4 + 1)), (0, vR 6 0 0), (1, vI x1), (2, vI x2), (3, vI x3), (5, vI x5)]) dX6_twinOf_34 rfl rfl (by decide) rfl ?_
        refine ok_aload_n (j := 1) dX6_twinOf_37 rfl rfl ?_
        refine ok_iload_n (j := 3) dX6_twinOf_38 rfl rfl ?_
        refine ok_iload (j := 5) dX6_twinOf_39 rfl ?_
        refine ok_iconst (v := (3 : Int32)) dX6_twinOf_41 (by decide) ?_
        refine ok_callV (M' := mX6_cellOf) [vI x2, vI x5, vI (3 : Int32)] dX6_twinOf_42 xw_646 fV_X6_cellOf fS_X6_cellOf rfl (by decide) v6 (ob_6 _ _ _) rfl (Nat.le_of_ble_eq_true rfl) (CI.to (CI.mono h ?_))
        intro r2 μ2 h
        refine ok_iload_n (j := 4) dX6_twinOf_45 rfl rfl ?_
        refine ok_icmp_ne (tgt := 52) dX6_twinOf_46 (by decide) ⟨fun z => ?_, fun z => ?_⟩
        · have h := h.1 z
          refine ok_iinc (j := 5) (v := (x5 + (-1 : Int32))) (ls2 := [(5, vI (x5 + (-1 : Int32))), (4, vI (x4 + 1)), (0, vR 6 0 0), (1, vI x1), (2, vI x2), (3, vI x3)]) dX6_twinOf_52 rfl rfl (by decide) rfl ?_
          refine ok_goto (tgt := 12) dX6_twinOf_55 (by decide) ?_
          exact ok_sub [(0, vR 6 0 0), (1, vI x1), (2, vI x2), (3, vI x3), (4, vI (x4 + 1)), (5, vI (x5 + (-1 : Int32)))] [2, 3, 4, 5, 1, 0] rfl h
        · have h := h.2 z
          refine ok_iload (j := 5) dX6_twinOf_49 rfl ?_
          exact ok_iret rfl dX6_twinOf_51 ⟨_, rfl, h⟩
set_option maxRecDepth 100000 in
set_option maxHeartbeats 4000000 in
theorem eX6_sizeOf {a b : xA} {h0 : Int64} {Q : Int32 → xM → Prop} {x1 : Int32}  (h : (vp_in ((66 : Int32) + x1) 945 ∧ Q (b 30 0 0 (Int32.toNatClampNeg ((66 : Int32) + x1))) (a, (b, h0)))) : CI mX6_sizeOf [vR 6 0 0, vI x1] (a, (b, h0)) Q := by
  refine xCalls_of (by decide) (Nat.le_of_ble_eq_true rfl) ?_
  show xOk mX6_sizeOf 0 [(0, vR 6 0 0), (1, vI x1)] [] (a, (b, h0)) (qI Q)
  refine ok_aload_n (j := 0) dX6_sizeOf_0 rfl rfl ?_
  refine gf_6_0 dX6_sizeOf_1 v6 xw_530 ?_
  refine ok_bipush (v := (66 : Int32)) dX6_sizeOf_4 (by decide) ?_
  refine ok_iload_n (j := 1) dX6_sizeOf_6 rfl rfl ?_
  refine ok_iadd dX6_sizeOf_7 ?_
  obtain ⟨hb1, h⟩ := h
  refine al_30 dX6_sizeOf_8 v30 hb1 ?_
  exact ok_iret rfl dX6_sizeOf_9 ⟨_, rfl, h⟩
set_option maxRecDepth 100000 in
set_option maxHeartbeats 4000000 in
theorem eX6_isRecent {a b : xA} {h0 : Int64} {Q : Int32 → xM → Prop} {x1 : Int32} {x2 : Int32} {x3 : Int32}  (h : (CI mX6_cellOf [vR 6 0 0, vI x2, vI x3, vI (0 : Int32)] (a, (b, h0)) (fun r1 μ1 => ((¬ r1 = 0 → Q (0 : Int32) μ1) ∧ (r1 = 0 → (CI mX6_cellOf [vR 6 0 0, vI x2, vI x3, vI (1 : Int32)] μ1 (fun r2 μ2 => ((¬ r2 = x1 → Q (0 : Int32) μ2) ∧ (r2 = x1 → (CI mX6_cellOf [vR 6 0 0, vI x2, vI x3, vI (2 : Int32)] μ2 (fun r3 μ3 => (CI mX6_of [vR 6 0 0, vI x1, vI (0 : Int32)] μ3 (fun r4 μ4 => ((¬ r3 = r4 → Q (0 : Int32) μ4) ∧ (r3 = r4 → Q (1 : Int32) μ4))))))))))))))) : CI mX6_isRecent [vR 6 0 0, vI x1, vI x2, vI x3] (a, (b, h0)) Q := by
  refine xCalls_of (by decide) (Nat.le_of_ble_eq_true rfl) ?_
  show xOk mX6_isRecent 0 [(0, vR 6 0 0), (1, vI x1), (2, vI x2), (3, vI x3)] [] (a, (b, h0)) (qI Q)
  refine ok_aload_n (j := 0) dX6_isRecent_0 rfl rfl ?_
  refine ok_iload_n (j := 2) dX6_isRecent_1 rfl rfl ?_
  refine ok_iload_n (j := 3) dX6_isRecent_2 rfl rfl ?_
  refine ok_iconst (v := (0 : Int32)) dX6_isRecent_3 (by decide) ?_
  refine ok_callV (M' := mX6_cellOf) [vI x2, vI x3, vI (0 : Int32)] dX6_isRecent_4 xw_646 fV_X6_cellOf fS_X6_cellOf rfl (by decide) v6 (ob_6 _ _ _) rfl (Nat.le_of_ble_eq_true rfl) (CI.to (CI.mono h ?_))
  intro r1 μ1 h
  refine ok_if_ne (tgt := 41) dX6_isRecent_7 (by decide) ⟨fun z => ?_, fun z => ?_⟩
  · have h := h.1 z
    refine ok_iconst (v := (0 : Int32)) dX6_isRecent_41 (by decide) ?_
    exact ok_zret rfl (by decide) dX6_isRecent_42 ⟨_, rfl, h⟩
  · have h := h.2 z
    refine ok_aload_n (j := 0) dX6_isRecent_10 rfl rfl ?_
    refine ok_iload_n (j := 2) dX6_isRecent_11 rfl rfl ?_
    refine ok_iload_n (j := 3) dX6_isRecent_12 rfl rfl ?_
    refine ok_iconst (v := (1 : Int32)) dX6_isRecent_13 (by decide) ?_
    refine ok_callV (M' := mX6_cellOf) [vI x2, vI x3, vI (1 : Int32)] dX6_isRecent_14 xw_646 fV_X6_cellOf fS_X6_cellOf rfl (by decide) v6 (ob_6 _ _ _) rfl (Nat.le_of_ble_eq_true rfl) (CI.to (CI.mono h ?_))
    intro r2 μ2 h
    refine ok_iload_n (j := 1) dX6_isRecent_17 rfl rfl ?_
    refine ok_icmp_ne (tgt := 41) dX6_isRecent_18 (by decide) ⟨fun z => ?_, fun z => ?_⟩
    · have h := h.1 z
      refine ok_iconst (v := (0 : Int32)) dX6_isRecent_41 (by decide) ?_
      exact ok_zret rfl (by decide) dX6_isRecent_42 ⟨_, rfl, h⟩
    · have h := h.2 z
      refine ok_aload_n (j := 0) dX6_isRecent_21 rfl rfl ?_
      refine ok_iload_n (j := 2) dX6_isRecent_22 rfl rfl ?_
      refine ok_iload_n (j := 3) dX6_isRecent_23 rfl rfl ?_
      refine ok_iconst (v := (2 : Int32)) dX6_isRecent_24 (by decide) ?_
      refine ok_callV (M' := mX6_cellOf) [vI x2, vI x3, vI (2 : Int32)] dX6_isRecent_25 xw_646 fV_X6_cellOf fS_X6_cellOf rfl (by decide) v6 (ob_6 _ _ _) rfl (Nat.le_of_ble_eq_true rfl) (CI.to (CI.mono h ?_))
      intro r3 μ3 h
      refine ok_aload_n (j := 0) dX6_isRecent_28 rfl rfl ?_
      refine ok_iload_n (j := 1) dX6_isRecent_29 rfl rfl ?_
      refine ok_iconst (v := (0 : Int32)) dX6_isRecent_30 (by decide) ?_
      refine ok_callV (M' := mX6_of) [vI x1, vI (0 : Int32)] dX6_isRecent_31 xw_591 fV_X6_of fS_X6_of rfl (by decide) v6 (ob_6 _ _ _) rfl (Nat.le_of_ble_eq_true rfl) (CI.to (CI.mono h ?_))
      intro r4 μ4 h
      refine ok_icmp_ne (tgt := 41) dX6_isRecent_34 (by decide) ⟨fun z => ?_, fun z => ?_⟩
      · have h := h.1 z
        refine ok_iconst (v := (0 : Int32)) dX6_isRecent_41 (by decide) ?_
        exact ok_zret rfl (by decide) dX6_isRecent_42 ⟨_, rfl, h⟩
      · have h := h.2 z
        refine ok_iconst (v := (1 : Int32)) dX6_isRecent_37 (by decide) ?_
        refine ok_goto (tgt := 42) dX6_isRecent_38 (by decide) ?_
        exact ok_zret rfl (by decide) dX6_isRecent_42 ⟨_, rfl, h⟩
set_option maxRecDepth 100000 in
set_option maxHeartbeats 4000000 in
theorem eX6_cellOf {a b : xA} {h0 : Int64} {Q : Int32 → xM → Prop} {x1 : Int32} {x2 : Int32} {x3 : Int32}  (h : (vp_in ((((81 : Int32) + ((288 : Int32) * x1)) + ((6 : Int32) * x2)) + x3) 945 ∧ Q (b 30 0 0 (Int32.toNatClampNeg ((((81 : Int32) + ((288 : Int32) * x1)) + ((6 : Int32) * x2)) + x3))) (a, (b, h0)))) : CI mX6_cellOf [vR 6 0 0, vI x1, vI x2, vI x3] (a, (b, h0)) Q := by
  refine xCalls_of (by decide) (Nat.le_of_ble_eq_true rfl) ?_
  show xOk mX6_cellOf 0 [(0, vR 6 0 0), (1, vI x1), (2, vI x2), (3, vI x3)] [] (a, (b, h0)) (qI Q)
  refine ok_aload_n (j := 0) dX6_cellOf_0 rfl rfl ?_
  refine gf_6_0 dX6_cellOf_1 v6 xw_530 ?_
  refine ok_bipush (v := (81 : Int32)) dX6_cellOf_4 (by decide) ?_
  refine ok_sipush (v := (288 : Int32)) dX6_cellOf_6 (by decide) ?_
  refine ok_iload_n (j := 1) dX6_cellOf_9 rfl rfl ?_
  refine ok_imul dX6_cellOf_10 ?_
  refine ok_iadd dX6_cellOf_11 ?_
  refine ok_bipush (v := (6 : Int32)) dX6_cellOf_12 (by decide) ?_
  refine ok_iload_n (j := 2) dX6_cellOf_14 rfl rfl ?_
  refine ok_imul dX6_cellOf_15 ?_
  refine ok_iadd dX6_cellOf_16 ?_
  refine ok_iload_n (j := 3) dX6_cellOf_17 rfl rfl ?_
  refine ok_iadd dX6_cellOf_18 ?_
  obtain ⟨hb1, h⟩ := h
  refine al_30 dX6_cellOf_19 v30 hb1 ?_
  exact ok_iret rfl dX6_cellOf_20 ⟨_, rfl, h⟩
set_option maxRecDepth 100000 in
set_option maxHeartbeats 4000000 in
theorem eX6_dueOf {a b : xA} {h0 : Int64} {Q : Int32 → xM → Prop} {x1 : Int32} {x2 : Int32}  (h : (CI mX6_sizeOf [vR 6 0 0, vI x2] (a, (b, h0)) (fun r1 μ1 => xOk mX6_dueOf 8 [(0, vR 6 0 0), (1, vI x1), (2, vI x2), (3, vI (r1 - (1 : Int32)))] [] μ1 (qI Q)))) : CI mX6_dueOf [vR 6 0 0, vI x1, vI x2] (a, (b, h0)) Q := by
  refine xCalls_of (by decide) (Nat.le_of_ble_eq_true rfl) ?_
  show xOk mX6_dueOf 0 [(0, vR 6 0 0), (1, vI x1), (2, vI x2)] [] (a, (b, h0)) (qI Q)
  refine ok_aload_n (j := 0) dX6_dueOf_0 rfl rfl ?_
  refine ok_iload_n (j := 2) dX6_dueOf_1 rfl rfl ?_
  refine ok_callV (M' := mX6_sizeOf) [vI x2] dX6_dueOf_2 xw_638 fV_X6_sizeOf fS_X6_sizeOf rfl (by decide) v6 (ob_6 _ _ _) rfl (Nat.le_of_ble_eq_true rfl) (CI.to (CI.mono h ?_))
  intro r1 μ1 h
  refine ok_iconst (v := (1 : Int32)) dX6_dueOf_5 (by decide) ?_
  refine ok_isub dX6_dueOf_6 ?_
  refine ok_istore_n (ls2 := [(3, vI (r1 - (1 : Int32))), (0, vR 6 0 0), (1, vI x1), (2, vI x2)]) dX6_dueOf_7 rfl (by decide) rfl ?_
  exact ok_sub [(0, vR 6 0 0), (1, vI x1), (2, vI x2), (3, vI (r1 - (1 : Int32)))] [1, 2, 3, 0] rfl h
set_option maxRecDepth 100000 in
set_option maxHeartbeats 4000000 in
theorem rX6_dueOf_8 {a b : xA} {h0 : Int64} {Q : Int32 → xM → Prop} {x1 : Int32} {x2 : Int32} {x3 : Int32}  (h : ((x3 < 0 → Q (0 : Int32) (a, (b, h0))) ∧ (¬ x3 < 0 → (CI mX6_isRecent [vR 6 0 0, vI x1, vI x2, vI x3] (a, (b, h0)) (fun r1 μ1 => ((r1 = 0 → xOk mX6_dueOf 8 [(0, vR 6 0 0), (1, vI x1), (2, vI x2), (3, vI (x3 + (-1 : Int32)))] [] μ1 (qI Q)) ∧ (¬ r1 = 0 → (CI mX6_cellOf [vR 6 0 0, vI x2, vI x3, vI (3 : Int32)] μ1 (fun r2 μ2 => Q (r2 + (1 : Int32)) μ2))))))))) : xOk mX6_dueOf 8 [(0, vR 6 0 0), (1, vI x1), (2, vI x2), (3, vI x3)] [] (a, (b, h0)) (qI Q) := by
  refine ok_iload_n (j := 3) dX6_dueOf_8 rfl rfl ?_
  refine ok_if_lt (tgt := 38) dX6_dueOf_9 (by decide) ⟨fun z => ?_, fun z => ?_⟩
  · have h := h.1 z
    refine ok_iconst (v := (0 : Int32)) dX6_dueOf_38 (by decide) ?_
    exact ok_iret rfl dX6_dueOf_39 ⟨_, rfl, h⟩
  · have h := h.2 z
    refine ok_aload_n (j := 0) dX6_dueOf_12 rfl rfl ?_
    refine ok_iload_n (j := 1) dX6_dueOf_13 rfl rfl ?_
    refine ok_iload_n (j := 2) dX6_dueOf_14 rfl rfl ?_
    refine ok_iload_n (j := 3) dX6_dueOf_15 rfl rfl ?_
    refine ok_callV (M' := mX6_isRecent) [vI x1, vI x2, vI x3] dX6_dueOf_16 xw_642 fV_X6_isRecent fS_X6_isRecent rfl (by decide) v6 (ob_6 _ _ _) rfl (Nat.le_of_ble_eq_true rfl) (CI.to (CI.mono h ?_))
    intro r1 μ1 h
    refine ok_if_eq (tgt := 32) dX6_dueOf_19 (by decide) ⟨fun z => ?_, fun z => ?_⟩
    · have h := h.1 z
      refine ok_iinc (j := 3) (v := (x3 + (-1 : Int32))) (ls2 := [(3, vI (x3 + (-1 : Int32))), (0, vR 6 0 0), (1, vI x1), (2, vI x2)]) dX6_dueOf_32 rfl rfl (by decide) rfl ?_
      refine ok_goto (tgt := 8) dX6_dueOf_35 (by decide) ?_
      exact ok_sub [(0, vR 6 0 0), (1, vI x1), (2, vI x2), (3, vI (x3 + (-1 : Int32)))] [1, 2, 3, 0] rfl h
    · have h := h.2 z
      refine ok_aload_n (j := 0) dX6_dueOf_22 rfl rfl ?_
      refine ok_iload_n (j := 2) dX6_dueOf_23 rfl rfl ?_
      refine ok_iload_n (j := 3) dX6_dueOf_24 rfl rfl ?_
      refine ok_iconst (v := (3 : Int32)) dX6_dueOf_25 (by decide) ?_
      refine ok_callV (M' := mX6_cellOf) [vI x2, vI x3, vI (3 : Int32)] dX6_dueOf_26 xw_646 fV_X6_cellOf fS_X6_cellOf rfl (by decide) v6 (ob_6 _ _ _) rfl (Nat.le_of_ble_eq_true rfl) (CI.to (CI.mono h ?_))
      intro r2 μ2 h
      refine ok_iconst (v := (1 : Int32)) dX6_dueOf_29 (by decide) ?_
      refine ok_iadd dX6_dueOf_30 ?_
      exact ok_iret rfl dX6_dueOf_31 ⟨_, rfl, h⟩
set_option maxRecDepth 100000 in
set_option maxHeartbeats 4000000 in
theorem eX6_owed {a b : xA} {h0 : Int64} {Q : Int32 → xM → Prop} {x1 : Int32}  (h : xOk mX6_owed 4 [(0, vR 6 0 0), (1, vI x1), (2, vI (0 : Int32)), (3, vI (0 : Int32))] [] (a, (b, h0)) (qI Q)) : CI mX6_owed [vR 6 0 0, vI x1] (a, (b, h0)) Q := by
  refine xCalls_of (by decide) (Nat.le_of_ble_eq_true rfl) ?_
  show xOk mX6_owed 0 [(0, vR 6 0 0), (1, vI x1)] [] (a, (b, h0)) (qI Q)
  refine ok_iconst (v := (0 : Int32)) dX6_owed_0 (by decide) ?_
  refine ok_istore_n (ls2 := [(2, vI (0 : Int32)), (0, vR 6 0 0), (1, vI x1)]) dX6_owed_1 rfl (by decide) rfl ?_
  refine ok_iconst (v := (0 : Int32)) dX6_owed_2 (by decide) ?_
  refine ok_istore_n (ls2 := [(3, vI (0 : Int32)), (2, vI (0 : Int32)), (0, vR 6 0 0), (1, vI x1)]) dX6_owed_3 rfl (by decide) rfl ?_
  exact ok_sub [(0, vR 6 0 0), (1, vI x1), (2, vI (0 : Int32)), (3, vI (0 : Int32))] [2, 3, 1, 0] rfl h
set_option maxRecDepth 100000 in
set_option maxHeartbeats 4000000 in
theorem rX6_owed_4 {a b : xA} {h0 : Int64} {Q : Int32 → xM → Prop} {x1 : Int32} {x2 : Int32} {x3 : Int32}  (h : (((4 : Int32) ≤ x3 → Q x2 (a, (b, h0))) ∧ (¬ (4 : Int32) ≤ x3 → (CI mX6_lacksMark [vR 6 0 0, vI x3, vI x1] (a, (b, h0)) (fun r1 μ1 => ((¬ r1 = 0 → xOk mX6_owed 4 [(0, vR 6 0 0), (1, vI x1), (2, vI (x2 + (1 : Int32))), (3, vI (x3 + 1))] [] μ1 (qI Q)) ∧ (r1 = 0 → (CI mX6_of [vR 6 0 0, vI x3, vI (1 : Int32)] μ1 (fun r2 μ2 => ((¬ r2 = (1 : Int32) → xOk mX6_owed 4 [(0, vR 6 0 0), (1, vI x1), (2, vI (x2 + (0 : Int32))), (3, vI (x3 + 1))] [] μ2 (qI Q)) ∧ (r2 = (1 : Int32) → xOk mX6_owed 4 [(0, vR 6 0 0), (1, vI x1), (2, vI (x2 + (1 : Int32))), (3, vI (x3 + 1))] [] μ2 (qI Q)))))))))))) : xOk mX6_owed 4 [(0, vR 6 0 0), (1, vI x1), (2, vI x2), (3, vI x3)] [] (a, (b, h0)) (qI Q) := by
  refine ok_iload_n (j := 3) dX6_owed_4 rfl rfl ?_
  refine ok_iconst (v := (4 : Int32)) dX6_owed_5 (by decide) ?_
  refine ok_icmp_ge (tgt := 42) dX6_owed_6 (by decide) ⟨fun z => ?_, fun z => ?_⟩
  · have h := h.1 z
    refine ok_iload_n (j := 2) dX6_owed_42 rfl rfl ?_
    exact ok_iret rfl dX6_owed_43 ⟨_, rfl, h⟩
  · have h := h.2 z
    refine ok_iload_n (j := 2) dX6_owed_9 rfl rfl ?_
    refine ok_aload_n (j := 0) dX6_owed_10 rfl rfl ?_
    refine ok_iload_n (j := 3) dX6_owed_11 rfl rfl ?_
    refine ok_iload_n (j := 1) dX6_owed_12 rfl rfl ?_
    refine ok_callV (M' := mX6_lacksMark) [vI x3, vI x1] dX6_owed_13 xw_658 fV_X6_lacksMark fS_X6_lacksMark rfl (by decide) v6 (ob_6 _ _ _) rfl (Nat.le_of_ble_eq_true rfl) (CI.to (CI.mono h ?_))
    intro r1 μ1 h
    refine ok_if_ne (tgt := 29) dX6_owed_16 (by decide) ⟨fun z => ?_, fun z => ?_⟩
    · have h := h.1 z
      refine ok_iconst (v := (1 : Int32)) dX6_owed_29 (by decide) ?_
      refine ok_goto (tgt := 34) dX6_owed_30 (by decide) ?_
      refine ok_iadd dX6_owed_34 ?_
      refine ok_istore_n (ls2 := [(2, vI (x2 + (1 : Int32))), (0, vR 6 0 0), (1, vI x1), (3, vI x3)]) dX6_owed_35 rfl (by decide) rfl ?_
      refine ok_iinc (j := 3) (v := (x3 + 1)) (ls2 := [(3, vI (x3 + 1)), (2, vI (x2 + (1 : Int32))), (0, vR 6 0 0), (1, vI x1)]) dX6_owed_36 rfl rfl (by decide) rfl ?_
      refine ok_goto (tgt := 4) dX6_owed_39 (by decide) ?_
      exact ok_sub [(0, vR 6 0 0), (1, vI x1), (2, vI (x2 + (1 : Int32))), (3, vI (x3 + 1))] [2, 3, 1, 0] rfl h
    · have h := h.2 z
      refine ok_aload_n (j := 0) dX6_owed_19 rfl rfl ?_
      refine ok_iload_n (j := 3) dX6_owed_20 rfl rfl ?_
      refine ok_iconst (v := (1 : Int32)) dX6_owed_21 (by decide) ?_
      refine ok_callV (M' := mX6_of) [vI x3, vI (1 : Int32)] dX6_owed_22 xw_591 fV_X6_of fS_X6_of rfl (by decide) v6 (ob_6 _ _ _) rfl (Nat.le_of_ble_eq_true rfl) (CI.to (CI.mono h ?_))
      intro r2 μ2 h
      refine ok_iconst (v := (1 : Int32)) dX6_owed_25 (by decide) ?_
      refine ok_icmp_ne (tgt := 33) dX6_owed_26 (by decide) ⟨fun z => ?_, fun z => ?_⟩
      · have h := h.1 z
        refine ok_iconst (v := (0 : Int32)) dX6_owed_33 (by decide) ?_
        refine ok_iadd dX6_owed_34 ?_
        refine ok_istore_n (ls2 := [(2, vI (x2 + (0 : Int32))), (0, vR 6 0 0), (1, vI x1), (3, vI x3)]) dX6_owed_35 rfl (by decide) rfl ?_
        refine ok_iinc (j := 3) (v := (x3 + 1)) (ls2 := [(3, vI (x3 + 1)), (2, vI (x2 + (0 : Int32))), (0, vR 6 0 0), (1, vI x1)]) dX6_owed_36 rfl rfl (by decide) rfl ?_
        refine ok_goto (tgt := 4) dX6_owed_39 (by decide) ?_
        exact ok_sub [(0, vR 6 0 0), (1, vI x1), (2, vI (x2 + (0 : Int32))), (3, vI (x3 + 1))] [2, 3, 1, 0] rfl h
      · have h := h.2 z
        refine ok_iconst (v := (1 : Int32)) dX6_owed_29 (by decide) ?_
        refine ok_goto (tgt := 34) dX6_owed_30 (by decide) ?_
        refine ok_iadd dX6_owed_34 ?_
        refine ok_istore_n (ls2 := [(2, vI (x2 + (1 : Int32))), (0, vR 6 0 0), (1, vI x1), (3, vI x3)]) dX6_owed_35 rfl (by decide) rfl ?_
        refine ok_iinc (j := 3) (v := (x3 + 1)) (ls2 := [(3, vI (x3 + 1)), (2, vI (x2 + (1 : Int32))), (0, vR 6 0 0), (1, vI x1)]) dX6_owed_36 rfl rfl (by decide) rfl ?_
        refine ok_goto (tgt := 4) dX6_owed_39 (by decide) ?_
        exact ok_sub [(0, vR 6 0 0), (1, vI x1), (2, vI (x2 + (1 : Int32))), (3, vI (x3 + 1))] [2, 3, 1, 0] rfl h
set_option maxRecDepth 100000 in
set_option maxHeartbeats 4000000 in
theorem eX6_lacksMark {a b : xA} {h0 : Int64} {Q : Int32 → xM → Prop} {x1 : Int32} {x2 : Int32}  (h : (CI mX6_of [vR 6 0 0, vI x1, vI (1 : Int32)] (a, (b, h0)) (fun r1 μ1 => ((r1 = 0 → Q (0 : Int32) μ1) ∧ (¬ r1 = 0 → (CI mX6_of [vR 6 0 0, vI x1, vI (2 : Int32)] μ1 (fun r2 μ2 => (CI mX6_has [vI r2, vI x2] μ2 (fun r3 μ3 => ((r3 = 0 → Q (0 : Int32) μ3) ∧ (¬ r3 = 0 → (CI mX6_of [vR 6 0 0, vI x1, vI (3 : Int32)] μ3 (fun r4 μ4 => (CI mX6_has [vI r4, vI x2] μ4 (fun r5 μ5 => ((¬ r5 = 0 → Q (0 : Int32) μ5) ∧ (r5 = 0 → Q (1 : Int32) μ5))))))))))))))))) : CI mX6_lacksMark [vR 6 0 0, vI x1, vI x2] (a, (b, h0)) Q := by
  refine xCalls_of (by decide) (Nat.le_of_ble_eq_true rfl) ?_
  show xOk mX6_lacksMark 0 [(0, vR 6 0 0), (1, vI x1), (2, vI x2)] [] (a, (b, h0)) (qI Q)
  refine ok_aload_n (j := 0) dX6_lacksMark_0 rfl rfl ?_
  refine ok_iload_n (j := 1) dX6_lacksMark_1 rfl rfl ?_
  refine ok_iconst (v := (1 : Int32)) dX6_lacksMark_2 (by decide) ?_
  refine ok_callV (M' := mX6_of) [vI x1, vI (1 : Int32)] dX6_lacksMark_3 xw_591 fV_X6_of fS_X6_of rfl (by decide) v6 (ob_6 _ _ _) rfl (Nat.le_of_ble_eq_true rfl) (CI.to (CI.mono h ?_))
  intro r1 μ1 h
  refine ok_if_eq (tgt := 39) dX6_lacksMark_6 (by decide) ⟨fun z => ?_, fun z => ?_⟩
  · have h := h.1 z
    refine ok_iconst (v := (0 : Int32)) dX6_lacksMark_39 (by decide) ?_
    exact ok_zret rfl (by decide) dX6_lacksMark_40 ⟨_, rfl, h⟩
  · have h := h.2 z
    refine ok_aload_n (j := 0) dX6_lacksMark_9 rfl rfl ?_
    refine ok_iload_n (j := 1) dX6_lacksMark_10 rfl rfl ?_
    refine ok_iconst (v := (2 : Int32)) dX6_lacksMark_11 (by decide) ?_
    refine ok_callV (M' := mX6_of) [vI x1, vI (2 : Int32)] dX6_lacksMark_12 xw_591 fV_X6_of fS_X6_of rfl (by decide) v6 (ob_6 _ _ _) rfl (Nat.le_of_ble_eq_true rfl) (CI.to (CI.mono h ?_))
    intro r2 μ2 h
    refine ok_iload_n (j := 2) dX6_lacksMark_15 rfl rfl ?_
    refine ok_callS (M' := mX6_has) [vI r2, vI x2] dX6_lacksMark_16 xw_662 fV_X6_has fS_X6_has (by decide) rfl (Nat.le_of_ble_eq_true rfl) (CI.to (CI.mono h ?_))
    intro r3 μ3 h
    refine ok_if_eq (tgt := 39) dX6_lacksMark_19 (by decide) ⟨fun z => ?_, fun z => ?_⟩
    · have h := h.1 z
      refine ok_iconst (v := (0 : Int32)) dX6_lacksMark_39 (by decide) ?_
      exact ok_zret rfl (by decide) dX6_lacksMark_40 ⟨_, rfl, h⟩
    · have h := h.2 z
      refine ok_aload_n (j := 0) dX6_lacksMark_22 rfl rfl ?_
      refine ok_iload_n (j := 1) dX6_lacksMark_23 rfl rfl ?_
      refine ok_iconst (v := (3 : Int32)) dX6_lacksMark_24 (by decide) ?_
      refine ok_callV (M' := mX6_of) [vI x1, vI (3 : Int32)] dX6_lacksMark_25 xw_591 fV_X6_of fS_X6_of rfl (by decide) v6 (ob_6 _ _ _) rfl (Nat.le_of_ble_eq_true rfl) (CI.to (CI.mono h ?_))
      intro r4 μ4 h
      refine ok_iload_n (j := 2) dX6_lacksMark_28 rfl rfl ?_
      refine ok_callS (M' := mX6_has) [vI r4, vI x2] dX6_lacksMark_29 xw_662 fV_X6_has fS_X6_has (by decide) rfl (Nat.le_of_ble_eq_true rfl) (CI.to (CI.mono h ?_))
      intro r5 μ5 h
      refine ok_if_ne (tgt := 39) dX6_lacksMark_32 (by decide) ⟨fun z => ?_, fun z => ?_⟩
      · have h := h.1 z
        refine ok_iconst (v := (0 : Int32)) dX6_lacksMark_39 (by decide) ?_
        exact ok_zret rfl (by decide) dX6_lacksMark_40 ⟨_, rfl, h⟩
      · have h := h.2 z
        refine ok_iconst (v := (1 : Int32)) dX6_lacksMark_35 (by decide) ?_
        refine ok_goto (tgt := 40) dX6_lacksMark_36 (by decide) ?_
        exact ok_zret rfl (by decide) dX6_lacksMark_40 ⟨_, rfl, h⟩
set_option maxRecDepth 100000 in
set_option maxHeartbeats 4000000 in
theorem eX6_has {a b : xA} {h0 : Int64} {Q : Int32 → xM → Prop} {x0 : Int32} {x1 : Int32}  (h : ((¬ ((x0 >>> (x1 &&& 31)) &&& (1 : Int32)) = (1 : Int32) → Q (0 : Int32) (a, (b, h0))) ∧ (((x0 >>> (x1 &&& 31)) &&& (1 : Int32)) = (1 : Int32) → Q (1 : Int32) (a, (b, h0))))) : CI mX6_has [vI x0, vI x1] (a, (b, h0)) Q := by
  refine xCalls_of (by decide) (Nat.le_of_ble_eq_true rfl) ?_
  show xOk mX6_has 0 [(0, vI x0), (1, vI x1)] [] (a, (b, h0)) (qI Q)
  refine ok_iload_n (j := 0) dX6_has_0 rfl rfl ?_
  refine ok_iload_n (j := 1) dX6_has_1 rfl rfl ?_
  refine ok_ishr dX6_has_2 ?_
  refine ok_iconst (v := (1 : Int32)) dX6_has_3 (by decide) ?_
  refine ok_iand dX6_has_4 ?_
  refine ok_iconst (v := (1 : Int32)) dX6_has_5 (by decide) ?_
  refine ok_icmp_ne (tgt := 13) dX6_has_6 (by decide) ⟨fun z => ?_, fun z => ?_⟩
  · have h := h.1 z
    refine ok_iconst (v := (0 : Int32)) dX6_has_13 (by decide) ?_
    exact ok_zret rfl (by decide) dX6_has_14 ⟨_, rfl, h⟩
  · have h := h.2 z
    refine ok_iconst (v := (1 : Int32)) dX6_has_9 (by decide) ?_
    refine ok_goto (tgt := 14) dX6_has_10 (by decide) ?_
    exact ok_zret rfl (by decide) dX6_has_14 ⟨_, rfl, h⟩
set_option maxRecDepth 100000 in
set_option maxHeartbeats 4000000 in
theorem eX6_writes {a b : xA} {h0 : Int64} {Q : Int32 → xM → Prop} {x1 : Int32} {x2 : Int32} {x3 : Int32} {x4 : Int32}  (h : (CI mX6_sizeOf [vR 6 0 0, vI x2] (a, (b, h0)) (fun r1 μ1 => (CI mX6_of [vR 6 0 0, vI x1, vI (1 : Int32)] μ1 (fun r2 μ2 => ((¬ r2 = (1 : Int32) → xOk mX6_writes 22 [(0, vR 6 0 0), (1, vI x1), (2, vI x2), (3, vI x3), (4, vI x4), (5, vI r1)] [vI (0 : Int32)] μ2 (qI Q)) ∧ (r2 = (1 : Int32) → xOk mX6_writes 22 [(0, vR 6 0 0), (1, vI x1), (2, vI x2), (3, vI x3), (4, vI x4), (5, vI r1)] [vI (1 : Int32)] μ2 (qI Q)))))))) : CI mX6_writes [vR 6 0 0, vI x1, vI x2, vI x3, vI x4] (a, (b, h0)) Q := by
  refine xCalls_of (by decide) (Nat.le_of_ble_eq_true rfl) ?_
  show xOk mX6_writes 0 [(0, vR 6 0 0), (1, vI x1), (2, vI x2), (3, vI x3), (4, vI x4)] [] (a, (b, h0)) (qI Q)
  refine ok_aload_n (j := 0) dX6_writes_0 rfl rfl ?_
  refine ok_iload_n (j := 2) dX6_writes_1 rfl rfl ?_
  refine ok_callV (M' := mX6_sizeOf) [vI x2] dX6_writes_2 xw_638 fV_X6_sizeOf fS_X6_sizeOf rfl (by decide) v6 (ob_6 _ _ _) rfl (Nat.le_of_ble_eq_true rfl) (CI.to (CI.mono h ?_))
  intro r1 μ1 h
  refine ok_istore (ls2 := [(5, vI r1), (0, vR 6 0 0), (1, vI x1), (2, vI x2), (3, vI x3), (4, vI x4)]) dX6_writes_5 (by decide) rfl ?_
  refine ok_aload_n (j := 1) dX6_writes_7 rfl rfl ?_
  refine ok_iload_n (j := 2) dX6_writes_8 rfl rfl ?_
  refine ok_iconst (v := (1 : Int32)) dX6_writes_9 (by decide) ?_
  refine ok_callV (M' := mX6_of) [vI x1, vI (1 : Int32)] dX6_writes_10 xw_591 fV_X6_of fS_X6_of rfl (by decide) v6 (ob_6 _ _ _) rfl (Nat.le_of_ble_eq_true rfl) (CI.to (CI.mono h ?_))
  intro r2 μ2 h
  refine ok_iconst (v := (1 : Int32)) dX6_writes_13 (by decide) ?_
  refine ok_icmp_ne (tgt := 21) dX6_writes_14 (by decide) ⟨fun z => ?_, fun z => ?_⟩
  · have h := h.1 z
    refine ok_iconst (v := (0 : Int32)) dX6_writes_21 (by decide) ?_
    exact ok_sub [(0, vR 6 0 0), (1, vI x1), (2, vI x2), (3, vI x3), (4, vI x4), (5, vI r1)] [1, 2, 3, 4, 5, 0] rfl h
  · have h := h.2 z
    refine ok_iconst (v := (1 : Int32)) dX6_writes_17 (by decide) ?_
    refine ok_goto (tgt := 22) dX6_writes_18 (by decide) ?_
    exact ok_sub [(0, vR 6 0 0), (1, vI x1), (2, vI x2), (3, vI x3), (4, vI x4), (5, vI r1)] [1, 2, 3, 4, 5, 0] rfl h
set_option maxRecDepth 100000 in
set_option maxHeartbeats 4000000 in
theorem rX6_writes_22 {a b : xA} {h0 : Int64} {Q : Int32 → xM → Prop} {x1 : Int32} {x2 : Int32} {x3 : Int32} {x4 : Int32} {x5 : Int32} {y0 : Int32}  (h : ((y0 = 0 → xOk mX6_writes 69 [(0, vR 6 0 0), (1, vI x1), (2, vI x2), (3, vI x3), (4, vI x4), (5, vI x5), (6, vI y0)] [] (a, (b, h0)) (qI Q)) ∧ (¬ y0 = 0 → (CI mX6_of [vR 6 0 0, vI x1, vI (2 : Int32)] (a, (b, h0)) (fun r1 μ1 => (CI mX6_has [vI r1, vI x2] μ1 (fun r2 μ2 => ((¬ r2 = 0 → xOk mX6_writes 69 [(0, vR 6 0 0), (1, vI x1), (2, vI x2), (3, vI x3), (4, vI x4), (5, vI x5), (6, vI y0)] [] μ2 (qI Q)) ∧ (r2 = 0 → (CI mX6_of [vR 6 0 0, vI x1, vI (2 : Int32)] μ2 (fun r3 μ3 => (CV mX6_lays [vR 6 0 0, vI x1, vI (2 : Int32), vI (r3 ||| ((1 : Int32) <<< (x2 &&& 31)))] μ3 (fun μ4 => (CV mX6_lays [vR 6 0 0, vI x1, vI ((7 : Int32) + x2), vI x5] μ4 (fun μ5 => xOk mX6_writes 69 [(0, vR 6 0 0), (1, vI x1), (2, vI x2), (3, vI x3), (4, vI x4), (5, vI x5), (6, vI y0)] [] μ5 (qI Q)))))))))))))))) : xOk mX6_writes 22 [(0, vR 6 0 0), (1, vI x1), (2, vI x2), (3, vI x3), (4, vI x4), (5, vI x5)] [vI y0] (a, (b, h0)) (qI Q) := by
  refine ok_istore (ls2 := [(6, vI y0), (0, vR 6 0 0), (1, vI x1), (2, vI x2), (3, vI x3), (4, vI x4), (5, vI x5)]) dX6_writes_22 (by decide) rfl ?_
  refine ok_iload (j := 0) dX6_writes_24 rfl ?_
  refine ok_if_eq (tgt := 69) dX6_writes_26 (by decide) ⟨fun z => ?_, fun z => ?_⟩
  · have h := h.1 z
    exact ok_sub [(0, vR 6 0 0), (1, vI x1), (2, vI x2), (3, vI x3), (4, vI x4), (5, vI x5), (6, vI y0)] [1, 2, 3, 4, 5, 6, 0] rfl h
  · have h := h.2 z
    refine ok_aload_n (j := 1) dX6_writes_29 rfl rfl ?_
    refine ok_iload_n (j := 2) dX6_writes_30 rfl rfl ?_
    refine ok_iconst (v := (2 : Int32)) dX6_writes_31 (by decide) ?_
    refine ok_callV (M' := mX6_of) [vI x1, vI (2 : Int32)] dX6_writes_32 xw_591 fV_X6_of fS_X6_of rfl (by decide) v6 (ob_6 _ _ _) rfl (Nat.le_of_ble_eq_true rfl) (CI.to (CI.mono h ?_))
    intro r1 μ1 h
    refine ok_iload_n (j := 3) dX6_writes_35 rfl rfl ?_
    refine ok_callS (M' := mX6_has) [vI r1, vI x2] dX6_writes_36 xw_662 fV_X6_has fS_X6_has (by decide) rfl (Nat.le_of_ble_eq_true rfl) (CI.to (CI.mono h ?_))
    intro r2 μ2 h
    refine ok_if_ne (tgt := 69) dX6_writes_39 (by decide) ⟨fun z => ?_, fun z => ?_⟩
    · have h := h.1 z
      exact ok_sub [(0, vR 6 0 0), (1, vI x1), (2, vI x2), (3, vI x3), (4, vI x4), (5, vI x5), (6, vI y0)] [1, 2, 3, 4, 5, 6, 0] rfl h
    · have h := h.2 z
      refine ok_aload_n (j := 1) dX6_writes_42 rfl rfl ?_
      refine ok_iload_n (j := 2) dX6_writes_43 rfl rfl ?_
      refine ok_iconst (v := (2 : Int32)) dX6_writes_44 (by decide) ?_
      refine ok_aload_n (j := 1) dX6_writes_45 rfl rfl ?_
      refine ok_iload_n (j := 2) dX6_writes_46 rfl rfl ?_
      refine ok_iconst (v := (2 : Int32)) dX6_writes_47 (by decide) ?_
      refine ok_callV (M' := mX6_of) [vI x1, vI (2 : Int32)] dX6_writes_48 xw_591 fV_X6_of fS_X6_of rfl (by decide) v6 (ob_6 _ _ _) rfl (Nat.le_of_ble_eq_true rfl) (CI.to (CI.mono h ?_))
      intro r3 μ3 h
      refine ok_iconst (v := (1 : Int32)) dX6_writes_51 (by decide) ?_
      refine ok_iload_n (j := 3) dX6_writes_52 rfl rfl ?_
      refine ok_ishl dX6_writes_53 ?_
      refine ok_ior dX6_writes_54 ?_
      refine ok_callV (M' := mX6_lays) [vI x1, vI (2 : Int32), vI (r3 ||| ((1 : Int32) <<< (x2 &&& 31)))] dX6_writes_55 xw_526 fV_X6_lays fS_X6_lays rfl (by decide) v6 (ob_6 _ _ _) rfl (Nat.le_of_ble_eq_true rfl) (CV.to (CV.mono h ?_))
      intro μ4 h
      refine ok_aload_n (j := 1) dX6_writes_58 rfl rfl ?_
      refine ok_iload_n (j := 2) dX6_writes_59 rfl rfl ?_
      refine ok_bipush (v := (7 : Int32)) dX6_writes_60 (by decide) ?_
      refine ok_iload_n (j := 3) dX6_writes_62 rfl rfl ?_
      refine ok_iadd dX6_writes_63 ?_
      refine ok_iload (j := 6) dX6_writes_64 rfl ?_
      refine ok_callV (M' := mX6_lays) [vI x1, vI ((7 : Int32) + x2), vI x5] dX6_writes_66 xw_526 fV_X6_lays fS_X6_lays rfl (by decide) v6 (ob_6 _ _ _) rfl (Nat.le_of_ble_eq_true rfl) (CV.to (CV.mono h ?_))
      intro μ5 h
      exact ok_sub [(0, vR 6 0 0), (1, vI x1), (2, vI x2), (3, vI x3), (4, vI x4), (5, vI x5), (6, vI y0)] [1, 2, 3, 4, 5, 6, 0] rfl h
set_option maxRecDepth 100000 in
set_option maxHeartbeats 4000000 in
theorem rX6_writes_69 {a b : xA} {h0 : Int64} {Q : Int32 → xM → Prop} {x1 : Int32} {x2 : Int32} {x3 : Int32} {x4 : Int32} {x5 : Int32} {x6 : Int32}  (h : (CV mX6_put [vR 6 0 0, vI x2, vI x5, vI (0 : Int32), vI (0 : Int32)] (a, (b, h0)) (fun μ1 => (CV mX6_put [vR 6 0 0, vI x2, vI x5, vI (1 : Int32), vI x1] μ1 (fun μ2 => (CI mX6_of [vR 6 0 0, vI x1, vI (0 : Int32)] μ2 (fun r3 μ3 => (CV mX6_put [vR 6 0 0, vI x2, vI x5, vI (2 : Int32), vI r3] μ3 (fun μ4 => (CV mX6_put [vR 6 0 0, vI x2, vI x5, vI (3 : Int32), vI x3] μ4 (fun μ5 => (CV mX6_put [vR 6 0 0, vI x2, vI x5, vI (4 : Int32), vI x4] μ5 (fun μ6 => ((x6 = 0 → xOk mX6_writes 135 [(0, vR 6 0 0), (2, vI x2), (5, vI x5)] [vI (0 : Int32), vI (5 : Int32), vI x5, vI x2, vR 6 0 0] μ6 (qI Q)) ∧ (¬ x6 = 0 → xOk mX6_writes 135 [(0, vR 6 0 0), (2, vI x2), (5, vI x5)] [vI (1 : Int32), vI (5 : Int32), vI x5, vI x2, vR 6 0 0] μ6 (qI Q)))))))))))))))) : xOk mX6_writes 69 [(0, vR 6 0 0), (1, vI x1), (2, vI x2), (3, vI x3), (4, vI x4), (5, vI x5), (6, vI x6)] [] (a, (b, h0)) (qI Q) := by
  refine ok_aload_n (j := 0) dX6_writes_69 rfl rfl ?_
  refine ok_iload_n (j := 2) dX6_writes_70 rfl rfl ?_
  refine ok_iload (j := 5) dX6_writes_71 rfl ?_
  refine ok_iconst (v := (0 : Int32)) dX6_writes_73 (by decide) ?_
  refine ok_iconst (v := (0 : Int32)) dX6_writes_74 (by decide) ?_
  refine ok_callV (M' := mX6_put) [vI x2, vI x5, vI (0 : Int32), vI (0 : Int32)] dX6_writes_75 xw_669 fV_X6_put fS_X6_put rfl (by decide) v6 (ob_6 _ _ _) rfl (Nat.le_of_ble_eq_true rfl) (CV.to (CV.mono h ?_))
  intro μ1 h
  refine ok_aload_n (j := 0) dX6_writes_78 rfl rfl ?_
  refine ok_iload_n (j := 2) dX6_writes_79 rfl rfl ?_
  refine ok_iload (j := 5) dX6_writes_80 rfl ?_
  refine ok_iconst (v := (1 : Int32)) dX6_writes_82 (by decide) ?_
  refine ok_iload_n (j := 1) dX6_writes_83 rfl rfl ?_
  refine ok_callV (M' := mX6_put) [vI x2, vI x5, vI (1 : Int32), vI x1] dX6_writes_84 xw_669 fV_X6_put fS_X6_put rfl (by decide) v6 (ob_6 _ _ _) rfl (Nat.le_of_ble_eq_true rfl) (CV.to (CV.mono h ?_))
  intro μ2 h
  refine ok_aload_n (j := 0) dX6_writes_87 rfl rfl ?_
  refine ok_iload_n (j := 2) dX6_writes_88 rfl rfl ?_
  refine ok_iload (j := 5) dX6_writes_89 rfl ?_
  refine ok_iconst (v := (2 : Int32)) dX6_writes_91 (by decide) ?_
  refine ok_aload_n (j := 0) dX6_writes_92 rfl rfl ?_
  refine ok_iload_n (j := 1) dX6_writes_93 rfl rfl ?_
  refine ok_iconst (v := (0 : Int32)) dX6_writes_94 (by decide) ?_
  refine ok_callV (M' := mX6_of) [vI x1, vI (0 : Int32)] dX6_writes_95 xw_591 fV_X6_of fS_X6_of rfl (by decide) v6 (ob_6 _ _ _) rfl (Nat.le_of_ble_eq_true rfl) (CI.to (CI.mono h ?_))
  intro r3 μ3 h
  refine ok_callV (M' := mX6_put) [vI x2, vI x5, vI (2 : Int32), vI r3] dX6_writes_98 xw_669 fV_X6_put fS_X6_put rfl (by decide) v6 (ob_6 _ _ _) rfl (Nat.le_of_ble_eq_true rfl) (CV.to (CV.mono h ?_))
  intro μ4 h
  refine ok_aload_n (j := 0) dX6_writes_101 rfl rfl ?_
  refine ok_iload_n (j := 2) dX6_writes_102 rfl rfl ?_
  refine ok_iload (j := 5) dX6_writes_103 rfl ?_
  refine ok_iconst (v := (3 : Int32)) dX6_writes_105 (by decide) ?_
  refine ok_iload_n (j := 3) dX6_writes_106 rfl rfl ?_
  refine ok_callV (M' := mX6_put) [vI x2, vI x5, vI (3 : Int32), vI x3] dX6_writes_107 xw_669 fV_X6_put fS_X6_put rfl (by decide) v6 (ob_6 _ _ _) rfl (Nat.le_of_ble_eq_true rfl) (CV.to (CV.mono h ?_))
  intro μ5 h
  refine ok_aload_n (j := 0) dX6_writes_110 rfl rfl ?_
  refine ok_iload_n (j := 2) dX6_writes_111 rfl rfl ?_
  refine ok_iload (j := 5) dX6_writes_112 rfl ?_
  refine ok_iconst (v := (4 : Int32)) dX6_writes_114 (by decide) ?_
  refine ok_iload (j := 4) dX6_writes_115 rfl ?_
  refine ok_callV (M' := mX6_put) [vI x2, vI x5, vI (4 : Int32), vI x4] dX6_writes_117 xw_669 fV_X6_put fS_X6_put rfl (by decide) v6 (ob_6 _ _ _) rfl (Nat.le_of_ble_eq_true rfl) (CV.to (CV.mono h ?_))
  intro μ6 h
  refine ok_aload_n (j := 0) dX6_writes_120 rfl rfl ?_
  refine ok_iload_n (j := 2) dX6_writes_121 rfl rfl ?_
  refine ok_iload (j := 5) dX6_writes_122 rfl ?_
  refine ok_iconst (v := (5 : Int32)) dX6_writes_124 (by decide) ?_
  refine ok_iload (j := 6) dX6_writes_125 rfl ?_
  refine ok_if_eq (tgt := 134) dX6_writes_127 (by decide) ⟨fun z => ?_, fun z => ?_⟩
  · have h := h.1 z
    refine ok_iconst (v := (0 : Int32)) dX6_writes_134 (by decide) ?_
    exact ok_sub [(0, vR 6 0 0), (2, vI x2), (5, vI x5)] [0, 2, 5] rfl h
  · have h := h.2 z
    refine ok_iconst (v := (1 : Int32)) dX6_writes_130 (by decide) ?_
    refine ok_goto (tgt := 135) dX6_writes_131 (by decide) ?_
    exact ok_sub [(0, vR 6 0 0), (2, vI x2), (5, vI x5)] [0, 2, 5] rfl h
set_option maxRecDepth 100000 in
set_option maxHeartbeats 4000000 in
theorem rX6_writes_135 {a b : xA} {h0 : Int64} {Q : Int32 → xM → Prop} {x2 : Int32} {x5 : Int32} {y0 : Int32} {y1 : Int32} {y2 : Int32} {y3 : Int32}  (h : (CV mX6_put [vR 6 0 0, vI y3, vI y2, vI y1, vI y0] (a, (b, h0)) (fun μ1 => (vp_in ((66 : Int32) + x2) 945 ∧ (vp_in ((66 : Int32) + x2) 945 ∧ Q x5 (μ1.1, ((xUp μ1.2.1 30 0 0 (Int32.toNatClampNeg ((66 : Int32) + x2)) ((μ1.2.1 30 0 0 (Int32.toNatClampNeg ((66 : Int32) + x2))) + (1 : Int32))), μ1.2.2))))))) : xOk mX6_writes 135 [(0, vR 6 0 0), (2, vI x2), (5, vI x5)] [vI y0, vI y1, vI y2, vI y3, vR 6 0 0] (a, (b, h0)) (qI Q) := by
  refine ok_callV (M' := mX6_put) [vI y3, vI y2, vI y1, vI y0] dX6_writes_135 xw_669 fV_X6_put fS_X6_put rfl (by decide) v6 (ob_6 _ _ _) rfl (Nat.le_of_ble_eq_true rfl) (CV.to (CV.mono h ?_))
  intro μ1 h
  refine ok_aload_n (j := 0) dX6_writes_138 rfl rfl ?_
  refine gf_6_0 dX6_writes_139 v6 xw_530 ?_
  refine ok_bipush (v := (66 : Int32)) dX6_writes_142 (by decide) ?_
  refine ok_iload_n (j := 1) dX6_writes_144 rfl rfl ?_
  refine ok_iadd dX6_writes_145 ?_
  refine ok_dup2 dX6_writes_146 rfl rfl ?_
  obtain ⟨hb2, h⟩ := h
  refine al_30 dX6_writes_147 v30 hb2 ?_
  refine ok_iconst (v := (1 : Int32)) dX6_writes_148 (by decide) ?_
  refine ok_iadd dX6_writes_149 ?_
  obtain ⟨hb3, h⟩ := h
  refine as_30 dX6_writes_150 v30 hb3 ?_
  refine ok_iload (j := 2) dX6_writes_151 rfl ?_
  exact ok_iret rfl dX6_writes_153 ⟨_, rfl, h⟩
set_option maxRecDepth 100000 in
set_option maxHeartbeats 4000000 in
theorem eX6_put {a b : xA} {h0 : Int64} {Q : xM → Prop} {x1 : Int32} {x2 : Int32} {x3 : Int32} {x4 : Int32}  (h : (vp_in ((((81 : Int32) + ((288 : Int32) * x1)) + ((6 : Int32) * x2)) + x3) 945 ∧ Q (a, ((xUp b 30 0 0 (Int32.toNatClampNeg ((((81 : Int32) + ((288 : Int32) * x1)) + ((6 : Int32) * x2)) + x3)) x4), h0)))) : CV mX6_put [vR 6 0 0, vI x1, vI x2, vI x3, vI x4] (a, (b, h0)) Q := by
  refine xCalls_of (by decide) (Nat.le_of_ble_eq_true rfl) ?_
  show xOk mX6_put 0 [(0, vR 6 0 0), (1, vI x1), (2, vI x2), (3, vI x3), (4, vI x4)] [] (a, (b, h0)) (qV Q)
  refine ok_aload_n (j := 0) dX6_put_0 rfl rfl ?_
  refine gf_6_0 dX6_put_1 v6 xw_530 ?_
  refine ok_bipush (v := (81 : Int32)) dX6_put_4 (by decide) ?_
  refine ok_sipush (v := (288 : Int32)) dX6_put_6 (by decide) ?_
  refine ok_iload_n (j := 1) dX6_put_9 rfl rfl ?_
  refine ok_imul dX6_put_10 ?_
  refine ok_iadd dX6_put_11 ?_
  refine ok_bipush (v := (6 : Int32)) dX6_put_12 (by decide) ?_
  refine ok_iload_n (j := 2) dX6_put_14 rfl rfl ?_
  refine ok_imul dX6_put_15 ?_
  refine ok_iadd dX6_put_16 ?_
  refine ok_iload_n (j := 3) dX6_put_17 rfl rfl ?_
  refine ok_iadd dX6_put_18 ?_
  refine ok_iload (j := 4) dX6_put_19 rfl ?_
  obtain ⟨hb1, h⟩ := h
  refine as_30 dX6_put_21 v30 hb1 ?_
  exact ok_vret rfl dX6_put_22 ⟨rfl, h⟩
set_option maxRecDepth 100000 in
set_option maxHeartbeats 4000000 in
theorem eX6_ends {a b : xA} {h0 : Int64} {Q : Int32 → xM → Prop} {x1 : Int32} {x2 : Int32} {x3 : Int32}  (h : (CI mX6_isAge [vR 6 0 0, vI x1, vI x2] (a, (b, h0)) (fun r1 μ1 => ((r1 = 0 → (CI mX6_bad [vR 6 0 0] μ1 (fun r2 μ2 => Q r2 μ2))) ∧ (¬ r1 = 0 → (CI mX6_in [vI x3, vI (0 : Int32), vI (1 : Int32)] μ1 (fun r3 μ3 => ((¬ r3 = 0 → (CI mX6_of [vR 6 0 0, vI x1, vI (0 : Int32)] μ3 (fun r4 μ4 => ((r4 ≤ x2 → (CI mX6_of [vR 6 0 0, vI x1, vI (1 : Int32)] μ4 (fun r5 μ5 => ((r5 = (1 : Int32) → (CV mX6_notes [vR 6 0 0] μ5 (fun μ6 => (CI mX6_of [vR 6 0 0, vI x1, vI (2 : Int32)] μ6 (fun r7 μ7 => (CI mX6_bits [vI r7] μ7 (fun r8 μ8 => (CV mX6_endDeed [vR 6 0 0, vI x1, vI x3] μ8 (fun μ9 => Q r8 μ9))))))))) ∧ (¬ r5 = (1 : Int32) → (CI mX6_refuse [vR 6 0 0, vI (2 : Int32), vI (-3 : Int32)] μ5 (fun r10 μ10 => Q r10 μ10))))))) ∧ (¬ r4 ≤ x2 → (CI mX6_refuse [vR 6 0 0, vI (1 : Int32), vI (-6 : Int32)] μ4 (fun r11 μ11 => Q r11 μ11))))))) ∧ (r3 = 0 → (CI mX6_bad [vR 6 0 0] μ3 (fun r12 μ12 => Q r12 μ12))))))))))) : CI mX6_ends [vR 6 0 0, vI x1, vI x2, vI x3] (a, (b, h0)) Q := by
  refine xCalls_of (by decide) (Nat.le_of_ble_eq_true rfl) ?_
  show xOk mX6_ends 0 [(0, vR 6 0 0), (1, vI x1), (2, vI x2), (3, vI x3)] [] (a, (b, h0)) (qI Q)
  refine ok_aload_n (j := 0) dX6_ends_0 rfl rfl ?_
  refine ok_iload_n (j := 1) dX6_ends_1 rfl rfl ?_
  refine ok_iload_n (j := 2) dX6_ends_2 rfl rfl ?_
  refine ok_callV (M' := mX6_isAge) [vI x1, vI x2] dX6_ends_3 xw_619 fV_X6_isAge fS_X6_isAge rfl (by decide) v6 (ob_6 _ _ _) rfl (Nat.le_of_ble_eq_true rfl) (CI.to (CI.mono h ?_))
  intro r1 μ1 h
  refine ok_if_eq (tgt := 18) dX6_ends_6 (by decide) ⟨fun z => ?_, fun z => ?_⟩
  · have h := h.1 z
    refine ok_aload_n (j := 0) dX6_ends_18 rfl rfl ?_
    refine ok_callV (M' := mX6_bad) [] dX6_ends_19 xw_583 fV_X6_bad fS_X6_bad rfl (by decide) v6 (ob_6 _ _ _) rfl (Nat.le_of_ble_eq_true rfl) (CI.to (CI.mono h ?_))
    intro r2 μ2 h
    exact ok_iret rfl dX6_ends_22 ⟨_, rfl, h⟩
  · have h := h.2 z
    refine ok_iload_n (j := 3) dX6_ends_9 rfl rfl ?_
    refine ok_iconst (v := (0 : Int32)) dX6_ends_10 (by decide) ?_
    refine ok_iconst (v := (1 : Int32)) dX6_ends_11 (by decide) ?_
    refine ok_callS (M' := mX6_in) [vI x3, vI (0 : Int32), vI (1 : Int32)] dX6_ends_12 xw_580 fV_X6_in fS_X6_in (by decide) rfl (Nat.le_of_ble_eq_true rfl) (CI.to (CI.mono h ?_))
    intro r3 μ3 h
    refine ok_if_ne (tgt := 23) dX6_ends_15 (by decide) ⟨fun z => ?_, fun z => ?_⟩
    · have h := h.1 z
      refine ok_iload_n (j := 2) dX6_ends_23 rfl rfl ?_
      refine ok_aload_n (j := 0) dX6_ends_24 rfl rfl ?_
      refine ok_iload_n (j := 1) dX6_ends_25 rfl rfl ?_
      refine ok_iconst (v := (0 : Int32)) dX6_ends_26 (by decide) ?_
      refine ok_callV (M' := mX6_of) [vI x1, vI (0 : Int32)] dX6_ends_27 xw_591 fV_X6_of fS_X6_of rfl (by decide) v6 (ob_6 _ _ _) rfl (Nat.le_of_ble_eq_true rfl) (CI.to (CI.mono h ?_))
      intro r4 μ4 h
      refine ok_icmp_ge (tgt := 41) dX6_ends_30 (by decide) ⟨fun z => ?_, fun z => ?_⟩
      · have h := h.1 z
        refine ok_aload_n (j := 0) dX6_ends_41 rfl rfl ?_
        refine ok_iload_n (j := 1) dX6_ends_42 rfl rfl ?_
        refine ok_iconst (v := (1 : Int32)) dX6_ends_43 (by decide) ?_
        refine ok_callV (M' := mX6_of) [vI x1, vI (1 : Int32)] dX6_ends_44 xw_591 fV_X6_of fS_X6_of rfl (by decide) v6 (ob_6 _ _ _) rfl (Nat.le_of_ble_eq_true rfl) (CI.to (CI.mono h ?_))
        intro r5 μ5 h
        refine ok_iconst (v := (1 : Int32)) dX6_ends_47 (by decide) ?_
        refine ok_icmp_eq (tgt := 59) dX6_ends_48 (by decide) ⟨fun z => ?_, fun z => ?_⟩
        · have h := h.1 z
          refine ok_aload_n (j := 0) dX6_ends_59 rfl rfl ?_
          refine ok_callV (M' := mX6_notes) [] dX6_ends_60 xw_595 fV_X6_notes fS_X6_notes rfl (by decide) v6 (ob_6 _ _ _) rfl (Nat.le_of_ble_eq_true rfl) (CV.to (CV.mono h ?_))
          intro μ6 h
          refine ok_aload_n (j := 0) dX6_ends_63 rfl rfl ?_
          refine ok_iload_n (j := 1) dX6_ends_64 rfl rfl ?_
          refine ok_iconst (v := (2 : Int32)) dX6_ends_65 (by decide) ?_
          refine ok_callV (M' := mX6_of) [vI x1, vI (2 : Int32)] dX6_ends_66 xw_591 fV_X6_of fS_X6_of rfl (by decide) v6 (ob_6 _ _ _) rfl (Nat.le_of_ble_eq_true rfl) (CI.to (CI.mono h ?_))
          intro r7 μ7 h
          refine ok_callS (M' := mX6_bits) [vI r7] dX6_ends_69 xw_677 fV_X6_bits fS_X6_bits (by decide) rfl (Nat.le_of_ble_eq_true rfl) (CI.to (CI.mono h ?_))
          intro r8 μ8 h
          refine ok_istore (ls2 := [(4, vI r8), (0, vR 6 0 0), (1, vI x1), (2, vI x2), (3, vI x3)]) dX6_ends_72 (by decide) rfl ?_
          refine ok_aload_n (j := 1) dX6_ends_74 rfl rfl ?_
          refine ok_iload_n (j := 2) dX6_ends_75 rfl rfl ?_
          refine ok_iload_n (j := 4) dX6_ends_76 rfl rfl ?_
          refine ok_callV (M' := mX6_endDeed) [vI x1, vI x3] dX6_ends_77 xw_607 fV_X6_endDeed fS_X6_endDeed rfl (by decide) v6 (ob_6 _ _ _) rfl (Nat.le_of_ble_eq_true rfl) (CV.to (CV.mono h ?_))
          intro μ9 h
          refine ok_iload (j := 0) dX6_ends_80 rfl ?_
          exact ok_iret rfl dX6_ends_82 ⟨_, rfl, h⟩
        · have h := h.2 z
          refine ok_aload_n (j := 0) dX6_ends_51 rfl rfl ?_
          refine ok_iconst (v := (2 : Int32)) dX6_ends_52 (by decide) ?_
          refine ok_bipush (v := (-3 : Int32)) dX6_ends_53 (by decide) ?_
          refine ok_callV (M' := mX6_refuse) [vI (2 : Int32), vI (-3 : Int32)] dX6_ends_55 xw_587 fV_X6_refuse fS_X6_refuse rfl (by decide) v6 (ob_6 _ _ _) rfl (Nat.le_of_ble_eq_true rfl) (CI.to (CI.mono h ?_))
          intro r10 μ10 h
          exact ok_iret rfl dX6_ends_58 ⟨_, rfl, h⟩
      · have h := h.2 z
        refine ok_aload_n (j := 0) dX6_ends_33 rfl rfl ?_
        refine ok_iconst (v := (1 : Int32)) dX6_ends_34 (by decide) ?_
        refine ok_bipush (v := (-6 : Int32)) dX6_ends_35 (by decide) ?_
        refine ok_callV (M' := mX6_refuse) [vI (1 : Int32), vI (-6 : Int32)] dX6_ends_37 xw_587 fV_X6_refuse fS_X6_refuse rfl (by decide) v6 (ob_6 _ _ _) rfl (Nat.le_of_ble_eq_true rfl) (CI.to (CI.mono h ?_))
        intro r11 μ11 h
        exact ok_iret rfl dX6_ends_40 ⟨_, rfl, h⟩
    · have h := h.2 z
      refine ok_aload_n (j := 0) dX6_ends_18 rfl rfl ?_
      refine ok_callV (M' := mX6_bad) [] dX6_ends_19 xw_583 fV_X6_bad fS_X6_bad rfl (by decide) v6 (ob_6 _ _ _) rfl (Nat.le_of_ble_eq_true rfl) (CI.to (CI.mono h ?_))
      intro r12 μ12 h
      exact ok_iret rfl dX6_ends_22 ⟨_, rfl, h⟩
set_option maxRecDepth 100000 in
set_option maxHeartbeats 4000000 in
theorem eX6_bits {a b : xA} {h0 : Int64} {Q : Int32 → xM → Prop} {x0 : Int32}  (h : xOk mX6_bits 4 [(0, vI x0), (1, vI (0 : Int32)), (2, vI (0 : Int32))] [] (a, (b, h0)) (qI Q)) : CI mX6_bits [vI x0] (a, (b, h0)) Q := by
  refine xCalls_of (by decide) (Nat.le_of_ble_eq_true rfl) ?_
  show xOk mX6_bits 0 [(0, vI x0)] [] (a, (b, h0)) (qI Q)
  refine ok_iconst (v := (0 : Int32)) dX6_bits_0 (by decide) ?_
  refine ok_istore_n (ls2 := [(1, vI (0 : Int32)), (0, vI x0)]) dX6_bits_1 rfl (by decide) rfl ?_
  refine ok_iconst (v := (0 : Int32)) dX6_bits_2 (by decide) ?_
  refine ok_istore_n (ls2 := [(2, vI (0 : Int32)), (1, vI (0 : Int32)), (0, vI x0)]) dX6_bits_3 rfl (by decide) rfl ?_
  exact ok_sub [(0, vI x0), (1, vI (0 : Int32)), (2, vI (0 : Int32))] [2, 1, 0] rfl h
set_option maxRecDepth 100000 in
set_option maxHeartbeats 4000000 in
theorem rX6_bits_4 {a b : xA} {h0 : Int64} {Q : Int32 → xM → Prop} {x0 : Int32} {x1 : Int32} {x2 : Int32}  (h : (((3 : Int32) ≤ x2 → Q x1 (a, (b, h0))) ∧ (¬ (3 : Int32) ≤ x2 → xOk mX6_bits 4 [(0, vI x0), (1, vI (x1 + ((x0 >>> (x2 &&& 31)) &&& (1 : Int32)))), (2, vI (x2 + 1))] [] (a, (b, h0)) (qI Q)))) : xOk mX6_bits 4 [(0, vI x0), (1, vI x1), (2, vI x2)] [] (a, (b, h0)) (qI Q) := by
  refine ok_iload_n (j := 2) dX6_bits_4 rfl rfl ?_
  refine ok_iconst (v := (3 : Int32)) dX6_bits_5 (by decide) ?_
  refine ok_icmp_ge (tgt := 23) dX6_bits_6 (by decide) ⟨fun z => ?_, fun z => ?_⟩
  · have h := h.1 z
    refine ok_iload_n (j := 1) dX6_bits_23 rfl rfl ?_
    exact ok_iret rfl dX6_bits_24 ⟨_, rfl, h⟩
  · have h := h.2 z
    refine ok_iload_n (j := 1) dX6_bits_9 rfl rfl ?_
    refine ok_iload_n (j := 0) dX6_bits_10 rfl rfl ?_
    refine ok_iload_n (j := 2) dX6_bits_11 rfl rfl ?_
    refine ok_ishr dX6_bits_12 ?_
    refine ok_iconst (v := (1 : Int32)) dX6_bits_13 (by decide) ?_
    refine ok_iand dX6_bits_14 ?_
    refine ok_iadd dX6_bits_15 ?_
    refine ok_istore_n (ls2 := [(1, vI (x1 + ((x0 >>> (x2 &&& 31)) &&& (1 : Int32)))), (0, vI x0), (2, vI x2)]) dX6_bits_16 rfl (by decide) rfl ?_
    refine ok_iinc (j := 2) (v := (x2 + 1)) (ls2 := [(2, vI (x2 + 1)), (1, vI (x1 + ((x0 >>> (x2 &&& 31)) &&& (1 : Int32)))), (0, vI x0)]) dX6_bits_17 rfl rfl (by decide) rfl ?_
    refine ok_goto (tgt := 4) dX6_bits_20 (by decide) ?_
    exact ok_sub [(0, vI x0), (1, vI (x1 + ((x0 >>> (x2 &&& 31)) &&& (1 : Int32)))), (2, vI (x2 + 1))] [2, 1, 0] rfl h
set_option maxRecDepth 100000 in
set_option maxHeartbeats 4000000 in
theorem eX6_carries {a b : xA} {h0 : Int64} {Q : Int32 → xM → Prop} {x1 : Int32} {x2 : Int32} {x3 : Int32} {x4 : Int32}  (h : (CI mX6_isAge [vR 6 0 0, vI x1, vI x2] (a, (b, h0)) (fun r1 μ1 => ((r1 = 0 → (CI mX6_bad [vR 6 0 0] μ1 (fun r2 μ2 => Q r2 μ2))) ∧ (¬ r1 = 0 → (CI mX6_isReader [vI x3] μ1 (fun r3 μ3 => ((r3 = 0 → (CI mX6_bad [vR 6 0 0] μ3 (fun r4 μ4 => Q r4 μ4))) ∧ (¬ r3 = 0 → (CI mX6_isPart [vI x4] μ3 (fun r5 μ5 => ((¬ r5 = 0 → (CI mX6_of [vR 6 0 0, vI x1, vI (0 : Int32)] μ5 (fun r6 μ6 => ((r6 ≤ x2 → (CI mX6_of [vR 6 0 0, vI x1, vI (1 : Int32)] μ6 (fun r7 μ7 => ((r7 = (1 : Int32) → (CV mX6_notes [vR 6 0 0] μ7 (fun μ8 => (vp_in (((69 : Int32) + ((6 : Int32) * x3)) + x4) 945 ∧ (CV mX6_lays [vR 6 0 0, vI x1, vI (((10 : Int32) + ((3 : Int32) * x3)) + x4), vI (μ8.2.1 30 0 0 (Int32.toNatClampNeg (((69 : Int32) + ((6 : Int32) * x3)) + x4)))] μ8 (fun μ10 => Q (μ8.2.1 30 0 0 (Int32.toNatClampNeg (((69 : Int32) + ((6 : Int32) * x3)) + x4))) μ10)))))) ∧ (¬ r7 = (1 : Int32) → (CI mX6_refuse [vR 6 0 0, vI (2 : Int32), vI (-3 : Int32)] μ7 (fun r11 μ11 => Q r11 μ11))))))) ∧ (¬ r6 ≤ x2 → (CI mX6_refuse [vR 6 0 0, vI (1 : Int32), vI (-6 : Int32)] μ6 (fun r12 μ12 => Q r12 μ12))))))) ∧ (r5 = 0 → (CI mX6_bad [vR 6 0 0] μ5 (fun r13 μ13 => Q r13 μ13))))))))))))))) : CI mX6_carries [vR 6 0 0, vI x1, vI x2, vI x3, vI x4] (a, (b, h0)) Q := by
  refine xCalls_of (by decide) (Nat.le_of_ble_eq_true rfl) ?_
  show xOk mX6_carries 0 [(0, vR 6 0 0), (1, vI x1), (2, vI x2), (3, vI x3), (4, vI x4)] [] (a, (b, h0)) (qI Q)
  refine ok_aload_n (j := 0) dX6_carries_0 rfl rfl ?_
  refine ok_iload_n (j := 1) dX6_carries_1 rfl rfl ?_
  refine ok_iload_n (j := 2) dX6_carries_2 rfl rfl ?_
  refine ok_callV (M' := mX6_isAge) [vI x1, vI x2] dX6_carries_3 xw_619 fV_X6_isAge fS_X6_isAge rfl (by decide) v6 (ob_6 _ _ _) rfl (Nat.le_of_ble_eq_true rfl) (CI.to (CI.mono h ?_))
  intro r1 μ1 h
  refine ok_if_eq (tgt := 24) dX6_carries_6 (by decide) ⟨fun z => ?_, fun z => ?_⟩
  · have h := h.1 z
    refine ok_aload_n (j := 0) dX6_carries_24 rfl rfl ?_
    refine ok_callV (M' := mX6_bad) [] dX6_carries_25 xw_583 fV_X6_bad fS_X6_bad rfl (by decide) v6 (ob_6 _ _ _) rfl (Nat.le_of_ble_eq_true rfl) (CI.to (CI.mono h ?_))
    intro r2 μ2 h
    exact ok_iret rfl dX6_carries_28 ⟨_, rfl, h⟩
  · have h := h.2 z
    refine ok_iload_n (j := 3) dX6_carries_9 rfl rfl ?_
    refine ok_callS (M' := mX6_isReader) [vI x3] dX6_carries_10 xw_684 fV_X6_isReader fS_X6_isReader (by decide) rfl (Nat.le_of_ble_eq_true rfl) (CI.to (CI.mono h ?_))
    intro r3 μ3 h
    refine ok_if_eq (tgt := 24) dX6_carries_13 (by decide) ⟨fun z => ?_, fun z => ?_⟩
    · have h := h.1 z
      refine ok_aload_n (j := 0) dX6_carries_24 rfl rfl ?_
      refine ok_callV (M' := mX6_bad) [] dX6_carries_25 xw_583 fV_X6_bad fS_X6_bad rfl (by decide) v6 (ob_6 _ _ _) rfl (Nat.le_of_ble_eq_true rfl) (CI.to (CI.mono h ?_))
      intro r4 μ4 h
      exact ok_iret rfl dX6_carries_28 ⟨_, rfl, h⟩
    · have h := h.2 z
      refine ok_iload (j := 4) dX6_carries_16 rfl ?_
      refine ok_callS (M' := mX6_isPart) [vI x4] dX6_carries_18 xw_631 fV_X6_isPart fS_X6_isPart (by decide) rfl (Nat.le_of_ble_eq_true rfl) (CI.to (CI.mono h ?_))
      intro r5 μ5 h
      refine ok_if_ne (tgt := 29) dX6_carries_21 (by decide) ⟨fun z => ?_, fun z => ?_⟩
      · have h := h.1 z
        refine ok_iload_n (j := 2) dX6_carries_29 rfl rfl ?_
        refine ok_aload_n (j := 0) dX6_carries_30 rfl rfl ?_
        refine ok_iload_n (j := 1) dX6_carries_31 rfl rfl ?_
        refine ok_iconst (v := (0 : Int32)) dX6_carries_32 (by decide) ?_
        refine ok_callV (M' := mX6_of) [vI x1, vI (0 : Int32)] dX6_carries_33 xw_591 fV_X6_of fS_X6_of rfl (by decide) v6 (ob_6 _ _ _) rfl (Nat.le_of_ble_eq_true rfl) (CI.to (CI.mono h ?_))
        intro r6 μ6 h
        refine ok_icmp_ge (tgt := 47) dX6_carries_36 (by decide) ⟨fun z => ?_, fun z => ?_⟩
        · have h := h.1 z
          refine ok_aload_n (j := 0) dX6_carries_47 rfl rfl ?_
          refine ok_iload_n (j := 1) dX6_carries_48 rfl rfl ?_
          refine ok_iconst (v := (1 : Int32)) dX6_carries_49 (by decide) ?_
          refine ok_callV (M' := mX6_of) [vI x1, vI (1 : Int32)] dX6_carries_50 xw_591 fV_X6_of fS_X6_of rfl (by decide) v6 (ob_6 _ _ _) rfl (Nat.le_of_ble_eq_true rfl) (CI.to (CI.mono h ?_))
          intro r7 μ7 h
          refine ok_iconst (v := (1 : Int32)) dX6_carries_53 (by decide) ?_
          refine ok_icmp_eq (tgt := 65) dX6_carries_54 (by decide) ⟨fun z => ?_, fun z => ?_⟩
          · have h := h.1 z
            refine ok_aload_n (j := 0) dX6_carries_65 rfl rfl ?_
            refine ok_callV (M' := mX6_notes) [] dX6_carries_66 xw_595 fV_X6_notes fS_X6_notes rfl (by decide) v6 (ob_6 _ _ _) rfl (Nat.le_of_ble_eq_true rfl) (CV.to (CV.mono h ?_))
            intro μ8 h
            refine ok_aload_n (j := 0) dX6_carries_69 rfl rfl ?_
            refine gf_6_0 dX6_carries_70 v6 xw_530 ?_
            refine ok_bipush (v := (69 : Int32)) dX6_carries_73 (by decide) ?_
            refine ok_bipush (v := (6 : Int32)) dX6_carries_75 (by decide) ?_
            refine ok_iload_n (j := 3) dX6_carries_77 rfl rfl ?_
            refine ok_imul dX6_carries_78 ?_
            refine ok_iadd dX6_carries_79 ?_
            refine ok_iload (j := 4) dX6_carries_80 rfl ?_
            refine ok_iadd dX6_carries_82 ?_
            obtain ⟨hb9, h⟩ := h
            refine al_30 dX6_carries_83 v30 hb9 ?_
            refine ok_istore (ls2 := [(5, vI (μ8.2.1 30 0 0 (Int32.toNatClampNeg (((69 : Int32) + ((6 : Int32) * x3)) + x4)))), (0, vR 6 0 0), (1, vI x1), (2, vI x2), (3, vI x3), (4, vI x4)]) dX6_carries_84 (by decide) rfl ?_
            refine ok_aload_n (j := 1) dX6_carries_86 rfl rfl ?_
            refine ok_iload_n (j := 2) dX6_carries_87 rfl rfl ?_
            refine ok_bipush (v := (10 : Int32)) dX6_carries_88 (by decide) ?_
            refine ok_iconst (v := (3 : Int32)) dX6_carries_90 (by decide) ?_
            refine ok_iload_n (j := 4) dX6_carries_91 rfl rfl ?_
            refine ok_imul dX6_carries_92 ?_
            refine ok_iadd dX6_carries_93 ?_
            refine ok_iload (j := 5) dX6_carries_94 rfl ?_
            refine ok_iadd dX6_carries_96 ?_
            refine ok_iload (j := 0) dX6_carries_97 rfl ?_
            refine ok_callV (M' := mX6_lays) [vI x1, vI (((10 : Int32) + ((3 : Int32) * x3)) + x4), vI (μ8.2.1 30 0 0 (Int32.toNatClampNeg (((69 : Int32) + ((6 : Int32) * x3)) + x4)))] dX6_carries_99 xw_526 fV_X6_lays fS_X6_lays rfl (by decide) v6 (ob_6 _ _ _) rfl (Nat.le_of_ble_eq_true rfl) (CV.to (CV.mono h ?_))
            intro μ10 h
            refine ok_iload (j := 0) dX6_carries_102 rfl ?_
            exact ok_iret rfl dX6_carries_104 ⟨_, rfl, h⟩
          · have h := h.2 z
            refine ok_aload_n (j := 0) dX6_carries_57 rfl rfl ?_
            refine ok_iconst (v := (2 : Int32)) dX6_carries_58 (by decide) ?_
            refine ok_bipush (v := (-3 : Int32)) dX6_carries_59 (by decide) ?_
            refine ok_callV (M' := mX6_refuse) [vI (2 : Int32), vI (-3 : Int32)] dX6_carries_61 xw_587 fV_X6_refuse fS_X6_refuse rfl (by decide) v6 (ob_6 _ _ _) rfl (Nat.le_of_ble_eq_true rfl) (CI.to (CI.mono h ?_))
            intro r11 μ11 h
            exact ok_iret rfl dX6_carries_64 ⟨_, rfl, h⟩
        · have h := h.2 z
          refine ok_aload_n (j := 0) dX6_carries_39 rfl rfl ?_
          refine ok_iconst (v := (1 : Int32)) dX6_carries_40 (by decide) ?_
          refine ok_bipush (v := (-6 : Int32)) dX6_carries_41 (by decide) ?_
          refine ok_callV (M' := mX6_refuse) [vI (1 : Int32), vI (-6 : Int32)] dX6_carries_43 xw_587 fV_X6_refuse fS_X6_refuse rfl (by decide) v6 (ob_6 _ _ _) rfl (Nat.le_of_ble_eq_true rfl) (CI.to (CI.mono h ?_))
          intro r12 μ12 h
          exact ok_iret rfl dX6_carries_46 ⟨_, rfl, h⟩
      · have h := h.2 z
        refine ok_aload_n (j := 0) dX6_carries_24 rfl rfl ?_
        refine ok_callV (M' := mX6_bad) [] dX6_carries_25 xw_583 fV_X6_bad fS_X6_bad rfl (by decide) v6 (ob_6 _ _ _) rfl (Nat.le_of_ble_eq_true rfl) (CI.to (CI.mono h ?_))
        intro r13 μ13 h
        exact ok_iret rfl dX6_carries_28 ⟨_, rfl, h⟩
set_option maxRecDepth 100000 in
set_option maxHeartbeats 4000000 in
theorem eX6_isReader {a b : xA} {h0 : Int64} {Q : Int32 → xM → Prop} {x0 : Int32}  (h : (CI mX6_in [vI x0, vI (0 : Int32), vI (1 : Int32)] (a, (b, h0)) (fun r1 μ1 => ((r1 = 0 ∨ r1 = 1) ∧ Q r1 μ1)))) : CI mX6_isReader [vI x0] (a, (b, h0)) Q := by
  refine xCalls_of (by decide) (Nat.le_of_ble_eq_true rfl) ?_
  show xOk mX6_isReader 0 [(0, vI x0)] [] (a, (b, h0)) (qI Q)
  refine ok_iload_n (j := 0) dX6_isReader_0 rfl rfl ?_
  refine ok_iconst (v := (0 : Int32)) dX6_isReader_1 (by decide) ?_
  refine ok_iconst (v := (1 : Int32)) dX6_isReader_2 (by decide) ?_
  refine ok_callS (M' := mX6_in) [vI x0, vI (0 : Int32), vI (1 : Int32)] dX6_isReader_3 xw_580 fV_X6_in fS_X6_in (by decide) rfl (Nat.le_of_ble_eq_true rfl) (CI.to (CI.mono h ?_))
  intro r1 μ1 h
  obtain ⟨hz, h⟩ := h
  exact ok_zret rfl hz dX6_isReader_6 ⟨_, rfl, h⟩
set_option maxRecDepth 100000 in
set_option maxHeartbeats 4000000 in
theorem eX6_ticks {a b : xA} {h0 : Int64} {Q : Int32 → xM → Prop} {x1 : Int32}  (h : (CI mX6_in [vI x1, vI (1 : Int32), vI (20 : Int32)] (a, (b, h0)) (fun r1 μ1 => ((¬ r1 = 0 → (CV mX6_notes [vR 6 0 0] μ1 (fun μ2 => xOk mX6_ticks 23 [(0, vR 6 0 0), (1, vI x1), (2, vI (0 : Int32)), (3, vI (0 : Int32))] [] μ2 (qI Q)))) ∧ (r1 = 0 → (CI mX6_bad [vR 6 0 0] μ1 (fun r3 μ3 => Q r3 μ3))))))) : CI mX6_ticks [vR 6 0 0, vI x1] (a, (b, h0)) Q := by
  refine xCalls_of (by decide) (Nat.le_of_ble_eq_true rfl) ?_
  show xOk mX6_ticks 0 [(0, vR 6 0 0), (1, vI x1)] [] (a, (b, h0)) (qI Q)
  refine ok_iload_n (j := 1) dX6_ticks_0 rfl rfl ?_
  refine ok_iconst (v := (1 : Int32)) dX6_ticks_1 (by decide) ?_
  refine ok_bipush (v := (20 : Int32)) dX6_ticks_2 (by decide) ?_
  refine ok_callS (M' := mX6_in) [vI x1, vI (1 : Int32), vI (20 : Int32)] dX6_ticks_4 xw_580 fV_X6_in fS_X6_in (by decide) rfl (Nat.le_of_ble_eq_true rfl) (CI.to (CI.mono h ?_))
  intro r1 μ1 h
  refine ok_if_ne (tgt := 15) dX6_ticks_7 (by decide) ⟨fun z => ?_, fun z => ?_⟩
  · have h := h.1 z
    refine ok_aload_n (j := 0) dX6_ticks_15 rfl rfl ?_
    refine ok_callV (M' := mX6_notes) [] dX6_ticks_16 xw_595 fV_X6_notes fS_X6_notes rfl (by decide) v6 (ob_6 _ _ _) rfl (Nat.le_of_ble_eq_true rfl) (CV.to (CV.mono h ?_))
    intro μ2 h
    refine ok_iconst (v := (0 : Int32)) dX6_ticks_19 (by decide) ?_
    refine ok_istore_n (ls2 := [(2, vI (0 : Int32)), (0, vR 6 0 0), (1, vI x1)]) dX6_ticks_20 rfl (by decide) rfl ?_
    refine ok_iconst (v := (0 : Int32)) dX6_ticks_21 (by decide) ?_
    refine ok_istore_n (ls2 := [(3, vI (0 : Int32)), (2, vI (0 : Int32)), (0, vR 6 0 0), (1, vI x1)]) dX6_ticks_22 rfl (by decide) rfl ?_
    exact ok_sub [(0, vR 6 0 0), (1, vI x1), (2, vI (0 : Int32)), (3, vI (0 : Int32))] [2, 3, 1, 0] rfl h
  · have h := h.2 z
    refine ok_aload_n (j := 0) dX6_ticks_10 rfl rfl ?_
    refine ok_callV (M' := mX6_bad) [] dX6_ticks_11 xw_583 fV_X6_bad fS_X6_bad rfl (by decide) v6 (ob_6 _ _ _) rfl (Nat.le_of_ble_eq_true rfl) (CI.to (CI.mono h ?_))
    intro r3 μ3 h
    exact ok_iret rfl dX6_ticks_14 ⟨_, rfl, h⟩
set_option maxRecDepth 100000 in
set_option maxHeartbeats 4000000 in
theorem rX6_ticks_23 {a b : xA} {h0 : Int64} {Q : Int32 → xM → Prop} {x1 : Int32} {x2 : Int32} {x3 : Int32}  (h : ((x1 ≤ x3 → Q x2 (a, (b, h0))) ∧ (¬ x1 ≤ x3 → (CI mX6_tick [vR 6 0 0] (a, (b, h0)) (fun r1 μ1 => xOk mX6_ticks 23 [(0, vR 6 0 0), (1, vI x1), (2, vI (x2 + r1)), (3, vI (x3 + 1))] [] μ1 (qI Q)))))) : xOk mX6_ticks 23 [(0, vR 6 0 0), (1, vI x1), (2, vI x2), (3, vI x3)] [] (a, (b, h0)) (qI Q) := by
  refine ok_iload_n (j := 3) dX6_ticks_23 rfl rfl ?_
  refine ok_iload_n (j := 1) dX6_ticks_24 rfl rfl ?_
  refine ok_icmp_ge (tgt := 41) dX6_ticks_25 (by decide) ⟨fun z => ?_, fun z => ?_⟩
  · have h := h.1 z
    refine ok_iload_n (j := 2) dX6_ticks_41 rfl rfl ?_
    exact ok_iret rfl dX6_ticks_42 ⟨_, rfl, h⟩
  · have h := h.2 z
    refine ok_iload_n (j := 2) dX6_ticks_28 rfl rfl ?_
    refine ok_aload_n (j := 0) dX6_ticks_29 rfl rfl ?_
    refine ok_callV (M' := mX6_tick) [] dX6_ticks_30 xw_691 fV_X6_tick fS_X6_tick rfl (by decide) v6 (ob_6 _ _ _) rfl (Nat.le_of_ble_eq_true rfl) (CI.to (CI.mono h ?_))
    intro r1 μ1 h
    refine ok_iadd dX6_ticks_33 ?_
    refine ok_istore_n (ls2 := [(2, vI (x2 + r1)), (0, vR 6 0 0), (1, vI x1), (3, vI x3)]) dX6_ticks_34 rfl (by decide) rfl ?_
    refine ok_iinc (j := 3) (v := (x3 + 1)) (ls2 := [(3, vI (x3 + 1)), (2, vI (x2 + r1)), (0, vR 6 0 0), (1, vI x1)]) dX6_ticks_35 rfl rfl (by decide) rfl ?_
    refine ok_goto (tgt := 23) dX6_ticks_38 (by decide) ?_
    exact ok_sub [(0, vR 6 0 0), (1, vI x1), (2, vI (x2 + r1)), (3, vI (x3 + 1))] [2, 3, 1, 0] rfl h
set_option maxRecDepth 100000 in
set_option maxHeartbeats 4000000 in
theorem eX6_tick {a b : xA} {h0 : Int64} {Q : Int32 → xM → Prop}   (h : (vp_in (0 : Int32) 945 ∧ (vp_in (0 : Int32) 945 ∧ xOk mX6_tick 14 [(0, vR 6 0 0), (1, vI (0 : Int32)), (2, vI (0 : Int32))] [] (a, ((xUp b 30 0 0 (Int32.toNatClampNeg (0 : Int32)) ((b 30 0 0 (Int32.toNatClampNeg (0 : Int32))) + (1 : Int32))), h0)) (qI Q)))) : CI mX6_tick [vR 6 0 0] (a, (b, h0)) Q := by
  refine xCalls_of (by decide) (Nat.le_of_ble_eq_true rfl) ?_
  show xOk mX6_tick 0 [(0, vR 6 0 0)] [] (a, (b, h0)) (qI Q)
  refine ok_aload_n (j := 0) dX6_tick_0 rfl rfl ?_
  refine gf_6_0 dX6_tick_1 v6 xw_530 ?_
  refine ok_iconst (v := (0 : Int32)) dX6_tick_4 (by decide) ?_
  refine ok_dup2 dX6_tick_5 rfl rfl ?_
  obtain ⟨hb1, h⟩ := h
  refine al_30 dX6_tick_6 v30 hb1 ?_
  refine ok_iconst (v := (1 : Int32)) dX6_tick_7 (by decide) ?_
  refine ok_iadd dX6_tick_8 ?_
  obtain ⟨hb2, h⟩ := h
  refine as_30 dX6_tick_9 v30 hb2 ?_
  refine ok_iconst (v := (0 : Int32)) dX6_tick_10 (by decide) ?_
  refine ok_istore_n (ls2 := [(1, vI (0 : Int32)), (0, vR 6 0 0)]) dX6_tick_11 rfl (by decide) rfl ?_
  refine ok_iconst (v := (0 : Int32)) dX6_tick_12 (by decide) ?_
  refine ok_istore_n (ls2 := [(2, vI (0 : Int32)), (1, vI (0 : Int32)), (0, vR 6 0 0)]) dX6_tick_13 rfl (by decide) rfl ?_
  exact ok_sub [(0, vR 6 0 0), (1, vI (0 : Int32)), (2, vI (0 : Int32))] [2, 1, 0] rfl h
set_option maxRecDepth 100000 in
set_option maxHeartbeats 4000000 in
theorem rX6_tick_14 {a b : xA} {h0 : Int64} {Q : Int32 → xM → Prop} {x1 : Int32} {x2 : Int32}  (h : (((4 : Int32) ≤ x2 → xOk mX6_tick 58 [(0, vR 6 0 0), (1, vI x1), (2, vI (0 : Int32))] [] (a, (b, h0)) (qI Q)) ∧ (¬ (4 : Int32) ≤ x2 → xOk mX6_tick 21 [(0, vR 6 0 0), (1, vI x1), (2, vI x2), (3, vI (0 : Int32))] [] (a, (b, h0)) (qI Q)))) : xOk mX6_tick 14 [(0, vR 6 0 0), (1, vI x1), (2, vI x2)] [] (a, (b, h0)) (qI Q) := by
  refine ok_iload_n (j := 2) dX6_tick_14 rfl rfl ?_
  refine ok_iconst (v := (4 : Int32)) dX6_tick_15 (by decide) ?_
  refine ok_icmp_ge (tgt := 56) dX6_tick_16 (by decide) ⟨fun z => ?_, fun z => ?_⟩
  · have h := h.1 z
    refine ok_iconst (v := (0 : Int32)) dX6_tick_56 (by decide) ?_
    refine ok_istore_n (ls2 := [(2, vI (0 : Int32)), (0, vR 6 0 0), (1, vI x1)]) dX6_tick_57 rfl (by decide) rfl ?_
    exact ok_sub [(0, vR 6 0 0), (1, vI x1), (2, vI (0 : Int32))] [1, 2, 0] rfl h
  · have h := h.2 z
    refine ok_iconst (v := (0 : Int32)) dX6_tick_19 (by decide) ?_
    refine ok_istore_n (ls2 := [(3, vI (0 : Int32)), (0, vR 6 0 0), (1, vI x1), (2, vI x2)]) dX6_tick_20 rfl (by decide) rfl ?_
    exact ok_sub [(0, vR 6 0 0), (1, vI x1), (2, vI x2), (3, vI (0 : Int32))] [1, 2, 3, 0] rfl h
set_option maxRecDepth 100000 in
set_option maxHeartbeats 4000000 in
theorem rX6_tick_21 {a b : xA} {h0 : Int64} {Q : Int32 → xM → Prop} {x1 : Int32} {x2 : Int32} {x3 : Int32}  (h : (((3 : Int32) ≤ x3 → xOk mX6_tick 14 [(0, vR 6 0 0), (1, vI x1), (2, vI (x2 + 1))] [] (a, (b, h0)) (qI Q)) ∧ (¬ (3 : Int32) ≤ x3 → (CI mX6_isDue [vR 6 0 0, vI x2, vI x3] (a, (b, h0)) (fun r1 μ1 => ((r1 = 0 → xOk mX6_tick 21 [(0, vR 6 0 0), (1, vI x1), (2, vI x2), (3, vI (x3 + 1))] [] μ1 (qI Q)) ∧ (¬ r1 = 0 → (CV mX6_writeMark [vR 6 0 0, vI x2, vI x3] μ1 (fun μ2 => xOk mX6_tick 21 [(0, vR 6 0 0), (1, vI (x1 + 1)), (2, vI x2), (3, vI (x3 + 1))] [] μ2 (qI Q)))))))))) : xOk mX6_tick 21 [(0, vR 6 0 0), (1, vI x1), (2, vI x2), (3, vI x3)] [] (a, (b, h0)) (qI Q) := by
  refine ok_iload_n (j := 3) dX6_tick_21 rfl rfl ?_
  refine ok_iconst (v := (3 : Int32)) dX6_tick_22 (by decide) ?_
  refine ok_icmp_ge (tgt := 50) dX6_tick_23 (by decide) ⟨fun z => ?_, fun z => ?_⟩
  · have h := h.1 z
    refine ok_iinc (j := 2) (v := (x2 + 1)) (ls2 := [(2, vI (x2 + 1)), (0, vR 6 0 0), (1, vI x1), (3, vI x3)]) dX6_tick_50 rfl rfl (by decide) rfl ?_
    refine ok_goto (tgt := 14) dX6_tick_53 (by decide) ?_
    exact ok_sub [(0, vR 6 0 0), (1, vI x1), (2, vI (x2 + 1))] [1, 2, 0] rfl h
  · have h := h.2 z
    refine ok_aload_n (j := 0) dX6_tick_26 rfl rfl ?_
    refine ok_iload_n (j := 2) dX6_tick_27 rfl rfl ?_
    refine ok_iload_n (j := 3) dX6_tick_28 rfl rfl ?_
    refine ok_callV (M' := mX6_isDue) [vI x2, vI x3] dX6_tick_29 xw_695 fV_X6_isDue fS_X6_isDue rfl (by decide) v6 (ob_6 _ _ _) rfl (Nat.le_of_ble_eq_true rfl) (CI.to (CI.mono h ?_))
    intro r1 μ1 h
    refine ok_if_eq (tgt := 44) dX6_tick_32 (by decide) ⟨fun z => ?_, fun z => ?_⟩
    · have h := h.1 z
      refine ok_iinc (j := 3) (v := (x3 + 1)) (ls2 := [(3, vI (x3 + 1)), (0, vR 6 0 0), (1, vI x1), (2, vI x2)]) dX6_tick_44 rfl rfl (by decide) rfl ?_
      refine ok_goto (tgt := 21) dX6_tick_47 (by decide) ?_
      exact ok_sub [(0, vR 6 0 0), (1, vI x1), (2, vI x2), (3, vI (x3 + 1))] [1, 2, 3, 0] rfl h
    · have h := h.2 z
      refine ok_aload_n (j := 0) dX6_tick_35 rfl rfl ?_
      refine ok_iload_n (j := 2) dX6_tick_36 rfl rfl ?_
      refine ok_iload_n (j := 3) dX6_tick_37 rfl rfl ?_
      refine ok_callV (M' := mX6_writeMark) [vI x2, vI x3] dX6_tick_38 xw_703 fV_X6_writeMark fS_X6_writeMark rfl (by decide) v6 (ob_6 _ _ _) rfl (Nat.le_of_ble_eq_true rfl) (CV.to (CV.mono h ?_))
      intro μ2 h
      refine ok_iinc (j := 1) (v := (x1 + 1)) (ls2 := [(1, vI (x1 + 1)), (0, vR 6 0 0), (2, vI x2), (3, vI x3)]) dX6_tick_41 rfl rfl (by decide) rfl ?_
      refine ok_iinc (j := 3) (v := (x3 + 1)) (ls2 := [(3, vI (x3 + 1)), (1, vI (x1 + 1)), (0, vR 6 0 0), (2, vI x2)]) dX6_tick_44 rfl rfl (by decide) rfl ?_
      refine ok_goto (tgt := 21) dX6_tick_47 (by decide) ?_
      exact ok_sub [(0, vR 6 0 0), (1, vI (x1 + 1)), (2, vI x2), (3, vI (x3 + 1))] [2, 1, 3, 0] rfl h
set_option maxRecDepth 100000 in
set_option maxHeartbeats 4000000 in
theorem rX6_tick_58 {a b : xA} {h0 : Int64} {Q : Int32 → xM → Prop} {x1 : Int32} {x2 : Int32}  (h : (((4 : Int32) ≤ x2 → Q x1 (a, (b, h0))) ∧ (¬ (4 : Int32) ≤ x2 → (CI mX6_of [vR 6 0 0, vI x2, vI (1 : Int32)] (a, (b, h0)) (fun r1 μ1 => ((¬ r1 = (1 : Int32) → xOk mX6_tick 58 [(0, vR 6 0 0), (1, vI x1), (2, vI (x2 + 1))] [] μ1 (qI Q)) ∧ (r1 = (1 : Int32) → (vp_in (0 : Int32) 945 ∧ (CI mX6_of [vR 6 0 0, vI x2, vI (5 : Int32)] μ1 (fun r3 μ3 => (vp_in (1 : Int32) 945 ∧ ((((μ1.2.1 30 0 0 (Int32.toNatClampNeg (0 : Int32))) - r3) < (μ3.2.1 30 0 0 (Int32.toNatClampNeg (1 : Int32))) → xOk mX6_tick 58 [(0, vR 6 0 0), (1, vI x1), (2, vI (x2 + 1))] [] μ3 (qI Q)) ∧ (¬ ((μ1.2.1 30 0 0 (Int32.toNatClampNeg (0 : Int32))) - r3) < (μ3.2.1 30 0 0 (Int32.toNatClampNeg (1 : Int32))) → (CI mX6_of [vR 6 0 0, vI x2, vI (0 : Int32)] μ3 (fun r5 μ5 => (CV mX6_lays [vR 6 0 0, vI x2, vI (0 : Int32), vI (r5 + (1 : Int32))] μ5 (fun μ6 => (CV mX6_endDeed [vR 6 0 0, vI x2, vI (0 : Int32)] μ6 (fun μ7 => xOk mX6_tick 58 [(0, vR 6 0 0), (1, vI x1), (2, vI (x2 + 1))] [] μ7 (qI Q)))))))))))))))))))) : xOk mX6_tick 58 [(0, vR 6 0 0), (1, vI x1), (2, vI x2)] [] (a, (b, h0)) (qI Q) := by
  refine ok_iload_n (j := 2) dX6_tick_58 rfl rfl ?_
  refine ok_iconst (v := (4 : Int32)) dX6_tick_59 (by decide) ?_
  refine ok_icmp_ge (tgt := 121) dX6_tick_60 (by decide) ⟨fun z => ?_, fun z => ?_⟩
  · have h := h.1 z
    refine ok_iload_n (j := 1) dX6_tick_121 rfl rfl ?_
    exact ok_iret rfl dX6_tick_122 ⟨_, rfl, h⟩
  · have h := h.2 z
    refine ok_aload_n (j := 0) dX6_tick_63 rfl rfl ?_
    refine ok_iload_n (j := 2) dX6_tick_64 rfl rfl ?_
    refine ok_iconst (v := (1 : Int32)) dX6_tick_65 (by decide) ?_
    refine ok_callV (M' := mX6_of) [vI x2, vI (1 : Int32)] dX6_tick_66 xw_591 fV_X6_of fS_X6_of rfl (by decide) v6 (ob_6 _ _ _) rfl (Nat.le_of_ble_eq_true rfl) (CI.to (CI.mono h ?_))
    intro r1 μ1 h
    refine ok_iconst (v := (1 : Int32)) dX6_tick_69 (by decide) ?_
    refine ok_icmp_ne (tgt := 115) dX6_tick_70 (by decide) ⟨fun z => ?_, fun z => ?_⟩
    · have h := h.1 z
      refine ok_iinc (j := 2) (v := (x2 + 1)) (ls2 := [(2, vI (x2 + 1)), (0, vR 6 0 0), (1, vI x1)]) dX6_tick_115 rfl rfl (by decide) rfl ?_
      refine ok_goto (tgt := 58) dX6_tick_118 (by decide) ?_
      exact ok_sub [(0, vR 6 0 0), (1, vI x1), (2, vI (x2 + 1))] [1, 2, 0] rfl h
    · have h := h.2 z
      refine ok_aload_n (j := 0) dX6_tick_73 rfl rfl ?_
      refine gf_6_0 dX6_tick_74 v6 xw_530 ?_
      refine ok_iconst (v := (0 : Int32)) dX6_tick_77 (by decide) ?_
      obtain ⟨hb2, h⟩ := h
      refine al_30 dX6_tick_78 v30 hb2 ?_
      refine ok_aload_n (j := 0) dX6_tick_79 rfl rfl ?_
      refine ok_iload_n (j := 2) dX6_tick_80 rfl rfl ?_
      refine ok_iconst (v := (5 : Int32)) dX6_tick_81 (by decide) ?_
      refine ok_callV (M' := mX6_of) [vI x2, vI (5 : Int32)] dX6_tick_82 xw_591 fV_X6_of fS_X6_of rfl (by decide) v6 (ob_6 _ _ _) rfl (Nat.le_of_ble_eq_true rfl) (CI.to (CI.mono h ?_))
      intro r3 μ3 h
      refine ok_isub dX6_tick_85 ?_
      refine ok_aload_n (j := 0) dX6_tick_86 rfl rfl ?_
      refine gf_6_0 dX6_tick_87 v6 xw_530 ?_
      refine ok_iconst (v := (1 : Int32)) dX6_tick_90 (by decide) ?_
      obtain ⟨hb4, h⟩ := h
      refine al_30 dX6_tick_91 v30 hb4 ?_
      refine ok_icmp_lt (tgt := 115) dX6_tick_92 (by decide) ⟨fun z => ?_, fun z => ?_⟩
      · have h := h.1 z
        refine ok_iinc (j := 2) (v := (x2 + 1)) (ls2 := [(2, vI (x2 + 1)), (0, vR 6 0 0), (1, vI x1)]) dX6_tick_115 rfl rfl (by decide) rfl ?_
        refine ok_goto (tgt := 58) dX6_tick_118 (by decide) ?_
        exact ok_sub [(0, vR 6 0 0), (1, vI x1), (2, vI (x2 + 1))] [1, 2, 0] rfl h
      · have h := h.2 z
        refine ok_aload_n (j := 0) dX6_tick_95 rfl rfl ?_
        refine ok_iload_n (j := 2) dX6_tick_96 rfl rfl ?_
        refine ok_iconst (v := (0 : Int32)) dX6_tick_97 (by decide) ?_
        refine ok_aload_n (j := 0) dX6_tick_98 rfl rfl ?_
        refine ok_iload_n (j := 2) dX6_tick_99 rfl rfl ?_
        refine ok_iconst (v := (0 : Int32)) dX6_tick_100 (by decide) ?_
        refine ok_callV (M' := mX6_of) [vI x2, vI (0 : Int32)] dX6_tick_101 xw_591 fV_X6_of fS_X6_of rfl (by decide) v6 (ob_6 _ _ _) rfl (Nat.le_of_ble_eq_true rfl) (CI.to (CI.mono h ?_))
        intro r5 μ5 h
        refine ok_iconst (v := (1 : Int32)) dX6_tick_104 (by decide) ?_
        refine ok_iadd dX6_tick_105 ?_
        refine ok_callV (M' := mX6_lays) [vI x2, vI (0 : Int32), vI (r5 + (1 : Int32))] dX6_tick_106 xw_526 fV_X6_lays fS_X6_lays rfl (by decide) v6 (ob_6 _ _ _) rfl (Nat.le_of_ble_eq_true rfl) (CV.to (CV.mono h ?_))
        intro μ6 h
        refine ok_aload_n (j := 0) dX6_tick_109 rfl rfl ?_
        refine ok_iload_n (j := 2) dX6_tick_110 rfl rfl ?_
        refine ok_iconst (v := (0 : Int32)) dX6_tick_111 (by decide) ?_
        refine ok_callV (M' := mX6_endDeed) [vI x2, vI (0 : Int32)] dX6_tick_112 xw_607 fV_X6_endDeed fS_X6_endDeed rfl (by decide) v6 (ob_6 _ _ _) rfl (Nat.le_of_ble_eq_true rfl) (CV.to (CV.mono h ?_))
        intro μ7 h
        refine ok_iinc (j := 2) (v := (x2 + 1)) (ls2 := [(2, vI (x2 + 1)), (0, vR 6 0 0), (1, vI x1)]) dX6_tick_115 rfl rfl (by decide) rfl ?_
        refine ok_goto (tgt := 58) dX6_tick_118 (by decide) ?_
        exact ok_sub [(0, vR 6 0 0), (1, vI x1), (2, vI (x2 + 1))] [1, 2, 0] rfl h
set_option maxRecDepth 100000 in
set_option maxHeartbeats 4000000 in
theorem eX6_isDue {a b : xA} {h0 : Int64} {Q : Int32 → xM → Prop} {x1 : Int32} {x2 : Int32}  (h : (CI mX6_of [vR 6 0 0, vI x1, vI (1 : Int32)] (a, (b, h0)) (fun r1 μ1 => ((¬ r1 = (2 : Int32) → Q (0 : Int32) μ1) ∧ (r1 = (2 : Int32) → (CI mX6_lacksMark [vR 6 0 0, vI x1, vI x2] μ1 (fun r2 μ2 => ((r2 = 0 → Q (0 : Int32) μ2) ∧ (¬ r2 = 0 → (CI mX6_of [vR 6 0 0, vI x1, vI (6 : Int32)] μ2 (fun r3 μ3 => (CI mX6_rank [vR 6 0 0, vI x1, vI x2] μ3 (fun r4 μ4 => (vp_in (0 : Int32) 945 ∧ ((¬ (r3 + r4) = (μ4.2.1 30 0 0 (Int32.toNatClampNeg (0 : Int32))) → Q (0 : Int32) μ4) ∧ ((r3 + r4) = (μ4.2.1 30 0 0 (Int32.toNatClampNeg (0 : Int32))) → Q (1 : Int32) μ4)))))))))))))))) : CI mX6_isDue [vR 6 0 0, vI x1, vI x2] (a, (b, h0)) Q := by
  refine xCalls_of (by decide) (Nat.le_of_ble_eq_true rfl) ?_
  show xOk mX6_isDue 0 [(0, vR 6 0 0), (1, vI x1), (2, vI x2)] [] (a, (b, h0)) (qI Q)
  refine ok_aload_n (j := 0) dX6_isDue_0 rfl rfl ?_
  refine ok_iload_n (j := 1) dX6_isDue_1 rfl rfl ?_
  refine ok_iconst (v := (1 : Int32)) dX6_isDue_2 (by decide) ?_
  refine ok_callV (M' := mX6_of) [vI x1, vI (1 : Int32)] dX6_isDue_3 xw_591 fV_X6_of fS_X6_of rfl (by decide) v6 (ob_6 _ _ _) rfl (Nat.le_of_ble_eq_true rfl) (CI.to (CI.mono h ?_))
  intro r1 μ1 h
  refine ok_iconst (v := (2 : Int32)) dX6_isDue_6 (by decide) ?_
  refine ok_icmp_ne (tgt := 46) dX6_isDue_7 (by decide) ⟨fun z => ?_, fun z => ?_⟩
  · have h := h.1 z
    refine ok_iconst (v := (0 : Int32)) dX6_isDue_46 (by decide) ?_
    exact ok_zret rfl (by decide) dX6_isDue_47 ⟨_, rfl, h⟩
  · have h := h.2 z
    refine ok_aload_n (j := 0) dX6_isDue_10 rfl rfl ?_
    refine ok_iload_n (j := 1) dX6_isDue_11 rfl rfl ?_
    refine ok_iload_n (j := 2) dX6_isDue_12 rfl rfl ?_
    refine ok_callV (M' := mX6_lacksMark) [vI x1, vI x2] dX6_isDue_13 xw_658 fV_X6_lacksMark fS_X6_lacksMark rfl (by decide) v6 (ob_6 _ _ _) rfl (Nat.le_of_ble_eq_true rfl) (CI.to (CI.mono h ?_))
    intro r2 μ2 h
    refine ok_if_eq (tgt := 46) dX6_isDue_16 (by decide) ⟨fun z => ?_, fun z => ?_⟩
    · have h := h.1 z
      refine ok_iconst (v := (0 : Int32)) dX6_isDue_46 (by decide) ?_
      exact ok_zret rfl (by decide) dX6_isDue_47 ⟨_, rfl, h⟩
    · have h := h.2 z
      refine ok_aload_n (j := 0) dX6_isDue_19 rfl rfl ?_
      refine ok_iload_n (j := 1) dX6_isDue_20 rfl rfl ?_
      refine ok_bipush (v := (6 : Int32)) dX6_isDue_21 (by decide) ?_
      refine ok_callV (M' := mX6_of) [vI x1, vI (6 : Int32)] dX6_isDue_23 xw_591 fV_X6_of fS_X6_of rfl (by decide) v6 (ob_6 _ _ _) rfl (Nat.le_of_ble_eq_true rfl) (CI.to (CI.mono h ?_))
      intro r3 μ3 h
      refine ok_aload_n (j := 0) dX6_isDue_26 rfl rfl ?_
      refine ok_iload_n (j := 1) dX6_isDue_27 rfl rfl ?_
      refine ok_iload_n (j := 2) dX6_isDue_28 rfl rfl ?_
      refine ok_callV (M' := mX6_rank) [vI x1, vI x2] dX6_isDue_29 xw_699 fV_X6_rank fS_X6_rank rfl (by decide) v6 (ob_6 _ _ _) rfl (Nat.le_of_ble_eq_true rfl) (CI.to (CI.mono h ?_))
      intro r4 μ4 h
      refine ok_iadd dX6_isDue_32 ?_
      refine ok_aload_n (j := 0) dX6_isDue_33 rfl rfl ?_
      refine gf_6_0 dX6_isDue_34 v6 xw_530 ?_
      refine ok_iconst (v := (0 : Int32)) dX6_isDue_37 (by decide) ?_
      obtain ⟨hb5, h⟩ := h
      refine al_30 dX6_isDue_38 v30 hb5 ?_
      refine ok_icmp_ne (tgt := 46) dX6_isDue_39 (by decide) ⟨fun z => ?_, fun z => ?_⟩
      · have h := h.1 z
        refine ok_iconst (v := (0 : Int32)) dX6_isDue_46 (by decide) ?_
        exact ok_zret rfl (by decide) dX6_isDue_47 ⟨_, rfl, h⟩
      · have h := h.2 z
        refine ok_iconst (v := (1 : Int32)) dX6_isDue_42 (by decide) ?_
        refine ok_goto (tgt := 47) dX6_isDue_43 (by decide) ?_
        exact ok_zret rfl (by decide) dX6_isDue_47 ⟨_, rfl, h⟩
set_option maxRecDepth 100000 in
set_option maxHeartbeats 4000000 in
theorem eX6_rank {a b : xA} {h0 : Int64} {Q : Int32 → xM → Prop} {x1 : Int32} {x2 : Int32}  (h : xOk mX6_rank 5 [(0, vR 6 0 0), (1, vI x1), (2, vI x2), (3, vI (0 : Int32)), (4, vI (0 : Int32))] [] (a, (b, h0)) (qI Q)) : CI mX6_rank [vR 6 0 0, vI x1, vI x2] (a, (b, h0)) Q := by
  refine xCalls_of (by decide) (Nat.le_of_ble_eq_true rfl) ?_
  show xOk mX6_rank 0 [(0, vR 6 0 0), (1, vI x1), (2, vI x2)] [] (a, (b, h0)) (qI Q)
  refine ok_iconst (v := (0 : Int32)) dX6_rank_0 (by decide) ?_
  refine ok_istore_n (ls2 := [(3, vI (0 : Int32)), (0, vR 6 0 0), (1, vI x1), (2, vI x2)]) dX6_rank_1 rfl (by decide) rfl ?_
  refine ok_iconst (v := (0 : Int32)) dX6_rank_2 (by decide) ?_
  refine ok_istore (ls2 := [(4, vI (0 : Int32)), (3, vI (0 : Int32)), (0, vR 6 0 0), (1, vI x1), (2, vI x2)]) dX6_rank_3 (by decide) rfl ?_
  exact ok_sub [(0, vR 6 0 0), (1, vI x1), (2, vI x2), (3, vI (0 : Int32)), (4, vI (0 : Int32))] [2, 3, 4, 1, 0] rfl h
set_option maxRecDepth 100000 in
set_option maxHeartbeats 4000000 in
theorem rX6_rank_5 {a b : xA} {h0 : Int64} {Q : Int32 → xM → Prop} {x1 : Int32} {x2 : Int32} {x3 : Int32} {x4 : Int32}  (h : ((x2 < x4 → Q x3 (a, (b, h0))) ∧ (¬ x2 < x4 → (CI mX6_of [vR 6 0 0, vI x1, vI (2 : Int32)] (a, (b, h0)) (fun r1 μ1 => xOk mX6_rank 5 [(0, vR 6 0 0), (1, vI x1), (2, vI x2), (3, vI (x3 + ((r1 >>> (x4 &&& 31)) &&& (1 : Int32)))), (4, vI (x4 + 1))] [] μ1 (qI Q)))))) : xOk mX6_rank 5 [(0, vR 6 0 0), (1, vI x1), (2, vI x2), (3, vI x3), (4, vI x4)] [] (a, (b, h0)) (qI Q) := by
  refine ok_iload (j := 4) dX6_rank_5 rfl ?_
  refine ok_iload_n (j := 2) dX6_rank_7 rfl rfl ?_
  refine ok_icmp_gt (tgt := 31) dX6_rank_8 (by decide) ⟨fun z => ?_, fun z => ?_⟩
  · have h := h.1 z
    refine ok_iload_n (j := 3) dX6_rank_31 rfl rfl ?_
    exact ok_iret rfl dX6_rank_32 ⟨_, rfl, h⟩
  · have h := h.2 z
    refine ok_iload_n (j := 3) dX6_rank_11 rfl rfl ?_
    refine ok_aload_n (j := 0) dX6_rank_12 rfl rfl ?_
    refine ok_iload_n (j := 1) dX6_rank_13 rfl rfl ?_
    refine ok_iconst (v := (2 : Int32)) dX6_rank_14 (by decide) ?_
    refine ok_callV (M' := mX6_of) [vI x1, vI (2 : Int32)] dX6_rank_15 xw_591 fV_X6_of fS_X6_of rfl (by decide) v6 (ob_6 _ _ _) rfl (Nat.le_of_ble_eq_true rfl) (CI.to (CI.mono h ?_))
    intro r1 μ1 h
    refine ok_iload (j := 4) dX6_rank_18 rfl ?_
    refine ok_ishr dX6_rank_20 ?_
    refine ok_iconst (v := (1 : Int32)) dX6_rank_21 (by decide) ?_
    refine ok_iand dX6_rank_22 ?_
    refine ok_iadd dX6_rank_23 ?_
    refine ok_istore_n (ls2 := [(3, vI (x3 + ((r1 >>> (x4 &&& 31)) &&& (1 : Int32)))), (0, vR 6 0 0), (1, vI x1), (2, vI x2), (4, vI x4)]) dX6_rank_24 rfl (by decide) rfl ?_
    refine ok_iinc (j := 4) (v := (x4 + 1)) (ls2 := [(4, vI (x4 + 1)), (3, vI (x3 + ((r1 >>> (x4 &&& 31)) &&& (1 : Int32)))), (0, vR 6 0 0), (1, vI x1), (2, vI x2)]) dX6_rank_25 rfl rfl (by decide) rfl ?_
    refine ok_goto (tgt := 5) dX6_rank_28 (by decide) ?_
    exact ok_sub [(0, vR 6 0 0), (1, vI x1), (2, vI x2), (3, vI (x3 + ((r1 >>> (x4 &&& 31)) &&& (1 : Int32)))), (4, vI (x4 + 1))] [2, 3, 4, 1, 0] rfl h
set_option maxRecDepth 100000 in
set_option maxHeartbeats 4000000 in
theorem eX6_writeMark {a b : xA} {h0 : Int64} {Q : xM → Prop} {x1 : Int32} {x2 : Int32}  (h : (CI mX6_sizeOf [vR 6 0 0, vI x2] (a, (b, h0)) (fun r1 μ1 => (CI mX6_of [vR 6 0 0, vI x1, vI (4 : Int32)] μ1 (fun r2 μ2 => (CV mX6_put [vR 6 0 0, vI x2, vI r1, vI (0 : Int32), vI (1 : Int32)] μ2 (fun μ3 => (CV mX6_put [vR 6 0 0, vI x2, vI r1, vI (1 : Int32), vI x1] μ3 (fun μ4 => (CI mX6_of [vR 6 0 0, vI x1, vI (0 : Int32)] μ4 (fun r5 μ5 => (CV mX6_put [vR 6 0 0, vI x2, vI r1, vI (2 : Int32), vI r5] μ5 (fun μ6 => (CV mX6_put [vR 6 0 0, vI x2, vI r1, vI (3 : Int32), vI (-1 : Int32)] μ6 (fun μ7 => (CV mX6_put [vR 6 0 0, vI x2, vI r1, vI (4 : Int32), vI r2] μ7 (fun μ8 => (CI mX6_of [vR 6 0 0, vI x1, vI ((7 : Int32) + x2)] μ8 (fun r9 μ9 => (CV mX6_put [vR 6 0 0, vI x2, vI r1, vI (5 : Int32), vI r9] μ9 (fun μ10 => xOk mX6_writeMark 79 [(0, vR 6 0 0), (1, vI x1), (2, vI x2), (3, vI r1), (4, vI r2), (5, vI (0 : Int32))] [] μ10 (qV Q)))))))))))))))))))))) : CV mX6_writeMark [vR 6 0 0, vI x1, vI x2] (a, (b, h0)) Q := by
  refine xCalls_of (by decide) (Nat.le_of_ble_eq_true rfl) ?_
  show xOk mX6_writeMark 0 [(0, vR 6 0 0), (1, vI x1), (2, vI x2)] [] (a, (b, h0)) (qV Q)
  refine ok_aload_n (j := 0) dX6_writeMark_0 rfl rfl ?_
  refine ok_iload_n (j := 2) dX6_writeMark_1 rfl rfl ?_
  refine ok_callV (M' := mX6_sizeOf) [vI x2] dX6_writeMark_2 xw_638 fV_X6_sizeOf fS_X6_sizeOf rfl (by decide) v6 (ob_6 _ _ _) rfl (Nat.le_of_ble_eq_true rfl) (CI.to (CI.mono h ?_))
  intro r1 μ1 h
  refine ok_istore_n (ls2 := [(3, vI r1), (0, vR 6 0 0), (1, vI x1), (2, vI x2)]) dX6_writeMark_5 rfl (by decide) rfl ?_
  refine ok_aload_n (j := 1) dX6_writeMark_6 rfl rfl ?_
  refine ok_iload_n (j := 2) dX6_writeMark_7 rfl rfl ?_
  refine ok_iconst (v := (4 : Int32)) dX6_writeMark_8 (by decide) ?_
  refine ok_callV (M' := mX6_of) [vI x1, vI (4 : Int32)] dX6_writeMark_9 xw_591 fV_X6_of fS_X6_of rfl (by decide) v6 (ob_6 _ _ _) rfl (Nat.le_of_ble_eq_true rfl) (CI.to (CI.mono h ?_))
  intro r2 μ2 h
  refine ok_istore (ls2 := [(4, vI r2), (3, vI r1), (0, vR 6 0 0), (1, vI x1), (2, vI x2)]) dX6_writeMark_12 (by decide) rfl ?_
  refine ok_aload_n (j := 2) dX6_writeMark_14 rfl rfl ?_
  refine ok_iload_n (j := 4) dX6_writeMark_15 rfl rfl ?_
  refine ok_iload_n (j := 1) dX6_writeMark_16 rfl rfl ?_
  refine ok_iconst (v := (0 : Int32)) dX6_writeMark_17 (by decide) ?_
  refine ok_iconst (v := (1 : Int32)) dX6_writeMark_18 (by decide) ?_
  refine ok_callV (M' := mX6_put) [vI x2, vI r1, vI (0 : Int32), vI (1 : Int32)] dX6_writeMark_19 xw_669 fV_X6_put fS_X6_put rfl (by decide) v6 (ob_6 _ _ _) rfl (Nat.le_of_ble_eq_true rfl) (CV.to (CV.mono h ?_))
  intro μ3 h
  refine ok_aload_n (j := 2) dX6_writeMark_22 rfl rfl ?_
  refine ok_iload_n (j := 4) dX6_writeMark_23 rfl rfl ?_
  refine ok_iload_n (j := 1) dX6_writeMark_24 rfl rfl ?_
  refine ok_iconst (v := (1 : Int32)) dX6_writeMark_25 (by decide) ?_
  refine ok_iload_n (j := 3) dX6_writeMark_26 rfl rfl ?_
  refine ok_callV (M' := mX6_put) [vI x2, vI r1, vI (1 : Int32), vI x1] dX6_writeMark_27 xw_669 fV_X6_put fS_X6_put rfl (by decide) v6 (ob_6 _ _ _) rfl (Nat.le_of_ble_eq_true rfl) (CV.to (CV.mono h ?_))
  intro μ4 h
  refine ok_aload_n (j := 2) dX6_writeMark_30 rfl rfl ?_
  refine ok_iload_n (j := 4) dX6_writeMark_31 rfl rfl ?_
  refine ok_iload_n (j := 1) dX6_writeMark_32 rfl rfl ?_
  refine ok_iconst (v := (2 : Int32)) dX6_writeMark_33 (by decide) ?_
  refine ok_aload_n (j := 2) dX6_writeMark_34 rfl rfl ?_
  refine ok_iload_n (j := 3) dX6_writeMark_35 rfl rfl ?_
  refine ok_iconst (v := (0 : Int32)) dX6_writeMark_36 (by decide) ?_
  refine ok_callV (M' := mX6_of) [vI x1, vI (0 : Int32)] dX6_writeMark_37 xw_591 fV_X6_of fS_X6_of rfl (by decide) v6 (ob_6 _ _ _) rfl (Nat.le_of_ble_eq_true rfl) (CI.to (CI.mono h ?_))
  intro r5 μ5 h
  refine ok_callV (M' := mX6_put) [vI x2, vI r1, vI (2 : Int32), vI r5] dX6_writeMark_40 xw_669 fV_X6_put fS_X6_put rfl (by decide) v6 (ob_6 _ _ _) rfl (Nat.le_of_ble_eq_true rfl) (CV.to (CV.mono h ?_))
  intro μ6 h
  refine ok_aload_n (j := 2) dX6_writeMark_43 rfl rfl ?_
  refine ok_iload_n (j := 4) dX6_writeMark_44 rfl rfl ?_
  refine ok_iload_n (j := 1) dX6_writeMark_45 rfl rfl ?_
  refine ok_iconst (v := (3 : Int32)) dX6_writeMark_46 (by decide) ?_
  refine ok_iconst (v := (-1 : Int32)) dX6_writeMark_47 (by decide) ?_
  refine ok_callV (M' := mX6_put) [vI x2, vI r1, vI (3 : Int32), vI (-1 : Int32)] dX6_writeMark_48 xw_669 fV_X6_put fS_X6_put rfl (by decide) v6 (ob_6 _ _ _) rfl (Nat.le_of_ble_eq_true rfl) (CV.to (CV.mono h ?_))
  intro μ7 h
  refine ok_aload_n (j := 2) dX6_writeMark_51 rfl rfl ?_
  refine ok_iload_n (j := 4) dX6_writeMark_52 rfl rfl ?_
  refine ok_iload_n (j := 1) dX6_writeMark_53 rfl rfl ?_
  refine ok_iconst (v := (4 : Int32)) dX6_writeMark_54 (by decide) ?_
  refine ok_iload (j := 0) dX6_writeMark_55 rfl ?_
  refine ok_callV (M' := mX6_put) [vI x2, vI r1, vI (4 : Int32), vI r2] dX6_writeMark_57 xw_669 fV_X6_put fS_X6_put rfl (by decide) v6 (ob_6 _ _ _) rfl (Nat.le_of_ble_eq_true rfl) (CV.to (CV.mono h ?_))
  intro μ8 h
  refine ok_aload_n (j := 2) dX6_writeMark_60 rfl rfl ?_
  refine ok_iload_n (j := 4) dX6_writeMark_61 rfl rfl ?_
  refine ok_iload_n (j := 1) dX6_writeMark_62 rfl rfl ?_
  refine ok_iconst (v := (5 : Int32)) dX6_writeMark_63 (by decide) ?_
  refine ok_aload_n (j := 2) dX6_writeMark_64 rfl rfl ?_
  refine ok_iload_n (j := 3) dX6_writeMark_65 rfl rfl ?_
  refine ok_bipush (v := (7 : Int32)) dX6_writeMark_66 (by decide) ?_
  refine ok_iload_n (j := 4) dX6_writeMark_68 rfl rfl ?_
  refine ok_iadd dX6_writeMark_69 ?_
  refine ok_callV (M' := mX6_of) [vI x1, vI ((7 : Int32) + x2)] dX6_writeMark_70 xw_591 fV_X6_of fS_X6_of rfl (by decide) v6 (ob_6 _ _ _) rfl (Nat.le_of_ble_eq_true rfl) (CI.to (CI.mono h ?_))
  intro r9 μ9 h
  refine ok_callV (M' := mX6_put) [vI x2, vI r1, vI (5 : Int32), vI r9] dX6_writeMark_73 xw_669 fV_X6_put fS_X6_put rfl (by decide) v6 (ob_6 _ _ _) rfl (Nat.le_of_ble_eq_true rfl) (CV.to (CV.mono h ?_))
  intro μ10 h
  refine ok_iconst (v := (0 : Int32)) dX6_writeMark_76 (by decide) ?_
  refine ok_istore (ls2 := [(5, vI (0 : Int32)), (4, vI r2), (3, vI r1), (0, vR 6 0 0), (1, vI x1), (2, vI x2)]) dX6_writeMark_77 (by decide) rfl ?_
  exact ok_sub [(0, vR 6 0 0), (1, vI x1), (2, vI x2), (3, vI r1), (4, vI r2), (5, vI (0 : Int32))] [3, 4, 5, 2, 1, 0] rfl h
set_option maxRecDepth 100000 in
set_option maxHeartbeats 4000000 in
theorem rX6_writeMark_79 {a b : xA} {h0 : Int64} {Q : xM → Prop} {x1 : Int32} {x2 : Int32} {x3 : Int32} {x4 : Int32} {x5 : Int32}  (h : ((x3 ≤ x5 → (vp_in ((66 : Int32) + x2) 945 ∧ (vp_in ((66 : Int32) + x2) 945 ∧ (CI mX6_of [vR 6 0 0, vI x1, vI (3 : Int32)] (a, ((xUp b 30 0 0 (Int32.toNatClampNeg ((66 : Int32) + x2)) ((b 30 0 0 (Int32.toNatClampNeg ((66 : Int32) + x2))) + (1 : Int32))), h0)) (fun r3 μ3 => (CV mX6_lays [vR 6 0 0, vI x1, vI (3 : Int32), vI (r3 ||| ((1 : Int32) <<< (x2 &&& 31)))] μ3 (fun μ4 => (CI mX6_of [vR 6 0 0, vI x1, vI (3 : Int32)] μ4 (fun r5 μ5 => (CI mX6_of [vR 6 0 0, vI x1, vI (2 : Int32)] μ5 (fun r6 μ6 => ((¬ r5 = r6 → Q μ6) ∧ (r5 = r6 → (CV mX6_isOver [vR 6 0 0, vI x1] μ6 (fun μ7 => Q μ7))))))))))))))) ∧ (¬ x3 ≤ x5 → (CI mX6_cellOf [vR 6 0 0, vI x2, vI x5, vI (0 : Int32)] (a, (b, h0)) (fun r8 μ8 => ((¬ r8 = 0 → xOk mX6_writeMark 79 [(0, vR 6 0 0), (1, vI x1), (2, vI x2), (3, vI x3), (4, vI x4), (5, vI (x5 + 1))] [] μ8 (qV Q)) ∧ (r8 = 0 → (CI mX6_cellOf [vR 6 0 0, vI x2, vI x5, vI (1 : Int32)] μ8 (fun r9 μ9 => ((¬ r9 = x1 → xOk mX6_writeMark 79 [(0, vR 6 0 0), (1, vI x1), (2, vI x2), (3, vI x3), (4, vI x4), (5, vI (x5 + 1))] [] μ9 (qV Q)) ∧ (r9 = x1 → (CI mX6_cellOf [vR 6 0 0, vI x2, vI x5, vI (5 : Int32)] μ9 (fun r10 μ10 => ((¬ r10 = (1 : Int32) → xOk mX6_writeMark 79 [(0, vR 6 0 0), (1, vI x1), (2, vI x2), (3, vI x3), (4, vI x4), (5, vI (x5 + 1))] [] μ10 (qV Q)) ∧ (r10 = (1 : Int32) → ((¬ x4 = (1 : Int32) → (CV mX6_put [vR 6 0 0, vI x2, vI x5, vI (5 : Int32), vI (3 : Int32)] μ10 (fun μ11 => xOk mX6_writeMark 79 [(0, vR 6 0 0), (1, vI x1), (2, vI x2), (3, vI x3), (4, vI x4), (5, vI (x5 + 1))] [] μ11 (qV Q)))) ∧ (x4 = (1 : Int32) → (CV mX6_put [vR 6 0 0, vI x2, vI x5, vI (5 : Int32), vI (2 : Int32)] μ10 (fun μ12 => xOk mX6_writeMark 79 [(0, vR 6 0 0), (1, vI x1), (2, vI x2), (3, vI x3), (4, vI x4), (5, vI (x5 + 1))] [] μ12 (qV Q)))))))))))))))))))) : xOk mX6_writeMark 79 [(0, vR 6 0 0), (1, vI x1), (2, vI x2), (3, vI x3), (4, vI x4), (5, vI x5)] [] (a, (b, h0)) (qV Q) := by
  refine ok_iload (j := 5) dX6_writeMark_79 rfl ?_
  refine ok_iload_n (j := 3) dX6_writeMark_81 rfl rfl ?_
  refine ok_icmp_ge (tgt := 145) dX6_writeMark_82 (by decide) ⟨fun z => ?_, fun z => ?_⟩
  · have h := h.1 z
    refine ok_aload_n (j := 0) dX6_writeMark_145 rfl rfl ?_
    refine gf_6_0 dX6_writeMark_146 v6 xw_530 ?_
    refine ok_bipush (v := (66 : Int32)) dX6_writeMark_149 (by decide) ?_
    refine ok_iload_n (j := 2) dX6_writeMark_151 rfl rfl ?_
    refine ok_iadd dX6_writeMark_152 ?_
    refine ok_dup2 dX6_writeMark_153 rfl rfl ?_
    obtain ⟨hb1, h⟩ := h
    refine al_30 dX6_writeMark_154 v30 hb1 ?_
    refine ok_iconst (v := (1 : Int32)) dX6_writeMark_155 (by decide) ?_
    refine ok_iadd dX6_writeMark_156 ?_
    obtain ⟨hb2, h⟩ := h
    refine as_30 dX6_writeMark_157 v30 hb2 ?_
    refine ok_aload_n (j := 0) dX6_writeMark_158 rfl rfl ?_
    refine ok_iload_n (j := 1) dX6_writeMark_159 rfl rfl ?_
    refine ok_iconst (v := (3 : Int32)) dX6_writeMark_160 (by decide) ?_
    refine ok_aload_n (j := 0) dX6_writeMark_161 rfl rfl ?_
    refine ok_iload_n (j := 1) dX6_writeMark_162 rfl rfl ?_
    refine ok_iconst (v := (3 : Int32)) dX6_writeMark_163 (by decide) ?_
    refine ok_callV (M' := mX6_of) [vI x1, vI (3 : Int32)] dX6_writeMark_164 xw_591 fV_X6_of fS_X6_of rfl (by decide) v6 (ob_6 _ _ _) rfl (Nat.le_of_ble_eq_true rfl) (CI.to (CI.mono h ?_))
    intro r3 μ3 h
    refine ok_iconst (v := (1 : Int32)) dX6_writeMark_167 (by decide) ?_
    refine ok_iload_n (j := 2) dX6_writeMark_168 rfl rfl ?_
    refine ok_ishl dX6_writeMark_169 ?_
    refine ok_ior dX6_writeMark_170 ?_
    refine ok_callV (M' := mX6_lays) [vI x1, vI (3 : Int32), vI (r3 ||| ((1 : Int32) <<< (x2 &&& 31)))] dX6_writeMark_171 xw_526 fV_X6_lays fS_X6_lays rfl (by decide) v6 (ob_6 _ _ _) rfl (Nat.le_of_ble_eq_true rfl) (CV.to (CV.mono h ?_))
    intro μ4 h
    refine ok_aload_n (j := 0) dX6_writeMark_174 rfl rfl ?_
    refine ok_iload_n (j := 1) dX6_writeMark_175 rfl rfl ?_
    refine ok_iconst (v := (3 : Int32)) dX6_writeMark_176 (by decide) ?_
    refine ok_callV (M' := mX6_of) [vI x1, vI (3 : Int32)] dX6_writeMark_177 xw_591 fV_X6_of fS_X6_of rfl (by decide) v6 (ob_6 _ _ _) rfl (Nat.le_of_ble_eq_true rfl) (CI.to (CI.mono h ?_))
    intro r5 μ5 h
    refine ok_aload_n (j := 0) dX6_writeMark_180 rfl rfl ?_
    refine ok_iload_n (j := 1) dX6_writeMark_181 rfl rfl ?_
    refine ok_iconst (v := (2 : Int32)) dX6_writeMark_182 (by decide) ?_
    refine ok_callV (M' := mX6_of) [vI x1, vI (2 : Int32)] dX6_writeMark_183 xw_591 fV_X6_of fS_X6_of rfl (by decide) v6 (ob_6 _ _ _) rfl (Nat.le_of_ble_eq_true rfl) (CI.to (CI.mono h ?_))
    intro r6 μ6 h
    refine ok_icmp_ne (tgt := 194) dX6_writeMark_186 (by decide) ⟨fun z => ?_, fun z => ?_⟩
    · have h := h.1 z
      exact ok_vret rfl dX6_writeMark_194 ⟨rfl, h⟩
    · have h := h.2 z
      refine ok_aload_n (j := 0) dX6_writeMark_189 rfl rfl ?_
      refine ok_iload_n (j := 1) dX6_writeMark_190 rfl rfl ?_
      refine ok_callV (M' := mX6_isOver) [vI x1] dX6_writeMark_191 xw_611 fV_X6_isOver fS_X6_isOver rfl (by decide) v6 (ob_6 _ _ _) rfl (Nat.le_of_ble_eq_true rfl) (CV.to (CV.mono h ?_))
      intro μ7 h
      exact ok_vret rfl dX6_writeMark_194 ⟨rfl, h⟩
  · have h := h.2 z
    refine ok_aload_n (j := 0) dX6_writeMark_85 rfl rfl ?_
    refine ok_iload_n (j := 2) dX6_writeMark_86 rfl rfl ?_
    refine ok_iload (j := 5) dX6_writeMark_87 rfl ?_
    refine ok_iconst (v := (0 : Int32)) dX6_writeMark_89 (by decide) ?_
    refine ok_callV (M' := mX6_cellOf) [vI x2, vI x5, vI (0 : Int32)] dX6_writeMark_90 xw_646 fV_X6_cellOf fS_X6_cellOf rfl (by decide) v6 (ob_6 _ _ _) rfl (Nat.le_of_ble_eq_true rfl) (CI.to (CI.mono h ?_))
    intro r8 μ8 h
    refine ok_if_ne (tgt := 139) dX6_writeMark_93 (by decide) ⟨fun z => ?_, fun z => ?_⟩
    · have h := h.1 z
      refine ok_iinc (j := 5) (v := (x5 + 1)) (ls2 := [(5, vI (x5 + 1)), (0, vR 6 0 0), (1, vI x1), (2, vI x2), (3, vI x3), (4, vI x4)]) dX6_writeMark_139 rfl rfl (by decide) rfl ?_
      refine ok_goto (tgt := 79) dX6_writeMark_142 (by decide) ?_
      exact ok_sub [(0, vR 6 0 0), (1, vI x1), (2, vI x2), (3, vI x3), (4, vI x4), (5, vI (x5 + 1))] [1, 2, 3, 4, 5, 0] rfl h
    · have h := h.2 z
      refine ok_aload_n (j := 0) dX6_writeMark_96 rfl rfl ?_
      refine ok_iload_n (j := 2) dX6_writeMark_97 rfl rfl ?_
      refine ok_iload (j := 5) dX6_writeMark_98 rfl ?_
      refine ok_iconst (v := (1 : Int32)) dX6_writeMark_100 (by decide) ?_
      refine ok_callV (M' := mX6_cellOf) [vI x2, vI x5, vI (1 : Int32)] dX6_writeMark_101 xw_646 fV_X6_cellOf fS_X6_cellOf rfl (by decide) v6 (ob_6 _ _ _) rfl (Nat.le_of_ble_eq_true rfl) (CI.to (CI.mono h ?_))
      intro r9 μ9 h
      refine ok_iload_n (j := 1) dX6_writeMark_104 rfl rfl ?_
      refine ok_icmp_ne (tgt := 139) dX6_writeMark_105 (by decide) ⟨fun z => ?_, fun z => ?_⟩
      · have h := h.1 z
        refine ok_iinc (j := 5) (v := (x5 + 1)) (ls2 := [(5, vI (x5 + 1)), (0, vR 6 0 0), (1, vI x1), (2, vI x2), (3, vI x3), (4, vI x4)]) dX6_writeMark_139 rfl rfl (by decide) rfl ?_
        refine ok_goto (tgt := 79) dX6_writeMark_142 (by decide) ?_
        exact ok_sub [(0, vR 6 0 0), (1, vI x1), (2, vI x2), (3, vI x3), (4, vI x4), (5, vI (x5 + 1))] [1, 2, 3, 4, 5, 0] rfl h
      · have h := h.2 z
        refine ok_aload_n (j := 0) dX6_writeMark_108 rfl rfl ?_
        refine ok_iload_n (j := 2) dX6_writeMark_109 rfl rfl ?_
        refine ok_iload (j := 5) dX6_writeMark_110 rfl ?_
        refine ok_iconst (v := (5 : Int32)) dX6_writeMark_112 (by decide) ?_
        refine ok_callV (M' := mX6_cellOf) [vI x2, vI x5, vI (5 : Int32)] dX6_writeMark_113 xw_646 fV_X6_cellOf fS_X6_cellOf rfl (by decide) v6 (ob_6 _ _ _) rfl (Nat.le_of_ble_eq_true rfl) (CI.to (CI.mono h ?_))
        intro r10 μ10 h
        refine ok_iconst (v := (1 : Int32)) dX6_writeMark_116 (by decide) ?_
        refine ok_icmp_ne (tgt := 139) dX6_writeMark_117 (by decide) ⟨fun z => ?_, fun z => ?_⟩
        · have h := h.1 z
          refine ok_iinc (j := 5) (v := (x5 + 1)) (ls2 := [(5, vI (x5 + 1)), (0, vR 6 0 0), (1, vI x1), (2, vI x2), (3, vI x3), (4, vI x4)]) dX6_writeMark_139 rfl rfl (by decide) rfl ?_
          refine ok_goto (tgt := 79) dX6_writeMark_142 (by decide) ?_
          exact ok_sub [(0, vR 6 0 0), (1, vI x1), (2, vI x2), (3, vI x3), (4, vI x4), (5, vI (x5 + 1))] [1, 2, 3, 4, 5, 0] rfl h
        · have h := h.2 z
          refine ok_aload_n (j := 0) dX6_writeMark_120 rfl rfl ?_
          refine ok_iload_n (j := 2) dX6_writeMark_121 rfl rfl ?_
          refine ok_iload (j := 5) dX6_writeMark_122 rfl ?_
          refine ok_iconst (v := (5 : Int32)) dX6_writeMark_124 (by decide) ?_
          refine ok_iload (j := 4) dX6_writeMark_125 rfl ?_
          refine ok_iconst (v := (1 : Int32)) dX6_writeMark_127 (by decide) ?_
          refine ok_icmp_ne (tgt := 135) dX6_writeMark_128 (by decide) ⟨fun z => ?_, fun z => ?_⟩
          · have h := h.1 z
            refine ok_iconst (v := (3 : Int32)) dX6_writeMark_135 (by decide) ?_
            refine ok_callV (M' := mX6_put) [vI x2, vI x5, vI (5 : Int32), vI (3 : Int32)] dX6_writeMark_136 xw_669 fV_X6_put fS_X6_put rfl (by decide) v6 (ob_6 _ _ _) rfl (Nat.le_of_ble_eq_true rfl) (CV.to (CV.mono h ?_))
            intro μ11 h
            refine ok_iinc (j := 5) (v := (x5 + 1)) (ls2 := [(5, vI (x5 + 1)), (0, vR 6 0 0), (1, vI x1), (2, vI x2), (3, vI x3), (4, vI x4)]) dX6_writeMark_139 rfl rfl (by decide) rfl ?_
            refine ok_goto (tgt := 79) dX6_writeMark_142 (by decide) ?_
            exact ok_sub [(0, vR 6 0 0), (1, vI x1), (2, vI x2), (3, vI x3), (4, vI x4), (5, vI (x5 + 1))] [1, 2, 3, 4, 5, 0] rfl h
          · have h := h.2 z
            refine ok_iconst (v := (2 : Int32)) dX6_writeMark_131 (by decide) ?_
            refine ok_goto (tgt := 136) dX6_writeMark_132 (by decide) ?_
            refine ok_callV (M' := mX6_put) [vI x2, vI x5, vI (5 : Int32), vI (2 : Int32)] dX6_writeMark_136 xw_669 fV_X6_put fS_X6_put rfl (by decide) v6 (ob_6 _ _ _) rfl (Nat.le_of_ble_eq_true rfl) (CV.to (CV.mono h ?_))
            intro μ12 h
            refine ok_iinc (j := 5) (v := (x5 + 1)) (ls2 := [(5, vI (x5 + 1)), (0, vR 6 0 0), (1, vI x1), (2, vI x2), (3, vI x3), (4, vI x4)]) dX6_writeMark_139 rfl rfl (by decide) rfl ?_
            refine ok_goto (tgt := 79) dX6_writeMark_142 (by decide) ?_
            exact ok_sub [(0, vR 6 0 0), (1, vI x1), (2, vI x2), (3, vI x3), (4, vI x4), (5, vI (x5 + 1))] [1, 2, 3, 4, 5, 0] rfl h
set_option maxRecDepth 100000 in
set_option maxHeartbeats 4000000 in
theorem eX6_limit {a b : xA} {h0 : Int64} {Q : Int32 → xM → Prop} {x1 : Int32}  (h : (CI mX6_in [vI x1, vI (1 : Int32), vI (20 : Int32)] (a, (b, h0)) (fun r1 μ1 => ((¬ r1 = 0 → (CV mX6_notes [vR 6 0 0] μ1 (fun μ2 => (vp_in (1 : Int32) 945 ∧ (vp_in (1 : Int32) 945 ∧ Q (μ2.2.1 30 0 0 (Int32.toNatClampNeg (1 : Int32))) (μ2.1, ((xUp μ2.2.1 30 0 0 (Int32.toNatClampNeg (1 : Int32)) x1), μ2.2.2))))))) ∧ (r1 = 0 → (CI mX6_bad [vR 6 0 0] μ1 (fun r5 μ5 => Q r5 μ5))))))) : CI mX6_limit [vR 6 0 0, vI x1] (a, (b, h0)) Q := by
  refine xCalls_of (by decide) (Nat.le_of_ble_eq_true rfl) ?_
  show xOk mX6_limit 0 [(0, vR 6 0 0), (1, vI x1)] [] (a, (b, h0)) (qI Q)
  refine ok_iload_n (j := 1) dX6_limit_0 rfl rfl ?_
  refine ok_iconst (v := (1 : Int32)) dX6_limit_1 (by decide) ?_
  refine ok_bipush (v := (20 : Int32)) dX6_limit_2 (by decide) ?_
  refine ok_callS (M' := mX6_in) [vI x1, vI (1 : Int32), vI (20 : Int32)] dX6_limit_4 xw_580 fV_X6_in fS_X6_in (by decide) rfl (Nat.le_of_ble_eq_true rfl) (CI.to (CI.mono h ?_))
  intro r1 μ1 h
  refine ok_if_ne (tgt := 15) dX6_limit_7 (by decide) ⟨fun z => ?_, fun z => ?_⟩
  · have h := h.1 z
    refine ok_aload_n (j := 0) dX6_limit_15 rfl rfl ?_
    refine ok_callV (M' := mX6_notes) [] dX6_limit_16 xw_595 fV_X6_notes fS_X6_notes rfl (by decide) v6 (ob_6 _ _ _) rfl (Nat.le_of_ble_eq_true rfl) (CV.to (CV.mono h ?_))
    intro μ2 h
    refine ok_aload_n (j := 0) dX6_limit_19 rfl rfl ?_
    refine gf_6_0 dX6_limit_20 v6 xw_530 ?_
    refine ok_iconst (v := (1 : Int32)) dX6_limit_23 (by decide) ?_
    obtain ⟨hb3, h⟩ := h
    refine al_30 dX6_limit_24 v30 hb3 ?_
    refine ok_istore_n (ls2 := [(2, vI (μ2.2.1 30 0 0 (Int32.toNatClampNeg (1 : Int32)))), (0, vR 6 0 0), (1, vI x1)]) dX6_limit_25 rfl (by decide) rfl ?_
    refine ok_aload_n (j := 1) dX6_limit_26 rfl rfl ?_
    refine gf_6_0 dX6_limit_27 v6 xw_530 ?_
    refine ok_iconst (v := (1 : Int32)) dX6_limit_30 (by decide) ?_
    refine ok_iload_n (j := 2) dX6_limit_31 rfl rfl ?_
    obtain ⟨hb4, h⟩ := h
    refine as_30 dX6_limit_32 v30 hb4 ?_
    refine ok_iload_n (j := 0) dX6_limit_33 rfl rfl ?_
    exact ok_iret rfl dX6_limit_34 ⟨_, rfl, h⟩
  · have h := h.2 z
    refine ok_aload_n (j := 0) dX6_limit_10 rfl rfl ?_
    refine ok_callV (M' := mX6_bad) [] dX6_limit_11 xw_583 fV_X6_bad fS_X6_bad rfl (by decide) v6 (ob_6 _ _ _) rfl (Nat.le_of_ble_eq_true rfl) (CI.to (CI.mono h ?_))
    intro r5 μ5 h
    exact ok_iret rfl dX6_limit_14 ⟨_, rfl, h⟩
set_option maxRecDepth 100000 in
set_option maxHeartbeats 4000000 in
theorem eX6_writer {a b : xA} {h0 : Int64} {Q : Int32 → xM → Prop} {x1 : Int32} {x2 : Int32}  (h : (CI mX6_isWriter [vI x1] (a, (b, h0)) (fun r1 μ1 => ((r1 = 0 → (CI mX6_bad [vR 6 0 0] μ1 (fun r2 μ2 => Q r2 μ2))) ∧ (¬ r1 = 0 → (CI mX6_in [vI x2, vI (0 : Int32), vI (8 : Int32)] μ1 (fun r3 μ3 => ((r3 = 0 → (CI mX6_bad [vR 6 0 0] μ3 (fun r4 μ4 => Q r4 μ4))) ∧ (¬ r3 = 0 → (CI mX6_tellWriter [vR 6 0 0, vI x1, vI x2] μ3 (fun r5 μ5 => Q r5 μ5))))))))))) : CI mX6_writer [vR 6 0 0, vI x1, vI x2] (a, (b, h0)) Q := by
  refine xCalls_of (by decide) (Nat.le_of_ble_eq_true rfl) ?_
  show xOk mX6_writer 0 [(0, vR 6 0 0), (1, vI x1), (2, vI x2)] [] (a, (b, h0)) (qI Q)
  refine ok_iload_n (j := 1) dX6_writer_0 rfl rfl ?_
  refine ok_callS (M' := mX6_isWriter) [vI x1] dX6_writer_1 xw_577 fV_X6_isWriter fS_X6_isWriter (by decide) rfl (Nat.le_of_ble_eq_true rfl) (CI.to (CI.mono h ?_))
  intro r1 μ1 h
  refine ok_if_eq (tgt := 26) dX6_writer_4 (by decide) ⟨fun z => ?_, fun z => ?_⟩
  · have h := h.1 z
    refine ok_aload_n (j := 0) dX6_writer_26 rfl rfl ?_
    refine ok_callV (M' := mX6_bad) [] dX6_writer_27 xw_583 fV_X6_bad fS_X6_bad rfl (by decide) v6 (ob_6 _ _ _) rfl (Nat.le_of_ble_eq_true rfl) (CI.to (CI.mono h ?_))
    intro r2 μ2 h
    exact ok_iret rfl dX6_writer_30 ⟨_, rfl, h⟩
  · have h := h.2 z
    refine ok_iload_n (j := 2) dX6_writer_7 rfl rfl ?_
    refine ok_iconst (v := (0 : Int32)) dX6_writer_8 (by decide) ?_
    refine ok_bipush (v := (8 : Int32)) dX6_writer_9 (by decide) ?_
    refine ok_callS (M' := mX6_in) [vI x2, vI (0 : Int32), vI (8 : Int32)] dX6_writer_11 xw_580 fV_X6_in fS_X6_in (by decide) rfl (Nat.le_of_ble_eq_true rfl) (CI.to (CI.mono h ?_))
    intro r3 μ3 h
    refine ok_if_eq (tgt := 26) dX6_writer_14 (by decide) ⟨fun z => ?_, fun z => ?_⟩
    · have h := h.1 z
      refine ok_aload_n (j := 0) dX6_writer_26 rfl rfl ?_
      refine ok_callV (M' := mX6_bad) [] dX6_writer_27 xw_583 fV_X6_bad fS_X6_bad rfl (by decide) v6 (ob_6 _ _ _) rfl (Nat.le_of_ble_eq_true rfl) (CI.to (CI.mono h ?_))
      intro r4 μ4 h
      exact ok_iret rfl dX6_writer_30 ⟨_, rfl, h⟩
    · have h := h.2 z
      refine ok_aload_n (j := 0) dX6_writer_17 rfl rfl ?_
      refine ok_iload_n (j := 1) dX6_writer_18 rfl rfl ?_
      refine ok_iload_n (j := 2) dX6_writer_19 rfl rfl ?_
      refine ok_callV (M' := mX6_tellWriter) [vI x1, vI x2] dX6_writer_20 xw_715 fV_X6_tellWriter fS_X6_tellWriter rfl (by decide) v6 (ob_6 _ _ _) rfl (Nat.le_of_ble_eq_true rfl) (CI.to (CI.mono h ?_))
      intro r5 μ5 h
      refine ok_goto (tgt := 30) dX6_writer_23 (by decide) ?_
      exact ok_iret rfl dX6_writer_30 ⟨_, rfl, h⟩
set_option maxRecDepth 100000 in
set_option maxHeartbeats 4000000 in
theorem eX6_tellWriter {a b : xA} {h0 : Int64} {Q : Int32 → xM → Prop} {x1 : Int32} {x2 : Int32}  (h : ((x2 = (0 : Int32) → (CI mX6_of [vR 6 0 0, vI x1, vI (0 : Int32)] (a, (b, h0)) (fun r1 μ1 => Q r1 μ1))) ∧ (¬ x2 = (0 : Int32) → ((x2 = (1 : Int32) → (CI mX6_of [vR 6 0 0, vI x1, vI (1 : Int32)] (a, (b, h0)) (fun r2 μ2 => Q r2 μ2))) ∧ (¬ x2 = (1 : Int32) → ((x2 = (2 : Int32) → (CI mX6_of [vR 6 0 0, vI x1, vI (2 : Int32)] (a, (b, h0)) (fun r3 μ3 => Q r3 μ3))) ∧ (¬ x2 = (2 : Int32) → ((x2 = (3 : Int32) → (CI mX6_toCome [vR 6 0 0, vI x1] (a, (b, h0)) (fun r4 μ4 => Q r4 μ4))) ∧ (¬ x2 = (3 : Int32) → ((x2 = (4 : Int32) → (CI mX6_of [vR 6 0 0, vI x1, vI (1 : Int32)] (a, (b, h0)) (fun r5 μ5 => ((¬ r5 = (2 : Int32) → Q (0 : Int32) μ5) ∧ (r5 = (2 : Int32) → (CI mX6_of [vR 6 0 0, vI x1, vI (4 : Int32)] μ5 (fun r6 μ6 => Q r6 μ6))))))) ∧ (¬ x2 = (4 : Int32) → ((x2 = (5 : Int32) → (CI mX6_of [vR 6 0 0, vI x1, vI (1 : Int32)] (a, (b, h0)) (fun r7 μ7 => ((¬ r7 = (1 : Int32) → Q (-1 : Int32) μ7) ∧ (r7 = (1 : Int32) → (vp_in (0 : Int32) 945 ∧ (CI mX6_of [vR 6 0 0, vI x1, vI (5 : Int32)] μ7 (fun r9 μ9 => Q ((μ7.2.1 30 0 0 (Int32.toNatClampNeg (0 : Int32))) - r9) μ9)))))))) ∧ (¬ x2 = (5 : Int32) → (CI mX6_dueOf [vR 6 0 0, vI x1, vI (x2 - (6 : Int32))] (a, (b, h0)) (fun r10 μ10 => Q r10 μ10))))))))))))))) : CI mX6_tellWriter [vR 6 0 0, vI x1, vI x2] (a, (b, h0)) Q := by
  refine xCalls_of (by decide) (Nat.le_of_ble_eq_true rfl) ?_
  show xOk mX6_tellWriter 0 [(0, vR 6 0 0), (1, vI x1), (2, vI x2)] [] (a, (b, h0)) (qI Q)
  refine ok_iload_n (j := 2) dX6_tellWriter_0 rfl rfl ?_
  by_cases z0 : x2 = (0 : Int32)
  · have h := h.1 z0
    refine ok_table dX6_tellWriter_1 rfl (off := 39) (tgt := 40) (by (try dsimp only); rw [z0]; decide) (by decide) ?_
    refine ok_aload_n (j := 0) dX6_tellWriter_40 rfl rfl ?_
    refine ok_iload_n (j := 1) dX6_tellWriter_41 rfl rfl ?_
    refine ok_iconst (v := (0 : Int32)) dX6_tellWriter_42 (by decide) ?_
    refine ok_callV (M' := mX6_of) [vI x1, vI (0 : Int32)] dX6_tellWriter_43 xw_591 fV_X6_of fS_X6_of rfl (by decide) v6 (ob_6 _ _ _) rfl (Nat.le_of_ble_eq_true rfl) (CI.to (CI.mono h ?_))
    intro r1 μ1 h
    exact ok_iret rfl dX6_tellWriter_46 ⟨_, rfl, h⟩
  · have h := h.2 z0
    by_cases z1 : x2 = (1 : Int32)
    · have h := h.1 z1
      refine ok_table dX6_tellWriter_1 rfl (off := 46) (tgt := 47) (by (try dsimp only); rw [z1]; decide) (by decide) ?_
      refine ok_aload_n (j := 0) dX6_tellWriter_47 rfl rfl ?_
      refine ok_iload_n (j := 1) dX6_tellWriter_48 rfl rfl ?_
      refine ok_iconst (v := (1 : Int32)) dX6_tellWriter_49 (by decide) ?_
      refine ok_callV (M' := mX6_of) [vI x1, vI (1 : Int32)] dX6_tellWriter_50 xw_591 fV_X6_of fS_X6_of rfl (by decide) v6 (ob_6 _ _ _) rfl (Nat.le_of_ble_eq_true rfl) (CI.to (CI.mono h ?_))
      intro r2 μ2 h
      exact ok_iret rfl dX6_tellWriter_53 ⟨_, rfl, h⟩
    · have h := h.2 z1
      by_cases z2 : x2 = (2 : Int32)
      · have h := h.1 z2
        refine ok_table dX6_tellWriter_1 rfl (off := 53) (tgt := 54) (by (try dsimp only); rw [z2]; decide) (by decide) ?_
        refine ok_aload_n (j := 0) dX6_tellWriter_54 rfl rfl ?_
        refine ok_iload_n (j := 1) dX6_tellWriter_55 rfl rfl ?_
        refine ok_iconst (v := (2 : Int32)) dX6_tellWriter_56 (by decide) ?_
        refine ok_callV (M' := mX6_of) [vI x1, vI (2 : Int32)] dX6_tellWriter_57 xw_591 fV_X6_of fS_X6_of rfl (by decide) v6 (ob_6 _ _ _) rfl (Nat.le_of_ble_eq_true rfl) (CI.to (CI.mono h ?_))
        intro r3 μ3 h
        exact ok_iret rfl dX6_tellWriter_60 ⟨_, rfl, h⟩
      · have h := h.2 z2
        by_cases z3 : x2 = (3 : Int32)
        · have h := h.1 z3
          refine ok_table dX6_tellWriter_1 rfl (off := 60) (tgt := 61) (by (try dsimp only); rw [z3]; decide) (by decide) ?_
          refine ok_aload_n (j := 0) dX6_tellWriter_61 rfl rfl ?_
          refine ok_iload_n (j := 1) dX6_tellWriter_62 rfl rfl ?_
          refine ok_callV (M' := mX6_toCome) [vI x1] dX6_tellWriter_63 xw_719 fV_X6_toCome fS_X6_toCome rfl (by decide) v6 (ob_6 _ _ _) rfl (Nat.le_of_ble_eq_true rfl) (CI.to (CI.mono h ?_))
          intro r4 μ4 h
          exact ok_iret rfl dX6_tellWriter_66 ⟨_, rfl, h⟩
        · have h := h.2 z3
          by_cases z4 : x2 = (4 : Int32)
          · have h := h.1 z4
            refine ok_table dX6_tellWriter_1 rfl (off := 66) (tgt := 67) (by (try dsimp only); rw [z4]; decide) (by decide) ?_
            refine ok_aload_n (j := 0) dX6_tellWriter_67 rfl rfl ?_
            refine ok_iload_n (j := 1) dX6_tellWriter_68 rfl rfl ?_
            refine ok_iconst (v := (1 : Int32)) dX6_tellWriter_69 (by decide) ?_
            refine ok_callV (M' := mX6_of) [vI x1, vI (1 : Int32)] dX6_tellWriter_70 xw_591 fV_X6_of fS_X6_of rfl (by decide) v6 (ob_6 _ _ _) rfl (Nat.le_of_ble_eq_true rfl) (CI.to (CI.mono h ?_))
            intro r5 μ5 h
            refine ok_iconst (v := (2 : Int32)) dX6_tellWriter_73 (by decide) ?_
            refine ok_icmp_ne (tgt := 86) dX6_tellWriter_74 (by decide) ⟨fun z => ?_, fun z => ?_⟩
            · have h := h.1 z
              refine ok_iconst (v := (0 : Int32)) dX6_tellWriter_86 (by decide) ?_
              exact ok_iret rfl dX6_tellWriter_87 ⟨_, rfl, h⟩
            · have h := h.2 z
              refine ok_aload_n (j := 0) dX6_tellWriter_77 rfl rfl ?_
              refine ok_iload_n (j := 1) dX6_tellWriter_78 rfl rfl ?_
              refine ok_iconst (v := (4 : Int32)) dX6_tellWriter_79 (by decide) ?_
              refine ok_callV (M' := mX6_of) [vI x1, vI (4 : Int32)] dX6_tellWriter_80 xw_591 fV_X6_of fS_X6_of rfl (by decide) v6 (ob_6 _ _ _) rfl (Nat.le_of_ble_eq_true rfl) (CI.to (CI.mono h ?_))
              intro r6 μ6 h
              refine ok_goto (tgt := 87) dX6_tellWriter_83 (by decide) ?_
              exact ok_iret rfl dX6_tellWriter_87 ⟨_, rfl, h⟩
          · have h := h.2 z4
            by_cases z5 : x2 = (5 : Int32)
            · have h := h.1 z5
              refine ok_table dX6_tellWriter_1 rfl (off := 87) (tgt := 88) (by (try dsimp only); rw [z5]; decide) (by decide) ?_
              refine ok_aload_n (j := 0) dX6_tellWriter_88 rfl rfl ?_
              refine ok_iload_n (j := 1) dX6_tellWriter_89 rfl rfl ?_
              refine ok_iconst (v := (1 : Int32)) dX6_tellWriter_90 (by decide) ?_
              refine ok_callV (M' := mX6_of) [vI x1, vI (1 : Int32)] dX6_tellWriter_91 xw_591 fV_X6_of fS_X6_of rfl (by decide) v6 (ob_6 _ _ _) rfl (Nat.le_of_ble_eq_true rfl) (CI.to (CI.mono h ?_))
              intro r7 μ7 h
              refine ok_iconst (v := (1 : Int32)) dX6_tellWriter_94 (by decide) ?_
              refine ok_icmp_ne (tgt := 114) dX6_tellWriter_95 (by decide) ⟨fun z => ?_, fun z => ?_⟩
              · have h := h.1 z
                refine ok_iconst (v := (-1 : Int32)) dX6_tellWriter_114 (by decide) ?_
                exact ok_iret rfl dX6_tellWriter_115 ⟨_, rfl, h⟩
              · have h := h.2 z
                refine ok_aload_n (j := 0) dX6_tellWriter_98 rfl rfl ?_
                refine gf_6_0 dX6_tellWriter_99 v6 xw_530 ?_
                refine ok_iconst (v := (0 : Int32)) dX6_tellWriter_102 (by decide) ?_
                obtain ⟨hb8, h⟩ := h
                refine al_30 dX6_tellWriter_103 v30 hb8 ?_
                refine ok_aload_n (j := 0) dX6_tellWriter_104 rfl rfl ?_
                refine ok_iload_n (j := 1) dX6_tellWriter_105 rfl rfl ?_
                refine ok_iconst (v := (5 : Int32)) dX6_tellWriter_106 (by decide) ?_
                refine ok_callV (M' := mX6_of) [vI x1, vI (5 : Int32)] dX6_tellWriter_107 xw_591 fV_X6_of fS_X6_of rfl (by decide) v6 (ob_6 _ _ _) rfl (Nat.le_of_ble_eq_true rfl) (CI.to (CI.mono h ?_))
                intro r9 μ9 h
                refine ok_isub dX6_tellWriter_110 ?_
                refine ok_goto (tgt := 115) dX6_tellWriter_111 (by decide) ?_
                exact ok_iret rfl dX6_tellWriter_115 ⟨_, rfl, h⟩
            · have h := h.2 z5
              refine ok_table dX6_tellWriter_1 rfl (tgt := 116) (xSw_d [(0 : Int32), (1 : Int32), (2 : Int32), (3 : Int32), (4 : Int32), (5 : Int32)] (by decide) rfl (by simp only [List.mem_cons, List.not_mem_nil, or_false]; rintro c (rfl | rfl | rfl | rfl | rfl | rfl) <;> assumption)) (by decide) ?_
              refine ok_aload_n (j := 0) dX6_tellWriter_116 rfl rfl ?_
              refine ok_iload_n (j := 1) dX6_tellWriter_117 rfl rfl ?_
              refine ok_iload_n (j := 2) dX6_tellWriter_118 rfl rfl ?_
              refine ok_bipush (v := (6 : Int32)) dX6_tellWriter_119 (by decide) ?_
              refine ok_isub dX6_tellWriter_121 ?_
              refine ok_callV (M' := mX6_dueOf) [vI x1, vI (x2 - (6 : Int32))] dX6_tellWriter_122 xw_650 fV_X6_dueOf fS_X6_dueOf rfl (by decide) v6 (ob_6 _ _ _) rfl (Nat.le_of_ble_eq_true rfl) (CI.to (CI.mono h ?_))
              intro r10 μ10 h
              exact ok_iret rfl dX6_tellWriter_125 ⟨_, rfl, h⟩
set_option maxRecDepth 100000 in
set_option maxHeartbeats 4000000 in
theorem eX6_toCome {a b : xA} {h0 : Int64} {Q : Int32 → xM → Prop} {x1 : Int32}  (h : (CI mX6_of [vR 6 0 0, vI x1, vI (1 : Int32)] (a, (b, h0)) (fun r1 μ1 => ((¬ r1 = (2 : Int32) → Q (0 : Int32) μ1) ∧ (r1 = (2 : Int32) → (CI mX6_of [vR 6 0 0, vI x1, vI (2 : Int32)] μ1 (fun r2 μ2 => (CI mX6_of [vR 6 0 0, vI x1, vI (3 : Int32)] μ2 (fun r3 μ3 => (CI mX6_bits [vI (r2 &&& (r3 ^^^ (-1 : Int32)))] μ3 (fun r4 μ4 => Q r4 μ4))))))))))) : CI mX6_toCome [vR 6 0 0, vI x1] (a, (b, h0)) Q := by
  refine xCalls_of (by decide) (Nat.le_of_ble_eq_true rfl) ?_
  show xOk mX6_toCome 0 [(0, vR 6 0 0), (1, vI x1)] [] (a, (b, h0)) (qI Q)
  refine ok_aload_n (j := 0) dX6_toCome_0 rfl rfl ?_
  refine ok_iload_n (j := 1) dX6_toCome_1 rfl rfl ?_
  refine ok_iconst (v := (1 : Int32)) dX6_toCome_2 (by decide) ?_
  refine ok_callV (M' := mX6_of) [vI x1, vI (1 : Int32)] dX6_toCome_3 xw_591 fV_X6_of fS_X6_of rfl (by decide) v6 (ob_6 _ _ _) rfl (Nat.le_of_ble_eq_true rfl) (CI.to (CI.mono h ?_))
  intro r1 μ1 h
  refine ok_iconst (v := (2 : Int32)) dX6_toCome_6 (by decide) ?_
  refine ok_icmp_ne (tgt := 31) dX6_toCome_7 (by decide) ⟨fun z => ?_, fun z => ?_⟩
  · have h := h.1 z
    refine ok_iconst (v := (0 : Int32)) dX6_toCome_31 (by decide) ?_
    exact ok_iret rfl dX6_toCome_32 ⟨_, rfl, h⟩
  · have h := h.2 z
    refine ok_aload_n (j := 0) dX6_toCome_10 rfl rfl ?_
    refine ok_iload_n (j := 1) dX6_toCome_11 rfl rfl ?_
    refine ok_iconst (v := (2 : Int32)) dX6_toCome_12 (by decide) ?_
    refine ok_callV (M' := mX6_of) [vI x1, vI (2 : Int32)] dX6_toCome_13 xw_591 fV_X6_of fS_X6_of rfl (by decide) v6 (ob_6 _ _ _) rfl (Nat.le_of_ble_eq_true rfl) (CI.to (CI.mono h ?_))
    intro r2 μ2 h
    refine ok_aload_n (j := 0) dX6_toCome_16 rfl rfl ?_
    refine ok_iload_n (j := 1) dX6_toCome_17 rfl rfl ?_
    refine ok_iconst (v := (3 : Int32)) dX6_toCome_18 (by decide) ?_
    refine ok_callV (M' := mX6_of) [vI x1, vI (3 : Int32)] dX6_toCome_19 xw_591 fV_X6_of fS_X6_of rfl (by decide) v6 (ob_6 _ _ _) rfl (Nat.le_of_ble_eq_true rfl) (CI.to (CI.mono h ?_))
    intro r3 μ3 h
    refine ok_iconst (v := (-1 : Int32)) dX6_toCome_22 (by decide) ?_
    refine ok_ixor dX6_toCome_23 ?_
    refine ok_iand dX6_toCome_24 ?_
    refine ok_callS (M' := mX6_bits) [vI (r2 &&& (r3 ^^^ (-1 : Int32)))] dX6_toCome_25 xw_677 fV_X6_bits fS_X6_bits (by decide) rfl (Nat.le_of_ble_eq_true rfl) (CI.to (CI.mono h ?_))
    intro r4 μ4 h
    refine ok_goto (tgt := 32) dX6_toCome_28 (by decide) ?_
    exact ok_iret rfl dX6_toCome_32 ⟨_, rfl, h⟩
