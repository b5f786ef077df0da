set_option maxRecDepth 100000 in
set_option maxHeartbeats 4000000 in
theorem eX6_entry {a b : xA} {h0 : Int64} {Q : Int32 → xM → Prop} {x1 : Int32} {x2 : Int32} {x3 : Int32}  (h : (CI mX6_isPart [vI x1] (a, (b, h0)) (fun r1 μ1 => ((r1 = 0 → (CI mX6_bad [vR 6 0 0] μ1 (fun r2 μ2 => Q r2 μ2))) ∧ (¬ r1 = 0 → (CI mX6_sizeOf [vR 6 0 0, vI x1] μ1 (fun r3 μ3 => (CI mX6_in [vI x2, vI (0 : Int32), vI (r3 - (1 : Int32))] μ3 (fun r4 μ4 => ((r4 = 0 → (CI mX6_bad [vR 6 0 0] μ4 (fun r5 μ5 => Q r5 μ5))) ∧ (¬ r4 = 0 → (CI mX6_in [vI x3, vI (0 : Int32), vI (6 : Int32)] μ4 (fun r6 μ6 => ((¬ r6 = 0 → (CI mX6_tellEntry [vR 6 0 0, vI x1, vI x2, vI x3] μ6 (fun r7 μ7 => Q r7 μ7))) ∧ (r6 = 0 → (CI mX6_bad [vR 6 0 0] μ6 (fun r8 μ8 => Q r8 μ8))))))))))))))))) : CI mX6_entry [vR 6 0 0, vI x1, vI x2, vI x3] (a, (b, h0)) Q := by
  refine xCalls_of (by decide) (Nat.le_of_ble_eq_true rfl) ?_
  show xOk mX6_entry 0 [(0, vR 6 0 0), (1, vI x1), (2, vI x2), (3, vI x3)] [] (a, (b, h0)) (qI Q)
  refine ok_iload_n (j := 1) dX6_entry_0 rfl rfl ?_
  refine ok_callS (M' := mX6_isPart) [vI x1] dX6_entry_1 xw_631 fV_X6_isPart fS_X6_isPart (by decide) rfl (Nat.le_of_ble_eq_true rfl) (CI.to (CI.mono h ?_))
  intro r1 μ1 h
  refine ok_if_eq (tgt := 32) dX6_entry_4 (by decide) ⟨fun z => ?_, fun z => ?_⟩
  · have h := h.1 z
    refine ok_aload_n (j := 0) dX6_entry_32 rfl rfl ?_
    refine ok_callV (M' := mX6_bad) [] dX6_entry_33 xw_583 fV_X6_bad fS_X6_bad rfl (by decide) v6 (ob_6 _ _ _) rfl (Nat.le_of_ble_eq_true rfl) (CI.to (CI.mono h ?_))
    intro r2 μ2 h
    exact ok_iret rfl dX6_entry_36 ⟨_, rfl, h⟩
  · have h := h.2 z
    refine ok_iload_n (j := 2) dX6_entry_7 rfl rfl ?_
    refine ok_iconst (v := (0 : Int32)) dX6_entry_8 (by decide) ?_
    refine ok_aload_n (j := 0) dX6_entry_9 rfl rfl ?_
    refine ok_iload_n (j := 1) dX6_entry_10 rfl rfl ?_
    refine ok_callV (M' := mX6_sizeOf) [vI x1] dX6_entry_11 xw_638 fV_X6_sizeOf fS_X6_sizeOf rfl (by decide) v6 (ob_6 _ _ _) rfl (Nat.le_of_ble_eq_true rfl) (CI.to (CI.mono h ?_))
    intro r3 μ3 h
    refine ok_iconst (v := (1 : Int32)) dX6_entry_14 (by decide) ?_
    refine ok_isub dX6_entry_15 ?_
    refine ok_callS (M' := mX6_in) [vI x2, vI (0 : Int32), vI (r3 - (1 : Int32))] dX6_entry_16 xw_580 fV_X6_in fS_X6_in (by decide) rfl (Nat.le_of_ble_eq_true rfl) (CI.to (CI.mono h ?_))
    intro r4 μ4 h
    refine ok_if_eq (tgt := 32) dX6_entry_19 (by decide) ⟨fun z => ?_, fun z => ?_⟩
    · have h := h.1 z
      refine ok_aload_n (j := 0) dX6_entry_32 rfl rfl ?_
      refine ok_callV (M' := mX6_bad) [] dX6_entry_33 xw_583 fV_X6_bad fS_X6_bad rfl (by decide) v6 (ob_6 _ _ _) rfl (Nat.le_of_ble_eq_true rfl) (CI.to (CI.mono h ?_))
      intro r5 μ5 h
      exact ok_iret rfl dX6_entry_36 ⟨_, rfl, h⟩
    · have h := h.2 z
      refine ok_iload_n (j := 3) dX6_entry_22 rfl rfl ?_
      refine ok_iconst (v := (0 : Int32)) dX6_entry_23 (by decide) ?_
      refine ok_bipush (v := (6 : Int32)) dX6_entry_24 (by decide) ?_
      refine ok_callS (M' := mX6_in) [vI x3, vI (0 : Int32), vI (6 : Int32)] dX6_entry_26 xw_580 fV_X6_in fS_X6_in (by decide) rfl (Nat.le_of_ble_eq_true rfl) (CI.to (CI.mono h ?_))
      intro r6 μ6 h
      refine ok_if_ne (tgt := 37) dX6_entry_29 (by decide) ⟨fun z => ?_, fun z => ?_⟩
      · have h := h.1 z
        refine ok_aload_n (j := 0) dX6_entry_37 rfl rfl ?_
        refine ok_iload_n (j := 1) dX6_entry_38 rfl rfl ?_
        refine ok_iload_n (j := 2) dX6_entry_39 rfl rfl ?_
        refine ok_iload_n (j := 3) dX6_entry_40 rfl rfl ?_
        refine ok_callV (M' := mX6_tellEntry) [vI x1, vI x2, vI x3] dX6_entry_41 xw_727 fV_X6_tellEntry fS_X6_tellEntry rfl (by decide) v6 (ob_6 _ _ _) rfl (Nat.le_of_ble_eq_true rfl) (CI.to (CI.mono h ?_))
        intro r7 μ7 h
        exact ok_iret rfl dX6_entry_44 ⟨_, rfl, h⟩
      · have h := h.2 z
        refine ok_aload_n (j := 0) dX6_entry_32 rfl rfl ?_
        refine ok_callV (M' := mX6_bad) [] dX6_entry_33 xw_583 fV_X6_bad fS_X6_bad rfl (by decide) v6 (ob_6 _ _ _) rfl (Nat.le_of_ble_eq_true rfl) (CI.to (CI.mono h ?_))
        intro r8 μ8 h
        exact ok_iret rfl dX6_entry_36 ⟨_, rfl, h⟩
set_option maxRecDepth 100000 in
set_option maxHeartbeats 4000000 in
theorem eX6_tellEntry {a b : xA} {h0 : Int64} {Q : Int32 → xM → Prop} {x1 : Int32} {x2 : Int32} {x3 : Int32}  (h : (CI mX6_cellOf [vR 6 0 0, vI x1, vI x2, vI (0 : Int32)] (a, (b, h0)) (fun r1 μ1 => ((¬ r1 = (1 : Int32) → xOk mX6_tellEntry 16 [(0, vR 6 0 0), (1, vI x1), (2, vI x2), (3, vI x3)] [vI (0 : Int32)] μ1 (qI Q)) ∧ (r1 = (1 : Int32) → xOk mX6_tellEntry 16 [(0, vR 6 0 0), (1, vI x1), (2, vI x2), (3, vI x3)] [vI (1 : Int32)] μ1 (qI Q)))))) : CI mX6_tellEntry [vR 6 0 0, vI x1, vI x2, vI x3] (a, (b, h0)) Q := by
  refine xCalls_of (by decide) (Nat.le_of_ble_eq_true rfl) ?_
  show xOk mX6_tellEntry 0 [(0, vR 6 0 0), (1, vI x1), (2, vI x2), (3, vI x3)] [] (a, (b, h0)) (qI Q)
  refine ok_aload_n (j := 0) dX6_tellEntry_0 rfl rfl ?_
  refine ok_iload_n (j := 1) dX6_tellEntry_1 rfl rfl ?_
  refine ok_iload_n (j := 2) dX6_tellEntry_2 rfl rfl ?_
  refine ok_iconst (v := (0 : Int32)) dX6_tellEntry_3 (by decide) ?_
  refine ok_callV (M' := mX6_cellOf) [vI x1, vI x2, vI (0 : Int32)] dX6_tellEntry_4 xw_646 fV_X6_cellOf fS_X6_cellOf rfl (by decide) v6 (ob_6 _ _ _) rfl (Nat.le_of_ble_eq_true rfl) (CI.to (CI.mono h ?_))
  intro r1 μ1 h
  refine ok_iconst (v := (1 : Int32)) dX6_tellEntry_7 (by decide) ?_
  refine ok_icmp_ne (tgt := 15) dX6_tellEntry_8 (by decide) ⟨fun z => ?_, fun z => ?_⟩
  · have h := h.1 z
    refine ok_iconst (v := (0 : Int32)) dX6_tellEntry_15 (by decide) ?_
    exact ok_sub [(0, vR 6 0 0), (1, vI x1), (2, vI x2), (3, vI x3)] [0, 1, 2, 3] rfl h
  · have h := h.2 z
    refine ok_iconst (v := (1 : Int32)) dX6_tellEntry_11 (by decide) ?_
    refine ok_goto (tgt := 16) dX6_tellEntry_12 (by decide) ?_
    exact ok_sub [(0, vR 6 0 0), (1, vI x1), (2, vI x2), (3, vI x3)] [0, 1, 2, 3] rfl h
set_option maxRecDepth 100000 in
set_option maxHeartbeats 4000000 in
theorem rX6_tellEntry_16 {a b : xA} {h0 : Int64} {Q : Int32 → xM → Prop} {x1 : Int32} {x2 : Int32} {x3 : Int32} {y0 : Int32}  (h : ((x3 = (5 : Int32) → ((y0 = 0 → (CI mX6_cellOf [vR 6 0 0, vI x1, vI x2, vI (5 : Int32)] (a, (b, h0)) (fun r1 μ1 => Q r1 μ1))) ∧ (¬ y0 = 0 → Q (-1 : Int32) (a, (b, h0))))) ∧ (¬ x3 = (5 : Int32) → ((x3 = (6 : Int32) → (CI mX6_stable [vR 6 0 0, vI x1] (a, (b, h0)) (fun r2 μ2 => (CI mX6_isSeen [vR 6 0 0, vI x1, vI x2, vI r2] μ2 (fun r3 μ3 => ((r3 = 0 → Q (0 : Int32) μ3) ∧ (¬ r3 = 0 → Q (1 : Int32) μ3))))))) ∧ (¬ x3 = (6 : Int32) → (CI mX6_cellOf [vR 6 0 0, vI x1, vI x2, vI x3] (a, (b, h0)) (fun r4 μ4 => Q r4 μ4))))))) : xOk mX6_tellEntry 16 [(0, vR 6 0 0), (1, vI x1), (2, vI x2), (3, vI x3)] [vI y0] (a, (b, h0)) (qI Q) := by
  refine ok_istore (ls2 := [(4, vI y0), (0, vR 6 0 0), (1, vI x1), (2, vI x2), (3, vI x3)]) dX6_tellEntry_16 (by decide) rfl ?_
  refine ok_iload_n (j := 4) dX6_tellEntry_18 rfl rfl ?_
  by_cases z0 : x3 = (5 : Int32)
  · have h := h.1 z0
    refine ok_lookup dX6_tellEntry_19 rfl (off := 25) (tgt := 44) (by (try dsimp only); rw [z0]; decide) (by decide) ?_
    refine ok_iload (j := 0) dX6_tellEntry_44 rfl ?_
    refine ok_if_eq (tgt := 53) dX6_tellEntry_46 (by decide) ⟨fun z => ?_, fun z => ?_⟩
    · have h := h.1 z
      refine ok_aload_n (j := 1) dX6_tellEntry_53 rfl rfl ?_
      refine ok_iload_n (j := 2) dX6_tellEntry_54 rfl rfl ?_
      refine ok_iload_n (j := 3) dX6_tellEntry_55 rfl rfl ?_
      refine ok_iconst (v := (5 : Int32)) dX6_tellEntry_56 (by decide) ?_
      refine ok_callV (M' := mX6_cellOf) [vI x1, vI x2, vI (5 : Int32)] dX6_tellEntry_57 xw_646 fV_X6_cellOf fS_X6_cellOf rfl (by decide) v6 (ob_6 _ _ _) rfl (Nat.le_of_ble_eq_true rfl) (CI.to (CI.mono h ?_))
      intro r1 μ1 h
      exact ok_iret rfl dX6_tellEntry_60 ⟨_, rfl, h⟩
    · have h := h.2 z
      refine ok_iconst (v := (-1 : Int32)) dX6_tellEntry_49 (by decide) ?_
      refine ok_goto (tgt := 60) dX6_tellEntry_50 (by decide) ?_
      exact ok_iret rfl dX6_tellEntry_60 ⟨_, rfl, h⟩
  · have h := h.2 z0
    by_cases z1 : x3 = (6 : Int32)
    · have h := h.1 z1
      refine ok_lookup dX6_tellEntry_19 rfl (off := 42) (tgt := 61) (by (try dsimp only); rw [z1]; decide) (by decide) ?_
      refine ok_aload_n (j := 1) dX6_tellEntry_61 rfl rfl ?_
      refine ok_iload_n (j := 2) dX6_tellEntry_62 rfl rfl ?_
      refine ok_iload_n (j := 3) dX6_tellEntry_63 rfl rfl ?_
      refine ok_aload_n (j := 1) dX6_tellEntry_64 rfl rfl ?_
      refine ok_iload_n (j := 2) dX6_tellEntry_65 rfl rfl ?_
      refine ok_callV (M' := mX6_stable) [vI x1] dX6_tellEntry_66 xw_731 fV_X6_stable fS_X6_stable rfl (by decide) v6 (ob_6 _ _ _) rfl (Nat.le_of_ble_eq_true rfl) (CI.to (CI.mono h ?_))
      intro r2 μ2 h
      refine ok_callV (M' := mX6_isSeen) [vI x1, vI x2, vI r2] dX6_tellEntry_69 xw_739 fV_X6_isSeen fS_X6_isSeen rfl (by decide) v6 (ob_6 _ _ _) rfl (Nat.le_of_ble_eq_true rfl) (CI.to (CI.mono h ?_))
      intro r3 μ3 h
      refine ok_if_eq (tgt := 79) dX6_tellEntry_72 (by decide) ⟨fun z => ?_, fun z => ?_⟩
      · have h := h.1 z
        refine ok_iconst (v := (0 : Int32)) dX6_tellEntry_79 (by decide) ?_
        exact ok_iret rfl dX6_tellEntry_80 ⟨_, rfl, h⟩
      · have h := h.2 z
        refine ok_iconst (v := (1 : Int32)) dX6_tellEntry_75 (by decide) ?_
        refine ok_goto (tgt := 80) dX6_tellEntry_76 (by decide) ?_
        exact ok_iret rfl dX6_tellEntry_80 ⟨_, rfl, h⟩
    · have h := h.2 z1
      refine ok_lookup dX6_tellEntry_19 rfl (off := 62) (tgt := 81) (xLk2 (x3) z0 z1) (by decide) ?_
      refine ok_aload_n (j := 1) dX6_tellEntry_81 rfl rfl ?_
      refine ok_iload_n (j := 2) dX6_tellEntry_82 rfl rfl ?_
      refine ok_iload_n (j := 3) dX6_tellEntry_83 rfl rfl ?_
      refine ok_iload_n (j := 4) dX6_tellEntry_84 rfl rfl ?_
      refine ok_callV (M' := mX6_cellOf) [vI x1, vI x2, vI x3] dX6_tellEntry_85 xw_646 fV_X6_cellOf fS_X6_cellOf rfl (by decide) v6 (ob_6 _ _ _) rfl (Nat.le_of_ble_eq_true rfl) (CI.to (CI.mono h ?_))
      intro r4 μ4 h
      exact ok_iret rfl dX6_tellEntry_88 ⟨_, rfl, h⟩
set_option maxRecDepth 100000 in
set_option maxHeartbeats 4000000 in
theorem eX6_stable {a b : xA} {h0 : Int64} {Q : Int32 → xM → Prop} {x1 : Int32}  (h : (CI mX6_holder [vR 6 0 0, vI x1] (a, (b, h0)) (fun r1 μ1 => ((¬ r1 = (-1 : Int32) → (CI mX6_of [vR 6 0 0, vI r1, vI ((7 : Int32) + x1)] μ1 (fun r2 μ2 => Q r2 μ2))) ∧ (r1 = (-1 : Int32) → (CI mX6_sizeOf [vR 6 0 0, vI x1] μ1 (fun r3 μ3 => Q r3 μ3))))))) : CI mX6_stable [vR 6 0 0, vI x1] (a, (b, h0)) Q := by
  refine xCalls_of (by decide) (Nat.le_of_ble_eq_true rfl) ?_
  show xOk mX6_stable 0 [(0, vR 6 0 0), (1, vI x1)] [] (a, (b, h0)) (qI Q)
  refine ok_aload_n (j := 0) dX6_stable_0 rfl rfl ?_
  refine ok_iload_n (j := 1) dX6_stable_1 rfl rfl ?_
  refine ok_callV (M' := mX6_holder) [vI x1] dX6_stable_2 xw_735 fV_X6_holder fS_X6_holder rfl (by decide) v6 (ob_6 _ _ _) rfl (Nat.le_of_ble_eq_true rfl) (CI.to (CI.mono h ?_))
  intro r1 μ1 h
  refine ok_istore_n (ls2 := [(2, vI r1), (0, vR 6 0 0), (1, vI x1)]) dX6_stable_5 rfl (by decide) rfl ?_
  refine ok_iload_n (j := 0) dX6_stable_6 rfl rfl ?_
  refine ok_iconst (v := (-1 : Int32)) dX6_stable_7 (by decide) ?_
  refine ok_icmp_ne (tgt := 19) dX6_stable_8 (by decide) ⟨fun z => ?_, fun z => ?_⟩
  · have h := h.1 z
    refine ok_aload_n (j := 1) dX6_stable_19 rfl rfl ?_
    refine ok_iload_n (j := 0) dX6_stable_20 rfl rfl ?_
    refine ok_bipush (v := (7 : Int32)) dX6_stable_21 (by decide) ?_
    refine ok_iload_n (j := 2) dX6_stable_23 rfl rfl ?_
    refine ok_iadd dX6_stable_24 ?_
    refine ok_callV (M' := mX6_of) [vI r1, vI ((7 : Int32) + x1)] dX6_stable_25 xw_591 fV_X6_of fS_X6_of rfl (by decide) v6 (ob_6 _ _ _) rfl (Nat.le_of_ble_eq_true rfl) (CI.to (CI.mono h ?_))
    intro r2 μ2 h
    exact ok_iret rfl dX6_stable_28 ⟨_, rfl, h⟩
  · have h := h.2 z
    refine ok_aload_n (j := 1) dX6_stable_11 rfl rfl ?_
    refine ok_iload_n (j := 2) dX6_stable_12 rfl rfl ?_
    refine ok_callV (M' := mX6_sizeOf) [vI x1] dX6_stable_13 xw_638 fV_X6_sizeOf fS_X6_sizeOf rfl (by decide) v6 (ob_6 _ _ _) rfl (Nat.le_of_ble_eq_true rfl) (CI.to (CI.mono h ?_))
    intro r3 μ3 h
    refine ok_goto (tgt := 28) dX6_stable_16 (by decide) ?_
    exact ok_iret rfl dX6_stable_28 ⟨_, rfl, h⟩
set_option maxRecDepth 100000 in
set_option maxHeartbeats 4000000 in
theorem eX6_holder {a b : xA} {h0 : Int64} {Q : Int32 → xM → Prop} {x1 : Int32}  (h : xOk mX6_holder 4 [(0, vR 6 0 0), (1, vI x1), (2, vI (-1 : Int32)), (3, vI (0 : Int32))] [] (a, (b, h0)) (qI Q)) : CI mX6_holder [vR 6 0 0, vI x1] (a, (b, h0)) Q := by
  refine xCalls_of (by decide) (Nat.le_of_ble_eq_true rfl) ?_
  show xOk mX6_holder 0 [(0, vR 6 0 0), (1, vI x1)] [] (a, (b, h0)) (qI Q)
  refine ok_iconst (v := (-1 : Int32)) dX6_holder_0 (by decide) ?_
  refine ok_istore_n (ls2 := [(2, vI (-1 : Int32)), (0, vR 6 0 0), (1, vI x1)]) dX6_holder_1 rfl (by decide) rfl ?_
  refine ok_iconst (v := (0 : Int32)) dX6_holder_2 (by decide) ?_
  refine ok_istore_n (ls2 := [(3, vI (0 : Int32)), (2, vI (-1 : Int32)), (0, vR 6 0 0), (1, vI x1)]) dX6_holder_3 rfl (by decide) rfl ?_
  exact ok_sub [(0, vR 6 0 0), (1, vI x1), (2, vI (-1 : Int32)), (3, vI (0 : Int32))] [2, 3, 1, 0] rfl h
set_option maxRecDepth 100000 in
set_option maxHeartbeats 4000000 in
theorem rX6_holder_4 {a b : xA} {h0 : Int64} {Q : Int32 → xM → Prop} {x1 : Int32} {x2 : Int32} {x3 : Int32}  (h : (((4 : Int32) ≤ x3 → Q x2 (a, (b, h0))) ∧ (¬ (4 : Int32) ≤ x3 → (CI mX6_lacksMark [vR 6 0 0, vI x3, vI x1] (a, (b, h0)) (fun r1 μ1 => ((r1 = 0 → xOk mX6_holder 48 [(0, vR 6 0 0), (1, vI x1), (2, vI x2), (3, vI x3)] [] μ1 (qI Q)) ∧ (¬ r1 = 0 → ((x2 = (-1 : Int32) → xOk mX6_holder 44 [(0, vR 6 0 0), (1, vI x1), (2, vI x2), (3, vI x3)] [] μ1 (qI Q)) ∧ (¬ x2 = (-1 : Int32) → (CI mX6_of [vR 6 0 0, vI x3, vI ((7 : Int32) + x1)] μ1 (fun r2 μ2 => (CI mX6_of [vR 6 0 0, vI x2, vI ((7 : Int32) + x1)] μ2 (fun r3 μ3 => ((r3 ≤ r2 → xOk mX6_holder 48 [(0, vR 6 0 0), (1, vI x1), (2, vI x2), (3, vI x3)] [] μ3 (qI Q)) ∧ (¬ r3 ≤ r2 → xOk mX6_holder 44 [(0, vR 6 0 0), (1, vI x1), (2, vI x2), (3, vI x3)] [] μ3 (qI Q)))))))))))))))) : xOk mX6_holder 4 [(0, vR 6 0 0), (1, vI x1), (2, vI x2), (3, vI x3)] [] (a, (b, h0)) (qI Q) := by
  refine ok_iload_n (j := 3) dX6_holder_4 rfl rfl ?_
  refine ok_iconst (v := (4 : Int32)) dX6_holder_5 (by decide) ?_
  refine ok_icmp_ge (tgt := 68) dX6_holder_6 (by decide) ⟨fun z => ?_, fun z => ?_⟩
  · have h := h.1 z
    refine ok_iload_n (j := 2) dX6_holder_68 rfl rfl ?_
    exact ok_iret rfl dX6_holder_69 ⟨_, rfl, h⟩
  · have h := h.2 z
    refine ok_aload_n (j := 0) dX6_holder_9 rfl rfl ?_
    refine ok_iload_n (j := 3) dX6_holder_10 rfl rfl ?_
    refine ok_iload_n (j := 1) dX6_holder_11 rfl rfl ?_
    refine ok_callV (M' := mX6_lacksMark) [vI x3, vI x1] dX6_holder_12 xw_658 fV_X6_lacksMark fS_X6_lacksMark rfl (by decide) v6 (ob_6 _ _ _) rfl (Nat.le_of_ble_eq_true rfl) (CI.to (CI.mono h ?_))
    intro r1 μ1 h
    refine ok_if_eq (tgt := 48) dX6_holder_15 (by decide) ⟨fun z => ?_, fun z => ?_⟩
    · have h := h.1 z
      exact ok_sub [(0, vR 6 0 0), (1, vI x1), (2, vI x2), (3, vI x3)] [0, 1, 2, 3] rfl h
    · have h := h.2 z
      refine ok_iload_n (j := 2) dX6_holder_18 rfl rfl ?_
      refine ok_iconst (v := (-1 : Int32)) dX6_holder_19 (by decide) ?_
      refine ok_icmp_eq (tgt := 44) dX6_holder_20 (by decide) ⟨fun z => ?_, fun z => ?_⟩
      · have h := h.1 z
        exact ok_sub [(0, vR 6 0 0), (1, vI x1), (2, vI x2), (3, vI x3)] [0, 1, 2, 3] rfl h
      · have h := h.2 z
        refine ok_aload_n (j := 0) dX6_holder_23 rfl rfl ?_
        refine ok_iload_n (j := 3) dX6_holder_24 rfl rfl ?_
        refine ok_bipush (v := (7 : Int32)) dX6_holder_25 (by decide) ?_
        refine ok_iload_n (j := 1) dX6_holder_27 rfl rfl ?_
        refine ok_iadd dX6_holder_28 ?_
        refine ok_callV (M' := mX6_of) [vI x3, vI ((7 : Int32) + x1)] dX6_holder_29 xw_591 fV_X6_of fS_X6_of rfl (by decide) v6 (ob_6 _ _ _) rfl (Nat.le_of_ble_eq_true rfl) (CI.to (CI.mono h ?_))
        intro r2 μ2 h
        refine ok_aload_n (j := 0) dX6_holder_32 rfl rfl ?_
        refine ok_iload_n (j := 2) dX6_holder_33 rfl rfl ?_
        refine ok_bipush (v := (7 : Int32)) dX6_holder_34 (by decide) ?_
        refine ok_iload_n (j := 1) dX6_holder_36 rfl rfl ?_
        refine ok_iadd dX6_holder_37 ?_
        refine ok_callV (M' := mX6_of) [vI x2, vI ((7 : Int32) + x1)] dX6_holder_38 xw_591 fV_X6_of fS_X6_of rfl (by decide) v6 (ob_6 _ _ _) rfl (Nat.le_of_ble_eq_true rfl) (CI.to (CI.mono h ?_))
        intro r3 μ3 h
        refine ok_icmp_ge (tgt := 48) dX6_holder_41 (by decide) ⟨fun z => ?_, fun z => ?_⟩
        · have h := h.1 z
          exact ok_sub [(0, vR 6 0 0), (1, vI x1), (2, vI x2), (3, vI x3)] [0, 1, 2, 3] rfl h
        · have h := h.2 z
          exact ok_sub [(0, vR 6 0 0), (1, vI x1), (2, vI x2), (3, vI x3)] [0, 1, 2, 3] rfl h
set_option maxRecDepth 100000 in
set_option maxHeartbeats 4000000 in
theorem rX6_holder_44 {a b : xA} {h0 : Int64} {Q : Int32 → xM → Prop} {x1 : Int32} {x2 : Int32} {x3 : Int32}  (h : xOk mX6_holder 49 [(0, vR 6 0 0), (1, vI x1), (2, vI x2), (3, vI x3)] [vI (1 : Int32)] (a, (b, h0)) (qI Q)) : xOk mX6_holder 44 [(0, vR 6 0 0), (1, vI x1), (2, vI x2), (3, vI x3)] [] (a, (b, h0)) (qI Q) := by
  refine ok_iconst (v := (1 : Int32)) dX6_holder_44 (by decide) ?_
  refine ok_goto (tgt := 49) dX6_holder_45 (by decide) ?_
  exact ok_sub [(0, vR 6 0 0), (1, vI x1), (2, vI x2), (3, vI x3)] [0, 1, 2, 3] rfl h
set_option maxRecDepth 100000 in
set_option maxHeartbeats 4000000 in
theorem rX6_holder_48 {a b : xA} {h0 : Int64} {Q : Int32 → xM → Prop} {x1 : Int32} {x2 : Int32} {x3 : Int32}  (h : xOk mX6_holder 49 [(0, vR 6 0 0), (1, vI x1), (2, vI x2), (3, vI x3)] [vI (0 : Int32)] (a, (b, h0)) (qI Q)) : xOk mX6_holder 48 [(0, vR 6 0 0), (1, vI x1), (2, vI x2), (3, vI x3)] [] (a, (b, h0)) (qI Q) := by
  refine ok_iconst (v := (0 : Int32)) dX6_holder_48 (by decide) ?_
  exact ok_sub [(0, vR 6 0 0), (1, vI x1), (2, vI x2), (3, vI x3)] [0, 1, 2, 3] rfl h
set_option maxRecDepth 100000 in
set_option maxHeartbeats 4000000 in
theorem rX6_holder_49 {a b : xA} {h0 : Int64} {Q : Int32 → xM → Prop} {x1 : Int32} {x2 : Int32} {x3 : Int32} {y0 : Int32}  (h : ((y0 = 0 → xOk mX6_holder 4 [(0, vR 6 0 0), (1, vI x1), (2, vI x2), (3, vI (x3 + 1))] [] (a, (b, h0)) (qI Q)) ∧ (¬ y0 = 0 → xOk mX6_holder 4 [(0, vR 6 0 0), (1, vI x1), (2, vI x3), (3, vI (x3 + 1))] [] (a, (b, h0)) (qI Q)))) : xOk mX6_holder 49 [(0, vR 6 0 0), (1, vI x1), (2, vI x2), (3, vI x3)] [vI y0] (a, (b, h0)) (qI Q) := by
  refine ok_istore (ls2 := [(4, vI y0), (0, vR 6 0 0), (1, vI x1), (2, vI x2), (3, vI x3)]) dX6_holder_49 (by decide) rfl ?_
  refine ok_iload (j := 0) dX6_holder_51 rfl ?_
  refine ok_if_eq (tgt := 60) dX6_holder_53 (by decide) ⟨fun z => ?_, fun z => ?_⟩
  · have h := h.1 z
    refine ok_iload_n (j := 3) dX6_holder_60 rfl rfl ?_
    refine ok_istore_n (ls2 := [(2, vI x2), (4, vI y0), (0, vR 6 0 0), (1, vI x1), (3, vI x3)]) dX6_holder_61 rfl (by decide) rfl ?_
    refine ok_iinc (j := 4) (v := (x3 + 1)) (ls2 := [(3, vI (x3 + 1)), (2, vI x2), (4, vI y0), (0, vR 6 0 0), (1, vI x1)]) dX6_holder_62 rfl rfl (by decide) rfl ?_
    refine ok_goto (tgt := 4) dX6_holder_65 (by decide) ?_
    exact ok_sub [(0, vR 6 0 0), (1, vI x1), (2, vI x2), (3, vI (x3 + 1))] [3, 4, 1, 0] rfl h
  · have h := h.2 z
    refine ok_iload_n (j := 4) dX6_holder_56 rfl rfl ?_
    refine ok_goto (tgt := 61) dX6_holder_57 (by decide) ?_
    refine ok_istore_n (ls2 := [(2, vI x3), (4, vI y0), (0, vR 6 0 0), (1, vI x1), (3, vI x3)]) dX6_holder_61 rfl (by decide) rfl ?_
    refine ok_iinc (j := 4) (v := (x3 + 1)) (ls2 := [(3, vI (x3 + 1)), (2, vI x3), (4, vI y0), (0, vR 6 0 0), (1, vI x1)]) dX6_holder_62 rfl rfl (by decide) rfl ?_
    refine ok_goto (tgt := 4) dX6_holder_65 (by decide) ?_
    exact ok_sub [(0, vR 6 0 0), (1, vI x1), (2, vI x3), (3, vI (x3 + 1))] [3, 4, 1, 0] rfl h
set_option maxRecDepth 100000 in
set_option maxHeartbeats 4000000 in
theorem eX6_isSeen {a b : xA} {h0 : Int64} {Q : Int32 → xM → Prop} {x1 : Int32} {x2 : Int32} {x3 : Int32}  (h : (CI mX6_cellOf [vR 6 0 0, vI x1, vI x2, vI (5 : Int32)] (a, (b, h0)) (fun r1 μ1 => ((x3 ≤ x2 → Q (0 : Int32) μ1) ∧ (¬ x3 ≤ x2 → (CI mX6_cellOf [vR 6 0 0, vI x1, vI x2, vI (0 : Int32)] μ1 (fun r2 μ2 => ((¬ r2 = 0 → Q (0 : Int32) μ2) ∧ (r2 = 0 → ((r1 = 0 → Q (1 : Int32) μ2) ∧ (¬ r1 = 0 → ((¬ r1 = (2 : Int32) → Q (0 : Int32) μ2) ∧ (r1 = (2 : Int32) → Q (1 : Int32) μ2))))))))))))) : CI mX6_isSeen [vR 6 0 0, vI x1, vI x2, vI x3] (a, (b, h0)) Q := by
  refine xCalls_of (by decide) (Nat.le_of_ble_eq_true rfl) ?_
  show xOk mX6_isSeen 0 [(0, vR 6 0 0), (1, vI x1), (2, vI x2), (3, vI x3)] [] (a, (b, h0)) (qI Q)
  refine ok_aload_n (j := 0) dX6_isSeen_0 rfl rfl ?_
  refine ok_iload_n (j := 1) dX6_isSeen_1 rfl rfl ?_
  refine ok_iload_n (j := 2) dX6_isSeen_2 rfl rfl ?_
  refine ok_iconst (v := (5 : Int32)) dX6_isSeen_3 (by decide) ?_
  refine ok_callV (M' := mX6_cellOf) [vI x1, vI x2, vI (5 : Int32)] dX6_isSeen_4 xw_646 fV_X6_cellOf fS_X6_cellOf rfl (by decide) v6 (ob_6 _ _ _) rfl (Nat.le_of_ble_eq_true rfl) (CI.to (CI.mono h ?_))
  intro r1 μ1 h
  refine ok_istore (ls2 := [(4, vI r1), (0, vR 6 0 0), (1, vI x1), (2, vI x2), (3, vI x3)]) dX6_isSeen_7 (by decide) rfl ?_
  refine ok_iload_n (j := 3) dX6_isSeen_9 rfl rfl ?_
  refine ok_iload_n (j := 4) dX6_isSeen_10 rfl rfl ?_
  refine ok_icmp_ge (tgt := 39) dX6_isSeen_11 (by decide) ⟨fun z => ?_, fun z => ?_⟩
  · have h := h.1 z
    refine ok_iconst (v := (0 : Int32)) dX6_isSeen_39 (by decide) ?_
    exact ok_zret rfl (by decide) dX6_isSeen_40 ⟨_, rfl, h⟩
  · have h := h.2 z
    refine ok_aload_n (j := 1) dX6_isSeen_14 rfl rfl ?_
    refine ok_iload_n (j := 2) dX6_isSeen_15 rfl rfl ?_
    refine ok_iload_n (j := 3) dX6_isSeen_16 rfl rfl ?_
    refine ok_iconst (v := (0 : Int32)) dX6_isSeen_17 (by decide) ?_
    refine ok_callV (M' := mX6_cellOf) [vI x1, vI x2, vI (0 : Int32)] dX6_isSeen_18 xw_646 fV_X6_cellOf fS_X6_cellOf rfl (by decide) v6 (ob_6 _ _ _) rfl (Nat.le_of_ble_eq_true rfl) (CI.to (CI.mono h ?_))
    intro r2 μ2 h
    refine ok_if_ne (tgt := 39) dX6_isSeen_21 (by decide) ⟨fun z => ?_, fun z => ?_⟩
    · have h := h.1 z
      refine ok_iconst (v := (0 : Int32)) dX6_isSeen_39 (by decide) ?_
      exact ok_zret rfl (by decide) dX6_isSeen_40 ⟨_, rfl, h⟩
    · have h := h.2 z
      refine ok_iload (j := 0) dX6_isSeen_24 rfl ?_
      refine ok_if_eq (tgt := 35) dX6_isSeen_26 (by decide) ⟨fun z => ?_, fun z => ?_⟩
      · have h := h.1 z
        refine ok_iconst (v := (1 : Int32)) dX6_isSeen_35 (by decide) ?_
        refine ok_goto (tgt := 40) dX6_isSeen_36 (by decide) ?_
        exact ok_zret rfl (by decide) dX6_isSeen_40 ⟨_, rfl, h⟩
      · have h := h.2 z
        refine ok_iload (j := 0) dX6_isSeen_29 rfl ?_
        refine ok_iconst (v := (2 : Int32)) dX6_isSeen_31 (by decide) ?_
        refine ok_icmp_ne (tgt := 39) dX6_isSeen_32 (by decide) ⟨fun z => ?_, fun z => ?_⟩
        · have h := h.1 z
          refine ok_iconst (v := (0 : Int32)) dX6_isSeen_39 (by decide) ?_
          exact ok_zret rfl (by decide) dX6_isSeen_40 ⟨_, rfl, h⟩
        · have h := h.2 z
          refine ok_iconst (v := (1 : Int32)) dX6_isSeen_35 (by decide) ?_
          refine ok_goto (tgt := 40) dX6_isSeen_36 (by decide) ?_
          exact ok_zret rfl (by decide) dX6_isSeen_40 ⟨_, rfl, h⟩
set_option maxRecDepth 100000 in
set_option maxHeartbeats 4000000 in
theorem eX6_part {a b : xA} {h0 : Int64} {Q : Int32 → xM → Prop} {x1 : Int32} {x2 : Int32}  (h : (CI mX6_isPart [vI x1] (a, (b, h0)) (fun r1 μ1 => ((r1 = 0 → (CI mX6_bad [vR 6 0 0] μ1 (fun r2 μ2 => Q r2 μ2))) ∧ (¬ r1 = 0 → (CI mX6_in [vI x2, vI (0 : Int32), vI (5 : Int32)] μ1 (fun r3 μ3 => ((r3 = 0 → (CI mX6_bad [vR 6 0 0] μ3 (fun r4 μ4 => Q r4 μ4))) ∧ (¬ r3 = 0 → (CI mX6_tellPart [vR 6 0 0, vI x1, vI x2] μ3 (fun r5 μ5 => Q r5 μ5))))))))))) : CI mX6_part [vR 6 0 0, vI x1, vI x2] (a, (b, h0)) Q := by
  refine xCalls_of (by decide) (Nat.le_of_ble_eq_true rfl) ?_
  show xOk mX6_part 0 [(0, vR 6 0 0), (1, vI x1), (2, vI x2)] [] (a, (b, h0)) (qI Q)
  refine ok_iload_n (j := 1) dX6_part_0 rfl rfl ?_
  refine ok_callS (M' := mX6_isPart) [vI x1] dX6_part_1 xw_631 fV_X6_isPart fS_X6_isPart (by decide) rfl (Nat.le_of_ble_eq_true rfl) (CI.to (CI.mono h ?_))
  intro r1 μ1 h
  refine ok_if_eq (tgt := 25) dX6_part_4 (by decide) ⟨fun z => ?_, fun z => ?_⟩
  · have h := h.1 z
    refine ok_aload_n (j := 0) dX6_part_25 rfl rfl ?_
    refine ok_callV (M' := mX6_bad) [] dX6_part_26 xw_583 fV_X6_bad fS_X6_bad rfl (by decide) v6 (ob_6 _ _ _) rfl (Nat.le_of_ble_eq_true rfl) (CI.to (CI.mono h ?_))
    intro r2 μ2 h
    exact ok_iret rfl dX6_part_29 ⟨_, rfl, h⟩
  · have h := h.2 z
    refine ok_iload_n (j := 2) dX6_part_7 rfl rfl ?_
    refine ok_iconst (v := (0 : Int32)) dX6_part_8 (by decide) ?_
    refine ok_iconst (v := (5 : Int32)) dX6_part_9 (by decide) ?_
    refine ok_callS (M' := mX6_in) [vI x2, vI (0 : Int32), vI (5 : Int32)] dX6_part_10 xw_580 fV_X6_in fS_X6_in (by decide) rfl (Nat.le_of_ble_eq_true rfl) (CI.to (CI.mono h ?_))
    intro r3 μ3 h
    refine ok_if_eq (tgt := 25) dX6_part_13 (by decide) ⟨fun z => ?_, fun z => ?_⟩
    · have h := h.1 z
      refine ok_aload_n (j := 0) dX6_part_25 rfl rfl ?_
      refine ok_callV (M' := mX6_bad) [] dX6_part_26 xw_583 fV_X6_bad fS_X6_bad rfl (by decide) v6 (ob_6 _ _ _) rfl (Nat.le_of_ble_eq_true rfl) (CI.to (CI.mono h ?_))
      intro r4 μ4 h
      exact ok_iret rfl dX6_part_29 ⟨_, rfl, h⟩
    · have h := h.2 z
      refine ok_aload_n (j := 0) dX6_part_16 rfl rfl ?_
      refine ok_iload_n (j := 1) dX6_part_17 rfl rfl ?_
      refine ok_iload_n (j := 2) dX6_part_18 rfl rfl ?_
      refine ok_callV (M' := mX6_tellPart) [vI x1, vI x2] dX6_part_19 xw_747 fV_X6_tellPart fS_X6_tellPart rfl (by decide) v6 (ob_6 _ _ _) rfl (Nat.le_of_ble_eq_true rfl) (CI.to (CI.mono h ?_))
      intro r5 μ5 h
      refine ok_goto (tgt := 29) dX6_part_22 (by decide) ?_
      exact ok_iret rfl dX6_part_29 ⟨_, rfl, h⟩
set_option maxRecDepth 100000 in
set_option maxHeartbeats 4000000 in
theorem eX6_tellPart {a b : xA} {h0 : Int64} {Q : Int32 → xM → Prop} {x1 : Int32} {x2 : Int32}  (h : ((x2 = (0 : Int32) → (CI mX6_sizeOf [vR 6 0 0, vI x1] (a, (b, h0)) (fun r1 μ1 => Q r1 μ1))) ∧ (¬ x2 = (0 : Int32) → ((x2 = (1 : Int32) → (CI mX6_stable [vR 6 0 0, vI x1] (a, (b, h0)) (fun r2 μ2 => Q r2 μ2))) ∧ (¬ x2 = (1 : Int32) → ((x2 = (2 : Int32) → (CI mX6_seenFrom [vR 6 0 0, vI x1, vI (0 : Int32)] (a, (b, h0)) (fun r3 μ3 => Q r3 μ3))) ∧ (¬ x2 = (2 : Int32) → ((x2 = (3 : Int32) → (CI mX6_owed [vR 6 0 0, vI x1] (a, (b, h0)) (fun r4 μ4 => Q r4 μ4))) ∧ (¬ x2 = (3 : Int32) → ((x2 = (4 : Int32) → (CI mX6_holder [vR 6 0 0, vI x1] (a, (b, h0)) (fun r5 μ5 => Q r5 μ5))) ∧ (¬ x2 = (4 : Int32) → (CI mX6_marksIn [vR 6 0 0, vI x1, vI (1 : Int32)] (a, (b, h0)) (fun r6 μ6 => Q r6 μ6))))))))))))) : CI mX6_tellPart [vR 6 0 0, vI x1, vI x2] (a, (b, h0)) Q := by
  refine xCalls_of (by decide) (Nat.le_of_ble_eq_true rfl) ?_
  show xOk mX6_tellPart 0 [(0, vR 6 0 0), (1, vI x1), (2, vI x2)] [] (a, (b, h0)) (qI Q)
  refine ok_iload_n (j := 2) dX6_tellPart_0 rfl rfl ?_
  by_cases z0 : x2 = (0 : Int32)
  · have h := h.1 z0
    refine ok_table dX6_tellPart_1 rfl (off := 35) (tgt := 36) (by (try dsimp only); rw [z0]; decide) (by decide) ?_
    refine ok_aload_n (j := 0) dX6_tellPart_36 rfl rfl ?_
    refine ok_iload_n (j := 1) dX6_tellPart_37 rfl rfl ?_
    refine ok_callV (M' := mX6_sizeOf) [vI x1] dX6_tellPart_38 xw_638 fV_X6_sizeOf fS_X6_sizeOf rfl (by decide) v6 (ob_6 _ _ _) rfl (Nat.le_of_ble_eq_true rfl) (CI.to (CI.mono h ?_))
    intro r1 μ1 h
    exact ok_iret rfl dX6_tellPart_41 ⟨_, rfl, h⟩
  · have h := h.2 z0
    by_cases z1 : x2 = (1 : Int32)
    · have h := h.1 z1
      refine ok_table dX6_tellPart_1 rfl (off := 41) (tgt := 42) (by (try dsimp only); rw [z1]; decide) (by decide) ?_
      refine ok_aload_n (j := 0) dX6_tellPart_42 rfl rfl ?_
      refine ok_iload_n (j := 1) dX6_tellPart_43 rfl rfl ?_
      refine ok_callV (M' := mX6_stable) [vI x1] dX6_tellPart_44 xw_731 fV_X6_stable fS_X6_stable rfl (by decide) v6 (ob_6 _ _ _) rfl (Nat.le_of_ble_eq_true rfl) (CI.to (CI.mono h ?_))
      intro r2 μ2 h
      exact ok_iret rfl dX6_tellPart_47 ⟨_, rfl, h⟩
    · have h := h.2 z1
      by_cases z2 : x2 = (2 : Int32)
      · have h := h.1 z2
        refine ok_table dX6_tellPart_1 rfl (off := 47) (tgt := 48) (by (try dsimp only); rw [z2]; decide) (by decide) ?_
        refine ok_aload_n (j := 0) dX6_tellPart_48 rfl rfl ?_
        refine ok_iload_n (j := 1) dX6_tellPart_49 rfl rfl ?_
        refine ok_iconst (v := (0 : Int32)) dX6_tellPart_50 (by decide) ?_
        refine ok_callV (M' := mX6_seenFrom) [vI x1, vI (0 : Int32)] dX6_tellPart_51 xw_751 fV_X6_seenFrom fS_X6_seenFrom rfl (by decide) v6 (ob_6 _ _ _) rfl (Nat.le_of_ble_eq_true rfl) (CI.to (CI.mono h ?_))
        intro r3 μ3 h
        exact ok_iret rfl dX6_tellPart_54 ⟨_, rfl, h⟩
      · have h := h.2 z2
        by_cases z3 : x2 = (3 : Int32)
        · have h := h.1 z3
          refine ok_table dX6_tellPart_1 rfl (off := 54) (tgt := 55) (by (try dsimp only); rw [z3]; decide) (by decide) ?_
          refine ok_aload_n (j := 0) dX6_tellPart_55 rfl rfl ?_
          refine ok_iload_n (j := 1) dX6_tellPart_56 rfl rfl ?_
          refine ok_callV (M' := mX6_owed) [vI x1] dX6_tellPart_57 xw_654 fV_X6_owed fS_X6_owed rfl (by decide) v6 (ob_6 _ _ _) rfl (Nat.le_of_ble_eq_true rfl) (CI.to (CI.mono h ?_))
          intro r4 μ4 h
          exact ok_iret rfl dX6_tellPart_60 ⟨_, rfl, h⟩
        · have h := h.2 z3
          by_cases z4 : x2 = (4 : Int32)
          · have h := h.1 z4
            refine ok_table dX6_tellPart_1 rfl (off := 60) (tgt := 61) (by (try dsimp only); rw [z4]; decide) (by decide) ?_
            refine ok_aload_n (j := 0) dX6_tellPart_61 rfl rfl ?_
            refine ok_iload_n (j := 1) dX6_tellPart_62 rfl rfl ?_
            refine ok_callV (M' := mX6_holder) [vI x1] dX6_tellPart_63 xw_735 fV_X6_holder fS_X6_holder rfl (by decide) v6 (ob_6 _ _ _) rfl (Nat.le_of_ble_eq_true rfl) (CI.to (CI.mono h ?_))
            intro r5 μ5 h
            exact ok_iret rfl dX6_tellPart_66 ⟨_, rfl, h⟩
          · have h := h.2 z4
            refine ok_table dX6_tellPart_1 rfl (tgt := 67) (xSw_d [(0 : Int32), (1 : Int32), (2 : Int32), (3 : Int32), (4 : Int32)] (by decide) rfl (by simp only [List.mem_cons, List.not_mem_nil, or_false]; rintro c (rfl | rfl | rfl | rfl | rfl) <;> assumption)) (by decide) ?_
            refine ok_aload_n (j := 0) dX6_tellPart_67 rfl rfl ?_
            refine ok_iload_n (j := 1) dX6_tellPart_68 rfl rfl ?_
            refine ok_iconst (v := (1 : Int32)) dX6_tellPart_69 (by decide) ?_
            refine ok_callV (M' := mX6_marksIn) [vI x1, vI (1 : Int32)] dX6_tellPart_70 xw_755 fV_X6_marksIn fS_X6_marksIn rfl (by decide) v6 (ob_6 _ _ _) rfl (Nat.le_of_ble_eq_true rfl) (CI.to (CI.mono h ?_))
            intro r6 μ6 h
            exact ok_iret rfl dX6_tellPart_73 ⟨_, rfl, h⟩
set_option maxRecDepth 100000 in
set_option maxHeartbeats 4000000 in
theorem eX6_seenFrom {a b : xA} {h0 : Int64} {Q : Int32 → xM → Prop} {x1 : Int32} {x2 : Int32}  (h : (CI mX6_stable [vR 6 0 0, vI x1] (a, (b, h0)) (fun r1 μ1 => xOk mX6_seenFrom 12 [(0, vR 6 0 0), (1, vI x1), (3, vI (0 : Int32)), (4, vI r1), (5, vI x2)] [] μ1 (qI Q)))) : CI mX6_seenFrom [vR 6 0 0, vI x1, vI x2] (a, (b, h0)) Q := by
  refine xCalls_of (by decide) (Nat.le_of_ble_eq_true rfl) ?_
  show xOk mX6_seenFrom 0 [(0, vR 6 0 0), (1, vI x1), (2, vI x2)] [] (a, (b, h0)) (qI Q)
  refine ok_iconst (v := (0 : Int32)) dX6_seenFrom_0 (by decide) ?_
  refine ok_istore_n (ls2 := [(3, vI (0 : Int32)), (0, vR 6 0 0), (1, vI x1), (2, vI x2)]) dX6_seenFrom_1 rfl (by decide) rfl ?_
  refine ok_aload_n (j := 1) dX6_seenFrom_2 rfl rfl ?_
  refine ok_iload_n (j := 2) dX6_seenFrom_3 rfl rfl ?_
  refine ok_callV (M' := mX6_stable) [vI x1] dX6_seenFrom_4 xw_731 fV_X6_stable fS_X6_stable rfl (by decide) v6 (ob_6 _ _ _) rfl (Nat.le_of_ble_eq_true rfl) (CI.to (CI.mono h ?_))
  intro r1 μ1 h
  refine ok_istore (ls2 := [(4, vI r1), (3, vI (0 : Int32)), (0, vR 6 0 0), (1, vI x1), (2, vI x2)]) dX6_seenFrom_7 (by decide) rfl ?_
  refine ok_iload_n (j := 4) dX6_seenFrom_9 rfl rfl ?_
  refine ok_istore (ls2 := [(5, vI x2), (4, vI r1), (3, vI (0 : Int32)), (0, vR 6 0 0), (1, vI x1), (2, vI x2)]) dX6_seenFrom_10 (by decide) rfl ?_
  exact ok_sub [(0, vR 6 0 0), (1, vI x1), (3, vI (0 : Int32)), (4, vI r1), (5, vI x2)] [3, 4, 2, 1, 0] rfl h
set_option maxRecDepth 100000 in
set_option maxHeartbeats 4000000 in
theorem rX6_seenFrom_12 {a b : xA} {h0 : Int64} {Q : Int32 → xM → Prop} {x1 : Int32} {x3 : Int32} {x4 : Int32} {x5 : Int32}  (h : ((x4 ≤ x5 → Q x3 (a, (b, h0))) ∧ (¬ x4 ≤ x5 → (CI mX6_isSeen [vR 6 0 0, vI x1, vI x5, vI x4] (a, (b, h0)) (fun r1 μ1 => ((r1 = 0 → xOk mX6_seenFrom 12 [(0, vR 6 0 0), (1, vI x1), (3, vI (x3 + (0 : Int32))), (4, vI x4), (5, vI (x5 + 1))] [] μ1 (qI Q)) ∧ (¬ r1 = 0 → xOk mX6_seenFrom 12 [(0, vR 6 0 0), (1, vI x1), (3, vI (x3 + (1 : Int32))), (4, vI x4), (5, vI (x5 + 1))] [] μ1 (qI Q)))))))) : xOk mX6_seenFrom 12 [(0, vR 6 0 0), (1, vI x1), (3, vI x3), (4, vI x4), (5, vI x5)] [] (a, (b, h0)) (qI Q) := by
  refine ok_iload (j := 4) dX6_seenFrom_12 rfl ?_
  refine ok_iload (j := 3) dX6_seenFrom_14 rfl ?_
  refine ok_icmp_ge (tgt := 45) dX6_seenFrom_16 (by decide) ⟨fun z => ?_, fun z => ?_⟩
  · have h := h.1 z
    refine ok_iload_n (j := 2) dX6_seenFrom_45 rfl rfl ?_
    exact ok_iret rfl dX6_seenFrom_46 ⟨_, rfl, h⟩
  · have h := h.2 z
    refine ok_iload_n (j := 2) dX6_seenFrom_19 rfl rfl ?_
    refine ok_aload_n (j := 0) dX6_seenFrom_20 rfl rfl ?_
    refine ok_iload_n (j := 1) dX6_seenFrom_21 rfl rfl ?_
    refine ok_iload (j := 4) dX6_seenFrom_22 rfl ?_
    refine ok_iload (j := 3) dX6_seenFrom_24 rfl ?_
    refine ok_callV (M' := mX6_isSeen) [vI x1, vI x5, vI x4] dX6_seenFrom_26 xw_739 fV_X6_isSeen fS_X6_isSeen rfl (by decide) v6 (ob_6 _ _ _) rfl (Nat.le_of_ble_eq_true rfl) (CI.to (CI.mono h ?_))
    intro r1 μ1 h
    refine ok_if_eq (tgt := 36) dX6_seenFrom_29 (by decide) ⟨fun z => ?_, fun z => ?_⟩
    · have h := h.1 z
      refine ok_iconst (v := (0 : Int32)) dX6_seenFrom_36 (by decide) ?_
      refine ok_iadd dX6_seenFrom_37 ?_
      refine ok_istore_n (ls2 := [(3, vI (x3 + (0 : Int32))), (0, vR 6 0 0), (1, vI x1), (4, vI x4), (5, vI x5)]) dX6_seenFrom_38 rfl (by decide) rfl ?_
      refine ok_iinc (j := 4) (v := (x5 + 1)) (ls2 := [(5, vI (x5 + 1)), (3, vI (x3 + (0 : Int32))), (0, vR 6 0 0), (1, vI x1), (4, vI x4)]) dX6_seenFrom_39 rfl rfl (by decide) rfl ?_
      refine ok_goto (tgt := 12) dX6_seenFrom_42 (by decide) ?_
      exact ok_sub [(0, vR 6 0 0), (1, vI x1), (3, vI (x3 + (0 : Int32))), (4, vI x4), (5, vI (x5 + 1))] [2, 3, 1, 4, 0] rfl h
    · have h := h.2 z
      refine ok_iconst (v := (1 : Int32)) dX6_seenFrom_32 (by decide) ?_
      refine ok_goto (tgt := 37) dX6_seenFrom_33 (by decide) ?_
      refine ok_iadd dX6_seenFrom_37 ?_
      refine ok_istore_n (ls2 := [(3, vI (x3 + (1 : Int32))), (0, vR 6 0 0), (1, vI x1), (4, vI x4), (5, vI x5)]) dX6_seenFrom_38 rfl (by decide) rfl ?_
      refine ok_iinc (j := 4) (v := (x5 + 1)) (ls2 := [(5, vI (x5 + 1)), (3, vI (x3 + (1 : Int32))), (0, vR 6 0 0), (1, vI x1), (4, vI x4)]) dX6_seenFrom_39 rfl rfl (by decide) rfl ?_
      refine ok_goto (tgt := 12) dX6_seenFrom_42 (by decide) ?_
      exact ok_sub [(0, vR 6 0 0), (1, vI x1), (3, vI (x3 + (1 : Int32))), (4, vI x4), (5, vI (x5 + 1))] [2, 3, 1, 4, 0] rfl h
set_option maxRecDepth 100000 in
set_option maxHeartbeats 4000000 in
theorem eX6_marksIn {a b : xA} {h0 : Int64} {Q : Int32 → xM → Prop} {x1 : Int32} {x2 : Int32}  (h : xOk mX6_marksIn 5 [(0, vR 6 0 0), (1, vI x1), (2, vI x2), (3, vI (0 : Int32)), (4, vI (0 : Int32))] [] (a, (b, h0)) (qI Q)) : CI mX6_marksIn [vR 6 0 0, vI x1, vI x2] (a, (b, h0)) Q := by
  refine xCalls_of (by decide) (Nat.le_of_ble_eq_true rfl) ?_
  show xOk mX6_marksIn 0 [(0, vR 6 0 0), (1, vI x1), (2, vI x2)] [] (a, (b, h0)) (qI Q)
  refine ok_iconst (v := (0 : Int32)) dX6_marksIn_0 (by decide) ?_
  refine ok_istore_n (ls2 := [(3, vI (0 : Int32)), (0, vR 6 0 0), (1, vI x1), (2, vI x2)]) dX6_marksIn_1 rfl (by decide) rfl ?_
  refine ok_iconst (v := (0 : Int32)) dX6_marksIn_2 (by decide) ?_
  refine ok_istore (ls2 := [(4, vI (0 : Int32)), (3, vI (0 : Int32)), (0, vR 6 0 0), (1, vI x1), (2, vI x2)]) dX6_marksIn_3 (by decide) rfl ?_
  exact ok_sub [(0, vR 6 0 0), (1, vI x1), (2, vI x2), (3, vI (0 : Int32)), (4, vI (0 : Int32))] [2, 3, 4, 1, 0] rfl h
set_option maxRecDepth 100000 in
set_option maxHeartbeats 4000000 in
theorem rX6_marksIn_5 {a b : xA} {h0 : Int64} {Q : Int32 → xM → Prop} {x1 : Int32} {x2 : Int32} {x3 : Int32} {x4 : Int32}  (h : (CI mX6_sizeOf [vR 6 0 0, vI x1] (a, (b, h0)) (fun r1 μ1 => ((r1 ≤ x4 → Q x3 μ1) ∧ (¬ r1 ≤ x4 → (CI mX6_cellOf [vR 6 0 0, vI x1, vI x4, vI (0 : Int32)] μ1 (fun r2 μ2 => ((¬ r2 = (1 : Int32) → xOk mX6_marksIn 5 [(0, vR 6 0 0), (1, vI x1), (2, vI x2), (3, vI (x3 + (0 : Int32))), (4, vI (x4 + 1))] [] μ2 (qI Q)) ∧ (r2 = (1 : Int32) → ((x2 = 0 → xOk mX6_marksIn 5 [(0, vR 6 0 0), (1, vI x1), (2, vI x2), (3, vI (x3 + (1 : Int32))), (4, vI (x4 + 1))] [] μ2 (qI Q)) ∧ (¬ x2 = 0 → (CI mX6_isAbort [vR 6 0 0, vI x1, vI x4] μ2 (fun r3 μ3 => ((r3 = 0 → xOk mX6_marksIn 5 [(0, vR 6 0 0), (1, vI x1), (2, vI x2), (3, vI (x3 + (0 : Int32))), (4, vI (x4 + 1))] [] μ3 (qI Q)) ∧ (¬ r3 = 0 → xOk mX6_marksIn 5 [(0, vR 6 0 0), (1, vI x1), (2, vI x2), (3, vI (x3 + (1 : Int32))), (4, vI (x4 + 1))] [] μ3 (qI Q)))))))))))))))) : xOk mX6_marksIn 5 [(0, vR 6 0 0), (1, vI x1), (2, vI x2), (3, vI x3), (4, vI x4)] [] (a, (b, h0)) (qI Q) := by
  refine ok_iload (j := 4) dX6_marksIn_5 rfl ?_
  refine ok_aload_n (j := 0) dX6_marksIn_7 rfl rfl ?_
  refine ok_iload_n (j := 1) dX6_marksIn_8 rfl rfl ?_
  refine ok_callV (M' := mX6_sizeOf) [vI x1] dX6_marksIn_9 xw_638 fV_X6_sizeOf fS_X6_sizeOf rfl (by decide) v6 (ob_6 _ _ _) rfl (Nat.le_of_ble_eq_true rfl) (CI.to (CI.mono h ?_))
  intro r1 μ1 h
  refine ok_icmp_ge (tgt := 55) dX6_marksIn_12 (by decide) ⟨fun z => ?_, fun z => ?_⟩
  · have h := h.1 z
    refine ok_iload_n (j := 3) dX6_marksIn_55 rfl rfl ?_
    exact ok_iret rfl dX6_marksIn_56 ⟨_, rfl, h⟩
  · have h := h.2 z
    refine ok_iload_n (j := 3) dX6_marksIn_15 rfl rfl ?_
    refine ok_aload_n (j := 0) dX6_marksIn_16 rfl rfl ?_
    refine ok_iload_n (j := 1) dX6_marksIn_17 rfl rfl ?_
    refine ok_iload (j := 4) dX6_marksIn_18 rfl ?_
    refine ok_iconst (v := (0 : Int32)) dX6_marksIn_20 (by decide) ?_
    refine ok_callV (M' := mX6_cellOf) [vI x1, vI x4, vI (0 : Int32)] dX6_marksIn_21 xw_646 fV_X6_cellOf fS_X6_cellOf rfl (by decide) v6 (ob_6 _ _ _) rfl (Nat.le_of_ble_eq_true rfl) (CI.to (CI.mono h ?_))
    intro r2 μ2 h
    refine ok_iconst (v := (1 : Int32)) dX6_marksIn_24 (by decide) ?_
    refine ok_icmp_ne (tgt := 46) dX6_marksIn_25 (by decide) ⟨fun z => ?_, fun z => ?_⟩
    · have h := h.1 z
      refine ok_iconst (v := (0 : Int32)) dX6_marksIn_46 (by decide) ?_
      refine ok_iadd dX6_marksIn_47 ?_
      refine ok_istore_n (ls2 := [(3, vI (x3 + (0 : Int32))), (0, vR 6 0 0), (1, vI x1), (2, vI x2), (4, vI x4)]) dX6_marksIn_48 rfl (by decide) rfl ?_
      refine ok_iinc (j := 4) (v := (x4 + 1)) (ls2 := [(4, vI (x4 + 1)), (3, vI (x3 + (0 : Int32))), (0, vR 6 0 0), (1, vI x1), (2, vI x2)]) dX6_marksIn_49 rfl rfl (by decide) rfl ?_
      refine ok_goto (tgt := 5) dX6_marksIn_52 (by decide) ?_
      exact ok_sub [(0, vR 6 0 0), (1, vI x1), (2, vI x2), (3, vI (x3 + (0 : Int32))), (4, vI (x4 + 1))] [2, 3, 4, 1, 0] rfl h
    · have h := h.2 z
      refine ok_iload_n (j := 2) dX6_marksIn_28 rfl rfl ?_
      refine ok_if_eq (tgt := 42) dX6_marksIn_29 (by decide) ⟨fun z => ?_, fun z => ?_⟩
      · have h := h.1 z
        refine ok_iconst (v := (1 : Int32)) dX6_marksIn_42 (by decide) ?_
        refine ok_goto (tgt := 47) dX6_marksIn_43 (by decide) ?_
        refine ok_iadd dX6_marksIn_47 ?_
        refine ok_istore_n (ls2 := [(3, vI (x3 + (1 : Int32))), (0, vR 6 0 0), (1, vI x1), (2, vI x2), (4, vI x4)]) dX6_marksIn_48 rfl (by decide) rfl ?_
        refine ok_iinc (j := 4) (v := (x4 + 1)) (ls2 := [(4, vI (x4 + 1)), (3, vI (x3 + (1 : Int32))), (0, vR 6 0 0), (1, vI x1), (2, vI x2)]) dX6_marksIn_49 rfl rfl (by decide) rfl ?_
        refine ok_goto (tgt := 5) dX6_marksIn_52 (by decide) ?_
        exact ok_sub [(0, vR 6 0 0), (1, vI x1), (2, vI x2), (3, vI (x3 + (1 : Int32))), (4, vI (x4 + 1))] [2, 3, 4, 1, 0] rfl h
      · have h := h.2 z
        refine ok_aload_n (j := 0) dX6_marksIn_32 rfl rfl ?_
        refine ok_iload_n (j := 1) dX6_marksIn_33 rfl rfl ?_
        refine ok_iload (j := 4) dX6_marksIn_34 rfl ?_
        refine ok_callV (M' := mX6_isAbort) [vI x1, vI x4] dX6_marksIn_36 xw_759 fV_X6_isAbort fS_X6_isAbort rfl (by decide) v6 (ob_6 _ _ _) rfl (Nat.le_of_ble_eq_true rfl) (CI.to (CI.mono h ?_))
        intro r3 μ3 h
        refine ok_if_eq (tgt := 46) dX6_marksIn_39 (by decide) ⟨fun z => ?_, fun z => ?_⟩
        · have h := h.1 z
          refine ok_iconst (v := (0 : Int32)) dX6_marksIn_46 (by decide) ?_
          refine ok_iadd dX6_marksIn_47 ?_
          refine ok_istore_n (ls2 := [(3, vI (x3 + (0 : Int32))), (0, vR 6 0 0), (1, vI x1), (2, vI x2), (4, vI x4)]) dX6_marksIn_48 rfl (by decide) rfl ?_
          refine ok_iinc (j := 4) (v := (x4 + 1)) (ls2 := [(4, vI (x4 + 1)), (3, vI (x3 + (0 : Int32))), (0, vR 6 0 0), (1, vI x1), (2, vI x2)]) dX6_marksIn_49 rfl rfl (by decide) rfl ?_
          refine ok_goto (tgt := 5) dX6_marksIn_52 (by decide) ?_
          exact ok_sub [(0, vR 6 0 0), (1, vI x1), (2, vI x2), (3, vI (x3 + (0 : Int32))), (4, vI (x4 + 1))] [2, 3, 4, 1, 0] rfl h
        · have h := h.2 z
          refine ok_iconst (v := (1 : Int32)) dX6_marksIn_42 (by decide) ?_
          refine ok_goto (tgt := 47) dX6_marksIn_43 (by decide) ?_
          refine ok_iadd dX6_marksIn_47 ?_
          refine ok_istore_n (ls2 := [(3, vI (x3 + (1 : Int32))), (0, vR 6 0 0), (1, vI x1), (2, vI x2), (4, vI x4)]) dX6_marksIn_48 rfl (by decide) rfl ?_
          refine ok_iinc (j := 4) (v := (x4 + 1)) (ls2 := [(4, vI (x4 + 1)), (3, vI (x3 + (1 : Int32))), (0, vR 6 0 0), (1, vI x1), (2, vI x2)]) dX6_marksIn_49 rfl rfl (by decide) rfl ?_
          refine ok_goto (tgt := 5) dX6_marksIn_52 (by decide) ?_
          exact ok_sub [(0, vR 6 0 0), (1, vI x1), (2, vI x2), (3, vI (x3 + (1 : Int32))), (4, vI (x4 + 1))] [2, 3, 4, 1, 0] rfl h
set_option maxRecDepth 100000 in
set_option maxHeartbeats 4000000 in
theorem eX6_isAbort {a b : xA} {h0 : Int64} {Q : Int32 → xM → Prop} {x1 : Int32} {x2 : Int32}  (h : (CI mX6_cellOf [vR 6 0 0, vI x1, vI x2, vI (0 : Int32)] (a, (b, h0)) (fun r1 μ1 => ((¬ r1 = (1 : Int32) → Q (0 : Int32) μ1) ∧ (r1 = (1 : Int32) → (CI mX6_cellOf [vR 6 0 0, vI x1, vI x2, vI (4 : Int32)] μ1 (fun r2 μ2 => ((¬ r2 = 0 → Q (0 : Int32) μ2) ∧ (r2 = 0 → Q (1 : Int32) μ2))))))))) : CI mX6_isAbort [vR 6 0 0, vI x1, vI x2] (a, (b, h0)) Q := by
  refine xCalls_of (by decide) (Nat.le_of_ble_eq_true rfl) ?_
  show xOk mX6_isAbort 0 [(0, vR 6 0 0), (1, vI x1), (2, vI x2)] [] (a, (b, h0)) (qI Q)
  refine ok_aload_n (j := 0) dX6_isAbort_0 rfl rfl ?_
  refine ok_iload_n (j := 1) dX6_isAbort_1 rfl rfl ?_
  refine ok_iload_n (j := 2) dX6_isAbort_2 rfl rfl ?_
  refine ok_iconst (v := (0 : Int32)) dX6_isAbort_3 (by decide) ?_
  refine ok_callV (M' := mX6_cellOf) [vI x1, vI x2, vI (0 : Int32)] dX6_isAbort_4 xw_646 fV_X6_cellOf fS_X6_cellOf rfl (by decide) v6 (ob_6 _ _ _) rfl (Nat.le_of_ble_eq_true rfl) (CI.to (CI.mono h ?_))
  intro r1 μ1 h
  refine ok_iconst (v := (1 : Int32)) dX6_isAbort_7 (by decide) ?_
  refine ok_icmp_ne (tgt := 25) dX6_isAbort_8 (by decide) ⟨fun z => ?_, fun z => ?_⟩
  · have h := h.1 z
    refine ok_iconst (v := (0 : Int32)) dX6_isAbort_25 (by decide) ?_
    exact ok_zret rfl (by decide) dX6_isAbort_26 ⟨_, rfl, h⟩
  · have h := h.2 z
    refine ok_aload_n (j := 0) dX6_isAbort_11 rfl rfl ?_
    refine ok_iload_n (j := 1) dX6_isAbort_12 rfl rfl ?_
    refine ok_iload_n (j := 2) dX6_isAbort_13 rfl rfl ?_
    refine ok_iconst (v := (4 : Int32)) dX6_isAbort_14 (by decide) ?_
    refine ok_callV (M' := mX6_cellOf) [vI x1, vI x2, vI (4 : Int32)] dX6_isAbort_15 xw_646 fV_X6_cellOf fS_X6_cellOf rfl (by decide) v6 (ob_6 _ _ _) rfl (Nat.le_of_ble_eq_true rfl) (CI.to (CI.mono h ?_))
    intro r2 μ2 h
    refine ok_if_ne (tgt := 25) dX6_isAbort_18 (by decide) ⟨fun z => ?_, fun z => ?_⟩
    · have h := h.1 z
      refine ok_iconst (v := (0 : Int32)) dX6_isAbort_25 (by decide) ?_
      exact ok_zret rfl (by decide) dX6_isAbort_26 ⟨_, rfl, h⟩
    · have h := h.2 z
      refine ok_iconst (v := (1 : Int32)) dX6_isAbort_21 (by decide) ?_
      refine ok_goto (tgt := 26) dX6_isAbort_22 (by decide) ?_
      exact ok_zret rfl (by decide) dX6_isAbort_26 ⟨_, rfl, h⟩
set_option maxRecDepth 100000 in
set_option maxHeartbeats 4000000 in
theorem eX6_aborted {a b : xA} {h0 : Int64} {Q : Int32 → xM → Prop} {x1 : Int32} {x2 : Int32} {x3 : Int32}  (h : (CI mX6_isPart [vI x1] (a, (b, h0)) (fun r1 μ1 => ((r1 = 0 → (CI mX6_bad [vR 6 0 0] μ1 (fun r2 μ2 => Q r2 μ2))) ∧ (¬ r1 = 0 → ((x2 < 0 → (CI mX6_bad [vR 6 0 0] μ1 (fun r3 μ3 => Q r3 μ3))) ∧ (¬ x2 < 0 → (CI mX6_in [vI x3, vI (0 : Int32), vI (2 : Int32)] μ1 (fun r4 μ4 => ((r4 = 0 → (CI mX6_bad [vR 6 0 0] μ4 (fun r5 μ5 => Q r5 μ5))) ∧ (¬ r4 = 0 → (CI mX6_tellAborted [vR 6 0 0, vI x1, vI x2, vI x3] μ4 (fun r6 μ6 => Q r6 μ6))))))))))))) : CI mX6_aborted [vR 6 0 0, vI x1, vI x2, vI x3] (a, (b, h0)) Q := by
  refine xCalls_of (by decide) (Nat.le_of_ble_eq_true rfl) ?_
  show xOk mX6_aborted 0 [(0, vR 6 0 0), (1, vI x1), (2, vI x2), (3, vI x3)] [] (a, (b, h0)) (qI Q)
  refine ok_iload_n (j := 1) dX6_aborted_0 rfl rfl ?_
  refine ok_callS (M' := mX6_isPart) [vI x1] dX6_aborted_1 xw_631 fV_X6_isPart fS_X6_isPart (by decide) rfl (Nat.le_of_ble_eq_true rfl) (CI.to (CI.mono h ?_))
  intro r1 μ1 h
  refine ok_if_eq (tgt := 30) dX6_aborted_4 (by decide) ⟨fun z => ?_, fun z => ?_⟩
  · have h := h.1 z
    refine ok_aload_n (j := 0) dX6_aborted_30 rfl rfl ?_
    refine ok_callV (M' := mX6_bad) [] dX6_aborted_31 xw_583 fV_X6_bad fS_X6_bad rfl (by decide) v6 (ob_6 _ _ _) rfl (Nat.le_of_ble_eq_true rfl) (CI.to (CI.mono h ?_))
    intro r2 μ2 h
    exact ok_iret rfl dX6_aborted_34 ⟨_, rfl, h⟩
  · have h := h.2 z
    refine ok_iload_n (j := 2) dX6_aborted_7 rfl rfl ?_
    refine ok_if_lt (tgt := 30) dX6_aborted_8 (by decide) ⟨fun z => ?_, fun z => ?_⟩
    · have h := h.1 z
      refine ok_aload_n (j := 0) dX6_aborted_30 rfl rfl ?_
      refine ok_callV (M' := mX6_bad) [] dX6_aborted_31 xw_583 fV_X6_bad fS_X6_bad rfl (by decide) v6 (ob_6 _ _ _) rfl (Nat.le_of_ble_eq_true rfl) (CI.to (CI.mono h ?_))
      intro r3 μ3 h
      exact ok_iret rfl dX6_aborted_34 ⟨_, rfl, h⟩
    · have h := h.2 z
      refine ok_iload_n (j := 3) dX6_aborted_11 rfl rfl ?_
      refine ok_iconst (v := (0 : Int32)) dX6_aborted_12 (by decide) ?_
      refine ok_iconst (v := (2 : Int32)) dX6_aborted_13 (by decide) ?_
      refine ok_callS (M' := mX6_in) [vI x3, vI (0 : Int32), vI (2 : Int32)] dX6_aborted_14 xw_580 fV_X6_in fS_X6_in (by decide) rfl (Nat.le_of_ble_eq_true rfl) (CI.to (CI.mono h ?_))
      intro r4 μ4 h
      refine ok_if_eq (tgt := 30) dX6_aborted_17 (by decide) ⟨fun z => ?_, fun z => ?_⟩
      · have h := h.1 z
        refine ok_aload_n (j := 0) dX6_aborted_30 rfl rfl ?_
        refine ok_callV (M' := mX6_bad) [] dX6_aborted_31 xw_583 fV_X6_bad fS_X6_bad rfl (by decide) v6 (ob_6 _ _ _) rfl (Nat.le_of_ble_eq_true rfl) (CI.to (CI.mono h ?_))
        intro r5 μ5 h
        exact ok_iret rfl dX6_aborted_34 ⟨_, rfl, h⟩
      · have h := h.2 z
        refine ok_aload_n (j := 0) dX6_aborted_20 rfl rfl ?_
        refine ok_iload_n (j := 1) dX6_aborted_21 rfl rfl ?_
        refine ok_iload_n (j := 2) dX6_aborted_22 rfl rfl ?_
        refine ok_iload_n (j := 3) dX6_aborted_23 rfl rfl ?_
        refine ok_callV (M' := mX6_tellAborted) [vI x1, vI x2, vI x3] dX6_aborted_24 xw_767 fV_X6_tellAborted fS_X6_tellAborted rfl (by decide) v6 (ob_6 _ _ _) rfl (Nat.le_of_ble_eq_true rfl) (CI.to (CI.mono h ?_))
        intro r6 μ6 h
        refine ok_goto (tgt := 34) dX6_aborted_27 (by decide) ?_
        exact ok_iret rfl dX6_aborted_34 ⟨_, rfl, h⟩
set_option maxRecDepth 100000 in
set_option maxHeartbeats 4000000 in
theorem eX6_tellAborted {a b : xA} {h0 : Int64} {Q : Int32 → xM → Prop} {x1 : Int32} {x2 : Int32} {x3 : Int32}  (h : xOk mX6_tellAborted 3 [(0, vR 6 0 0), (1, vI x1), (2, vI x2), (3, vI x3), (4, vI (0 : Int32))] [] (a, (b, h0)) (qI Q)) : CI mX6_tellAborted [vR 6 0 0, vI x1, vI x2, vI x3] (a, (b, h0)) Q := by
  refine xCalls_of (by decide) (Nat.le_of_ble_eq_true rfl) ?_
  show xOk mX6_tellAborted 0 [(0, vR 6 0 0), (1, vI x1), (2, vI x2), (3, vI x3)] [] (a, (b, h0)) (qI Q)
  refine ok_iconst (v := (0 : Int32)) dX6_tellAborted_0 (by decide) ?_
  refine ok_istore (ls2 := [(4, vI (0 : Int32)), (0, vR 6 0 0), (1, vI x1), (2, vI x2), (3, vI x3)]) dX6_tellAborted_1 (by decide) rfl ?_
  exact ok_sub [(0, vR 6 0 0), (1, vI x1), (2, vI x2), (3, vI x3), (4, vI (0 : Int32))] [1, 2, 3, 4, 0] rfl h
set_option maxRecDepth 100000 in
set_option maxHeartbeats 4000000 in
theorem rX6_tellAborted_3 {a b : xA} {h0 : Int64} {Q : Int32 → xM → Prop} {x1 : Int32} {x2 : Int32} {x3 : Int32} {x4 : Int32}  (h : (CI mX6_sizeOf [vR 6 0 0, vI x1] (a, (b, h0)) (fun r1 μ1 => ((r1 ≤ x4 → Q (-1 : Int32) μ1) ∧ (¬ r1 ≤ x4 → (CI mX6_isAbort [vR 6 0 0, vI x1, vI x4] μ1 (fun r2 μ2 => ((r2 = 0 → xOk mX6_tellAborted 3 [(0, vR 6 0 0), (1, vI x1), (2, vI x2), (3, vI x3), (4, vI (x4 + 1))] [] μ2 (qI Q)) ∧ (¬ r2 = 0 → (CI mX6_aheadOf [vR 6 0 0, vI x1, vI x4] μ2 (fun r3 μ3 => ((¬ r3 = x2 → xOk mX6_tellAborted 3 [(0, vR 6 0 0), (1, vI x1), (2, vI x2), (3, vI x3), (4, vI (x4 + 1))] [] μ3 (qI Q)) ∧ (r3 = x2 → ((¬ x3 = 0 → ((¬ x3 = (1 : Int32) → Q x4 μ3) ∧ (x3 = (1 : Int32) → (CI mX6_cellOf [vR 6 0 0, vI x1, vI x4, vI (5 : Int32)] μ3 (fun r4 μ4 => Q r4 μ4))))) ∧ (x3 = 0 → (CI mX6_cellOf [vR 6 0 0, vI x1, vI x4, vI (1 : Int32)] μ3 (fun r5 μ5 => Q r5 μ5))))))))))))))))) : xOk mX6_tellAborted 3 [(0, vR 6 0 0), (1, vI x1), (2, vI x2), (3, vI x3), (4, vI x4)] [] (a, (b, h0)) (qI Q) := by
  refine ok_iload (j := 4) dX6_tellAborted_3 rfl ?_
  refine ok_aload_n (j := 0) dX6_tellAborted_5 rfl rfl ?_
  refine ok_iload_n (j := 1) dX6_tellAborted_6 rfl rfl ?_
  refine ok_callV (M' := mX6_sizeOf) [vI x1] dX6_tellAborted_7 xw_638 fV_X6_sizeOf fS_X6_sizeOf rfl (by decide) v6 (ob_6 _ _ _) rfl (Nat.le_of_ble_eq_true rfl) (CI.to (CI.mono h ?_))
  intro r1 μ1 h
  refine ok_icmp_ge (tgt := 74) dX6_tellAborted_10 (by decide) ⟨fun z => ?_, fun z => ?_⟩
  · have h := h.1 z
    refine ok_iconst (v := (-1 : Int32)) dX6_tellAborted_74 (by decide) ?_
    exact ok_iret rfl dX6_tellAborted_75 ⟨_, rfl, h⟩
  · have h := h.2 z
    refine ok_aload_n (j := 0) dX6_tellAborted_13 rfl rfl ?_
    refine ok_iload_n (j := 1) dX6_tellAborted_14 rfl rfl ?_
    refine ok_iload (j := 4) dX6_tellAborted_15 rfl ?_
    refine ok_callV (M' := mX6_isAbort) [vI x1, vI x4] dX6_tellAborted_17 xw_759 fV_X6_isAbort fS_X6_isAbort rfl (by decide) v6 (ob_6 _ _ _) rfl (Nat.le_of_ble_eq_true rfl) (CI.to (CI.mono h ?_))
    intro r2 μ2 h
    refine ok_if_eq (tgt := 68) dX6_tellAborted_20 (by decide) ⟨fun z => ?_, fun z => ?_⟩
    · have h := h.1 z
      refine ok_iinc (j := 4) (v := (x4 + 1)) (ls2 := [(4, vI (x4 + 1)), (0, vR 6 0 0), (1, vI x1), (2, vI x2), (3, vI x3)]) dX6_tellAborted_68 rfl rfl (by decide) rfl ?_
      refine ok_goto (tgt := 3) dX6_tellAborted_71 (by decide) ?_
      exact ok_sub [(0, vR 6 0 0), (1, vI x1), (2, vI x2), (3, vI x3), (4, vI (x4 + 1))] [1, 2, 3, 4, 0] rfl h
    · have h := h.2 z
      refine ok_aload_n (j := 0) dX6_tellAborted_23 rfl rfl ?_
      refine ok_iload_n (j := 1) dX6_tellAborted_24 rfl rfl ?_
      refine ok_iload (j := 4) dX6_tellAborted_25 rfl ?_
      refine ok_callV (M' := mX6_aheadOf) [vI x1, vI x4] dX6_tellAborted_27 xw_771 fV_X6_aheadOf fS_X6_aheadOf rfl (by decide) v6 (ob_6 _ _ _) rfl (Nat.le_of_ble_eq_true rfl) (CI.to (CI.mono h ?_))
      intro r3 μ3 h
      refine ok_iload_n (j := 2) dX6_tellAborted_30 rfl rfl ?_
      refine ok_icmp_ne (tgt := 68) dX6_tellAborted_31 (by decide) ⟨fun z => ?_, fun z => ?_⟩
      · have h := h.1 z
        refine ok_iinc (j := 4) (v := (x4 + 1)) (ls2 := [(4, vI (x4 + 1)), (0, vR 6 0 0), (1, vI x1), (2, vI x2), (3, vI x3)]) dX6_tellAborted_68 rfl rfl (by decide) rfl ?_
        refine ok_goto (tgt := 3) dX6_tellAborted_71 (by decide) ?_
        exact ok_sub [(0, vR 6 0 0), (1, vI x1), (2, vI x2), (3, vI x3), (4, vI (x4 + 1))] [1, 2, 3, 4, 0] rfl h
      · have h := h.2 z
        refine ok_iload_n (j := 3) dX6_tellAborted_34 rfl rfl ?_
        refine ok_if_ne (tgt := 49) dX6_tellAborted_35 (by decide) ⟨fun z => ?_, fun z => ?_⟩
        · have h := h.1 z
          refine ok_iload_n (j := 3) dX6_tellAborted_49 rfl rfl ?_
          refine ok_iconst (v := (1 : Int32)) dX6_tellAborted_50 (by decide) ?_
          refine ok_icmp_ne (tgt := 65) dX6_tellAborted_51 (by decide) ⟨fun z => ?_, fun z => ?_⟩
          · have h := h.1 z
            refine ok_iload (j := 4) dX6_tellAborted_65 rfl ?_
            exact ok_iret rfl dX6_tellAborted_67 ⟨_, rfl, h⟩
          · have h := h.2 z
            refine ok_aload_n (j := 0) dX6_tellAborted_54 rfl rfl ?_
            refine ok_iload_n (j := 1) dX6_tellAborted_55 rfl rfl ?_
            refine ok_iload (j := 4) dX6_tellAborted_56 rfl ?_
            refine ok_iconst (v := (5 : Int32)) dX6_tellAborted_58 (by decide) ?_
            refine ok_callV (M' := mX6_cellOf) [vI x1, vI x4, vI (5 : Int32)] dX6_tellAborted_59 xw_646 fV_X6_cellOf fS_X6_cellOf rfl (by decide) v6 (ob_6 _ _ _) rfl (Nat.le_of_ble_eq_true rfl) (CI.to (CI.mono h ?_))
            intro r4 μ4 h
            refine ok_goto (tgt := 67) dX6_tellAborted_62 (by decide) ?_
            exact ok_iret rfl dX6_tellAborted_67 ⟨_, rfl, h⟩
        · have h := h.2 z
          refine ok_aload_n (j := 0) dX6_tellAborted_38 rfl rfl ?_
          refine ok_iload_n (j := 1) dX6_tellAborted_39 rfl rfl ?_
          refine ok_iload (j := 4) dX6_tellAborted_40 rfl ?_
          refine ok_iconst (v := (1 : Int32)) dX6_tellAborted_42 (by decide) ?_
          refine ok_callV (M' := mX6_cellOf) [vI x1, vI x4, vI (1 : Int32)] dX6_tellAborted_43 xw_646 fV_X6_cellOf fS_X6_cellOf rfl (by decide) v6 (ob_6 _ _ _) rfl (Nat.le_of_ble_eq_true rfl) (CI.to (CI.mono h ?_))
          intro r5 μ5 h
          refine ok_goto (tgt := 67) dX6_tellAborted_46 (by decide) ?_
          exact ok_iret rfl dX6_tellAborted_67 ⟨_, rfl, h⟩
set_option maxRecDepth 100000 in
set_option maxHeartbeats 4000000 in
theorem eX6_aheadOf {a b : xA} {h0 : Int64} {Q : Int32 → xM → Prop} {x1 : Int32} {x2 : Int32}  (h : xOk mX6_aheadOf 5 [(0, vR 6 0 0), (1, vI x1), (2, vI x2), (3, vI (0 : Int32)), (4, vI (0 : Int32))] [] (a, (b, h0)) (qI Q)) : CI mX6_aheadOf [vR 6 0 0, vI x1, vI x2] (a, (b, h0)) Q := by
  refine xCalls_of (by decide) (Nat.le_of_ble_eq_true rfl) ?_
  show xOk mX6_aheadOf 0 [(0, vR 6 0 0), (1, vI x1), (2, vI x2)] [] (a, (b, h0)) (qI Q)
  refine ok_iconst (v := (0 : Int32)) dX6_aheadOf_0 (by decide) ?_
  refine ok_istore_n (ls2 := [(3, vI (0 : Int32)), (0, vR 6 0 0), (1, vI x1), (2, vI x2)]) dX6_aheadOf_1 rfl (by decide) rfl ?_
  refine ok_iconst (v := (0 : Int32)) dX6_aheadOf_2 (by decide) ?_
  refine ok_istore (ls2 := [(4, vI (0 : Int32)), (3, vI (0 : Int32)), (0, vR 6 0 0), (1, vI x1), (2, vI x2)]) dX6_aheadOf_3 (by decide) rfl ?_
  exact ok_sub [(0, vR 6 0 0), (1, vI x1), (2, vI x2), (3, vI (0 : Int32)), (4, vI (0 : Int32))] [2, 3, 4, 1, 0] rfl h
set_option maxRecDepth 100000 in
set_option maxHeartbeats 4000000 in
theorem rX6_aheadOf_5 {a b : xA} {h0 : Int64} {Q : Int32 → xM → Prop} {x1 : Int32} {x2 : Int32} {x3 : Int32} {x4 : Int32}  (h : (CI mX6_sizeOf [vR 6 0 0, vI x1] (a, (b, h0)) (fun r1 μ1 => ((r1 ≤ x4 → Q x3 μ1) ∧ (¬ r1 ≤ x4 → (CI mX6_isAbort [vR 6 0 0, vI x1, vI x4] μ1 (fun r2 μ2 => ((r2 = 0 → xOk mX6_aheadOf 5 [(0, vR 6 0 0), (1, vI x1), (2, vI x2), (3, vI (x3 + (0 : Int32))), (4, vI (x4 + 1))] [] μ2 (qI Q)) ∧ (¬ r2 = 0 → (CI mX6_cellOf [vR 6 0 0, vI x1, vI x4, vI (5 : Int32)] μ2 (fun r3 μ3 => (CI mX6_cellOf [vR 6 0 0, vI x1, vI x2, vI (5 : Int32)] μ3 (fun r4 μ4 => ((r4 ≤ r3 → xOk mX6_aheadOf 5 [(0, vR 6 0 0), (1, vI x1), (2, vI x2), (3, vI (x3 + (0 : Int32))), (4, vI (x4 + 1))] [] μ4 (qI Q)) ∧ (¬ r4 ≤ r3 → xOk mX6_aheadOf 5 [(0, vR 6 0 0), (1, vI x1), (2, vI x2), (3, vI (x3 + (1 : Int32))), (4, vI (x4 + 1))] [] μ4 (qI Q)))))))))))))))) : xOk mX6_aheadOf 5 [(0, vR 6 0 0), (1, vI x1), (2, vI x2), (3, vI x3), (4, vI x4)] [] (a, (b, h0)) (qI Q) := by
  refine ok_iload (j := 4) dX6_aheadOf_5 rfl ?_
  refine ok_aload_n (j := 0) dX6_aheadOf_7 rfl rfl ?_
  refine ok_iload_n (j := 1) dX6_aheadOf_8 rfl rfl ?_
  refine ok_callV (M' := mX6_sizeOf) [vI x1] dX6_aheadOf_9 xw_638 fV_X6_sizeOf fS_X6_sizeOf rfl (by decide) v6 (ob_6 _ _ _) rfl (Nat.le_of_ble_eq_true rfl) (CI.to (CI.mono h ?_))
  intro r1 μ1 h
  refine ok_icmp_ge (tgt := 57) dX6_aheadOf_12 (by decide) ⟨fun z => ?_, fun z => ?_⟩
  · have h := h.1 z
    refine ok_iload_n (j := 3) dX6_aheadOf_57 rfl rfl ?_
    exact ok_iret rfl dX6_aheadOf_58 ⟨_, rfl, h⟩
  · have h := h.2 z
    refine ok_iload_n (j := 3) dX6_aheadOf_15 rfl rfl ?_
    refine ok_aload_n (j := 0) dX6_aheadOf_16 rfl rfl ?_
    refine ok_iload_n (j := 1) dX6_aheadOf_17 rfl rfl ?_
    refine ok_iload (j := 4) dX6_aheadOf_18 rfl ?_
    refine ok_callV (M' := mX6_isAbort) [vI x1, vI x4] dX6_aheadOf_20 xw_759 fV_X6_isAbort fS_X6_isAbort rfl (by decide) v6 (ob_6 _ _ _) rfl (Nat.le_of_ble_eq_true rfl) (CI.to (CI.mono h ?_))
    intro r2 μ2 h
    refine ok_if_eq (tgt := 48) dX6_aheadOf_23 (by decide) ⟨fun z => ?_, fun z => ?_⟩
    · have h := h.1 z
      refine ok_iconst (v := (0 : Int32)) dX6_aheadOf_48 (by decide) ?_
      refine ok_iadd dX6_aheadOf_49 ?_
      refine ok_istore_n (ls2 := [(3, vI (x3 + (0 : Int32))), (0, vR 6 0 0), (1, vI x1), (2, vI x2), (4, vI x4)]) dX6_aheadOf_50 rfl (by decide) rfl ?_
      refine ok_iinc (j := 4) (v := (x4 + 1)) (ls2 := [(4, vI (x4 + 1)), (3, vI (x3 + (0 : Int32))), (0, vR 6 0 0), (1, vI x1), (2, vI x2)]) dX6_aheadOf_51 rfl rfl (by decide) rfl ?_
      refine ok_goto (tgt := 5) dX6_aheadOf_54 (by decide) ?_
      exact ok_sub [(0, vR 6 0 0), (1, vI x1), (2, vI x2), (3, vI (x3 + (0 : Int32))), (4, vI (x4 + 1))] [2, 3, 4, 1, 0] rfl h
    · have h := h.2 z
      refine ok_aload_n (j := 0) dX6_aheadOf_26 rfl rfl ?_
      refine ok_iload_n (j := 1) dX6_aheadOf_27 rfl rfl ?_
      refine ok_iload (j := 4) dX6_aheadOf_28 rfl ?_
      refine ok_iconst (v := (5 : Int32)) dX6_aheadOf_30 (by decide) ?_
      refine ok_callV (M' := mX6_cellOf) [vI x1, vI x4, vI (5 : Int32)] dX6_aheadOf_31 xw_646 fV_X6_cellOf fS_X6_cellOf rfl (by decide) v6 (ob_6 _ _ _) rfl (Nat.le_of_ble_eq_true rfl) (CI.to (CI.mono h ?_))
      intro r3 μ3 h
      refine ok_aload_n (j := 0) dX6_aheadOf_34 rfl rfl ?_
      refine ok_iload_n (j := 1) dX6_aheadOf_35 rfl rfl ?_
      refine ok_iload_n (j := 2) dX6_aheadOf_36 rfl rfl ?_
      refine ok_iconst (v := (5 : Int32)) dX6_aheadOf_37 (by decide) ?_
      refine ok_callV (M' := mX6_cellOf) [vI x1, vI x2, vI (5 : Int32)] dX6_aheadOf_38 xw_646 fV_X6_cellOf fS_X6_cellOf rfl (by decide) v6 (ob_6 _ _ _) rfl (Nat.le_of_ble_eq_true rfl) (CI.to (CI.mono h ?_))
      intro r4 μ4 h
      refine ok_icmp_ge (tgt := 48) dX6_aheadOf_41 (by decide) ⟨fun z => ?_, fun z => ?_⟩
      · have h := h.1 z
        refine ok_iconst (v := (0 : Int32)) dX6_aheadOf_48 (by decide) ?_
        refine ok_iadd dX6_aheadOf_49 ?_
        refine ok_istore_n (ls2 := [(3, vI (x3 + (0 : Int32))), (0, vR 6 0 0), (1, vI x1), (2, vI x2), (4, vI x4)]) dX6_aheadOf_50 rfl (by decide) rfl ?_
        refine ok_iinc (j := 4) (v := (x4 + 1)) (ls2 := [(4, vI (x4 + 1)), (3, vI (x3 + (0 : Int32))), (0, vR 6 0 0), (1, vI x1), (2, vI x2)]) dX6_aheadOf_51 rfl rfl (by decide) rfl ?_
        refine ok_goto (tgt := 5) dX6_aheadOf_54 (by decide) ?_
        exact ok_sub [(0, vR 6 0 0), (1, vI x1), (2, vI x2), (3, vI (x3 + (0 : Int32))), (4, vI (x4 + 1))] [2, 3, 4, 1, 0] rfl h
      · have h := h.2 z
        refine ok_iconst (v := (1 : Int32)) dX6_aheadOf_44 (by decide) ?_
        refine ok_goto (tgt := 49) dX6_aheadOf_45 (by decide) ?_
        refine ok_iadd dX6_aheadOf_49 ?_
        refine ok_istore_n (ls2 := [(3, vI (x3 + (1 : Int32))), (0, vR 6 0 0), (1, vI x1), (2, vI x2), (4, vI x4)]) dX6_aheadOf_50 rfl (by decide) rfl ?_
        refine ok_iinc (j := 4) (v := (x4 + 1)) (ls2 := [(4, vI (x4 + 1)), (3, vI (x3 + (1 : Int32))), (0, vR 6 0 0), (1, vI x1), (2, vI x2)]) dX6_aheadOf_51 rfl rfl (by decide) rfl ?_
        refine ok_goto (tgt := 5) dX6_aheadOf_54 (by decide) ?_
        exact ok_sub [(0, vR 6 0 0), (1, vI x1), (2, vI x2), (3, vI (x3 + (1 : Int32))), (4, vI (x4 + 1))] [2, 3, 4, 1, 0] rfl h
set_option maxRecDepth 100000 in
set_option maxHeartbeats 4000000 in
theorem eX6_reads {a b : xA} {h0 : Int64} {Q : Int32 → xM → Prop} {x1 : Int32} {x2 : Int32}  (h : (CI mX6_isReader [vI x1] (a, (b, h0)) (fun r1 μ1 => ((r1 = 0 → (CI mX6_bad [vR 6 0 0] μ1 (fun r2 μ2 => Q r2 μ2))) ∧ (¬ r1 = 0 → (CI mX6_isPart [vI x2] μ1 (fun r3 μ3 => ((¬ r3 = 0 → (vp_in (((69 : Int32) + ((6 : Int32) * x1)) + x2) 945 ∧ (CI mX6_firstSeen [vR 6 0 0, vI x2, vI (μ3.2.1 30 0 0 (Int32.toNatClampNeg (((69 : Int32) + ((6 : Int32) * x1)) + x2)))] μ3 (fun r5 μ5 => ((¬ r5 = (-1 : Int32) → (CV mX6_notes [vR 6 0 0] μ5 (fun μ6 => (vp_in (((69 : Int32) + ((6 : Int32) * x1)) + x2) 945 ∧ (CI mX6_cellOf [vR 6 0 0, vI x2, vI r5, vI (4 : Int32)] (μ6.1, ((xUp μ6.2.1 30 0 0 (Int32.toNatClampNeg (((69 : Int32) + ((6 : Int32) * x1)) + x2)) (r5 + (1 : Int32))), μ6.2.2)) (fun r8 μ8 => Q r8 μ8)))))) ∧ (r5 = (-1 : Int32) → Q (-1 : Int32) μ5)))))) ∧ (r3 = 0 → (CI mX6_bad [vR 6 0 0] μ3 (fun r9 μ9 => Q r9 μ9))))))))))) : CI mX6_reads [vR 6 0 0, vI x1, vI x2] (a, (b, h0)) Q := by
  refine xCalls_of (by decide) (Nat.le_of_ble_eq_true rfl) ?_
  show xOk mX6_reads 0 [(0, vR 6 0 0), (1, vI x1), (2, vI x2)] [] (a, (b, h0)) (qI Q)
  refine ok_iload_n (j := 1) dX6_reads_0 rfl rfl ?_
  refine ok_callS (M' := mX6_isReader) [vI x1] dX6_reads_1 xw_684 fV_X6_isReader fS_X6_isReader (by decide) rfl (Nat.le_of_ble_eq_true rfl) (CI.to (CI.mono h ?_))
  intro r1 μ1 h
  refine ok_if_eq (tgt := 14) dX6_reads_4 (by decide) ⟨fun z => ?_, fun z => ?_⟩
  · have h := h.1 z
    refine ok_aload_n (j := 0) dX6_reads_14 rfl rfl ?_
    refine ok_callV (M' := mX6_bad) [] dX6_reads_15 xw_583 fV_X6_bad fS_X6_bad rfl (by decide) v6 (ob_6 _ _ _) rfl (Nat.le_of_ble_eq_true rfl) (CI.to (CI.mono h ?_))
    intro r2 μ2 h
    exact ok_iret rfl dX6_reads_18 ⟨_, rfl, h⟩
  · have h := h.2 z
    refine ok_iload_n (j := 2) dX6_reads_7 rfl rfl ?_
    refine ok_callS (M' := mX6_isPart) [vI x2] dX6_reads_8 xw_631 fV_X6_isPart fS_X6_isPart (by decide) rfl (Nat.le_of_ble_eq_true rfl) (CI.to (CI.mono h ?_))
    intro r3 μ3 h
    refine ok_if_ne (tgt := 19) dX6_reads_11 (by decide) ⟨fun z => ?_, fun z => ?_⟩
    · have h := h.1 z
      refine ok_bipush (v := (69 : Int32)) dX6_reads_19 (by decide) ?_
      refine ok_bipush (v := (6 : Int32)) dX6_reads_21 (by decide) ?_
      refine ok_iload_n (j := 1) dX6_reads_23 rfl rfl ?_
      refine ok_imul dX6_reads_24 ?_
      refine ok_iadd dX6_reads_25 ?_
      refine ok_iload_n (j := 2) dX6_reads_26 rfl rfl ?_
      refine ok_iadd dX6_reads_27 ?_
      refine ok_istore_n (ls2 := [(3, vI (((69 : Int32) + ((6 : Int32) * x1)) + x2)), (0, vR 6 0 0), (1, vI x1), (2, vI x2)]) dX6_reads_28 rfl (by decide) rfl ?_
      refine ok_aload_n (j := 1) dX6_reads_29 rfl rfl ?_
      refine ok_iload_n (j := 3) dX6_reads_30 rfl rfl ?_
      refine ok_aload_n (j := 1) dX6_reads_31 rfl rfl ?_
      refine gf_6_0 dX6_reads_32 v6 xw_530 ?_
      refine ok_iload_n (j := 0) dX6_reads_35 rfl rfl ?_
      obtain ⟨hb4, h⟩ := h
      refine al_30 dX6_reads_36 v30 hb4 ?_
      refine ok_callV (M' := mX6_firstSeen) [vI x2, vI (μ3.2.1 30 0 0 (Int32.toNatClampNeg (((69 : Int32) + ((6 : Int32) * x1)) + x2)))] dX6_reads_37 xw_779 fV_X6_firstSeen fS_X6_firstSeen rfl (by decide) v6 (ob_6 _ _ _) rfl (Nat.le_of_ble_eq_true rfl) (CI.to (CI.mono h ?_))
      intro r5 μ5 h
      refine ok_istore (ls2 := [(4, vI r5), (3, vI (((69 : Int32) + ((6 : Int32) * x1)) + x2)), (0, vR 6 0 0), (1, vI x1), (2, vI x2)]) dX6_reads_40 (by decide) rfl ?_
      refine ok_iload (j := 0) dX6_reads_42 rfl ?_
      refine ok_iconst (v := (-1 : Int32)) dX6_reads_44 (by decide) ?_
      refine ok_icmp_ne (tgt := 50) dX6_reads_45 (by decide) ⟨fun z => ?_, fun z => ?_⟩
      · have h := h.1 z
        refine ok_aload_n (j := 2) dX6_reads_50 rfl rfl ?_
        refine ok_callV (M' := mX6_notes) [] dX6_reads_51 xw_595 fV_X6_notes fS_X6_notes rfl (by decide) v6 (ob_6 _ _ _) rfl (Nat.le_of_ble_eq_true rfl) (CV.to (CV.mono h ?_))
        intro μ6 h
        refine ok_aload_n (j := 2) dX6_reads_54 rfl rfl ?_
        refine gf_6_0 dX6_reads_55 v6 xw_530 ?_
        refine ok_iload_n (j := 1) dX6_reads_58 rfl rfl ?_
        refine ok_iload (j := 0) dX6_reads_59 rfl ?_
        refine ok_iconst (v := (1 : Int32)) dX6_reads_61 (by decide) ?_
        refine ok_iadd dX6_reads_62 ?_
        obtain ⟨hb7, h⟩ := h
        refine as_30 dX6_reads_63 v30 hb7 ?_
        refine ok_aload_n (j := 2) dX6_reads_64 rfl rfl ?_
        refine ok_iload_n (j := 4) dX6_reads_65 rfl rfl ?_
        refine ok_iload (j := 0) dX6_reads_66 rfl ?_
        refine ok_iconst (v := (4 : Int32)) dX6_reads_68 (by decide) ?_
        refine ok_callV (M' := mX6_cellOf) [vI x2, vI r5, vI (4 : Int32)] dX6_reads_69 xw_646 fV_X6_cellOf fS_X6_cellOf rfl (by decide) v6 (ob_6 _ _ _) rfl (Nat.le_of_ble_eq_true rfl) (CI.to (CI.mono h ?_))
        intro r8 μ8 h
        exact ok_iret rfl dX6_reads_72 ⟨_, rfl, h⟩
      · have h := h.2 z
        refine ok_iconst (v := (-1 : Int32)) dX6_reads_48 (by decide) ?_
        exact ok_iret rfl dX6_reads_49 ⟨_, rfl, h⟩
    · have h := h.2 z
      refine ok_aload_n (j := 0) dX6_reads_14 rfl rfl ?_
      refine ok_callV (M' := mX6_bad) [] dX6_reads_15 xw_583 fV_X6_bad fS_X6_bad rfl (by decide) v6 (ob_6 _ _ _) rfl (Nat.le_of_ble_eq_true rfl) (CI.to (CI.mono h ?_))
      intro r9 μ9 h
      exact ok_iret rfl dX6_reads_18 ⟨_, rfl, h⟩
set_option maxRecDepth 100000 in
set_option maxHeartbeats 4000000 in
theorem eX6_firstSeen {a b : xA} {h0 : Int64} {Q : Int32 → xM → Prop} {x1 : Int32} {x2 : Int32}  (h : (CI mX6_stable [vR 6 0 0, vI x1] (a, (b, h0)) (fun r1 μ1 => xOk mX6_firstSeen 9 [(0, vR 6 0 0), (1, vI x1), (3, vI r1), (4, vI x2)] [] μ1 (qI Q)))) : CI mX6_firstSeen [vR 6 0 0, vI x1, vI x2] (a, (b, h0)) Q := by
  refine xCalls_of (by decide) (Nat.le_of_ble_eq_true rfl) ?_
  show xOk mX6_firstSeen 0 [(0, vR 6 0 0), (1, vI x1), (2, vI x2)] [] (a, (b, h0)) (qI Q)
  refine ok_aload_n (j := 0) dX6_firstSeen_0 rfl rfl ?_
  refine ok_iload_n (j := 1) dX6_firstSeen_1 rfl rfl ?_
  refine ok_callV (M' := mX6_stable) [vI x1] dX6_firstSeen_2 xw_731 fV_X6_stable fS_X6_stable rfl (by decide) v6 (ob_6 _ _ _) rfl (Nat.le_of_ble_eq_true rfl) (CI.to (CI.mono h ?_))
  intro r1 μ1 h
  refine ok_istore_n (ls2 := [(3, vI r1), (0, vR 6 0 0), (1, vI x1), (2, vI x2)]) dX6_firstSeen_5 rfl (by decide) rfl ?_
  refine ok_iload_n (j := 3) dX6_firstSeen_6 rfl rfl ?_
  refine ok_istore (ls2 := [(4, vI x2), (3, vI r1), (0, vR 6 0 0), (1, vI x1), (2, vI x2)]) dX6_firstSeen_7 (by decide) rfl ?_
  exact ok_sub [(0, vR 6 0 0), (1, vI x1), (3, vI r1), (4, vI x2)] [2, 3, 1, 0] rfl h
set_option maxRecDepth 100000 in
set_option maxHeartbeats 4000000 in
theorem rX6_firstSeen_9 {a b : xA} {h0 : Int64} {Q : Int32 → xM → Prop} {x1 : Int32} {x3 : Int32} {x4 : Int32}  (h : ((x3 ≤ x4 → Q (-1 : Int32) (a, (b, h0))) ∧ (¬ x3 ≤ x4 → (CI mX6_isSeen [vR 6 0 0, vI x1, vI x4, vI x3] (a, (b, h0)) (fun r1 μ1 => ((r1 = 0 → xOk mX6_firstSeen 9 [(0, vR 6 0 0), (1, vI x1), (3, vI x3), (4, vI (x4 + 1))] [] μ1 (qI Q)) ∧ (¬ r1 = 0 → Q x4 μ1))))))) : xOk mX6_firstSeen 9 [(0, vR 6 0 0), (1, vI x1), (3, vI x3), (4, vI x4)] [] (a, (b, h0)) (qI Q) := by
  refine ok_iload (j := 3) dX6_firstSeen_9 rfl ?_
  refine ok_iload_n (j := 2) dX6_firstSeen_11 rfl rfl ?_
  refine ok_icmp_ge (tgt := 35) dX6_firstSeen_12 (by decide) ⟨fun z => ?_, fun z => ?_⟩
  · have h := h.1 z
    refine ok_iconst (v := (-1 : Int32)) dX6_firstSeen_35 (by decide) ?_
    exact ok_iret rfl dX6_firstSeen_36 ⟨_, rfl, h⟩
  · have h := h.2 z
    refine ok_aload_n (j := 0) dX6_firstSeen_15 rfl rfl ?_
    refine ok_iload_n (j := 1) dX6_firstSeen_16 rfl rfl ?_
    refine ok_iload (j := 3) dX6_firstSeen_17 rfl ?_
    refine ok_iload_n (j := 2) dX6_firstSeen_19 rfl rfl ?_
    refine ok_callV (M' := mX6_isSeen) [vI x1, vI x4, vI x3] dX6_firstSeen_20 xw_739 fV_X6_isSeen fS_X6_isSeen rfl (by decide) v6 (ob_6 _ _ _) rfl (Nat.le_of_ble_eq_true rfl) (CI.to (CI.mono h ?_))
    intro r1 μ1 h
    refine ok_if_eq (tgt := 29) dX6_firstSeen_23 (by decide) ⟨fun z => ?_, fun z => ?_⟩
    · have h := h.1 z
      refine ok_iinc (j := 3) (v := (x4 + 1)) (ls2 := [(4, vI (x4 + 1)), (0, vR 6 0 0), (1, vI x1), (3, vI x3)]) dX6_firstSeen_29 rfl rfl (by decide) rfl ?_
      refine ok_goto (tgt := 9) dX6_firstSeen_32 (by decide) ?_
      exact ok_sub [(0, vR 6 0 0), (1, vI x1), (3, vI x3), (4, vI (x4 + 1))] [1, 2, 3, 0] rfl h
    · have h := h.2 z
      refine ok_iload (j := 3) dX6_firstSeen_26 rfl ?_
      exact ok_iret rfl dX6_firstSeen_28 ⟨_, rfl, h⟩
set_option maxRecDepth 100000 in
set_option maxHeartbeats 4000000 in
theorem eX6_rewinds {a b : xA} {h0 : Int64} {Q : Int32 → xM → Prop} {x1 : Int32}  (h : (CI mX6_isReader [vI x1] (a, (b, h0)) (fun r1 μ1 => ((¬ r1 = 0 → (CV mX6_notes [vR 6 0 0] μ1 (fun μ2 => xOk mX6_rewinds 20 [(0, vR 6 0 0), (1, vI x1), (2, vI (0 : Int32)), (3, vI (0 : Int32))] [] μ2 (qI Q)))) ∧ (r1 = 0 → (CI mX6_bad [vR 6 0 0] μ1 (fun r3 μ3 => Q r3 μ3))))))) : CI mX6_rewinds [vR 6 0 0, vI x1] (a, (b, h0)) Q := by
  refine xCalls_of (by decide) (Nat.le_of_ble_eq_true rfl) ?_
  show xOk mX6_rewinds 0 [(0, vR 6 0 0), (1, vI x1)] [] (a, (b, h0)) (qI Q)
  refine ok_iload_n (j := 1) dX6_rewinds_0 rfl rfl ?_
  refine ok_callS (M' := mX6_isReader) [vI x1] dX6_rewinds_1 xw_684 fV_X6_isReader fS_X6_isReader (by decide) rfl (Nat.le_of_ble_eq_true rfl) (CI.to (CI.mono h ?_))
  intro r1 μ1 h
  refine ok_if_ne (tgt := 12) dX6_rewinds_4 (by decide) ⟨fun z => ?_, fun z => ?_⟩
  · have h := h.1 z
    refine ok_aload_n (j := 0) dX6_rewinds_12 rfl rfl ?_
    refine ok_callV (M' := mX6_notes) [] dX6_rewinds_13 xw_595 fV_X6_notes fS_X6_notes rfl (by decide) v6 (ob_6 _ _ _) rfl (Nat.le_of_ble_eq_true rfl) (CV.to (CV.mono h ?_))
    intro μ2 h
    refine ok_iconst (v := (0 : Int32)) dX6_rewinds_16 (by decide) ?_
    refine ok_istore_n (ls2 := [(2, vI (0 : Int32)), (0, vR 6 0 0), (1, vI x1)]) dX6_rewinds_17 rfl (by decide) rfl ?_
    refine ok_iconst (v := (0 : Int32)) dX6_rewinds_18 (by decide) ?_
    refine ok_istore_n (ls2 := [(3, vI (0 : Int32)), (2, vI (0 : Int32)), (0, vR 6 0 0), (1, vI x1)]) dX6_rewinds_19 rfl (by decide) rfl ?_
    exact ok_sub [(0, vR 6 0 0), (1, vI x1), (2, vI (0 : Int32)), (3, vI (0 : Int32))] [2, 3, 1, 0] rfl h
  · have h := h.2 z
    refine ok_aload_n (j := 0) dX6_rewinds_7 rfl rfl ?_
    refine ok_callV (M' := mX6_bad) [] dX6_rewinds_8 xw_583 fV_X6_bad fS_X6_bad rfl (by decide) v6 (ob_6 _ _ _) rfl (Nat.le_of_ble_eq_true rfl) (CI.to (CI.mono h ?_))
    intro r3 μ3 h
    exact ok_iret rfl dX6_rewinds_11 ⟨_, rfl, h⟩
set_option maxRecDepth 100000 in
set_option maxHeartbeats 4000000 in
theorem rX6_rewinds_20 {a b : xA} {h0 : Int64} {Q : Int32 → xM → Prop} {x1 : Int32} {x2 : Int32} {x3 : Int32}  (h : (((3 : Int32) ≤ x3 → Q x2 (a, (b, h0))) ∧ (¬ (3 : Int32) ≤ x3 → (vp_in (((69 : Int32) + ((6 : Int32) * x1)) + x3) 945 ∧ (vp_in ((((69 : Int32) + ((6 : Int32) * x1)) + x3) + (3 : Int32)) 945 ∧ ((¬ (b 30 0 0 (Int32.toNatClampNeg (((69 : Int32) + ((6 : Int32) * x1)) + x3))) = (b 30 0 0 (Int32.toNatClampNeg ((((69 : Int32) + ((6 : Int32) * x1)) + x3) + (3 : Int32)))) → xOk mX6_rewinds 61 [(0, vR 6 0 0), (1, vI x1), (3, vI x3), (4, vI (((69 : Int32) + ((6 : Int32) * x1)) + x3))] [vI (1 : Int32), vI x2] (a, (b, h0)) (qI Q)) ∧ ((b 30 0 0 (Int32.toNatClampNeg (((69 : Int32) + ((6 : Int32) * x1)) + x3))) = (b 30 0 0 (Int32.toNatClampNeg ((((69 : Int32) + ((6 : Int32) * x1)) + x3) + (3 : Int32)))) → xOk mX6_rewinds 61 [(0, vR 6 0 0), (1, vI x1), (3, vI x3), (4, vI (((69 : Int32) + ((6 : Int32) * x1)) + x3))] [vI (0 : Int32), vI x2] (a, (b, h0)) (qI Q)))))))) : xOk mX6_rewinds 20 [(0, vR 6 0 0), (1, vI x1), (2, vI x2), (3, vI x3)] [] (a, (b, h0)) (qI Q) := by
  refine ok_iload_n (j := 3) dX6_rewinds_20 rfl rfl ?_
  refine ok_iconst (v := (3 : Int32)) dX6_rewinds_21 (by decide) ?_
  refine ok_icmp_ge (tgt := 85) dX6_rewinds_22 (by decide) ⟨fun z => ?_, fun z => ?_⟩
  · have h := h.1 z
    refine ok_iload_n (j := 2) dX6_rewinds_85 rfl rfl ?_
    exact ok_iret rfl dX6_rewinds_86 ⟨_, rfl, h⟩
  · have h := h.2 z
    refine ok_bipush (v := (69 : Int32)) dX6_rewinds_25 (by decide) ?_
    refine ok_bipush (v := (6 : Int32)) dX6_rewinds_27 (by decide) ?_
    refine ok_iload_n (j := 1) dX6_rewinds_29 rfl rfl ?_
    refine ok_imul dX6_rewinds_30 ?_
    refine ok_iadd dX6_rewinds_31 ?_
    refine ok_iload_n (j := 3) dX6_rewinds_32 rfl rfl ?_
    refine ok_iadd dX6_rewinds_33 ?_
    refine ok_istore (ls2 := [(4, vI (((69 : Int32) + ((6 : Int32) * x1)) + x3)), (0, vR 6 0 0), (1, vI x1), (2, vI x2), (3, vI x3)]) dX6_rewinds_34 (by decide) rfl ?_
    refine ok_iload_n (j := 3) dX6_rewinds_36 rfl rfl ?_
    refine ok_aload_n (j := 1) dX6_rewinds_37 rfl rfl ?_
    refine gf_6_0 dX6_rewinds_38 v6 xw_530 ?_
    refine ok_iload (j := 0) dX6_rewinds_41 rfl ?_
    obtain ⟨hb1, h⟩ := h
    refine al_30 dX6_rewinds_43 v30 hb1 ?_
    refine ok_aload_n (j := 1) dX6_rewinds_44 rfl rfl ?_
    refine gf_6_0 dX6_rewinds_45 v6 xw_530 ?_
    refine ok_iload (j := 0) dX6_rewinds_48 rfl ?_
    refine ok_iconst (v := (3 : Int32)) dX6_rewinds_50 (by decide) ?_
    refine ok_iadd dX6_rewinds_51 ?_
    obtain ⟨hb2, h⟩ := h
    refine al_30 dX6_rewinds_52 v30 hb2 ?_
    refine ok_icmp_ne (tgt := 60) dX6_rewinds_53 (by decide) ⟨fun z => ?_, fun z => ?_⟩
    · have h := h.1 z
      refine ok_iconst (v := (1 : Int32)) dX6_rewinds_60 (by decide) ?_
      exact ok_sub [(0, vR 6 0 0), (1, vI x1), (3, vI x3), (4, vI (((69 : Int32) + ((6 : Int32) * x1)) + x3))] [1, 2, 4, 0] rfl h
    · have h := h.2 z
      refine ok_iconst (v := (0 : Int32)) dX6_rewinds_56 (by decide) ?_
      refine ok_goto (tgt := 61) dX6_rewinds_57 (by decide) ?_
      exact ok_sub [(0, vR 6 0 0), (1, vI x1), (3, vI x3), (4, vI (((69 : Int32) + ((6 : Int32) * x1)) + x3))] [1, 2, 4, 0] rfl h
set_option maxRecDepth 100000 in
set_option maxHeartbeats 4000000 in
theorem rX6_rewinds_61 {a b : xA} {h0 : Int64} {Q : Int32 → xM → Prop} {x1 : Int32} {x3 : Int32} {x4 : Int32} {y0 : Int32} {y1 : Int32}  (h : (vp_in (x4 + (3 : Int32)) 945 ∧ (vp_in x4 945 ∧ xOk mX6_rewinds 20 [(0, vR 6 0 0), (1, vI x1), (2, vI (y1 + y0)), (3, vI (x3 + 1))] [] (a, ((xUp b 30 0 0 (Int32.toNatClampNeg x4) (b 30 0 0 (Int32.toNatClampNeg (x4 + (3 : Int32))))), h0)) (qI Q)))) : xOk mX6_rewinds 61 [(0, vR 6 0 0), (1, vI x1), (3, vI x3), (4, vI x4)] [vI y0, vI y1] (a, (b, h0)) (qI Q) := by
  refine ok_iadd dX6_rewinds_61 ?_
  refine ok_istore_n (ls2 := [(2, vI (y1 + y0)), (0, vR 6 0 0), (1, vI x1), (3, vI x3), (4, vI x4)]) dX6_rewinds_62 rfl (by decide) rfl ?_
  refine ok_aload_n (j := 1) dX6_rewinds_63 rfl rfl ?_
  refine gf_6_0 dX6_rewinds_64 v6 xw_530 ?_
  refine ok_iload (j := 4) dX6_rewinds_67 rfl ?_
  refine ok_aload_n (j := 1) dX6_rewinds_69 rfl rfl ?_
  refine gf_6_0 dX6_rewinds_70 v6 xw_530 ?_
  refine ok_iload (j := 4) dX6_rewinds_73 rfl ?_
  refine ok_iconst (v := (3 : Int32)) dX6_rewinds_75 (by decide) ?_
  refine ok_iadd dX6_rewinds_76 ?_
  obtain ⟨hb1, h⟩ := h
  refine al_30 dX6_rewinds_77 v30 hb1 ?_
  obtain ⟨hb2, h⟩ := h
  refine as_30 dX6_rewinds_78 v30 hb2 ?_
  refine ok_iinc (j := 3) (v := (x3 + 1)) (ls2 := [(3, vI (x3 + 1)), (2, vI (y1 + y0)), (0, vR 6 0 0), (1, vI x1), (4, vI x4)]) dX6_rewinds_79 rfl rfl (by decide) rfl ?_
  refine ok_goto (tgt := 20) dX6_rewinds_82 (by decide) ?_
  exact ok_sub [(0, vR 6 0 0), (1, vI x1), (2, vI (y1 + y0)), (3, vI (x3 + 1))] [2, 3, 1, 0] rfl h
set_option maxRecDepth 100000 in
set_option maxHeartbeats 4000000 in
theorem eX6_reader {a b : xA} {h0 : Int64} {Q : Int32 → xM → Prop} {x1 : Int32} {x2 : Int32} {x3 : Int32}  (h : (CI mX6_isReader [vI x1] (a, (b, h0)) (fun r1 μ1 => ((r1 = 0 → (CI mX6_bad [vR 6 0 0] μ1 (fun r2 μ2 => Q r2 μ2))) ∧ (¬ r1 = 0 → (CI mX6_isPart [vI x2] μ1 (fun r3 μ3 => ((r3 = 0 → (CI mX6_bad [vR 6 0 0] μ3 (fun r4 μ4 => Q r4 μ4))) ∧ (¬ r3 = 0 → (CI mX6_in [vI x3, vI (0 : Int32), vI (3 : Int32)] μ3 (fun r5 μ5 => ((r5 = 0 → (CI mX6_bad [vR 6 0 0] μ5 (fun r6 μ6 => Q r6 μ6))) ∧ (¬ r5 = 0 → (CI mX6_tellReader [vR 6 0 0, vI x1, vI x2, vI x3] μ5 (fun r7 μ7 => Q r7 μ7))))))))))))))) : CI mX6_reader [vR 6 0 0, vI x1, vI x2, vI x3] (a, (b, h0)) Q := by
  refine xCalls_of (by decide) (Nat.le_of_ble_eq_true rfl) ?_
  show xOk mX6_reader 0 [(0, vR 6 0 0), (1, vI x1), (2, vI x2), (3, vI x3)] [] (a, (b, h0)) (qI Q)
  refine ok_iload_n (j := 1) dX6_reader_0 rfl rfl ?_
  refine ok_callS (M' := mX6_isReader) [vI x1] dX6_reader_1 xw_684 fV_X6_isReader fS_X6_isReader (by decide) rfl (Nat.le_of_ble_eq_true rfl) (CI.to (CI.mono h ?_))
  intro r1 μ1 h
  refine ok_if_eq (tgt := 33) dX6_reader_4 (by decide) ⟨fun z => ?_, fun z => ?_⟩
  · have h := h.1 z
    refine ok_aload_n (j := 0) dX6_reader_33 rfl rfl ?_
    refine ok_callV (M' := mX6_bad) [] dX6_reader_34 xw_583 fV_X6_bad fS_X6_bad rfl (by decide) v6 (ob_6 _ _ _) rfl (Nat.le_of_ble_eq_true rfl) (CI.to (CI.mono h ?_))
    intro r2 μ2 h
    exact ok_iret rfl dX6_reader_37 ⟨_, rfl, h⟩
  · have h := h.2 z
    refine ok_iload_n (j := 2) dX6_reader_7 rfl rfl ?_
    refine ok_callS (M' := mX6_isPart) [vI x2] dX6_reader_8 xw_631 fV_X6_isPart fS_X6_isPart (by decide) rfl (Nat.le_of_ble_eq_true rfl) (CI.to (CI.mono h ?_))
    intro r3 μ3 h
    refine ok_if_eq (tgt := 33) dX6_reader_11 (by decide) ⟨fun z => ?_, fun z => ?_⟩
    · have h := h.1 z
      refine ok_aload_n (j := 0) dX6_reader_33 rfl rfl ?_
      refine ok_callV (M' := mX6_bad) [] dX6_reader_34 xw_583 fV_X6_bad fS_X6_bad rfl (by decide) v6 (ob_6 _ _ _) rfl (Nat.le_of_ble_eq_true rfl) (CI.to (CI.mono h ?_))
      intro r4 μ4 h
      exact ok_iret rfl dX6_reader_37 ⟨_, rfl, h⟩
    · have h := h.2 z
      refine ok_iload_n (j := 3) dX6_reader_14 rfl rfl ?_
      refine ok_iconst (v := (0 : Int32)) dX6_reader_15 (by decide) ?_
      refine ok_iconst (v := (3 : Int32)) dX6_reader_16 (by decide) ?_
      refine ok_callS (M' := mX6_in) [vI x3, vI (0 : Int32), vI (3 : Int32)] dX6_reader_17 xw_580 fV_X6_in fS_X6_in (by decide) rfl (Nat.le_of_ble_eq_true rfl) (CI.to (CI.mono h ?_))
      intro r5 μ5 h
      refine ok_if_eq (tgt := 33) dX6_reader_20 (by decide) ⟨fun z => ?_, fun z => ?_⟩
      · have h := h.1 z
        refine ok_aload_n (j := 0) dX6_reader_33 rfl rfl ?_
        refine ok_callV (M' := mX6_bad) [] dX6_reader_34 xw_583 fV_X6_bad fS_X6_bad rfl (by decide) v6 (ob_6 _ _ _) rfl (Nat.le_of_ble_eq_true rfl) (CI.to (CI.mono h ?_))
        intro r6 μ6 h
        exact ok_iret rfl dX6_reader_37 ⟨_, rfl, h⟩
      · have h := h.2 z
        refine ok_aload_n (j := 0) dX6_reader_23 rfl rfl ?_
        refine ok_iload_n (j := 1) dX6_reader_24 rfl rfl ?_
        refine ok_iload_n (j := 2) dX6_reader_25 rfl rfl ?_
        refine ok_iload_n (j := 3) dX6_reader_26 rfl rfl ?_
        refine ok_callV (M' := mX6_tellReader) [vI x1, vI x2, vI x3] dX6_reader_27 xw_791 fV_X6_tellReader fS_X6_tellReader rfl (by decide) v6 (ob_6 _ _ _) rfl (Nat.le_of_ble_eq_true rfl) (CI.to (CI.mono h ?_))
        intro r7 μ7 h
        refine ok_goto (tgt := 37) dX6_reader_30 (by decide) ?_
        exact ok_iret rfl dX6_reader_37 ⟨_, rfl, h⟩
set_option maxRecDepth 100000 in
set_option maxHeartbeats 4000000 in
theorem eX6_tellReader {a b : xA} {h0 : Int64} {Q : Int32 → xM → Prop} {x1 : Int32} {x2 : Int32} {x3 : Int32}  (h : ((¬ x3 = 0 → ((¬ x3 = (1 : Int32) → ((¬ x3 = (2 : Int32) → (vp_in (((69 : Int32) + ((6 : Int32) * x1)) + x2) 945 ∧ (CI mX6_firstSeen [vR 6 0 0, vI x2, vI (b 30 0 0 (Int32.toNatClampNeg (((69 : Int32) + ((6 : Int32) * x1)) + x2)))] (a, (b, h0)) (fun r2 μ2 => Q r2 μ2)))) ∧ (x3 = (2 : Int32) → (vp_in (((69 : Int32) + ((6 : Int32) * x1)) + x2) 945 ∧ (CI mX6_seenFrom [vR 6 0 0, vI x2, vI (b 30 0 0 (Int32.toNatClampNeg (((69 : Int32) + ((6 : Int32) * x1)) + x2)))] (a, (b, h0)) (fun r4 μ4 => Q r4 μ4)))))) ∧ (x3 = (1 : Int32) → (vp_in ((((69 : Int32) + ((6 : Int32) * x1)) + x2) + (3 : Int32)) 945 ∧ Q (b 30 0 0 (Int32.toNatClampNeg ((((69 : Int32) + ((6 : Int32) * x1)) + x2) + (3 : Int32)))) (a, (b, h0)))))) ∧ (x3 = 0 → (vp_in (((69 : Int32) + ((6 : Int32) * x1)) + x2) 945 ∧ Q (b 30 0 0 (Int32.toNatClampNeg (((69 : Int32) + ((6 : Int32) * x1)) + x2))) (a, (b, h0)))))) : CI mX6_tellReader [vR 6 0 0, vI x1, vI x2, vI x3] (a, (b, h0)) Q := by
  refine xCalls_of (by decide) (Nat.le_of_ble_eq_true rfl) ?_
  show xOk mX6_tellReader 0 [(0, vR 6 0 0), (1, vI x1), (2, vI x2), (3, vI x3)] [] (a, (b, h0)) (qI Q)
  refine ok_bipush (v := (69 : Int32)) dX6_tellReader_0 (by decide) ?_
  refine ok_bipush (v := (6 : Int32)) dX6_tellReader_2 (by decide) ?_
  refine ok_iload_n (j := 1) dX6_tellReader_4 rfl rfl ?_
  refine ok_imul dX6_tellReader_5 ?_
  refine ok_iadd dX6_tellReader_6 ?_
  refine ok_iload_n (j := 2) dX6_tellReader_7 rfl rfl ?_
  refine ok_iadd dX6_tellReader_8 ?_
  refine ok_istore (ls2 := [(4, vI (((69 : Int32) + ((6 : Int32) * x1)) + x2)), (0, vR 6 0 0), (1, vI x1), (2, vI x2), (3, vI x3)]) dX6_tellReader_9 (by decide) rfl ?_
  refine ok_iload_n (j := 4) dX6_tellReader_11 rfl rfl ?_
  refine ok_if_ne (tgt := 25) dX6_tellReader_12 (by decide) ⟨fun z => ?_, fun z => ?_⟩
  · have h := h.1 z
    refine ok_iload_n (j := 4) dX6_tellReader_25 rfl rfl ?_
    refine ok_iconst (v := (1 : Int32)) dX6_tellReader_26 (by decide) ?_
    refine ok_icmp_ne (tgt := 42) dX6_tellReader_27 (by decide) ⟨fun z => ?_, fun z => ?_⟩
    · have h := h.1 z
      refine ok_iload_n (j := 4) dX6_tellReader_42 rfl rfl ?_
      refine ok_iconst (v := (2 : Int32)) dX6_tellReader_43 (by decide) ?_
      refine ok_icmp_ne (tgt := 62) dX6_tellReader_44 (by decide) ⟨fun z => ?_, fun z => ?_⟩
      · have h := h.1 z
        refine ok_aload_n (j := 1) dX6_tellReader_62 rfl rfl ?_
        refine ok_iload_n (j := 3) dX6_tellReader_63 rfl rfl ?_
        refine ok_aload_n (j := 1) dX6_tellReader_64 rfl rfl ?_
        refine gf_6_0 dX6_tellReader_65 v6 xw_530 ?_
        refine ok_iload (j := 0) dX6_tellReader_68 rfl ?_
        obtain ⟨hb1, h⟩ := h
        refine al_30 dX6_tellReader_70 v30 hb1 ?_
        refine ok_callV (M' := mX6_firstSeen) [vI x2, vI (b 30 0 0 (Int32.toNatClampNeg (((69 : Int32) + ((6 : Int32) * x1)) + x2)))] dX6_tellReader_71 xw_779 fV_X6_firstSeen fS_X6_firstSeen rfl (by decide) v6 (ob_6 _ _ _) rfl (Nat.le_of_ble_eq_true rfl) (CI.to (CI.mono h ?_))
        intro r2 μ2 h
        exact ok_iret rfl dX6_tellReader_74 ⟨_, rfl, h⟩
      · have h := h.2 z
        refine ok_aload_n (j := 1) dX6_tellReader_47 rfl rfl ?_
        refine ok_iload_n (j := 3) dX6_tellReader_48 rfl rfl ?_
        refine ok_aload_n (j := 1) dX6_tellReader_49 rfl rfl ?_
        refine gf_6_0 dX6_tellReader_50 v6 xw_530 ?_
        refine ok_iload (j := 0) dX6_tellReader_53 rfl ?_
        obtain ⟨hb3, h⟩ := h
        refine al_30 dX6_tellReader_55 v30 hb3 ?_
        refine ok_callV (M' := mX6_seenFrom) [vI x2, vI (b 30 0 0 (Int32.toNatClampNeg (((69 : Int32) + ((6 : Int32) * x1)) + x2)))] dX6_tellReader_56 xw_751 fV_X6_seenFrom fS_X6_seenFrom rfl (by decide) v6 (ob_6 _ _ _) rfl (Nat.le_of_ble_eq_true rfl) (CI.to (CI.mono h ?_))
        intro r4 μ4 h
        refine ok_goto (tgt := 74) dX6_tellReader_59 (by decide) ?_
        exact ok_iret rfl dX6_tellReader_74 ⟨_, rfl, h⟩
    · have h := h.2 z
      refine ok_aload_n (j := 1) dX6_tellReader_30 rfl rfl ?_
      refine gf_6_0 dX6_tellReader_31 v6 xw_530 ?_
      refine ok_iload (j := 0) dX6_tellReader_34 rfl ?_
      refine ok_iconst (v := (3 : Int32)) dX6_tellReader_36 (by decide) ?_
      refine ok_iadd dX6_tellReader_37 ?_
      obtain ⟨hb5, h⟩ := h
      refine al_30 dX6_tellReader_38 v30 hb5 ?_
      refine ok_goto (tgt := 74) dX6_tellReader_39 (by decide) ?_
      exact ok_iret rfl dX6_tellReader_74 ⟨_, rfl, h⟩
  · have h := h.2 z
    refine ok_aload_n (j := 1) dX6_tellReader_15 rfl rfl ?_
    refine gf_6_0 dX6_tellReader_16 v6 xw_530 ?_
    refine ok_iload (j := 0) dX6_tellReader_19 rfl ?_
    obtain ⟨hb6, h⟩ := h
    refine al_30 dX6_tellReader_21 v30 hb6 ?_
    refine ok_goto (tgt := 74) dX6_tellReader_22 (by decide) ?_
    exact ok_iret rfl dX6_tellReader_74 ⟨_, rfl, h⟩
set_option maxRecDepth 100000 in
set_option maxHeartbeats 4000000 in
theorem eX6_type {a b : xA} {h0 : Int64} {Q : Int32 → xM → Prop} {x1 : Int32}  (h : (CI mX6_in [vI x1, vI (0 : Int32), vI (127 : Int32)] (a, (b, h0)) (fun r1 μ1 => ((¬ r1 = 0 → ((¬ (μ1.2.1 6 0 0 6) = (120 : Int32) → (vp_in (μ1.2.1 6 0 0 6) 120 ∧ Q ((xUp (xUp μ1.2.1 33 0 0 (Int32.toNatClampNeg (μ1.2.1 6 0 0 6)) x1) 6 0 0 6 (((xUp μ1.2.1 33 0 0 (Int32.toNatClampNeg (μ1.2.1 6 0 0 6)) x1) 6 0 0 6) + (1 : Int32))) 6 0 0 6) (μ1.1, ((xUp (xUp μ1.2.1 33 0 0 (Int32.toNatClampNeg (μ1.2.1 6 0 0 6)) x1) 6 0 0 6 (((xUp μ1.2.1 33 0 0 (Int32.toNatClampNeg (μ1.2.1 6 0 0 6)) x1) 6 0 0 6) + (1 : Int32))), μ1.2.2)))) ∧ ((μ1.2.1 6 0 0 6) = (120 : Int32) → (CI mX6_refuse [vR 6 0 0, vI (4 : Int32), vI (-4 : Int32)] μ1 (fun r3 μ3 => Q r3 μ3))))) ∧ (r1 = 0 → (CI mX6_bad [vR 6 0 0] μ1 (fun r4 μ4 => Q r4 μ4))))))) : CI mX6_type [vR 6 0 0, vI x1] (a, (b, h0)) Q := by
  refine xCalls_of (by decide) (Nat.le_of_ble_eq_true rfl) ?_
  show xOk mX6_type 0 [(0, vR 6 0 0), (1, vI x1)] [] (a, (b, h0)) (qI Q)
  refine ok_iload_n (j := 1) dX6_type_0 rfl rfl ?_
  refine ok_iconst (v := (0 : Int32)) dX6_type_1 (by decide) ?_
  refine ok_bipush (v := (127 : Int32)) dX6_type_2 (by decide) ?_
  refine ok_callS (M' := mX6_in) [vI x1, vI (0 : Int32), vI (127 : Int32)] dX6_type_4 xw_580 fV_X6_in fS_X6_in (by decide) rfl (Nat.le_of_ble_eq_true rfl) (CI.to (CI.mono h ?_))
  intro r1 μ1 h
  refine ok_if_ne (tgt := 15) dX6_type_7 (by decide) ⟨fun z => ?_, fun z => ?_⟩
  · have h := h.1 z
    refine ok_aload_n (j := 0) dX6_type_15 rfl rfl ?_
    refine gf_6_6 dX6_type_16 v6 xw_536 ?_
    refine ok_bipush (v := (120 : Int32)) dX6_type_19 (by decide) ?_
    refine ok_icmp_ne (tgt := 32) dX6_type_21 (by decide) ⟨fun z => ?_, fun z => ?_⟩
    · have h := h.1 z
      refine ok_aload_n (j := 0) dX6_type_32 rfl rfl ?_
      refine gf_6_5 dX6_type_33 v6 xw_535 ?_
      refine ok_aload_n (j := 0) dX6_type_36 rfl rfl ?_
      refine gf_6_6 dX6_type_37 v6 xw_536 ?_
      refine ok_iload_n (j := 1) dX6_type_40 rfl rfl ?_
      obtain ⟨hb2, h⟩ := h
      refine as_33 dX6_type_41 v33 hb2 ?_
      refine ok_aload_n (j := 0) dX6_type_42 rfl rfl ?_
      refine ok_dup dX6_type_43 rfl ?_
      refine gf_6_6 dX6_type_44 v6 xw_536 ?_
      refine ok_iconst (v := (1 : Int32)) dX6_type_47 (by decide) ?_
      refine ok_iadd dX6_type_48 ?_
      refine pf_6_6 dX6_type_49 v6 xw_536 ?_
      refine ok_aload_n (j := 0) dX6_type_52 rfl rfl ?_
      refine gf_6_6 dX6_type_53 v6 xw_536 ?_
      exact ok_iret rfl dX6_type_56 ⟨_, rfl, h⟩
    · have h := h.2 z
      refine ok_aload_n (j := 0) dX6_type_24 rfl rfl ?_
      refine ok_iconst (v := (4 : Int32)) dX6_type_25 (by decide) ?_
      refine ok_bipush (v := (-4 : Int32)) dX6_type_26 (by decide) ?_
      refine ok_callV (M' := mX6_refuse) [vI (4 : Int32), vI (-4 : Int32)] dX6_type_28 xw_587 fV_X6_refuse fS_X6_refuse rfl (by decide) v6 (ob_6 _ _ _) rfl (Nat.le_of_ble_eq_true rfl) (CI.to (CI.mono h ?_))
      intro r3 μ3 h
      exact ok_iret rfl dX6_type_31 ⟨_, rfl, h⟩
  · have h := h.2 z
    refine ok_aload_n (j := 0) dX6_type_10 rfl rfl ?_
    refine ok_callV (M' := mX6_bad) [] dX6_type_11 xw_583 fV_X6_bad fS_X6_bad rfl (by decide) v6 (ob_6 _ _ _) rfl (Nat.le_of_ble_eq_true rfl) (CI.to (CI.mono h ?_))
    intro r4 μ4 h
    exact ok_iret rfl dX6_type_14 ⟨_, rfl, h⟩
set_option maxRecDepth 100000 in
set_option maxHeartbeats 4000000 in
theorem eX6_clear {a b : xA} {h0 : Int64} {Q : Int32 → xM → Prop}   (h : Q (b 6 0 0 6) (a, ((xUp b 6 0 0 6 (0 : Int32)), h0))) : CI mX6_clear [vR 6 0 0] (a, (b, h0)) Q := by
  refine xCalls_of (by decide) (Nat.le_of_ble_eq_true rfl) ?_
  show xOk mX6_clear 0 [(0, vR 6 0 0)] [] (a, (b, h0)) (qI Q)
  refine ok_aload_n (j := 0) dX6_clear_0 rfl rfl ?_
  refine gf_6_6 dX6_clear_1 v6 xw_536 ?_
  refine ok_istore_n (ls2 := [(1, vI (b 6 0 0 6)), (0, vR 6 0 0)]) dX6_clear_4 rfl (by decide) rfl ?_
  refine ok_aload_n (j := 1) dX6_clear_5 rfl rfl ?_
  refine ok_iconst (v := (0 : Int32)) dX6_clear_6 (by decide) ?_
  refine pf_6_6 dX6_clear_7 v6 xw_536 ?_
  refine ok_iload_n (j := 0) dX6_clear_10 rfl rfl ?_
  exact ok_iret rfl dX6_clear_11 ⟨_, rfl, h⟩
set_option maxRecDepth 100000 in
set_option maxHeartbeats 4000000 in
theorem eX6_does {a b : xA} {h0 : Int64} {Q : Int32 → xM → Prop}   (h : (CI mX6_parses [vR 6 0 0] (a, (b, h0)) (fun r1 μ1 => ((¬ r1 = 0 → (CV mX6_copies [vR 6 0 0, vR 30 0 0, vI (0 : Int32), vR 31 0 0, vI (5670 : Int32)] μ1 (fun μ2 => xOk mX6_does 40 [(0, vR 6 0 0), (1, vI (0 : Int32)), (2, vI (0 : Int32))] [] (μ2.1, ((xUp μ2.2.1 6 0 0 3 (1 : Int32)), μ2.2.2)) (qI Q)))) ∧ (r1 = 0 → Q ((-10 : Int32) - (μ1.2.1 6 0 0 8)) μ1))))) : CI mX6_does [vR 6 0 0] (a, (b, h0)) Q := by
  refine xCalls_of (by decide) (Nat.le_of_ble_eq_true rfl) ?_
  show xOk mX6_does 0 [(0, vR 6 0 0)] [] (a, (b, h0)) (qI Q)
  refine ok_aload_n (j := 0) dX6_does_0 rfl rfl ?_
  refine ok_callV (M' := mX6_parses) [] dX6_does_1 xw_807 fV_X6_parses fS_X6_parses rfl (by decide) v6 (ob_6 _ _ _) rfl (Nat.le_of_ble_eq_true rfl) (CI.to (CI.mono h ?_))
  intro r1 μ1 h
  refine ok_if_ne (tgt := 15) dX6_does_4 (by decide) ⟨fun z => ?_, fun z => ?_⟩
  · have h := h.1 z
    refine ok_aload_n (j := 0) dX6_does_15 rfl rfl ?_
    refine ok_aload_n (j := 0) dX6_does_16 rfl rfl ?_
    refine gf_6_0 dX6_does_17 v6 xw_530 ?_
    refine ok_iconst (v := (0 : Int32)) dX6_does_20 (by decide) ?_
    refine ok_aload_n (j := 0) dX6_does_21 rfl rfl ?_
    refine gf_6_1 dX6_does_22 v6 xw_531 ?_
    refine ok_sipush (v := (5670 : Int32)) dX6_does_25 (by decide) ?_
    refine ok_callV (M' := mX6_copies) [vR 30 0 0, vI (0 : Int32), vR 31 0 0, vI (5670 : Int32)] dX6_does_28 xw_603 fV_X6_copies fS_X6_copies rfl (by decide) v6 (ob_6 _ _ _) rfl (Nat.le_of_ble_eq_true rfl) (CV.to (CV.mono h ?_))
    intro μ2 h
    refine ok_aload_n (j := 0) dX6_does_31 rfl rfl ?_
    refine ok_iconst (v := (1 : Int32)) dX6_does_32 (by decide) ?_
    refine pf_6_3 dX6_does_33 v6 xw_533 (by decide) ?_
    refine ok_iconst (v := (0 : Int32)) dX6_does_36 (by decide) ?_
    refine ok_istore_n (ls2 := [(1, vI (0 : Int32)), (0, vR 6 0 0)]) dX6_does_37 rfl (by decide) rfl ?_
    refine ok_iconst (v := (0 : Int32)) dX6_does_38 (by decide) ?_
    refine ok_istore_n (ls2 := [(2, vI (0 : Int32)), (1, vI (0 : Int32)), (0, vR 6 0 0)]) dX6_does_39 rfl (by decide) rfl ?_
    exact ok_sub [(0, vR 6 0 0), (1, vI (0 : Int32)), (2, vI (0 : Int32))] [2, 1, 0] rfl h
  · have h := h.2 z
    refine ok_bipush (v := (-10 : Int32)) dX6_does_7 (by decide) ?_
    refine ok_aload_n (j := 0) dX6_does_9 rfl rfl ?_
    refine gf_6_8 dX6_does_10 v6 xw_538 ?_
    refine ok_isub dX6_does_13 ?_
    exact ok_iret rfl dX6_does_14 ⟨_, rfl, h⟩
set_option maxRecDepth 100000 in
set_option maxHeartbeats 4000000 in
theorem rX6_does_40 {a b : xA} {h0 : Int64} {Q : Int32 → xM → Prop} {x1 : Int32} {x2 : Int32}  (h : (((b 6 0 0 9) ≤ x2 → (CV mX6_keeps [vR 6 0 0, vR 31 0 0, vI (5670 : Int32)] (a, ((xUp b 6 0 0 3 (0 : Int32)), h0)) (fun μ1 => Q x1 μ1))) ∧ (¬ (b 6 0 0 9) ≤ x2 → (CI mX6_answers [vR 6 0 0, vI x2] (a, (b, h0)) (fun r2 μ2 => ((((xUp μ2.2.1 6 0 0 12 r2) 6 0 0 12) < 0 → xOk mX6_does 40 [(0, vR 6 0 0), (1, vI (x1 + (0 : Int32))), (2, vI (x2 + 1))] [] (μ2.1, ((xUp μ2.2.1 6 0 0 12 r2), μ2.2.2)) (qI Q)) ∧ (¬ ((xUp μ2.2.1 6 0 0 12 r2) 6 0 0 12) < 0 → xOk mX6_does 40 [(0, vR 6 0 0), (1, vI (x1 + (1 : Int32))), (2, vI (x2 + 1))] [] (μ2.1, ((xUp μ2.2.1 6 0 0 12 r2), μ2.2.2)) (qI Q)))))))) : xOk mX6_does 40 [(0, vR 6 0 0), (1, vI x1), (2, vI x2)] [] (a, (b, h0)) (qI Q) := by
  refine ok_iload_n (j := 2) dX6_does_40 rfl rfl ?_
  refine ok_aload_n (j := 0) dX6_does_41 rfl rfl ?_
  refine gf_6_9 dX6_does_42 v6 xw_539 ?_
  refine ok_icmp_ge (tgt := 78) dX6_does_45 (by decide) ⟨fun z => ?_, fun z => ?_⟩
  · have h := h.1 z
    refine ok_aload_n (j := 0) dX6_does_78 rfl rfl ?_
    refine ok_iconst (v := (0 : Int32)) dX6_does_79 (by decide) ?_
    refine pf_6_3 dX6_does_80 v6 xw_533 (by decide) ?_
    refine ok_aload_n (j := 0) dX6_does_83 rfl rfl ?_
    refine ok_aload_n (j := 0) dX6_does_84 rfl rfl ?_
    refine gf_6_1 dX6_does_85 v6 xw_531 ?_
    refine ok_sipush (v := (5670 : Int32)) dX6_does_88 (by decide) ?_
    refine ok_callV (M' := mX6_keeps) [vR 31 0 0, vI (5670 : Int32)] dX6_does_91 xw_599 fV_X6_keeps fS_X6_keeps rfl (by decide) v6 (ob_6 _ _ _) rfl (Nat.le_of_ble_eq_true rfl) (CV.to (CV.mono h ?_))
    intro μ1 h
    refine ok_iload_n (j := 1) dX6_does_94 rfl rfl ?_
    exact ok_iret rfl dX6_does_95 ⟨_, rfl, h⟩
  · have h := h.2 z
    refine ok_aload_n (j := 0) dX6_does_48 rfl rfl ?_
    refine ok_aload_n (j := 0) dX6_does_49 rfl rfl ?_
    refine ok_iload_n (j := 2) dX6_does_50 rfl rfl ?_
    refine ok_callV (M' := mX6_answers) [vI x2] dX6_does_51 xw_838 fV_X6_answers fS_X6_answers rfl (by decide) v6 (ob_6 _ _ _) rfl (Nat.le_of_ble_eq_true rfl) (CI.to (CI.mono h ?_))
    intro r2 μ2 h
    refine pf_6_12 dX6_does_54 v6 xw_542 ?_
    refine ok_iload_n (j := 1) dX6_does_57 rfl rfl ?_
    refine ok_aload_n (j := 0) dX6_does_58 rfl rfl ?_
    refine gf_6_12 dX6_does_59 v6 xw_542 ?_
    refine ok_if_lt (tgt := 69) dX6_does_62 (by decide) ⟨fun z => ?_, fun z => ?_⟩
    · have h := h.1 z
      refine ok_iconst (v := (0 : Int32)) dX6_does_69 (by decide) ?_
      refine ok_iadd dX6_does_70 ?_
      refine ok_istore_n (ls2 := [(1, vI (x1 + (0 : Int32))), (0, vR 6 0 0), (2, vI x2)]) dX6_does_71 rfl (by decide) rfl ?_
      refine ok_iinc (j := 2) (v := (x2 + 1)) (ls2 := [(2, vI (x2 + 1)), (1, vI (x1 + (0 : Int32))), (0, vR 6 0 0)]) dX6_does_72 rfl rfl (by decide) rfl ?_
      refine ok_goto (tgt := 40) dX6_does_75 (by decide) ?_
      exact ok_sub [(0, vR 6 0 0), (1, vI (x1 + (0 : Int32))), (2, vI (x2 + 1))] [2, 1, 0] rfl h
    · have h := h.2 z
      refine ok_iconst (v := (1 : Int32)) dX6_does_65 (by decide) ?_
      refine ok_goto (tgt := 70) dX6_does_66 (by decide) ?_
      refine ok_iadd dX6_does_70 ?_
      refine ok_istore_n (ls2 := [(1, vI (x1 + (1 : Int32))), (0, vR 6 0 0), (2, vI x2)]) dX6_does_71 rfl (by decide) rfl ?_
      refine ok_iinc (j := 2) (v := (x2 + 1)) (ls2 := [(2, vI (x2 + 1)), (1, vI (x1 + (1 : Int32))), (0, vR 6 0 0)]) dX6_does_72 rfl rfl (by decide) rfl ?_
      refine ok_goto (tgt := 40) dX6_does_75 (by decide) ?_
      exact ok_sub [(0, vR 6 0 0), (1, vI (x1 + (1 : Int32))), (2, vI (x2 + 1))] [2, 1, 0] rfl h
set_option maxRecDepth 100000 in
set_option maxHeartbeats 4000000 in
theorem eX6_parses {a b : xA} {h0 : Int64} {Q : Int32 → xM → Prop}   (h : (CV mX6_skips [vR 6 0 0] (a, ((xUp (xUp b 6 0 0 7 (0 : Int32)) 6 0 0 9 (0 : Int32)), h0)) (fun μ1 => xOk mX6_parses 16 [(0, vR 6 0 0), (1, vI (1 : Int32))] [] μ1 (qI Q)))) : CI mX6_parses [vR 6 0 0] (a, (b, h0)) Q := by
  refine xCalls_of (by decide) (Nat.le_of_ble_eq_true rfl) ?_
  show xOk mX6_parses 0 [(0, vR 6 0 0)] [] (a, (b, h0)) (qI Q)
  refine ok_aload_n (j := 0) dX6_parses_0 rfl rfl ?_
  refine ok_iconst (v := (0 : Int32)) dX6_parses_1 (by decide) ?_
  refine pf_6_7 dX6_parses_2 v6 xw_537 ?_
  refine ok_aload_n (j := 0) dX6_parses_5 rfl rfl ?_
  refine ok_iconst (v := (0 : Int32)) dX6_parses_6 (by decide) ?_
  refine pf_6_9 dX6_parses_7 v6 xw_539 ?_
  refine ok_iconst (v := (1 : Int32)) dX6_parses_10 (by decide) ?_
  refine ok_istore_n (ls2 := [(1, vI (1 : Int32)), (0, vR 6 0 0)]) dX6_parses_11 rfl (by decide) rfl ?_
  refine ok_aload_n (j := 1) dX6_parses_12 rfl rfl ?_
  refine ok_callV (M' := mX6_skips) [] dX6_parses_13 xw_811 fV_X6_skips fS_X6_skips rfl (by decide) v6 (ob_6 _ _ _) rfl (Nat.le_of_ble_eq_true rfl) (CV.to (CV.mono h ?_))
  intro μ1 h
  exact ok_sub [(0, vR 6 0 0), (1, vI (1 : Int32))] [1, 0] rfl h
set_option maxRecDepth 100000 in
set_option maxHeartbeats 4000000 in
theorem rX6_parses_16 {a b : xA} {h0 : Int64} {Q : Int32 → xM → Prop} {x1 : Int32}  (h : ((x1 = 0 → ((x1 = 0 ∨ x1 = 1) ∧ Q x1 (a, (b, h0)))) ∧ (¬ x1 = 0 → (((b 6 0 0 9) = 0 → xOk mX6_parses 38 [(0, vR 6 0 0)] [] (a, (b, h0)) (qI Q)) ∧ (¬ (b 6 0 0 9) = 0 → (((b 6 0 0 6) ≤ (b 6 0 0 7) → ((x1 = 0 ∨ x1 = 1) ∧ Q x1 (a, (b, h0)))) ∧ (¬ (b 6 0 0 6) ≤ (b 6 0 0 7) → xOk mX6_parses 38 [(0, vR 6 0 0)] [] (a, (b, h0)) (qI Q)))))))) : xOk mX6_parses 16 [(0, vR 6 0 0), (1, vI x1)] [] (a, (b, h0)) (qI Q) := by
  refine ok_iload_n (j := 1) dX6_parses_16 rfl rfl ?_
  refine ok_if_eq (tgt := 54) dX6_parses_17 (by decide) ⟨fun z => ?_, fun z => ?_⟩
  · have h := h.1 z
    refine ok_iload_n (j := 1) dX6_parses_54 rfl rfl ?_
    obtain ⟨hz, h⟩ := h
    exact ok_zret rfl hz dX6_parses_55 ⟨_, rfl, h⟩
  · have h := h.2 z
    refine ok_aload_n (j := 0) dX6_parses_20 rfl rfl ?_
    refine gf_6_9 dX6_parses_21 v6 xw_539 ?_
    refine ok_if_eq (tgt := 38) dX6_parses_24 (by decide) ⟨fun z => ?_, fun z => ?_⟩
    · have h := h.1 z
      exact ok_sub [(0, vR 6 0 0)] [0] rfl h
    · have h := h.2 z
      refine ok_aload_n (j := 0) dX6_parses_27 rfl rfl ?_
      refine gf_6_7 dX6_parses_28 v6 xw_537 ?_
      refine ok_aload_n (j := 0) dX6_parses_31 rfl rfl ?_
      refine gf_6_6 dX6_parses_32 v6 xw_536 ?_
      refine ok_icmp_ge (tgt := 54) dX6_parses_35 (by decide) ⟨fun z => ?_, fun z => ?_⟩
      · have h := h.1 z
        refine ok_iload_n (j := 1) dX6_parses_54 rfl rfl ?_
        obtain ⟨hz, h⟩ := h
        exact ok_zret rfl hz dX6_parses_55 ⟨_, rfl, h⟩
      · have h := h.2 z
        exact ok_sub [(0, vR 6 0 0)] [0] rfl h
set_option maxRecDepth 100000 in
set_option maxHeartbeats 4000000 in
theorem rX6_parses_38 {a b : xA} {h0 : Int64} {Q : Int32 → xM → Prop}   (h : (CI mX6_order [vR 6 0 0] (a, (b, h0)) (fun r1 μ1 => ((r1 = 0 → xOk mX6_parses 16 [(0, vR 6 0 0), (1, vI r1)] [] μ1 (qI Q)) ∧ (¬ r1 = 0 → (CV mX6_skips [vR 6 0 0] μ1 (fun μ2 => xOk mX6_parses 16 [(0, vR 6 0 0), (1, vI r1)] [] μ2 (qI Q)))))))) : xOk mX6_parses 38 [(0, vR 6 0 0)] [] (a, (b, h0)) (qI Q) := by
  refine ok_aload_n (j := 0) dX6_parses_38 rfl rfl ?_
  refine ok_callV (M' := mX6_order) [] dX6_parses_39 xw_819 fV_X6_order fS_X6_order rfl (by decide) v6 (ob_6 _ _ _) rfl (Nat.le_of_ble_eq_true rfl) (CI.to (CI.mono h ?_))
  intro r1 μ1 h
  refine ok_istore_n (ls2 := [(1, vI r1), (0, vR 6 0 0)]) dX6_parses_42 rfl (by decide) rfl ?_
  refine ok_iload_n (j := 0) dX6_parses_43 rfl rfl ?_
  refine ok_if_eq (tgt := 16) dX6_parses_44 (by decide) ⟨fun z => ?_, fun z => ?_⟩
  · have h := h.1 z
    exact ok_sub [(0, vR 6 0 0), (1, vI r1)] [1, 0] rfl h
  · have h := h.2 z
    refine ok_aload_n (j := 1) dX6_parses_47 rfl rfl ?_
    refine ok_callV (M' := mX6_skips) [] dX6_parses_48 xw_811 fV_X6_skips fS_X6_skips rfl (by decide) v6 (ob_6 _ _ _) rfl (Nat.le_of_ble_eq_true rfl) (CV.to (CV.mono h ?_))
    intro μ2 h
    refine ok_goto (tgt := 16) dX6_parses_51 (by decide) ?_
    exact ok_sub [(0, vR 6 0 0), (1, vI r1)] [1, 0] rfl h
set_option maxRecDepth 100000 in
set_option maxHeartbeats 4000000 in
theorem eX6_skips {a b : xA} {h0 : Int64} {Q : xM → Prop}   (h : (CI mX6_here [vR 6 0 0] (a, (b, h0)) (fun r1 μ1 => ((¬ r1 = (32 : Int32) → Q μ1) ∧ (r1 = (32 : Int32) → xOk mX6_skips 0 [(0, vR 6 0 0)] [] (μ1.1, ((xUp μ1.2.1 6 0 0 7 ((μ1.2.1 6 0 0 7) + (1 : Int32))), μ1.2.2)) (qV Q)))))) : CV mX6_skips [vR 6 0 0] (a, (b, h0)) Q := by
  refine xCalls_of (by decide) (Nat.le_of_ble_eq_true rfl) ?_
  show xOk mX6_skips 0 [(0, vR 6 0 0)] [] (a, (b, h0)) (qV Q)
  refine ok_aload_n (j := 0) dX6_skips_0 rfl rfl ?_
  refine ok_callV (M' := mX6_here) [] dX6_skips_1 xw_815 fV_X6_here fS_X6_here rfl (by decide) v6 (ob_6 _ _ _) rfl (Nat.le_of_ble_eq_true rfl) (CI.to (CI.mono h ?_))
  intro r1 μ1 h
  refine ok_bipush (v := (32 : Int32)) dX6_skips_4 (by decide) ?_
  refine ok_icmp_ne (tgt := 22) dX6_skips_6 (by decide) ⟨fun z => ?_, fun z => ?_⟩
  · have h := h.1 z
    exact ok_vret rfl dX6_skips_22 ⟨rfl, h⟩
  · have h := h.2 z
    refine ok_aload_n (j := 0) dX6_skips_9 rfl rfl ?_
    refine ok_dup dX6_skips_10 rfl ?_
    refine gf_6_7 dX6_skips_11 v6 xw_537 ?_
    refine ok_iconst (v := (1 : Int32)) dX6_skips_14 (by decide) ?_
    refine ok_iadd dX6_skips_15 ?_
    refine pf_6_7 dX6_skips_16 v6 xw_537 ?_
    refine ok_goto (tgt := 0) dX6_skips_19 (by decide) ?_
    exact ok_sub [(0, vR 6 0 0)] [0] rfl h
set_option maxRecDepth 100000 in
set_option maxHeartbeats 4000000 in
theorem rX6_skips_0 {a b : xA} {h0 : Int64} {Q : xM → Prop}   (h : (CI mX6_here [vR 6 0 0] (a, (b, h0)) (fun r1 μ1 => ((¬ r1 = (32 : Int32) → Q μ1) ∧ (r1 = (32 : Int32) → xOk mX6_skips 0 [(0, vR 6 0 0)] [] (μ1.1, ((xUp μ1.2.1 6 0 0 7 ((μ1.2.1 6 0 0 7) + (1 : Int32))), μ1.2.2)) (qV Q)))))) : xOk mX6_skips 0 [(0, vR 6 0 0)] [] (a, (b, h0)) (qV Q) := by
  refine ok_aload_n (j := 0) dX6_skips_0 rfl rfl ?_
  refine ok_callV (M' := mX6_here) [] dX6_skips_1 xw_815 fV_X6_here fS_X6_here rfl (by decide) v6 (ob_6 _ _ _) rfl (Nat.le_of_ble_eq_true rfl) (CI.to (CI.mono h ?_))
  intro r1 μ1 h
  refine ok_bipush (v := (32 : Int32)) dX6_skips_4 (by decide) ?_
  refine ok_icmp_ne (tgt := 22) dX6_skips_6 (by decide) ⟨fun z => ?_, fun z => ?_⟩
  · have h := h.1 z
    exact ok_vret rfl dX6_skips_22 ⟨rfl, h⟩
  · have h := h.2 z
    refine ok_aload_n (j := 0) dX6_skips_9 rfl rfl ?_
    refine ok_dup dX6_skips_10 rfl ?_
    refine gf_6_7 dX6_skips_11 v6 xw_537 ?_
    refine ok_iconst (v := (1 : Int32)) dX6_skips_14 (by decide) ?_
    refine ok_iadd dX6_skips_15 ?_
    refine pf_6_7 dX6_skips_16 v6 xw_537 ?_
    refine ok_goto (tgt := 0) dX6_skips_19 (by decide) ?_
    exact ok_sub [(0, vR 6 0 0)] [0] rfl h
set_option maxRecDepth 100000 in
set_option maxHeartbeats 4000000 in
theorem eX6_here {a b : xA} {h0 : Int64} {Q : Int32 → xM → Prop}   (h : (((b 6 0 0 6) ≤ (b 6 0 0 7) → Q (-1 : Int32) (a, (b, h0))) ∧ (¬ (b 6 0 0 6) ≤ (b 6 0 0 7) → (vp_in (b 6 0 0 7) 120 ∧ Q (b 33 0 0 (Int32.toNatClampNeg (b 6 0 0 7))) (a, (b, h0)))))) : CI mX6_here [vR 6 0 0] (a, (b, h0)) Q := by
  refine xCalls_of (by decide) (Nat.le_of_ble_eq_true rfl) ?_
  show xOk mX6_here 0 [(0, vR 6 0 0)] [] (a, (b, h0)) (qI Q)
  refine ok_aload_n (j := 0) dX6_here_0 rfl rfl ?_
  refine gf_6_7 dX6_here_1 v6 xw_537 ?_
  refine ok_aload_n (j := 0) dX6_here_4 rfl rfl ?_
  refine gf_6_6 dX6_here_5 v6 xw_536 ?_
  refine ok_icmp_ge (tgt := 23) dX6_here_8 (by decide) ⟨fun z => ?_, fun z => ?_⟩
  · have h := h.1 z
    refine ok_iconst (v := (-1 : Int32)) dX6_here_23 (by decide) ?_
    exact ok_iret rfl dX6_here_24 ⟨_, rfl, h⟩
  · have h := h.2 z
    refine ok_aload_n (j := 0) dX6_here_11 rfl rfl ?_
    refine gf_6_5 dX6_here_12 v6 xw_535 ?_
    refine ok_aload_n (j := 0) dX6_here_15 rfl rfl ?_
    refine gf_6_7 dX6_here_16 v6 xw_537 ?_
    obtain ⟨hb1, h⟩ := h
    refine al_33 dX6_here_19 v33 hb1 ?_
    refine ok_goto (tgt := 24) dX6_here_20 (by decide) ?_
    exact ok_iret rfl dX6_here_24 ⟨_, rfl, h⟩
set_option maxRecDepth 100000 in
set_option maxHeartbeats 4000000 in
theorem eX6_order {a b : xA} {h0 : Int64} {Q : Int32 → xM → Prop}   (h : (CI mX6_here [vR 6 0 0] (a, (b, h0)) (fun r1 μ1 => (CI mX6_numbersOf [vI r1] μ1 (fun r2 μ2 => ((¬ r2 = (-1 : Int32) → xOk mX6_order 32 [(0, vR 6 0 0), (1, vI r1), (2, vI r2), (3, vI (0 : Int32))] [] (μ2.1, ((xUp μ2.2.1 6 0 0 7 ((μ2.2.1 6 0 0 7) + (1 : Int32))), μ2.2.2)) (qI Q)) ∧ (r2 = (-1 : Int32) → (CI mX6_stopsHere [vR 6 0 0] μ2 (fun r3 μ3 => ((r3 = 0 ∨ r3 = 1) ∧ Q r3 μ3)))))))))) : CI mX6_order [vR 6 0 0] (a, (b, h0)) Q := by
  refine xCalls_of (by decide) (Nat.le_of_ble_eq_true rfl) ?_
  show xOk mX6_order 0 [(0, vR 6 0 0)] [] (a, (b, h0)) (qI Q)
  refine ok_aload_n (j := 0) dX6_order_0 rfl rfl ?_
  refine ok_callV (M' := mX6_here) [] dX6_order_1 xw_815 fV_X6_here fS_X6_here rfl (by decide) v6 (ob_6 _ _ _) rfl (Nat.le_of_ble_eq_true rfl) (CI.to (CI.mono h ?_))
  intro r1 μ1 h
  refine ok_istore_n (ls2 := [(1, vI r1), (0, vR 6 0 0)]) dX6_order_4 rfl (by decide) rfl ?_
  refine ok_iload_n (j := 0) dX6_order_5 rfl rfl ?_
  refine ok_callS (M' := mX6_numbersOf) [vI r1] dX6_order_6 xw_823 fV_X6_numbersOf fS_X6_numbersOf (by decide) rfl (Nat.le_of_ble_eq_true rfl) (CI.to (CI.mono h ?_))
  intro r2 μ2 h
  refine ok_istore_n (ls2 := [(2, vI r2), (1, vI r1), (0, vR 6 0 0)]) dX6_order_9 rfl (by decide) rfl ?_
  refine ok_iload_n (j := 0) dX6_order_10 rfl rfl ?_
  refine ok_iconst (v := (-1 : Int32)) dX6_order_11 (by decide) ?_
  refine ok_icmp_ne (tgt := 20) dX6_order_12 (by decide) ⟨fun z => ?_, fun z => ?_⟩
  · have h := h.1 z
    refine ok_aload_n (j := 2) dX6_order_20 rfl rfl ?_
    refine ok_dup dX6_order_21 rfl ?_
    refine gf_6_7 dX6_order_22 v6 xw_537 ?_
    refine ok_iconst (v := (1 : Int32)) dX6_order_25 (by decide) ?_
    refine ok_iadd dX6_order_26 ?_
    refine pf_6_7 dX6_order_27 v6 xw_537 ?_
    refine ok_iconst (v := (0 : Int32)) dX6_order_30 (by decide) ?_
    refine ok_istore_n (ls2 := [(3, vI (0 : Int32)), (2, vI r2), (1, vI r1), (0, vR 6 0 0)]) dX6_order_31 rfl (by decide) rfl ?_
    exact ok_sub [(0, vR 6 0 0), (1, vI r1), (2, vI r2), (3, vI (0 : Int32))] [3, 2, 1, 0] rfl h
  · have h := h.2 z
    refine ok_aload_n (j := 2) dX6_order_15 rfl rfl ?_
    refine ok_callV (M' := mX6_stopsHere) [] dX6_order_16 xw_826 fV_X6_stopsHere fS_X6_stopsHere rfl (by decide) v6 (ob_6 _ _ _) rfl (Nat.le_of_ble_eq_true rfl) (CI.to (CI.mono h ?_))
    intro r3 μ3 h
    obtain ⟨hz, h⟩ := h
    exact ok_zret rfl hz dX6_order_19 ⟨_, rfl, h⟩
set_option maxRecDepth 100000 in
set_option maxHeartbeats 4000000 in
theorem rX6_order_32 {a b : xA} {h0 : Int64} {Q : Int32 → xM → Prop} {x1 : Int32} {x2 : Int32} {x3 : Int32}  (h : ((x2 ≤ x3 → (CV mX6_skips [vR 6 0 0] (a, (b, h0)) (fun μ1 => (CI mX6_here [vR 6 0 0] μ1 (fun r2 μ2 => ((r2 = (59 : Int32) → (vp_in ((xUp μ2.2.1 6 0 0 7 ((μ2.2.1 6 0 0 7) + (1 : Int32))) 6 0 0 9) 40 ∧ Q (1 : Int32) (μ2.1, ((xUp (xUp (xUp μ2.2.1 6 0 0 7 ((μ2.2.1 6 0 0 7) + (1 : Int32))) 34 0 0 (Int32.toNatClampNeg ((xUp μ2.2.1 6 0 0 7 ((μ2.2.1 6 0 0 7) + (1 : Int32))) 6 0 0 9)) x1) 6 0 0 9 (((xUp (xUp μ2.2.1 6 0 0 7 ((μ2.2.1 6 0 0 7) + (1 : Int32))) 34 0 0 (Int32.toNatClampNeg ((xUp μ2.2.1 6 0 0 7 ((μ2.2.1 6 0 0 7) + (1 : Int32))) 6 0 0 9)) x1) 6 0 0 9) + (1 : Int32))), μ2.2.2)))) ∧ (¬ r2 = (59 : Int32) → (CI mX6_stopsHere [vR 6 0 0] μ2 (fun r4 μ4 => ((r4 = 0 ∨ r4 = 1) ∧ Q r4 μ4)))))))))) ∧ (¬ x2 ≤ x3 → (CI mX6_number [vR 6 0 0, vI (((5 : Int32) * (b 6 0 0 9)) + x3)] (a, (b, h0)) (fun r5 μ5 => ((¬ r5 = 0 → xOk mX6_order 32 [(0, vR 6 0 0), (1, vI x1), (2, vI x2), (3, vI (x3 + 1))] [] μ5 (qI Q)) ∧ (r5 = 0 → Q (0 : Int32) μ5))))))) : xOk mX6_order 32 [(0, vR 6 0 0), (1, vI x1), (2, vI x2), (3, vI x3)] [] (a, (b, h0)) (qI Q) := by
  refine ok_iload_n (j := 3) dX6_order_32 rfl rfl ?_
  refine ok_iload_n (j := 2) dX6_order_33 rfl rfl ?_
  refine ok_icmp_ge (tgt := 60) dX6_order_34 (by decide) ⟨fun z => ?_, fun z => ?_⟩
  · have h := h.1 z
    refine ok_aload_n (j := 0) dX6_order_60 rfl rfl ?_
    refine ok_callV (M' := mX6_skips) [] dX6_order_61 xw_811 fV_X6_skips fS_X6_skips rfl (by decide) v6 (ob_6 _ _ _) rfl (Nat.le_of_ble_eq_true rfl) (CV.to (CV.mono h ?_))
    intro μ1 h
    refine ok_aload_n (j := 0) dX6_order_64 rfl rfl ?_
    refine ok_callV (M' := mX6_here) [] dX6_order_65 xw_815 fV_X6_here fS_X6_here rfl (by decide) v6 (ob_6 _ _ _) rfl (Nat.le_of_ble_eq_true rfl) (CI.to (CI.mono h ?_))
    intro r2 μ2 h
    refine ok_bipush (v := (59 : Int32)) dX6_order_68 (by decide) ?_
    refine ok_icmp_eq (tgt := 78) dX6_order_70 (by decide) ⟨fun z => ?_, fun z => ?_⟩
    · have h := h.1 z
      refine ok_aload_n (j := 0) dX6_order_78 rfl rfl ?_
      refine ok_dup dX6_order_79 rfl ?_
      refine gf_6_7 dX6_order_80 v6 xw_537 ?_
      refine ok_iconst (v := (1 : Int32)) dX6_order_83 (by decide) ?_
      refine ok_iadd dX6_order_84 ?_
      refine pf_6_7 dX6_order_85 v6 xw_537 ?_
      refine ok_aload_n (j := 0) dX6_order_88 rfl rfl ?_
      refine gf_6_10 dX6_order_89 v6 xw_540 ?_
      refine ok_aload_n (j := 0) dX6_order_92 rfl rfl ?_
      refine gf_6_9 dX6_order_93 v6 xw_539 ?_
      refine ok_iload_n (j := 1) dX6_order_96 rfl rfl ?_
      obtain ⟨hb3, h⟩ := h
      refine as_34 dX6_order_97 v34 hb3 ?_
      refine ok_aload_n (j := 0) dX6_order_98 rfl rfl ?_
      refine ok_dup dX6_order_99 rfl ?_
      refine gf_6_9 dX6_order_100 v6 xw_539 ?_
      refine ok_iconst (v := (1 : Int32)) dX6_order_103 (by decide) ?_
      refine ok_iadd dX6_order_104 ?_
      refine pf_6_9 dX6_order_105 v6 xw_539 ?_
      refine ok_iconst (v := (1 : Int32)) dX6_order_108 (by decide) ?_
      exact ok_zret rfl (by decide) dX6_order_109 ⟨_, rfl, h⟩
    · have h := h.2 z
      refine ok_aload_n (j := 0) dX6_order_73 rfl rfl ?_
      refine ok_callV (M' := mX6_stopsHere) [] dX6_order_74 xw_826 fV_X6_stopsHere fS_X6_stopsHere rfl (by decide) v6 (ob_6 _ _ _) rfl (Nat.le_of_ble_eq_true rfl) (CI.to (CI.mono h ?_))
      intro r4 μ4 h
      obtain ⟨hz, h⟩ := h
      exact ok_zret rfl hz dX6_order_77 ⟨_, rfl, h⟩
  · have h := h.2 z
    refine ok_aload_n (j := 0) dX6_order_37 rfl rfl ?_
    refine ok_iconst (v := (5 : Int32)) dX6_order_38 (by decide) ?_
    refine ok_aload_n (j := 0) dX6_order_39 rfl rfl ?_
    refine gf_6_9 dX6_order_40 v6 xw_539 ?_
    refine ok_imul dX6_order_43 ?_
    refine ok_iload_n (j := 3) dX6_order_44 rfl rfl ?_
    refine ok_iadd dX6_order_45 ?_
    refine ok_callV (M' := mX6_number) [vI (((5 : Int32) * (b 6 0 0 9)) + x3)] dX6_order_46 xw_830 fV_X6_number fS_X6_number rfl (by decide) v6 (ob_6 _ _ _) rfl (Nat.le_of_ble_eq_true rfl) (CI.to (CI.mono h ?_))
    intro r5 μ5 h
    refine ok_if_ne (tgt := 54) dX6_order_49 (by decide) ⟨fun z => ?_, fun z => ?_⟩
    · have h := h.1 z
      refine ok_iinc (j := 3) (v := (x3 + 1)) (ls2 := [(3, vI (x3 + 1)), (0, vR 6 0 0), (1, vI x1), (2, vI x2)]) dX6_order_54 rfl rfl (by decide) rfl ?_
      refine ok_goto (tgt := 32) dX6_order_57 (by decide) ?_
      exact ok_sub [(0, vR 6 0 0), (1, vI x1), (2, vI x2), (3, vI (x3 + 1))] [1, 2, 3, 0] rfl h
    · have h := h.2 z
      refine ok_iconst (v := (0 : Int32)) dX6_order_52 (by decide) ?_
      exact ok_zret rfl (by decide) dX6_order_53 ⟨_, rfl, h⟩
set_option maxRecDepth 100000 in
set_option maxHeartbeats 4000000 in
theorem eX6_numbersOf {a b : xA} {h0 : Int64} {Q : Int32 → xM → Prop} {x0 : Int32}  (h : ((x0 = (98 : Int32) → Q (1 : Int32) (a, (b, h0))) ∧ (¬ x0 = (98 : Int32) → ((x0 = (99 : Int32) → Q (4 : Int32) (a, (b, h0))) ∧ (¬ x0 = (99 : Int32) → ((x0 = (101 : Int32) → Q (3 : Int32) (a, (b, h0))) ∧ (¬ x0 = (101 : Int32) → ((x0 = (111 : Int32) → Q (2 : Int32) (a, (b, h0))) ∧ (¬ x0 = (111 : Int32) → ((x0 = (114 : Int32) → Q (2 : Int32) (a, (b, h0))) ∧ (¬ x0 = (114 : Int32) → ((x0 = (115 : Int32) → Q (5 : Int32) (a, (b, h0))) ∧ (¬ x0 = (115 : Int32) → ((x0 = (116 : Int32) → Q (1 : Int32) (a, (b, h0))) ∧ (¬ x0 = (116 : Int32) → Q (-1 : Int32) (a, (b, h0))))))))))))))))) : CI mX6_numbersOf [vI x0] (a, (b, h0)) Q := by
  refine xCalls_of (by decide) (Nat.le_of_ble_eq_true rfl) ?_
  show xOk mX6_numbersOf 0 [(0, vI x0)] [] (a, (b, h0)) (qI Q)
  refine ok_iload_n (j := 0) dX6_numbersOf_0 rfl rfl ?_
  by_cases z0 : x0 = (98 : Int32)
  · have h := h.1 z0
    refine ok_table dX6_numbersOf_1 rfl (off := 91) (tgt := 92) (by (try dsimp only); rw [z0]; decide) (by decide) ?_
    refine ok_iconst (v := (1 : Int32)) dX6_numbersOf_92 (by decide) ?_
    exact ok_iret rfl dX6_numbersOf_93 ⟨_, rfl, h⟩
  · have h := h.2 z0
    by_cases z1 : x0 = (99 : Int32)
    · have h := h.1 z1
      refine ok_table dX6_numbersOf_1 rfl (off := 97) (tgt := 98) (by (try dsimp only); rw [z1]; decide) (by decide) ?_
      refine ok_iconst (v := (4 : Int32)) dX6_numbersOf_98 (by decide) ?_
      exact ok_iret rfl dX6_numbersOf_99 ⟨_, rfl, h⟩
    · have h := h.2 z1
      by_cases z2 : x0 = (101 : Int32)
      · have h := h.1 z2
        refine ok_table dX6_numbersOf_1 rfl (off := 95) (tgt := 96) (by (try dsimp only); rw [z2]; decide) (by decide) ?_
        refine ok_iconst (v := (3 : Int32)) dX6_numbersOf_96 (by decide) ?_
        exact ok_iret rfl dX6_numbersOf_97 ⟨_, rfl, h⟩
      · have h := h.2 z2
        by_cases z3 : x0 = (111 : Int32)
        · have h := h.1 z3
          refine ok_table dX6_numbersOf_1 rfl (off := 93) (tgt := 94) (by (try dsimp only); rw [z3]; decide) (by decide) ?_
          refine ok_iconst (v := (2 : Int32)) dX6_numbersOf_94 (by decide) ?_
          exact ok_iret rfl dX6_numbersOf_95 ⟨_, rfl, h⟩
        · have h := h.2 z3
          by_cases z4 : x0 = (114 : Int32)
          · have h := h.1 z4
            refine ok_table dX6_numbersOf_1 rfl (off := 93) (tgt := 94) (by (try dsimp only); rw [z4]; decide) (by decide) ?_
            refine ok_iconst (v := (2 : Int32)) dX6_numbersOf_94 (by decide) ?_
            exact ok_iret rfl dX6_numbersOf_95 ⟨_, rfl, h⟩
          · have h := h.2 z4
            by_cases z5 : x0 = (115 : Int32)
            · have h := h.1 z5
              refine ok_table dX6_numbersOf_1 rfl (off := 99) (tgt := 100) (by (try dsimp only); rw [z5]; decide) (by decide) ?_
              refine ok_iconst (v := (5 : Int32)) dX6_numbersOf_100 (by decide) ?_
              exact ok_iret rfl dX6_numbersOf_101 ⟨_, rfl, h⟩
            · have h := h.2 z5
              by_cases z6 : x0 = (116 : Int32)
              · have h := h.1 z6
                refine ok_table dX6_numbersOf_1 rfl (off := 91) (tgt := 92) (by (try dsimp only); rw [z6]; decide) (by decide) ?_
                refine ok_iconst (v := (1 : Int32)) dX6_numbersOf_92 (by decide) ?_
                exact ok_iret rfl dX6_numbersOf_93 ⟨_, rfl, h⟩
              · have h := h.2 z6
                refine ok_table dX6_numbersOf_1 rfl (tgt := 102) (xSw_d [(98 : Int32), (99 : Int32), (101 : Int32), (111 : Int32), (114 : Int32), (115 : Int32), (116 : Int32)] (by decide) rfl (by simp only [List.mem_cons, List.not_mem_nil, or_false]; rintro c (rfl | rfl | rfl | rfl | rfl | rfl | rfl) <;> assumption)) (by decide) ?_
                refine ok_iconst (v := (-1 : Int32)) dX6_numbersOf_102 (by decide) ?_
                exact ok_iret rfl dX6_numbersOf_103 ⟨_, rfl, h⟩
set_option maxRecDepth 100000 in
set_option maxHeartbeats 4000000 in
theorem eX6_stopsHere {a b : xA} {h0 : Int64} {Q : Int32 → xM → Prop}   (h : Q (0 : Int32) (a, ((xUp b 6 0 0 8 (b 6 0 0 7)), h0))) : CI mX6_stopsHere [vR 6 0 0] (a, (b, h0)) Q := by
  refine xCalls_of (by decide) (Nat.le_of_ble_eq_true rfl) ?_
  show xOk mX6_stopsHere 0 [(0, vR 6 0 0)] [] (a, (b, h0)) (qI Q)
  refine ok_aload_n (j := 0) dX6_stopsHere_0 rfl rfl ?_
  refine ok_aload_n (j := 0) dX6_stopsHere_1 rfl rfl ?_
  refine gf_6_7 dX6_stopsHere_2 v6 xw_537 ?_
  refine pf_6_8 dX6_stopsHere_5 v6 xw_538 ?_
  refine ok_iconst (v := (0 : Int32)) dX6_stopsHere_8 (by decide) ?_
  exact ok_zret rfl (by decide) dX6_stopsHere_9 ⟨_, rfl, h⟩
set_option maxRecDepth 100000 in
set_option maxHeartbeats 4000000 in
theorem eX6_number {a b : xA} {h0 : Int64} {Q : Int32 → xM → Prop} {x1 : Int32}  (h : (CV mX6_skips [vR 6 0 0] (a, (b, h0)) (fun μ1 => (CI mX6_isFigure [vR 6 0 0] μ1 (fun r2 μ2 => ((¬ r2 = 0 → (CI mX6_here [vR 6 0 0] μ2 (fun r3 μ3 => (CI mX6_isFigure [vR 6 0 0] (μ3.1, ((xUp μ3.2.1 6 0 0 7 ((μ3.2.1 6 0 0 7) + (1 : Int32))), μ3.2.2)) (fun r4 μ4 => ((r4 = 0 → xOk mX6_number 64 [(0, vR 6 0 0), (1, vI x1), (2, vI (r3 - (48 : Int32)))] [] μ4 (qI Q)) ∧ (¬ r4 = 0 → (CI mX6_here [vR 6 0 0] μ4 (fun r5 μ5 => xOk mX6_number 64 [(0, vR 6 0 0), (1, vI x1), (2, vI ((((10 : Int32) * (r3 - (48 : Int32))) + r5) - (48 : Int32)))] [] (μ5.1, ((xUp μ5.2.1 6 0 0 7 ((μ5.2.1 6 0 0 7) + (1 : Int32))), μ5.2.2)) (qI Q)))))))))) ∧ (r2 = 0 → (CI mX6_stopsHere [vR 6 0 0] μ2 (fun r6 μ6 => ((r6 = 0 ∨ r6 = 1) ∧ Q r6 μ6)))))))))) : CI mX6_number [vR 6 0 0, vI x1] (a, (b, h0)) Q := by
  refine xCalls_of (by decide) (Nat.le_of_ble_eq_true rfl) ?_
  show xOk mX6_number 0 [(0, vR 6 0 0), (1, vI x1)] [] (a, (b, h0)) (qI Q)
  refine ok_aload_n (j := 0) dX6_number_0 rfl rfl ?_
  refine ok_callV (M' := mX6_skips) [] dX6_number_1 xw_811 fV_X6_skips fS_X6_skips rfl (by decide) v6 (ob_6 _ _ _) rfl (Nat.le_of_ble_eq_true rfl) (CV.to (CV.mono h ?_))
  intro μ1 h
  refine ok_aload_n (j := 0) dX6_number_4 rfl rfl ?_
  refine ok_callV (M' := mX6_isFigure) [] dX6_number_5 xw_834 fV_X6_isFigure fS_X6_isFigure rfl (by decide) v6 (ob_6 _ _ _) rfl (Nat.le_of_ble_eq_true rfl) (CI.to (CI.mono h ?_))
  intro r2 μ2 h
  refine ok_if_ne (tgt := 16) dX6_number_8 (by decide) ⟨fun z => ?_, fun z => ?_⟩
  · have h := h.1 z
    refine ok_aload_n (j := 0) dX6_number_16 rfl rfl ?_
    refine ok_callV (M' := mX6_here) [] dX6_number_17 xw_815 fV_X6_here fS_X6_here rfl (by decide) v6 (ob_6 _ _ _) rfl (Nat.le_of_ble_eq_true rfl) (CI.to (CI.mono h ?_))
    intro r3 μ3 h
    refine ok_bipush (v := (48 : Int32)) dX6_number_20 (by decide) ?_
    refine ok_isub dX6_number_22 ?_
    refine ok_istore_n (ls2 := [(2, vI (r3 - (48 : Int32))), (0, vR 6 0 0), (1, vI x1)]) dX6_number_23 rfl (by decide) rfl ?_
    refine ok_aload_n (j := 1) dX6_number_24 rfl rfl ?_
    refine ok_dup dX6_number_25 rfl ?_
    refine gf_6_7 dX6_number_26 v6 xw_537 ?_
    refine ok_iconst (v := (1 : Int32)) dX6_number_29 (by decide) ?_
    refine ok_iadd dX6_number_30 ?_
    refine pf_6_7 dX6_number_31 v6 xw_537 ?_
    refine ok_aload_n (j := 1) dX6_number_34 rfl rfl ?_
    refine ok_callV (M' := mX6_isFigure) [] dX6_number_35 xw_834 fV_X6_isFigure fS_X6_isFigure rfl (by decide) v6 (ob_6 _ _ _) rfl (Nat.le_of_ble_eq_true rfl) (CI.to (CI.mono h ?_))
    intro r4 μ4 h
    refine ok_if_eq (tgt := 64) dX6_number_38 (by decide) ⟨fun z => ?_, fun z => ?_⟩
    · have h := h.1 z
      exact ok_sub [(0, vR 6 0 0), (1, vI x1), (2, vI (r3 - (48 : Int32)))] [1, 2, 0] rfl h
    · have h := h.2 z
      refine ok_bipush (v := (10 : Int32)) dX6_number_41 (by decide) ?_
      refine ok_iload_n (j := 0) dX6_number_43 rfl rfl ?_
      refine ok_imul dX6_number_44 ?_
      refine ok_aload_n (j := 1) dX6_number_45 rfl rfl ?_
      refine ok_callV (M' := mX6_here) [] dX6_number_46 xw_815 fV_X6_here fS_X6_here rfl (by decide) v6 (ob_6 _ _ _) rfl (Nat.le_of_ble_eq_true rfl) (CI.to (CI.mono h ?_))
      intro r5 μ5 h
      refine ok_iadd dX6_number_49 ?_
      refine ok_bipush (v := (48 : Int32)) dX6_number_50 (by decide) ?_
      refine ok_isub dX6_number_52 ?_
      refine ok_istore_n (ls2 := [(2, vI ((((10 : Int32) * (r3 - (48 : Int32))) + r5) - (48 : Int32))), (0, vR 6 0 0), (1, vI x1)]) dX6_number_53 rfl (by decide) rfl ?_
      refine ok_aload_n (j := 1) dX6_number_54 rfl rfl ?_
      refine ok_dup dX6_number_55 rfl ?_
      refine gf_6_7 dX6_number_56 v6 xw_537 ?_
      refine ok_iconst (v := (1 : Int32)) dX6_number_59 (by decide) ?_
      refine ok_iadd dX6_number_60 ?_
      refine pf_6_7 dX6_number_61 v6 xw_537 ?_
      exact ok_sub [(0, vR 6 0 0), (1, vI x1), (2, vI ((((10 : Int32) * (r3 - (48 : Int32))) + r5) - (48 : Int32)))] [1, 2, 0] rfl h
  · have h := h.2 z
    refine ok_aload_n (j := 0) dX6_number_11 rfl rfl ?_
    refine ok_callV (M' := mX6_stopsHere) [] dX6_number_12 xw_826 fV_X6_stopsHere fS_X6_stopsHere rfl (by decide) v6 (ob_6 _ _ _) rfl (Nat.le_of_ble_eq_true rfl) (CI.to (CI.mono h ?_))
    intro r6 μ6 h
    obtain ⟨hz, h⟩ := h
    exact ok_zret rfl hz dX6_number_15 ⟨_, rfl, h⟩
set_option maxRecDepth 100000 in
set_option maxHeartbeats 4000000 in
theorem rX6_number_64 {a b : xA} {h0 : Int64} {Q : Int32 → xM → Prop} {x1 : Int32} {x2 : Int32}  (h : (CI mX6_isFigure [vR 6 0 0] (a, (b, h0)) (fun r1 μ1 => ((r1 = 0 → (vp_in x1 200 ∧ Q (1 : Int32) (μ1.1, ((xUp μ1.2.1 35 0 0 (Int32.toNatClampNeg x1) x2), μ1.2.2)))) ∧ (¬ r1 = 0 → (CI mX6_stopsHere [vR 6 0 0] μ1 (fun r3 μ3 => ((r3 = 0 ∨ r3 = 1) ∧ Q r3 μ3)))))))) : xOk mX6_number 64 [(0, vR 6 0 0), (1, vI x1), (2, vI x2)] [] (a, (b, h0)) (qI Q) := by
  refine ok_aload_n (j := 0) dX6_number_64 rfl rfl ?_
  refine ok_callV (M' := mX6_isFigure) [] dX6_number_65 xw_834 fV_X6_isFigure fS_X6_isFigure rfl (by decide) v6 (ob_6 _ _ _) rfl (Nat.le_of_ble_eq_true rfl) (CI.to (CI.mono h ?_))
  intro r1 μ1 h
  refine ok_if_eq (tgt := 76) dX6_number_68 (by decide) ⟨fun z => ?_, fun z => ?_⟩
  · have h := h.1 z
    refine ok_aload_n (j := 0) dX6_number_76 rfl rfl ?_
    refine gf_6_11 dX6_number_77 v6 xw_541 ?_
    refine ok_iload_n (j := 1) dX6_number_80 rfl rfl ?_
    refine ok_iload_n (j := 2) dX6_number_81 rfl rfl ?_
    obtain ⟨hb2, h⟩ := h
    refine as_35 dX6_number_82 v35 hb2 ?_
    refine ok_iconst (v := (1 : Int32)) dX6_number_83 (by decide) ?_
    exact ok_zret rfl (by decide) dX6_number_84 ⟨_, rfl, h⟩
  · have h := h.2 z
    refine ok_aload_n (j := 0) dX6_number_71 rfl rfl ?_
    refine ok_callV (M' := mX6_stopsHere) [] dX6_number_72 xw_826 fV_X6_stopsHere fS_X6_stopsHere rfl (by decide) v6 (ob_6 _ _ _) rfl (Nat.le_of_ble_eq_true rfl) (CI.to (CI.mono h ?_))
    intro r3 μ3 h
    obtain ⟨hz, h⟩ := h
    exact ok_zret rfl hz dX6_number_75 ⟨_, rfl, h⟩
set_option maxRecDepth 100000 in
set_option maxHeartbeats 4000000 in
theorem eX6_isFigure {a b : xA} {h0 : Int64} {Q : Int32 → xM → Prop}   (h : (CI mX6_here [vR 6 0 0] (a, (b, h0)) (fun r1 μ1 => (CI mX6_in [vI r1, vI (48 : Int32), vI (57 : Int32)] μ1 (fun r2 μ2 => ((r2 = 0 ∨ r2 = 1) ∧ Q r2 μ2)))))) : CI mX6_isFigure [vR 6 0 0] (a, (b, h0)) Q := by
  refine xCalls_of (by decide) (Nat.le_of_ble_eq_true rfl) ?_
  show xOk mX6_isFigure 0 [(0, vR 6 0 0)] [] (a, (b, h0)) (qI Q)
  refine ok_aload_n (j := 0) dX6_isFigure_0 rfl rfl ?_
  refine ok_callV (M' := mX6_here) [] dX6_isFigure_1 xw_815 fV_X6_here fS_X6_here rfl (by decide) v6 (ob_6 _ _ _) rfl (Nat.le_of_ble_eq_true rfl) (CI.to (CI.mono h ?_))
  intro r1 μ1 h
  refine ok_bipush (v := (48 : Int32)) dX6_isFigure_4 (by decide) ?_
  refine ok_bipush (v := (57 : Int32)) dX6_isFigure_6 (by decide) ?_
  refine ok_callS (M' := mX6_in) [vI r1, vI (48 : Int32), vI (57 : Int32)] dX6_isFigure_8 xw_580 fV_X6_in fS_X6_in (by decide) rfl (Nat.le_of_ble_eq_true rfl) (CI.to (CI.mono h ?_))
  intro r2 μ2 h
  obtain ⟨hz, h⟩ := h
  exact ok_zret rfl hz dX6_isFigure_11 ⟨_, rfl, h⟩
set_option maxRecDepth 100000 in
set_option maxHeartbeats 4000000 in
theorem eX6_answers {a b : xA} {h0 : Int64} {Q : Int32 → xM → Prop} {x1 : Int32}  (h : (vp_in ((5 : Int32) * x1) 200 ∧ (vp_in (((5 : Int32) * x1) + (1 : Int32)) 200 ∧ (vp_in (((5 : Int32) * x1) + (2 : Int32)) 200 ∧ (vp_in (((5 : Int32) * x1) + (3 : Int32)) 200 ∧ (vp_in x1 40 ∧ (((b 34 0 0 (Int32.toNatClampNeg x1)) = (98 : Int32) → (CI mX6_begins [vR 6 0 0, vI (b 35 0 0 (Int32.toNatClampNeg ((5 : Int32) * x1)))] (a, (b, h0)) (fun r6 μ6 => Q r6 μ6))) ∧ (¬ (b 34 0 0 (Int32.toNatClampNeg x1)) = (98 : Int32) → (((b 34 0 0 (Int32.toNatClampNeg x1)) = (101 : Int32) → (CI mX6_ends [vR 6 0 0, vI (b 35 0 0 (Int32.toNatClampNeg ((5 : Int32) * x1))), vI (b 35 0 0 (Int32.toNatClampNeg (((5 : Int32) * x1) + (1 : Int32)))), vI (b 35 0 0 (Int32.toNatClampNeg (((5 : Int32) * x1) + (2 : Int32))))] (a, (b, h0)) (fun r7 μ7 => Q r7 μ7))) ∧ (¬ (b 34 0 0 (Int32.toNatClampNeg x1)) = (101 : Int32) → (((b 34 0 0 (Int32.toNatClampNeg x1)) = (111 : Int32) → (CI mX6_opens [vR 6 0 0, vI (b 35 0 0 (Int32.toNatClampNeg ((5 : Int32) * x1))), vI (b 35 0 0 (Int32.toNatClampNeg (((5 : Int32) * x1) + (1 : Int32))))] (a, (b, h0)) (fun r8 μ8 => Q r8 μ8))) ∧ (¬ (b 34 0 0 (Int32.toNatClampNeg x1)) = (111 : Int32) → (((b 34 0 0 (Int32.toNatClampNeg x1)) = (114 : Int32) → (CI mX6_reads [vR 6 0 0, vI (b 35 0 0 (Int32.toNatClampNeg ((5 : Int32) * x1))), vI (b 35 0 0 (Int32.toNatClampNeg (((5 : Int32) * x1) + (1 : Int32))))] (a, (b, h0)) (fun r9 μ9 => Q r9 μ9))) ∧ (¬ (b 34 0 0 (Int32.toNatClampNeg x1)) = (114 : Int32) → (((b 34 0 0 (Int32.toNatClampNeg x1)) = (115 : Int32) → (vp_in (((5 : Int32) * x1) + (4 : Int32)) 200 ∧ (CI mX6_sends [vR 6 0 0, vI (b 35 0 0 (Int32.toNatClampNeg ((5 : Int32) * x1))), vI (b 35 0 0 (Int32.toNatClampNeg (((5 : Int32) * x1) + (1 : Int32)))), vI (b 35 0 0 (Int32.toNatClampNeg (((5 : Int32) * x1) + (2 : Int32)))), vI (b 35 0 0 (Int32.toNatClampNeg (((5 : Int32) * x1) + (3 : Int32)))), vI (b 35 0 0 (Int32.toNatClampNeg (((5 : Int32) * x1) + (4 : Int32))))] (a, (b, h0)) (fun r11 μ11 => Q r11 μ11)))) ∧ (¬ (b 34 0 0 (Int32.toNatClampNeg x1)) = (115 : Int32) → (((b 34 0 0 (Int32.toNatClampNeg x1)) = (116 : Int32) → (CI mX6_ticks [vR 6 0 0, vI (b 35 0 0 (Int32.toNatClampNeg ((5 : Int32) * x1)))] (a, (b, h0)) (fun r12 μ12 => Q r12 μ12))) ∧ (¬ (b 34 0 0 (Int32.toNatClampNeg x1)) = (116 : Int32) → (CI mX6_carries [vR 6 0 0, vI (b 35 0 0 (Int32.toNatClampNeg ((5 : Int32) * x1))), vI (b 35 0 0 (Int32.toNatClampNeg (((5 : Int32) * x1) + (1 : Int32)))), vI (b 35 0 0 (Int32.toNatClampNeg (((5 : Int32) * x1) + (2 : Int32)))), vI (b 35 0 0 (Int32.toNatClampNeg (((5 : Int32) * x1) + (3 : Int32))))] (a, (b, h0)) (fun r13 μ13 => Q r13 μ13)))))))))))))))))))) : CI mX6_answers [vR 6 0 0, vI x1] (a, (b, h0)) Q := by
  refine xCalls_of (by decide) (Nat.le_of_ble_eq_true rfl) ?_
  show xOk mX6_answers 0 [(0, vR 6 0 0), (1, vI x1)] [] (a, (b, h0)) (qI Q)
  refine ok_iconst (v := (5 : Int32)) dX6_answers_0 (by decide) ?_
  refine ok_iload_n (j := 1) dX6_answers_1 rfl rfl ?_
  refine ok_imul dX6_answers_2 ?_
  refine ok_istore_n (ls2 := [(2, vI ((5 : Int32) * x1)), (0, vR 6 0 0), (1, vI x1)]) dX6_answers_3 rfl (by decide) rfl ?_
  refine ok_aload_n (j := 1) dX6_answers_4 rfl rfl ?_
  refine gf_6_11 dX6_answers_5 v6 xw_541 ?_
  refine ok_iload_n (j := 0) dX6_answers_8 rfl rfl ?_
  obtain ⟨hb1, h⟩ := h
  refine al_35 dX6_answers_9 v35 hb1 ?_
  refine ok_istore_n (ls2 := [(3, vI (b 35 0 0 (Int32.toNatClampNeg ((5 : Int32) * x1)))), (2, vI ((5 : Int32) * x1)), (0, vR 6 0 0), (1, vI x1)]) dX6_answers_10 rfl (by decide) rfl ?_
  refine ok_aload_n (j := 2) dX6_answers_11 rfl rfl ?_
  refine gf_6_11 dX6_answers_12 v6 xw_541 ?_
  refine ok_iload_n (j := 1) dX6_answers_15 rfl rfl ?_
  refine ok_iconst (v := (1 : Int32)) dX6_answers_16 (by decide) ?_
  refine ok_iadd dX6_answers_17 ?_
  obtain ⟨hb2, h⟩ := h
  refine al_35 dX6_answers_18 v35 hb2 ?_
  refine ok_istore (ls2 := [(4, vI (b 35 0 0 (Int32.toNatClampNeg (((5 : Int32) * x1) + (1 : Int32))))), (3, vI (b 35 0 0 (Int32.toNatClampNeg ((5 : Int32) * x1)))), (2, vI ((5 : Int32) * x1)), (0, vR 6 0 0), (1, vI x1)]) dX6_answers_19 (by decide) rfl ?_
  refine ok_aload_n (j := 3) dX6_answers_21 rfl rfl ?_
  refine gf_6_11 dX6_answers_22 v6 xw_541 ?_
  refine ok_iload_n (j := 2) dX6_answers_25 rfl rfl ?_
  refine ok_iconst (v := (2 : Int32)) dX6_answers_26 (by decide) ?_
  refine ok_iadd dX6_answers_27 ?_
  obtain ⟨hb3, h⟩ := h
  refine al_35 dX6_answers_28 v35 hb3 ?_
  refine ok_istore (ls2 := [(5, vI (b 35 0 0 (Int32.toNatClampNeg (((5 : Int32) * x1) + (2 : Int32))))), (4, vI (b 35 0 0 (Int32.toNatClampNeg (((5 : Int32) * x1) + (1 : Int32))))), (3, vI (b 35 0 0 (Int32.toNatClampNeg ((5 : Int32) * x1)))), (2, vI ((5 : Int32) * x1)), (0, vR 6 0 0), (1, vI x1)]) dX6_answers_29 (by decide) rfl ?_
  refine ok_aload_n (j := 4) dX6_answers_31 rfl rfl ?_
  refine gf_6_11 dX6_answers_32 v6 xw_541 ?_
  refine ok_iload_n (j := 3) dX6_answers_35 rfl rfl ?_
  refine ok_iconst (v := (3 : Int32)) dX6_answers_36 (by decide) ?_
  refine ok_iadd dX6_answers_37 ?_
  obtain ⟨hb4, h⟩ := h
  refine al_35 dX6_answers_38 v35 hb4 ?_
  refine ok_istore (ls2 := [(6, vI (b 35 0 0 (Int32.toNatClampNeg (((5 : Int32) * x1) + (3 : Int32))))), (5, vI (b 35 0 0 (Int32.toNatClampNeg (((5 : Int32) * x1) + (2 : Int32))))), (4, vI (b 35 0 0 (Int32.toNatClampNeg (((5 : Int32) * x1) + (1 : Int32))))), (3, vI (b 35 0 0 (Int32.toNatClampNeg ((5 : Int32) * x1)))), (2, vI ((5 : Int32) * x1)), (0, vR 6 0 0), (1, vI x1)]) dX6_answers_39 (by decide) rfl ?_
  refine ok_aload_n (j := 5) dX6_answers_41 rfl rfl ?_
  refine gf_6_10 dX6_answers_42 v6 xw_540 ?_
  refine ok_iload_n (j := 6) dX6_answers_45 rfl rfl ?_
  obtain ⟨hb5, h⟩ := h
  refine al_34 dX6_answers_46 v34 hb5 ?_
  by_cases z0 : (b 34 0 0 (Int32.toNatClampNeg x1)) = (98 : Int32)
  · have h := h.1 z0
    refine ok_table dX6_answers_47 rfl (off := 89) (tgt := 136) (by (try dsimp only); rw [z0]; decide) (by decide) ?_
    refine ok_aload_n (j := 5) dX6_answers_136 rfl rfl ?_
    refine ok_iload_n (j := 3) dX6_answers_137 rfl rfl ?_
    refine ok_callV (M' := mX6_begins) [vI (b 35 0 0 (Int32.toNatClampNeg ((5 : Int32) * x1)))] dX6_answers_138 xw_842 fV_X6_begins fS_X6_begins rfl (by decide) v6 (ob_6 _ _ _) rfl (Nat.le_of_ble_eq_true rfl) (CI.to (CI.mono h ?_))
    intro r6 μ6 h
    exact ok_iret rfl dX6_answers_141 ⟨_, rfl, h⟩
  · have h := h.2 z0
    by_cases z1 : (b 34 0 0 (Int32.toNatClampNeg x1)) = (101 : Int32)
    · have h := h.1 z1
      refine ok_table dX6_answers_47 rfl (off := 123) (tgt := 170) (by (try dsimp only); rw [z1]; decide) (by decide) ?_
      refine ok_aload_n (j := 5) dX6_answers_170 rfl rfl ?_
      refine ok_iload_n (j := 3) dX6_answers_171 rfl rfl ?_
      refine ok_iload (j := 2) dX6_answers_172 rfl ?_
      refine ok_iload (j := 1) dX6_answers_174 rfl ?_
      refine ok_callV (M' := mX6_ends) [vI (b 35 0 0 (Int32.toNatClampNeg ((5 : Int32) * x1))), vI (b 35 0 0 (Int32.toNatClampNeg (((5 : Int32) * x1) + (1 : Int32)))), vI (b 35 0 0 (Int32.toNatClampNeg (((5 : Int32) * x1) + (2 : Int32))))] dX6_answers_176 xw_845 fV_X6_ends fS_X6_ends rfl (by decide) v6 (ob_6 _ _ _) rfl (Nat.le_of_ble_eq_true rfl) (CI.to (CI.mono h ?_))
      intro r7 μ7 h
      exact ok_iret rfl dX6_answers_179 ⟨_, rfl, h⟩
    · have h := h.2 z1
      by_cases z2 : (b 34 0 0 (Int32.toNatClampNeg x1)) = (111 : Int32)
      · have h := h.1 z2
        refine ok_table dX6_answers_47 rfl (off := 95) (tgt := 142) (by (try dsimp only); rw [z2]; decide) (by decide) ?_
        refine ok_aload_n (j := 5) dX6_answers_142 rfl rfl ?_
        refine ok_iload_n (j := 3) dX6_answers_143 rfl rfl ?_
        refine ok_iload (j := 2) dX6_answers_144 rfl ?_
        refine ok_callV (M' := mX6_opens) [vI (b 35 0 0 (Int32.toNatClampNeg ((5 : Int32) * x1))), vI (b 35 0 0 (Int32.toNatClampNeg (((5 : Int32) * x1) + (1 : Int32))))] dX6_answers_146 xw_843 fV_X6_opens fS_X6_opens rfl (by decide) v6 (ob_6 _ _ _) rfl (Nat.le_of_ble_eq_true rfl) (CI.to (CI.mono h ?_))
        intro r8 μ8 h
        exact ok_iret rfl dX6_answers_149 ⟨_, rfl, h⟩
      · have h := h.2 z2
        by_cases z3 : (b 34 0 0 (Int32.toNatClampNeg x1)) = (114 : Int32)
        · have h := h.1 z3
          refine ok_table dX6_answers_47 rfl (off := 139) (tgt := 186) (by (try dsimp only); rw [z3]; decide) (by decide) ?_
          refine ok_aload_n (j := 5) dX6_answers_186 rfl rfl ?_
          refine ok_iload_n (j := 3) dX6_answers_187 rfl rfl ?_
          refine ok_iload (j := 2) dX6_answers_188 rfl ?_
          refine ok_callV (M' := mX6_reads) [vI (b 35 0 0 (Int32.toNatClampNeg ((5 : Int32) * x1))), vI (b 35 0 0 (Int32.toNatClampNeg (((5 : Int32) * x1) + (1 : Int32))))] dX6_answers_190 xw_847 fV_X6_reads fS_X6_reads rfl (by decide) v6 (ob_6 _ _ _) rfl (Nat.le_of_ble_eq_true rfl) (CI.to (CI.mono h ?_))
          intro r9 μ9 h
          exact ok_iret rfl dX6_answers_193 ⟨_, rfl, h⟩
        · have h := h.2 z3
          by_cases z4 : (b 34 0 0 (Int32.toNatClampNeg x1)) = (115 : Int32)
          · have h := h.1 z4
            refine ok_table dX6_answers_47 rfl (off := 103) (tgt := 150) (by (try dsimp only); rw [z4]; decide) (by decide) ?_
            refine ok_aload_n (j := 5) dX6_answers_150 rfl rfl ?_
            refine ok_iload_n (j := 3) dX6_answers_151 rfl rfl ?_
            refine ok_iload (j := 2) dX6_answers_152 rfl ?_
            refine ok_iload (j := 1) dX6_answers_154 rfl ?_
            refine ok_iload (j := 0) dX6_answers_156 rfl ?_
            refine ok_aload_n (j := 5) dX6_answers_158 rfl rfl ?_
            refine gf_6_11 dX6_answers_159 v6 xw_541 ?_
            refine ok_iload_n (j := 4) dX6_answers_162 rfl rfl ?_
            refine ok_iconst (v := (4 : Int32)) dX6_answers_163 (by decide) ?_
            refine ok_iadd dX6_answers_164 ?_
            obtain ⟨hb10, h⟩ := h
            refine al_35 dX6_answers_165 v35 hb10 ?_
            refine ok_callV (M' := mX6_sends) [vI (b 35 0 0 (Int32.toNatClampNeg ((5 : Int32) * x1))), vI (b 35 0 0 (Int32.toNatClampNeg (((5 : Int32) * x1) + (1 : Int32)))), vI (b 35 0 0 (Int32.toNatClampNeg (((5 : Int32) * x1) + (2 : Int32)))), vI (b 35 0 0 (Int32.toNatClampNeg (((5 : Int32) * x1) + (3 : Int32)))), vI (b 35 0 0 (Int32.toNatClampNeg (((5 : Int32) * x1) + (4 : Int32))))] dX6_answers_166 xw_844 fV_X6_sends fS_X6_sends rfl (by decide) v6 (ob_6 _ _ _) rfl (Nat.le_of_ble_eq_true rfl) (CI.to (CI.mono h ?_))
            intro r11 μ11 h
            exact ok_iret rfl dX6_answers_169 ⟨_, rfl, h⟩
          · have h := h.2 z4
            by_cases z5 : (b 34 0 0 (Int32.toNatClampNeg x1)) = (116 : Int32)
            · have h := h.1 z5
              refine ok_table dX6_answers_47 rfl (off := 133) (tgt := 180) (by (try dsimp only); rw [z5]; decide) (by decide) ?_
              refine ok_aload_n (j := 5) dX6_answers_180 rfl rfl ?_
              refine ok_iload_n (j := 3) dX6_answers_181 rfl rfl ?_
              refine ok_callV (M' := mX6_ticks) [vI (b 35 0 0 (Int32.toNatClampNeg ((5 : Int32) * x1)))] dX6_answers_182 xw_846 fV_X6_ticks fS_X6_ticks rfl (by decide) v6 (ob_6 _ _ _) rfl (Nat.le_of_ble_eq_true rfl) (CI.to (CI.mono h ?_))
              intro r12 μ12 h
              exact ok_iret rfl dX6_answers_185 ⟨_, rfl, h⟩
            · have h := h.2 z5
              refine ok_table dX6_answers_47 rfl (tgt := 194) (xSw_d [(98 : Int32), (101 : Int32), (111 : Int32), (114 : Int32), (115 : Int32), (116 : Int32)] (by decide) rfl (by simp only [List.mem_cons, List.not_mem_nil, or_false]; rintro c (rfl | rfl | rfl | rfl | rfl | rfl) <;> assumption)) (by decide) ?_
              refine ok_aload_n (j := 5) dX6_answers_194 rfl rfl ?_
              refine ok_iload_n (j := 3) dX6_answers_195 rfl rfl ?_
              refine ok_iload (j := 2) dX6_answers_196 rfl ?_
              refine ok_iload (j := 1) dX6_answers_198 rfl ?_
              refine ok_iload (j := 0) dX6_answers_200 rfl ?_
              refine ok_callV (M' := mX6_carries) [vI (b 35 0 0 (Int32.toNatClampNeg ((5 : Int32) * x1))), vI (b 35 0 0 (Int32.toNatClampNeg (((5 : Int32) * x1) + (1 : Int32)))), vI (b 35 0 0 (Int32.toNatClampNeg (((5 : Int32) * x1) + (2 : Int32)))), vI (b 35 0 0 (Int32.toNatClampNeg (((5 : Int32) * x1) + (3 : Int32))))] dX6_answers_202 xw_848 fV_X6_carries fS_X6_carries rfl (by decide) v6 (ob_6 _ _ _) rfl (Nat.le_of_ble_eq_true rfl) (CI.to (CI.mono h ?_))
              intro r13 μ13 h
              exact ok_iret rfl dX6_answers_205 ⟨_, rfl, h⟩
set_option maxRecDepth 100000 in
set_option maxHeartbeats 4000000 in
theorem eX6_asked {a b : xA} {h0 : Int64} {Q : Int32 → xM → Prop}   (h : Q (b 6 0 0 12) (a, (b, h0))) : CI mX6_asked [vR 6 0 0] (a, (b, h0)) Q := by
  refine xCalls_of (by decide) (Nat.le_of_ble_eq_true rfl) ?_
  show xOk mX6_asked 0 [(0, vR 6 0 0)] [] (a, (b, h0)) (qI Q)
  refine ok_aload_n (j := 0) dX6_asked_0 rfl rfl ?_
  refine gf_6_12 dX6_asked_1 v6 xw_542 ?_
  exact ok_iret rfl dX6_asked_4 ⟨_, rfl, h⟩
set_option maxRecDepth 100000 in
set_option maxHeartbeats 4000000 in
theorem eX6_all {a b : xA} {h0 : Int64} {Q : Int32 → xM → Prop} {x1 : Int32}  (h : (CI mX6_in [vI x1, vI (0 : Int32), vI (7 : Int32)] (a, (b, h0)) (fun r1 μ1 => ((r1 = 0 → (CI mX6_bad [vR 6 0 0] μ1 (fun r2 μ2 => Q r2 μ2))) ∧ (¬ r1 = 0 → (CI mX6_tellAll [vR 6 0 0, vI x1] μ1 (fun r3 μ3 => Q r3 μ3))))))) : CI mX6_all [vR 6 0 0, vI x1] (a, (b, h0)) Q := by
  refine xCalls_of (by decide) (Nat.le_of_ble_eq_true rfl) ?_
  show xOk mX6_all 0 [(0, vR 6 0 0), (1, vI x1)] [] (a, (b, h0)) (qI Q)
  refine ok_iload_n (j := 1) dX6_all_0 rfl rfl ?_
  refine ok_iconst (v := (0 : Int32)) dX6_all_1 (by decide) ?_
  refine ok_bipush (v := (7 : Int32)) dX6_all_2 (by decide) ?_
  refine ok_callS (M' := mX6_in) [vI x1, vI (0 : Int32), vI (7 : Int32)] dX6_all_4 xw_580 fV_X6_in fS_X6_in (by decide) rfl (Nat.le_of_ble_eq_true rfl) (CI.to (CI.mono h ?_))
  intro r1 μ1 h
  refine ok_if_eq (tgt := 18) dX6_all_7 (by decide) ⟨fun z => ?_, fun z => ?_⟩
  · have h := h.1 z
    refine ok_aload_n (j := 0) dX6_all_18 rfl rfl ?_
    refine ok_callV (M' := mX6_bad) [] dX6_all_19 xw_583 fV_X6_bad fS_X6_bad rfl (by decide) v6 (ob_6 _ _ _) rfl (Nat.le_of_ble_eq_true rfl) (CI.to (CI.mono h ?_))
    intro r2 μ2 h
    exact ok_iret rfl dX6_all_22 ⟨_, rfl, h⟩
  · have h := h.2 z
    refine ok_aload_n (j := 0) dX6_all_10 rfl rfl ?_
    refine ok_iload_n (j := 1) dX6_all_11 rfl rfl ?_
    refine ok_callV (M' := mX6_tellAll) [vI x1] dX6_all_12 xw_857 fV_X6_tellAll fS_X6_tellAll rfl (by decide) v6 (ob_6 _ _ _) rfl (Nat.le_of_ble_eq_true rfl) (CI.to (CI.mono h ?_))
    intro r3 μ3 h
    refine ok_goto (tgt := 22) dX6_all_15 (by decide) ?_
    exact ok_iret rfl dX6_all_22 ⟨_, rfl, h⟩
set_option maxRecDepth 100000 in
set_option maxHeartbeats 4000000 in
theorem eX6_tellAll {a b : xA} {h0 : Int64} {Q : Int32 → xM → Prop} {x1 : Int32}  (h : ((x1 = (0 : Int32) → (vp_in (0 : Int32) 945 ∧ Q (b 30 0 0 (Int32.toNatClampNeg (0 : Int32))) (a, (b, h0)))) ∧ (¬ x1 = (0 : Int32) → ((x1 = (1 : Int32) → (vp_in (1 : Int32) 945 ∧ Q (b 30 0 0 (Int32.toNatClampNeg (1 : Int32))) (a, (b, h0)))) ∧ (¬ x1 = (1 : Int32) → ((x1 = (2 : Int32) → (CI mX6_manyAre [vR 6 0 0, vI (1 : Int32)] (a, (b, h0)) (fun r3 μ3 => Q r3 μ3))) ∧ (¬ x1 = (2 : Int32) → ((x1 = (3 : Int32) → (CI mX6_manyAre [vR 6 0 0, vI (2 : Int32)] (a, (b, h0)) (fun r4 μ4 => Q r4 μ4))) ∧ (¬ x1 = (3 : Int32) → ((x1 = (7 : Int32) → (CI mX6_dues [vR 6 0 0] (a, (b, h0)) (fun r5 μ5 => Q r5 μ5))) ∧ (¬ x1 = (7 : Int32) → (CI mX6_sumOf [vR 6 0 0, vI x1] (a, (b, h0)) (fun r6 μ6 => Q r6 μ6))))))))))))) : CI mX6_tellAll [vR 6 0 0, vI x1] (a, (b, h0)) Q := by
  refine xCalls_of (by decide) (Nat.le_of_ble_eq_true rfl) ?_
  show xOk mX6_tellAll 0 [(0, vR 6 0 0), (1, vI x1)] [] (a, (b, h0)) (qI Q)
  refine ok_iload_n (j := 1) dX6_tellAll_0 rfl rfl ?_
  by_cases z0 : x1 = (0 : Int32)
  · have h := h.1 z0
    refine ok_table dX6_tellAll_1 rfl (off := 47) (tgt := 48) (by (try dsimp only); rw [z0]; decide) (by decide) ?_
    refine ok_aload_n (j := 0) dX6_tellAll_48 rfl rfl ?_
    refine gf_6_0 dX6_tellAll_49 v6 xw_530 ?_
    refine ok_iconst (v := (0 : Int32)) dX6_tellAll_52 (by decide) ?_
    obtain ⟨hb1, h⟩ := h
    refine al_30 dX6_tellAll_53 v30 hb1 ?_
    exact ok_iret rfl dX6_tellAll_54 ⟨_, rfl, h⟩
  · have h := h.2 z0
    by_cases z1 : x1 = (1 : Int32)
    · have h := h.1 z1
      refine ok_table dX6_tellAll_1 rfl (off := 54) (tgt := 55) (by (try dsimp only); rw [z1]; decide) (by decide) ?_
      refine ok_aload_n (j := 0) dX6_tellAll_55 rfl rfl ?_
      refine gf_6_0 dX6_tellAll_56 v6 xw_530 ?_
      refine ok_iconst (v := (1 : Int32)) dX6_tellAll_59 (by decide) ?_
      obtain ⟨hb2, h⟩ := h
      refine al_30 dX6_tellAll_60 v30 hb2 ?_
      exact ok_iret rfl dX6_tellAll_61 ⟨_, rfl, h⟩
    · have h := h.2 z1
      by_cases z2 : x1 = (2 : Int32)
      · have h := h.1 z2
        refine ok_table dX6_tellAll_1 rfl (off := 61) (tgt := 62) (by (try dsimp only); rw [z2]; decide) (by decide) ?_
        refine ok_aload_n (j := 0) dX6_tellAll_62 rfl rfl ?_
        refine ok_iconst (v := (1 : Int32)) dX6_tellAll_63 (by decide) ?_
        refine ok_callV (M' := mX6_manyAre) [vI (1 : Int32)] dX6_tellAll_64 xw_623 fV_X6_manyAre fS_X6_manyAre rfl (by decide) v6 (ob_6 _ _ _) rfl (Nat.le_of_ble_eq_true rfl) (CI.to (CI.mono h ?_))
        intro r3 μ3 h
        exact ok_iret rfl dX6_tellAll_67 ⟨_, rfl, h⟩
      · have h := h.2 z2
        by_cases z3 : x1 = (3 : Int32)
        · have h := h.1 z3
          refine ok_table dX6_tellAll_1 rfl (off := 67) (tgt := 68) (by (try dsimp only); rw [z3]; decide) (by decide) ?_
          refine ok_aload_n (j := 0) dX6_tellAll_68 rfl rfl ?_
          refine ok_iconst (v := (2 : Int32)) dX6_tellAll_69 (by decide) ?_
          refine ok_callV (M' := mX6_manyAre) [vI (2 : Int32)] dX6_tellAll_70 xw_623 fV_X6_manyAre fS_X6_manyAre rfl (by decide) v6 (ob_6 _ _ _) rfl (Nat.le_of_ble_eq_true rfl) (CI.to (CI.mono h ?_))
          intro r4 μ4 h
          exact ok_iret rfl dX6_tellAll_73 ⟨_, rfl, h⟩
        · have h := h.2 z3
          by_cases z4 : x1 = (7 : Int32)
          · have h := h.1 z4
            refine ok_table dX6_tellAll_1 rfl (off := 73) (tgt := 74) (by (try dsimp only); rw [z4]; decide) (by decide) ?_
            refine ok_aload_n (j := 0) dX6_tellAll_74 rfl rfl ?_
            refine ok_callV (M' := mX6_dues) [] dX6_tellAll_75 xw_861 fV_X6_dues fS_X6_dues rfl (by decide) v6 (ob_6 _ _ _) rfl (Nat.le_of_ble_eq_true rfl) (CI.to (CI.mono h ?_))
            intro r5 μ5 h
            exact ok_iret rfl dX6_tellAll_78 ⟨_, rfl, h⟩
          · have h := h.2 z4
            refine ok_table dX6_tellAll_1 rfl (tgt := 79) (xSw_d [(0 : Int32), (1 : Int32), (2 : Int32), (3 : Int32), (7 : Int32)] (by decide) rfl (by simp only [List.mem_cons, List.not_mem_nil, or_false]; rintro c (rfl | rfl | rfl | rfl | rfl) <;> assumption)) (by decide) ?_
            refine ok_aload_n (j := 0) dX6_tellAll_79 rfl rfl ?_
            refine ok_iload_n (j := 1) dX6_tellAll_80 rfl rfl ?_
            refine ok_callV (M' := mX6_sumOf) [vI x1] dX6_tellAll_81 xw_865 fV_X6_sumOf fS_X6_sumOf rfl (by decide) v6 (ob_6 _ _ _) rfl (Nat.le_of_ble_eq_true rfl) (CI.to (CI.mono h ?_))
            intro r6 μ6 h
            exact ok_iret rfl dX6_tellAll_84 ⟨_, rfl, h⟩
set_option maxRecDepth 100000 in
set_option maxHeartbeats 4000000 in
theorem eX6_dues {a b : xA} {h0 : Int64} {Q : Int32 → xM → Prop}   (h : xOk mX6_dues 4 [(0, vR 6 0 0), (1, vI (0 : Int32)), (2, vI (0 : Int32))] [] (a, (b, h0)) (qI Q)) : CI mX6_dues [vR 6 0 0] (a, (b, h0)) Q := by
  refine xCalls_of (by decide) (Nat.le_of_ble_eq_true rfl) ?_
  show xOk mX6_dues 0 [(0, vR 6 0 0)] [] (a, (b, h0)) (qI Q)
  refine ok_iconst (v := (0 : Int32)) dX6_dues_0 (by decide) ?_
  refine ok_istore_n (ls2 := [(1, vI (0 : Int32)), (0, vR 6 0 0)]) dX6_dues_1 rfl (by decide) rfl ?_
  refine ok_iconst (v := (0 : Int32)) dX6_dues_2 (by decide) ?_
  refine ok_istore_n (ls2 := [(2, vI (0 : Int32)), (1, vI (0 : Int32)), (0, vR 6 0 0)]) dX6_dues_3 rfl (by decide) rfl ?_
  exact ok_sub [(0, vR 6 0 0), (1, vI (0 : Int32)), (2, vI (0 : Int32))] [2, 1, 0] rfl h
set_option maxRecDepth 100000 in
set_option maxHeartbeats 4000000 in
theorem rX6_dues_4 {a b : xA} {h0 : Int64} {Q : Int32 → xM → Prop} {x1 : Int32} {x2 : Int32}  (h : (((4 : Int32) ≤ x2 → Q x1 (a, (b, h0))) ∧ (¬ (4 : Int32) ≤ x2 → (CI mX6_toCome [vR 6 0 0, vI x2] (a, (b, h0)) (fun r1 μ1 => xOk mX6_dues 4 [(0, vR 6 0 0), (1, vI (x1 + r1)), (2, vI (x2 + 1))] [] μ1 (qI Q)))))) : xOk mX6_dues 4 [(0, vR 6 0 0), (1, vI x1), (2, vI x2)] [] (a, (b, h0)) (qI Q) := by
  refine ok_iload_n (j := 2) dX6_dues_4 rfl rfl ?_
  refine ok_iconst (v := (4 : Int32)) dX6_dues_5 (by decide) ?_
  refine ok_icmp_ge (tgt := 23) dX6_dues_6 (by decide) ⟨fun z => ?_, fun z => ?_⟩
  · have h := h.1 z
    refine ok_iload_n (j := 1) dX6_dues_23 rfl rfl ?_
    exact ok_iret rfl dX6_dues_24 ⟨_, rfl, h⟩
  · have h := h.2 z
    refine ok_iload_n (j := 1) dX6_dues_9 rfl rfl ?_
    refine ok_aload_n (j := 0) dX6_dues_10 rfl rfl ?_
    refine ok_iload_n (j := 2) dX6_dues_11 rfl rfl ?_
    refine ok_callV (M' := mX6_toCome) [vI x2] dX6_dues_12 xw_719 fV_X6_toCome fS_X6_toCome rfl (by decide) v6 (ob_6 _ _ _) rfl (Nat.le_of_ble_eq_true rfl) (CI.to (CI.mono h ?_))
    intro r1 μ1 h
    refine ok_iadd dX6_dues_15 ?_
    refine ok_istore_n (ls2 := [(1, vI (x1 + r1)), (0, vR 6 0 0), (2, vI x2)]) dX6_dues_16 rfl (by decide) rfl ?_
    refine ok_iinc (j := 2) (v := (x2 + 1)) (ls2 := [(2, vI (x2 + 1)), (1, vI (x1 + r1)), (0, vR 6 0 0)]) dX6_dues_17 rfl rfl (by decide) rfl ?_
    refine ok_goto (tgt := 4) dX6_dues_20 (by decide) ?_
    exact ok_sub [(0, vR 6 0 0), (1, vI (x1 + r1)), (2, vI (x2 + 1))] [2, 1, 0] rfl h
set_option maxRecDepth 100000 in
set_option maxHeartbeats 4000000 in
theorem eX6_sumOf {a b : xA} {h0 : Int64} {Q : Int32 → xM → Prop} {x1 : Int32}  (h : xOk mX6_sumOf 4 [(0, vR 6 0 0), (1, vI x1), (2, vI (0 : Int32)), (3, vI (0 : Int32))] [] (a, (b, h0)) (qI Q)) : CI mX6_sumOf [vR 6 0 0, vI x1] (a, (b, h0)) Q := by
  refine xCalls_of (by decide) (Nat.le_of_ble_eq_true rfl) ?_
  show xOk mX6_sumOf 0 [(0, vR 6 0 0), (1, vI x1)] [] (a, (b, h0)) (qI Q)
  refine ok_iconst (v := (0 : Int32)) dX6_sumOf_0 (by decide) ?_
  refine ok_istore_n (ls2 := [(2, vI (0 : Int32)), (0, vR 6 0 0), (1, vI x1)]) dX6_sumOf_1 rfl (by decide) rfl ?_
  refine ok_iconst (v := (0 : Int32)) dX6_sumOf_2 (by decide) ?_
  refine ok_istore_n (ls2 := [(3, vI (0 : Int32)), (2, vI (0 : Int32)), (0, vR 6 0 0), (1, vI x1)]) dX6_sumOf_3 rfl (by decide) rfl ?_
  exact ok_sub [(0, vR 6 0 0), (1, vI x1), (2, vI (0 : Int32)), (3, vI (0 : Int32))] [2, 3, 1, 0] rfl h
set_option maxRecDepth 100000 in
set_option maxHeartbeats 4000000 in
theorem rX6_sumOf_4 {a b : xA} {h0 : Int64} {Q : Int32 → xM → Prop} {x1 : Int32} {x2 : Int32} {x3 : Int32}  (h : (((3 : Int32) ≤ x3 → Q x2 (a, (b, h0))) ∧ (¬ (3 : Int32) ≤ x3 → ((¬ x1 = (4 : Int32) → ((¬ x1 = (5 : Int32) → (CI mX6_seenFrom [vR 6 0 0, vI x3, vI (0 : Int32)] (a, (b, h0)) (fun r1 μ1 => xOk mX6_sumOf 4 [(0, vR 6 0 0), (1, vI x1), (2, vI (x2 + r1)), (3, vI (x3 + 1))] [] μ1 (qI Q)))) ∧ (x1 = (5 : Int32) → (CI mX6_marksIn [vR 6 0 0, vI x3, vI (0 : Int32)] (a, (b, h0)) (fun r2 μ2 => xOk mX6_sumOf 4 [(0, vR 6 0 0), (1, vI x1), (2, vI (x2 + r2)), (3, vI (x3 + 1))] [] μ2 (qI Q)))))) ∧ (x1 = (4 : Int32) → (CI mX6_sizeOf [vR 6 0 0, vI x3] (a, (b, h0)) (fun r3 μ3 => xOk mX6_sumOf 4 [(0, vR 6 0 0), (1, vI x1), (2, vI (x2 + r3)), (3, vI (x3 + 1))] [] μ3 (qI Q)))))))) : xOk mX6_sumOf 4 [(0, vR 6 0 0), (1, vI x1), (2, vI x2), (3, vI x3)] [] (a, (b, h0)) (qI Q) := by
  refine ok_iload_n (j := 3) dX6_sumOf_4 rfl rfl ?_
  refine ok_iconst (v := (3 : Int32)) dX6_sumOf_5 (by decide) ?_
  refine ok_icmp_ge (tgt := 51) dX6_sumOf_6 (by decide) ⟨fun z => ?_, fun z => ?_⟩
  · have h := h.1 z
    refine ok_iload_n (j := 2) dX6_sumOf_51 rfl rfl ?_
    exact ok_iret rfl dX6_sumOf_52 ⟨_, rfl, h⟩
  · have h := h.2 z
    refine ok_iload_n (j := 2) dX6_sumOf_9 rfl rfl ?_
    refine ok_iload_n (j := 1) dX6_sumOf_10 rfl rfl ?_
    refine ok_iconst (v := (4 : Int32)) dX6_sumOf_11 (by decide) ?_
    refine ok_icmp_ne (tgt := 23) dX6_sumOf_12 (by decide) ⟨fun z => ?_, fun z => ?_⟩
    · have h := h.1 z
      refine ok_iload_n (j := 1) dX6_sumOf_23 rfl rfl ?_
      refine ok_iconst (v := (5 : Int32)) dX6_sumOf_24 (by decide) ?_
      refine ok_icmp_ne (tgt := 37) dX6_sumOf_25 (by decide) ⟨fun z => ?_, fun z => ?_⟩
      · have h := h.1 z
        refine ok_aload_n (j := 0) dX6_sumOf_37 rfl rfl ?_
        refine ok_iload_n (j := 3) dX6_sumOf_38 rfl rfl ?_
        refine ok_iconst (v := (0 : Int32)) dX6_sumOf_39 (by decide) ?_
        refine ok_callV (M' := mX6_seenFrom) [vI x3, vI (0 : Int32)] dX6_sumOf_40 xw_751 fV_X6_seenFrom fS_X6_seenFrom rfl (by decide) v6 (ob_6 _ _ _) rfl (Nat.le_of_ble_eq_true rfl) (CI.to (CI.mono h ?_))
        intro r1 μ1 h
        refine ok_iadd dX6_sumOf_43 ?_
        refine ok_istore_n (ls2 := [(2, vI (x2 + r1)), (0, vR 6 0 0), (1, vI x1), (3, vI x3)]) dX6_sumOf_44 rfl (by decide) rfl ?_
        refine ok_iinc (j := 3) (v := (x3 + 1)) (ls2 := [(3, vI (x3 + 1)), (2, vI (x2 + r1)), (0, vR 6 0 0), (1, vI x1)]) dX6_sumOf_45 rfl rfl (by decide) rfl ?_
        refine ok_goto (tgt := 4) dX6_sumOf_48 (by decide) ?_
        exact ok_sub [(0, vR 6 0 0), (1, vI x1), (2, vI (x2 + r1)), (3, vI (x3 + 1))] [2, 3, 1, 0] rfl h
      · have h := h.2 z
        refine ok_aload_n (j := 0) dX6_sumOf_28 rfl rfl ?_
        refine ok_iload_n (j := 3) dX6_sumOf_29 rfl rfl ?_
        refine ok_iconst (v := (0 : Int32)) dX6_sumOf_30 (by decide) ?_
        refine ok_callV (M' := mX6_marksIn) [vI x3, vI (0 : Int32)] dX6_sumOf_31 xw_755 fV_X6_marksIn fS_X6_marksIn rfl (by decide) v6 (ob_6 _ _ _) rfl (Nat.le_of_ble_eq_true rfl) (CI.to (CI.mono h ?_))
        intro r2 μ2 h
        refine ok_goto (tgt := 43) dX6_sumOf_34 (by decide) ?_
        refine ok_iadd dX6_sumOf_43 ?_
        refine ok_istore_n (ls2 := [(2, vI (x2 + r2)), (0, vR 6 0 0), (1, vI x1), (3, vI x3)]) dX6_sumOf_44 rfl (by decide) rfl ?_
        refine ok_iinc (j := 3) (v := (x3 + 1)) (ls2 := [(3, vI (x3 + 1)), (2, vI (x2 + r2)), (0, vR 6 0 0), (1, vI x1)]) dX6_sumOf_45 rfl rfl (by decide) rfl ?_
        refine ok_goto (tgt := 4) dX6_sumOf_48 (by decide) ?_
        exact ok_sub [(0, vR 6 0 0), (1, vI x1), (2, vI (x2 + r2)), (3, vI (x3 + 1))] [2, 3, 1, 0] rfl h
    · have h := h.2 z
      refine ok_aload_n (j := 0) dX6_sumOf_15 rfl rfl ?_
      refine ok_iload_n (j := 3) dX6_sumOf_16 rfl rfl ?_
      refine ok_callV (M' := mX6_sizeOf) [vI x3] dX6_sumOf_17 xw_638 fV_X6_sizeOf fS_X6_sizeOf rfl (by decide) v6 (ob_6 _ _ _) rfl (Nat.le_of_ble_eq_true rfl) (CI.to (CI.mono h ?_))
      intro r3 μ3 h
      refine ok_goto (tgt := 43) dX6_sumOf_20 (by decide) ?_
      refine ok_iadd dX6_sumOf_43 ?_
      refine ok_istore_n (ls2 := [(2, vI (x2 + r3)), (0, vR 6 0 0), (1, vI x1), (3, vI x3)]) dX6_sumOf_44 rfl (by decide) rfl ?_
      refine ok_iinc (j := 3) (v := (x3 + 1)) (ls2 := [(3, vI (x3 + 1)), (2, vI (x2 + r3)), (0, vR 6 0 0), (1, vI x1)]) dX6_sumOf_45 rfl rfl (by decide) rfl ?_
      refine ok_goto (tgt := 4) dX6_sumOf_48 (by decide) ?_
      exact ok_sub [(0, vR 6 0 0), (1, vI x1), (2, vI (x2 + r3)), (3, vI (x3 + 1))] [2, 3, 1, 0] rfl h
set_option maxRecDepth 100000 in
set_option maxHeartbeats 4000000 in
theorem eX6_back {a b : xA} {h0 : Int64} {Q : Int32 → xM → Prop}   (h : ((¬ (b 6 0 0 2) = 0 → (CV mX6_copies [vR 6 0 0, vR 31 0 0, vI ((945 : Int32) * ((xUp b 6 0 0 2 ((b 6 0 0 2) - (1 : Int32))) 6 0 0 2)), vR 30 0 0, vI (0 : Int32)] (a, ((xUp b 6 0 0 2 ((b 6 0 0 2) - (1 : Int32))), h0)) (fun μ1 => Q (μ1.2.1 6 0 0 2) μ1))) ∧ ((b 6 0 0 2) = 0 → (CI mX6_refuse [vR 6 0 0, vI (2 : Int32), vI (-3 : Int32)] (a, (b, h0)) (fun r2 μ2 => Q r2 μ2))))) : CI mX6_back [vR 6 0 0] (a, (b, h0)) Q := by
  refine xCalls_of (by decide) (Nat.le_of_ble_eq_true rfl) ?_
  show xOk mX6_back 0 [(0, vR 6 0 0)] [] (a, (b, h0)) (qI Q)
  refine ok_aload_n (j := 0) dX6_back_0 rfl rfl ?_
  refine gf_6_2 dX6_back_1 v6 xw_532 ?_
  refine ok_if_ne (tgt := 15) dX6_back_4 (by decide) ⟨fun z => ?_, fun z => ?_⟩
  · have h := h.1 z
    refine ok_aload_n (j := 0) dX6_back_15 rfl rfl ?_
    refine ok_dup dX6_back_16 rfl ?_
    refine gf_6_2 dX6_back_17 v6 xw_532 ?_
    refine ok_iconst (v := (1 : Int32)) dX6_back_20 (by decide) ?_
    refine ok_isub dX6_back_21 ?_
    refine pf_6_2 dX6_back_22 v6 xw_532 ?_
    refine ok_aload_n (j := 0) dX6_back_25 rfl rfl ?_
    refine ok_aload_n (j := 0) dX6_back_26 rfl rfl ?_
    refine gf_6_1 dX6_back_27 v6 xw_531 ?_
    refine ok_sipush (v := (945 : Int32)) dX6_back_30 (by decide) ?_
    refine ok_aload_n (j := 0) dX6_back_33 rfl rfl ?_
    refine gf_6_2 dX6_back_34 v6 xw_532 ?_
    refine ok_imul dX6_back_37 ?_
    refine ok_aload_n (j := 0) dX6_back_38 rfl rfl ?_
    refine gf_6_0 dX6_back_39 v6 xw_530 ?_
    refine ok_iconst (v := (0 : Int32)) dX6_back_42 (by decide) ?_
    refine ok_callV (M' := mX6_copies) [vR 31 0 0, vI ((945 : Int32) * ((xUp b 6 0 0 2 ((b 6 0 0 2) - (1 : Int32))) 6 0 0 2)), vR 30 0 0, vI (0 : Int32)] dX6_back_43 xw_603 fV_X6_copies fS_X6_copies rfl (by decide) v6 (ob_6 _ _ _) rfl (Nat.le_of_ble_eq_true rfl) (CV.to (CV.mono h ?_))
    intro μ1 h
    refine ok_aload_n (j := 0) dX6_back_46 rfl rfl ?_
    refine gf_6_2 dX6_back_47 v6 xw_532 ?_
    exact ok_iret rfl dX6_back_50 ⟨_, rfl, h⟩
  · have h := h.2 z
    refine ok_aload_n (j := 0) dX6_back_7 rfl rfl ?_
    refine ok_iconst (v := (2 : Int32)) dX6_back_8 (by decide) ?_
    refine ok_bipush (v := (-3 : Int32)) dX6_back_9 (by decide) ?_
    refine ok_callV (M' := mX6_refuse) [vI (2 : Int32), vI (-3 : Int32)] dX6_back_11 xw_587 fV_X6_refuse fS_X6_refuse rfl (by decide) v6 (ob_6 _ _ _) rfl (Nat.le_of_ble_eq_true rfl) (CI.to (CI.mono h ?_))
    intro r2 μ2 h
    exact ok_iret rfl dX6_back_14 ⟨_, rfl, h⟩
set_option maxRecDepth 100000 in
set_option maxHeartbeats 4000000 in
theorem eX6_told {a b : xA} {h0 : Int64} {Q : Int32 → xM → Prop} {x1 : Int32}  (h : (CI mX6_in [vI x1, vI (0 : Int32), vI (6 : Int32)] (a, (b, h0)) (fun r1 μ1 => ((r1 = 0 → (CI mX6_bad [vR 6 0 0] μ1 (fun r2 μ2 => Q r2 μ2))) ∧ (¬ r1 = 0 → (CI mX6_tell [vR 6 0 0, vI x1] μ1 (fun r3 μ3 => Q r3 μ3))))))) : CI mX6_told [vR 6 0 0, vI x1] (a, (b, h0)) Q := by
  refine xCalls_of (by decide) (Nat.le_of_ble_eq_true rfl) ?_
  show xOk mX6_told 0 [(0, vR 6 0 0), (1, vI x1)] [] (a, (b, h0)) (qI Q)
  refine ok_iload_n (j := 1) dX6_told_0 rfl rfl ?_
  refine ok_iconst (v := (0 : Int32)) dX6_told_1 (by decide) ?_
  refine ok_bipush (v := (6 : Int32)) dX6_told_2 (by decide) ?_
  refine ok_callS (M' := mX6_in) [vI x1, vI (0 : Int32), vI (6 : Int32)] dX6_told_4 xw_580 fV_X6_in fS_X6_in (by decide) rfl (Nat.le_of_ble_eq_true rfl) (CI.to (CI.mono h ?_))
  intro r1 μ1 h
  refine ok_if_eq (tgt := 18) dX6_told_7 (by decide) ⟨fun z => ?_, fun z => ?_⟩
  · have h := h.1 z
    refine ok_aload_n (j := 0) dX6_told_18 rfl rfl ?_
    refine ok_callV (M' := mX6_bad) [] dX6_told_19 xw_583 fV_X6_bad fS_X6_bad rfl (by decide) v6 (ob_6 _ _ _) rfl (Nat.le_of_ble_eq_true rfl) (CI.to (CI.mono h ?_))
    intro r2 μ2 h
    exact ok_iret rfl dX6_told_22 ⟨_, rfl, h⟩
  · have h := h.2 z
    refine ok_aload_n (j := 0) dX6_told_10 rfl rfl ?_
    refine ok_iload_n (j := 1) dX6_told_11 rfl rfl ?_
    refine ok_callV (M' := mX6_tell) [vI x1] dX6_told_12 xw_877 fV_X6_tell fS_X6_tell rfl (by decide) v6 (ob_6 _ _ _) rfl (Nat.le_of_ble_eq_true rfl) (CI.to (CI.mono h ?_))
    intro r3 μ3 h
    refine ok_goto (tgt := 22) dX6_told_15 (by decide) ?_
    exact ok_iret rfl dX6_told_22 ⟨_, rfl, h⟩
set_option maxRecDepth 100000 in
set_option maxHeartbeats 4000000 in
theorem eX6_tell {a b : xA} {h0 : Int64} {Q : Int32 → xM → Prop} {x1 : Int32}  (h : (((5 : Int32) ≤ x1 → ((¬ x1 = (5 : Int32) → Q (b 6 0 0 2) (a, (b, h0))) ∧ (x1 = (5 : Int32) → Q (b 6 0 0 6) (a, (b, h0))))) ∧ (¬ (5 : Int32) ≤ x1 → (vp_in x1 5 ∧ Q (b 32 0 0 (Int32.toNatClampNeg x1)) (a, (b, h0)))))) : CI mX6_tell [vR 6 0 0, vI x1] (a, (b, h0)) Q := by
  refine xCalls_of (by decide) (Nat.le_of_ble_eq_true rfl) ?_
  show xOk mX6_tell 0 [(0, vR 6 0 0), (1, vI x1)] [] (a, (b, h0)) (qI Q)
  refine ok_iload_n (j := 1) dX6_tell_0 rfl rfl ?_
  refine ok_iconst (v := (5 : Int32)) dX6_tell_1 (by decide) ?_
  refine ok_icmp_ge (tgt := 14) dX6_tell_2 (by decide) ⟨fun z => ?_, fun z => ?_⟩
  · have h := h.1 z
    refine ok_iload_n (j := 1) dX6_tell_14 rfl rfl ?_
    refine ok_iconst (v := (5 : Int32)) dX6_tell_15 (by decide) ?_
    refine ok_icmp_ne (tgt := 26) dX6_tell_16 (by decide) ⟨fun z => ?_, fun z => ?_⟩
    · have h := h.1 z
      refine ok_aload_n (j := 0) dX6_tell_26 rfl rfl ?_
      refine gf_6_2 dX6_tell_27 v6 xw_532 ?_
      exact ok_iret rfl dX6_tell_30 ⟨_, rfl, h⟩
    · have h := h.2 z
      refine ok_aload_n (j := 0) dX6_tell_19 rfl rfl ?_
      refine gf_6_6 dX6_tell_20 v6 xw_536 ?_
      refine ok_goto (tgt := 30) dX6_tell_23 (by decide) ?_
      exact ok_iret rfl dX6_tell_30 ⟨_, rfl, h⟩
  · have h := h.2 z
    refine ok_aload_n (j := 0) dX6_tell_5 rfl rfl ?_
    refine gf_6_4 dX6_tell_6 v6 xw_534 ?_
    refine ok_iload_n (j := 1) dX6_tell_9 rfl rfl ?_
    obtain ⟨hb1, h⟩ := h
    refine al_32 dX6_tell_10 v32 hb1 ?_
    refine ok_goto (tgt := 30) dX6_tell_11 (by decide) ?_
    exact ok_iret rfl dX6_tell_30 ⟨_, rfl, h⟩
set_option maxRecDepth 100000 in
set_option maxHeartbeats 4000000 in
theorem eX6_digest {a b : xA} {h0 : Int64} {Q : Int64 → xM → Prop}   (h : xOk mX6_digest 9 [(0, vR 6 0 0), (1, vI (0 : Int32))] [] (a, (b, (2297 : Int64))) (qL Q)) : CL mX6_digest [vR 6 0 0] (a, (b, h0)) Q := by
  refine xCalls_of (by decide) (Nat.le_of_ble_eq_true rfl) ?_
  show xOk mX6_digest 0 [(0, vR 6 0 0)] [] (a, (b, h0)) (qL Q)
  refine ok_aload_n (j := 0) dX6_digest_0 rfl rfl ?_
  refine ok_ldc2 (v := (2297 : Int64)) dX6_digest_1 xw_885 ?_
  refine pf_6_13 dX6_digest_4 xw_543 ?_
  refine ok_iconst (v := (0 : Int32)) dX6_digest_7 (by decide) ?_
  refine ok_istore_n (ls2 := [(1, vI (0 : Int32)), (0, vR 6 0 0)]) dX6_digest_8 rfl (by decide) rfl ?_
  exact ok_sub [(0, vR 6 0 0), (1, vI (0 : Int32))] [1, 0] rfl h
set_option maxRecDepth 100000 in
set_option maxHeartbeats 4000000 in
theorem rX6_digest_9 {a b : xA} {h0 : Int64} {Q : Int64 → xM → Prop} {x1 : Int32}  (h : (((7 : Int32) ≤ x1 → xOk mX6_digest 32 [(0, vR 6 0 0), (1, vI (0 : Int32))] [] (a, (b, h0)) (qL Q)) ∧ (¬ (7 : Int32) ≤ x1 → (CI mX6_tell [vR 6 0 0, vI x1] (a, (b, h0)) (fun r1 μ1 => (CV mX6_more [vR 6 0 0, vI r1] μ1 (fun μ2 => xOk mX6_digest 9 [(0, vR 6 0 0), (1, vI (x1 + 1))] [] μ2 (qL Q)))))))) : xOk mX6_digest 9 [(0, vR 6 0 0), (1, vI x1)] [] (a, (b, h0)) (qL Q) := by
  refine ok_iload_n (j := 1) dX6_digest_9 rfl rfl ?_
  refine ok_bipush (v := (7 : Int32)) dX6_digest_10 (by decide) ?_
  refine ok_icmp_ge (tgt := 30) dX6_digest_12 (by decide) ⟨fun z => ?_, fun z => ?_⟩
  · have h := h.1 z
    refine ok_iconst (v := (0 : Int32)) dX6_digest_30 (by decide) ?_
    refine ok_istore_n (ls2 := [(1, vI (0 : Int32)), (0, vR 6 0 0)]) dX6_digest_31 rfl (by decide) rfl ?_
    exact ok_sub [(0, vR 6 0 0), (1, vI (0 : Int32))] [1, 0] rfl h
  · have h := h.2 z
    refine ok_aload_n (j := 0) dX6_digest_15 rfl rfl ?_
    refine ok_aload_n (j := 0) dX6_digest_16 rfl rfl ?_
    refine ok_iload_n (j := 1) dX6_digest_17 rfl rfl ?_
    refine ok_callV (M' := mX6_tell) [vI x1] dX6_digest_18 xw_877 fV_X6_tell fS_X6_tell rfl (by decide) v6 (ob_6 _ _ _) rfl (Nat.le_of_ble_eq_true rfl) (CI.to (CI.mono h ?_))
    intro r1 μ1 h
    refine ok_callV (M' := mX6_more) [vI r1] dX6_digest_21 xw_886 fV_X6_more fS_X6_more rfl (by decide) v6 (ob_6 _ _ _) rfl (Nat.le_of_ble_eq_true rfl) (CV.to (CV.mono h ?_))
    intro μ2 h
    refine ok_iinc (j := 1) (v := (x1 + 1)) (ls2 := [(1, vI (x1 + 1)), (0, vR 6 0 0)]) dX6_digest_24 rfl rfl (by decide) rfl ?_
    refine ok_goto (tgt := 9) dX6_digest_27 (by decide) ?_
    exact ok_sub [(0, vR 6 0 0), (1, vI (x1 + 1))] [1, 0] rfl h
set_option maxRecDepth 100000 in
set_option maxHeartbeats 4000000 in
theorem rX6_digest_32 {a b : xA} {h0 : Int64} {Q : Int64 → xM → Prop} {x1 : Int32}  (h : (((8 : Int32) ≤ x1 → xOk mX6_digest 55 [(0, vR 6 0 0), (1, vI (0 : Int32))] [] (a, (b, h0)) (qL Q)) ∧ (¬ (8 : Int32) ≤ x1 → (CI mX6_tellAll [vR 6 0 0, vI x1] (a, (b, h0)) (fun r1 μ1 => (CV mX6_more [vR 6 0 0, vI r1] μ1 (fun μ2 => xOk mX6_digest 32 [(0, vR 6 0 0), (1, vI (x1 + 1))] [] μ2 (qL Q)))))))) : xOk mX6_digest 32 [(0, vR 6 0 0), (1, vI x1)] [] (a, (b, h0)) (qL Q) := by
  refine ok_iload_n (j := 1) dX6_digest_32 rfl rfl ?_
  refine ok_bipush (v := (8 : Int32)) dX6_digest_33 (by decide) ?_
  refine ok_icmp_ge (tgt := 53) dX6_digest_35 (by decide) ⟨fun z => ?_, fun z => ?_⟩
  · have h := h.1 z
    refine ok_iconst (v := (0 : Int32)) dX6_digest_53 (by decide) ?_
    refine ok_istore_n (ls2 := [(1, vI (0 : Int32)), (0, vR 6 0 0)]) dX6_digest_54 rfl (by decide) rfl ?_
    exact ok_sub [(0, vR 6 0 0), (1, vI (0 : Int32))] [1, 0] rfl h
  · have h := h.2 z
    refine ok_aload_n (j := 0) dX6_digest_38 rfl rfl ?_
    refine ok_aload_n (j := 0) dX6_digest_39 rfl rfl ?_
    refine ok_iload_n (j := 1) dX6_digest_40 rfl rfl ?_
    refine ok_callV (M' := mX6_tellAll) [vI x1] dX6_digest_41 xw_857 fV_X6_tellAll fS_X6_tellAll rfl (by decide) v6 (ob_6 _ _ _) rfl (Nat.le_of_ble_eq_true rfl) (CI.to (CI.mono h ?_))
    intro r1 μ1 h
    refine ok_callV (M' := mX6_more) [vI r1] dX6_digest_44 xw_886 fV_X6_more fS_X6_more rfl (by decide) v6 (ob_6 _ _ _) rfl (Nat.le_of_ble_eq_true rfl) (CV.to (CV.mono h ?_))
    intro μ2 h
    refine ok_iinc (j := 1) (v := (x1 + 1)) (ls2 := [(1, vI (x1 + 1)), (0, vR 6 0 0)]) dX6_digest_47 rfl rfl (by decide) rfl ?_
    refine ok_goto (tgt := 32) dX6_digest_50 (by decide) ?_
    exact ok_sub [(0, vR 6 0 0), (1, vI (x1 + 1))] [1, 0] rfl h
set_option maxRecDepth 100000 in
set_option maxHeartbeats 4000000 in
theorem rX6_digest_55 {a b : xA} {h0 : Int64} {Q : Int64 → xM → Prop} {x1 : Int32}  (h : (((4 : Int32) ≤ x1 → xOk mX6_digest 92 [(0, vR 6 0 0), (1, vI (0 : Int32))] [] (a, (b, h0)) (qL Q)) ∧ (¬ (4 : Int32) ≤ x1 → xOk mX6_digest 62 [(0, vR 6 0 0), (1, vI x1), (2, vI (0 : Int32))] [] (a, (b, h0)) (qL Q)))) : xOk mX6_digest 55 [(0, vR 6 0 0), (1, vI x1)] [] (a, (b, h0)) (qL Q) := by
  refine ok_iload_n (j := 1) dX6_digest_55 rfl rfl ?_
  refine ok_iconst (v := (4 : Int32)) dX6_digest_56 (by decide) ?_
  refine ok_icmp_ge (tgt := 90) dX6_digest_57 (by decide) ⟨fun z => ?_, fun z => ?_⟩
  · have h := h.1 z
    refine ok_iconst (v := (0 : Int32)) dX6_digest_90 (by decide) ?_
    refine ok_istore_n (ls2 := [(1, vI (0 : Int32)), (0, vR 6 0 0)]) dX6_digest_91 rfl (by decide) rfl ?_
    exact ok_sub [(0, vR 6 0 0), (1, vI (0 : Int32))] [1, 0] rfl h
  · have h := h.2 z
    refine ok_iconst (v := (0 : Int32)) dX6_digest_60 (by decide) ?_
    refine ok_istore_n (ls2 := [(2, vI (0 : Int32)), (0, vR 6 0 0), (1, vI x1)]) dX6_digest_61 rfl (by decide) rfl ?_
    exact ok_sub [(0, vR 6 0 0), (1, vI x1), (2, vI (0 : Int32))] [1, 2, 0] rfl h
set_option maxRecDepth 100000 in
set_option maxHeartbeats 4000000 in
theorem rX6_digest_62 {a b : xA} {h0 : Int64} {Q : Int64 → xM → Prop} {x1 : Int32} {x2 : Int32}  (h : (((9 : Int32) ≤ x2 → xOk mX6_digest 55 [(0, vR 6 0 0), (1, vI (x1 + 1))] [] (a, (b, h0)) (qL Q)) ∧ (¬ (9 : Int32) ≤ x2 → (CI mX6_tellWriter [vR 6 0 0, vI x1, vI x2] (a, (b, h0)) (fun r1 μ1 => (CV mX6_more [vR 6 0 0, vI r1] μ1 (fun μ2 => xOk mX6_digest 62 [(0, vR 6 0 0), (1, vI x1), (2, vI (x2 + 1))] [] μ2 (qL Q)))))))) : xOk mX6_digest 62 [(0, vR 6 0 0), (1, vI x1), (2, vI x2)] [] (a, (b, h0)) (qL Q) := by
  refine ok_iload_n (j := 2) dX6_digest_62 rfl rfl ?_
  refine ok_bipush (v := (9 : Int32)) dX6_digest_63 (by decide) ?_
  refine ok_icmp_ge (tgt := 84) dX6_digest_65 (by decide) ⟨fun z => ?_, fun z => ?_⟩
  · have h := h.1 z
    refine ok_iinc (j := 1) (v := (x1 + 1)) (ls2 := [(1, vI (x1 + 1)), (0, vR 6 0 0), (2, vI x2)]) dX6_digest_84 rfl rfl (by decide) rfl ?_
    refine ok_goto (tgt := 55) dX6_digest_87 (by decide) ?_
    exact ok_sub [(0, vR 6 0 0), (1, vI (x1 + 1))] [1, 0] rfl h
  · have h := h.2 z
    refine ok_aload_n (j := 0) dX6_digest_68 rfl rfl ?_
    refine ok_aload_n (j := 0) dX6_digest_69 rfl rfl ?_
    refine ok_iload_n (j := 1) dX6_digest_70 rfl rfl ?_
    refine ok_iload_n (j := 2) dX6_digest_71 rfl rfl ?_
    refine ok_callV (M' := mX6_tellWriter) [vI x1, vI x2] dX6_digest_72 xw_715 fV_X6_tellWriter fS_X6_tellWriter rfl (by decide) v6 (ob_6 _ _ _) rfl (Nat.le_of_ble_eq_true rfl) (CI.to (CI.mono h ?_))
    intro r1 μ1 h
    refine ok_callV (M' := mX6_more) [vI r1] dX6_digest_75 xw_886 fV_X6_more fS_X6_more rfl (by decide) v6 (ob_6 _ _ _) rfl (Nat.le_of_ble_eq_true rfl) (CV.to (CV.mono h ?_))
    intro μ2 h
    refine ok_iinc (j := 2) (v := (x2 + 1)) (ls2 := [(2, vI (x2 + 1)), (0, vR 6 0 0), (1, vI x1)]) dX6_digest_78 rfl rfl (by decide) rfl ?_
    refine ok_goto (tgt := 62) dX6_digest_81 (by decide) ?_
    exact ok_sub [(0, vR 6 0 0), (1, vI x1), (2, vI (x2 + 1))] [1, 2, 0] rfl h
set_option maxRecDepth 100000 in
set_option maxHeartbeats 4000000 in
theorem rX6_digest_92 {a b : xA} {h0 : Int64} {Q : Int64 → xM → Prop} {x1 : Int32}  (h : (((3 : Int32) ≤ x1 → xOk mX6_digest 110 [(0, vR 6 0 0), (1, vI (0 : Int32))] [] (a, (b, h0)) (qL Q)) ∧ (¬ (3 : Int32) ≤ x1 → (CV mX6_morePart [vR 6 0 0, vI x1] (a, (b, h0)) (fun μ1 => xOk mX6_digest 92 [(0, vR 6 0 0), (1, vI (x1 + 1))] [] μ1 (qL Q)))))) : xOk mX6_digest 92 [(0, vR 6 0 0), (1, vI x1)] [] (a, (b, h0)) (qL Q) := by
  refine ok_iload_n (j := 1) dX6_digest_92 rfl rfl ?_
  refine ok_iconst (v := (3 : Int32)) dX6_digest_93 (by decide) ?_
  refine ok_icmp_ge (tgt := 108) dX6_digest_94 (by decide) ⟨fun z => ?_, fun z => ?_⟩
  · have h := h.1 z
    refine ok_iconst (v := (0 : Int32)) dX6_digest_108 (by decide) ?_
    refine ok_istore_n (ls2 := [(1, vI (0 : Int32)), (0, vR 6 0 0)]) dX6_digest_109 rfl (by decide) rfl ?_
    exact ok_sub [(0, vR 6 0 0), (1, vI (0 : Int32))] [1, 0] rfl h
  · have h := h.2 z
    refine ok_aload_n (j := 0) dX6_digest_97 rfl rfl ?_
    refine ok_iload_n (j := 1) dX6_digest_98 rfl rfl ?_
    refine ok_callV (M' := mX6_morePart) [vI x1] dX6_digest_99 xw_891 fV_X6_morePart fS_X6_morePart rfl (by decide) v6 (ob_6 _ _ _) rfl (Nat.le_of_ble_eq_true rfl) (CV.to (CV.mono h ?_))
    intro μ1 h
    refine ok_iinc (j := 1) (v := (x1 + 1)) (ls2 := [(1, vI (x1 + 1)), (0, vR 6 0 0)]) dX6_digest_102 rfl rfl (by decide) rfl ?_
    refine ok_goto (tgt := 92) dX6_digest_105 (by decide) ?_
    exact ok_sub [(0, vR 6 0 0), (1, vI (x1 + 1))] [1, 0] rfl h
set_option maxRecDepth 100000 in
set_option maxHeartbeats 4000000 in
theorem rX6_digest_110 {a b : xA} {h0 : Int64} {Q : Int64 → xM → Prop} {x1 : Int32}  (h : (((24 : Int32) ≤ x1 → Q h0 (a, (b, h0))) ∧ (¬ (24 : Int32) ≤ x1 → (CI mX6_tellReader [vR 6 0 0, vI (x1 / (12 : Int32)), vI ((x1 / (4 : Int32)) - (x1 / (4 : Int32)) / (3 : Int32) * (3 : Int32)), vI (x1 - x1 / (4 : Int32) * (4 : Int32))] (a, (b, h0)) (fun r1 μ1 => (CV mX6_more [vR 6 0 0, vI r1] μ1 (fun μ2 => xOk mX6_digest 110 [(0, vR 6 0 0), (1, vI (x1 + 1))] [] μ2 (qL Q)))))))) : xOk mX6_digest 110 [(0, vR 6 0 0), (1, vI x1)] [] (a, (b, h0)) (qL Q) := by
  refine ok_iload_n (j := 1) dX6_digest_110 rfl rfl ?_
  refine ok_bipush (v := (24 : Int32)) dX6_digest_111 (by decide) ?_
  refine ok_icmp_ge (tgt := 142) dX6_digest_113 (by decide) ⟨fun z => ?_, fun z => ?_⟩
  · have h := h.1 z
    refine ok_aload_n (j := 0) dX6_digest_142 rfl rfl ?_
    refine gf_6_13 dX6_digest_143 v6 xw_543 ?_
    exact ok_lret rfl dX6_digest_146 ⟨_, rfl, h⟩
  · have h := h.2 z
    refine ok_aload_n (j := 0) dX6_digest_116 rfl rfl ?_
    refine ok_aload_n (j := 0) dX6_digest_117 rfl rfl ?_
    refine ok_iload_n (j := 1) dX6_digest_118 rfl rfl ?_
    refine ok_bipush (v := (12 : Int32)) dX6_digest_119 (by decide) ?_
    refine ok_idiv dX6_digest_121 (by decide) ?_
    refine ok_iload_n (j := 1) dX6_digest_122 rfl rfl ?_
    refine ok_iconst (v := (4 : Int32)) dX6_digest_123 (by decide) ?_
    refine ok_idiv dX6_digest_124 (by decide) ?_
    refine ok_iconst (v := (3 : Int32)) dX6_digest_125 (by decide) ?_
    refine ok_irem dX6_digest_126 (by decide) ?_
    refine ok_iload_n (j := 1) dX6_digest_127 rfl rfl ?_
    refine ok_iconst (v := (4 : Int32)) dX6_digest_128 (by decide) ?_
    refine ok_irem dX6_digest_129 (by decide) ?_
    refine ok_callV (M' := mX6_tellReader) [vI (x1 / (12 : Int32)), vI ((x1 / (4 : Int32)) - (x1 / (4 : Int32)) / (3 : Int32) * (3 : Int32)), vI (x1 - x1 / (4 : Int32) * (4 : Int32))] dX6_digest_130 xw_791 fV_X6_tellReader fS_X6_tellReader rfl (by decide) v6 (ob_6 _ _ _) rfl (Nat.le_of_ble_eq_true rfl) (CI.to (CI.mono h ?_))
    intro r1 μ1 h
    refine ok_callV (M' := mX6_more) [vI r1] dX6_digest_133 xw_886 fV_X6_more fS_X6_more rfl (by decide) v6 (ob_6 _ _ _) rfl (Nat.le_of_ble_eq_true rfl) (CV.to (CV.mono h ?_))
    intro μ2 h
    refine ok_iinc (j := 1) (v := (x1 + 1)) (ls2 := [(1, vI (x1 + 1)), (0, vR 6 0 0)]) dX6_digest_136 rfl rfl (by decide) rfl ?_
    refine ok_goto (tgt := 110) dX6_digest_139 (by decide) ?_
    exact ok_sub [(0, vR 6 0 0), (1, vI (x1 + 1))] [1, 0] rfl h
set_option maxRecDepth 100000 in
set_option maxHeartbeats 4000000 in
theorem eX6_more {a b : xA} {h0 : Int64} {Q : xM → Prop} {x1 : Int32}  (h : Q (a, (b, (((31 : Int64) * h0) + (Int32.toInt64 x1))))) : CV mX6_more [vR 6 0 0, vI x1] (a, (b, h0)) Q := by
  refine xCalls_of (by decide) (Nat.le_of_ble_eq_true rfl) ?_
  show xOk mX6_more 0 [(0, vR 6 0 0), (1, vI x1)] [] (a, (b, h0)) (qV Q)
  refine ok_aload_n (j := 0) dX6_more_0 rfl rfl ?_
  refine ok_ldc2 (v := (31 : Int64)) dX6_more_1 xw_890 ?_
  refine ok_aload_n (j := 0) dX6_more_4 rfl rfl ?_
  refine gf_6_13 dX6_more_5 v6 xw_543 ?_
  refine ok_lmul dX6_more_8 ?_
  refine ok_iload_n (j := 1) dX6_more_9 rfl rfl ?_
  refine ok_i2l dX6_more_10 ?_
  refine ok_ladd dX6_more_11 ?_
  refine pf_6_13 dX6_more_12 xw_543 ?_
  exact ok_vret rfl dX6_more_15 ⟨rfl, h⟩
set_option maxRecDepth 100000 in
set_option maxHeartbeats 4000000 in
theorem eX6_morePart {a b : xA} {h0 : Int64} {Q : xM → Prop} {x1 : Int32}  (h : xOk mX6_morePart 2 [(0, vR 6 0 0), (1, vI x1), (2, vI (0 : Int32))] [] (a, (b, h0)) (qV Q)) : CV mX6_morePart [vR 6 0 0, vI x1] (a, (b, h0)) Q := by
  refine xCalls_of (by decide) (Nat.le_of_ble_eq_true rfl) ?_
  show xOk mX6_morePart 0 [(0, vR 6 0 0), (1, vI x1)] [] (a, (b, h0)) (qV Q)
  refine ok_iconst (v := (0 : Int32)) dX6_morePart_0 (by decide) ?_
  refine ok_istore_n (ls2 := [(2, vI (0 : Int32)), (0, vR 6 0 0), (1, vI x1)]) dX6_morePart_1 rfl (by decide) rfl ?_
  exact ok_sub [(0, vR 6 0 0), (1, vI x1), (2, vI (0 : Int32))] [1, 2, 0] rfl h
set_option maxRecDepth 100000 in
set_option maxHeartbeats 4000000 in
theorem rX6_morePart_2 {a b : xA} {h0 : Int64} {Q : xM → Prop} {x1 : Int32} {x2 : Int32}  (h : (((6 : Int32) ≤ x2 → xOk mX6_morePart 26 [(0, vR 6 0 0), (1, vI x1), (2, vI (0 : Int32))] [] (a, (b, h0)) (qV Q)) ∧ (¬ (6 : Int32) ≤ x2 → (CI mX6_tellPart [vR 6 0 0, vI x1, vI x2] (a, (b, h0)) (fun r1 μ1 => (CV mX6_more [vR 6 0 0, vI r1] μ1 (fun μ2 => xOk mX6_morePart 2 [(0, vR 6 0 0), (1, vI x1), (2, vI (x2 + 1))] [] μ2 (qV Q)))))))) : xOk mX6_morePart 2 [(0, vR 6 0 0), (1, vI x1), (2, vI x2)] [] (a, (b, h0)) (qV Q) := by
  refine ok_iload_n (j := 2) dX6_morePart_2 rfl rfl ?_
  refine ok_bipush (v := (6 : Int32)) dX6_morePart_3 (by decide) ?_
  refine ok_icmp_ge (tgt := 24) dX6_morePart_5 (by decide) ⟨fun z => ?_, fun z => ?_⟩
  · have h := h.1 z
    refine ok_iconst (v := (0 : Int32)) dX6_morePart_24 (by decide) ?_
    refine ok_istore_n (ls2 := [(2, vI (0 : Int32)), (0, vR 6 0 0), (1, vI x1)]) dX6_morePart_25 rfl (by decide) rfl ?_
    exact ok_sub [(0, vR 6 0 0), (1, vI x1), (2, vI (0 : Int32))] [1, 2, 0] rfl h
  · have h := h.2 z
    refine ok_aload_n (j := 0) dX6_morePart_8 rfl rfl ?_
    refine ok_aload_n (j := 0) dX6_morePart_9 rfl rfl ?_
    refine ok_iload_n (j := 1) dX6_morePart_10 rfl rfl ?_
    refine ok_iload_n (j := 2) dX6_morePart_11 rfl rfl ?_
    refine ok_callV (M' := mX6_tellPart) [vI x1, vI x2] dX6_morePart_12 xw_747 fV_X6_tellPart fS_X6_tellPart rfl (by decide) v6 (ob_6 _ _ _) rfl (Nat.le_of_ble_eq_true rfl) (CI.to (CI.mono h ?_))
    intro r1 μ1 h
    refine ok_callV (M' := mX6_more) [vI r1] dX6_morePart_15 xw_886 fV_X6_more fS_X6_more rfl (by decide) v6 (ob_6 _ _ _) rfl (Nat.le_of_ble_eq_true rfl) (CV.to (CV.mono h ?_))
    intro μ2 h
    refine ok_iinc (j := 2) (v := (x2 + 1)) (ls2 := [(2, vI (x2 + 1)), (0, vR 6 0 0), (1, vI x1)]) dX6_morePart_18 rfl rfl (by decide) rfl ?_
    refine ok_goto (tgt := 2) dX6_morePart_21 (by decide) ?_
    exact ok_sub [(0, vR 6 0 0), (1, vI x1), (2, vI (x2 + 1))] [1, 2, 0] rfl h
set_option maxRecDepth 100000 in
set_option maxHeartbeats 4000000 in
theorem rX6_morePart_26 {a b : xA} {h0 : Int64} {Q : xM → Prop} {x1 : Int32} {x2 : Int32}  (h : (CI mX6_sizeOf [vR 6 0 0, vI x1] (a, (b, h0)) (fun r1 μ1 => ((r1 ≤ x2 → xOk mX6_morePart 68 [(0, vR 6 0 0), (1, vI x1), (2, vI (0 : Int32))] [] μ1 (qV Q)) ∧ (¬ r1 ≤ x2 → xOk mX6_morePart 37 [(0, vR 6 0 0), (1, vI x1), (2, vI x2), (3, vI (0 : Int32))] [] μ1 (qV Q)))))) : xOk mX6_morePart 26 [(0, vR 6 0 0), (1, vI x1), (2, vI x2)] [] (a, (b, h0)) (qV Q) := by
  refine ok_iload_n (j := 2) dX6_morePart_26 rfl rfl ?_
  refine ok_aload_n (j := 0) dX6_morePart_27 rfl rfl ?_
  refine ok_iload_n (j := 1) dX6_morePart_28 rfl rfl ?_
  refine ok_callV (M' := mX6_sizeOf) [vI x1] dX6_morePart_29 xw_638 fV_X6_sizeOf fS_X6_sizeOf rfl (by decide) v6 (ob_6 _ _ _) rfl (Nat.le_of_ble_eq_true rfl) (CI.to (CI.mono h ?_))
  intro r1 μ1 h
  refine ok_icmp_ge (tgt := 66) dX6_morePart_32 (by decide) ⟨fun z => ?_, fun z => ?_⟩
  · have h := h.1 z
    refine ok_iconst (v := (0 : Int32)) dX6_morePart_66 (by decide) ?_
    refine ok_istore_n (ls2 := [(2, vI (0 : Int32)), (0, vR 6 0 0), (1, vI x1)]) dX6_morePart_67 rfl (by decide) rfl ?_
    exact ok_sub [(0, vR 6 0 0), (1, vI x1), (2, vI (0 : Int32))] [1, 2, 0] rfl h
  · have h := h.2 z
    refine ok_iconst (v := (0 : Int32)) dX6_morePart_35 (by decide) ?_
    refine ok_istore_n (ls2 := [(3, vI (0 : Int32)), (0, vR 6 0 0), (1, vI x1), (2, vI x2)]) dX6_morePart_36 rfl (by decide) rfl ?_
    exact ok_sub [(0, vR 6 0 0), (1, vI x1), (2, vI x2), (3, vI (0 : Int32))] [1, 2, 3, 0] rfl h
set_option maxRecDepth 100000 in
set_option maxHeartbeats 4000000 in
theorem rX6_morePart_37 {a b : xA} {h0 : Int64} {Q : xM → Prop} {x1 : Int32} {x2 : Int32} {x3 : Int32}  (h : (((7 : Int32) ≤ x3 → xOk mX6_morePart 26 [(0, vR 6 0 0), (1, vI x1), (2, vI (x2 + 1))] [] (a, (b, h0)) (qV Q)) ∧ (¬ (7 : Int32) ≤ x3 → (CI mX6_tellEntry [vR 6 0 0, vI x1, vI x2, vI x3] (a, (b, h0)) (fun r1 μ1 => (CV mX6_more [vR 6 0 0, vI r1] μ1 (fun μ2 => xOk mX6_morePart 37 [(0, vR 6 0 0), (1, vI x1), (2, vI x2), (3, vI (x3 + 1))] [] μ2 (qV Q)))))))) : xOk mX6_morePart 37 [(0, vR 6 0 0), (1, vI x1), (2, vI x2), (3, vI x3)] [] (a, (b, h0)) (qV Q) := by
  refine ok_iload_n (j := 3) dX6_morePart_37 rfl rfl ?_
  refine ok_bipush (v := (7 : Int32)) dX6_morePart_38 (by decide) ?_
  refine ok_icmp_ge (tgt := 60) dX6_morePart_40 (by decide) ⟨fun z => ?_, fun z => ?_⟩
  · have h := h.1 z
    refine ok_iinc (j := 2) (v := (x2 + 1)) (ls2 := [(2, vI (x2 + 1)), (0, vR 6 0 0), (1, vI x1), (3, vI x3)]) dX6_morePart_60 rfl rfl (by decide) rfl ?_
    refine ok_goto (tgt := 26) dX6_morePart_63 (by decide) ?_
    exact ok_sub [(0, vR 6 0 0), (1, vI x1), (2, vI (x2 + 1))] [1, 2, 0] rfl h
  · have h := h.2 z
    refine ok_aload_n (j := 0) dX6_morePart_43 rfl rfl ?_
    refine ok_aload_n (j := 0) dX6_morePart_44 rfl rfl ?_
    refine ok_iload_n (j := 1) dX6_morePart_45 rfl rfl ?_
    refine ok_iload_n (j := 2) dX6_morePart_46 rfl rfl ?_
    refine ok_iload_n (j := 3) dX6_morePart_47 rfl rfl ?_
    refine ok_callV (M' := mX6_tellEntry) [vI x1, vI x2, vI x3] dX6_morePart_48 xw_727 fV_X6_tellEntry fS_X6_tellEntry rfl (by decide) v6 (ob_6 _ _ _) rfl (Nat.le_of_ble_eq_true rfl) (CI.to (CI.mono h ?_))
    intro r1 μ1 h
    refine ok_callV (M' := mX6_more) [vI r1] dX6_morePart_51 xw_886 fV_X6_more fS_X6_more rfl (by decide) v6 (ob_6 _ _ _) rfl (Nat.le_of_ble_eq_true rfl) (CV.to (CV.mono h ?_))
    intro μ2 h
    refine ok_iinc (j := 3) (v := (x3 + 1)) (ls2 := [(3, vI (x3 + 1)), (0, vR 6 0 0), (1, vI x1), (2, vI x2)]) dX6_morePart_54 rfl rfl (by decide) rfl ?_
    refine ok_goto (tgt := 37) dX6_morePart_57 (by decide) ?_
    exact ok_sub [(0, vR 6 0 0), (1, vI x1), (2, vI x2), (3, vI (x3 + 1))] [1, 2, 3, 0] rfl h
set_option maxRecDepth 100000 in
set_option maxHeartbeats 4000000 in
theorem rX6_morePart_68 {a b : xA} {h0 : Int64} {Q : xM → Prop} {x1 : Int32} {x2 : Int32}  (h : (CI mX6_marksIn [vR 6 0 0, vI x1, vI (1 : Int32)] (a, (b, h0)) (fun r1 μ1 => ((r1 ≤ x2 → Q μ1) ∧ (¬ r1 ≤ x2 → xOk mX6_morePart 80 [(0, vR 6 0 0), (1, vI x1), (2, vI x2), (3, vI (0 : Int32))] [] μ1 (qV Q)))))) : xOk mX6_morePart 68 [(0, vR 6 0 0), (1, vI x1), (2, vI x2)] [] (a, (b, h0)) (qV Q) := by
  refine ok_iload_n (j := 2) dX6_morePart_68 rfl rfl ?_
  refine ok_aload_n (j := 0) dX6_morePart_69 rfl rfl ?_
  refine ok_iload_n (j := 1) dX6_morePart_70 rfl rfl ?_
  refine ok_iconst (v := (1 : Int32)) dX6_morePart_71 (by decide) ?_
  refine ok_callV (M' := mX6_marksIn) [vI x1, vI (1 : Int32)] dX6_morePart_72 xw_755 fV_X6_marksIn fS_X6_marksIn rfl (by decide) v6 (ob_6 _ _ _) rfl (Nat.le_of_ble_eq_true rfl) (CI.to (CI.mono h ?_))
  intro r1 μ1 h
  refine ok_icmp_ge (tgt := 108) dX6_morePart_75 (by decide) ⟨fun z => ?_, fun z => ?_⟩
  · have h := h.1 z
    exact ok_vret rfl dX6_morePart_108 ⟨rfl, h⟩
  · have h := h.2 z
    refine ok_iconst (v := (0 : Int32)) dX6_morePart_78 (by decide) ?_
    refine ok_istore_n (ls2 := [(3, vI (0 : Int32)), (0, vR 6 0 0), (1, vI x1), (2, vI x2)]) dX6_morePart_79 rfl (by decide) rfl ?_
    exact ok_sub [(0, vR 6 0 0), (1, vI x1), (2, vI x2), (3, vI (0 : Int32))] [1, 2, 3, 0] rfl h
set_option maxRecDepth 100000 in
set_option maxHeartbeats 4000000 in
theorem rX6_morePart_80 {a b : xA} {h0 : Int64} {Q : xM → Prop} {x1 : Int32} {x2 : Int32} {x3 : Int32}  (h : (((3 : Int32) ≤ x3 → xOk mX6_morePart 68 [(0, vR 6 0 0), (1, vI x1), (2, vI (x2 + 1))] [] (a, (b, h0)) (qV Q)) ∧ (¬ (3 : Int32) ≤ x3 → (CI mX6_tellAborted [vR 6 0 0, vI x1, vI x2, vI x3] (a, (b, h0)) (fun r1 μ1 => (CV mX6_more [vR 6 0 0, vI r1] μ1 (fun μ2 => xOk mX6_morePart 80 [(0, vR 6 0 0), (1, vI x1), (2, vI x2), (3, vI (x3 + 1))] [] μ2 (qV Q)))))))) : xOk mX6_morePart 80 [(0, vR 6 0 0), (1, vI x1), (2, vI x2), (3, vI x3)] [] (a, (b, h0)) (qV Q) := by
  refine ok_iload_n (j := 3) dX6_morePart_80 rfl rfl ?_
  refine ok_iconst (v := (3 : Int32)) dX6_morePart_81 (by decide) ?_
  refine ok_icmp_ge (tgt := 102) dX6_morePart_82 (by decide) ⟨fun z => ?_, fun z => ?_⟩
  · have h := h.1 z
    refine ok_iinc (j := 2) (v := (x2 + 1)) (ls2 := [(2, vI (x2 + 1)), (0, vR 6 0 0), (1, vI x1), (3, vI x3)]) dX6_morePart_102 rfl rfl (by decide) rfl ?_
    refine ok_goto (tgt := 68) dX6_morePart_105 (by decide) ?_
    exact ok_sub [(0, vR 6 0 0), (1, vI x1), (2, vI (x2 + 1))] [1, 2, 0] rfl h
  · have h := h.2 z
    refine ok_aload_n (j := 0) dX6_morePart_85 rfl rfl ?_
    refine ok_aload_n (j := 0) dX6_morePart_86 rfl rfl ?_
    refine ok_iload_n (j := 1) dX6_morePart_87 rfl rfl ?_
    refine ok_iload_n (j := 2) dX6_morePart_88 rfl rfl ?_
    refine ok_iload_n (j := 3) dX6_morePart_89 rfl rfl ?_
    refine ok_callV (M' := mX6_tellAborted) [vI x1, vI x2, vI x3] dX6_morePart_90 xw_767 fV_X6_tellAborted fS_X6_tellAborted rfl (by decide) v6 (ob_6 _ _ _) rfl (Nat.le_of_ble_eq_true rfl) (CI.to (CI.mono h ?_))
    intro r1 μ1 h
    refine ok_callV (M' := mX6_more) [vI r1] dX6_morePart_93 xw_886 fV_X6_more fS_X6_more rfl (by decide) v6 (ob_6 _ _ _) rfl (Nat.le_of_ble_eq_true rfl) (CV.to (CV.mono h ?_))
    intro μ2 h
    refine ok_iinc (j := 3) (v := (x3 + 1)) (ls2 := [(3, vI (x3 + 1)), (0, vR 6 0 0), (1, vI x1), (2, vI x2)]) dX6_morePart_96 rfl rfl (by decide) rfl ?_
    refine ok_goto (tgt := 80) dX6_morePart_99 (by decide) ?_
    exact ok_sub [(0, vR 6 0 0), (1, vI x1), (2, vI x2), (3, vI (x3 + 1))] [1, 2, 3, 0] rfl h
set_option maxRecDepth 100000 in
set_option maxHeartbeats 4000000 in
theorem eX6_copies_a {a b : xA} {h0 : Int64} {Q : xM → Prop} {x2 : Int32} {x4 : Int32}  (h : xOk mX6_copies 3 [(1, vR 30 0 0), (2, vI x2), (3, vR 31 0 0), (4, vI x4), (5, vI (0 : Int32))] [] (a, (b, h0)) (qV Q)) : CV mX6_copies [vR 6 0 0, vR 30 0 0, vI x2, vR 31 0 0, vI x4] (a, (b, h0)) Q := by
  refine xCalls_of (by decide) (Nat.le_of_ble_eq_true rfl) ?_
  show xOk mX6_copies 0 [(0, vR 6 0 0), (1, vR 30 0 0), (2, vI x2), (3, vR 31 0 0), (4, vI x4)] [] (a, (b, h0)) (qV Q)
  refine ok_iconst (v := (0 : Int32)) dX6_copies_0 (by decide) ?_
  refine ok_istore (ls2 := [(5, vI (0 : Int32)), (0, vR 6 0 0), (1, vR 30 0 0), (2, vI x2), (3, vR 31 0 0), (4, vI x4)]) dX6_copies_1 (by decide) rfl ?_
  exact ok_sub [(1, vR 30 0 0), (2, vI x2), (3, vR 31 0 0), (4, vI x4), (5, vI (0 : Int32))] [2, 3, 4, 5, 0] rfl h
set_option maxRecDepth 100000 in
set_option maxHeartbeats 4000000 in
theorem rX6_copies_a_3 {a b : xA} {h0 : Int64} {Q : xM → Prop} {x2 : Int32} {x4 : Int32} {x5 : Int32}  (h : (((945 : Int32) ≤ x5 → Q (a, (b, h0))) ∧ (¬ (945 : Int32) ≤ x5 → (vp_in (x2 + x5) 945 ∧ (vp_in (x4 + x5) 6615 ∧ xOk mX6_copies 3 [(1, vR 30 0 0), (2, vI x2), (3, vR 31 0 0), (4, vI x4), (5, vI (x5 + 1))] [] (a, ((xUp b 31 0 0 (Int32.toNatClampNeg (x4 + x5)) (b 30 0 0 (Int32.toNatClampNeg (x2 + x5)))), h0)) (qV Q)))))) : xOk mX6_copies 3 [(1, vR 30 0 0), (2, vI x2), (3, vR 31 0 0), (4, vI x4), (5, vI x5)] [] (a, (b, h0)) (qV Q) := by
  refine ok_iload (j := 4) dX6_copies_3 rfl ?_
  refine ok_sipush (v := (945 : Int32)) dX6_copies_5 (by decide) ?_
  refine ok_icmp_ge (tgt := 30) dX6_copies_8 (by decide) ⟨fun z => ?_, fun z => ?_⟩
  · have h := h.1 z
    exact ok_vret rfl dX6_copies_30 ⟨rfl, h⟩
  · have h := h.2 z
    refine ok_aload_n (j := 2) dX6_copies_11 rfl rfl ?_
    refine ok_iload (j := 3) dX6_copies_12 rfl ?_
    refine ok_iload (j := 4) dX6_copies_14 rfl ?_
    refine ok_iadd dX6_copies_16 ?_
    refine ok_aload_n (j := 0) dX6_copies_17 rfl rfl ?_
    refine ok_iload_n (j := 1) dX6_copies_18 rfl rfl ?_
    refine ok_iload (j := 4) dX6_copies_19 rfl ?_
    refine ok_iadd dX6_copies_21 ?_
    obtain ⟨hb1, h⟩ := h
    refine al_30 dX6_copies_22 v30 hb1 ?_
    obtain ⟨hb2, h⟩ := h
    refine as_31 dX6_copies_23 v31 hb2 ?_
    refine ok_iinc (j := 4) (v := (x5 + 1)) (ls2 := [(5, vI (x5 + 1)), (1, vR 30 0 0), (2, vI x2), (3, vR 31 0 0), (4, vI x4)]) dX6_copies_24 rfl rfl (by decide) rfl ?_
    refine ok_goto (tgt := 3) dX6_copies_27 (by decide) ?_
    exact ok_sub [(1, vR 30 0 0), (2, vI x2), (3, vR 31 0 0), (4, vI x4), (5, vI (x5 + 1))] [1, 2, 3, 4, 0] rfl h
set_option maxRecDepth 100000 in
set_option maxHeartbeats 4000000 in
theorem eX6_copies_b {a b : xA} {h0 : Int64} {Q : xM → Prop} {x2 : Int32} {x4 : Int32}  (h : xOk mX6_copies 3 [(1, vR 31 0 0), (2, vI x2), (3, vR 30 0 0), (4, vI x4), (5, vI (0 : Int32))] [] (a, (b, h0)) (qV Q)) : CV mX6_copies [vR 6 0 0, vR 31 0 0, vI x2, vR 30 0 0, vI x4] (a, (b, h0)) Q := by
  refine xCalls_of (by decide) (Nat.le_of_ble_eq_true rfl) ?_
  show xOk mX6_copies 0 [(0, vR 6 0 0), (1, vR 31 0 0), (2, vI x2), (3, vR 30 0 0), (4, vI x4)] [] (a, (b, h0)) (qV Q)
  refine ok_iconst (v := (0 : Int32)) dX6_copies_0 (by decide) ?_
  refine ok_istore (ls2 := [(5, vI (0 : Int32)), (0, vR 6 0 0), (1, vR 31 0 0), (2, vI x2), (3, vR 30 0 0), (4, vI x4)]) dX6_copies_1 (by decide) rfl ?_
  exact ok_sub [(1, vR 31 0 0), (2, vI x2), (3, vR 30 0 0), (4, vI x4), (5, vI (0 : Int32))] [2, 3, 4, 5, 0] rfl h
set_option maxRecDepth 100000 in
set_option maxHeartbeats 4000000 in
theorem rX6_copies_b_3 {a b : xA} {h0 : Int64} {Q : xM → Prop} {x2 : Int32} {x4 : Int32} {x5 : Int32}  (h : (((945 : Int32) ≤ x5 → Q (a, (b, h0))) ∧ (¬ (945 : Int32) ≤ x5 → (vp_in (x2 + x5) 6615 ∧ (vp_in (x4 + x5) 945 ∧ xOk mX6_copies 3 [(1, vR 31 0 0), (2, vI x2), (3, vR 30 0 0), (4, vI x4), (5, vI (x5 + 1))] [] (a, ((xUp b 30 0 0 (Int32.toNatClampNeg (x4 + x5)) (b 31 0 0 (Int32.toNatClampNeg (x2 + x5)))), h0)) (qV Q)))))) : xOk mX6_copies 3 [(1, vR 31 0 0), (2, vI x2), (3, vR 30 0 0), (4, vI x4), (5, vI x5)] [] (a, (b, h0)) (qV Q) := by
  refine ok_iload (j := 4) dX6_copies_3 rfl ?_
  refine ok_sipush (v := (945 : Int32)) dX6_copies_5 (by decide) ?_
  refine ok_icmp_ge (tgt := 30) dX6_copies_8 (by decide) ⟨fun z => ?_, fun z => ?_⟩
  · have h := h.1 z
    exact ok_vret rfl dX6_copies_30 ⟨rfl, h⟩
  · have h := h.2 z
    refine ok_aload_n (j := 2) dX6_copies_11 rfl rfl ?_
    refine ok_iload (j := 3) dX6_copies_12 rfl ?_
    refine ok_iload (j := 4) dX6_copies_14 rfl ?_
    refine ok_iadd dX6_copies_16 ?_
    refine ok_aload_n (j := 0) dX6_copies_17 rfl rfl ?_
    refine ok_iload_n (j := 1) dX6_copies_18 rfl rfl ?_
    refine ok_iload (j := 4) dX6_copies_19 rfl ?_
    refine ok_iadd dX6_copies_21 ?_
    obtain ⟨hb1, h⟩ := h
    refine al_31 dX6_copies_22 v31 hb1 ?_
    obtain ⟨hb2, h⟩ := h
    refine as_30 dX6_copies_23 v30 hb2 ?_
    refine ok_iinc (j := 4) (v := (x5 + 1)) (ls2 := [(5, vI (x5 + 1)), (1, vR 31 0 0), (2, vI x2), (3, vR 30 0 0), (4, vI x4)]) dX6_copies_24 rfl rfl (by decide) rfl ?_
    refine ok_goto (tgt := 3) dX6_copies_27 (by decide) ?_
    exact ok_sub [(1, vR 31 0 0), (2, vI x2), (3, vR 30 0 0), (4, vI x4), (5, vI (x5 + 1))] [1, 2, 3, 4, 0] rfl h
set_option maxRecDepth 100000 in
set_option maxHeartbeats 4000000 in
theorem eX6_copies_c {a b : xA} {h0 : Int64} {Q : xM → Prop} {x2 : Int32} {x4 : Int32}  (h : xOk mX6_copies 3 [(1, vR 31 0 0), (2, vI x2), (3, vR 31 0 0), (4, vI x4), (5, vI (0 : Int32))] [] (a, (b, h0)) (qV Q)) : CV mX6_copies [vR 6 0 0, vR 31 0 0, vI x2, vR 31 0 0, vI x4] (a, (b, h0)) Q := by
  refine xCalls_of (by decide) (Nat.le_of_ble_eq_true rfl) ?_
  show xOk mX6_copies 0 [(0, vR 6 0 0), (1, vR 31 0 0), (2, vI x2), (3, vR 31 0 0), (4, vI x4)] [] (a, (b, h0)) (qV Q)
  refine ok_iconst (v := (0 : Int32)) dX6_copies_0 (by decide) ?_
  refine ok_istore (ls2 := [(5, vI (0 : Int32)), (0, vR 6 0 0), (1, vR 31 0 0), (2, vI x2), (3, vR 31 0 0), (4, vI x4)]) dX6_copies_1 (by decide) rfl ?_
  exact ok_sub [(1, vR 31 0 0), (2, vI x2), (3, vR 31 0 0), (4, vI x4), (5, vI (0 : Int32))] [2, 3, 4, 5, 0] rfl h
set_option maxRecDepth 100000 in
set_option maxHeartbeats 4000000 in
theorem rX6_copies_c_3 {a b : xA} {h0 : Int64} {Q : xM → Prop} {x2 : Int32} {x4 : Int32} {x5 : Int32}  (h : (((945 : Int32) ≤ x5 → Q (a, (b, h0))) ∧ (¬ (945 : Int32) ≤ x5 → (vp_in (x2 + x5) 6615 ∧ (vp_in (x4 + x5) 6615 ∧ xOk mX6_copies 3 [(1, vR 31 0 0), (2, vI x2), (3, vR 31 0 0), (4, vI x4), (5, vI (x5 + 1))] [] (a, ((xUp b 31 0 0 (Int32.toNatClampNeg (x4 + x5)) (b 31 0 0 (Int32.toNatClampNeg (x2 + x5)))), h0)) (qV Q)))))) : xOk mX6_copies 3 [(1, vR 31 0 0), (2, vI x2), (3, vR 31 0 0), (4, vI x4), (5, vI x5)] [] (a, (b, h0)) (qV Q) := by
  refine ok_iload (j := 4) dX6_copies_3 rfl ?_
  refine ok_sipush (v := (945 : Int32)) dX6_copies_5 (by decide) ?_
  refine ok_icmp_ge (tgt := 30) dX6_copies_8 (by decide) ⟨fun z => ?_, fun z => ?_⟩
  · have h := h.1 z
    exact ok_vret rfl dX6_copies_30 ⟨rfl, h⟩
  · have h := h.2 z
    refine ok_aload_n (j := 2) dX6_copies_11 rfl rfl ?_
    refine ok_iload (j := 3) dX6_copies_12 rfl ?_
    refine ok_iload (j := 4) dX6_copies_14 rfl ?_
    refine ok_iadd dX6_copies_16 ?_
    refine ok_aload_n (j := 0) dX6_copies_17 rfl rfl ?_
    refine ok_iload_n (j := 1) dX6_copies_18 rfl rfl ?_
    refine ok_iload (j := 4) dX6_copies_19 rfl ?_
    refine ok_iadd dX6_copies_21 ?_
    obtain ⟨hb1, h⟩ := h
    refine al_31 dX6_copies_22 v31 hb1 ?_
    obtain ⟨hb2, h⟩ := h
    refine as_31 dX6_copies_23 v31 hb2 ?_
    refine ok_iinc (j := 4) (v := (x5 + 1)) (ls2 := [(5, vI (x5 + 1)), (1, vR 31 0 0), (2, vI x2), (3, vR 31 0 0), (4, vI x4)]) dX6_copies_24 rfl rfl (by decide) rfl ?_
    refine ok_goto (tgt := 3) dX6_copies_27 (by decide) ?_
    exact ok_sub [(1, vR 31 0 0), (2, vI x2), (3, vR 31 0 0), (4, vI x4), (5, vI (x5 + 1))] [1, 2, 3, 4, 0] rfl h
set_option maxRecDepth 100000 in
set_option maxHeartbeats 4000000 in
theorem eX6_keeps_a {a b : xA} {h0 : Int64} {Q : xM → Prop} {x2 : Int32}  (h : ((¬ (b 6 0 0 2) = (6 : Int32) → xOk mX6_keeps 50 [(0, vR 6 0 0), (1, vR 30 0 0), (2, vI x2)] [] (a, (b, h0)) (qV Q)) ∧ ((b 6 0 0 2) = (6 : Int32) → xOk mX6_keeps 11 [(0, vR 6 0 0), (1, vR 30 0 0), (2, vI x2), (3, vI (0 : Int32))] [] (a, (b, h0)) (qV Q)))) : CV mX6_keeps [vR 6 0 0, vR 30 0 0, vI x2] (a, (b, h0)) Q := by
  refine xCalls_of (by decide) (Nat.le_of_ble_eq_true rfl) ?_
  show xOk mX6_keeps 0 [(0, vR 6 0 0), (1, vR 30 0 0), (2, vI x2)] [] (a, (b, h0)) (qV Q)
  refine ok_aload_n (j := 0) dX6_keeps_0 rfl rfl ?_
  refine gf_6_2 dX6_keeps_1 v6 xw_532 ?_
  refine ok_bipush (v := (6 : Int32)) dX6_keeps_4 (by decide) ?_
  refine ok_icmp_ne (tgt := 50) dX6_keeps_6 (by decide) ⟨fun z => ?_, fun z => ?_⟩
  · have h := h.1 z
    exact ok_sub [(0, vR 6 0 0), (1, vR 30 0 0), (2, vI x2)] [0, 1, 2] rfl h
  · have h := h.2 z
    refine ok_iconst (v := (0 : Int32)) dX6_keeps_9 (by decide) ?_
    refine ok_istore_n (ls2 := [(3, vI (0 : Int32)), (0, vR 6 0 0), (1, vR 30 0 0), (2, vI x2)]) dX6_keeps_10 rfl (by decide) rfl ?_
    exact ok_sub [(0, vR 6 0 0), (1, vR 30 0 0), (2, vI x2), (3, vI (0 : Int32))] [1, 2, 3, 0] rfl h
set_option maxRecDepth 100000 in
set_option maxHeartbeats 4000000 in
theorem rX6_keeps_a_11 {a b : xA} {h0 : Int64} {Q : xM → Prop} {x2 : Int32} {x3 : Int32}  (h : (((4725 : Int32) ≤ x3 → xOk mX6_keeps 50 [(0, vR 6 0 0), (1, vR 30 0 0), (2, vI x2)] [] (a, ((xUp b 6 0 0 2 ((b 6 0 0 2) - (1 : Int32))), h0)) (qV Q)) ∧ (¬ (4725 : Int32) ≤ x3 → (vp_in (x3 + (945 : Int32)) 6615 ∧ (vp_in x3 6615 ∧ xOk mX6_keeps 11 [(0, vR 6 0 0), (1, vR 30 0 0), (2, vI x2), (3, vI (x3 + 1))] [] (a, ((xUp b 31 0 0 (Int32.toNatClampNeg x3) (b 31 0 0 (Int32.toNatClampNeg (x3 + (945 : Int32))))), h0)) (qV Q)))))) : xOk mX6_keeps 11 [(0, vR 6 0 0), (1, vR 30 0 0), (2, vI x2), (3, vI x3)] [] (a, (b, h0)) (qV Q) := by
  refine ok_iload_n (j := 3) dX6_keeps_11 rfl rfl ?_
  refine ok_sipush (v := (4725 : Int32)) dX6_keeps_12 (by decide) ?_
  refine ok_icmp_ge (tgt := 40) dX6_keeps_15 (by decide) ⟨fun z => ?_, fun z => ?_⟩
  · have h := h.1 z
    refine ok_aload_n (j := 0) dX6_keeps_40 rfl rfl ?_
    refine ok_dup dX6_keeps_41 rfl ?_
    refine gf_6_2 dX6_keeps_42 v6 xw_532 ?_
    refine ok_iconst (v := (1 : Int32)) dX6_keeps_45 (by decide) ?_
    refine ok_isub dX6_keeps_46 ?_
    refine pf_6_2 dX6_keeps_47 v6 xw_532 ?_
    exact ok_sub [(0, vR 6 0 0), (1, vR 30 0 0), (2, vI x2)] [0, 1, 2] rfl h
  · have h := h.2 z
    refine ok_aload_n (j := 0) dX6_keeps_18 rfl rfl ?_
    refine gf_6_1 dX6_keeps_19 v6 xw_531 ?_
    refine ok_iload_n (j := 3) dX6_keeps_22 rfl rfl ?_
    refine ok_aload_n (j := 0) dX6_keeps_23 rfl rfl ?_
    refine gf_6_1 dX6_keeps_24 v6 xw_531 ?_
    refine ok_iload_n (j := 3) dX6_keeps_27 rfl rfl ?_
    refine ok_sipush (v := (945 : Int32)) dX6_keeps_28 (by decide) ?_
    refine ok_iadd dX6_keeps_31 ?_
    obtain ⟨hb1, h⟩ := h
    refine al_31 dX6_keeps_32 v31 hb1 ?_
    obtain ⟨hb2, h⟩ := h
    refine as_31 dX6_keeps_33 v31 hb2 ?_
    refine ok_iinc (j := 3) (v := (x3 + 1)) (ls2 := [(3, vI (x3 + 1)), (0, vR 6 0 0), (1, vR 30 0 0), (2, vI x2)]) dX6_keeps_34 rfl rfl (by decide) rfl ?_
    refine ok_goto (tgt := 11) dX6_keeps_37 (by decide) ?_
    exact ok_sub [(0, vR 6 0 0), (1, vR 30 0 0), (2, vI x2), (3, vI (x3 + 1))] [1, 2, 3, 0] rfl h
set_option maxRecDepth 100000 in
set_option maxHeartbeats 4000000 in
theorem rX6_keeps_a_50 {a b : xA} {h0 : Int64} {Q : xM → Prop} {x2 : Int32}  (h : (CV mX6_copies [vR 6 0 0, vR 30 0 0, vI x2, vR 31 0 0, vI ((945 : Int32) * (b 6 0 0 2))] (a, (b, h0)) (fun μ1 => Q (μ1.1, ((xUp μ1.2.1 6 0 0 2 ((μ1.2.1 6 0 0 2) + (1 : Int32))), μ1.2.2))))) : xOk mX6_keeps 50 [(0, vR 6 0 0), (1, vR 30 0 0), (2, vI x2)] [] (a, (b, h0)) (qV Q) := by
  refine ok_aload_n (j := 0) dX6_keeps_50 rfl rfl ?_
  refine ok_aload_n (j := 1) dX6_keeps_51 rfl rfl ?_
  refine ok_iload_n (j := 2) dX6_keeps_52 rfl rfl ?_
  refine ok_aload_n (j := 0) dX6_keeps_53 rfl rfl ?_
  refine gf_6_1 dX6_keeps_54 v6 xw_531 ?_
  refine ok_sipush (v := (945 : Int32)) dX6_keeps_57 (by decide) ?_
  refine ok_aload_n (j := 0) dX6_keeps_60 rfl rfl ?_
  refine gf_6_2 dX6_keeps_61 v6 xw_532 ?_
  refine ok_imul dX6_keeps_64 ?_
  refine ok_callV (M' := mX6_copies) [vR 30 0 0, vI x2, vR 31 0 0, vI ((945 : Int32) * (b 6 0 0 2))] dX6_keeps_65 xw_603 fV_X6_copies fS_X6_copies rfl (by decide) v6 (ob_6 _ _ _) rfl (Nat.le_of_ble_eq_true rfl) (CV.to (CV.mono h ?_))
  intro μ1 h
  refine ok_aload_n (j := 0) dX6_keeps_68 rfl rfl ?_
  refine ok_dup dX6_keeps_69 rfl ?_
  refine gf_6_2 dX6_keeps_70 v6 xw_532 ?_
  refine ok_iconst (v := (1 : Int32)) dX6_keeps_73 (by decide) ?_
  refine ok_iadd dX6_keeps_74 ?_
  refine pf_6_2 dX6_keeps_75 v6 xw_532 ?_
  exact ok_vret rfl dX6_keeps_78 ⟨rfl, h⟩
set_option maxRecDepth 100000 in
set_option maxHeartbeats 4000000 in
theorem eX6_keeps_b {a b : xA} {h0 : Int64} {Q : xM → Prop} {x2 : Int32}  (h : ((¬ (b 6 0 0 2) = (6 : Int32) → xOk mX6_keeps 50 [(0, vR 6 0 0), (1, vR 31 0 0), (2, vI x2)] [] (a, (b, h0)) (qV Q)) ∧ ((b 6 0 0 2) = (6 : Int32) → xOk mX6_keeps 11 [(0, vR 6 0 0), (1, vR 31 0 0), (2, vI x2), (3, vI (0 : Int32))] [] (a, (b, h0)) (qV Q)))) : CV mX6_keeps [vR 6 0 0, vR 31 0 0, vI x2] (a, (b, h0)) Q := by
  refine xCalls_of (by decide) (Nat.le_of_ble_eq_true rfl) ?_
  show xOk mX6_keeps 0 [(0, vR 6 0 0), (1, vR 31 0 0), (2, vI x2)] [] (a, (b, h0)) (qV Q)
  refine ok_aload_n (j := 0) dX6_keeps_0 rfl rfl ?_
  refine gf_6_2 dX6_keeps_1 v6 xw_532 ?_
  refine ok_bipush (v := (6 : Int32)) dX6_keeps_4 (by decide) ?_
  refine ok_icmp_ne (tgt := 50) dX6_keeps_6 (by decide) ⟨fun z => ?_, fun z => ?_⟩
  · have h := h.1 z
    exact ok_sub [(0, vR 6 0 0), (1, vR 31 0 0), (2, vI x2)] [0, 1, 2] rfl h
  · have h := h.2 z
    refine ok_iconst (v := (0 : Int32)) dX6_keeps_9 (by decide) ?_
    refine ok_istore_n (ls2 := [(3, vI (0 : Int32)), (0, vR 6 0 0), (1, vR 31 0 0), (2, vI x2)]) dX6_keeps_10 rfl (by decide) rfl ?_
    exact ok_sub [(0, vR 6 0 0), (1, vR 31 0 0), (2, vI x2), (3, vI (0 : Int32))] [1, 2, 3, 0] rfl h
set_option maxRecDepth 100000 in
set_option maxHeartbeats 4000000 in
theorem rX6_keeps_b_11 {a b : xA} {h0 : Int64} {Q : xM → Prop} {x2 : Int32} {x3 : Int32}  (h : (((4725 : Int32) ≤ x3 → xOk mX6_keeps 50 [(0, vR 6 0 0), (1, vR 31 0 0), (2, vI x2)] [] (a, ((xUp b 6 0 0 2 ((b 6 0 0 2) - (1 : Int32))), h0)) (qV Q)) ∧ (¬ (4725 : Int32) ≤ x3 → (vp_in (x3 + (945 : Int32)) 6615 ∧ (vp_in x3 6615 ∧ xOk mX6_keeps 11 [(0, vR 6 0 0), (1, vR 31 0 0), (2, vI x2), (3, vI (x3 + 1))] [] (a, ((xUp b 31 0 0 (Int32.toNatClampNeg x3) (b 31 0 0 (Int32.toNatClampNeg (x3 + (945 : Int32))))), h0)) (qV Q)))))) : xOk mX6_keeps 11 [(0, vR 6 0 0), (1, vR 31 0 0), (2, vI x2), (3, vI x3)] [] (a, (b, h0)) (qV Q) := by
  refine ok_iload_n (j := 3) dX6_keeps_11 rfl rfl ?_
  refine ok_sipush (v := (4725 : Int32)) dX6_keeps_12 (by decide) ?_
  refine ok_icmp_ge (tgt := 40) dX6_keeps_15 (by decide) ⟨fun z => ?_, fun z => ?_⟩
  · have h := h.1 z
    refine ok_aload_n (j := 0) dX6_keeps_40 rfl rfl ?_
    refine ok_dup dX6_keeps_41 rfl ?_
    refine gf_6_2 dX6_keeps_42 v6 xw_532 ?_
    refine ok_iconst (v := (1 : Int32)) dX6_keeps_45 (by decide) ?_
    refine ok_isub dX6_keeps_46 ?_
    refine pf_6_2 dX6_keeps_47 v6 xw_532 ?_
    exact ok_sub [(0, vR 6 0 0), (1, vR 31 0 0), (2, vI x2)] [0, 1, 2] rfl h
  · have h := h.2 z
    refine ok_aload_n (j := 0) dX6_keeps_18 rfl rfl ?_
    refine gf_6_1 dX6_keeps_19 v6 xw_531 ?_
    refine ok_iload_n (j := 3) dX6_keeps_22 rfl rfl ?_
    refine ok_aload_n (j := 0) dX6_keeps_23 rfl rfl ?_
    refine gf_6_1 dX6_keeps_24 v6 xw_531 ?_
    refine ok_iload_n (j := 3) dX6_keeps_27 rfl rfl ?_
    refine ok_sipush (v := (945 : Int32)) dX6_keeps_28 (by decide) ?_
    refine ok_iadd dX6_keeps_31 ?_
    obtain ⟨hb1, h⟩ := h
    refine al_31 dX6_keeps_32 v31 hb1 ?_
    obtain ⟨hb2, h⟩ := h
    refine as_31 dX6_keeps_33 v31 hb2 ?_
    refine ok_iinc (j := 3) (v := (x3 + 1)) (ls2 := [(3, vI (x3 + 1)), (0, vR 6 0 0), (1, vR 31 0 0), (2, vI x2)]) dX6_keeps_34 rfl rfl (by decide) rfl ?_
    refine ok_goto (tgt := 11) dX6_keeps_37 (by decide) ?_
    exact ok_sub [(0, vR 6 0 0), (1, vR 31 0 0), (2, vI x2), (3, vI (x3 + 1))] [1, 2, 3, 0] rfl h
set_option maxRecDepth 100000 in
set_option maxHeartbeats 4000000 in
theorem rX6_keeps_b_50 {a b : xA} {h0 : Int64} {Q : xM → Prop} {x2 : Int32}  (h : (CV mX6_copies [vR 6 0 0, vR 31 0 0, vI x2, vR 31 0 0, vI ((945 : Int32) * (b 6 0 0 2))] (a, (b, h0)) (fun μ1 => Q (μ1.1, ((xUp μ1.2.1 6 0 0 2 ((μ1.2.1 6 0 0 2) + (1 : Int32))), μ1.2.2))))) : xOk mX6_keeps 50 [(0, vR 6 0 0), (1, vR 31 0 0), (2, vI x2)] [] (a, (b, h0)) (qV Q) := by
  refine ok_aload_n (j := 0) dX6_keeps_50 rfl rfl ?_
  refine ok_aload_n (j := 1) dX6_keeps_51 rfl rfl ?_
  refine ok_iload_n (j := 2) dX6_keeps_52 rfl rfl ?_
  refine ok_aload_n (j := 0) dX6_keeps_53 rfl rfl ?_
  refine gf_6_1 dX6_keeps_54 v6 xw_531 ?_
  refine ok_sipush (v := (945 : Int32)) dX6_keeps_57 (by decide) ?_
  refine ok_aload_n (j := 0) dX6_keeps_60 rfl rfl ?_
  refine gf_6_2 dX6_keeps_61 v6 xw_532 ?_
  refine ok_imul dX6_keeps_64 ?_
  refine ok_callV (M' := mX6_copies) [vR 31 0 0, vI x2, vR 31 0 0, vI ((945 : Int32) * (b 6 0 0 2))] dX6_keeps_65 xw_603 fV_X6_copies fS_X6_copies rfl (by decide) v6 (ob_6 _ _ _) rfl (Nat.le_of_ble_eq_true rfl) (CV.to (CV.mono h ?_))
  intro μ1 h
  refine ok_aload_n (j := 0) dX6_keeps_68 rfl rfl ?_
  refine ok_dup dX6_keeps_69 rfl ?_
  refine gf_6_2 dX6_keeps_70 v6 xw_532 ?_
  refine ok_iconst (v := (1 : Int32)) dX6_keeps_73 (by decide) ?_
  refine ok_iadd dX6_keeps_74 ?_
  refine pf_6_2 dX6_keeps_75 v6 xw_532 ?_
  exact ok_vret rfl dX6_keeps_78 ⟨rfl, h⟩
