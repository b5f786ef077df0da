set_option maxRecDepth 100000 in
set_option maxHeartbeats 4000000 in
theorem eX5_holder {a b : xA} {h0 : Int64} {Q : Int32 → xM → Prop} {x1 : Int32}  (h : xOk mX5_holder 8 [(0, vR 5 0 0), (1, vI x1), (2, vI (-1 : Int32)), (3, vI (48 : Int32)), (4, vI (0 : Int32))] [] (a, (b, h0)) (qI Q)) : CI mX5_holder [vR 5 0 0, vI x1] (a, (b, h0)) Q := by
  refine xCalls_of (by decide) (Nat.le_of_ble_eq_true rfl) ?_
  show xOk mX5_holder 0 [(0, vR 5 0 0), (1, vI x1)] [] (a, (b, h0)) (qI Q)
  refine ok_iconst (v := (-1 : Int32)) dX5_holder_0 (by decide) ?_
  refine ok_istore_n (ls2 := [(2, vI (-1 : Int32)), (0, vR 5 0 0), (1, vI x1)]) dX5_holder_1 rfl (by decide) rfl ?_
  refine ok_bipush (v := (48 : Int32)) dX5_holder_2 (by decide) ?_
  refine ok_istore_n (ls2 := [(3, vI (48 : Int32)), (2, vI (-1 : Int32)), (0, vR 5 0 0), (1, vI x1)]) dX5_holder_4 rfl (by decide) rfl ?_
  refine ok_iconst (v := (0 : Int32)) dX5_holder_5 (by decide) ?_
  refine ok_istore (ls2 := [(4, vI (0 : Int32)), (3, vI (48 : Int32)), (2, vI (-1 : Int32)), (0, vR 5 0 0), (1, vI x1)]) dX5_holder_6 (by decide) rfl ?_
  exact ok_sub [(0, vR 5 0 0), (1, vI x1), (2, vI (-1 : Int32)), (3, vI (48 : Int32)), (4, vI (0 : Int32))] [3, 4, 2, 1, 0] rfl h
set_option maxRecDepth 100000 in
set_option maxHeartbeats 4000000 in
theorem rX5_holder_8 {a b : xA} {h0 : Int64} {Q : Int32 → xM → Prop} {x1 : Int32} {x2 : Int32} {x3 : Int32} {x4 : Int32}  (h : (((4 : Int32) ≤ x4 → Q x2 (a, (b, h0))) ∧ (¬ (4 : Int32) ≤ x4 → (vp_in x4 4 ∧ (CI mX2_holds [vR 2 0 (Int32.toNatClampNeg x4), vI x1] (a, (b, h0)) (fun r2 μ2 => ((r2 = 0 → xOk mX5_holder 8 [(0, vR 5 0 0), (1, vI x1), (2, vI x2), (3, vI x3), (4, vI (x4 + 1))] [] μ2 (qI Q)) ∧ (¬ r2 = 0 → (vp_in x1 3 ∧ ((x3 ≤ (μ2.1 17 0 (Int32.toNatClampNeg x4) (Int32.toNatClampNeg x1)) → xOk mX5_holder 8 [(0, vR 5 0 0), (1, vI x1), (2, vI x2), (3, vI x3), (4, vI (x4 + 1))] [] μ2 (qI Q)) ∧ (¬ x3 ≤ (μ2.1 17 0 (Int32.toNatClampNeg x4) (Int32.toNatClampNeg x1)) → (vp_in x1 3 ∧ xOk mX5_holder 8 [(0, vR 5 0 0), (1, vI x1), (2, vI x4), (3, vI (μ2.1 17 0 (Int32.toNatClampNeg x4) (Int32.toNatClampNeg x1))), (4, vI (x4 + 1))] [] μ2 (qI Q))))))))))))) : xOk mX5_holder 8 [(0, vR 5 0 0), (1, vI x1), (2, vI x2), (3, vI x3), (4, vI x4)] [] (a, (b, h0)) (qI Q) := by
  refine ok_iload (j := 4) dX5_holder_8 rfl ?_
  refine ok_iconst (v := (4 : Int32)) dX5_holder_10 (by decide) ?_
  refine ok_icmp_ge (tgt := 63) dX5_holder_11 (by decide) ⟨fun z => ?_, fun z => ?_⟩
  · have h := h.1 z
    refine ok_iload_n (j := 2) dX5_holder_63 rfl rfl ?_
    exact ok_iret rfl dX5_holder_64 ⟨_, rfl, h⟩
  · have h := h.2 z
    refine ok_aload_n (j := 0) dX5_holder_14 rfl rfl ?_
    refine gf_5_1 dX5_holder_15 v5 xw_174 ?_
    refine gf_4_3 dX5_holder_18 (v4 (by decide)) xw_86 ?_
    refine ok_iload (j := 4) dX5_holder_21 rfl ?_
    obtain ⟨hb1, h⟩ := h
    refine aa_42 dX5_holder_23 (v42 (by decide)) hb1 ?_
    refine ok_astore (ls2 := [(5, vR 2 0 (Int32.toNatClampNeg x4)), (0, vR 5 0 0), (1, vI x1), (2, vI x2), (3, vI x3), (4, vI x4)]) dX5_holder_24 (by decide) rfl ?_
    refine ok_aload (j := 0) dX5_holder_26 rfl ?_
    refine ok_iload_n (j := 2) dX5_holder_28 rfl rfl ?_
    refine ok_callV (M' := mX2_holds) [vI x1] dX5_holder_29 xw_359 fV_X2_holds fS_X2_holds rfl (by decide) (v2 (by decide) (vp_lt hb1)) (ob_2 _ _ _) rfl (Nat.le_of_ble_eq_true rfl) (CI.to (CI.mono h ?_))
    intro r2 μ2 h
    refine ok_if_eq (tgt := 57) dX5_holder_32 (by decide) ⟨fun z => ?_, fun z => ?_⟩
    · have h := h.1 z
      refine ok_iinc (j := 5) (v := (x4 + 1)) (ls2 := [(4, vI (x4 + 1)), (5, vR 2 0 (Int32.toNatClampNeg x4)), (0, vR 5 0 0), (1, vI x1), (2, vI x2), (3, vI x3)]) dX5_holder_57 rfl rfl (by decide) rfl ?_
      refine ok_goto (tgt := 8) dX5_holder_60 (by decide) ?_
      exact ok_sub [(0, vR 5 0 0), (1, vI x1), (2, vI x2), (3, vI x3), (4, vI (x4 + 1))] [2, 3, 4, 5, 0] rfl h
    · have h := h.2 z
      refine ok_aload (j := 0) dX5_holder_35 rfl ?_
      refine gf_2_4 dX5_holder_37 (v2 (by decide) (vp_lt hb1)) xw_44 ?_
      refine ok_iload_n (j := 2) dX5_holder_40 rfl rfl ?_
      obtain ⟨hb3, h⟩ := h
      refine al_17 dX5_holder_41 (v17 (by decide) (vp_lt hb1)) hb3 ?_
      refine ok_iload_n (j := 4) dX5_holder_42 rfl rfl ?_
      refine ok_icmp_ge (tgt := 57) dX5_holder_43 (by decide) ⟨fun z => ?_, fun z => ?_⟩
      · have h := h.1 z
        refine ok_iinc (j := 5) (v := (x4 + 1)) (ls2 := [(4, vI (x4 + 1)), (5, vR 2 0 (Int32.toNatClampNeg x4)), (0, vR 5 0 0), (1, vI x1), (2, vI x2), (3, vI x3)]) dX5_holder_57 rfl rfl (by decide) rfl ?_
        refine ok_goto (tgt := 8) dX5_holder_60 (by decide) ?_
        exact ok_sub [(0, vR 5 0 0), (1, vI x1), (2, vI x2), (3, vI x3), (4, vI (x4 + 1))] [2, 3, 4, 5, 0] rfl h
      · have h := h.2 z
        refine ok_iload (j := 5) dX5_holder_46 rfl ?_
        refine ok_istore_n (ls2 := [(2, vI x4), (5, vR 2 0 (Int32.toNatClampNeg x4)), (0, vR 5 0 0), (1, vI x1), (3, vI x3), (4, vI x4)]) dX5_holder_48 rfl (by decide) rfl ?_
        refine ok_aload (j := 1) dX5_holder_49 rfl ?_
        refine gf_2_4 dX5_holder_51 (v2 (by decide) (vp_lt hb1)) xw_44 ?_
        refine ok_iload_n (j := 3) dX5_holder_54 rfl rfl ?_
        obtain ⟨hb4, h⟩ := h
        refine al_17 dX5_holder_55 (v17 (by decide) (vp_lt hb1)) hb4 ?_
        refine ok_istore_n (ls2 := [(3, vI (μ2.1 17 0 (Int32.toNatClampNeg x4) (Int32.toNatClampNeg x1))), (2, vI x4), (5, vR 2 0 (Int32.toNatClampNeg x4)), (0, vR 5 0 0), (1, vI x1), (4, vI x4)]) dX5_holder_56 rfl (by decide) rfl ?_
        refine ok_iinc (j := 5) (v := (x4 + 1)) (ls2 := [(4, vI (x4 + 1)), (3, vI (μ2.1 17 0 (Int32.toNatClampNeg x4) (Int32.toNatClampNeg x1))), (2, vI x4), (5, vR 2 0 (Int32.toNatClampNeg x4)), (0, vR 5 0 0), (1, vI x1)]) dX5_holder_57 rfl rfl (by decide) rfl ?_
        refine ok_goto (tgt := 8) dX5_holder_60 (by decide) ?_
        exact ok_sub [(0, vR 5 0 0), (1, vI x1), (2, vI x4), (3, vI (μ2.1 17 0 (Int32.toNatClampNeg x4) (Int32.toNatClampNeg x1))), (4, vI (x4 + 1))] [4, 5, 2, 1, 0] rfl h
set_option maxRecDepth 100000 in
set_option maxHeartbeats 4000000 in
theorem eX5_part {a b : xA} {h0 : Int64} {Q : Int32 → xM → Prop} {x1 : Int32} {x2 : Int32}  (h : (CI mX5_outside [vI x1, vI (3 : Int32)] (a, (b, h0)) (fun r1 μ1 => ((¬ r1 = 0 → (CI mX5_failed [vR 5 0 0, vI (-2 : Int32)] μ1 (fun r2 μ2 => Q r2 μ2))) ∧ (r1 = 0 → (CI mX5_outside [vI x2, vI (6 : Int32)] μ1 (fun r3 μ3 => ((r3 = 0 → ((x2 = (0 : Int32) → (vp_in x1 3 ∧ Q (μ3.1 1 0 (Int32.toNatClampNeg x1) 0) μ3)) ∧ (¬ x2 = (0 : Int32) → ((x2 = (1 : Int32) → (CI mX5_stable [vR 5 0 0, vI x1] μ3 (fun r5 μ5 => Q r5 μ5))) ∧ (¬ x2 = (1 : Int32) → ((x2 = (2 : Int32) → (vp_in x1 3 ∧ (CI mX5_stable [vR 5 0 0, vI x1] μ3 (fun r7 μ7 => (CI mX1_visibleFrom [vR 1 0 (Int32.toNatClampNeg x1), vI (0 : Int32), vI r7] μ7 (fun r8 μ8 => Q r8 μ8)))))) ∧ (¬ x2 = (2 : Int32) → ((x2 = (3 : Int32) → (CI mX5_reserve [vR 5 0 0, vI x1] μ3 (fun r9 μ9 => Q r9 μ9))) ∧ (¬ x2 = (3 : Int32) → ((x2 = (4 : Int32) → (CI mX5_holder [vR 5 0 0, vI x1] μ3 (fun r10 μ10 => Q r10 μ10))) ∧ (¬ x2 = (4 : Int32) → (vp_in x1 3 ∧ (CI mX1_abortedDeeds [vR 1 0 (Int32.toNatClampNeg x1)] μ3 (fun r12 μ12 => Q r12 μ12)))))))))))))) ∧ (¬ r3 = 0 → (CI mX5_failed [vR 5 0 0, vI (-2 : Int32)] μ3 (fun r13 μ13 => Q r13 μ13))))))))))) : CI mX5_part [vR 5 0 0, vI x1, vI x2] (a, (b, h0)) Q := by
  refine xCalls_of (by decide) (Nat.le_of_ble_eq_true rfl) ?_
  show xOk mX5_part 0 [(0, vR 5 0 0), (1, vI x1), (2, vI x2)] [] (a, (b, h0)) (qI Q)
  refine ok_iload_n (j := 1) dX5_part_0 rfl rfl ?_
  refine ok_iconst (v := (3 : Int32)) dX5_part_1 (by decide) ?_
  refine ok_callS (M' := mX5_outside) [vI x1, vI (3 : Int32)] dX5_part_2 xw_205 fV_X5_outside fS_X5_outside (by decide) rfl (Nat.le_of_ble_eq_true rfl) (CI.to (CI.mono h ?_))
  intro r1 μ1 h
  refine ok_if_ne (tgt := 17) dX5_part_5 (by decide) ⟨fun z => ?_, fun z => ?_⟩
  · have h := h.1 z
    refine ok_aload_n (j := 0) dX5_part_17 rfl rfl ?_
    refine ok_bipush (v := (-2 : Int32)) dX5_part_18 (by decide) ?_
    refine ok_callV (M' := mX5_failed) [vI (-2 : Int32)] dX5_part_20 xw_208 fV_X5_failed fS_X5_failed rfl (by decide) v5 (ob_5 _ _ _) rfl (Nat.le_of_ble_eq_true rfl) (CI.to (CI.mono h ?_))
    intro r2 μ2 h
    exact ok_iret rfl dX5_part_23 ⟨_, rfl, h⟩
  · have h := h.2 z
    refine ok_iload_n (j := 2) dX5_part_8 rfl rfl ?_
    refine ok_bipush (v := (6 : Int32)) dX5_part_9 (by decide) ?_
    refine ok_callS (M' := mX5_outside) [vI x2, vI (6 : Int32)] dX5_part_11 xw_205 fV_X5_outside fS_X5_outside (by decide) rfl (Nat.le_of_ble_eq_true rfl) (CI.to (CI.mono h ?_))
    intro r3 μ3 h
    refine ok_if_eq (tgt := 24) dX5_part_14 (by decide) ⟨fun z => ?_, fun z => ?_⟩
    · have h := h.1 z
      refine ok_iload_n (j := 2) dX5_part_24 rfl rfl ?_
      by_cases z0 : x2 = (0 : Int32)
      · have h := h.1 z0
        refine ok_table dX5_part_25 rfl (off := 35) (tgt := 60) (by (try dsimp only); rw [z0]; decide) (by decide) ?_
        refine ok_aload_n (j := 0) dX5_part_60 rfl rfl ?_
        refine gf_5_0 dX5_part_61 v5 xw_173 ?_
        refine ok_iload_n (j := 1) dX5_part_64 rfl rfl ?_
        obtain ⟨hb4, h⟩ := h
        refine aa_40 dX5_part_65 v40 hb4 ?_
        refine gf_1_0 dX5_part_66 (v1 (vp_lt hb4)) xw_146 ?_
        exact ok_iret rfl dX5_part_69 ⟨_, rfl, h⟩
      · have h := h.2 z0
        by_cases z1 : x2 = (1 : Int32)
        · have h := h.1 z1
          refine ok_table dX5_part_25 rfl (off := 45) (tgt := 70) (by (try dsimp only); rw [z1]; decide) (by decide) ?_
          refine ok_aload_n (j := 0) dX5_part_70 rfl rfl ?_
          refine ok_iload_n (j := 1) dX5_part_71 rfl rfl ?_
          refine ok_callV (M' := mX5_stable) [vI x1] dX5_part_72 xw_351 fV_X5_stable fS_X5_stable rfl (by decide) v5 (ob_5 _ _ _) rfl (Nat.le_of_ble_eq_true rfl) (CI.to (CI.mono h ?_))
          intro r5 μ5 h
          exact ok_iret rfl dX5_part_75 ⟨_, rfl, h⟩
        · have h := h.2 z1
          by_cases z2 : x2 = (2 : Int32)
          · have h := h.1 z2
            refine ok_table dX5_part_25 rfl (off := 51) (tgt := 76) (by (try dsimp only); rw [z2]; decide) (by decide) ?_
            refine ok_aload_n (j := 0) dX5_part_76 rfl rfl ?_
            refine gf_5_0 dX5_part_77 v5 xw_173 ?_
            refine ok_iload_n (j := 1) dX5_part_80 rfl rfl ?_
            obtain ⟨hb6, h⟩ := h
            refine aa_40 dX5_part_81 v40 hb6 ?_
            refine ok_iconst (v := (0 : Int32)) dX5_part_82 (by decide) ?_
            refine ok_aload_n (j := 0) dX5_part_83 rfl rfl ?_
            refine ok_iload_n (j := 1) dX5_part_84 rfl rfl ?_
            refine ok_callV (M' := mX5_stable) [vI x1] dX5_part_85 xw_351 fV_X5_stable fS_X5_stable rfl (by decide) v5 (ob_5 _ _ _) rfl (Nat.le_of_ble_eq_true rfl) (CI.to (CI.mono h ?_))
            intro r7 μ7 h
            refine ok_callV (M' := mX1_visibleFrom) [vI (0 : Int32), vI r7] dX5_part_88 xw_372 fV_X1_visibleFrom fS_X1_visibleFrom rfl (by decide) (v1 (vp_lt hb6)) (ob_1 _ _ _) rfl (Nat.le_of_ble_eq_true rfl) (CI.to (CI.mono h ?_))
            intro r8 μ8 h
            exact ok_iret rfl dX5_part_91 ⟨_, rfl, h⟩
          · have h := h.2 z2
            by_cases z3 : x2 = (3 : Int32)
            · have h := h.1 z3
              refine ok_table dX5_part_25 rfl (off := 67) (tgt := 92) (by (try dsimp only); rw [z3]; decide) (by decide) ?_
              refine ok_aload_n (j := 0) dX5_part_92 rfl rfl ?_
              refine ok_iload_n (j := 1) dX5_part_93 rfl rfl ?_
              refine ok_callV (M' := mX5_reserve) [vI x1] dX5_part_94 xw_288 fV_X5_reserve fS_X5_reserve rfl (by decide) v5 (ob_5 _ _ _) rfl (Nat.le_of_ble_eq_true rfl) (CI.to (CI.mono h ?_))
              intro r9 μ9 h
              exact ok_iret rfl dX5_part_97 ⟨_, rfl, h⟩
            · have h := h.2 z3
              by_cases z4 : x2 = (4 : Int32)
              · have h := h.1 z4
                refine ok_table dX5_part_25 rfl (off := 73) (tgt := 98) (by (try dsimp only); rw [z4]; decide) (by decide) ?_
                refine ok_aload_n (j := 0) dX5_part_98 rfl rfl ?_
                refine ok_iload_n (j := 1) dX5_part_99 rfl rfl ?_
                refine ok_callV (M' := mX5_holder) [vI x1] dX5_part_100 xw_355 fV_X5_holder fS_X5_holder rfl (by decide) v5 (ob_5 _ _ _) rfl (Nat.le_of_ble_eq_true rfl) (CI.to (CI.mono h ?_))
                intro r10 μ10 h
                exact ok_iret rfl dX5_part_103 ⟨_, rfl, h⟩
              · have h := h.2 z4
                refine ok_table dX5_part_25 rfl (tgt := 104) (xSw_d [(0 : Int32), (1 : Int32), (2 : Int32), (3 : Int32), (4 : Int32)] (by decide) rfl (by simp only [List.mem_cons, List.not_mem_nil, or_false]; rintro c (rfl | rfl | rfl | rfl | rfl) <;> assumption)) (by decide) ?_
                refine ok_aload_n (j := 0) dX5_part_104 rfl rfl ?_
                refine gf_5_0 dX5_part_105 v5 xw_173 ?_
                refine ok_iload_n (j := 1) dX5_part_108 rfl rfl ?_
                obtain ⟨hb11, h⟩ := h
                refine aa_40 dX5_part_109 v40 hb11 ?_
                refine ok_callV (M' := mX1_abortedDeeds) [] dX5_part_110 xw_377 fV_X1_abortedDeeds fS_X1_abortedDeeds rfl (by decide) (v1 (vp_lt hb11)) (ob_1 _ _ _) rfl (Nat.le_of_ble_eq_true rfl) (CI.to (CI.mono h ?_))
                intro r12 μ12 h
                exact ok_iret rfl dX5_part_113 ⟨_, rfl, h⟩
    · have h := h.2 z
      refine ok_aload_n (j := 0) dX5_part_17 rfl rfl ?_
      refine ok_bipush (v := (-2 : Int32)) dX5_part_18 (by decide) ?_
      refine ok_callV (M' := mX5_failed) [vI (-2 : Int32)] dX5_part_20 xw_208 fV_X5_failed fS_X5_failed rfl (by decide) v5 (ob_5 _ _ _) rfl (Nat.le_of_ble_eq_true rfl) (CI.to (CI.mono h ?_))
      intro r13 μ13 h
      exact ok_iret rfl dX5_part_23 ⟨_, rfl, h⟩
set_option maxRecDepth 100000 in
set_option maxHeartbeats 4000000 in
theorem eX5_aborted {a b : xA} {h0 : Int64} {Q : Int32 → xM → Prop} {x1 : Int32} {x2 : Int32} {x3 : Int32}  (h : (CI mX5_outside [vI x1, vI (3 : Int32)] (a, (b, h0)) (fun r1 μ1 => ((¬ r1 = 0 → (CI mX5_failed [vR 5 0 0, vI (-2 : Int32)] μ1 (fun r2 μ2 => Q r2 μ2))) ∧ (r1 = 0 → ((x2 < 0 → (CI mX5_failed [vR 5 0 0, vI (-2 : Int32)] μ1 (fun r3 μ3 => Q r3 μ3))) ∧ (¬ x2 < 0 → (CI mX5_outside [vI x3, vI (3 : Int32)] μ1 (fun r4 μ4 => ((r4 = 0 → (vp_in x1 3 ∧ (CI mX1_abortedFirst [vR 1 0 (Int32.toNatClampNeg x1), vI x2] μ4 (fun r6 μ6 => ((¬ r6 = (-1 : Int32) → ((x3 = (0 : Int32) → (vp_in r6 48 ∧ Q (μ6.1 10 0 (Int32.toNatClampNeg x1) (Int32.toNatClampNeg r6)) μ6)) ∧ (¬ x3 = (0 : Int32) → ((x3 = (1 : Int32) → Q r6 μ6) ∧ (¬ x3 = (1 : Int32) → (vp_in r6 48 ∧ Q (μ6.1 15 0 (Int32.toNatClampNeg x1) (Int32.toNatClampNeg r6)) μ6)))))) ∧ (r6 = (-1 : Int32) → Q (-1 : Int32) μ6)))))) ∧ (¬ r4 = 0 → (CI mX5_failed [vR 5 0 0, vI (-2 : Int32)] μ4 (fun r9 μ9 => Q r9 μ9))))))))))))) : CI mX5_aborted [vR 5 0 0, vI x1, vI x2, vI x3] (a, (b, h0)) Q := by
  refine xCalls_of (by decide) (Nat.le_of_ble_eq_true rfl) ?_
  show xOk mX5_aborted 0 [(0, vR 5 0 0), (1, vI x1), (2, vI x2), (3, vI x3)] [] (a, (b, h0)) (qI Q)
  refine ok_iload_n (j := 1) dX5_aborted_0 rfl rfl ?_
  refine ok_iconst (v := (3 : Int32)) dX5_aborted_1 (by decide) ?_
  refine ok_callS (M' := mX5_outside) [vI x1, vI (3 : Int32)] dX5_aborted_2 xw_205 fV_X5_outside fS_X5_outside (by decide) rfl (Nat.le_of_ble_eq_true rfl) (CI.to (CI.mono h ?_))
  intro r1 μ1 h
  refine ok_if_ne (tgt := 20) dX5_aborted_5 (by decide) ⟨fun z => ?_, fun z => ?_⟩
  · have h := h.1 z
    refine ok_aload_n (j := 0) dX5_aborted_20 rfl rfl ?_
    refine ok_bipush (v := (-2 : Int32)) dX5_aborted_21 (by decide) ?_
    refine ok_callV (M' := mX5_failed) [vI (-2 : Int32)] dX5_aborted_23 xw_208 fV_X5_failed fS_X5_failed rfl (by decide) v5 (ob_5 _ _ _) rfl (Nat.le_of_ble_eq_true rfl) (CI.to (CI.mono h ?_))
    intro r2 μ2 h
    exact ok_iret rfl dX5_aborted_26 ⟨_, rfl, h⟩
  · have h := h.2 z
    refine ok_iload_n (j := 2) dX5_aborted_8 rfl rfl ?_
    refine ok_if_lt (tgt := 20) dX5_aborted_9 (by decide) ⟨fun z => ?_, fun z => ?_⟩
    · have h := h.1 z
      refine ok_aload_n (j := 0) dX5_aborted_20 rfl rfl ?_
      refine ok_bipush (v := (-2 : Int32)) dX5_aborted_21 (by decide) ?_
      refine ok_callV (M' := mX5_failed) [vI (-2 : Int32)] dX5_aborted_23 xw_208 fV_X5_failed fS_X5_failed rfl (by decide) v5 (ob_5 _ _ _) rfl (Nat.le_of_ble_eq_true rfl) (CI.to (CI.mono h ?_))
      intro r3 μ3 h
      exact ok_iret rfl dX5_aborted_26 ⟨_, rfl, h⟩
    · have h := h.2 z
      refine ok_iload_n (j := 3) dX5_aborted_12 rfl rfl ?_
      refine ok_iconst (v := (3 : Int32)) dX5_aborted_13 (by decide) ?_
      refine ok_callS (M' := mX5_outside) [vI x3, vI (3 : Int32)] dX5_aborted_14 xw_205 fV_X5_outside fS_X5_outside (by decide) rfl (Nat.le_of_ble_eq_true rfl) (CI.to (CI.mono h ?_))
      intro r4 μ4 h
      refine ok_if_eq (tgt := 27) dX5_aborted_17 (by decide) ⟨fun z => ?_, fun z => ?_⟩
      · have h := h.1 z
        refine ok_aload_n (j := 0) dX5_aborted_27 rfl rfl ?_
        refine gf_5_0 dX5_aborted_28 v5 xw_173 ?_
        refine ok_iload_n (j := 1) dX5_aborted_31 rfl rfl ?_
        obtain ⟨hb5, h⟩ := h
        refine aa_40 dX5_aborted_32 v40 hb5 ?_
        refine ok_astore (ls2 := [(4, vR 1 0 (Int32.toNatClampNeg x1)), (0, vR 5 0 0), (1, vI x1), (2, vI x2), (3, vI x3)]) dX5_aborted_33 (by decide) rfl ?_
        refine ok_aload (j := 0) dX5_aborted_35 rfl ?_
        refine ok_iload_n (j := 3) dX5_aborted_37 rfl rfl ?_
        refine ok_callV (M' := mX1_abortedFirst) [vI x2] dX5_aborted_38 xw_389 fV_X1_abortedFirst fS_X1_abortedFirst rfl (by decide) (v1 (vp_lt hb5)) (ob_1 _ _ _) rfl (Nat.le_of_ble_eq_true rfl) (CI.to (CI.mono h ?_))
        intro r6 μ6 h
        refine ok_istore (ls2 := [(5, vI r6), (4, vR 1 0 (Int32.toNatClampNeg x1)), (0, vR 5 0 0), (1, vI x1), (2, vI x2), (3, vI x3)]) dX5_aborted_41 (by decide) rfl ?_
        refine ok_iload (j := 0) dX5_aborted_43 rfl ?_
        refine ok_iconst (v := (-1 : Int32)) dX5_aborted_45 (by decide) ?_
        refine ok_icmp_ne (tgt := 51) dX5_aborted_46 (by decide) ⟨fun z => ?_, fun z => ?_⟩
        · have h := h.1 z
          refine ok_iload_n (j := 5) dX5_aborted_51 rfl rfl ?_
          by_cases z0 : x3 = (0 : Int32)
          · have h := h.1 z0
            refine ok_lookup dX5_aborted_52 rfl (off := 28) (tgt := 80) (by (try dsimp only); rw [z0]; decide) (by decide) ?_
            refine ok_aload (j := 1) dX5_aborted_80 rfl ?_
            refine gf_1_1 dX5_aborted_82 (v1 (vp_lt hb5)) xw_148 ?_
            refine ok_iload (j := 0) dX5_aborted_85 rfl ?_
            obtain ⟨hb7, h⟩ := h
            refine al_10 dX5_aborted_87 (v10 (vp_lt hb5)) hb7 ?_
            exact ok_iret rfl dX5_aborted_88 ⟨_, rfl, h⟩
          · have h := h.2 z0
            by_cases z1 : x3 = (1 : Int32)
            · have h := h.1 z1
              refine ok_lookup dX5_aborted_52 rfl (off := 37) (tgt := 89) (by (try dsimp only); rw [z1]; decide) (by decide) ?_
              refine ok_iload (j := 0) dX5_aborted_89 rfl ?_
              exact ok_iret rfl dX5_aborted_91 ⟨_, rfl, h⟩
            · have h := h.2 z1
              refine ok_lookup dX5_aborted_52 rfl (off := 40) (tgt := 92) (xLk2 (x3) z0 z1) (by decide) ?_
              refine ok_aload (j := 1) dX5_aborted_92 rfl ?_
              refine gf_1_6 dX5_aborted_94 (v1 (vp_lt hb5)) xw_157 ?_
              refine ok_iload (j := 0) dX5_aborted_97 rfl ?_
              obtain ⟨hb8, h⟩ := h
              refine al_15 dX5_aborted_99 (v15 (vp_lt hb5)) hb8 ?_
              exact ok_iret rfl dX5_aborted_100 ⟨_, rfl, h⟩
        · have h := h.2 z
          refine ok_iconst (v := (-1 : Int32)) dX5_aborted_49 (by decide) ?_
          exact ok_iret rfl dX5_aborted_50 ⟨_, rfl, h⟩
      · have h := h.2 z
        refine ok_aload_n (j := 0) dX5_aborted_20 rfl rfl ?_
        refine ok_bipush (v := (-2 : Int32)) dX5_aborted_21 (by decide) ?_
        refine ok_callV (M' := mX5_failed) [vI (-2 : Int32)] dX5_aborted_23 xw_208 fV_X5_failed fS_X5_failed rfl (by decide) v5 (ob_5 _ _ _) rfl (Nat.le_of_ble_eq_true rfl) (CI.to (CI.mono h ?_))
        intro r9 μ9 h
        exact ok_iret rfl dX5_aborted_26 ⟨_, rfl, h⟩
set_option maxRecDepth 100000 in
set_option maxHeartbeats 4000000 in
theorem eX5_reads {a b : xA} {h0 : Int64} {Q : Int32 → xM → Prop} {x1 : Int32} {x2 : Int32}  (h : (CI mX5_outside [vI x1, vI (2 : Int32)] (a, (b, h0)) (fun r1 μ1 => ((¬ r1 = 0 → (CI mX5_failed [vR 5 0 0, vI (-2 : Int32)] μ1 (fun r2 μ2 => Q r2 μ2))) ∧ (r1 = 0 → (CI mX5_outside [vI x2, vI (3 : Int32)] μ1 (fun r3 μ3 => ((r3 = 0 → (vp_in x1 2 ∧ (vp_in x2 3 ∧ (vp_in x2 3 ∧ (CI mX5_stable [vR 5 0 0, vI x2] μ3 (fun r7 μ7 => (CI mX1_nextVisible [vR 1 0 (Int32.toNatClampNeg x2), vI (μ3.1 20 0 (Int32.toNatClampNeg x1) (Int32.toNatClampNeg x2)), vI r7] μ7 (fun r8 μ8 => ((¬ r8 = (-1 : Int32) → (CV mX5_keep [vR 5 0 0] μ8 (fun μ9 => (vp_in x2 3 ∧ (vp_in x2 3 ∧ (vp_in r8 48 ∧ Q ((xUp μ9.1 20 0 (Int32.toNatClampNeg x1) (Int32.toNatClampNeg x2) (r8 + (1 : Int32))) 13 0 (Int32.toNatClampNeg x2) (Int32.toNatClampNeg r8)) ((xUp μ9.1 20 0 (Int32.toNatClampNeg x1) (Int32.toNatClampNeg x2) (r8 + (1 : Int32))), μ9.2))))))) ∧ (r8 = (-1 : Int32) → Q (-1 : Int32) μ8)))))))))) ∧ (¬ r3 = 0 → (CI mX5_failed [vR 5 0 0, vI (-2 : Int32)] μ3 (fun r13 μ13 => Q r13 μ13))))))))))) : CI mX5_reads [vR 5 0 0, vI x1, vI x2] (a, (b, h0)) Q := by
  refine xCalls_of (by decide) (Nat.le_of_ble_eq_true rfl) ?_
  show xOk mX5_reads 0 [(0, vR 5 0 0), (1, vI x1), (2, vI x2)] [] (a, (b, h0)) (qI Q)
  refine ok_iload_n (j := 1) dX5_reads_0 rfl rfl ?_
  refine ok_iconst (v := (2 : Int32)) dX5_reads_1 (by decide) ?_
  refine ok_callS (M' := mX5_outside) [vI x1, vI (2 : Int32)] dX5_reads_2 xw_205 fV_X5_outside fS_X5_outside (by decide) rfl (Nat.le_of_ble_eq_true rfl) (CI.to (CI.mono h ?_))
  intro r1 μ1 h
  refine ok_if_ne (tgt := 16) dX5_reads_5 (by decide) ⟨fun z => ?_, fun z => ?_⟩
  · have h := h.1 z
    refine ok_aload_n (j := 0) dX5_reads_16 rfl rfl ?_
    refine ok_bipush (v := (-2 : Int32)) dX5_reads_17 (by decide) ?_
    refine ok_callV (M' := mX5_failed) [vI (-2 : Int32)] dX5_reads_19 xw_208 fV_X5_failed fS_X5_failed rfl (by decide) v5 (ob_5 _ _ _) rfl (Nat.le_of_ble_eq_true rfl) (CI.to (CI.mono h ?_))
    intro r2 μ2 h
    exact ok_iret rfl dX5_reads_22 ⟨_, rfl, h⟩
  · have h := h.2 z
    refine ok_iload_n (j := 2) dX5_reads_8 rfl rfl ?_
    refine ok_iconst (v := (3 : Int32)) dX5_reads_9 (by decide) ?_
    refine ok_callS (M' := mX5_outside) [vI x2, vI (3 : Int32)] dX5_reads_10 xw_205 fV_X5_outside fS_X5_outside (by decide) rfl (Nat.le_of_ble_eq_true rfl) (CI.to (CI.mono h ?_))
    intro r3 μ3 h
    refine ok_if_eq (tgt := 23) dX5_reads_13 (by decide) ⟨fun z => ?_, fun z => ?_⟩
    · have h := h.1 z
      refine ok_aload_n (j := 0) dX5_reads_23 rfl rfl ?_
      refine gf_5_1 dX5_reads_24 v5 xw_174 ?_
      refine gf_4_4 dX5_reads_27 (v4 (by decide)) xw_88 ?_
      refine ok_iload_n (j := 1) dX5_reads_30 rfl rfl ?_
      obtain ⟨hb4, h⟩ := h
      refine aa_43 dX5_reads_31 (v43 (by decide)) hb4 ?_
      refine ok_astore_n (ls2 := [(3, vR 0 0 (Int32.toNatClampNeg x1)), (0, vR 5 0 0), (1, vI x1), (2, vI x2)]) dX5_reads_32 rfl (by decide) rfl ?_
      refine ok_aload_n (j := 1) dX5_reads_33 rfl rfl ?_
      refine gf_5_0 dX5_reads_34 v5 xw_173 ?_
      refine ok_iload_n (j := 3) dX5_reads_37 rfl rfl ?_
      obtain ⟨hb5, h⟩ := h
      refine aa_40 dX5_reads_38 v40 hb5 ?_
      refine ok_aload_n (j := 0) dX5_reads_39 rfl rfl ?_
      refine gf_0_0 dX5_reads_40 (v0 (by decide) (vp_lt hb4)) xw_71 ?_
      refine ok_iload_n (j := 3) dX5_reads_43 rfl rfl ?_
      obtain ⟨hb6, h⟩ := h
      refine al_20 dX5_reads_44 (v20 (by decide) (vp_lt hb4)) hb6 ?_
      refine ok_aload_n (j := 1) dX5_reads_45 rfl rfl ?_
      refine ok_iload_n (j := 3) dX5_reads_46 rfl rfl ?_
      refine ok_callV (M' := mX5_stable) [vI x2] dX5_reads_47 xw_351 fV_X5_stable fS_X5_stable rfl (by decide) v5 (ob_5 _ _ _) rfl (Nat.le_of_ble_eq_true rfl) (CI.to (CI.mono h ?_))
      intro r7 μ7 h
      refine ok_callV (M' := mX1_nextVisible) [vI (μ3.1 20 0 (Int32.toNatClampNeg x1) (Int32.toNatClampNeg x2)), vI r7] dX5_reads_50 xw_397 fV_X1_nextVisible fS_X1_nextVisible rfl (by decide) (v1 (vp_lt hb5)) (ob_1 _ _ _) rfl (Nat.le_of_ble_eq_true rfl) (CI.to (CI.mono h ?_))
      intro r8 μ8 h
      refine ok_istore (ls2 := [(4, vI r8), (3, vR 0 0 (Int32.toNatClampNeg x1)), (0, vR 5 0 0), (1, vI x1), (2, vI x2)]) dX5_reads_53 (by decide) rfl ?_
      refine ok_iload (j := 0) dX5_reads_55 rfl ?_
      refine ok_iconst (v := (-1 : Int32)) dX5_reads_57 (by decide) ?_
      refine ok_icmp_ne (tgt := 63) dX5_reads_58 (by decide) ⟨fun z => ?_, fun z => ?_⟩
      · have h := h.1 z
        refine ok_aload_n (j := 2) dX5_reads_63 rfl rfl ?_
        refine ok_callV (M' := mX5_keep) [] dX5_reads_64 xw_212 fV_X5_keep fS_X5_keep rfl (by decide) v5 (ob_5 _ _ _) rfl (Nat.le_of_ble_eq_true rfl) (CV.to (CV.mono h ?_))
        intro μ9 h
        refine ok_aload_n (j := 1) dX5_reads_67 rfl rfl ?_
        refine gf_0_0 dX5_reads_68 (v0 (by decide) (vp_lt hb4)) xw_71 ?_
        refine ok_iload_n (j := 4) dX5_reads_71 rfl rfl ?_
        refine ok_iload (j := 0) dX5_reads_72 rfl ?_
        refine ok_iconst (v := (1 : Int32)) dX5_reads_74 (by decide) ?_
        refine ok_iadd dX5_reads_75 ?_
        obtain ⟨hb10, h⟩ := h
        refine as_20 dX5_reads_76 (v20 (by decide) (vp_lt hb4)) hb10 ?_
        refine ok_aload_n (j := 2) dX5_reads_77 rfl rfl ?_
        refine gf_5_0 dX5_reads_78 v5 xw_173 ?_
        refine ok_iload_n (j := 4) dX5_reads_81 rfl rfl ?_
        obtain ⟨hb11, h⟩ := h
        refine aa_40 dX5_reads_82 v40 hb11 ?_
        refine gf_1_4 dX5_reads_83 (v1 (vp_lt hb11)) xw_154 ?_
        refine ok_iload (j := 0) dX5_reads_86 rfl ?_
        obtain ⟨hb12, h⟩ := h
        refine al_13 dX5_reads_88 (v13 (vp_lt hb11)) hb12 ?_
        exact ok_iret rfl dX5_reads_89 ⟨_, rfl, h⟩
      · have h := h.2 z
        refine ok_iconst (v := (-1 : Int32)) dX5_reads_61 (by decide) ?_
        exact ok_iret rfl dX5_reads_62 ⟨_, rfl, h⟩
    · have h := h.2 z
      refine ok_aload_n (j := 0) dX5_reads_16 rfl rfl ?_
      refine ok_bipush (v := (-2 : Int32)) dX5_reads_17 (by decide) ?_
      refine ok_callV (M' := mX5_failed) [vI (-2 : Int32)] dX5_reads_19 xw_208 fV_X5_failed fS_X5_failed rfl (by decide) v5 (ob_5 _ _ _) rfl (Nat.le_of_ble_eq_true rfl) (CI.to (CI.mono h ?_))
      intro r13 μ13 h
      exact ok_iret rfl dX5_reads_22 ⟨_, rfl, h⟩
set_option maxRecDepth 100000 in
set_option maxHeartbeats 4000000 in
theorem eX5_rewinds {a b : xA} {h0 : Int64} {Q : Int32 → xM → Prop} {x1 : Int32}  (h : (CI mX5_outside [vI x1, vI (2 : Int32)] (a, (b, h0)) (fun r1 μ1 => ((r1 = 0 → (CV mX5_keep [vR 5 0 0] μ1 (fun μ2 => (vp_in x1 2 ∧ (CI mX0_returnToSaved [vR 0 0 (Int32.toNatClampNeg x1)] μ2 (fun r4 μ4 => Q r4 μ4)))))) ∧ (¬ r1 = 0 → (CI mX5_failed [vR 5 0 0, vI (-2 : Int32)] μ1 (fun r5 μ5 => Q r5 μ5))))))) : CI mX5_rewinds [vR 5 0 0, vI x1] (a, (b, h0)) Q := by
  refine xCalls_of (by decide) (Nat.le_of_ble_eq_true rfl) ?_
  show xOk mX5_rewinds 0 [(0, vR 5 0 0), (1, vI x1)] [] (a, (b, h0)) (qI Q)
  refine ok_iload_n (j := 1) dX5_rewinds_0 rfl rfl ?_
  refine ok_iconst (v := (2 : Int32)) dX5_rewinds_1 (by decide) ?_
  refine ok_callS (M' := mX5_outside) [vI x1, vI (2 : Int32)] dX5_rewinds_2 xw_205 fV_X5_outside fS_X5_outside (by decide) rfl (Nat.le_of_ble_eq_true rfl) (CI.to (CI.mono h ?_))
  intro r1 μ1 h
  refine ok_if_eq (tgt := 15) dX5_rewinds_5 (by decide) ⟨fun z => ?_, fun z => ?_⟩
  · have h := h.1 z
    refine ok_aload_n (j := 0) dX5_rewinds_15 rfl rfl ?_
    refine ok_callV (M' := mX5_keep) [] dX5_rewinds_16 xw_212 fV_X5_keep fS_X5_keep rfl (by decide) v5 (ob_5 _ _ _) rfl (Nat.le_of_ble_eq_true rfl) (CV.to (CV.mono h ?_))
    intro μ2 h
    refine ok_aload_n (j := 0) dX5_rewinds_19 rfl rfl ?_
    refine gf_5_1 dX5_rewinds_20 v5 xw_174 ?_
    refine gf_4_4 dX5_rewinds_23 (v4 (by decide)) xw_88 ?_
    refine ok_iload_n (j := 1) dX5_rewinds_26 rfl rfl ?_
    obtain ⟨hb3, h⟩ := h
    refine aa_43 dX5_rewinds_27 (v43 (by decide)) hb3 ?_
    refine ok_callV (M' := mX0_returnToSaved) [] dX5_rewinds_28 xw_405 fV_X0_returnToSaved fS_X0_returnToSaved rfl (by decide) (v0 (by decide) (vp_lt hb3)) (ob_0 _ _ _) rfl (Nat.le_of_ble_eq_true rfl) (CI.to (CI.mono h ?_))
    intro r4 μ4 h
    exact ok_iret rfl dX5_rewinds_31 ⟨_, rfl, h⟩
  · have h := h.2 z
    refine ok_aload_n (j := 0) dX5_rewinds_8 rfl rfl ?_
    refine ok_bipush (v := (-2 : Int32)) dX5_rewinds_9 (by decide) ?_
    refine ok_callV (M' := mX5_failed) [vI (-2 : Int32)] dX5_rewinds_11 xw_208 fV_X5_failed fS_X5_failed rfl (by decide) v5 (ob_5 _ _ _) rfl (Nat.le_of_ble_eq_true rfl) (CI.to (CI.mono h ?_))
    intro r5 μ5 h
    exact ok_iret rfl dX5_rewinds_14 ⟨_, rfl, h⟩
set_option maxRecDepth 100000 in
set_option maxHeartbeats 4000000 in
theorem eX5_reader {a b : xA} {h0 : Int64} {Q : Int32 → xM → Prop} {x1 : Int32} {x2 : Int32} {x3 : Int32}  (h : (CI mX5_outside [vI x1, vI (2 : Int32)] (a, (b, h0)) (fun r1 μ1 => ((¬ r1 = 0 → (CI mX5_failed [vR 5 0 0, vI (-2 : Int32)] μ1 (fun r2 μ2 => Q r2 μ2))) ∧ (r1 = 0 → (CI mX5_outside [vI x2, vI (3 : Int32)] μ1 (fun r3 μ3 => ((¬ r3 = 0 → (CI mX5_failed [vR 5 0 0, vI (-2 : Int32)] μ3 (fun r4 μ4 => Q r4 μ4))) ∧ (r3 = 0 → (CI mX5_outside [vI x3, vI (4 : Int32)] μ3 (fun r5 μ5 => ((r5 = 0 → (vp_in x1 2 ∧ ((x3 = (0 : Int32) → (vp_in x2 3 ∧ Q (μ5.1 20 0 (Int32.toNatClampNeg x1) (Int32.toNatClampNeg x2)) μ5)) ∧ (¬ x3 = (0 : Int32) → ((x3 = (1 : Int32) → (vp_in x2 3 ∧ Q (μ5.1 21 0 (Int32.toNatClampNeg x1) (Int32.toNatClampNeg x2)) μ5)) ∧ (¬ x3 = (1 : Int32) → ((x3 = (2 : Int32) → (vp_in x2 3 ∧ (vp_in x2 3 ∧ (CI mX5_stable [vR 5 0 0, vI x2] μ5 (fun r11 μ11 => (CI mX1_visibleFrom [vR 1 0 (Int32.toNatClampNeg x2), vI (μ5.1 20 0 (Int32.toNatClampNeg x1) (Int32.toNatClampNeg x2)), vI r11] μ11 (fun r12 μ12 => Q r12 μ12))))))) ∧ (¬ x3 = (2 : Int32) → (vp_in x2 3 ∧ (vp_in x2 3 ∧ (CI mX5_stable [vR 5 0 0, vI x2] μ5 (fun r15 μ15 => (CI mX1_nextVisible [vR 1 0 (Int32.toNatClampNeg x2), vI (μ5.1 20 0 (Int32.toNatClampNeg x1) (Int32.toNatClampNeg x2)), vI r15] μ15 (fun r16 μ16 => Q r16 μ16)))))))))))))) ∧ (¬ r5 = 0 → (CI mX5_failed [vR 5 0 0, vI (-2 : Int32)] μ5 (fun r17 μ17 => Q r17 μ17))))))))))))))) : CI mX5_reader [vR 5 0 0, vI x1, vI x2, vI x3] (a, (b, h0)) Q := by
  refine xCalls_of (by decide) (Nat.le_of_ble_eq_true rfl) ?_
  show xOk mX5_reader 0 [(0, vR 5 0 0), (1, vI x1), (2, vI x2), (3, vI x3)] [] (a, (b, h0)) (qI Q)
  refine ok_iload_n (j := 1) dX5_reader_0 rfl rfl ?_
  refine ok_iconst (v := (2 : Int32)) dX5_reader_1 (by decide) ?_
  refine ok_callS (M' := mX5_outside) [vI x1, vI (2 : Int32)] dX5_reader_2 xw_205 fV_X5_outside fS_X5_outside (by decide) rfl (Nat.le_of_ble_eq_true rfl) (CI.to (CI.mono h ?_))
  intro r1 μ1 h
  refine ok_if_ne (tgt := 24) dX5_reader_5 (by decide) ⟨fun z => ?_, fun z => ?_⟩
  · have h := h.1 z
    refine ok_aload_n (j := 0) dX5_reader_24 rfl rfl ?_
    refine ok_bipush (v := (-2 : Int32)) dX5_reader_25 (by decide) ?_
    refine ok_callV (M' := mX5_failed) [vI (-2 : Int32)] dX5_reader_27 xw_208 fV_X5_failed fS_X5_failed rfl (by decide) v5 (ob_5 _ _ _) rfl (Nat.le_of_ble_eq_true rfl) (CI.to (CI.mono h ?_))
    intro r2 μ2 h
    exact ok_iret rfl dX5_reader_30 ⟨_, rfl, h⟩
  · have h := h.2 z
    refine ok_iload_n (j := 2) dX5_reader_8 rfl rfl ?_
    refine ok_iconst (v := (3 : Int32)) dX5_reader_9 (by decide) ?_
    refine ok_callS (M' := mX5_outside) [vI x2, vI (3 : Int32)] dX5_reader_10 xw_205 fV_X5_outside fS_X5_outside (by decide) rfl (Nat.le_of_ble_eq_true rfl) (CI.to (CI.mono h ?_))
    intro r3 μ3 h
    refine ok_if_ne (tgt := 24) dX5_reader_13 (by decide) ⟨fun z => ?_, fun z => ?_⟩
    · have h := h.1 z
      refine ok_aload_n (j := 0) dX5_reader_24 rfl rfl ?_
      refine ok_bipush (v := (-2 : Int32)) dX5_reader_25 (by decide) ?_
      refine ok_callV (M' := mX5_failed) [vI (-2 : Int32)] dX5_reader_27 xw_208 fV_X5_failed fS_X5_failed rfl (by decide) v5 (ob_5 _ _ _) rfl (Nat.le_of_ble_eq_true rfl) (CI.to (CI.mono h ?_))
      intro r4 μ4 h
      exact ok_iret rfl dX5_reader_30 ⟨_, rfl, h⟩
    · have h := h.2 z
      refine ok_iload_n (j := 3) dX5_reader_16 rfl rfl ?_
      refine ok_iconst (v := (4 : Int32)) dX5_reader_17 (by decide) ?_
      refine ok_callS (M' := mX5_outside) [vI x3, vI (4 : Int32)] dX5_reader_18 xw_205 fV_X5_outside fS_X5_outside (by decide) rfl (Nat.le_of_ble_eq_true rfl) (CI.to (CI.mono h ?_))
      intro r5 μ5 h
      refine ok_if_eq (tgt := 31) dX5_reader_21 (by decide) ⟨fun z => ?_, fun z => ?_⟩
      · have h := h.1 z
        refine ok_aload_n (j := 0) dX5_reader_31 rfl rfl ?_
        refine gf_5_1 dX5_reader_32 v5 xw_174 ?_
        refine gf_4_4 dX5_reader_35 (v4 (by decide)) xw_88 ?_
        refine ok_iload_n (j := 1) dX5_reader_38 rfl rfl ?_
        obtain ⟨hb6, h⟩ := h
        refine aa_43 dX5_reader_39 (v43 (by decide)) hb6 ?_
        refine ok_astore (ls2 := [(4, vR 0 0 (Int32.toNatClampNeg x1)), (0, vR 5 0 0), (1, vI x1), (2, vI x2), (3, vI x3)]) dX5_reader_40 (by decide) rfl ?_
        refine ok_iload_n (j := 4) dX5_reader_42 rfl rfl ?_
        by_cases z0 : x3 = (0 : Int32)
        · have h := h.1 z0
          refine ok_table dX5_reader_43 rfl (off := 25) (tgt := 68) (by (try dsimp only); rw [z0]; decide) (by decide) ?_
          refine ok_aload (j := 0) dX5_reader_68 rfl ?_
          refine gf_0_0 dX5_reader_70 (v0 (by decide) (vp_lt hb6)) xw_71 ?_
          refine ok_iload_n (j := 3) dX5_reader_73 rfl rfl ?_
          obtain ⟨hb7, h⟩ := h
          refine al_20 dX5_reader_74 (v20 (by decide) (vp_lt hb6)) hb7 ?_
          exact ok_iret rfl dX5_reader_75 ⟨_, rfl, h⟩
        · have h := h.2 z0
          by_cases z1 : x3 = (1 : Int32)
          · have h := h.1 z1
            refine ok_table dX5_reader_43 rfl (off := 33) (tgt := 76) (by (try dsimp only); rw [z1]; decide) (by decide) ?_
            refine ok_aload (j := 0) dX5_reader_76 rfl ?_
            refine gf_0_1 dX5_reader_78 (v0 (by decide) (vp_lt hb6)) xw_73 ?_
            refine ok_iload_n (j := 3) dX5_reader_81 rfl rfl ?_
            obtain ⟨hb8, h⟩ := h
            refine al_21 dX5_reader_82 (v21 (by decide) (vp_lt hb6)) hb8 ?_
            exact ok_iret rfl dX5_reader_83 ⟨_, rfl, h⟩
          · have h := h.2 z1
            by_cases z2 : x3 = (2 : Int32)
            · have h := h.1 z2
              refine ok_table dX5_reader_43 rfl (off := 41) (tgt := 84) (by (try dsimp only); rw [z2]; decide) (by decide) ?_
              refine ok_aload_n (j := 1) dX5_reader_84 rfl rfl ?_
              refine gf_5_0 dX5_reader_85 v5 xw_173 ?_
              refine ok_iload_n (j := 3) dX5_reader_88 rfl rfl ?_
              obtain ⟨hb9, h⟩ := h
              refine aa_40 dX5_reader_89 v40 hb9 ?_
              refine ok_aload (j := 0) dX5_reader_90 rfl ?_
              refine gf_0_0 dX5_reader_92 (v0 (by decide) (vp_lt hb6)) xw_71 ?_
              refine ok_iload_n (j := 3) dX5_reader_95 rfl rfl ?_
              obtain ⟨hb10, h⟩ := h
              refine al_20 dX5_reader_96 (v20 (by decide) (vp_lt hb6)) hb10 ?_
              refine ok_aload_n (j := 1) dX5_reader_97 rfl rfl ?_
              refine ok_iload_n (j := 3) dX5_reader_98 rfl rfl ?_
              refine ok_callV (M' := mX5_stable) [vI x2] dX5_reader_99 xw_351 fV_X5_stable fS_X5_stable rfl (by decide) v5 (ob_5 _ _ _) rfl (Nat.le_of_ble_eq_true rfl) (CI.to (CI.mono h ?_))
              intro r11 μ11 h
              refine ok_callV (M' := mX1_visibleFrom) [vI (μ5.1 20 0 (Int32.toNatClampNeg x1) (Int32.toNatClampNeg x2)), vI r11] dX5_reader_102 xw_372 fV_X1_visibleFrom fS_X1_visibleFrom rfl (by decide) (v1 (vp_lt hb9)) (ob_1 _ _ _) rfl (Nat.le_of_ble_eq_true rfl) (CI.to (CI.mono h ?_))
              intro r12 μ12 h
              exact ok_iret rfl dX5_reader_105 ⟨_, rfl, h⟩
            · have h := h.2 z2
              refine ok_table dX5_reader_43 rfl (tgt := 106) (xSw_d [(0 : Int32), (1 : Int32), (2 : Int32)] (by decide) rfl (by simp only [List.mem_cons, List.not_mem_nil, or_false]; rintro c (rfl | rfl | rfl) <;> assumption)) (by decide) ?_
              refine ok_aload_n (j := 1) dX5_reader_106 rfl rfl ?_
              refine gf_5_0 dX5_reader_107 v5 xw_173 ?_
              refine ok_iload_n (j := 3) dX5_reader_110 rfl rfl ?_
              obtain ⟨hb13, h⟩ := h
              refine aa_40 dX5_reader_111 v40 hb13 ?_
              refine ok_aload (j := 0) dX5_reader_112 rfl ?_
              refine gf_0_0 dX5_reader_114 (v0 (by decide) (vp_lt hb6)) xw_71 ?_
              refine ok_iload_n (j := 3) dX5_reader_117 rfl rfl ?_
              obtain ⟨hb14, h⟩ := h
              refine al_20 dX5_reader_118 (v20 (by decide) (vp_lt hb6)) hb14 ?_
              refine ok_aload_n (j := 1) dX5_reader_119 rfl rfl ?_
              refine ok_iload_n (j := 3) dX5_reader_120 rfl rfl ?_
              refine ok_callV (M' := mX5_stable) [vI x2] dX5_reader_121 xw_351 fV_X5_stable fS_X5_stable rfl (by decide) v5 (ob_5 _ _ _) rfl (Nat.le_of_ble_eq_true rfl) (CI.to (CI.mono h ?_))
              intro r15 μ15 h
              refine ok_callV (M' := mX1_nextVisible) [vI (μ5.1 20 0 (Int32.toNatClampNeg x1) (Int32.toNatClampNeg x2)), vI r15] dX5_reader_124 xw_397 fV_X1_nextVisible fS_X1_nextVisible rfl (by decide) (v1 (vp_lt hb13)) (ob_1 _ _ _) rfl (Nat.le_of_ble_eq_true rfl) (CI.to (CI.mono h ?_))
              intro r16 μ16 h
              exact ok_iret rfl dX5_reader_127 ⟨_, rfl, h⟩
      · have h := h.2 z
        refine ok_aload_n (j := 0) dX5_reader_24 rfl rfl ?_
        refine ok_bipush (v := (-2 : Int32)) dX5_reader_25 (by decide) ?_
        refine ok_callV (M' := mX5_failed) [vI (-2 : Int32)] dX5_reader_27 xw_208 fV_X5_failed fS_X5_failed rfl (by decide) v5 (ob_5 _ _ _) rfl (Nat.le_of_ble_eq_true rfl) (CI.to (CI.mono h ?_))
        intro r17 μ17 h
        exact ok_iret rfl dX5_reader_30 ⟨_, rfl, h⟩
set_option maxRecDepth 100000 in
set_option maxHeartbeats 4000000 in
theorem eX5_type {a b : xA} {h0 : Int64} {Q : Int32 → xM → Prop} {x1 : Int32}  (h : (CI mX5_outside [vI x1, vI (128 : Int32)] (a, (b, h0)) (fun r1 μ1 => ((r1 = 0 → (((μ1.1 3 0 0 1) < (120 : Int32) → (vp_in (μ1.1 3 0 0 1) 120 ∧ Q ((xUp (xUp μ1.1 22 0 0 (Int32.toNatClampNeg (μ1.1 3 0 0 1)) x1) 3 0 0 1 (((xUp μ1.1 22 0 0 (Int32.toNatClampNeg (μ1.1 3 0 0 1)) x1) 3 0 0 1) + (1 : Int32))) 3 0 0 1) ((xUp (xUp μ1.1 22 0 0 (Int32.toNatClampNeg (μ1.1 3 0 0 1)) x1) 3 0 0 1 (((xUp μ1.1 22 0 0 (Int32.toNatClampNeg (μ1.1 3 0 0 1)) x1) 3 0 0 1) + (1 : Int32))), μ1.2))) ∧ (¬ (μ1.1 3 0 0 1) < (120 : Int32) → (CI mX5_failed [vR 5 0 0, vI (-4 : Int32)] μ1 (fun r3 μ3 => Q r3 μ3))))) ∧ (¬ r1 = 0 → (CI mX5_failed [vR 5 0 0, vI (-2 : Int32)] μ1 (fun r4 μ4 => Q r4 μ4))))))) : CI mX5_type [vR 5 0 0, vI x1] (a, (b, h0)) Q := by
  refine xCalls_of (by decide) (Nat.le_of_ble_eq_true rfl) ?_
  show xOk mX5_type 0 [(0, vR 5 0 0), (1, vI x1)] [] (a, (b, h0)) (qI Q)
  refine ok_iload_n (j := 1) dX5_type_0 rfl rfl ?_
  refine ok_sipush (v := (128 : Int32)) dX5_type_1 (by decide) ?_
  refine ok_callS (M' := mX5_outside) [vI x1, vI (128 : Int32)] dX5_type_4 xw_205 fV_X5_outside fS_X5_outside (by decide) rfl (Nat.le_of_ble_eq_true rfl) (CI.to (CI.mono h ?_))
  intro r1 μ1 h
  refine ok_if_eq (tgt := 17) dX5_type_7 (by decide) ⟨fun z => ?_, fun z => ?_⟩
  · have h := h.1 z
    refine ok_aload_n (j := 0) dX5_type_17 rfl rfl ?_
    refine gf_5_5 dX5_type_18 v5 xw_178 ?_
    refine gf_3_1 dX5_type_21 v3 xw_110 ?_
    refine ok_bipush (v := (120 : Int32)) dX5_type_24 (by decide) ?_
    refine ok_icmp_lt (tgt := 36) dX5_type_26 (by decide) ⟨fun z => ?_, fun z => ?_⟩
    · have h := h.1 z
      refine ok_aload_n (j := 0) dX5_type_36 rfl rfl ?_
      refine gf_5_5 dX5_type_37 v5 xw_178 ?_
      refine gf_3_0 dX5_type_40 v3 xw_108 ?_
      refine ok_aload_n (j := 0) dX5_type_43 rfl rfl ?_
      refine gf_5_5 dX5_type_44 v5 xw_178 ?_
      refine gf_3_1 dX5_type_47 v3 xw_110 ?_
      refine ok_iload_n (j := 1) dX5_type_50 rfl rfl ?_
      obtain ⟨hb2, h⟩ := h
      refine as_22 dX5_type_51 v22 hb2 ?_
      refine ok_aload_n (j := 0) dX5_type_52 rfl rfl ?_
      refine gf_5_5 dX5_type_53 v5 xw_178 ?_
      refine ok_dup dX5_type_56 rfl ?_
      refine gf_3_1 dX5_type_57 v3 xw_110 ?_
      refine ok_iconst (v := (1 : Int32)) dX5_type_60 (by decide) ?_
      refine ok_iadd dX5_type_61 ?_
      refine pf_3_1 dX5_type_62 v3 xw_110 ?_
      refine ok_aload_n (j := 0) dX5_type_65 rfl rfl ?_
      refine gf_5_5 dX5_type_66 v5 xw_178 ?_
      refine gf_3_1 dX5_type_69 v3 xw_110 ?_
      exact ok_iret rfl dX5_type_72 ⟨_, rfl, h⟩
    · have h := h.2 z
      refine ok_aload_n (j := 0) dX5_type_29 rfl rfl ?_
      refine ok_bipush (v := (-4 : Int32)) dX5_type_30 (by decide) ?_
      refine ok_callV (M' := mX5_failed) [vI (-4 : Int32)] dX5_type_32 xw_208 fV_X5_failed fS_X5_failed rfl (by decide) v5 (ob_5 _ _ _) rfl (Nat.le_of_ble_eq_true rfl) (CI.to (CI.mono h ?_))
      intro r3 μ3 h
      exact ok_iret rfl dX5_type_35 ⟨_, rfl, h⟩
  · have h := h.2 z
    refine ok_aload_n (j := 0) dX5_type_10 rfl rfl ?_
    refine ok_bipush (v := (-2 : Int32)) dX5_type_11 (by decide) ?_
    refine ok_callV (M' := mX5_failed) [vI (-2 : Int32)] dX5_type_13 xw_208 fV_X5_failed fS_X5_failed rfl (by decide) v5 (ob_5 _ _ _) rfl (Nat.le_of_ble_eq_true rfl) (CI.to (CI.mono h ?_))
    intro r4 μ4 h
    exact ok_iret rfl dX5_type_16 ⟨_, rfl, h⟩
set_option maxRecDepth 100000 in
set_option maxHeartbeats 4000000 in
theorem eX5_clear {a b : xA} {h0 : Int64} {Q : Int32 → xM → Prop}   (h : Q (a 3 0 0 1) ((xUp a 3 0 0 1 (0 : Int32)), (b, h0))) : CI mX5_clear [vR 5 0 0] (a, (b, h0)) Q := by
  refine xCalls_of (by decide) (Nat.le_of_ble_eq_true rfl) ?_
  show xOk mX5_clear 0 [(0, vR 5 0 0)] [] (a, (b, h0)) (qI Q)
  refine ok_aload_n (j := 0) dX5_clear_0 rfl rfl ?_
  refine gf_5_5 dX5_clear_1 v5 xw_178 ?_
  refine gf_3_1 dX5_clear_4 v3 xw_110 ?_
  refine ok_istore_n (ls2 := [(1, vI (a 3 0 0 1)), (0, vR 5 0 0)]) dX5_clear_7 rfl (by decide) rfl ?_
  refine ok_aload_n (j := 1) dX5_clear_8 rfl rfl ?_
  refine gf_5_5 dX5_clear_9 v5 xw_178 ?_
  refine ok_iconst (v := (0 : Int32)) dX5_clear_12 (by decide) ?_
  refine pf_3_1 dX5_clear_13 v3 xw_110 ?_
  refine ok_iload_n (j := 0) dX5_clear_16 rfl rfl ?_
  exact ok_iret rfl dX5_clear_17 ⟨_, rfl, h⟩
set_option maxRecDepth 100000 in
set_option maxHeartbeats 4000000 in
theorem eX5_does {a b : xA} {h0 : Int64} {Q : Int32 → xM → Prop}   (h : (CI mX3_findFault [vR 3 0 0] (a, (b, h0)) (fun r1 μ1 => ((r1 = (-1 : Int32) → (CV mX5_keep [vR 5 0 0] μ1 (fun μ2 => xOk mX5_does 31 [(0, vR 5 0 0), (2, vI (0 : Int32)), (3, vI (0 : Int32))] [] ((xUp μ2.1 5 0 0 8 (1 : Int32)), μ2.2) (qI Q)))) ∧ (¬ r1 = (-1 : Int32) → Q ((-10 : Int32) - r1) μ1))))) : CI mX5_does [vR 5 0 0] (a, (b, h0)) Q := by
  refine xCalls_of (by decide) (Nat.le_of_ble_eq_true rfl) ?_
  show xOk mX5_does 0 [(0, vR 5 0 0)] [] (a, (b, h0)) (qI Q)
  refine ok_aload_n (j := 0) dX5_does_0 rfl rfl ?_
  refine gf_5_5 dX5_does_1 v5 xw_178 ?_
  refine ok_callV (M' := mX3_findFault) [] dX5_does_4 xw_425 fV_X3_findFault fS_X3_findFault rfl (by decide) v3 (ob_3 _ _ _) rfl (Nat.le_of_ble_eq_true rfl) (CI.to (CI.mono h ?_))
  intro r1 μ1 h
  refine ok_istore_n (ls2 := [(1, vI r1), (0, vR 5 0 0)]) dX5_does_7 rfl (by decide) rfl ?_
  refine ok_iload_n (j := 0) dX5_does_8 rfl rfl ?_
  refine ok_iconst (v := (-1 : Int32)) dX5_does_9 (by decide) ?_
  refine ok_icmp_eq (tgt := 18) dX5_does_10 (by decide) ⟨fun z => ?_, fun z => ?_⟩
  · have h := h.1 z
    refine ok_aload_n (j := 1) dX5_does_18 rfl rfl ?_
    refine ok_callV (M' := mX5_keep) [] dX5_does_19 xw_212 fV_X5_keep fS_X5_keep rfl (by decide) v5 (ob_5 _ _ _) rfl (Nat.le_of_ble_eq_true rfl) (CV.to (CV.mono h ?_))
    intro μ2 h
    refine ok_aload_n (j := 1) dX5_does_22 rfl rfl ?_
    refine ok_iconst (v := (1 : Int32)) dX5_does_23 (by decide) ?_
    refine pf_5_8 dX5_does_24 v5 xw_181 (by decide) ?_
    refine ok_iconst (v := (0 : Int32)) dX5_does_27 (by decide) ?_
    refine ok_istore_n (ls2 := [(2, vI (0 : Int32)), (1, vI r1), (0, vR 5 0 0)]) dX5_does_28 rfl (by decide) rfl ?_
    refine ok_iconst (v := (0 : Int32)) dX5_does_29 (by decide) ?_
    refine ok_istore_n (ls2 := [(3, vI (0 : Int32)), (2, vI (0 : Int32)), (1, vI r1), (0, vR 5 0 0)]) dX5_does_30 rfl (by decide) rfl ?_
    exact ok_sub [(0, vR 5 0 0), (2, vI (0 : Int32)), (3, vI (0 : Int32))] [3, 1, 0] rfl h
  · have h := h.2 z
    refine ok_bipush (v := (-10 : Int32)) dX5_does_13 (by decide) ?_
    refine ok_iload_n (j := 0) dX5_does_15 rfl rfl ?_
    refine ok_isub dX5_does_16 ?_
    exact ok_iret rfl dX5_does_17 ⟨_, rfl, h⟩
set_option maxRecDepth 100000 in
set_option maxHeartbeats 4000000 in
theorem rX5_does_31 {a b : xA} {h0 : Int64} {Q : Int32 → xM → Prop} {x2 : Int32} {x3 : Int32}  (h : (((a 3 0 0 4) ≤ x3 → Q x2 ((xUp a 5 0 0 8 (0 : Int32)), (b, h0))) ∧ (¬ (a 3 0 0 4) ≤ x3 → (CI mX5_carryOut [vR 5 0 0, vI x3] (a, (b, h0)) (fun r1 μ1 => ((((xUp μ1.1 5 0 0 7 r1) 5 0 0 7) < 0 → xOk mX5_does 31 [(0, vR 5 0 0), (2, vI x2), (3, vI (x3 + 1))] [] ((xUp μ1.1 5 0 0 7 r1), μ1.2) (qI Q)) ∧ (¬ ((xUp μ1.1 5 0 0 7 r1) 5 0 0 7) < 0 → xOk mX5_does 31 [(0, vR 5 0 0), (2, vI (x2 + 1)), (3, vI (x3 + 1))] [] ((xUp μ1.1 5 0 0 7 r1), μ1.2) (qI Q)))))))) : xOk mX5_does 31 [(0, vR 5 0 0), (2, vI x2), (3, vI x3)] [] (a, (b, h0)) (qI Q) := by
  refine ok_iload_n (j := 2) dX5_does_31 rfl rfl ?_
  refine ok_aload_n (j := 0) dX5_does_32 rfl rfl ?_
  refine gf_5_5 dX5_does_33 v5 xw_178 ?_
  refine gf_3_4 dX5_does_36 v3 xw_116 ?_
  refine ok_icmp_ge (tgt := 67) dX5_does_39 (by decide) ⟨fun z => ?_, fun z => ?_⟩
  · have h := h.1 z
    refine ok_aload_n (j := 0) dX5_does_67 rfl rfl ?_
    refine ok_iconst (v := (0 : Int32)) dX5_does_68 (by decide) ?_
    refine pf_5_8 dX5_does_69 v5 xw_181 (by decide) ?_
    refine ok_iload_n (j := 1) dX5_does_72 rfl rfl ?_
    exact ok_iret rfl dX5_does_73 ⟨_, rfl, h⟩
  · have h := h.2 z
    refine ok_aload_n (j := 0) dX5_does_42 rfl rfl ?_
    refine ok_aload_n (j := 0) dX5_does_43 rfl rfl ?_
    refine ok_iload_n (j := 2) dX5_does_44 rfl rfl ?_
    refine ok_callV (M' := mX5_carryOut) [vI x3] dX5_does_45 xw_448 fV_X5_carryOut fS_X5_carryOut rfl (by decide) v5 (ob_5 _ _ _) rfl (Nat.le_of_ble_eq_true rfl) (CI.to (CI.mono h ?_))
    intro r1 μ1 h
    refine pf_5_7 dX5_does_48 v5 xw_180 ?_
    refine ok_aload_n (j := 0) dX5_does_51 rfl rfl ?_
    refine gf_5_7 dX5_does_52 v5 xw_180 ?_
    refine ok_if_lt (tgt := 61) dX5_does_55 (by decide) ⟨fun z => ?_, fun z => ?_⟩
    · have h := h.1 z
      refine ok_iinc (j := 2) (v := (x3 + 1)) (ls2 := [(3, vI (x3 + 1)), (0, vR 5 0 0), (2, vI x2)]) dX5_does_61 rfl rfl (by decide) rfl ?_
      refine ok_goto (tgt := 31) dX5_does_64 (by decide) ?_
      exact ok_sub [(0, vR 5 0 0), (2, vI x2), (3, vI (x3 + 1))] [1, 2, 0] rfl h
    · have h := h.2 z
      refine ok_iinc (j := 1) (v := (x2 + 1)) (ls2 := [(2, vI (x2 + 1)), (0, vR 5 0 0), (3, vI x3)]) dX5_does_58 rfl rfl (by decide) rfl ?_
      refine ok_iinc (j := 2) (v := (x3 + 1)) (ls2 := [(3, vI (x3 + 1)), (2, vI (x2 + 1)), (0, vR 5 0 0)]) dX5_does_61 rfl rfl (by decide) rfl ?_
      refine ok_goto (tgt := 31) dX5_does_64 (by decide) ?_
      exact ok_sub [(0, vR 5 0 0), (2, vI (x2 + 1)), (3, vI (x3 + 1))] [2, 1, 0] rfl h
set_option maxRecDepth 100000 in
set_option maxHeartbeats 4000000 in
theorem eX5_carryOut {a b : xA} {h0 : Int64} {Q : Int32 → xM → Prop} {x1 : Int32}  (h : (vp_in x1 40 ∧ (((a 23 0 0 (Int32.toNatClampNeg x1)) = (98 : Int32) → (vp_in (x1 * (5 : Int32)) 200 ∧ (CI mX5_begins [vR 5 0 0, vI (a 24 0 0 (Int32.toNatClampNeg (x1 * (5 : Int32))))] (a, (b, h0)) (fun r3 μ3 => Q r3 μ3)))) ∧ (¬ (a 23 0 0 (Int32.toNatClampNeg x1)) = (98 : Int32) → (((a 23 0 0 (Int32.toNatClampNeg x1)) = (101 : Int32) → (vp_in (x1 * (5 : Int32)) 200 ∧ (vp_in ((x1 * (5 : Int32)) + (1 : Int32)) 200 ∧ (vp_in ((x1 * (5 : Int32)) + (2 : Int32)) 200 ∧ (CI mX5_ends [vR 5 0 0, vI (a 24 0 0 (Int32.toNatClampNeg (x1 * (5 : Int32)))), vI (a 24 0 0 (Int32.toNatClampNeg ((x1 * (5 : Int32)) + (1 : Int32)))), vI (a 24 0 0 (Int32.toNatClampNeg ((x1 * (5 : Int32)) + (2 : Int32))))] (a, (b, h0)) (fun r7 μ7 => Q r7 μ7)))))) ∧ (¬ (a 23 0 0 (Int32.toNatClampNeg x1)) = (101 : Int32) → (((a 23 0 0 (Int32.toNatClampNeg x1)) = (111 : Int32) → (vp_in (x1 * (5 : Int32)) 200 ∧ (vp_in ((x1 * (5 : Int32)) + (1 : Int32)) 200 ∧ (CI mX5_opens [vR 5 0 0, vI (a 24 0 0 (Int32.toNatClampNeg (x1 * (5 : Int32)))), vI (a 24 0 0 (Int32.toNatClampNeg ((x1 * (5 : Int32)) + (1 : Int32))))] (a, (b, h0)) (fun r10 μ10 => Q r10 μ10))))) ∧ (¬ (a 23 0 0 (Int32.toNatClampNeg x1)) = (111 : Int32) → (((a 23 0 0 (Int32.toNatClampNeg x1)) = (114 : Int32) → (vp_in (x1 * (5 : Int32)) 200 ∧ (vp_in ((x1 * (5 : Int32)) + (1 : Int32)) 200 ∧ (CI mX5_reads [vR 5 0 0, vI (a 24 0 0 (Int32.toNatClampNeg (x1 * (5 : Int32)))), vI (a 24 0 0 (Int32.toNatClampNeg ((x1 * (5 : Int32)) + (1 : Int32))))] (a, (b, h0)) (fun r13 μ13 => Q r13 μ13))))) ∧ (¬ (a 23 0 0 (Int32.toNatClampNeg x1)) = (114 : Int32) → (((a 23 0 0 (Int32.toNatClampNeg x1)) = (115 : Int32) → (vp_in (x1 * (5 : Int32)) 200 ∧ (vp_in ((x1 * (5 : Int32)) + (1 : Int32)) 200 ∧ (vp_in ((x1 * (5 : Int32)) + (2 : Int32)) 200 ∧ (vp_in ((x1 * (5 : Int32)) + (3 : Int32)) 200 ∧ (vp_in ((x1 * (5 : Int32)) + (4 : Int32)) 200 ∧ (CI mX5_sends [vR 5 0 0, vI (a 24 0 0 (Int32.toNatClampNeg (x1 * (5 : Int32)))), vI (a 24 0 0 (Int32.toNatClampNeg ((x1 * (5 : Int32)) + (1 : Int32)))), vI (a 24 0 0 (Int32.toNatClampNeg ((x1 * (5 : Int32)) + (2 : Int32)))), vI (a 24 0 0 (Int32.toNatClampNeg ((x1 * (5 : Int32)) + (3 : Int32)))), vI (a 24 0 0 (Int32.toNatClampNeg ((x1 * (5 : Int32)) + (4 : Int32))))] (a, (b, h0)) (fun r19 μ19 => Q r19 μ19)))))))) ∧ (¬ (a 23 0 0 (Int32.toNatClampNeg x1)) = (115 : Int32) → (((a 23 0 0 (Int32.toNatClampNeg x1)) = (116 : Int32) → (vp_in (x1 * (5 : Int32)) 200 ∧ (CI mX5_ticks [vR 5 0 0, vI (a 24 0 0 (Int32.toNatClampNeg (x1 * (5 : Int32))))] (a, (b, h0)) (fun r21 μ21 => Q r21 μ21)))) ∧ (¬ (a 23 0 0 (Int32.toNatClampNeg x1)) = (116 : Int32) → (vp_in (x1 * (5 : Int32)) 200 ∧ (vp_in ((x1 * (5 : Int32)) + (1 : Int32)) 200 ∧ (vp_in ((x1 * (5 : Int32)) + (2 : Int32)) 200 ∧ (vp_in ((x1 * (5 : Int32)) + (3 : Int32)) 200 ∧ (CI mX5_carries [vR 5 0 0, vI (a 24 0 0 (Int32.toNatClampNeg (x1 * (5 : Int32)))), vI (a 24 0 0 (Int32.toNatClampNeg ((x1 * (5 : Int32)) + (1 : Int32)))), vI (a 24 0 0 (Int32.toNatClampNeg ((x1 * (5 : Int32)) + (2 : Int32)))), vI (a 24 0 0 (Int32.toNatClampNeg ((x1 * (5 : Int32)) + (3 : Int32))))] (a, (b, h0)) (fun r26 μ26 => Q r26 μ26)))))))))))))))))))) : CI mX5_carryOut [vR 5 0 0, vI x1] (a, (b, h0)) Q := by
  refine xCalls_of (by decide) (Nat.le_of_ble_eq_true rfl) ?_
  show xOk mX5_carryOut 0 [(0, vR 5 0 0), (1, vI x1)] [] (a, (b, h0)) (qI Q)
  refine ok_aload_n (j := 0) dX5_carryOut_0 rfl rfl ?_
  refine gf_5_5 dX5_carryOut_1 v5 xw_178 ?_
  refine gf_3_3 dX5_carryOut_4 v3 xw_114 ?_
  refine ok_astore_n (ls2 := [(2, vR 24 0 0), (0, vR 5 0 0), (1, vI x1)]) dX5_carryOut_7 rfl (by decide) rfl ?_
  refine ok_iload_n (j := 2) dX5_carryOut_8 rfl rfl ?_
  refine ok_iconst (v := (5 : Int32)) dX5_carryOut_9 (by decide) ?_
  refine ok_imul dX5_carryOut_10 ?_
  refine ok_istore_n (ls2 := [(3, vI (x1 * (5 : Int32))), (2, vR 24 0 0), (0, vR 5 0 0), (1, vI x1)]) dX5_carryOut_11 rfl (by decide) rfl ?_
  refine ok_aload_n (j := 2) dX5_carryOut_12 rfl rfl ?_
  refine gf_5_5 dX5_carryOut_13 v5 xw_178 ?_
  refine gf_3_2 dX5_carryOut_16 v3 xw_112 ?_
  refine ok_iload_n (j := 3) dX5_carryOut_19 rfl rfl ?_
  obtain ⟨hb1, h⟩ := h
  refine al_23 dX5_carryOut_20 v23 hb1 ?_
  by_cases z0 : (a 23 0 0 (Int32.toNatClampNeg x1)) = (98 : Int32)
  · have h := h.1 z0
    refine ok_table dX5_carryOut_21 rfl (off := 91) (tgt := 112) (by (try dsimp only); rw [z0]; decide) (by decide) ?_
    refine ok_aload_n (j := 2) dX5_carryOut_112 rfl rfl ?_
    refine ok_aload_n (j := 1) dX5_carryOut_113 rfl rfl ?_
    refine ok_iload_n (j := 0) dX5_carryOut_114 rfl rfl ?_
    obtain ⟨hb2, h⟩ := h
    refine al_24 dX5_carryOut_115 v24 hb2 ?_
    refine ok_callV (M' := mX5_begins) [vI (a 24 0 0 (Int32.toNatClampNeg (x1 * (5 : Int32))))] dX5_carryOut_116 xw_452 fV_X5_begins fS_X5_begins rfl (by decide) v5 (ob_5 _ _ _) rfl (Nat.le_of_ble_eq_true rfl) (CI.to (CI.mono h ?_))
    intro r3 μ3 h
    exact ok_iret rfl dX5_carryOut_119 ⟨_, rfl, h⟩
  · have h := h.2 z0
    by_cases z1 : (a 23 0 0 (Int32.toNatClampNeg x1)) = (101 : Int32)
    · have h := h.1 z1
      refine ok_table dX5_carryOut_21 rfl (off := 140) (tgt := 161) (by (try dsimp only); rw [z1]; decide) (by decide) ?_
      refine ok_aload_n (j := 2) dX5_carryOut_161 rfl rfl ?_
      refine ok_aload_n (j := 1) dX5_carryOut_162 rfl rfl ?_
      refine ok_iload_n (j := 0) dX5_carryOut_163 rfl rfl ?_
      obtain ⟨hb4, h⟩ := h
      refine al_24 dX5_carryOut_164 v24 hb4 ?_
      refine ok_aload_n (j := 1) dX5_carryOut_165 rfl rfl ?_
      refine ok_iload_n (j := 0) dX5_carryOut_166 rfl rfl ?_
      refine ok_iconst (v := (1 : Int32)) dX5_carryOut_167 (by decide) ?_
      refine ok_iadd dX5_carryOut_168 ?_
      obtain ⟨hb5, h⟩ := h
      refine al_24 dX5_carryOut_169 v24 hb5 ?_
      refine ok_aload_n (j := 1) dX5_carryOut_170 rfl rfl ?_
      refine ok_iload_n (j := 0) dX5_carryOut_171 rfl rfl ?_
      refine ok_iconst (v := (2 : Int32)) dX5_carryOut_172 (by decide) ?_
      refine ok_iadd dX5_carryOut_173 ?_
      obtain ⟨hb6, h⟩ := h
      refine al_24 dX5_carryOut_174 v24 hb6 ?_
      refine ok_callV (M' := mX5_ends) [vI (a 24 0 0 (Int32.toNatClampNeg (x1 * (5 : Int32)))), vI (a 24 0 0 (Int32.toNatClampNeg ((x1 * (5 : Int32)) + (1 : Int32)))), vI (a 24 0 0 (Int32.toNatClampNeg ((x1 * (5 : Int32)) + (2 : Int32))))] dX5_carryOut_175 xw_455 fV_X5_ends fS_X5_ends rfl (by decide) v5 (ob_5 _ _ _) rfl (Nat.le_of_ble_eq_true rfl) (CI.to (CI.mono h ?_))
      intro r7 μ7 h
      exact ok_iret rfl dX5_carryOut_178 ⟨_, rfl, h⟩
    · have h := h.2 z1
      by_cases z2 : (a 23 0 0 (Int32.toNatClampNeg x1)) = (111 : Int32)
      · have h := h.1 z2
        refine ok_table dX5_carryOut_21 rfl (off := 99) (tgt := 120) (by (try dsimp only); rw [z2]; decide) (by decide) ?_
        refine ok_aload_n (j := 2) dX5_carryOut_120 rfl rfl ?_
        refine ok_aload_n (j := 1) dX5_carryOut_121 rfl rfl ?_
        refine ok_iload_n (j := 0) dX5_carryOut_122 rfl rfl ?_
        obtain ⟨hb8, h⟩ := h
        refine al_24 dX5_carryOut_123 v24 hb8 ?_
        refine ok_aload_n (j := 1) dX5_carryOut_124 rfl rfl ?_
        refine ok_iload_n (j := 0) dX5_carryOut_125 rfl rfl ?_
        refine ok_iconst (v := (1 : Int32)) dX5_carryOut_126 (by decide) ?_
        refine ok_iadd dX5_carryOut_127 ?_
        obtain ⟨hb9, h⟩ := h
        refine al_24 dX5_carryOut_128 v24 hb9 ?_
        refine ok_callV (M' := mX5_opens) [vI (a 24 0 0 (Int32.toNatClampNeg (x1 * (5 : Int32)))), vI (a 24 0 0 (Int32.toNatClampNeg ((x1 * (5 : Int32)) + (1 : Int32))))] dX5_carryOut_129 xw_453 fV_X5_opens fS_X5_opens rfl (by decide) v5 (ob_5 _ _ _) rfl (Nat.le_of_ble_eq_true rfl) (CI.to (CI.mono h ?_))
        intro r10 μ10 h
        exact ok_iret rfl dX5_carryOut_132 ⟨_, rfl, h⟩
      · have h := h.2 z2
        by_cases z3 : (a 23 0 0 (Int32.toNatClampNeg x1)) = (114 : Int32)
        · have h := h.1 z3
          refine ok_table dX5_carryOut_21 rfl (off := 166) (tgt := 187) (by (try dsimp only); rw [z3]; decide) (by decide) ?_
          refine ok_aload_n (j := 2) dX5_carryOut_187 rfl rfl ?_
          refine ok_aload_n (j := 1) dX5_carryOut_188 rfl rfl ?_
          refine ok_iload_n (j := 0) dX5_carryOut_189 rfl rfl ?_
          obtain ⟨hb11, h⟩ := h
          refine al_24 dX5_carryOut_190 v24 hb11 ?_
          refine ok_aload_n (j := 1) dX5_carryOut_191 rfl rfl ?_
          refine ok_iload_n (j := 0) dX5_carryOut_192 rfl rfl ?_
          refine ok_iconst (v := (1 : Int32)) dX5_carryOut_193 (by decide) ?_
          refine ok_iadd dX5_carryOut_194 ?_
          obtain ⟨hb12, h⟩ := h
          refine al_24 dX5_carryOut_195 v24 hb12 ?_
          refine ok_callV (M' := mX5_reads) [vI (a 24 0 0 (Int32.toNatClampNeg (x1 * (5 : Int32)))), vI (a 24 0 0 (Int32.toNatClampNeg ((x1 * (5 : Int32)) + (1 : Int32))))] dX5_carryOut_196 xw_457 fV_X5_reads fS_X5_reads rfl (by decide) v5 (ob_5 _ _ _) rfl (Nat.le_of_ble_eq_true rfl) (CI.to (CI.mono h ?_))
          intro r13 μ13 h
          exact ok_iret rfl dX5_carryOut_199 ⟨_, rfl, h⟩
        · have h := h.2 z3
          by_cases z4 : (a 23 0 0 (Int32.toNatClampNeg x1)) = (115 : Int32)
          · have h := h.1 z4
            refine ok_table dX5_carryOut_21 rfl (off := 112) (tgt := 133) (by (try dsimp only); rw [z4]; decide) (by decide) ?_
            refine ok_aload_n (j := 2) dX5_carryOut_133 rfl rfl ?_
            refine ok_aload_n (j := 1) dX5_carryOut_134 rfl rfl ?_
            refine ok_iload_n (j := 0) dX5_carryOut_135 rfl rfl ?_
            obtain ⟨hb14, h⟩ := h
            refine al_24 dX5_carryOut_136 v24 hb14 ?_
            refine ok_aload_n (j := 1) dX5_carryOut_137 rfl rfl ?_
            refine ok_iload_n (j := 0) dX5_carryOut_138 rfl rfl ?_
            refine ok_iconst (v := (1 : Int32)) dX5_carryOut_139 (by decide) ?_
            refine ok_iadd dX5_carryOut_140 ?_
            obtain ⟨hb15, h⟩ := h
            refine al_24 dX5_carryOut_141 v24 hb15 ?_
            refine ok_aload_n (j := 1) dX5_carryOut_142 rfl rfl ?_
            refine ok_iload_n (j := 0) dX5_carryOut_143 rfl rfl ?_
            refine ok_iconst (v := (2 : Int32)) dX5_carryOut_144 (by decide) ?_
            refine ok_iadd dX5_carryOut_145 ?_
            obtain ⟨hb16, h⟩ := h
            refine al_24 dX5_carryOut_146 v24 hb16 ?_
            refine ok_aload_n (j := 1) dX5_carryOut_147 rfl rfl ?_
            refine ok_iload_n (j := 0) dX5_carryOut_148 rfl rfl ?_
            refine ok_iconst (v := (3 : Int32)) dX5_carryOut_149 (by decide) ?_
            refine ok_iadd dX5_carryOut_150 ?_
            obtain ⟨hb17, h⟩ := h
            refine al_24 dX5_carryOut_151 v24 hb17 ?_
            refine ok_aload_n (j := 1) dX5_carryOut_152 rfl rfl ?_
            refine ok_iload_n (j := 0) dX5_carryOut_153 rfl rfl ?_
            refine ok_iconst (v := (4 : Int32)) dX5_carryOut_154 (by decide) ?_
            refine ok_iadd dX5_carryOut_155 ?_
            obtain ⟨hb18, h⟩ := h
            refine al_24 dX5_carryOut_156 v24 hb18 ?_
            refine ok_callV (M' := mX5_sends) [vI (a 24 0 0 (Int32.toNatClampNeg (x1 * (5 : Int32)))), vI (a 24 0 0 (Int32.toNatClampNeg ((x1 * (5 : Int32)) + (1 : Int32)))), vI (a 24 0 0 (Int32.toNatClampNeg ((x1 * (5 : Int32)) + (2 : Int32)))), vI (a 24 0 0 (Int32.toNatClampNeg ((x1 * (5 : Int32)) + (3 : Int32)))), vI (a 24 0 0 (Int32.toNatClampNeg ((x1 * (5 : Int32)) + (4 : Int32))))] dX5_carryOut_157 xw_454 fV_X5_sends fS_X5_sends rfl (by decide) v5 (ob_5 _ _ _) rfl (Nat.le_of_ble_eq_true rfl) (CI.to (CI.mono h ?_))
            intro r19 μ19 h
            exact ok_iret rfl dX5_carryOut_160 ⟨_, rfl, h⟩
          · have h := h.2 z4
            by_cases z5 : (a 23 0 0 (Int32.toNatClampNeg x1)) = (116 : Int32)
            · have h := h.1 z5
              refine ok_table dX5_carryOut_21 rfl (off := 158) (tgt := 179) (by (try dsimp only); rw [z5]; decide) (by decide) ?_
              refine ok_aload_n (j := 2) dX5_carryOut_179 rfl rfl ?_
              refine ok_aload_n (j := 1) dX5_carryOut_180 rfl rfl ?_
              refine ok_iload_n (j := 0) dX5_carryOut_181 rfl rfl ?_
              obtain ⟨hb20, h⟩ := h
              refine al_24 dX5_carryOut_182 v24 hb20 ?_
              refine ok_callV (M' := mX5_ticks) [vI (a 24 0 0 (Int32.toNatClampNeg (x1 * (5 : Int32))))] dX5_carryOut_183 xw_456 fV_X5_ticks fS_X5_ticks rfl (by decide) v5 (ob_5 _ _ _) rfl (Nat.le_of_ble_eq_true rfl) (CI.to (CI.mono h ?_))
              intro r21 μ21 h
              exact ok_iret rfl dX5_carryOut_186 ⟨_, rfl, h⟩
            · have h := h.2 z5
              refine ok_table dX5_carryOut_21 rfl (tgt := 200) (xSw_d [(98 : Int32), (101 : Int32), (111 : Int32), (114 : Int32), (115 : Int32), (116 : Int32)] (by decide) rfl (by simp only [List.mem_cons, List.not_mem_nil, or_false]; rintro c (rfl | rfl | rfl | rfl | rfl | rfl) <;> assumption)) (by decide) ?_
              refine ok_aload_n (j := 2) dX5_carryOut_200 rfl rfl ?_
              refine ok_aload_n (j := 1) dX5_carryOut_201 rfl rfl ?_
              refine ok_iload_n (j := 0) dX5_carryOut_202 rfl rfl ?_
              obtain ⟨hb22, h⟩ := h
              refine al_24 dX5_carryOut_203 v24 hb22 ?_
              refine ok_aload_n (j := 1) dX5_carryOut_204 rfl rfl ?_
              refine ok_iload_n (j := 0) dX5_carryOut_205 rfl rfl ?_
              refine ok_iconst (v := (1 : Int32)) dX5_carryOut_206 (by decide) ?_
              refine ok_iadd dX5_carryOut_207 ?_
              obtain ⟨hb23, h⟩ := h
              refine al_24 dX5_carryOut_208 v24 hb23 ?_
              refine ok_aload_n (j := 1) dX5_carryOut_209 rfl rfl ?_
              refine ok_iload_n (j := 0) dX5_carryOut_210 rfl rfl ?_
              refine ok_iconst (v := (2 : Int32)) dX5_carryOut_211 (by decide) ?_
              refine ok_iadd dX5_carryOut_212 ?_
              obtain ⟨hb24, h⟩ := h
              refine al_24 dX5_carryOut_213 v24 hb24 ?_
              refine ok_aload_n (j := 1) dX5_carryOut_214 rfl rfl ?_
              refine ok_iload_n (j := 0) dX5_carryOut_215 rfl rfl ?_
              refine ok_iconst (v := (3 : Int32)) dX5_carryOut_216 (by decide) ?_
              refine ok_iadd dX5_carryOut_217 ?_
              obtain ⟨hb25, h⟩ := h
              refine al_24 dX5_carryOut_218 v24 hb25 ?_
              refine ok_callV (M' := mX5_carries) [vI (a 24 0 0 (Int32.toNatClampNeg (x1 * (5 : Int32)))), vI (a 24 0 0 (Int32.toNatClampNeg ((x1 * (5 : Int32)) + (1 : Int32)))), vI (a 24 0 0 (Int32.toNatClampNeg ((x1 * (5 : Int32)) + (2 : Int32)))), vI (a 24 0 0 (Int32.toNatClampNeg ((x1 * (5 : Int32)) + (3 : Int32))))] dX5_carryOut_219 xw_458 fV_X5_carries fS_X5_carries rfl (by decide) v5 (ob_5 _ _ _) rfl (Nat.le_of_ble_eq_true rfl) (CI.to (CI.mono h ?_))
              intro r26 μ26 h
              exact ok_iret rfl dX5_carryOut_222 ⟨_, rfl, h⟩
set_option maxRecDepth 100000 in
set_option maxHeartbeats 4000000 in
theorem eX5_asked {a b : xA} {h0 : Int64} {Q : Int32 → xM → Prop}   (h : Q (a 5 0 0 7) (a, (b, h0))) : CI mX5_asked [vR 5 0 0] (a, (b, h0)) Q := by
  refine xCalls_of (by decide) (Nat.le_of_ble_eq_true rfl) ?_
  show xOk mX5_asked 0 [(0, vR 5 0 0)] [] (a, (b, h0)) (qI Q)
  refine ok_aload_n (j := 0) dX5_asked_0 rfl rfl ?_
  refine gf_5_7 dX5_asked_1 v5 xw_180 ?_
  exact ok_iret rfl dX5_asked_4 ⟨_, rfl, h⟩
set_option maxRecDepth 100000 in
set_option maxHeartbeats 4000000 in
theorem eX5_all {a b : xA} {h0 : Int64} {Q : Int32 → xM → Prop} {x1 : Int32}  (h : (CI mX5_outside [vI x1, vI (8 : Int32)] (a, (b, h0)) (fun r1 μ1 => ((r1 = 0 → ((x1 = (0 : Int32) → Q (μ1.1 4 0 0 0) μ1) ∧ (¬ x1 = (0 : Int32) → ((x1 = (1 : Int32) → Q (μ1.1 4 0 0 1) μ1) ∧ (¬ x1 = (1 : Int32) → ((x1 = (2 : Int32) → (CI mX5_producersIn [vR 5 0 0, vI (1 : Int32)] μ1 (fun r2 μ2 => Q r2 μ2))) ∧ (¬ x1 = (2 : Int32) → ((x1 = (3 : Int32) → (CI mX5_producersIn [vR 5 0 0, vI (2 : Int32)] μ1 (fun r3 μ3 => Q r3 μ3))) ∧ (¬ x1 = (3 : Int32) → ((x1 = (4 : Int32) → (CI mX5_entriesOfAll [vR 5 0 0] μ1 (fun r4 μ4 => Q r4 μ4))) ∧ (¬ x1 = (4 : Int32) → ((x1 = (5 : Int32) → (CI mX5_markersOfAll [vR 5 0 0] μ1 (fun r5 μ5 => Q r5 μ5))) ∧ (¬ x1 = (5 : Int32) → ((x1 = (6 : Int32) → (CI mX5_visibleOfAll [vR 5 0 0] μ1 (fun r6 μ6 => Q r6 μ6))) ∧ (¬ x1 = (6 : Int32) → (CI mX5_dueOfAll [vR 5 0 0] μ1 (fun r7 μ7 => Q r7 μ7))))))))))))))))) ∧ (¬ r1 = 0 → (CI mX5_failed [vR 5 0 0, vI (-2 : Int32)] μ1 (fun r8 μ8 => Q r8 μ8))))))) : CI mX5_all [vR 5 0 0, vI x1] (a, (b, h0)) Q := by
  refine xCalls_of (by decide) (Nat.le_of_ble_eq_true rfl) ?_
  show xOk mX5_all 0 [(0, vR 5 0 0), (1, vI x1)] [] (a, (b, h0)) (qI Q)
  refine ok_iload_n (j := 1) dX5_all_0 rfl rfl ?_
  refine ok_bipush (v := (8 : Int32)) dX5_all_1 (by decide) ?_
  refine ok_callS (M' := mX5_outside) [vI x1, vI (8 : Int32)] dX5_all_3 xw_205 fV_X5_outside fS_X5_outside (by decide) rfl (Nat.le_of_ble_eq_true rfl) (CI.to (CI.mono h ?_))
  intro r1 μ1 h
  refine ok_if_eq (tgt := 16) dX5_all_6 (by decide) ⟨fun z => ?_, fun z => ?_⟩
  · have h := h.1 z
    refine ok_iload_n (j := 1) dX5_all_16 rfl rfl ?_
    by_cases z0 : x1 = (0 : Int32)
    · have h := h.1 z0
      refine ok_table dX5_all_17 rfl (off := 43) (tgt := 60) (by (try dsimp only); rw [z0]; decide) (by decide) ?_
      refine ok_aload_n (j := 0) dX5_all_60 rfl rfl ?_
      refine gf_5_1 dX5_all_61 v5 xw_174 ?_
      refine gf_4_0 dX5_all_64 (v4 (by decide)) xw_80 ?_
      exact ok_iret rfl dX5_all_67 ⟨_, rfl, h⟩
    · have h := h.2 z0
      by_cases z1 : x1 = (1 : Int32)
      · have h := h.1 z1
        refine ok_table dX5_all_17 rfl (off := 51) (tgt := 68) (by (try dsimp only); rw [z1]; decide) (by decide) ?_
        refine ok_aload_n (j := 0) dX5_all_68 rfl rfl ?_
        refine gf_5_1 dX5_all_69 v5 xw_174 ?_
        refine gf_4_1 dX5_all_72 (v4 (by decide)) xw_82 ?_
        exact ok_iret rfl dX5_all_75 ⟨_, rfl, h⟩
      · have h := h.2 z1
        by_cases z2 : x1 = (2 : Int32)
        · have h := h.1 z2
          refine ok_table dX5_all_17 rfl (off := 59) (tgt := 76) (by (try dsimp only); rw [z2]; decide) (by decide) ?_
          refine ok_aload_n (j := 0) dX5_all_76 rfl rfl ?_
          refine ok_iconst (v := (1 : Int32)) dX5_all_77 (by decide) ?_
          refine ok_callV (M' := mX5_producersIn) [vI (1 : Int32)] dX5_all_78 xw_264 fV_X5_producersIn fS_X5_producersIn rfl (by decide) v5 (ob_5 _ _ _) rfl (Nat.le_of_ble_eq_true rfl) (CI.to (CI.mono h ?_))
          intro r2 μ2 h
          exact ok_iret rfl dX5_all_81 ⟨_, rfl, h⟩
        · have h := h.2 z2
          by_cases z3 : x1 = (3 : Int32)
          · have h := h.1 z3
            refine ok_table dX5_all_17 rfl (off := 65) (tgt := 82) (by (try dsimp only); rw [z3]; decide) (by decide) ?_
            refine ok_aload_n (j := 0) dX5_all_82 rfl rfl ?_
            refine ok_iconst (v := (2 : Int32)) dX5_all_83 (by decide) ?_
            refine ok_callV (M' := mX5_producersIn) [vI (2 : Int32)] dX5_all_84 xw_264 fV_X5_producersIn fS_X5_producersIn rfl (by decide) v5 (ob_5 _ _ _) rfl (Nat.le_of_ble_eq_true rfl) (CI.to (CI.mono h ?_))
            intro r3 μ3 h
            exact ok_iret rfl dX5_all_87 ⟨_, rfl, h⟩
          · have h := h.2 z3
            by_cases z4 : x1 = (4 : Int32)
            · have h := h.1 z4
              refine ok_table dX5_all_17 rfl (off := 71) (tgt := 88) (by (try dsimp only); rw [z4]; decide) (by decide) ?_
              refine ok_aload_n (j := 0) dX5_all_88 rfl rfl ?_
              refine ok_callV (M' := mX5_entriesOfAll) [] dX5_all_89 xw_467 fV_X5_entriesOfAll fS_X5_entriesOfAll rfl (by decide) v5 (ob_5 _ _ _) rfl (Nat.le_of_ble_eq_true rfl) (CI.to (CI.mono h ?_))
              intro r4 μ4 h
              exact ok_iret rfl dX5_all_92 ⟨_, rfl, h⟩
            · have h := h.2 z4
              by_cases z5 : x1 = (5 : Int32)
              · have h := h.1 z5
                refine ok_table dX5_all_17 rfl (off := 76) (tgt := 93) (by (try dsimp only); rw [z5]; decide) (by decide) ?_
                refine ok_aload_n (j := 0) dX5_all_93 rfl rfl ?_
                refine ok_callV (M' := mX5_markersOfAll) [] dX5_all_94 xw_471 fV_X5_markersOfAll fS_X5_markersOfAll rfl (by decide) v5 (ob_5 _ _ _) rfl (Nat.le_of_ble_eq_true rfl) (CI.to (CI.mono h ?_))
                intro r5 μ5 h
                exact ok_iret rfl dX5_all_97 ⟨_, rfl, h⟩
              · have h := h.2 z5
                by_cases z6 : x1 = (6 : Int32)
                · have h := h.1 z6
                  refine ok_table dX5_all_17 rfl (off := 81) (tgt := 98) (by (try dsimp only); rw [z6]; decide) (by decide) ?_
                  refine ok_aload_n (j := 0) dX5_all_98 rfl rfl ?_
                  refine ok_callV (M' := mX5_visibleOfAll) [] dX5_all_99 xw_479 fV_X5_visibleOfAll fS_X5_visibleOfAll rfl (by decide) v5 (ob_5 _ _ _) rfl (Nat.le_of_ble_eq_true rfl) (CI.to (CI.mono h ?_))
                  intro r6 μ6 h
                  exact ok_iret rfl dX5_all_102 ⟨_, rfl, h⟩
                · have h := h.2 z6
                  refine ok_table dX5_all_17 rfl (tgt := 103) (xSw_d [(0 : Int32), (1 : Int32), (2 : Int32), (3 : Int32), (4 : Int32), (5 : Int32), (6 : Int32)] (by decide) rfl (by simp only [List.mem_cons, List.not_mem_nil, or_false]; rintro c (rfl | rfl | rfl | rfl | rfl | rfl | rfl) <;> assumption)) (by decide) ?_
                  refine ok_aload_n (j := 0) dX5_all_103 rfl rfl ?_
                  refine ok_callV (M' := mX5_dueOfAll) [] dX5_all_104 xw_483 fV_X5_dueOfAll fS_X5_dueOfAll rfl (by decide) v5 (ob_5 _ _ _) rfl (Nat.le_of_ble_eq_true rfl) (CI.to (CI.mono h ?_))
                  intro r7 μ7 h
                  exact ok_iret rfl dX5_all_107 ⟨_, rfl, h⟩
  · have h := h.2 z
    refine ok_aload_n (j := 0) dX5_all_9 rfl rfl ?_
    refine ok_bipush (v := (-2 : Int32)) dX5_all_10 (by decide) ?_
    refine ok_callV (M' := mX5_failed) [vI (-2 : Int32)] dX5_all_12 xw_208 fV_X5_failed fS_X5_failed rfl (by decide) v5 (ob_5 _ _ _) rfl (Nat.le_of_ble_eq_true rfl) (CI.to (CI.mono h ?_))
    intro r8 μ8 h
    exact ok_iret rfl dX5_all_15 ⟨_, rfl, h⟩
set_option maxRecDepth 100000 in
set_option maxHeartbeats 4000000 in
theorem eX5_entriesOfAll {a b : xA} {h0 : Int64} {Q : Int32 → xM → Prop}   (h : xOk mX5_entriesOfAll 4 [(0, vR 5 0 0), (1, vI (0 : Int32)), (2, vI (0 : Int32))] [] (a, (b, h0)) (qI Q)) : CI mX5_entriesOfAll [vR 5 0 0] (a, (b, h0)) Q := by
  refine xCalls_of (by decide) (Nat.le_of_ble_eq_true rfl) ?_
  show xOk mX5_entriesOfAll 0 [(0, vR 5 0 0)] [] (a, (b, h0)) (qI Q)
  refine ok_iconst (v := (0 : Int32)) dX5_entriesOfAll_0 (by decide) ?_
  refine ok_istore_n (ls2 := [(1, vI (0 : Int32)), (0, vR 5 0 0)]) dX5_entriesOfAll_1 rfl (by decide) rfl ?_
  refine ok_iconst (v := (0 : Int32)) dX5_entriesOfAll_2 (by decide) ?_
  refine ok_istore_n (ls2 := [(2, vI (0 : Int32)), (1, vI (0 : Int32)), (0, vR 5 0 0)]) dX5_entriesOfAll_3 rfl (by decide) rfl ?_
  exact ok_sub [(0, vR 5 0 0), (1, vI (0 : Int32)), (2, vI (0 : Int32))] [2, 1, 0] rfl h
set_option maxRecDepth 100000 in
set_option maxHeartbeats 4000000 in
theorem rX5_entriesOfAll_4 {a b : xA} {h0 : Int64} {Q : Int32 → xM → Prop} {x1 : Int32} {x2 : Int32}  (h : (((3 : Int32) ≤ x2 → Q x1 (a, (b, h0))) ∧ (¬ (3 : Int32) ≤ x2 → (vp_in x2 3 ∧ xOk mX5_entriesOfAll 4 [(0, vR 5 0 0), (1, vI (x1 + (a 1 0 (Int32.toNatClampNeg x2) 0))), (2, vI (x2 + 1))] [] (a, (b, h0)) (qI Q))))) : xOk mX5_entriesOfAll 4 [(0, vR 5 0 0), (1, vI x1), (2, vI x2)] [] (a, (b, h0)) (qI Q) := by
  refine ok_iload_n (j := 2) dX5_entriesOfAll_4 rfl rfl ?_
  refine ok_iconst (v := (3 : Int32)) dX5_entriesOfAll_5 (by decide) ?_
  refine ok_icmp_ge (tgt := 27) dX5_entriesOfAll_6 (by decide) ⟨fun z => ?_, fun z => ?_⟩
  · have h := h.1 z
    refine ok_iload_n (j := 1) dX5_entriesOfAll_27 rfl rfl ?_
    exact ok_iret rfl dX5_entriesOfAll_28 ⟨_, rfl, h⟩
  · have h := h.2 z
    refine ok_iload_n (j := 1) dX5_entriesOfAll_9 rfl rfl ?_
    refine ok_aload_n (j := 0) dX5_entriesOfAll_10 rfl rfl ?_
    refine gf_5_0 dX5_entriesOfAll_11 v5 xw_173 ?_
    refine ok_iload_n (j := 2) dX5_entriesOfAll_14 rfl rfl ?_
    obtain ⟨hb1, h⟩ := h
    refine aa_40 dX5_entriesOfAll_15 v40 hb1 ?_
    refine gf_1_0 dX5_entriesOfAll_16 (v1 (vp_lt hb1)) xw_146 ?_
    refine ok_iadd dX5_entriesOfAll_19 ?_
    refine ok_istore_n (ls2 := [(1, vI (x1 + (a 1 0 (Int32.toNatClampNeg x2) 0))), (0, vR 5 0 0), (2, vI x2)]) dX5_entriesOfAll_20 rfl (by decide) rfl ?_
    refine ok_iinc (j := 2) (v := (x2 + 1)) (ls2 := [(2, vI (x2 + 1)), (1, vI (x1 + (a 1 0 (Int32.toNatClampNeg x2) 0))), (0, vR 5 0 0)]) dX5_entriesOfAll_21 rfl rfl (by decide) rfl ?_
    refine ok_goto (tgt := 4) dX5_entriesOfAll_24 (by decide) ?_
    exact ok_sub [(0, vR 5 0 0), (1, vI (x1 + (a 1 0 (Int32.toNatClampNeg x2) 0))), (2, vI (x2 + 1))] [2, 1, 0] rfl h
set_option maxRecDepth 100000 in
set_option maxHeartbeats 4000000 in
theorem eX5_markersOfAll {a b : xA} {h0 : Int64} {Q : Int32 → xM → Prop}   (h : xOk mX5_markersOfAll 4 [(0, vR 5 0 0), (1, vI (0 : Int32)), (2, vI (0 : Int32))] [] (a, (b, h0)) (qI Q)) : CI mX5_markersOfAll [vR 5 0 0] (a, (b, h0)) Q := by
  refine xCalls_of (by decide) (Nat.le_of_ble_eq_true rfl) ?_
  show xOk mX5_markersOfAll 0 [(0, vR 5 0 0)] [] (a, (b, h0)) (qI Q)
  refine ok_iconst (v := (0 : Int32)) dX5_markersOfAll_0 (by decide) ?_
  refine ok_istore_n (ls2 := [(1, vI (0 : Int32)), (0, vR 5 0 0)]) dX5_markersOfAll_1 rfl (by decide) rfl ?_
  refine ok_iconst (v := (0 : Int32)) dX5_markersOfAll_2 (by decide) ?_
  refine ok_istore_n (ls2 := [(2, vI (0 : Int32)), (1, vI (0 : Int32)), (0, vR 5 0 0)]) dX5_markersOfAll_3 rfl (by decide) rfl ?_
  exact ok_sub [(0, vR 5 0 0), (1, vI (0 : Int32)), (2, vI (0 : Int32))] [2, 1, 0] rfl h
set_option maxRecDepth 100000 in
set_option maxHeartbeats 4000000 in
theorem rX5_markersOfAll_4 {a b : xA} {h0 : Int64} {Q : Int32 → xM → Prop} {x1 : Int32} {x2 : Int32}  (h : (((3 : Int32) ≤ x2 → Q x1 (a, (b, h0))) ∧ (¬ (3 : Int32) ≤ x2 → (vp_in x2 3 ∧ (CI mX1_markers [vR 1 0 (Int32.toNatClampNeg x2)] (a, (b, h0)) (fun r2 μ2 => xOk mX5_markersOfAll 4 [(0, vR 5 0 0), (1, vI (x1 + r2)), (2, vI (x2 + 1))] [] μ2 (qI Q))))))) : xOk mX5_markersOfAll 4 [(0, vR 5 0 0), (1, vI x1), (2, vI x2)] [] (a, (b, h0)) (qI Q) := by
  refine ok_iload_n (j := 2) dX5_markersOfAll_4 rfl rfl ?_
  refine ok_iconst (v := (3 : Int32)) dX5_markersOfAll_5 (by decide) ?_
  refine ok_icmp_ge (tgt := 27) dX5_markersOfAll_6 (by decide) ⟨fun z => ?_, fun z => ?_⟩
  · have h := h.1 z
    refine ok_iload_n (j := 1) dX5_markersOfAll_27 rfl rfl ?_
    exact ok_iret rfl dX5_markersOfAll_28 ⟨_, rfl, h⟩
  · have h := h.2 z
    refine ok_iload_n (j := 1) dX5_markersOfAll_9 rfl rfl ?_
    refine ok_aload_n (j := 0) dX5_markersOfAll_10 rfl rfl ?_
    refine gf_5_0 dX5_markersOfAll_11 v5 xw_173 ?_
    refine ok_iload_n (j := 2) dX5_markersOfAll_14 rfl rfl ?_
    obtain ⟨hb1, h⟩ := h
    refine aa_40 dX5_markersOfAll_15 v40 hb1 ?_
    refine ok_callV (M' := mX1_markers) [] dX5_markersOfAll_16 xw_475 fV_X1_markers fS_X1_markers rfl (by decide) (v1 (vp_lt hb1)) (ob_1 _ _ _) rfl (Nat.le_of_ble_eq_true rfl) (CI.to (CI.mono h ?_))
    intro r2 μ2 h
    refine ok_iadd dX5_markersOfAll_19 ?_
    refine ok_istore_n (ls2 := [(1, vI (x1 + r2)), (0, vR 5 0 0), (2, vI x2)]) dX5_markersOfAll_20 rfl (by decide) rfl ?_
    refine ok_iinc (j := 2) (v := (x2 + 1)) (ls2 := [(2, vI (x2 + 1)), (1, vI (x1 + r2)), (0, vR 5 0 0)]) dX5_markersOfAll_21 rfl rfl (by decide) rfl ?_
    refine ok_goto (tgt := 4) dX5_markersOfAll_24 (by decide) ?_
    exact ok_sub [(0, vR 5 0 0), (1, vI (x1 + r2)), (2, vI (x2 + 1))] [2, 1, 0] rfl h
set_option maxRecDepth 100000 in
set_option maxHeartbeats 4000000 in
theorem eX5_visibleOfAll {a b : xA} {h0 : Int64} {Q : Int32 → xM → Prop}   (h : xOk mX5_visibleOfAll 4 [(0, vR 5 0 0), (1, vI (0 : Int32)), (2, vI (0 : Int32))] [] (a, (b, h0)) (qI Q)) : CI mX5_visibleOfAll [vR 5 0 0] (a, (b, h0)) Q := by
  refine xCalls_of (by decide) (Nat.le_of_ble_eq_true rfl) ?_
  show xOk mX5_visibleOfAll 0 [(0, vR 5 0 0)] [] (a, (b, h0)) (qI Q)
  refine ok_iconst (v := (0 : Int32)) dX5_visibleOfAll_0 (by decide) ?_
  refine ok_istore_n (ls2 := [(1, vI (0 : Int32)), (0, vR 5 0 0)]) dX5_visibleOfAll_1 rfl (by decide) rfl ?_
  refine ok_iconst (v := (0 : Int32)) dX5_visibleOfAll_2 (by decide) ?_
  refine ok_istore_n (ls2 := [(2, vI (0 : Int32)), (1, vI (0 : Int32)), (0, vR 5 0 0)]) dX5_visibleOfAll_3 rfl (by decide) rfl ?_
  exact ok_sub [(0, vR 5 0 0), (1, vI (0 : Int32)), (2, vI (0 : Int32))] [2, 1, 0] rfl h
set_option maxRecDepth 100000 in
set_option maxHeartbeats 4000000 in
theorem rX5_visibleOfAll_4 {a b : xA} {h0 : Int64} {Q : Int32 → xM → Prop} {x1 : Int32} {x2 : Int32}  (h : (((3 : Int32) ≤ x2 → Q x1 (a, (b, h0))) ∧ (¬ (3 : Int32) ≤ x2 → (vp_in x2 3 ∧ (CI mX5_stable [vR 5 0 0, vI x2] (a, (b, h0)) (fun r2 μ2 => (CI mX1_visibleFrom [vR 1 0 (Int32.toNatClampNeg x2), vI (0 : Int32), vI r2] μ2 (fun r3 μ3 => xOk mX5_visibleOfAll 4 [(0, vR 5 0 0), (1, vI (x1 + r3)), (2, vI (x2 + 1))] [] μ3 (qI Q))))))))) : xOk mX5_visibleOfAll 4 [(0, vR 5 0 0), (1, vI x1), (2, vI x2)] [] (a, (b, h0)) (qI Q) := by
  refine ok_iload_n (j := 2) dX5_visibleOfAll_4 rfl rfl ?_
  refine ok_iconst (v := (3 : Int32)) dX5_visibleOfAll_5 (by decide) ?_
  refine ok_icmp_ge (tgt := 33) dX5_visibleOfAll_6 (by decide) ⟨fun z => ?_, fun z => ?_⟩
  · have h := h.1 z
    refine ok_iload_n (j := 1) dX5_visibleOfAll_33 rfl rfl ?_
    exact ok_iret rfl dX5_visibleOfAll_34 ⟨_, rfl, h⟩
  · have h := h.2 z
    refine ok_iload_n (j := 1) dX5_visibleOfAll_9 rfl rfl ?_
    refine ok_aload_n (j := 0) dX5_visibleOfAll_10 rfl rfl ?_
    refine gf_5_0 dX5_visibleOfAll_11 v5 xw_173 ?_
    refine ok_iload_n (j := 2) dX5_visibleOfAll_14 rfl rfl ?_
    obtain ⟨hb1, h⟩ := h
    refine aa_40 dX5_visibleOfAll_15 v40 hb1 ?_
    refine ok_iconst (v := (0 : Int32)) dX5_visibleOfAll_16 (by decide) ?_
    refine ok_aload_n (j := 0) dX5_visibleOfAll_17 rfl rfl ?_
    refine ok_iload_n (j := 2) dX5_visibleOfAll_18 rfl rfl ?_
    refine ok_callV (M' := mX5_stable) [vI x2] dX5_visibleOfAll_19 xw_351 fV_X5_stable fS_X5_stable rfl (by decide) v5 (ob_5 _ _ _) rfl (Nat.le_of_ble_eq_true rfl) (CI.to (CI.mono h ?_))
    intro r2 μ2 h
    refine ok_callV (M' := mX1_visibleFrom) [vI (0 : Int32), vI r2] dX5_visibleOfAll_22 xw_372 fV_X1_visibleFrom fS_X1_visibleFrom rfl (by decide) (v1 (vp_lt hb1)) (ob_1 _ _ _) rfl (Nat.le_of_ble_eq_true rfl) (CI.to (CI.mono h ?_))
    intro r3 μ3 h
    refine ok_iadd dX5_visibleOfAll_25 ?_
    refine ok_istore_n (ls2 := [(1, vI (x1 + r3)), (0, vR 5 0 0), (2, vI x2)]) dX5_visibleOfAll_26 rfl (by decide) rfl ?_
    refine ok_iinc (j := 2) (v := (x2 + 1)) (ls2 := [(2, vI (x2 + 1)), (1, vI (x1 + r3)), (0, vR 5 0 0)]) dX5_visibleOfAll_27 rfl rfl (by decide) rfl ?_
    refine ok_goto (tgt := 4) dX5_visibleOfAll_30 (by decide) ?_
    exact ok_sub [(0, vR 5 0 0), (1, vI (x1 + r3)), (2, vI (x2 + 1))] [2, 1, 0] rfl h
set_option maxRecDepth 100000 in
set_option maxHeartbeats 4000000 in
theorem eX5_dueOfAll {a b : xA} {h0 : Int64} {Q : Int32 → xM → Prop}   (h : xOk mX5_dueOfAll 4 [(0, vR 5 0 0), (1, vI (0 : Int32)), (2, vI (0 : Int32))] [] (a, (b, h0)) (qI Q)) : CI mX5_dueOfAll [vR 5 0 0] (a, (b, h0)) Q := by
  refine xCalls_of (by decide) (Nat.le_of_ble_eq_true rfl) ?_
  show xOk mX5_dueOfAll 0 [(0, vR 5 0 0)] [] (a, (b, h0)) (qI Q)
  refine ok_iconst (v := (0 : Int32)) dX5_dueOfAll_0 (by decide) ?_
  refine ok_istore_n (ls2 := [(1, vI (0 : Int32)), (0, vR 5 0 0)]) dX5_dueOfAll_1 rfl (by decide) rfl ?_
  refine ok_iconst (v := (0 : Int32)) dX5_dueOfAll_2 (by decide) ?_
  refine ok_istore_n (ls2 := [(2, vI (0 : Int32)), (1, vI (0 : Int32)), (0, vR 5 0 0)]) dX5_dueOfAll_3 rfl (by decide) rfl ?_
  exact ok_sub [(0, vR 5 0 0), (1, vI (0 : Int32)), (2, vI (0 : Int32))] [2, 1, 0] rfl h
set_option maxRecDepth 100000 in
set_option maxHeartbeats 4000000 in
theorem rX5_dueOfAll_4 {a b : xA} {h0 : Int64} {Q : Int32 → xM → Prop} {x1 : Int32} {x2 : Int32}  (h : (((4 : Int32) ≤ x2 → Q x1 (a, (b, h0))) ∧ (¬ (4 : Int32) ≤ x2 → (vp_in x2 4 ∧ (CI mX2_markersDue [vR 2 0 (Int32.toNatClampNeg x2)] (a, (b, h0)) (fun r2 μ2 => xOk mX5_dueOfAll 4 [(0, vR 5 0 0), (1, vI (x1 + r2)), (2, vI (x2 + 1))] [] μ2 (qI Q))))))) : xOk mX5_dueOfAll 4 [(0, vR 5 0 0), (1, vI x1), (2, vI x2)] [] (a, (b, h0)) (qI Q) := by
  refine ok_iload_n (j := 2) dX5_dueOfAll_4 rfl rfl ?_
  refine ok_iconst (v := (4 : Int32)) dX5_dueOfAll_5 (by decide) ?_
  refine ok_icmp_ge (tgt := 30) dX5_dueOfAll_6 (by decide) ⟨fun z => ?_, fun z => ?_⟩
  · have h := h.1 z
    refine ok_iload_n (j := 1) dX5_dueOfAll_30 rfl rfl ?_
    exact ok_iret rfl dX5_dueOfAll_31 ⟨_, rfl, h⟩
  · have h := h.2 z
    refine ok_iload_n (j := 1) dX5_dueOfAll_9 rfl rfl ?_
    refine ok_aload_n (j := 0) dX5_dueOfAll_10 rfl rfl ?_
    refine gf_5_1 dX5_dueOfAll_11 v5 xw_174 ?_
    refine gf_4_3 dX5_dueOfAll_14 (v4 (by decide)) xw_86 ?_
    refine ok_iload_n (j := 2) dX5_dueOfAll_17 rfl rfl ?_
    obtain ⟨hb1, h⟩ := h
    refine aa_42 dX5_dueOfAll_18 (v42 (by decide)) hb1 ?_
    refine ok_callV (M' := mX2_markersDue) [] dX5_dueOfAll_19 xw_321 fV_X2_markersDue fS_X2_markersDue rfl (by decide) (v2 (by decide) (vp_lt hb1)) (ob_2 _ _ _) rfl (Nat.le_of_ble_eq_true rfl) (CI.to (CI.mono h ?_))
    intro r2 μ2 h
    refine ok_iadd dX5_dueOfAll_22 ?_
    refine ok_istore_n (ls2 := [(1, vI (x1 + r2)), (0, vR 5 0 0), (2, vI x2)]) dX5_dueOfAll_23 rfl (by decide) rfl ?_
    refine ok_iinc (j := 2) (v := (x2 + 1)) (ls2 := [(2, vI (x2 + 1)), (1, vI (x1 + r2)), (0, vR 5 0 0)]) dX5_dueOfAll_24 rfl rfl (by decide) rfl ?_
    refine ok_goto (tgt := 4) dX5_dueOfAll_27 (by decide) ?_
    exact ok_sub [(0, vR 5 0 0), (1, vI (x1 + r2)), (2, vI (x2 + 1))] [2, 1, 0] rfl h
set_option maxRecDepth 100000 in
set_option maxHeartbeats 4000000 in
theorem eX5_back {a b : xA} {h0 : Int64} {Q : Int32 → xM → Prop}   (h : ((¬ (a 5 0 0 3) = 0 → (vp_in ((xUp (xUp a 5 0 0 3 ((a 5 0 0 3) - (1 : Int32))) 5 0 0 4 (((((xUp a 5 0 0 3 ((a 5 0 0 3) - (1 : Int32))) 5 0 0 4) + (6 : Int32)) - (1 : Int32)) - ((((xUp a 5 0 0 3 ((a 5 0 0 3) - (1 : Int32))) 5 0 0 4) + (6 : Int32)) - (1 : Int32)) / (6 : Int32) * (6 : Int32))) 5 0 0 4) 6 ∧ (CV mX4_copy [vR 4 0 0, vR 4 (Int32.toNatClampNeg ((xUp (xUp a 5 0 0 3 ((a 5 0 0 3) - (1 : Int32))) 5 0 0 4 (((((xUp a 5 0 0 3 ((a 5 0 0 3) - (1 : Int32))) 5 0 0 4) + (6 : Int32)) - (1 : Int32)) - ((((xUp a 5 0 0 3 ((a 5 0 0 3) - (1 : Int32))) 5 0 0 4) + (6 : Int32)) - (1 : Int32)) / (6 : Int32) * (6 : Int32))) 5 0 0 4) + 1) 0] ((xUp (xUp a 5 0 0 3 ((a 5 0 0 3) - (1 : Int32))) 5 0 0 4 (((((xUp a 5 0 0 3 ((a 5 0 0 3) - (1 : Int32))) 5 0 0 4) + (6 : Int32)) - (1 : Int32)) - ((((xUp a 5 0 0 3 ((a 5 0 0 3) - (1 : Int32))) 5 0 0 4) + (6 : Int32)) - (1 : Int32)) / (6 : Int32) * (6 : Int32))), (b, h0)) (fun μ2 => xOk mX5_back 58 [(0, vR 5 0 0), (1, vI (0 : Int32))] [] μ2 (qI Q))))) ∧ ((a 5 0 0 3) = 0 → (CI mX5_failed [vR 5 0 0, vI (-3 : Int32)] (a, (b, h0)) (fun r3 μ3 => Q r3 μ3))))) : CI mX5_back [vR 5 0 0] (a, (b, h0)) Q := by
  refine xCalls_of (by decide) (Nat.le_of_ble_eq_true rfl) ?_
  show xOk mX5_back 0 [(0, vR 5 0 0)] [] (a, (b, h0)) (qI Q)
  refine ok_aload_n (j := 0) dX5_back_0 rfl rfl ?_
  refine gf_5_3 dX5_back_1 v5 xw_176 ?_
  refine ok_if_ne (tgt := 14) dX5_back_4 (by decide) ⟨fun z => ?_, fun z => ?_⟩
  · have h := h.1 z
    refine ok_aload_n (j := 0) dX5_back_14 rfl rfl ?_
    refine ok_dup dX5_back_15 rfl ?_
    refine gf_5_3 dX5_back_16 v5 xw_176 ?_
    refine ok_iconst (v := (1 : Int32)) dX5_back_19 (by decide) ?_
    refine ok_isub dX5_back_20 ?_
    refine pf_5_3 dX5_back_21 v5 xw_176 ?_
    refine ok_aload_n (j := 0) dX5_back_24 rfl rfl ?_
    refine ok_aload_n (j := 0) dX5_back_25 rfl rfl ?_
    refine gf_5_4 dX5_back_26 v5 xw_177 ?_
    refine ok_bipush (v := (6 : Int32)) dX5_back_29 (by decide) ?_
    refine ok_iadd dX5_back_31 ?_
    refine ok_iconst (v := (1 : Int32)) dX5_back_32 (by decide) ?_
    refine ok_isub dX5_back_33 ?_
    refine ok_bipush (v := (6 : Int32)) dX5_back_34 (by decide) ?_
    refine ok_irem dX5_back_36 (by decide) ?_
    refine pf_5_4 dX5_back_37 v5 xw_177 ?_
    refine ok_aload_n (j := 0) dX5_back_40 rfl rfl ?_
    refine gf_5_1 dX5_back_41 v5 xw_174 ?_
    refine ok_aload_n (j := 0) dX5_back_44 rfl rfl ?_
    refine gf_5_2 dX5_back_45 v5 xw_175 ?_
    refine ok_aload_n (j := 0) dX5_back_48 rfl rfl ?_
    refine gf_5_4 dX5_back_49 v5 xw_177 ?_
    obtain ⟨hb1, h⟩ := h
    refine aa_41 dX5_back_52 v41 hb1 ?_
    refine ok_callV (M' := mX4_copy) [vR 4 (Int32.toNatClampNeg ((xUp (xUp a 5 0 0 3 ((a 5 0 0 3) - (1 : Int32))) 5 0 0 4 (((((xUp a 5 0 0 3 ((a 5 0 0 3) - (1 : Int32))) 5 0 0 4) + (6 : Int32)) - (1 : Int32)) - ((((xUp a 5 0 0 3 ((a 5 0 0 3) - (1 : Int32))) 5 0 0 4) + (6 : Int32)) - (1 : Int32)) / (6 : Int32) * (6 : Int32))) 5 0 0 4) + 1) 0] dX5_back_53 xw_216 fV_X4_copy fS_X4_copy rfl (by decide) (v4 (by decide)) (ob_4 _ _ _) rfl (Nat.le_of_ble_eq_true rfl) (CV.to (CV.mono h ?_))
    intro μ2 h
    refine ok_iconst (v := (0 : Int32)) dX5_back_56 (by decide) ?_
    refine ok_istore_n (ls2 := [(1, vI (0 : Int32)), (0, vR 5 0 0)]) dX5_back_57 rfl (by decide) rfl ?_
    exact ok_sub [(0, vR 5 0 0), (1, vI (0 : Int32))] [1, 0] rfl h
  · have h := h.2 z
    refine ok_aload_n (j := 0) dX5_back_7 rfl rfl ?_
    refine ok_bipush (v := (-3 : Int32)) dX5_back_8 (by decide) ?_
    refine ok_callV (M' := mX5_failed) [vI (-3 : Int32)] dX5_back_10 xw_208 fV_X5_failed fS_X5_failed rfl (by decide) v5 (ob_5 _ _ _) rfl (Nat.le_of_ble_eq_true rfl) (CI.to (CI.mono h ?_))
    intro r3 μ3 h
    exact ok_iret rfl dX5_back_13 ⟨_, rfl, h⟩
set_option maxRecDepth 100000 in
set_option maxHeartbeats 4000000 in
theorem rX5_back_58 {a b : xA} {h0 : Int64} {Q : Int32 → xM → Prop} {x1 : Int32}  (h : (((3 : Int32) ≤ x1 → Q (a 5 0 0 3) (a, (b, h0))) ∧ (¬ (3 : Int32) ≤ x1 → (vp_in x1 3 ∧ (vp_in x1 3 ∧ (CV mX1_cut [vR 1 0 (Int32.toNatClampNeg x1), vI (a 16 0 0 (Int32.toNatClampNeg x1))] (a, (b, h0)) (fun μ3 => xOk mX5_back 58 [(0, vR 5 0 0), (1, vI (x1 + 1))] [] μ3 (qI Q)))))))) : xOk mX5_back 58 [(0, vR 5 0 0), (1, vI x1)] [] (a, (b, h0)) (qI Q) := by
  refine ok_iload_n (j := 1) dX5_back_58 rfl rfl ?_
  refine ok_iconst (v := (3 : Int32)) dX5_back_59 (by decide) ?_
  refine ok_icmp_ge (tgt := 87) dX5_back_60 (by decide) ⟨fun z => ?_, fun z => ?_⟩
  · have h := h.1 z
    refine ok_aload_n (j := 0) dX5_back_87 rfl rfl ?_
    refine gf_5_3 dX5_back_88 v5 xw_176 ?_
    exact ok_iret rfl dX5_back_91 ⟨_, rfl, h⟩
  · have h := h.2 z
    refine ok_aload_n (j := 0) dX5_back_63 rfl rfl ?_
    refine gf_5_0 dX5_back_64 v5 xw_173 ?_
    refine ok_iload_n (j := 1) dX5_back_67 rfl rfl ?_
    obtain ⟨hb1, h⟩ := h
    refine aa_40 dX5_back_68 v40 hb1 ?_
    refine ok_aload_n (j := 0) dX5_back_69 rfl rfl ?_
    refine gf_5_1 dX5_back_70 v5 xw_174 ?_
    refine gf_4_2 dX5_back_73 (v4 (by decide)) xw_84 ?_
    refine ok_iload_n (j := 1) dX5_back_76 rfl rfl ?_
    obtain ⟨hb2, h⟩ := h
    refine al_16 dX5_back_77 (v16 (by decide)) hb2 ?_
    refine ok_callV (M' := mX1_cut) [vI (a 16 0 0 (Int32.toNatClampNeg x1))] dX5_back_78 xw_491 fV_X1_cut fS_X1_cut rfl (by decide) (v1 (vp_lt hb1)) (ob_1 _ _ _) rfl (Nat.le_of_ble_eq_true rfl) (CV.to (CV.mono h ?_))
    intro μ3 h
    refine ok_iinc (j := 1) (v := (x1 + 1)) (ls2 := [(1, vI (x1 + 1)), (0, vR 5 0 0)]) dX5_back_81 rfl rfl (by decide) rfl ?_
    refine ok_goto (tgt := 58) dX5_back_84 (by decide) ?_
    exact ok_sub [(0, vR 5 0 0), (1, vI (x1 + 1))] [1, 0] rfl h
set_option maxRecDepth 100000 in
set_option maxHeartbeats 4000000 in
theorem eX5_told {a b : xA} {h0 : Int64} {Q : Int32 → xM → Prop} {x1 : Int32}  (h : (CI mX5_outside [vI x1, vI (7 : Int32)] (a, (b, h0)) (fun r1 μ1 => ((r1 = 0 → (((5 : Int32) ≤ x1 → ((¬ x1 = (5 : Int32) → Q (μ1.1 5 0 0 3) μ1) ∧ (x1 = (5 : Int32) → Q (μ1.1 3 0 0 1) μ1))) ∧ (¬ (5 : Int32) ≤ x1 → (vp_in x1 5 ∧ Q (μ1.1 25 0 0 (Int32.toNatClampNeg x1)) μ1)))) ∧ (¬ r1 = 0 → (CI mX5_failed [vR 5 0 0, vI (-2 : Int32)] μ1 (fun r3 μ3 => Q r3 μ3))))))) : CI mX5_told [vR 5 0 0, vI x1] (a, (b, h0)) Q := by
  refine xCalls_of (by decide) (Nat.le_of_ble_eq_true rfl) ?_
  show xOk mX5_told 0 [(0, vR 5 0 0), (1, vI x1)] [] (a, (b, h0)) (qI Q)
  refine ok_iload_n (j := 1) dX5_told_0 rfl rfl ?_
  refine ok_bipush (v := (7 : Int32)) dX5_told_1 (by decide) ?_
  refine ok_callS (M' := mX5_outside) [vI x1, vI (7 : Int32)] dX5_told_3 xw_205 fV_X5_outside fS_X5_outside (by decide) rfl (Nat.le_of_ble_eq_true rfl) (CI.to (CI.mono h ?_))
  intro r1 μ1 h
  refine ok_if_eq (tgt := 16) dX5_told_6 (by decide) ⟨fun z => ?_, fun z => ?_⟩
  · have h := h.1 z
    refine ok_iload_n (j := 1) dX5_told_16 rfl rfl ?_
    refine ok_iconst (v := (5 : Int32)) dX5_told_17 (by decide) ?_
    refine ok_icmp_ge (tgt := 28) dX5_told_18 (by decide) ⟨fun z => ?_, fun z => ?_⟩
    · have h := h.1 z
      refine ok_iload_n (j := 1) dX5_told_28 rfl rfl ?_
      refine ok_iconst (v := (5 : Int32)) dX5_told_29 (by decide) ?_
      refine ok_icmp_ne (tgt := 43) dX5_told_30 (by decide) ⟨fun z => ?_, fun z => ?_⟩
      · have h := h.1 z
        refine ok_aload_n (j := 0) dX5_told_43 rfl rfl ?_
        refine gf_5_3 dX5_told_44 v5 xw_176 ?_
        exact ok_iret rfl dX5_told_47 ⟨_, rfl, h⟩
      · have h := h.2 z
        refine ok_aload_n (j := 0) dX5_told_33 rfl rfl ?_
        refine gf_5_5 dX5_told_34 v5 xw_178 ?_
        refine gf_3_1 dX5_told_37 v3 xw_110 ?_
        refine ok_goto (tgt := 47) dX5_told_40 (by decide) ?_
        exact ok_iret rfl dX5_told_47 ⟨_, rfl, h⟩
    · have h := h.2 z
      refine ok_aload_n (j := 0) dX5_told_21 rfl rfl ?_
      refine gf_5_6 dX5_told_22 v5 xw_179 ?_
      refine ok_iload_n (j := 1) dX5_told_25 rfl rfl ?_
      obtain ⟨hb2, h⟩ := h
      refine al_25 dX5_told_26 v25 hb2 ?_
      exact ok_iret rfl dX5_told_27 ⟨_, rfl, h⟩
  · have h := h.2 z
    refine ok_aload_n (j := 0) dX5_told_9 rfl rfl ?_
    refine ok_bipush (v := (-2 : Int32)) dX5_told_10 (by decide) ?_
    refine ok_callV (M' := mX5_failed) [vI (-2 : Int32)] dX5_told_12 xw_208 fV_X5_failed fS_X5_failed rfl (by decide) v5 (ob_5 _ _ _) rfl (Nat.le_of_ble_eq_true rfl) (CI.to (CI.mono h ?_))
    intro r3 μ3 h
    exact ok_iret rfl dX5_told_15 ⟨_, rfl, h⟩
set_option maxRecDepth 100000 in
set_option maxHeartbeats 4000000 in
theorem eX5_digest {a b : xA} {h0 : Int64} {Q : Int64 → xM → Prop}   (h : xOk mX5_digest 6 [(0, vR 5 0 0), (1, vL (2297 : Int64)), (3, vI (0 : Int32))] [] (a, (b, h0)) (qL Q)) : CL mX5_digest [vR 5 0 0] (a, (b, h0)) Q := by
  refine xCalls_of (by decide) (Nat.le_of_ble_eq_true rfl) ?_
  show xOk mX5_digest 0 [(0, vR 5 0 0)] [] (a, (b, h0)) (qL Q)
  refine ok_ldc2 (v := (2297 : Int64)) dX5_digest_0 xw_503 ?_
  refine ok_lstore_n (ls2 := [(1, vL (2297 : Int64)), (0, vR 5 0 0)]) dX5_digest_3 rfl (by decide) rfl ?_
  refine ok_iconst (v := (0 : Int32)) dX5_digest_4 (by decide) ?_
  refine ok_istore_n (ls2 := [(3, vI (0 : Int32)), (1, vL (2297 : Int64)), (0, vR 5 0 0)]) dX5_digest_5 rfl (by decide) rfl ?_
  exact ok_sub [(0, vR 5 0 0), (1, vL (2297 : Int64)), (3, vI (0 : Int32))] [2, 1, 0] rfl h
set_option maxRecDepth 100000 in
set_option maxHeartbeats 4000000 in
theorem rX5_digest_6 {a b : xA} {h0 : Int64} {Q : Int64 → xM → Prop} {x1 : Int64} {x3 : Int32}  (h : (((6 : Int32) < x3 → xOk mX5_digest 33 [(0, vR 5 0 0), (1, vL x1), (3, vI (0 : Int32))] [] (a, (b, h0)) (qL Q)) ∧ (¬ (6 : Int32) < x3 → (CI mX5_told [vR 5 0 0, vI x3] (a, (b, h0)) (fun r1 μ1 => xOk mX5_digest 6 [(0, vR 5 0 0), (1, vL (((31 : Int64) * x1) + (Int32.toInt64 r1))), (3, vI (x3 + 1))] [] μ1 (qL Q)))))) : xOk mX5_digest 6 [(0, vR 5 0 0), (1, vL x1), (3, vI x3)] [] (a, (b, h0)) (qL Q) := by
  refine ok_iload_n (j := 2) dX5_digest_6 rfl rfl ?_
  refine ok_bipush (v := (6 : Int32)) dX5_digest_7 (by decide) ?_
  refine ok_icmp_gt (tgt := 31) dX5_digest_9 (by decide) ⟨fun z => ?_, fun z => ?_⟩
  · have h := h.1 z
    refine ok_iconst (v := (0 : Int32)) dX5_digest_31 (by decide) ?_
    refine ok_istore_n (ls2 := [(3, vI (0 : Int32)), (0, vR 5 0 0), (1, vL x1)]) dX5_digest_32 rfl (by decide) rfl ?_
    exact ok_sub [(0, vR 5 0 0), (1, vL x1), (3, vI (0 : Int32))] [1, 2, 0] rfl h
  · have h := h.2 z
    refine ok_ldc2 (v := (31 : Int64)) dX5_digest_12 xw_504 ?_
    refine ok_lload_n (j := 1) dX5_digest_15 rfl rfl ?_
    refine ok_lmul dX5_digest_16 ?_
    refine ok_aload_n (j := 0) dX5_digest_17 rfl rfl ?_
    refine ok_iload_n (j := 2) dX5_digest_18 rfl rfl ?_
    refine ok_callV (M' := mX5_told) [vI x3] dX5_digest_19 xw_505 fV_X5_told fS_X5_told rfl (by decide) v5 (ob_5 _ _ _) rfl (Nat.le_of_ble_eq_true rfl) (CI.to (CI.mono h ?_))
    intro r1 μ1 h
    refine ok_i2l dX5_digest_22 ?_
    refine ok_ladd dX5_digest_23 ?_
    refine ok_lstore_n (ls2 := [(1, vL (((31 : Int64) * x1) + (Int32.toInt64 r1))), (0, vR 5 0 0), (3, vI x3)]) dX5_digest_24 rfl (by decide) rfl ?_
    refine ok_iinc (j := 2) (v := (x3 + 1)) (ls2 := [(3, vI (x3 + 1)), (1, vL (((31 : Int64) * x1) + (Int32.toInt64 r1))), (0, vR 5 0 0)]) dX5_digest_25 rfl rfl (by decide) rfl ?_
    refine ok_goto (tgt := 6) dX5_digest_28 (by decide) ?_
    exact ok_sub [(0, vR 5 0 0), (1, vL (((31 : Int64) * x1) + (Int32.toInt64 r1))), (3, vI (x3 + 1))] [2, 1, 0] rfl h
set_option maxRecDepth 100000 in
set_option maxHeartbeats 4000000 in
theorem rX5_digest_33 {a b : xA} {h0 : Int64} {Q : Int64 → xM → Prop} {x1 : Int64} {x3 : Int32}  (h : (((7 : Int32) < x3 → xOk mX5_digest 60 [(0, vR 5 0 0), (1, vL x1), (3, vI (0 : Int32))] [] (a, (b, h0)) (qL Q)) ∧ (¬ (7 : Int32) < x3 → (CI mX5_all [vR 5 0 0, vI x3] (a, (b, h0)) (fun r1 μ1 => xOk mX5_digest 33 [(0, vR 5 0 0), (1, vL (((31 : Int64) * x1) + (Int32.toInt64 r1))), (3, vI (x3 + 1))] [] μ1 (qL Q)))))) : xOk mX5_digest 33 [(0, vR 5 0 0), (1, vL x1), (3, vI x3)] [] (a, (b, h0)) (qL Q) := by
  refine ok_iload_n (j := 2) dX5_digest_33 rfl rfl ?_
  refine ok_bipush (v := (7 : Int32)) dX5_digest_34 (by decide) ?_
  refine ok_icmp_gt (tgt := 58) dX5_digest_36 (by decide) ⟨fun z => ?_, fun z => ?_⟩
  · have h := h.1 z
    refine ok_iconst (v := (0 : Int32)) dX5_digest_58 (by decide) ?_
    refine ok_istore_n (ls2 := [(3, vI (0 : Int32)), (0, vR 5 0 0), (1, vL x1)]) dX5_digest_59 rfl (by decide) rfl ?_
    exact ok_sub [(0, vR 5 0 0), (1, vL x1), (3, vI (0 : Int32))] [1, 2, 0] rfl h
  · have h := h.2 z
    refine ok_ldc2 (v := (31 : Int64)) dX5_digest_39 xw_504 ?_
    refine ok_lload_n (j := 1) dX5_digest_42 rfl rfl ?_
    refine ok_lmul dX5_digest_43 ?_
    refine ok_aload_n (j := 0) dX5_digest_44 rfl rfl ?_
    refine ok_iload_n (j := 2) dX5_digest_45 rfl rfl ?_
    refine ok_callV (M' := mX5_all) [vI x3] dX5_digest_46 xw_506 fV_X5_all fS_X5_all rfl (by decide) v5 (ob_5 _ _ _) rfl (Nat.le_of_ble_eq_true rfl) (CI.to (CI.mono h ?_))
    intro r1 μ1 h
    refine ok_i2l dX5_digest_49 ?_
    refine ok_ladd dX5_digest_50 ?_
    refine ok_lstore_n (ls2 := [(1, vL (((31 : Int64) * x1) + (Int32.toInt64 r1))), (0, vR 5 0 0), (3, vI x3)]) dX5_digest_51 rfl (by decide) rfl ?_
    refine ok_iinc (j := 2) (v := (x3 + 1)) (ls2 := [(3, vI (x3 + 1)), (1, vL (((31 : Int64) * x1) + (Int32.toInt64 r1))), (0, vR 5 0 0)]) dX5_digest_52 rfl rfl (by decide) rfl ?_
    refine ok_goto (tgt := 33) dX5_digest_55 (by decide) ?_
    exact ok_sub [(0, vR 5 0 0), (1, vL (((31 : Int64) * x1) + (Int32.toInt64 r1))), (3, vI (x3 + 1))] [2, 1, 0] rfl h
set_option maxRecDepth 100000 in
set_option maxHeartbeats 4000000 in
theorem rX5_digest_60 {a b : xA} {h0 : Int64} {Q : Int64 → xM → Prop} {x1 : Int64} {x3 : Int32}  (h : (((4 : Int32) ≤ x3 → xOk mX5_digest 104 [(0, vR 5 0 0), (1, vL x1), (3, vI (0 : Int32))] [] (a, (b, h0)) (qL Q)) ∧ (¬ (4 : Int32) ≤ x3 → xOk mX5_digest 68 [(0, vR 5 0 0), (1, vL x1), (3, vI x3), (4, vI (0 : Int32))] [] (a, (b, h0)) (qL Q)))) : xOk mX5_digest 60 [(0, vR 5 0 0), (1, vL x1), (3, vI x3)] [] (a, (b, h0)) (qL Q) := by
  refine ok_iload_n (j := 2) dX5_digest_60 rfl rfl ?_
  refine ok_iconst (v := (4 : Int32)) dX5_digest_61 (by decide) ?_
  refine ok_icmp_ge (tgt := 102) dX5_digest_62 (by decide) ⟨fun z => ?_, fun z => ?_⟩
  · have h := h.1 z
    refine ok_iconst (v := (0 : Int32)) dX5_digest_102 (by decide) ?_
    refine ok_istore_n (ls2 := [(3, vI (0 : Int32)), (0, vR 5 0 0), (1, vL x1)]) dX5_digest_103 rfl (by decide) rfl ?_
    exact ok_sub [(0, vR 5 0 0), (1, vL x1), (3, vI (0 : Int32))] [1, 2, 0] rfl h
  · have h := h.2 z
    refine ok_iconst (v := (0 : Int32)) dX5_digest_65 (by decide) ?_
    refine ok_istore (ls2 := [(4, vI (0 : Int32)), (0, vR 5 0 0), (1, vL x1), (3, vI x3)]) dX5_digest_66 (by decide) rfl ?_
    exact ok_sub [(0, vR 5 0 0), (1, vL x1), (3, vI x3), (4, vI (0 : Int32))] [1, 2, 3, 0] rfl h
set_option maxRecDepth 100000 in
set_option maxHeartbeats 4000000 in
theorem rX5_digest_68 {a b : xA} {h0 : Int64} {Q : Int64 → xM → Prop} {x1 : Int64} {x3 : Int32} {x4 : Int32}  (h : (((8 : Int32) < x4 → xOk mX5_digest 60 [(0, vR 5 0 0), (1, vL x1), (3, vI (x3 + 1))] [] (a, (b, h0)) (qL Q)) ∧ (¬ (8 : Int32) < x4 → (CI mX5_writer [vR 5 0 0, vI x3, vI x4] (a, (b, h0)) (fun r1 μ1 => xOk mX5_digest 68 [(0, vR 5 0 0), (1, vL (((31 : Int64) * x1) + (Int32.toInt64 r1))), (3, vI x3), (4, vI (x4 + 1))] [] μ1 (qL Q)))))) : xOk mX5_digest 68 [(0, vR 5 0 0), (1, vL x1), (3, vI x3), (4, vI x4)] [] (a, (b, h0)) (qL Q) := by
  refine ok_iload (j := 3) dX5_digest_68 rfl ?_
  refine ok_bipush (v := (8 : Int32)) dX5_digest_70 (by decide) ?_
  refine ok_icmp_gt (tgt := 96) dX5_digest_72 (by decide) ⟨fun z => ?_, fun z => ?_⟩
  · have h := h.1 z
    refine ok_iinc (j := 2) (v := (x3 + 1)) (ls2 := [(3, vI (x3 + 1)), (0, vR 5 0 0), (1, vL x1), (4, vI x4)]) dX5_digest_96 rfl rfl (by decide) rfl ?_
    refine ok_goto (tgt := 60) dX5_digest_99 (by decide) ?_
    exact ok_sub [(0, vR 5 0 0), (1, vL x1), (3, vI (x3 + 1))] [1, 2, 0] rfl h
  · have h := h.2 z
    refine ok_ldc2 (v := (31 : Int64)) dX5_digest_75 xw_504 ?_
    refine ok_lload_n (j := 1) dX5_digest_78 rfl rfl ?_
    refine ok_lmul dX5_digest_79 ?_
    refine ok_aload_n (j := 0) dX5_digest_80 rfl rfl ?_
    refine ok_iload_n (j := 2) dX5_digest_81 rfl rfl ?_
    refine ok_iload (j := 3) dX5_digest_82 rfl ?_
    refine ok_callV (M' := mX5_writer) [vI x3, vI x4] dX5_digest_84 xw_507 fV_X5_writer fS_X5_writer rfl (by decide) v5 (ob_5 _ _ _) rfl (Nat.le_of_ble_eq_true rfl) (CI.to (CI.mono h ?_))
    intro r1 μ1 h
    refine ok_i2l dX5_digest_87 ?_
    refine ok_ladd dX5_digest_88 ?_
    refine ok_lstore_n (ls2 := [(1, vL (((31 : Int64) * x1) + (Int32.toInt64 r1))), (0, vR 5 0 0), (3, vI x3), (4, vI x4)]) dX5_digest_89 rfl (by decide) rfl ?_
    refine ok_iinc (j := 3) (v := (x4 + 1)) (ls2 := [(4, vI (x4 + 1)), (1, vL (((31 : Int64) * x1) + (Int32.toInt64 r1))), (0, vR 5 0 0), (3, vI x3)]) dX5_digest_90 rfl rfl (by decide) rfl ?_
    refine ok_goto (tgt := 68) dX5_digest_93 (by decide) ?_
    exact ok_sub [(0, vR 5 0 0), (1, vL (((31 : Int64) * x1) + (Int32.toInt64 r1))), (3, vI x3), (4, vI (x4 + 1))] [2, 1, 3, 0] rfl h
set_option maxRecDepth 100000 in
set_option maxHeartbeats 4000000 in
theorem rX5_digest_104 {a b : xA} {h0 : Int64} {Q : Int64 → xM → Prop} {x1 : Int64} {x3 : Int32}  (h : (((3 : Int32) ≤ x3 → xOk mX5_digest 124 [(0, vR 5 0 0), (1, vL x1), (3, vI (0 : Int32))] [] (a, (b, h0)) (qL Q)) ∧ (¬ (3 : Int32) ≤ x3 → (CL mX5_mixPart [vR 5 0 0, vL x1, vI x3] (a, (b, h0)) (fun r1 μ1 => xOk mX5_digest 104 [(0, vR 5 0 0), (1, vL r1), (3, vI (x3 + 1))] [] μ1 (qL Q)))))) : xOk mX5_digest 104 [(0, vR 5 0 0), (1, vL x1), (3, vI x3)] [] (a, (b, h0)) (qL Q) := by
  refine ok_iload_n (j := 2) dX5_digest_104 rfl rfl ?_
  refine ok_iconst (v := (3 : Int32)) dX5_digest_105 (by decide) ?_
  refine ok_icmp_ge (tgt := 122) dX5_digest_106 (by decide) ⟨fun z => ?_, fun z => ?_⟩
  · have h := h.1 z
    refine ok_iconst (v := (0 : Int32)) dX5_digest_122 (by decide) ?_
    refine ok_istore_n (ls2 := [(3, vI (0 : Int32)), (0, vR 5 0 0), (1, vL x1)]) dX5_digest_123 rfl (by decide) rfl ?_
    exact ok_sub [(0, vR 5 0 0), (1, vL x1), (3, vI (0 : Int32))] [1, 2, 0] rfl h
  · have h := h.2 z
    refine ok_aload_n (j := 0) dX5_digest_109 rfl rfl ?_
    refine ok_lload_n (j := 1) dX5_digest_110 rfl rfl ?_
    refine ok_iload_n (j := 2) dX5_digest_111 rfl rfl ?_
    refine ok_callV (M' := mX5_mixPart) [vL x1, vI x3] dX5_digest_112 xw_508 fV_X5_mixPart fS_X5_mixPart rfl (by decide) v5 (ob_5 _ _ _) rfl (Nat.le_of_ble_eq_true rfl) (CL.to (CL.mono h ?_))
    intro r1 μ1 h
    refine ok_lstore_n (ls2 := [(1, vL r1), (0, vR 5 0 0), (3, vI x3)]) dX5_digest_115 rfl (by decide) rfl ?_
    refine ok_iinc (j := 2) (v := (x3 + 1)) (ls2 := [(3, vI (x3 + 1)), (1, vL r1), (0, vR 5 0 0)]) dX5_digest_116 rfl rfl (by decide) rfl ?_
    refine ok_goto (tgt := 104) dX5_digest_119 (by decide) ?_
    exact ok_sub [(0, vR 5 0 0), (1, vL r1), (3, vI (x3 + 1))] [2, 1, 0] rfl h
set_option maxRecDepth 100000 in
set_option maxHeartbeats 4000000 in
theorem rX5_digest_124 {a b : xA} {h0 : Int64} {Q : Int64 → xM → Prop} {x1 : Int64} {x3 : Int32}  (h : (((2 : Int32) ≤ x3 → Q x1 (a, (b, h0))) ∧ (¬ (2 : Int32) ≤ x3 → (CL mX5_mixReader [vR 5 0 0, vL x1, vI x3] (a, (b, h0)) (fun r1 μ1 => xOk mX5_digest 124 [(0, vR 5 0 0), (1, vL r1), (3, vI (x3 + 1))] [] μ1 (qL Q)))))) : xOk mX5_digest 124 [(0, vR 5 0 0), (1, vL x1), (3, vI x3)] [] (a, (b, h0)) (qL Q) := by
  refine ok_iload_n (j := 2) dX5_digest_124 rfl rfl ?_
  refine ok_iconst (v := (2 : Int32)) dX5_digest_125 (by decide) ?_
  refine ok_icmp_ge (tgt := 142) dX5_digest_126 (by decide) ⟨fun z => ?_, fun z => ?_⟩
  · have h := h.1 z
    refine ok_lload_n (j := 1) dX5_digest_142 rfl rfl ?_
    exact ok_lret rfl dX5_digest_143 ⟨_, rfl, h⟩
  · have h := h.2 z
    refine ok_aload_n (j := 0) dX5_digest_129 rfl rfl ?_
    refine ok_lload_n (j := 1) dX5_digest_130 rfl rfl ?_
    refine ok_iload_n (j := 2) dX5_digest_131 rfl rfl ?_
    refine ok_callV (M' := mX5_mixReader) [vL x1, vI x3] dX5_digest_132 xw_515 fV_X5_mixReader fS_X5_mixReader rfl (by decide) v5 (ob_5 _ _ _) rfl (Nat.le_of_ble_eq_true rfl) (CL.to (CL.mono h ?_))
    intro r1 μ1 h
    refine ok_lstore_n (ls2 := [(1, vL r1), (0, vR 5 0 0), (3, vI x3)]) dX5_digest_135 rfl (by decide) rfl ?_
    refine ok_iinc (j := 2) (v := (x3 + 1)) (ls2 := [(3, vI (x3 + 1)), (1, vL r1), (0, vR 5 0 0)]) dX5_digest_136 rfl rfl (by decide) rfl ?_
    refine ok_goto (tgt := 124) dX5_digest_139 (by decide) ?_
    exact ok_sub [(0, vR 5 0 0), (1, vL r1), (3, vI (x3 + 1))] [2, 1, 0] rfl h
set_option maxRecDepth 100000 in
set_option maxHeartbeats 4000000 in
theorem eX5_mixPart {a b : xA} {h0 : Int64} {Q : Int64 → xM → Prop} {x1 : Int64} {x3 : Int32}  (h : xOk mX5_mixPart 6 [(0, vR 5 0 0), (3, vI x3), (4, vL x1), (6, vI (0 : Int32))] [] (a, (b, h0)) (qL Q)) : CL mX5_mixPart [vR 5 0 0, vL x1, vI x3] (a, (b, h0)) Q := by
  refine xCalls_of (by decide) (Nat.le_of_ble_eq_true rfl) ?_
  show xOk mX5_mixPart 0 [(0, vR 5 0 0), (1, vL x1), (3, vI x3)] [] (a, (b, h0)) (qL Q)
  refine ok_lload_n (j := 1) dX5_mixPart_0 rfl rfl ?_
  refine ok_lstore (ls2 := [(4, vL x1), (0, vR 5 0 0), (1, vL x1), (3, vI x3)]) dX5_mixPart_1 (by decide) rfl ?_
  refine ok_iconst (v := (0 : Int32)) dX5_mixPart_3 (by decide) ?_
  refine ok_istore (ls2 := [(6, vI (0 : Int32)), (4, vL x1), (0, vR 5 0 0), (1, vL x1), (3, vI x3)]) dX5_mixPart_4 (by decide) rfl ?_
  exact ok_sub [(0, vR 5 0 0), (3, vI x3), (4, vL x1), (6, vI (0 : Int32))] [2, 4, 1, 0] rfl h
set_option maxRecDepth 100000 in
set_option maxHeartbeats 4000000 in
theorem rX5_mixPart_6 {a b : xA} {h0 : Int64} {Q : Int64 → xM → Prop} {x3 : Int32} {x4 : Int64} {x6 : Int32}  (h : (((5 : Int32) < x6 → xOk mX5_mixPart 38 [(0, vR 5 0 0), (3, vI x3), (4, vL x4), (6, vI (0 : Int32))] [] (a, (b, h0)) (qL Q)) ∧ (¬ (5 : Int32) < x6 → (CI mX5_part [vR 5 0 0, vI x3, vI x6] (a, (b, h0)) (fun r1 μ1 => xOk mX5_mixPart 6 [(0, vR 5 0 0), (3, vI x3), (4, vL (((31 : Int64) * x4) + (Int32.toInt64 r1))), (6, vI (x6 + 1))] [] μ1 (qL Q)))))) : xOk mX5_mixPart 6 [(0, vR 5 0 0), (3, vI x3), (4, vL x4), (6, vI x6)] [] (a, (b, h0)) (qL Q) := by
  refine ok_iload (j := 3) dX5_mixPart_6 rfl ?_
  refine ok_iconst (v := (5 : Int32)) dX5_mixPart_8 (by decide) ?_
  refine ok_icmp_gt (tgt := 35) dX5_mixPart_9 (by decide) ⟨fun z => ?_, fun z => ?_⟩
  · have h := h.1 z
    refine ok_iconst (v := (0 : Int32)) dX5_mixPart_35 (by decide) ?_
    refine ok_istore (ls2 := [(6, vI (0 : Int32)), (0, vR 5 0 0), (3, vI x3), (4, vL x4)]) dX5_mixPart_36 (by decide) rfl ?_
    exact ok_sub [(0, vR 5 0 0), (3, vI x3), (4, vL x4), (6, vI (0 : Int32))] [1, 2, 3, 0] rfl h
  · have h := h.2 z
    refine ok_ldc2 (v := (31 : Int64)) dX5_mixPart_12 xw_504 ?_
    refine ok_lload (j := 2) dX5_mixPart_15 rfl ?_
    refine ok_lmul dX5_mixPart_17 ?_
    refine ok_aload_n (j := 0) dX5_mixPart_18 rfl rfl ?_
    refine ok_iload_n (j := 1) dX5_mixPart_19 rfl rfl ?_
    refine ok_iload (j := 3) dX5_mixPart_20 rfl ?_
    refine ok_callV (M' := mX5_part) [vI x3, vI x6] dX5_mixPart_22 xw_512 fV_X5_part fS_X5_part rfl (by decide) v5 (ob_5 _ _ _) rfl (Nat.le_of_ble_eq_true rfl) (CI.to (CI.mono h ?_))
    intro r1 μ1 h
    refine ok_i2l dX5_mixPart_25 ?_
    refine ok_ladd dX5_mixPart_26 ?_
    refine ok_lstore (ls2 := [(4, vL (((31 : Int64) * x4) + (Int32.toInt64 r1))), (0, vR 5 0 0), (3, vI x3), (6, vI x6)]) dX5_mixPart_27 (by decide) rfl ?_
    refine ok_iinc (j := 3) (v := (x6 + 1)) (ls2 := [(6, vI (x6 + 1)), (4, vL (((31 : Int64) * x4) + (Int32.toInt64 r1))), (0, vR 5 0 0), (3, vI x3)]) dX5_mixPart_29 rfl rfl (by decide) rfl ?_
    refine ok_goto (tgt := 6) dX5_mixPart_32 (by decide) ?_
    exact ok_sub [(0, vR 5 0 0), (3, vI x3), (4, vL (((31 : Int64) * x4) + (Int32.toInt64 r1))), (6, vI (x6 + 1))] [2, 3, 1, 0] rfl h
set_option maxRecDepth 100000 in
set_option maxHeartbeats 4000000 in
theorem rX5_mixPart_38 {a b : xA} {h0 : Int64} {Q : Int64 → xM → Prop} {x3 : Int32} {x4 : Int64} {x6 : Int32}  (h : (vp_in x3 3 ∧ (((a 1 0 (Int32.toNatClampNeg x3) 0) ≤ x6 → (vp_in x3 3 ∧ (CI mX1_abortedDeeds [vR 1 0 (Int32.toNatClampNeg x3)] (a, (b, h0)) (fun r3 μ3 => xOk mX5_mixPart 107 [(0, vR 5 0 0), (3, vI x3), (4, vL x4), (6, vI r3), (7, vI (0 : Int32))] [] μ3 (qL Q))))) ∧ (¬ (a 1 0 (Int32.toNatClampNeg x3) 0) ≤ x6 → xOk mX5_mixPart 55 [(0, vR 5 0 0), (3, vI x3), (4, vL x4), (6, vI x6), (7, vI (0 : Int32))] [] (a, (b, h0)) (qL Q))))) : xOk mX5_mixPart 38 [(0, vR 5 0 0), (3, vI x3), (4, vL x4), (6, vI x6)] [] (a, (b, h0)) (qL Q) := by
  refine ok_iload (j := 3) dX5_mixPart_38 rfl ?_
  refine ok_aload_n (j := 0) dX5_mixPart_40 rfl rfl ?_
  refine gf_5_0 dX5_mixPart_41 v5 xw_173 ?_
  refine ok_iload_n (j := 1) dX5_mixPart_44 rfl rfl ?_
  obtain ⟨hb1, h⟩ := h
  refine aa_40 dX5_mixPart_45 v40 hb1 ?_
  refine gf_1_0 dX5_mixPart_46 (v1 (vp_lt hb1)) xw_146 ?_
  refine ok_icmp_ge (tgt := 93) dX5_mixPart_49 (by decide) ⟨fun z => ?_, fun z => ?_⟩
  · have h := h.1 z
    refine ok_aload_n (j := 0) dX5_mixPart_93 rfl rfl ?_
    refine gf_5_0 dX5_mixPart_94 v5 xw_173 ?_
    refine ok_iload_n (j := 1) dX5_mixPart_97 rfl rfl ?_
    obtain ⟨hb2, h⟩ := h
    refine aa_40 dX5_mixPart_98 v40 hb2 ?_
    refine ok_callV (M' := mX1_abortedDeeds) [] dX5_mixPart_99 xw_377 fV_X1_abortedDeeds fS_X1_abortedDeeds rfl (by decide) (v1 (vp_lt hb2)) (ob_1 _ _ _) rfl (Nat.le_of_ble_eq_true rfl) (CI.to (CI.mono h ?_))
    intro r3 μ3 h
    refine ok_istore (ls2 := [(6, vI r3), (0, vR 5 0 0), (3, vI x3), (4, vL x4)]) dX5_mixPart_102 (by decide) rfl ?_
    refine ok_iconst (v := (0 : Int32)) dX5_mixPart_104 (by decide) ?_
    refine ok_istore (ls2 := [(7, vI (0 : Int32)), (6, vI r3), (0, vR 5 0 0), (3, vI x3), (4, vL x4)]) dX5_mixPart_105 (by decide) rfl ?_
    exact ok_sub [(0, vR 5 0 0), (3, vI x3), (4, vL x4), (6, vI r3), (7, vI (0 : Int32))] [2, 3, 4, 1, 0] rfl h
  · have h := h.2 z
    refine ok_iconst (v := (0 : Int32)) dX5_mixPart_52 (by decide) ?_
    refine ok_istore (ls2 := [(7, vI (0 : Int32)), (0, vR 5 0 0), (3, vI x3), (4, vL x4), (6, vI x6)]) dX5_mixPart_53 (by decide) rfl ?_
    exact ok_sub [(0, vR 5 0 0), (3, vI x3), (4, vL x4), (6, vI x6), (7, vI (0 : Int32))] [1, 2, 3, 4, 0] rfl h
set_option maxRecDepth 100000 in
set_option maxHeartbeats 4000000 in
theorem rX5_mixPart_55 {a b : xA} {h0 : Int64} {Q : Int64 → xM → Prop} {x3 : Int32} {x4 : Int64} {x6 : Int32} {x7 : Int32}  (h : (((6 : Int32) < x7 → xOk mX5_mixPart 38 [(0, vR 5 0 0), (3, vI x3), (4, vL x4), (6, vI (x6 + 1))] [] (a, (b, h0)) (qL Q)) ∧ (¬ (6 : Int32) < x7 → (CI mX5_entry [vR 5 0 0, vI x3, vI x6, vI x7] (a, (b, h0)) (fun r1 μ1 => xOk mX5_mixPart 55 [(0, vR 5 0 0), (3, vI x3), (4, vL (((31 : Int64) * x4) + (Int32.toInt64 r1))), (6, vI x6), (7, vI (x7 + 1))] [] μ1 (qL Q)))))) : xOk mX5_mixPart 55 [(0, vR 5 0 0), (3, vI x3), (4, vL x4), (6, vI x6), (7, vI x7)] [] (a, (b, h0)) (qL Q) := by
  refine ok_iload (j := 4) dX5_mixPart_55 rfl ?_
  refine ok_bipush (v := (6 : Int32)) dX5_mixPart_57 (by decide) ?_
  refine ok_icmp_gt (tgt := 87) dX5_mixPart_59 (by decide) ⟨fun z => ?_, fun z => ?_⟩
  · have h := h.1 z
    refine ok_iinc (j := 3) (v := (x6 + 1)) (ls2 := [(6, vI (x6 + 1)), (0, vR 5 0 0), (3, vI x3), (4, vL x4), (7, vI x7)]) dX5_mixPart_87 rfl rfl (by decide) rfl ?_
    refine ok_goto (tgt := 38) dX5_mixPart_90 (by decide) ?_
    exact ok_sub [(0, vR 5 0 0), (3, vI x3), (4, vL x4), (6, vI (x6 + 1))] [1, 2, 3, 0] rfl h
  · have h := h.2 z
    refine ok_ldc2 (v := (31 : Int64)) dX5_mixPart_62 xw_504 ?_
    refine ok_lload (j := 2) dX5_mixPart_65 rfl ?_
    refine ok_lmul dX5_mixPart_67 ?_
    refine ok_aload_n (j := 0) dX5_mixPart_68 rfl rfl ?_
    refine ok_iload_n (j := 1) dX5_mixPart_69 rfl rfl ?_
    refine ok_iload (j := 3) dX5_mixPart_70 rfl ?_
    refine ok_iload (j := 4) dX5_mixPart_72 rfl ?_
    refine ok_callV (M' := mX5_entry) [vI x3, vI x6, vI x7] dX5_mixPart_74 xw_513 fV_X5_entry fS_X5_entry rfl (by decide) v5 (ob_5 _ _ _) rfl (Nat.le_of_ble_eq_true rfl) (CI.to (CI.mono h ?_))
    intro r1 μ1 h
    refine ok_i2l dX5_mixPart_77 ?_
    refine ok_ladd dX5_mixPart_78 ?_
    refine ok_lstore (ls2 := [(4, vL (((31 : Int64) * x4) + (Int32.toInt64 r1))), (0, vR 5 0 0), (3, vI x3), (6, vI x6), (7, vI x7)]) dX5_mixPart_79 (by decide) rfl ?_
    refine ok_iinc (j := 4) (v := (x7 + 1)) (ls2 := [(7, vI (x7 + 1)), (4, vL (((31 : Int64) * x4) + (Int32.toInt64 r1))), (0, vR 5 0 0), (3, vI x3), (6, vI x6)]) dX5_mixPart_81 rfl rfl (by decide) rfl ?_
    refine ok_goto (tgt := 55) dX5_mixPart_84 (by decide) ?_
    exact ok_sub [(0, vR 5 0 0), (3, vI x3), (4, vL (((31 : Int64) * x4) + (Int32.toInt64 r1))), (6, vI x6), (7, vI (x7 + 1))] [2, 3, 1, 4, 0] rfl h
set_option maxRecDepth 100000 in
set_option maxHeartbeats 4000000 in
theorem rX5_mixPart_107 {a b : xA} {h0 : Int64} {Q : Int64 → xM → Prop} {x3 : Int32} {x4 : Int64} {x6 : Int32} {x7 : Int32}  (h : ((x6 ≤ x7 → Q x4 (a, (b, h0))) ∧ (¬ x6 ≤ x7 → xOk mX5_mixPart 117 [(0, vR 5 0 0), (3, vI x3), (4, vL x4), (6, vI x6), (7, vI x7), (8, vI (0 : Int32))] [] (a, (b, h0)) (qL Q)))) : xOk mX5_mixPart 107 [(0, vR 5 0 0), (3, vI x3), (4, vL x4), (6, vI x6), (7, vI x7)] [] (a, (b, h0)) (qL Q) := by
  refine ok_iload (j := 4) dX5_mixPart_107 rfl ?_
  refine ok_iload (j := 3) dX5_mixPart_109 rfl ?_
  refine ok_icmp_ge (tgt := 154) dX5_mixPart_111 (by decide) ⟨fun z => ?_, fun z => ?_⟩
  · have h := h.1 z
    refine ok_lload (j := 2) dX5_mixPart_154 rfl ?_
    exact ok_lret rfl dX5_mixPart_156 ⟨_, rfl, h⟩
  · have h := h.2 z
    refine ok_iconst (v := (0 : Int32)) dX5_mixPart_114 (by decide) ?_
    refine ok_istore (ls2 := [(8, vI (0 : Int32)), (0, vR 5 0 0), (3, vI x3), (4, vL x4), (6, vI x6), (7, vI x7)]) dX5_mixPart_115 (by decide) rfl ?_
    exact ok_sub [(0, vR 5 0 0), (3, vI x3), (4, vL x4), (6, vI x6), (7, vI x7), (8, vI (0 : Int32))] [1, 2, 3, 4, 5, 0] rfl h
set_option maxRecDepth 100000 in
set_option maxHeartbeats 4000000 in
theorem rX5_mixPart_117 {a b : xA} {h0 : Int64} {Q : Int64 → xM → Prop} {x3 : Int32} {x4 : Int64} {x6 : Int32} {x7 : Int32} {x8 : Int32}  (h : (((2 : Int32) < x8 → xOk mX5_mixPart 107 [(0, vR 5 0 0), (3, vI x3), (4, vL x4), (6, vI x6), (7, vI (x7 + 1))] [] (a, (b, h0)) (qL Q)) ∧ (¬ (2 : Int32) < x8 → (CI mX5_aborted [vR 5 0 0, vI x3, vI x7, vI x8] (a, (b, h0)) (fun r1 μ1 => xOk mX5_mixPart 117 [(0, vR 5 0 0), (3, vI x3), (4, vL (((31 : Int64) * x4) + (Int32.toInt64 r1))), (6, vI x6), (7, vI x7), (8, vI (x8 + 1))] [] μ1 (qL Q)))))) : xOk mX5_mixPart 117 [(0, vR 5 0 0), (3, vI x3), (4, vL x4), (6, vI x6), (7, vI x7), (8, vI x8)] [] (a, (b, h0)) (qL Q) := by
  refine ok_iload (j := 5) dX5_mixPart_117 rfl ?_
  refine ok_iconst (v := (2 : Int32)) dX5_mixPart_119 (by decide) ?_
  refine ok_icmp_gt (tgt := 148) dX5_mixPart_120 (by decide) ⟨fun z => ?_, fun z => ?_⟩
  · have h := h.1 z
    refine ok_iinc (j := 4) (v := (x7 + 1)) (ls2 := [(7, vI (x7 + 1)), (0, vR 5 0 0), (3, vI x3), (4, vL x4), (6, vI x6), (8, vI x8)]) dX5_mixPart_148 rfl rfl (by decide) rfl ?_
    refine ok_goto (tgt := 107) dX5_mixPart_151 (by decide) ?_
    exact ok_sub [(0, vR 5 0 0), (3, vI x3), (4, vL x4), (6, vI x6), (7, vI (x7 + 1))] [1, 2, 3, 4, 0] rfl h
  · have h := h.2 z
    refine ok_ldc2 (v := (31 : Int64)) dX5_mixPart_123 xw_504 ?_
    refine ok_lload (j := 2) dX5_mixPart_126 rfl ?_
    refine ok_lmul dX5_mixPart_128 ?_
    refine ok_aload_n (j := 0) dX5_mixPart_129 rfl rfl ?_
    refine ok_iload_n (j := 1) dX5_mixPart_130 rfl rfl ?_
    refine ok_iload (j := 4) dX5_mixPart_131 rfl ?_
    refine ok_iload (j := 5) dX5_mixPart_133 rfl ?_
    refine ok_callV (M' := mX5_aborted) [vI x3, vI x7, vI x8] dX5_mixPart_135 xw_514 fV_X5_aborted fS_X5_aborted rfl (by decide) v5 (ob_5 _ _ _) rfl (Nat.le_of_ble_eq_true rfl) (CI.to (CI.mono h ?_))
    intro r1 μ1 h
    refine ok_i2l dX5_mixPart_138 ?_
    refine ok_ladd dX5_mixPart_139 ?_
    refine ok_lstore (ls2 := [(4, vL (((31 : Int64) * x4) + (Int32.toInt64 r1))), (0, vR 5 0 0), (3, vI x3), (6, vI x6), (7, vI x7), (8, vI x8)]) dX5_mixPart_140 (by decide) rfl ?_
    refine ok_iinc (j := 5) (v := (x8 + 1)) (ls2 := [(8, vI (x8 + 1)), (4, vL (((31 : Int64) * x4) + (Int32.toInt64 r1))), (0, vR 5 0 0), (3, vI x3), (6, vI x6), (7, vI x7)]) dX5_mixPart_142 rfl rfl (by decide) rfl ?_
    refine ok_goto (tgt := 117) dX5_mixPart_145 (by decide) ?_
    exact ok_sub [(0, vR 5 0 0), (3, vI x3), (4, vL (((31 : Int64) * x4) + (Int32.toInt64 r1))), (6, vI x6), (7, vI x7), (8, vI (x8 + 1))] [2, 3, 1, 4, 5, 0] rfl h
set_option maxRecDepth 100000 in
set_option maxHeartbeats 4000000 in
theorem eX5_mixReader {a b : xA} {h0 : Int64} {Q : Int64 → xM → Prop} {x1 : Int64} {x3 : Int32}  (h : xOk mX5_mixReader 6 [(0, vR 5 0 0), (3, vI x3), (4, vL x1), (6, vI (0 : Int32))] [] (a, (b, h0)) (qL Q)) : CL mX5_mixReader [vR 5 0 0, vL x1, vI x3] (a, (b, h0)) Q := by
  refine xCalls_of (by decide) (Nat.le_of_ble_eq_true rfl) ?_
  show xOk mX5_mixReader 0 [(0, vR 5 0 0), (1, vL x1), (3, vI x3)] [] (a, (b, h0)) (qL Q)
  refine ok_lload_n (j := 1) dX5_mixReader_0 rfl rfl ?_
  refine ok_lstore (ls2 := [(4, vL x1), (0, vR 5 0 0), (1, vL x1), (3, vI x3)]) dX5_mixReader_1 (by decide) rfl ?_
  refine ok_iconst (v := (0 : Int32)) dX5_mixReader_3 (by decide) ?_
  refine ok_istore (ls2 := [(6, vI (0 : Int32)), (4, vL x1), (0, vR 5 0 0), (1, vL x1), (3, vI x3)]) dX5_mixReader_4 (by decide) rfl ?_
  exact ok_sub [(0, vR 5 0 0), (3, vI x3), (4, vL x1), (6, vI (0 : Int32))] [2, 4, 1, 0] rfl h
set_option maxRecDepth 100000 in
set_option maxHeartbeats 4000000 in
theorem rX5_mixReader_6 {a b : xA} {h0 : Int64} {Q : Int64 → xM → Prop} {x3 : Int32} {x4 : Int64} {x6 : Int32}  (h : (((3 : Int32) ≤ x6 → Q x4 (a, (b, h0))) ∧ (¬ (3 : Int32) ≤ x6 → xOk mX5_mixReader 15 [(0, vR 5 0 0), (3, vI x3), (4, vL x4), (6, vI x6), (7, vI (0 : Int32))] [] (a, (b, h0)) (qL Q)))) : xOk mX5_mixReader 6 [(0, vR 5 0 0), (3, vI x3), (4, vL x4), (6, vI x6)] [] (a, (b, h0)) (qL Q) := by
  refine ok_iload (j := 3) dX5_mixReader_6 rfl ?_
  refine ok_iconst (v := (3 : Int32)) dX5_mixReader_8 (by decide) ?_
  refine ok_icmp_ge (tgt := 52) dX5_mixReader_9 (by decide) ⟨fun z => ?_, fun z => ?_⟩
  · have h := h.1 z
    refine ok_lload (j := 2) dX5_mixReader_52 rfl ?_
    exact ok_lret rfl dX5_mixReader_54 ⟨_, rfl, h⟩
  · have h := h.2 z
    refine ok_iconst (v := (0 : Int32)) dX5_mixReader_12 (by decide) ?_
    refine ok_istore (ls2 := [(7, vI (0 : Int32)), (0, vR 5 0 0), (3, vI x3), (4, vL x4), (6, vI x6)]) dX5_mixReader_13 (by decide) rfl ?_
    exact ok_sub [(0, vR 5 0 0), (3, vI x3), (4, vL x4), (6, vI x6), (7, vI (0 : Int32))] [1, 2, 3, 4, 0] rfl h
set_option maxRecDepth 100000 in
set_option maxHeartbeats 4000000 in
theorem rX5_mixReader_15 {a b : xA} {h0 : Int64} {Q : Int64 → xM → Prop} {x3 : Int32} {x4 : Int64} {x6 : Int32} {x7 : Int32}  (h : (((3 : Int32) < x7 → xOk mX5_mixReader 6 [(0, vR 5 0 0), (3, vI x3), (4, vL x4), (6, vI (x6 + 1))] [] (a, (b, h0)) (qL Q)) ∧ (¬ (3 : Int32) < x7 → (CI mX5_reader [vR 5 0 0, vI x3, vI x6, vI x7] (a, (b, h0)) (fun r1 μ1 => xOk mX5_mixReader 15 [(0, vR 5 0 0), (3, vI x3), (4, vL (((31 : Int64) * x4) + (Int32.toInt64 r1))), (6, vI x6), (7, vI (x7 + 1))] [] μ1 (qL Q)))))) : xOk mX5_mixReader 15 [(0, vR 5 0 0), (3, vI x3), (4, vL x4), (6, vI x6), (7, vI x7)] [] (a, (b, h0)) (qL Q) := by
  refine ok_iload (j := 4) dX5_mixReader_15 rfl ?_
  refine ok_iconst (v := (3 : Int32)) dX5_mixReader_17 (by decide) ?_
  refine ok_icmp_gt (tgt := 46) dX5_mixReader_18 (by decide) ⟨fun z => ?_, fun z => ?_⟩
  · have h := h.1 z
    refine ok_iinc (j := 3) (v := (x6 + 1)) (ls2 := [(6, vI (x6 + 1)), (0, vR 5 0 0), (3, vI x3), (4, vL x4), (7, vI x7)]) dX5_mixReader_46 rfl rfl (by decide) rfl ?_
    refine ok_goto (tgt := 6) dX5_mixReader_49 (by decide) ?_
    exact ok_sub [(0, vR 5 0 0), (3, vI x3), (4, vL x4), (6, vI (x6 + 1))] [1, 2, 3, 0] rfl h
  · have h := h.2 z
    refine ok_ldc2 (v := (31 : Int64)) dX5_mixReader_21 xw_504 ?_
    refine ok_lload (j := 2) dX5_mixReader_24 rfl ?_
    refine ok_lmul dX5_mixReader_26 ?_
    refine ok_aload_n (j := 0) dX5_mixReader_27 rfl rfl ?_
    refine ok_iload_n (j := 1) dX5_mixReader_28 rfl rfl ?_
    refine ok_iload (j := 3) dX5_mixReader_29 rfl ?_
    refine ok_iload (j := 4) dX5_mixReader_31 rfl ?_
    refine ok_callV (M' := mX5_reader) [vI x3, vI x6, vI x7] dX5_mixReader_33 xw_519 fV_X5_reader fS_X5_reader rfl (by decide) v5 (ob_5 _ _ _) rfl (Nat.le_of_ble_eq_true rfl) (CI.to (CI.mono h ?_))
    intro r1 μ1 h
    refine ok_i2l dX5_mixReader_36 ?_
    refine ok_ladd dX5_mixReader_37 ?_
    refine ok_lstore (ls2 := [(4, vL (((31 : Int64) * x4) + (Int32.toInt64 r1))), (0, vR 5 0 0), (3, vI x3), (6, vI x6), (7, vI x7)]) dX5_mixReader_38 (by decide) rfl ?_
    refine ok_iinc (j := 4) (v := (x7 + 1)) (ls2 := [(7, vI (x7 + 1)), (4, vL (((31 : Int64) * x4) + (Int32.toInt64 r1))), (0, vR 5 0 0), (3, vI x3), (6, vI x6)]) dX5_mixReader_40 rfl rfl (by decide) rfl ?_
    refine ok_goto (tgt := 15) dX5_mixReader_43 (by decide) ?_
    exact ok_sub [(0, vR 5 0 0), (3, vI x3), (4, vL (((31 : Int64) * x4) + (Int32.toInt64 r1))), (6, vI x6), (7, vI (x7 + 1))] [2, 3, 1, 4, 0] rfl h
