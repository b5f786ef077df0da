set_option maxRecDepth 100000 in
set_option maxHeartbeats 4000000 in
theorem eX5_begins {a b : xA} {h0 : Int64} {Q : Int32 → xM → Prop} {x1 : Int32}  (h : (CI mX5_outside [vI x1, vI (4 : Int32)] (a, (b, h0)) (fun r1 μ1 => ((r1 = 0 → (vp_in x1 4 ∧ ((¬ (μ1.1 2 0 (Int32.toNatClampNeg x1) 1) = (2 : Int32) → (((μ1.1 2 0 (Int32.toNatClampNeg x1) 0) < (99 : Int32) → (CV mX5_keep [vR 5 0 0] μ1 (fun μ3 => ((¬ ((xUp μ3.1 2 0 (Int32.toNatClampNeg x1) 0 ((μ3.1 2 0 (Int32.toNatClampNeg x1) 0) + (1 : Int32))) 2 0 (Int32.toNatClampNeg x1) 1) = (1 : Int32) → Q ((xUp μ3.1 2 0 (Int32.toNatClampNeg x1) 0 ((μ3.1 2 0 (Int32.toNatClampNeg x1) 0) + (1 : Int32))) 2 0 (Int32.toNatClampNeg x1) 0) ((xUp μ3.1 2 0 (Int32.toNatClampNeg x1) 0 ((μ3.1 2 0 (Int32.toNatClampNeg x1) 0) + (1 : Int32))), μ3.2)) ∧ (((xUp μ3.1 2 0 (Int32.toNatClampNeg x1) 0 ((μ3.1 2 0 (Int32.toNatClampNeg x1) 0) + (1 : Int32))) 2 0 (Int32.toNatClampNeg x1) 1) = (1 : Int32) → (CI mX5_endDeed [vR 5 0 0, vR 2 0 (Int32.toNatClampNeg x1), vI (0 : Int32)] ((xUp μ3.1 2 0 (Int32.toNatClampNeg x1) 0 ((μ3.1 2 0 (Int32.toNatClampNeg x1) 0) + (1 : Int32))), μ3.2) (fun r4 μ4 => Q (μ4.1 2 0 (Int32.toNatClampNeg x1) 0) μ4))))))) ∧ (¬ (μ1.1 2 0 (Int32.toNatClampNeg x1) 0) < (99 : Int32) → (CI mX5_failed [vR 5 0 0, vI (-4 : Int32)] μ1 (fun r5 μ5 => Q r5 μ5))))) ∧ ((μ1.1 2 0 (Int32.toNatClampNeg x1) 1) = (2 : Int32) → (CI mX5_failed [vR 5 0 0, vI (-3 : Int32)] μ1 (fun r6 μ6 => Q r6 μ6)))))) ∧ (¬ r1 = 0 → (CI mX5_failed [vR 5 0 0, vI (-2 : Int32)] μ1 (fun r7 μ7 => Q r7 μ7))))))) : CI mX5_begins [vR 5 0 0, vI x1] (a, (b, h0)) Q := by
  refine xCalls_of (by decide) (Nat.le_of_ble_eq_true rfl) ?_
  show xOk mX5_begins 0 [(0, vR 5 0 0), (1, vI x1)] [] (a, (b, h0)) (qI Q)
  refine ok_iload_n (j := 1) dX5_begins_0 rfl rfl ?_
  refine ok_iconst (v := (4 : Int32)) dX5_begins_1 (by decide) ?_
  refine ok_callS (M' := mX5_outside) [vI x1, vI (4 : Int32)] dX5_begins_2 xw_205 fV_X5_outside fS_X5_outside (by decide) rfl (Nat.le_of_ble_eq_true rfl) (CI.to (CI.mono h ?_))
  intro r1 μ1 h
  refine ok_if_eq (tgt := 15) dX5_begins_5 (by decide) ⟨fun z => ?_, fun z => ?_⟩
  · have h := h.1 z
    refine ok_aload_n (j := 0) dX5_begins_15 rfl rfl ?_
    refine gf_5_1 dX5_begins_16 v5 xw_174 ?_
    refine gf_4_3 dX5_begins_19 (v4 (by decide)) xw_86 ?_
    refine ok_iload_n (j := 1) dX5_begins_22 rfl rfl ?_
    obtain ⟨hb2, h⟩ := h
    refine aa_42 dX5_begins_23 (v42 (by decide)) hb2 ?_
    refine ok_astore_n (ls2 := [(2, vR 2 0 (Int32.toNatClampNeg x1)), (0, vR 5 0 0), (1, vI x1)]) dX5_begins_24 rfl (by decide) rfl ?_
    refine ok_aload_n (j := 0) dX5_begins_25 rfl rfl ?_
    refine gf_2_1 dX5_begins_26 (v2 (by decide) (vp_lt hb2)) xw_38 ?_
    refine ok_iconst (v := (2 : Int32)) dX5_begins_29 (by decide) ?_
    refine ok_icmp_ne (tgt := 40) dX5_begins_30 (by decide) ⟨fun z => ?_, fun z => ?_⟩
    · have h := h.1 z
      refine ok_aload_n (j := 0) dX5_begins_40 rfl rfl ?_
      refine gf_2_0 dX5_begins_41 (v2 (by decide) (vp_lt hb2)) xw_36 ?_
      refine ok_bipush (v := (99 : Int32)) dX5_begins_44 (by decide) ?_
      refine ok_icmp_lt (tgt := 56) dX5_begins_46 (by decide) ⟨fun z => ?_, fun z => ?_⟩
      · have h := h.1 z
        refine ok_aload_n (j := 1) dX5_begins_56 rfl rfl ?_
        refine ok_callV (M' := mX5_keep) [] dX5_begins_57 xw_212 fV_X5_keep fS_X5_keep rfl (by decide) v5 (ob_5 _ _ _) rfl (Nat.le_of_ble_eq_true rfl) (CV.to (CV.mono h ?_))
        intro μ3 h
        refine ok_aload_n (j := 0) dX5_begins_60 rfl rfl ?_
        refine ok_dup dX5_begins_61 rfl ?_
        refine gf_2_0 dX5_begins_62 (v2 (by decide) (vp_lt hb2)) xw_36 ?_
        refine ok_iconst (v := (1 : Int32)) dX5_begins_65 (by decide) ?_
        refine ok_iadd dX5_begins_66 ?_
        refine pf_2_0 dX5_begins_67 (v2 (by decide) (vp_lt hb2)) xw_36 ?_
        refine ok_aload_n (j := 0) dX5_begins_70 rfl rfl ?_
        refine gf_2_1 dX5_begins_71 (v2 (by decide) (vp_lt hb2)) xw_38 ?_
        refine ok_iconst (v := (1 : Int32)) dX5_begins_74 (by decide) ?_
        refine ok_icmp_ne (tgt := 85) dX5_begins_75 (by decide) ⟨fun z => ?_, fun z => ?_⟩
        · have h := h.1 z
          refine ok_aload_n (j := 0) dX5_begins_85 rfl rfl ?_
          refine gf_2_0 dX5_begins_86 (v2 (by decide) (vp_lt hb2)) xw_36 ?_
          exact ok_iret rfl dX5_begins_89 ⟨_, rfl, h⟩
        · have h := h.2 z
          refine ok_aload_n (j := 1) dX5_begins_78 rfl rfl ?_
          refine ok_aload_n (j := 0) dX5_begins_79 rfl rfl ?_
          refine ok_iconst (v := (0 : Int32)) dX5_begins_80 (by decide) ?_
          refine ok_callV (M' := mX5_endDeed) [vR 2 0 (Int32.toNatClampNeg x1), vI (0 : Int32)] dX5_begins_81 xw_236 fV_X5_endDeed fS_X5_endDeed rfl (by decide) v5 (ob_5 _ _ _) rfl (Nat.le_of_ble_eq_true rfl) (CI.to (CI.mono h ?_))
          intro r4 μ4 h
          refine ok_pop dX5_begins_84 rfl ?_
          refine ok_aload_n (j := 0) dX5_begins_85 rfl rfl ?_
          refine gf_2_0 dX5_begins_86 (v2 (by decide) (vp_lt hb2)) xw_36 ?_
          exact ok_iret rfl dX5_begins_89 ⟨_, rfl, h⟩
      · have h := h.2 z
        refine ok_aload_n (j := 1) dX5_begins_49 rfl rfl ?_
        refine ok_bipush (v := (-4 : Int32)) dX5_begins_50 (by decide) ?_
        refine ok_callV (M' := mX5_failed) [vI (-4 : Int32)] dX5_begins_52 xw_208 fV_X5_failed fS_X5_failed rfl (by decide) v5 (ob_5 _ _ _) rfl (Nat.le_of_ble_eq_true rfl) (CI.to (CI.mono h ?_))
        intro r5 μ5 h
        exact ok_iret rfl dX5_begins_55 ⟨_, rfl, h⟩
    · have h := h.2 z
      refine ok_aload_n (j := 1) dX5_begins_33 rfl rfl ?_
      refine ok_bipush (v := (-3 : Int32)) dX5_begins_34 (by decide) ?_
      refine ok_callV (M' := mX5_failed) [vI (-3 : Int32)] dX5_begins_36 xw_208 fV_X5_failed fS_X5_failed rfl (by decide) v5 (ob_5 _ _ _) rfl (Nat.le_of_ble_eq_true rfl) (CI.to (CI.mono h ?_))
      intro r6 μ6 h
      exact ok_iret rfl dX5_begins_39 ⟨_, rfl, h⟩
  · have h := h.2 z
    refine ok_aload_n (j := 0) dX5_begins_8 rfl rfl ?_
    refine ok_bipush (v := (-2 : Int32)) dX5_begins_9 (by decide) ?_
    refine ok_callV (M' := mX5_failed) [vI (-2 : Int32)] dX5_begins_11 xw_208 fV_X5_failed fS_X5_failed rfl (by decide) v5 (ob_5 _ _ _) rfl (Nat.le_of_ble_eq_true rfl) (CI.to (CI.mono h ?_))
    intro r7 μ7 h
    exact ok_iret rfl dX5_begins_14 ⟨_, rfl, h⟩
set_option maxRecDepth 100000 in
set_option maxHeartbeats 4000000 in
theorem eX5_outside {a b : xA} {h0 : Int64} {Q : Int32 → xM → Prop} {x0 : Int32} {x1 : Int32}  (h : ((x0 < 0 → Q (1 : Int32) (a, (b, h0))) ∧ (¬ x0 < 0 → ((x0 < x1 → Q (0 : Int32) (a, (b, h0))) ∧ (¬ x0 < x1 → Q (1 : Int32) (a, (b, h0))))))) : CI mX5_outside [vI x0, vI x1] (a, (b, h0)) Q := by
  refine xCalls_of (by decide) (Nat.le_of_ble_eq_true rfl) ?_
  show xOk mX5_outside 0 [(0, vI x0), (1, vI x1)] [] (a, (b, h0)) (qI Q)
  refine ok_iload_n (j := 0) dX5_outside_0 rfl rfl ?_
  refine ok_if_lt (tgt := 9) dX5_outside_1 (by decide) ⟨fun z => ?_, fun z => ?_⟩
  · have h := h.1 z
    refine ok_iconst (v := (1 : Int32)) dX5_outside_9 (by decide) ?_
    refine ok_goto (tgt := 14) dX5_outside_10 (by decide) ?_
    exact ok_zret rfl (by decide) dX5_outside_14 ⟨_, rfl, h⟩
  · have h := h.2 z
    refine ok_iload_n (j := 0) dX5_outside_4 rfl rfl ?_
    refine ok_iload_n (j := 1) dX5_outside_5 rfl rfl ?_
    refine ok_icmp_lt (tgt := 13) dX5_outside_6 (by decide) ⟨fun z => ?_, fun z => ?_⟩
    · have h := h.1 z
      refine ok_iconst (v := (0 : Int32)) dX5_outside_13 (by decide) ?_
      exact ok_zret rfl (by decide) dX5_outside_14 ⟨_, rfl, h⟩
    · have h := h.2 z
      refine ok_iconst (v := (1 : Int32)) dX5_outside_9 (by decide) ?_
      refine ok_goto (tgt := 14) dX5_outside_10 (by decide) ?_
      exact ok_zret rfl (by decide) dX5_outside_14 ⟨_, rfl, h⟩
set_option maxRecDepth 100000 in
set_option maxHeartbeats 4000000 in
theorem eX5_failed {a b : xA} {h0 : Int64} {Q : Int32 → xM → Prop} {x1 : Int32}  (h : ((x1 = (-7 : Int32) → (vp_in (3 : Int32) 5 ∧ (vp_in (3 : Int32) 5 ∧ Q x1 ((xUp a 25 0 0 (Int32.toNatClampNeg (3 : Int32)) ((a 25 0 0 (Int32.toNatClampNeg (3 : Int32))) + (1 : Int32))), (b, h0))))) ∧ (¬ x1 = (-7 : Int32) → ((x1 = (-6 : Int32) → (vp_in (1 : Int32) 5 ∧ (vp_in (1 : Int32) 5 ∧ Q x1 ((xUp a 25 0 0 (Int32.toNatClampNeg (1 : Int32)) ((a 25 0 0 (Int32.toNatClampNeg (1 : Int32))) + (1 : Int32))), (b, h0))))) ∧ (¬ x1 = (-6 : Int32) → ((x1 = (-3 : Int32) → (vp_in (2 : Int32) 5 ∧ (vp_in (2 : Int32) 5 ∧ Q x1 ((xUp a 25 0 0 (Int32.toNatClampNeg (2 : Int32)) ((a 25 0 0 (Int32.toNatClampNeg (2 : Int32))) + (1 : Int32))), (b, h0))))) ∧ (¬ x1 = (-3 : Int32) → ((x1 = (-2 : Int32) → (vp_in (0 : Int32) 5 ∧ (vp_in (0 : Int32) 5 ∧ Q x1 ((xUp a 25 0 0 (Int32.toNatClampNeg (0 : Int32)) ((a 25 0 0 (Int32.toNatClampNeg (0 : Int32))) + (1 : Int32))), (b, h0))))) ∧ (¬ x1 = (-2 : Int32) → (vp_in (4 : Int32) 5 ∧ (vp_in (4 : Int32) 5 ∧ Q x1 ((xUp a 25 0 0 (Int32.toNatClampNeg (4 : Int32)) ((a 25 0 0 (Int32.toNatClampNeg (4 : Int32))) + (1 : Int32))), (b, h0))))))))))))) : CI mX5_failed [vR 5 0 0, vI x1] (a, (b, h0)) Q := by
  refine xCalls_of (by decide) (Nat.le_of_ble_eq_true rfl) ?_
  show xOk mX5_failed 0 [(0, vR 5 0 0), (1, vI x1)] [] (a, (b, h0)) (qI Q)
  refine ok_iload_n (j := 1) dX5_failed_0 rfl rfl ?_
  by_cases z0 : x1 = (-7 : Int32)
  · have h := h.1 z0
    refine ok_table dX5_failed_1 rfl (off := 78) (tgt := 79) (by (try dsimp only); rw [z0]; decide) (by decide) ?_
    refine ok_aload_n (j := 0) dX5_failed_79 rfl rfl ?_
    refine gf_5_6 dX5_failed_80 v5 xw_179 ?_
    refine ok_iconst (v := (3 : Int32)) dX5_failed_83 (by decide) ?_
    refine ok_dup2 dX5_failed_84 rfl rfl ?_
    obtain ⟨hb1, h⟩ := h
    refine al_25 dX5_failed_85 v25 hb1 ?_
    refine ok_iconst (v := (1 : Int32)) dX5_failed_86 (by decide) ?_
    refine ok_iadd dX5_failed_87 ?_
    obtain ⟨hb2, h⟩ := h
    refine as_25 dX5_failed_88 v25 hb2 ?_
    refine ok_goto (tgt := 102) dX5_failed_89 (by decide) ?_
    refine ok_iload_n (j := 1) dX5_failed_102 rfl rfl ?_
    exact ok_iret rfl dX5_failed_103 ⟨_, rfl, h⟩
  · have h := h.2 z0
    by_cases z1 : x1 = (-6 : Int32)
    · have h := h.1 z1
      refine ok_table dX5_failed_1 rfl (off := 52) (tgt := 53) (by (try dsimp only); rw [z1]; decide) (by decide) ?_
      refine ok_aload_n (j := 0) dX5_failed_53 rfl rfl ?_
      refine gf_5_6 dX5_failed_54 v5 xw_179 ?_
      refine ok_iconst (v := (1 : Int32)) dX5_failed_57 (by decide) ?_
      refine ok_dup2 dX5_failed_58 rfl rfl ?_
      obtain ⟨hb3, h⟩ := h
      refine al_25 dX5_failed_59 v25 hb3 ?_
      refine ok_iconst (v := (1 : Int32)) dX5_failed_60 (by decide) ?_
      refine ok_iadd dX5_failed_61 ?_
      obtain ⟨hb4, h⟩ := h
      refine as_25 dX5_failed_62 v25 hb4 ?_
      refine ok_goto (tgt := 102) dX5_failed_63 (by decide) ?_
      refine ok_iload_n (j := 1) dX5_failed_102 rfl rfl ?_
      exact ok_iret rfl dX5_failed_103 ⟨_, rfl, h⟩
    · have h := h.2 z1
      by_cases z2 : x1 = (-3 : Int32)
      · have h := h.1 z2
        refine ok_table dX5_failed_1 rfl (off := 65) (tgt := 66) (by (try dsimp only); rw [z2]; decide) (by decide) ?_
        refine ok_aload_n (j := 0) dX5_failed_66 rfl rfl ?_
        refine gf_5_6 dX5_failed_67 v5 xw_179 ?_
        refine ok_iconst (v := (2 : Int32)) dX5_failed_70 (by decide) ?_
        refine ok_dup2 dX5_failed_71 rfl rfl ?_
        obtain ⟨hb5, h⟩ := h
        refine al_25 dX5_failed_72 v25 hb5 ?_
        refine ok_iconst (v := (1 : Int32)) dX5_failed_73 (by decide) ?_
        refine ok_iadd dX5_failed_74 ?_
        obtain ⟨hb6, h⟩ := h
        refine as_25 dX5_failed_75 v25 hb6 ?_
        refine ok_goto (tgt := 102) dX5_failed_76 (by decide) ?_
        refine ok_iload_n (j := 1) dX5_failed_102 rfl rfl ?_
        exact ok_iret rfl dX5_failed_103 ⟨_, rfl, h⟩
      · have h := h.2 z2
        by_cases z3 : x1 = (-2 : Int32)
        · have h := h.1 z3
          refine ok_table dX5_failed_1 rfl (off := 39) (tgt := 40) (by (try dsimp only); rw [z3]; decide) (by decide) ?_
          refine ok_aload_n (j := 0) dX5_failed_40 rfl rfl ?_
          refine gf_5_6 dX5_failed_41 v5 xw_179 ?_
          refine ok_iconst (v := (0 : Int32)) dX5_failed_44 (by decide) ?_
          refine ok_dup2 dX5_failed_45 rfl rfl ?_
          obtain ⟨hb7, h⟩ := h
          refine al_25 dX5_failed_46 v25 hb7 ?_
          refine ok_iconst (v := (1 : Int32)) dX5_failed_47 (by decide) ?_
          refine ok_iadd dX5_failed_48 ?_
          obtain ⟨hb8, h⟩ := h
          refine as_25 dX5_failed_49 v25 hb8 ?_
          refine ok_goto (tgt := 102) dX5_failed_50 (by decide) ?_
          refine ok_iload_n (j := 1) dX5_failed_102 rfl rfl ?_
          exact ok_iret rfl dX5_failed_103 ⟨_, rfl, h⟩
        · have h := h.2 z3
          refine ok_table dX5_failed_1 rfl (tgt := 92) (xSw_d [(-7 : Int32), (-6 : Int32), (-3 : Int32), (-2 : Int32)] (by decide) rfl (by simp only [List.mem_cons, List.not_mem_nil, or_false]; rintro c (rfl | rfl | rfl | rfl) <;> assumption)) (by decide) ?_
          refine ok_aload_n (j := 0) dX5_failed_92 rfl rfl ?_
          refine gf_5_6 dX5_failed_93 v5 xw_179 ?_
          refine ok_iconst (v := (4 : Int32)) dX5_failed_96 (by decide) ?_
          refine ok_dup2 dX5_failed_97 rfl rfl ?_
          obtain ⟨hb9, h⟩ := h
          refine al_25 dX5_failed_98 v25 hb9 ?_
          refine ok_iconst (v := (1 : Int32)) dX5_failed_99 (by decide) ?_
          refine ok_iadd dX5_failed_100 ?_
          obtain ⟨hb10, h⟩ := h
          refine as_25 dX5_failed_101 v25 hb10 ?_
          refine ok_iload_n (j := 1) dX5_failed_102 rfl rfl ?_
          exact ok_iret rfl dX5_failed_103 ⟨_, rfl, h⟩
set_option maxRecDepth 100000 in
set_option maxHeartbeats 4000000 in
theorem eX5_keep {a b : xA} {h0 : Int64} {Q : xM → Prop}   (h : (((a 5 0 0 8) = 0 → xOk mX5_keep 10 [(0, vR 5 0 0), (1, vI (0 : Int32))] [] (a, (b, h0)) (qV Q)) ∧ (¬ (a 5 0 0 8) = 0 → Q (a, (b, h0))))) : CV mX5_keep [vR 5 0 0] (a, (b, h0)) Q := by
  refine xCalls_of (by decide) (Nat.le_of_ble_eq_true rfl) ?_
  show xOk mX5_keep 0 [(0, vR 5 0 0)] [] (a, (b, h0)) (qV Q)
  refine ok_aload_n (j := 0) dX5_keep_0 rfl rfl ?_
  refine gf_5_8 dX5_keep_1 v5 xw_181 ?_
  refine ok_if_eq (tgt := 8) dX5_keep_4 (by decide) ⟨fun z => ?_, fun z => ?_⟩
  · have h := h.1 z
    refine ok_iconst (v := (0 : Int32)) dX5_keep_8 (by decide) ?_
    refine ok_istore_n (ls2 := [(1, vI (0 : Int32)), (0, vR 5 0 0)]) dX5_keep_9 rfl (by decide) rfl ?_
    exact ok_sub [(0, vR 5 0 0), (1, vI (0 : Int32))] [1, 0] rfl h
  · have h := h.2 z
    exact ok_vret rfl dX5_keep_7 ⟨rfl, h⟩
set_option maxRecDepth 100000 in
set_option maxHeartbeats 4000000 in
theorem rX5_keep_10 {a b : xA} {h0 : Int64} {Q : xM → Prop} {x1 : Int32}  (h : (((3 : Int32) ≤ x1 → (vp_in (a 5 0 0 4) 6 ∧ (CV mX4_copy [vR 4 (Int32.toNatClampNeg (a 5 0 0 4) + 1) 0, vR 4 0 0] (a, (b, h0)) (fun μ2 => Q ((xUp (xUp μ2.1 5 0 0 4 (((μ2.1 5 0 0 4) + (1 : Int32)) - ((μ2.1 5 0 0 4) + (1 : Int32)) / (6 : Int32) * (6 : Int32))) 5 0 0 3 (if (6 : Int32) < (((xUp μ2.1 5 0 0 4 (((μ2.1 5 0 0 4) + (1 : Int32)) - ((μ2.1 5 0 0 4) + (1 : Int32)) / (6 : Int32) * (6 : Int32))) 5 0 0 3) + (1 : Int32)) then (6 : Int32) else (((xUp μ2.1 5 0 0 4 (((μ2.1 5 0 0 4) + (1 : Int32)) - ((μ2.1 5 0 0 4) + (1 : Int32)) / (6 : Int32) * (6 : Int32))) 5 0 0 3) + (1 : Int32)))), μ2.2))))) ∧ (¬ (3 : Int32) ≤ x1 → (vp_in x1 3 ∧ (vp_in x1 3 ∧ xOk mX5_keep 10 [(0, vR 5 0 0), (1, vI (x1 + 1))] [] ((xUp a 16 0 0 (Int32.toNatClampNeg x1) (a 1 0 (Int32.toNatClampNeg x1) 0)), (b, h0)) (qV Q)))))) : xOk mX5_keep 10 [(0, vR 5 0 0), (1, vI x1)] [] (a, (b, h0)) (qV Q) := by
  refine ok_iload_n (j := 1) dX5_keep_10 rfl rfl ?_
  refine ok_iconst (v := (3 : Int32)) dX5_keep_11 (by decide) ?_
  refine ok_icmp_ge (tgt := 39) dX5_keep_12 (by decide) ⟨fun z => ?_, fun z => ?_⟩
  · have h := h.1 z
    refine ok_aload_n (j := 0) dX5_keep_39 rfl rfl ?_
    refine gf_5_2 dX5_keep_40 v5 xw_175 ?_
    refine ok_aload_n (j := 0) dX5_keep_43 rfl rfl ?_
    refine gf_5_4 dX5_keep_44 v5 xw_177 ?_
    obtain ⟨hb1, h⟩ := h
    refine aa_41 dX5_keep_47 v41 hb1 ?_
    refine ok_aload_n (j := 0) dX5_keep_48 rfl rfl ?_
    refine gf_5_1 dX5_keep_49 v5 xw_174 ?_
    refine ok_callV (M' := mX4_copy) [vR 4 0 0] dX5_keep_52 xw_216 fV_X4_copy fS_X4_copy rfl (by decide) (v4 (Nat.succ_lt_succ (vp_lt hb1))) (ob_4 _ _ _) rfl (Nat.le_of_ble_eq_true rfl) (CV.to (CV.mono h ?_))
    intro μ2 h
    refine ok_aload_n (j := 0) dX5_keep_55 rfl rfl ?_
    refine ok_aload_n (j := 0) dX5_keep_56 rfl rfl ?_
    refine gf_5_4 dX5_keep_57 v5 xw_177 ?_
    refine ok_iconst (v := (1 : Int32)) dX5_keep_60 (by decide) ?_
    refine ok_iadd dX5_keep_61 ?_
    refine ok_bipush (v := (6 : Int32)) dX5_keep_62 (by decide) ?_
    refine ok_irem dX5_keep_64 (by decide) ?_
    refine pf_5_4 dX5_keep_65 v5 xw_177 ?_
    refine ok_aload_n (j := 0) dX5_keep_68 rfl rfl ?_
    refine ok_aload_n (j := 0) dX5_keep_69 rfl rfl ?_
    refine gf_5_3 dX5_keep_70 v5 xw_176 ?_
    refine ok_iconst (v := (1 : Int32)) dX5_keep_73 (by decide) ?_
    refine ok_iadd dX5_keep_74 ?_
    refine ok_bipush (v := (6 : Int32)) dX5_keep_75 (by decide) ?_
    refine ok_min dX5_keep_77 xw_233 ⟨Nat.le_of_ble_eq_true rfl, Nat.le_of_ble_eq_true rfl⟩ ?_
    refine pf_5_3 dX5_keep_80 v5 xw_176 ?_
    exact ok_vret rfl dX5_keep_83 ⟨rfl, h⟩
  · have h := h.2 z
    refine ok_aload_n (j := 0) dX5_keep_15 rfl rfl ?_
    refine gf_5_1 dX5_keep_16 v5 xw_174 ?_
    refine gf_4_2 dX5_keep_19 (v4 (by decide)) xw_84 ?_
    refine ok_iload_n (j := 1) dX5_keep_22 rfl rfl ?_
    refine ok_aload_n (j := 0) dX5_keep_23 rfl rfl ?_
    refine gf_5_0 dX5_keep_24 v5 xw_173 ?_
    refine ok_iload_n (j := 1) dX5_keep_27 rfl rfl ?_
    obtain ⟨hb3, h⟩ := h
    refine aa_40 dX5_keep_28 v40 hb3 ?_
    refine gf_1_0 dX5_keep_29 (v1 (vp_lt hb3)) xw_146 ?_
    obtain ⟨hb4, h⟩ := h
    refine as_16 dX5_keep_32 (v16 (by decide)) hb4 ?_
    refine ok_iinc (j := 1) (v := (x1 + 1)) (ls2 := [(1, vI (x1 + 1)), (0, vR 5 0 0)]) dX5_keep_33 rfl rfl (by decide) rfl ?_
    refine ok_goto (tgt := 10) dX5_keep_36 (by decide) ?_
    exact ok_sub [(0, vR 5 0 0), (1, vI (x1 + 1))] [1, 0] rfl h
set_option maxRecDepth 100000 in
set_option maxHeartbeats 4000000 in
theorem eX5_endDeed {a b : xA} {h0 : Int64} {Q : Int32 → xM → Prop} {sx1 wx1 : Nat} {x2 : Int32} (hsx1 : sx1 < 7) (hwx1 : wx1 < 4) (h : (CI mX2_schedule [vR 2 sx1 wx1, vI ((xUp (xUp a 2 sx1 wx1 1 (2 : Int32)) 2 sx1 wx1 2 x2) 4 0 0 0)] ((xUp (xUp a 2 sx1 wx1 1 (2 : Int32)) 2 sx1 wx1 2 x2), (b, h0)) (fun r1 μ1 => ((¬ r1 = 0 → Q r1 μ1) ∧ (r1 = 0 → (CV mX5_finishDeed [vR 5 0 0, vR 2 sx1 wx1] μ1 (fun μ2 => Q r1 μ2))))))) : CI mX5_endDeed [vR 5 0 0, vR 2 sx1 wx1, vI x2] (a, (b, h0)) Q := by
  refine xCalls_of (by decide) (Nat.le_of_ble_eq_true rfl) ?_
  show xOk mX5_endDeed 0 [(0, vR 5 0 0), (1, vR 2 sx1 wx1), (2, vI x2)] [] (a, (b, h0)) (qI Q)
  refine ok_aload_n (j := 1) dX5_endDeed_0 rfl rfl ?_
  refine ok_iconst (v := (2 : Int32)) dX5_endDeed_1 (by decide) ?_
  refine pf_2_1 dX5_endDeed_2 (v2 hsx1 hwx1) xw_38 ?_
  refine ok_aload_n (j := 1) dX5_endDeed_5 rfl rfl ?_
  refine ok_iload_n (j := 2) dX5_endDeed_6 rfl rfl ?_
  refine pf_2_2 dX5_endDeed_7 (v2 hsx1 hwx1) xw_40 ?_
  refine ok_aload_n (j := 1) dX5_endDeed_10 rfl rfl ?_
  refine ok_aload_n (j := 0) dX5_endDeed_11 rfl rfl ?_
  refine gf_5_1 dX5_endDeed_12 v5 xw_174 ?_
  refine gf_4_0 dX5_endDeed_15 (v4 (by decide)) xw_80 ?_
  refine ok_callV (M' := mX2_schedule) [vI ((xUp (xUp a 2 sx1 wx1 1 (2 : Int32)) 2 sx1 wx1 2 x2) 4 0 0 0)] dX5_endDeed_18 xw_240 fV_X2_schedule fS_X2_schedule rfl (by decide) (v2 hsx1 hwx1) (ob_2 _ _ _) rfl (Nat.le_of_ble_eq_true rfl) (CI.to (CI.mono h ?_))
  intro r1 μ1 h
  refine ok_istore_n (ls2 := [(3, vI r1), (0, vR 5 0 0), (1, vR 2 sx1 wx1), (2, vI x2)]) dX5_endDeed_21 rfl (by decide) rfl ?_
  refine ok_iload_n (j := 0) dX5_endDeed_22 rfl rfl ?_
  refine ok_if_ne (tgt := 31) dX5_endDeed_23 (by decide) ⟨fun z => ?_, fun z => ?_⟩
  · have h := h.1 z
    refine ok_iload_n (j := 0) dX5_endDeed_31 rfl rfl ?_
    exact ok_iret rfl dX5_endDeed_32 ⟨_, rfl, h⟩
  · have h := h.2 z
    refine ok_aload_n (j := 1) dX5_endDeed_26 rfl rfl ?_
    refine ok_aload_n (j := 2) dX5_endDeed_27 rfl rfl ?_
    refine ok_callV (M' := mX5_finishDeed) [vR 2 sx1 wx1] dX5_endDeed_28 xw_244 fV_X5_finishDeed fS_X5_finishDeed rfl (by decide) v5 (ob_5 _ _ _) rfl (Nat.le_of_ble_eq_true rfl) (CV.to (CV.mono h ?_))
    intro μ2 h
    refine ok_iload_n (j := 0) dX5_endDeed_31 rfl rfl ?_
    exact ok_iret rfl dX5_endDeed_32 ⟨_, rfl, h⟩
set_option maxRecDepth 100000 in
set_option maxHeartbeats 4000000 in
theorem eX5_finishDeed {a b : xA} {h0 : Int64} {Q : xM → Prop} {sx1 wx1 : Nat} (hsx1 : sx1 < 7) (hwx1 : wx1 < 4) (h : ((¬ (a 2 sx1 wx1 2) = (1 : Int32) → (CV mX2_rest [vR 2 sx1 wx1] (a, (b, h0)) (fun μ1 => Q μ1))) ∧ ((a 2 sx1 wx1 2) = (1 : Int32) → xOk mX5_finishDeed 10 [(0, vR 5 0 0), (1, vR 2 sx1 wx1), (2, vI (0 : Int32))] [] (a, (b, h0)) (qV Q)))) : CV mX5_finishDeed [vR 5 0 0, vR 2 sx1 wx1] (a, (b, h0)) Q := by
  refine xCalls_of (by decide) (Nat.le_of_ble_eq_true rfl) ?_
  show xOk mX5_finishDeed 0 [(0, vR 5 0 0), (1, vR 2 sx1 wx1)] [] (a, (b, h0)) (qV Q)
  refine ok_aload_n (j := 1) dX5_finishDeed_0 rfl rfl ?_
  refine gf_2_2 dX5_finishDeed_1 (v2 hsx1 hwx1) xw_40 ?_
  refine ok_iconst (v := (1 : Int32)) dX5_finishDeed_4 (by decide) ?_
  refine ok_icmp_ne (tgt := 40) dX5_finishDeed_5 (by decide) ⟨fun z => ?_, fun z => ?_⟩
  · have h := h.1 z
    refine ok_aload_n (j := 1) dX5_finishDeed_40 rfl rfl ?_
    refine ok_callV (M' := mX2_rest) [] dX5_finishDeed_41 xw_252 fV_X2_rest fS_X2_rest rfl (by decide) (v2 hsx1 hwx1) (ob_2 _ _ _) rfl (Nat.le_of_ble_eq_true rfl) (CV.to (CV.mono h ?_))
    intro μ1 h
    exact ok_vret rfl dX5_finishDeed_44 ⟨rfl, h⟩
  · have h := h.2 z
    refine ok_iconst (v := (0 : Int32)) dX5_finishDeed_8 (by decide) ?_
    refine ok_istore_n (ls2 := [(2, vI (0 : Int32)), (0, vR 5 0 0), (1, vR 2 sx1 wx1)]) dX5_finishDeed_9 rfl (by decide) rfl ?_
    exact ok_sub [(0, vR 5 0 0), (1, vR 2 sx1 wx1), (2, vI (0 : Int32))] [1, 2, 0] rfl h
set_option maxRecDepth 100000 in
set_option maxHeartbeats 4000000 in
theorem rX5_finishDeed_10 {a b : xA} {h0 : Int64} {Q : xM → Prop} {sx1 wx1 : Nat} {x2 : Int32} (hsx1 : sx1 < 7) (hwx1 : wx1 < 4) (h : (((2 : Int32) ≤ x2 → (CV mX2_rest [vR 2 sx1 wx1] (a, (b, h0)) (fun μ1 => Q μ1))) ∧ (¬ (2 : Int32) ≤ x2 → (vp_in x2 2 ∧ (CV mX0_save [vR 0 0 (Int32.toNatClampNeg x2), vR 19 sx1 wx1, vI (x2 * (3 : Int32))] (a, (b, h0)) (fun μ3 => xOk mX5_finishDeed 10 [(0, vR 5 0 0), (1, vR 2 sx1 wx1), (2, vI (x2 + 1))] [] μ3 (qV Q))))))) : xOk mX5_finishDeed 10 [(0, vR 5 0 0), (1, vR 2 sx1 wx1), (2, vI x2)] [] (a, (b, h0)) (qV Q) := by
  refine ok_iload_n (j := 2) dX5_finishDeed_10 rfl rfl ?_
  refine ok_iconst (v := (2 : Int32)) dX5_finishDeed_11 (by decide) ?_
  refine ok_icmp_ge (tgt := 40) dX5_finishDeed_12 (by decide) ⟨fun z => ?_, fun z => ?_⟩
  · have h := h.1 z
    refine ok_aload_n (j := 1) dX5_finishDeed_40 rfl rfl ?_
    refine ok_callV (M' := mX2_rest) [] dX5_finishDeed_41 xw_252 fV_X2_rest fS_X2_rest rfl (by decide) (v2 hsx1 hwx1) (ob_2 _ _ _) rfl (Nat.le_of_ble_eq_true rfl) (CV.to (CV.mono h ?_))
    intro μ1 h
    exact ok_vret rfl dX5_finishDeed_44 ⟨rfl, h⟩
  · have h := h.2 z
    refine ok_aload_n (j := 0) dX5_finishDeed_15 rfl rfl ?_
    refine gf_5_1 dX5_finishDeed_16 v5 xw_174 ?_
    refine gf_4_4 dX5_finishDeed_19 (v4 (by decide)) xw_88 ?_
    refine ok_iload_n (j := 2) dX5_finishDeed_22 rfl rfl ?_
    obtain ⟨hb2, h⟩ := h
    refine aa_43 dX5_finishDeed_23 (v43 (by decide)) hb2 ?_
    refine ok_aload_n (j := 1) dX5_finishDeed_24 rfl rfl ?_
    refine gf_2_6 dX5_finishDeed_25 (v2 hsx1 hwx1) xw_48 ?_
    refine ok_iload_n (j := 2) dX5_finishDeed_28 rfl rfl ?_
    refine ok_iconst (v := (3 : Int32)) dX5_finishDeed_29 (by decide) ?_
    refine ok_imul dX5_finishDeed_30 ?_
    refine ok_callV (M' := mX0_save) [vR 19 sx1 wx1, vI (x2 * (3 : Int32))] dX5_finishDeed_31 xw_248 fV_X0_save fS_X0_save rfl (by decide) (v0 (by decide) (vp_lt hb2)) (ob_0 _ _ _) rfl (Nat.le_of_ble_eq_true rfl) (CV.to (CV.mono h ?_))
    intro μ3 h
    refine ok_iinc (j := 2) (v := (x2 + 1)) (ls2 := [(2, vI (x2 + 1)), (0, vR 5 0 0), (1, vR 2 sx1 wx1)]) dX5_finishDeed_34 rfl rfl (by decide) rfl ?_
    refine ok_goto (tgt := 10) dX5_finishDeed_37 (by decide) ?_
    exact ok_sub [(0, vR 5 0 0), (1, vR 2 sx1 wx1), (2, vI (x2 + 1))] [1, 2, 0] rfl h
set_option maxRecDepth 100000 in
set_option maxHeartbeats 4000000 in
theorem eX5_opens {a b : xA} {h0 : Int64} {Q : Int32 → xM → Prop} {x1 : Int32} {x2 : Int32}  (h : (CI mX5_wrongAge [vR 5 0 0, vI x1, vI x2] (a, (b, h0)) (fun r1 μ1 => ((r1 = 0 → (vp_in x1 4 ∧ (((μ1.1 2 0 (Int32.toNatClampNeg x1) 0) ≤ x2 → (((μ1.1 2 0 (Int32.toNatClampNeg x1) 1) = 0 → (CV mX5_keep [vR 5 0 0] μ1 (fun μ3 => (CI mX5_producersIn [vR 5 0 0, vI (1 : Int32)] ((xUp (xUp μ3.1 2 0 (Int32.toNatClampNeg x1) 1 (1 : Int32)) 2 0 (Int32.toNatClampNeg x1) 3 ((xUp μ3.1 2 0 (Int32.toNatClampNeg x1) 1 (1 : Int32)) 4 0 0 0)), μ3.2) (fun r4 μ4 => Q r4 μ4))))) ∧ (¬ (μ1.1 2 0 (Int32.toNatClampNeg x1) 1) = 0 → (CI mX5_failed [vR 5 0 0, vI (-3 : Int32)] μ1 (fun r5 μ5 => Q r5 μ5))))) ∧ (¬ (μ1.1 2 0 (Int32.toNatClampNeg x1) 0) ≤ x2 → (CI mX5_failed [vR 5 0 0, vI (-6 : Int32)] μ1 (fun r6 μ6 => Q r6 μ6)))))) ∧ (¬ r1 = 0 → (CI mX5_failed [vR 5 0 0, vI (-2 : Int32)] μ1 (fun r7 μ7 => Q r7 μ7))))))) : CI mX5_opens [vR 5 0 0, vI x1, vI x2] (a, (b, h0)) Q := by
  refine xCalls_of (by decide) (Nat.le_of_ble_eq_true rfl) ?_
  show xOk mX5_opens 0 [(0, vR 5 0 0), (1, vI x1), (2, vI x2)] [] (a, (b, h0)) (qI Q)
  refine ok_aload_n (j := 0) dX5_opens_0 rfl rfl ?_
  refine ok_iload_n (j := 1) dX5_opens_1 rfl rfl ?_
  refine ok_iload_n (j := 2) dX5_opens_2 rfl rfl ?_
  refine ok_callV (M' := mX5_wrongAge) [vI x1, vI x2] dX5_opens_3 xw_260 fV_X5_wrongAge fS_X5_wrongAge rfl (by decide) v5 (ob_5 _ _ _) rfl (Nat.le_of_ble_eq_true rfl) (CI.to (CI.mono h ?_))
  intro r1 μ1 h
  refine ok_if_eq (tgt := 16) dX5_opens_6 (by decide) ⟨fun z => ?_, fun z => ?_⟩
  · have h := h.1 z
    refine ok_aload_n (j := 0) dX5_opens_16 rfl rfl ?_
    refine gf_5_1 dX5_opens_17 v5 xw_174 ?_
    refine gf_4_3 dX5_opens_20 (v4 (by decide)) xw_86 ?_
    refine ok_iload_n (j := 1) dX5_opens_23 rfl rfl ?_
    obtain ⟨hb2, h⟩ := h
    refine aa_42 dX5_opens_24 (v42 (by decide)) hb2 ?_
    refine ok_astore_n (ls2 := [(3, vR 2 0 (Int32.toNatClampNeg x1)), (0, vR 5 0 0), (1, vI x1), (2, vI x2)]) dX5_opens_25 rfl (by decide) rfl ?_
    refine ok_iload_n (j := 3) dX5_opens_26 rfl rfl ?_
    refine ok_aload_n (j := 0) dX5_opens_27 rfl rfl ?_
    refine gf_2_0 dX5_opens_28 (v2 (by decide) (vp_lt hb2)) xw_36 ?_
    refine ok_icmp_ge (tgt := 41) dX5_opens_31 (by decide) ⟨fun z => ?_, fun z => ?_⟩
    · have h := h.1 z
      refine ok_aload_n (j := 0) dX5_opens_41 rfl rfl ?_
      refine gf_2_1 dX5_opens_42 (v2 (by decide) (vp_lt hb2)) xw_38 ?_
      refine ok_if_eq (tgt := 55) dX5_opens_45 (by decide) ⟨fun z => ?_, fun z => ?_⟩
      · have h := h.1 z
        refine ok_aload_n (j := 1) dX5_opens_55 rfl rfl ?_
        refine ok_callV (M' := mX5_keep) [] dX5_opens_56 xw_212 fV_X5_keep fS_X5_keep rfl (by decide) v5 (ob_5 _ _ _) rfl (Nat.le_of_ble_eq_true rfl) (CV.to (CV.mono h ?_))
        intro μ3 h
        refine ok_aload_n (j := 0) dX5_opens_59 rfl rfl ?_
        refine ok_iconst (v := (1 : Int32)) dX5_opens_60 (by decide) ?_
        refine pf_2_1 dX5_opens_61 (v2 (by decide) (vp_lt hb2)) xw_38 ?_
        refine ok_aload_n (j := 0) dX5_opens_64 rfl rfl ?_
        refine ok_aload_n (j := 1) dX5_opens_65 rfl rfl ?_
        refine gf_5_1 dX5_opens_66 v5 xw_174 ?_
        refine gf_4_0 dX5_opens_69 (v4 (by decide)) xw_80 ?_
        refine pf_2_3 dX5_opens_72 (v2 (by decide) (vp_lt hb2)) xw_42 ?_
        refine ok_aload_n (j := 1) dX5_opens_75 rfl rfl ?_
        refine ok_iconst (v := (1 : Int32)) dX5_opens_76 (by decide) ?_
        refine ok_callV (M' := mX5_producersIn) [vI (1 : Int32)] dX5_opens_77 xw_264 fV_X5_producersIn fS_X5_producersIn rfl (by decide) v5 (ob_5 _ _ _) rfl (Nat.le_of_ble_eq_true rfl) (CI.to (CI.mono h ?_))
        intro r4 μ4 h
        exact ok_iret rfl dX5_opens_80 ⟨_, rfl, h⟩
      · have h := h.2 z
        refine ok_aload_n (j := 1) dX5_opens_48 rfl rfl ?_
        refine ok_bipush (v := (-3 : Int32)) dX5_opens_49 (by decide) ?_
        refine ok_callV (M' := mX5_failed) [vI (-3 : Int32)] dX5_opens_51 xw_208 fV_X5_failed fS_X5_failed rfl (by decide) v5 (ob_5 _ _ _) rfl (Nat.le_of_ble_eq_true rfl) (CI.to (CI.mono h ?_))
        intro r5 μ5 h
        exact ok_iret rfl dX5_opens_54 ⟨_, rfl, h⟩
    · have h := h.2 z
      refine ok_aload_n (j := 1) dX5_opens_34 rfl rfl ?_
      refine ok_bipush (v := (-6 : Int32)) dX5_opens_35 (by decide) ?_
      refine ok_callV (M' := mX5_failed) [vI (-6 : Int32)] dX5_opens_37 xw_208 fV_X5_failed fS_X5_failed rfl (by decide) v5 (ob_5 _ _ _) rfl (Nat.le_of_ble_eq_true rfl) (CI.to (CI.mono h ?_))
      intro r6 μ6 h
      exact ok_iret rfl dX5_opens_40 ⟨_, rfl, h⟩
  · have h := h.2 z
    refine ok_aload_n (j := 0) dX5_opens_9 rfl rfl ?_
    refine ok_bipush (v := (-2 : Int32)) dX5_opens_10 (by decide) ?_
    refine ok_callV (M' := mX5_failed) [vI (-2 : Int32)] dX5_opens_12 xw_208 fV_X5_failed fS_X5_failed rfl (by decide) v5 (ob_5 _ _ _) rfl (Nat.le_of_ble_eq_true rfl) (CI.to (CI.mono h ?_))
    intro r7 μ7 h
    exact ok_iret rfl dX5_opens_15 ⟨_, rfl, h⟩
set_option maxRecDepth 100000 in
set_option maxHeartbeats 4000000 in
theorem eX5_wrongAge {a b : xA} {h0 : Int64} {Q : Int32 → xM → Prop} {x1 : Int32} {x2 : Int32}  (h : (CI mX5_outside [vI x1, vI (4 : Int32)] (a, (b, h0)) (fun r1 μ1 => ((¬ r1 = 0 → Q (1 : Int32) μ1) ∧ (r1 = 0 → ((x2 < 0 → Q (1 : Int32) μ1) ∧ (¬ x2 < 0 → (vp_in x1 4 ∧ ((x2 ≤ (μ1.1 2 0 (Int32.toNatClampNeg x1) 0) → Q (0 : Int32) μ1) ∧ (¬ x2 ≤ (μ1.1 2 0 (Int32.toNatClampNeg x1) 0) → Q (1 : Int32) μ1)))))))))) : CI mX5_wrongAge [vR 5 0 0, vI x1, vI x2] (a, (b, h0)) Q := by
  refine xCalls_of (by decide) (Nat.le_of_ble_eq_true rfl) ?_
  show xOk mX5_wrongAge 0 [(0, vR 5 0 0), (1, vI x1), (2, vI x2)] [] (a, (b, h0)) (qI Q)
  refine ok_iload_n (j := 1) dX5_wrongAge_0 rfl rfl ?_
  refine ok_iconst (v := (4 : Int32)) dX5_wrongAge_1 (by decide) ?_
  refine ok_callS (M' := mX5_outside) [vI x1, vI (4 : Int32)] dX5_wrongAge_2 xw_205 fV_X5_outside fS_X5_outside (by decide) rfl (Nat.le_of_ble_eq_true rfl) (CI.to (CI.mono h ?_))
  intro r1 μ1 h
  refine ok_if_ne (tgt := 28) dX5_wrongAge_5 (by decide) ⟨fun z => ?_, fun z => ?_⟩
  · have h := h.1 z
    refine ok_iconst (v := (1 : Int32)) dX5_wrongAge_28 (by decide) ?_
    refine ok_goto (tgt := 33) dX5_wrongAge_29 (by decide) ?_
    exact ok_zret rfl (by decide) dX5_wrongAge_33 ⟨_, rfl, h⟩
  · have h := h.2 z
    refine ok_iload_n (j := 2) dX5_wrongAge_8 rfl rfl ?_
    refine ok_if_lt (tgt := 28) dX5_wrongAge_9 (by decide) ⟨fun z => ?_, fun z => ?_⟩
    · have h := h.1 z
      refine ok_iconst (v := (1 : Int32)) dX5_wrongAge_28 (by decide) ?_
      refine ok_goto (tgt := 33) dX5_wrongAge_29 (by decide) ?_
      exact ok_zret rfl (by decide) dX5_wrongAge_33 ⟨_, rfl, h⟩
    · have h := h.2 z
      refine ok_iload_n (j := 2) dX5_wrongAge_12 rfl rfl ?_
      refine ok_aload_n (j := 0) dX5_wrongAge_13 rfl rfl ?_
      refine gf_5_1 dX5_wrongAge_14 v5 xw_174 ?_
      refine gf_4_3 dX5_wrongAge_17 (v4 (by decide)) xw_86 ?_
      refine ok_iload_n (j := 1) dX5_wrongAge_20 rfl rfl ?_
      obtain ⟨hb2, h⟩ := h
      refine aa_42 dX5_wrongAge_21 (v42 (by decide)) hb2 ?_
      refine gf_2_0 dX5_wrongAge_22 (v2 (by decide) (vp_lt hb2)) xw_36 ?_
      refine ok_icmp_le (tgt := 32) dX5_wrongAge_25 (by decide) ⟨fun z => ?_, fun z => ?_⟩
      · have h := h.1 z
        refine ok_iconst (v := (0 : Int32)) dX5_wrongAge_32 (by decide) ?_
        exact ok_zret rfl (by decide) dX5_wrongAge_33 ⟨_, rfl, h⟩
      · have h := h.2 z
        refine ok_iconst (v := (1 : Int32)) dX5_wrongAge_28 (by decide) ?_
        refine ok_goto (tgt := 33) dX5_wrongAge_29 (by decide) ?_
        exact ok_zret rfl (by decide) dX5_wrongAge_33 ⟨_, rfl, h⟩
set_option maxRecDepth 100000 in
set_option maxHeartbeats 4000000 in
theorem eX5_producersIn {a b : xA} {h0 : Int64} {Q : Int32 → xM → Prop} {x1 : Int32}  (h : xOk mX5_producersIn 4 [(0, vR 5 0 0), (1, vI x1), (2, vI (0 : Int32)), (3, vI (0 : Int32))] [] (a, (b, h0)) (qI Q)) : CI mX5_producersIn [vR 5 0 0, vI x1] (a, (b, h0)) Q := by
  refine xCalls_of (by decide) (Nat.le_of_ble_eq_true rfl) ?_
  show xOk mX5_producersIn 0 [(0, vR 5 0 0), (1, vI x1)] [] (a, (b, h0)) (qI Q)
  refine ok_iconst (v := (0 : Int32)) dX5_producersIn_0 (by decide) ?_
  refine ok_istore_n (ls2 := [(2, vI (0 : Int32)), (0, vR 5 0 0), (1, vI x1)]) dX5_producersIn_1 rfl (by decide) rfl ?_
  refine ok_iconst (v := (0 : Int32)) dX5_producersIn_2 (by decide) ?_
  refine ok_istore_n (ls2 := [(3, vI (0 : Int32)), (2, vI (0 : Int32)), (0, vR 5 0 0), (1, vI x1)]) dX5_producersIn_3 rfl (by decide) rfl ?_
  exact ok_sub [(0, vR 5 0 0), (1, vI x1), (2, vI (0 : Int32)), (3, vI (0 : Int32))] [2, 3, 1, 0] rfl h
set_option maxRecDepth 100000 in
set_option maxHeartbeats 4000000 in
theorem rX5_producersIn_4 {a b : xA} {h0 : Int64} {Q : Int32 → xM → Prop} {x1 : Int32} {x2 : Int32} {x3 : Int32}  (h : (((4 : Int32) ≤ x3 → Q x2 (a, (b, h0))) ∧ (¬ (4 : Int32) ≤ x3 → (vp_in x3 4 ∧ ((¬ (a 2 0 (Int32.toNatClampNeg x3) 1) = x1 → xOk mX5_producersIn 4 [(0, vR 5 0 0), (1, vI x1), (2, vI x2), (3, vI (x3 + 1))] [] (a, (b, h0)) (qI Q)) ∧ ((a 2 0 (Int32.toNatClampNeg x3) 1) = x1 → xOk mX5_producersIn 4 [(0, vR 5 0 0), (1, vI x1), (2, vI (x2 + 1)), (3, vI (x3 + 1))] [] (a, (b, h0)) (qI Q))))))) : xOk mX5_producersIn 4 [(0, vR 5 0 0), (1, vI x1), (2, vI x2), (3, vI x3)] [] (a, (b, h0)) (qI Q) := by
  refine ok_iload_n (j := 3) dX5_producersIn_4 rfl rfl ?_
  refine ok_iconst (v := (4 : Int32)) dX5_producersIn_5 (by decide) ?_
  refine ok_icmp_ge (tgt := 34) dX5_producersIn_6 (by decide) ⟨fun z => ?_, fun z => ?_⟩
  · have h := h.1 z
    refine ok_iload_n (j := 2) dX5_producersIn_34 rfl rfl ?_
    exact ok_iret rfl dX5_producersIn_35 ⟨_, rfl, h⟩
  · have h := h.2 z
    refine ok_aload_n (j := 0) dX5_producersIn_9 rfl rfl ?_
    refine gf_5_1 dX5_producersIn_10 v5 xw_174 ?_
    refine gf_4_3 dX5_producersIn_13 (v4 (by decide)) xw_86 ?_
    refine ok_iload_n (j := 3) dX5_producersIn_16 rfl rfl ?_
    obtain ⟨hb1, h⟩ := h
    refine aa_42 dX5_producersIn_17 (v42 (by decide)) hb1 ?_
    refine gf_2_1 dX5_producersIn_18 (v2 (by decide) (vp_lt hb1)) xw_38 ?_
    refine ok_iload_n (j := 1) dX5_producersIn_21 rfl rfl ?_
    refine ok_icmp_ne (tgt := 28) dX5_producersIn_22 (by decide) ⟨fun z => ?_, fun z => ?_⟩
    · have h := h.1 z
      refine ok_iinc (j := 3) (v := (x3 + 1)) (ls2 := [(3, vI (x3 + 1)), (0, vR 5 0 0), (1, vI x1), (2, vI x2)]) dX5_producersIn_28 rfl rfl (by decide) rfl ?_
      refine ok_goto (tgt := 4) dX5_producersIn_31 (by decide) ?_
      exact ok_sub [(0, vR 5 0 0), (1, vI x1), (2, vI x2), (3, vI (x3 + 1))] [1, 2, 3, 0] rfl h
    · have h := h.2 z
      refine ok_iinc (j := 2) (v := (x2 + 1)) (ls2 := [(2, vI (x2 + 1)), (0, vR 5 0 0), (1, vI x1), (3, vI x3)]) dX5_producersIn_25 rfl rfl (by decide) rfl ?_
      refine ok_iinc (j := 3) (v := (x3 + 1)) (ls2 := [(3, vI (x3 + 1)), (2, vI (x2 + 1)), (0, vR 5 0 0), (1, vI x1)]) dX5_producersIn_28 rfl rfl (by decide) rfl ?_
      refine ok_goto (tgt := 4) dX5_producersIn_31 (by decide) ?_
      exact ok_sub [(0, vR 5 0 0), (1, vI x1), (2, vI (x2 + 1)), (3, vI (x3 + 1))] [2, 3, 1, 0] rfl h
set_option maxRecDepth 100000 in
set_option maxHeartbeats 4000000 in
theorem eX5_sends {a b : xA} {h0 : Int64} {Q : Int32 → xM → Prop} {x1 : Int32} {x2 : Int32} {x3 : Int32} {x4 : Int32} {x5 : Int32}  (h : (CI mX5_wrongAge [vR 5 0 0, vI x1, vI x2] (a, (b, h0)) (fun r1 μ1 => ((¬ r1 = 0 → (CI mX5_failed [vR 5 0 0, vI (-2 : Int32)] μ1 (fun r2 μ2 => Q r2 μ2))) ∧ (r1 = 0 → (CI mX5_outside [vI x3, vI (3 : Int32)] μ1 (fun r3 μ3 => ((¬ r3 = 0 → (CI mX5_failed [vR 5 0 0, vI (-2 : Int32)] μ3 (fun r4 μ4 => Q r4 μ4))) ∧ (r3 = 0 → (CI mX5_outside [vI x4, vI (100 : Int32)] μ3 (fun r5 μ5 => ((¬ r5 = 0 → (CI mX5_failed [vR 5 0 0, vI (-2 : Int32)] μ5 (fun r6 μ6 => Q r6 μ6))) ∧ (r5 = 0 → (CI mX5_outside [vI x5, vI (100 : Int32)] μ5 (fun r7 μ7 => ((r7 = 0 → (vp_in x1 4 ∧ (((μ7.1 2 0 (Int32.toNatClampNeg x1) 0) ≤ x2 → ((¬ (μ7.1 2 0 (Int32.toNatClampNeg x1) 1) = (2 : Int32) → (vp_in x3 3 ∧ (CI mX1_twinOf [vR 1 0 (Int32.toNatClampNeg x3), vI x1, vI x2, vI x4] μ7 (fun r10 μ10 => ((r10 = (-1 : Int32) → (CI mX1_numberDue [vR 1 0 (Int32.toNatClampNeg x3), vI x1, vI x2] μ10 (fun r11 μ11 => ((x4 = r11 → (CI mX5_reserve [vR 5 0 0, vI x3] μ11 (fun r12 μ12 => ((((μ11.1 1 0 (Int32.toNatClampNeg x3) 0) + r12) < (48 : Int32) → (CV mX5_keep [vR 5 0 0] μ12 (fun μ13 => ((¬ (μ13.1 2 0 (Int32.toNatClampNeg x1) 1) = (1 : Int32) → (vp_in x3 3 ∧ (CI mX1_append [vR 1 0 (Int32.toNatClampNeg x3), vI x1, vI x2, vI x4, vI x5, vI (μ13.1 17 0 (Int32.toNatClampNeg x1) (Int32.toNatClampNeg x3))] μ13 (fun r15 μ15 => Q r15 μ15)))) ∧ ((μ13.1 2 0 (Int32.toNatClampNeg x1) 1) = (1 : Int32) → (vp_in x3 3 ∧ ((¬ (μ13.1 17 0 (Int32.toNatClampNeg x1) (Int32.toNatClampNeg x3)) = (-1 : Int32) → (vp_in x3 3 ∧ (CI mX1_append [vR 1 0 (Int32.toNatClampNeg x3), vI x1, vI x2, vI x4, vI x5, vI (μ13.1 17 0 (Int32.toNatClampNeg x1) (Int32.toNatClampNeg x3))] μ13 (fun r18 μ18 => Q r18 μ18)))) ∧ ((μ13.1 17 0 (Int32.toNatClampNeg x1) (Int32.toNatClampNeg x3)) = (-1 : Int32) → (vp_in x3 3 ∧ (vp_in x3 3 ∧ (CI mX1_append [vR 1 0 (Int32.toNatClampNeg x3), vI x1, vI x2, vI x4, vI x5, vI ((xUp μ13.1 17 0 (Int32.toNatClampNeg x1) (Int32.toNatClampNeg x3) (μ13.1 1 0 (Int32.toNatClampNeg x3) 0)) 17 0 (Int32.toNatClampNeg x1) (Int32.toNatClampNeg x3))] ((xUp μ13.1 17 0 (Int32.toNatClampNeg x1) (Int32.toNatClampNeg x3) (μ13.1 1 0 (Int32.toNatClampNeg x3) 0)), μ13.2) (fun r21 μ21 => Q r21 μ21)))))))))))) ∧ (¬ ((μ11.1 1 0 (Int32.toNatClampNeg x3) 0) + r12) < (48 : Int32) → (CI mX5_failed [vR 5 0 0, vI (-4 : Int32)] μ12 (fun r22 μ22 => Q r22 μ22))))))) ∧ (¬ x4 = r11 → (CI mX5_failed [vR 5 0 0, vI (-7 : Int32)] μ11 (fun r23 μ23 => Q r23 μ23))))))) ∧ (¬ r10 = (-1 : Int32) → Q ((1000 : Int32) + r10) μ10)))))) ∧ ((μ7.1 2 0 (Int32.toNatClampNeg x1) 1) = (2 : Int32) → (CI mX5_failed [vR 5 0 0, vI (-3 : Int32)] μ7 (fun r24 μ24 => Q r24 μ24))))) ∧ (¬ (μ7.1 2 0 (Int32.toNatClampNeg x1) 0) ≤ x2 → (CI mX5_failed [vR 5 0 0, vI (-6 : Int32)] μ7 (fun r25 μ25 => Q r25 μ25)))))) ∧ (¬ r7 = 0 → (CI mX5_failed [vR 5 0 0, vI (-2 : Int32)] μ7 (fun r26 μ26 => Q r26 μ26))))))))))))))))))) : CI mX5_sends [vR 5 0 0, vI x1, vI x2, vI x3, vI x4, vI x5] (a, (b, h0)) Q := by
  refine xCalls_of (by decide) (Nat.le_of_ble_eq_true rfl) ?_
  show xOk mX5_sends 0 [(0, vR 5 0 0), (1, vI x1), (2, vI x2), (3, vI x3), (4, vI x4), (5, vI x5)] [] (a, (b, h0)) (qI Q)
  refine ok_aload_n (j := 0) dX5_sends_0 rfl rfl ?_
  refine ok_iload_n (j := 1) dX5_sends_1 rfl rfl ?_
  refine ok_iload_n (j := 2) dX5_sends_2 rfl rfl ?_
  refine ok_callV (M' := mX5_wrongAge) [vI x1, vI x2] dX5_sends_3 xw_260 fV_X5_wrongAge fS_X5_wrongAge rfl (by decide) v5 (ob_5 _ _ _) rfl (Nat.le_of_ble_eq_true rfl) (CI.to (CI.mono h ?_))
  intro r1 μ1 h
  refine ok_if_ne (tgt := 37) dX5_sends_6 (by decide) ⟨fun z => ?_, fun z => ?_⟩
  · have h := h.1 z
    refine ok_aload_n (j := 0) dX5_sends_37 rfl rfl ?_
    refine ok_bipush (v := (-2 : Int32)) dX5_sends_38 (by decide) ?_
    refine ok_callV (M' := mX5_failed) [vI (-2 : Int32)] dX5_sends_40 xw_208 fV_X5_failed fS_X5_failed rfl (by decide) v5 (ob_5 _ _ _) rfl (Nat.le_of_ble_eq_true rfl) (CI.to (CI.mono h ?_))
    intro r2 μ2 h
    exact ok_iret rfl dX5_sends_43 ⟨_, rfl, h⟩
  · have h := h.2 z
    refine ok_iload_n (j := 3) dX5_sends_9 rfl rfl ?_
    refine ok_iconst (v := (3 : Int32)) dX5_sends_10 (by decide) ?_
    refine ok_callS (M' := mX5_outside) [vI x3, vI (3 : Int32)] dX5_sends_11 xw_205 fV_X5_outside fS_X5_outside (by decide) rfl (Nat.le_of_ble_eq_true rfl) (CI.to (CI.mono h ?_))
    intro r3 μ3 h
    refine ok_if_ne (tgt := 37) dX5_sends_14 (by decide) ⟨fun z => ?_, fun z => ?_⟩
    · have h := h.1 z
      refine ok_aload_n (j := 0) dX5_sends_37 rfl rfl ?_
      refine ok_bipush (v := (-2 : Int32)) dX5_sends_38 (by decide) ?_
      refine ok_callV (M' := mX5_failed) [vI (-2 : Int32)] dX5_sends_40 xw_208 fV_X5_failed fS_X5_failed rfl (by decide) v5 (ob_5 _ _ _) rfl (Nat.le_of_ble_eq_true rfl) (CI.to (CI.mono h ?_))
      intro r4 μ4 h
      exact ok_iret rfl dX5_sends_43 ⟨_, rfl, h⟩
    · have h := h.2 z
      refine ok_iload (j := 4) dX5_sends_17 rfl ?_
      refine ok_bipush (v := (100 : Int32)) dX5_sends_19 (by decide) ?_
      refine ok_callS (M' := mX5_outside) [vI x4, vI (100 : Int32)] dX5_sends_21 xw_205 fV_X5_outside fS_X5_outside (by decide) rfl (Nat.le_of_ble_eq_true rfl) (CI.to (CI.mono h ?_))
      intro r5 μ5 h
      refine ok_if_ne (tgt := 37) dX5_sends_24 (by decide) ⟨fun z => ?_, fun z => ?_⟩
      · have h := h.1 z
        refine ok_aload_n (j := 0) dX5_sends_37 rfl rfl ?_
        refine ok_bipush (v := (-2 : Int32)) dX5_sends_38 (by decide) ?_
        refine ok_callV (M' := mX5_failed) [vI (-2 : Int32)] dX5_sends_40 xw_208 fV_X5_failed fS_X5_failed rfl (by decide) v5 (ob_5 _ _ _) rfl (Nat.le_of_ble_eq_true rfl) (CI.to (CI.mono h ?_))
        intro r6 μ6 h
        exact ok_iret rfl dX5_sends_43 ⟨_, rfl, h⟩
      · have h := h.2 z
        refine ok_iload (j := 5) dX5_sends_27 rfl ?_
        refine ok_bipush (v := (100 : Int32)) dX5_sends_29 (by decide) ?_
        refine ok_callS (M' := mX5_outside) [vI x5, vI (100 : Int32)] dX5_sends_31 xw_205 fV_X5_outside fS_X5_outside (by decide) rfl (Nat.le_of_ble_eq_true rfl) (CI.to (CI.mono h ?_))
        intro r7 μ7 h
        refine ok_if_eq (tgt := 44) dX5_sends_34 (by decide) ⟨fun z => ?_, fun z => ?_⟩
        · have h := h.1 z
          refine ok_aload_n (j := 0) dX5_sends_44 rfl rfl ?_
          refine gf_5_1 dX5_sends_45 v5 xw_174 ?_
          refine gf_4_3 dX5_sends_48 (v4 (by decide)) xw_86 ?_
          refine ok_iload_n (j := 1) dX5_sends_51 rfl rfl ?_
          obtain ⟨hb8, h⟩ := h
          refine aa_42 dX5_sends_52 (v42 (by decide)) hb8 ?_
          refine ok_astore (ls2 := [(6, vR 2 0 (Int32.toNatClampNeg x1)), (0, vR 5 0 0), (1, vI x1), (2, vI x2), (3, vI x3), (4, vI x4), (5, vI x5)]) dX5_sends_53 (by decide) rfl ?_
          refine ok_iload_n (j := 3) dX5_sends_55 rfl rfl ?_
          refine ok_aload (j := 0) dX5_sends_56 rfl ?_
          refine gf_2_0 dX5_sends_58 (v2 (by decide) (vp_lt hb8)) xw_36 ?_
          refine ok_icmp_ge (tgt := 71) dX5_sends_61 (by decide) ⟨fun z => ?_, fun z => ?_⟩
          · have h := h.1 z
            refine ok_aload (j := 0) dX5_sends_71 rfl ?_
            refine gf_2_1 dX5_sends_73 (v2 (by decide) (vp_lt hb8)) xw_38 ?_
            refine ok_iconst (v := (2 : Int32)) dX5_sends_76 (by decide) ?_
            refine ok_icmp_ne (tgt := 87) dX5_sends_77 (by decide) ⟨fun z => ?_, fun z => ?_⟩
            · have h := h.1 z
              refine ok_aload_n (j := 1) dX5_sends_87 rfl rfl ?_
              refine gf_5_0 dX5_sends_88 v5 xw_173 ?_
              refine ok_iload_n (j := 4) dX5_sends_91 rfl rfl ?_
              obtain ⟨hb9, h⟩ := h
              refine aa_40 dX5_sends_92 v40 hb9 ?_
              refine ok_astore (ls2 := [(7, vR 1 0 (Int32.toNatClampNeg x3)), (6, vR 2 0 (Int32.toNatClampNeg x1)), (0, vR 5 0 0), (1, vI x1), (2, vI x2), (3, vI x3), (4, vI x4), (5, vI x5)]) dX5_sends_93 (by decide) rfl ?_
              refine ok_aload (j := 0) dX5_sends_95 rfl ?_
              refine ok_iload_n (j := 3) dX5_sends_97 rfl rfl ?_
              refine ok_iload_n (j := 4) dX5_sends_98 rfl rfl ?_
              refine ok_iload (j := 6) dX5_sends_99 rfl ?_
              refine ok_callV (M' := mX1_twinOf) [vI x1, vI x2, vI x4] dX5_sends_101 xw_272 fV_X1_twinOf fS_X1_twinOf rfl (by decide) (v1 (vp_lt hb9)) (ob_1 _ _ _) rfl (Nat.le_of_ble_eq_true rfl) (CI.to (CI.mono h ?_))
              intro r10 μ10 h
              refine ok_istore (ls2 := [(8, vI r10), (7, vR 1 0 (Int32.toNatClampNeg x3)), (6, vR 2 0 (Int32.toNatClampNeg x1)), (0, vR 5 0 0), (1, vI x1), (2, vI x2), (3, vI x3), (4, vI x4), (5, vI x5)]) dX5_sends_104 (by decide) rfl ?_
              refine ok_iload (j := 0) dX5_sends_106 rfl ?_
              refine ok_iconst (v := (-1 : Int32)) dX5_sends_108 (by decide) ?_
              refine ok_icmp_eq (tgt := 119) dX5_sends_109 (by decide) ⟨fun z => ?_, fun z => ?_⟩
              · have h := h.1 z
                refine ok_iload (j := 7) dX5_sends_119 rfl ?_
                refine ok_aload (j := 1) dX5_sends_121 rfl ?_
                refine ok_iload_n (j := 4) dX5_sends_123 rfl rfl ?_
                refine ok_iload_n (j := 5) dX5_sends_124 rfl rfl ?_
                refine ok_callV (M' := mX1_numberDue) [vI x1, vI x2] dX5_sends_125 xw_284 fV_X1_numberDue fS_X1_numberDue rfl (by decide) (v1 (vp_lt hb9)) (ob_1 _ _ _) rfl (Nat.le_of_ble_eq_true rfl) (CI.to (CI.mono h ?_))
                intro r11 μ11 h
                refine ok_icmp_eq (tgt := 138) dX5_sends_128 (by decide) ⟨fun z => ?_, fun z => ?_⟩
                · have h := h.1 z
                  refine ok_aload (j := 1) dX5_sends_138 rfl ?_
                  refine gf_1_0 dX5_sends_140 (v1 (vp_lt hb9)) xw_146 ?_
                  refine ok_aload_n (j := 3) dX5_sends_143 rfl rfl ?_
                  refine ok_iload_n (j := 6) dX5_sends_144 rfl rfl ?_
                  refine ok_callV (M' := mX5_reserve) [vI x3] dX5_sends_145 xw_288 fV_X5_reserve fS_X5_reserve rfl (by decide) v5 (ob_5 _ _ _) rfl (Nat.le_of_ble_eq_true rfl) (CI.to (CI.mono h ?_))
                  intro r12 μ12 h
                  refine ok_iadd dX5_sends_148 ?_
                  refine ok_bipush (v := (48 : Int32)) dX5_sends_149 (by decide) ?_
                  refine ok_icmp_lt (tgt := 161) dX5_sends_151 (by decide) ⟨fun z => ?_, fun z => ?_⟩
                  · have h := h.1 z
                    refine ok_aload_n (j := 3) dX5_sends_161 rfl rfl ?_
                    refine ok_callV (M' := mX5_keep) [] dX5_sends_162 xw_212 fV_X5_keep fS_X5_keep rfl (by decide) v5 (ob_5 _ _ _) rfl (Nat.le_of_ble_eq_true rfl) (CV.to (CV.mono h ?_))
                    intro μ13 h
                    refine ok_aload (j := 2) dX5_sends_165 rfl ?_
                    refine gf_2_1 dX5_sends_167 (v2 (by decide) (vp_lt hb8)) xw_38 ?_
                    refine ok_iconst (v := (1 : Int32)) dX5_sends_170 (by decide) ?_
                    refine ok_icmp_ne (tgt := 197) dX5_sends_171 (by decide) ⟨fun z => ?_, fun z => ?_⟩
                    · have h := h.1 z
                      refine ok_aload (j := 1) dX5_sends_197 rfl ?_
                      refine ok_iload_n (j := 4) dX5_sends_199 rfl rfl ?_
                      refine ok_iload_n (j := 5) dX5_sends_200 rfl rfl ?_
                      refine ok_iload (j := 7) dX5_sends_201 rfl ?_
                      refine ok_iload (j := 8) dX5_sends_203 rfl ?_
                      refine ok_aload (j := 2) dX5_sends_205 rfl ?_
                      refine gf_2_4 dX5_sends_207 (v2 (by decide) (vp_lt hb8)) xw_44 ?_
                      refine ok_iload_n (j := 6) dX5_sends_210 rfl rfl ?_
                      obtain ⟨hb14, h⟩ := h
                      refine al_17 dX5_sends_211 (v17 (by decide) (vp_lt hb8)) hb14 ?_
                      refine ok_callV (M' := mX1_append) [vI x1, vI x2, vI x4, vI x5, vI (μ13.1 17 0 (Int32.toNatClampNeg x1) (Int32.toNatClampNeg x3))] dX5_sends_212 xw_292 fV_X1_append fS_X1_append rfl (by decide) (v1 (vp_lt hb9)) (ob_1 _ _ _) rfl (Nat.le_of_ble_eq_true rfl) (CI.to (CI.mono h ?_))
                      intro r15 μ15 h
                      exact ok_iret rfl dX5_sends_215 ⟨_, rfl, h⟩
                    · have h := h.2 z
                      refine ok_aload (j := 2) dX5_sends_174 rfl ?_
                      refine gf_2_4 dX5_sends_176 (v2 (by decide) (vp_lt hb8)) xw_44 ?_
                      refine ok_iload_n (j := 6) dX5_sends_179 rfl rfl ?_
                      obtain ⟨hb16, h⟩ := h
                      refine al_17 dX5_sends_180 (v17 (by decide) (vp_lt hb8)) hb16 ?_
                      refine ok_iconst (v := (-1 : Int32)) dX5_sends_181 (by decide) ?_
                      refine ok_icmp_ne (tgt := 197) dX5_sends_182 (by decide) ⟨fun z => ?_, fun z => ?_⟩
                      · have h := h.1 z
                        refine ok_aload (j := 1) dX5_sends_197 rfl ?_
                        refine ok_iload_n (j := 4) dX5_sends_199 rfl rfl ?_
                        refine ok_iload_n (j := 5) dX5_sends_200 rfl rfl ?_
                        refine ok_iload (j := 7) dX5_sends_201 rfl ?_
                        refine ok_iload (j := 8) dX5_sends_203 rfl ?_
                        refine ok_aload (j := 2) dX5_sends_205 rfl ?_
                        refine gf_2_4 dX5_sends_207 (v2 (by decide) (vp_lt hb8)) xw_44 ?_
                        refine ok_iload_n (j := 6) dX5_sends_210 rfl rfl ?_
                        obtain ⟨hb17, h⟩ := h
                        refine al_17 dX5_sends_211 (v17 (by decide) (vp_lt hb8)) hb17 ?_
                        refine ok_callV (M' := mX1_append) [vI x1, vI x2, vI x4, vI x5, vI (μ13.1 17 0 (Int32.toNatClampNeg x1) (Int32.toNatClampNeg x3))] dX5_sends_212 xw_292 fV_X1_append fS_X1_append rfl (by decide) (v1 (vp_lt hb9)) (ob_1 _ _ _) rfl (Nat.le_of_ble_eq_true rfl) (CI.to (CI.mono h ?_))
                        intro r18 μ18 h
                        exact ok_iret rfl dX5_sends_215 ⟨_, rfl, h⟩
                      · have h := h.2 z
                        refine ok_aload (j := 2) dX5_sends_185 rfl ?_
                        refine gf_2_4 dX5_sends_187 (v2 (by decide) (vp_lt hb8)) xw_44 ?_
                        refine ok_iload_n (j := 6) dX5_sends_190 rfl rfl ?_
                        refine ok_aload (j := 1) dX5_sends_191 rfl ?_
                        refine gf_1_0 dX5_sends_193 (v1 (vp_lt hb9)) xw_146 ?_
                        obtain ⟨hb19, h⟩ := h
                        refine as_17 dX5_sends_196 (v17 (by decide) (vp_lt hb8)) hb19 ?_
                        refine ok_aload (j := 1) dX5_sends_197 rfl ?_
                        refine ok_iload_n (j := 4) dX5_sends_199 rfl rfl ?_
                        refine ok_iload_n (j := 5) dX5_sends_200 rfl rfl ?_
                        refine ok_iload (j := 7) dX5_sends_201 rfl ?_
                        refine ok_iload (j := 8) dX5_sends_203 rfl ?_
                        refine ok_aload (j := 2) dX5_sends_205 rfl ?_
                        refine gf_2_4 dX5_sends_207 (v2 (by decide) (vp_lt hb8)) xw_44 ?_
                        refine ok_iload_n (j := 6) dX5_sends_210 rfl rfl ?_
                        obtain ⟨hb20, h⟩ := h
                        refine al_17 dX5_sends_211 (v17 (by decide) (vp_lt hb8)) hb20 ?_
                        refine ok_callV (M' := mX1_append) [vI x1, vI x2, vI x4, vI x5, vI ((xUp μ13.1 17 0 (Int32.toNatClampNeg x1) (Int32.toNatClampNeg x3) (μ13.1 1 0 (Int32.toNatClampNeg x3) 0)) 17 0 (Int32.toNatClampNeg x1) (Int32.toNatClampNeg x3))] dX5_sends_212 xw_292 fV_X1_append fS_X1_append rfl (by decide) (v1 (vp_lt hb9)) (ob_1 _ _ _) rfl (Nat.le_of_ble_eq_true rfl) (CI.to (CI.mono h ?_))
                        intro r21 μ21 h
                        exact ok_iret rfl dX5_sends_215 ⟨_, rfl, h⟩
                  · have h := h.2 z
                    refine ok_aload_n (j := 3) dX5_sends_154 rfl rfl ?_
                    refine ok_bipush (v := (-4 : Int32)) dX5_sends_155 (by decide) ?_
                    refine ok_callV (M' := mX5_failed) [vI (-4 : Int32)] dX5_sends_157 xw_208 fV_X5_failed fS_X5_failed rfl (by decide) v5 (ob_5 _ _ _) rfl (Nat.le_of_ble_eq_true rfl) (CI.to (CI.mono h ?_))
                    intro r22 μ22 h
                    exact ok_iret rfl dX5_sends_160 ⟨_, rfl, h⟩
                · have h := h.2 z
                  refine ok_aload_n (j := 3) dX5_sends_131 rfl rfl ?_
                  refine ok_bipush (v := (-7 : Int32)) dX5_sends_132 (by decide) ?_
                  refine ok_callV (M' := mX5_failed) [vI (-7 : Int32)] dX5_sends_134 xw_208 fV_X5_failed fS_X5_failed rfl (by decide) v5 (ob_5 _ _ _) rfl (Nat.le_of_ble_eq_true rfl) (CI.to (CI.mono h ?_))
                  intro r23 μ23 h
                  exact ok_iret rfl dX5_sends_137 ⟨_, rfl, h⟩
              · have h := h.2 z
                refine ok_sipush (v := (1000 : Int32)) dX5_sends_112 (by decide) ?_
                refine ok_iload (j := 0) dX5_sends_115 rfl ?_
                refine ok_iadd dX5_sends_117 ?_
                exact ok_iret rfl dX5_sends_118 ⟨_, rfl, h⟩
            · have h := h.2 z
              refine ok_aload_n (j := 1) dX5_sends_80 rfl rfl ?_
              refine ok_bipush (v := (-3 : Int32)) dX5_sends_81 (by decide) ?_
              refine ok_callV (M' := mX5_failed) [vI (-3 : Int32)] dX5_sends_83 xw_208 fV_X5_failed fS_X5_failed rfl (by decide) v5 (ob_5 _ _ _) rfl (Nat.le_of_ble_eq_true rfl) (CI.to (CI.mono h ?_))
              intro r24 μ24 h
              exact ok_iret rfl dX5_sends_86 ⟨_, rfl, h⟩
          · have h := h.2 z
            refine ok_aload_n (j := 1) dX5_sends_64 rfl rfl ?_
            refine ok_bipush (v := (-6 : Int32)) dX5_sends_65 (by decide) ?_
            refine ok_callV (M' := mX5_failed) [vI (-6 : Int32)] dX5_sends_67 xw_208 fV_X5_failed fS_X5_failed rfl (by decide) v5 (ob_5 _ _ _) rfl (Nat.le_of_ble_eq_true rfl) (CI.to (CI.mono h ?_))
            intro r25 μ25 h
            exact ok_iret rfl dX5_sends_70 ⟨_, rfl, h⟩
        · have h := h.2 z
          refine ok_aload_n (j := 0) dX5_sends_37 rfl rfl ?_
          refine ok_bipush (v := (-2 : Int32)) dX5_sends_38 (by decide) ?_
          refine ok_callV (M' := mX5_failed) [vI (-2 : Int32)] dX5_sends_40 xw_208 fV_X5_failed fS_X5_failed rfl (by decide) v5 (ob_5 _ _ _) rfl (Nat.le_of_ble_eq_true rfl) (CI.to (CI.mono h ?_))
          intro r26 μ26 h
          exact ok_iret rfl dX5_sends_43 ⟨_, rfl, h⟩
set_option maxRecDepth 100000 in
set_option maxHeartbeats 4000000 in
theorem eX5_reserve {a b : xA} {h0 : Int64} {Q : Int32 → xM → Prop} {x1 : Int32}  (h : (CI mX5_producersIn [vR 5 0 0, vI (1 : Int32)] (a, (b, h0)) (fun r1 μ1 => xOk mX5_reserve 8 [(0, vR 5 0 0), (1, vI x1), (2, vI r1), (3, vI (0 : Int32))] [] μ1 (qI Q)))) : CI mX5_reserve [vR 5 0 0, vI x1] (a, (b, h0)) Q := by
  refine xCalls_of (by decide) (Nat.le_of_ble_eq_true rfl) ?_
  show xOk mX5_reserve 0 [(0, vR 5 0 0), (1, vI x1)] [] (a, (b, h0)) (qI Q)
  refine ok_aload_n (j := 0) dX5_reserve_0 rfl rfl ?_
  refine ok_iconst (v := (1 : Int32)) dX5_reserve_1 (by decide) ?_
  refine ok_callV (M' := mX5_producersIn) [vI (1 : Int32)] dX5_reserve_2 xw_264 fV_X5_producersIn fS_X5_producersIn rfl (by decide) v5 (ob_5 _ _ _) rfl (Nat.le_of_ble_eq_true rfl) (CI.to (CI.mono h ?_))
  intro r1 μ1 h
  refine ok_istore_n (ls2 := [(2, vI r1), (0, vR 5 0 0), (1, vI x1)]) dX5_reserve_5 rfl (by decide) rfl ?_
  refine ok_iconst (v := (0 : Int32)) dX5_reserve_6 (by decide) ?_
  refine ok_istore_n (ls2 := [(3, vI (0 : Int32)), (2, vI r1), (0, vR 5 0 0), (1, vI x1)]) dX5_reserve_7 rfl (by decide) rfl ?_
  exact ok_sub [(0, vR 5 0 0), (1, vI x1), (2, vI r1), (3, vI (0 : Int32))] [2, 3, 1, 0] rfl h
set_option maxRecDepth 100000 in
set_option maxHeartbeats 4000000 in
theorem rX5_reserve_8 {a b : xA} {h0 : Int64} {Q : Int32 → xM → Prop} {x1 : Int32} {x2 : Int32} {x3 : Int32}  (h : (((4 : Int32) ≤ x3 → Q x2 (a, (b, h0))) ∧ (¬ (4 : Int32) ≤ x3 → (vp_in x3 4 ∧ (vp_in x1 3 ∧ (((a 18 0 (Int32.toNatClampNeg x3) (Int32.toNatClampNeg x1)) = 0 → xOk mX5_reserve 8 [(0, vR 5 0 0), (1, vI x1), (2, vI x2), (3, vI (x3 + 1))] [] (a, (b, h0)) (qI Q)) ∧ (¬ (a 18 0 (Int32.toNatClampNeg x3) (Int32.toNatClampNeg x1)) = 0 → xOk mX5_reserve 8 [(0, vR 5 0 0), (1, vI x1), (2, vI (x2 + 1)), (3, vI (x3 + 1))] [] (a, (b, h0)) (qI Q)))))))) : xOk mX5_reserve 8 [(0, vR 5 0 0), (1, vI x1), (2, vI x2), (3, vI x3)] [] (a, (b, h0)) (qI Q) := by
  refine ok_iload_n (j := 3) dX5_reserve_8 rfl rfl ?_
  refine ok_iconst (v := (4 : Int32)) dX5_reserve_9 (by decide) ?_
  refine ok_icmp_ge (tgt := 39) dX5_reserve_10 (by decide) ⟨fun z => ?_, fun z => ?_⟩
  · have h := h.1 z
    refine ok_iload_n (j := 2) dX5_reserve_39 rfl rfl ?_
    exact ok_iret rfl dX5_reserve_40 ⟨_, rfl, h⟩
  · have h := h.2 z
    refine ok_aload_n (j := 0) dX5_reserve_13 rfl rfl ?_
    refine gf_5_1 dX5_reserve_14 v5 xw_174 ?_
    refine gf_4_3 dX5_reserve_17 (v4 (by decide)) xw_86 ?_
    refine ok_iload_n (j := 3) dX5_reserve_20 rfl rfl ?_
    obtain ⟨hb1, h⟩ := h
    refine aa_42 dX5_reserve_21 (v42 (by decide)) hb1 ?_
    refine gf_2_5 dX5_reserve_22 (v2 (by decide) (vp_lt hb1)) xw_46 ?_
    refine ok_iload_n (j := 1) dX5_reserve_25 rfl rfl ?_
    obtain ⟨hb2, h⟩ := h
    refine al_18 dX5_reserve_26 (v18 (by decide) (vp_lt hb1)) hb2 ?_
    refine ok_if_eq (tgt := 33) dX5_reserve_27 (by decide) ⟨fun z => ?_, fun z => ?_⟩
    · have h := h.1 z
      refine ok_iinc (j := 3) (v := (x3 + 1)) (ls2 := [(3, vI (x3 + 1)), (0, vR 5 0 0), (1, vI x1), (2, vI x2)]) dX5_reserve_33 rfl rfl (by decide) rfl ?_
      refine ok_goto (tgt := 8) dX5_reserve_36 (by decide) ?_
      exact ok_sub [(0, vR 5 0 0), (1, vI x1), (2, vI x2), (3, vI (x3 + 1))] [1, 2, 3, 0] rfl h
    · have h := h.2 z
      refine ok_iinc (j := 2) (v := (x2 + 1)) (ls2 := [(2, vI (x2 + 1)), (0, vR 5 0 0), (1, vI x1), (3, vI x3)]) dX5_reserve_30 rfl rfl (by decide) rfl ?_
      refine ok_iinc (j := 3) (v := (x3 + 1)) (ls2 := [(3, vI (x3 + 1)), (2, vI (x2 + 1)), (0, vR 5 0 0), (1, vI x1)]) dX5_reserve_33 rfl rfl (by decide) rfl ?_
      refine ok_goto (tgt := 8) dX5_reserve_36 (by decide) ?_
      exact ok_sub [(0, vR 5 0 0), (1, vI x1), (2, vI (x2 + 1)), (3, vI (x3 + 1))] [2, 3, 1, 0] rfl h
set_option maxRecDepth 100000 in
set_option maxHeartbeats 4000000 in
theorem eX5_ends {a b : xA} {h0 : Int64} {Q : Int32 → xM → Prop} {x1 : Int32} {x2 : Int32} {x3 : Int32}  (h : (CI mX5_wrongAge [vR 5 0 0, vI x1, vI x2] (a, (b, h0)) (fun r1 μ1 => ((¬ r1 = 0 → (CI mX5_failed [vR 5 0 0, vI (-2 : Int32)] μ1 (fun r2 μ2 => Q r2 μ2))) ∧ (r1 = 0 → (CI mX5_outside [vI x3, vI (2 : Int32)] μ1 (fun r3 μ3 => ((r3 = 0 → (vp_in x1 4 ∧ (((μ3.1 2 0 (Int32.toNatClampNeg x1) 0) ≤ x2 → (((μ3.1 2 0 (Int32.toNatClampNeg x1) 1) = (1 : Int32) → (CV mX5_keep [vR 5 0 0] μ3 (fun μ5 => (CI mX5_endDeed [vR 5 0 0, vR 2 0 (Int32.toNatClampNeg x1), vI x3] μ5 (fun r6 μ6 => Q r6 μ6))))) ∧ (¬ (μ3.1 2 0 (Int32.toNatClampNeg x1) 1) = (1 : Int32) → (CI mX5_failed [vR 5 0 0, vI (-3 : Int32)] μ3 (fun r7 μ7 => Q r7 μ7))))) ∧ (¬ (μ3.1 2 0 (Int32.toNatClampNeg x1) 0) ≤ x2 → (CI mX5_failed [vR 5 0 0, vI (-6 : Int32)] μ3 (fun r8 μ8 => Q r8 μ8)))))) ∧ (¬ r3 = 0 → (CI mX5_failed [vR 5 0 0, vI (-2 : Int32)] μ3 (fun r9 μ9 => Q r9 μ9))))))))))) : CI mX5_ends [vR 5 0 0, vI x1, vI x2, vI x3] (a, (b, h0)) Q := by
  refine xCalls_of (by decide) (Nat.le_of_ble_eq_true rfl) ?_
  show xOk mX5_ends 0 [(0, vR 5 0 0), (1, vI x1), (2, vI x2), (3, vI x3)] [] (a, (b, h0)) (qI Q)
  refine ok_aload_n (j := 0) dX5_ends_0 rfl rfl ?_
  refine ok_iload_n (j := 1) dX5_ends_1 rfl rfl ?_
  refine ok_iload_n (j := 2) dX5_ends_2 rfl rfl ?_
  refine ok_callV (M' := mX5_wrongAge) [vI x1, vI x2] dX5_ends_3 xw_260 fV_X5_wrongAge fS_X5_wrongAge rfl (by decide) v5 (ob_5 _ _ _) rfl (Nat.le_of_ble_eq_true rfl) (CI.to (CI.mono h ?_))
  intro r1 μ1 h
  refine ok_if_ne (tgt := 17) dX5_ends_6 (by decide) ⟨fun z => ?_, fun z => ?_⟩
  · have h := h.1 z
    refine ok_aload_n (j := 0) dX5_ends_17 rfl rfl ?_
    refine ok_bipush (v := (-2 : Int32)) dX5_ends_18 (by decide) ?_
    refine ok_callV (M' := mX5_failed) [vI (-2 : Int32)] dX5_ends_20 xw_208 fV_X5_failed fS_X5_failed rfl (by decide) v5 (ob_5 _ _ _) rfl (Nat.le_of_ble_eq_true rfl) (CI.to (CI.mono h ?_))
    intro r2 μ2 h
    exact ok_iret rfl dX5_ends_23 ⟨_, rfl, h⟩
  · have h := h.2 z
    refine ok_iload_n (j := 3) dX5_ends_9 rfl rfl ?_
    refine ok_iconst (v := (2 : Int32)) dX5_ends_10 (by decide) ?_
    refine ok_callS (M' := mX5_outside) [vI x3, vI (2 : Int32)] dX5_ends_11 xw_205 fV_X5_outside fS_X5_outside (by decide) rfl (Nat.le_of_ble_eq_true rfl) (CI.to (CI.mono h ?_))
    intro r3 μ3 h
    refine ok_if_eq (tgt := 24) dX5_ends_14 (by decide) ⟨fun z => ?_, fun z => ?_⟩
    · have h := h.1 z
      refine ok_aload_n (j := 0) dX5_ends_24 rfl rfl ?_
      refine gf_5_1 dX5_ends_25 v5 xw_174 ?_
      refine gf_4_3 dX5_ends_28 (v4 (by decide)) xw_86 ?_
      refine ok_iload_n (j := 1) dX5_ends_31 rfl rfl ?_
      obtain ⟨hb4, h⟩ := h
      refine aa_42 dX5_ends_32 (v42 (by decide)) hb4 ?_
      refine ok_astore (ls2 := [(4, vR 2 0 (Int32.toNatClampNeg x1)), (0, vR 5 0 0), (1, vI x1), (2, vI x2), (3, vI x3)]) dX5_ends_33 (by decide) rfl ?_
      refine ok_iload_n (j := 3) dX5_ends_35 rfl rfl ?_
      refine ok_aload (j := 0) dX5_ends_36 rfl ?_
      refine gf_2_0 dX5_ends_38 (v2 (by decide) (vp_lt hb4)) xw_36 ?_
      refine ok_icmp_ge (tgt := 51) dX5_ends_41 (by decide) ⟨fun z => ?_, fun z => ?_⟩
      · have h := h.1 z
        refine ok_aload (j := 0) dX5_ends_51 rfl ?_
        refine gf_2_1 dX5_ends_53 (v2 (by decide) (vp_lt hb4)) xw_38 ?_
        refine ok_iconst (v := (1 : Int32)) dX5_ends_56 (by decide) ?_
        refine ok_icmp_eq (tgt := 67) dX5_ends_57 (by decide) ⟨fun z => ?_, fun z => ?_⟩
        · have h := h.1 z
          refine ok_aload_n (j := 1) dX5_ends_67 rfl rfl ?_
          refine ok_callV (M' := mX5_keep) [] dX5_ends_68 xw_212 fV_X5_keep fS_X5_keep rfl (by decide) v5 (ob_5 _ _ _) rfl (Nat.le_of_ble_eq_true rfl) (CV.to (CV.mono h ?_))
          intro μ5 h
          refine ok_aload_n (j := 1) dX5_ends_71 rfl rfl ?_
          refine ok_aload (j := 0) dX5_ends_72 rfl ?_
          refine ok_iload_n (j := 4) dX5_ends_74 rfl rfl ?_
          refine ok_callV (M' := mX5_endDeed) [vR 2 0 (Int32.toNatClampNeg x1), vI x3] dX5_ends_75 xw_236 fV_X5_endDeed fS_X5_endDeed rfl (by decide) v5 (ob_5 _ _ _) rfl (Nat.le_of_ble_eq_true rfl) (CI.to (CI.mono h ?_))
          intro r6 μ6 h
          exact ok_iret rfl dX5_ends_78 ⟨_, rfl, h⟩
        · have h := h.2 z
          refine ok_aload_n (j := 1) dX5_ends_60 rfl rfl ?_
          refine ok_bipush (v := (-3 : Int32)) dX5_ends_61 (by decide) ?_
          refine ok_callV (M' := mX5_failed) [vI (-3 : Int32)] dX5_ends_63 xw_208 fV_X5_failed fS_X5_failed rfl (by decide) v5 (ob_5 _ _ _) rfl (Nat.le_of_ble_eq_true rfl) (CI.to (CI.mono h ?_))
          intro r7 μ7 h
          exact ok_iret rfl dX5_ends_66 ⟨_, rfl, h⟩
      · have h := h.2 z
        refine ok_aload_n (j := 1) dX5_ends_44 rfl rfl ?_
        refine ok_bipush (v := (-6 : Int32)) dX5_ends_45 (by decide) ?_
        refine ok_callV (M' := mX5_failed) [vI (-6 : Int32)] dX5_ends_47 xw_208 fV_X5_failed fS_X5_failed rfl (by decide) v5 (ob_5 _ _ _) rfl (Nat.le_of_ble_eq_true rfl) (CI.to (CI.mono h ?_))
        intro r8 μ8 h
        exact ok_iret rfl dX5_ends_50 ⟨_, rfl, h⟩
    · have h := h.2 z
      refine ok_aload_n (j := 0) dX5_ends_17 rfl rfl ?_
      refine ok_bipush (v := (-2 : Int32)) dX5_ends_18 (by decide) ?_
      refine ok_callV (M' := mX5_failed) [vI (-2 : Int32)] dX5_ends_20 xw_208 fV_X5_failed fS_X5_failed rfl (by decide) v5 (ob_5 _ _ _) rfl (Nat.le_of_ble_eq_true rfl) (CI.to (CI.mono h ?_))
      intro r9 μ9 h
      exact ok_iret rfl dX5_ends_23 ⟨_, rfl, h⟩
set_option maxRecDepth 100000 in
set_option maxHeartbeats 4000000 in
theorem eX5_carries {a b : xA} {h0 : Int64} {Q : Int32 → xM → Prop} {x1 : Int32} {x2 : Int32} {x3 : Int32} {x4 : Int32}  (h : (CI mX5_wrongAge [vR 5 0 0, vI x1, vI x2] (a, (b, h0)) (fun r1 μ1 => ((¬ r1 = 0 → (CI mX5_failed [vR 5 0 0, vI (-2 : Int32)] μ1 (fun r2 μ2 => Q r2 μ2))) ∧ (r1 = 0 → (CI mX5_outside [vI x3, vI (2 : Int32)] μ1 (fun r3 μ3 => ((¬ r3 = 0 → (CI mX5_failed [vR 5 0 0, vI (-2 : Int32)] μ3 (fun r4 μ4 => Q r4 μ4))) ∧ (r3 = 0 → (CI mX5_outside [vI x4, vI (3 : Int32)] μ3 (fun r5 μ5 => ((r5 = 0 → (vp_in x1 4 ∧ (((μ5.1 2 0 (Int32.toNatClampNeg x1) 0) ≤ x2 → (((μ5.1 2 0 (Int32.toNatClampNeg x1) 1) = (1 : Int32) → (CV mX5_keep [vR 5 0 0] μ5 (fun μ7 => (vp_in x3 2 ∧ (vp_in x4 3 ∧ (vp_in ((x3 * (3 : Int32)) + x4) 6 ∧ Q (μ7.1 20 0 (Int32.toNatClampNeg x3) (Int32.toNatClampNeg x4)) ((xUp μ7.1 19 0 (Int32.toNatClampNeg x1) (Int32.toNatClampNeg ((x3 * (3 : Int32)) + x4)) (μ7.1 20 0 (Int32.toNatClampNeg x3) (Int32.toNatClampNeg x4))), μ7.2))))))) ∧ (¬ (μ5.1 2 0 (Int32.toNatClampNeg x1) 1) = (1 : Int32) → (CI mX5_failed [vR 5 0 0, vI (-3 : Int32)] μ5 (fun r11 μ11 => Q r11 μ11))))) ∧ (¬ (μ5.1 2 0 (Int32.toNatClampNeg x1) 0) ≤ x2 → (CI mX5_failed [vR 5 0 0, vI (-6 : Int32)] μ5 (fun r12 μ12 => Q r12 μ12)))))) ∧ (¬ r5 = 0 → (CI mX5_failed [vR 5 0 0, vI (-2 : Int32)] μ5 (fun r13 μ13 => Q r13 μ13))))))))))))))) : CI mX5_carries [vR 5 0 0, vI x1, vI x2, vI x3, vI x4] (a, (b, h0)) Q := by
  refine xCalls_of (by decide) (Nat.le_of_ble_eq_true rfl) ?_
  show xOk mX5_carries 0 [(0, vR 5 0 0), (1, vI x1), (2, vI x2), (3, vI x3), (4, vI x4)] [] (a, (b, h0)) (qI Q)
  refine ok_aload_n (j := 0) dX5_carries_0 rfl rfl ?_
  refine ok_iload_n (j := 1) dX5_carries_1 rfl rfl ?_
  refine ok_iload_n (j := 2) dX5_carries_2 rfl rfl ?_
  refine ok_callV (M' := mX5_wrongAge) [vI x1, vI x2] dX5_carries_3 xw_260 fV_X5_wrongAge fS_X5_wrongAge rfl (by decide) v5 (ob_5 _ _ _) rfl (Nat.le_of_ble_eq_true rfl) (CI.to (CI.mono h ?_))
  intro r1 μ1 h
  refine ok_if_ne (tgt := 26) dX5_carries_6 (by decide) ⟨fun z => ?_, fun z => ?_⟩
  · have h := h.1 z
    refine ok_aload_n (j := 0) dX5_carries_26 rfl rfl ?_
    refine ok_bipush (v := (-2 : Int32)) dX5_carries_27 (by decide) ?_
    refine ok_callV (M' := mX5_failed) [vI (-2 : Int32)] dX5_carries_29 xw_208 fV_X5_failed fS_X5_failed rfl (by decide) v5 (ob_5 _ _ _) rfl (Nat.le_of_ble_eq_true rfl) (CI.to (CI.mono h ?_))
    intro r2 μ2 h
    exact ok_iret rfl dX5_carries_32 ⟨_, rfl, h⟩
  · have h := h.2 z
    refine ok_iload_n (j := 3) dX5_carries_9 rfl rfl ?_
    refine ok_iconst (v := (2 : Int32)) dX5_carries_10 (by decide) ?_
    refine ok_callS (M' := mX5_outside) [vI x3, vI (2 : Int32)] dX5_carries_11 xw_205 fV_X5_outside fS_X5_outside (by decide) rfl (Nat.le_of_ble_eq_true rfl) (CI.to (CI.mono h ?_))
    intro r3 μ3 h
    refine ok_if_ne (tgt := 26) dX5_carries_14 (by decide) ⟨fun z => ?_, fun z => ?_⟩
    · have h := h.1 z
      refine ok_aload_n (j := 0) dX5_carries_26 rfl rfl ?_
      refine ok_bipush (v := (-2 : Int32)) dX5_carries_27 (by decide) ?_
      refine ok_callV (M' := mX5_failed) [vI (-2 : Int32)] dX5_carries_29 xw_208 fV_X5_failed fS_X5_failed rfl (by decide) v5 (ob_5 _ _ _) rfl (Nat.le_of_ble_eq_true rfl) (CI.to (CI.mono h ?_))
      intro r4 μ4 h
      exact ok_iret rfl dX5_carries_32 ⟨_, rfl, h⟩
    · have h := h.2 z
      refine ok_iload (j := 4) dX5_carries_17 rfl ?_
      refine ok_iconst (v := (3 : Int32)) dX5_carries_19 (by decide) ?_
      refine ok_callS (M' := mX5_outside) [vI x4, vI (3 : Int32)] dX5_carries_20 xw_205 fV_X5_outside fS_X5_outside (by decide) rfl (Nat.le_of_ble_eq_true rfl) (CI.to (CI.mono h ?_))
      intro r5 μ5 h
      refine ok_if_eq (tgt := 33) dX5_carries_23 (by decide) ⟨fun z => ?_, fun z => ?_⟩
      · have h := h.1 z
        refine ok_aload_n (j := 0) dX5_carries_33 rfl rfl ?_
        refine gf_5_1 dX5_carries_34 v5 xw_174 ?_
        refine gf_4_3 dX5_carries_37 (v4 (by decide)) xw_86 ?_
        refine ok_iload_n (j := 1) dX5_carries_40 rfl rfl ?_
        obtain ⟨hb6, h⟩ := h
        refine aa_42 dX5_carries_41 (v42 (by decide)) hb6 ?_
        refine ok_astore (ls2 := [(5, vR 2 0 (Int32.toNatClampNeg x1)), (0, vR 5 0 0), (1, vI x1), (2, vI x2), (3, vI x3), (4, vI x4)]) dX5_carries_42 (by decide) rfl ?_
        refine ok_iload_n (j := 3) dX5_carries_44 rfl rfl ?_
        refine ok_aload (j := 0) dX5_carries_45 rfl ?_
        refine gf_2_0 dX5_carries_47 (v2 (by decide) (vp_lt hb6)) xw_36 ?_
        refine ok_icmp_ge (tgt := 60) dX5_carries_50 (by decide) ⟨fun z => ?_, fun z => ?_⟩
        · have h := h.1 z
          refine ok_aload (j := 0) dX5_carries_60 rfl ?_
          refine gf_2_1 dX5_carries_62 (v2 (by decide) (vp_lt hb6)) xw_38 ?_
          refine ok_iconst (v := (1 : Int32)) dX5_carries_65 (by decide) ?_
          refine ok_icmp_eq (tgt := 76) dX5_carries_66 (by decide) ⟨fun z => ?_, fun z => ?_⟩
          · have h := h.1 z
            refine ok_aload_n (j := 1) dX5_carries_76 rfl rfl ?_
            refine ok_callV (M' := mX5_keep) [] dX5_carries_77 xw_212 fV_X5_keep fS_X5_keep rfl (by decide) v5 (ob_5 _ _ _) rfl (Nat.le_of_ble_eq_true rfl) (CV.to (CV.mono h ?_))
            intro μ7 h
            refine ok_aload_n (j := 1) dX5_carries_80 rfl rfl ?_
            refine gf_5_1 dX5_carries_81 v5 xw_174 ?_
            refine gf_4_4 dX5_carries_84 (v4 (by decide)) xw_88 ?_
            refine ok_iload_n (j := 4) dX5_carries_87 rfl rfl ?_
            obtain ⟨hb8, h⟩ := h
            refine aa_43 dX5_carries_88 (v43 (by decide)) hb8 ?_
            refine gf_0_0 dX5_carries_89 (v0 (by decide) (vp_lt hb8)) xw_71 ?_
            refine ok_iload (j := 5) dX5_carries_92 rfl ?_
            obtain ⟨hb9, h⟩ := h
            refine al_20 dX5_carries_94 (v20 (by decide) (vp_lt hb8)) hb9 ?_
            refine ok_istore (ls2 := [(6, vI (μ7.1 20 0 (Int32.toNatClampNeg x3) (Int32.toNatClampNeg x4))), (5, vR 2 0 (Int32.toNatClampNeg x1)), (0, vR 5 0 0), (1, vI x1), (2, vI x2), (3, vI x3), (4, vI x4)]) dX5_carries_95 (by decide) rfl ?_
            refine ok_aload (j := 1) dX5_carries_97 rfl ?_
            refine gf_2_6 dX5_carries_99 (v2 (by decide) (vp_lt hb6)) xw_48 ?_
            refine ok_iload_n (j := 5) dX5_carries_102 rfl rfl ?_
            refine ok_iconst (v := (3 : Int32)) dX5_carries_103 (by decide) ?_
            refine ok_imul dX5_carries_104 ?_
            refine ok_iload (j := 6) dX5_carries_105 rfl ?_
            refine ok_iadd dX5_carries_107 ?_
            refine ok_iload (j := 0) dX5_carries_108 rfl ?_
            obtain ⟨hb10, h⟩ := h
            refine as_19 dX5_carries_110 (v19 (by decide) (vp_lt hb6)) hb10 ?_
            refine ok_iload (j := 0) dX5_carries_111 rfl ?_
            exact ok_iret rfl dX5_carries_113 ⟨_, rfl, h⟩
          · have h := h.2 z
            refine ok_aload_n (j := 1) dX5_carries_69 rfl rfl ?_
            refine ok_bipush (v := (-3 : Int32)) dX5_carries_70 (by decide) ?_
            refine ok_callV (M' := mX5_failed) [vI (-3 : Int32)] dX5_carries_72 xw_208 fV_X5_failed fS_X5_failed rfl (by decide) v5 (ob_5 _ _ _) rfl (Nat.le_of_ble_eq_true rfl) (CI.to (CI.mono h ?_))
            intro r11 μ11 h
            exact ok_iret rfl dX5_carries_75 ⟨_, rfl, h⟩
        · have h := h.2 z
          refine ok_aload_n (j := 1) dX5_carries_53 rfl rfl ?_
          refine ok_bipush (v := (-6 : Int32)) dX5_carries_54 (by decide) ?_
          refine ok_callV (M' := mX5_failed) [vI (-6 : Int32)] dX5_carries_56 xw_208 fV_X5_failed fS_X5_failed rfl (by decide) v5 (ob_5 _ _ _) rfl (Nat.le_of_ble_eq_true rfl) (CI.to (CI.mono h ?_))
          intro r12 μ12 h
          exact ok_iret rfl dX5_carries_59 ⟨_, rfl, h⟩
      · have h := h.2 z
        refine ok_aload_n (j := 0) dX5_carries_26 rfl rfl ?_
        refine ok_bipush (v := (-2 : Int32)) dX5_carries_27 (by decide) ?_
        refine ok_callV (M' := mX5_failed) [vI (-2 : Int32)] dX5_carries_29 xw_208 fV_X5_failed fS_X5_failed rfl (by decide) v5 (ob_5 _ _ _) rfl (Nat.le_of_ble_eq_true rfl) (CI.to (CI.mono h ?_))
        intro r13 μ13 h
        exact ok_iret rfl dX5_carries_32 ⟨_, rfl, h⟩
set_option maxRecDepth 100000 in
set_option maxHeartbeats 4000000 in
theorem eX5_ticks {a b : xA} {h0 : Int64} {Q : Int32 → xM → Prop} {x1 : Int32}  (h : ((x1 < (1 : Int32) → (CI mX5_failed [vR 5 0 0, vI (-2 : Int32)] (a, (b, h0)) (fun r1 μ1 => Q r1 μ1))) ∧ (¬ x1 < (1 : Int32) → ((x1 ≤ (20 : Int32) → (CV mX5_keep [vR 5 0 0] (a, (b, h0)) (fun μ2 => xOk mX5_ticks 26 [(0, vR 5 0 0), (1, vI x1), (2, vI (0 : Int32)), (3, vI (0 : Int32))] [] μ2 (qI Q)))) ∧ (¬ x1 ≤ (20 : Int32) → (CI mX5_failed [vR 5 0 0, vI (-2 : Int32)] (a, (b, h0)) (fun r3 μ3 => Q r3 μ3))))))) : CI mX5_ticks [vR 5 0 0, vI x1] (a, (b, h0)) Q := by
  refine xCalls_of (by decide) (Nat.le_of_ble_eq_true rfl) ?_
  show xOk mX5_ticks 0 [(0, vR 5 0 0), (1, vI x1)] [] (a, (b, h0)) (qI Q)
  refine ok_iload_n (j := 1) dX5_ticks_0 rfl rfl ?_
  refine ok_iconst (v := (1 : Int32)) dX5_ticks_1 (by decide) ?_
  refine ok_icmp_lt (tgt := 11) dX5_ticks_2 (by decide) ⟨fun z => ?_, fun z => ?_⟩
  · have h := h.1 z
    refine ok_aload_n (j := 0) dX5_ticks_11 rfl rfl ?_
    refine ok_bipush (v := (-2 : Int32)) dX5_ticks_12 (by decide) ?_
    refine ok_callV (M' := mX5_failed) [vI (-2 : Int32)] dX5_ticks_14 xw_208 fV_X5_failed fS_X5_failed rfl (by decide) v5 (ob_5 _ _ _) rfl (Nat.le_of_ble_eq_true rfl) (CI.to (CI.mono h ?_))
    intro r1 μ1 h
    exact ok_iret rfl dX5_ticks_17 ⟨_, rfl, h⟩
  · have h := h.2 z
    refine ok_iload_n (j := 1) dX5_ticks_5 rfl rfl ?_
    refine ok_bipush (v := (20 : Int32)) dX5_ticks_6 (by decide) ?_
    refine ok_icmp_le (tgt := 18) dX5_ticks_8 (by decide) ⟨fun z => ?_, fun z => ?_⟩
    · have h := h.1 z
      refine ok_aload_n (j := 0) dX5_ticks_18 rfl rfl ?_
      refine ok_callV (M' := mX5_keep) [] dX5_ticks_19 xw_212 fV_X5_keep fS_X5_keep rfl (by decide) v5 (ob_5 _ _ _) rfl (Nat.le_of_ble_eq_true rfl) (CV.to (CV.mono h ?_))
      intro μ2 h
      refine ok_iconst (v := (0 : Int32)) dX5_ticks_22 (by decide) ?_
      refine ok_istore_n (ls2 := [(2, vI (0 : Int32)), (0, vR 5 0 0), (1, vI x1)]) dX5_ticks_23 rfl (by decide) rfl ?_
      refine ok_iconst (v := (0 : Int32)) dX5_ticks_24 (by decide) ?_
      refine ok_istore_n (ls2 := [(3, vI (0 : Int32)), (2, vI (0 : Int32)), (0, vR 5 0 0), (1, vI x1)]) dX5_ticks_25 rfl (by decide) rfl ?_
      exact ok_sub [(0, vR 5 0 0), (1, vI x1), (2, vI (0 : Int32)), (3, vI (0 : Int32))] [2, 3, 1, 0] rfl h
    · have h := h.2 z
      refine ok_aload_n (j := 0) dX5_ticks_11 rfl rfl ?_
      refine ok_bipush (v := (-2 : Int32)) dX5_ticks_12 (by decide) ?_
      refine ok_callV (M' := mX5_failed) [vI (-2 : Int32)] dX5_ticks_14 xw_208 fV_X5_failed fS_X5_failed rfl (by decide) v5 (ob_5 _ _ _) rfl (Nat.le_of_ble_eq_true rfl) (CI.to (CI.mono h ?_))
      intro r3 μ3 h
      exact ok_iret rfl dX5_ticks_17 ⟨_, rfl, h⟩
set_option maxRecDepth 100000 in
set_option maxHeartbeats 4000000 in
theorem rX5_ticks_26 {a b : xA} {h0 : Int64} {Q : Int32 → xM → Prop} {x1 : Int32} {x2 : Int32} {x3 : Int32}  (h : ((x1 ≤ x3 → Q x2 (a, (b, h0))) ∧ (¬ x1 ≤ x3 → (CI mX5_writeMarkers [vR 5 0 0] ((xUp a 4 0 0 0 ((a 4 0 0 0) + (1 : Int32))), (b, h0)) (fun r1 μ1 => (CV mX5_abortHanging [vR 5 0 0] μ1 (fun μ2 => xOk mX5_ticks 26 [(0, vR 5 0 0), (1, vI x1), (2, vI (x2 + r1)), (3, vI (x3 + 1))] [] μ2 (qI Q)))))))) : xOk mX5_ticks 26 [(0, vR 5 0 0), (1, vI x1), (2, vI x2), (3, vI x3)] [] (a, (b, h0)) (qI Q) := by
  refine ok_iload_n (j := 3) dX5_ticks_26 rfl rfl ?_
  refine ok_iload_n (j := 1) dX5_ticks_27 rfl rfl ?_
  refine ok_icmp_ge (tgt := 61) dX5_ticks_28 (by decide) ⟨fun z => ?_, fun z => ?_⟩
  · have h := h.1 z
    refine ok_iload_n (j := 2) dX5_ticks_61 rfl rfl ?_
    exact ok_iret rfl dX5_ticks_62 ⟨_, rfl, h⟩
  · have h := h.2 z
    refine ok_aload_n (j := 0) dX5_ticks_31 rfl rfl ?_
    refine gf_5_1 dX5_ticks_32 v5 xw_174 ?_
    refine ok_dup dX5_ticks_35 rfl ?_
    refine gf_4_0 dX5_ticks_36 (v4 (by decide)) xw_80 ?_
    refine ok_iconst (v := (1 : Int32)) dX5_ticks_39 (by decide) ?_
    refine ok_iadd dX5_ticks_40 ?_
    refine pf_4_0 dX5_ticks_41 (v4 (by decide)) xw_80 ?_
    refine ok_iload_n (j := 2) dX5_ticks_44 rfl rfl ?_
    refine ok_aload_n (j := 0) dX5_ticks_45 rfl rfl ?_
    refine ok_callV (M' := mX5_writeMarkers) [] dX5_ticks_46 xw_308 fV_X5_writeMarkers fS_X5_writeMarkers rfl (by decide) v5 (ob_5 _ _ _) rfl (Nat.le_of_ble_eq_true rfl) (CI.to (CI.mono h ?_))
    intro r1 μ1 h
    refine ok_iadd dX5_ticks_49 ?_
    refine ok_istore_n (ls2 := [(2, vI (x2 + r1)), (0, vR 5 0 0), (1, vI x1), (3, vI x3)]) dX5_ticks_50 rfl (by decide) rfl ?_
    refine ok_aload_n (j := 1) dX5_ticks_51 rfl rfl ?_
    refine ok_callV (M' := mX5_abortHanging) [] dX5_ticks_52 xw_325 fV_X5_abortHanging fS_X5_abortHanging rfl (by decide) v5 (ob_5 _ _ _) rfl (Nat.le_of_ble_eq_true rfl) (CV.to (CV.mono h ?_))
    intro μ2 h
    refine ok_iinc (j := 3) (v := (x3 + 1)) (ls2 := [(3, vI (x3 + 1)), (2, vI (x2 + r1)), (0, vR 5 0 0), (1, vI x1)]) dX5_ticks_55 rfl rfl (by decide) rfl ?_
    refine ok_goto (tgt := 26) dX5_ticks_58 (by decide) ?_
    exact ok_sub [(0, vR 5 0 0), (1, vI x1), (2, vI (x2 + r1)), (3, vI (x3 + 1))] [2, 3, 1, 0] rfl h
set_option maxRecDepth 100000 in
set_option maxHeartbeats 4000000 in
theorem eX5_writeMarkers {a b : xA} {h0 : Int64} {Q : Int32 → xM → Prop}   (h : xOk mX5_writeMarkers 4 [(0, vR 5 0 0), (1, vI (0 : Int32)), (2, vI (0 : Int32))] [] (a, (b, h0)) (qI Q)) : CI mX5_writeMarkers [vR 5 0 0] (a, (b, h0)) Q := by
  refine xCalls_of (by decide) (Nat.le_of_ble_eq_true rfl) ?_
  show xOk mX5_writeMarkers 0 [(0, vR 5 0 0)] [] (a, (b, h0)) (qI Q)
  refine ok_iconst (v := (0 : Int32)) dX5_writeMarkers_0 (by decide) ?_
  refine ok_istore_n (ls2 := [(1, vI (0 : Int32)), (0, vR 5 0 0)]) dX5_writeMarkers_1 rfl (by decide) rfl ?_
  refine ok_iconst (v := (0 : Int32)) dX5_writeMarkers_2 (by decide) ?_
  refine ok_istore_n (ls2 := [(2, vI (0 : Int32)), (1, vI (0 : Int32)), (0, vR 5 0 0)]) dX5_writeMarkers_3 rfl (by decide) rfl ?_
  exact ok_sub [(0, vR 5 0 0), (1, vI (0 : Int32)), (2, vI (0 : Int32))] [2, 1, 0] rfl h
set_option maxRecDepth 100000 in
set_option maxHeartbeats 4000000 in
theorem rX5_writeMarkers_4 {a b : xA} {h0 : Int64} {Q : Int32 → xM → Prop} {x1 : Int32} {x2 : Int32}  (h : (((4 : Int32) ≤ x2 → Q x1 (a, (b, h0))) ∧ (¬ (4 : Int32) ≤ x2 → (vp_in x2 4 ∧ (CI mX2_partDueAt [vR 2 0 (Int32.toNatClampNeg x2), vI (a 4 0 0 0)] (a, (b, h0)) (fun r2 μ2 => ((r2 = (-1 : Int32) → xOk mX5_writeMarkers 4 [(0, vR 5 0 0), (1, vI x1), (2, vI (x2 + 1))] [] μ2 (qI Q)) ∧ (¬ r2 = (-1 : Int32) → (vp_in r2 3 ∧ (vp_in r2 3 ∧ (CV mX1_appendMarker [vR 1 0 (Int32.toNatClampNeg r2), vI x2, vI (μ2.1 2 0 (Int32.toNatClampNeg x2) 0), vI (μ2.1 2 0 (Int32.toNatClampNeg x2) 2), vI (μ2.1 17 0 (Int32.toNatClampNeg x2) (Int32.toNatClampNeg r2))] μ2 (fun μ5 => (vp_in r2 3 ∧ (CI mX2_markersDue [vR 2 0 (Int32.toNatClampNeg x2)] ((xUp μ5.1 18 0 (Int32.toNatClampNeg x2) (Int32.toNatClampNeg r2) (0 : Int32)), μ5.2) (fun r7 μ7 => ((¬ r7 = 0 → xOk mX5_writeMarkers 4 [(0, vR 5 0 0), (1, vI (x1 + 1)), (2, vI (x2 + 1))] [] μ7 (qI Q)) ∧ (r7 = 0 → (CV mX5_finishDeed [vR 5 0 0, vR 2 0 (Int32.toNatClampNeg x2)] μ7 (fun μ8 => xOk mX5_writeMarkers 4 [(0, vR 5 0 0), (1, vI (x1 + 1)), (2, vI (x2 + 1))] [] μ8 (qI Q)))))))))))))))))))) : xOk mX5_writeMarkers 4 [(0, vR 5 0 0), (1, vI x1), (2, vI x2)] [] (a, (b, h0)) (qI Q) := by
  refine ok_iload_n (j := 2) dX5_writeMarkers_4 rfl rfl ?_
  refine ok_iconst (v := (4 : Int32)) dX5_writeMarkers_5 (by decide) ?_
  refine ok_icmp_ge (tgt := 93) dX5_writeMarkers_6 (by decide) ⟨fun z => ?_, fun z => ?_⟩
  · have h := h.1 z
    refine ok_iload_n (j := 1) dX5_writeMarkers_93 rfl rfl ?_
    exact ok_iret rfl dX5_writeMarkers_94 ⟨_, rfl, h⟩
  · have h := h.2 z
    refine ok_aload_n (j := 0) dX5_writeMarkers_9 rfl rfl ?_
    refine gf_5_1 dX5_writeMarkers_10 v5 xw_174 ?_
    refine gf_4_3 dX5_writeMarkers_13 (v4 (by decide)) xw_86 ?_
    refine ok_iload_n (j := 2) dX5_writeMarkers_16 rfl rfl ?_
    obtain ⟨hb1, h⟩ := h
    refine aa_42 dX5_writeMarkers_17 (v42 (by decide)) hb1 ?_
    refine ok_astore_n (ls2 := [(3, vR 2 0 (Int32.toNatClampNeg x2)), (0, vR 5 0 0), (1, vI x1), (2, vI x2)]) dX5_writeMarkers_18 rfl (by decide) rfl ?_
    refine ok_aload_n (j := 0) dX5_writeMarkers_19 rfl rfl ?_
    refine ok_aload_n (j := 1) dX5_writeMarkers_20 rfl rfl ?_
    refine gf_5_1 dX5_writeMarkers_21 v5 xw_174 ?_
    refine gf_4_0 dX5_writeMarkers_24 (v4 (by decide)) xw_80 ?_
    refine ok_callV (M' := mX2_partDueAt) [vI (a 4 0 0 0)] dX5_writeMarkers_27 xw_312 fV_X2_partDueAt fS_X2_partDueAt rfl (by decide) (v2 (by decide) (vp_lt hb1)) (ob_2 _ _ _) rfl (Nat.le_of_ble_eq_true rfl) (CI.to (CI.mono h ?_))
    intro r2 μ2 h
    refine ok_istore (ls2 := [(4, vI r2), (3, vR 2 0 (Int32.toNatClampNeg x2)), (0, vR 5 0 0), (1, vI x1), (2, vI x2)]) dX5_writeMarkers_30 (by decide) rfl ?_
    refine ok_iload (j := 0) dX5_writeMarkers_32 rfl ?_
    refine ok_iconst (v := (-1 : Int32)) dX5_writeMarkers_34 (by decide) ?_
    refine ok_icmp_eq (tgt := 87) dX5_writeMarkers_35 (by decide) ⟨fun z => ?_, fun z => ?_⟩
    · have h := h.1 z
      refine ok_iinc (j := 4) (v := (x2 + 1)) (ls2 := [(2, vI (x2 + 1)), (4, vI r2), (3, vR 2 0 (Int32.toNatClampNeg x2)), (0, vR 5 0 0), (1, vI x1)]) dX5_writeMarkers_87 rfl rfl (by decide) rfl ?_
      refine ok_goto (tgt := 4) dX5_writeMarkers_90 (by decide) ?_
      exact ok_sub [(0, vR 5 0 0), (1, vI x1), (2, vI (x2 + 1))] [3, 4, 0] rfl h
    · have h := h.2 z
      refine ok_aload_n (j := 2) dX5_writeMarkers_38 rfl rfl ?_
      refine gf_5_0 dX5_writeMarkers_39 v5 xw_173 ?_
      refine ok_iload (j := 0) dX5_writeMarkers_42 rfl ?_
      obtain ⟨hb3, h⟩ := h
      refine aa_40 dX5_writeMarkers_44 v40 hb3 ?_
      refine ok_iload_n (j := 4) dX5_writeMarkers_45 rfl rfl ?_
      refine ok_aload_n (j := 1) dX5_writeMarkers_46 rfl rfl ?_
      refine gf_2_0 dX5_writeMarkers_47 (v2 (by decide) (vp_lt hb1)) xw_36 ?_
      refine ok_aload_n (j := 1) dX5_writeMarkers_50 rfl rfl ?_
      refine gf_2_2 dX5_writeMarkers_51 (v2 (by decide) (vp_lt hb1)) xw_40 ?_
      refine ok_aload_n (j := 1) dX5_writeMarkers_54 rfl rfl ?_
      refine gf_2_4 dX5_writeMarkers_55 (v2 (by decide) (vp_lt hb1)) xw_44 ?_
      refine ok_iload (j := 0) dX5_writeMarkers_58 rfl ?_
      obtain ⟨hb4, h⟩ := h
      refine al_17 dX5_writeMarkers_60 (v17 (by decide) (vp_lt hb1)) hb4 ?_
      refine ok_callV (M' := mX1_appendMarker) [vI x2, vI (μ2.1 2 0 (Int32.toNatClampNeg x2) 0), vI (μ2.1 2 0 (Int32.toNatClampNeg x2) 2), vI (μ2.1 17 0 (Int32.toNatClampNeg x2) (Int32.toNatClampNeg r2))] dX5_writeMarkers_61 xw_316 fV_X1_appendMarker fS_X1_appendMarker rfl (by decide) (v1 (vp_lt hb3)) (ob_1 _ _ _) rfl (Nat.le_of_ble_eq_true rfl) (CV.to (CV.mono h ?_))
      intro μ5 h
      refine ok_aload_n (j := 1) dX5_writeMarkers_64 rfl rfl ?_
      refine gf_2_5 dX5_writeMarkers_65 (v2 (by decide) (vp_lt hb1)) xw_46 ?_
      refine ok_iload (j := 0) dX5_writeMarkers_68 rfl ?_
      refine ok_iconst (v := (0 : Int32)) dX5_writeMarkers_70 (by decide) ?_
      obtain ⟨hb6, h⟩ := h
      refine as_18 dX5_writeMarkers_71 (v18 (by decide) (vp_lt hb1)) hb6 ?_
      refine ok_iinc (j := 3) (v := (x1 + 1)) (ls2 := [(1, vI (x1 + 1)), (4, vI r2), (3, vR 2 0 (Int32.toNatClampNeg x2)), (0, vR 5 0 0), (2, vI x2)]) dX5_writeMarkers_72 rfl rfl (by decide) rfl ?_
      refine ok_aload_n (j := 2) dX5_writeMarkers_75 rfl rfl ?_
      refine ok_callV (M' := mX2_markersDue) [] dX5_writeMarkers_76 xw_321 fV_X2_markersDue fS_X2_markersDue rfl (by decide) (v2 (by decide) (vp_lt hb1)) (ob_2 _ _ _) rfl (Nat.le_of_ble_eq_true rfl) (CI.to (CI.mono h ?_))
      intro r7 μ7 h
      refine ok_if_ne (tgt := 87) dX5_writeMarkers_79 (by decide) ⟨fun z => ?_, fun z => ?_⟩
      · have h := h.1 z
        refine ok_iinc (j := 4) (v := (x2 + 1)) (ls2 := [(2, vI (x2 + 1)), (1, vI (x1 + 1)), (4, vI r2), (3, vR 2 0 (Int32.toNatClampNeg x2)), (0, vR 5 0 0)]) dX5_writeMarkers_87 rfl rfl (by decide) rfl ?_
        refine ok_goto (tgt := 4) dX5_writeMarkers_90 (by decide) ?_
        exact ok_sub [(0, vR 5 0 0), (1, vI (x1 + 1)), (2, vI (x2 + 1))] [4, 1, 0] rfl h
      · have h := h.2 z
        refine ok_aload_n (j := 3) dX5_writeMarkers_82 rfl rfl ?_
        refine ok_aload_n (j := 2) dX5_writeMarkers_83 rfl rfl ?_
        refine ok_callV (M' := mX5_finishDeed) [vR 2 0 (Int32.toNatClampNeg x2)] dX5_writeMarkers_84 xw_244 fV_X5_finishDeed fS_X5_finishDeed rfl (by decide) v5 (ob_5 _ _ _) rfl (Nat.le_of_ble_eq_true rfl) (CV.to (CV.mono h ?_))
        intro μ8 h
        refine ok_iinc (j := 4) (v := (x2 + 1)) (ls2 := [(2, vI (x2 + 1)), (1, vI (x1 + 1)), (4, vI r2), (3, vR 2 0 (Int32.toNatClampNeg x2)), (0, vR 5 0 0)]) dX5_writeMarkers_87 rfl rfl (by decide) rfl ?_
        refine ok_goto (tgt := 4) dX5_writeMarkers_90 (by decide) ?_
        exact ok_sub [(0, vR 5 0 0), (1, vI (x1 + 1)), (2, vI (x2 + 1))] [4, 1, 0] rfl h
set_option maxRecDepth 100000 in
set_option maxHeartbeats 4000000 in
theorem eX5_abortHanging {a b : xA} {h0 : Int64} {Q : xM → Prop}   (h : xOk mX5_abortHanging 2 [(0, vR 5 0 0), (1, vI (0 : Int32))] [] (a, (b, h0)) (qV Q)) : CV mX5_abortHanging [vR 5 0 0] (a, (b, h0)) Q := by
  refine xCalls_of (by decide) (Nat.le_of_ble_eq_true rfl) ?_
  show xOk mX5_abortHanging 0 [(0, vR 5 0 0)] [] (a, (b, h0)) (qV Q)
  refine ok_iconst (v := (0 : Int32)) dX5_abortHanging_0 (by decide) ?_
  refine ok_istore_n (ls2 := [(1, vI (0 : Int32)), (0, vR 5 0 0)]) dX5_abortHanging_1 rfl (by decide) rfl ?_
  exact ok_sub [(0, vR 5 0 0), (1, vI (0 : Int32))] [1, 0] rfl h
set_option maxRecDepth 100000 in
set_option maxHeartbeats 4000000 in
theorem rX5_abortHanging_2 {a b : xA} {h0 : Int64} {Q : xM → Prop} {x1 : Int32}  (h : (((4 : Int32) ≤ x1 → Q (a, (b, h0))) ∧ (¬ (4 : Int32) ≤ x1 → (vp_in x1 4 ∧ ((¬ (a 2 0 (Int32.toNatClampNeg x1) 1) = (1 : Int32) → xOk mX5_abortHanging 2 [(0, vR 5 0 0), (1, vI (x1 + 1))] [] (a, (b, h0)) (qV Q)) ∧ ((a 2 0 (Int32.toNatClampNeg x1) 1) = (1 : Int32) → ((((a 4 0 0 0) - (a 2 0 (Int32.toNatClampNeg x1) 3)) < (a 4 0 0 1) → xOk mX5_abortHanging 2 [(0, vR 5 0 0), (1, vI (x1 + 1))] [] (a, (b, h0)) (qV Q)) ∧ (¬ ((a 4 0 0 0) - (a 2 0 (Int32.toNatClampNeg x1) 3)) < (a 4 0 0 1) → (CI mX5_endDeed [vR 5 0 0, vR 2 0 (Int32.toNatClampNeg x1), vI (0 : Int32)] ((xUp a 2 0 (Int32.toNatClampNeg x1) 0 ((a 2 0 (Int32.toNatClampNeg x1) 0) + (1 : Int32))), (b, h0)) (fun r2 μ2 => xOk mX5_abortHanging 2 [(0, vR 5 0 0), (1, vI (x1 + 1))] [] μ2 (qV Q))))))))))) : xOk mX5_abortHanging 2 [(0, vR 5 0 0), (1, vI x1)] [] (a, (b, h0)) (qV Q) := by
  refine ok_iload_n (j := 1) dX5_abortHanging_2 rfl rfl ?_
  refine ok_iconst (v := (4 : Int32)) dX5_abortHanging_3 (by decide) ?_
  refine ok_icmp_ge (tgt := 70) dX5_abortHanging_4 (by decide) ⟨fun z => ?_, fun z => ?_⟩
  · have h := h.1 z
    exact ok_vret rfl dX5_abortHanging_70 ⟨rfl, h⟩
  · have h := h.2 z
    refine ok_aload_n (j := 0) dX5_abortHanging_7 rfl rfl ?_
    refine gf_5_1 dX5_abortHanging_8 v5 xw_174 ?_
    refine gf_4_3 dX5_abortHanging_11 (v4 (by decide)) xw_86 ?_
    refine ok_iload_n (j := 1) dX5_abortHanging_14 rfl rfl ?_
    obtain ⟨hb1, h⟩ := h
    refine aa_42 dX5_abortHanging_15 (v42 (by decide)) hb1 ?_
    refine ok_astore_n (ls2 := [(2, vR 2 0 (Int32.toNatClampNeg x1)), (0, vR 5 0 0), (1, vI x1)]) dX5_abortHanging_16 rfl (by decide) rfl ?_
    refine ok_aload_n (j := 0) dX5_abortHanging_17 rfl rfl ?_
    refine gf_2_1 dX5_abortHanging_18 (v2 (by decide) (vp_lt hb1)) xw_38 ?_
    refine ok_iconst (v := (1 : Int32)) dX5_abortHanging_21 (by decide) ?_
    refine ok_icmp_ne (tgt := 64) dX5_abortHanging_22 (by decide) ⟨fun z => ?_, fun z => ?_⟩
    · have h := h.1 z
      refine ok_iinc (j := 2) (v := (x1 + 1)) (ls2 := [(1, vI (x1 + 1)), (2, vR 2 0 (Int32.toNatClampNeg x1)), (0, vR 5 0 0)]) dX5_abortHanging_64 rfl rfl (by decide) rfl ?_
      refine ok_goto (tgt := 2) dX5_abortHanging_67 (by decide) ?_
      exact ok_sub [(0, vR 5 0 0), (1, vI (x1 + 1))] [2, 0] rfl h
    · have h := h.2 z
      refine ok_aload_n (j := 1) dX5_abortHanging_25 rfl rfl ?_
      refine gf_5_1 dX5_abortHanging_26 v5 xw_174 ?_
      refine gf_4_0 dX5_abortHanging_29 (v4 (by decide)) xw_80 ?_
      refine ok_aload_n (j := 0) dX5_abortHanging_32 rfl rfl ?_
      refine gf_2_3 dX5_abortHanging_33 (v2 (by decide) (vp_lt hb1)) xw_42 ?_
      refine ok_isub dX5_abortHanging_36 ?_
      refine ok_aload_n (j := 1) dX5_abortHanging_37 rfl rfl ?_
      refine gf_5_1 dX5_abortHanging_38 v5 xw_174 ?_
      refine gf_4_1 dX5_abortHanging_41 (v4 (by decide)) xw_82 ?_
      refine ok_icmp_lt (tgt := 64) dX5_abortHanging_44 (by decide) ⟨fun z => ?_, fun z => ?_⟩
      · have h := h.1 z
        refine ok_iinc (j := 2) (v := (x1 + 1)) (ls2 := [(1, vI (x1 + 1)), (2, vR 2 0 (Int32.toNatClampNeg x1)), (0, vR 5 0 0)]) dX5_abortHanging_64 rfl rfl (by decide) rfl ?_
        refine ok_goto (tgt := 2) dX5_abortHanging_67 (by decide) ?_
        exact ok_sub [(0, vR 5 0 0), (1, vI (x1 + 1))] [2, 0] rfl h
      · have h := h.2 z
        refine ok_aload_n (j := 0) dX5_abortHanging_47 rfl rfl ?_
        refine ok_dup dX5_abortHanging_48 rfl ?_
        refine gf_2_0 dX5_abortHanging_49 (v2 (by decide) (vp_lt hb1)) xw_36 ?_
        refine ok_iconst (v := (1 : Int32)) dX5_abortHanging_52 (by decide) ?_
        refine ok_iadd dX5_abortHanging_53 ?_
        refine pf_2_0 dX5_abortHanging_54 (v2 (by decide) (vp_lt hb1)) xw_36 ?_
        refine ok_aload_n (j := 1) dX5_abortHanging_57 rfl rfl ?_
        refine ok_aload_n (j := 0) dX5_abortHanging_58 rfl rfl ?_
        refine ok_iconst (v := (0 : Int32)) dX5_abortHanging_59 (by decide) ?_
        refine ok_callV (M' := mX5_endDeed) [vR 2 0 (Int32.toNatClampNeg x1), vI (0 : Int32)] dX5_abortHanging_60 xw_236 fV_X5_endDeed fS_X5_endDeed rfl (by decide) v5 (ob_5 _ _ _) rfl (Nat.le_of_ble_eq_true rfl) (CI.to (CI.mono h ?_))
        intro r2 μ2 h
        refine ok_pop dX5_abortHanging_63 rfl ?_
        refine ok_iinc (j := 2) (v := (x1 + 1)) (ls2 := [(1, vI (x1 + 1)), (2, vR 2 0 (Int32.toNatClampNeg x1)), (0, vR 5 0 0)]) dX5_abortHanging_64 rfl rfl (by decide) rfl ?_
        refine ok_goto (tgt := 2) dX5_abortHanging_67 (by decide) ?_
        exact ok_sub [(0, vR 5 0 0), (1, vI (x1 + 1))] [2, 0] rfl h
set_option maxRecDepth 100000 in
set_option maxHeartbeats 4000000 in
theorem eX5_limit {a b : xA} {h0 : Int64} {Q : Int32 → xM → Prop} {x1 : Int32}  (h : ((x1 < (1 : Int32) → (CI mX5_failed [vR 5 0 0, vI (-2 : Int32)] (a, (b, h0)) (fun r1 μ1 => Q r1 μ1))) ∧ (¬ x1 < (1 : Int32) → ((x1 ≤ (20 : Int32) → (CV mX5_keep [vR 5 0 0] (a, (b, h0)) (fun μ2 => Q (μ2.1 4 0 0 1) ((xUp μ2.1 4 0 0 1 x1), μ2.2)))) ∧ (¬ x1 ≤ (20 : Int32) → (CI mX5_failed [vR 5 0 0, vI (-2 : Int32)] (a, (b, h0)) (fun r3 μ3 => Q r3 μ3))))))) : CI mX5_limit [vR 5 0 0, vI x1] (a, (b, h0)) Q := by
  refine xCalls_of (by decide) (Nat.le_of_ble_eq_true rfl) ?_
  show xOk mX5_limit 0 [(0, vR 5 0 0), (1, vI x1)] [] (a, (b, h0)) (qI Q)
  refine ok_iload_n (j := 1) dX5_limit_0 rfl rfl ?_
  refine ok_iconst (v := (1 : Int32)) dX5_limit_1 (by decide) ?_
  refine ok_icmp_lt (tgt := 11) dX5_limit_2 (by decide) ⟨fun z => ?_, fun z => ?_⟩
  · have h := h.1 z
    refine ok_aload_n (j := 0) dX5_limit_11 rfl rfl ?_
    refine ok_bipush (v := (-2 : Int32)) dX5_limit_12 (by decide) ?_
    refine ok_callV (M' := mX5_failed) [vI (-2 : Int32)] dX5_limit_14 xw_208 fV_X5_failed fS_X5_failed rfl (by decide) v5 (ob_5 _ _ _) rfl (Nat.le_of_ble_eq_true rfl) (CI.to (CI.mono h ?_))
    intro r1 μ1 h
    exact ok_iret rfl dX5_limit_17 ⟨_, rfl, h⟩
  · have h := h.2 z
    refine ok_iload_n (j := 1) dX5_limit_5 rfl rfl ?_
    refine ok_bipush (v := (20 : Int32)) dX5_limit_6 (by decide) ?_
    refine ok_icmp_le (tgt := 18) dX5_limit_8 (by decide) ⟨fun z => ?_, fun z => ?_⟩
    · have h := h.1 z
      refine ok_aload_n (j := 0) dX5_limit_18 rfl rfl ?_
      refine ok_callV (M' := mX5_keep) [] dX5_limit_19 xw_212 fV_X5_keep fS_X5_keep rfl (by decide) v5 (ob_5 _ _ _) rfl (Nat.le_of_ble_eq_true rfl) (CV.to (CV.mono h ?_))
      intro μ2 h
      refine ok_aload_n (j := 0) dX5_limit_22 rfl rfl ?_
      refine gf_5_1 dX5_limit_23 v5 xw_174 ?_
      refine gf_4_1 dX5_limit_26 (v4 (by decide)) xw_82 ?_
      refine ok_istore_n (ls2 := [(2, vI (μ2.1 4 0 0 1)), (0, vR 5 0 0), (1, vI x1)]) dX5_limit_29 rfl (by decide) rfl ?_
      refine ok_aload_n (j := 1) dX5_limit_30 rfl rfl ?_
      refine gf_5_1 dX5_limit_31 v5 xw_174 ?_
      refine ok_iload_n (j := 2) dX5_limit_34 rfl rfl ?_
      refine pf_4_1 dX5_limit_35 (v4 (by decide)) xw_82 ?_
      refine ok_iload_n (j := 0) dX5_limit_38 rfl rfl ?_
      exact ok_iret rfl dX5_limit_39 ⟨_, rfl, h⟩
    · have h := h.2 z
      refine ok_aload_n (j := 0) dX5_limit_11 rfl rfl ?_
      refine ok_bipush (v := (-2 : Int32)) dX5_limit_12 (by decide) ?_
      refine ok_callV (M' := mX5_failed) [vI (-2 : Int32)] dX5_limit_14 xw_208 fV_X5_failed fS_X5_failed rfl (by decide) v5 (ob_5 _ _ _) rfl (Nat.le_of_ble_eq_true rfl) (CI.to (CI.mono h ?_))
      intro r3 μ3 h
      exact ok_iret rfl dX5_limit_17 ⟨_, rfl, h⟩
set_option maxRecDepth 100000 in
set_option maxHeartbeats 4000000 in
theorem eX5_writer {a b : xA} {h0 : Int64} {Q : Int32 → xM → Prop} {x1 : Int32} {x2 : Int32}  (h : (CI mX5_outside [vI x1, vI (4 : Int32)] (a, (b, h0)) (fun r1 μ1 => ((¬ r1 = 0 → (CI mX5_failed [vR 5 0 0, vI (-2 : Int32)] μ1 (fun r2 μ2 => Q r2 μ2))) ∧ (r1 = 0 → (CI mX5_outside [vI x2, vI (9 : Int32)] μ1 (fun r3 μ3 => ((r3 = 0 → (vp_in x1 4 ∧ ((x2 = (0 : Int32) → Q (μ3.1 2 0 (Int32.toNatClampNeg x1) 0) μ3) ∧ (¬ x2 = (0 : Int32) → ((x2 = (1 : Int32) → Q (μ3.1 2 0 (Int32.toNatClampNeg x1) 1) μ3) ∧ (¬ x2 = (1 : Int32) → ((x2 = (2 : Int32) → (CI mX2_partSet [vR 2 0 (Int32.toNatClampNeg x1)] μ3 (fun r5 μ5 => Q r5 μ5))) ∧ (¬ x2 = (2 : Int32) → ((x2 = (3 : Int32) → (CI mX2_markersDue [vR 2 0 (Int32.toNatClampNeg x1)] μ3 (fun r6 μ6 => Q r6 μ6))) ∧ (¬ x2 = (3 : Int32) → ((x2 = (4 : Int32) → Q (μ3.1 2 0 (Int32.toNatClampNeg x1) 2) μ3) ∧ (¬ x2 = (4 : Int32) → ((x2 = (5 : Int32) → ((¬ (μ3.1 2 0 (Int32.toNatClampNeg x1) 1) = (1 : Int32) → Q (-1 : Int32) μ3) ∧ ((μ3.1 2 0 (Int32.toNatClampNeg x1) 1) = (1 : Int32) → Q ((μ3.1 4 0 0 0) - (μ3.1 2 0 (Int32.toNatClampNeg x1) 3)) μ3))) ∧ (¬ x2 = (5 : Int32) → (vp_in (x2 - (6 : Int32)) 3 ∧ (CI mX1_numberDue [vR 1 0 (Int32.toNatClampNeg (x2 - (6 : Int32))), vI x1, vI (μ3.1 2 0 (Int32.toNatClampNeg x1) 0)] μ3 (fun r8 μ8 => Q r8 μ8))))))))))))))))) ∧ (¬ r3 = 0 → (CI mX5_failed [vR 5 0 0, vI (-2 : Int32)] μ3 (fun r9 μ9 => Q r9 μ9))))))))))) : CI mX5_writer [vR 5 0 0, vI x1, vI x2] (a, (b, h0)) Q := by
  refine xCalls_of (by decide) (Nat.le_of_ble_eq_true rfl) ?_
  show xOk mX5_writer 0 [(0, vR 5 0 0), (1, vI x1), (2, vI x2)] [] (a, (b, h0)) (qI Q)
  refine ok_iload_n (j := 1) dX5_writer_0 rfl rfl ?_
  refine ok_iconst (v := (4 : Int32)) dX5_writer_1 (by decide) ?_
  refine ok_callS (M' := mX5_outside) [vI x1, vI (4 : Int32)] dX5_writer_2 xw_205 fV_X5_outside fS_X5_outside (by decide) rfl (Nat.le_of_ble_eq_true rfl) (CI.to (CI.mono h ?_))
  intro r1 μ1 h
  refine ok_if_ne (tgt := 17) dX5_writer_5 (by decide) ⟨fun z => ?_, fun z => ?_⟩
  · have h := h.1 z
    refine ok_aload_n (j := 0) dX5_writer_17 rfl rfl ?_
    refine ok_bipush (v := (-2 : Int32)) dX5_writer_18 (by decide) ?_
    refine ok_callV (M' := mX5_failed) [vI (-2 : Int32)] dX5_writer_20 xw_208 fV_X5_failed fS_X5_failed rfl (by decide) v5 (ob_5 _ _ _) rfl (Nat.le_of_ble_eq_true rfl) (CI.to (CI.mono h ?_))
    intro r2 μ2 h
    exact ok_iret rfl dX5_writer_23 ⟨_, rfl, h⟩
  · have h := h.2 z
    refine ok_iload_n (j := 2) dX5_writer_8 rfl rfl ?_
    refine ok_bipush (v := (9 : Int32)) dX5_writer_9 (by decide) ?_
    refine ok_callS (M' := mX5_outside) [vI x2, vI (9 : Int32)] dX5_writer_11 xw_205 fV_X5_outside fS_X5_outside (by decide) rfl (Nat.le_of_ble_eq_true rfl) (CI.to (CI.mono h ?_))
    intro r3 μ3 h
    refine ok_if_eq (tgt := 24) dX5_writer_14 (by decide) ⟨fun z => ?_, fun z => ?_⟩
    · have h := h.1 z
      refine ok_aload_n (j := 0) dX5_writer_24 rfl rfl ?_
      refine gf_5_1 dX5_writer_25 v5 xw_174 ?_
      refine gf_4_3 dX5_writer_28 (v4 (by decide)) xw_86 ?_
      refine ok_iload_n (j := 1) dX5_writer_31 rfl rfl ?_
      obtain ⟨hb4, h⟩ := h
      refine aa_42 dX5_writer_32 (v42 (by decide)) hb4 ?_
      refine ok_astore_n (ls2 := [(3, vR 2 0 (Int32.toNatClampNeg x1)), (0, vR 5 0 0), (1, vI x1), (2, vI x2)]) dX5_writer_33 rfl (by decide) rfl ?_
      refine ok_iload_n (j := 3) dX5_writer_34 rfl rfl ?_
      by_cases z0 : x2 = (0 : Int32)
      · have h := h.1 z0
        refine ok_table dX5_writer_35 rfl (off := 37) (tgt := 72) (by (try dsimp only); rw [z0]; decide) (by decide) ?_
        refine ok_aload_n (j := 0) dX5_writer_72 rfl rfl ?_
        refine gf_2_0 dX5_writer_73 (v2 (by decide) (vp_lt hb4)) xw_36 ?_
        exact ok_iret rfl dX5_writer_76 ⟨_, rfl, h⟩
      · have h := h.2 z0
        by_cases z1 : x2 = (1 : Int32)
        · have h := h.1 z1
          refine ok_table dX5_writer_35 rfl (off := 42) (tgt := 77) (by (try dsimp only); rw [z1]; decide) (by decide) ?_
          refine ok_aload_n (j := 0) dX5_writer_77 rfl rfl ?_
          refine gf_2_1 dX5_writer_78 (v2 (by decide) (vp_lt hb4)) xw_38 ?_
          exact ok_iret rfl dX5_writer_81 ⟨_, rfl, h⟩
        · have h := h.2 z1
          by_cases z2 : x2 = (2 : Int32)
          · have h := h.1 z2
            refine ok_table dX5_writer_35 rfl (off := 47) (tgt := 82) (by (try dsimp only); rw [z2]; decide) (by decide) ?_
            refine ok_aload_n (j := 0) dX5_writer_82 rfl rfl ?_
            refine ok_callV (M' := mX2_partSet) [] dX5_writer_83 xw_337 fV_X2_partSet fS_X2_partSet rfl (by decide) (v2 (by decide) (vp_lt hb4)) (ob_2 _ _ _) rfl (Nat.le_of_ble_eq_true rfl) (CI.to (CI.mono h ?_))
            intro r5 μ5 h
            exact ok_iret rfl dX5_writer_86 ⟨_, rfl, h⟩
          · have h := h.2 z2
            by_cases z3 : x2 = (3 : Int32)
            · have h := h.1 z3
              refine ok_table dX5_writer_35 rfl (off := 52) (tgt := 87) (by (try dsimp only); rw [z3]; decide) (by decide) ?_
              refine ok_aload_n (j := 0) dX5_writer_87 rfl rfl ?_
              refine ok_callV (M' := mX2_markersDue) [] dX5_writer_88 xw_321 fV_X2_markersDue fS_X2_markersDue rfl (by decide) (v2 (by decide) (vp_lt hb4)) (ob_2 _ _ _) rfl (Nat.le_of_ble_eq_true rfl) (CI.to (CI.mono h ?_))
              intro r6 μ6 h
              exact ok_iret rfl dX5_writer_91 ⟨_, rfl, h⟩
            · have h := h.2 z3
              by_cases z4 : x2 = (4 : Int32)
              · have h := h.1 z4
                refine ok_table dX5_writer_35 rfl (off := 57) (tgt := 92) (by (try dsimp only); rw [z4]; decide) (by decide) ?_
                refine ok_aload_n (j := 0) dX5_writer_92 rfl rfl ?_
                refine gf_2_2 dX5_writer_93 (v2 (by decide) (vp_lt hb4)) xw_40 ?_
                exact ok_iret rfl dX5_writer_96 ⟨_, rfl, h⟩
              · have h := h.2 z4
                by_cases z5 : x2 = (5 : Int32)
                · have h := h.1 z5
                  refine ok_table dX5_writer_35 rfl (off := 62) (tgt := 97) (by (try dsimp only); rw [z5]; decide) (by decide) ?_
                  refine ok_aload_n (j := 0) dX5_writer_97 rfl rfl ?_
                  refine gf_2_1 dX5_writer_98 (v2 (by decide) (vp_lt hb4)) xw_38 ?_
                  refine ok_iconst (v := (1 : Int32)) dX5_writer_101 (by decide) ?_
                  refine ok_icmp_ne (tgt := 120) dX5_writer_102 (by decide) ⟨fun z => ?_, fun z => ?_⟩
                  · have h := h.1 z
                    refine ok_iconst (v := (-1 : Int32)) dX5_writer_120 (by decide) ?_
                    exact ok_iret rfl dX5_writer_121 ⟨_, rfl, h⟩
                  · have h := h.2 z
                    refine ok_aload_n (j := 1) dX5_writer_105 rfl rfl ?_
                    refine gf_5_1 dX5_writer_106 v5 xw_174 ?_
                    refine gf_4_0 dX5_writer_109 (v4 (by decide)) xw_80 ?_
                    refine ok_aload_n (j := 0) dX5_writer_112 rfl rfl ?_
                    refine gf_2_3 dX5_writer_113 (v2 (by decide) (vp_lt hb4)) xw_42 ?_
                    refine ok_isub dX5_writer_116 ?_
                    refine ok_goto (tgt := 121) dX5_writer_117 (by decide) ?_
                    exact ok_iret rfl dX5_writer_121 ⟨_, rfl, h⟩
                · have h := h.2 z5
                  refine ok_table dX5_writer_35 rfl (tgt := 122) (xSw_d [(0 : Int32), (1 : Int32), (2 : Int32), (3 : Int32), (4 : Int32), (5 : Int32)] (by decide) rfl (by simp only [List.mem_cons, List.not_mem_nil, or_false]; rintro c (rfl | rfl | rfl | rfl | rfl | rfl) <;> assumption)) (by decide) ?_
                  refine ok_aload_n (j := 1) dX5_writer_122 rfl rfl ?_
                  refine gf_5_0 dX5_writer_123 v5 xw_173 ?_
                  refine ok_iload_n (j := 3) dX5_writer_126 rfl rfl ?_
                  refine ok_bipush (v := (6 : Int32)) dX5_writer_127 (by decide) ?_
                  refine ok_isub dX5_writer_129 ?_
                  obtain ⟨hb7, h⟩ := h
                  refine aa_40 dX5_writer_130 v40 hb7 ?_
                  refine ok_iload_n (j := 2) dX5_writer_131 rfl rfl ?_
                  refine ok_aload_n (j := 0) dX5_writer_132 rfl rfl ?_
                  refine gf_2_0 dX5_writer_133 (v2 (by decide) (vp_lt hb4)) xw_36 ?_
                  refine ok_callV (M' := mX1_numberDue) [vI x1, vI (μ3.1 2 0 (Int32.toNatClampNeg x1) 0)] dX5_writer_136 xw_284 fV_X1_numberDue fS_X1_numberDue rfl (by decide) (v1 (vp_lt hb7)) (ob_1 _ _ _) rfl (Nat.le_of_ble_eq_true rfl) (CI.to (CI.mono h ?_))
                  intro r8 μ8 h
                  exact ok_iret rfl dX5_writer_139 ⟨_, rfl, h⟩
    · have h := h.2 z
      refine ok_aload_n (j := 0) dX5_writer_17 rfl rfl ?_
      refine ok_bipush (v := (-2 : Int32)) dX5_writer_18 (by decide) ?_
      refine ok_callV (M' := mX5_failed) [vI (-2 : Int32)] dX5_writer_20 xw_208 fV_X5_failed fS_X5_failed rfl (by decide) v5 (ob_5 _ _ _) rfl (Nat.le_of_ble_eq_true rfl) (CI.to (CI.mono h ?_))
      intro r9 μ9 h
      exact ok_iret rfl dX5_writer_23 ⟨_, rfl, h⟩
set_option maxRecDepth 100000 in
set_option maxHeartbeats 4000000 in
theorem eX5_entry {a b : xA} {h0 : Int64} {Q : Int32 → xM → Prop} {x1 : Int32} {x2 : Int32} {x3 : Int32}  (h : (CI mX5_outside [vI x1, vI (3 : Int32)] (a, (b, h0)) (fun r1 μ1 => ((¬ r1 = 0 → (CI mX5_failed [vR 5 0 0, vI (-2 : Int32)] μ1 (fun r2 μ2 => Q r2 μ2))) ∧ (r1 = 0 → (vp_in x1 3 ∧ (CI mX5_outside [vI x2, vI (μ1.1 1 0 (Int32.toNatClampNeg x1) 0)] μ1 (fun r4 μ4 => ((¬ r4 = 0 → (CI mX5_failed [vR 5 0 0, vI (-2 : Int32)] μ4 (fun r5 μ5 => Q r5 μ5))) ∧ (r4 = 0 → (CI mX5_outside [vI x3, vI (7 : Int32)] μ4 (fun r6 μ6 => ((r6 = 0 → (vp_in x1 3 ∧ ((x3 = (0 : Int32) → (CI mX1_isMarker [vR 1 0 (Int32.toNatClampNeg x1), vI x2] μ6 (fun r8 μ8 => ((r8 = 0 → Q (0 : Int32) μ8) ∧ (¬ r8 = 0 → Q (1 : Int32) μ8))))) ∧ (¬ x3 = (0 : Int32) → ((x3 = (1 : Int32) → (vp_in x2 48 ∧ Q (μ6.1 10 0 (Int32.toNatClampNeg x1) (Int32.toNatClampNeg x2)) μ6)) ∧ (¬ x3 = (1 : Int32) → ((x3 = (2 : Int32) → (vp_in x2 48 ∧ Q (μ6.1 11 0 (Int32.toNatClampNeg x1) (Int32.toNatClampNeg x2)) μ6)) ∧ (¬ x3 = (2 : Int32) → ((x3 = (3 : Int32) → (vp_in x2 48 ∧ Q (μ6.1 12 0 (Int32.toNatClampNeg x1) (Int32.toNatClampNeg x2)) μ6)) ∧ (¬ x3 = (3 : Int32) → ((x3 = (4 : Int32) → (vp_in x2 48 ∧ Q (μ6.1 13 0 (Int32.toNatClampNeg x1) (Int32.toNatClampNeg x2)) μ6)) ∧ (¬ x3 = (4 : Int32) → ((x3 = (5 : Int32) → (CI mX1_fate [vR 1 0 (Int32.toNatClampNeg x1), vI x2] μ6 (fun r13 μ13 => Q r13 μ13))) ∧ (¬ x3 = (5 : Int32) → (CI mX5_stable [vR 5 0 0, vI x1] μ6 (fun r14 μ14 => (CI mX1_isVisible [vR 1 0 (Int32.toNatClampNeg x1), vI x2, vI r14] μ14 (fun r15 μ15 => ((r15 = 0 → Q (0 : Int32) μ15) ∧ (¬ r15 = 0 → Q (1 : Int32) μ15)))))))))))))))))))) ∧ (¬ r6 = 0 → (CI mX5_failed [vR 5 0 0, vI (-2 : Int32)] μ6 (fun r16 μ16 => Q r16 μ16)))))))))))))))) : CI mX5_entry [vR 5 0 0, vI x1, vI x2, vI x3] (a, (b, h0)) Q := by
  refine xCalls_of (by decide) (Nat.le_of_ble_eq_true rfl) ?_
  show xOk mX5_entry 0 [(0, vR 5 0 0), (1, vI x1), (2, vI x2), (3, vI x3)] [] (a, (b, h0)) (qI Q)
  refine ok_iload_n (j := 1) dX5_entry_0 rfl rfl ?_
  refine ok_iconst (v := (3 : Int32)) dX5_entry_1 (by decide) ?_
  refine ok_callS (M' := mX5_outside) [vI x1, vI (3 : Int32)] dX5_entry_2 xw_205 fV_X5_outside fS_X5_outside (by decide) rfl (Nat.le_of_ble_eq_true rfl) (CI.to (CI.mono h ?_))
  intro r1 μ1 h
  refine ok_if_ne (tgt := 33) dX5_entry_5 (by decide) ⟨fun z => ?_, fun z => ?_⟩
  · have h := h.1 z
    refine ok_aload_n (j := 0) dX5_entry_33 rfl rfl ?_
    refine ok_bipush (v := (-2 : Int32)) dX5_entry_34 (by decide) ?_
    refine ok_callV (M' := mX5_failed) [vI (-2 : Int32)] dX5_entry_36 xw_208 fV_X5_failed fS_X5_failed rfl (by decide) v5 (ob_5 _ _ _) rfl (Nat.le_of_ble_eq_true rfl) (CI.to (CI.mono h ?_))
    intro r2 μ2 h
    exact ok_iret rfl dX5_entry_39 ⟨_, rfl, h⟩
  · have h := h.2 z
    refine ok_iload_n (j := 2) dX5_entry_8 rfl rfl ?_
    refine ok_aload_n (j := 0) dX5_entry_9 rfl rfl ?_
    refine gf_5_0 dX5_entry_10 v5 xw_173 ?_
    refine ok_iload_n (j := 1) dX5_entry_13 rfl rfl ?_
    obtain ⟨hb3, h⟩ := h
    refine aa_40 dX5_entry_14 v40 hb3 ?_
    refine gf_1_0 dX5_entry_15 (v1 (vp_lt hb3)) xw_146 ?_
    refine ok_callS (M' := mX5_outside) [vI x2, vI (μ1.1 1 0 (Int32.toNatClampNeg x1) 0)] dX5_entry_18 xw_205 fV_X5_outside fS_X5_outside (by decide) rfl (Nat.le_of_ble_eq_true rfl) (CI.to (CI.mono h ?_))
    intro r4 μ4 h
    refine ok_if_ne (tgt := 33) dX5_entry_21 (by decide) ⟨fun z => ?_, fun z => ?_⟩
    · have h := h.1 z
      refine ok_aload_n (j := 0) dX5_entry_33 rfl rfl ?_
      refine ok_bipush (v := (-2 : Int32)) dX5_entry_34 (by decide) ?_
      refine ok_callV (M' := mX5_failed) [vI (-2 : Int32)] dX5_entry_36 xw_208 fV_X5_failed fS_X5_failed rfl (by decide) v5 (ob_5 _ _ _) rfl (Nat.le_of_ble_eq_true rfl) (CI.to (CI.mono h ?_))
      intro r5 μ5 h
      exact ok_iret rfl dX5_entry_39 ⟨_, rfl, h⟩
    · have h := h.2 z
      refine ok_iload_n (j := 3) dX5_entry_24 rfl rfl ?_
      refine ok_bipush (v := (7 : Int32)) dX5_entry_25 (by decide) ?_
      refine ok_callS (M' := mX5_outside) [vI x3, vI (7 : Int32)] dX5_entry_27 xw_205 fV_X5_outside fS_X5_outside (by decide) rfl (Nat.le_of_ble_eq_true rfl) (CI.to (CI.mono h ?_))
      intro r6 μ6 h
      refine ok_if_eq (tgt := 40) dX5_entry_30 (by decide) ⟨fun z => ?_, fun z => ?_⟩
      · have h := h.1 z
        refine ok_aload_n (j := 0) dX5_entry_40 rfl rfl ?_
        refine gf_5_0 dX5_entry_41 v5 xw_173 ?_
        refine ok_iload_n (j := 1) dX5_entry_44 rfl rfl ?_
        obtain ⟨hb7, h⟩ := h
        refine aa_40 dX5_entry_45 v40 hb7 ?_
        refine ok_astore (ls2 := [(4, vR 1 0 (Int32.toNatClampNeg x1)), (0, vR 5 0 0), (1, vI x1), (2, vI x2), (3, vI x3)]) dX5_entry_46 (by decide) rfl ?_
        refine ok_iload_n (j := 4) dX5_entry_48 rfl rfl ?_
        by_cases z0 : x3 = (0 : Int32)
        · have h := h.1 z0
          refine ok_table dX5_entry_49 rfl (off := 39) (tgt := 88) (by (try dsimp only); rw [z0]; decide) (by decide) ?_
          refine ok_aload (j := 0) dX5_entry_88 rfl ?_
          refine ok_iload_n (j := 3) dX5_entry_90 rfl rfl ?_
          refine ok_callV (M' := mX1_isMarker) [vI x2] dX5_entry_91 xw_345 fV_X1_isMarker fS_X1_isMarker rfl (by decide) (v1 (vp_lt hb7)) (ob_1 _ _ _) rfl (Nat.le_of_ble_eq_true rfl) (CI.to (CI.mono h ?_))
          intro r8 μ8 h
          refine ok_if_eq (tgt := 101) dX5_entry_94 (by decide) ⟨fun z => ?_, fun z => ?_⟩
          · have h := h.1 z
            refine ok_iconst (v := (0 : Int32)) dX5_entry_101 (by decide) ?_
            exact ok_iret rfl dX5_entry_102 ⟨_, rfl, h⟩
          · have h := h.2 z
            refine ok_iconst (v := (1 : Int32)) dX5_entry_97 (by decide) ?_
            refine ok_goto (tgt := 102) dX5_entry_98 (by decide) ?_
            exact ok_iret rfl dX5_entry_102 ⟨_, rfl, h⟩
        · have h := h.2 z0
          by_cases z1 : x3 = (1 : Int32)
          · have h := h.1 z1
            refine ok_table dX5_entry_49 rfl (off := 54) (tgt := 103) (by (try dsimp only); rw [z1]; decide) (by decide) ?_
            refine ok_aload (j := 0) dX5_entry_103 rfl ?_
            refine gf_1_1 dX5_entry_105 (v1 (vp_lt hb7)) xw_148 ?_
            refine ok_iload_n (j := 3) dX5_entry_108 rfl rfl ?_
            obtain ⟨hb9, h⟩ := h
            refine al_10 dX5_entry_109 (v10 (vp_lt hb7)) hb9 ?_
            exact ok_iret rfl dX5_entry_110 ⟨_, rfl, h⟩
          · have h := h.2 z1
            by_cases z2 : x3 = (2 : Int32)
            · have h := h.1 z2
              refine ok_table dX5_entry_49 rfl (off := 62) (tgt := 111) (by (try dsimp only); rw [z2]; decide) (by decide) ?_
              refine ok_aload (j := 0) dX5_entry_111 rfl ?_
              refine gf_1_2 dX5_entry_113 (v1 (vp_lt hb7)) xw_150 ?_
              refine ok_iload_n (j := 3) dX5_entry_116 rfl rfl ?_
              obtain ⟨hb10, h⟩ := h
              refine al_11 dX5_entry_117 (v11 (vp_lt hb7)) hb10 ?_
              exact ok_iret rfl dX5_entry_118 ⟨_, rfl, h⟩
            · have h := h.2 z2
              by_cases z3 : x3 = (3 : Int32)
              · have h := h.1 z3
                refine ok_table dX5_entry_49 rfl (off := 70) (tgt := 119) (by (try dsimp only); rw [z3]; decide) (by decide) ?_
                refine ok_aload (j := 0) dX5_entry_119 rfl ?_
                refine gf_1_3 dX5_entry_121 (v1 (vp_lt hb7)) xw_152 ?_
                refine ok_iload_n (j := 3) dX5_entry_124 rfl rfl ?_
                obtain ⟨hb11, h⟩ := h
                refine al_12 dX5_entry_125 (v12 (vp_lt hb7)) hb11 ?_
                exact ok_iret rfl dX5_entry_126 ⟨_, rfl, h⟩
              · have h := h.2 z3
                by_cases z4 : x3 = (4 : Int32)
                · have h := h.1 z4
                  refine ok_table dX5_entry_49 rfl (off := 78) (tgt := 127) (by (try dsimp only); rw [z4]; decide) (by decide) ?_
                  refine ok_aload (j := 0) dX5_entry_127 rfl ?_
                  refine gf_1_4 dX5_entry_129 (v1 (vp_lt hb7)) xw_154 ?_
                  refine ok_iload_n (j := 3) dX5_entry_132 rfl rfl ?_
                  obtain ⟨hb12, h⟩ := h
                  refine al_13 dX5_entry_133 (v13 (vp_lt hb7)) hb12 ?_
                  exact ok_iret rfl dX5_entry_134 ⟨_, rfl, h⟩
                · have h := h.2 z4
                  by_cases z5 : x3 = (5 : Int32)
                  · have h := h.1 z5
                    refine ok_table dX5_entry_49 rfl (off := 86) (tgt := 135) (by (try dsimp only); rw [z5]; decide) (by decide) ?_
                    refine ok_aload (j := 0) dX5_entry_135 rfl ?_
                    refine ok_iload_n (j := 3) dX5_entry_137 rfl rfl ?_
                    refine ok_callV (M' := mX1_fate) [vI x2] dX5_entry_138 xw_346 fV_X1_fate fS_X1_fate rfl (by decide) (v1 (vp_lt hb7)) (ob_1 _ _ _) rfl (Nat.le_of_ble_eq_true rfl) (CI.to (CI.mono h ?_))
                    intro r13 μ13 h
                    exact ok_iret rfl dX5_entry_141 ⟨_, rfl, h⟩
                  · have h := h.2 z5
                    refine ok_table dX5_entry_49 rfl (tgt := 142) (xSw_d [(0 : Int32), (1 : Int32), (2 : Int32), (3 : Int32), (4 : Int32), (5 : Int32)] (by decide) rfl (by simp only [List.mem_cons, List.not_mem_nil, or_false]; rintro c (rfl | rfl | rfl | rfl | rfl | rfl) <;> assumption)) (by decide) ?_
                    refine ok_aload (j := 0) dX5_entry_142 rfl ?_
                    refine ok_iload_n (j := 3) dX5_entry_144 rfl rfl ?_
                    refine ok_aload_n (j := 1) dX5_entry_145 rfl rfl ?_
                    refine ok_iload_n (j := 2) dX5_entry_146 rfl rfl ?_
                    refine ok_callV (M' := mX5_stable) [vI x1] dX5_entry_147 xw_351 fV_X5_stable fS_X5_stable rfl (by decide) v5 (ob_5 _ _ _) rfl (Nat.le_of_ble_eq_true rfl) (CI.to (CI.mono h ?_))
                    intro r14 μ14 h
                    refine ok_callV (M' := mX1_isVisible) [vI x2, vI r14] dX5_entry_150 xw_363 fV_X1_isVisible fS_X1_isVisible rfl (by decide) (v1 (vp_lt hb7)) (ob_1 _ _ _) rfl (Nat.le_of_ble_eq_true rfl) (CI.to (CI.mono h ?_))
                    intro r15 μ15 h
                    refine ok_if_eq (tgt := 160) dX5_entry_153 (by decide) ⟨fun z => ?_, fun z => ?_⟩
                    · have h := h.1 z
                      refine ok_iconst (v := (0 : Int32)) dX5_entry_160 (by decide) ?_
                      exact ok_iret rfl dX5_entry_161 ⟨_, rfl, h⟩
                    · have h := h.2 z
                      refine ok_iconst (v := (1 : Int32)) dX5_entry_156 (by decide) ?_
                      refine ok_goto (tgt := 161) dX5_entry_157 (by decide) ?_
                      exact ok_iret rfl dX5_entry_161 ⟨_, rfl, h⟩
      · have h := h.2 z
        refine ok_aload_n (j := 0) dX5_entry_33 rfl rfl ?_
        refine ok_bipush (v := (-2 : Int32)) dX5_entry_34 (by decide) ?_
        refine ok_callV (M' := mX5_failed) [vI (-2 : Int32)] dX5_entry_36 xw_208 fV_X5_failed fS_X5_failed rfl (by decide) v5 (ob_5 _ _ _) rfl (Nat.le_of_ble_eq_true rfl) (CI.to (CI.mono h ?_))
        intro r16 μ16 h
        exact ok_iret rfl dX5_entry_39 ⟨_, rfl, h⟩
set_option maxRecDepth 100000 in
set_option maxHeartbeats 4000000 in
theorem eX5_stable {a b : xA} {h0 : Int64} {Q : Int32 → xM → Prop} {x1 : Int32}  (h : (CI mX5_holder [vR 5 0 0, vI x1] (a, (b, h0)) (fun r1 μ1 => ((¬ r1 = (-1 : Int32) → (vp_in r1 4 ∧ (vp_in x1 3 ∧ Q (μ1.1 17 0 (Int32.toNatClampNeg r1) (Int32.toNatClampNeg x1)) μ1))) ∧ (r1 = (-1 : Int32) → (vp_in x1 3 ∧ Q (μ1.1 1 0 (Int32.toNatClampNeg x1) 0) μ1)))))) : CI mX5_stable [vR 5 0 0, vI x1] (a, (b, h0)) Q := by
  refine xCalls_of (by decide) (Nat.le_of_ble_eq_true rfl) ?_
  show xOk mX5_stable 0 [(0, vR 5 0 0), (1, vI x1)] [] (a, (b, h0)) (qI Q)
  refine ok_aload_n (j := 0) dX5_stable_0 rfl rfl ?_
  refine ok_iload_n (j := 1) dX5_stable_1 rfl rfl ?_
  refine ok_callV (M' := mX5_holder) [vI x1] dX5_stable_2 xw_355 fV_X5_holder fS_X5_holder rfl (by decide) v5 (ob_5 _ _ _) rfl (Nat.le_of_ble_eq_true rfl) (CI.to (CI.mono h ?_))
  intro r1 μ1 h
  refine ok_istore_n (ls2 := [(2, vI r1), (0, vR 5 0 0), (1, vI x1)]) dX5_stable_5 rfl (by decide) rfl ?_
  refine ok_iload_n (j := 0) dX5_stable_6 rfl rfl ?_
  refine ok_iconst (v := (-1 : Int32)) dX5_stable_7 (by decide) ?_
  refine ok_icmp_ne (tgt := 23) dX5_stable_8 (by decide) ⟨fun z => ?_, fun z => ?_⟩
  · have h := h.1 z
    refine ok_aload_n (j := 1) dX5_stable_23 rfl rfl ?_
    refine gf_5_1 dX5_stable_24 v5 xw_174 ?_
    refine gf_4_3 dX5_stable_27 (v4 (by decide)) xw_86 ?_
    refine ok_iload_n (j := 0) dX5_stable_30 rfl rfl ?_
    obtain ⟨hb2, h⟩ := h
    refine aa_42 dX5_stable_31 (v42 (by decide)) hb2 ?_
    refine gf_2_4 dX5_stable_32 (v2 (by decide) (vp_lt hb2)) xw_44 ?_
    refine ok_iload_n (j := 2) dX5_stable_35 rfl rfl ?_
    obtain ⟨hb3, h⟩ := h
    refine al_17 dX5_stable_36 (v17 (by decide) (vp_lt hb2)) hb3 ?_
    exact ok_iret rfl dX5_stable_37 ⟨_, rfl, h⟩
  · have h := h.2 z
    refine ok_aload_n (j := 1) dX5_stable_11 rfl rfl ?_
    refine gf_5_0 dX5_stable_12 v5 xw_173 ?_
    refine ok_iload_n (j := 2) dX5_stable_15 rfl rfl ?_
    obtain ⟨hb4, h⟩ := h
    refine aa_40 dX5_stable_16 v40 hb4 ?_
    refine gf_1_0 dX5_stable_17 (v1 (vp_lt hb4)) xw_146 ?_
    refine ok_goto (tgt := 37) dX5_stable_20 (by decide) ?_
    exact ok_iret rfl dX5_stable_37 ⟨_, rfl, h⟩
