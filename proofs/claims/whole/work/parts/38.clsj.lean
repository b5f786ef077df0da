section
variable {a b : xA} {h0 : Int64} {r : Row} {T T' q : Nat} {R : Nat → Row}
theorem CR_pos {j p k : Nat} (h : CR a r T) (hj : j < 2) (hp : p < 3) (hk : k ≤ 48) : CR (xUp a 20 0 j p (nI k)) (upd r (69 + 6 * j + p) (nI k)) T ∧ Fr a (xUp a 20 0 j p (nI k)) r (upd r (69 + 6 * j + p) (nI k)) := by
  obtain ⟨⟨hI, hP, hL⟩, hU⟩ := h
  have mO : ∀ k' s w' i, ¬ (k' = 20 ∧ s = 0 ∧ w' = j ∧ i = p) → xUp a 20 0 j p (nI k) k' s w' i = a k' s w' i := fun k' s w' i h => by unfold xUp; rw [if_neg h]
  have hsz : ∀ p', p' < 3 → upd r (69 + 6 * j + p) (nI k) (66 + p') = r (66 + p') := fun p' hp' => up_ne r _ (by omega)
  have oth : ∀ w' f', w' < 4 → f' < 16 → wf (upd r (69 + 6 * j + p) (nI k)) w' f' = wf r w' f' := fun w' f' hw' hf' => wf_up r _ hw' hf' (by omega)
  have hlk : ∀ w' p', w' < 4 → lk (upd r (69 + 6 * j + p) (nI k)) w' p' = lk r w' p' := fun w' p' hw' => lk_of (oth w' 1 hw' (by decide)) (oth w' 2 hw' (by decide)) (oth w' 3 hw' (by decide))
  obtain ⟨p1, p2, p3, p4⟩ := hP
  refine ⟨⟨⟨RI_pos hI (by omega) hk, ⟨?_, ?_, fun w' hw' => ?_, fun j' hj' p' hp' => ?_⟩, fun p' hp' => ?_⟩, ?_⟩, fun k' s w' i hk' => mO _ _ _ _ (by omega), fun p' hp' => ?_⟩
  · rw [mO _ _ _ _ (by omega), up_ne r _ (by omega)]; exact p1
  · rw [mO _ _ _ _ (by omega), up_ne r _ (by omega)]; exact p2
  · exact PP_of (p3 w' hw') (fun f' hf' => oth w' f' hw' hf') (fun k' i hk' => mO _ _ _ _ (by omega))
  · rw [mO 21 _ _ _ (by omega), up_ne r (j := 69 + 6 * j' + 3 + p') _ (by omega)]
    refine ⟨?_, (p4 j' hj' p' hp').2⟩
    by_cases e : j' = j ∧ p' = p
    · obtain ⟨rfl, rfl⟩ := e
      rw [xUp_s, up_eq]
    · rw [mO _ _ _ _ (fun z => e ⟨z.2.2.1, z.2.2.2⟩), up_ne r _ (by omega)]
      exact (p4 j' hj' p' hp').1
  · refine PL_of (hL p' hp') (szN_of (hsz p' hp')) (fun k' h1 h2 i => mO _ _ _ _ (by omega)) (fun k' hk' f' hf' => ce_up r _ (by omega)) (fun w' hw' z => ?_) (fun w' hw' z => ?_)
    · rw [hlk w' p' hw']; exact ⟨z, mO _ _ _ _ (by omega)⟩
    · rw [hlk w' p' hw'] at z; exact ⟨z, mO _ _ _ _ (by omega)⟩
  · exact CU_of hU hsz (fun p' hp' k' hk' i => mO _ _ _ _ (by omega))
  · rw [szN_of (hsz p' hp')]
    exact ⟨Nat.le_refl _, LE_of (fun k' h1 h2 i => mO _ _ _ _ (by omega))⟩
/-- time or limit -/
theorem CR_t {i : Nat} {v : Int32} {T' : Nat} (h : CR a r T) (hi : i < 2) (hI' : RI (upd r i v) T') : CR (xUp a 4 0 0 i v) (upd r i v) T' ∧ Fr a (xUp a 4 0 0 i v) r (upd r i v) := by
  obtain ⟨⟨hI, hP, hL⟩, hU⟩ := h
  have mO : ∀ k' s w' j, ¬ (k' = 4 ∧ s = 0 ∧ w' = 0 ∧ j = i) → xUp a 4 0 0 i v k' s w' j = a k' s w' j := fun k' s w' j h => by unfold xUp; rw [if_neg h]
  have hsz : ∀ p', p' < 3 → upd r i v (66 + p') = r (66 + p') := fun p' hp' => up_ne r _ (by omega)
  have oth : ∀ w' f', w' < 4 → f' < 16 → wf (upd r i v) w' f' = wf r w' f' := fun w' f' hw' hf' => wf_up r _ hw' hf' (by omega)
  have hlk : ∀ w' p', w' < 4 → lk (upd r i v) w' p' = lk r w' p' := fun w' p' hw' => lk_of (oth w' 1 hw' (by decide)) (oth w' 2 hw' (by decide)) (oth w' 3 hw' (by decide))
  obtain ⟨p1, p2, p3, p4⟩ := hP
  refine ⟨⟨⟨hI', ⟨?_, ?_, fun w' hw' => ?_, fun j' hj' p' hp' => ?_⟩, fun p' hp' => ?_⟩, ?_⟩, fun k' s w' j hk' => mO _ _ _ _ (by omega), fun p' hp' => ?_⟩
  · by_cases e : i = 0
    · subst e; rw [xUp_s, up_eq]
    · rw [mO _ _ _ _ (by omega), up_ne r _ (by omega)]; exact p1
  · by_cases e : i = 1
    · subst e; rw [xUp_s, up_eq]
    · rw [mO _ _ _ _ (by omega), up_ne r _ (by omega)]; exact p2
  · exact PP_of (p3 w' hw') (fun f' hf' => oth w' f' hw' hf') (fun k' j hk' => mO _ _ _ _ (by omega))
  · rw [mO _ _ _ _ (by omega), mO _ _ _ _ (by omega), up_ne r _ (by omega), up_ne r _ (by omega)]
    exact p4 j' hj' p' hp'
  · refine PL_of (hL p' hp') (szN_of (hsz p' hp')) (fun k' h1 h2 j => mO _ _ _ _ (by omega)) (fun k' hk' f' hf' => ce_up r _ (by omega)) (fun w' hw' z => ?_) (fun w' hw' z => ?_)
    · rw [hlk w' p' hw']; exact ⟨z, mO _ _ _ _ (by omega)⟩
    · rw [hlk w' p' hw'] at z; exact ⟨z, mO _ _ _ _ (by omega)⟩
  · exact CU_of hU hsz (fun p' hp' k' hk' j => mO _ _ _ _ (by omega))
  · rw [szN_of (hsz p' hp')]
    exact ⟨Nat.le_refl _, LE_of (fun k' h1 h2 j => mO _ _ _ _ (by omega))⟩
theorem RI_1 {v : Int32} (h : RI r T) : RI (upd r 1 v) T := by
  obtain ⟨hA, hB, hC, hD⟩ := h
  have hsz : ∀ p, p < 3 → szN (upd r 1 v) p = szN r p := fun p hp => szN_of (up_ne r _ (by omega))
  have oth : ∀ w' f, w' < 4 → f < 16 → wf (upd r 1 v) w' f = wf r w' f := fun w' f hw' hf => wf_up r _ hw' hf (by omega)
  refine ⟨fun p hp => ?_, fun w' hw' => ?_, fun j hj p hp => ?_, ?_⟩
  · rw [up_ne r _ (by omega), hsz p hp]
    refine ⟨(hA p hp).1, ?_⟩
    have := cN_mono (P := fun w => lk r w p) (P' := fun w' => lk (upd r 1 v) w' p) 4 0 (fun i' _ hi' hl => by
      rw [← lk_of (oth i' 1 (by omega) (by decide)) (oth i' 2 (by omega) (by decide)) (oth i' 3 (by omega) (by decide))]; exact hl)
    have := (hA p hp).2
    unfold ctN at this ⊢
    omega
  · exact (hB w' hw').frame (fun f hf => oth w' f hw' hf) (fun p hp => by rw [hsz p hp]; exact Nat.le_refl _) (Nat.le_refl _)
  · rw [up_ne r _ (by omega)]; exact hC j hj p hp
  · rw [up_ne r _ (by omega)]; exact hD
theorem CR_ca {w k : Nat} {v : Int32} (h : CR a r T) (hw : w < 4) (hk : k < 6) (hm : ¬ wf r w 1 = 0) (hv : v = -1 ∨ ∃ n, n ≤ 48 ∧ v = nI n) : CR (xUp a 19 0 w k v) (uw r w (10 + k) v) T ∧ Fr a (xUp a 19 0 w k v) r (uw r w (10 + k) v) := by
  obtain ⟨⟨hI, hP, hL⟩, hU⟩ := h
  have hf16 : 10 + k < 16 := by omega
  have mO : ∀ k' s w' i, ¬ (k' = 19 ∧ s = 0 ∧ w' = w ∧ i = k) → xUp a 19 0 w k v k' s w' i = a k' s w' i := fun k' s w' i h => by unfold xUp; rw [if_neg h]
  have hsz : ∀ p, p < 3 → uw r w (10 + k) v (66 + p) = r (66 + p) := fun p hp => hi_uw r v hw hf16 (by omega)
  have oth : ∀ w' f', f' < 16 → ¬ (w' = w ∧ f' = 10 + k) → wf (uw r w (10 + k) v) w' f' = wf r w' f' := fun w' f' hf' hne => by rw [wf_uw _ _ hf16 hf', if_neg hne]
  have hlk : ∀ w' p, lk (uw r w (10 + k) v) w' p = lk r w' p := fun w' p => lk_of (oth w' 1 (by decide) (by omega)) (oth w' 2 (by decide) (by omega)) (oth w' 3 (by decide) (by omega))
  obtain ⟨p1, p2, p3, p4⟩ := hP
  refine ⟨⟨⟨RI_ca hI hw hk hv, ⟨?_, ?_, fun w' hw' => ?_, fun j' hj p hp => ?_⟩, fun p hp => ?_⟩, ?_⟩, fun k' s w' i hk' => mO _ _ _ _ (by omega), fun p hp => ?_⟩
  · rw [mO _ _ _ _ (by omega), lo_uw r v (by omega)]; exact p1
  · rw [mO _ _ _ _ (by omega), lo_uw r v (by omega)]; exact p2
  · by_cases e : w' = w
    · subst e
      obtain ⟨q1, q2, q3, q4, q5, q6, q7, q8⟩ := p3 w' hw
      refine ⟨?_, ?_, ?_, ?_, fun p hp => ?_, fun p hp z => ?_, fun p hp => ?_, fun k' hk' => ?_⟩
      · rw [mO _ _ _ _ (by omega), oth w' 0 (by decide) (by omega)]; exact q1
      · rw [mO _ _ _ _ (by omega), oth w' 1 (by decide) (by omega)]; exact q2
      · rw [mO _ _ _ _ (by omega), oth w' 4 (by decide) (by omega)]; exact q3
      · rw [mO _ _ _ _ (by omega), oth w' 5 (by decide) (by omega)]; exact q4
      · rw [mO _ _ _ _ (by omega), oth w' 2 (by decide) (by omega)]; exact q5 p hp
      · rw [oth w' 2 (by decide) (by omega)] at z
        rw [mO _ _ _ _ (by omega), oth w' (7 + p) (by omega) (by omega)]; exact q6 p hp z
      · rw [mO _ _ _ _ (by omega), oth w' 1 (by decide) (by omega), oth w' 2 (by decide) (by omega), oth w' 6 (by decide) (by omega), hlk]; exact q7 p hp
      · rw [oth w' 1 (by decide) (by omega), if_neg hm, wf_uw _ _ hf16 (by omega)]
        by_cases ek : k' = k
        · subst ek; rw [xUp_s, if_pos ⟨rfl, rfl⟩]
        · rw [mO _ _ _ _ (by omega), if_neg (by omega), q8 k' hk', if_neg hm]
    · exact PP_of (p3 w' hw') (fun f' hf' => oth w' f' hf' (fun z => e z.1)) (fun k' i hk' => mO _ _ _ _ (fun z => e z.2.2.1))
  · rw [mO _ _ _ _ (by omega), mO _ _ _ _ (by omega), hi_uw r v hw hf16 (by omega), hi_uw r v hw hf16 (by omega)]; exact p4 j' hj p hp
  · refine PL_of (hL p hp) (szN_of (hsz p hp)) (fun k' h1 h2 i => mO _ _ _ _ (by omega)) (fun k' hk' f' hf' => ce_uw r v hw hf16) (fun w' hw' z => ?_) (fun w' hw' z => ?_)
    · rw [hlk]; exact ⟨z, mO _ _ _ _ (by omega)⟩
    · rw [hlk] at z; exact ⟨z, mO _ _ _ _ (by omega)⟩
  · exact CU_of hU hsz (fun p hp k' hk' i => mO _ _ _ _ (by omega))
  · rw [szN_of (hsz p hp)]
    exact ⟨Nat.le_refl _, LE_of (fun k' h1 h2 i => mO _ _ _ _ (by omega))⟩
theorem op_CR {w : Nat} (h : CR a r T) (hw : w < 4) (hm : wf r w 1 = 0) : CR (xUp (xUp a 2 0 w 1 1) 2 0 w 3 (r 0)) (opR r w) T ∧ Fr a (xUp (xUp a 2 0 w 1 1) 2 0 w 3 (r 0)) r (opR r w) := by
  obtain ⟨⟨hI, hP, hL⟩, hU⟩ := h
  have mO : ∀ k' s w' i, ¬ (k' = 2 ∧ s = 0 ∧ w' = w ∧ (i = 1 ∨ i = 3)) → xUp (xUp a 2 0 w 1 1) 2 0 w 3 (r 0) k' s w' i = a k' s w' i := fun k' s w' i h => by
    unfold xUp
    rw [if_neg (fun z => h ⟨z.1, z.2.1, z.2.2.1, Or.inr z.2.2.2⟩), if_neg (fun z => h ⟨z.1, z.2.1, z.2.2.1, Or.inl z.2.2.2⟩)]
  have hsz : ∀ p, p < 3 → opR r w (66 + p) = r (66 + p) := fun p hp => op_at r hw (by omega)
  have oth : ∀ w' f, w' ≠ w → f < 16 → wf (opR r w) w' f = wf r w' f := by
    intro w' f hne hf
    rw [wf_op _ hf]
    simp [hne]
  have hin := (hI.2.1 w hw).2.2.2.2.2.1 hm
  have e2 : wf (opR r w) w 2 = 0 := by rw [wf_op _ (by decide)]; simp
  have e1 : wf (opR r w) w 1 = 1 := by rw [wf_op _ (by decide)]; simp
  have e0 : wf (opR r w) w 0 = wf r w 0 := by rw [wf_op _ (by decide)]; simp
  have e4 : wf (opR r w) w 4 = wf r w 4 := by rw [wf_op _ (by decide)]; simp
  have e5 : wf (opR r w) w 5 = r 0 := by rw [wf_op _ (by decide)]; simp
  have hlkw : ∀ p, p < 3 → lk (opR r w) w p = false := fun p hp => lk_false2 hp e2
  have hlkO : ∀ w' p, w' ≠ w → lk (opR r w) w' p = lk r w' p := fun w' p hne => lk_of (oth w' 1 hne (by decide)) (oth w' 2 hne (by decide)) (oth w' 3 hne (by decide))
  obtain ⟨p1, p2, p3, p4⟩ := hP
  refine ⟨⟨⟨RI_op hI hw hm, ⟨?_, ?_, fun w' hw' => ?_, fun j' hj p hp => ?_⟩, fun p hp => ?_⟩, ?_⟩, fun k' s w' i hk' => mO _ _ _ _ (by omega), fun p hp => ?_⟩
  · rw [mO _ _ _ _ (by omega), op_at r hw (by omega)]; exact p1
  · rw [mO _ _ _ _ (by omega), op_at r hw (by omega)]; exact p2
  · by_cases e : w' = w
    · subst e
      obtain ⟨q1, q2, q3, q4, q5, q6, q7, q8⟩ := p3 w' hw
      refine ⟨?_, ?_, ?_, ?_, fun p hp => ?_, fun p hp z => ?_, fun p hp => ?_, fun k' hk' => ?_⟩
      · rw [mO _ _ _ _ (by omega), e0]; exact q1
      · rw [e1]; unfold xUp; simp
      · rw [mO _ _ _ _ (by omega), e4]; exact q3
      · rw [e5, xUp_s]
      · rw [mO _ _ _ _ (by omega), e2, ← q5 p hp, hin]
      · rw [e2, bit0 p hp] at z; cases z
      · rw [mO _ _ _ _ (by omega), q7 p hp, if_neg (fun z => by rw [hm] at z; exact absurd z.1 (by decide)), if_neg (fun z => by rw [e1] at z; exact absurd z.1 (by decide))]
      · rw [mO _ _ _ _ (by omega), q8 k' hk', if_pos hm, e1, if_neg (by decide), wf_op _ (by omega), if_pos (by omega)]
    · exact PP_of (p3 w' hw') (fun f' hf' => oth w' f' e hf') (fun k' i hk' => mO _ _ _ _ (fun z => e z.2.2.1))
  · rw [mO _ _ _ _ (by omega), mO _ _ _ _ (by omega), op_at r hw (by omega), op_at r hw (by omega)]; exact p4 j' hj p hp
  · refine PL_of (hL p hp) (szN_of (hsz p hp)) (fun k' h1 h2 i => mO _ _ _ _ (by omega)) (fun k' hk' f' hf' => ?_) (fun w' hw' z => ?_) (fun w' hw' z => ?_)
    · show opR r w _ = r _
      exact op_at r hw (by omega)
    · have hne : w' ≠ w := fun e => by rw [e, lk_false hm] at z; cases z
      rw [hlkO w' p hne]; exact ⟨z, mO _ _ _ _ (by omega)⟩
    · have hne : w' ≠ w := fun e => by rw [e, hlkw p hp] at z; cases z
      rw [hlkO w' p hne] at z; exact ⟨z, mO _ _ _ _ (by omega)⟩
  · exact CU_of hU hsz (fun p hp k' hk' i => mO _ _ _ _ (by omega))
  · rw [szN_of (hsz p hp)]
    exact ⟨Nat.le_refl _, LE_of (fun k' h1 h2 i => mO _ _ _ _ (by omega))⟩
theorem cC_opens {Q : Int32 → xM → Prop} {x y : Int32} (h : CR a r T) (hK : KC a q R r T) (hq : ∀ a', AP a q R r T (oOpens r x y) a' → Q (oOpens r x y).1 (a', (b, h0))) : CI mX5_opens [vR 5 0 0, vI x, vI y] (a, (b, h0)) Q := by
  refine eX5_opens (cC_wrongAge (CR_P h) (fun z => ⟨fun q => absurd q (by decide), fun _ => cF2 hq (by rw [oOpens, if_pos z])⟩) (fun w hw e hb => ⟨fun _ => ?_, fun q => absurd rfl q⟩))
  subst e
  obtain ⟨q1, q2, -⟩ := CR_w h hw
  have ew : (nI w).toNatClampNeg = w := nI_clamp (by omega)
  refine ⟨vp_in_nI hw (by decide), ?_⟩
  dsimp only
  rw [ew, q1, q2]
  refine ⟨fun u => ⟨fun v => ?_, fun v => cF3 hq (by rw [oOpens, if_neg hb, ew, if_pos u, if_neg v])⟩, fun u => cF6 hq (by rw [oOpens, if_neg hb, ew, if_neg u])⟩
  refine cC_keep h hK (fun a1 c1 k1 f1 => ?_)
  obtain ⟨c2, f2⟩ := op_CR c1 hw v
  have et : xUp a1 2 0 w 1 1 4 0 0 0 = r 0 := by
    unfold xUp
    rw [if_neg (by omega)]
    exact c1.1.2.1.1
  dsimp only
  rw [et]
  exact cC_producersIn (CR_P c2) (cK6 hq (by rw [oOpens, if_neg hb, ew, if_pos u, if_pos v]) h.1.1 k1 f1 c2 f2)
theorem cC_carries {Q : Int32 → xM → Prop} {x y j p : Int32} (h : CR a r T) (hK : KC a q R r T) (hq : ∀ a', AP a q R r T (oCarries r x y j p) a' → Q (oCarries r x y j p).1 (a', (b, h0))) : CI mX5_carries [vR 5 0 0, vI x, vI y, vI j, vI p] (a, (b, h0)) Q := by
  refine eX5_carries (cC_wrongAge (CR_P h) (fun z => ⟨fun _ => cF2 hq (by rw [oCarries, if_pos (Or.inl z)]), fun q => absurd q (by decide)⟩) (fun w hw e hb => ⟨fun q => absurd rfl q, fun _ => ?_⟩))
  refine cC_out (n := 1) (by decide) (fun z => ⟨fun _ => cF2 hq (by rw [oCarries, if_pos (Or.inr (Or.inl (show j < 0 ∨ 1 < j from z)))]), fun q => absurd q (by decide)⟩) (fun j' hj ej => ⟨fun q => absurd rfl q, fun _ => ?_⟩)
  refine cC_out (n := 2) (by decide) (fun z => ⟨fun q => absurd q (by decide), fun _ => cF2 hq (by rw [oCarries, if_pos (Or.inr (Or.inr (show p < 0 ∨ 2 < p from z)))])⟩) (fun p' hp ep => ⟨fun _ => ?_, fun q => absurd rfl q⟩)
  subst e; subst ej; subst ep
  have hb2 : ¬ (badAge r (nI w) y ∨ (nI j' < 0 ∨ 1 < nI j') ∨ (nI p' < 0 ∨ 2 < nI p')) := fun z => z.elim hb (fun z => z.elim (nI1 (by omega)) (nI2 (by omega)))
  obtain ⟨q1, q2, -⟩ := CR_w h hw
  have ew : (nI w).toNatClampNeg = w := nI_clamp (by omega)
  have ej : (nI j').toNatClampNeg = j' := nI_clamp (by omega)
  have ep : (nI p').toNatClampNeg = p' := nI_clamp (by omega)
  refine ⟨vp_in_nI hw (by decide), ?_⟩
  dsimp only
  rw [ew, q1, q2]
  refine ⟨fun u => ⟨fun v => ?_, fun v => cF3 hq (by rw [oCarries, if_neg hb2, ew, if_pos u, if_neg v])⟩, fun u => cF6 hq (by rw [oCarries, if_neg hb2, ew, if_neg u])⟩
  refine cC_keep h hK (fun a1 c1 k1 f1 => ?_)
  have e6 : nI j' * (3 : Int32) + nI p' = nI (3 * j' + p') := by rw [lit 3, pk_mul, nI_add, Nat.mul_comm]
  dsimp only
  rw [e6, ej, ep, nI_clamp (by omega), (c1.1.2.1.2.2.2 j' (by omega) p' (by omega)).1]
  refine ⟨vp_in_nI (by omega) (by decide), vp_in_nI (by omega) (by decide), vp_in_nI (by omega) (by decide), ?_⟩
  have hm : ¬ wf r w 1 = 0 := by rw [v]; decide
  obtain ⟨c2, f2⟩ := CR_ca (k := 3 * j' + p') (v := r (69 + 6 * j' + p')) c1 hw (by omega) hm (Or.inr (h.1.1.2.2.1 j' (by omega) p' (by omega)))
  rw [show 10 + (3 * j' + p') = 10 + 3 * j' + p' by omega] at c2 f2
  exact cK6 hq (by rw [oCarries, if_neg hb2, ew, if_pos u, if_pos v, ej, ep]) h.1.1 k1 f1 c2 f2
theorem cC_limit {Q : Int32 → xM → Prop} {x : Int32} (h : CR a r T) (hK : KC a q R r T) (hq : ∀ a', AP a q R r T (oLimit r x) a' → Q (oLimit r x).1 (a', (b, h0))) : CI mX5_limit [vR 5 0 0, vI x] (a, (b, h0)) Q := by
  refine eX5_limit ⟨fun z => cF2 hq (by rw [oLimit, if_pos (Or.inl z)]), fun z => ⟨fun y => ?_, fun y => cF2 hq (by rw [oLimit, if_pos (Or.inr (Int32.not_le.mp y))])⟩⟩
  have hb : ¬ (x < 1 ∨ 20 < x) := fun u => u.elim z (fun u => Int32.not_le.mpr u y)
  refine cC_keep h hK (fun a1 c1 k1 f1 => ?_)
  obtain ⟨c2, f2⟩ := CR_t (i := 1) (v := x) c1 (by decide) (RI_1 h.1.1)
  dsimp only
  rw [c1.1.2.1.2.1]
  exact cK6 hq (by rw [oLimit, if_neg hb]) h.1.1 k1 f1 c2 f2
theorem CR_LG {p : Nat} (h : CR a r T) (hp : p < 3) : LG a r T p := ⟨h.1.1, hp, h.1.2.2 p hp, h.2⟩
theorem cC_reads {Q : Int32 → xM → Prop} {j p : Int32} (hT : T < 2 ^ 30) (h : CR a r T) (hK : KC a q R r T) (hq : ∀ a', AP a q R r T (oReads r j p) a' → Q (oReads r j p).1 (a', (b, h0))) : CI mX5_reads [vR 5 0 0, vI j, vI p] (a, (b, h0)) Q := by
  refine eX5_reads (cC_out (n := 1) (by decide) (fun z => ⟨fun _ => cF2 hq (by rw [oReads, if_pos (Or.inl (show j < 0 ∨ 1 < j from z))]), fun q => absurd q (by decide)⟩) (fun j' hj ej => ⟨fun q => absurd rfl q, fun _ => ?_⟩))
  refine cC_out (n := 2) (by decide) (fun z => ⟨fun q => absurd q (by decide), fun _ => cF2 hq (by rw [oReads, if_pos (Or.inr (show p < 0 ∨ 2 < p from z))])⟩) (fun p' hp ep => ⟨fun _ => ?_, fun q => absurd rfl q⟩)
  subst ej; subst ep
  have hb2 : ¬ ((nI j' < 0 ∨ 1 < nI j') ∨ (nI p' < 0 ∨ 2 < nI p')) := fun z => z.elim (nI1 (by omega)) (nI2 (by omega))
  have ej : (nI j').toNatClampNeg = j' := nI_clamp (by omega)
  have ep : (nI p').toNatClampNeg = p' := nI_clamp (by omega)
  have hp3 : p' < 3 := by omega
  have hL := CR_LG h hp3
  obtain ⟨s1, s2⟩ := h.1.1.WR.pl (j := j') (by omega) hp3
  obtain ⟨t1, t2⟩ := h.1.1.WR.st hp3
  have hst := hold_le h.1.1 hp3
  have hsz := hL.sz
  dsimp only
  rw [ej, ep, (h.1.2.1.2.2.2 j' (by omega) p' hp3).1]
  refine ⟨vp_in_nI (by omega) (by decide), vp_in_nI hp3 (by decide), vp_in_nI hp3 (by decide), ?_⟩
  refine cC_stable h.1.1 (CR_P h) h.2 hT rfl hp3 (cC_nextVisible hL s2 t2 s1 hst ?_)
  refine ⟨fun z => ?_, fun z => cN5 hq (by rw [oReads, if_neg hb2, ej, ep, if_pos (show rdF r j' p' = -1 from z)])⟩
  refine cC_keep h hK (fun a1 c1 k1 f1 => ?_)
  rcases fN_in (vis r p') (stN r p' - plN r j' p') (plN r j' p') with e | ⟨i, i1, i2, i3, -⟩
  · exact absurd e z
  · have e4 : rdF r j' p' = nI i := i3
    have hi : i < szN r p' := by omega
    rw [i3, nI_clamp (by omega)]
    refine ⟨vp_in_nI hp3 (by decide), vp_in_nI hp3 (by decide), vp_in_nI (by omega) (by decide), ?_⟩
    rw [nI_1]
    obtain ⟨c2, f2⟩ := CR_pos (j := j') (p := p') (k := i + 1) c1 (by omega) hp3 (by omega)
    have e5 : xUp a1 20 0 j' p' (nI (i + 1)) 13 0 p' i = ce r p' i 4 := by
      unfold xUp
      rw [if_neg (by omega)]
      exact ((c1.1.2.2 p' hp3).1 i hi).2.2.2.2.1.symm
    dsimp only
    rw [e5]
    exact cK6 hq (by rw [oReads, if_neg hb2, ej, ep, if_neg (show ¬ rdF r j' p' = -1 from z), e4, nI_clamp (by omega), nI_1]) h.1.1 k1 f1 c2 f2
theorem upd_same (r : Row) {i : Nat} {v : Int32} (h : r i = v) : upd r i v = r := by
  funext j
  unfold upd
  split
  · rename_i e; rw [e]; exact h.symm
  · rfl
theorem cC_returnToSaved {Q : Int32 → xM → Prop} {j : Nat} (h : CR a r T) (hj : j < 2) (hq : ∀ a', CR a' (rwR r j) T → Fr a a' r (rwR r j) → Q (rwA r j) (a', (b, h0))) : CI mX0_returnToSaved [vR 0 0 j] (a, (b, h0)) Q := by
  have step : ∀ (p : Nat) (x : Int32) (a : xA) (r : Row), p < 3 → CR a r T → (∀ a', CR a' (rw1 r j p) T → Fr a a' r (rw1 r j p) → xOk mX0_returnToSaved 4 [(0, vR 0 0 j), (1, vI (x + rwC r j p)), (2, vI (nI (p + 1)))] [] (a', (b, h0)) (qI Q)) → xOk mX0_returnToSaved 4 [(0, vR 0 0 j), (1, vI x), (2, vI (nI p))] [] (a, (b, h0)) (qI Q) := by
    intro p x a r hp h hn
    obtain ⟨z1, z2⟩ := h.1.2.1.2.2.2 j hj p hp
    have ei : 69 + 6 * j + 3 + p = 69 + 6 * j + p + 3 := by omega
    rw [ei] at z2
    refine rX0_returnToSaved_4 (by decide) hj ⟨fun z => absurd z (n3 hp), fun _ => ⟨vp_in_nI hp (by decide), vp_in_nI hp (by decide), ?_⟩⟩
    rw [nI_clamp (by omega), z1, z2, nI_1]
    refine ⟨fun y => ?_, fun y => ⟨vp_in_nI hp (by decide), vp_in_nI hp (by decide), ?_⟩⟩
    · have e1 : rw1 r j p = r := upd_same r y
      have hn := hn a
      rw [e1, rwC, if_pos y, show x + (0 : Int32) = x from Int32.add_zero _] at hn
      exact hn h Fr.rfl'
    · obtain ⟨k, k1, k2⟩ := h.1.1.2.2.1 j hj (p + 3) (by omega)
      rw [show 69 + 6 * j + (p + 3) = 69 + 6 * j + p + 3 by omega] at k2
      obtain ⟨c2, f2⟩ := CR_pos (k := k) h hj hp k1
      have hn := hn (xUp a 20 0 j p (nI k))
      rw [rwC, if_neg y, rw1, k2] at hn
      rw [k2]
      exact hn c2 f2
  refine eX0_returnToSaved (by decide) hj (step 0 0 a r (by decide) h (fun a1 c1 f1 => step 1 _ a1 _ (by decide) c1 (fun a2 c2 f2 => step 2 _ a2 _ (by decide) c2 (fun a3 c3 f3 => ?_))))
  exact rX0_returnToSaved_4 (by decide) hj ⟨fun _ => hq a3 c3 ((f1.trans f2).trans f3), fun z => absurd (by decide) z⟩
theorem cC_rewinds {Q : Int32 → xM → Prop} {j : Int32} (h : CR a r T) (hK : KC a q R r T) (hq : ∀ a', AP a q R r T (oRewinds r j) a' → Q (oRewinds r j).1 (a', (b, h0))) : CI mX5_rewinds [vR 5 0 0, vI j] (a, (b, h0)) Q := by
  refine eX5_rewinds (cC_out (n := 1) (by decide) (fun z => ⟨fun q => absurd q (by decide), fun _ => cF2 hq (by rw [oRewinds, if_pos (show j < 0 ∨ 1 < j from z)])⟩) (fun j' hj ej => ⟨fun _ => ?_, fun q => absurd rfl q⟩))
  subst ej
  have ej : (nI j').toNatClampNeg = j' := nI_clamp (by omega)
  refine cC_keep h hK (fun a1 c1 k1 f1 => ⟨vp_in_nI (by omega) (by decide), ?_⟩)
  rw [ej]
  exact cC_returnToSaved c1 (by omega) (fun a' c2 f2 => cK6 hq (by rw [oRewinds, if_neg (nI1 (by omega)), ej]) h.1.1 k1 f1 c2 f2)
end
