theorem PP_of {a a' : xA} {s w : Nat} {r r' : Row} (hP : PP a s r w) (hf : ∀ f, f < 16 → wf r' w f = wf r w f) (hm : ∀ k j, (k = 2 ∨ k = 17 ∨ k = 18 ∨ k = 19) → a' k s w j = a k s w j) : PP a' s r' w := by
  obtain ⟨q1, q2, q3, q4, q5, q6, q7, q8⟩ := hP
  have hl : ∀ p, lk r' w p = lk r w p := fun p => lk_of (hf 1 (by decide)) (hf 2 (by decide)) (hf 3 (by decide))
  refine ⟨by rw [hm 2 0 (by simp), hf 0 (by decide)]; exact q1, by rw [hm 2 1 (by simp), hf 1 (by decide)]; exact q2, by rw [hm 2 2 (by simp), hf 4 (by decide)]; exact q3, by rw [hm 2 3 (by simp), hf 5 (by decide)]; exact q4, fun p hp => by rw [hf 2 (by decide), hm 17 p (by simp)]; exact q5 p hp, fun p hp z => ?_, fun p hp => ?_, fun k hk => ?_⟩
  · rw [hf 2 (by decide)] at z
    rw [hm 17 p (by simp), hf (7 + p) (by omega)]
    exact q6 p hp z
  · rw [hm 18 p (by simp), hf 1 (by decide), hf 2 (by decide), hf 6 (by decide), hl p]
    exact q7 p hp
  · rw [hm 19 k (by simp), hf 1 (by decide), hf (10 + k) (by omega)]
    exact q8 k hk
theorem PL_of {a a' : xA} {r r' : Row} {p : Nat} (hP : PL a 0 r p) (hsz : szN r' p = szN r p) (hlog : ∀ k, 10 ≤ k → k ≤ 15 → ∀ i, a' k 0 p i = a k 0 p i) (hce : ∀ k, k < szN r p → ∀ f, f < 6 → ce r' p k f = ce r p k f) (h6 : ∀ w, w < 4 → lk r w p = true → lk r' w p = true ∧ a' 17 0 w p = a 17 0 w p) (h7 : ∀ w, w < 4 → lk r' w p = true → lk r w p = true ∧ a' 17 0 w p = a 17 0 w p) : PL a' 0 r' p := by
  obtain ⟨g1, g2, g3, g4, g5, g6, g7⟩ := hP
  unfold PL
  rw [hsz]
  have e10 := hlog 10 (by decide) (by decide)
  have e11 := hlog 11 (by decide) (by decide)
  have e12 := hlog 12 (by decide) (by decide)
  have e13 := hlog 13 (by decide) (by decide)
  have e14 := hlog 14 (by decide) (by decide)
  have e15 := hlog 15 (by decide) (by decide)
  have ec : ∀ n f, cm a' p n f = cm a p n f := fun n f => by unfold cm; rw [e15]
  have ef : ∀ n k, fate a' p n k = fate a p n k := fun n k => by unfold fate; simp only [e14, e13, ec]
  refine ⟨fun k hk => ?_, fun k hk => ?_, fun k hk => ?_, fun k hk => ?_, fun f hf => ?_, fun k hk z1 f hf z2 z3 => ?_, fun w hw hl => ?_⟩
  · rw [hce k hk 0 (by decide), hce k hk 1 (by decide), hce k hk 2 (by decide), hce k hk 3 (by decide), hce k hk 4 (by decide), hce k hk 5 (by decide), e10, e11, e12, e13, e14, ef]
    exact g1 k hk
  · simp only [e10, e12, e14]; exact g2 k hk
  · simp only [e10, e12, e13, e14, e15]; exact g3 k hk
  · rw [e15]; exact g4 k hk
  · simp only [e12, e14, e15]; exact g5 f hf
  · rw [e12] at z1
    rw [e14] at z2
    rw [ec] at z3
    obtain ⟨w, w1, w2, w3, w4⟩ := g6 k hk z1 f hf z2 z3
    obtain ⟨l1, l2⟩ := h6 w w1 w3
    exact ⟨w, w1, by rw [e10]; exact w2, l1, by rw [l2]; exact w4⟩
  · obtain ⟨l1, l2⟩ := h7 w hw hl
    obtain ⟨f, f1, f2, f3, f4, f5, f6⟩ := g7 w hw l1
    exact ⟨f, f1, by rw [l2]; exact f2, by rw [e12]; exact f3, by rw [e14]; exact f4, by rw [e10]; exact f5, by rw [ec]; exact f6⟩
theorem LE_of {a a' : xA} {p N : Nat} (hlog : ∀ k, 10 ≤ k → k ≤ 15 → ∀ i, a' k 0 p i = a k 0 p i) : LE a a' p N := fun k _ => ⟨hlog 10 (by decide) (by decide) k, hlog 11 (by decide) (by decide) k, hlog 12 (by decide) (by decide) k, hlog 13 (by decide) (by decide) k, hlog 14 (by decide) (by decide) k, Or.inl (hlog 15 (by decide) (by decide) k)⟩
theorem CU_of {a a' : xA} {r r' : Row} (hU : CU a r) (hsz : ∀ p, p < 3 → r' (66 + p) = r (66 + p)) (hlog : ∀ p, p < 3 → ∀ k, (k = 1 ∨ k = 15) → ∀ i, a' k 0 p i = a k 0 p i) : CU a' r' := by
  intro p hp
  rw [hlog p hp 1 (by simp), hsz p hp, szN_of (hsz p hp)]
  refine ⟨(hU p hp).1, fun k hk m hm z => ?_⟩
  rw [hlog p hp 15 (by simp)] at z
  exact (hU p hp).2 k hk m hm z
section
variable {a b : xA} {h0 : Int64} {r : Row} {T : Nat}
theorem RI_of_ov {w : Nat} (h : RI r T) (hw : w < 4) (hm : ¬ wf r w 1 = 0) : RI (ovR r w) T := RI_ov hw h.1 (fun w' hw' _ => h.2.1 w' hw') ((h.2.1 w hw).2.2.2.2.2.2.2.2.2 hm) h.2.2.1 h.2.2.2
theorem fi_CR {w : Nat} (h : CR a r T) (hw : w < 4) (hm : ¬ wf r w 1 = 0) (hl : ∀ p, p < 3 → lk r w p = false) : CR (fiM a w) (ovR r w) T ∧ Fr a (fiM a w) r (ovR r w) := by
  obtain ⟨⟨hI, hP, hL⟩, hU⟩ := h
  have hlog : ∀ p k, (k = 1 ∨ (10 ≤ k ∧ k ≤ 15)) → ∀ i, fiM a w k 0 p i = a k 0 p i := by
    intro p k hk i
    rw [fiM_at, if_neg (by omega), if_neg (by omega), if_neg (by omega), if_neg (by omega)]
  have hsz : ∀ p, p < 3 → ovR r w (66 + p) = r (66 + p) := fun p hp => sz_ov r hw hp
  have hO : ∀ w', w' < 4 → w' ≠ w → ∀ f, f < 16 → wf (ovR r w) w' f = wf r w' f := fun w' hw' hne f hf => by rw [wf_ov _ hw hw' hf, if_neg (fun z => hne z.1)]
  have hlkO : ∀ w' p, w' < 4 → w' ≠ w → lk (ovR r w) w' p = lk r w' p := fun w' p hw' hne => lk_of (hO w' hw' hne 1 (by decide)) (hO w' hw' hne 2 (by decide)) (hO w' hw' hne 3 (by decide))
  obtain ⟨p1, p2, p3, p4⟩ := hP
  obtain ⟨q1, q2, q3, q4, q5, q6, q7, q8⟩ := p3 w hw
  have mO : ∀ w' k j, w' ≠ w → (k = 2 ∨ k = 17 ∨ k = 18 ∨ k = 19) → fiM a w k 0 w' j = a k 0 w' j := by
    intro w' k j hne hk
    rw [fiM_at, if_neg (fun z => hne z.2.2.1), if_neg (fun z => hne z.2.2.1), if_neg (fun z => hne z.2.2.1), if_neg (by omega)]
  have e1 : wf (ovR r w) w 1 = 0 := by rw [wf_ov _ hw hw (by decide)]; simp
  have e2 : wf (ovR r w) w 2 = 0 := by rw [wf_ov _ hw hw (by decide)]; simp
  have e4 : wf (ovR r w) w 4 = 0 := by rw [wf_ov _ hw hw (by decide)]; simp
  have e0 : wf (ovR r w) w 0 = wf r w 0 := by rw [wf_ov _ hw hw (by decide)]; simp
  have e5 : wf (ovR r w) w 5 = wf r w 5 := by rw [wf_ov _ hw hw (by decide)]; simp
  refine ⟨⟨⟨RI_of_ov hI hw hm, ⟨?_, ?_, fun w' hw' => ?_, fun j hj p hp => ?_⟩, fun p hp => ?_⟩, ?_⟩, fun k s w' j hk => ?_, fun p hp => ?_⟩
  · rw [fiM_at, if_neg (by omega), if_neg (by omega), if_neg (by omega), if_neg (by omega), ov_at _ hw (by omega), sv_ne _ (by omega)]; exact p1
  · rw [fiM_at, if_neg (by omega), if_neg (by omega), if_neg (by omega), if_neg (by omega), ov_at _ hw (by omega), sv_ne _ (by omega)]; exact p2
  · by_cases e : w' = w
    · subst e
      refine ⟨?_, ?_, ?_, ?_, fun p hp => ?_, fun p hp z => ?_, fun p hp => ?_, fun k hk => ?_⟩
      · rw [fiM_at, if_neg (by omega), if_neg (by omega), if_neg (by omega), if_neg (by omega), e0]; exact q1
      · rw [fiM_at, if_pos (by simp), e1]
      · rw [fiM_at, if_pos (by simp), e4]
      · rw [fiM_at, if_neg (by omega), if_neg (by omega), if_neg (by omega), if_neg (by omega), e5]; exact q4
      · rw [fiM_at, if_neg (by omega), if_pos ⟨rfl, rfl, rfl, hp⟩, e2, bit0 p hp]; rfl
      · rw [e2, bit0 p hp] at z; cases z
      · rw [fiM_at, if_neg (by omega), if_neg (by omega), if_neg (by omega), if_neg (by omega), q7 p hp, if_neg (fun z => by rw [hl p hp] at z; cases z.2), if_neg (fun z => by rw [e1] at z; exact absurd z.1 (by decide))]
      · rw [fiM_at, if_neg (by omega), if_neg (by omega), if_pos ⟨rfl, rfl, rfl, hk⟩, if_pos e1]
    · exact PP_of (p3 w' hw') (hO w' hw' e) (fun k j hk => mO w' k j e hk)
  · rw [ov_at _ hw (by omega), ov_at _ hw (by omega), sv_ne _ (by omega), sv_eq _ hw hj hp]
    rw [fiM_at, if_neg (by omega), if_neg (by omega), if_neg (by omega), if_neg (by omega), fiM_at, if_neg (by omega), if_neg (by omega), if_neg (by omega)]
    refine ⟨(p4 j hj p hp).1, ?_⟩
    rw [q3, q8 (3 * j + p) (by omega), if_neg hm, (p4 j hj p hp).2, show 10 + (3 * j + p) = 10 + 3 * j + p by omega]
    have hcar := (hI.2.1 w hw).2.2.2.2.2.2.2.2.2 hm (3 * j + p) (by omega)
    rw [show 10 + (3 * j + p) = 10 + 3 * j + p by omega] at hcar
    have hiff : (¬ wf r w (10 + 3 * j + p) = -1) ↔ ¬ wf r w (10 + 3 * j + p) < 0 := by
      rcases hcar with z | ⟨n, n1, n2⟩
      · rw [z]; decide
      · rw [n2]
        exact ⟨fun _ => nI_pos (by omega), fun _ => nIm1 (by omega)⟩
    simp only [hiff, hj, hp, true_and]
  · refine PL_of (hL p hp) (szN_of (hsz p hp)) (fun k h1 h2 i => hlog p k (Or.inr ⟨h1, h2⟩) i) (fun k hk f hf => ce_ov r hw) (fun w' hw' z => ?_) (fun w' hw' z => ?_)
    · have hne : w' ≠ w := fun e => by rw [e, hl p hp] at z; cases z
      rw [hlkO w' p hw' hne]
      exact ⟨z, mO w' 17 p hne (by simp)⟩
    · have hne : w' ≠ w := fun e => by
        rw [e, lk_false e1] at z
        cases z
      rw [hlkO w' p hw' hne] at z
      exact ⟨z, mO w' 17 p hne (by simp)⟩
  · exact CU_of hU hsz (fun p hp k hk i => hlog p k (by omega) i)
  · rw [fiM_at, if_neg (by omega), if_neg (by omega), if_neg (by omega), if_neg (by omega)]
  · rw [szN_of (hsz p hp)]
    exact ⟨Nat.le_refl _, LE_of (fun k h1 h2 i => hlog p k (Or.inr ⟨h1, h2⟩) i)⟩
theorem cC_finish {Q : xM → Prop} {w : Nat} (h : CR a r T) (hw : w < 4) (hm : ¬ wf r w 1 = 0) (hl : ∀ p, p < 3 → lk r w p = false) (hq : ∀ a', CR a' (ovR r w) T → Fr a a' r (ovR r w) → Q (a', (b, h0))) : CV mX5_finishDeed [vR 5 0 0, vR 2 0 w] (a, (b, h0)) Q := by
  obtain ⟨h1, h2⟩ := fi_CR h hw hm hl
  exact cC_finish0 hw (hq _ h1 h2)
end
