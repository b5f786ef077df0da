def fb (a : xA) (w : Nat) (i : Nat) : Bool := decide (¬ a 17 0 w i = -1)
def scM (a : xA) (w : Nat) (t : Int32) (n : Nat) : xA := fun k s w' i => if k = 18 ∧ s = 0 ∧ w' = w ∧ i < n ∧ ¬ a 17 0 w i = -1 then t + nI (cN (fb a w) 0 (i + 1)) else a k s w' i
theorem scM_0 (a : xA) (w : Nat) (t : Int32) : scM a w t 0 = a := by
  funext k s w' i
  unfold scM
  rw [if_neg (fun z => absurd z.2.2.2.1 (Nat.not_lt_zero _))]
theorem scM_s (a : xA) (w : Nat) (t : Int32) (n : Nat) : scM a w t (n + 1) = if a 17 0 w n = -1 then scM a w t n else xUp (scM a w t n) 18 0 w n (t + nI (cN (fb a w) 0 (n + 1))) := by
  funext k s w' i
  by_cases hz : a 17 0 w n = -1
  · rw [if_pos hz]
    unfold scM
    by_cases e : i = n
    · subst e
      rw [if_neg (fun z => z.2.2.2.2 hz), if_neg (fun z => z.2.2.2.2 hz)]
    · have : i < n + 1 ↔ i < n := by omega
      simp only [this]
  · rw [if_neg hz]
    unfold xUp scM
    by_cases h : k = 18 ∧ s = 0 ∧ w' = w ∧ i = n
    · obtain ⟨rfl, rfl, rfl, rfl⟩ := h
      simp [hz]
    · rw [if_neg h]
      have : (k = 18 ∧ s = 0 ∧ w' = w ∧ i < n + 1 ∧ ¬ a 17 0 w i = -1) ↔ (k = 18 ∧ s = 0 ∧ w' = w ∧ i < n ∧ ¬ a 17 0 w i = -1) := by
        constructor
        · rintro ⟨h1, h2, h3, h4, h5⟩
          have : ¬ i = n := fun z => h ⟨h1, h2, h3, z⟩
          exact ⟨h1, h2, h3, by omega, h5⟩
        · rintro ⟨h1, h2, h3, h4, h5⟩
          exact ⟨h1, h2, h3, by omega, h5⟩
      simp only [this]
theorem bits_rk : ∀ s, s < 8 → bitsI (nI s) = nI (rkN s 3) := by decide
theorem rk3_0 : ∀ s, s < 8 → (rkN s 3 = 0 ↔ s = 0) := by decide
theorem rk_cN {s : Nat} {P : Nat → Bool} : ∀ n, (∀ i, i < n → Nat.testBit s i = P i) → rkN s n = cN P 0 n
  | 0, _ => rfl
  | n + 1, h => by
    rw [cN_sn, rkN, rk_cN n (fun i hi => h i (by omega)), h n (by omega)]
section
variable {a b : xA} {h0 : Int64} {r : Row} {T : Nat}
theorem cC_schedule {Q : Int32 → xM → Prop} {t : Int32} {w : Nat} (hw : w < 4) (hq : Q (nI (cN (fb a w) 0 3)) (scM a w t 3, (b, h0))) : CI mX2_schedule [vR 2 0 w, vI t] (a, (b, h0)) Q := by
  have key : ∀ m n, n + m = 3 → xOk mX2_schedule 4 [(0, vR 2 0 w), (1, vI t), (2, vI (nI (cN (fb a w) 0 n))), (3, vI (nI n))] [] (scM a w t n, (b, h0)) (qI Q) := by
    intro m
    induction m with
    | zero =>
      intro n hn
      have hn : n = 3 := hn
      subst hn
      exact rX2_schedule_4 (by decide) hw ⟨fun _ => hq, fun z => absurd (by decide) z⟩
    | succ m ih =>
      intro n hn
      have e17 : ∀ i, scM a w t n 17 0 w i = a 17 0 w i := fun i => by unfold scM; rw [if_neg (by omega)]
      refine rX2_schedule_4 (by decide) hw ⟨fun z => absurd z (n3 (by omega)), fun _ => ⟨vp_in_nI (by omega) (by decide), ?_⟩⟩
      have ih := ih (n + 1) (by omega)
      rw [nI_1, nI_1, nI_clamp (by omega), e17]
      refine ⟨fun z => ?_, fun z => ⟨vp_in_nI (by omega) (by decide), ?_⟩⟩
      · rw [scM_s, if_pos z, cN_sn, if_neg (by simp [fb, z]), Nat.add_zero] at ih
        exact ih
      · have e : cN (fb a w) 0 (n + 1) = cN (fb a w) 0 n + 1 := by rw [cN_sn, if_pos (by simp [fb, z])]
        rw [scM_s, if_neg z, e] at ih
        exact ih
  have h := key 3 0 rfl
  rw [scM_0] at h
  exact eX2_schedule (by decide) hw h
theorem RI_en0 {w : Nat} {c : Int32} (h : RI r T) (hw : w < 4) (hm : wf r w 1 = 1) (hc : c = 0 ∨ c = 1) : RI (en0 r w c) T := by
  obtain ⟨hA, hB, hC, hD⟩ := h
  obtain ⟨g1, g2, g3, g4, g5, g6, g7, g8, g9, g10⟩ := hB w hw
  have hmar : wf r w 3 = 0 := g5 (by rw [hm]; decide)
  have hsz : ∀ p, p < 3 → szN (en0 r w c) p = szN r p := fun p hp => szN_of (en0_at r c hw (by omega))
  have oth : ∀ w' f, w' ≠ w → f < 16 → wf (en0 r w c) w' f = wf r w' f := by
    intro w' f hne hf
    rw [wf_en0 _ _ hf]
    simp [hne]
  have hlk : ∀ p, p < 3 → ∀ w', lk (en0 r w c) w' p = lk r w' p := by
    intro p hp w'
    by_cases e : w' = w
    · subst e
      unfold lk
      rw [wf_en0 _ _ (by decide), wf_en0 _ _ (by decide), wf_en0 _ _ (by decide)]
      simp [hm, hmar]
    · exact lk_of (oth w' 1 e (by decide)) (oth w' 2 e (by decide)) (oth w' 3 e (by decide))
  refine ⟨fun p hp => ?_, fun w' hw' => ?_, fun j hj p hp => ?_, ?_⟩
  · have hct : ctN (en0 r w c) p = ctN r p := by
      unfold ctN
      congr 1
      funext w'
      exact hlk p hp w'
    rw [en0_at r c hw (by omega), hsz p hp, hct]
    exact hA p hp
  · by_cases e : w' = w
    · subst e
      unfold PW
      have e1 : wf (en0 r w' c) w' 1 = 2 := by rw [wf_en0 _ _ (by decide)]; simp
      have e2 : wf (en0 r w' c) w' 2 = wf r w' 2 := by rw [wf_en0 _ _ (by decide)]; simp
      have e3 : wf (en0 r w' c) w' 3 = 0 := by rw [wf_en0 _ _ (by decide)]; simp
      have e4 : wf (en0 r w' c) w' 4 = c := by rw [wf_en0 _ _ (by decide)]; simp
      have e6 : wf (en0 r w' c) w' 6 = r 0 := by rw [wf_en0 _ _ (by decide)]; simp
      rw [e1, e2, e3, e4, e6]
      refine ⟨Or.inr (Or.inr rfl), g2, ⟨0, by decide, rfl⟩, fun p hp z => ?_, fun z => absurd rfl z, fun z => absurd z (by decide), ⟨hc, fun z => absurd rfl z⟩, fun _ => hD, fun p hp z => ?_, fun _ k hk => ?_⟩
      · rw [bit0 p hp] at z; cases z
      · rw [hsz p hp, wf_en0 _ _ (by omega), if_neg (by omega), if_neg (by omega), if_neg (by omega), if_neg (by omega)]
        exact g9 p hp z
      · rw [wf_en0 _ _ (by omega), if_neg (by omega), if_neg (by omega), if_neg (by omega), if_neg (by omega)]
        exact g10 (by rw [hm]; decide) k hk
    · exact (hB w' hw').frame (fun f hf => oth w' f e hf) (fun p hp => by rw [hsz p hp]; exact Nat.le_refl _) (Nat.le_refl _)
  · rw [en0_at r c hw (by omega)]; exact hC j hj p hp
  · rw [en0_at r c hw (by omega)]; exact hD
def en1 (a : xA) (w : Nat) (c : Int32) : xA := xUp (xUp a 2 0 w 1 2) 2 0 w 2 c
theorem en1_ne (a : xA) {w k s w' i : Nat} (c : Int32) (h : ¬ (k = 2 ∧ s = 0 ∧ w' = w ∧ (i = 1 ∨ i = 2))) : en1 a w c k s w' i = a k s w' i := by
  unfold en1 xUp
  rw [if_neg (fun z => h ⟨z.1, z.2.1, z.2.2.1, Or.inr z.2.2.2⟩), if_neg (fun z => h ⟨z.1, z.2.1, z.2.2.1, Or.inl z.2.2.2⟩)]
theorem en_CR {w : Nat} {c : Int32} (h : CR a r T) (hw : w < 4) (hm : wf r w 1 = 1) (hc : c = 0 ∨ c = 1) : CR (scM (en1 a w c) w (r 0) 3) (en0 r w c) T ∧ Fr a (scM (en1 a w c) w (r 0) 3) r (en0 r w c) ∧ nI (cN (fb (en1 a w c) w) 0 3) = bitsI (wf r w 2) ∧ (nI (cN (fb (en1 a w c) w) 0 3) = 0 ↔ wf (en0 r w c) w 2 = 0) := by
  obtain ⟨⟨hI, hP, hL⟩, hU⟩ := h
  obtain ⟨g1, ⟨s, hs8, g2⟩, g3, g4, g5, g6, g7, g8, g9, g10⟩ := hI.2.1 w hw
  have hmar : wf r w 3 = 0 := g5 (by rw [hm]; decide)
  obtain ⟨p1, p2, p3, p4⟩ := hP
  obtain ⟨q1, q2, q3, q4, q5, q6, q7, q8⟩ := p3 w hw
  have mO : ∀ k s w' i, ¬ (k = 2 ∧ s = 0 ∧ w' = w ∧ (i = 1 ∨ i = 2)) → ¬ (k = 18 ∧ s = 0 ∧ w' = w) → scM (en1 a w c) w (r 0) 3 k s w' i = a k s w' i := by
    intro k s w' i h1 h2
    unfold scM
    rw [if_neg (fun z => h2 ⟨z.1, z.2.1, z.2.2.1⟩), en1_ne a c h1]
  have e17 : ∀ i, en1 a w c 17 0 w i = a 17 0 w i := fun i => en1_ne a c (by omega)
  have hfb : ∀ i, i < 3 → Nat.testBit s i = fb (en1 a w c) w i := by
    intro i hi
    unfold fb
    rw [e17, ← q5 i hi, g2, bitN s hs8 i hi]
  have hcnt : ∀ n, n ≤ 3 → cN (fb (en1 a w c) w) 0 n = rkN s n := fun n hn => (rk_cN n (fun i hi => hfb i (by omega))).symm
  have oth : ∀ w' f, w' ≠ w → f < 16 → wf (en0 r w c) w' f = wf r w' f := by
    intro w' f hne hf
    rw [wf_en0 _ _ hf]
    simp [hne]
  have hlk : ∀ p w', lk (en0 r w c) w' p = lk r w' p := by
    intro p w'
    by_cases e : w' = w
    · subst e
      unfold lk
      rw [wf_en0 _ _ (by decide), wf_en0 _ _ (by decide), wf_en0 _ _ (by decide)]
      simp [hm, hmar]
    · exact lk_of (oth w' 1 e (by decide)) (oth w' 2 e (by decide)) (oth w' 3 e (by decide))
  have f1 : wf (en0 r w c) w 1 = 2 := by rw [wf_en0 _ _ (by decide)]; simp
  have f2 : wf (en0 r w c) w 2 = wf r w 2 := by rw [wf_en0 _ _ (by decide)]; simp
  have f4 : wf (en0 r w c) w 4 = c := by rw [wf_en0 _ _ (by decide)]; simp
  have f6 : wf (en0 r w c) w 6 = r 0 := by rw [wf_en0 _ _ (by decide)]; simp
  have f0 : wf (en0 r w c) w 0 = wf r w 0 := by rw [wf_en0 _ _ (by decide)]; simp
  have f5 : wf (en0 r w c) w 5 = wf r w 5 := by rw [wf_en0 _ _ (by decide)]; simp
  have hsz : ∀ p, p < 3 → en0 r w c (66 + p) = r (66 + p) := fun p hp => en0_at r c hw (by omega)
  refine ⟨⟨⟨RI_en0 hI hw hm hc, ⟨?_, ?_, fun w' hw' => ?_, fun j hj p hp => ?_⟩, fun p hp => ?_⟩, ?_⟩, ⟨fun k s' w' j hk => ?_, fun p hp => ?_⟩, ?_, ?_⟩
  · rw [mO _ _ _ _ (by omega) (by omega), en0_at r c hw (by omega)]; exact p1
  · rw [mO _ _ _ _ (by omega) (by omega), en0_at r c hw (by omega)]; exact p2
  · by_cases e : w' = w
    · subst e
      refine ⟨?_, ?_, ?_, ?_, fun p hp => ?_, fun p hp z => ?_, fun p hp => ?_, fun k hk => ?_⟩
      · rw [mO _ _ _ _ (by omega) (by omega), f0]; exact q1
      · rw [f1]; unfold scM en1 xUp; simp
      · rw [f4]; unfold scM en1 xUp; simp
      · rw [mO _ _ _ _ (by omega) (by omega), f5]; exact q4
      · rw [mO _ _ _ _ (by omega) (by omega), f2]; exact q5 p hp
      · rw [f2] at z
        rw [mO _ _ _ _ (by omega) (by omega), wf_en0 _ _ (by omega), if_neg (by omega), if_neg (by omega), if_neg (by omega), if_neg (by omega)]
        exact q6 p hp z
      · rw [f1, f2, f6, hlk]
        have hb : lk r w' p = decide (¬ a 17 0 w' p = -1) := by
          rw [← q5 p hp]
          simp [lk, hm, hmar, bit0 p hp]
        unfold scM
        rw [e17]
        by_cases hz : a 17 0 w' p = -1
        · rw [if_neg (fun z => z.2.2.2.2 hz), if_neg (fun z => by rw [hb] at z; simp [hz] at z), en1_ne a c (by omega), q7 p hp, if_neg (fun z => by rw [hm] at z; exact absurd z.1 (by decide))]
        · rw [if_pos ⟨rfl, rfl, rfl, hp, hz⟩, if_pos ⟨rfl, by rw [hb]; simp [hz]⟩, g2, (rk_eq s hs8 p hp).1, hcnt (p + 1) (by omega)]
      · rw [mO _ _ _ _ (by omega) (by omega), f1, if_neg (by decide), wf_en0 _ _ (by omega), if_neg (by omega), if_neg (by omega), if_neg (by omega), if_neg (by omega)]
        rw [q8 k hk, if_neg (by rw [hm]; decide)]
    · exact PP_of (p3 w' hw') (fun f hf => oth w' f e hf) (fun k j hk => mO _ _ _ _ (fun z => e z.2.2.1) (fun z => e z.2.2))
  · rw [mO _ _ _ _ (by omega) (by omega), mO _ _ _ _ (by omega) (by omega), en0_at r c hw (by omega), en0_at r c hw (by omega)]
    exact p4 j hj p hp
  · refine PL_of (hL p hp) (szN_of (hsz p hp)) (fun k h1 h2 i => mO _ _ _ _ (by omega) (by omega)) (fun k hk f hf => ?_) (fun w' hw' z => ?_) (fun w' hw' z => ?_)
    · show en0 r w c _ = r _
      exact en0_at r c hw (by omega)
    · rw [hlk]; exact ⟨z, mO _ _ _ _ (by omega) (by omega)⟩
    · rw [hlk] at z; exact ⟨z, mO _ _ _ _ (by omega) (by omega)⟩
  · exact CU_of hU hsz (fun p hp k hk i => mO _ _ _ _ (by omega) (by omega))
  · exact mO _ _ _ _ (by omega) (by omega)
  · rw [szN_of (hsz p hp)]
    exact ⟨Nat.le_refl _, LE_of (fun k h1 h2 i => mO _ _ _ _ (by omega) (by omega))⟩
  · rw [hcnt 3 (by decide), g2, bits_rk s hs8]
  · rw [hcnt 3 (by decide), f2, g2]
    have h3 := rk3_0 s hs8
    have hr : rkN s 3 ≤ 3 := (rk_eq s hs8 2 (by decide)).2.1
    constructor
    · intro z
      have : rkN s 3 = 0 := nqI (by omega) (by decide) z
      rw [h3.mp this]; rfl
    · intro z
      have : s = 0 := nqI (by omega) (by decide) z
      rw [h3.mpr this]; rfl
theorem cC_endDeed {Q : Int32 → xM → Prop} {w : Nat} {c : Int32} (h : CR a r T) (hw : w < 4) (hm : wf r w 1 = 1) (hc : c = 0 ∨ c = 1) (hq : ∀ a', CR a' (enR r w c) T → Fr a a' r (enR r w c) → Q (bitsI (wf r w 2)) (a', (b, h0))) : CI mX5_endDeed [vR 5 0 0, vR 2 0 w, vI c] (a, (b, h0)) Q := by
  obtain ⟨k1, k2, k3, k4⟩ := en_CR h hw hm hc
  refine eX5_endDeed (by decide) hw ?_
  have et : xUp (xUp a 2 0 w 1 2) 2 0 w 2 c 4 0 0 0 = r 0 := (en1_ne a (k := 4) c (by omega)).trans h.1.2.1.1
  rw [et]
  refine cC_schedule hw ?_
  unfold enR at hq
  refine ⟨fun z => ?_, fun z => ?_⟩
  · have z' : ¬ wf (en0 r w c) w 2 = 0 := fun q => z (k4.mpr q)
    rw [if_neg z'] at hq
    exact qe (hq _ k1 k2) k3.symm
  · have z' : wf (en0 r w c) w 2 = 0 := k4.mp z
    rw [if_pos z'] at hq
    have e1 : wf (en0 r w c) w 1 = 2 := by rw [wf_en0 _ _ (by decide)]; simp
    refine cC_finish k1 hw (by rw [e1]; decide) (fun p hp => lk_false2 hp z') (fun a' h1 h2 => qe (hq a' h1 (k2.trans h2)) k3.symm)
end
