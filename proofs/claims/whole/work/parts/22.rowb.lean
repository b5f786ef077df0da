theorem szN_of {r r' : Row} {p : Nat} (h : r' (66 + p) = r (66 + p)) : szN r' p = szN r p := by unfold szN; rw [h]
theorem lk_of {r r' : Row} {w p : Nat} (h1 : wf r' w 1 = wf r w 1) (h2 : wf r' w 2 = wf r w 2) (h3 : wf r' w 3 = wf r w 3) : lk r' w p = lk r w p := by unfold lk; rw [h1, h2, h3]
theorem PW.frame {r r' : Row} {T T' w : Nat} (h : PW r T w) (hf : ∀ f, f < 16 → wf r' w f = wf r w f) (hs : ∀ p, p < 3 → szN r p ≤ szN r' p) (hT : T ≤ T') : PW r' T' w := by
  obtain ⟨g1, g2, g3, g4, g5, g6, g7, g8, g9, g10⟩ := h
  unfold PW
  rw [hf 1 (by decide), hf 2 (by decide), hf 3 (by decide), hf 4 (by decide), hf 6 (by decide)]
  refine ⟨g1, g2, g3, g4, g5, g6, g7, fun z => ?_, fun p hp z => ?_, fun z k hk => ?_⟩
  · obtain ⟨e, h1, h2⟩ := g8 z
    exact ⟨e, by omega, h2⟩
  · obtain ⟨f, h1, h2⟩ := g9 p hp z
    exact ⟨f, Nat.lt_of_lt_of_le h1 (hs p hp), by rw [hf (7 + p) (by omega)]; exact h2⟩
  · rw [hf (10 + k) (by omega)]
    exact g10 z k hk
theorem lk_false {r : Row} {w p : Nat} (h : wf r w 1 = 0) : lk r w p = false := by simp [lk, h]
theorem lk_false2 {r : Row} {w p : Nat} (hp : p < 3) (h : wf r w 2 = 0) : lk r w p = false := by simp [lk, h, bit0 p hp]
theorem wf_ov (r : Row) {w w' f : Nat} (hw : w < 4) (hw' : w' < 4) (hf : f < 16) : wf (ovR r w) w' f = if w' = w ∧ (f = 1 ∨ f = 2 ∨ f = 3 ∨ f = 4) then 0 else wf r w' f := by
  unfold ovR
  rw [wf_uw _ _ (by decide) hf, wf_uw _ _ (by decide) hf, wf_uw _ _ (by decide) hf, wf_uw _ _ (by decide) hf, wf_sv _ hw' hf]
  by_cases h : w' = w
  · by_cases h1 : f = 1
    · simp [h, h1]
    · by_cases h2 : f = 2
      · simp [h, h2]
      · by_cases h3 : f = 3
        · simp [h, h3]
        · by_cases h4 : f = 4
          · simp [h, h4]
          · simp [h, h1, h2, h3, h4]
  · simp [h]
theorem ov_at (r : Row) {w i : Nat} (hw : w < 4) (hi : i < 2 ∨ 66 ≤ i) : ovR r w i = svR r w i := by
  unfold ovR
  rcases hi with hi | hi
  · rw [lo_uw _ _ hi, lo_uw _ _ hi, lo_uw _ _ hi, lo_uw _ _ hi]
  · rw [hi_uw _ _ hw (by decide) hi, hi_uw _ _ hw (by decide) hi, hi_uw _ _ hw (by decide) hi, hi_uw _ _ hw (by decide) hi]
theorem ce_ov (r : Row) {w p k f : Nat} (hw : w < 4) : ce (ovR r w) p k f = ce r p k f := by
  show ovR r w _ = r _
  rw [ov_at _ hw (by omega), sv_ne _ (by omega)]
theorem sz_ov (r : Row) {w p : Nat} (hw : w < 4) (hp : p < 3) : ovR r w (66 + p) = r (66 + p) := by
  rw [ov_at _ hw (by omega), sv_ne _ (by omega)]
theorem RI_ov {r : Row} {T w : Nat} (hw : w < 4) (hA : ∀ p, p < 3 → r (66 + p) = nI (szN r p) ∧ szN r p + ctN r p ≤ 48) (hB : ∀ w', w' < 4 → w' ≠ w → PW r T w') (hc : ∀ k, k < 6 → wf r w (10 + k) = -1 ∨ ∃ n, n ≤ 48 ∧ wf r w (10 + k) = nI n) (hC : ∀ j, j < 2 → ∀ p, p < 6 → ∃ k, k ≤ 48 ∧ r (69 + 6 * j + p) = nI k) (hD : ∃ t, t ≤ T ∧ r 0 = nI t) : RI (ovR r w) T := by
  have hsz : ∀ p, p < 3 → szN (ovR r w) p = szN r p := fun p hp => szN_of (sz_ov r hw hp)
  have hlk : ∀ p, p < 3 → ∀ w', w' < 4 → lk (ovR r w) w' p = true → lk r w' p = true := by
    intro p hp w' hw' h
    by_cases e : w' = w
    · rw [lk_false (by rw [wf_ov _ hw hw' (by decide), if_pos ⟨e, by simp⟩])] at h
      cases h
    · rw [← h]
      exact (lk_of (by rw [wf_ov _ hw hw' (by decide), if_neg (fun z => e z.1)]) (by rw [wf_ov _ hw hw' (by decide), if_neg (fun z => e z.1)]) (by rw [wf_ov _ hw hw' (by decide), if_neg (fun z => e z.1)])).symm
  refine ⟨fun p hp => ?_, fun w' hw' => ?_, fun j hj p hp => ?_, ?_⟩
  · rw [hsz p hp, sz_ov r hw hp]
    refine ⟨(hA p hp).1, ?_⟩
    have := cN_mono (P := fun w => lk r w p) (P' := fun w' => lk (ovR r w) w' p) 4 0 (fun i _ hi => hlk p hp i (by omega))
    have := (hA p hp).2
    unfold ctN at this ⊢
    omega
  · by_cases e : w' = w
    · subst e
      unfold PW
      have e1 : wf (ovR r w') w' 1 = 0 := by rw [wf_ov _ hw hw (by decide)]; simp
      have e2 : wf (ovR r w') w' 2 = 0 := by rw [wf_ov _ hw hw (by decide)]; simp
      have e3 : wf (ovR r w') w' 3 = 0 := by rw [wf_ov _ hw hw (by decide)]; simp
      have e4 : wf (ovR r w') w' 4 = 0 := by rw [wf_ov _ hw hw (by decide)]; simp
      rw [e1, e2, e3, e4]
      refine ⟨Or.inl rfl, ⟨0, by decide, rfl⟩, ⟨0, by decide, rfl⟩, fun p hp z => z, fun _ => rfl, fun _ => rfl, ⟨Or.inl rfl, fun _ => rfl⟩, fun z => absurd z (by decide), fun p hp z => ?_, fun z => absurd rfl z⟩
      rw [bit0 p hp] at z; cases z
    · refine (hB w' hw' e).frame (fun f hf => ?_) (fun p hp => by rw [hsz p hp]; exact Nat.le_refl _) (Nat.le_refl _)
      rw [wf_ov _ hw hw' hf, if_neg (fun z => e z.1)]
  · rw [ov_at _ hw (by omega)]
    by_cases h3 : p < 3
    · rw [sv_ne _ (by omega)]
      exact hC j hj p hp
    · have e : 69 + 6 * j + p = 69 + 6 * j + 3 + (p - 3) := by omega
      rw [e, sv_eq _ hw hj (by omega)]
      split
      · rename_i h
        rcases hc (3 * j + (p - 3)) (by omega) with z | z
        · exfalso
          apply h.2
          rw [show 10 + 3 * j + (p - 3) = 10 + (3 * j + (p - 3)) by omega, z]
          decide
        · rw [show 10 + 3 * j + (p - 3) = 10 + (3 * j + (p - 3)) by omega]
          exact z
      · rw [← e]
        exact hC j hj p hp
  · rw [ov_at _ hw (by omega), sv_ne _ (by omega)]
    exact hD
theorem wf_en0 (r : Row) {w w' f : Nat} (c : Int32) (hf : f < 16) : wf (en0 r w c) w' f = if w' = w ∧ f = 1 then 2 else if w' = w ∧ f = 6 then r 0 else if w' = w ∧ f = 3 then 0 else if w' = w ∧ f = 4 then c else wf r w' f := by
  unfold en0
  rw [wf_uw _ _ (by decide) hf, wf_uw _ _ (by decide) hf, wf_uw _ _ (by decide) hf, wf_uw _ _ (by decide) hf, lo_uw _ _ (by decide), lo_uw _ _ (by decide)]
theorem en0_at (r : Row) {w i : Nat} (c : Int32) (hw : w < 4) (hi : i < 2 ∨ 66 ≤ i) : en0 r w c i = r i := by
  unfold en0
  rcases hi with hi | hi
  · rw [lo_uw _ _ hi, lo_uw _ _ hi, lo_uw _ _ hi, lo_uw _ _ hi]
  · rw [hi_uw _ _ hw (by decide) hi, hi_uw _ _ hw (by decide) hi, hi_uw _ _ hw (by decide) hi, hi_uw _ _ hw (by decide) hi]
theorem RI_en {r : Row} {T w : Nat} {c : Int32} (h : RI r T) (hw : w < 4) (hm : wf r w 1 = 1) (hc : c = 0 ∨ c = 1) : RI (enR r w c) T := by
  obtain ⟨hA, hB, hC, hD⟩ := h
  obtain ⟨g1, g2, g3, g4, g5, g6, g7, g8, g9, g10⟩ := hB w hw
  have hmar : wf r w 3 = 0 := g5 (by rw [hm]; decide)
  have hsz : ∀ p, p < 3 → szN (en0 r w c) p = szN r p := fun p hp => szN_of (en0_at r c hw (by omega))
  have oth : ∀ w' f, w' ≠ w → f < 16 → wf (en0 r w c) w' f = wf r w' f := by
    intro w' f hne hf
    rw [wf_en0 _ _ hf]
    simp [hne]
  have hlk : ∀ p, p < 3 → ∀ w', lk (en0 r w c) w' p = lk r w' p := by
    intro p hp w'
    by_cases e : w' = w
    · subst e
      unfold lk
      rw [wf_en0 _ _ (by decide), wf_en0 _ _ (by decide), wf_en0 _ _ (by decide)]
      simp [hm, hmar]
    · exact lk_of (oth w' 1 e (by decide)) (oth w' 2 e (by decide)) (oth w' 3 e (by decide))
  have hct : ∀ p, p < 3 → ctN (en0 r w c) p = ctN r p := by
    intro p hp
    unfold ctN
    congr 1
    funext w'
    exact hlk p hp w'
  have hA' : ∀ p, p < 3 → en0 r w c (66 + p) = nI (szN (en0 r w c) p) ∧ szN (en0 r w c) p + ctN (en0 r w c) p ≤ 48 := by
    intro p hp
    rw [en0_at r c hw (by omega), hsz p hp, hct p hp]
    exact hA p hp
  have hB' : ∀ w', w' < 4 → w' ≠ w → PW (en0 r w c) T w' := fun w' hw' hne => (hB w' hw').frame (fun f hf => oth w' f hne hf) (fun p hp => by rw [hsz p hp]; exact Nat.le_refl _) (Nat.le_refl _)
  have hC' : ∀ j, j < 2 → ∀ p, p < 6 → ∃ k, k ≤ 48 ∧ en0 r w c (69 + 6 * j + p) = nI k := by
    intro j hj p hp
    rw [en0_at r c hw (by omega)]
    exact hC j hj p hp
  have hD' : ∃ t, t ≤ T ∧ en0 r w c 0 = nI t := by rw [en0_at r c hw (by omega)]; exact hD
  have hcar : ∀ k, k < 6 → wf (en0 r w c) w (10 + k) = -1 ∨ ∃ n, n ≤ 48 ∧ wf (en0 r w c) w (10 + k) = nI n := by
    intro k hk
    rw [wf_en0 _ _ (by omega)]
    rw [if_neg (by omega), if_neg (by omega), if_neg (by omega), if_neg (by omega)]
    exact g10 (by rw [hm]; decide) k hk
  unfold enR
  split
  · exact RI_ov hw hA' hB' hcar hC' hD'
  · refine ⟨hA', fun w' hw' => ?_, hC', hD'⟩
    by_cases e : w' = w
    · subst e
      unfold PW
      have e1 : wf (en0 r w' c) w' 1 = 2 := by rw [wf_en0 _ _ (by decide)]; simp
      have e2 : wf (en0 r w' c) w' 2 = wf r w' 2 := by rw [wf_en0 _ _ (by decide)]; simp
      have e3 : wf (en0 r w' c) w' 3 = 0 := by rw [wf_en0 _ _ (by decide)]; simp
      have e4 : wf (en0 r w' c) w' 4 = c := by rw [wf_en0 _ _ (by decide)]; simp
      have e6 : wf (en0 r w' c) w' 6 = r 0 := by rw [wf_en0 _ _ (by decide)]; simp
      rw [e1, e2, e3, e4, e6]
      refine ⟨Or.inr (Or.inr rfl), g2, ⟨0, by decide, rfl⟩, fun p hp z => ?_, fun z => absurd rfl z, fun z => absurd z (by decide), ⟨hc, fun z => absurd rfl z⟩, fun _ => hD, fun p hp z => ?_, fun _ => hcar⟩
      · rw [bit0 p hp] at z; cases z
      · rw [hsz p hp, wf_en0 _ _ (by omega), if_neg (by omega), if_neg (by omega), if_neg (by omega), if_neg (by omega)]
        exact g9 p hp z
    · exact hB' w' hw' e
/-- a change of a number that no law speaks of -/
theorem RI_f {r : Row} {T w f : Nat} {v : Int32} (h : RI r T) (hw : w < 4) (hf : f = 0 ∨ f = 5) : RI (uw r w f v) T := by
  obtain ⟨hA, hB, hC, hD⟩ := h
  have hf16 : f < 16 := by omega
  have hsz : ∀ p, p < 3 → szN (uw r w f v) p = szN r p := fun p hp => szN_of (hi_uw r v hw hf16 (by omega))
  have oth : ∀ w' f', f' < 16 → f' ≠ f → wf (uw r w f v) w' f' = wf r w' f' := by
    intro w' f' hf' hne
    rw [wf_uw _ _ hf16 hf', if_neg (fun z => hne z.2)]
  have hct : ∀ p, ctN (uw r w f v) p = ctN r p := by
    intro p
    unfold ctN
    congr 1
    funext w'
    exact lk_of (oth w' 1 (by decide) (by omega)) (oth w' 2 (by decide) (by omega)) (oth w' 3 (by decide) (by omega))
  refine ⟨fun p hp => ?_, fun w' hw' => ?_, fun j hj p hp => ?_, ?_⟩
  · rw [hi_uw r v hw hf16 (by omega), hsz p hp, hct p]; exact hA p hp
  · obtain ⟨g1, g2, g3, g4, g5, g6, g7, g8, g9, g10⟩ := hB w' hw'
    unfold PW
    rw [oth w' 1 (by decide) (by omega), oth w' 2 (by decide) (by omega), oth w' 3 (by decide) (by omega), oth w' 4 (by decide) (by omega), oth w' 6 (by decide) (by omega)]
    refine ⟨g1, g2, g3, g4, g5, g6, g7, g8, fun p hp z => ?_, fun z k hk => ?_⟩
    · rw [hsz p hp, oth w' (7 + p) (by omega) (by omega)]; exact g9 p hp z
    · rw [oth w' (10 + k) (by omega) (by omega)]; exact g10 z k hk
  · rw [hi_uw r v hw hf16 (by omega)]; exact hC j hj p hp
  · rw [lo_uw r v (by omega)]; exact hD
theorem RI_bg {r : Row} {T w : Nat} (h : RI r T) (hw : w < 4) : RI (bgR r w) T := by
  have h1 := RI_f (f := 0) (v := wf r w 0 + 1) h hw (Or.inl rfl)
  unfold bgR
  split
  · rename_i hm
    exact RI_en h1 hw hm (Or.inl rfl)
  · exact h1
theorem RI_ca {r : Row} {T w k : Nat} {v : Int32} (h : RI r T) (hw : w < 4) (hk : k < 6) (hv : v = -1 ∨ ∃ n, n ≤ 48 ∧ v = nI n) : RI (uw r w (10 + k) v) T := by
  obtain ⟨hA, hB, hC, hD⟩ := h
  have hf16 : 10 + k < 16 := by omega
  have hsz : ∀ p, p < 3 → szN (uw r w (10 + k) v) p = szN r p := fun p hp => szN_of (hi_uw r v hw hf16 (by omega))
  have oth : ∀ w' f', f' < 10 → wf (uw r w (10 + k) v) w' f' = wf r w' f' := by
    intro w' f' hf'
    rw [wf_uw _ _ hf16 (by omega), if_neg (by omega)]
  have hct : ∀ p, ctN (uw r w (10 + k) v) p = ctN r p := by
    intro p
    unfold ctN
    congr 1
    funext w'
    exact lk_of (oth w' 1 (by decide)) (oth w' 2 (by decide)) (oth w' 3 (by decide))
  refine ⟨fun p hp => ?_, fun w' hw' => ?_, fun j hj p hp => ?_, ?_⟩
  · rw [hi_uw r v hw hf16 (by omega), hsz p hp, hct p]; exact hA p hp
  · obtain ⟨g1, g2, g3, g4, g5, g6, g7, g8, g9, g10⟩ := hB w' hw'
    unfold PW
    rw [oth w' 1 (by decide), oth w' 2 (by decide), oth w' 3 (by decide), oth w' 4 (by decide), oth w' 6 (by decide)]
    refine ⟨g1, g2, g3, g4, g5, g6, g7, g8, fun p hp z => ?_, fun z k' hk' => ?_⟩
    · rw [hsz p hp, oth w' (7 + p) (by omega)]; exact g9 p hp z
    · rw [wf_uw _ _ hf16 (by omega)]
      split
      · exact hv
      · exact g10 z k' hk'
  · rw [hi_uw r v hw hf16 (by omega)]; exact hC j hj p hp
  · rw [lo_uw r v (by omega)]; exact hD
theorem wf_op0 (r : Row) {w w' f : Nat} (hf : f < 16) : wf (op0 r w) w' f = if w' = w ∧ f = 5 then r 0 else if w' = w ∧ f = 3 then 0 else if w' = w ∧ f = 2 then 0 else if w' = w ∧ f = 1 then 1 else wf r w' f := by
  unfold op0
  rw [wf_uw _ _ (by decide) hf, wf_uw _ _ (by decide) hf, wf_uw _ _ (by decide) hf, wf_uw _ _ (by decide) hf, lo_uw _ _ (by decide), lo_uw _ _ (by decide), lo_uw _ _ (by decide)]
theorem wf_op1 (r : Row) {w w' f : Nat} (hf : f < 16) : ∀ k, k ≤ 6 → wf (op1 r w k) w' f = if w' = w ∧ 10 ≤ f ∧ f < 10 + k then -1 else wf r w' f
  | 0, _ => by rw [if_neg (by omega)]; rfl
  | k + 1, hk => by
    unfold op1
    rw [wf_uw _ _ (by omega) hf, wf_op1 r hf k (by omega)]
    by_cases h : w' = w ∧ f = 10 + k
    · rw [if_pos h, if_pos (by omega)]
    · rw [if_neg h]
      by_cases h2 : w' = w ∧ 10 ≤ f ∧ f < 10 + k
      · rw [if_pos h2, if_pos (by omega)]
      · rw [if_neg h2, if_neg (by omega)]
theorem op1_at (r : Row) {w i : Nat} (hw : w < 4) (hi : i < 2 ∨ 66 ≤ i) : ∀ k, k ≤ 6 → op1 r w k i = r i
  | 0, _ => rfl
  | k + 1, hk => by
    unfold op1
    rcases hi with hi | hi
    · rw [lo_uw _ _ hi, op1_at r hw (Or.inl hi) k (by omega)]
    · rw [hi_uw _ _ hw (by omega) hi, op1_at r hw (Or.inr hi) k (by omega)]
theorem op_at (r : Row) {w i : Nat} (hw : w < 4) (hi : i < 2 ∨ 66 ≤ i) : opR r w i = r i := by
  unfold opR
  rw [op1_at _ hw hi 6 (by decide)]
  unfold op0
  rcases hi with hi | hi
  · rw [lo_uw _ _ hi, lo_uw _ _ hi, lo_uw _ _ hi, lo_uw _ _ hi]
  · rw [hi_uw _ _ hw (by decide) hi, hi_uw _ _ hw (by decide) hi, hi_uw _ _ hw (by decide) hi, hi_uw _ _ hw (by decide) hi]
theorem wf_op (r : Row) {w w' f : Nat} (hf : f < 16) : wf (opR r w) w' f = if w' = w ∧ 10 ≤ f then -1 else if w' = w ∧ f = 5 then r 0 else if w' = w ∧ f = 3 then 0 else if w' = w ∧ f = 2 then 0 else if w' = w ∧ f = 1 then 1 else wf r w' f := by
  unfold opR
  rw [wf_op1 _ hf 6 (by decide), wf_op0 _ hf]
  by_cases h : w' = w ∧ 10 ≤ f
  · rw [if_pos h, if_pos (by omega)]
  · rw [if_neg h, if_neg (by omega)]
theorem RI_op {r : Row} {T w : Nat} (h : RI r T) (hw : w < 4) (hm : wf r w 1 = 0) : RI (opR r w) T := by
  obtain ⟨hA, hB, hC, hD⟩ := h
  have hsz : ∀ p, p < 3 → szN (opR r w) p = szN r p := fun p hp => szN_of (op_at r hw (by omega))
  have oth : ∀ w' f, w' ≠ w → f < 16 → wf (opR r w) w' f = wf r w' f := by
    intro w' f hne hf
    rw [wf_op _ hf]
    simp [hne]
  have hlk : ∀ p, p < 3 → ∀ w', lk (opR r w) w' p = true → lk r w' p = true := by
    intro p hp w' hl
    by_cases e : w' = w
    · rw [lk_false2 hp (by rw [wf_op _ (by decide)]; simp [e])] at hl
      cases hl
    · rw [← lk_of (oth w' 1 e (by decide)) (oth w' 2 e (by decide)) (oth w' 3 e (by decide))]
      exact hl
  refine ⟨fun p hp => ?_, fun w' hw' => ?_, fun j hj p hp => ?_, ?_⟩
  · rw [op_at r hw (by omega), hsz p hp]
    refine ⟨(hA p hp).1, ?_⟩
    have := cN_mono (P := fun w => lk r w p) (P' := fun w' => lk (opR r w) w' p) 4 0 (fun i _ _ => hlk p hp i)
    have := (hA p hp).2
    unfold ctN at this ⊢
    omega
  · by_cases e : w' = w
    · subst e
      unfold PW
      have e1 : wf (opR r w') w' 1 = 1 := by rw [wf_op _ (by decide)]; simp
      have e2 : wf (opR r w') w' 2 = 0 := by rw [wf_op _ (by decide)]; simp
      have e3 : wf (opR r w') w' 3 = 0 := by rw [wf_op _ (by decide)]; simp
      have e4 : wf (opR r w') w' 4 = wf r w' 4 := by rw [wf_op _ (by decide)]; simp
      rw [e1, e2, e3, e4]
      refine ⟨Or.inr (Or.inl rfl), ⟨0, by decide, rfl⟩, ⟨0, by decide, rfl⟩, fun p hp z => z, fun _ => rfl, fun z => rfl, ⟨(hB w' hw).2.2.2.2.2.2.1.1, fun _ => (hB w' hw).2.2.2.2.2.2.1.2 (by rw [hm]; decide)⟩, fun z => absurd z (by decide), fun p hp z => ?_, fun _ k hk => Or.inl ?_⟩
      · rw [bit0 p hp] at z; cases z
      · rw [wf_op _ (by omega), if_pos (by omega)]
    · exact (hB w' hw').frame (fun f hf => oth w' f e hf) (fun p hp => by rw [hsz p hp]; exact Nat.le_refl _) (Nat.le_refl _)
  · rw [op_at r hw (by omega)]; exact hC j hj p hp
  · rw [op_at r hw (by omega)]; exact hD
/-- a change of a position -/
theorem RI_pos {r : Row} {T i k : Nat} (h : RI r T) (hi : 69 ≤ i ∧ i < 81) (hk : k ≤ 48) : RI (upd r i (nI k)) T := by
  obtain ⟨hA, hB, hC, hD⟩ := h
  have hsz : ∀ p, p < 3 → szN (upd r i (nI k)) p = szN r p := fun p hp => szN_of (up_ne r _ (by omega))
  have oth : ∀ w' f, w' < 4 → f < 16 → wf (upd r i (nI k)) w' f = wf r w' f := fun w' f hw' hf => wf_up r _ hw' hf (by omega)
  refine ⟨fun p hp => ?_, fun w' hw' => ?_, fun j hj p hp => ?_, ?_⟩
  · rw [up_ne r _ (by omega), hsz p hp]
    refine ⟨(hA p hp).1, ?_⟩
    have := cN_mono (P := fun w => lk r w p) (P' := fun w' => lk (upd r i (nI k)) w' p) 4 0 (fun i' _ hi' hl => by
      rw [← lk_of (oth i' 1 (by omega) (by decide)) (oth i' 2 (by omega) (by decide)) (oth i' 3 (by omega) (by decide))]; exact hl)
    have := (hA p hp).2
    unfold ctN at this ⊢
    omega
  · exact (hB w' hw').frame (fun f hf => oth w' f hw' hf) (fun p hp => by rw [hsz p hp]; exact Nat.le_refl _) (Nat.le_refl _)
  · by_cases e : 69 + 6 * j + p = i
    · rw [e, up_eq]; exact ⟨k, hk, rfl⟩
    · rw [up_ne r _ e]; exact hC j hj p hp
  · rw [up_ne r _ (by omega)]; exact hD
