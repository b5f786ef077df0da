theorem wf_wr1 (r : Row) {w p n w' f : Nat} (x v d : Int32) (hw' : w' < 4) (hf : f < 16) : wf (wr1 r w p n x v d) w' f = wf r w' f := by
  unfold wr1
  rw [wf_up _ _ hw' hf (by omega), wf_uc _ _ hw' hf, wf_uc _ _ hw' hf, wf_uc _ _ hw' hf, wf_uc _ _ hw' hf, wf_uc _ _ hw' hf, wf_uc _ _ hw' hf]
theorem wr1_at (r : Row) {w p n i : Nat} (x v d : Int32) (hi : i < 81) : wr1 r w p n x v d i = if i = 66 + p then r i + 1 else r i := by
  unfold wr1
  by_cases h : i = 66 + p
  · subst h
    rw [up_eq, if_pos rfl, lo_uc _ _ hi, lo_uc _ _ hi, lo_uc _ _ hi, lo_uc _ _ hi, lo_uc _ _ hi, lo_uc _ _ hi]
  · rw [up_ne _ _ h, if_neg h, lo_uc _ _ hi, lo_uc _ _ hi, lo_uc _ _ hi, lo_uc _ _ hi, lo_uc _ _ hi, lo_uc _ _ hi]
theorem ce_wr1 (r : Row) {w p n p' k f : Nat} (x v d : Int32) (hw : w < 4) (hp : p < 3) (hn : n < 48) (hk : k < 48) (hf : f < 6) : ce (wr1 r w p n x v d) p' k f = if p' = p ∧ k = n then (if f = 0 then 0 else if f = 1 then nI w else if f = 2 then wf r w 0 else if f = 3 then x else if f = 4 then v else d) else ce r p' k f := by
  unfold wr1
  rw [ce_up _ _ (by omega), ce_uc _ _ hn hk (by decide) hf, ce_uc _ _ hn hk (by decide) hf, ce_uc _ _ hn hk (by decide) hf, ce_uc _ _ hn hk (by decide) hf, ce_uc _ _ hn hk (by decide) hf, ce_uc _ _ hn hk (by decide) hf, wf_uc _ _ hw (by decide), wf_uc _ _ hw (by decide)]
  by_cases h : p' = p ∧ k = n
  · rw [if_pos h]
    obtain ⟨rfl, rfl⟩ := h
    simp only [true_and]
    have : f = 0 ∨ f = 1 ∨ f = 2 ∨ f = 3 ∨ f = 4 ∨ f = 5 := by omega
    rcases this with rfl | rfl | rfl | rfl | rfl | rfl <;> simp
  · rw [if_neg h]
    simp only [← and_assoc, h, false_and, if_false]
theorem wf_wr0 (r : Row) {w p n w' f : Nat} (hp : p < 3) (hf : f < 16) : wf (wr0 r w p n) w' f = if wf r w 1 = 1 ∧ bitAt (wf r w 2) p = false ∧ w' = w ∧ f = 7 + p then nI n else if wf r w 1 = 1 ∧ bitAt (wf r w 2) p = false ∧ w' = w ∧ f = 2 then wf r w 2 ||| ((1 : Int32) <<< (nI p &&& 31)) else wf r w' f := by
  unfold wr0
  by_cases h : wf r w 1 = 1 ∧ bitAt (wf r w 2) p = false
  · rw [if_pos h, wf_uw _ _ (by omega) hf, wf_uw _ _ (by decide) hf]
    simp only [h.1, h.2, true_and]
  · rw [if_neg h]
    simp only [← and_assoc, h, false_and, if_false]
theorem wr0_at (r : Row) {w p n i : Nat} (hw : w < 4) (hp : p < 3) (hi : i < 2 ∨ 66 ≤ i) : wr0 r w p n i = r i := by
  unfold wr0
  split
  · rcases hi with hi | hi
    · rw [lo_uw _ _ hi, lo_uw _ _ hi]
    · rw [hi_uw _ _ hw (by omega) hi, hi_uw _ _ hw (by decide) hi]
  · rfl
theorem wf_wr (r : Row) {w p w' f : Nat} (x v : Int32) (hp : p < 3) (hw' : w' < 4) (hf : f < 16) : wf (wrR r w p x v) w' f = if wf r w 1 = 1 ∧ bitAt (wf r w 2) p = false ∧ w' = w ∧ f = 7 + p then nI (szN r p) else if wf r w 1 = 1 ∧ bitAt (wf r w 2) p = false ∧ w' = w ∧ f = 2 then wf r w 2 ||| ((1 : Int32) <<< (nI p &&& 31)) else wf r w' f := by
  unfold wrR
  rw [wf_wr1 _ _ _ _ hw' hf, wf_wr0 _ hp hf]
theorem wr_at (r : Row) {w p i : Nat} (x v : Int32) (hw : w < 4) (hp : p < 3) (hi : i < 2 ∨ (66 ≤ i ∧ i < 81)) : wrR r w p x v i = if i = 66 + p then r i + 1 else r i := by
  unfold wrR
  rw [wr1_at _ _ _ _ (by omega), wr0_at _ hw hp (by omega)]
theorem ce_wr (r : Row) {w p p' k f : Nat} (x v : Int32) (hw : w < 4) (hp : p < 3) (hn : szN r p < 48) (hk : k < 48) (hf : f < 6) : ce (wrR r w p x v) p' k f = if p' = p ∧ k = szN r p then (if f = 0 then 0 else if f = 1 then nI w else if f = 2 then wf r w 0 else if f = 3 then x else if f = 4 then v else (if wf r w 1 = 1 then 1 else 0)) else ce r p' k f := by
  unfold wrR
  have e : ce (wr0 r w p (szN r p)) p' k f = ce r p' k f := wr0_at r hw hp (by omega)
  have e0 : wf (wr0 r w p (szN r p)) w 0 = wf r w 0 := by rw [wf_wr0 _ hp (by decide), if_neg (by omega), if_neg (by omega)]
  rw [ce_wr1 _ _ _ _ hw hp hn hk hf, e, e0]
theorem RI_wr {r : Row} {T w p : Nat} {x v : Int32} (h : RI r T) (hw : w < 4) (hp : p < 3) (hm : ¬ wf r w 1 = 2) (hs : szN r p + owN r p < 48) : RI (wrR r w p x v) T := by
  obtain ⟨hA, hB, hC, hD⟩ := h
  have e66 : ∀ p', p' < 3 → wrR r w p x v (66 + p') = nI (if p' = p then szN r p' + 1 else szN r p') := by
    intro p' hp'
    rw [wr_at r x v hw hp (by omega)]
    by_cases e : p' = p
    · rw [if_pos (by omega), if_pos e, (hA p' hp').1, nI_1]
    · rw [if_neg (by omega), if_neg e, (hA p' hp').1]
  have hsz : ∀ p', p' < 3 → szN (wrR r w p x v) p' = if p' = p then szN r p' + 1 else szN r p' := by
    intro p' hp'
    have := (hA p' hp').2
    show (wrR r w p x v (66 + p')).toNatClampNeg = _
    rw [e66 p' hp', nI_clamp (by split <;> omega)]
  obtain ⟨g1, ⟨s, hs8, g2⟩, g3, g4, g5, g6, g7, g8, g9, g10⟩ := hB w hw
  have hmar : wf r w 3 = 0 := g5 hm
  have oth : ∀ w' f, w' < 4 → f < 16 → ¬ (w' = w ∧ (f = 2 ∨ f = 7 + p)) → wf (wrR r w p x v) w' f = wf r w' f := by
    intro w' f hw' hf hne
    rw [wf_wr _ _ _ hp hw' hf, if_neg (fun z => hne ⟨z.2.2.1, Or.inr z.2.2.2⟩), if_neg (fun z => hne ⟨z.2.2.1, Or.inl z.2.2.2⟩)]
  have hlkO : ∀ w' p', w' < 4 → w' ≠ w → lk (wrR r w p x v) w' p' = lk r w' p' := fun w' p' hw' hne => lk_of (oth w' 1 hw' (by decide) (fun z => hne z.1)) (oth w' 2 hw' (by decide) (fun z => hne z.1)) (oth w' 3 hw' (by decide) (fun z => hne z.1))
  obtain ⟨mm, hm8, hor, hbits⟩ := bit_or s hs8 p hp
  have hin : ∃ s', s' < 8 ∧ wf (wrR r w p x v) w 2 = nI s' ∧ ∀ p', p' < 3 → Nat.testBit s' p' = (Nat.testBit s p' || (decide (p' = p) && decide (wf r w 1 = 1))) := by
    rw [wf_wr _ _ _ hp hw (by decide), if_neg (by omega)]
    by_cases hc : wf r w 1 = 1 ∧ bitAt (wf r w 2) p = false
    · rw [if_pos ⟨hc.1, hc.2, rfl, rfl⟩, g2]
      refine ⟨mm, hm8, hor, fun p' hp' => ?_⟩
      rw [hbits p' hp']
      simp [hc.1]
    · rw [if_neg (fun z => hc ⟨z.1, z.2.1⟩), g2]
      refine ⟨s, hs8, rfl, fun p' hp' => ?_⟩
      by_cases e : p' = p
      · subst e
        by_cases h1 : wf r w 1 = 1
        · have : ¬ bitAt (wf r w 2) p' = false := fun z => hc ⟨h1, z⟩
          rw [g2, bitN s hs8 p' hp'] at this
          simp at this
          simp [this]
        · simp [h1]
      · simp [e]
  obtain ⟨s', hs8', g2', hb'⟩ := hin
  have hlkW : ∀ p', p' < 3 → lk (wrR r w p x v) w p' = true → lk r w p' = true ∨ (p' = p ∧ wf r w 1 = 1) := by
    intro p' hp' hl
    simp only [lk, Bool.and_eq_true, decide_eq_true_eq] at hl ⊢
    rw [oth w 1 hw (by decide) (by omega), oth w 3 hw (by decide) (by omega), g2', bitN s' hs8' p' hp', hb' p' hp'] at hl
    rw [g2, bitN s hs8 p' hp']
    obtain ⟨l1, l2, l3⟩ := hl
    simp only [Bool.or_eq_true, Bool.and_eq_true, decide_eq_true_eq] at l2
    rcases l2 with l2 | l2
    · exact Or.inl ⟨l1, l2, l3⟩
    · exact Or.inr l2
  refine ⟨fun p' hp' => ?_, fun w' hw' => ?_, fun j hj p' hp' => ?_, ?_⟩
  · rw [e66 p' hp', hsz p' hp']
    refine ⟨rfl, ?_⟩
    have h2 := (hA p' hp').2
    by_cases e : p' = p
    · subst e
      rw [if_pos rfl]
      have := cN_mono (P := fun w => lk r w p' || decide (wf r w 1 = 1)) (P' := fun w' => lk (wrR r w p' x v) w' p') 4 0 (fun i _ hi hl => by
        by_cases e2 : i = w
        · subst e2
          rcases hlkW p' hp' hl with z | z
          · simp [z]
          · simp [z.2]
        · rw [hlkO i p' (by omega) e2] at hl
          simp [hl])
      unfold owN at hs
      unfold ctN
      omega
    · rw [if_neg e]
      have := cN_mono (P := fun w => lk r w p') (P' := fun w' => lk (wrR r w p x v) w' p') 4 0 (fun i _ hi hl => by
        by_cases e2 : i = w
        · subst e2
          rcases hlkW p' hp' hl with z | z
          · exact z
          · exact absurd z.1 e
        · rw [hlkO i p' (by omega) e2] at hl
          exact hl)
      unfold ctN at h2 ⊢
      omega
  · by_cases e : w' = w
    · subst e
      unfold PW
      rw [oth w' 1 hw (by decide) (by omega), oth w' 3 hw (by decide) (by omega), oth w' 4 hw (by decide) (by omega), oth w' 6 hw (by decide) (by omega), g2']
      refine ⟨g1, ⟨s', hs8', rfl⟩, g3, fun p' hp' z => ?_, g5, fun z => ?_, g7, g8, fun p' hp' z => ?_, fun z k hk => ?_⟩
      · rw [hmar, bit0 p' hp'] at z; cases z
      · have z2 := g6 z
        rw [wf_wr _ _ _ hp hw (by decide), if_neg (by omega), if_neg (by rw [z]; intro q; exact absurd q.1 (by decide)), z2] at g2'
        exact g2'.symm
      · rw [bitN s' hs8' p' hp', hb' p' hp'] at z
        rw [hsz p' hp', wf_wr _ _ _ hp hw (by omega)]
        by_cases e : p' = p
        · subst e
          rw [if_pos rfl]
          by_cases hc : wf r w' 1 = 1 ∧ bitAt (wf r w' 2) p' = false
          · rw [if_pos ⟨hc.1, hc.2, rfl, rfl⟩]
            exact ⟨szN r p', by omega, rfl⟩
          · rw [if_neg (fun z => hc ⟨z.1, z.2.1⟩), if_neg (fun z => hc ⟨z.1, z.2.1⟩)]
            have hb : bitAt (wf r w' 2) p' = true := by
              rw [g2, bitN s hs8 p' hp']
              simp only [Bool.or_eq_true, Bool.and_eq_true, decide_eq_true_eq] at z
              rcases z with z | z
              · exact z
              · have : ¬ bitAt (wf r w' 2) p' = false := fun q => hc ⟨z.2, q⟩
                rw [g2, bitN s hs8 p' hp'] at this
                simpa using this
            obtain ⟨f, f1, f2⟩ := g9 p' hp' hb
            exact ⟨f, by omega, f2⟩
        · rw [if_neg e, if_neg (by omega), if_neg (by omega)]
          have hb : bitAt (wf r w' 2) p' = true := by
            rw [g2, bitN s hs8 p' hp']
            simpa [e] using z
          exact g9 p' hp' hb
      · rw [oth w' (10 + k) hw (by omega) (by omega)]
        exact g10 z k hk
    · exact (hB w' hw').frame (fun f hf => oth w' f hw' hf (fun z => e z.1)) (fun p' hp' => by rw [hsz p' hp']; split <;> omega) (Nat.le_refl _)
  · rw [wr_at r x v hw hp (by omega), if_neg (by omega)]; exact hC j hj p' hp'
  · rw [wr_at r x v hw hp (by omega), if_neg (by omega)]; exact hD
