theorem wf_pm6 (r : Row) {w p n w' f : Nat} (hw' : w' < 4) (hf : f < 16) : wf (pm6 r w p n) w' f = wf r w' f := by
  unfold pm6
  rw [wf_uc _ _ hw' hf, wf_uc _ _ hw' hf, wf_uc _ _ hw' hf, wf_uc _ _ hw' hf, wf_uc _ _ hw' hf, wf_uc _ _ hw' hf]
theorem pm6_at (r : Row) {w p n i : Nat} (hi : i < 81) : pm6 r w p n i = r i := by
  unfold pm6
  rw [lo_uc _ _ hi, lo_uc _ _ hi, lo_uc _ _ hi, lo_uc _ _ hi, lo_uc _ _ hi, lo_uc _ _ hi]
theorem ce_pm6 (r : Row) {w p n p' k f : Nat} (hw : w < 4) (hp : p < 3) (hn : n < 48) (hk : k < 48) (hf : f < 6) : ce (pm6 r w p n) p' k f = if p' = p ∧ k = n then (if f = 0 then 1 else if f = 1 then nI w else if f = 2 then wf r w 0 else if f = 3 then -1 else if f = 4 then wf r w 4 else wf r w (7 + p)) else ce r p' k f := by
  unfold pm6
  rw [ce_uc _ _ hn hk (by decide) hf, ce_uc _ _ hn hk (by decide) hf, ce_uc _ _ hn hk (by decide) hf, ce_uc _ _ hn hk (by decide) hf, ce_uc _ _ hn hk (by decide) hf, ce_uc _ _ hn hk (by decide) hf, wf_uc _ _ hw (by omega), wf_uc _ _ hw (by omega), wf_uc _ _ hw (by omega), wf_uc _ _ hw (by omega), wf_uc _ _ hw (by omega), wf_uc _ _ hw (by decide), wf_uc _ _ hw (by decide)]
  by_cases h : p' = p ∧ k = n
  · rw [if_pos h]
    obtain ⟨rfl, rfl⟩ := h
    simp only [true_and]
    have : f = 0 ∨ f = 1 ∨ f = 2 ∨ f = 3 ∨ f = 4 ∨ f = 5 := by omega
    rcases this with rfl | rfl | rfl | rfl | rfl | rfl <;> simp
  · rw [if_neg h]
    simp only [← and_assoc, h, false_and, if_false]
theorem wf_hm1 (r : Row) {w p k w' f : Nat} (c : Int32) (hw' : w' < 4) (hf : f < 16) : wf (hm1 r w p c k) w' f = wf r w' f := by
  unfold hm1
  split
  · exact wf_uc _ _ hw' hf
  · rfl
theorem hm1_at (r : Row) {w p k i : Nat} (c : Int32) (hi : i < 81) : hm1 r w p c k i = r i := by
  unfold hm1
  split
  · exact lo_uc _ _ hi
  · rfl
theorem ce_hm1 (r : Row) {w p k p' k' f : Nat} (c : Int32) (hk : k < 48) (hk' : k' < 48) (hf : f < 6) : ce (hm1 r w p c k) p' k' f = if (p' = p ∧ k' = k ∧ f = 5) ∧ ce r p k 0 = 0 ∧ ce r p k 1 = nI w ∧ ce r p k 5 = 1 then (if c = 1 then 2 else 3) else ce r p' k' f := by
  unfold hm1
  by_cases h : ce r p k 0 = 0 ∧ ce r p k 1 = nI w ∧ ce r p k 5 = 1
  · rw [if_pos h, ce_uc _ _ hk hk' (by decide) hf]
    simp only [h, and_self, and_true]
  · rw [if_neg h, if_neg (fun z => h z.2)]
theorem wf_hmF {w p w' f : Nat} (c : Int32) (hw' : w' < 4) (hf : f < 16) : ∀ (m k : Nat) (r : Row), wf (hmF w p c r k m) w' f = wf r w' f
  | 0, _, _ => rfl
  | m + 1, k, r => by
    show wf (hmF w p c (hm1 r w p c k) (k + 1) m) w' f = _
    rw [wf_hmF c hw' hf m (k + 1), wf_hm1 _ _ hw' hf]
theorem hmF_at {w p i : Nat} (c : Int32) (hi : i < 81) : ∀ (m k : Nat) (r : Row), hmF w p c r k m i = r i
  | 0, _, _ => rfl
  | m + 1, k, r => by
    show hmF w p c (hm1 r w p c k) (k + 1) m i = _
    rw [hmF_at c hi m (k + 1), hm1_at _ _ hi]
theorem ce_hmF {w p p' k' f : Nat} (c : Int32) (hk' : k' < 48) (hf : f < 6) : ∀ (m k : Nat) (r : Row), k + m ≤ 48 → ce (hmF w p c r k m) p' k' f = if (p' = p ∧ (k ≤ k' ∧ k' < k + m) ∧ f = 5) ∧ ce r p k' 0 = 0 ∧ ce r p k' 1 = nI w ∧ ce r p k' 5 = 1 then (if c = 1 then 2 else 3) else ce r p' k' f
  | 0, k, r, _ => by rw [if_neg (fun z => by omega)]; rfl
  | m + 1, k, r, hm => by
    show ce (hmF w p c (hm1 r w p c k) (k + 1) m) p' k' f = _
    rw [ce_hmF c hk' hf m (k + 1) _ (by omega), ce_hm1 _ _ (by omega) hk' hf, ce_hm1 _ _ (by omega) hk' (by decide), ce_hm1 _ _ (by omega) hk' (by decide), ce_hm1 _ _ (by omega) hk' (by decide)]
    by_cases e : k' = k
    · subst e
      rw [if_neg (fun z => by omega)]
      by_cases h : p' = p ∧ f = 5
      · obtain ⟨rfl, rfl⟩ := h
        have hr : k' ≤ k' ∧ k' < k' + (m + 1) := by omega
        simp only [hr, true_and, and_self]
      · rw [if_neg (fun z => h ⟨z.1.1, z.1.2.2⟩), if_neg (fun z => h ⟨z.1.1, z.1.2.2⟩)]
    · have n5 : ∀ f', ¬ (p = p ∧ k' = k ∧ f' = 5) := fun f' z => e z.2.1
      simp only [e, false_and, and_false, if_false]
      by_cases h : k ≤ k' ∧ k' < k + (m + 1)
      · have h2 : k + 1 ≤ k' ∧ k' < k + 1 + m := by omega
        simp only [h, h2]
      · have h2 : ¬ (k + 1 ≤ k' ∧ k' < k + 1 + m) := by omega
        rw [if_neg (fun z => h2 z.1.2.1), if_neg (fun z => h z.1.2.1)]
theorem wf_wm0 (r : Row) {w p n w' f : Nat} (hp : p < 3) (hw : w < 4) (hw' : w' < 4) (hf : f < 16) : wf (wm0 r w p n) w' f = if w' = w ∧ f = 3 then wf r w 3 ||| ((1 : Int32) <<< (nI p &&& 31)) else wf r w' f := by
  unfold wm0 wm1 wm2
  rw [wf_uw _ _ (by decide) hf, wf_up _ _ hw' hf (by omega), wf_up _ _ hw (by decide) (by omega), wf_hmF _ hw' hf, wf_hmF _ hw (by decide), wf_pm6 _ hw' hf, wf_pm6 _ hw (by decide)]
theorem wm0_at (r : Row) {w p n i : Nat} (hw : w < 4) (hp : p < 3) (hi : i < 2 ∨ (66 ≤ i ∧ i < 81)) : wm0 r w p n i = if i = 66 + p then r i + 1 else r i := by
  unfold wm0 wm1 wm2
  have e : ∀ (q : Row) (v : Int32), uw q w 3 v i = q i := by
    intro q v
    rcases hi with hi | hi
    · exact lo_uw _ _ hi
    · exact hi_uw _ _ hw (by decide) hi.1
  rw [e]
  by_cases h : i = 66 + p
  · subst h
    rw [up_eq, if_pos rfl, hmF_at _ (by omega), pm6_at _ (by omega)]
  · rw [up_ne _ _ h, if_neg h, hmF_at _ (by omega), pm6_at _ (by omega)]
theorem ce_wm0 (r : Row) {w p n p' k f : Nat} (hw : w < 4) (hp : p < 3) (hn : n < 48) (hk : k < 48) (hf : f < 6) : ce (wm0 r w p n) p' k f = if p' = p ∧ k = n then (if f = 0 then 1 else if f = 1 then nI w else if f = 2 then wf r w 0 else if f = 3 then -1 else if f = 4 then wf r w 4 else wf r w (7 + p)) else if (p' = p ∧ k < n ∧ f = 5) ∧ ce r p k 0 = 0 ∧ ce r p k 1 = nI w ∧ ce r p k 5 = 1 then (if wf r w 4 = 1 then 2 else 3) else ce r p' k f := by
  unfold wm0 wm1 wm2
  rw [ce_uw _ _ hw (by decide), ce_up _ _ (by omega), ce_hmF _ hk hf n 0 _ (by omega)]
  by_cases h : k = n
  · subst h
    rw [if_neg (fun z => by omega), ce_pm6 _ hw hp hn hk hf]
    by_cases h2 : p' = p
    · simp [h2]
    · rw [if_neg (fun z => h2 z.1), if_neg (fun z => h2 z.1), if_neg (fun z => h2 z.1.1)]
  · rw [ce_pm6 _ hw hp hn hk hf, ce_pm6 _ hw hp hn hk (by decide), ce_pm6 _ hw hp hn hk (by decide), ce_pm6 _ hw hp hn hk (by decide)]
    have e1 : ¬ (p' = p ∧ k = n) := fun z => h z.2
    have e2 : ¬ (p = p ∧ k = n) := fun z => h z.2
    rw [if_neg e1, if_neg e1, if_neg e2, if_neg e2, if_neg e2]
    have e3 : (0 ≤ k ∧ k < 0 + n) ↔ k < n := by omega
    simp only [e3]
theorem du_lk {r : Row} {w p : Nat} (h : duB r w p = true) : wf r w 1 = 2 ∧ lk r w p = true ∧ wf r w 6 + rkI (wf r w 2) (p + 1) = r 0 := by
  simp only [duB, Bool.and_eq_true, decide_eq_true_eq] at h
  exact h
theorem lk_sp {r : Row} {w p : Nat} (h : lk r w p = true) : ¬ wf r w 1 = 0 ∧ bitAt (wf r w 2) p = true ∧ bitAt (wf r w 3) p = false := by
  simp only [lk, Bool.and_eq_true, decide_eq_true_eq, Bool.not_eq_true'] at h
  exact h
theorem RI_lt {r : Row} {T w p : Nat} (h : RI r T) (hw : w < 4) (hp : p < 3) (hl : lk r w p = true) : szN r p < 48 := by
  have h1 := (h.1 p hp).2
  have h2 := cN_pos (P := fun w => lk r w p) 4 0 (Nat.zero_le w) (by omega) hl
  unfold ctN at h1
  omega
theorem RI_wm {r : Row} {T w p : Nat} (h : RI r T) (hw : w < 4) (hp : p < 3) (hm : wf r w 1 = 2) (hl : lk r w p = true) : RI (wmR r w p) T := by
  have hlt := RI_lt h hw hp hl
  obtain ⟨hA, hB, hC, hD⟩ := h
  obtain ⟨l1, l2, l3⟩ := lk_sp hl
  generalize hn : szN r p = n at hlt
  have e66 : ∀ p', p' < 3 → wm0 r w p n (66 + p') = nI (if p' = p then szN r p' + 1 else szN r p') := by
    intro p' hp'
    rw [wm0_at r hw hp (by omega)]
    by_cases e : p' = p
    · rw [if_pos (by omega), if_pos e, (hA p' hp').1, nI_1]
    · rw [if_neg (by omega), if_neg e, (hA p' hp').1]
  have hsz : ∀ p', p' < 3 → szN (wm0 r w p n) p' = if p' = p then szN r p' + 1 else szN r p' := by
    intro p' hp'
    have := (hA p' hp').2
    show (wm0 r w p n (66 + p')).toNatClampNeg = _
    rw [e66 p' hp', nI_clamp (by split <;> omega)]
  obtain ⟨g1, g2, ⟨s, hs8, g3⟩, g4, g5, g6, g7, g8, g9, g10⟩ := hB w hw
  obtain ⟨mm, hm8, hor, hbits⟩ := bit_or s hs8 p hp
  have hmar : wf (wm0 r w p n) w 3 = nI mm := by rw [wf_wm0 _ hp hw hw (by decide), if_pos ⟨rfl, rfl⟩, g3, hor]
  have oth : ∀ w' f, w' < 4 → f < 16 → ¬ (w' = w ∧ f = 3) → wf (wm0 r w p n) w' f = wf r w' f := by
    intro w' f hw' hf hne
    rw [wf_wm0 _ hp hw hw' hf, if_neg hne]
  have hlkO : ∀ w' p', w' < 4 → w' ≠ w → lk (wm0 r w p n) w' p' = lk r w' p' := fun w' p' hw' hne => lk_of (oth w' 1 hw' (by decide) (fun z => hne z.1)) (oth w' 2 hw' (by decide) (fun z => hne z.1)) (oth w' 3 hw' (by decide) (fun z => hne z.1))
  have hlkW : ∀ p', p' < 3 → lk (wm0 r w p n) w p' = (lk r w p' && !decide (p' = p)) := by
    intro p' hp'
    unfold lk
    rw [oth w 1 hw (by decide) (by omega), oth w 2 hw (by decide) (by omega), hmar, bitN mm hm8 p' hp', hbits p' hp', g3, bitN s hs8 p' hp']
    cases decide (¬ wf r w 1 = 0) <;> cases bitAt (wf r w 2) p' <;> cases Nat.testBit s p' <;> cases decide (p' = p) <;> rfl
  have hA' : ∀ p', p' < 3 → wm0 r w p n (66 + p') = nI (szN (wm0 r w p n) p') ∧ szN (wm0 r w p n) p' + ctN (wm0 r w p n) p' ≤ 48 := by
    intro p' hp'
    rw [e66 p' hp', hsz p' hp']
    refine ⟨rfl, ?_⟩
    have h2 := (hA p' hp').2
    by_cases e : p' = p
    · subst e
      rw [if_pos rfl]
      have := cN_dec (P := fun w => lk r w p') (P' := fun w' => lk (wm0 r w p' n) w' p') (w := w) 4 0 (by omega) (by omega) hl (by show lk (wm0 r w p' n) w p' = false; rw [hlkW p' hp']; simp) (fun i _ hi hl' => by
        by_cases e2 : i = w
        · subst e2; exact hl
        · rw [hlkO i p' (by omega) e2] at hl'; exact hl')
      unfold ctN at h2 ⊢
      omega
    · rw [if_neg e]
      have := cN_mono (P := fun w => lk r w p') (P' := fun w' => lk (wm0 r w p n) w' p') 4 0 (fun i _ hi hl' => by
        by_cases e2 : i = w
        · subst e2
          rw [hlkW p' hp'] at hl'
          simp only [Bool.and_eq_true] at hl'
          exact hl'.1
        · rw [hlkO i p' (by omega) e2] at hl'; exact hl')
      unfold ctN at h2 ⊢
      omega
  have hB' : ∀ w', w' < 4 → w' ≠ w → PW (wm0 r w p n) T w' := fun w' hw' hne => (hB w' hw').frame (fun f hf => oth w' f hw' hf (fun z => hne z.1)) (fun p' hp' => by rw [hsz p' hp']; split <;> omega) (Nat.le_refl _)
  have hC' : ∀ j, j < 2 → ∀ p', p' < 6 → ∃ k, k ≤ 48 ∧ wm0 r w p n (69 + 6 * j + p') = nI k := by
    intro j hj p' hp'
    rw [wm0_at r hw hp (by omega), if_neg (by omega)]
    exact hC j hj p' hp'
  have hD' : ∃ t, t ≤ T ∧ wm0 r w p n 0 = nI t := by rw [wm0_at r hw hp (by omega), if_neg (by omega)]; exact hD
  have hcar : ∀ k, k < 6 → wf (wm0 r w p n) w (10 + k) = -1 ∨ ∃ n', n' ≤ 48 ∧ wf (wm0 r w p n) w (10 + k) = nI n' := by
    intro k hk
    rw [oth w (10 + k) hw (by omega) (by omega)]
    exact g10 l1 k hk
  unfold wmR
  rw [hn]
  split
  · exact RI_ov hw hA' hB' hcar hC' hD'
  · refine ⟨hA', fun w' hw' => ?_, hC', hD'⟩
    by_cases e : w' = w
    · subst e
      unfold PW
      rw [oth w' 1 hw (by decide) (by omega), oth w' 2 hw (by decide) (by omega), hmar, oth w' 4 hw (by decide) (by omega), oth w' 6 hw (by decide) (by omega)]
      refine ⟨g1, g2, ⟨mm, hm8, rfl⟩, fun p' hp' z => ?_, fun z => absurd hm z, g6, g7, g8, fun p' hp' z => ?_, fun _ => hcar⟩
      · rw [bitN mm hm8 p' hp', hbits p' hp'] at z
        simp only [Bool.or_eq_true, decide_eq_true_eq] at z
        rcases z with z | z
        · exact g4 p' hp' (by rw [g3, bitN s hs8 p' hp']; exact z)
        · rw [z]; exact l2
      · rw [oth w' (7 + p') hw (by omega) (by omega)]
        obtain ⟨f, f1, f2⟩ := g9 p' hp' z
        refine ⟨f, ?_, f2⟩
        rw [hsz p' hp']
        split <;> omega
    · exact hB' w' hw' e
