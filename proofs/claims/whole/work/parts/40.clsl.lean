/-! the class's ticks -/
theorem RI_wm0 {r : Row} {T w p : Nat} (h : RI r T) (hw : w < 4) (hp : p < 3) (hm : wf r w 1 = 2) (hl : lk r w p = true) : RI (wm0 r w p (szN r p)) T := by
  have hlt := RI_lt h hw hp hl
  obtain ⟨hA, hB, hC, hD⟩ := h
  obtain ⟨l1, l2, l3⟩ := lk_sp hl
  generalize hn : szN r p = n at hlt
  have e66 : ∀ p', p' < 3 → wm0 r w p n (66 + p') = nI (if p' = p then szN r p' + 1 else szN r p') := by
    intro p' hp'
    rw [wm0_at r hw hp (by omega)]
    by_cases e : p' = p
    · rw [if_pos (by omega), if_pos e, (hA p' hp').1, nI_1]
    · rw [if_neg (by omega), if_neg e, (hA p' hp').1]
  have hsz : ∀ p', p' < 3 → szN (wm0 r w p n) p' = if p' = p then szN r p' + 1 else szN r p' := by
    intro p' hp'
    have := (hA p' hp').2
    show (wm0 r w p n (66 + p')).toNatClampNeg = _
    rw [e66 p' hp', nI_clamp (by split <;> omega)]
  obtain ⟨g1, g2, ⟨s, hs8, g3⟩, g4, g5, g6, g7, g8, g9, g10⟩ := hB w hw
  obtain ⟨mm, hm8, hor, hbits⟩ := bit_or s hs8 p hp
  have hmar : wf (wm0 r w p n) w 3 = nI mm := by rw [wf_wm0 _ hp hw hw (by decide), if_pos ⟨rfl, rfl⟩, g3, hor]
  have oth : ∀ w' f, w' < 4 → f < 16 → ¬ (w' = w ∧ f = 3) → wf (wm0 r w p n) w' f = wf r w' f := by
    intro w' f hw' hf hne
    rw [wf_wm0 _ hp hw hw' hf, if_neg hne]
  have hlkO : ∀ w' p', w' < 4 → w' ≠ w → lk (wm0 r w p n) w' p' = lk r w' p' := fun w' p' hw' hne => lk_of (oth w' 1 hw' (by decide) (fun z => hne z.1)) (oth w' 2 hw' (by decide) (fun z => hne z.1)) (oth w' 3 hw' (by decide) (fun z => hne z.1))
  have hlkW : ∀ p', p' < 3 → lk (wm0 r w p n) w p' = (lk r w p' && !decide (p' = p)) := by
    intro p' hp'
    unfold lk
    rw [oth w 1 hw (by decide) (by omega), oth w 2 hw (by decide) (by omega), hmar, bitN mm hm8 p' hp', hbits p' hp', g3, bitN s hs8 p' hp']
    cases decide (¬ wf r w 1 = 0) <;> cases bitAt (wf r w 2) p' <;> cases Nat.testBit s p' <;> cases decide (p' = p) <;> rfl
  have hA' : ∀ p', p' < 3 → wm0 r w p n (66 + p') = nI (szN (wm0 r w p n) p') ∧ szN (wm0 r w p n) p' + ctN (wm0 r w p n) p' ≤ 48 := by
    intro p' hp'
    rw [e66 p' hp', hsz p' hp']
    refine ⟨rfl, ?_⟩
    have h2 := (hA p' hp').2
    by_cases e : p' = p
    · subst e
      rw [if_pos rfl]
      have := cN_dec (P := fun w => lk r w p') (P' := fun w' => lk (wm0 r w p' n) w' p') (w := w) 4 0 (by omega) (by omega) hl (by show lk (wm0 r w p' n) w p' = false; rw [hlkW p' hp']; simp) (fun i _ hi hl' => by
        by_cases e2 : i = w
        · subst e2; exact hl
        · rw [hlkO i p' (by omega) e2] at hl'; exact hl')
      unfold ctN at h2 ⊢
      omega
    · rw [if_neg e]
      have := cN_mono (P := fun w => lk r w p') (P' := fun w' => lk (wm0 r w p n) w' p') 4 0 (fun i _ hi hl' => by
        by_cases e2 : i = w
        · subst e2
          rw [hlkW p' hp'] at hl'
          simp only [Bool.and_eq_true] at hl'
          exact hl'.1
        · rw [hlkO i p' (by omega) e2] at hl'; exact hl')
      unfold ctN at h2 ⊢
      omega
  have hB' : ∀ w', w' < 4 → w' ≠ w → PW (wm0 r w p n) T w' := fun w' hw' hne => (hB w' hw').frame (fun f hf => oth w' f hw' hf (fun z => hne z.1)) (fun p' hp' => by rw [hsz p' hp']; split <;> omega) (Nat.le_refl _)
  have hC' : ∀ j, j < 2 → ∀ p', p' < 6 → ∃ k, k ≤ 48 ∧ wm0 r w p n (69 + 6 * j + p') = nI k := by
    intro j hj p' hp'
    rw [wm0_at r hw hp (by omega), if_neg (by omega)]
    exact hC j hj p' hp'
  have hD' : ∃ t, t ≤ T ∧ wm0 r w p n 0 = nI t := by rw [wm0_at r hw hp (by omega), if_neg (by omega)]; exact hD
  have hcar : ∀ k, k < 6 → wf (wm0 r w p n) w (10 + k) = -1 ∨ ∃ n', n' ≤ 48 ∧ wf (wm0 r w p n) w (10 + k) = nI n' := by
    intro k hk
    rw [oth w (10 + k) hw (by omega) (by omega)]
    exact g10 l1 k hk
  refine ⟨hA', fun w' hw' => ?_, hC', hD'⟩
  by_cases e : w' = w
  · subst e
    unfold PW
    rw [oth w' 1 hw (by decide) (by omega), oth w' 2 hw (by decide) (by omega), hmar, oth w' 4 hw (by decide) (by omega), oth w' 6 hw (by decide) (by omega)]
    refine ⟨g1, g2, ⟨mm, hm8, rfl⟩, fun p' hp' z => ?_, fun z => absurd hm z, g6, g7, g8, fun p' hp' z => ?_, fun _ => hcar⟩
    · rw [bitN mm hm8 p' hp', hbits p' hp'] at z
      simp only [Bool.or_eq_true, decide_eq_true_eq] at z
      rcases z with z | z
      · exact g4 p' hp' (by rw [g3, bitN s hs8 p' hp']; exact z)
      · rw [z]; exact l2
    · rw [oth w' (7 + p') hw (by omega) (by omega)]
      obtain ⟨f, f1, f2⟩ := g9 p' hp' z
      refine ⟨f, ?_, f2⟩
      rw [hsz p' hp']
      split <;> omega
  · exact hB' w' hw' e

section
variable {a b : xA} {h0 : Int64} {r : Row} {T : Nat}
def mkM (a : xA) (r : Row) (w p f : Nat) : xA := xUp (xUp (apM a p (szN r p) (nI w) (wf r w 0) (-1) (wf r w 4) (nI f)) 15 0 p f (nI (szN r p))) 18 0 w p 0
theorem wm_CR {w p f : Nat} (h : CR a r T) (hw : w < 4) (hp : p < 3) (hm : wf r w 1 = 2) (hl : lk r w p = true) (hf : a 17 0 w p = nI f) (hfN : f < szN r p) : CR (mkM a r w p f) (wm0 r w p (szN r p)) T ∧ Fr a (mkM a r w p f) r (wm0 r w p (szN r p)) := by
  have hRI := RI_wm0 h.1.1 hw hp hm hl
  have hN := RI_lt h.1.1 hw hp hl
  obtain ⟨⟨hI, hP, hL⟩, hU⟩ := h
  have mO : ∀ k s w' i, ¬ (k = 15 ∧ s = 0 ∧ w' = p ∧ i = f) → ¬ (k = 18 ∧ s = 0 ∧ w' = w ∧ i = p) → (s ≠ 0 ∨ w' ≠ p ∨ (k ≠ 1 ∧ (k < 10 ∨ 15 < k ∨ i ≠ szN r p))) → mkM a r w p f k s w' i = a k s w' i := by
    intro k s w' i h1 h2 h3
    unfold mkM
    show xUp _ 18 0 w p 0 k s w' i = _
    unfold xUp
    rw [if_neg h2, if_neg h1, apM_ne _ _ _ _ _ _ h3]
  have n10 : mkM a r w p f 10 0 p (szN r p) = nI w := by unfold mkM xUp apM; simp
  have n11 : mkM a r w p f 11 0 p (szN r p) = wf r w 0 := by unfold mkM xUp apM; simp
  have n12 : mkM a r w p f 12 0 p (szN r p) = -1 := by unfold mkM xUp apM; simp
  have n13 : mkM a r w p f 13 0 p (szN r p) = wf r w 4 := by unfold mkM xUp apM; simp
  have n14 : mkM a r w p f 14 0 p (szN r p) = nI f := by unfold mkM xUp apM; simp
  have n15 : mkM a r w p f 15 0 p (szN r p) = -1 := by
    have : ¬ szN r p = f := by omega
    unfold mkM xUp apM; simp [this]
  have f15 : mkM a r w p f 15 0 p f = nI (szN r p) := by unfold mkM xUp; simp
  have n1 : mkM a r w p f 1 0 p 0 = nI (szN r p + 1) := by unfold mkM xUp apM; simp
  have n18 : mkM a r w p f 18 0 w p = 0 := by unfold mkM xUp; simp
  generalize mkM a r w p f = a' at *
  have e66 : ∀ p', p' < 3 → wm0 r w p (szN r p) (66 + p') = nI (if p' = p then szN r p' + 1 else szN r p') := by
    intro p' hp'
    rw [wm0_at r hw hp (by omega)]
    by_cases e : p' = p
    · rw [if_pos (by omega), if_pos e, (hI.1 p' hp').1, nI_1]
    · rw [if_neg (by omega), if_neg e, (hI.1 p' hp').1]
  have hsz : ∀ p', p' < 3 → szN (wm0 r w p (szN r p)) p' = if p' = p then szN r p' + 1 else szN r p' := by
    intro p' hp'
    have := hI.le hp'
    show (wm0 r w p (szN r p) (66 + p')).toNatClampNeg = _
    rw [e66 p' hp', nI_clamp (by split <;> omega)]
  obtain ⟨g1, g2, ⟨s, hs8, g3⟩, g4, g5, g6, g7, g8, g9, g10⟩ := hI.2.1 w hw
  obtain ⟨mm, hm8, hor, hbits⟩ := bit_or s hs8 p hp
  have hmar : wf (wm0 r w p (szN r p)) w 3 = nI mm := by rw [wf_wm0 _ hp hw hw (by decide), if_pos ⟨rfl, rfl⟩, g3, hor]
  have oth : ∀ w' f, w' < 4 → f < 16 → ¬ (w' = w ∧ f = 3) → wf (wm0 r w p (szN r p)) w' f = wf r w' f := by
    intro w' f hw' hf hne
    rw [wf_wm0 _ hp hw hw' hf, if_neg hne]
  have lkO : ∀ w' p', w' < 4 → w' ≠ w → lk (wm0 r w p (szN r p)) w' p' = lk r w' p' := fun w' p' hw' hne => lk_of (oth w' 1 hw' (by decide) (fun z => hne z.1)) (oth w' 2 hw' (by decide) (fun z => hne z.1)) (oth w' 3 hw' (by decide) (fun z => hne z.1))
  have lkW : ∀ p', p' < 3 → lk (wm0 r w p (szN r p)) w p' = (lk r w p' && !decide (p' = p)) := by
    intro p' hp'
    unfold lk
    rw [oth w 1 hw (by decide) (by omega), oth w 2 hw (by decide) (by omega), hmar, bitN mm hm8 p' hp', hbits p' hp', g3, bitN s hs8 p' hp']
    cases decide (¬ wf r w 1 = 0) <;> cases bitAt (wf r w 2) p' <;> cases Nat.testBit s p' <;> cases decide (p' = p) <;> rfl
  have hf7 : wf r w (7 + p) = nI f := (a17_lk hP hw hp hl).symm.trans hf
  -- the deed's beginning
  obtain ⟨l1, l2, l3, l4, l5, l6, l7⟩ := hL p hp
  have hu := (hU p hp).2
  have hF : ¬ a 12 0 p f = -1 ∧ a 14 0 p f = nI f ∧ a 10 0 p f = nI w ∧ cm a p (szN r p) f = none := by
    obtain ⟨f', y1, y2, y3⟩ := l7 w hw hl
    have : f' = f := nqI (by omega) (by omega) (y2.symm.trans hf)
    subst this
    exact y3
  have hF15 : a 15 0 p f = -1 := by
    rcases l4 f hfN with z | ⟨m, m1, m2⟩
    · exact z
    · have := hu f hfN m m1 m2
      have hc := hF.2.2.2
      unfold cm at hc
      rw [m2, if_neg (nIm1 (by omega)), nI_clamp (by omega), if_pos this] at hc
      cases hc
  have q : ∀ k, k < szN r p → a' 10 0 p k = a 10 0 p k ∧ a' 11 0 p k = a 11 0 p k ∧ a' 12 0 p k = a 12 0 p k ∧ a' 13 0 p k = a 13 0 p k ∧ a' 14 0 p k = a 14 0 p k := fun k hk => ⟨mO _ _ _ _ (by omega) (by omega) (by omega), mO _ _ _ _ (by omega) (by omega) (by omega), mO _ _ _ _ (by omega) (by omega) (by omega), mO _ _ _ _ (by omega) (by omega) (by omega), mO _ _ _ _ (by omega) (by omega) (by omega)⟩
  have q15 : ∀ k, k < szN r p → k ≠ f → a' 15 0 p k = a 15 0 p k := fun k hk hne => mO _ _ _ _ (by omega) (by omega) (by omega)
  have ecm : ∀ f', f' < szN r p → f' ≠ f → cm a' p (szN r p + 1) f' = cm a p (szN r p) f' := fun f' hf' hne => cm_grow hN l4 hu hf' (q15 f' hf' hne)
  have ecF : cm a' p (szN r p + 1) f = some (szN r p) := by
    unfold cm
    rw [f15, if_neg (nIm1 (by omega)), nI_clamp (by omega), if_pos (by omega)]
  refine ⟨⟨⟨hRI, ⟨?_, ?_, fun w' hw' => ?_, fun j hj p' hp' => ?_⟩, fun p' hp' => ?_⟩, fun p' hp' => ?_⟩, fun k s w' j hk => ?_, fun p' hp' => ?_⟩
  · rw [mO _ _ _ _ (by omega) (by omega) (by omega), wm0_at r hw hp (by omega), if_neg (by omega)]; exact hP.1
  · rw [mO _ _ _ _ (by omega) (by omega) (by omega), wm0_at r hw hp (by omega), if_neg (by omega)]; exact hP.2.1
  · by_cases e : w' = w
    · subst e
      obtain ⟨q1, q2, q3, q4, q5, q6, q7, q8⟩ := hP.2.2.1 w' hw
      refine ⟨?_, ?_, ?_, ?_, fun p' hp' => ?_, fun p' hp' z => ?_, fun p' hp' => ?_, fun k hk => ?_⟩
      · rw [mO _ _ _ _ (by omega) (by omega) (by omega), oth _ _ hw (by decide) (by omega)]; exact q1
      · rw [mO _ _ _ _ (by omega) (by omega) (by omega), oth _ _ hw (by decide) (by omega)]; exact q2
      · rw [mO _ _ _ _ (by omega) (by omega) (by omega), oth _ _ hw (by decide) (by omega)]; exact q3
      · rw [mO _ _ _ _ (by omega) (by omega) (by omega), oth _ _ hw (by decide) (by omega)]; exact q4
      · rw [mO _ _ _ _ (by omega) (by omega) (by omega), oth _ _ hw (by decide) (by omega)]; exact q5 p' hp'
      · rw [oth _ _ hw (by decide) (by omega)] at z
        rw [mO _ _ _ _ (by omega) (by omega) (by omega), oth _ _ hw (by omega) (by omega)]; exact q6 p' hp' z
      · rw [oth _ 1 hw (by decide) (by omega), oth _ 6 hw (by decide) (by omega), oth _ 2 hw (by decide) (by omega), lkW p' hp']
        by_cases e : p' = p
        · subst e
          rw [n18, if_neg (fun z => by simp at z)]
        · rw [mO _ _ _ _ (by omega) (by omega) (by omega), q7 p' hp']
          simp [e]
      · rw [mO _ _ _ _ (by omega) (by omega) (by omega), oth _ 1 hw (by decide) (by omega), oth _ (10 + k) hw (by omega) (by omega)]; exact q8 k hk
    · exact PP_of (hP.2.2.1 w' hw') (fun f hf => oth w' f hw' hf (fun z => e z.1)) (fun k j hk => mO _ _ _ _ (by omega) (by omega) (by omega))
  · rw [mO _ _ _ _ (by omega) (by omega) (by omega), mO _ _ _ _ (by omega) (by omega) (by omega), wm0_at r hw hp (by omega), if_neg (by omega), wm0_at r hw hp (by omega), if_neg (by omega)]
    exact hP.2.2.2 j hj p' hp'
  · by_cases e : p' = p
    · subst e
      unfold PL
      rw [hsz p' hp', if_pos rfl]
      refine ⟨fun k hk => ?_, fun k hk z1 z2 => ?_, fun k hk z1 => ?_, fun k hk => ?_, fun f' hf' z1 z2 m hm' z3 => ?_, fun k hk z1 f' hf' z2 z3 => ?_, fun w' hw' hl' => ?_⟩
      · by_cases ek : k = szN r p'
        · subst ek
          have cE : ∀ f, f < 6 → ce (wm0 r w p' (szN r p')) p' (szN r p') f = (if f = 0 then 1 else if f = 1 then nI w else if f = 2 then wf r w 0 else if f = 3 then -1 else if f = 4 then wf r w 4 else wf r w (7 + p')) := fun f hf => by rw [ce_wm0 _ hw hp hN hN hf, if_pos ⟨rfl, rfl⟩]
          refine ⟨by rw [cE 0 (by decide), n12]; rfl, by rw [cE 1 (by decide), n10]; rfl, by rw [cE 2 (by decide), n11]; rfl, by rw [cE 3 (by decide), n12]; rfl, by rw [cE 4 (by decide), n13]; rfl, ?_⟩
          rw [cE 5 (by decide), n12, if_pos rfl, n14]
          exact hf7
        · have hk2 : k < szN r p' := by omega
          obtain ⟨e0, e1, e2, e3, e4⟩ := q k hk2
          obtain ⟨c0, c1, c2, c3, c4, c5⟩ := l1 k hk2
          have cE : ∀ f, f < 5 → ce (wm0 r w p' (szN r p')) p' k f = ce r p' k f := fun f hf => by rw [ce_wm0 _ hw hp hN (by omega) (by omega), if_neg (fun z => ek z.2), if_neg (by omega)]
          have cF : ce (wm0 r w p' (szN r p')) p' k 5 = if ce r p' k 0 = 0 ∧ ce r p' k 1 = nI w ∧ ce r p' k 5 = 1 then (if wf r w 4 = 1 then 2 else 3) else ce r p' k 5 := by
            rw [ce_wm0 _ hw hp hN (by omega) (by decide), if_neg (fun z => ek z.2)]
            simp only [hk2, true_and, and_self]
          rw [cE 0 (by decide), cE 1 (by decide), cE 2 (by decide), cE 3 (by decide), cE 4 (by decide), cF, e0, e1, e2, e3, e4]
          refine ⟨c0, c1, c2, c3, c4, ?_⟩
          by_cases hmk : a 12 0 p' k = -1
          · rw [if_pos hmk] at c0 c5
            rw [if_pos hmk, if_neg (fun z => by rw [c0] at z; exact absurd z.1 (by decide))]
            exact c5
          · rw [if_neg hmk] at c0 c5
            rw [if_neg hmk]
            by_cases h14 : a 14 0 p' k = -1
            · have e5 : fate a p' (szN r p') k = 0 := by unfold fate; rw [if_pos h14]
              rw [if_neg (fun z => by rw [c5, e5] at z; exact absurd z.2.2 (by decide)), c5, e5]
              unfold fate
              rw [e4, if_pos h14]
            · obtain ⟨f', y1, y2, y3, y4, y5⟩ := l2 k hk2 hmk h14
              have ef : fate a p' (szN r p') k = match cm a p' (szN r p') f' with | none => 1 | some m => if a 13 0 p' m = 1 then 2 else 3 := by
                unfold fate
                rw [if_neg h14, y2, nI_clamp (by omega)]
                rfl
              have ef' : fate a' p' (szN r p' + 1) k = match cm a' p' (szN r p' + 1) f' with | none => 1 | some m => if a' 13 0 p' m = 1 then 2 else 3 := by
                unfold fate
                rw [e4, if_neg h14, y2, nI_clamp (by omega)]
                rfl
              by_cases e : f' = f
              · subst e
                rw [ef', ecF]
                show _ = if a' 13 0 p' (szN r p') = 1 then (2 : Int32) else 3
                rw [n13, if_pos ⟨c0, by rw [c1, ← y5]; exact hF.2.2.1, by rw [c5, ef, hF.2.2.2]⟩]
              · have hn : ¬ (ce r p' k 0 = 0 ∧ ce r p' k 1 = nI w ∧ ce r p' k 5 = 1) := by
                  rintro ⟨-, x1, x5⟩
                  rw [c5, ef] at x5
                  have hcn : cm a p' (szN r p') f' = none := by
                    cases hc : cm a p' (szN r p') f' with
                    | none => rfl
                    | some m =>
                      rw [hc] at x5
                      have x5 : (if a 13 0 p' m = 1 then (2 : Int32) else 3) = 1 := x5
                      split at x5 <;> exact absurd x5 (by decide)
                  obtain ⟨w', w1, w2, w3, w4⟩ := l6 k hk2 hmk f' (by omega) y2 hcn
                  rw [c1, w2] at x1
                  have : w' = w := nqI (by omega) (by omega) x1
                  subst this
                  exact e (nqI (by omega) (by omega) (w4.symm.trans hf))
                rw [if_neg hn, c5, ef, ef', ecm f' (by omega) e]
                cases hc : cm a p' (szN r p') f' with
                | none => rfl
                | some m =>
                  have hm := (cmk_some hc).1
                  show (if a 13 0 p' m = 1 then (2 : Int32) else 3) = if a' 13 0 p' m = 1 then 2 else 3
                  rw [(q m hm).2.2.2.1]
      · by_cases ek : k = szN r p'
        · subst ek; exact absurd n12 z1
        · obtain ⟨e0, e1, e2, e3, e4⟩ := q k (by omega)
          rw [e2] at z1
          rw [e4] at z2
          obtain ⟨f, f1, f2, f3, f4, f5⟩ := l2 k (by omega) z1 z2
          obtain ⟨d0, d1, d2, d3, d4⟩ := q f (by omega)
          exact ⟨f, f1, by rw [e4]; exact f2, by rw [d4]; exact f3, by rw [d2]; exact f4, by rw [d0, e0]; exact f5⟩
      · by_cases ek : k = szN r p'
        · subst ek
          obtain ⟨d0, d1, d2, d3, d4⟩ := q f hfN
          exact ⟨f, hfN, n14, by rw [d4]; exact hF.2.1, by rw [d2]; exact hF.1, f15, by rw [n13]; exact g7.1, by rw [d0, n10]; exact hF.2.2.1⟩
        · obtain ⟨e0, e1, e2, e3, e4⟩ := q k (by omega)
          rw [e2] at z1
          obtain ⟨f', f1, f2, f3, f4, f5, f6, f7⟩ := l3 k (by omega) z1
          have hne : f' ≠ f := by
            rintro rfl
            rw [hF15] at f5
            exact absurd f5.symm (nIm1 (by omega))
          obtain ⟨d0, d1, d2, d3, d4⟩ := q f' (by omega)
          exact ⟨f', f1, by rw [e4]; exact f2, by rw [d4]; exact f3, by rw [d2]; exact f4, by rw [q15 f' (by omega) hne]; exact f5, by rw [e3]; exact f6, by rw [d0, e0]; exact f7⟩
      · by_cases ek : k = szN r p'
        · subst ek; exact Or.inl n15
        · by_cases ef : k = f
          · subst ef; exact Or.inr ⟨szN r p', hN, f15⟩
          · rw [q15 k (by omega) ef]; exact l4 k (by omega)
      · by_cases ek : f' = szN r p'
        · subst ek; exact absurd n12 z1
        · obtain ⟨e0, e1, e2, e3, e4⟩ := q f' (by omega)
          rw [e2] at z1
          rw [e4] at z2
          by_cases ef : f' = f
          · subst ef
            have : m = szN r p' := nqI (by omega) (by omega) (z3.symm.trans f15)
            subst this
            exact ⟨hfN, n12, n14⟩
          · rw [q15 f' (by omega) ef] at z3
            have hmN := hu f' (by omega) m (by omega) z3
            obtain ⟨d0, d1, d2, d3, d4⟩ := q m hmN
            rw [d2, d4]
            exact l5 f' (by omega) z1 z2 m hmN z3
      · by_cases ek : k = szN r p'
        · subst ek; exact absurd n12 z1
        · obtain ⟨e0, e1, e2, e3, e4⟩ := q k (by omega)
          rw [e2] at z1
          rw [e4] at z2
          obtain ⟨f2, y1, y2, -⟩ := l2 k (by omega) z1 (by rw [z2]; exact nIm1 (by omega))
          have hff : f2 = f' := nqI (by omega) (by omega) (y2.symm.trans z2)
          subst hff
          have hne : f2 ≠ f := by
            rintro rfl
            rw [ecF] at z3; cases z3
          rw [ecm f2 (by omega) hne] at z3
          obtain ⟨w', w1, w2, w3, w4⟩ := l6 k (by omega) z1 f2 hf' z2 z3
          have hww : w' ≠ w := by
            rintro rfl
            exact hne (nqI (by omega) (by omega) (w4.symm.trans hf))
          exact ⟨w', w1, by rw [e0]; exact w2, by rw [lkO w' p' w1 hww]; exact w3, by rw [mO _ _ _ _ (by omega) (by omega) (by omega)]; exact w4⟩
      · have hww : w' ≠ w := by
          rintro rfl
          rw [lkW p' hp] at hl'
          simp at hl'
        rw [lkO w' p' hw' hww] at hl'
        obtain ⟨f', f1, f2, f3, f4, f5, f6⟩ := l7 w' hw' hl'
        have hne : f' ≠ f := by
          rintro rfl
          exact hww (nqI (by omega) (by omega) (f5.symm.trans hF.2.2.1))
        obtain ⟨d0, d1, d2, d3, d4⟩ := q f' f1
        exact ⟨f', by omega, by rw [mO _ _ _ _ (by omega) (by omega) (by omega)]; exact f2, by rw [d2]; exact f3, by rw [d4]; exact f4, by rw [d0]; exact f5, by rw [ecm f' f1 hne]; exact f6⟩
    · refine PL_of (hL p' hp') (by rw [hsz p' hp', if_neg e]) (fun k h1 h2 i => mO _ _ _ _ (by omega) (by omega) (by omega)) (fun k hk f hf => ?_) (fun w' hw' z => ?_) (fun w' hw' z => ?_)
      · have := hI.le hp'
        rw [ce_wm0 _ hw hp hN (by omega) hf, if_neg (fun z => e z.1), if_neg (fun z => e z.1.1)]
      · refine ⟨?_, mO _ _ _ _ (by omega) (by omega) (by omega)⟩
        by_cases e2 : w' = w
        · subst e2
          rw [lkW p' hp', z]; simp [e]
        · rw [lkO w' p' hw' e2]; exact z
      · refine ⟨?_, mO _ _ _ _ (by omega) (by omega) (by omega)⟩
        by_cases e2 : w' = w
        · subst e2
          rw [lkW p' hp'] at z
          simpa [e] using z
        · rw [lkO w' p' hw' e2] at z; exact z
  · rw [e66 p' hp', hsz p' hp']
    by_cases e : p' = p
    · subst e
      rw [if_pos rfl]
      refine ⟨n1, fun k hk m hm' z => ?_⟩
      by_cases e2 : k = szN r p'
      · subst e2
        rw [n15] at z
        exact absurd z.symm (nIm1 (by omega))
      · by_cases e3 : k = f
        · subst e3
          have : m = szN r p' := nqI (by omega) (by omega) (z.symm.trans f15)
          omega
        · rw [q15 k (by omega) e3] at z
          have := hu k (by omega) m hm' z
          omega
    · rw [if_neg e, mO _ _ _ _ (by omega) (by omega) (by omega)]
      refine ⟨(hU p' hp').1.trans (hI.1 p' hp').1, fun k hk m hm' z => ?_⟩
      rw [mO _ _ _ _ (by omega) (by omega) (by omega)] at z
      exact (hU p' hp').2 k hk m hm' z
  · exact mO _ _ _ _ (by omega) (by omega) (by omega)
  · rw [hsz p' hp']
    refine ⟨by split <;> omega, fun k hk => ?_⟩
    by_cases e : p' = p
    · subst e
      obtain ⟨e0, e1, e2, e3, e4⟩ := q k hk
      refine ⟨e0, e1, e2, e3, e4, ?_⟩
      by_cases ef : k = f
      · subst ef
        exact Or.inr ⟨Or.inl hF15, Or.inr ⟨szN r p', Nat.le_refl _, hN, f15⟩⟩
      · exact Or.inl (q15 k hk ef)
    · exact ⟨mO _ _ _ _ (by omega) (by omega) (by omega), mO _ _ _ _ (by omega) (by omega) (by omega), mO _ _ _ _ (by omega) (by omega) (by omega), mO _ _ _ _ (by omega) (by omega) (by omega), mO _ _ _ _ (by omega) (by omega) (by omega), Or.inl (mO _ _ _ _ (by omega) (by omega) (by omega))⟩
end
