/-! the class's sends: a log grows -/
def apM (a : xA) (p N : Nat) (x1 x2 x3 x4 x5 : Int32) : xA := fun k s w i => if s = 0 ∧ w = p ∧ i = N ∧ 10 ≤ k ∧ k ≤ 15 then (if k = 10 then x1 else if k = 11 then x2 else if k = 12 then x3 else if k = 13 then x4 else if k = 14 then x5 else -1) else if k = 1 ∧ s = 0 ∧ w = p ∧ i = 0 then nI (N + 1) else a k s w i
theorem apM_up (a : xA) (p N : Nat) (x1 x2 x3 x4 x5 : Int32) : xUp (xUp (xUp (xUp (xUp (xUp (xUp a 10 0 p N x1) 11 0 p N x2) 12 0 p N x3) 13 0 p N x4) 14 0 p N x5) 15 0 p N (-1)) 1 0 p 0 (nI (N + 1)) = apM a p N x1 x2 x3 x4 x5 := by
  funext k s w i
  unfold xUp apM
  by_cases hs : s = 0 ∧ w = p
  · obtain ⟨rfl, rfl⟩ := hs
    by_cases h1 : k = 1
    · subst h1; simp
    · by_cases hi : i = N
      · subst hi
        by_cases e10 : k = 10
        · simp [e10]
        by_cases e11 : k = 11
        · simp [e11]
        by_cases e12 : k = 12
        · simp [e12]
        by_cases e13 : k = 13
        · simp [e13]
        by_cases e14 : k = 14
        · simp [e14]
        by_cases e15 : k = 15
        · simp [e15]
        have e : ¬ (10 ≤ k ∧ k ≤ 15) := by omega
        simp [h1, e10, e11, e12, e13, e14, e15, e]
      · simp [h1, hi]
  · have h3 : ∀ (q : Nat) (P : Prop), ¬ (k = q ∧ s = 0 ∧ w = p ∧ P) := fun q P z => hs ⟨z.2.1, z.2.2.1⟩
    rw [if_neg (h3 _ _), if_neg (h3 _ _), if_neg (h3 _ _), if_neg (h3 _ _), if_neg (h3 _ _), if_neg (h3 _ _), if_neg (h3 _ _), if_neg (fun z => hs ⟨z.1, z.2.1⟩), if_neg (h3 _ _)]
theorem apM_ne (a : xA) {p N k s w i : Nat} (x1 x2 x3 x4 x5 : Int32) (h : s ≠ 0 ∨ w ≠ p ∨ (k ≠ 1 ∧ (k < 10 ∨ 15 < k ∨ i ≠ N))) : apM a p N x1 x2 x3 x4 x5 k s w i = a k s w i := by
  unfold apM
  rw [if_neg (by omega), if_neg (by omega)]
section
variable {a b : xA} {h0 : Int64} {r : Row} {T : Nat}
theorem cC_append {Q : Int32 → xM → Prop} {p N : Nat} {x1 x2 x3 x4 x5 : Int32} (hp : p < 3) (hl : a 1 0 p 0 = nI N) (hN : N < 48) (hq : Q (nI N) (apM a p N x1 x2 x3 x4 x5, (b, h0))) : CI mX1_append [vR 1 0 p, vI x1, vI x2, vI x3, vI x4, vI x5] (a, (b, h0)) Q := by
  have v : vp_in (nI N) 48 := vp_in_nI hN (by decide)
  have e1 : xUp (xUp (xUp (xUp (xUp (xUp a 10 0 p N x1) 11 0 p N x2) 12 0 p N x3) 13 0 p N x4) 14 0 p N x5) 15 0 p N (-1) 1 0 p 0 = nI N := by
    unfold xUp
    simp [hl]
  refine eX1_append hp ?_
  rw [hl, nI_clamp (by omega), e1, nI_1, apM_up]
  exact ⟨fun _ => ⟨v, v, v, v, v, v, hq⟩, fun z => absurd (nI_lt hN (by decide)) z⟩
/-- a's cells of log p below N as they were; at N a new entry -/
theorem cm_grow {a a' : xA} {p N f : Nat} (hN : N < 48) (h4 : L4 a p N) (hu : ∀ k, k < N → ∀ m, m < 48 → a 15 0 p k = nI m → m < N) (hf : f < N) (e : a' 15 0 p f = a 15 0 p f) : cm a' p (N + 1) f = cm a p N f := by
  unfold cm
  rw [e]
  rcases h4 f hf with z | ⟨m, m1, m2⟩
  · rw [if_pos z, if_pos z]
  · have := hu f hf m m1 m2
    rw [m2, nI_clamp (by omega), if_pos this, if_pos (show m < N + 1 by omega)]
theorem fate_grow {a a' : xA} {p N k : Nat} (hN : N < 48) (h2 : L2 a p N) (h4 : L4 a p N) (hu : ∀ k, k < N → ∀ m, m < 48 → a 15 0 p k = nI m → m < N) (hk : k < N) (hm : ¬ a 12 0 p k = -1) (e : ∀ k, k < N → a' 13 0 p k = a 13 0 p k ∧ a' 14 0 p k = a 14 0 p k ∧ a' 15 0 p k = a 15 0 p k) : fate a' p (N + 1) k = fate a p N k := by
  unfold fate
  rw [(e k hk).2.1]
  by_cases hz : a 14 0 p k = -1
  · rw [if_pos hz, if_pos hz]
  · rw [if_neg hz, if_neg hz]
    obtain ⟨f, f1, f2, -⟩ := h2 k hk hm hz
    rw [f2, nI_clamp (by omega), cm_grow hN h4 hu (by omega) (e f (by omega)).2.2]
    cases hc : cm a p N f with
    | none => rfl
    | some m =>
      have hm := (cmk_some hc).1
      show (if a' 13 0 p m = 1 then (2 : Int32) else 3) = if a 13 0 p m = 1 then 2 else 3
      rw [(e m hm).1]
/-- the producer's first position is laid down -/
def s1M (a : xA) (r : Row) (w p : Nat) : xA := if wf r w 1 = 1 ∧ a 17 0 w p = -1 then xUp a 17 0 w p (nI (szN r p)) else a
theorem s1M_ne (a : xA) {r : Row} {w p k s w' i : Nat} (h : k ≠ 17 ∨ s ≠ 0 ∨ w' ≠ w ∨ i ≠ p) : s1M a r w p k s w' i = a k s w' i := by
  unfold s1M
  split
  · unfold xUp
    rw [if_neg (by omega)]
  · rfl
theorem wr_CR {w p : Nat} {x v : Int32} (h : CR a r T) (hw : w < 4) (hp : p < 3) (hm : ¬ wf r w 1 = 2) (hs : szN r p + owN r p < 48) (hx : ¬ x = -1) : CR (apM (s1M a r w p) p (szN r p) (nI w) (wf r w 0) x v (s1M a r w p 17 0 w p)) (wrR r w p x v) T ∧ Fr a (apM (s1M a r w p) p (szN r p) (nI w) (wf r w 0) x v (s1M a r w p 17 0 w p)) r (wrR r w p x v) := by
  have hRI := RI_wr (x := x) (v := v) h.1.1 hw hp hm hs
  obtain ⟨⟨hI, hP, hL⟩, hU⟩ := h
  have hN : szN r p < 48 := by omega
  generalize hf1 : s1M a r w p 17 0 w p = f1
  generalize ha' : apM (s1M a r w p) p (szN r p) (nI w) (wf r w 0) x v f1 = a'
  have m17 : ∀ w' p', a' 17 0 w' p' = if wf r w 1 = 1 ∧ bitAt (wf r w 2) p = false ∧ w' = w ∧ p' = p then nI (szN r p) else a 17 0 w' p' := by
    intro w' p'
    rw [← ha', apM_ne _ _ _ _ _ _ (by omega)]
    have hb := (hP.2.2.1 w hw).2.2.2.2.1 p hp
    unfold s1M
    by_cases hc : wf r w 1 = 1 ∧ a 17 0 w p = -1
    · rw [if_pos hc]
      have hb2 : bitAt (wf r w 2) p = false := by rw [hb]; simp [hc.2]
      unfold xUp
      by_cases e : w' = w ∧ p' = p
      · rw [if_pos ⟨rfl, rfl, e⟩, if_pos ⟨hc.1, hb2, e⟩]
      · rw [if_neg (fun z => e z.2.2), if_neg (fun z => e z.2.2)]
    · rw [if_neg hc, if_neg]
      intro z
      apply hc
      refine ⟨z.1, ?_⟩
      have := z.2.1
      rw [hb] at this
      simpa using this
  have hf1' : f1 = a' 17 0 w p := by rw [← ha', apM_ne _ _ _ _ _ _ (by omega)]; exact hf1.symm
  have mO : ∀ k s w' i, (s ≠ 0 ∨ (k ≠ 17 ∧ (w' ≠ p ∨ (k ≠ 1 ∧ (k < 10 ∨ 15 < k ∨ i ≠ szN r p))))) → a' k s w' i = a k s w' i := by
    intro k s w' i hh
    rw [← ha', apM_ne _ _ _ _ _ _ (by omega), s1M_ne _ (by omega)]
  have n10 : a' 10 0 p (szN r p) = nI w := by rw [← ha']; unfold apM; simp
  have n11 : a' 11 0 p (szN r p) = wf r w 0 := by rw [← ha']; unfold apM; simp
  have n12 : a' 12 0 p (szN r p) = x := by rw [← ha']; unfold apM; simp
  have n13 : a' 13 0 p (szN r p) = v := by rw [← ha']; unfold apM; simp
  have n14 : a' 14 0 p (szN r p) = f1 := by rw [← ha']; unfold apM; simp
  have n15 : a' 15 0 p (szN r p) = -1 := by rw [← ha']; unfold apM; simp
  have n1 : a' 1 0 p 0 = nI (szN r p + 1) := by rw [← ha']; unfold apM; simp
  clear ha' hf1
  -- sizes
  have e66 : ∀ p', p' < 3 → wrR r w p x v (66 + p') = nI (if p' = p then szN r p' + 1 else szN r p') := by
    intro p' hp'
    rw [wr_at r x v hw hp (by omega)]
    by_cases e : p' = p
    · rw [if_pos (by omega), if_pos e, (hI.1 p' hp').1, nI_1]
    · rw [if_neg (by omega), if_neg e, (hI.1 p' hp').1]
  have hsz : ∀ p', p' < 3 → szN (wrR r w p x v) p' = if p' = p then szN r p' + 1 else szN r p' := by
    intro p' hp'
    have := hI.le hp'
    show (wrR r w p x v (66 + p')).toNatClampNeg = _
    rw [e66 p' hp', nI_clamp (by split <;> omega)]
  -- the writers' fields
  have oth : ∀ w' f, w' < 4 → f < 16 → (w' ≠ w ∨ (f ≠ 2 ∧ f ≠ 7 + p)) → wf (wrR r w p x v) w' f = wf r w' f := by
    intro w' f hw' hf hne
    rw [wf_wr _ _ _ hp hw' hf, if_neg (by omega), if_neg (by omega)]
  obtain ⟨g1, ⟨s, hs8, g2⟩, g3, g4, g5, g6, -⟩ := hI.2.1 w hw
  have hmar : wf r w 3 = 0 := g5 hm
  obtain ⟨mm, hm8, hor, hbits⟩ := bit_or s hs8 p hp
  have hbit : ∀ p', p' < 3 → bitAt (wf (wrR r w p x v) w 2) p' = (bitAt (wf r w 2) p' || (decide (p' = p) && decide (wf r w 1 = 1))) := by
    intro p' hp'
    rw [wf_wr _ _ _ hp hw (by decide), if_neg (by omega)]
    by_cases hc : wf r w 1 = 1 ∧ bitAt (wf r w 2) p = false
    · rw [if_pos ⟨hc.1, hc.2, rfl, rfl⟩, g2, hor, bitN mm hm8 p' hp', hbits p' hp', bitN s hs8 p' hp']
      simp [hc.1]
    · rw [if_neg (fun z => hc ⟨z.1, z.2.1⟩)]
      by_cases e : p' = p ∧ wf r w 1 = 1
      · obtain ⟨rfl, e2⟩ := e
        have : bitAt (wf r w 2) p' = true := by
          cases hb : bitAt (wf r w 2) p'
          · exact absurd ⟨e2, hb⟩ hc
          · rfl
        simp [this]
      · have : (decide (p' = p) && decide (wf r w 1 = 1)) = false := by
          rw [Bool.and_eq_false_iff]
          by_cases e3 : p' = p
          · exact Or.inr (by simp; exact fun z => e ⟨e3, z⟩)
          · exact Or.inl (by simp [e3])
        rw [this, Bool.or_false]
  have lkO : ∀ w' p', w' < 4 → w' ≠ w → lk (wrR r w p x v) w' p' = lk r w' p' := fun w' p' hw' hne => lk_of (oth w' 1 hw' (by decide) (Or.inl hne)) (oth w' 2 hw' (by decide) (Or.inl hne)) (oth w' 3 hw' (by decide) (Or.inl hne))
  have lkW : ∀ p', p' < 3 → lk (wrR r w p x v) w p' = (lk r w p' || (decide (p' = p) && decide (wf r w 1 = 1))) := by
    intro p' hp'
    unfold lk
    rw [oth w 1 hw (by decide) (by omega), oth w 3 hw (by decide) (by omega), hbit p' hp', hmar, bit0 p' hp']
    by_cases e : wf r w 1 = 1
    · simp [e]
    · simp [e]
  have lkP : ∀ w' p', w' < 4 → p' < 3 → lk r w' p' = true → lk (wrR r w p x v) w' p' = true ∧ a' 17 0 w' p' = a 17 0 w' p' := by
    intro w' p' hw' hp' hl
    by_cases e : w' = w
    · subst e
      rw [lkW p' hp', hl]
      refine ⟨rfl, ?_⟩
      rw [m17 w' p', if_neg]
      rintro ⟨-, z2, -, rfl⟩
      rw [(lk_sp hl).2.1] at z2
      cases z2
    · rw [lkO w' p' hw' e, m17 w' p', if_neg (fun z => e z.2.2.1)]
      exact ⟨hl, rfl⟩
  refine ⟨⟨⟨hRI, ⟨?_, ?_, fun w' hw' => ?_, fun j hj p' hp' => ?_⟩, fun p' hp' => ?_⟩, fun p' hp' => ?_⟩, fun k s w' j hk => ?_, fun p' hp' => ?_⟩
  · rw [mO _ _ _ _ (by omega), wr_at r x v hw hp (by omega), if_neg (by omega)]; exact hP.1
  · rw [mO _ _ _ _ (by omega), wr_at r x v hw hp (by omega), if_neg (by omega)]; exact hP.2.1
  · by_cases e : w' = w
    · subst e
      obtain ⟨q1, q2, q3, q4, q5, q6, q7, q8⟩ := hP.2.2.1 w' hw
      refine ⟨?_, ?_, ?_, ?_, fun p' hp' => ?_, fun p' hp' z => ?_, fun p' hp' => ?_, fun k hk => ?_⟩
      · rw [mO _ _ _ _ (by omega), oth _ _ hw (by decide) (by omega)]; exact q1
      · rw [mO _ _ _ _ (by omega), oth _ _ hw (by decide) (by omega)]; exact q2
      · rw [mO _ _ _ _ (by omega), oth _ _ hw (by decide) (by omega)]; exact q3
      · rw [mO _ _ _ _ (by omega), oth _ _ hw (by decide) (by omega)]; exact q4
      · rw [hbit p' hp', m17 w' p', q5 p' hp']
        by_cases hc : wf r w' 1 = 1 ∧ bitAt (wf r w' 2) p = false ∧ w' = w' ∧ p' = p
        · rw [if_pos hc]
          have : ¬ nI (szN r p) = -1 := nIm1 (by omega)
          simp [this, hc.1, hc.2.2.2]
        · rw [if_neg hc]
          by_cases e2 : p' = p ∧ wf r w' 1 = 1
          · have hb : bitAt (wf r w' 2) p = true := by
              cases hb : bitAt (wf r w' 2) p
              · exact absurd ⟨e2.2, hb, rfl, e2.1⟩ hc
              · rfl
            rw [← e2.1, q5 p' hp'] at hb
            rw [hb]; rfl
          · have : (decide (p' = p) && decide (wf r w' 1 = 1)) = false := by
              rw [Bool.and_eq_false_iff]
              by_cases e3 : p' = p
              · exact Or.inr (by simp; exact fun z => e2 ⟨e3, z⟩)
              · exact Or.inl (by simp [e3])
            rw [this, Bool.or_false]
      · rw [hbit p' hp'] at z
        rw [m17 w' p', wf_wr _ _ _ hp hw (by omega)]
        by_cases hc : wf r w' 1 = 1 ∧ bitAt (wf r w' 2) p = false ∧ w' = w' ∧ p' = p
        · rw [if_pos hc, if_pos ⟨hc.1, hc.2.1, rfl, by omega⟩]
        · rw [if_neg hc, if_neg (fun y => hc ⟨y.1, y.2.1, rfl, by omega⟩), if_neg (by omega)]
          refine q6 p' hp' ?_
          rcases (Bool.or_eq_true _ _).mp z with z | z
          · exact z
          · simp only [Bool.and_eq_true, decide_eq_true_eq] at z
            cases hb : bitAt (wf r w' 2) p'
            · exact absurd ⟨z.2, by rw [← z.1]; exact hb, rfl, z.1⟩ hc
            · rfl
      · rw [mO _ _ _ _ (by omega), oth _ 1 hw (by decide) (by omega), q7 p' hp', if_neg (fun y => hm y.1), if_neg (fun y => hm y.1)]
      · rw [mO _ _ _ _ (by omega), oth _ 1 hw (by decide) (by omega), oth _ (10 + k) hw (by omega) (by omega)]; exact q8 k hk
    · refine PP_of (hP.2.2.1 w' hw') (fun f hf => oth w' f hw' hf (Or.inl e)) (fun k j hk => ?_)
      by_cases e17 : k = 17
      · subst e17
        rw [m17 w' j, if_neg (fun z => e z.2.2.1)]
      · exact mO _ _ _ _ (by omega)
  · rw [mO _ _ _ _ (by omega), mO _ _ _ _ (by omega), wr_at r x v hw hp (by omega), if_neg (by omega), wr_at r x v hw hp (by omega), if_neg (by omega)]
    exact hP.2.2.2 j hj p' hp'
  · by_cases e : p' = p
    · subst e
      obtain ⟨l1, l2, l3, l4, l5, l6, l7⟩ := hL p' hp'
      have hu := (hU p' hp').2
      have q : ∀ k, k < szN r p' → a' 10 0 p' k = a 10 0 p' k ∧ a' 11 0 p' k = a 11 0 p' k ∧ a' 12 0 p' k = a 12 0 p' k ∧ a' 13 0 p' k = a 13 0 p' k ∧ a' 14 0 p' k = a 14 0 p' k ∧ a' 15 0 p' k = a 15 0 p' k := fun k hk => ⟨mO _ _ _ _ (by omega), mO _ _ _ _ (by omega), mO _ _ _ _ (by omega), mO _ _ _ _ (by omega), mO _ _ _ _ (by omega), mO _ _ _ _ (by omega)⟩
      have ecm : ∀ f, f < szN r p' → cm a' p' (szN r p' + 1) f = cm a p' (szN r p') f := fun f hf => cm_grow hN l4 hu hf (q f hf).2.2.2.2.2
      have ecN : cm a' p' (szN r p' + 1) (szN r p') = none := by unfold cm; rw [if_pos n15]
      -- the deed's first position
      have hf : (wf r w 1 = 0 ∧ f1 = -1) ∨ (wf r w 1 = 1 ∧ f1 = nI (szN r p') ∧ lk r w p' = false) ∨ (wf r w 1 = 1 ∧ lk r w p' = true ∧ ∃ f, f < szN r p' ∧ f1 = nI f ∧ ¬ a 12 0 p' f = -1 ∧ a 14 0 p' f = nI f ∧ a 10 0 p' f = nI w ∧ cm a p' (szN r p') f = none) := by
        rw [hf1', m17 w p']
        rcases g1 with z | z | z
        · refine Or.inl ⟨z, ?_⟩
          rw [if_neg (fun y => by rw [z] at y; exact absurd y.1 (by decide))]
          have hb := (hP.2.2.1 w hw).2.2.2.2.1 p' hp
          rw [g6 z, bit0 p' hp] at hb
          simpa using hb.symm
        · refine Or.inr ?_
          cases hb : bitAt (wf r w 2) p'
          · exact Or.inl ⟨z, by rw [if_pos ⟨z, rfl, rfl, rfl⟩], by simp [lk, hb]⟩
          · have hl : lk r w p' = true := by simp [lk, hb, z, hmar, bit0 p' hp]
            obtain ⟨f, y1, y2, y3⟩ := l7 w hw hl
            exact Or.inr ⟨z, hl, f, y1, by rw [if_neg (fun y => by cases y.2.1)]; exact y2, y3⟩
        · exact absurd z hm
      unfold PL
      rw [hsz p' hp', if_pos rfl]
      refine ⟨fun k hk => ?_, fun k hk z1 z2 => ?_, fun k hk z1 => ?_, fun k hk => ?_, fun f hf' z1 z2 m hm' z3 => ?_, fun k hk z1 f hf' z2 z3 => ?_, fun w' hw' hl => ?_⟩
      · by_cases ek : k = szN r p'
        · subst ek
          have cE : ∀ f, f < 6 → ce (wrR r w p' x v) p' (szN r p') f = (if f = 0 then 0 else if f = 1 then nI w else if f = 2 then wf r w 0 else if f = 3 then x else if f = 4 then v else (if wf r w 1 = 1 then 1 else 0)) := fun f hf => by rw [ce_wr _ _ _ hw hp hN hN hf, if_pos ⟨rfl, rfl⟩]
          refine ⟨by rw [cE 0 (by decide), n12, if_neg hx]; rfl, by rw [cE 1 (by decide), n10]; rfl, by rw [cE 2 (by decide), n11]; rfl, by rw [cE 3 (by decide), n12]; rfl, by rw [cE 4 (by decide), n13]; rfl, ?_⟩
          rw [cE 5 (by decide), n12, if_neg hx, if_neg (by decide), if_neg (by decide), if_neg (by decide), if_neg (by decide), if_neg (by decide)]
          unfold fate
          rw [n14]
          rcases hf with ⟨y1, y2⟩ | ⟨y1, y2, y3⟩ | ⟨y1, y2, f, y3, y4, y5, y6, y7, y8⟩
          · rw [if_pos y2, if_neg (by rw [y1]; decide)]
          · rw [y2, if_neg (nIm1 (by omega)), nI_clamp (by omega), ecN, if_pos y1]
          · rw [y4, if_neg (nIm1 (by omega)), nI_clamp (by omega), ecm f y3, y8, if_pos y1]
        · have hk2 : k < szN r p' := by omega
          obtain ⟨e0, e1, e2, e3, e4, e5⟩ := q k hk2
          have cE : ∀ f, f < 6 → ce (wrR r w p' x v) p' k f = ce r p' k f := fun f hf => by rw [ce_wr _ _ _ hw hp hN (by omega) hf, if_neg (fun z => ek z.2)]
          rw [cE 0 (by decide), cE 1 (by decide), cE 2 (by decide), cE 3 (by decide), cE 4 (by decide), cE 5 (by decide), e0, e1, e2, e3, e4]
          obtain ⟨c0, c1, c2, c3, c4, c5⟩ := l1 k hk2
          refine ⟨c0, c1, c2, c3, c4, ?_⟩
          rw [c5]
          by_cases hmk : a 12 0 p' k = -1
          · rw [if_pos hmk, if_pos hmk]
          · rw [if_neg hmk, if_neg hmk, fate_grow hN l2 l4 hu hk2 hmk (fun k hk => (q k hk).2.2.2)]
      · by_cases ek : k = szN r p'
        · subst ek
          rw [n14] at z2
          rw [n14, n10]
          rcases hf with ⟨y1, y2⟩ | ⟨y1, y2, y3⟩ | ⟨y1, y2, f, y3, y4, y5, y6, y7, y8⟩
          · exact absurd y2 z2
          · exact ⟨szN r p', Nat.le_refl _, y2, by rw [n14]; exact y2, by rw [n12]; exact hx, n10⟩
          · obtain ⟨e0, e1, e2, e3, e4, e5⟩ := q f y3
            exact ⟨f, by omega, y4, by rw [e4]; exact y6, by rw [e2]; exact y5, by rw [e0]; exact y7⟩
        · obtain ⟨e0, e1, e2, e3, e4, e5⟩ := q k (by omega)
          rw [e2] at z1
          rw [e4] at z2
          obtain ⟨f, f1, f2, f3, f4, f5⟩ := l2 k (by omega) z1 z2
          obtain ⟨d0, d1, d2, d3, d4, d5⟩ := q f (by omega)
          exact ⟨f, f1, by rw [e4]; exact f2, by rw [d4]; exact f3, by rw [d2]; exact f4, by rw [d0, e0]; exact f5⟩
      · by_cases ek : k = szN r p'
        · subst ek
          rw [n12] at z1
          exact absurd z1 hx
        · obtain ⟨e0, e1, e2, e3, e4, e5⟩ := q k (by omega)
          rw [e2] at z1
          obtain ⟨f, f1, f2, f3, f4, f5, f6, f7⟩ := l3 k (by omega) z1
          obtain ⟨d0, d1, d2, d3, d4, d5⟩ := q f (by omega)
          exact ⟨f, f1, by rw [e4]; exact f2, by rw [d4]; exact f3, by rw [d2]; exact f4, by rw [d5]; exact f5, by rw [e3]; exact f6, by rw [d0, e0]; exact f7⟩
      · by_cases ek : k = szN r p'
        · subst ek; exact Or.inl n15
        · rw [(q k (by omega)).2.2.2.2.2]; exact l4 k (by omega)
      · by_cases ek : f = szN r p'
        · subst ek
          rw [n15] at z3
          exact absurd z3.symm (nIm1 (by omega))
        · obtain ⟨e0, e1, e2, e3, e4, e5⟩ := q f (by omega)
          rw [e2] at z1
          rw [e4] at z2
          rw [e5] at z3
          have hmN := hu f (by omega) m (by omega) z3
          obtain ⟨d0, d1, d2, d3, d4, d5⟩ := q m hmN
          rw [d2, d4]
          exact l5 f (by omega) z1 z2 m hmN z3
      · by_cases ek : k = szN r p'
        · subst ek
          rw [n14] at z2
          refine ⟨w, hw, n10, ?_, by rw [← hf1']; exact z2⟩
          rw [lkW p' hp]
          rcases hf with ⟨y1, y2⟩ | ⟨y1, y2, y3⟩ | ⟨y1, y2, f, y3, y4, y5, y6, y7, y8⟩
          · exact absurd (z2.symm.trans y2) (nIm1 (by omega))
          · simp [y1]
          · simp [y1]
        · obtain ⟨e0, e1, e2, e3, e4, e5⟩ := q k (by omega)
          rw [e2] at z1
          rw [e4] at z2
          obtain ⟨f', f1, f2, -⟩ := l2 k (by omega) z1 (by rw [z2]; exact nIm1 (by omega))
          have hff : f' = f := nqI (by omega) (by omega) (f2.symm.trans z2)
          subst hff
          rw [ecm f' (by omega)] at z3
          obtain ⟨w', w1, w2, w3, w4⟩ := l6 k (by omega) z1 f' hf' z2 z3
          obtain ⟨u1, u2⟩ := lkP w' p' w1 hp w3
          exact ⟨w', w1, by rw [e0]; exact w2, u1, by rw [u2]; exact w4⟩
      · cases hl2 : lk r w' p' with
        | true =>
          obtain ⟨f, f1, f2, f3, f4, f5, f6⟩ := l7 w' hw' hl2
          obtain ⟨d0, d1, d2, d3, d4, d5⟩ := q f f1
          exact ⟨f, by omega, by rw [(lkP w' p' hw' hp hl2).2]; exact f2, by rw [d2]; exact f3, by rw [d4]; exact f4, by rw [d0]; exact f5, by rw [ecm f f1]; exact f6⟩
        | false =>
          have ew : w' = w := by
            rcases Decidable.em (w' = w) with z | z
            · exact z
            · rw [lkO w' p' hw' z, hl2] at hl; cases hl
          subst ew
          rcases hf with ⟨y1, y2⟩ | ⟨y1, y2, y3⟩ | ⟨y1, y2, -⟩
          · rw [lkW p' hp, hl2] at hl
            simp [y1] at hl
          · exact ⟨szN r p', by omega, by rw [← hf1']; exact y2, by rw [n12]; exact hx, by rw [n14]; exact y2, n10, ecN⟩
          · rw [hl2] at y2; cases y2
    · refine PL_of (hL p' hp') (by rw [hsz p' hp', if_neg e]) (fun k h1 h2 i => mO _ _ _ _ (by omega)) (fun k hk f hf => ?_) (fun w' hw' z => lkP w' p' hw' hp' z) (fun w' hw' z => ?_)
      · have := hI.le hp'
        rw [ce_wr _ _ _ hw hp hN (by omega) hf, if_neg (fun z => e z.1)]
      · have hl : lk r w' p' = true := by
          by_cases e2 : w' = w
          · subst e2
            rw [lkW p' hp'] at z
            simpa [e] using z
          · rw [lkO w' p' hw' e2] at z; exact z
        exact ⟨hl, (lkP w' p' hw' hp' hl).2⟩
  · rw [e66 p' hp', hsz p' hp']
    by_cases e : p' = p
    · subst e
      rw [if_pos rfl]
      refine ⟨n1, fun k hk m hm' z => ?_⟩
      by_cases e2 : k = szN r p'
      · subst e2
        rw [n15] at z
        exact absurd z.symm (nIm1 (by omega))
      · rw [mO _ _ _ _ (by omega)] at z
        have := (hU p' hp').2 k (by omega) m hm' z
        omega
    · rw [if_neg e, mO _ _ _ _ (by omega)]
      refine ⟨(hU p' hp').1.trans (hI.1 p' hp').1, fun k hk m hm' z => ?_⟩
      rw [mO _ _ _ _ (by omega)] at z
      exact (hU p' hp').2 k hk m hm' z
  · exact mO _ _ _ _ (by omega)
  · rw [hsz p' hp']
    refine ⟨by split <;> omega, fun k hk => ?_⟩
    have hne : ∀ q, 10 ≤ q → q ≤ 15 → a' q 0 p' k = a q 0 p' k := by
      intro q h1 h2
      refine mO _ _ _ _ ?_
      by_cases e : p' = p
      · subst e; omega
      · omega
    exact ⟨hne 10 (by decide) (by decide), hne 11 (by decide) (by decide), hne 12 (by decide) (by decide), hne 13 (by decide) (by decide), hne 14 (by decide) (by decide), Or.inl (hne 15 (by decide) (by decide))⟩
theorem twN_in (P : Nat → Bool) (nb : Nat → Int32) (x : Int32) : ∀ (e met : Nat), twN P nb x met e = -1 ∨ ∃ k, k < e ∧ twN P nb x met e = nI k
  | 0, _ => Or.inl rfl
  | e + 1, met => by
    have e1 : twN P nb x met (e + 1) = if 3 ≤ met then -1 else if P e then (if nb e = x then nI e else twN P nb x (met + 1) e) else twN P nb x met e := by rw [twN]
    rw [e1]
    split
    · exact Or.inl rfl
    · split
      · split
        · exact Or.inr ⟨e, by omega, rfl⟩
        · exact (twN_in P nb x e (met + 1)).imp id (fun ⟨k, k1, k2⟩ => ⟨k, by omega, k2⟩)
      · exact (twN_in P nb x e met).imp id (fun ⟨k, k1, k2⟩ => ⟨k, by omega, k2⟩)
theorem tw_neg {w p : Nat} {x : Int32} (hz : szN r p ≤ 48) : twR r w p x < 0 ↔ twR r w p x = -1 := by
  rcases twN_in (rec r w p) (fun k => ce r p k 3) x (szN r p) 0 with e | ⟨k, k1, k2⟩
  · have e : twR r w p x = -1 := e
    rw [e]; decide
  · have e : twR r w p x = nI k := k2
    rw [e]
    exact ⟨fun z => absurd z (nI_pos (by omega)), fun z => absurd z (nIm1 (by omega))⟩
end
section
variable {a b : xA} {h0 : Int64} {r : Row} {T q : Nat} {R : Nat → Row}
theorem cC_sends {Q : Int32 → xM → Prop} {x y p n v : Int32} (hT : T < 2 ^ 30) (h : CR a r T) (hK : KC a q R r T) (hq : ∀ a', AP a q R r T (oSends r x y p n v) a' → Q (oSends r x y p n v).1 (a', (b, h0))) : CI mX5_sends [vR 5 0 0, vI x, vI y, vI p, vI n, vI v] (a, (b, h0)) Q := by
  refine eX5_sends (cC_wrongAge (CR_P h) (fun z => ⟨fun _ => cF2 hq (by rw [oSends, if_pos (Or.inl z)]), fun q => absurd q (by decide)⟩) (fun w hw e hb => ⟨fun q => absurd rfl q, fun _ => ?_⟩))
  refine cC_out (n := 2) (by decide) (fun z => ⟨fun _ => cF2 hq (by rw [oSends, if_pos (Or.inr (Or.inl (show p < 0 ∨ 2 < p from z)))]), fun q => absurd q (by decide)⟩) (fun p' hp ep => ⟨fun q => absurd rfl q, fun _ => ?_⟩)
  refine cC_out (n := 99) (by decide) (fun z => ⟨fun _ => cF2 hq (by rw [oSends, if_pos (Or.inr (Or.inr (Or.inl (show n < 0 ∨ 99 < n from z))))]), fun q => absurd q (by decide)⟩) (fun n' hn en => ⟨fun q => absurd rfl q, fun _ => ?_⟩)
  refine cC_out (n := 99) (by decide) (fun z => ⟨fun q => absurd q (by decide), fun _ => cF2 hq (by rw [oSends, if_pos (Or.inr (Or.inr (Or.inr (show v < 0 ∨ 99 < v from z))))])⟩) (fun v' hv ev => ⟨fun _ => ?_, fun q => absurd rfl q⟩)
  subst e; subst ep
  have hp3 : p' < 3 := by omega
  have hb2 : ¬ badSend r (nI w) y (nI p') n v := by
    rintro (z | z | z | z)
    · exact hb z
    · exact nI2 (by omega) z
    · rw [en] at z; exact notIn (n := 99) (by decide) hn z
    · rw [ev] at z; exact notIn (n := 99) (by decide) hv z
  obtain ⟨q1, q2, -⟩ := CR_w h hw
  have ew : (nI w).toNatClampNeg = w := nI_clamp (by omega)
  have ep : (nI p').toNatClampNeg = p' := nI_clamp (by omega)
  refine ⟨vp_in_nI hw (by decide), ?_⟩
  dsimp only
  rw [ew, q1, q2]
  refine ⟨fun u => ⟨fun m => ⟨vp_in_nI hp3 (by decide), ?_⟩, fun m => cF3 hq (by rw [oSends, if_neg hb2, ew, if_pos u, if_pos m])⟩, fun u => cF6 hq (by rw [oSends, if_neg hb2, ew, if_neg u])⟩
  rw [ep]
  have hL := CR_LG h hp3
  have hz := hL.sz
  have ey : y = wf r w 0 := by
    have : ¬ wf r w 0 < y := fun z => hb (Or.inr (Or.inr (by rw [ew]; exact z)))
    exact Int32.le_antisymm (Int32.not_lt.mp this) u
  refine cC_twinOf hL rfl ey ⟨fun t => ?_, fun t => cN5 hq (by rw [oSends, if_neg hb2, ew, ep, if_pos u, if_neg m, if_neg (fun z => t ((tw_neg hz).mp z))])⟩
  have t' := (tw_neg hz).mpr t
  refine cC_numberDue hL rfl ey ⟨fun d => ?_, fun d => cF7 hq (by rw [oSends, if_neg hb2, ew, ep, if_pos u, if_neg m, if_pos t', if_neg d])⟩
  refine cC_reserve h.1.1 (CR_P h) hT rfl hp3 ?_
  dsimp only
  rw [(h.2 p' hp3).1]
  refine ⟨fun f => ?_, fun f => cF4 hq (by rw [oSends, if_neg hb2, ew, ep, if_pos u, if_neg m, if_pos t', if_pos d, if_neg f])⟩
  have hs : szN r p' + owN r p' < 48 := by
    have hc : owN r p' ≤ 4 := cN_le _ _ _
    rw [(h.1.1.1 p' hp3).1, nI_add] at f
    exact (nI_ltI (by omega) (by decide)).mp f
  have hx : ¬ n = -1 := by rw [en]; exact nIm1 (by omega)
  refine cC_keep h hK (fun a1 c1 k1 f1 => ?_)
  obtain ⟨c2, f2⟩ := wr_CR (w := w) (p := p') (x := n) (v := v) c1 hw hp3 m hs hx
  have go : ∀ f0, f0 = s1M a1 r w p' 17 0 w p' → CI mX1_append [vR 1 0 p', vI (nI w), vI y, vI n, vI v, vI f0] (s1M a1 r w p', (b, h0)) Q := by
    intro f0 e
    subst e
    refine cC_append hp3 (N := szN r p') (by rw [s1M_ne _ (by omega)]; exact (CR_LG c1 hp3).len) (by omega) ?_
    rw [ey]
    exact cK6 hq (by rw [oSends, if_neg hb2, ew, ep, if_pos u, if_neg m, if_pos t', if_pos d, if_pos f]) h.1.1 k1 f1 c2 f2
  have q2' : a1 2 0 w 1 = wf r w 1 := (CR_w c1 hw).2.1
  have hp' : vp_in (nI p') 3 := vp_in_nI hp3 (by decide)
  dsimp only
  rw [q2', (CR_LG c1 hp3).len]
  refine ⟨fun m1 => ⟨hp', ?_⟩, fun m1 => ⟨hp', fun z => ⟨hp', ?_⟩, fun z => ⟨hp', hp', ?_⟩⟩⟩
  · have e : s1M a1 r w p' = a1 := by unfold s1M; rw [if_neg (fun y => m1 y.1)]
    rw [e] at go
    exact go _ rfl
  · have e : s1M a1 r w p' = a1 := by unfold s1M; rw [if_neg (fun y => z y.2)]
    rw [e] at go
    exact go _ rfl
  · have e : s1M a1 r w p' = xUp a1 17 0 w p' (nI (szN r p')) := by unfold s1M; rw [if_pos ⟨m1, z⟩]
    rw [e] at go
    exact go _ rfl
end
