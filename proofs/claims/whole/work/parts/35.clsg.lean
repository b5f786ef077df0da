/-! keeping: a state's cells copied to another's -/
def cpP (a : xA) (s0 s1 n : Nat) : xA := fun k s w i => if s = s0 ∧ w < n ∧ ((k = 2 ∧ i < 4) ∨ (k = 17 ∧ i < 3) ∨ (k = 18 ∧ i < 3) ∨ (k = 19 ∧ i < 6)) then a k s1 w i else a k s w i
def cpC (a : xA) (s0 s1 n : Nat) : xA := fun k s w i => if s = s0 ∧ w < n ∧ ((k = 20 ∧ i < 3) ∨ (k = 21 ∧ i < 3)) then a k s1 w i else a k s w i
def cpT (a : xA) (s0 s1 : Nat) : xA := fun k s w i => if s = s0 ∧ w = 0 ∧ ((k = 4 ∧ i < 2) ∨ (k = 16 ∧ i < 3)) then a k s1 w i else a k s w i
def cpS (a : xA) (s0 s1 : Nat) : xA := cpC (cpP (cpT a s0 s1) s0 s1 4) s0 s1 2
section
variable {a b : xA} {h0 : Int64}
theorem cC_pcopy {Q : xM → Prop} {s0 s1 w : Nat} (hs0 : s0 < 7) (hs1 : s1 < 7) (hne : s1 ≠ s0) (hw : w < 4) (hq : Q (cpP a s0 s1 (w + 1), (b, h0))) : CV mX2_copy [vR 2 s0 w, vR 2 s1 w] (cpP a s0 s1 w, (b, h0)) Q := by
  refine eX2_copy hs0 hw hs1 hw ?_
  have e : ∀ c : xA, (xCp (xCp (xCp (xUp (xUp (xUp (xUp c 2 s0 w 0 (c 2 s1 w 0)) 2 s0 w 1 ((xUp c 2 s0 w 0 (c 2 s1 w 0)) 2 s1 w 1)) 2 s0 w 2 ((xUp (xUp c 2 s0 w 0 (c 2 s1 w 0)) 2 s0 w 1 ((xUp c 2 s0 w 0 (c 2 s1 w 0)) 2 s1 w 1)) 2 s1 w 2)) 2 s0 w 3 ((xUp (xUp (xUp c 2 s0 w 0 (c 2 s1 w 0)) 2 s0 w 1 ((xUp c 2 s0 w 0 (c 2 s1 w 0)) 2 s1 w 1)) 2 s0 w 2 ((xUp (xUp c 2 s0 w 0 (c 2 s1 w 0)) 2 s0 w 1 ((xUp c 2 s0 w 0 (c 2 s1 w 0)) 2 s1 w 1)) 2 s1 w 2)) 2 s1 w 3)) 17 s1 w 17 s0 w 3) 18 s1 w 18 s0 w 3) 19 s1 w 19 s0 w 6) = fun k s w' i => if s = s0 ∧ w' = w ∧ ((k = 2 ∧ i < 4) ∨ (k = 17 ∧ i < 3) ∨ (k = 18 ∧ i < 3) ∨ (k = 19 ∧ i < 6)) then c k s1 w' i else c k s w' i := by
    intro c
    funext k s w' i
    unfold xCp xUp
    by_cases h : s = s0 ∧ w' = w
    · obtain ⟨rfl, rfl⟩ := h
      by_cases k2 : k = 2
      · subst k2
        have hi : i = 0 ∨ i = 1 ∨ i = 2 ∨ i = 3 ∨ 4 ≤ i := by omega
        rcases hi with rfl | rfl | rfl | rfl | hi
        · simp [hne]
        · simp [hne]
        · simp [hne]
        · simp [hne]
        · have a0 : ¬ i = 0 := by omega
          have a1 : ¬ i = 1 := by omega
          have a2 : ¬ i = 2 := by omega
          have a3 : ¬ i = 3 := by omega
          have a4 : ¬ i < 4 := by omega
          simp [a0, a1, a2, a3, a4]
      · by_cases k17 : k = 17
        · subst k17; simp [hne]
        · by_cases k18 : k = 18
          · subst k18; simp [hne]
          · by_cases k19 : k = 19
            · subst k19; simp [hne]
            · simp [k2, k17, k18, k19]
    · have h2 : ∀ P : Prop, ¬ (s = s0 ∧ w' = w ∧ P) := fun P z => h ⟨z.1, z.2.1⟩
      have h3 : ∀ (q : Nat) (P : Prop), ¬ (k = q ∧ s = s0 ∧ w' = w ∧ P) := fun q P z => h ⟨z.2.1, z.2.2.1⟩
      rw [if_neg (h3 _ _), if_neg (h3 _ _), if_neg (h3 _ _), if_neg (h3 _ _), if_neg (h3 _ _), if_neg (h3 _ _), if_neg (h3 _ _), if_neg (h2 _)]
  rw [e]
  have e2 : (fun k s w' i => if s = s0 ∧ w' = w ∧ ((k = 2 ∧ i < 4) ∨ (k = 17 ∧ i < 3) ∨ (k = 18 ∧ i < 3) ∨ (k = 19 ∧ i < 6)) then cpP a s0 s1 w k s1 w' i else cpP a s0 s1 w k s w' i) = cpP a s0 s1 (w + 1) := by
    funext k s w' i
    have e3 : cpP a s0 s1 w k s1 w' i = a k s1 w' i := by unfold cpP; rw [if_neg (fun z => hne z.1)]
    rw [e3]
    unfold cpP
    by_cases h : s = s0 ∧ ((k = 2 ∧ i < 4) ∨ (k = 17 ∧ i < 3) ∨ (k = 18 ∧ i < 3) ∨ (k = 19 ∧ i < 6))
    · obtain ⟨rfl, hP⟩ := h
      by_cases h1 : w' = w
      · rw [if_pos ⟨rfl, h1, hP⟩, if_pos ⟨rfl, by omega, hP⟩]
      · by_cases h2 : w' < w
        · rw [if_neg (fun z => h1 z.2.1), if_pos ⟨rfl, h2, hP⟩, if_pos ⟨rfl, by omega, hP⟩]
        · rw [if_neg (fun z => h1 z.2.1), if_neg (fun z => h2 z.2.1), if_neg (fun z => by omega)]
    · rw [if_neg (fun z => h ⟨z.1, z.2.2⟩), if_neg (fun z => h ⟨z.1, z.2.2⟩), if_neg (fun z => h ⟨z.1, z.2.2⟩)]
  rw [e2]
  exact hq
theorem cC_ccopy {Q : xM → Prop} {s0 s1 w : Nat} (hs0 : s0 < 7) (hs1 : s1 < 7) (hne : s1 ≠ s0) (hw : w < 2) (hq : Q (cpC a s0 s1 (w + 1), (b, h0))) : CV mX0_copy [vR 0 s0 w, vR 0 s1 w] (cpC a s0 s1 w, (b, h0)) Q := by
  refine eX0_copy hs0 hw hs1 hw ?_
  have e2 : xCp (xCp (cpC a s0 s1 w) 20 s1 w 20 s0 w 3) 21 s1 w 21 s0 w 3 = cpC a s0 s1 (w + 1) := by
    funext k s w' i
    have e3 : ∀ k w' i, cpC a s0 s1 w k s1 w' i = a k s1 w' i := fun k w' i => by unfold cpC; rw [if_neg (fun z => hne z.1)]
    unfold xCp
    rw [e3, e3]
    unfold cpC
    by_cases h : s = s0 ∧ i < 3 ∧ (k = 20 ∨ k = 21)
    · obtain ⟨rfl, hi, hk⟩ := h
      by_cases h1 : w' = w
      · subst h1
        rcases hk with rfl | rfl
        · simp [hi, hne]
        · simp [hi, hne]
      · by_cases h2 : w' < w
        · have h3 : w' < w + 1 := by omega
          rcases hk with rfl | rfl <;> simp [hi, h1, h2, h3]
        · have h3 : ¬ w' < w + 1 := by omega
          rcases hk with rfl | rfl <;> simp [h1, h2, h3]
    · rw [if_neg (fun z => h ⟨z.2.1, z.2.2.2, Or.inr z.1⟩), if_neg (fun z => h ⟨z.2.1, z.2.2.2, Or.inl z.1⟩), if_neg (fun z => h ⟨z.1, by omega, by omega⟩), if_neg (fun z => h ⟨z.1, by omega, by omega⟩)]
  rw [e2]
  exact hq
theorem cC_scopy {Q : xM → Prop} {s0 s1 : Nat} (hs0 : s0 < 7) (hs1 : s1 < 7) (hne : s1 ≠ s0) (hq : Q (cpS a s0 s1, (b, h0))) : CV mX4_copy [vR 4 s0 0, vR 4 s1 0] (a, (b, h0)) Q := by
  have e0 : xCp (xUp (xUp a 4 s0 0 0 (a 4 s1 0 0)) 4 s0 0 1 ((xUp a 4 s0 0 0 (a 4 s1 0 0)) 4 s1 0 1)) 16 s1 0 16 s0 0 3 = cpT a s0 s1 := by
    funext k s w i
    unfold xCp xUp cpT
    by_cases h : s = s0 ∧ w = 0
    · obtain ⟨rfl, rfl⟩ := h
      by_cases k4 : k = 4
      · subst k4
        have hi : i = 0 ∨ i = 1 ∨ 2 ≤ i := by omega
        rcases hi with rfl | rfl | hi
        · simp [hne]
        · simp [hne]
        · have a0 : ¬ i = 0 := by omega
          have a1 : ¬ i = 1 := by omega
          have a2 : ¬ i < 2 := by omega
          simp [a0, a1, a2]
      · by_cases k16 : k = 16
        · subst k16; simp [hne]
        · simp [k4, k16]
    · have h2 : ∀ P : Prop, ¬ (s = s0 ∧ w = 0 ∧ P) := fun P z => h ⟨z.1, z.2.1⟩
      have h3 : ∀ (q : Nat) (P : Prop), ¬ (k = q ∧ s = s0 ∧ w = 0 ∧ P) := fun q P z => h ⟨z.2.1, z.2.2.1⟩
      rw [if_neg (h3 _ _), if_neg (h3 _ _), if_neg (h3 _ _), if_neg (h2 _)]
  have p0 : ∀ c : xA, cpP c s0 s1 0 = c := fun c => by funext k s w i; unfold cpP; rw [if_neg (fun z => absurd z.2.1 (Nat.not_lt_zero _))]
  have c0 : ∀ c : xA, cpC c s0 s1 0 = c := fun c => by funext k s w i; unfold cpC; rw [if_neg (fun z => absurd z.2.1 (Nat.not_lt_zero _))]
  have k2 : ∀ m n, n + m = 2 → xOk mX4_copy 60 [(0, vR 4 s0 0), (1, vR 4 s1 0), (2, vI (nI n))] [] (cpC (cpP (cpT a s0 s1) s0 s1 4) s0 s1 n, (b, h0)) (qV Q) := by
    intro m
    induction m with
    | zero =>
      intro n hn
      have hn : n = 2 := hn
      subst hn
      exact rX4_copy_60 hs0 hs1 ⟨fun _ => hq, fun z => absurd (by decide) z⟩
    | succ m ih =>
      intro n hn
      refine rX4_copy_60 hs0 hs1 ⟨fun z => absurd z (n2 (by omega)), fun _ => ⟨vp_in_nI (by omega) (by decide), vp_in_nI (by omega) (by decide), ?_⟩⟩
      rw [nI_1, nI_clamp (by omega)]
      exact cC_ccopy hs0 hs1 hne (by omega) (ih (n + 1) (by omega))
  have k1 : ∀ m n, n + m = 4 → xOk mX4_copy 32 [(0, vR 4 s0 0), (1, vR 4 s1 0), (2, vI (nI n))] [] (cpP (cpT a s0 s1) s0 s1 n, (b, h0)) (qV Q) := by
    intro m
    induction m with
    | zero =>
      intro n hn
      have hn : n = 4 := hn
      subst hn
      have h := k2 2 0 rfl
      rw [c0] at h
      exact rX4_copy_32 hs0 hs1 ⟨fun _ => h, fun z => absurd (by decide) z⟩
    | succ m ih =>
      intro n hn
      refine rX4_copy_32 hs0 hs1 ⟨fun z => absurd z (n4 (by omega)), fun _ => ⟨vp_in_nI (by omega) (by decide), vp_in_nI (by omega) (by decide), ?_⟩⟩
      rw [nI_1, nI_clamp (by omega)]
      exact cC_pcopy hs0 hs1 hne (by omega) (ih (n + 1) (by omega))
  refine eX4_copy hs0 hs1 ?_
  rw [e0]
  have h := k1 4 0 rfl
  rw [p0] at h
  exact h
/-- what cpS leaves -/
theorem cpS_ne {s0 s1 k s w i : Nat} (h : s ≠ s0 ∨ ¬ (k = 4 ∨ k = 16 ∨ k = 2 ∨ k = 17 ∨ k = 18 ∨ k = 19 ∨ k = 20 ∨ k = 21)) : cpS a s0 s1 k s w i = a k s w i := by
  unfold cpS cpC
  rw [if_neg (by omega)]
  unfold cpP
  rw [if_neg (by omega)]
  unfold cpT
  rw [if_neg (by omega)]
theorem cpS_eq {s0 s1 k w i : Nat} (hne : s1 ≠ s0) (h : (w < 4 ∧ ((k = 2 ∧ i < 4) ∨ (k = 17 ∧ i < 3) ∨ (k = 18 ∧ i < 3) ∨ (k = 19 ∧ i < 6))) ∨ (w < 2 ∧ ((k = 20 ∧ i < 3) ∨ (k = 21 ∧ i < 3))) ∨ (w = 0 ∧ ((k = 4 ∧ i < 2) ∨ (k = 16 ∧ i < 3)))) : cpS a s0 s1 k s0 w i = a k s1 w i := by
  unfold cpS
  rcases h with h | h | h
  · unfold cpC
    rw [if_neg (by omega)]
    unfold cpP
    rw [if_pos ⟨rfl, h⟩]
    unfold cpT
    rw [if_neg (fun z => hne z.1)]
  · unfold cpC
    rw [if_pos ⟨rfl, h⟩]
    unfold cpP
    rw [if_neg (fun z => hne z.1)]
    unfold cpT
    rw [if_neg (fun z => hne z.1)]
  · unfold cpC
    rw [if_neg (by omega)]
    unfold cpP
    rw [if_neg (by omega)]
    unfold cpT
    rw [if_pos ⟨rfl, h⟩]
/-- a copied state is related as the one that it was copied from -/
theorem PS_copy {s0 s1 : Nat} {r : Row} (hne : s1 ≠ s0) (hP : PS a s1 r) : PS (cpS a s0 s1) s0 r := by
  obtain ⟨p1, p2, p3, p4⟩ := hP
  refine ⟨by rw [cpS_eq hne (by omega)]; exact p1, by rw [cpS_eq hne (by omega)]; exact p2, fun w hw => ?_, fun j hj p hp => by rw [cpS_eq hne (by omega), cpS_eq hne (by omega)]; exact p4 j hj p hp⟩
  obtain ⟨q1, q2, q3, q4, q5, q6, q7, q8⟩ := p3 w hw
  exact ⟨by rw [cpS_eq hne (by omega)]; exact q1, by rw [cpS_eq hne (by omega)]; exact q2, by rw [cpS_eq hne (by omega)]; exact q3, by rw [cpS_eq hne (by omega)]; exact q4, fun p hp => by rw [cpS_eq hne (by omega)]; exact q5 p hp, fun p hp z => by rw [cpS_eq hne (by omega)]; exact q6 p hp z, fun p hp => by rw [cpS_eq hne (by omega)]; exact q7 p hp, fun k hk => by rw [cpS_eq hne (by omega)]; exact q8 k hk⟩
end
