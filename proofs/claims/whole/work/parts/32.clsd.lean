/-! the class's changes -/
/-- the present state and the row -/
def CR (a : xA) (r : Row) (T : Nat) : Prop := RelS a 0 r T ∧ CU a r
/-- what a change of the present state leaves alone -/
def Fr (a a' : xA) (r r' : Row) : Prop := (∀ k s w j, (s ≠ 0 ∨ k = 3 ∨ k = 5 ∨ k = 16 ∨ k = 22 ∨ k = 23 ∨ k = 24 ∨ k = 25) → a' k s w j = a k s w j) ∧ ∀ p, p < 3 → szN r p ≤ szN r' p ∧ LE a a' p (szN r p)
theorem Fr.rfl' {a : xA} {r : Row} : Fr a a r r := ⟨fun _ _ _ _ _ => rfl, fun _ _ => ⟨Nat.le_refl _, LE.rfl'⟩⟩
theorem Fr.trans {a a' a'' : xA} {r r' r'' : Row} (h : Fr a a' r r') (h' : Fr a' a'' r' r'') : Fr a a'' r r'' :=
  ⟨fun k s w j hk => (h'.1 k s w j hk).trans (h.1 k s w j hk), fun p hp => ⟨Nat.le_trans (h.2 p hp).1 (h'.2 p hp).1, (h.2 p hp).2.trans ((h'.2 p hp).2.mono (h.2 p hp).1)⟩⟩
def svM (a : xA) (j w n : Nat) : xA := fun k s w' i => if k = 21 ∧ s = 0 ∧ w' = j ∧ i < n ∧ ¬ a 19 0 w (3 * j + i) = -1 then a 19 0 w (3 * j + i) else a k s w' i
def rsM (a : xA) (w n m : Nat) : xA := fun k s w' i => if k = 2 ∧ s = 0 ∧ w' = w ∧ (i = 1 ∨ i = 2) then 0 else if k = 17 ∧ s = 0 ∧ w' = w ∧ i < n then -1 else if k = 19 ∧ s = 0 ∧ w' = w ∧ i < m then -1 else a k s w' i
theorem svM_s (a : xA) (j w n : Nat) : svM a j w (n + 1) = if a 19 0 w (3 * j + n) = -1 then svM a j w n else xUp (svM a j w n) 21 0 j n (a 19 0 w (3 * j + n)) := by
  funext k s w' i
  by_cases hz : a 19 0 w (3 * j + n) = -1
  · rw [if_pos hz]
    unfold svM
    by_cases e : i = n
    · subst e
      rw [if_neg (fun z => z.2.2.2.2 hz), if_neg (fun z => z.2.2.2.2 hz)]
    · have : i < n + 1 ↔ i < n := by omega
      simp only [this]
  · rw [if_neg hz]
    unfold xUp svM
    by_cases h : k = 21 ∧ s = 0 ∧ w' = j ∧ i = n
    · obtain ⟨rfl, rfl, rfl, rfl⟩ := h
      simp [hz]
    · rw [if_neg h]
      by_cases h2 : k = 21 ∧ s = 0 ∧ w' = j
      · obtain ⟨rfl, rfl, rfl⟩ := h2
        have e : ¬ i = n := fun z => h ⟨rfl, rfl, rfl, z⟩
        have : i < n + 1 ↔ i < n := by omega
        simp only [this]
      · rw [if_neg (fun z => h2 ⟨z.1, z.2.1, z.2.2.1⟩), if_neg (fun z => h2 ⟨z.1, z.2.1, z.2.2.1⟩)]
theorem svM_0 (a : xA) (j w : Nat) : svM a j w 0 = a := by
  funext k s w' i
  unfold svM
  rw [if_neg (fun z => absurd z.2.2.2.1 (Nat.not_lt_zero _))]
section
variable {a b : xA} {h0 : Int64} {r : Row} {T : Nat}
theorem cC_save {Q : xM → Prop} {x : Int32} {j w : Nat} (e : x = nI (3 * j)) (hj : j < 2) (hw : w < 4) (hq : Q (svM a j w 3, (b, h0))) : CV mX0_save [vR 0 0 j, vR 19 0 w, vI x] (a, (b, h0)) Q := by
  subst e
  have key : ∀ m n, n + m = 3 → xOk mX0_save 2 [(0, vR 0 0 j), (1, vR 19 0 w), (2, vI (nI (3 * j))), (3, vI (nI n))] [] (svM a j w n, (b, h0)) (qV Q) := by
    intro m
    induction m with
    | zero =>
      intro n hn
      have hn : n = 3 := hn
      subst hn
      exact rX0_save_2 (by decide) hj (by decide) hw ⟨fun _ => hq, fun z => absurd (by decide) z⟩
    | succ m ih =>
      intro n hn
      have e19 : ∀ i, svM a j w n 19 0 w i = a 19 0 w i := fun i => by unfold svM; rw [if_neg (by omega)]
      refine rX0_save_2 (by decide) hj (by decide) hw ⟨fun z => absurd z (n3 (by omega)), fun _ => ?_⟩
      have ih := ih (n + 1) (by omega)
      rw [svM_s] at ih
      rw [nI_add, nI_1, nI_clamp (by omega), nI_clamp (by omega), e19]
      refine ⟨vp_in_nI (by omega) (by decide), fun z => ?_, fun z => ⟨vp_in_nI (by omega) (by decide), vp_in_nI (by omega) (by decide), ?_⟩⟩
      · rw [if_pos z] at ih; exact ih
      · rw [if_neg z] at ih; exact ih
  have h := key 3 0 rfl
  rw [svM_0] at h
  exact eX0_save (by decide) hj (by decide) hw h
theorem cC_rest {Q : xM → Prop} {w : Nat} (hw : w < 4) (hq : Q (rsM a w 3 6, (b, h0))) : CV mX2_rest [vR 2 0 w] (a, (b, h0)) Q := by
  have e0 : xUp (xUp a 2 0 w 1 0) 2 0 w 2 0 = rsM a w 0 0 := by
    funext k s w' i
    unfold xUp rsM
    by_cases h : k = 2 ∧ s = 0 ∧ w' = w
    · obtain ⟨rfl, rfl, rfl⟩ := h
      by_cases h2 : i = 2
      · simp [h2]
      · by_cases h1 : i = 1
        · simp [h1]
        · simp [h1, h2]
    · rw [if_neg (fun z => h ⟨z.1, z.2.1, z.2.2.1⟩), if_neg (fun z => h ⟨z.1, z.2.1, z.2.2.1⟩), if_neg (fun z => h ⟨z.1, z.2.1, z.2.2.1⟩), if_neg (fun z => absurd z.2.2.2 (Nat.not_lt_zero _)), if_neg (fun z => absurd z.2.2.2 (Nat.not_lt_zero _))]
  have s17 : ∀ n m, xUp (rsM a w n m) 17 0 w n (-1) = rsM a w (n + 1) m := by
    intro n m
    funext k s w' i
    unfold xUp rsM
    by_cases h : k = 17 ∧ s = 0 ∧ w' = w ∧ i = n
    · obtain ⟨rfl, rfl, rfl, rfl⟩ := h
      simp
    · rw [if_neg h]
      have : (k = 17 ∧ s = 0 ∧ w' = w ∧ i < n + 1) ↔ (k = 17 ∧ s = 0 ∧ w' = w ∧ i < n) := by
        constructor
        · rintro ⟨h1, h2, h3, h4⟩
          have : ¬ i = n := fun z => h ⟨h1, h2, h3, z⟩
          exact ⟨h1, h2, h3, by omega⟩
        · rintro ⟨h1, h2, h3, h4⟩
          exact ⟨h1, h2, h3, by omega⟩
      simp only [this]
  have s19 : ∀ n m, xUp (rsM a w n m) 19 0 w m (-1) = rsM a w n (m + 1) := by
    intro n m
    funext k s w' i
    unfold xUp rsM
    by_cases h : k = 19 ∧ s = 0 ∧ w' = w ∧ i = m
    · obtain ⟨rfl, rfl, rfl, rfl⟩ := h
      simp
    · rw [if_neg h]
      have : (k = 19 ∧ s = 0 ∧ w' = w ∧ i < m + 1) ↔ (k = 19 ∧ s = 0 ∧ w' = w ∧ i < m) := by
        constructor
        · rintro ⟨h1, h2, h3, h4⟩
          have : ¬ i = m := fun z => h ⟨h1, h2, h3, z⟩
          exact ⟨h1, h2, h3, by omega⟩
        · rintro ⟨h1, h2, h3, h4⟩
          exact ⟨h1, h2, h3, by omega⟩
      simp only [this]
  have k2 : ∀ m n, n + m = 6 → xOk mX2_rest 32 [(0, vR 2 0 w), (1, vI (nI n))] [] (rsM a w 3 n, (b, h0)) (qV Q) := by
    intro m
    induction m with
    | zero =>
      intro n hn
      have hn : n = 6 := hn
      subst hn
      exact rX2_rest_32 (by decide) hw ⟨fun _ => hq, fun z => absurd (by decide) z⟩
    | succ m ih =>
      intro n hn
      refine rX2_rest_32 (by decide) hw ⟨fun z => absurd z (n6 (by omega)), fun _ => ⟨vp_in_nI (by omega) (by decide), ?_⟩⟩
      rw [nI_1, nI_clamp (by omega), s19]
      exact ih (n + 1) (by omega)
  have k1 : ∀ m n, n + m = 3 → xOk mX2_rest 12 [(0, vR 2 0 w), (1, vI (nI n))] [] (rsM a w n 0, (b, h0)) (qV Q) := by
    intro m
    induction m with
    | zero =>
      intro n hn
      have hn : n = 3 := hn
      subst hn
      exact rX2_rest_12 (by decide) hw ⟨fun _ => k2 6 0 rfl, fun z => absurd (by decide) z⟩
    | succ m ih =>
      intro n hn
      refine rX2_rest_12 (by decide) hw ⟨fun z => absurd z (n3 (by omega)), fun _ => ⟨vp_in_nI (by omega) (by decide), ?_⟩⟩
      rw [nI_1, nI_clamp (by omega), s17]
      exact ih (n + 1) (by omega)
  refine eX2_rest (by decide) hw ?_
  rw [e0]
  exact k1 3 0 rfl
theorem svM_at (a : xA) (j w n k s w' i : Nat) : svM a j w n k s w' i = if k = 21 ∧ s = 0 ∧ w' = j ∧ i < n ∧ ¬ a 19 0 w (3 * j + i) = -1 then a 19 0 w (3 * j + i) else a k s w' i := rfl
theorem svM2 (a : xA) (w k s w' i : Nat) : svM (svM a 0 w 3) 1 w 3 k s w' i = if k = 21 ∧ s = 0 ∧ w' < 2 ∧ i < 3 ∧ ¬ a 19 0 w (3 * w' + i) = -1 then a 19 0 w (3 * w' + i) else a k s w' i := by
  have e19 : ∀ i, svM a 0 w 3 19 0 w i = a 19 0 w i := fun i => by rw [svM_at, if_neg (by omega)]
  rw [svM_at (svM a 0 w 3), e19, svM_at]
  by_cases h : k = 21 ∧ s = 0 ∧ i < 3
  · obtain ⟨rfl, rfl, hi⟩ := h
    by_cases h1 : w' = 1
    · subst h1; simp [hi]
    · by_cases h2 : w' = 0
      · subst h2; simp [hi]
      · have : ¬ w' < 2 := by omega
        simp [h1, h2, this]
  · rw [if_neg (fun z => h ⟨z.1, z.2.1, z.2.2.2.1⟩), if_neg (fun z => h ⟨z.1, z.2.1, z.2.2.2.1⟩), if_neg (fun z => h ⟨z.1, z.2.1, z.2.2.2.1⟩)]
/-- finishDeed's memory -/
def fiM (a : xA) (w : Nat) : xA := rsM (if a 2 0 w 2 = 1 then svM (svM a 0 w 3) 1 w 3 else a) w 3 6
theorem cC_finish0 {Q : xM → Prop} {w : Nat} (hw : w < 4) (hq : Q (fiM a w, (b, h0))) : CV mX5_finishDeed [vR 5 0 0, vR 2 0 w] (a, (b, h0)) Q := by
  unfold fiM at hq
  refine eX5_finishDeed (by decide) hw ⟨fun z => ?_, fun z => ?_⟩
  · rw [if_neg z] at hq; exact cC_rest hw hq
  · rw [if_pos z] at hq
    refine rX5_finishDeed_10 (by decide) hw ⟨fun z => absurd z (by decide), fun _ => ⟨vp_in_nI (n := 0) (by decide) (by decide), cC_save (j := 0) rfl (by decide) hw ?_⟩⟩
    refine rX5_finishDeed_10 (by decide) hw ⟨fun z => absurd z (by decide), fun _ => ⟨vp_in_nI (n := 1) (by decide) (by decide), cC_save (j := 1) rfl (by decide) hw ?_⟩⟩
    exact rX5_finishDeed_10 (by decide) hw ⟨fun _ => cC_rest hw hq, fun z => absurd (by decide) z⟩
theorem fiM_at (a : xA) {w : Nat} (k s w' i : Nat) : fiM a w k s w' i = if k = 2 ∧ s = 0 ∧ w' = w ∧ (i = 1 ∨ i = 2) then 0 else if k = 17 ∧ s = 0 ∧ w' = w ∧ i < 3 then -1 else if k = 19 ∧ s = 0 ∧ w' = w ∧ i < 6 then -1 else if k = 21 ∧ s = 0 ∧ w' < 2 ∧ i < 3 ∧ a 2 0 w 2 = 1 ∧ ¬ a 19 0 w (3 * w' + i) = -1 then a 19 0 w (3 * w' + i) else a k s w' i := by
  unfold fiM rsM
  by_cases h1 : k = 2 ∧ s = 0 ∧ w' = w ∧ (i = 1 ∨ i = 2)
  · rw [if_pos h1, if_pos h1]
  rw [if_neg h1, if_neg h1]
  by_cases h2 : k = 17 ∧ s = 0 ∧ w' = w ∧ i < 3
  · rw [if_pos h2, if_pos h2]
  rw [if_neg h2, if_neg h2]
  by_cases h3 : k = 19 ∧ s = 0 ∧ w' = w ∧ i < 6
  · rw [if_pos h3, if_pos h3]
  rw [if_neg h3, if_neg h3]
  by_cases hc : a 2 0 w 2 = 1
  · rw [if_pos hc, svM2]
    simp only [hc, true_and]
  · rw [if_neg hc, if_neg (fun z => hc z.2.2.2.2.1)]
end
