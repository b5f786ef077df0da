/-! THE START: what the constructors leave, and that the invariant holds of it -/
def a0 : xA := fun k _ _ j => if k = 2 then (if j = 0 then -1 else 0) else if k = 4 then (if j = 1 then 5 else 0) else if k = 17 then kr3 j else if k = 18 then kz3 j else if k = 19 then kr6 j else 0
def b0 : xA := fun k _ _ j => if k = 30 then kr0 j else 0
theorem kr0_at (j : Nat) : kr0 j = if j = 50 then -1 else if j = 34 then -1 else if j = 18 then -1 else if j = 2 then -1 else if j = 1 then 5 else 0 := by
  have e0 : (1 : Int32).toNatClampNeg = 1 := by decide
  have e1 : ((2 : Int32) + 16 * 0 + 0).toNatClampNeg = 2 := by decide
  have e2 : ((2 : Int32) + 16 * 1 + 0).toNatClampNeg = 18 := by decide
  have e3 : ((2 : Int32) + 16 * 2 + 0).toNatClampNeg = 34 := by decide
  have e4 : ((2 : Int32) + 16 * 3 + 0).toNatClampNeg = 50 := by decide
  unfold kr0
  rw [e0, e1, e2, e3, e4]
  unfold upd
  rfl
theorem kr3_at {j : Nat} (h : j < 3) : kr3 j = -1 := by
  have : j = 0 ∨ j = 1 ∨ j = 2 := by omega
  rcases this with rfl | rfl | rfl <;> decide
theorem kz3_at {j : Nat} (h : j < 3) : kz3 j = 0 := by
  have : j = 0 ∨ j = 1 ∨ j = 2 := by omega
  rcases this with rfl | rfl | rfl <;> decide
theorem kr6_at {j : Nat} (h : j < 6) : kr6 j = -1 := by
  have : j = 0 ∨ j = 1 ∨ j = 2 ∨ j = 3 ∨ j = 4 ∨ j = 5 := by omega
  rcases this with rfl | rfl | rfl | rfl | rfl | rfl <;> decide
theorem wf0 {w f : Nat} (hw : w < 4) (hf : f < 16) : wf kr0 w f = if f = 0 then -1 else 0 := by
  unfold wf
  rw [kr0_at]
  have hw' : w = 0 ∨ w = 1 ∨ w = 2 ∨ w = 3 := by omega
  by_cases e : f = 0
  · subst e
    rcases hw' with rfl | rfl | rfl | rfl <;> decide
  · rw [if_neg e, if_neg (by omega), if_neg (by omega), if_neg (by omega), if_neg (by omega), if_neg (by omega)]
theorem kr0_hi {j : Nat} (h : j = 0 ∨ 66 ≤ j) : kr0 j = 0 := by
  rw [kr0_at, if_neg (by omega), if_neg (by omega), if_neg (by omega), if_neg (by omega), if_neg (by omega)]
theorem sz0 (p : Nat) : szN kr0 p = 0 := by
  unfold szN
  rw [kr0_hi (by omega)]
  decide
theorem lk0 {w p : Nat} (hw : w < 4) : lk kr0 w p = false := lk_false (by rw [wf0 hw (by decide)]; rfl)
theorem RI0 : RI kr0 0 := by
  refine ⟨fun p hp => ?_, fun w hw => ?_, fun j hj p hp => ⟨0, by decide, kr0_hi (by omega)⟩, 0, Nat.le_refl _, kr0_hi (by omega)⟩
  · rw [sz0]
    refine ⟨kr0_hi (by omega), ?_⟩
    have := cN_le (fun w => lk kr0 w p) 4 0
    unfold ctN
    omega
  · have e : ∀ f, f < 16 → f ≠ 0 → wf kr0 w f = 0 := fun f hf h => by rw [wf0 hw hf, if_neg h]
    unfold PW
    rw [e 1 (by decide) (by decide), e 2 (by decide) (by decide), e 3 (by decide) (by decide), e 4 (by decide) (by decide), e 6 (by decide) (by decide)]
    refine ⟨Or.inl rfl, ⟨0, by decide, rfl⟩, ⟨0, by decide, rfl⟩, fun p hp z => z, fun _ => rfl, fun _ => rfl, ⟨Or.inl rfl, fun _ => rfl⟩, fun z => absurd z (by decide), fun p hp z => ?_, fun z => absurd rfl z⟩
    rw [bit0 p hp] at z; cases z
theorem CR0 : CR a0 kr0 0 := by
  refine ⟨⟨RI0, ⟨?_, ?_, fun w hw => ?_, fun j hj p hp => ?_⟩, fun p hp => ?_⟩, fun p hp => ?_⟩
  · rw [kr0_hi (by omega)]; rfl
  · rw [kr0_at]; rfl
  · have e : ∀ f, f < 16 → f ≠ 0 → wf kr0 w f = 0 := fun f hf h => by rw [wf0 hw hf, if_neg h]
    have a17 : ∀ p, p < 3 → a0 17 0 w p = -1 := fun p hp => kr3_at hp
    have a18 : ∀ p, p < 3 → a0 18 0 w p = 0 := fun p hp => kz3_at hp
    have a19 : ∀ p, p < 6 → a0 19 0 w p = -1 := fun p hp => kr6_at hp
    unfold PP
    rw [wf0 hw (f := 0) (by decide), e 1 (by decide) (by decide), e 2 (by decide) (by decide), e 4 (by decide) (by decide), e 5 (by decide) (by decide), e 6 (by decide) (by decide)]
    refine ⟨rfl, rfl, rfl, rfl, fun p hp => ?_, fun p hp z => ?_, fun p hp => ?_, fun k hk => ?_⟩
    · rw [a17 p hp, bit0 p hp]; rfl
    · rw [bit0 p hp] at z; cases z
    · rw [a18 p hp, if_neg (fun z => absurd z.1 (by decide))]
    · rw [a19 k hk, if_pos rfl]
  · rw [kr0_hi (by omega), kr0_hi (by omega)]
    exact ⟨rfl, rfl⟩
  · unfold PL
    rw [sz0]
    exact ⟨fun k hk => by omega, fun k hk => by omega, fun k hk => by omega, fun k hk => by omega, fun k hk => by omega, fun k hk => by omega, fun w hw hl => by rw [lk0 hw] at hl; cases hl⟩
  · rw [kr0_hi (by omega), sz0]
    exact ⟨rfl, fun k hk => by omega⟩
theorem Iv0 : Iv (a0, (b0, 0)) 0 := by
  refine ⟨0, fun _ => kr0, CR0, ⟨by decide, rfl, 0, by decide, rfl, fun i hi => by omega, fun i j hij hj => by omega, fun i hi => by omega⟩, ⟨rfl, fun i hi => by omega⟩, fun i hi => rfl, ⟨0, by decide, rfl, rfl, fun i hi => by omega⟩, ⟨0, 0, 0, rfl, rfl, rfl⟩, rfl, rfl, rfl⟩
