def tyB (b : xA) (L : Nat) (x : Int32) : xA := xUp (xUp b 33 0 0 L x) 6 0 0 6 (nI (L + 1))
def bkB (b : xA) (q : Nat) : xA := xUp b 6 0 0 2 (nI q)
section
variable {a b : xA} {r : Row} {h0 : Int64}
theorem cR_type {Q : Int32 → xM → Prop} {x : Int32} {L : Nat} (hL : b 6 0 0 6 = nI L) (hL2 : L ≤ 120) (h1 : x < 0 ∨ 127 < x → Q (-2) (mN a (rErr b 0) r h0)) (h2 : ¬ (x < 0 ∨ 127 < x) → L = 120 → Q (-4) (mN a (rErr b 4) r h0)) (h3 : ¬ (x < 0 ∨ 127 < x) → L < 120 → Q (nI (L + 1)) (mN a (tyB b L x) r h0)) : CI mX6_type [vR 6 0 0, vI x] (mN a b r h0) Q := by
  have e : xNow b r 6 0 0 6 = nI L := hL
  refine eX6_type (cR_in (fun c1 c2 => ⟨fun _ => ⟨fun z => ?_, fun z => ?_⟩, fun z => absurd z (by decide)⟩) (fun z => ⟨fun q => absurd rfl q, fun _ => cR_bad ?_⟩))
  · have z' : ¬ nI L = nI 120 := fun e2 => z (by show xNow b r 6 0 0 6 = _; rw [e, e2]; rfl)
    have hlt : L < 120 := by
      rcases Nat.lt_or_ge L 120 with h | h
      · exact h
      · exact absurd (by rw [show L = 120 by omega]) z'
    show vp_in (xNow b r 6 0 0 6) 120 ∧ Q _ (a, (xUp (xUp (xNow b r) 33 0 0 (Int32.toNatClampNeg (xNow b r 6 0 0 6)) x) 6 0 0 6 (xUp (xNow b r) 33 0 0 (Int32.toNatClampNeg (xNow b r 6 0 0 6)) x 6 0 0 6 + 1), h0))
    rw [e]
    refine ⟨vp_in_nI hlt (by decide), ?_⟩
    have e2 : xUp (xNow b r) 33 0 0 (nI L).toNatClampNeg x 6 0 0 6 = nI L := by
      show (if 6 = 33 ∧ _ then _ else xNow b r 6 0 0 6) = _
      rw [if_neg (by omega)]; exact e
    have e3 : xUp (xUp (xNow b r) 33 0 0 (nI L).toNatClampNeg x) 6 0 0 6 (xUp (xNow b r) 33 0 0 (nI L).toNatClampNeg x 6 0 0 6 + 1) = xNow (tyB b L x) r := by
      rw [e2, nI_clamp (by omega), nI_1, xNow_upO _ _ (by decide), xNow_upO _ _ (by decide)]
      rfl
    refine qe (x := nI (L + 1)) ?_ ?_
    · rw [e3]
      exact h3 (fun z => z.elim c1 c2) hlt
    · show nI (L + 1) = xUp (xUp (xNow b r) 33 0 0 (Int32.toNatClampNeg (xNow b r 6 0 0 6)) x) 6 0 0 6 (xUp (xNow b r) 33 0 0 (Int32.toNatClampNeg (xNow b r 6 0 0 6)) x 6 0 0 6 + 1) 6 0 0 6
      rw [xUp_s, e, e2, nI_1]
  · have hL3 : L = 120 := nqI (by omega) (by decide) (e.symm.trans z)
    refine cR_refuse (i := 4) rfl (by decide) ?_
    rw [rErr_now]
    exact h2 (fun z => z.elim c1 c2) hL3
  · rw [rErr_now]
    exact h1 z
theorem cR_clear {Q : Int32 → xM → Prop} (hq : Q (b 6 0 0 6) (mN a (xUp b 6 0 0 6 0) r h0)) : CI mX6_clear [vR 6 0 0] (mN a b r h0) Q := by
  refine eX6_clear ?_
  rw [xNow_upO _ _ (by decide)]
  exact hq
theorem cR_asked {Q : Int32 → xM → Prop} (hq : Q (b 6 0 0 12) (mN a b r h0)) : CI mX6_asked [vR 6 0 0] (mN a b r h0) Q := eX6_asked hq
theorem cR_back {Q : Int32 → xM → Prop} {q : Nat} (hs : b 6 0 0 2 = nI q) (hq6 : q ≤ 6) (h1 : q = 0 → Q (-3) (mN a (rErr b 2) r h0)) (h2 : 0 < q → Q (nI (q - 1)) (mN a (bkB b (q - 1)) (cpN r 0 945 (fun j => b 31 0 0 (945 * (q - 1) + j))) h0)) : CI mX6_back [vR 6 0 0] (mN a b r h0) Q := by
  have e : xNow b r 6 0 0 2 = nI q := hs
  refine eX6_back ⟨fun z => ?_, fun z => ?_⟩
  · have hp : 0 < q := by
      rcases Nat.eq_zero_or_pos q with h | h
      · exact absurd (by rw [e, h]; rfl) z
      · exact h
    have e1 : xUp (xNow b r) 6 0 0 2 (xNow b r 6 0 0 2 - 1) = xNow (xPa (bkB b (q - 1)) (b 31 0 0)) r := by
      rw [e, lit 1, pk_sub (by omega), xNow_upO _ _ (by decide)]
      congr 1
      unfold bkB
      rw [← xPa_upO _ _ (by decide), xPa_self]
    have e2 : xNow (xPa (bkB b (q - 1)) (b 31 0 0)) r 6 0 0 2 = nI (q - 1) := by
      show xUp b 6 0 0 2 (nI (q - 1)) 6 0 0 2 = _
      rw [xUp_s]
    rw [e1, e2, show (945 : Int32) * nI (q - 1) = nI (945 * (q - 1)) by rw [lit 945, pk_mul]]
    refine cR_copiesB rfl rfl (by omega) ?_
    refine qe (x := nI (q - 1)) ?_ e2.symm
    have e3 : xPa (bkB b (q - 1)) (b 31 0 0) = bkB b (q - 1) := by
      unfold bkB
      rw [← xPa_upO _ _ (by decide), xPa_self]
    rw [e3]
    exact h2 hp
  · have hp : q = 0 := nqI (by omega) (by decide) (e.symm.trans z)
    refine cR_refuse (i := 2) rfl (by decide) ?_
    rw [rErr_now]
    exact h1 hp
end
