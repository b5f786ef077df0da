/-! the calls that only tell; the digest -/
def oWriter (r : Row) (x y : Int32) : Oc := if (x < 0 ∨ 3 < x) ∨ (y < 0 ∨ 8 < y) then (-2, 0, r) else (tW r x.toNatClampNeg y.toNatClampNeg, 5, r)
def oEntry (r : Row) (x y z : Int32) : Oc := if (x < 0 ∨ 2 < x) ∨ (y < 0 ∨ r (66 + x.toNatClampNeg) - 1 < y) ∨ (z < 0 ∨ 6 < z) then (-2, 0, r) else (tE r x.toNatClampNeg y.toNatClampNeg z.toNatClampNeg, 5, r)
def oPart (r : Row) (x y : Int32) : Oc := if (x < 0 ∨ 2 < x) ∨ (y < 0 ∨ 5 < y) then (-2, 0, r) else (tP r x.toNatClampNeg y.toNatClampNeg, 5, r)
def oAborted (r : Row) (x y z : Int32) : Oc := if (x < 0 ∨ 2 < x) ∨ y < 0 ∨ (z < 0 ∨ 2 < z) then (-2, 0, r) else (tA r x.toNatClampNeg y z.toNatClampNeg, 5, r)
def oReader (r : Row) (x y z : Int32) : Oc := if (x < 0 ∨ 1 < x) ∨ (y < 0 ∨ 2 < y) ∨ (z < 0 ∨ 3 < z) then (-2, 0, r) else (tR r x.toNatClampNeg y.toNatClampNeg z.toNatClampNeg, 5, r)
def oAll (r : Row) (x : Int32) : Oc := if x < 0 ∨ 7 < x then (-2, 0, r) else (tG r x.toNatClampNeg, 5, r)
def tT (b : xA) (q : Nat) : Int32 := if q < 5 then b 32 0 0 q else if q = 5 then b 6 0 0 6 else b 6 0 0 2
def oTold (b : xA) (r : Row) (x : Int32) : Oc := if x < 0 ∨ 6 < x then (-2, 0, r) else (tT b x.toNatClampNeg, 5, r)
def itS {σ : Type} (st : σ → Nat → σ) : σ → Nat → Nat → σ
  | s, _, 0 => s
  | s, k, m + 1 => itS st (st s k) (k + 1) m
theorem loopS {σ : Type} {Wk : σ → Int32 → Prop} (st : σ → Nat → σ) (N : Nat) (fin : σ → Prop) (hx : ∀ s, fin s → Wk s (nI N)) (hs : ∀ s k, k < N → Wk (st s k) (nI (k + 1)) → Wk s (nI k)) : ∀ m k s, k + m = N → fin (itS st s k m) → Wk s (nI k)
  | 0, k, s, hk, hf => by
    rw [Nat.add_zero] at hk
    subst hk
    exact hx s hf
  | m + 1, k, s, hk, hf => hs s k (by omega) (loopS st N fin hx hs m (k + 1) _ (by omega) hf)
def mo (h : Int64) (v : Int32) : Int64 := (31 : Int64) * h + Int32.toInt64 v
def mF (f : Nat → Int32) (h : Int64) (m : Nat) : Int64 := itS (fun h k => mo h (f k)) h 0 m
def dgE (r : Row) (p : Nat) (h : Int64) : Int64 := itS (fun h k => mF (tE r p k) h 7) h 0 (szN r p)
def dgA (r : Row) (p : Nat) (h : Int64) : Int64 := itS (fun h k => mF (tA r p (nI k)) h 3) h 0 (cN (ab r p) 0 (szN r p))
def dgP (r : Row) (h : Int64) (p : Nat) : Int64 := dgA r p (dgE r p (mF (tP r p) h 6))
def dgR (r : Row) (h : Int64) (j : Nat) : Int64 := itS (fun h p => mF (tR r j p) h 4) h 0 3
def dg (b : xA) (r : Row) : Int64 := itS (dgR r) (itS (dgP r) (itS (fun h w => mF (tW r w) h 9) (mF (tG r) (mF (tT b) 2297 7) 8) 0 4) 0 3) 0 2
section
variable {a b : xA} {r : Row} {h0 : Int64}
theorem cR_writer {Q : Int32 → xM → Prop} {x y : Int32} (hR : WR r) (hq : Q (oWriter r x y).1 (mN a (apB b r (oWriter r x y)) (apR r (oWriter r x y)) h0)) : CI mX6_writer [vR 6 0 0, vI x, vI y] (mN a b r h0) Q := by
  refine eX6_writer (cR_isWriter (fun w hw e => ⟨fun z => absurd z (by decide), fun _ => ?_⟩) (fun z => ⟨fun _ => cR_bad (er hq (by rw [oWriter, if_pos (Or.inl z)]) (by decide)), fun q => absurd rfl q⟩))
  refine cR_in (fun c1 c2 => ⟨fun z => absurd z (by decide), fun _ => ?_⟩) (fun z => ⟨fun _ => cR_bad (er hq (by rw [oWriter, if_pos (Or.inr z)]) (by decide)), fun q => absurd rfl q⟩)
  obtain ⟨k, hk, rfl⟩ := inN (n := 8) (by decide) c1 c2
  subst e
  have hb : ¬ ((nI w < 0 ∨ 3 < nI w) ∨ (nI k < 0 ∨ 8 < nI k)) := fun z => z.elim (nI3 hw) (notIn (n := 8) (by decide) hk)
  exact cR_tellWriter hR rfl rfl hw (by omega) (en hq (by rw [oWriter, if_neg hb, nI_clamp (by omega), nI_clamp (by omega)]))
theorem cR_entry {Q : Int32 → xM → Prop} {x y z' : Int32} (hR : WR r) (hq : Q (oEntry r x y z').1 (mN a (apB b r (oEntry r x y z')) (apR r (oEntry r x y z')) h0)) : CI mX6_entry [vR 6 0 0, vI x, vI y, vI z'] (mN a b r h0) Q := by
  refine eX6_entry (cR_isPart (fun p hp e => ⟨fun z => absurd z (by decide), fun _ => ?_⟩) (fun z => ⟨fun _ => cR_bad (er hq (by rw [oEntry, if_pos (Or.inl z)]) (by decide)), fun q => absurd rfl q⟩))
  subst e
  have ep : (nI p).toNatClampNeg = p := nI_clamp (by omega)
  refine cR_sizeOf rfl hp ?_
  refine cR_in (fun c1 c2 => ⟨fun z => absurd z (by decide), fun _ => ?_⟩) (fun z => ⟨fun _ => cR_bad (er hq (by rw [oEntry, if_pos (Or.inr (Or.inl (by rw [ep]; exact z)))]) (by decide)), fun q => absurd rfl q⟩)
  refine cR_in (fun d1 d2 => ⟨fun _ => ?_, fun z => absurd z (by decide)⟩) (fun z => ⟨fun q => absurd rfl q, fun _ => cR_bad (er hq (by rw [oEntry, if_pos (Or.inr (Or.inr z))]) (by decide))⟩)
  obtain ⟨q, hq6, rfl⟩ := inN (n := 6) (by decide) d1 d2
  obtain ⟨k, hk, rfl⟩ := nI_of c1
  obtain ⟨s1, s2⟩ := hR.sz hp
  have hb : ¬ ((nI p < 0 ∨ 2 < nI p) ∨ (nI k < 0 ∨ r (66 + (nI p).toNatClampNeg) - 1 < nI k) ∨ (nI q < 0 ∨ 6 < nI q)) := by
    rw [ep]
    exact fun z => z.elim (nI2 hp) (fun z => z.elim (fun z => z.elim c1 c2) (notIn (n := 6) (by decide) hq6))
  have hlt : k < szN r p := by
    rw [s2] at c2
    rcases Nat.lt_or_ge k (szN r p) with h | h
    · exact h
    · exfalso
      apply c2
      rcases Nat.eq_zero_or_pos (szN r p) with h0 | h0
      · rw [h0]
        rw [Int32.lt_iff_toInt_lt, nI_toInt hk]
        have : (nI 0 - 1).toInt = -1 := by decide
        omega
      · rw [lit 1, pk_sub (by omega)]
        exact nI_lt (by omega) hk
  exact cR_tellEntry hR rfl rfl rfl hp (by omega) (by omega) (en hq (by rw [oEntry, if_neg hb, ep, nI_clamp hk, nI_clamp (by omega)]))
theorem cR_part {Q : Int32 → xM → Prop} {x y : Int32} (hR : WR r) (hq : Q (oPart r x y).1 (mN a (apB b r (oPart r x y)) (apR r (oPart r x y)) h0)) : CI mX6_part [vR 6 0 0, vI x, vI y] (mN a b r h0) Q := by
  refine eX6_part (cR_isPart (fun w hw e => ⟨fun z => absurd z (by decide), fun _ => ?_⟩) (fun z => ⟨fun _ => cR_bad (er hq (by rw [oPart, if_pos (Or.inl z)]) (by decide)), fun q => absurd rfl q⟩))
  refine cR_in (fun c1 c2 => ⟨fun z => absurd z (by decide), fun _ => ?_⟩) (fun z => ⟨fun _ => cR_bad (er hq (by rw [oPart, if_pos (Or.inr z)]) (by decide)), fun q => absurd rfl q⟩)
  obtain ⟨k, hk, rfl⟩ := inN (n := 5) (by decide) c1 c2
  subst e
  have hb : ¬ ((nI w < 0 ∨ 2 < nI w) ∨ (nI k < 0 ∨ 5 < nI k)) := fun z => z.elim (nI2 hw) (notIn (n := 5) (by decide) hk)
  exact cR_tellPart hR rfl rfl hw (by omega) (en hq (by rw [oPart, if_neg hb, nI_clamp (by omega), nI_clamp (by omega)]))
theorem cR_aborted {Q : Int32 → xM → Prop} {x y z' : Int32} (hR : WR r) (hq : Q (oAborted r x y z').1 (mN a (apB b r (oAborted r x y z')) (apR r (oAborted r x y z')) h0)) : CI mX6_aborted [vR 6 0 0, vI x, vI y, vI z'] (mN a b r h0) Q := by
  refine eX6_aborted (cR_isPart (fun w hw e => ⟨fun z => absurd z (by decide), fun _ => ⟨fun c => ?_, fun c => ?_⟩⟩) (fun z => ⟨fun _ => cR_bad (er hq (by rw [oAborted, if_pos (Or.inl z)]) (by decide)), fun q => absurd rfl q⟩))
  · exact cR_bad (er hq (by rw [oAborted, if_pos (Or.inr (Or.inl c))]) (by decide))
  refine cR_in (fun c1 c2 => ⟨fun z => absurd z (by decide), fun _ => ?_⟩) (fun z => ⟨fun _ => cR_bad (er hq (by rw [oAborted, if_pos (Or.inr (Or.inr z))]) (by decide)), fun q => absurd rfl q⟩)
  obtain ⟨k, hk, rfl⟩ := inN (n := 2) (by decide) c1 c2
  subst e
  have hb : ¬ ((nI w < 0 ∨ 2 < nI w) ∨ y < 0 ∨ (nI k < 0 ∨ 2 < nI k)) := fun z => z.elim (nI2 hw) (fun z => z.elim c (notIn (n := 2) (by decide) hk))
  exact cR_tellAborted hR rfl rfl hw (by omega) (en hq (by rw [oAborted, if_neg hb, nI_clamp (by omega), nI_clamp (by omega)]))
theorem cR_reader {Q : Int32 → xM → Prop} {x y z' : Int32} (hR : WR r) (hq : Q (oReader r x y z').1 (mN a (apB b r (oReader r x y z')) (apR r (oReader r x y z')) h0)) : CI mX6_reader [vR 6 0 0, vI x, vI y, vI z'] (mN a b r h0) Q := by
  refine eX6_reader (cR_isReader (fun j hj e => ⟨fun z => absurd z (by decide), fun _ => ?_⟩) (fun z => ⟨fun _ => cR_bad (er hq (by rw [oReader, if_pos (Or.inl z)]) (by decide)), fun q => absurd rfl q⟩))
  refine cR_isPart (fun p hp ep => ⟨fun z => absurd z (by decide), fun _ => ?_⟩) (fun z => ⟨fun _ => cR_bad (er hq (by rw [oReader, if_pos (Or.inr (Or.inl z))]) (by decide)), fun q => absurd rfl q⟩)
  refine cR_in (fun c1 c2 => ⟨fun z => absurd z (by decide), fun _ => ?_⟩) (fun z => ⟨fun _ => cR_bad (er hq (by rw [oReader, if_pos (Or.inr (Or.inr z))]) (by decide)), fun q => absurd rfl q⟩)
  obtain ⟨k, hk, rfl⟩ := inN (n := 3) (by decide) c1 c2
  subst e; subst ep
  have hb : ¬ ((nI j < 0 ∨ 1 < nI j) ∨ (nI p < 0 ∨ 2 < nI p) ∨ (nI k < 0 ∨ 3 < nI k)) := fun z => z.elim (nI1 hj) (fun z => z.elim (nI2 hp) (notIn (n := 3) (by decide) hk))
  exact cR_tellReader hR rfl rfl rfl hj hp (by omega) (en hq (by rw [oReader, if_neg hb, nI_clamp (by omega), nI_clamp (by omega), nI_clamp (by omega)]))
theorem cR_all {Q : Int32 → xM → Prop} {x : Int32} (hR : WR r) (hq : Q (oAll r x).1 (mN a (apB b r (oAll r x)) (apR r (oAll r x)) h0)) : CI mX6_all [vR 6 0 0, vI x] (mN a b r h0) Q := by
  refine eX6_all (cR_in (fun c1 c2 => ⟨fun z => absurd z (by decide), fun _ => ?_⟩) (fun z => ⟨fun _ => cR_bad (er hq (by rw [oAll, if_pos z]) (by decide)), fun q => absurd rfl q⟩))
  obtain ⟨k, hk, rfl⟩ := inN (n := 7) (by decide) c1 c2
  exact cR_tellAll hR rfl (by omega) (en hq (by rw [oAll, if_neg (fun z => z.elim c1 c2), nI_clamp (by omega)]))
theorem cR_tell {Q : Int32 → xM → Prop} {x : Int32} {q : Nat} (e : x = nI q) (hq7 : q < 7) (hq : Q (tT b q) (mN a b r h0)) : CI mX6_tell [vR 6 0 0, vI x] (mN a b r h0) Q := by
  subst e
  refine eX6_tell ⟨fun z => ⟨fun z5 => ?_, fun z5 => ?_⟩, fun z => ?_⟩
  · have h5 : 5 ≤ q := (nI_leI (a := 5) (by decide) (by omega)).mp z
    have h5' : q ≠ 5 := fun e => z5 (by rw [e]; rfl)
    rw [tT, if_neg (by omega), if_neg h5'] at hq
    exact hq
  · have h5 : q = 5 := nqI (by omega) (by decide) z5
    subst h5
    exact hq
  · have h5 : ¬ 5 ≤ q := fun h => z ((nI_leI (a := 5) (by decide) (by omega)).mpr h)
    refine ⟨vp_in_nI (by omega) (by decide), ?_⟩
    rw [nI_clamp (by omega)]
    rw [tT, if_pos (by omega)] at hq
    exact hq
theorem cR_told {Q : Int32 → xM → Prop} {x : Int32} (hq : Q (oTold b r x).1 (mN a (apB b r (oTold b r x)) (apR r (oTold b r x)) h0)) : CI mX6_told [vR 6 0 0, vI x] (mN a b r h0) Q := by
  refine eX6_told (cR_in (fun c1 c2 => ⟨fun z => absurd z (by decide), fun _ => ?_⟩) (fun z => ⟨fun _ => cR_bad (er hq (by rw [oTold, if_pos z]) (by decide)), fun q => absurd rfl q⟩))
  obtain ⟨k, hk, rfl⟩ := inN (n := 6) (by decide) c1 c2
  exact cR_tell rfl (by omega) (en hq (by rw [oTold, if_neg (fun z => z.elim c1 c2), nI_clamp (by omega)]))
theorem cR_more {Q : xM → Prop} {μ : xM} {v : Int32} (hq : Q (μ.1, (μ.2.1, mo μ.2.2 v))) : CV mX6_more [vR 6 0 0, vI v] μ Q := eX6_more (a := μ.1) (b := μ.2.1) (h0 := μ.2.2) hq
theorem nle {a b : Nat} (h : a < b) (hb : b < 2 ^ 31) : ¬ nI b ≤ nI a := nI_ge h hb
theorem cR_morePart {Q : xM → Prop} {x1 : Int32} {p : Nat} (hR : WR r) (e1 : x1 = nI p) (hp : p < 3) (hq : Q (mN a b r (dgP r h0 p))) : CV mX6_morePart [vR 6 0 0, vI x1] (mN a b r h0) Q := by
  subst e1
  obtain ⟨s1, s2⟩ := hR.sz hp
  have hcl : cN (ab r p) 0 (szN r p) ≤ szN r p := cN_le _ _ _
  -- the aborted
  have part3 : ∀ h, Q (mN a b r (dgA r p h)) → xOk mX6_morePart 68 [(0, vR 6 0 0), (1, vI (nI p)), (2, vI (nI 0))] [] (mN a b r h) (qV Q) := by
    intro h hq
    refine loopS (Wk := fun h k => xOk mX6_morePart 68 [(0, vR 6 0 0), (1, vI (nI p)), (2, vI k)] [] (mN a b r h) (qV Q)) (fun h k => mF (tA r p (nI k)) h 3) (cN (ab r p) 0 (szN r p)) (fun h => Q (mN a b r h)) (fun s hs => ?_) (fun s k hk hn => ?_) _ 0 h (by omega) hq
    · exact rX6_morePart_68 (cR_marks1 hR rfl hp ⟨fun _ => hs, fun z => absurd (Int32.le_refl _) z⟩)
    · refine rX6_morePart_68 (cR_marks1 hR rfl hp ⟨fun z => absurd z (nle hk (by omega)), fun _ => ?_⟩)
      refine loopS (Wk := fun h q => xOk mX6_morePart 80 [(0, vR 6 0 0), (1, vI (nI p)), (2, vI (nI k)), (3, vI q)] [] (mN a b r h) (qV Q)) (fun h q => mo h (tA r p (nI k) q)) 3 (fun h => xOk mX6_morePart 68 [(0, vR 6 0 0), (1, vI (nI p)), (2, vI (nI (k + 1)))] [] (mN a b r h) (qV Q)) (fun s hs => ?_) (fun s q hq3 hn => ?_) 3 0 s (by omega) hn
      · refine rX6_morePart_80 ⟨fun _ => ?_, fun z => absurd (by decide) z⟩
        rw [nI_1]; exact hs
      · refine rX6_morePart_80 ⟨fun z => absurd z (n3 hq3), fun _ => cR_tellAborted hR rfl rfl hp hq3 (cR_more ?_)⟩
        rw [nI_1]; exact hn
  have part2 : ∀ h, Q (mN a b r (dgA r p (dgE r p h))) → xOk mX6_morePart 26 [(0, vR 6 0 0), (1, vI (nI p)), (2, vI (nI 0))] [] (mN a b r h) (qV Q) := by
    intro h hq
    refine loopS (Wk := fun h k => xOk mX6_morePart 26 [(0, vR 6 0 0), (1, vI (nI p)), (2, vI k)] [] (mN a b r h) (qV Q)) (fun h k => mF (tE r p k) h 7) (szN r p) (fun h => Q (mN a b r (dgA r p h))) (fun s hs => ?_) (fun s k hk hn => ?_) _ 0 h (by omega) hq
    · refine rX6_morePart_26 (cR_sizeOf rfl hp ?_)
      rw [s2]
      exact ⟨fun _ => part3 s hs, fun z => absurd (Int32.le_refl _) z⟩
    · refine rX6_morePart_26 (cR_sizeOf rfl hp ?_)
      rw [s2]
      refine ⟨fun z => absurd z (nle hk (by omega)), fun _ => ?_⟩
      refine loopS (Wk := fun h q => xOk mX6_morePart 37 [(0, vR 6 0 0), (1, vI (nI p)), (2, vI (nI k)), (3, vI q)] [] (mN a b r h) (qV Q)) (fun h q => mo h (tE r p k q)) 7 (fun h => xOk mX6_morePart 26 [(0, vR 6 0 0), (1, vI (nI p)), (2, vI (nI (k + 1)))] [] (mN a b r h) (qV Q)) (fun s hs => ?_) (fun s q hq7 hn => ?_) 7 0 s (by omega) hn
      · refine rX6_morePart_37 ⟨fun _ => ?_, fun z => absurd (by decide) z⟩
        rw [nI_1]; exact hs
      · refine rX6_morePart_37 ⟨fun z => absurd z (nle (b := 7) hq7 (by decide)), fun _ => cR_tellEntry hR rfl rfl rfl hp (by omega) hq7 (cR_more ?_)⟩
        rw [nI_1]; exact hn
  refine eX6_morePart (loopS (Wk := fun h q => xOk mX6_morePart 2 [(0, vR 6 0 0), (1, vI (nI p)), (2, vI q)] [] (mN a b r h) (qV Q)) (fun h q => mo h (tP r p q)) 6 (fun h => Q (mN a b r (dgA r p (dgE r p h)))) (fun s hs => ?_) (fun s q hq6 hn => ?_) 6 0 h0 (by omega) hq)
  · exact rX6_morePart_2 ⟨fun _ => part2 s hs, fun z => absurd (by decide) z⟩
  · refine rX6_morePart_2 ⟨fun z => absurd z (n6 hq6), fun _ => cR_tellPart hR rfl rfl hp hq6 (cR_more ?_)⟩
    rw [nI_1]; exact hn
theorem cR_digest {Q : Int64 → xM → Prop} (hR : WR r) (hq : Q (dg b r) (mN a b r (dg b r))) : CL mX6_digest [vR 6 0 0] (mN a b r h0) Q := by
  have p5 : ∀ h, Q (itS (dgR r) h 0 2) (mN a b r (itS (dgR r) h 0 2)) → xOk mX6_digest 110 [(0, vR 6 0 0), (1, vI (nI 0))] [] (mN a b r h) (qL Q) := by
    intro h hq
    have e : itS (dgR r) h 0 2 = itS (fun h k => mo h (tR r (k / 12) (k / 4 % 3) (k % 4))) h 0 24 := by
      simp only [itS, dgR, mF]
    rw [e] at hq
    refine loopS (Wk := fun h k => xOk mX6_digest 110 [(0, vR 6 0 0), (1, vI k)] [] (mN a b r h) (qL Q)) (fun h k => mo h (tR r (k / 12) (k / 4 % 3) (k % 4))) 24 (fun h => Q h (mN a b r h)) (fun s hs => ?_) (fun s k hk hn => ?_) 24 0 h (by omega) hq
    · exact rX6_digest_110 ⟨fun _ => hs, fun z => absurd (by decide) z⟩
    · refine rX6_digest_110 ⟨fun z => absurd z (nle (b := 24) hk (by decide)), fun _ => ?_⟩
      rw [lit 12, lit 4, lit 3, pk_div (by omega) (by decide) (by decide), pk_div (by omega) (by decide) (by decide), pk_rem (by omega) (by decide) (by decide), pk_mul, pk_sub (by omega), nI_1]
      refine cR_tellReader (j := k / 12) (p := k / 4 % 3) (q := k % 4) hR rfl rfl ?_ (by omega) (by omega) (by omega) (cR_more hn)
      congr 1
      omega
  have p4 : ∀ h, Q (itS (dgR r) (itS (dgP r) h 0 3) 0 2) (mN a b r (itS (dgR r) (itS (dgP r) h 0 3) 0 2)) → xOk mX6_digest 92 [(0, vR 6 0 0), (1, vI (nI 0))] [] (mN a b r h) (qL Q) := by
    intro h hq
    refine loopS (Wk := fun h k => xOk mX6_digest 92 [(0, vR 6 0 0), (1, vI k)] [] (mN a b r h) (qL Q)) (dgP r) 3 (fun h => Q (itS (dgR r) h 0 2) (mN a b r (itS (dgR r) h 0 2))) (fun s hs => ?_) (fun s k hk hn => ?_) 3 0 h (by omega) hq
    · exact rX6_digest_92 ⟨fun _ => p5 s hs, fun z => absurd (by decide) z⟩
    · refine rX6_digest_92 ⟨fun z => absurd z (n3 hk), fun _ => cR_morePart hR rfl hk ?_⟩
      rw [nI_1]; exact hn
  have p3 : ∀ h, Q (itS (dgR r) (itS (dgP r) (itS (fun h w => mF (tW r w) h 9) h 0 4) 0 3) 0 2) (mN a b r (itS (dgR r) (itS (dgP r) (itS (fun h w => mF (tW r w) h 9) h 0 4) 0 3) 0 2)) → xOk mX6_digest 55 [(0, vR 6 0 0), (1, vI (nI 0))] [] (mN a b r h) (qL Q) := by
    intro h hq
    refine loopS (Wk := fun h k => xOk mX6_digest 55 [(0, vR 6 0 0), (1, vI k)] [] (mN a b r h) (qL Q)) (fun h w => mF (tW r w) h 9) 4 (fun h => Q (itS (dgR r) (itS (dgP r) h 0 3) 0 2) (mN a b r (itS (dgR r) (itS (dgP r) h 0 3) 0 2))) (fun s hs => ?_) (fun s k hk hn => ?_) 4 0 h (by omega) hq
    · exact rX6_digest_55 ⟨fun _ => p4 s hs, fun z => absurd (by decide) z⟩
    · refine rX6_digest_55 ⟨fun z => absurd z (n4 hk), fun _ => ?_⟩
      refine loopS (Wk := fun h q => xOk mX6_digest 62 [(0, vR 6 0 0), (1, vI (nI k)), (2, vI q)] [] (mN a b r h) (qL Q)) (fun h q => mo h (tW r k q)) 9 (fun h => xOk mX6_digest 55 [(0, vR 6 0 0), (1, vI (nI (k + 1)))] [] (mN a b r h) (qL Q)) (fun s hs => ?_) (fun s q hq9 hn => ?_) 9 0 s (by omega) hn
      · refine rX6_digest_62 ⟨fun _ => ?_, fun z => absurd (by decide) z⟩
        rw [nI_1]; exact hs
      · refine rX6_digest_62 ⟨fun z => absurd z (nle (b := 9) hq9 (by decide)), fun _ => cR_tellWriter hR rfl rfl hk hq9 (cR_more ?_)⟩
        rw [nI_1]; exact hn
  have p2 : ∀ h, Q (itS (dgR r) (itS (dgP r) (itS (fun h w => mF (tW r w) h 9) (mF (tG r) h 8) 0 4) 0 3) 0 2) (mN a b r (itS (dgR r) (itS (dgP r) (itS (fun h w => mF (tW r w) h 9) (mF (tG r) h 8) 0 4) 0 3) 0 2)) → xOk mX6_digest 32 [(0, vR 6 0 0), (1, vI (nI 0))] [] (mN a b r h) (qL Q) := by
    intro h hq
    refine loopS (Wk := fun h k => xOk mX6_digest 32 [(0, vR 6 0 0), (1, vI k)] [] (mN a b r h) (qL Q)) (fun h q => mo h (tG r q)) 8 (fun h => Q (itS (dgR r) (itS (dgP r) (itS (fun h w => mF (tW r w) h 9) h 0 4) 0 3) 0 2) (mN a b r (itS (dgR r) (itS (dgP r) (itS (fun h w => mF (tW r w) h 9) h 0 4) 0 3) 0 2))) (fun s hs => ?_) (fun s k hk hn => ?_) 8 0 h (by omega) hq
    · exact rX6_digest_32 ⟨fun _ => p3 s hs, fun z => absurd (by decide) z⟩
    · refine rX6_digest_32 ⟨fun z => absurd z (nle (b := 8) hk (by decide)), fun _ => cR_tellAll hR rfl hk (cR_more ?_)⟩
      rw [nI_1]; exact hn
  refine eX6_digest (loopS (Wk := fun h k => xOk mX6_digest 9 [(0, vR 6 0 0), (1, vI k)] [] (mN a b r h) (qL Q)) (fun h q => mo h (tT b q)) 7 (fun h => Q (itS (dgR r) (itS (dgP r) (itS (fun h w => mF (tW r w) h 9) (mF (tG r) h 8) 0 4) 0 3) 0 2) (mN a b r (itS (dgR r) (itS (dgP r) (itS (fun h w => mF (tW r w) h 9) (mF (tG r) h 8) 0 4) 0 3) 0 2))) (fun s hs => ?_) (fun s k hk hn => ?_) 7 0 2297 (by omega) hq)
  · exact rX6_digest_9 ⟨fun _ => p2 s hs, fun z => absurd (by decide) z⟩
  · refine rX6_digest_9 ⟨fun z => absurd z (nle (b := 7) hk (by decide)), fun _ => cR_tell rfl hk (cR_more ?_)⟩
    rw [nI_1]; exact hn
end
