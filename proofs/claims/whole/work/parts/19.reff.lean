/-! what an order does to the row: answer, kind (0..4: an error of that count; 5: nothing; 6: a change), the new row -/
abbrev Oc : Type := Int32 × Nat × Row
def apB (b : xA) (r : Row) (o : Oc) : xA := if o.2.1 < 5 then rErr b o.2.1 else if o.2.1 = 5 then b else ntB b r
def apR (r : Row) (o : Oc) : Row := if o.2.1 < 6 then r else o.2.2
theorem rErr_now (b : xA) (r : Row) (i : Nat) : rErr (xNow b r) i = xNow (rErr b i) r := xNow_upO b r (by decide) 0 0 i _
def bgR (r : Row) (w : Nat) : Row := if wf (uw r w 0 (wf r w 0 + 1)) w 1 = 1 then enR (uw r w 0 (wf r w 0 + 1)) w 0 else uw r w 0 (wf r w 0 + 1)
def oBegins (r : Row) (x : Int32) : Oc := if x < 0 ∨ 3 < x then (-2, 0, r) else if wf r x.toNatClampNeg 1 = 2 then (-3, 2, r) else if wf r x.toNatClampNeg 0 < 99 then (wf (bgR r x.toNatClampNeg) x.toNatClampNeg 0, 6, bgR r x.toNatClampNeg) else (-4, 4, r)
abbrev badAge (r : Row) (x y : Int32) : Prop := (x < 0 ∨ 3 < x) ∨ (y < 0 ∨ wf r x.toNatClampNeg 0 < y)
def op0 (r : Row) (w : Nat) : Row := uw (uw (uw (uw r w 1 1) w 2 0) w 3 0) w 5 (uw (uw (uw r w 1 1) w 2 0) w 3 0 0)
def op1 (r : Row) (w : Nat) : Nat → Row
  | 0 => r
  | k + 1 => uw (op1 r w k) w (10 + k) (-1)
def opR (r : Row) (w : Nat) : Row := op1 (op0 r w) w 6
def oOpens (r : Row) (x y : Int32) : Oc := if badAge r x y then (-2, 0, r) else if wf r x.toNatClampNeg 0 ≤ y then (if wf r x.toNatClampNeg 1 = 0 then (nI (maN (opR r x.toNatClampNeg) 1), 6, opR r x.toNatClampNeg) else (-3, 2, r)) else (-6, 1, r)
def wr0 (r : Row) (w p n : Nat) : Row := if wf r w 1 = 1 ∧ bitAt (wf r w 2) p = false then uw (uw r w 2 (wf r w 2 ||| ((1 : Int32) <<< (nI p &&& 31)))) w (7 + p) (nI n) else r
def wr1 (r : Row) (w p n : Nat) (x v d : Int32) : Row := upd (uc (uc (uc (uc (uc (uc r p n 0 0) p n 1 (nI w)) p n 2 (wf (uc (uc r p n 0 0) p n 1 (nI w)) w 0)) p n 3 x) p n 4 v) p n 5 d) (66 + p) (uc (uc (uc (uc (uc (uc r p n 0 0) p n 1 (nI w)) p n 2 (wf (uc (uc r p n 0 0) p n 1 (nI w)) w 0)) p n 3 x) p n 4 v) p n 5 d (66 + p) + 1)
def wrR (r : Row) (w p : Nat) (x v : Int32) : Row := wr1 (wr0 r w p (szN r p)) w p (szN r p) x v (if wf r w 1 = 1 then 1 else 0)
abbrev badSend (r : Row) (x y p n v : Int32) : Prop := badAge r x y ∨ (p < 0 ∨ 2 < p) ∨ (n < 0 ∨ 99 < n) ∨ (v < 0 ∨ 99 < v)
def oSends (r : Row) (x y p n v : Int32) : Oc := if badSend r x y p n v then (-2, 0, r) else
  if wf r x.toNatClampNeg 0 ≤ y then (if wf r x.toNatClampNeg 1 = 2 then (-3, 2, r) else
    if twR r x.toNatClampNeg p.toNatClampNeg n < 0 then (if n = duR r x.toNatClampNeg p.toNatClampNeg then (if r (66 + p.toNatClampNeg) + nI (owN r p.toNatClampNeg) < 48 then (nI (szN r p.toNatClampNeg), 6, wrR r x.toNatClampNeg p.toNatClampNeg n v) else (-4, 4, r)) else (-7, 3, r))
    else (1000 + twR r x.toNatClampNeg p.toNatClampNeg n, 5, r)) else (-6, 1, r)
def oEnds (r : Row) (x y c : Int32) : Oc := if badAge r x y ∨ (c < 0 ∨ 1 < c) then (-2, 0, r) else if wf r x.toNatClampNeg 0 ≤ y then (if wf r x.toNatClampNeg 1 = 1 then (bitsI (wf r x.toNatClampNeg 2), 6, enR r x.toNatClampNeg c) else (-3, 2, r)) else (-6, 1, r)
def oCarries (r : Row) (x y j p : Int32) : Oc := if badAge r x y ∨ (j < 0 ∨ 1 < j) ∨ (p < 0 ∨ 2 < p) then (-2, 0, r) else if wf r x.toNatClampNeg 0 ≤ y then (if wf r x.toNatClampNeg 1 = 1 then (r (69 + 6 * j.toNatClampNeg + p.toNatClampNeg), 6, uw r x.toNatClampNeg (10 + 3 * j.toNatClampNeg + p.toNatClampNeg) (r (69 + 6 * j.toNatClampNeg + p.toNatClampNeg))) else (-3, 2, r)) else (-6, 1, r)
def oLimit (r : Row) (x : Int32) : Oc := if x < 1 ∨ 20 < x then (-2, 0, r) else (r 1, 6, upd r 1 x)
def rdF (r : Row) (j p : Nat) : Int32 := fN (vis r p) (plN r j p) (stN r p - plN r j p)
def oReads (r : Row) (j p : Int32) : Oc := if (j < 0 ∨ 1 < j) ∨ (p < 0 ∨ 2 < p) then (-2, 0, r) else if rdF r j.toNatClampNeg p.toNatClampNeg = -1 then (-1, 5, r) else (ce r p.toNatClampNeg (rdF r j.toNatClampNeg p.toNatClampNeg).toNatClampNeg 4, 6, upd r (69 + 6 * j.toNatClampNeg + p.toNatClampNeg) (rdF r j.toNatClampNeg p.toNatClampNeg + 1))
def rw1 (r : Row) (j p : Nat) : Row := upd r (69 + 6 * j + p) (r (69 + 6 * j + p + 3))
def rwC (r : Row) (j p : Nat) : Int32 := if r (69 + 6 * j + p) = r (69 + 6 * j + p + 3) then 0 else 1
def rwR (r : Row) (j : Nat) : Row := rw1 (rw1 (rw1 r j 0) j 1) j 2
def rwA (r : Row) (j : Nat) : Int32 := ((0 + rwC r j 0) + rwC (rw1 r j 0) j 1) + rwC (rw1 (rw1 r j 0) j 1) j 2
def oRewinds (r : Row) (j : Int32) : Oc := if j < 0 ∨ 1 < j then (-2, 0, r) else (rwA r j.toNatClampNeg, 6, rwR r j.toNatClampNeg)
theorem fN_in (P : Nat → Bool) : ∀ (m k : Nat), fN P k m = -1 ∨ ∃ i, k ≤ i ∧ i < k + m ∧ fN P k m = nI i ∧ P i = true
  | 0, k => Or.inl rfl
  | m + 1, k => by
    by_cases h : P k = true
    · exact Or.inr ⟨k, by omega, by omega, by simp [fN, h], h⟩
    · rcases fN_in P m (k + 1) with e | ⟨i, h1, h2, h3, h4⟩
      · exact Or.inl (by simp [fN, h, e])
      · exact Or.inr ⟨i, by omega, by omega, by simp [fN, h, h3], h4⟩
section
variable {a b : xA} {r : Row} {h0 : Int64}
theorem cR_isAge {Q : Int32 → xM → Prop} {x y : Int32} (h1 : ∀ w, w < 4 → x = nI w → ¬ badAge r x y → Q 1 (mN a b r h0)) (h2 : badAge r x y → Q 0 (mN a b r h0)) : CI mX6_isAge [vR 6 0 0, vI x, vI y] (mN a b r h0) Q := by
  refine eX6_isAge (cR_isWriter (fun w hw e => ⟨fun z => absurd z (by decide), fun _ => ?_⟩) (fun z => ⟨fun _ => h2 (Or.inl z), fun q => absurd rfl q⟩))
  refine cR_of (f := 0) e rfl hw (by decide) ?_
  have ew : x.toNatClampNeg = w := by rw [e, nI_clamp (by omega)]
  refine cR_in (fun u v => ⟨fun z => absurd z (by decide), fun _ => h1 w hw e ?_⟩) (fun u => ⟨fun _ => h2 (Or.inr ?_), fun q => absurd rfl q⟩)
  · rintro (z | z)
    · rw [e] at z; exact notIn (n := 3) (by decide) (by omega) z
    · rw [ew] at z; exact z.elim u v
  · rw [ew]; exact u
theorem er {Q : Int32 → xM → Prop} {o : Oc} {x : Int32} {i : Nat} (hq : Q o.1 (mN a (apB b r o) (apR r o) h0)) (ho : o = (x, i, r)) (hi : i < 5) : Q x (a, (rErr (xNow b r) i, h0)) := by
  subst ho
  rw [rErr_now]
  have e1 : apB b r (x, i, r) = rErr b i := by simp [apB, hi]
  have e2 : apR r (x, i, r) = r := by unfold apR; split <;> rfl
  rw [e1, e2] at hq
  exact hq
theorem ek {Q : Int32 → xM → Prop} {o : Oc} {x : Int32} {r' : Row} (hq : Q o.1 (mN a (apB b r o) (apR r o) h0)) (ho : o = (x, 6, r')) : Q x (mN a (ntB b r) r' h0) := by
  subst ho
  have e1 : apB b r (x, 6, r') = ntB b r := by simp [apB]
  have e2 : apR r (x, 6, r') = r' := by simp [apR]
  rw [e1, e2] at hq
  exact hq
theorem en {Q : Int32 → xM → Prop} {o : Oc} {x : Int32} (hq : Q o.1 (mN a (apB b r o) (apR r o) h0)) (ho : o = (x, 5, r)) : Q x (mN a b r h0) := by
  subst ho
  have e1 : apB b r (x, 5, r) = b := by simp [apB]
  have e2 : apR r (x, 5, r) = r := by simp [apR]
  rw [e1, e2] at hq
  exact hq
theorem nI3 {w : Nat} (hw : w < 4) : ¬ (nI w < 0 ∨ 3 < nI w) := notIn (n := 3) (by decide) (by omega)
theorem nI2 {w : Nat} (hw : w < 3) : ¬ (nI w < 0 ∨ 2 < nI w) := notIn (n := 2) (by decide) (by omega)
theorem nI1 {w : Nat} (hw : w < 2) : ¬ (nI w < 0 ∨ 1 < nI w) := notIn (n := 1) (by decide) (by omega)
theorem cR_begins {Q : Int32 → xM → Prop} {x : Int32} {q : Nat} (hs : b 6 0 0 2 = nI q) (hq6 : q ≤ 6) (hq : Q (oBegins r x).1 (mN a (apB b r (oBegins r x)) (apR r (oBegins r x)) h0)) : CI mX6_begins [vR 6 0 0, vI x] (mN a b r h0) Q := by
  refine eX6_begins (cR_isWriter (fun w hw e => ⟨fun _ => ?_, fun z => absurd z (by decide)⟩) (fun z => ⟨fun q => absurd rfl q, fun _ => cR_bad (er hq (by simp [oBegins, z]) (by decide))⟩))
  subst e
  have ew : (nI w).toNatClampNeg = w := nI_clamp (by omega)
  have hv := nI3 hw
  refine cR_of (f := 1) rfl rfl hw (by decide) ⟨fun y => ?_, fun y => cR_refuse (i := 2) rfl (by decide) (er hq (by simp [oBegins, hv, ew, y]) (by decide))⟩
  refine cR_of (f := 0) rfl rfl hw (by decide) ⟨fun x => ?_, fun x => cR_refuse (i := 4) rfl (by decide) (er hq (by simp [oBegins, hv, ew, y, x]) (by decide))⟩
  refine cR_notes hs hq6 (cR_of (f := 0) rfl rfl hw (by decide) (cR_lays (f := 0) rfl rfl hw (by decide) (cR_of (f := 1) rfl rfl hw (by decide) ⟨fun u => cR_of (f := 0) rfl rfl hw (by decide) (ek hq ?_), fun u => cR_endDeed rfl hw (cR_of (f := 0) rfl rfl hw (by decide) (ek hq ?_))⟩)))
  · simp [oBegins, hv, ew, y, x, bgR, u]
  · simp [oBegins, hv, ew, y, x, bgR, u]
theorem cR_opens {Q : Int32 → xM → Prop} {x y : Int32} {q : Nat} (hs : b 6 0 0 2 = nI q) (hq6 : q ≤ 6) (hq : Q (oOpens r x y).1 (mN a (apB b r (oOpens r x y)) (apR r (oOpens r x y)) h0)) : CI mX6_opens [vR 6 0 0, vI x, vI y] (mN a b r h0) Q := by
  refine eX6_opens (cR_isAge (fun w hw e hb => ⟨fun _ => ?_, fun z => absurd z (by decide)⟩) (fun z => ⟨fun q => absurd rfl q, fun _ => cR_bad (er hq (by simp [oOpens, z]) (by decide))⟩))
  subst e
  have ew : (nI w).toNatClampNeg = w := nI_clamp (by omega)
  refine cR_of (f := 0) rfl rfl hw (by decide) ⟨fun u => ?_, fun u => cR_refuse (i := 1) rfl (by decide) (er hq (by rw [oOpens, if_neg hb, ew, if_neg u]) (by decide))⟩
  refine cR_of (f := 1) rfl rfl hw (by decide) ⟨fun v => ?_, fun v => cR_refuse (i := 2) rfl (by decide) (er hq (by rw [oOpens, if_neg hb, ew, if_pos u, if_neg v]) (by decide))⟩
  have hk := ek (x := nI (maN (opR r w) 1)) (r' := opR r w) hq (by rw [oOpens, if_neg hb, ew, if_pos u, if_pos v])
  refine cR_notes hs hq6 (cR_lays (f := 1) rfl rfl hw (by decide) (cR_lays (f := 2) rfl rfl hw (by decide) (cR_lays (f := 3) rfl rfl hw (by decide) ⟨vp_in_nI (n := 0) (by decide) (by decide), cR_lays (f := 5) rfl rfl hw (by decide) ?_⟩)))
  have key : ∀ m k, k + m = 6 → xOk mX6_opens 88 [(0, vR 6 0 0), (1, vI (nI w)), (3, vI (nI k))] [] (mN a (ntB b r) (op1 (op0 r w) w k) h0) (qI Q) := by
    intro m
    induction m with
    | zero =>
      intro k hk6
      have hk6 : k = 6 := hk6
      subst hk6
      exact rX6_opens_88 ⟨fun _ => cR_manyAre hk, fun z => absurd (by decide) z⟩
    | succ m ih =>
      intro k hk6
      refine rX6_opens_88 ⟨fun z => absurd z (n6 (by omega)), fun _ => cR_lays (f := 10 + k) rfl (by rw [lit 10, nI_add]) hw (by omega) ?_⟩
      rw [nI_1]
      exact ih (k + 1) (by omega)
  exact key 6 0 rfl
theorem cR_ends {Q : Int32 → xM → Prop} {x y c : Int32} {q : Nat} (hs : b 6 0 0 2 = nI q) (hq6 : q ≤ 6) (hq : Q (oEnds r x y c).1 (mN a (apB b r (oEnds r x y c)) (apR r (oEnds r x y c)) h0)) : CI mX6_ends [vR 6 0 0, vI x, vI y, vI c] (mN a b r h0) Q := by
  refine eX6_ends (cR_isAge (fun w hw e hb => ⟨fun z => absurd z (by decide), fun _ => ?_⟩) (fun z => ⟨fun _ => cR_bad (er hq (by rw [oEnds, if_pos (Or.inl z)]) (by decide)), fun q => absurd rfl q⟩))
  refine cR_in (fun c1 c2 => ⟨fun _ => ?_, fun z => absurd z (by decide)⟩) (fun z => ⟨fun q => absurd rfl q, fun _ => cR_bad (er hq (by rw [oEnds, if_pos (Or.inr z)]) (by decide))⟩)
  have hb2 : ¬ (badAge r x y ∨ (c < 0 ∨ 1 < c)) := fun z => z.elim hb (fun z => z.elim c1 c2)
  subst e
  have ew : (nI w).toNatClampNeg = w := nI_clamp (by omega)
  refine cR_of (f := 0) rfl rfl hw (by decide) ⟨fun u => ?_, fun u => cR_refuse (i := 1) rfl (by decide) (er hq (by rw [oEnds, if_neg hb2, ew, if_neg u]) (by decide))⟩
  refine cR_of (f := 1) rfl rfl hw (by decide) ⟨fun v => ?_, fun v => cR_refuse (i := 2) rfl (by decide) (er hq (by rw [oEnds, if_neg hb2, ew, if_pos u, if_neg v]) (by decide))⟩
  exact cR_notes hs hq6 (cR_of (f := 2) rfl rfl hw (by decide) (cR_bits (cR_endDeed rfl hw (ek hq (by rw [oEnds, if_neg hb2, ew, if_pos u, if_pos v])))))
theorem cR_carries {Q : Int32 → xM → Prop} {x y j p : Int32} {q : Nat} (hs : b 6 0 0 2 = nI q) (hq6 : q ≤ 6) (hq : Q (oCarries r x y j p).1 (mN a (apB b r (oCarries r x y j p)) (apR r (oCarries r x y j p)) h0)) : CI mX6_carries [vR 6 0 0, vI x, vI y, vI j, vI p] (mN a b r h0) Q := by
  refine eX6_carries (cR_isAge (fun w hw e hb => ⟨fun z => absurd z (by decide), fun _ => ?_⟩) (fun z => ⟨fun _ => cR_bad (er hq (by rw [oCarries, if_pos (Or.inl z)]) (by decide)), fun q => absurd rfl q⟩))
  refine cR_isReader (fun j' hj ej => ⟨fun z => absurd z (by decide), fun _ => ?_⟩) (fun z => ⟨fun _ => cR_bad (er hq (by rw [oCarries, if_pos (Or.inr (Or.inl z))]) (by decide)), fun q => absurd rfl q⟩)
  refine cR_isPart (fun p' hp ep => ⟨fun _ => ?_, fun z => absurd z (by decide)⟩) (fun z => ⟨fun q => absurd rfl q, fun _ => cR_bad (er hq (by rw [oCarries, if_pos (Or.inr (Or.inr z))]) (by decide))⟩)
  subst ej; subst ep
  have hb2 : ¬ (badAge r x y ∨ (nI j' < 0 ∨ 1 < nI j') ∨ (nI p' < 0 ∨ 2 < nI p')) := fun z => z.elim hb (fun z => z.elim (nI1 hj) (nI2 hp))
  subst e
  have ew : (nI w).toNatClampNeg = w := nI_clamp (by omega)
  have ej : (nI j').toNatClampNeg = j' := nI_clamp (by omega)
  have ep : (nI p').toNatClampNeg = p' := nI_clamp (by omega)
  refine cR_of (f := 0) rfl rfl hw (by decide) ⟨fun u => ?_, fun u => cR_refuse (i := 1) rfl (by decide) (er hq (by rw [oCarries, if_neg hb2, ew, if_neg u]) (by decide))⟩
  refine cR_of (f := 1) rfl rfl hw (by decide) ⟨fun v => ?_, fun v => cR_refuse (i := 2) rfl (by decide) (er hq (by rw [oCarries, if_neg hb2, ew, if_pos u, if_neg v]) (by decide))⟩
  have hk := ek (x := r (69 + 6 * j' + p')) (r' := uw r w (10 + 3 * j' + p') (r (69 + 6 * j' + p'))) hq (by rw [oCarries, if_neg hb2, ew, if_pos u, if_pos v, ej, ep])
  refine cR_notes hs hq6 ?_
  rw [posIx]
  refine ⟨vp_in_nI (by omega) (by decide), ?_⟩
  rw [nI_clamp (by omega)]
  exact cR_lays (f := 10 + 3 * j' + p') rfl (by rw [lit 10, lit 3, pk_mul, nI_add, nI_add]) hw (by omega) hk
theorem cR_limit {Q : Int32 → xM → Prop} {x : Int32} {q : Nat} (hs : b 6 0 0 2 = nI q) (hq6 : q ≤ 6) (hq : Q (oLimit r x).1 (mN a (apB b r (oLimit r x)) (apR r (oLimit r x)) h0)) : CI mX6_limit [vR 6 0 0, vI x] (mN a b r h0) Q := by
  refine eX6_limit (cR_in (fun c1 c2 => ⟨fun _ => ?_, fun z => absurd z (by decide)⟩) (fun z => ⟨fun q => absurd rfl q, fun _ => cR_bad (er hq (by rw [oLimit, if_pos z]) (by decide))⟩))
  have hb : ¬ (x < 1 ∨ 20 < x) := fun z => z.elim c1 c2
  have hk := ek (x := r 1) (r' := upd r 1 x) hq (by rw [oLimit, if_neg hb])
  refine cR_notes hs hq6 ⟨vp_in_nI (n := 1) (by decide) (by decide), vp_in_nI (n := 1) (by decide) (by decide), ?_⟩
  show Q (r 1) (a, (xUp (xNow (ntB b r) r) 30 0 0 1 x, h0))
  rw [xNow_up]
  exact hk
theorem cR_reads {Q : Int32 → xM → Prop} {j p : Int32} {q : Nat} (hR : WR r) (hs : b 6 0 0 2 = nI q) (hq6 : q ≤ 6) (hq : Q (oReads r j p).1 (mN a (apB b r (oReads r j p)) (apR r (oReads r j p)) h0)) : CI mX6_reads [vR 6 0 0, vI j, vI p] (mN a b r h0) Q := by
  refine eX6_reads (cR_isReader (fun j' hj ej => ⟨fun z => absurd z (by decide), fun _ => ?_⟩) (fun z => ⟨fun _ => cR_bad (er hq (by rw [oReads, if_pos (Or.inl z)]) (by decide)), fun q => absurd rfl q⟩))
  refine cR_isPart (fun p' hp ep => ⟨fun _ => ?_, fun z => absurd z (by decide)⟩) (fun z => ⟨fun q => absurd rfl q, fun _ => cR_bad (er hq (by rw [oReads, if_pos (Or.inr z)]) (by decide))⟩)
  subst ej; subst ep
  have hb2 : ¬ ((nI j' < 0 ∨ 1 < nI j') ∨ (nI p' < 0 ∨ 2 < nI p')) := fun z => z.elim (nI1 hj) (nI2 hp)
  have ej : (nI j').toNatClampNeg = j' := nI_clamp (by omega)
  have ep : (nI p').toNatClampNeg = p' := nI_clamp (by omega)
  obtain ⟨s1, s2⟩ := hR.pl hj hp
  obtain ⟨t1, t2⟩ := hR.st hp
  rw [posIx, nI_clamp (by omega)]
  refine ⟨vp_in_nI (by omega) (by decide), ?_⟩
  refine cR_firstSeen (k := plN r j' p') hR rfl s2 hp s1 ?_
  refine ⟨fun z => ?_, fun z => en hq (by rw [oReads, if_neg hb2, ej, ep, if_pos (show rdF r j' p' = -1 from z)])⟩
  have hk := ek hq (by rw [oReads, if_neg hb2, ej, ep, if_neg (show ¬ rdF r j' p' = -1 from z)])
  refine cR_notes hs hq6 ⟨vp_in_nI (by omega) (by decide), ?_⟩
  rcases fN_in (vis r p') (stN r p' - plN r j' p') (plN r j' p') with e | ⟨i, i1, i2, i3, -⟩
  · exact absurd e z
  · have e4 : rdF r j' p' = nI i := i3
    rw [e4, nI_clamp (by omega)] at hk
    rw [i3, xNow_up]
    exact cR_cellOf (f := 4) rfl rfl rfl hp (by omega) (by decide) (by
      have e5 : ce (upd r (69 + 6 * j' + p') (nI i + 1)) p' i 4 = ce r p' i 4 := by
        unfold ce upd
        rw [if_neg (by omega)]
      rw [e5]; exact hk)
theorem cR_rewinds {Q : Int32 → xM → Prop} {j : Int32} {q : Nat} (hs : b 6 0 0 2 = nI q) (hq6 : q ≤ 6) (hq : Q (oRewinds r j).1 (mN a (apB b r (oRewinds r j)) (apR r (oRewinds r j)) h0)) : CI mX6_rewinds [vR 6 0 0, vI j] (mN a b r h0) Q := by
  refine eX6_rewinds (cR_isReader (fun j' hj ej => ⟨fun _ => ?_, fun z => absurd z (by decide)⟩) (fun z => ⟨fun q => absurd rfl q, fun _ => cR_bad (er hq (by rw [oRewinds, if_pos z]) (by decide))⟩))
  subst ej
  have ej : (nI j').toNatClampNeg = j' := nI_clamp (by omega)
  have hk := ek hq (by rw [oRewinds, if_neg (nI1 hj), ej])
  have step : ∀ (p : Nat) (x2 : Int32) (r : Row) (b : xA), p < 3 → xOk mX6_rewinds 20 [(0, vR 6 0 0), (1, vI (nI j')), (2, vI (x2 + rwC r j' p)), (3, vI (nI (p + 1)))] [] (mN a b (rw1 r j' p) h0) (qI Q) → xOk mX6_rewinds 20 [(0, vR 6 0 0), (1, vI (nI j')), (2, vI x2), (3, vI (nI p))] [] (mN a b r h0) (qI Q) := by
    intro p x2 r b hp hn
    have e3 : nI (69 + 6 * j' + p) + (3 : Int32) = nI (69 + 6 * j' + p + 3) := nI_add _ 3
    refine rX6_rewinds_20 ⟨fun z => absurd z (n3 hp), fun _ => ?_⟩
    rw [posIx, e3, nI_clamp (by omega), nI_clamp (by omega)]
    refine ⟨vp_in_nI (by omega) (by decide), vp_in_nI (by omega) (by decide), fun z => ?_, fun z => ?_⟩
    · have z' : ¬ r (69 + 6 * j' + p) = r (69 + 6 * j' + p + 3) := z
      refine rX6_rewinds_61 ?_
      rw [e3, nI_clamp (by omega), nI_clamp (by omega), xNow_up, nI_1]
      refine ⟨vp_in_nI (by omega) (by decide), vp_in_nI (by omega) (by decide), ?_⟩
      rw [rwC, if_neg z'] at hn
      exact hn
    · have z' : r (69 + 6 * j' + p) = r (69 + 6 * j' + p + 3) := z
      refine rX6_rewinds_61 ?_
      rw [e3, nI_clamp (by omega), nI_clamp (by omega), xNow_up, nI_1]
      refine ⟨vp_in_nI (by omega) (by decide), vp_in_nI (by omega) (by decide), ?_⟩
      rw [rwC, if_pos z'] at hn
      exact hn
  refine cR_notes hs hq6 (step 0 0 _ _ (by decide) (step 1 _ _ _ (by decide) (step 2 _ _ _ (by decide) (rX6_rewinds_20 ⟨fun _ => hk, fun z => absurd (by decide) z⟩))))
end
