/-! THE REFERENCE: its row of numbers r, and what its methods answer of it -/
theorem lit (n : Nat) : (OfNat.ofNat n : Int32) = nI n := rfl
theorem qe {Q : Int32 → xM → Prop} {x y : Int32} {μ : xM} (h : Q x μ) (e : x = y) : Q y μ := e ▸ h
theorem qeL {Q : Int64 → xM → Prop} {x y : Int64} {μ : xM} (h : Q x μ) (e : x = y) : Q y μ := e ▸ h
abbrev Row : Type := Nat → Int32
def xNow (b : xA) (r : Row) : xA := fun k s w j => if k = 30 ∧ s = 0 ∧ w = 0 then r j else b k s w j
abbrev mN (a b : xA) (r : Row) (h : Int64) : xM := (a, (xNow b r, h))
theorem xNow_self (b : xA) : xNow b (b 30 0 0) = b := by
  funext k s w j
  unfold xNow
  split
  · rename_i h; obtain ⟨rfl, rfl, rfl⟩ := h; rfl
  · rfl
theorem xNow_now (b : xA) (r : Row) : xNow b r 30 0 0 = r := rfl
theorem xNow_ne (b : xA) (r : Row) {k s w : Nat} (h : k ≠ 30) : xNow b r k s w = b k s w := by
  funext j
  unfold xNow
  rw [if_neg (fun z => h z.1)]
theorem xNow_now2 (b : xA) (r r' : Row) : xNow (xNow b r) r' = xNow b r' := by
  funext k s w j
  unfold xNow
  split <;> rfl
theorem xNow_up (b : xA) (r : Row) (i : Nat) (v : Int32) : xUp (xNow b r) 30 0 0 i v = xNow b (upd r i v) := by
  funext k s w j
  unfold xUp xNow upd
  by_cases h : k = 30 ∧ s = 0 ∧ w = 0
  · obtain ⟨rfl, rfl, rfl⟩ := h
    simp
  · rw [if_neg h, if_neg h, if_neg]
    rintro ⟨h1, h2, h3, -⟩
    exact h ⟨h1, h2, h3⟩
theorem xNow_upO (b : xA) (r : Row) {k : Nat} (hk : k ≠ 30) (s w i : Nat) (v : Int32) : xUp (xNow b r) k s w i v = xNow (xUp b k s w i v) r := by
  funext k' s' w' j
  unfold xUp xNow
  by_cases h : k' = 30 ∧ s' = 0 ∧ w' = 0
  · obtain ⟨rfl, rfl, rfl⟩ := h
    simp [Ne.symm hk]
  · rw [if_neg h, if_neg h]
def wf (r : Row) (w f : Nat) : Int32 := r (2 + 16 * w + f)
def ce (r : Row) (p k f : Nat) : Int32 := r (81 + 288 * p + 6 * k + f)
def uw (r : Row) (w f : Nat) (v : Int32) : Row := upd r (2 + 16 * w + f) v
def uc (r : Row) (p k f : Nat) (v : Int32) : Row := upd r (81 + 288 * p + 6 * k + f) v
section
variable {a b : xA} {r : Row} {h0 : Int64}
theorem cR_of {Q : Int32 → xM → Prop} {x1 x2 : Int32} {w f : Nat} (e1 : x1 = nI w) (e2 : x2 = nI f) (hw : w < 4) (hf : f < 16) (hq : Q (wf r w f) (mN a b r h0)) : CI mX6_of [vR 6 0 0, vI x1, vI x2] (mN a b r h0) Q := by
  subst e1; subst e2
  refine eX6_of ?_
  rw [show ((2 : Int32) + ((16 : Int32) * nI w)) + nI f = nI (2 + 16 * w + f) by rw [lit 2, lit 16, pk_mul, nI_add, nI_add]]
  refine ⟨vp_in_nI (by omega) (by decide), ?_⟩
  rw [nI_clamp (by omega)]
  exact hq
theorem cR_lays {Q : xM → Prop} {x1 x2 v : Int32} {w f : Nat} (e1 : x1 = nI w) (e2 : x2 = nI f) (hw : w < 4) (hf : f < 16) (hq : Q (mN a b (uw r w f v) h0)) : CV mX6_lays [vR 6 0 0, vI x1, vI x2, vI v] (mN a b r h0) Q := by
  subst e1; subst e2
  refine eX6_lays ?_
  rw [show ((2 : Int32) + ((16 : Int32) * nI w)) + nI f = nI (2 + 16 * w + f) by rw [lit 2, lit 16, pk_mul, nI_add, nI_add]]
  refine ⟨vp_in_nI (by omega) (by decide), ?_⟩
  rw [nI_clamp (by omega), xNow_up]
  exact hq
theorem cR_sizeOf {Q : Int32 → xM → Prop} {x1 : Int32} {p : Nat} (e1 : x1 = nI p) (hp : p < 3) (hq : Q (r (66 + p)) (mN a b r h0)) : CI mX6_sizeOf [vR 6 0 0, vI x1] (mN a b r h0) Q := by
  subst e1
  refine eX6_sizeOf ?_
  rw [show (66 : Int32) + nI p = nI (66 + p) by rw [lit 66, nI_add]]
  refine ⟨vp_in_nI (by omega) (by decide), ?_⟩
  rw [nI_clamp (by omega)]
  exact hq
theorem cellIx {p k f : Nat} : (((81 : Int32) + ((288 : Int32) * nI p)) + ((6 : Int32) * nI k)) + nI f = nI (81 + 288 * p + 6 * k + f) := by rw [lit 81, lit 288, lit 6, pk_mul, pk_mul, nI_add, nI_add, nI_add]
theorem cR_cellOf {Q : Int32 → xM → Prop} {x1 x2 x3 : Int32} {p k f : Nat} (e1 : x1 = nI p) (e2 : x2 = nI k) (e3 : x3 = nI f) (hp : p < 3) (hk : k < 48) (hf : f < 6) (hq : Q (ce r p k f) (mN a b r h0)) : CI mX6_cellOf [vR 6 0 0, vI x1, vI x2, vI x3] (mN a b r h0) Q := by
  subst e1; subst e2; subst e3
  refine eX6_cellOf ?_
  rw [cellIx]
  refine ⟨vp_in_nI (by omega) (by decide), ?_⟩
  rw [nI_clamp (by omega)]
  exact hq
theorem cR_put {Q : xM → Prop} {x1 x2 x3 v : Int32} {p k f : Nat} (e1 : x1 = nI p) (e2 : x2 = nI k) (e3 : x3 = nI f) (hp : p < 3) (hk : k < 48) (hf : f < 6) (hq : Q (mN a b (uc r p k f v) h0)) : CV mX6_put [vR 6 0 0, vI x1, vI x2, vI x3, vI v] (mN a b r h0) Q := by
  subst e1; subst e2; subst e3
  refine eX6_put ?_
  rw [cellIx]
  refine ⟨vp_in_nI (by omega) (by decide), ?_⟩
  rw [nI_clamp (by omega), xNow_up]
  exact hq
theorem cR_in {Q : Int32 → xM → Prop} {μ : xM} {x lo hi : Int32} (h1 : ¬ x < lo → ¬ hi < x → Q 1 μ) (h2 : x < lo ∨ hi < x → Q 0 μ) : CI mX6_in [vI x, vI lo, vI hi] μ Q :=
  eX6_in (a := μ.1) (b := μ.2.1) (h0 := μ.2.2) ⟨fun z => h2 (Or.inl z), fun z => ⟨fun y => h2 (Or.inr y), fun y => h1 z y⟩⟩
theorem inN {x : Int32} {n : Nat} (hn : n < 2 ^ 31) (h1 : ¬ x < 0) (h2 : ¬ nI n < x) : ∃ k, k ≤ n ∧ x = nI k := by
  obtain ⟨k, hk, rfl⟩ := nI_of h1
  refine ⟨k, ?_, rfl⟩
  have := mt (nI_ltI hn hk).mpr h2
  omega
theorem notIn {k n : Nat} (hn : n < 2 ^ 31) (h : k ≤ n) : ¬ (nI k < 0 ∨ nI n < nI k) := by
  rintro (z | z)
  · exact nI_pos (by omega) z
  · exact nI_nlt h hn z
def rErr (b : xA) (i : Nat) : xA := xUp b 32 0 0 i (b 32 0 0 i + 1)
theorem cR_refuse {Q : Int32 → xM → Prop} {x1 v : Int32} {i : Nat} (e1 : x1 = nI i) (hi : i < 5) (hq : Q v (a, (rErr b i, h0))) : CI mX6_refuse [vR 6 0 0, vI x1, vI v] (a, (b, h0)) Q := by
  subst e1
  refine eX6_refuse ⟨vp_in_nI hi (by decide), vp_in_nI hi (by decide), ?_⟩
  rw [nI_clamp (by omega)]
  exact hq
theorem cR_bad {Q : Int32 → xM → Prop} (hq : Q (-2) (a, (rErr b 0, h0))) : CI mX6_bad [vR 6 0 0] (a, (b, h0)) Q := eX6_bad (cR_refuse (i := 0) rfl (by decide) hq)
theorem cR_isWriter {Q : Int32 → xM → Prop} {μ : xM} {x : Int32} (h1 : ∀ w, w < 4 → x = nI w → Q 1 μ) (h2 : x < 0 ∨ 3 < x → Q 0 μ) : CI mX6_isWriter [vI x] μ Q := by
  refine eX6_isWriter (a := μ.1) (b := μ.2.1) (h0 := μ.2.2) (cR_in (fun z y => ⟨Or.inr rfl, ?_⟩) (fun z => ⟨Or.inl rfl, h2 z⟩))
  obtain ⟨k, hk, e⟩ := inN (n := 3) (by decide) z y
  exact h1 k (by omega) e
theorem cR_isPart {Q : Int32 → xM → Prop} {μ : xM} {x : Int32} (h1 : ∀ w, w < 3 → x = nI w → Q 1 μ) (h2 : x < 0 ∨ 2 < x → Q 0 μ) : CI mX6_isPart [vI x] μ Q := by
  refine eX6_isPart (a := μ.1) (b := μ.2.1) (h0 := μ.2.2) (cR_in (fun z y => ⟨Or.inr rfl, ?_⟩) (fun z => ⟨Or.inl rfl, h2 z⟩))
  obtain ⟨k, hk, e⟩ := inN (n := 2) (by decide) z y
  exact h1 k (by omega) e
theorem cR_isReader {Q : Int32 → xM → Prop} {μ : xM} {x : Int32} (h1 : ∀ w, w < 2 → x = nI w → Q 1 μ) (h2 : x < 0 ∨ 1 < x → Q 0 μ) : CI mX6_isReader [vI x] μ Q := by
  refine eX6_isReader (a := μ.1) (b := μ.2.1) (h0 := μ.2.2) (cR_in (fun z y => ⟨Or.inr rfl, ?_⟩) (fun z => ⟨Or.inl rfl, h2 z⟩))
  obtain ⟨k, hk, e⟩ := inN (n := 1) (by decide) z y
  exact h1 k (by omega) e
/-- a bit of a set -/
def bitAt (x : Int32) (p : Nat) : Bool := decide ((x >>> (nI p &&& 31)) &&& 1 = 1)
theorem cR_has {Q : Int32 → xM → Prop} {μ : xM} {x y : Int32} {p : Nat} (e : y = nI p) (h1 : bitAt x p = true → Q 1 μ) (h2 : bitAt x p = false → Q 0 μ) : CI mX6_has [vI x, vI y] μ Q := by
  subst e
  refine eX6_has (a := μ.1) (b := μ.2.1) (h0 := μ.2.2) ⟨fun z => h2 ?_, fun z => h1 ?_⟩
  · simp only [bitAt, decide_eq_false_iff_not]; exact z
  · simp only [bitAt, decide_eq_true_eq]; exact z
def bitsI (x : Int32) : Int32 := ((0 + ((x >>> (nI 0 &&& 31)) &&& 1)) + ((x >>> (nI 1 &&& 31)) &&& 1)) + ((x >>> (nI 2 &&& 31)) &&& 1)
theorem cR_bits {Q : Int32 → xM → Prop} {μ : xM} {x : Int32} (hq : Q (bitsI x) μ) : CI mX6_bits [vI x] μ Q := by
  refine eX6_bits (a := μ.1) (b := μ.2.1) (h0 := μ.2.2) ?_
  refine rX6_bits_4 ⟨fun z => absurd z (by decide), fun _ => ?_⟩
  refine rX6_bits_4 ⟨fun z => absurd z (by decide), fun _ => ?_⟩
  refine rX6_bits_4 ⟨fun z => absurd z (by decide), fun _ => ?_⟩
  refine rX6_bits_4 ⟨fun _ => hq, fun z => absurd (by decide) z⟩
/-- the deed of w lacks a mark in p -/
def lk (r : Row) (w p : Nat) : Bool := decide (¬ wf r w 1 = 0) && (bitAt (wf r w 2) p && !bitAt (wf r w 3) p)
theorem cR_lacksMark {Q : Int32 → xM → Prop} {x1 x2 : Int32} {w p : Nat} (e1 : x1 = nI w) (e2 : x2 = nI p) (hw : w < 4) (h1 : lk r w p = true → Q 1 (mN a b r h0)) (h2 : lk r w p = false → Q 0 (mN a b r h0)) : CI mX6_lacksMark [vR 6 0 0, vI x1, vI x2] (mN a b r h0) Q := by
  refine eX6_lacksMark ?_
  refine cR_of (f := 1) e1 rfl hw (by decide) ⟨fun z => h2 ?_, fun z => ?_⟩
  · simp [lk, z]
  refine cR_of (f := 2) e1 rfl hw (by decide) ?_
  refine cR_has e2 (fun y => ⟨fun q => absurd q (by decide), fun _ => ?_⟩) (fun y => ⟨fun _ => h2 (by simp [lk, y]), fun q => absurd rfl q⟩)
  refine cR_of (f := 3) e1 rfl hw (by decide) ?_
  refine cR_has e2 (fun x => ⟨fun _ => h2 ?_, fun q => absurd q (by decide)⟩) (fun x => ⟨fun q => absurd rfl q, fun _ => h1 ?_⟩)
  · simp [lk, x]
  · simp [lk, x, y, z]
end
