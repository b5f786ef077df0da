theorem nqI {q c : Nat} (hq : q < 2 ^ 31) (hc : c < 2 ^ 31) (h : nI q = nI c) : q = c := (nI_eq hq hc).mp h
def owN (r : Row) (p : Nat) : Nat := cN (fun w => lk r w p || decide (wf r w 1 = 1)) 0 4
def maN (r : Row) (x : Int32) : Nat := cN (fun w => decide (wf r w 1 = x)) 0 4
def toC (r : Row) (w : Nat) : Int32 := if wf r w 1 = 2 then bitsI (wf r w 2 &&& (wf r w 3 ^^^ (-1))) else 0
def ab (r : Row) (p k : Nat) : Bool := decide (ce r p k 0 = 1) && decide (ce r p k 4 = 0)
def mk (r : Row) (p k : Nat) : Bool := decide (ce r p k 0 = 1)
def ahN (r : Row) (p m : Nat) : Nat := cN (fun k => ab r p k && decide (ce r p k 5 < ce r p m 5)) 0 (szN r p)
def taF (r : Row) (p : Nat) (x : Int32) : Nat → Nat → Option Nat
  | _, 0 => none
  | k, m + 1 => if ab r p k && decide (nI (ahN r p k) = x) then some k else taF r p x (k + 1) m
def tA (r : Row) (p : Nat) (x : Int32) (q : Nat) : Int32 := match taF r p x 0 (szN r p) with
  | none => -1
  | some k => if q = 0 then ce r p k 1 else if q = 1 then ce r p k 5 else nI k
def tW (r : Row) (w q : Nat) : Int32 := if q = 0 then wf r w 0 else if q = 1 then wf r w 1 else if q = 2 then wf r w 2 else if q = 3 then toC r w else if q = 4 then (if wf r w 1 = 2 then wf r w 4 else 0) else if q = 5 then (if wf r w 1 = 1 then r 0 - wf r w 5 else -1) else duR r w (q - 6)
def tE (r : Row) (p k q : Nat) : Int32 := if q = 5 then (if ce r p k 0 = 1 then -1 else ce r p k 5) else if q = 6 then (if k < stN r p ∧ vis r p k = true then 1 else 0) else ce r p k q
def tP (r : Row) (p q : Nat) : Int32 := if q = 0 then r (66 + p) else if q = 1 then stI r p else if q = 2 then nI (cN (vis r p) 0 (stN r p)) else if q = 3 then nI (owN r p) else if q = 4 then oI (hold r p) else nI (cN (ab r p) 0 (szN r p))
def plN (r : Row) (j p : Nat) : Nat := (r (69 + 6 * j + p)).toNatClampNeg
def tR (r : Row) (j p q : Nat) : Int32 := if q = 0 then r (69 + 6 * j + p) else if q = 1 then r (69 + 6 * j + p + 3) else if q = 2 then nI (cN (vis r p) (plN r j p) (stN r p - plN r j p)) else fN (vis r p) (plN r j p) (stN r p - plN r j p)
def sum3 (f : Nat → Int32) : Int32 := ((0 + f 0) + f 1) + f 2
def sum4 (f : Nat → Int32) : Int32 := (((0 + f 0) + f 1) + f 2) + f 3
def tS (r : Row) (q p : Nat) : Int32 := if q = 4 then r (66 + p) else if q = 5 then nI (cN (mk r p) 0 (szN r p)) else nI (cN (vis r p) 0 (stN r p))
def tG (r : Row) (q : Nat) : Int32 := if q = 0 then r 0 else if q = 1 then r 1 else if q = 2 then nI (maN r 1) else if q = 3 then nI (maN r 2) else if q = 7 then sum4 (toC r) else sum3 (tS r q)
theorem WR.pl {r : Row} (h : WR r) {j p : Nat} (hj : j < 2) (hp : p < 3) : plN r j p ≤ 48 ∧ r (69 + 6 * j + p) = nI (plN r j p) := by
  obtain ⟨n, h1, h2⟩ := h.2.2 j hj p hp
  unfold plN
  rw [h2, nI_clamp (by omega)]
  exact ⟨h1, rfl⟩
section
variable {a b : xA} {r : Row} {h0 : Int64}
theorem cR_owed {Q : Int32 → xM → Prop} {x1 : Int32} {p : Nat} (e1 : x1 = nI p) (hq : Q (nI (owN r p)) (mN a b r h0)) : CI mX6_owed [vR 6 0 0, vI x1] (mN a b r h0) Q := by
  subst e1
  refine eX6_owed (loopC (Wk := fun c k => xOk mX6_owed 4 [(0, vR 6 0 0), (1, vI (nI p)), (2, vI c), (3, vI k)] [] (mN a b r h0) (qI Q)) (fun w => lk r w p || decide (wf r w 1 = 1)) 4 (fun c => Q (nI c) (mN a b r h0)) (fun c hc => rX6_owed_4 ⟨fun _ => hc, fun z => absurd (by decide) z⟩) (fun c k hk t f => ?_) 4 0 0 rfl (by rw [Nat.zero_add]; exact hq))
  refine rX6_owed_4 ⟨fun z => absurd z (n4 hk), fun _ => ?_⟩
  have e0 : nI c + (0 : Int32) = nI c := Int32.add_zero _
  refine cR_lacksMark rfl rfl hk (fun y => ⟨fun _ => ?_, fun z => absurd z (by decide)⟩) (fun y => ⟨fun z => absurd rfl z, fun _ => ?_⟩)
  · rw [nI_1, nI_1]; exact t (by simp [y])
  · refine cR_of (f := 1) rfl rfl hk (by decide) ⟨fun x => ?_, fun x => ?_⟩
    · rw [nI_1, e0]; exact f (by simp [y, x])
    · rw [nI_1, nI_1]; exact t (by simp [x])
theorem cR_manyAre {Q : Int32 → xM → Prop} {x : Int32} (hq : Q (nI (maN r x)) (mN a b r h0)) : CI mX6_manyAre [vR 6 0 0, vI x] (mN a b r h0) Q := by
  refine eX6_manyAre (loopC (Wk := fun c k => xOk mX6_manyAre 4 [(0, vR 6 0 0), (1, vI x), (2, vI c), (3, vI k)] [] (mN a b r h0) (qI Q)) (fun w => decide (wf r w 1 = x)) 4 (fun c => Q (nI c) (mN a b r h0)) (fun c hc => rX6_manyAre_4 ⟨fun _ => hc, fun z => absurd (by decide) z⟩) (fun c k hk t f => ?_) 4 0 0 rfl (by rw [Nat.zero_add]; exact hq))
  refine rX6_manyAre_4 ⟨fun z => absurd z (n4 hk), fun _ => ?_⟩
  have e0 : nI c + (0 : Int32) = nI c := Int32.add_zero _
  refine cR_of (f := 1) rfl rfl hk (by decide) ⟨fun y => ?_, fun y => ?_⟩
  · rw [nI_1, e0]; exact f (by simp [y])
  · rw [nI_1, nI_1]; exact t (by simp [y])
theorem cR_toCome {Q : Int32 → xM → Prop} {x1 : Int32} {w : Nat} (e1 : x1 = nI w) (hw : w < 4) (hq : Q (toC r w) (mN a b r h0)) : CI mX6_toCome [vR 6 0 0, vI x1] (mN a b r h0) Q := by
  unfold toC at hq
  refine eX6_toCome (cR_of (f := 1) e1 rfl hw (by decide) ⟨fun y => ?_, fun y => ?_⟩)
  · rw [if_neg y] at hq; exact hq
  · rw [if_pos y] at hq
    exact cR_of (f := 2) e1 rfl hw (by decide) (cR_of (f := 3) e1 rfl hw (by decide) (cR_bits hq))
theorem cR_isAbort {Q : Int32 → xM → Prop} {x1 x2 : Int32} {p k : Nat} (e1 : x1 = nI p) (e2 : x2 = nI k) (hp : p < 3) (hk : k < 48) (h1 : ab r p k = true → Q 1 (mN a b r h0)) (h2 : ab r p k = false → Q 0 (mN a b r h0)) : CI mX6_isAbort [vR 6 0 0, vI x1, vI x2] (mN a b r h0) Q := by
  refine eX6_isAbort (cR_cellOf (f := 0) e1 e2 rfl hp hk (by decide) ⟨fun z => h2 (by simp [ab, z]), fun z => ?_⟩)
  exact cR_cellOf (f := 4) e1 e2 rfl hp hk (by decide) ⟨fun y => h2 (by simp [ab, y]), fun y => h1 (by simp [ab, y, z])⟩
theorem cR_marks0 {Q : Int32 → xM → Prop} {x1 : Int32} {p : Nat} (hR : WR r) (e1 : x1 = nI p) (hp : p < 3) (hq : Q (nI (cN (mk r p) 0 (szN r p))) (mN a b r h0)) : CI mX6_marksIn [vR 6 0 0, vI x1, vI 0] (mN a b r h0) Q := by
  subst e1
  obtain ⟨s1, s2⟩ := hR.sz hp
  refine eX6_marksIn (loopC (Wk := fun c k => xOk mX6_marksIn 5 [(0, vR 6 0 0), (1, vI (nI p)), (2, vI 0), (3, vI c), (4, vI k)] [] (mN a b r h0) (qI Q)) (mk r p) (szN r p) (fun c => Q (nI c) (mN a b r h0)) (fun c hc => rX6_marksIn_5 (cR_sizeOf rfl hp ?_)) (fun c k hk t f => rX6_marksIn_5 (cR_sizeOf rfl hp ?_)) (szN r p) 0 0 (by omega) (by rw [Nat.zero_add]; exact hq))
  · rw [s2]; exact ⟨fun _ => hc, fun z => absurd (Int32.le_refl _) z⟩
  · rw [s2]
    have e0 : nI c + (0 : Int32) = nI c := Int32.add_zero _
    refine ⟨fun z => absurd z (nI_ge hk (by omega)), fun _ => ?_⟩
    refine cR_cellOf (f := 0) rfl rfl rfl hp (by omega) (by decide) ⟨fun y => ?_, fun y => ⟨fun _ => ?_, fun z => absurd rfl z⟩⟩
    · rw [nI_1, e0]; exact f (by simp [mk, y])
    · rw [nI_1, nI_1]; exact t (by simp [mk, y])
theorem cR_marks1 {Q : Int32 → xM → Prop} {x1 : Int32} {p : Nat} (hR : WR r) (e1 : x1 = nI p) (hp : p < 3) (hq : Q (nI (cN (ab r p) 0 (szN r p))) (mN a b r h0)) : CI mX6_marksIn [vR 6 0 0, vI x1, vI 1] (mN a b r h0) Q := by
  subst e1
  obtain ⟨s1, s2⟩ := hR.sz hp
  refine eX6_marksIn (loopC (Wk := fun c k => xOk mX6_marksIn 5 [(0, vR 6 0 0), (1, vI (nI p)), (2, vI 1), (3, vI c), (4, vI k)] [] (mN a b r h0) (qI Q)) (ab r p) (szN r p) (fun c => Q (nI c) (mN a b r h0)) (fun c hc => rX6_marksIn_5 (cR_sizeOf rfl hp ?_)) (fun c k hk t f => rX6_marksIn_5 (cR_sizeOf rfl hp ?_)) (szN r p) 0 0 (by omega) (by rw [Nat.zero_add]; exact hq))
  · rw [s2]; exact ⟨fun _ => hc, fun z => absurd (Int32.le_refl _) z⟩
  · rw [s2]
    have e0 : nI c + (0 : Int32) = nI c := Int32.add_zero _
    refine ⟨fun z => absurd z (nI_ge hk (by omega)), fun _ => ?_⟩
    refine cR_cellOf (f := 0) rfl rfl rfl hp (by omega) (by decide) ⟨fun y => ?_, fun y => ⟨fun z => absurd z (by decide), fun _ => ?_⟩⟩
    · rw [nI_1, e0]; exact f (by simp [ab, y])
    · refine cR_isAbort rfl rfl hp (by omega) (fun x => ⟨fun z => absurd z (by decide), fun _ => ?_⟩) (fun x => ⟨fun _ => ?_, fun z => absurd rfl z⟩)
      · rw [nI_1, nI_1]; exact t x
      · rw [nI_1, e0]; exact f x
theorem cR_aheadOf {Q : Int32 → xM → Prop} {x1 x2 : Int32} {p m : Nat} (hR : WR r) (e1 : x1 = nI p) (e2 : x2 = nI m) (hp : p < 3) (hm : m < 48) (hq : Q (nI (ahN r p m)) (mN a b r h0)) : CI mX6_aheadOf [vR 6 0 0, vI x1, vI x2] (mN a b r h0) Q := by
  subst e1; subst e2
  obtain ⟨s1, s2⟩ := hR.sz hp
  refine eX6_aheadOf (loopC (Wk := fun c k => xOk mX6_aheadOf 5 [(0, vR 6 0 0), (1, vI (nI p)), (2, vI (nI m)), (3, vI c), (4, vI k)] [] (mN a b r h0) (qI Q)) (fun k => ab r p k && decide (ce r p k 5 < ce r p m 5)) (szN r p) (fun c => Q (nI c) (mN a b r h0)) (fun c hc => rX6_aheadOf_5 (cR_sizeOf rfl hp ?_)) (fun c k hk t f => rX6_aheadOf_5 (cR_sizeOf rfl hp ?_)) (szN r p) 0 0 (by omega) (by rw [Nat.zero_add]; exact hq))
  · rw [s2]; exact ⟨fun _ => hc, fun z => absurd (Int32.le_refl _) z⟩
  · rw [s2]
    have e0 : nI c + (0 : Int32) = nI c := Int32.add_zero _
    refine ⟨fun z => absurd z (nI_ge hk (by omega)), fun _ => ?_⟩
    refine cR_isAbort rfl rfl hp (by omega) (fun x => ⟨fun z => absurd z (by decide), fun _ => ?_⟩) (fun x => ⟨fun _ => ?_, fun z => absurd rfl z⟩)
    · refine cR_cellOf (f := 5) rfl rfl rfl hp (by omega) (by decide) (cR_cellOf (f := 5) rfl rfl rfl hp hm (by decide) ⟨fun y => ?_, fun y => ?_⟩)
      · have y2 : ¬ ce r p k 5 < ce r p m 5 := Int32.not_lt.mpr y
        rw [nI_1, e0]; exact f (by simp [y2])
      · have y2 : ce r p k 5 < ce r p m 5 := Int32.not_le.mp y
        rw [nI_1, nI_1]; exact t (by simp [x, y2])
    · rw [nI_1, e0]; exact f (by simp [x])
theorem lR_tellAborted {Q : Int32 → xM → Prop} {x : Int32} {p q : Nat} (hR : WR r) (hp : p < 3) (hq3 : q < 3) : ∀ (m k : Nat), k + m = szN r p → Q (match taF r p x k m with | none => -1 | some k => if q = 0 then ce r p k 1 else if q = 1 then ce r p k 5 else nI k) (mN a b r h0) → xOk mX6_tellAborted 3 [(0, vR 6 0 0), (1, vI (nI p)), (2, vI x), (3, vI (nI q)), (4, vI (nI k))] [] (mN a b r h0) (qI Q)
  | 0, k, hk, hq => by
    obtain ⟨s1, s2⟩ := hR.sz hp
    refine rX6_tellAborted_3 (cR_sizeOf rfl hp ?_)
    rw [s2]
    exact ⟨fun _ => hq, fun z => absurd (nI_le (by omega) (by omega)) z⟩
  | m + 1, k, hk, hq => by
    obtain ⟨s1, s2⟩ := hR.sz hp
    refine rX6_tellAborted_3 (cR_sizeOf rfl hp ?_)
    rw [s2, nI_1]
    refine ⟨fun z => absurd z (nI_ge (by omega) (by omega)), fun _ => ?_⟩
    have go : (ab r p k && decide (nI (ahN r p k) = x)) = false → xOk mX6_tellAborted 3 [(0, vR 6 0 0), (1, vI (nI p)), (2, vI x), (3, vI (nI q)), (4, vI (nI (k + 1)))] [] (mN a b r h0) (qI Q) := by
      intro e
      refine lR_tellAborted hR hp hq3 m (k + 1) (by omega) ?_
      simp only [taF, e, Bool.false_eq_true, if_false] at hq
      exact hq
    refine cR_isAbort rfl rfl hp (by omega) (fun y => ⟨fun z => absurd z (by decide), fun _ => ?_⟩) (fun y => ⟨fun _ => go (by simp [y]), fun z => absurd rfl z⟩)
    refine cR_aheadOf hR rfl rfl hp (by omega) ⟨fun u => go (by simp [u]), fun u => ?_⟩
    have e : (ab r p k && decide (nI (ahN r p k) = x)) = true := by simp [y, u]
    simp only [taF, e, if_true] at hq
    refine ⟨fun v => ⟨fun v1 => ?_, fun v1 => ?_⟩, fun v => ?_⟩
    · have q0 : ¬ q = 0 := fun z => v (by rw [z]; rfl)
      have q1 : ¬ q = 1 := fun z => v1 (by rw [z]; rfl)
      simp only [q0, q1, if_false] at hq
      exact hq
    · have q1 : q = 1 := nqI (by omega) (by decide) v1
      subst q1
      exact cR_cellOf (f := 5) rfl rfl rfl hp (by omega) (by decide) hq
    · have q0 : q = 0 := nqI (by omega) (by decide) v
      subst q0
      exact cR_cellOf (f := 1) rfl rfl rfl hp (by omega) (by decide) hq
theorem cR_tellAborted {Q : Int32 → xM → Prop} {x1 x x3 : Int32} {p q : Nat} (hR : WR r) (e1 : x1 = nI p) (e3 : x3 = nI q) (hp : p < 3) (hq3 : q < 3) (hq : Q (tA r p x q) (mN a b r h0)) : CI mX6_tellAborted [vR 6 0 0, vI x1, vI x, vI x3] (mN a b r h0) Q := by
  subst e1; subst e3
  exact eX6_tellAborted (lR_tellAborted hR hp hq3 (szN r p) 0 (by omega) hq)
theorem cR_tellWriter {Q : Int32 → xM → Prop} {x1 x2 : Int32} {w q : Nat} (hR : WR r) (e1 : x1 = nI w) (e2 : x2 = nI q) (hw : w < 4) (hq9 : q < 9) (hq : Q (tW r w q) (mN a b r h0)) : CI mX6_tellWriter [vR 6 0 0, vI x1, vI x2] (mN a b r h0) Q := by
  subst e1; subst e2
  have nq : ∀ c, c < 9 → nI q = nI c → q = c := fun c hc e => nqI (by omega) (by omega) e
  refine eX6_tellWriter ⟨fun z => ?_, fun z0 => ⟨fun z => ?_, fun z1 => ⟨fun z => ?_, fun z2 => ⟨fun z => ?_, fun z3 => ⟨fun z => ?_, fun z4 => ⟨fun z => ?_, fun z5 => ?_⟩⟩⟩⟩⟩⟩
  · cases nq 0 (by decide) z; exact cR_of (f := 0) rfl rfl hw (by decide) hq
  · cases nq 1 (by decide) z; exact cR_of (f := 1) rfl rfl hw (by decide) hq
  · cases nq 2 (by decide) z; exact cR_of (f := 2) rfl rfl hw (by decide) hq
  · cases nq 3 (by decide) z; exact cR_toCome rfl hw hq
  · cases nq 4 (by decide) z
    refine cR_of (f := 1) rfl rfl hw (by decide) ⟨fun y => qe hq ?_, fun y => cR_of (f := 4) rfl rfl hw (by decide) (qe hq ?_)⟩
    · simp [tW, y]
    · simp [tW, y]
  · cases nq 5 (by decide) z
    refine cR_of (f := 1) rfl rfl hw (by decide) ⟨fun y => qe hq ?_, fun y => ⟨vp_in_nI (n := 0) (by decide) (by decide), cR_of (f := 5) rfl rfl hw (by decide) (qe hq ?_)⟩⟩
    · simp [tW, y]
    · simp [tW, y]; rfl
  · have h0' : q ≠ 0 := fun e => z0 (by rw [e]; rfl)
    have h1' : q ≠ 1 := fun e => z1 (by rw [e]; rfl)
    have h2' : q ≠ 2 := fun e => z2 (by rw [e]; rfl)
    have h3' : q ≠ 3 := fun e => z3 (by rw [e]; rfl)
    have h4' : q ≠ 4 := fun e => z4 (by rw [e]; rfl)
    have h5' : q ≠ 5 := fun e => z5 (by rw [e]; rfl)
    refine cR_dueOf (p := q - 6) hR rfl ?_ hw (by omega) (qe hq ?_)
    · rw [lit 6, pk_sub (by omega)]
    · simp [tW, h0', h1', h2', h3', h4', h5']
theorem cR_tellEntry {Q : Int32 → xM → Prop} {x1 x2 x3 : Int32} {p k q : Nat} (hR : WR r) (e1 : x1 = nI p) (e2 : x2 = nI k) (e3 : x3 = nI q) (hp : p < 3) (hk : k < 48) (hq7 : q < 7) (hq : Q (tE r p k q) (mN a b r h0)) : CI mX6_tellEntry [vR 6 0 0, vI x1, vI x2, vI x3] (mN a b r h0) Q := by
  subst e1; subst e2; subst e3
  obtain ⟨s1, s2⟩ := hR.st hp
  have nq : ∀ c, c < 9 → nI q = nI c → q = c := fun c hc e => nqI (by omega) (by omega) e
  have key : ∀ y0 : Int32, (y0 = 0 ↔ ¬ ce r p k 0 = 1) → xOk mX6_tellEntry 16 [(0, vR 6 0 0), (1, vI (nI p)), (2, vI (nI k)), (3, vI (nI q))] [vI y0] (mN a b r h0) (qI Q) := by
    intro y0 hy
    refine rX6_tellEntry_16 ⟨fun z => ?_, fun z5 => ⟨fun z => ?_, fun z6 => ?_⟩⟩
    · cases nq 5 (by decide) z
      refine ⟨fun y => cR_cellOf (f := 5) rfl rfl rfl hp hk (by decide) (qe hq ?_), fun y => qe hq ?_⟩
      · simp [tE, hy.mp y]
      · have : ce r p k 0 = 1 := Decidable.not_not.mp (fun q => y (hy.mpr q))
        simp [tE, this]
    · cases nq 6 (by decide) z
      refine cR_stable rfl hp ?_
      rw [s2]
      refine cR_isSeen rfl rfl hp hk (fun u v => ⟨fun z => absurd z (by decide), fun _ => qe hq ?_⟩) (fun u => ⟨fun _ => qe hq ?_, fun z => absurd rfl z⟩)
      · have : k < stN r p := by
          rcases Nat.lt_or_ge k (stN r p) with h | h
          · exact h
          · exact absurd (nI_le h (by omega)) u
        simp [tE, this, v]
      · rcases u with u | u
        · have : ¬ k < stN r p := fun h => nI_ge h (by omega) u
          simp [tE, this]
        · simp [tE, u]
    · have h5' : q ≠ 5 := fun e => z5 (by rw [e]; rfl)
      have h6' : q ≠ 6 := fun e => z6 (by rw [e]; rfl)
      exact cR_cellOf (f := q) rfl rfl rfl hp hk (by omega) (qe hq (by simp [tE, h5', h6']))
  refine eX6_tellEntry (cR_cellOf (f := 0) rfl rfl rfl hp hk (by decide) ⟨fun z => key 0 ?_, fun z => key 1 ?_⟩)
  · simp [z]
  · simp [z]
theorem cR_tellPart {Q : Int32 → xM → Prop} {x1 x2 : Int32} {p q : Nat} (hR : WR r) (e1 : x1 = nI p) (e2 : x2 = nI q) (hp : p < 3) (hq6 : q < 6) (hq : Q (tP r p q) (mN a b r h0)) : CI mX6_tellPart [vR 6 0 0, vI x1, vI x2] (mN a b r h0) Q := by
  subst e1; subst e2
  have nq : ∀ c, c < 9 → nI q = nI c → q = c := fun c hc e => nqI (by omega) (by omega) e
  refine eX6_tellPart ⟨fun z => ?_, fun z0 => ⟨fun z => ?_, fun z1 => ⟨fun z => ?_, fun z2 => ⟨fun z => ?_, fun z3 => ⟨fun z => ?_, fun z4 => ?_⟩⟩⟩⟩⟩
  · cases nq 0 (by decide) z; exact cR_sizeOf rfl hp hq
  · cases nq 1 (by decide) z; exact cR_stable rfl hp hq
  · cases nq 2 (by decide) z; exact cR_seenFrom (k := 0) hR rfl rfl hp (by decide) hq
  · cases nq 3 (by decide) z; exact cR_owed rfl hq
  · cases nq 4 (by decide) z; exact cR_holder rfl hp hq
  · have h0' : q ≠ 0 := fun e => z0 (by rw [e]; rfl)
    have h1' : q ≠ 1 := fun e => z1 (by rw [e]; rfl)
    have h2' : q ≠ 2 := fun e => z2 (by rw [e]; rfl)
    have h3' : q ≠ 3 := fun e => z3 (by rw [e]; rfl)
    have h4' : q ≠ 4 := fun e => z4 (by rw [e]; rfl)
    exact cR_marks1 hR rfl hp (qe hq (by simp [tP, h0', h1', h2', h3', h4']))
theorem posIx {j p : Nat} : ((69 : Int32) + ((6 : Int32) * nI j)) + nI p = nI (69 + 6 * j + p) := by rw [lit 69, lit 6, pk_mul, nI_add, nI_add]
theorem cR_tellReader {Q : Int32 → xM → Prop} {x1 x2 x3 : Int32} {j p q : Nat} (hR : WR r) (e1 : x1 = nI j) (e2 : x2 = nI p) (e3 : x3 = nI q) (hj : j < 2) (hp : p < 3) (hq4 : q < 4) (hq : Q (tR r j p q) (mN a b r h0)) : CI mX6_tellReader [vR 6 0 0, vI x1, vI x2, vI x3] (mN a b r h0) Q := by
  subst e1; subst e2; subst e3
  obtain ⟨s1, s2⟩ := hR.pl hj hp
  have nq : ∀ c, c < 9 → nI q = nI c → q = c := fun c hc e => nqI (by omega) (by omega) e
  have e3 : nI (69 + 6 * j + p) + (3 : Int32) = nI (69 + 6 * j + p + 3) := nI_add _ 3
  refine eX6_tellReader ?_
  rw [posIx, e3, nI_clamp (by omega), nI_clamp (by omega)]
  refine ⟨fun z0 => ⟨fun z1 => ⟨fun z2 => ⟨vp_in_nI (by omega) (by decide), ?_⟩, fun z => ⟨vp_in_nI (by omega) (by decide), ?_⟩⟩, fun z => ⟨vp_in_nI (by omega) (by decide), ?_⟩⟩, fun z => ⟨vp_in_nI (by omega) (by decide), ?_⟩⟩
  · have h0' : q ≠ 0 := fun e => z0 (by rw [e]; rfl)
    have h1' : q ≠ 1 := fun e => z1 (by rw [e]; rfl)
    have h2' : q ≠ 2 := fun e => z2 (by rw [e]; rfl)
    exact cR_firstSeen (k := plN r j p) hR rfl s2 hp s1 (qe hq (by simp [tR, h0', h1', h2']))
  · cases nq 2 (by decide) z
    exact cR_seenFrom (k := plN r j p) hR rfl s2 hp s1 hq
  · cases nq 1 (by decide) z; exact hq
  · cases nq 0 (by decide) z; exact hq
theorem cR_sumOf {Q : Int32 → xM → Prop} {x1 : Int32} {q : Nat} (hR : WR r) (e1 : x1 = nI q) (hq8 : q < 8) (hq : Q (sum3 (tS r q)) (mN a b r h0)) : CI mX6_sumOf [vR 6 0 0, vI x1] (mN a b r h0) Q := by
  subst e1
  have nq : ∀ c, c < 9 → nI q = nI c → q = c := fun c hc e => nqI (by omega) (by omega) e
  have step : ∀ (p : Nat) (x2 : Int32), p < 3 → xOk mX6_sumOf 4 [(0, vR 6 0 0), (1, vI (nI q)), (2, vI (x2 + tS r q p)), (3, vI (nI (p + 1)))] [] (mN a b r h0) (qI Q) → xOk mX6_sumOf 4 [(0, vR 6 0 0), (1, vI (nI q)), (2, vI x2), (3, vI (nI p))] [] (mN a b r h0) (qI Q) := by
    intro p x2 hp hn
    refine rX6_sumOf_4 ⟨fun z => absurd z (n3 hp), fun _ => ?_⟩
    rw [nI_1]
    refine ⟨fun z4 => ⟨fun z5 => ?_, fun z => ?_⟩, fun z => ?_⟩
    · have h4' : q ≠ 4 := fun e => z4 (by rw [e]; rfl)
      have h5' : q ≠ 5 := fun e => z5 (by rw [e]; rfl)
      refine cR_seenFrom (k := 0) hR rfl rfl hp (by decide) ?_
      simp only [tS, h4', h5', if_false] at hn
      exact hn
    · cases nq 5 (by decide) z
      exact cR_marks0 hR rfl hp hn
    · cases nq 4 (by decide) z
      exact cR_sizeOf rfl hp hn
  refine eX6_sumOf (step 0 0 (by decide) (step 1 _ (by decide) (step 2 _ (by decide) (rX6_sumOf_4 ⟨fun _ => hq, fun z => absurd (by decide) z⟩))))
theorem cR_dues {Q : Int32 → xM → Prop} (hq : Q (sum4 (toC r)) (mN a b r h0)) : CI mX6_dues [vR 6 0 0] (mN a b r h0) Q := by
  have step : ∀ (w : Nat) (x1 : Int32), w < 4 → xOk mX6_dues 4 [(0, vR 6 0 0), (1, vI (x1 + toC r w)), (2, vI (nI (w + 1)))] [] (mN a b r h0) (qI Q) → xOk mX6_dues 4 [(0, vR 6 0 0), (1, vI x1), (2, vI (nI w))] [] (mN a b r h0) (qI Q) := by
    intro w x1 hw hn
    refine rX6_dues_4 ⟨fun z => absurd z (n4 hw), fun _ => ?_⟩
    rw [nI_1]
    exact cR_toCome rfl hw hn
  exact eX6_dues (step 0 0 (by decide) (step 1 _ (by decide) (step 2 _ (by decide) (step 3 _ (by decide) (rX6_dues_4 ⟨fun _ => hq, fun z => absurd (by decide) z⟩)))))
theorem cR_tellAll {Q : Int32 → xM → Prop} {x1 : Int32} {q : Nat} (hR : WR r) (e1 : x1 = nI q) (hq8 : q < 8) (hq : Q (tG r q) (mN a b r h0)) : CI mX6_tellAll [vR 6 0 0, vI x1] (mN a b r h0) Q := by
  subst e1
  have nq : ∀ c, c < 9 → nI q = nI c → q = c := fun c hc e => nqI (by omega) (by omega) e
  refine eX6_tellAll ⟨fun z => ⟨vp_in_nI (n := 0) (by decide) (by decide), ?_⟩, fun z0 => ⟨fun z => ⟨vp_in_nI (n := 1) (by decide) (by decide), ?_⟩, fun z1 => ⟨fun z => ?_, fun z2 => ⟨fun z => ?_, fun z3 => ⟨fun z => ?_, fun z7 => ?_⟩⟩⟩⟩⟩
  · cases nq 0 (by decide) z; exact hq
  · cases nq 1 (by decide) z; exact hq
  · cases nq 2 (by decide) z; exact cR_manyAre hq
  · cases nq 3 (by decide) z; exact cR_manyAre hq
  · cases nq 7 (by decide) z; exact cR_dues hq
  · have h0' : q ≠ 0 := fun e => z0 (by rw [e]; rfl)
    have h1' : q ≠ 1 := fun e => z1 (by rw [e]; rfl)
    have h2' : q ≠ 2 := fun e => z2 (by rw [e]; rfl)
    have h3' : q ≠ 3 := fun e => z3 (by rw [e]; rfl)
    have h7' : q ≠ 7 := fun e => z7 (by rw [e]; rfl)
    exact cR_sumOf hR rfl hq8 (qe hq (by simp [tG, h0', h1', h2', h3', h7']))
end
