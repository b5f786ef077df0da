def cN (P : Nat → Bool) : Nat → Nat → Nat
  | _, 0 => 0
  | i, m + 1 => (if P i then 1 else 0) + cN P (i + 1) m
def fN (P : Nat → Bool) : Nat → Nat → Int32
  | _, 0 => -1
  | i, m + 1 => if P i then nI i else fN P (i + 1) m
theorem loopC {Wk : Int32 → Int32 → Prop} (P : Nat → Bool) (N : Nat) (fin : Nat → Prop) (hx : ∀ c, fin c → Wk (nI c) (nI N))
    (hs : ∀ c k, k < N → (P k = true → Wk (nI (c + 1)) (nI (k + 1))) → (P k = false → Wk (nI c) (nI (k + 1))) → Wk (nI c) (nI k)) :
    ∀ m k c, k + m = N → fin (c + cN P k m) → Wk (nI c) (nI k)
  | 0, k, c, hk, hf => by
    rw [Nat.add_zero] at hk
    subst hk
    exact hx c hf
  | m + 1, k, c, hk, hf => by
    refine hs c k (by omega) (fun z => ?_) (fun z => ?_)
    · refine loopC P N fin hx hs m (k + 1) (c + 1) (by omega) ?_
      simp only [cN, z, if_true] at hf
      rw [Nat.add_assoc]; exact hf
    · refine loopC P N fin hx hs m (k + 1) c (by omega) ?_
      simp only [cN, z, Bool.false_eq_true, if_false, Nat.zero_add] at hf
      exact hf
theorem loopF {Wk : Int32 → Prop} (P : Nat → Bool) (N : Nat) (fin : Int32 → Prop) (hx : fin (-1) → Wk (nI N))
    (hs : ∀ k, k < N → (P k = true → fin (nI k)) → (P k = false → Wk (nI (k + 1))) → Wk (nI k)) :
    ∀ m k, k + m = N → fin (fN P k m) → Wk (nI k)
  | 0, k, hk, hf => by
    rw [Nat.add_zero] at hk
    subst hk
    exact hx hf
  | m + 1, k, hk, hf => by
    refine hs k (by omega) (fun z => ?_) (fun z => ?_)
    · simp only [fN, z, if_true] at hf
      exact hf
    · refine loopF P N fin hx hs m (k + 1) (by omega) ?_
      simp only [fN, z, Bool.false_eq_true, if_false] at hf
      exact hf
def oI : Option Nat → Int32
  | none => -1
  | some w => nI w
def hB (r : Row) (p : Nat) (best : Option Nat) (w : Nat) : Option Nat := if lk r w p then (match best with
  | none => some w
  | some v => if wf r w (7 + p) < wf r v (7 + p) then some w else some v) else best
def hF (r : Row) (p : Nat) : Option Nat → Nat → Nat → Option Nat
  | best, _, 0 => best
  | best, w, m + 1 => hF r p (hB r p best w) (w + 1) m
def hold (r : Row) (p : Nat) : Option Nat := hF r p none 0 4
theorem nIm1 {n : Nat} (h : n < 2 ^ 31) : ¬ nI n = -1 := by
  intro e
  have h1 := nI_toInt h
  rw [e] at h1
  have h2 : (-1 : Int32).toInt = -1 := by decide
  omega
theorem n4 {k : Nat} (h : k < 4) : ¬ (4 : Int32) ≤ nI k := nI_ge h (by decide)
theorem n3 {k : Nat} (h : k < 3) : ¬ (3 : Int32) ≤ nI k := nI_ge h (by decide)
theorem n2 {k : Nat} (h : k < 2) : ¬ (2 : Int32) ≤ nI k := nI_ge h (by decide)
theorem n6 {k : Nat} (h : k < 6) : ¬ (6 : Int32) ≤ nI k := nI_ge h (by decide)
section
variable {a b : xA} {r : Row} {h0 : Int64}
theorem lR_holder {Q : Int32 → xM → Prop} {p : Nat} (hp : p < 3) : ∀ (m w : Nat) (best : Option Nat), w + m = 4 → (∀ v, best = some v → v < 4) → Q (oI (hF r p best w m)) (mN a b r h0) → xOk mX6_holder 4 [(0, vR 6 0 0), (1, vI (nI p)), (2, vI (oI best)), (3, vI (nI w))] [] (mN a b r h0) (qI Q)
  | 0, w, best, hw, hb, hq => by
    rw [Nat.add_zero] at hw
    subst hw
    exact rX6_holder_4 ⟨fun _ => hq, fun z => absurd (by decide) z⟩
  | m + 1, w, best, hw, hb, hq => by
    have hw4 : w < 4 := by omega
    have no : hB r p best w = best → xOk mX6_holder 48 [(0, vR 6 0 0), (1, vI (nI p)), (2, vI (oI best)), (3, vI (nI w))] [] (mN a b r h0) (qI Q) := by
      intro e
      refine rX6_holder_48 (rX6_holder_49 ⟨fun _ => ?_, fun z => absurd rfl z⟩)
      rw [nI_1]
      refine lR_holder hp m (w + 1) best (by omega) hb ?_
      rw [hF, e] at hq
      exact hq
    have yes : hB r p best w = some w → xOk mX6_holder 44 [(0, vR 6 0 0), (1, vI (nI p)), (2, vI (oI best)), (3, vI (nI w))] [] (mN a b r h0) (qI Q) := by
      intro e
      refine rX6_holder_44 (rX6_holder_49 ⟨fun z => absurd z (by decide), fun _ => ?_⟩)
      rw [nI_1]
      refine lR_holder hp m (w + 1) (some w) (by omega) (fun v hv => by cases hv; exact hw4) ?_
      rw [hF, e] at hq
      exact hq
    refine rX6_holder_4 ⟨fun z => absurd z (n4 hw4), fun _ => ?_⟩
    refine cR_lacksMark rfl rfl hw4 (fun y => ⟨fun z => absurd z (by decide), fun _ => ⟨fun z => ?_, fun z => ?_⟩⟩) (fun y => ⟨fun _ => no (by simp [hB, y]), fun z => absurd rfl z⟩)
    · cases best with
      | none => exact yes (by simp [hB, y])
      | some v => exact absurd z (nIm1 (by have := hb v rfl; omega))
    · cases best with
      | none => exact absurd rfl z
      | some v =>
        have hv := hb v rfl
        have e7 : (7 : Int32) + nI p = nI (7 + p) := by rw [lit 7, nI_add]
        refine cR_of rfl e7 hw4 (by omega) ?_
        refine cR_of rfl e7 hv (by omega) ⟨fun x => no ?_, fun x => yes ?_⟩
        · have x2 : ¬ wf r w (7 + p) < wf r v (7 + p) := Int32.not_lt.mpr x
          simp [hB, y, x2]
        · have x2 : wf r w (7 + p) < wf r v (7 + p) := Int32.not_le.mp x
          simp [hB, y, x2]
theorem cR_holder {Q : Int32 → xM → Prop} {x1 : Int32} {p : Nat} (e1 : x1 = nI p) (hp : p < 3) (hq : Q (oI (hold r p)) (mN a b r h0)) : CI mX6_holder [vR 6 0 0, vI x1] (mN a b r h0) Q := by
  subst e1
  exact eX6_holder (lR_holder hp 4 0 none rfl (fun v hv => by cases hv) hq)
theorem hB_in {p : Nat} {best : Option Nat} {w : Nat} (hw : w < 4) (h : ∀ v, best = some v → v < 4 ∧ lk r v p = true) : ∀ v, hB r p best w = some v → v < 4 ∧ lk r v p = true := by
  intro v hv
  unfold hB at hv
  split at hv
  · rename_i hl
    split at hv
    · cases hv; exact ⟨hw, hl⟩
    · split at hv
      · cases hv; exact ⟨hw, hl⟩
      · cases hv; exact h _ rfl
  · exact h v hv
theorem hF_in {p : Nat} : ∀ (m w : Nat) (best : Option Nat), w + m = 4 → (∀ v, best = some v → v < 4 ∧ lk r v p = true) → ∀ v, hF r p best w m = some v → v < 4 ∧ lk r v p = true
  | 0, _, _, _, h, v, hv => h v hv
  | m + 1, w, best, hw, h, v, hv => hF_in m (w + 1) _ (by omega) (hB_in (by omega) h) v hv
theorem hold_in {p v : Nat} (h : hold r p = some v) : v < 4 ∧ lk r v p = true := hF_in 4 0 none rfl (fun v hv => by cases hv) v h
def stI (r : Row) (p : Nat) : Int32 := match hold r p with
  | none => r (66 + p)
  | some w => wf r w (7 + p)
theorem cR_stable {Q : Int32 → xM → Prop} {x1 : Int32} {p : Nat} (e1 : x1 = nI p) (hp : p < 3) (hq : Q (stI r p) (mN a b r h0)) : CI mX6_stable [vR 6 0 0, vI x1] (mN a b r h0) Q := by
  refine eX6_stable (cR_holder e1 hp ?_)
  unfold stI at hq
  cases hh : hold r p with
  | none =>
    rw [hh] at hq
    exact ⟨fun z => absurd rfl z, fun _ => cR_sizeOf e1 hp hq⟩
  | some w =>
    rw [hh] at hq
    have hw := (hold_in hh).1
    refine ⟨fun _ => cR_of (w := w) (f := 7 + p) rfl ?_ hw (by omega) hq, fun z => absurd z (nIm1 (by omega))⟩
    rw [e1, lit 7, nI_add]
/-- what the reference needs of its row, to stay within it -/
def WR (r : Row) : Prop := (∀ p, p < 3 → ∃ n, n ≤ 48 ∧ r (66 + p) = nI n) ∧ (∀ w, w < 4 → ∀ p, p < 3 → lk r w p = true → ∃ f, f < 48 ∧ wf r w (7 + p) = nI f) ∧ ∀ j, j < 2 → ∀ p, p < 3 → ∃ k, k ≤ 48 ∧ r (69 + 6 * j + p) = nI k
def szN (r : Row) (p : Nat) : Nat := (r (66 + p)).toNatClampNeg
def stN (r : Row) (p : Nat) : Nat := (stI r p).toNatClampNeg
theorem WR.sz (h : WR r) {p : Nat} (hp : p < 3) : szN r p ≤ 48 ∧ r (66 + p) = nI (szN r p) := by
  obtain ⟨n, h1, h2⟩ := h.1 p hp
  unfold szN
  rw [h2, nI_clamp (by omega)]
  exact ⟨h1, rfl⟩
theorem WR.st (h : WR r) {p : Nat} (hp : p < 3) : stN r p ≤ 48 ∧ stI r p = nI (stN r p) := by
  have key : ∃ n, n ≤ 48 ∧ stI r p = nI n := by
    unfold stI
    cases hh : hold r p with
    | none => exact h.1 p hp
    | some w =>
      obtain ⟨hw, hl⟩ := hold_in hh
      obtain ⟨f, h1, h2⟩ := h.2.1 w hw p hp hl
      exact ⟨f, by omega, h2⟩
  obtain ⟨n, h1, h2⟩ := key
  unfold stN
  rw [h2, nI_clamp (by omega)]
  exact ⟨h1, rfl⟩
def vis (r : Row) (p k : Nat) : Bool := decide (ce r p k 0 = 0) && (decide (ce r p k 5 = 0) || decide (ce r p k 5 = 2))
theorem cR_isSeen {Q : Int32 → xM → Prop} {x1 x2 x3 : Int32} {p k : Nat} (e1 : x1 = nI p) (e2 : x2 = nI k) (hp : p < 3) (hk : k < 48) (h1 : ¬ x3 ≤ x2 → vis r p k = true → Q 1 (mN a b r h0)) (h2 : x3 ≤ x2 ∨ vis r p k = false → Q 0 (mN a b r h0)) : CI mX6_isSeen [vR 6 0 0, vI x1, vI x2, vI x3] (mN a b r h0) Q := by
  refine eX6_isSeen (cR_cellOf (f := 5) e1 e2 rfl hp hk (by decide) ⟨fun z => h2 (Or.inl z), fun z => ?_⟩)
  refine cR_cellOf (f := 0) e1 e2 rfl hp hk (by decide) ⟨fun y => h2 (Or.inr (by simp [vis, y])), fun y => ⟨fun x => h1 z (by simp [vis, y, x]), fun x => ⟨fun w => h2 (Or.inr (by simp [vis, x, w])), fun w => h1 z (by simp [vis, y, w])⟩⟩⟩
theorem cR_seenFrom {Q : Int32 → xM → Prop} {x1 x2 : Int32} {p k : Nat} (hR : WR r) (e1 : x1 = nI p) (e2 : x2 = nI k) (hp : p < 3) (hk : k ≤ 48) (hq : Q (nI (cN (vis r p) k (stN r p - k))) (mN a b r h0)) : CI mX6_seenFrom [vR 6 0 0, vI x1, vI x2] (mN a b r h0) Q := by
  subst e1; subst e2
  obtain ⟨s1, s2⟩ := hR.st hp
  refine eX6_seenFrom (cR_stable rfl hp ?_)
  rw [s2]
  by_cases hks : k ≤ stN r p
  · refine loopC (Wk := fun c k => xOk mX6_seenFrom 12 [(0, vR 6 0 0), (1, vI (nI p)), (3, vI c), (4, vI (nI (stN r p))), (5, vI k)] [] (mN a b r h0) (qI Q)) (vis r p) (stN r p) (fun c => Q (nI c) (mN a b r h0)) (fun c hc => ?_) (fun c k hk' t f => ?_) (stN r p - k) k 0 (by omega) (by rw [Nat.zero_add]; exact hq)
    · exact rX6_seenFrom_12 ⟨fun _ => hc, fun z => absurd (Int32.le_refl _) z⟩
    · refine rX6_seenFrom_12 ⟨fun z => absurd z (nI_ge hk' (by omega)), fun _ => ?_⟩
      refine cR_isSeen rfl rfl hp (by omega) (fun _ y => ⟨fun z => absurd z (by decide), fun _ => ?_⟩) (fun y => ⟨fun _ => ?_, fun z => absurd rfl z⟩)
      · rw [nI_1, nI_1]; exact t y
      · rw [nI_1]
        have y2 : vis r p k = false := y.resolve_left (nI_ge hk' (by omega))
        rw [show nI c + (0 : Int32) = nI c from Int32.add_zero _]
        exact f y2
  · refine rX6_seenFrom_12 ⟨fun _ => ?_, fun z => absurd (nI_le (by omega) (by omega)) z⟩
    rw [show stN r p - k = 0 by omega] at hq
    exact hq
theorem cR_firstSeen {Q : Int32 → xM → Prop} {x1 x2 : Int32} {p k : Nat} (hR : WR r) (e1 : x1 = nI p) (e2 : x2 = nI k) (hp : p < 3) (hk : k ≤ 48) (hq : Q (fN (vis r p) k (stN r p - k)) (mN a b r h0)) : CI mX6_firstSeen [vR 6 0 0, vI x1, vI x2] (mN a b r h0) Q := by
  subst e1; subst e2
  obtain ⟨s1, s2⟩ := hR.st hp
  refine eX6_firstSeen (cR_stable rfl hp ?_)
  rw [s2]
  by_cases hks : k ≤ stN r p
  · refine loopF (Wk := fun k => xOk mX6_firstSeen 9 [(0, vR 6 0 0), (1, vI (nI p)), (3, vI (nI (stN r p))), (4, vI k)] [] (mN a b r h0) (qI Q)) (vis r p) (stN r p) (fun c => Q c (mN a b r h0)) (fun hc => ?_) (fun k hk' t f => ?_) (stN r p - k) k (by omega) hq
    · exact rX6_firstSeen_9 ⟨fun _ => hc, fun z => absurd (Int32.le_refl _) z⟩
    · refine rX6_firstSeen_9 ⟨fun z => absurd z (nI_ge hk' (by omega)), fun _ => ?_⟩
      refine cR_isSeen rfl rfl hp (by omega) (fun _ y => ⟨fun z => absurd z (by decide), fun _ => t y⟩) (fun y => ⟨fun _ => ?_, fun z => absurd rfl z⟩)
      rw [nI_1]
      exact f (y.resolve_left (nI_ge hk' (by omega)))
  · refine rX6_firstSeen_9 ⟨fun _ => ?_, fun z => absurd (nI_le (by omega) (by omega)) z⟩
    rw [show stN r p - k = 0 by omega] at hq
    exact hq
def rec (r : Row) (w p k : Nat) : Bool := decide (ce r p k 0 = 0) && (decide (ce r p k 1 = nI w) && decide (ce r p k 2 = wf r w 0))
theorem cR_isRecent {Q : Int32 → xM → Prop} {x1 x2 x3 : Int32} {w p k : Nat} (e1 : x1 = nI w) (e2 : x2 = nI p) (e3 : x3 = nI k) (hw : w < 4) (hp : p < 3) (hk : k < 48) (h1 : rec r w p k = true → Q 1 (mN a b r h0)) (h2 : rec r w p k = false → Q 0 (mN a b r h0)) : CI mX6_isRecent [vR 6 0 0, vI x1, vI x2, vI x3] (mN a b r h0) Q := by
  subst e1
  refine eX6_isRecent (cR_cellOf (f := 0) e2 e3 rfl hp hk (by decide) ⟨fun z => h2 (by simp [rec, z]), fun z => ?_⟩)
  refine cR_cellOf (f := 1) e2 e3 rfl hp hk (by decide) ⟨fun y => h2 (by simp [rec, y]), fun y => ?_⟩
  refine cR_cellOf (f := 2) e2 e3 rfl hp hk (by decide) (cR_of (f := 0) rfl rfl hw (by decide) ⟨fun x => h2 (by simp [rec, x]), fun x => h1 (by simp [rec, x, y, z])⟩)
def twN (rc : Nat → Bool) (nb : Nat → Int32) (x : Int32) : Nat → Nat → Int32
  | _, 0 => -1
  | met, k + 1 => if 3 ≤ met then -1 else if rc k then (if nb k = x then nI k else twN rc nb x (met + 1) k) else twN rc nb x met k
def duN (rc : Nat → Bool) (nb : Nat → Int32) : Nat → Int32
  | 0 => 0
  | k + 1 => if rc k then nb k + 1 else duN rc nb k
theorem lR_twinOf {Q : Int32 → xM → Prop} {w p : Nat} {x : Int32} (hw : w < 4) (hp : p < 3) : ∀ (k met : Nat), k ≤ 48 → met ≤ 3 → Q (twN (rec r w p) (fun k => ce r p k 3) x met k) (mN a b r h0) → xOk mX6_twinOf 12 [(0, vR 6 0 0), (1, vI (nI w)), (2, vI (nI p)), (3, vI x), (4, vI (nI met)), (5, vI (nI k - 1))] [] (mN a b r h0) (qI Q)
  | 0, met, _, _, hq => rX6_twinOf_12 ⟨fun _ => hq, fun z => absurd (by decide) z⟩
  | k + 1, met, hk, hm, hq => by
    rw [nI_pred]
    have e : nI k + (-1 : Int32) = nI k - 1 := (Int32.sub_eq_add_neg _ _).symm
    refine rX6_twinOf_12 ⟨fun z => absurd z (nI_pos (by omega)), fun _ => ⟨fun z => ?_, fun z => ?_⟩⟩
    · have hm3 : 3 ≤ met := (nI_leI (a := 3) (by decide) (by omega)).mp z
      simp only [twN, hm3, if_true] at hq
      exact hq
    · have hm3 : ¬ 3 ≤ met := fun q => z ((nI_leI (a := 3) (by decide) (by omega)).mpr q)
      simp only [twN, hm3, if_false] at hq
      refine cR_isRecent rfl rfl rfl hw hp (by omega) (fun y => ⟨fun q => absurd q (by decide), fun _ => ?_⟩) (fun y => ⟨fun _ => ?_, fun q => absurd rfl q⟩)
      · simp only [y, if_true] at hq
        refine cR_cellOf (f := 3) rfl rfl rfl hp (by omega) (by decide) ⟨fun u => ?_, fun u => ?_⟩
        · rw [if_neg u] at hq
          rw [nI_1, e]
          exact lR_twinOf hw hp k (met + 1) (by omega) (by omega) hq
        · rw [if_pos u] at hq
          exact hq
      · simp only [y, Bool.false_eq_true, if_false] at hq
        rw [e]
        exact lR_twinOf hw hp k met (by omega) hm hq
theorem cR_twinOf {Q : Int32 → xM → Prop} {x1 x2 x : Int32} {w p : Nat} (hR : WR r) (e1 : x1 = nI w) (e2 : x2 = nI p) (hw : w < 4) (hp : p < 3) (hq : Q (twN (rec r w p) (fun k => ce r p k 3) x 0 (szN r p)) (mN a b r h0)) : CI mX6_twinOf [vR 6 0 0, vI x1, vI x2, vI x] (mN a b r h0) Q := by
  subst e1; subst e2
  obtain ⟨s1, s2⟩ := hR.sz hp
  refine eX6_twinOf (cR_sizeOf rfl hp ?_)
  rw [s2]
  exact lR_twinOf hw hp (szN r p) 0 s1 (by decide) hq
theorem lR_dueOf {Q : Int32 → xM → Prop} {w p : Nat} (hw : w < 4) (hp : p < 3) : ∀ (k : Nat), k ≤ 48 → Q (duN (rec r w p) (fun k => ce r p k 3) k) (mN a b r h0) → xOk mX6_dueOf 8 [(0, vR 6 0 0), (1, vI (nI w)), (2, vI (nI p)), (3, vI (nI k - 1))] [] (mN a b r h0) (qI Q)
  | 0, _, hq => rX6_dueOf_8 ⟨fun _ => hq, fun z => absurd (by decide) z⟩
  | k + 1, hk, hq => by
    rw [nI_pred]
    have e : nI k + (-1 : Int32) = nI k - 1 := (Int32.sub_eq_add_neg _ _).symm
    refine rX6_dueOf_8 ⟨fun z => absurd z (nI_pos (by omega)), fun _ => ?_⟩
    refine cR_isRecent rfl rfl rfl hw hp (by omega) (fun y => ⟨fun q => absurd q (by decide), fun _ => ?_⟩) (fun y => ⟨fun _ => ?_, fun q => absurd rfl q⟩)
    · simp only [duN, y, if_true] at hq
      exact cR_cellOf (f := 3) rfl rfl rfl hp (by omega) (by decide) hq
    · simp only [duN, y, Bool.false_eq_true, if_false] at hq
      rw [e]
      exact lR_dueOf hw hp k (by omega) hq
def duR (r : Row) (w p : Nat) : Int32 := duN (rec r w p) (fun k => ce r p k 3) (szN r p)
def twR (r : Row) (w p : Nat) (x : Int32) : Int32 := twN (rec r w p) (fun k => ce r p k 3) x 0 (szN r p)
theorem cR_dueOf {Q : Int32 → xM → Prop} {x1 x2 : Int32} {w p : Nat} (hR : WR r) (e1 : x1 = nI w) (e2 : x2 = nI p) (hw : w < 4) (hp : p < 3) (hq : Q (duR r w p) (mN a b r h0)) : CI mX6_dueOf [vR 6 0 0, vI x1, vI x2] (mN a b r h0) Q := by
  subst e1; subst e2
  obtain ⟨s1, s2⟩ := hR.sz hp
  refine eX6_dueOf (cR_sizeOf rfl hp ?_)
  rw [s2]
  exact lR_dueOf hw hp (szN r p) s1 hq
end
