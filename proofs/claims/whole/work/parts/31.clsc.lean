/-! the aborted deeds: by their first positions in the class, by their marks in the reference -/
theorem cN_snoc (P : Nat → Bool) : ∀ (m k : Nat), cN P k (m + 1) = cN P k m + (if P (k + m) then 1 else 0)
  | 0, k => by simp [cN]
  | m + 1, k => by
    rw [show cN P k (m + 1 + 1) = (if P k then 1 else 0) + cN P (k + 1) (m + 1) from rfl, cN_snoc P m (k + 1), show cN P k (m + 1) = (if P k then 1 else 0) + cN P (k + 1) m from rfl, show k + 1 + m = k + (m + 1) by omega]
    omega
theorem cN_sn (P : Nat → Bool) (m : Nat) : cN P 0 (m + 1) = cN P 0 m + (if P m then 1 else 0) := by rw [cN_snoc, Nat.zero_add]
theorem cN_rem {P : Nat → Bool} {m : Nat} (hm : P m = true) : ∀ M, m < M → cN (fun i => P i && decide (i ≠ m)) 0 M + 1 = cN P 0 M
  | 0, h => by omega
  | M + 1, h => by
    rw [cN_sn, cN_sn]
    by_cases e : m = M
    · subst e
      have : cN (fun i => P i && decide (i ≠ m)) 0 m = cN P 0 m := by
        have h1 := cN_mono (P := P) (P' := fun i => P i && decide (i ≠ m)) m 0 (fun i _ _ h => by simp only [Bool.and_eq_true] at h; exact h.1)
        have h2 := cN_mono (P := fun i => P i && decide (i ≠ m)) (P' := P) m 0 (fun i _ hi h => by simp [h]; omega)
        omega
      rw [this, if_pos hm, if_neg (by simp)]
    · have ih := cN_rem hm M (by omega)
      have e2 : M ≠ m := fun z => e z.symm
      have e3 : (P M && decide (M ≠ m)) = P M := by simp [e2]
      rw [e3]
      omega
theorem cN_inj {M : Nat} {g : Nat → Nat} {P : Nat → Bool} : ∀ (N : Nat) (P' : Nat → Bool), (∀ i, i < N → P i = true → g i < M ∧ P' (g i) = true) → (∀ i j, i < N → j < N → P i = true → P j = true → g i = g j → i = j) → cN P 0 N ≤ cN P' 0 M
  | 0, _, _, _ => Nat.zero_le _
  | N + 1, P', h1, h2 => by
    rw [cN_sn]
    by_cases hp : P N = true
    · obtain ⟨g1, g2⟩ := h1 N (by omega) hp
      have ih := cN_inj (M := M) (g := g) (P := P) N (fun i => P' i && decide (i ≠ g N)) (fun i hi hpi => by
        obtain ⟨q1, q2⟩ := h1 i (by omega) hpi
        refine ⟨q1, ?_⟩
        have : g i ≠ g N := fun e => by
          have := h2 i N (by omega) (by omega) hpi hp e
          omega
        simp [q2, this]) (fun i j hi hj => h2 i j (by omega) (by omega))
      have := cN_rem g2 M g1
      simp only [hp, if_true]
      omega
    · have ih := cN_inj (M := M) (g := g) (P := P) N P' (fun i hi => h1 i (by omega)) (fun i j hi hj => h2 i j (by omega) (by omega))
      simp only [hp, Bool.false_eq_true, if_false]
      omega
theorem cN_lt {P : Nat → Bool} {i : Nat} (hp : P i = true) : ∀ j, i < j → cN P 0 i < cN P 0 j
  | 0, h => by omega
  | j + 1, h => by
    rw [cN_sn]
    by_cases e : i = j
    · subst e; simp [hp]
    · have := cN_lt hp j (by omega)
      omega
/-- an aborted deed begins at k -/
def sa (a : xA) (r : Row) (p k : Nat) : Bool := decide (a 14 0 p k = nI k) && decide (fa r p k = 3)
def afF (a : xA) (r : Row) (p : Nat) (x : Int32) : Nat → Nat → Option Nat
  | _, 0 => none
  | k, m + 1 => if sa a r p k && decide (nI (cN (sa a r p) 0 k) = x) then some k else afF a r p x (k + 1) m
theorem afF_some {a : xA} {r : Row} {p : Nat} {x : Int32} : ∀ {m k i : Nat}, afF a r p x k m = some i → k ≤ i ∧ i < k + m ∧ sa a r p i = true ∧ nI (cN (sa a r p) 0 i) = x
  | 0, _, _, h => by cases h
  | m + 1, k, i, h => by
    unfold afF at h
    split at h
    · cases h
      rename_i hc
      simp only [Bool.and_eq_true, decide_eq_true_eq] at hc
      exact ⟨by omega, by omega, hc.1, hc.2⟩
    · have := afF_some h
      exact ⟨by omega, by omega, this.2.2⟩
theorem afF_none {a : xA} {r : Row} {p : Nat} {x : Int32} : ∀ {m k : Nat}, afF a r p x k m = none → ∀ i, k ≤ i → i < k + m → sa a r p i = true → ¬ nI (cN (sa a r p) 0 i) = x
  | 0, _, _, i, h1, h2 => by omega
  | m + 1, k, h, i, h1, h2 => by
    unfold afF at h
    split at h
    · cases h
    · rename_i hc
      intro hs e
      by_cases ek : i = k
      · subst ek; exact hc (by simp [hs, e])
      · exact afF_none h i (by omega) (by omega) hs e
theorem taF_some {r : Row} {p : Nat} {x : Int32} : ∀ {m k i : Nat}, taF r p x k m = some i → k ≤ i ∧ i < k + m ∧ ab r p i = true ∧ nI (ahN r p i) = x
  | 0, _, _, h => by cases h
  | m + 1, k, i, h => by
    unfold taF at h
    split at h
    · cases h
      rename_i hc
      simp only [Bool.and_eq_true, decide_eq_true_eq] at hc
      exact ⟨by omega, by omega, hc.1, hc.2⟩
    · have := taF_some h
      exact ⟨by omega, by omega, this.2.2⟩
theorem taF_none {r : Row} {p : Nat} {x : Int32} : ∀ {m k : Nat}, taF r p x k m = none → ∀ i, k ≤ i → i < k + m → ab r p i = true → ¬ nI (ahN r p i) = x
  | 0, _, _, i, h1, h2 => by omega
  | m + 1, k, h, i, h1, h2 => by
    unfold taF at h
    split at h
    · cases h
    · rename_i hc
      intro hs e
      by_cases ek : i = k
      · subst ek; exact hc (by simp [hs, e])
      · exact taF_none h i (by omega) (by omega) hs e
section
variable {a b : xA} {h0 : Int64} {r : Row} {T p : Nat}
/-- from a deed's beginning to its mark -/
theorem sa_ab (h : LG a r T p) {f : Nat} (hf : f < szN r p) (hs : sa a r p f = true) : ∃ m, m < szN r p ∧ a 15 0 p f = nI m ∧ ab r p m = true ∧ ce r p m 5 = nI f ∧ a 14 0 p m = nI f := by
  have hz := h.sz
  obtain ⟨hI, hp, hL, hU⟩ := id h
  obtain ⟨g1, g2, g3, g4, g5, -⟩ := hL
  simp only [sa, Bool.and_eq_true, decide_eq_true_eq] at hs
  obtain ⟨s1, s2⟩ := hs
  obtain ⟨c0, c1, c2, c3, c4, c5⟩ := g1 f hf
  have hm : ¬ a 12 0 p f = -1 := by
    intro e
    rw [if_pos e] at c0
    rw [fa, if_pos (by simp [mk, c0])] at s2
    exact absurd s2 (by decide)
  rw [if_neg hm] at c0 c5
  have hmk : ¬ mk r p f = true := by simp [mk, c0]
  rw [fa, if_neg hmk, c5, fate, if_neg (by rw [s1]; exact nIm1 (by omega)), s1, nI_clamp (by omega)] at s2
  cases hc : cm a p (szN r p) f with
  | none =>
    rw [hc] at s2
    have s2 : (1 : Int32) = 3 := s2
    exact absurd s2 (by decide)
  | some m =>
    rw [hc] at s2
    obtain ⟨m1, m2, m3⟩ := cmk_some hc
    have hv : ¬ a 13 0 p m = 1 := by
      intro e
      simp only [if_pos e] at s2
      exact absurd s2 (by decide)
    rcases g4 f hf with e | ⟨m', m4, m5⟩
    · exact absurd e m2
    · have em : m' = m := by rw [m5, nI_clamp (by omega)] at m3; exact m3
      subst em
      obtain ⟨q1, q2, q3⟩ := g5 f hf hm s1 m' m1 m5
      obtain ⟨d0, d1, d2, d3, d4, d5⟩ := g1 m' m1
      rw [if_pos q2] at d0 d5
      obtain ⟨f', f1, f2, f3, f4, f5, f6, f7⟩ := g3 m' m1 q2
      have hv0 : a 13 0 p m' = 0 := f6.resolve_right hv
      refine ⟨m', m1, m5, ?_, by rw [d5]; exact q3, q3⟩
      simp [ab, d0, d4, hv0]
theorem ab_sa (h : LG a r T p) {m : Nat} (hm : m < szN r p) (ha : ab r p m = true) : ∃ f, f < m ∧ a 14 0 p m = nI f ∧ sa a r p f = true ∧ a 15 0 p f = nI m ∧ ce r p m 5 = nI f ∧ a 10 0 p f = a 10 0 p m := by
  have hz := h.sz
  obtain ⟨hI, hp, hL, hU⟩ := id h
  obtain ⟨g1, g2, g3, g4, g5, -⟩ := hL
  simp only [ab, Bool.and_eq_true, decide_eq_true_eq] at ha
  obtain ⟨d0, d1, d2, d3, d4, d5⟩ := g1 m hm
  have hmk : a 12 0 p m = -1 := by
    rcases Decidable.em (a 12 0 p m = -1) with e | e
    · exact e
    · rw [if_neg e] at d0; rw [d0] at ha; exact absurd ha.1 (by decide)
  obtain ⟨f, f1, f2, f3, f4, f5, f6, f7⟩ := g3 m hm hmk
  obtain ⟨c0, c1, c2, c3, c4, c5⟩ := g1 f (by omega)
  rw [if_pos hmk] at d5
  rw [if_neg f4] at c0 c5
  have hc : cm a p (szN r p) f = some m := by
    unfold cm
    rw [if_neg (by rw [f5]; exact nIm1 (by omega)), f5, nI_clamp (by omega), if_pos hm]
  have hv : ¬ a 13 0 p m = 1 := by rw [← d4, ha.2]; decide
  have hfa : fa r p f = 3 := by
    rw [fa, if_neg (by simp [mk, c0]), c5, fate, if_neg (by rw [f3]; exact nIm1 (by omega)), f3, nI_clamp (by omega), hc]
    simp only [if_neg hv]
  exact ⟨f, f1, f2, by simp [sa, f3, hfa], f5, by rw [d5]; exact f2, f7⟩
theorem sa_cnt (h : LG a r T p) : cN (sa a r p) 0 (szN r p) = cN (ab r p) 0 (szN r p) := by
  have hz := h.sz
  refine Nat.le_antisymm ?_ ?_
  · refine cN_inj (g := fun f => (a 15 0 p f).toNatClampNeg) (szN r p) (ab r p) (fun f hf hs => ?_) (fun f f' hf hf' hs hs' e => ?_)
    · obtain ⟨m, m1, m2, m3, -⟩ := sa_ab h hf hs
      show (a 15 0 p f).toNatClampNeg < _ ∧ ab r p (a 15 0 p f).toNatClampNeg = true
      rw [m2, nI_clamp (by omega)]
      exact ⟨m1, m3⟩
    · obtain ⟨m, m1, m2, m3, m4, m5⟩ := sa_ab h hf hs
      obtain ⟨m', n1, n2, n3, n4, n5⟩ := sa_ab h hf' hs'
      have e : (a 15 0 p f).toNatClampNeg = (a 15 0 p f').toNatClampNeg := e
      rw [m2, n2, nI_clamp (by omega), nI_clamp (by omega)] at e
      subst e
      exact nqI (by omega) (by omega) (m5.symm.trans n5)
  · refine cN_inj (g := fun m => (a 14 0 p m).toNatClampNeg) (szN r p) (sa a r p) (fun m hm hs => ?_) (fun m m' hm hm' hs hs' e => ?_)
    · obtain ⟨f, f1, f2, f3, -⟩ := ab_sa h hm hs
      show (a 14 0 p m).toNatClampNeg < _ ∧ sa a r p (a 14 0 p m).toNatClampNeg = true
      rw [f2, nI_clamp (by omega)]
      exact ⟨by omega, f3⟩
    · obtain ⟨f, f1, f2, f3, f4, -⟩ := ab_sa h hm hs
      obtain ⟨f', n1, n2, n3, n4, -⟩ := ab_sa h hm' hs'
      have e : (a 14 0 p m).toNatClampNeg = (a 14 0 p m').toNatClampNeg := e
      rw [f2, n2, nI_clamp (by omega), nI_clamp (by omega)] at e
      subst e
      exact nqI (by omega) (by omega) (f4.symm.trans n4)
theorem sa_rank (h : LG a r T p) {m f : Nat} (hm : m < szN r p) (hf : f < szN r p) (he : ce r p m 5 = nI f) : ahN r p m = cN (sa a r p) 0 f := by
  have hz := h.sz
  unfold ahN
  refine Nat.le_antisymm ?_ ?_
  · refine cN_inj (g := fun m => (a 14 0 p m).toNatClampNeg) (szN r p) (sa a r p) (fun m' hm' hs => ?_) (fun m1 m2 h1 h2 hs1 hs2 e => ?_)
    · simp only [Bool.and_eq_true, decide_eq_true_eq] at hs
      obtain ⟨f', f1, f2, f3, f4, f5, f6⟩ := ab_sa h hm' hs.1
      show (a 14 0 p m').toNatClampNeg < _ ∧ sa a r p (a 14 0 p m').toNatClampNeg = true
      rw [f2, nI_clamp (by omega)]
      refine ⟨?_, f3⟩
      have := hs.2
      rw [f5, he] at this
      exact (nI_ltI (by omega) (by omega)).mp this
    · simp only [Bool.and_eq_true, decide_eq_true_eq] at hs1 hs2
      obtain ⟨f1, q1, q2, q3, q4, -⟩ := ab_sa h h1 hs1.1
      obtain ⟨f2, n1, n2, n3, n4, -⟩ := ab_sa h h2 hs2.1
      have e : (a 14 0 p m1).toNatClampNeg = (a 14 0 p m2).toNatClampNeg := e
      rw [q2, n2, nI_clamp (by omega), nI_clamp (by omega)] at e
      subst e
      exact nqI (by omega) (by omega) (q4.symm.trans n4)
  · refine cN_inj (g := fun f => (a 15 0 p f).toNatClampNeg) f (fun k => ab r p k && decide (ce r p k 5 < ce r p m 5)) (fun f' hf' hs => ?_) (fun f1 f2 h1 h2 hs1 hs2 e => ?_)
    · obtain ⟨m', m1, m2, m3, m4, m5⟩ := sa_ab h (by omega) hs
      show (a 15 0 p f').toNatClampNeg < _ ∧ (ab r p (a 15 0 p f').toNatClampNeg && decide (ce r p (a 15 0 p f').toNatClampNeg 5 < ce r p m 5)) = true
      rw [m2, nI_clamp (by omega), m4, he]
      refine ⟨m1, ?_⟩
      have : nI f' < nI f := nI_lt hf' (by omega)
      simp [m3, this]
    · obtain ⟨m1, p1, p2, p3, p4, p5⟩ := sa_ab h (by omega) hs1
      obtain ⟨m2, n1, n2, n3, n4, n5⟩ := sa_ab h (by omega) hs2
      have e : (a 15 0 p f1).toNatClampNeg = (a 15 0 p f2).toNatClampNeg := e
      rw [p2, n2, nI_clamp (by omega), nI_clamp (by omega)] at e
      subst e
      exact nqI (by omega) (by omega) (p5.symm.trans n5)
theorem aF_tA (h : LG a r T p) (x : Int32) (q : Nat) (hq : q < 3) : tA r p x q = match afF a r p x 0 (szN r p) with
    | none => -1
    | some f => if q = 0 then a 10 0 p f else if q = 1 then nI f else a 15 0 p f := by
  have hz := h.sz
  unfold tA
  cases hc : afF a r p x 0 (szN r p) with
  | none =>
    have hn := afF_none hc
    cases ht : taF r p x 0 (szN r p) with
    | none => rfl
    | some m =>
      exfalso
      obtain ⟨t1, t2, t3, t4⟩ := taF_some ht
      obtain ⟨f, f1, f2, f3, f4, f5, f6⟩ := ab_sa h (by omega) t3
      rw [sa_rank h (by omega) (by omega) f5] at t4
      exact hn f (by omega) (by omega) f3 t4
  | some f =>
    obtain ⟨s1, s2, s3, s4⟩ := afF_some hc
    obtain ⟨m, m1, m2, m3, m4, m5⟩ := sa_ab h (by omega) s3
    have hm : nI (ahN r p m) = x := by rw [sa_rank h m1 (by omega) m4]; exact s4
    cases ht : taF r p x 0 (szN r p) with
    | none => exact absurd hm (taF_none ht m (by omega) (by omega) m3)
    | some m' =>
      obtain ⟨t1, t2, t3, t4⟩ := taF_some ht
      obtain ⟨f', f1, f2, f3, f4, f5, f6⟩ := ab_sa h (by omega) t3
      rw [sa_rank h (by omega) (by omega) f5] at t4
      have hle := cN_le (sa a r p) f 0
      have hle' := cN_le (sa a r p) f' 0
      have er : cN (sa a r p) 0 f' = cN (sa a r p) 0 f := nqI (by omega) (by omega) (t4.trans s4.symm)
      have ef : f' = f := by
        rcases Nat.lt_trichotomy f' f with z | z | z
        · have := cN_lt f3 f z; omega
        · exact z
        · have := cN_lt s3 f' z; omega
      subst ef
      obtain ⟨d0, d1, d2, d3, d4, d5⟩ := h.2.2.1.1 m' (by omega)
      show (if q = 0 then ce r p m' 1 else if q = 1 then ce r p m' 5 else nI m') = _
      show _ = if q = 0 then a 10 0 p f' else if q = 1 then nI f' else a 15 0 p f'
      rw [d1, f5, f4, f6]
theorem cC_startsAborted {Q : Int32 → xM → Prop} {x : Int32} {k : Nat} (h : LG a r T p) (e : x = nI k) (hk : k < szN r p) (h1 : sa a r p k = true → Q 1 (a, (b, h0))) (h2 : sa a r p k = false → Q 0 (a, (b, h0))) : CI mX1_startsAborted [vR 1 0 p, vI x] (a, (b, h0)) Q := by
  subst e
  have hz := h.sz
  refine eX1_startsAborted h.2.1 ⟨vp_in_nI (by omega) (by decide), ?_⟩
  rw [nI_clamp (by omega)]
  exact ⟨fun z => h2 (by simp [sa, z]), fun z => cC_fate h rfl hk ⟨fun y => h2 (by simp [sa, y]), fun y => h1 (by simp [sa, y, z])⟩⟩
theorem cC_abortedDeeds {Q : Int32 → xM → Prop} (h : LG a r T p) (hq : Q (nI (cN (ab r p) 0 (szN r p))) (a, (b, h0))) : CI mX1_abortedDeeds [vR 1 0 p] (a, (b, h0)) Q := by
  have hz := h.sz
  have hl := h.len
  rw [← sa_cnt h] at hq
  refine eX1_abortedDeeds h.2.1 (loopC (Wk := fun c k => xOk mX1_abortedDeeds 4 [(0, vR 1 0 p), (1, vI c), (2, vI k)] [] (a, (b, h0)) (qI Q)) (sa a r p) (szN r p) (fun c => Q (nI c) (a, (b, h0))) (fun c hc => rX1_abortedDeeds_4 h.2.1 ?_) (fun c k hk t f => rX1_abortedDeeds_4 h.2.1 ?_) (szN r p) 0 0 (by omega) (by rw [Nat.zero_add]; exact hq))
  · rw [hl]; exact ⟨fun _ => hc, fun z => absurd (Int32.le_refl _) z⟩
  · rw [hl]
    refine ⟨fun z => absurd z (nI_ge hk (by omega)), fun _ => ?_⟩
    refine cC_startsAborted h rfl hk (fun y => ⟨fun z => absurd z (by decide), fun _ => ?_⟩) (fun y => ⟨fun _ => ?_, fun z => absurd rfl z⟩)
    · rw [nI_1, nI_1]; exact t y
    · rw [nI_1]; exact f y
theorem cC_abortedFirst {Q : Int32 → xM → Prop} {x : Int32} (h : LG a r T p) (hq : Q (oI (afF a r p x 0 (szN r p))) (a, (b, h0))) : CI mX1_abortedFirst [vR 1 0 p, vI x] (a, (b, h0)) Q := by
  have hz := h.sz
  have hl := h.len
  have key : ∀ m k, k + m = szN r p → Q (oI (afF a r p x k m)) (a, (b, h0)) → xOk mX1_abortedFirst 4 [(0, vR 1 0 p), (1, vI x), (2, vI (nI (cN (sa a r p) 0 k))), (3, vI (nI k))] [] (a, (b, h0)) (qI Q) := by
    intro m
    induction m with
    | zero =>
      intro k hk hq
      refine rX1_abortedFirst_4 h.2.1 ?_
      rw [hl]
      exact ⟨fun _ => hq, fun z => absurd (nI_le (by omega) (by omega)) z⟩
    | succ m ih =>
      intro k hk hq
      refine rX1_abortedFirst_4 h.2.1 ?_
      rw [hl]
      refine ⟨fun z => absurd z (nI_ge (by omega) (by omega)), fun _ => ?_⟩
      have ih := ih (k + 1) (by omega)
      rw [cN_sn] at ih
      rw [afF] at hq
      refine cC_startsAborted h rfl (by omega) (fun y => ⟨fun z => absurd z (by decide), fun _ => ⟨fun z => ?_, fun z => ?_⟩⟩) (fun y => ⟨fun _ => ?_, fun z => absurd rfl z⟩)
      · rw [if_neg (by simp [z])] at hq
        rw [nI_1, nI_1]
        rw [if_pos y] at ih
        exact ih hq
      · rw [if_pos (by simp [y, z])] at hq
        exact hq
      · rw [if_neg (by simp [y])] at hq
        rw [nI_1]
        rw [if_neg (by rw [y]; decide), Nat.add_zero] at ih
        exact ih hq
  exact eX1_abortedFirst h.2.1 (key (szN r p) 0 (by omega) hq)
end
