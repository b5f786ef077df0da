def rkN (s : Nat) : Nat → Nat
  | 0 => 0
  | n + 1 => rkN s n + (if Nat.testBit s n then 1 else 0)
theorem rk_eq : ∀ s, s < 8 → ∀ p, p < 3 → rkI (nI s) (p + 1) = nI (rkN s (p + 1)) ∧ rkN s (p + 1) ≤ 3 ∧ (Nat.testBit s p = true → 1 ≤ rkN s (p + 1)) := by decide
theorem cN_add {P P1 P2 : Nat → Bool} : ∀ (m k : Nat), (∀ i, k ≤ i → i < k + m → P i = (P1 i || P2 i) ∧ ¬ (P1 i = true ∧ P2 i = true)) → cN P k m = cN P1 k m + cN P2 k m
  | 0, _, _ => rfl
  | m + 1, k, h => by
    have ih := cN_add (P := P) (P1 := P1) (P2 := P2) m (k + 1) (fun i h1 h2 => h i (by omega) (by omega))
    obtain ⟨e, n⟩ := h k (by omega) (by omega)
    unfold cN
    rw [ih, e]
    cases h1 : P1 k <;> cases h2 : P2 k
    · simp
    · simp; omega
    · simp; omega
    · exact absurd ⟨h1, h2⟩ n
theorem cN_cut {P : Nat → Bool} {st N : Nat} (hs : st ≤ N) : ∀ (m k : Nat), k + m = N → cN (fun k => decide (k < st) && P k) k m = cN P k (st - k)
  | 0, k, hk => by rw [show st - k = 0 by omega]; rfl
  | m + 1, k, hk => by
    have ih := cN_cut (P := P) hs m (k + 1) (by omega)
    unfold cN
    rw [ih]
    by_cases h : k < st
    · rw [show st - k = (st - (k + 1)) + 1 by omega]
      simp [h, cN]
    · rw [show st - k = 0 by omega, show st - (k + 1) = 0 by omega]
      simp [h, cN]
theorem fN_cut {P : Nat → Bool} {st N : Nat} (hs : st ≤ N) : ∀ (m k : Nat), k + m = N → fN (fun k => decide (k < st) && P k) k m = fN P k (st - k)
  | 0, k, hk => by rw [show st - k = 0 by omega]; rfl
  | m + 1, k, hk => by
    have ih := fN_cut (P := P) hs m (k + 1) (by omega)
    unfold fN
    rw [ih]
    by_cases h : k < st
    · rw [show st - k = (st - (k + 1)) + 1 by omega]
      simp [h, fN]
    · rw [show st - k = 0 by omega, show st - (k + 1) = 0 by omega]
      simp [h, fN]
/-- the last one before e -/
def la (P : Nat → Bool) : Nat → Option Nat
  | 0 => none
  | k + 1 => if P k then some k else la P k
theorem la_in {P : Nat → Bool} : ∀ {e k : Nat}, la P e = some k → k < e ∧ P k = true
  | 0, _, h => by cases h
  | e + 1, k, h => by
    unfold la at h
    split at h
    · cases h
      rename_i hp
      exact ⟨by omega, hp⟩
    · have := la_in h
      exact ⟨by omega, this.2⟩
theorem duN_la (P : Nat → Bool) (nb : Nat → Int32) : ∀ e, duN P nb e = match la P e with | none => 0 | some k => nb k + 1
  | 0 => rfl
  | e + 1 => by
    unfold duN la
    by_cases h : P e = true
    · simp [h]
    · simp [h, duN_la P nb e]
theorem twN_3 (P : Nat → Bool) (nb : Nat → Int32) (x : Int32) : ∀ e, twN P nb x 3 e = -1
  | 0 => rfl
  | e + 1 => by simp [twN]
theorem twN_la (P : Nat → Bool) (nb : Nat → Int32) (x : Int32) {met : Nat} (hm : met < 3) : ∀ e, twN P nb x met e = match la P e with | none => -1 | some k => if nb k = x then nI k else twN P nb x (met + 1) k
  | 0 => rfl
  | e + 1 => by
    have e1 : twN P nb x met (e + 1) = if 3 ≤ met then -1 else if P e then (if nb e = x then nI e else twN P nb x (met + 1) e) else twN P nb x met e := by rw [twN]
    rw [e1, if_neg (by omega), la]
    by_cases h : P e = true
    · rw [if_pos h, if_pos h]
    · rw [if_neg h, if_neg h, twN_la P nb x hm e]
theorem hold_le {r : Row} {T p : Nat} (hI : RI r T) (hp : p < 3) : stN r p ≤ szN r p := by
  unfold stN stI
  cases hh : hold r p with
  | none => exact Nat.le_refl _
  | some w =>
    obtain ⟨hw, hl⟩ := hold_in hh
    obtain ⟨f, f1, f2⟩ := (hI.2.1 w hw).2.2.2.2.2.2.2.2.1 p hp (lk_sp hl).2.1
    have := hI.le hp
    show (wf r w (7 + p)).toNatClampNeg ≤ _
    rw [f2, nI_clamp (by omega)]
    omega
theorem due_iff {a : xA} {s : Nat} {r : Row} {T w p : Nat} (hI : RI r T) (hP : PS a s r) (hT : T < 2 ^ 30) (hw : w < 4) (hp : p < 3) : (¬ a 18 s w p = 0) ↔ (wf r w 1 = 2 ∧ lk r w p = true) := by
  obtain ⟨q1, q2, q3, q4, q5, q6, q7, q8⟩ := hP.2.2.1 w hw
  rw [q7 p hp]
  constructor
  · intro h
    rcases Decidable.em (wf r w 1 = 2 ∧ lk r w p = true) with z | z
    · exact z
    · rw [if_neg z] at h; exact absurd rfl h
  · intro z
    rw [if_pos z]
    obtain ⟨g1, ⟨s', hs8, g2⟩, g3, g4, g5, g6, g7, g8, -⟩ := hI.2.1 w hw
    obtain ⟨e, e1, e2⟩ := g8 z.1
    obtain ⟨r1, r2, r3⟩ := rk_eq s' hs8 p hp
    have hb := (lk_sp z.2).2.1
    rw [g2, bitN s' hs8 p hp] at hb
    have := r3 hb
    rw [e2, g2, r1, nI_add]
    exact nI_ne0 (by omega) (by omega)
section
variable {a b : xA} {h0 : Int64} {r : Row} {T : Nat}
theorem cC_outside {Q : Int32 → xM → Prop} {μ : xM} {x n : Int32} (h1 : x < 0 ∨ ¬ x < n → Q 1 μ) (h2 : ¬ x < 0 → x < n → Q 0 μ) : CI mX5_outside [vI x, vI n] μ Q :=
  eX5_outside (a := μ.1) (b := μ.2.1) (h0 := μ.2.2) ⟨fun z => h1 (Or.inl z), fun z => ⟨fun y => h2 z y, fun y => h1 (Or.inr y)⟩⟩
theorem cC_holds {Q : Int32 → xM → Prop} {x : Int32} {s w p : Nat} (hI : RI r T) (hP : PS a s r) (hT : T < 2 ^ 30) (e : x = nI p) (hs : s < 7) (hw : w < 4) (hp : p < 3) (h1 : lk r w p = true → Q 1 (a, (b, h0))) (h2 : lk r w p = false → Q 0 (a, (b, h0))) : CI mX2_holds [vR 2 s w, vI x] (a, (b, h0)) Q := by
  subst e
  have hd := due_iff hI hP hT hw hp
  obtain ⟨q1, q2, q3, q4, q5, q6, q7, q8⟩ := hP.2.2.1 w hw
  have q5 := q5 p hp
  obtain ⟨g1, g2, g3, g4, g5, g6, -⟩ := hI.2.1 w hw
  refine eX2_holds hs hw ?_
  rw [nI_clamp (by omega)]
  refine ⟨vp_in_nI hp (by decide), fun z => h2 ?_, fun z => ⟨fun y => h1 ?_, fun y => ⟨vp_in_nI hp (by decide), fun x => h2 ?_, fun x => h1 (hd.mp x).2⟩⟩⟩
  · have : bitAt (wf r w 2) p = false := by rw [q5]; simp [z]
    simp [lk, this]
  · have hb : bitAt (wf r w 2) p = true := by rw [q5]; simp [z]
    have hm : wf r w 1 = 1 := q2.symm.trans y
    have hmar : wf r w 3 = 0 := g5 (by rw [hm]; decide)
    simp [lk, hb, hm, hmar, bit0 p hp]
  · cases hl : lk r w p with
    | false => rfl
    | true =>
      exfalso
      have hm0 := (lk_sp hl).1
      have hm : wf r w 1 = 2 := by
        rcases g1 with g | g | g
        · exact absurd g hm0
        · exact absurd (q2.trans g) y
        · exact g
      exact hd.mpr ⟨hm, hl⟩ x
theorem a17_lk {s w p : Nat} (hP : PS a s r) (hw : w < 4) (hp : p < 3) (hl : lk r w p = true) : a 17 s w p = wf r w (7 + p) := (hP.2.2.1 w hw).2.2.2.2.2.1 p hp (lk_sp hl).2.1
theorem cC_holder {Q : Int32 → xM → Prop} {x : Int32} {p : Nat} (hI : RI r T) (hP : PS a 0 r) (hT : T < 2 ^ 30) (e : x = nI p) (hp : p < 3) (hq : Q (oI (hold r p)) (a, (b, h0))) : CI mX5_holder [vR 5 0 0, vI x] (a, (b, h0)) Q := by
  subst e
  have ep : (nI p).toNatClampNeg = p := nI_clamp (by omega)
  have key : ∀ (m w : Nat) (best : Option Nat), w + m = 4 → (∀ v, best = some v → v < 4) → Q (oI (hF r p best w m)) (a, (b, h0)) → xOk mX5_holder 8 [(0, vR 5 0 0), (1, vI (nI p)), (2, vI (oI best)), (3, vI (match best with | none => 48 | some v => wf r v (7 + p))), (4, vI (nI w))] [] (a, (b, h0)) (qI Q) := by
    intro m
    induction m with
    | zero =>
      intro w best hw hb hq
      rw [Nat.add_zero] at hw
      subst hw
      exact rX5_holder_8 ⟨fun _ => hq, fun z => absurd (by decide) z⟩
    | succ m ih =>
      intro w best hw hb hq
      have hw4 : w < 4 := by omega
      refine rX5_holder_8 ⟨fun z => absurd z (n4 hw4), fun _ => ⟨vp_in_nI hw4 (by decide), ?_⟩⟩
      rw [nI_1, nI_clamp (by omega), ep]
      rw [hF] at hq
      refine cC_holds hI hP hT rfl (by decide) hw4 hp (fun l => ⟨fun z => absurd z (by decide), fun _ => ⟨vp_in_nI hp (by decide), fun z => ?_, fun z => ⟨vp_in_nI hp (by decide), ?_⟩⟩⟩) (fun l => ⟨fun _ => ?_, fun z => absurd rfl z⟩)
      · dsimp only at z
        rw [a17_lk hP hw4 hp l] at z
        cases best with
        | none =>
          exfalso
          obtain ⟨f, f1, f2⟩ := (hI.2.1 w hw4).2.2.2.2.2.2.2.2.1 p hp (lk_sp l).2.1
          rw [f2] at z
          have := hI.le hp
          exact nI_ge (a := f) (b := 48) (by omega) (by decide) z
        | some v =>
          have z2 : ¬ wf r w (7 + p) < wf r v (7 + p) := Int32.not_lt.mpr z
          rw [show hB r p (some v) w = some v by simp [hB, l, z2]] at hq
          exact ih (w + 1) (some v) (by omega) hb hq
      · dsimp only at z ⊢
        rw [a17_lk hP hw4 hp l] at z ⊢
        have e2 : hB r p best w = some w := by
          cases best with
          | none => simp [hB, l]
          | some v =>
            have z2 : wf r w (7 + p) < wf r v (7 + p) := Int32.not_le.mp z
            simp [hB, l, z2]
        rw [e2] at hq
        exact ih (w + 1) (some w) (by omega) (fun v hv => by cases hv; exact hw4) hq
      · rw [show hB r p best w = best by simp [hB, l]] at hq
        exact ih (w + 1) best (by omega) hb hq
  exact eX5_holder (key 4 0 none rfl (fun v hv => by cases hv) hq)
theorem cC_stable {Q : Int32 → xM → Prop} {x : Int32} {p : Nat} (hI : RI r T) (hP : PS a 0 r) (hU : CU a r) (hT : T < 2 ^ 30) (e : x = nI p) (hp : p < 3) (hq : Q (stI r p) (a, (b, h0))) : CI mX5_stable [vR 5 0 0, vI x] (a, (b, h0)) Q := by
  subst e
  have ep : (nI p).toNatClampNeg = p := nI_clamp (by omega)
  refine eX5_stable (cC_holder hI hP hT rfl hp ?_)
  rw [ep]
  unfold stI at hq
  cases hh : hold r p with
  | none =>
    rw [hh] at hq
    refine ⟨fun z => absurd rfl z, fun _ => ⟨vp_in_nI hp (by decide), ?_⟩⟩
    show Q (a 1 0 p 0) _
    rw [(hU p hp).1]
    exact hq
  | some w =>
    rw [hh] at hq
    obtain ⟨hw, hl⟩ := hold_in hh
    refine ⟨fun _ => ⟨vp_in_nI hw (by decide), vp_in_nI hp (by decide), ?_⟩, fun z => absurd z (nIm1 (by omega))⟩
    show Q (a 17 0 (nI w).toNatClampNeg p) _
    rw [nI_clamp (by omega), a17_lk hP hw hp hl]
    exact hq
theorem cC_producersIn {Q : Int32 → xM → Prop} {x : Int32} (hP : PS a 0 r) (hq : Q (nI (maN r x)) (a, (b, h0))) : CI mX5_producersIn [vR 5 0 0, vI x] (a, (b, h0)) Q := by
  refine eX5_producersIn (loopC (Wk := fun c k => xOk mX5_producersIn 4 [(0, vR 5 0 0), (1, vI x), (2, vI c), (3, vI k)] [] (a, (b, h0)) (qI Q)) (fun w => decide (wf r w 1 = x)) 4 (fun c => Q (nI c) (a, (b, h0))) (fun c hc => rX5_producersIn_4 ⟨fun _ => hc, fun z => absurd (by decide) z⟩) (fun c k hk t f => ?_) 4 0 0 rfl (by rw [Nat.zero_add]; exact hq))
  refine rX5_producersIn_4 ⟨fun z => absurd z (n4 hk), fun _ => ⟨vp_in_nI hk (by decide), ?_⟩⟩
  rw [nI_clamp (by omega), (hP.2.2.1 k hk).2.1]
  refine ⟨fun y => ?_, fun y => ?_⟩
  · rw [nI_1]; exact f (by simp [y])
  · rw [nI_1, nI_1]; exact t (by simp [y])
theorem cC_reserve {Q : Int32 → xM → Prop} {x : Int32} {p : Nat} (hI : RI r T) (hP : PS a 0 r) (hT : T < 2 ^ 30) (e : x = nI p) (hp : p < 3) (hq : Q (nI (owN r p)) (a, (b, h0))) : CI mX5_reserve [vR 5 0 0, vI x] (a, (b, h0)) Q := by
  subst e
  have ep : (nI p).toNatClampNeg = p := nI_clamp (by omega)
  have e : owN r p = maN r 1 + cN (fun w => decide (wf r w 1 = 2) && lk r w p) 0 4 := by
    unfold owN maN
    refine cN_add 4 0 (fun i _ hi => ⟨?_, ?_⟩)
    · obtain ⟨g1, -⟩ := hI.2.1 i (by omega)
      cases hl : lk r i p with
      | false => simp
      | true =>
        have hm0 := (lk_sp hl).1
        rcases g1 with g | g | g
        · exact absurd g hm0
        · simp [g]
        · simp [g]
    · rintro ⟨z1, z2⟩
      simp only [decide_eq_true_eq, Bool.and_eq_true] at z1 z2
      rw [z1] at z2
      exact absurd z2.1 (by decide)
  rw [e] at hq
  refine eX5_reserve (cC_producersIn hP ?_)
  refine loopC (Wk := fun c k => xOk mX5_reserve 8 [(0, vR 5 0 0), (1, vI (nI p)), (2, vI c), (3, vI k)] [] (a, (b, h0)) (qI Q)) (fun w => decide (wf r w 1 = 2) && lk r w p) 4 (fun c => Q (nI c) (a, (b, h0))) (fun c hc => rX5_reserve_8 ⟨fun _ => hc, fun z => absurd (by decide) z⟩) (fun c k hk t f => ?_) 4 0 (maN r 1) rfl hq
  refine rX5_reserve_8 ⟨fun z => absurd z (n4 hk), fun _ => ⟨vp_in_nI hk (by decide), vp_in_nI hp (by decide), ?_⟩⟩
  have hd := due_iff hI hP hT hk hp
  rw [nI_clamp (by omega), ep]
  refine ⟨fun y => ?_, fun y => ?_⟩
  · rw [nI_1]
    refine f ?_
    cases hc : (decide (wf r k 1 = 2) && lk r k p) with
    | false => rfl
    | true =>
      simp only [Bool.and_eq_true, decide_eq_true_eq] at hc
      exact absurd y (hd.mpr hc)
  · rw [nI_1, nI_1]
    obtain ⟨y1, y2⟩ := hd.mp y
    exact t (by simp [y1, y2])
end
