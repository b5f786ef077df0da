/-! the class's calls that tell -/
def psI (x : Int32) (s p : Nat) : Int32 := if Nat.testBit s p then x ||| ((1 : Int32) <<< (nI p &&& 31)) else x
theorem ps_eq : ∀ s, s < 8 → psI (psI (psI 0 s 0) s 1) s 2 = nI s := by decide
theorem outN {y : Int32} {N : Nat} (hN : N ≤ 48) : (y < 0 ∨ nI N - 1 < y) ↔ (y < 0 ∨ ¬ y < nI N) := by
  by_cases h : y < 0
  · simp [h]
  · have e : nI N - 1 < y ↔ ¬ y < nI N := by
      rcases Nat.eq_zero_or_pos N with z | z
      · subst z
        have e1 : nI 0 - (1 : Int32) = -1 := by decide
        rw [e1]
        obtain ⟨k, hk, rfl⟩ := nI_of h
        exact ⟨fun _ => h, fun _ => Int32.lt_of_lt_of_le (by decide) (Int32.not_lt.mp h)⟩
      · obtain ⟨M, rfl⟩ : ∃ M, N = M + 1 := ⟨N - 1, by omega⟩
        rw [lit 1, pk_sub (by omega)]
        exact (out_iff (by omega)).symm
    simp [h, e]
section
variable {a b : xA} {h0 : Int64} {r : Row} {T q : Nat} {R : Nat → Row}
theorem cC_partSet {Q : Int32 → xM → Prop} {w : Nat} (hI : RI r T) (hP : PS a 0 r) (hw : w < 4) (hq : Q (wf r w 2) (a, (b, h0))) : CI mX2_partSet [vR 2 0 w] (a, (b, h0)) Q := by
  obtain ⟨g1, ⟨s, s8, g2⟩, -⟩ := hI.2.1 w hw
  have q5 := (hP.2.2.1 w hw).2.2.2.2.1
  have step : ∀ (p : Nat) (x : Int32), p < 3 → xOk mX2_partSet 4 [(0, vR 2 0 w), (1, vI (psI x s p)), (2, vI (nI (p + 1)))] [] (a, (b, h0)) (qI Q) → xOk mX2_partSet 4 [(0, vR 2 0 w), (1, vI x), (2, vI (nI p))] [] (a, (b, h0)) (qI Q) := by
    intro p x hp hn
    have hb := q5 p hp
    rw [g2, bitN s s8 p hp] at hb
    refine rX2_partSet_4 (by decide) hw ⟨fun z => absurd z (n3 hp), fun _ => ⟨vp_in_nI hp (by decide), ?_⟩⟩
    rw [nI_clamp (by omega), nI_1]
    unfold psI at hn
    rw [hb] at hn
    refine ⟨fun z => ?_, fun z => ?_⟩
    · simp only [z, not_true, decide_false, Bool.false_eq_true, if_false] at hn
      exact hn
    · simp only [z, not_false_iff, decide_true, if_true] at hn
      exact hn
  rw [g2, ← ps_eq s s8] at hq
  exact eX2_partSet (by decide) hw (step 0 0 (by decide) (step 1 _ (by decide) (step 2 _ (by decide) (rX2_partSet_4 (by decide) hw ⟨fun _ => hq, fun z => absurd (by decide) z⟩))))
theorem cC_writer {Q : Int32 → xM → Prop} {x y : Int32} (hT : T < 2 ^ 30) (h : CR a r T) (hq : ∀ a', AP a q R r T (oWriter r x y) a' → Q (oWriter r x y).1 (a', (b, h0))) : CI mX5_writer [vR 5 0 0, vI x, vI y] (a, (b, h0)) Q := by
  refine eX5_writer (cC_out (n := 3) (by decide) (fun z => ⟨fun _ => cF2 hq (by rw [oWriter, if_pos (Or.inl (show x < 0 ∨ 3 < x from z))]), fun q => absurd q (by decide)⟩) (fun w hw e => ⟨fun q => absurd rfl q, fun _ => ?_⟩))
  refine cC_out (n := 8) (by decide) (fun z => ⟨fun q => absurd q (by decide), fun _ => cF2 hq (by rw [oWriter, if_pos (Or.inr (show y < 0 ∨ 8 < y from z))])⟩) (fun k hk ek => ⟨fun _ => ?_, fun q => absurd rfl q⟩)
  subst e; subst ek
  have hw4 : w < 4 := by omega
  have hb : ¬ ((nI w < 0 ∨ 3 < nI w) ∨ (nI k < 0 ∨ 8 < nI k)) := fun z => z.elim (notIn (n := 3) (by decide) hw) (notIn (n := 8) (by decide) hk)
  have hq := cN5 (x := tW r w k) hq (by rw [oWriter, if_neg hb, nI_clamp (by omega), nI_clamp (by omega)])
  obtain ⟨q1, q2, q3, q4, -⟩ := CR_w h hw4
  have ht := (CR_P h).1
  have nq : ∀ c, c < 9 → nI k = nI c → k = c := fun c hc e => nqI (by omega) (by omega) e
  refine ⟨vp_in_nI hw4 (by decide), ?_⟩
  dsimp only
  rw [nI_clamp (by omega), q1, q2, q3, q4, ht]
  refine ⟨fun z => ?_, fun z0 => ⟨fun z => ?_, fun z1 => ⟨fun z => ?_, fun z2 => ⟨fun z => ?_, fun z3 => ⟨fun z => ?_, fun z4 => ⟨fun z => ?_, fun z5 => ?_⟩⟩⟩⟩⟩⟩
  · cases nq 0 (by decide) z; exact hq
  · cases nq 1 (by decide) z; exact hq
  · cases nq 2 (by decide) z; exact cC_partSet h.1.1 (CR_P h) hw4 hq
  · cases nq 3 (by decide) z; exact cC_markersDue h.1.1 (CR_P h) hT hw4 hq
  · cases nq 4 (by decide) z
    refine qe hq ?_
    show (if wf r w 1 = 2 then wf r w 4 else 0) = wf r w 4
    by_cases h2 : wf r w 1 = 2
    · rw [if_pos h2]
    · rw [if_neg h2, (h.1.1.2.1 w hw4).2.2.2.2.2.2.1.2 h2]
  · cases nq 5 (by decide) z
    have hq : Q (if wf r w 1 = 1 then r 0 - wf r w 5 else -1) (a, (b, h0)) := hq
    refine ⟨fun z => ?_, fun z => ?_⟩
    · rw [if_neg z] at hq; exact hq
    · rw [if_pos z] at hq; exact hq
  · have h0' : k ≠ 0 := fun e => z0 (by rw [e]; rfl)
    have h1' : k ≠ 1 := fun e => z1 (by rw [e]; rfl)
    have h2' : k ≠ 2 := fun e => z2 (by rw [e]; rfl)
    have h3' : k ≠ 3 := fun e => z3 (by rw [e]; rfl)
    have h4' : k ≠ 4 := fun e => z4 (by rw [e]; rfl)
    have h5' : k ≠ 5 := fun e => z5 (by rw [e]; rfl)
    rw [lit 6, pk_sub (by omega), nI_clamp (by omega)]
    refine ⟨vp_in_nI (by omega) (by decide), cC_numberDue (CR_LG h (by omega)) rfl rfl ?_⟩
    exact qe hq (by simp [tW, h0', h1', h2', h3', h4', h5'])
theorem cC_entry {Q : Int32 → xM → Prop} {x y z : Int32} (hT : T < 2 ^ 30) (h : CR a r T) (hq : ∀ a', AP a q R r T (oEntry r x y z) a' → Q (oEntry r x y z).1 (a', (b, h0))) : CI mX5_entry [vR 5 0 0, vI x, vI y, vI z] (a, (b, h0)) Q := by
  refine eX5_entry (cC_out (n := 2) (by decide) (fun z => ⟨fun _ => cF2 hq (by rw [oEntry, if_pos (Or.inl (show x < 0 ∨ 2 < x from z))]), fun q => absurd q (by decide)⟩) (fun p hp e => ⟨fun q => absurd rfl q, fun _ => ⟨by rw [e]; exact vp_in_nI (by omega) (by decide), ?_⟩⟩))
  subst e
  have hp3 : p < 3 := by omega
  have hL := CR_LG h hp3
  have hz := hL.sz
  have ep : (nI p).toNatClampNeg = p := nI_clamp (by omega)
  have e66 : r (66 + p) = nI (szN r p) := (h.1.1.1 p hp3).1
  dsimp only
  rw [ep, hL.len]
  refine cC_outside (fun u => ⟨fun _ => cF2 hq ?_, fun q => absurd q (by decide)⟩) (fun u1 u2 => ⟨fun q => absurd rfl q, fun _ => ?_⟩)
  · rw [oEntry, ep, e66, if_pos (Or.inr (Or.inl ((outN hz).mpr u)))]
  refine cC_out (n := 6) (by decide) (fun u => ⟨fun q => absurd q (by decide), fun _ => cF2 hq (by rw [oEntry, if_pos (Or.inr (Or.inr (show z < 0 ∨ 6 < z from u)))])⟩) (fun c hc ec => ⟨fun _ => ?_, fun q => absurd rfl q⟩)
  subst ec
  obtain ⟨k, hk, rfl⟩ := nI_of u1
  have hkN : k < szN r p := (nI_ltI (by omega) (by omega)).mp u2
  have ek : (nI k).toNatClampNeg = k := nI_clamp (by omega)
  have hb : ¬ ((nI p < 0 ∨ 2 < nI p) ∨ (nI k < 0 ∨ r (66 + (nI p).toNatClampNeg) - 1 < nI k) ∨ (nI c < 0 ∨ 6 < nI c)) := by
    rintro (u | u | u)
    · exact notIn (n := 2) (by decide) hp u
    · rw [ep, e66] at u
      exact ((outN hz).mp u).elim u1 (fun v => v u2)
    · exact notIn (n := 6) (by decide) hc u
  have hq := cN5 (x := tE r p k c) hq (by rw [oEntry, if_neg hb, ep, ek, nI_clamp (by omega)])
  obtain ⟨c0, c1, c2, c3, c4, c5⟩ := hL.2.2.1.1 k hkN
  have hv : vp_in (nI k) 48 := vp_in_nI (by omega) (by decide)
  have nq : ∀ d, d < 9 → nI c = nI d → c = d := fun d hd e => nqI (by omega) (by omega) e
  refine ⟨vp_in_nI hp3 (by decide), ?_⟩
  dsimp only
  rw [ek, ← c1, ← c2, ← c3, ← c4]
  refine ⟨fun z => ?_, fun z0 => ⟨fun z => ?_, fun z1 => ⟨fun z => ?_, fun z2 => ⟨fun z => ?_, fun z3 => ⟨fun z => ?_, fun z4 => ⟨fun z => ?_, fun z5 => ?_⟩⟩⟩⟩⟩⟩
  · cases nq 0 (by decide) z
    have hq : Q (ce r p k 0) (a, (b, h0)) := hq
    refine cC_isMarker hL rfl hkN (fun m _ => ⟨fun z => absurd z (by decide), fun _ => qe hq ?_⟩) (fun m _ => ⟨fun _ => qe hq ?_, fun z => absurd rfl z⟩)
    · simpa [mk] using m
    · have m : ¬ ce r p k 0 = 1 := by simpa [mk] using m
      exact (hL.kind hkN).resolve_right m
  · cases nq 1 (by decide) z; exact ⟨hv, hq⟩
  · cases nq 2 (by decide) z; exact ⟨hv, hq⟩
  · cases nq 3 (by decide) z; exact ⟨hv, hq⟩
  · cases nq 4 (by decide) z; exact ⟨hv, hq⟩
  · cases nq 5 (by decide) z
    refine cC_fate hL rfl hkN (qe hq ?_)
    show (if ce r p k 0 = 1 then -1 else ce r p k 5) = if mk r p k = true then -1 else ce r p k 5
    simp only [mk, decide_eq_true_eq]
  · have h0' : c ≠ 0 := fun e => z0 (by rw [e]; rfl)
    have h1' : c ≠ 1 := fun e => z1 (by rw [e]; rfl)
    have h2' : c ≠ 2 := fun e => z2 (by rw [e]; rfl)
    have h3' : c ≠ 3 := fun e => z3 (by rw [e]; rfl)
    have h4' : c ≠ 4 := fun e => z4 (by rw [e]; rfl)
    have h5' : c ≠ 5 := fun e => z5 (by rw [e]; rfl)
    have h6' : c = 6 := by omega
    subst h6'
    have hq : Q (if k < stN r p ∧ vis r p k = true then 1 else 0) (a, (b, h0)) := hq
    obtain ⟨t1, t2⟩ := h.1.1.WR.st hp3
    refine cC_stable h.1.1 (CR_P h) h.2 hT rfl hp3 (cC_isVisible hL rfl hkN (fun u v => ⟨fun z => absurd z (by decide), fun _ => ?_⟩) (fun u => ⟨fun _ => ?_, fun z => absurd rfl z⟩))
    · rw [t2] at u
      have u : k < stN r p := by
        rcases Nat.lt_or_ge k (stN r p) with w | w
        · exact w
        · exact absurd (nI_le w (by omega)) u
      rw [if_pos ⟨u, v⟩] at hq
      exact hq
    · rw [if_neg] at hq
      · exact hq
      · rintro ⟨v1, v2⟩
        rcases u with u | u
        · rw [t2] at u
          exact nI_ge v1 (by omega) u
        · rw [u] at v2; cases v2
theorem cC_part {Q : Int32 → xM → Prop} {x y : Int32} (hT : T < 2 ^ 30) (h : CR a r T) (hq : ∀ a', AP a q R r T (oPart r x y) a' → Q (oPart r x y).1 (a', (b, h0))) : CI mX5_part [vR 5 0 0, vI x, vI y] (a, (b, h0)) Q := by
  refine eX5_part (cC_out (n := 2) (by decide) (fun z => ⟨fun _ => cF2 hq (by rw [oPart, if_pos (Or.inl (show x < 0 ∨ 2 < x from z))]), fun q => absurd q (by decide)⟩) (fun p hp e => ⟨fun q => absurd rfl q, fun _ => ?_⟩))
  refine cC_out (n := 5) (by decide) (fun z => ⟨fun q => absurd q (by decide), fun _ => cF2 hq (by rw [oPart, if_pos (Or.inr (show y < 0 ∨ 5 < y from z))])⟩) (fun k hk ek => ⟨fun _ => ?_, fun q => absurd rfl q⟩)
  subst e; subst ek
  have hp3 : p < 3 := by omega
  have hL := CR_LG h hp3
  have hb : ¬ ((nI p < 0 ∨ 2 < nI p) ∨ (nI k < 0 ∨ 5 < nI k)) := fun z => z.elim (notIn (n := 2) (by decide) hp) (notIn (n := 5) (by decide) hk)
  have hq := cN5 (x := tP r p k) hq (by rw [oPart, if_neg hb, nI_clamp (by omega), nI_clamp (by omega)])
  have nq : ∀ c, c < 9 → nI k = nI c → k = c := fun c hc e => nqI (by omega) (by omega) e
  have hv : vp_in (nI p) 3 := vp_in_nI hp3 (by decide)
  obtain ⟨t1, t2⟩ := h.1.1.WR.st hp3
  have hst := hold_le h.1.1 hp3
  dsimp only
  rw [nI_clamp (by omega), (h.2 p hp3).1]
  refine ⟨fun z => ?_, fun z0 => ⟨fun z => ?_, fun z1 => ⟨fun z => ?_, fun z2 => ⟨fun z => ?_, fun z3 => ⟨fun z => ?_, fun z4 => ?_⟩⟩⟩⟩⟩
  · cases nq 0 (by decide) z; exact ⟨hv, hq⟩
  · cases nq 1 (by decide) z; exact cC_stable h.1.1 (CR_P h) h.2 hT rfl hp3 hq
  · cases nq 2 (by decide) z
    exact ⟨hv, cC_stable h.1.1 (CR_P h) h.2 hT rfl hp3 (cC_visibleFrom (k := 0) hL rfl t2 (by decide) hst hq)⟩
  · cases nq 3 (by decide) z; exact cC_reserve h.1.1 (CR_P h) hT rfl hp3 hq
  · cases nq 4 (by decide) z; exact cC_holder h.1.1 (CR_P h) hT rfl hp3 hq
  · have h0' : k ≠ 0 := fun e => z0 (by rw [e]; rfl)
    have h1' : k ≠ 1 := fun e => z1 (by rw [e]; rfl)
    have h2' : k ≠ 2 := fun e => z2 (by rw [e]; rfl)
    have h3' : k ≠ 3 := fun e => z3 (by rw [e]; rfl)
    have h4' : k ≠ 4 := fun e => z4 (by rw [e]; rfl)
    exact ⟨hv, cC_abortedDeeds hL (qe hq (by simp [tP, h0', h1', h2', h3', h4']))⟩
theorem cC_aborted {Q : Int32 → xM → Prop} {x y z : Int32} (h : CR a r T) (hq : ∀ a', AP a q R r T (oAborted r x y z) a' → Q (oAborted r x y z).1 (a', (b, h0))) : CI mX5_aborted [vR 5 0 0, vI x, vI y, vI z] (a, (b, h0)) Q := by
  refine eX5_aborted (cC_out (n := 2) (by decide) (fun z => ⟨fun _ => cF2 hq (by rw [oAborted, if_pos (Or.inl (show x < 0 ∨ 2 < x from z))]), fun q => absurd q (by decide)⟩) (fun p hp e => ⟨fun q => absurd rfl q, fun _ => ⟨fun u => cF2 hq (by rw [oAborted, if_pos (Or.inr (Or.inl u))]), fun u => ?_⟩⟩))
  refine cC_out (n := 2) (by decide) (fun u => ⟨fun q => absurd q (by decide), fun _ => cF2 hq (by rw [oAborted, if_pos (Or.inr (Or.inr (show z < 0 ∨ 2 < z from u)))])⟩) (fun c hc ec => ⟨fun _ => ?_, fun q => absurd rfl q⟩)
  subst e; subst ec
  have hp3 : p < 3 := by omega
  have hL := CR_LG h hp3
  have hz := hL.sz
  have hb : ¬ ((nI p < 0 ∨ 2 < nI p) ∨ y < 0 ∨ (nI c < 0 ∨ 2 < nI c)) := fun z => z.elim (notIn (n := 2) (by decide) hp) (fun z => z.elim u (notIn (n := 2) (by decide) hc))
  have hq := cN5 (x := tA r p y c) hq (by rw [oAborted, if_neg hb, nI_clamp (by omega), nI_clamp (by omega)])
  have nq : ∀ d, d < 9 → nI c = nI d → c = d := fun d hd e => nqI (by omega) (by omega) e
  rw [aF_tA hL y c (by omega)] at hq
  refine ⟨vp_in_nI hp3 (by decide), ?_⟩
  rw [nI_clamp (by omega)]
  refine cC_abortedFirst hL ?_
  cases hc2 : afF a r p y 0 (szN r p) with
  | none =>
    rw [hc2] at hq
    exact ⟨fun z => absurd rfl z, fun _ => hq⟩
  | some f =>
    rw [hc2] at hq
    have hf := afF_some hc2
    have hv : vp_in (nI f) 48 := vp_in_nI (by omega) (by decide)
    have hq : Q (if c = 0 then a 10 0 p f else if c = 1 then nI f else a 15 0 p f) (a, (b, h0)) := hq
    show (¬ nI f = -1 → _) ∧ (nI f = -1 → _)
    refine ⟨fun _ => ?_, fun z => absurd z (nIm1 (by omega))⟩
    show (nI c = 0 → vp_in (nI f) 48 ∧ Q (a 10 0 p (nI f).toNatClampNeg) (a, (b, h0))) ∧ (¬ nI c = 0 → (nI c = 1 → Q (nI f) (a, (b, h0))) ∧ (¬ nI c = 1 → vp_in (nI f) 48 ∧ Q (a 15 0 p (nI f).toNatClampNeg) (a, (b, h0))))
    rw [nI_clamp (by omega)]
    refine ⟨fun z => ?_, fun z0 => ⟨fun z => ?_, fun z1 => ?_⟩⟩
    · cases nq 0 (by decide) z; exact ⟨hv, hq⟩
    · cases nq 1 (by decide) z; exact hq
    · have h0' : c ≠ 0 := fun e => z0 (by rw [e]; rfl)
      have h1' : c ≠ 1 := fun e => z1 (by rw [e]; rfl)
      rw [if_neg h0', if_neg h1'] at hq
      exact ⟨hv, hq⟩
theorem cC_reader {Q : Int32 → xM → Prop} {x y z : Int32} (hT : T < 2 ^ 30) (h : CR a r T) (hq : ∀ a', AP a q R r T (oReader r x y z) a' → Q (oReader r x y z).1 (a', (b, h0))) : CI mX5_reader [vR 5 0 0, vI x, vI y, vI z] (a, (b, h0)) Q := by
  refine eX5_reader (cC_out (n := 1) (by decide) (fun z => ⟨fun _ => cF2 hq (by rw [oReader, if_pos (Or.inl (show x < 0 ∨ 1 < x from z))]), fun q => absurd q (by decide)⟩) (fun j hj e => ⟨fun q => absurd rfl q, fun _ => ?_⟩))
  refine cC_out (n := 2) (by decide) (fun u => ⟨fun _ => cF2 hq (by rw [oReader, if_pos (Or.inr (Or.inl (show y < 0 ∨ 2 < y from u)))]), fun q => absurd q (by decide)⟩) (fun p hp ep => ⟨fun q => absurd rfl q, fun _ => ?_⟩)
  refine cC_out (n := 3) (by decide) (fun u => ⟨fun q => absurd q (by decide), fun _ => cF2 hq (by rw [oReader, if_pos (Or.inr (Or.inr (show z < 0 ∨ 3 < z from u)))])⟩) (fun c hc ec => ⟨fun _ => ?_, fun q => absurd rfl q⟩)
  subst e; subst ep; subst ec
  have hp3 : p < 3 := by omega
  have hj2 : j < 2 := by omega
  have hL := CR_LG h hp3
  have hb : ¬ ((nI j < 0 ∨ 1 < nI j) ∨ (nI p < 0 ∨ 2 < nI p) ∨ (nI c < 0 ∨ 3 < nI c)) := fun z => z.elim (notIn (n := 1) (by decide) hj) (fun z => z.elim (notIn (n := 2) (by decide) hp) (notIn (n := 3) (by decide) hc))
  have hq := cN5 (x := tR r j p c) hq (by rw [oReader, if_neg hb, nI_clamp (by omega), nI_clamp (by omega), nI_clamp (by omega)])
  have nq : ∀ d, d < 9 → nI c = nI d → c = d := fun d hd e => nqI (by omega) (by omega) e
  have hv : vp_in (nI p) 3 := vp_in_nI hp3 (by decide)
  obtain ⟨s1, s2⟩ := h.1.1.WR.pl hj2 hp3
  obtain ⟨t1, t2⟩ := h.1.1.WR.st hp3
  have hst := hold_le h.1.1 hp3
  obtain ⟨w1, w2⟩ := (CR_P h).2.2.2 j hj2 p hp3
  refine ⟨vp_in_nI hj2 (by decide), ?_⟩
  dsimp only
  rw [nI_clamp (by omega), nI_clamp (by omega), w1, w2]
  refine ⟨fun z => ?_, fun z0 => ⟨fun z => ?_, fun z1 => ⟨fun z => ?_, fun z2 => ?_⟩⟩⟩
  · cases nq 0 (by decide) z; exact ⟨hv, hq⟩
  · cases nq 1 (by decide) z
    refine ⟨hv, qe hq ?_⟩
    show r (69 + 6 * j + p + 3) = _
    rw [show 69 + 6 * j + 3 + p = 69 + 6 * j + p + 3 by omega]
  · cases nq 2 (by decide) z
    exact ⟨hv, hv, cC_stable h.1.1 (CR_P h) h.2 hT rfl hp3 (cC_visibleFrom hL s2 t2 s1 hst hq)⟩
  · have h0' : c ≠ 0 := fun e => z0 (by rw [e]; rfl)
    have h1' : c ≠ 1 := fun e => z1 (by rw [e]; rfl)
    have h2' : c ≠ 2 := fun e => z2 (by rw [e]; rfl)
    exact ⟨hv, hv, cC_stable h.1.1 (CR_P h) h.2 hT rfl hp3 (cC_nextVisible hL s2 t2 s1 hst (qe hq (by simp [tR, h0', h1', h2'])))⟩
end
