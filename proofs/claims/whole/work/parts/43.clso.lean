def tC (a : xA) (k : Nat) : Int32 := if k < 5 then a 25 0 0 k else if k = 5 then a 3 0 0 1 else a 5 0 0 3
def dgC (a : xA) (r : Row) : Int64 := itS (dgR r) (itS (dgP r) (itS (fun h w => mF (tW r w) h 9) (mF (tG r) (mF (tC a) 2297 7) 8) 0 4) 0 3) 0 2
section
variable {a b : xA} {h0 : Int64} {r : Row} {T q : Nat} {R : Nat → Row}
theorem cC_entriesOfAll {Q : Int32 → xM → Prop} (h : CR a r T) (hq : Q (sum3 (tS r 4)) (a, (b, h0))) : CI mX5_entriesOfAll [vR 5 0 0] (a, (b, h0)) Q := by
  have step : ∀ (p : Nat) (x : Int32), p < 3 → xOk mX5_entriesOfAll 4 [(0, vR 5 0 0), (1, vI (x + tS r 4 p)), (2, vI (nI (p + 1)))] [] (a, (b, h0)) (qI Q) → xOk mX5_entriesOfAll 4 [(0, vR 5 0 0), (1, vI x), (2, vI (nI p))] [] (a, (b, h0)) (qI Q) := by
    intro p x hp hn
    refine rX5_entriesOfAll_4 ⟨fun z => absurd z (n3 hp), fun _ => ⟨vp_in_nI hp (by decide), ?_⟩⟩
    rw [nI_clamp (by omega), nI_1, (h.2 p hp).1]
    exact hn
  exact eX5_entriesOfAll (step 0 0 (by decide) (step 1 _ (by decide) (step 2 _ (by decide) (rX5_entriesOfAll_4 ⟨fun _ => hq, fun z => absurd (by decide) z⟩))))
theorem cC_markersOfAll {Q : Int32 → xM → Prop} (h : CR a r T) (hq : Q (sum3 (tS r 5)) (a, (b, h0))) : CI mX5_markersOfAll [vR 5 0 0] (a, (b, h0)) Q := by
  have step : ∀ (p : Nat) (x : Int32), p < 3 → xOk mX5_markersOfAll 4 [(0, vR 5 0 0), (1, vI (x + tS r 5 p)), (2, vI (nI (p + 1)))] [] (a, (b, h0)) (qI Q) → xOk mX5_markersOfAll 4 [(0, vR 5 0 0), (1, vI x), (2, vI (nI p))] [] (a, (b, h0)) (qI Q) := by
    intro p x hp hn
    refine rX5_markersOfAll_4 ⟨fun z => absurd z (n3 hp), fun _ => ⟨vp_in_nI hp (by decide), ?_⟩⟩
    rw [nI_clamp (by omega), nI_1]
    exact cC_markers (CR_LG h hp) hn
  exact eX5_markersOfAll (step 0 0 (by decide) (step 1 _ (by decide) (step 2 _ (by decide) (rX5_markersOfAll_4 ⟨fun _ => hq, fun z => absurd (by decide) z⟩))))
theorem cC_visibleOfAll {Q : Int32 → xM → Prop} (hT : T < 2 ^ 30) (h : CR a r T) (hq : Q (sum3 (tS r 6)) (a, (b, h0))) : CI mX5_visibleOfAll [vR 5 0 0] (a, (b, h0)) Q := by
  have step : ∀ (p : Nat) (x : Int32), p < 3 → xOk mX5_visibleOfAll 4 [(0, vR 5 0 0), (1, vI (x + tS r 6 p)), (2, vI (nI (p + 1)))] [] (a, (b, h0)) (qI Q) → xOk mX5_visibleOfAll 4 [(0, vR 5 0 0), (1, vI x), (2, vI (nI p))] [] (a, (b, h0)) (qI Q) := by
    intro p x hp hn
    obtain ⟨t1, t2⟩ := h.1.1.WR.st hp
    refine rX5_visibleOfAll_4 ⟨fun z => absurd z (n3 hp), fun _ => ⟨vp_in_nI hp (by decide), ?_⟩⟩
    rw [nI_clamp (by omega), nI_1]
    exact cC_stable h.1.1 (CR_P h) h.2 hT rfl hp (cC_visibleFrom (k := 0) (CR_LG h hp) rfl t2 (by decide) (hold_le h.1.1 hp) hn)
  exact eX5_visibleOfAll (step 0 0 (by decide) (step 1 _ (by decide) (step 2 _ (by decide) (rX5_visibleOfAll_4 ⟨fun _ => hq, fun z => absurd (by decide) z⟩))))
theorem cC_dueOfAll {Q : Int32 → xM → Prop} (hT : T < 2 ^ 30) (h : CR a r T) (hq : Q (sum4 (toC r)) (a, (b, h0))) : CI mX5_dueOfAll [vR 5 0 0] (a, (b, h0)) Q := by
  have step : ∀ (p : Nat) (x : Int32), p < 4 → xOk mX5_dueOfAll 4 [(0, vR 5 0 0), (1, vI (x + toC r p)), (2, vI (nI (p + 1)))] [] (a, (b, h0)) (qI Q) → xOk mX5_dueOfAll 4 [(0, vR 5 0 0), (1, vI x), (2, vI (nI p))] [] (a, (b, h0)) (qI Q) := by
    intro p x hp hn
    refine rX5_dueOfAll_4 ⟨fun z => absurd z (n4 hp), fun _ => ⟨vp_in_nI hp (by decide), ?_⟩⟩
    rw [nI_clamp (by omega), nI_1]
    exact cC_markersDue h.1.1 (CR_P h) hT hp hn
  exact eX5_dueOfAll (step 0 0 (by decide) (step 1 _ (by decide) (step 2 _ (by decide) (step 3 _ (by decide) (rX5_dueOfAll_4 ⟨fun _ => hq, fun z => absurd (by decide) z⟩)))))
theorem cC_all {Q : Int32 → xM → Prop} {x : Int32} (hT : T < 2 ^ 30) (h : CR a r T) (hq : ∀ a', AP a q R r T (oAll r x) a' → Q (oAll r x).1 (a', (b, h0))) : CI mX5_all [vR 5 0 0, vI x] (a, (b, h0)) Q := by
  refine eX5_all (cC_out (n := 7) (by decide) (fun z => ⟨fun q => absurd q (by decide), fun _ => cF2 hq (by rw [oAll, if_pos (show x < 0 ∨ 7 < x from z)])⟩) (fun k hk e => ⟨fun _ => ?_, fun q => absurd rfl q⟩))
  subst e
  have hb : ¬ (nI k < 0 ∨ 7 < nI k) := notIn (n := 7) (by decide) hk
  have hq := cN5 (x := tG r k) hq (by rw [oAll, if_neg hb, nI_clamp (by omega)])
  have nq : ∀ c, c < 9 → nI k = nI c → k = c := fun c hc e => nqI (by omega) (by omega) e
  dsimp only
  rw [(CR_P h).1, (CR_P h).2.1]
  refine ⟨fun z => ?_, fun z0 => ⟨fun z => ?_, fun z1 => ⟨fun z => ?_, fun z2 => ⟨fun z => ?_, fun z3 => ⟨fun z => ?_, fun z4 => ⟨fun z => ?_, fun z5 => ⟨fun z => ?_, fun z6 => ?_⟩⟩⟩⟩⟩⟩⟩
  · cases nq 0 (by decide) z; exact hq
  · cases nq 1 (by decide) z; exact hq
  · cases nq 2 (by decide) z; exact cC_producersIn (CR_P h) hq
  · cases nq 3 (by decide) z; exact cC_producersIn (CR_P h) hq
  · cases nq 4 (by decide) z; exact cC_entriesOfAll h hq
  · cases nq 5 (by decide) z; exact cC_markersOfAll h hq
  · cases nq 6 (by decide) z; exact cC_visibleOfAll hT h hq
  · have h0' : k ≠ 0 := fun e => z0 (by rw [e]; rfl)
    have h1' : k ≠ 1 := fun e => z1 (by rw [e]; rfl)
    have h2' : k ≠ 2 := fun e => z2 (by rw [e]; rfl)
    have h3' : k ≠ 3 := fun e => z3 (by rw [e]; rfl)
    have h4' : k ≠ 4 := fun e => z4 (by rw [e]; rfl)
    have h5' : k ≠ 5 := fun e => z5 (by rw [e]; rfl)
    have h6' : k ≠ 6 := fun e => z6 (by rw [e]; rfl)
    have h7' : k = 7 := by omega
    subst h7'
    exact cC_dueOfAll hT h hq
theorem cC_told {Q : Int32 → xM → Prop} {x : Int32} (h1 : x < 0 ∨ 6 < x → Q (-2) (erM a 0, (b, h0))) (h2 : ∀ k, k ≤ 6 → x = nI k → Q (tC a k) (a, (b, h0))) : CI mX5_told [vR 5 0 0, vI x] (a, (b, h0)) Q := by
  refine eX5_told (cC_out (n := 6) (by decide) (fun z => ⟨fun q => absurd q (by decide), fun _ => cC_failed (i := 0) (by simp) (h1 z)⟩) (fun k hk e => ⟨fun _ => ?_, fun q => absurd rfl q⟩))
  have hq := h2 k hk e
  subst e
  unfold tC at hq
  refine ⟨fun z => ⟨fun y => ?_, fun y => ?_⟩, fun z => ⟨?_, ?_⟩⟩
  · have h5 : 5 ≤ k := (nI_leI (a := 5) (by decide) (by omega)).mp z
    have h5' : k ≠ 5 := fun e => y (by rw [e]; rfl)
    rw [if_neg (by omega), if_neg h5'] at hq
    exact hq
  · have h5 : k = 5 := nqI (by omega) (by decide) y
    subst h5
    exact hq
  · have h5 : ¬ 5 ≤ k := fun h => z ((nI_leI (a := 5) (by decide) (by omega)).mpr h)
    exact vp_in_nI (by omega) (by decide)
  · have h5 : ¬ 5 ≤ k := fun h => z ((nI_leI (a := 5) (by decide) (by omega)).mpr h)
    rw [nI_clamp (by omega)]
    rw [if_pos (by omega)] at hq
    exact hq
theorem AP5 {x : Int32} {r' : Row} {a' : xA} (z : AP a q R r T (x, 5, r') a') : a' = a := by
  rcases z with z | z | z
  · have z1 : 5 < 5 := z.1
    omega
  · exact z.2
  · have z1 : 5 = 6 := z.1
    omega
theorem cC_mixPart {Q : Int64 → xM → Prop} {x1 : Int32} {l : Int64} {p : Nat} (hT : T < 2 ^ 30) (h : CR a r T) (e1 : x1 = nI p) (hp : p < 3) (hq : Q (dgP r l p) (a, (b, h0))) : CL mX5_mixPart [vR 5 0 0, vL l, vI x1] (a, (b, h0)) Q := by
  subst e1
  have hL := CR_LG h hp
  have hz := hL.sz
  have hcl : cN (ab r p) 0 (szN r p) ≤ szN r p := cN_le _ _ _
  have ep : (nI p).toNatClampNeg = p := nI_clamp (by omega)
  have hv : vp_in (nI p) 3 := vp_in_nI hp (by decide)
  have p3 : ∀ l, Q (dgA r p l) (a, (b, h0)) → xOk mX5_mixPart 107 [(0, vR 5 0 0), (3, vI (nI p)), (4, vL l), (6, vI (nI (cN (ab r p) 0 (szN r p)))), (7, vI (nI 0))] [] (a, (b, h0)) (qL Q) := by
    intro l hq
    refine loopS (Wk := fun l k => xOk mX5_mixPart 107 [(0, vR 5 0 0), (3, vI (nI p)), (4, vL l), (6, vI (nI (cN (ab r p) 0 (szN r p)))), (7, vI k)] [] (a, (b, h0)) (qL Q)) (fun h k => mF (tA r p (nI k)) h 3) (cN (ab r p) 0 (szN r p)) (fun l => Q l (a, (b, h0))) (fun s hs => ?_) (fun s k hk hn => ?_) _ 0 l (by omega) hq
    · exact rX5_mixPart_107 ⟨fun _ => hs, fun z => absurd (Int32.le_refl _) z⟩
    · refine rX5_mixPart_107 ⟨fun z => absurd z (nle hk (by omega)), fun _ => ?_⟩
      refine loopS (Wk := fun l c => xOk mX5_mixPart 117 [(0, vR 5 0 0), (3, vI (nI p)), (4, vL l), (6, vI (nI (cN (ab r p) 0 (szN r p)))), (7, vI (nI k)), (8, vI c)] [] (a, (b, h0)) (qL Q)) (fun h c => mo h (tA r p (nI k) c)) 3 (fun l => xOk mX5_mixPart 107 [(0, vR 5 0 0), (3, vI (nI p)), (4, vL l), (6, vI (nI (cN (ab r p) 0 (szN r p)))), (7, vI (nI (k + 1)))] [] (a, (b, h0)) (qL Q)) (fun s hs => ?_) (fun s c hc hn => ?_) 3 0 s (by omega) hn
      · refine rX5_mixPart_117 ⟨fun _ => ?_, fun z => absurd (by decide) z⟩
        rw [nI_1]; exact hs
      · refine rX5_mixPart_117 ⟨fun z => absurd z (nI_nlt (a := 2) (b := c) (by omega) (by decide)), fun _ => ?_⟩
        have ho : oAborted r (nI p) (nI k) (nI c) = (tA r p (nI k) c, 5, r) := by
          have hb : ¬ ((nI p < 0 ∨ 2 < nI p) ∨ nI k < 0 ∨ (nI c < 0 ∨ 2 < nI c)) := fun z => z.elim (notIn (n := 2) (by decide) (by omega)) (fun z => z.elim (nI_pos (by omega)) (notIn (n := 2) (by decide) (by omega)))
          rw [oAborted, if_neg hb, ep, nI_clamp (by omega)]
        refine cC_aborted (q := 0) (R := fun _ => r) h (fun a' z => ?_)
        rw [ho] at z ⊢
        rw [AP5 z, nI_1]
        exact hn
  have p2 : ∀ l, Q (dgA r p (dgE r p l)) (a, (b, h0)) → xOk mX5_mixPart 38 [(0, vR 5 0 0), (3, vI (nI p)), (4, vL l), (6, vI (nI 0))] [] (a, (b, h0)) (qL Q) := by
    intro l hq
    refine loopS (Wk := fun l k => xOk mX5_mixPart 38 [(0, vR 5 0 0), (3, vI (nI p)), (4, vL l), (6, vI k)] [] (a, (b, h0)) (qL Q)) (fun h k => mF (tE r p k) h 7) (szN r p) (fun l => Q (dgA r p l) (a, (b, h0))) (fun s hs => ?_) (fun s k hk hn => ?_) _ 0 l (by omega) hq
    · refine rX5_mixPart_38 ?_
      rw [ep, hL.len]
      exact ⟨hv, fun _ => ⟨hv, cC_abortedDeeds hL (p3 s hs)⟩, fun z => absurd (Int32.le_refl _) z⟩
    · refine rX5_mixPart_38 ?_
      rw [ep, hL.len]
      refine ⟨hv, fun z => absurd z (nle hk (by omega)), fun _ => ?_⟩
      refine loopS (Wk := fun l c => xOk mX5_mixPart 55 [(0, vR 5 0 0), (3, vI (nI p)), (4, vL l), (6, vI (nI k)), (7, vI c)] [] (a, (b, h0)) (qL Q)) (fun h c => mo h (tE r p k c)) 7 (fun l => xOk mX5_mixPart 38 [(0, vR 5 0 0), (3, vI (nI p)), (4, vL l), (6, vI (nI (k + 1)))] [] (a, (b, h0)) (qL Q)) (fun s hs => ?_) (fun s c hc hn => ?_) 7 0 s (by omega) hn
      · refine rX5_mixPart_55 ⟨fun _ => ?_, fun z => absurd (by decide) z⟩
        rw [nI_1]; exact hs
      · refine rX5_mixPart_55 ⟨fun z => absurd z (nI_nlt (a := 6) (b := c) (by omega) (by decide)), fun _ => ?_⟩
        have ho : oEntry r (nI p) (nI k) (nI c) = (tE r p k c, 5, r) := by
          have hb : ¬ ((nI p < 0 ∨ 2 < nI p) ∨ (nI k < 0 ∨ r (66 + (nI p).toNatClampNeg) - 1 < nI k) ∨ (nI c < 0 ∨ 6 < nI c)) := by
            rintro (u | u | u)
            · exact notIn (n := 2) (by decide) (by omega) u
            · rw [ep, (h.1.1.1 p hp).1] at u
              exact ((outN hz).mp u).elim (nI_pos (by omega)) (fun v => v (nI_lt hk (by omega)))
            · exact notIn (n := 6) (by decide) (by omega) u
          rw [oEntry, if_neg hb, ep, nI_clamp (by omega), nI_clamp (by omega)]
        refine cC_entry (q := 0) (R := fun _ => r) hT h (fun a' z => ?_)
        rw [ho] at z ⊢
        rw [AP5 z, nI_1]
        exact hn
  refine eX5_mixPart (loopS (Wk := fun l c => xOk mX5_mixPart 6 [(0, vR 5 0 0), (3, vI (nI p)), (4, vL l), (6, vI c)] [] (a, (b, h0)) (qL Q)) (fun h c => mo h (tP r p c)) 6 (fun l => Q (dgA r p (dgE r p l)) (a, (b, h0))) (fun s hs => ?_) (fun s c hc hn => ?_) 6 0 l (by omega) hq)
  · exact rX5_mixPart_6 ⟨fun _ => p2 s hs, fun z => absurd (by decide) z⟩
  · refine rX5_mixPart_6 ⟨fun z => absurd z (nI_nlt (a := 5) (b := c) (by omega) (by decide)), fun _ => ?_⟩
    have ho : oPart r (nI p) (nI c) = (tP r p c, 5, r) := by
      have hb : ¬ ((nI p < 0 ∨ 2 < nI p) ∨ (nI c < 0 ∨ 5 < nI c)) := fun z => z.elim (notIn (n := 2) (by decide) (by omega)) (notIn (n := 5) (by decide) (by omega))
      rw [oPart, if_neg hb, ep, nI_clamp (by omega)]
    refine cC_part (q := 0) (R := fun _ => r) hT h (fun a' z => ?_)
    rw [ho] at z ⊢
    rw [AP5 z, nI_1]
    exact hn
theorem cC_mixReader {Q : Int64 → xM → Prop} {x1 : Int32} {l : Int64} {j : Nat} (hT : T < 2 ^ 30) (h : CR a r T) (e1 : x1 = nI j) (hj : j < 2) (hq : Q (dgR r l j) (a, (b, h0))) : CL mX5_mixReader [vR 5 0 0, vL l, vI x1] (a, (b, h0)) Q := by
  subst e1
  refine eX5_mixReader (loopS (Wk := fun l k => xOk mX5_mixReader 6 [(0, vR 5 0 0), (3, vI (nI j)), (4, vL l), (6, vI k)] [] (a, (b, h0)) (qL Q)) (fun h p => mF (tR r j p) h 4) 3 (fun l => Q l (a, (b, h0))) (fun s hs => ?_) (fun s p hp hn => ?_) 3 0 l (by omega) hq)
  · exact rX5_mixReader_6 ⟨fun _ => hs, fun z => absurd (by decide) z⟩
  · refine rX5_mixReader_6 ⟨fun z => absurd z (n3 hp), fun _ => ?_⟩
    refine loopS (Wk := fun l c => xOk mX5_mixReader 15 [(0, vR 5 0 0), (3, vI (nI j)), (4, vL l), (6, vI (nI p)), (7, vI c)] [] (a, (b, h0)) (qL Q)) (fun h c => mo h (tR r j p c)) 4 (fun l => xOk mX5_mixReader 6 [(0, vR 5 0 0), (3, vI (nI j)), (4, vL l), (6, vI (nI (p + 1)))] [] (a, (b, h0)) (qL Q)) (fun s hs => ?_) (fun s c hc hn => ?_) 4 0 s (by omega) hn
    · refine rX5_mixReader_15 ⟨fun _ => ?_, fun z => absurd (by decide) z⟩
      rw [nI_1]; exact hs
    · refine rX5_mixReader_15 ⟨fun z => absurd z (nI_nlt (a := 3) (b := c) (by omega) (by decide)), fun _ => ?_⟩
      have ho : oReader r (nI j) (nI p) (nI c) = (tR r j p c, 5, r) := by
        have hb : ¬ ((nI j < 0 ∨ 1 < nI j) ∨ (nI p < 0 ∨ 2 < nI p) ∨ (nI c < 0 ∨ 3 < nI c)) := fun z => z.elim (notIn (n := 1) (by decide) (by omega)) (fun z => z.elim (notIn (n := 2) (by decide) (by omega)) (notIn (n := 3) (by decide) (by omega)))
        rw [oReader, if_neg hb, nI_clamp (by omega), nI_clamp (by omega), nI_clamp (by omega)]
      refine cC_reader (q := 0) (R := fun _ => r) hT h (fun a' z => ?_)
      rw [ho] at z ⊢
      rw [AP5 z, nI_1]
      exact hn
theorem cC_digest {Q : Int64 → xM → Prop} (hT : T < 2 ^ 30) (h : CR a r T) (hq : Q (dgC a r) (a, (b, h0))) : CL mX5_digest [vR 5 0 0] (a, (b, h0)) Q := by
  have p5 : ∀ l, Q (itS (dgR r) l 0 2) (a, (b, h0)) → xOk mX5_digest 124 [(0, vR 5 0 0), (1, vL l), (3, vI (nI 0))] [] (a, (b, h0)) (qL Q) := by
    intro l hq
    refine loopS (Wk := fun l k => xOk mX5_digest 124 [(0, vR 5 0 0), (1, vL l), (3, vI k)] [] (a, (b, h0)) (qL Q)) (dgR r) 2 (fun l => Q l (a, (b, h0))) (fun s hs => ?_) (fun s k hk hn => ?_) 2 0 l (by omega) hq
    · exact rX5_digest_124 ⟨fun _ => hs, fun z => absurd (by decide) z⟩
    · refine rX5_digest_124 ⟨fun z => absurd z (n2 hk), fun _ => cC_mixReader hT h rfl hk ?_⟩
      rw [nI_1]; exact hn
  have p4 : ∀ l, Q (itS (dgR r) (itS (dgP r) l 0 3) 0 2) (a, (b, h0)) → xOk mX5_digest 104 [(0, vR 5 0 0), (1, vL l), (3, vI (nI 0))] [] (a, (b, h0)) (qL Q) := by
    intro l hq
    refine loopS (Wk := fun l k => xOk mX5_digest 104 [(0, vR 5 0 0), (1, vL l), (3, vI k)] [] (a, (b, h0)) (qL Q)) (dgP r) 3 (fun l => Q (itS (dgR r) l 0 2) (a, (b, h0))) (fun s hs => ?_) (fun s k hk hn => ?_) 3 0 l (by omega) hq
    · exact rX5_digest_104 ⟨fun _ => p5 s hs, fun z => absurd (by decide) z⟩
    · refine rX5_digest_104 ⟨fun z => absurd z (n3 hk), fun _ => cC_mixPart hT h rfl hk ?_⟩
      rw [nI_1]; exact hn
  have p3 : ∀ l, Q (itS (dgR r) (itS (dgP r) (itS (fun h w => mF (tW r w) h 9) l 0 4) 0 3) 0 2) (a, (b, h0)) → xOk mX5_digest 60 [(0, vR 5 0 0), (1, vL l), (3, vI (nI 0))] [] (a, (b, h0)) (qL Q) := by
    intro l hq
    refine loopS (Wk := fun l k => xOk mX5_digest 60 [(0, vR 5 0 0), (1, vL l), (3, vI k)] [] (a, (b, h0)) (qL Q)) (fun h w => mF (tW r w) h 9) 4 (fun l => Q (itS (dgR r) (itS (dgP r) l 0 3) 0 2) (a, (b, h0))) (fun s hs => ?_) (fun s k hk hn => ?_) 4 0 l (by omega) hq
    · exact rX5_digest_60 ⟨fun _ => p4 s hs, fun z => absurd (by decide) z⟩
    · refine rX5_digest_60 ⟨fun z => absurd z (n4 hk), fun _ => ?_⟩
      refine loopS (Wk := fun l c => xOk mX5_digest 68 [(0, vR 5 0 0), (1, vL l), (3, vI (nI k)), (4, vI c)] [] (a, (b, h0)) (qL Q)) (fun h c => mo h (tW r k c)) 9 (fun l => xOk mX5_digest 60 [(0, vR 5 0 0), (1, vL l), (3, vI (nI (k + 1)))] [] (a, (b, h0)) (qL Q)) (fun s hs => ?_) (fun s c hc hn => ?_) 9 0 s (by omega) hn
      · refine rX5_digest_68 ⟨fun _ => ?_, fun z => absurd (by decide) z⟩
        rw [nI_1]; exact hs
      · refine rX5_digest_68 ⟨fun z => absurd z (nI_nlt (a := 8) (b := c) (by omega) (by decide)), fun _ => ?_⟩
        have ho : oWriter r (nI k) (nI c) = (tW r k c, 5, r) := by
          have hb : ¬ ((nI k < 0 ∨ 3 < nI k) ∨ (nI c < 0 ∨ 8 < nI c)) := fun z => z.elim (notIn (n := 3) (by decide) (by omega)) (notIn (n := 8) (by decide) (by omega))
          rw [oWriter, if_neg hb, nI_clamp (by omega), nI_clamp (by omega)]
        refine cC_writer (q := 0) (R := fun _ => r) hT h (fun a' z => ?_)
        rw [ho] at z ⊢
        rw [AP5 z, nI_1]
        exact hn
  have p2 : ∀ l, Q (itS (dgR r) (itS (dgP r) (itS (fun h w => mF (tW r w) h 9) (mF (tG r) l 8) 0 4) 0 3) 0 2) (a, (b, h0)) → xOk mX5_digest 33 [(0, vR 5 0 0), (1, vL l), (3, vI (nI 0))] [] (a, (b, h0)) (qL Q) := by
    intro l hq
    refine loopS (Wk := fun l k => xOk mX5_digest 33 [(0, vR 5 0 0), (1, vL l), (3, vI k)] [] (a, (b, h0)) (qL Q)) (fun h c => mo h (tG r c)) 8 (fun l => Q (itS (dgR r) (itS (dgP r) (itS (fun h w => mF (tW r w) h 9) l 0 4) 0 3) 0 2) (a, (b, h0))) (fun s hs => ?_) (fun s c hc hn => ?_) 8 0 l (by omega) hq
    · exact rX5_digest_33 ⟨fun _ => p3 s hs, fun z => absurd (by decide) z⟩
    · refine rX5_digest_33 ⟨fun z => absurd z (nI_nlt (a := 7) (b := c) (by omega) (by decide)), fun _ => ?_⟩
      have ho : oAll r (nI c) = (tG r c, 5, r) := by
        rw [oAll, if_neg (show ¬ (nI c < 0 ∨ 7 < nI c) from notIn (n := 7) (by decide) (by omega)), nI_clamp (by omega)]
      refine cC_all (q := 0) (R := fun _ => r) hT h (fun a' z => ?_)
      rw [ho] at z ⊢
      rw [AP5 z, nI_1]
      exact hn
  refine eX5_digest (loopS (Wk := fun l k => xOk mX5_digest 6 [(0, vR 5 0 0), (1, vL l), (3, vI k)] [] (a, (b, h0)) (qL Q)) (fun h c => mo h (tC a c)) 7 (fun l => Q (itS (dgR r) (itS (dgP r) (itS (fun h w => mF (tW r w) h 9) (mF (tG r) l 8) 0 4) 0 3) 0 2) (a, (b, h0))) (fun s hs => ?_) (fun s c hc hn => ?_) 7 0 2297 (by omega) hq)
  · exact rX5_digest_6 ⟨fun _ => p2 s hs, fun z => absurd (by decide) z⟩
  · refine rX5_digest_6 ⟨fun z => absurd z (nI_nlt (a := 6) (b := c) (by omega) (by decide)), fun _ => cC_told (fun z => absurd z (notIn (n := 6) (by decide) (by omega))) (fun k hk e => ?_)⟩
    have : c = k := nqI (by omega) (by omega) e
    subst this
    rw [nI_1]; exact hn
end
