section
variable {a b : xA} {h0 : Int64} {r : Row} {T q : Nat} {R : Nat → Row}
theorem cR_answers {Q : Int32 → xM → Prop} {k : Nat} (hk : k < 40) (hI : RI r T) (hs : b 6 0 0 2 = nI q) (hq6 : q ≤ 6) (hq : Q (ordK r (b 34 0 0 k) (fun j => b 35 0 0 (5 * k + j))).1 (mN a (apB b r (ordK r (b 34 0 0 k) (fun j => b 35 0 0 (5 * k + j)))) (apR r (ordK r (b 34 0 0 k) (fun j => b 35 0 0 (5 * k + j)))) h0)) : CI mX6_answers [vR 6 0 0, vI (nI k)] (mN a b r h0) Q := by
  have e0 : (5 : Int32) * nI k = nI (5 * k) := by rw [lit 5, pk_mul]
  have e1 : nI (5 * k) + (1 : Int32) = nI (5 * k + 1) := nI_add _ 1
  have e2 : nI (5 * k) + (2 : Int32) = nI (5 * k + 2) := nI_add _ 2
  have e3 : nI (5 * k) + (3 : Int32) = nI (5 * k + 3) := nI_add _ 3
  have e4 : nI (5 * k) + (4 : Int32) = nI (5 * k + 4) := nI_add _ 4
  have v0 : vp_in (nI (5 * k)) 200 := vp_in_nI (by omega) (by decide)
  have v1 : vp_in (nI (5 * k + 1)) 200 := vp_in_nI (by omega) (by decide)
  have v2 : vp_in (nI (5 * k + 2)) 200 := vp_in_nI (by omega) (by decide)
  have v3 : vp_in (nI (5 * k + 3)) 200 := vp_in_nI (by omega) (by decide)
  have v4 : vp_in (nI (5 * k + 4)) 200 := vp_in_nI (by omega) (by decide)
  have e34 : ∀ j, xNow b r 34 0 0 j = b 34 0 0 j := fun _ => rfl
  have e35 : ∀ j, xNow b r 35 0 0 j = b 35 0 0 j := fun _ => rfl
  refine eX6_answers ?_
  rw [e0, e1, e2, e3, e4, nI_clamp (by omega), nI_clamp (by omega), nI_clamp (by omega), nI_clamp (by omega), nI_clamp (by omega), nI_clamp (by omega), e34, e35, e35, e35, e35, e35]
  unfold ordK at hq
  refine ⟨v0, v1, v2, v3, vp_in_nI hk (by decide), fun z => ?_, fun z1 => ⟨fun z => ?_, fun z2 => ⟨fun z => ?_, fun z3 => ⟨fun z => ?_, fun z4 => ⟨fun z => ⟨v4, ?_⟩, fun z5 => ⟨fun z => ?_, fun z6 => ?_⟩⟩⟩⟩⟩⟩
  · rw [if_pos z] at hq
    exact cR_begins hs hq6 hq
  · rw [if_neg z1, if_pos z] at hq
    exact cR_ends hs hq6 hq
  · rw [if_neg z1, if_neg z2, if_pos z] at hq
    exact cR_opens hs hq6 hq
  · rw [if_neg z1, if_neg z2, if_neg z3, if_pos z] at hq
    exact cR_reads hI.WR hs hq6 hq
  · rw [if_neg z1, if_neg z2, if_neg z3, if_neg z4, if_pos z] at hq
    exact cR_sends hI.WR hs hq6 hq
  · rw [if_neg z1, if_neg z2, if_neg z3, if_neg z4, if_neg z5, if_pos z] at hq
    exact cR_ticks hI hs hq6 hq
  · rw [if_neg z1, if_neg z2, if_neg z3, if_neg z4, if_neg z5, if_neg z6] at hq
    exact cR_carries hs hq6 hq
theorem JB_step {b1 b' : xA} {X : DSt} {k : Nat} {Lt Nm : Row} (h1 : b1 6 0 0 3 = 1) (h : JB b1 b' X) : JB b1 (xUp (apB b' X.1 (ordK X.1 (Lt k) (fun j => Nm (k * 5 + j)))) 6 0 0 12 (ordK X.1 (Lt k) (fun j => Nm (k * 5 + j))).1) (do1 Lt Nm X k) := by
  obtain ⟨j1, j2, j3⟩ := h
  unfold do1
  generalize ho : ordK X.1 (Lt k) (fun j => Nm (k * 5 + j)) = o at *
  have e3 : b' 6 0 0 3 = 1 := (j3 _ _ _ _ (by omega)).trans h1
  have en : ntB b' X.1 = b' := by unfold ntB; rw [if_neg (by rw [e3]; decide)]
  unfold apB
  by_cases z : o.2.1 < 5
  · rw [if_pos z, if_pos z]
    refine ⟨fun i hi => ?_, xUp_s _ _ _ _ _ _, fun k s w j hk => ?_⟩
    · show _ = upd X.2.1 o.2.1 (X.2.1 o.2.1 + 1) i
      rw [xUp_n (by omega)]
      unfold rErr
      by_cases e : i = o.2.1
      · subst e
        rw [xUp_s, up_eq, j1 _ z]
      · rw [xUp_n (by omega), up_ne _ _ e]; exact j1 i hi
    · rw [xUp_n (by omega), rErr, xUp_n (by omega)]; exact j3 k s w j hk
  · rw [if_neg z, if_neg z]
    have eb : (if o.2.1 = 5 then b' else ntB b' X.1) = b' := by rw [en]; split <;> rfl
    rw [eb]
    refine ⟨fun i hi => ?_, xUp_s _ _ _ _ _ _, fun k s w j hk => ?_⟩
    · rw [xUp_n (by omega)]; exact j1 i hi
    · rw [xUp_n (by omega)]; exact j3 k s w j hk
theorem do_1 (Lt Nm : Row) (X : DSt) (k : Nat) : (do1 Lt Nm X k).1 = apR X.1 (ordK X.1 (Lt k) (fun j => Nm (k * 5 + j))) := rfl
theorem lR_does {Q : Int32 → xM → Prop} {b1 : xA} {o : Nat} {Lt Nm : Row} (h3 : b1 6 0 0 3 = 1) (hs : b1 6 0 0 2 = nI q) (hq6 : q ≤ 6) (h9 : b1 6 0 0 9 = nI o) (ho : o ≤ 40) (hn : ∀ k, k < o → nOf (Lt k) ≠ 0) (hL : ∀ k, k < o → b1 34 0 0 k = Lt k ∧ ∀ j, j < nOf (Lt k) → b1 35 0 0 (5 * k + j) = Nm (k * 5 + j)) : ∀ (m k : Nat) (X : DSt) (b' : xA), k + m = o → JB b1 b' X → (∀ d, d ≤ m → RI (itS (do1 Lt Nm) X k d).1 (T + 20 * (k + d))) → (∀ b'', JB b1 b'' (itS (do1 Lt Nm) X k m) → Q (nI (itS (do1 Lt Nm) X k m).2.2.2) (mN a (kpB (xUp b'' 6 0 0 3 0) q (fun j => xUp b'' 6 0 0 3 0 31 0 0 (5670 + j))) (itS (do1 Lt Nm) X k m).1 h0)) → xOk mX6_does 40 [(0, vR 6 0 0), (1, vI (nI X.2.2.2)), (2, vI (nI k))] [] (mN a b' X.1 h0) (qI Q)
  | 0, k, X, b', hk, h, hR, hq => by
    have hk : k = o := hk
    subst hk
    have e9 : xNow b' X.1 6 0 0 9 = nI k := (h.2.2 _ _ _ _ (by omega)).trans h9
    refine rX6_does_40 ?_
    rw [e9]
    refine ⟨fun _ => ?_, fun z => absurd (Int32.le_refl _) z⟩
    rw [xNow_upO _ _ (by decide)]
    refine cR_keepsB (q := q) rfl ?_ hq6 (hq b' h)
    rw [xUp_n (by omega)]
    exact (h.2.2 _ _ _ _ (by omega)).trans hs
  | m + 1, k, X, b', hk, h, hR, hq => by
    have e9 : xNow b' X.1 6 0 0 9 = nI o := (h.2.2 _ _ _ _ (by omega)).trans h9
    refine rX6_does_40 ?_
    rw [e9]
    refine ⟨fun z => absurd z (nle (by omega) (by omega)), fun _ => ?_⟩
    have hs' : b' 6 0 0 2 = nI q := (h.2.2 _ _ _ _ (by omega)).trans hs
    have e34 : b' 34 0 0 k = Lt k := (h.2.2 _ _ _ _ (by omega)).trans (hL k (by omega)).1
    have eo : ordK X.1 (b' 34 0 0 k) (fun j => b' 35 0 0 (5 * k + j)) = ordK X.1 (Lt k) (fun j => Nm (k * 5 + j)) := by
      rw [e34]
      exact ordK_x (hn k (by omega)) (fun j hj => (h.2.2 _ _ _ _ (by omega)).trans ((hL k (by omega)).2 j hj))
    have hI : RI X.1 (T + 20 * (k + 0)) := hR 0 (by omega)
    refine cR_answers (by omega) hI hs' hq6 ?_
    rw [eo]
    have hJ := JB_step (k := k) (Lt := Lt) (Nm := Nm) h3 h
    have go := lR_does h3 hs hq6 h9 ho hn hL m (k + 1) (do1 Lt Nm X k) _ (by omega) hJ (fun d hd => by
      have := hR (d + 1) (by omega)
      rw [show k + (d + 1) = k + 1 + d by omega] at this
      exact this) hq
    rw [do_4, do_1] at go
    dsimp only
    rw [xUp_s, xNow_upO _ _ (by decide), nI_1]
    refine ⟨fun y => ?_, fun y => ?_⟩
    · rw [if_pos y] at go
      rw [show nI X.2.2.2 + (0 : Int32) = nI X.2.2.2 from Int32.add_zero _]
      exact go
    · rw [if_neg y] at go
      rw [nI_1]
      exact go
theorem KR_eq {R' : Nat → Row} (h : KR b q R) (hR : ∀ i, i < q → ∀ j, j < 945 → R i j = R' i j) : KR b q R' := ⟨h.1, fun i hi j hj => (h.2 i hi j hj).trans (hR i hi j hj)⟩
theorem cR_does {Q : Int32 → xM → Prop} {L wa gi di : Nat} {Lt0 Nm0 er0 : Row} {la0 : Int32} {S : Int32 × PSt} (hL : b 6 0 0 6 = nI L) (hL2 : L ≤ 120) (hS : rn (b 33 0 0) 0 L (0, false, wa, gi, di, Lt0, Nm0) = S) (hr : b 30 0 0 = r) (hK : KR b q R) (hq6 : q ≤ 6) (he : ∀ i, i < 5 → b 32 0 0 i = er0 i) (hl : b 6 0 0 12 = la0)
    (hR : S.1 = -1 → ∀ d, d ≤ S.2.1 → RI (itS (do1 S.2.2.2.2.2.2.1 S.2.2.2.2.2.2.2) (r, er0, la0, 0) 0 d).1 (T + 20 * d))
    (h1 : ∀ b' f, S.1 = nI f → f ≤ L → BF b b' → Q (-10 - nI f) (a, (b', h0)))
    (h2 : S.1 = -1 → ∀ b2, (∀ i, i < 5 → b2 32 0 0 i = (itS (do1 S.2.2.2.2.2.2.1 S.2.2.2.2.2.2.2) (r, er0, la0, 0) 0 S.2.1).2.1 i) → b2 6 0 0 12 = (itS (do1 S.2.2.2.2.2.2.1 S.2.2.2.2.2.2.2) (r, er0, la0, 0) 0 S.2.1).2.2.1 → b2 6 0 0 3 = 0 → KR b2 (pq q) (pR q R r) → b2 6 0 0 6 = b 6 0 0 6 → (∀ i, b2 33 0 0 i = b 33 0 0 i) → Q (nI (itS (do1 S.2.2.2.2.2.2.1 S.2.2.2.2.2.2.2) (r, er0, la0, 0) 0 S.2.1).2.2.2) (mN a b2 (itS (do1 S.2.2.2.2.2.2.1 S.2.2.2.2.2.2.2) (r, er0, la0, 0) 0 S.2.1).1 h0)) : CI mX6_does [vR 6 0 0] (a, (b, h0)) Q := by
  have hfin := rn_fin (t := b 33 0 0) L 0 (0, false, wa, gi, di, Lt0, Nm0) (by omega)
  have hVL := rn_VL (t := b 33 0 0) L 0 (0, false, wa, gi, di, Lt0, Nm0) (fun k hk => absurd hk (Nat.not_lt_zero _)) ⟨fun _ => by omega, fun z => (by cases z)⟩
  rw [hS] at hfin hVL
  refine eX6_does (cR_parses (wa := wa) (gi := gi) (di := di) (Lt := Lt0) (Nm := Nm0) hL hL2 ?_)
  rw [hS]
  refine ⟨fun b' f e1 e2 e3 e4 => ⟨fun z => absurd rfl z, fun _ => ?_⟩, fun b' i e1 hO => ⟨fun _ => ?_, fun z => absurd z (by decide)⟩⟩
  · dsimp only
    rw [e3]
    exact h1 b' f e1 e2 e4
  · have hR := hR e1
    have h2 := h2 e1
    obtain ⟨res, o, inO, wa', gi', di', Lt, Nm⟩ := S
    obtain ⟨o1, o2, o3, o4, o5⟩ := hO
    have f2 : inO = false := by
      rcases hfin with ⟨f1, f2, f3⟩ | ⟨f, f1, f2⟩
      · exact f2
      · have e1 : res = -1 := e1
        have f2 : res = nI f := f2
        rw [e1] at f2
        exact absurd f2.symm (nIm1 (by omega))
    subst f2
    obtain ⟨hV, j, j1, j2⟩ := hVL
    have ho : o ≤ 40 := by
      have := j2.1 rfl
      omega
    have o2 : b' 6 0 0 9 = nI o := o2
    have er : b' 30 0 0 = r := by
      rw [← hr]
      funext j
      exact o5 _ _ _ _ (by omega)
    have eb : b' = xNow (xPa b' (b' 31 0 0)) r := by rw [xPa_self, ← er, xNow_self]
    rw [eb]
    refine cR_copiesA (off := 5670) rfl rfl (by decide) ?_
    dsimp only
    rw [xNow_upO _ _ (by decide)]
    generalize hb1 : xUp (xPa b' (cpN (b' 31 0 0) 5670 945 r)) 6 0 0 3 1 = b1
    have fr : ∀ k s w j, k ≠ 31 → ¬ (k = 6 ∧ s = 0 ∧ w = 0 ∧ j = 3) → b1 k s w j = b' k s w j := by
      intro k s w j hk h3
      rw [← hb1, xUp_n h3]
      unfold xPa
      rw [if_neg (fun z => hk z.1)]
    have e31 : ∀ j, b1 31 0 0 j = cpN (b' 31 0 0) 5670 945 r j := fun j => by rw [← hb1, xUp_n (by omega)]; rfl
    have hJ : JB b1 b1 (r, er0, la0, 0) := by
      refine ⟨fun i hi => ?_, ?_, fun _ _ _ _ _ => rfl⟩
      · rw [fr _ _ _ _ (by omega) (by omega), o5 _ _ _ _ (by omega)]; exact he i hi
      · rw [fr _ _ _ _ (by omega) (by omega), o5 _ _ _ _ (by omega)]; exact hl
    refine lR_does (T := T) (q := q) (o := o) (Lt := Lt) (Nm := Nm) (by rw [← hb1, xUp_s]) ?_ hq6 ?_ ho (fun k hk => hV k hk) (fun k hk => ?_) o 0 (r, er0, la0, 0) b1 (by omega) hJ (fun d hd => by rw [Nat.zero_add]; exact hR d hd) (fun b2 hJ2 => ?_)
    · rw [fr _ _ _ _ (by omega) (by omega), o5 _ _ _ _ (by omega)]; exact hK.1
    · rw [fr _ _ _ _ (by omega) (by omega)]; exact o2
    · refine ⟨by rw [fr _ _ _ _ (by omega) (by omega)]; exact (o3 k hk).1, fun j hj => by rw [fr _ _ _ _ (by omega) (by omega)]; exact (o3 k hk).2 j hj⟩
    · obtain ⟨i1, i2, i3⟩ := hJ2
      have hK2 : KR (xUp b2 6 0 0 3 0) q R := by
        refine ⟨?_, fun i hi j hj => ?_⟩
        · rw [xUp_n (by omega), i3 _ _ _ _ (by omega), fr _ _ _ _ (by omega) (by omega), o5 _ _ _ _ (by omega)]; exact hK.1
        · rw [xUp_n (by omega), i3 _ _ _ _ (by omega), e31]
          unfold cpN
          rw [if_neg (by omega), o5 _ _ _ _ (by omega)]
          exact hK.2 i hi j hj
      refine h2 _ (fun i hi => ?_) ?_ ?_ (KR_eq (KR_kp hK2 hq6) (fun i hi j hj => ?_)) ?_ (fun i => ?_)
      · rw [kpB_n (by omega), xUp_n (by omega)]; exact i1 i hi
      · rw [kpB_n (by omega), xUp_n (by omega)]; exact i2
      · rw [kpB_n (by omega), xUp_s]
      · have eg : xUp b2 6 0 0 3 0 31 0 0 (5670 + j) = r j := by
          rw [xUp_n (by omega), i3 _ _ _ _ (by omega), e31]
          unfold cpN
          rw [if_pos (by omega), Nat.add_sub_cancel_left]
        unfold pR
        by_cases h6 : q = 6
        · rw [if_pos h6, if_pos h6]
          by_cases h5 : i < 5
          · rw [if_pos h5, if_pos h5]
          · rw [if_neg h5, if_neg h5]; exact eg
        · rw [if_neg h6, if_neg h6]
          by_cases h5 : i < q
          · rw [if_pos h5, if_pos h5]
          · rw [if_neg h5, if_neg h5]; exact eg
      · rw [kpB_n (by omega), xUp_n (by omega), i3 _ _ _ _ (by omega), fr _ _ _ _ (by omega) (by omega), o5 _ _ _ _ (by omega)]
      · rw [kpB_n (by omega), xUp_n (by omega), i3 _ _ _ _ (by omega), fr _ _ _ _ (by omega) (by omega), o5 _ _ _ _ (by omega)]
end
