/-! does() -/
def JC (a1 a' : xA) (q : Nat) (R : Nat → Row) (X : DSt) (T : Nat) : Prop := CR a' X.1 T ∧ KC a' q R X.1 T ∧ (∀ i, i < 5 → a' 25 0 0 i = X.2.1 i) ∧ a' 5 0 0 7 = X.2.2.1 ∧ a' 5 0 0 8 = 1 ∧ ∀ k s w j, (k = 3 ∨ k = 22 ∨ k = 23 ∨ k = 24) → a' k s w j = a1 k s w j
def JB (b1 b' : xA) (X : DSt) : Prop := (∀ i, i < 5 → b' 32 0 0 i = X.2.1 i) ∧ b' 6 0 0 12 = X.2.2.1 ∧ ∀ k s w j, ¬ (k = 32 ∨ (k = 6 ∧ j = 12)) → b' k s w j = b1 k s w j
section
variable {a b : xA} {h0 : Int64} {r : Row} {T q : Nat} {R : Nat → Row}
theorem cC_carryOut {Q : Int32 → xM → Prop} {k : Nat} (hk : k < 40) (hT : T + 20 < 2 ^ 30) (h : CR a r T) (hK : KC a q R r T) (hq : ∀ a', AP a q R r (T + 20) (ordK r (a 23 0 0 k) (fun j => a 24 0 0 (k * 5 + j))) a' → Q (ordK r (a 23 0 0 k) (fun j => a 24 0 0 (k * 5 + j))).1 (a', (b, h0))) : CI mX5_carryOut [vR 5 0 0, vI (nI k)] (a, (b, h0)) Q := by
  have e0 : nI k * (5 : Int32) = nI (k * 5) := by rw [lit 5, pk_mul]
  have e1 : nI (k * 5) + (1 : Int32) = nI (k * 5 + 1) := nI_add _ 1
  have e2 : nI (k * 5) + (2 : Int32) = nI (k * 5 + 2) := nI_add _ 2
  have e3 : nI (k * 5) + (3 : Int32) = nI (k * 5 + 3) := nI_add _ 3
  have e4 : nI (k * 5) + (4 : Int32) = nI (k * 5 + 4) := nI_add _ 4
  have v0 : vp_in (nI (k * 5)) 200 := vp_in_nI (by omega) (by decide)
  have v1 : vp_in (nI (k * 5 + 1)) 200 := vp_in_nI (by omega) (by decide)
  have v2 : vp_in (nI (k * 5 + 2)) 200 := vp_in_nI (by omega) (by decide)
  have v3 : vp_in (nI (k * 5 + 3)) 200 := vp_in_nI (by omega) (by decide)
  have v4 : vp_in (nI (k * 5 + 4)) 200 := vp_in_nI (by omega) (by decide)
  refine eX5_carryOut ?_
  rw [e0, e1, e2, e3, e4, nI_clamp (by omega), nI_clamp (by omega), nI_clamp (by omega), nI_clamp (by omega), nI_clamp (by omega), nI_clamp (by omega)]
  unfold ordK at hq
  refine ⟨vp_in_nI hk (by decide), fun z => ⟨v0, ?_⟩, fun z1 => ⟨fun z => ⟨v0, v1, v2, ?_⟩, fun z2 => ⟨fun z => ⟨v0, v1, ?_⟩, fun z3 => ⟨fun z => ⟨v0, v1, ?_⟩, fun z4 => ⟨fun z => ⟨v0, v1, v2, v3, v4, ?_⟩, fun z5 => ⟨fun z => ⟨v0, ?_⟩, fun z6 => ⟨v0, v1, v2, v3, ?_⟩⟩⟩⟩⟩⟩⟩
  · rw [if_pos z] at hq
    exact cC_begins h hK (fun a' y => hq a' (y.mono (by omega)))
  · rw [if_neg z1, if_pos z] at hq
    exact cC_ends h hK (fun a' y => hq a' (y.mono (by omega)))
  · rw [if_neg z1, if_neg z2, if_pos z] at hq
    exact cC_opens h hK (fun a' y => hq a' (y.mono (by omega)))
  · rw [if_neg z1, if_neg z2, if_neg z3, if_pos z] at hq
    exact cC_reads (by omega) h hK (fun a' y => hq a' (y.mono (by omega)))
  · rw [if_neg z1, if_neg z2, if_neg z3, if_neg z4, if_pos z] at hq
    exact cC_sends (by omega) h hK (fun a' y => hq a' (y.mono (by omega)))
  · rw [if_neg z1, if_neg z2, if_neg z3, if_neg z4, if_neg z5, if_pos z] at hq
    exact cC_ticks hT h hK hq
  · rw [if_neg z1, if_neg z2, if_neg z3, if_neg z4, if_neg z5, if_neg z6] at hq
    exact cC_carries h hK (fun a' y => hq a' (y.mono (by omega)))
theorem JC_step {a1 a' a'' : xA} {X : DSt} {k T' : Nat} {Lt Nm : Row} (hL : ∀ i, a1 23 0 0 i = Lt i) (hN : ∀ i, a1 24 0 0 i = Nm i) (h : JC a1 a' q R X T) (hT : T ≤ T') (hA : AP a' q R X.1 T' (ordK X.1 (Lt k) (fun j => Nm (k * 5 + j))) a'') : JC a1 (xUp a'' 5 0 0 7 (ordK X.1 (Lt k) (fun j => Nm (k * 5 + j))).1) q R (do1 Lt Nm X k) T' := by
  obtain ⟨j1, j2, j3, j4, j5, j6⟩ := h
  unfold do1
  generalize ho : ordK X.1 (Lt k) (fun j => Nm (k * 5 + j)) = o at *
  have hs : ∀ c v, Ks c (xUp c 5 0 0 7 v) := fun c v k s w j hk => xUp_n (by omega)
  rcases hA with ⟨z1, z2⟩ | ⟨z1, z2⟩ | ⟨z1, z2, z3, z4⟩
  · subst z2
    have er : apR X.1 o = X.1 := by unfold apR; rw [if_pos (by omega)]
    rw [if_pos z1]
    refine ⟨?_, ?_, fun i hi => ?_, xUp_s _ _ _ _ _ _, ?_, fun k s w j hk => ?_⟩
    · show CR _ (apR X.1 o) T'
      rw [er]; exact (CR_s (hs _ _) (CR_s Ks_er j1)).mono hT
    · show KC _ q R (apR X.1 o) T'
      rw [er]; exact (KC_s (hs _ _) (KC_s Ks_er j2)).mono hT
    · show _ = upd X.2.1 o.2.1 (X.2.1 o.2.1 + 1) i
      rw [xUp_n (by omega)]
      unfold erM
      by_cases e : i = o.2.1
      · subst e
        rw [xUp_s, up_eq, j3 _ z1]
      · rw [xUp_n (by omega), up_ne _ _ e]; exact j3 i hi
    · rw [xUp_n (by omega), erM, xUp_n (by omega)]; exact j5
    · rw [xUp_n (by omega), erM, xUp_n (by omega)]; exact j6 k s w j hk
  · subst z2
    have er : apR X.1 o = X.1 := by unfold apR; rw [if_pos (by omega)]
    rw [if_neg (show ¬ o.2.1 < 5 by omega)]
    refine ⟨?_, ?_, fun i hi => ?_, xUp_s _ _ _ _ _ _, ?_, fun k s w j hk => ?_⟩
    · show CR _ (apR X.1 o) T'
      rw [er]; exact (CR_s (hs _ _) j1).mono hT
    · show KC _ q R (apR X.1 o) T'
      rw [er]; exact (KC_s (hs _ _) j2).mono hT
    · rw [xUp_n (by omega)]; exact j3 i hi
    · rw [xUp_n (by omega)]; exact j5
    · rw [xUp_n (by omega)]; exact j6 k s w j hk
  · have er : apR X.1 o = o.2.2 := by unfold apR; rw [if_neg (by omega)]
    rw [if_neg (show ¬ o.2.1 < 5 by omega)]
    unfold nq nR at z3
    rw [if_neg (by rw [j5]; decide), if_neg (by rw [j5]; decide)] at z3
    refine ⟨?_, ?_, fun i hi => ?_, xUp_s _ _ _ _ _ _, ?_, fun k s w j hk => ?_⟩
    · show CR _ (apR X.1 o) T'
      rw [er]; exact CR_s (hs _ _) z2
    · show KC _ q R (apR X.1 o) T'
      rw [er]; exact KC_s (hs _ _) z3
    · rw [xUp_n (by omega), z4 _ _ _ _ (by omega)]; exact j3 i hi
    · rw [xUp_n (by omega), z4 _ _ _ _ (by omega)]; exact j5
    · rw [xUp_n (by omega), z4 _ _ _ _ (by omega)]; exact j6 k s w j hk
theorem do_4 (Lt Nm : Row) (X : DSt) (k : Nat) : (do1 Lt Nm X k).2.2.2 = if (ordK X.1 (Lt k) (fun j => Nm (k * 5 + j))).1 < 0 then X.2.2.2 else X.2.2.2 + 1 := rfl
theorem lC_does {Q : Int32 → xM → Prop} {a1 : xA} {o T : Nat} {Lt Nm : Row} (hL : ∀ i, a1 23 0 0 i = Lt i) (hN : ∀ i, a1 24 0 0 i = Nm i) (h4 : a1 3 0 0 4 = nI o) (ho : o ≤ 40) (hT : T + 820 < 2 ^ 30) : ∀ (m k : Nat) (X : DSt) (a' : xA), k + m = o → JC a1 a' q R X (T + 20 * k) → (∀ a'', JC a1 a'' q R (itS (do1 Lt Nm) X k m) (T + 20 * o) → (∀ d, d ≤ m → RI (itS (do1 Lt Nm) X k d).1 (T + 20 * (k + d))) → Q (nI (itS (do1 Lt Nm) X k m).2.2.2) (xUp a'' 5 0 0 8 0, (b, h0))) → xOk mX5_does 31 [(0, vR 5 0 0), (2, vI (nI X.2.2.2)), (3, vI (nI k))] [] (a', (b, h0)) (qI Q)
  | 0, k, X, a', hk, h, hq => by
    have hk : k = o := hk
    subst hk
    have e4 : a' 3 0 0 4 = nI k := (h.2.2.2.2.2 _ _ _ _ (by omega)).trans h4
    refine rX5_does_31 ?_
    rw [e4]
    exact ⟨fun _ => hq a' h (fun d hd => by have : d = 0 := by omega
                                            subst this; exact h.1.1.1), fun z => absurd (Int32.le_refl _) z⟩
  | m + 1, k, X, a', hk, h, hq => by
    have e4 : a' 3 0 0 4 = nI o := (h.2.2.2.2.2 _ _ _ _ (by omega)).trans h4
    have e23 : a' 23 0 0 k = Lt k := (h.2.2.2.2.2 _ _ _ _ (by omega)).trans (hL k)
    have e24 : ∀ j, a' 24 0 0 (k * 5 + j) = Nm (k * 5 + j) := fun j => (h.2.2.2.2.2 _ _ _ _ (by omega)).trans (hN _)
    refine rX5_does_31 ?_
    rw [e4]
    refine ⟨fun z => absurd z (nle (by omega) (by omega)), fun _ => ?_⟩
    refine cC_carryOut (T := T + 20 * k) (by omega) (by omega) h.1 h.2.1 (fun a'' z => ?_)
    have eo : ordK X.1 (a' 23 0 0 k) (fun j => a' 24 0 0 (k * 5 + j)) = ordK X.1 (Lt k) (fun j => Nm (k * 5 + j)) := by
      rw [e23]
      congr 1
      funext j
      exact e24 j
    rw [eo] at z ⊢
    have hJ := JC_step hL hN h (T' := T + 20 * (k + 1)) (by omega) (by rw [show T + 20 * (k + 1) = T + 20 * k + 20 by omega]; exact z)
    have go := lC_does hL hN h4 ho hT m (k + 1) (do1 Lt Nm X k) _ (by omega) hJ (fun c hc hd => hq c hc (fun d hd' => by
      rcases Nat.eq_zero_or_pos d with y | y
      · subst y; exact h.1.1.1
      · obtain ⟨d', rfl⟩ : ∃ d', d = d' + 1 := ⟨d - 1, by omega⟩
        have := hd d' (by omega)
        rw [show k + 1 + d' = k + (d' + 1) by omega] at this
        exact this))
    rw [do_4] at go
    dsimp only
    rw [xUp_s, nI_1, nI_1]
    refine ⟨fun y => ?_, fun y => ?_⟩
    · rw [if_pos y] at go; exact go
    · rw [if_neg y] at go; exact go
theorem cC_does {Q : Int32 → xM → Prop} {L wa gi di : Nat} {S : Int32 × PSt} (hT : T + 820 < 2 ^ 30) (h : CR a r T) (hK : KC a q R r T) (hf : a 5 0 0 8 = 0) (hL : a 3 0 0 1 = nI L) (hL2 : L ≤ 120) (h6 : a 3 0 0 6 = nI wa) (h7 : a 3 0 0 7 = nI gi) (h8 : a 3 0 0 8 = nI di) (hS : rn (a 22 0 0) 0 L (0, false, wa, gi, di, a 23 0 0, a 24 0 0) = S)
    (h1 : ∀ a' f, S.1 = nI f → f ≤ L → PR a a' S.2 → Q (-10 - nI f) (a', (b, h0)))
    (h2 : S.1 = -1 → ∀ a'', CR a'' (itS (do1 S.2.2.2.2.2.2.1 S.2.2.2.2.2.2.2) (r, a 25 0 0, a 5 0 0 7, 0) 0 S.2.1).1 (T + 800) → KC a'' (pq q) (pR q R r) (itS (do1 S.2.2.2.2.2.2.1 S.2.2.2.2.2.2.2) (r, a 25 0 0, a 5 0 0 7, 0) 0 S.2.1).1 (T + 800) → (∀ i, i < 5 → a'' 25 0 0 i = (itS (do1 S.2.2.2.2.2.2.1 S.2.2.2.2.2.2.2) (r, a 25 0 0, a 5 0 0 7, 0) 0 S.2.1).2.1 i) → a'' 5 0 0 7 = (itS (do1 S.2.2.2.2.2.2.1 S.2.2.2.2.2.2.2) (r, a 25 0 0, a 5 0 0 7, 0) 0 S.2.1).2.2.1 → a'' 5 0 0 8 = 0 → (∀ k s w j, (k = 22 ∨ (k = 3 ∧ j < 4)) → a'' k s w j = a k s w j) → SC a'' → (∀ d, d ≤ S.2.1 → RI (itS (do1 S.2.2.2.2.2.2.1 S.2.2.2.2.2.2.2) (r, a 25 0 0, a 5 0 0 7, 0) 0 d).1 (T + 20 * d)) → Q (nI (itS (do1 S.2.2.2.2.2.2.1 S.2.2.2.2.2.2.2) (r, a 25 0 0, a 5 0 0 7, 0) 0 S.2.1).2.2.2) (a'', (b, h0))) : CI mX5_does [vR 5 0 0] (a, (b, h0)) Q := by
  refine eX5_does (cC_findFault hL hL2 h6 h7 h8 (fun a1 hP => ?_))
  have hfin := rn_fin (t := a 22 0 0) L 0 (0, false, wa, gi, di, a 23 0 0, a 24 0 0) (by omega)
  have hVL := rn_VL (t := a 22 0 0) L 0 (0, false, wa, gi, di, a 23 0 0, a 24 0 0) (fun k hk => absurd hk (Nat.not_lt_zero _)) ⟨fun _ => by omega, fun z => (by cases z)⟩
  rw [hS] at hP hfin hVL ⊢
  obtain ⟨res, o, inO, wa', gi', di', Lt, Nm⟩ := S
  obtain ⟨p4, p5, p6, p7, p8, pL, pN, pf⟩ := hP
  have hKs : Ks a a1 := fun k s w j hk => pf k s w j (by omega)
  refine ⟨fun z => ?_, fun z => ?_⟩
  · rcases hfin with ⟨f1, f2, f3⟩ | ⟨f, f1, f2⟩
    · have f2 : inO = false := f2
      subst f2
      obtain ⟨-, j, j1, j2⟩ := hVL
      have ho : o ≤ 40 := by
        have := j2.1 rfl
        omega
      refine cC_keep (CR_s hKs h) (KC_s hKs hK) (fun a2 c2 k2 f2 => ?_)
      have hf1 : a1 5 0 0 8 = 0 := (pf _ _ _ _ (by omega)).trans hf
      unfold nq nR at k2
      rw [if_pos hf1, if_pos hf1] at k2
      have hKs2 : Ks a2 (xUp a2 5 0 0 8 1) := fun k s w j hk => xUp_n (by omega)
      have hJ : JC (xUp a2 5 0 0 8 1) (xUp a2 5 0 0 8 1) (pq q) (pR q R r) (r, a 25 0 0, a 5 0 0 7, 0) (T + 20 * 0) := by
        refine ⟨CR_s hKs2 c2, KC_s hKs2 k2, fun i hi => ?_, ?_, xUp_s _ _ _ _ _ _, fun _ _ _ _ _ => rfl⟩
        · rw [xUp_n (by omega), f2 _ _ _ _ (by omega)]
          exact pf _ _ _ _ (by omega)
        · rw [xUp_n (by omega), f2 _ _ _ _ (by omega)]
          exact pf _ _ _ _ (by omega)
      refine lC_does (T := T) (Lt := Lt) (Nm := Nm) (fun i => ?_) (fun i => ?_) ?_ ho hT o 0 (r, a 25 0 0, a 5 0 0 7, 0) _ (by omega) hJ (fun a3 j3 hr => ?_)
      · rw [xUp_n (by omega), f2 _ _ _ _ (by omega)]; exact pL i
      · rw [xUp_n (by omega), f2 _ _ _ _ (by omega)]; exact pN i
      · rw [xUp_n (by omega), f2 _ _ _ _ (by omega)]; exact p4
      · obtain ⟨i1, i2, i3, i4, i5, i6⟩ := j3
        have hKs3 : Ks a3 (xUp a3 5 0 0 8 0) := fun k s w j hk => xUp_n (by omega)
        have fr : ∀ k s w j, (k = 3 ∨ k = 22) → xUp a3 5 0 0 8 0 k s w j = a1 k s w j := by
          intro k s w j hk
          rw [xUp_n (by omega), i6 _ _ _ _ (by omega), xUp_n (by omega)]
          exact f2 _ _ _ _ (by omega)
        refine h2 z _ ((CR_s hKs3 i1).mono (by omega)) ((KC_s hKs3 i2).mono (by omega)) (fun i hi => ?_) ?_ (xUp_s _ _ _ _ _ _) (fun k s w j hk => ?_) ⟨wa', gi', di', by rw [fr _ _ _ _ (by omega)]; exact p6, by rw [fr _ _ _ _ (by omega)]; exact p7, by rw [fr _ _ _ _ (by omega)]; exact p8⟩ (fun d hd => ?_)
        · rw [xUp_n (by omega)]; exact i3 i hi
        · rw [xUp_n (by omega)]; exact i4
        · rw [fr _ _ _ _ (by omega)]
          exact pf _ _ _ _ (by omega)
        · have := hr d hd
          rw [Nat.zero_add] at this
          exact this
    · have z : res = -1 := z
      have f2 : res = nI f := f2
      rw [z] at f2
      exact absurd f2.symm (nIm1 (by omega))
  · rcases hfin with ⟨f1, f2, f3⟩ | ⟨f, f1, f2⟩
    · exact absurd f1 z
    · have f2' : res = nI f := f2
      have := h1 a1 f f2 (by omega) ⟨p4, p5, p6, p7, p8, pL, pN, pf⟩
      show Q (-10 - res) (a1, (b, h0))
      rw [f2']
      exact this
end
