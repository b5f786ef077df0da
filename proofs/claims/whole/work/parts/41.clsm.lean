theorem toC_d : ∀ s, s < 8 → ∀ m, m < 8 → bitsI (nI s &&& (nI m ^^^ (-1))) = nI ((if (Nat.testBit s 0 && !Nat.testBit m 0) then 1 else 0) + ((if (Nat.testBit s 1 && !Nat.testBit m 1) then 1 else 0) + ((if (Nat.testBit s 2 && !Nat.testBit m 2) then 1 else 0) + 0))) := by decide
theorem toC_z : ∀ s, s < 8 → ∀ m, m < 8 → (∀ p, p < 3 → Nat.testBit m p = true → Nat.testBit s p = true) → (bitsI (nI s &&& (nI m ^^^ (-1))) = 0 ↔ nI m = nI s) := by decide
theorem rk_ne : ∀ s, s < 8 → ∀ p, p < 3 → ∀ p', p' < 3 → p' = p ∨ Nat.testBit s p = false ∨ Nat.testBit s p' = false ∨ (rkN s (p + 1) == rkN s (p' + 1)) = false := by decide
section
variable {a b : xA} {h0 : Int64} {r : Row} {T : Nat}
theorem toC_eq {w : Nat} (hI : RI r T) (hw : w < 4) : toC r w = nI (cN (fun p => decide (wf r w 1 = 2) && lk r w p) 0 3) := by
  obtain ⟨g1, ⟨s, s8, g2⟩, ⟨m, m8, g3⟩, -⟩ := hI.2.1 w hw
  unfold toC
  by_cases h2 : wf r w 1 = 2
  · rw [if_pos h2, g2, g3, toC_d s s8 m m8]
    have e : ∀ p, p < 3 → (decide (wf r w 1 = 2) && lk r w p) = (Nat.testBit s p && !Nat.testBit m p) := by
      intro p hp
      unfold lk
      rw [g2, g3, bitN s s8 p hp, bitN m m8 p hp, h2]
      simp
    simp only [cN, e 0 (by decide), e (0 + 1) (by decide), e (0 + 1 + 1) (by decide)]
  · rw [if_neg h2]
    simp [cN, h2]
    rfl
theorem toC_0 {w : Nat} (hI : RI r T) (hw : w < 4) (h2 : wf r w 1 = 2) : toC r w = 0 ↔ wf r w 3 = wf r w 2 := by
  obtain ⟨g1, ⟨s, s8, g2⟩, ⟨m, m8, g3⟩, g4, -⟩ := hI.2.1 w hw
  unfold toC
  rw [if_pos h2, g2, g3]
  refine toC_z s s8 m m8 (fun p hp z => ?_)
  have := g4 p hp
  rw [g2, g3, bitN s s8 p hp, bitN m m8 p hp] at this
  exact this z
theorem cC_markersDue {Q : Int32 → xM → Prop} {w : Nat} (hI : RI r T) (hP : PS a 0 r) (hT : T < 2 ^ 30) (hw : w < 4) (hq : Q (toC r w) (a, (b, h0))) : CI mX2_markersDue [vR 2 0 w] (a, (b, h0)) Q := by
  rw [toC_eq hI hw] at hq
  refine eX2_markersDue (by decide) hw (loopC (Wk := fun c k => xOk mX2_markersDue 4 [(0, vR 2 0 w), (1, vI c), (2, vI k)] [] (a, (b, h0)) (qI Q)) (fun p => decide (wf r w 1 = 2) && lk r w p) 3 (fun c => Q (nI c) (a, (b, h0))) (fun c hc => rX2_markersDue_4 (by decide) hw ⟨fun _ => hc, fun z => absurd (by decide) z⟩) (fun c k hk t f => rX2_markersDue_4 (by decide) hw ⟨fun z => absurd z (n3 hk), fun _ => ⟨vp_in_nI hk (by decide), ?_⟩⟩) 3 0 0 (by omega) (by rw [Nat.zero_add]; exact hq))
  have hd := due_iff hI hP hT hw hk
  rw [nI_clamp (by omega), nI_1, nI_1]
  refine ⟨fun z => f ?_, fun z => t ?_⟩
  · have : ¬ (wf r w 1 = 2 ∧ lk r w k = true) := fun y => hd.mpr y z
    cases hl : lk r w k
    · simp
    · have h2 : ¬ wf r w 1 = 2 := fun y => this ⟨y, hl⟩
      simp [h2]
  · obtain ⟨y1, y2⟩ := hd.mp z
    simp [y1, y2]
theorem du_iff {w p : Nat} (hI : RI r T) (hP : PS a 0 r) (hT : T < 2 ^ 30) (hw : w < 4) (hp : p < 3) : (¬ a 18 0 w p = 0 ∧ a 18 0 w p = r 0) ↔ duB r w p = true := by
  have hd := due_iff hI hP hT hw hp
  have q7 := (hP.2.2.1 w hw).2.2.2.2.2.2.1 p hp
  constructor
  · rintro ⟨z1, z2⟩
    have y := hd.mp z1
    rw [if_pos y] at q7
    rw [q7] at z2
    simp [duB, y.1, y.2, z2]
  · intro z
    obtain ⟨y1, y2, y3⟩ := du_lk z
    refine ⟨hd.mpr ⟨y1, y2⟩, ?_⟩
    rw [q7, if_pos ⟨y1, y2⟩, y3]
theorem cC_partDueAt {Q : Int32 → xM → Prop} {w : Nat} {x : Int32} (hI : RI r T) (hP : PS a 0 r) (hT : T < 2 ^ 30) (hw : w < 4) (e : x = r 0) (hq : Q (fN (duB r w) 0 3) (a, (b, h0))) : CI mX2_partDueAt [vR 2 0 w, vI x] (a, (b, h0)) Q := by
  subst e
  refine eX2_partDueAt (by decide) hw (loopF (Wk := fun k => xOk mX2_partDueAt 2 [(0, vR 2 0 w), (1, vI (r 0)), (2, vI k)] [] (a, (b, h0)) (qI Q)) (duB r w) 3 (fun x => Q x (a, (b, h0))) (fun hc => rX2_partDueAt_2 (by decide) hw ⟨fun _ => hc, fun z => absurd (by decide) z⟩) (fun k hk t f => rX2_partDueAt_2 (by decide) hw ⟨fun z => absurd z (n3 hk), fun _ => ⟨vp_in_nI hk (by decide), ?_⟩⟩) 3 0 (by omega) hq)
  have hd := du_iff hI hP hT hw hk
  rw [nI_clamp (by omega), nI_1]
  have nd : ¬ (¬ a 18 0 w k = 0 ∧ a 18 0 w k = r 0) → duB r w k = false := fun z => by
    cases hb : duB r w k
    · rfl
    · exact absurd (hd.mpr hb) z
  exact ⟨fun z => f (nd (fun y => y.1 z)), fun z => ⟨vp_in_nI hk (by decide), fun y => f (nd (fun u => y u.2)), fun y => t (hd.mp ⟨z, y⟩)⟩⟩
theorem du_wm {w p p' : Nat} (hI : RI r T) (hT : T < 2 ^ 30) (hw : w < 4) (hp : p < 3) (hp' : p' < 3) (hne : p' ≠ p) (hd : duB r w p = true) : duB (wmR r w p) w p' = false := by
  obtain ⟨d1, d2, d3⟩ := du_lk hd
  unfold wmR
  split
  · have e1 : wf (ovR (wm0 r w p (szN r p)) w) w 1 = 0 := by rw [wf_ov _ hw hw (by decide)]; simp
    have e2 : ¬ (0 : Int32) = 2 := by decide
    unfold duB
    rw [e1, decide_eq_false e2, Bool.false_and]
  · cases hb : duB (wm0 r w p (szN r p)) w p'
    · rfl
    · exfalso
      obtain ⟨b1, b2, b3⟩ := du_lk hb
      have oth : ∀ f, f < 16 → f ≠ 3 → wf (wm0 r w p (szN r p)) w f = wf r w f := fun f hf h3 => by rw [wf_wm0 _ hp hw hw hf, if_neg (fun z => h3 z.2)]
      have hbit := (lk_sp b2).2.1
      rw [oth 2 (by decide) (by decide)] at hbit b3
      rw [oth 6 (by decide) (by decide), wm0_at r hw hp (by omega), if_neg (by omega), ← d3] at b3
      obtain ⟨g1, ⟨s, s8, g2⟩, g3, g4, g5, g6, g7, g8, -⟩ := hI.2.1 w hw
      obtain ⟨e, e1, e2⟩ := g8 d1
      have hbit2 := (lk_sp d2).2.1
      obtain ⟨r1, r2, -⟩ := rk_eq s s8 p hp
      obtain ⟨r3, r4, -⟩ := rk_eq s s8 p' hp'
      rw [g2, bitN s s8 _ hp'] at hbit
      rw [g2, bitN s s8 _ hp] at hbit2
      rw [e2, g2, r1, r3, nI_add, nI_add] at b3
      have := nqI (by omega) (by omega) b3
      have er : rkN s (p + 1) = rkN s (p' + 1) := by omega
      rcases rk_ne s s8 p hp p' hp' with z | z | z | z
      · exact hne z
      · rw [z] at hbit2; cases hbit2
      · rw [z] at hbit; cases hbit
      · rw [er, beq_self_eq_true] at z; cases z
theorem tiW_c {w n : Nat} (hI : RI r T) (hT : T < 2 ^ 30) (hw : w < 4) : (fN (duB r w) 0 3 = -1 ∧ tiW (r, n) w = (r, n)) ∨ ∃ p, p < 3 ∧ fN (duB r w) 0 3 = nI p ∧ duB r w p = true ∧ tiW (r, n) w = (wmR r w p, n + 1) := by
  unfold tiW
  have ti_t : ∀ (s : Row × Nat) p, duB s.1 w p = true → ti1 s w p = (wmR s.1 w p, s.2 + 1) := fun s p h => by unfold ti1; rw [if_pos h]
  have ti_f : ∀ (s : Row × Nat) p, duB s.1 w p = false → ti1 s w p = s := fun s p h => by unfold ti1; rw [if_neg (by rw [h]; decide)]
  cases h0 : duB r w 0
  · rw [ti_f (r, n) 0 h0]
    cases h1 : duB r w 1
    · rw [ti_f (r, n) 1 h1]
      cases h2 : duB r w 2
      · rw [ti_f (r, n) 2 h2]
        exact Or.inl ⟨by simp [fN, h0, h1, h2], rfl⟩
      · rw [ti_t (r, n) 2 h2]
        exact Or.inr ⟨2, by decide, by simp [fN, h0, h1, h2], h2, rfl⟩
    · rw [ti_t (r, n) 1 h1, ti_f (wmR r w 1, n + 1) 2 (du_wm hI hT hw (by decide) (by decide) (by decide) h1)]
      exact Or.inr ⟨1, by decide, by simp [fN, h0, h1], h1, rfl⟩
  · rw [ti_t (r, n) 0 h0, ti_f (wmR r w 0, n + 1) 1 (du_wm hI hT hw (by decide) (by decide) (by decide) h0), ti_f (wmR r w 0, n + 1) 2 (du_wm hI hT hw (by decide) (by decide) (by decide) h0)]
    exact Or.inr ⟨0, by decide, by simp [fN, h0], h0, rfl⟩
theorem lC_mark1 {Q : Int32 → xM → Prop} {s : Row × Nat} {w : Nat} (hT : T < 2 ^ 30) (h : CR a s.1 T) (hw : w < 4) (hn : ∀ a', CR a' (tiW s w).1 T → Fr a a' s.1 (tiW s w).1 → xOk mX5_writeMarkers 4 [(0, vR 5 0 0), (1, vI (nI (tiW s w).2)), (2, vI (nI (w + 1)))] [] (a', (b, h0)) (qI Q)) : xOk mX5_writeMarkers 4 [(0, vR 5 0 0), (1, vI (nI s.2)), (2, vI (nI w))] [] (a, (b, h0)) (qI Q) := by
  obtain ⟨r, n⟩ := s
  have h : CR a r T := h
  refine rX5_writeMarkers_4 ⟨fun z => absurd z (n4 hw), fun _ => ⟨vp_in_nI hw (by decide), ?_⟩⟩
  rw [nI_clamp (by omega)]
  refine cC_partDueAt h.1.1 (CR_P h) hT hw (CR_P h).1 ?_
  rw [nI_1, nI_1]
  rcases tiW_c (n := n) h.1.1 hT hw with ⟨e1, e2⟩ | ⟨p, hp, e1, e2, e3⟩
  · rw [e2] at hn
    rw [e1]
    exact ⟨fun _ => hn a h Fr.rfl', fun z => absurd rfl z⟩
  · rw [e3] at hn
    rw [e1]
    obtain ⟨d1, d2, -⟩ := du_lk e2
    obtain ⟨f, f1, f2, -⟩ := (h.1.2.2 p hp).2.2.2.2.2.2 w hw d2
    obtain ⟨c2, fr2⟩ := wm_CR h hw hp d1 d2 f2 f1
    have hN := RI_lt h.1.1 hw hp d2
    obtain ⟨q1, q2, q3, -⟩ := CR_w h hw
    have hv : vp_in (nI p) 3 := vp_in_nI hp (by decide)
    refine ⟨fun z => absurd z (nIm1 (by omega)), fun _ => ⟨hv, hv, ?_⟩⟩
    dsimp only
    rw [nI_clamp (by omega), q1, q3, f2]
    refine eX1_appendMarker hp (cC_append hp (N := szN r p) (CR_LG h hp).len hN ⟨fun z => absurd z (nI_pos (by omega)), fun _ => ⟨fun z => absurd z (nI_ge f1 (by omega)), fun _ => ⟨vp_in_nI (by omega) (by decide), hv, ?_⟩⟩⟩)
    rw [nI_clamp (by omega)]
    have e18 : xUp (xUp (apM a p (szN r p) (nI w) (wf r w 0) (-1) (wf r w 4) (nI f)) 15 0 p f (nI (szN r p))) 18 0 w p 0 = mkM a r w p f := rfl
    dsimp only
    rw [e18]
    have m2 : wf (wm0 r w p (szN r p)) w 1 = 2 := by rw [wf_wm0 _ hp hw hw (by decide), if_neg (by omega)]; exact d1
    refine cC_markersDue c2.1.1 (CR_P c2) hT hw ?_
    have ht := toC_0 c2.1.1 hw m2
    unfold wmR at hn
    refine ⟨fun z => ?_, fun z => ?_⟩
    · rw [if_neg (fun y => z (ht.mpr y))] at hn
      exact hn _ c2 fr2
    · have hy := ht.mp z
      rw [if_pos hy] at hn
      refine cC_finish c2 hw (by rw [m2]; decide) (fun p' hp' => ?_) (fun a' c3 fr3 => hn a' c3 (fr2.trans fr3))
      unfold lk
      rw [hy]
      cases bitAt (wf (wm0 r w p (szN r p)) w 2) p' <;> simp
theorem cC_writeMarkers {Q : Int32 → xM → Prop} (hT : T < 2 ^ 30) (h : CR a r T) (hq : ∀ a', CR a' (tiA (r, 0)).1 T → Fr a a' r (tiA (r, 0)).1 → Q (nI (tiA (r, 0)).2) (a', (b, h0))) : CI mX5_writeMarkers [vR 5 0 0] (a, (b, h0)) Q := by
  refine eX5_writeMarkers (lC_mark1 (s := (r, 0)) (w := 0) hT h (by decide) (fun a1 c1 f1 => lC_mark1 (w := 1) hT c1 (by decide) (fun a2 c2 f2 => lC_mark1 (w := 2) hT c2 (by decide) (fun a3 c3 f3 => lC_mark1 (w := 3) hT c3 (by decide) (fun a4 c4 f4 => ?_)))))
  exact rX5_writeMarkers_4 ⟨fun _ => hq a4 c4 (((f1.trans f2).trans f3).trans f4), fun z => absurd (by decide) z⟩
theorem lC_hang1 {Q : xM → Prop} {w : Nat} (h : CR a r T) (hw : w < 4) (hn : ∀ a', CR a' (hg1 r w) T → Fr a a' r (hg1 r w) → xOk mX5_abortHanging 2 [(0, vR 5 0 0), (1, vI (nI (w + 1)))] [] (a', (b, h0)) (qV Q)) : xOk mX5_abortHanging 2 [(0, vR 5 0 0), (1, vI (nI w))] [] (a, (b, h0)) (qV Q) := by
  obtain ⟨q1, q2, q3, q4, -⟩ := CR_w h hw
  obtain ⟨t0, t1, -⟩ := CR_P h
  refine rX5_abortHanging_2 ⟨fun z => absurd z (n4 hw), fun _ => ⟨vp_in_nI hw (by decide), ?_⟩⟩
  rw [nI_clamp (by omega), nI_1, q1, q2, q4, t0, t1]
  unfold hg1 at hn
  refine ⟨fun z => ?_, fun z => ⟨fun y => ?_, fun y => ?_⟩⟩
  · rw [if_neg (fun u => z u.1)] at hn
    exact hn a h Fr.rfl'
  · rw [if_neg (fun u => u.2 y)] at hn
    exact hn a h Fr.rfl'
  · rw [if_pos ⟨z, y⟩] at hn
    obtain ⟨c1, f1⟩ := CR_f (f := 0) (j := 0) (v := wf r w 0 + 1) h hw (Or.inl ⟨rfl, rfl⟩)
    refine cC_endDeed c1 hw ?_ (Or.inl rfl) (fun a' c2 f2 => hn a' c2 (f1.trans f2))
    rw [wf_uw _ _ (by decide) (by decide), if_neg (by omega)]
    exact z
theorem cC_abortHanging {Q : xM → Prop} (h : CR a r T) (hq : ∀ a', CR a' (hgA r) T → Fr a a' r (hgA r) → Q (a', (b, h0))) : CV mX5_abortHanging [vR 5 0 0] (a, (b, h0)) Q := by
  refine eX5_abortHanging (lC_hang1 (w := 0) h (by decide) (fun a1 c1 f1 => lC_hang1 (w := 1) c1 (by decide) (fun a2 c2 f2 => lC_hang1 (w := 2) c2 (by decide) (fun a3 c3 f3 => lC_hang1 (w := 3) c3 (by decide) (fun a4 c4 f4 => ?_)))))
  exact rX5_abortHanging_2 ⟨fun _ => hq a4 c4 (((f1.trans f2).trans f3).trans f4), fun z => absurd (by decide) z⟩
end
section
variable {a b : xA} {h0 : Int64} {r : Row} {T q : Nat} {R : Nat → Row}
theorem lC_ticks {Q : Int32 → xM → Prop} {n : Nat} (hn : n ≤ 20) (hT : T + 20 < 2 ^ 30) : ∀ (m k : Nat) (a : xA), k + m = n → CR a (tkF r k).1 (T + k) → (∀ a', CR a' (tkF r n).1 (T + n) → Fr a a' (tkF r k).1 (tkF r n).1 → Q (tkF r n).2 (a', (b, h0))) → xOk mX5_ticks 26 [(0, vR 5 0 0), (1, vI (nI n)), (2, vI (tkF r k).2), (3, vI (nI k))] [] (a, (b, h0)) (qI Q)
  | 0, k, a, hk, h, hq => by
    have hk : k = n := hk
    subst hk
    exact rX5_ticks_26 ⟨fun _ => hq a h Fr.rfl', fun z => absurd (Int32.le_refl _) z⟩
  | m + 1, k, a, hk, h, hq => by
    refine rX5_ticks_26 ⟨fun z => absurd z (nI_ge (by omega) (by omega)), fun _ => ?_⟩
    obtain ⟨c1, f1⟩ := CR_t (i := 0) h (by decide) (RI_time h.1.1)
    rw [(CR_P h).1]
    refine cC_writeMarkers (by omega) c1 (fun a2 c2 f2 => ?_)
    refine cC_abortHanging c2 (fun a3 c3 f3 => ?_)
    have e : hgA (tiA (upd (tkF r k).1 0 ((tkF r k).1 0 + 1), 0)).1 = (tkF r (k + 1)).1 := (tkF_1 r k).symm
    rw [e] at c3 f3
    have e2 : (tkF r k).2 + nI (tiA (upd (tkF r k).1 0 ((tkF r k).1 0 + 1), 0)).2 = (tkF r (k + 1)).2 := (tkF_2 r k).symm
    rw [e2, nI_1]
    exact lC_ticks hn hT m (k + 1) a3 (by omega) c3 (fun a' c4 f4 => hq a' c4 (((f1.trans f2).trans f3).trans f4))
theorem cC_ticks {Q : Int32 → xM → Prop} {x : Int32} (hT : T + 20 < 2 ^ 30) (h : CR a r T) (hK : KC a q R r T) (hq : ∀ a', AP a q R r (T + 20) (oTicks r x) a' → Q (oTicks r x).1 (a', (b, h0))) : CI mX5_ticks [vR 5 0 0, vI x] (a, (b, h0)) Q := by
  refine eX5_ticks ⟨fun z => cF2 hq (by rw [oTicks, if_pos (Or.inl z)]), fun z => ⟨fun y => ?_, fun y => cF2 hq (by rw [oTicks, if_pos (Or.inr (Int32.not_le.mp y))])⟩⟩
  have hb : ¬ (x < 1 ∨ 20 < x) := fun u => u.elim z (fun u => Int32.not_le.mpr u y)
  have z0 : ¬ x < 0 := fun u => z (Int32.lt_trans u (by decide))
  obtain ⟨n, hn, rfl⟩ := inN (n := 20) (by decide) z0 (fun u => Int32.not_le.mpr u y)
  have en : (nI n).toNatClampNeg = n := nI_clamp (by omega)
  refine cC_keep h hK (fun a1 c1 k1 f1 => ?_)
  exact lC_ticks (r := r) (T := T) hn hT n 0 a1 (by omega) c1 (fun a' c2 f2 => cK6 hq (by rw [oTicks, if_neg hb, en]) (h.1.1.mono (by omega)) (k1.mono (by omega)) f1 (c2.mono (by omega)) f2)
end
