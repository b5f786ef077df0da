/-! A CALL OF BOTH: the answers are the same, and the invariant holds again -/
def Iv (μ : xM) (T : Nat) : Prop := IV μ.1 μ.2.1 (μ.2.1 30 0 0) T
section
variable {a b : xA} {h0 : Int64} {r : Row} {T T' q : Nat} {R : Nat → Row}
theorem IV.mono (h : IV a b r T) (hT : T ≤ T') : IV a b r T' := by
  obtain ⟨q, R, c1, c2, c3⟩ := h
  exact ⟨q, R, c1.mono hT, c2.mono hT, c3⟩
theorem Iv_now (h : IV a b r T) : Iv (mN a b r h0) T := by
  obtain ⟨q, R, c1, c2, c3, c4, c5, c6, c7, c8, c9⟩ := h
  exact ⟨q, R, c1, c2, c3, c4, c5, c6, c7, c8, c9⟩
theorem mN_self : ((a, (b, h0)) : xM) = mN a b (b 30 0 0) h0 := by rw [mN, xNow_self]
theorem st_gen {M5 M6 : xMt} {A5 A6 : List xV} {o : Row → Oc} {μ : xM} (h : Iv μ T)
    (hC : ∀ {a b : xA} {h0 : Int64} {r : Row} {q : Nat} {R : Nat → Row} {Q : Int32 → xM → Prop}, CR a r T → KC a q R r T → (∀ a', AP a q R r (T + 20) (o r) a' → Q (o r).1 (a', (b, h0))) → CI M5 A5 (a, (b, h0)) Q)
    (hR : ∀ {a b : xA} {h0 : Int64} {r : Row} {q : Nat} {Q : Int32 → xM → Prop}, RI r T → b 6 0 0 2 = nI q → q ≤ 6 → Q (o r).1 (mN a (apB b r (o r)) (apR r (o r)) h0) → CI M6 A6 (mN a b r h0) Q) : CI M5 A5 μ (fun r1 μ1 => CI M6 A6 μ1 (fun r2 μ2 => r1 = r2 ∧ Iv μ2 (T + 1000))) := by
  obtain ⟨a, b, h0⟩ := μ
  obtain ⟨q, R, hq⟩ := h
  refine hC hq.1 hq.2.1 (fun a' hA => ?_)
  have hi := IV_AP hq (by omega) hA
  rw [mN_self]
  exact hR hq.1.1.1 hq.2.2.1.1 hq.2.1.1 ⟨rfl, Iv_now (hi.mono (by omega))⟩
variable {μ : xM}
theorem st_begins {x : Int32} (h : Iv μ T) : CI mX5_begins [vR 5 0 0, vI x] μ (fun r1 μ1 => CI mX6_begins [vR 6 0 0, vI x] μ1 (fun r2 μ2 => r1 = r2 ∧ Iv μ2 (T + 1000))) :=
  st_gen (o := fun r => oBegins r x) h (fun h1 h2 h3 => cC_begins h1 h2 (fun a' y => h3 a' (y.mono (by omega)))) (fun h1 h2 h3 h4 => cR_begins h2 h3 h4)
theorem st_opens {x y : Int32} (h : Iv μ T) : CI mX5_opens [vR 5 0 0, vI x, vI y] μ (fun r1 μ1 => CI mX6_opens [vR 6 0 0, vI x, vI y] μ1 (fun r2 μ2 => r1 = r2 ∧ Iv μ2 (T + 1000))) :=
  st_gen (o := fun r => oOpens r x y) h (fun h1 h2 h3 => cC_opens h1 h2 (fun a' y => h3 a' (y.mono (by omega)))) (fun h1 h2 h3 h4 => cR_opens h2 h3 h4)
theorem st_sends {x y p n v : Int32} (hT : T + 1000 < 2 ^ 30) (h : Iv μ T) : CI mX5_sends [vR 5 0 0, vI x, vI y, vI p, vI n, vI v] μ (fun r1 μ1 => CI mX6_sends [vR 6 0 0, vI x, vI y, vI p, vI n, vI v] μ1 (fun r2 μ2 => r1 = r2 ∧ Iv μ2 (T + 1000))) :=
  st_gen (o := fun r => oSends r x y p n v) h (fun h1 h2 h3 => cC_sends (by omega) h1 h2 (fun a' y => h3 a' (y.mono (by omega)))) (fun h1 h2 h3 h4 => cR_sends h1.WR h2 h3 h4)
theorem st_ends {x y c : Int32} (h : Iv μ T) : CI mX5_ends [vR 5 0 0, vI x, vI y, vI c] μ (fun r1 μ1 => CI mX6_ends [vR 6 0 0, vI x, vI y, vI c] μ1 (fun r2 μ2 => r1 = r2 ∧ Iv μ2 (T + 1000))) :=
  st_gen (o := fun r => oEnds r x y c) h (fun h1 h2 h3 => cC_ends h1 h2 (fun a' y => h3 a' (y.mono (by omega)))) (fun h1 h2 h3 h4 => cR_ends h2 h3 h4)
theorem st_carries {x y j p : Int32} (h : Iv μ T) : CI mX5_carries [vR 5 0 0, vI x, vI y, vI j, vI p] μ (fun r1 μ1 => CI mX6_carries [vR 6 0 0, vI x, vI y, vI j, vI p] μ1 (fun r2 μ2 => r1 = r2 ∧ Iv μ2 (T + 1000))) :=
  st_gen (o := fun r => oCarries r x y j p) h (fun h1 h2 h3 => cC_carries h1 h2 (fun a' y => h3 a' (y.mono (by omega)))) (fun h1 h2 h3 h4 => cR_carries h2 h3 h4)
theorem st_ticks {x : Int32} (hT : T + 1000 < 2 ^ 30) (h : Iv μ T) : CI mX5_ticks [vR 5 0 0, vI x] μ (fun r1 μ1 => CI mX6_ticks [vR 6 0 0, vI x] μ1 (fun r2 μ2 => r1 = r2 ∧ Iv μ2 (T + 1000))) :=
  st_gen (o := fun r => oTicks r x) h (fun h1 h2 h3 => cC_ticks (by omega) h1 h2 h3) (fun h1 h2 h3 h4 => cR_ticks h1 h2 h3 h4)
theorem st_limit {x : Int32} (h : Iv μ T) : CI mX5_limit [vR 5 0 0, vI x] μ (fun r1 μ1 => CI mX6_limit [vR 6 0 0, vI x] μ1 (fun r2 μ2 => r1 = r2 ∧ Iv μ2 (T + 1000))) :=
  st_gen (o := fun r => oLimit r x) h (fun h1 h2 h3 => cC_limit h1 h2 (fun a' y => h3 a' (y.mono (by omega)))) (fun h1 h2 h3 h4 => cR_limit h2 h3 h4)
theorem st_writer {x y : Int32} (hT : T + 1000 < 2 ^ 30) (h : Iv μ T) : CI mX5_writer [vR 5 0 0, vI x, vI y] μ (fun r1 μ1 => CI mX6_writer [vR 6 0 0, vI x, vI y] μ1 (fun r2 μ2 => r1 = r2 ∧ Iv μ2 (T + 1000))) :=
  st_gen (o := fun r => oWriter r x y) h (fun h1 h2 h3 => cC_writer (by omega) h1 (fun a' y => h3 a' (y.mono (by omega)))) (fun h1 h2 h3 h4 => cR_writer h1.WR h4)
theorem st_entry {x y z : Int32} (hT : T + 1000 < 2 ^ 30) (h : Iv μ T) : CI mX5_entry [vR 5 0 0, vI x, vI y, vI z] μ (fun r1 μ1 => CI mX6_entry [vR 6 0 0, vI x, vI y, vI z] μ1 (fun r2 μ2 => r1 = r2 ∧ Iv μ2 (T + 1000))) :=
  st_gen (o := fun r => oEntry r x y z) h (fun h1 h2 h3 => cC_entry (by omega) h1 (fun a' y => h3 a' (y.mono (by omega)))) (fun h1 h2 h3 h4 => cR_entry h1.WR h4)
theorem st_part {x y : Int32} (hT : T + 1000 < 2 ^ 30) (h : Iv μ T) : CI mX5_part [vR 5 0 0, vI x, vI y] μ (fun r1 μ1 => CI mX6_part [vR 6 0 0, vI x, vI y] μ1 (fun r2 μ2 => r1 = r2 ∧ Iv μ2 (T + 1000))) :=
  st_gen (o := fun r => oPart r x y) h (fun h1 h2 h3 => cC_part (by omega) h1 (fun a' y => h3 a' (y.mono (by omega)))) (fun h1 h2 h3 h4 => cR_part h1.WR h4)
theorem st_aborted {x y z : Int32} (h : Iv μ T) : CI mX5_aborted [vR 5 0 0, vI x, vI y, vI z] μ (fun r1 μ1 => CI mX6_aborted [vR 6 0 0, vI x, vI y, vI z] μ1 (fun r2 μ2 => r1 = r2 ∧ Iv μ2 (T + 1000))) :=
  st_gen (o := fun r => oAborted r x y z) h (fun h1 h2 h3 => cC_aborted h1 (fun a' y => h3 a' (y.mono (by omega)))) (fun h1 h2 h3 h4 => cR_aborted h1.WR h4)
theorem st_reads {x y : Int32} (hT : T + 1000 < 2 ^ 30) (h : Iv μ T) : CI mX5_reads [vR 5 0 0, vI x, vI y] μ (fun r1 μ1 => CI mX6_reads [vR 6 0 0, vI x, vI y] μ1 (fun r2 μ2 => r1 = r2 ∧ Iv μ2 (T + 1000))) :=
  st_gen (o := fun r => oReads r x y) h (fun h1 h2 h3 => cC_reads (by omega) h1 h2 (fun a' y => h3 a' (y.mono (by omega)))) (fun h1 h2 h3 h4 => cR_reads h1.WR h2 h3 h4)
theorem st_rewinds {x : Int32} (h : Iv μ T) : CI mX5_rewinds [vR 5 0 0, vI x] μ (fun r1 μ1 => CI mX6_rewinds [vR 6 0 0, vI x] μ1 (fun r2 μ2 => r1 = r2 ∧ Iv μ2 (T + 1000))) :=
  st_gen (o := fun r => oRewinds r x) h (fun h1 h2 h3 => cC_rewinds h1 h2 (fun a' y => h3 a' (y.mono (by omega)))) (fun h1 h2 h3 h4 => cR_rewinds h2 h3 h4)
theorem st_reader {x y z : Int32} (hT : T + 1000 < 2 ^ 30) (h : Iv μ T) : CI mX5_reader [vR 5 0 0, vI x, vI y, vI z] μ (fun r1 μ1 => CI mX6_reader [vR 6 0 0, vI x, vI y, vI z] μ1 (fun r2 μ2 => r1 = r2 ∧ Iv μ2 (T + 1000))) :=
  st_gen (o := fun r => oReader r x y z) h (fun h1 h2 h3 => cC_reader (by omega) h1 (fun a' y => h3 a' (y.mono (by omega)))) (fun h1 h2 h3 h4 => cR_reader h1.WR h4)
theorem st_all {x : Int32} (hT : T + 1000 < 2 ^ 30) (h : Iv μ T) : CI mX5_all [vR 5 0 0, vI x] μ (fun r1 μ1 => CI mX6_all [vR 6 0 0, vI x] μ1 (fun r2 μ2 => r1 = r2 ∧ Iv μ2 (T + 1000))) :=
  st_gen (o := fun r => oAll r x) h (fun h1 h2 h3 => cC_all (by omega) h1 (fun a' y => h3 a' (y.mono (by omega)))) (fun h1 h2 h3 h4 => cR_all h1.WR h4)
theorem IV_er (i : Nat) (hi : i < 5) (h : IVq a b r T q R) : IV (erM a i) (rErr b i) r T := by
  have := IV_AP (o := (0, i, r)) (T' := T) h (Nat.le_refl _) (Or.inl ⟨hi, rfl⟩)
  unfold apB apR at this
  rw [if_pos hi, if_pos (show i < 6 by omega)] at this
  exact this
theorem tC_tT (h : IVq a b r T q R) {k : Nat} (hk : k ≤ 6) : tC a k = tT b k := by
  obtain ⟨c1, c2, c3, c4, ⟨L, l1, l2, l3, l4⟩, c6, c7, c8, c9⟩ := h
  unfold tC tT
  by_cases h5 : k < 5
  · rw [if_pos h5, if_pos h5]; exact c4 k h5
  · rw [if_neg h5, if_neg h5]
    by_cases e : k = 5
    · rw [if_pos e, if_pos e, l2, l3]
    · rw [if_neg e, if_neg e, c2.2.1, c3.1]
theorem st_told {x : Int32} (h : Iv μ T) : CI mX5_told [vR 5 0 0, vI x] μ (fun r1 μ1 => CI mX6_told [vR 6 0 0, vI x] μ1 (fun r2 μ2 => r1 = r2 ∧ Iv μ2 (T + 1000))) := by
  obtain ⟨a, b, h0⟩ := μ
  obtain ⟨q, R, hq⟩ := h
  refine cC_told (fun z => ?_) (fun k hk e => ?_)
  · rw [mN_self]
    have ho : oTold b (b 30 0 0) x = (-2, 0, b 30 0 0) := by rw [oTold, if_pos z]
    refine cR_told ?_
    rw [ho]
    exact ⟨rfl, Iv_now ((IV_er 0 (by decide) hq).mono (by omega))⟩
  · rw [mN_self]
    subst e
    have ho : oTold b (b 30 0 0) (nI k) = (tT b k, 5, b 30 0 0) := by rw [oTold, if_neg (show ¬ (nI k < 0 ∨ 6 < nI k) from notIn (n := 6) (by decide) hk), nI_clamp (by omega)]
    refine cR_told ?_
    rw [ho]
    have hi : IV a b (b 30 0 0) (T + 1000) := IV.mono ⟨q, R, hq⟩ (by omega)
    exact ⟨tC_tT hq hk, Iv_now hi⟩
theorem st_digest (hT : T + 1000 < 2 ^ 30) (h : Iv μ T) : CL mX5_digest [vR 5 0 0] μ (fun r1 μ1 => CL mX6_digest [vR 6 0 0] μ1 (fun r2 μ2 => r1 = r2 ∧ Iv μ2 (T + 1000))) := by
  obtain ⟨a, b, h0⟩ := μ
  obtain ⟨q, R, hq⟩ := h
  refine cC_digest (r := b 30 0 0) (by omega) hq.1 ?_
  rw [mN_self]
  have hi : IV a b (b 30 0 0) (T + 1000) := IV.mono ⟨q, R, hq⟩ (by omega)
  refine cR_digest hq.1.1.1.WR ⟨?_, Iv_now hi⟩
  unfold dgC dg
  have e : mF (tC a) 2297 7 = mF (tT b) 2297 7 := by
    simp only [mF, itS]
    rw [tC_tT hq (k := 0) (by decide), tC_tT hq (k := 0 + 1) (by decide), tC_tT hq (k := 0 + 1 + 1) (by decide), tC_tT hq (k := 0 + 1 + 1 + 1) (by decide), tC_tT hq (k := 0 + 1 + 1 + 1 + 1) (by decide), tC_tT hq (k := 0 + 1 + 1 + 1 + 1 + 1) (by decide), tC_tT hq (k := 0 + 1 + 1 + 1 + 1 + 1 + 1) (by decide)]
  rw [e]
theorem st_asked (h : Iv μ T) : CI mX5_asked [vR 5 0 0] μ (fun r1 μ1 => CI mX6_asked [vR 6 0 0] μ1 (fun r2 μ2 => r1 = r2 ∧ Iv μ2 (T + 1000))) := by
  obtain ⟨a, b, h0⟩ := μ
  obtain ⟨q, R, hq⟩ := h
  refine eX5_asked (eX6_asked ⟨hq.2.2.2.2.2.2.1, ?_⟩)
  exact IV.mono ⟨q, R, hq⟩ (by omega)
/-- the text alone has changed -/
theorem IV_tx {a' b' : xA} (h : IVq a b r T q R) (ha : ∀ k s w j, ¬ (k = 22 ∨ (k = 3 ∧ j = 1)) → a' k s w j = a k s w j) (hb : ∀ k s w j, ¬ (k = 33 ∨ (k = 6 ∧ j = 6)) → b' k s w j = b k s w j) (ht : TX a' b') : IV a' b' r (T + 1000) := by
  obtain ⟨c1, c2, c3, c4, c5, ⟨wa, gi, di, l1, l2, l3⟩, c7, c8, c9⟩ := h
  have hKs : Ks a a' := fun k s w j hk => ha k s w j (by omega)
  refine ⟨q, R, (CR_s hKs c1).mono (by omega), (KC_s hKs c2).mono (by omega), ⟨by rw [hb _ _ _ _ (by omega)]; exact c3.1, fun i hi j hj => by rw [hb _ _ _ _ (by omega)]; exact c3.2 i hi j hj⟩, fun i hi => by rw [ha _ _ _ _ (by omega), hb _ _ _ _ (by omega)]; exact c4 i hi, ht, ⟨wa, gi, di, by rw [ha _ _ _ _ (by omega)]; exact l1, by rw [ha _ _ _ _ (by omega)]; exact l2, by rw [ha _ _ _ _ (by omega)]; exact l3⟩, by rw [ha _ _ _ _ (by omega), hb _ _ _ _ (by omega)]; exact c7, by rw [ha _ _ _ _ (by omega)]; exact c8, by rw [hb _ _ _ _ (by omega)]; exact c9⟩
theorem st_clear (h : Iv μ T) : CI mX5_clear [vR 5 0 0] μ (fun r1 μ1 => CI mX6_clear [vR 6 0 0] μ1 (fun r2 μ2 => r1 = r2 ∧ Iv μ2 (T + 1000))) := by
  obtain ⟨a, b, h0⟩ := μ
  obtain ⟨q, R, hq⟩ := h
  obtain ⟨L, l1, l2, l3, l4⟩ := hq.2.2.2.2.1
  refine eX5_clear ?_
  rw [mN_self]
  refine cR_clear ⟨l2.trans l3.symm, Iv_now (IV_tx hq (fun k s w j hk => xUp_n (by omega)) (fun k s w j hk => xUp_n (by omega)) ⟨0, by decide, xUp_s _ _ _ _ _ _, xUp_s _ _ _ _ _ _, fun i hi => absurd hi (Nat.not_lt_zero _)⟩)⟩
theorem st_type {x : Int32} (h : Iv μ T) : CI mX5_type [vR 5 0 0, vI x] μ (fun r1 μ1 => CI mX6_type [vR 6 0 0, vI x] μ1 (fun r2 μ2 => r1 = r2 ∧ Iv μ2 (T + 1000))) := by
  obtain ⟨a, b, h0⟩ := μ
  obtain ⟨q, R, hq⟩ := h
  obtain ⟨L, l1, l2, l3, l4⟩ := hq.2.2.2.2.1
  dsimp only at l2 l3 l4
  refine eX5_type (cC_out (n := 127) (by decide) (fun z => ⟨fun y => absurd y (by decide), fun _ => cC_failed (i := 0) (by simp) ?_⟩) (fun k hk e => ⟨fun _ => ?_, fun y => absurd rfl y⟩))
  · rw [mN_self]
    exact cR_type l3 l1 (fun _ => ⟨rfl, Iv_now ((IV_er 0 (by decide) hq).mono (by omega))⟩) (fun y => absurd z y) (fun y => absurd z y)
  · have hb : ¬ (x < 0 ∨ 127 < x) := by rw [e]; exact notIn (n := 127) (by decide) hk
    dsimp only
    rw [l2]
    refine ⟨fun z => ?_, fun z => cC_failed (i := 4) (by simp) ?_⟩
    · have hL : L < 120 := (nI_ltI (by omega) (by decide)).mp z
      rw [nI_clamp (by omega)]
      refine ⟨vp_in_nI hL (by decide), ?_⟩
      rw [xUp_s, xUp_n (by omega), l2, nI_1, mN_self]
      refine cR_type l3 l1 (fun y => absurd y hb) (fun _ y => by omega) (fun _ _ => ⟨rfl, Iv_now (IV_tx hq (fun k s w j hk => ?_) (fun k s w j hk => ?_) ⟨L + 1, by omega, xUp_s _ _ _ _ _ _, xUp_s _ _ _ _ _ _, fun i hi => ?_⟩)⟩)
      · rw [xUp_n (by omega), xUp_n (by omega)]
      · unfold tyB
        rw [xUp_n (by omega), xUp_n (by omega)]
      · unfold tyB
        rw [xUp_n (by omega), xUp_n (k' := 33) (by omega)]
        by_cases e : i = L
        · subst e
          rw [xUp_s, xUp_s]
        · rw [xUp_n (by omega), xUp_n (by omega)]
          exact l4 i (by omega)
    · have hL : L = 120 := by
        rcases Nat.lt_or_ge L 120 with y | y
        · exact absurd (nI_lt y (by decide)) z
        · omega
      rw [mN_self]
      exact cR_type l3 l1 (fun y => absurd y hb) (fun _ _ => ⟨rfl, Iv_now ((IV_er 4 (by decide) hq).mono (by omega))⟩) (fun _ y => by omega)
theorem st_back (h : Iv μ T) : CI mX5_back [vR 5 0 0] μ (fun r1 μ1 => CI mX6_back [vR 6 0 0] μ1 (fun r2 μ2 => r1 = r2 ∧ Iv μ2 (T + 1000))) := by
  obtain ⟨a, b, h0⟩ := μ
  obtain ⟨q, R, hq⟩ := h
  have hq6 := hq.2.1.1
  have hs := hq.2.2.1.1
  refine cC_back hq.2.1 (fun z => ?_) (fun z a' c1 c2 f1 => ?_)
  · rw [mN_self]
    exact cR_back hs hq6 (fun _ => ⟨rfl, Iv_now ((IV_er 2 (by decide) hq).mono (by omega))⟩) (fun y => by omega)
  · rw [mN_self]
    refine cR_back hs hq6 (fun y => by omega) (fun _ => ⟨rfl, Iv_now ?_⟩)
    obtain ⟨d1, d2, d3, d4, ⟨L, l1, l2, l3, l4⟩, ⟨wa, gi, di, m1, m2, m3⟩, d7, d8, d9⟩ := hq
    have hE : Eq945 (R (q - 1)) (cpN (b 30 0 0) 0 945 (fun j => b 31 0 0 (945 * (q - 1) + j))) := by
      intro j hj
      unfold cpN
      rw [if_pos (by omega), Nat.sub_zero]
      exact d3.2 (q - 1) (by omega) j hj
    refine ⟨q - 1, R, (CR_r hE c1).mono (by omega), (KC_r hE c2).mono (by omega), ⟨xUp_s _ _ _ _ _ _, fun i hi j hj => by rw [bkB, xUp_n (by omega)]; exact d3.2 i (by omega) j hj⟩, fun i hi => by rw [f1 _ _ _ _ (by omega), bkB, xUp_n (by omega)]; exact d4 i hi, ⟨L, l1, by rw [f1 _ _ _ _ (by omega)]; exact l2, by rw [bkB, xUp_n (by omega)]; exact l3, fun i hi => by rw [f1 _ _ _ _ (by omega), bkB, xUp_n (by omega)]; exact l4 i hi⟩, ⟨wa, gi, di, by rw [f1 _ _ _ _ (by omega)]; exact m1, by rw [f1 _ _ _ _ (by omega)]; exact m2, by rw [f1 _ _ _ _ (by omega)]; exact m3⟩, by rw [f1 _ _ _ _ (by omega), bkB, xUp_n (by omega)]; exact d7, by rw [f1 _ _ _ _ (by omega)]; exact d8, by rw [bkB, xUp_n (by omega)]; exact d9⟩
theorem st_does (hT : T + 1000 < 2 ^ 30) (h : Iv μ T) : CI mX5_does [vR 5 0 0] μ (fun r1 μ1 => CI mX6_does [vR 6 0 0] μ1 (fun r2 μ2 => r1 = r2 ∧ Iv μ2 (T + 1000))) := by
  obtain ⟨a, b, h0⟩ := μ
  obtain ⟨q, R, hq⟩ := h
  obtain ⟨d1, d2, d3, d4, ⟨L, l1, l2, l3, l4⟩, ⟨wa, gi, di, m1, m2, m3⟩, d7, d8, d9⟩ := id hq
  have d1 : CR a (b 30 0 0) T := d1
  have d2 : KC a q R (b 30 0 0) T := d2
  have ec : rn (b 33 0 0) 0 L (0, false, wa, gi, di, a 23 0 0, a 24 0 0) = rn (a 22 0 0) 0 L (0, false, wa, gi, di, a 23 0 0, a 24 0 0) := rn_cg L 0 _ (fun j _ hj => (l4 j (by omega)).symm)
  refine cC_does (by omega) d1 d2 d8 l2 l1 m1 m2 m3 rfl (fun a' f e1 e2 e3 => ?_) (fun e1 a' c1 c2 c3 c4 c5 c6 c7 c8 => ?_)
  · refine cR_does (T := T) l3 l1 ec rfl d3 d2.1 (fun i hi => (d4 i hi).symm) d7.symm (fun e => by rw [e1] at e; exact absurd e (nIm1 (by omega))) (fun b' f' e4 e5 e6 => ⟨?_, ?_⟩) (fun e => by rw [e1] at e; exact absurd e (nIm1 (by omega)))
    · rw [e1] at e4
      rw [e4]
    · generalize rn (a 22 0 0) 0 L (0, false, wa, gi, di, a 23 0 0, a 24 0 0) = S at e3
      obtain ⟨res, o, inO, wa', gi', di', Lt, Nm⟩ := S
      obtain ⟨p4, p5, p6, p7, p8, pL, pN, pf⟩ := e3
      have hKs : Ks a a' := fun k s w j hk => pf k s w j (by omega)
      have e30 : b' 30 0 0 = b 30 0 0 := by funext j; exact e6 _ _ _ _ (by omega)
      show IV a' b' (b' 30 0 0) (T + 1000)
      rw [e30]
      exact ⟨q, R, (CR_s hKs d1).mono (by omega), (KC_s hKs d2).mono (by omega), ⟨by rw [e6 _ _ _ _ (by omega)]; exact d3.1, fun i hi j hj => by rw [e6 _ _ _ _ (by omega)]; exact d3.2 i hi j hj⟩, fun i hi => by rw [pf _ _ _ _ (by omega), e6 _ _ _ _ (by omega)]; exact d4 i hi, ⟨L, l1, by rw [pf _ _ _ _ (by omega)]; exact l2, by rw [e6 _ _ _ _ (by omega)]; exact l3, fun i hi => by rw [pf _ _ _ _ (by omega), e6 _ _ _ _ (by omega)]; exact l4 i hi⟩, ⟨wa', gi', di', p6, p7, p8⟩, by rw [pf _ _ _ _ (by omega), e6 _ _ _ _ (by omega)]; exact d7, by rw [pf _ _ _ _ (by omega)]; exact d8, by rw [e6 _ _ _ _ (by omega)]; exact d9⟩
  · refine cR_does (T := T) l3 l1 ec rfl d3 d2.1 (fun i hi => (d4 i hi).symm) d7.symm (fun _ => c8) (fun b' f' e4 e5 e6 => by rw [e1] at e4; exact absurd e4.symm (nIm1 (by omega))) (fun _ b2 g1 g2 g3 g4 g5 g6 => ⟨rfl, Iv_now ?_⟩)
    exact ⟨pq q, pR q R (b 30 0 0), c1.mono (by omega), c2.mono (by omega), g4, fun i hi => (c3 i hi).trans (g1 i hi).symm, ⟨L, l1, (c6 _ _ _ _ (by omega)).trans l2, g5.trans l3, fun i hi => by rw [c6 _ _ _ _ (by omega), g6]; exact l4 i hi⟩, c7, c4.trans g2.symm, c5, g3⟩
end
