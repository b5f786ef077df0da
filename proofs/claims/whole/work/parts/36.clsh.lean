def sl (e q i : Nat) : Nat := 1 + (e + 6 - q + i) % 6
/-- the kept states: q of them, the oldest R 0 -/
def KC (a : xA) (q : Nat) (R : Nat → Row) (r : Row) (T : Nat) : Prop := q ≤ 6 ∧ a 5 0 0 3 = nI q ∧ ∃ e, e < 6 ∧ a 5 0 0 4 = nI e ∧ (∀ i, i < q → RelS a (sl e q i) (R i) T ∧ ∀ p, p < 3 → a 16 (sl e q i) 0 p = R i (66 + p)) ∧ (∀ i j, i < j → j < q → ∀ p, p < 3 → szN (R i) p ≤ szN (R j) p) ∧ ∀ i, i < q → ∀ p, p < 3 → szN (R i) p ≤ szN r p
def pR (q : Nat) (R : Nat → Row) (r : Row) (i : Nat) : Row := if q = 6 then (if i < 5 then R (i + 1) else r) else (if i < q then R i else r)
def pq (q : Nat) : Nat := if q = 6 then 6 else q + 1
/-- cells that no keeping touches -/
def Kf (a a' : xA) : Prop := ∀ k s w j, (k = 3 ∨ k = 22 ∨ k = 23 ∨ k = 24 ∨ k = 25 ∨ (k = 5 ∧ (j = 7 ∨ j = 8))) → a' k s w j = a k s w j
theorem PL_sl {a a' : xA} {r : Row} {s s' p : Nat} (hP : PL a s r p) (hlog : ∀ k, 10 ≤ k → k ≤ 15 → ∀ i, a' k 0 p i = a k 0 p i) (h17 : ∀ w, w < 4 → a' 17 s' w p = a 17 s w p) : PL a' s' r p := by
  obtain ⟨g1, g2, g3, g4, g5, g6, g7⟩ := hP
  have e10 := hlog 10 (by decide) (by decide)
  have e11 := hlog 11 (by decide) (by decide)
  have e12 := hlog 12 (by decide) (by decide)
  have e13 := hlog 13 (by decide) (by decide)
  have e14 := hlog 14 (by decide) (by decide)
  have e15 := hlog 15 (by decide) (by decide)
  have ec : ∀ n f, cm a' p n f = cm a p n f := fun n f => by unfold cm; rw [e15]
  have ef : ∀ n k, fate a' p n k = fate a p n k := fun n k => by unfold fate; simp only [e14, e13, ec]
  refine ⟨fun k hk => ?_, fun k hk => ?_, fun k hk => ?_, fun k hk => ?_, fun f hf => ?_, fun k hk z1 f hf z2 z3 => ?_, fun w hw hl => ?_⟩
  · rw [e10, e11, e12, e13, e14, ef]; exact g1 k hk
  · simp only [e10, e12, e14]; exact g2 k hk
  · simp only [e10, e12, e13, e14, e15]; exact g3 k hk
  · rw [e15]; exact g4 k hk
  · simp only [e12, e14, e15]; exact g5 f hf
  · rw [e12] at z1
    rw [e14] at z2
    rw [ec] at z3
    obtain ⟨w, w1, w2, w3, w4⟩ := g6 k hk z1 f hf z2 z3
    exact ⟨w, w1, by rw [e10]; exact w2, w3, by rw [h17 w w1]; exact w4⟩
  · obtain ⟨f, f1, f2, f3, f4, f5, f6⟩ := g7 w hw hl
    exact ⟨f, f1, by rw [h17 w hw]; exact f2, by rw [e12]; exact f3, by rw [e14]; exact f4, by rw [e10]; exact f5, by rw [ec]; exact f6⟩
theorem RelS_log {a a' : xA} {s : Nat} {r : Row} {T : Nat} (h : RelS a s r T) (hs : SameS a a' s) (hlog : ∀ p k, 10 ≤ k → k ≤ 15 → ∀ i, a' k 0 p i = a k 0 p i) : RelS a' s r T :=
  ⟨h.1, PS_same hs h.2.1, fun p hp => PL_sl (h.2.2 p hp) (hlog p) (fun w _ => hs 17 w p (by simp))⟩
def lnM (a : xA) (n : Nat) : xA := fun k s w i => if k = 16 ∧ s = 0 ∧ w = 0 ∧ i < n then a 1 0 i 0 else a k s w i
def kpM (a : xA) (e q : Nat) : xA := xUp (xUp (cpS (lnM a 3) (e + 1) 0) 5 0 0 4 (nI ((e + 1) % 6))) 5 0 0 3 (nI (pq q))
theorem kpM_ne (a : xA) {e q k s w i : Nat} (h1 : k = 5 → ¬ (s = 0 ∧ w = 0 ∧ (i = 3 ∨ i = 4))) (h2 : s ≠ e + 1 ∨ ¬ (k = 4 ∨ k = 16 ∨ k = 2 ∨ k = 17 ∨ k = 18 ∨ k = 19 ∨ k = 20 ∨ k = 21)) (h3 : k = 16 → s ≠ 0) : kpM a e q k s w i = a k s w i := by
  unfold kpM xUp
  rw [if_neg (fun z => h1 z.1 ⟨z.2.1, z.2.2.1, Or.inl z.2.2.2⟩), if_neg (fun z => h1 z.1 ⟨z.2.1, z.2.2.1, Or.inr z.2.2.2⟩), cpS_ne h2]
  unfold lnM
  rw [if_neg (fun z => h3 z.1 z.2.1)]
theorem kpM_eq (a : xA) {e q k w i : Nat} (hk : ¬ k = 5) (hk16 : ¬ k = 16) (h : (w < 4 ∧ ((k = 2 ∧ i < 4) ∨ (k = 17 ∧ i < 3) ∨ (k = 18 ∧ i < 3) ∨ (k = 19 ∧ i < 6))) ∨ (w < 2 ∧ ((k = 20 ∧ i < 3) ∨ (k = 21 ∧ i < 3))) ∨ (w = 0 ∧ ((k = 4 ∧ i < 2) ∨ (k = 16 ∧ i < 3)))) : kpM a e q k (e + 1) w i = a k 0 w i := by
  unfold kpM xUp
  rw [if_neg (fun z => hk z.1), if_neg (fun z => hk z.1), cpS_eq (by omega) h]
  unfold lnM
  rw [if_neg (fun z => hk16 z.1)]
section
variable {a b : xA} {h0 : Int64} {r : Row} {T : Nat}
theorem cC_keep0 {Q : xM → Prop} {e q : Nat} (hf : a 5 0 0 8 = 0) (he : a 5 0 0 4 = nI e) (he6 : e < 6) (hqq : a 5 0 0 3 = nI q) (hq6 : q ≤ 6) (hq : Q (kpM a e q, (b, h0))) : CV mX5_keep [vR 5 0 0] (a, (b, h0)) Q := by
  have ls : ∀ n, xUp (lnM a n) 16 0 0 n (a 1 0 n 0) = lnM a (n + 1) := by
    intro n
    funext k s w i
    unfold xUp lnM
    by_cases h : k = 16 ∧ s = 0 ∧ w = 0
    · obtain ⟨rfl, rfl, rfl⟩ := h
      by_cases h1 : i = n
      · subst h1; simp
      · have : i < n + 1 ↔ i < n := by omega
        simp [h1, this]
    · rw [if_neg (fun z => h ⟨z.1, z.2.1, z.2.2.1⟩), if_neg (fun z => h ⟨z.1, z.2.1, z.2.2.1⟩), if_neg (fun z => h ⟨z.1, z.2.1, z.2.2.1⟩)]
  have l0 : lnM a 0 = a := by
    funext k s w i
    unfold lnM
    rw [if_neg (fun z => absurd z.2.2.2 (Nat.not_lt_zero _))]
  have lne : ∀ n k w i, k ≠ 16 → lnM a n k 0 w i = a k 0 w i := fun n k w i hk => by unfold lnM; rw [if_neg (fun z => hk z.1)]
  have key : ∀ m n, n + m = 3 → xOk mX5_keep 10 [(0, vR 5 0 0), (1, vI (nI n))] [] (lnM a n, (b, h0)) (qV Q) := by
    intro m
    induction m with
    | zero =>
      intro n hn
      have hn : n = 3 := hn
      subst hn
      refine rX5_keep_10 ⟨fun _ => ?_, fun z => absurd (by decide) z⟩
      rw [lne 3 5 0 4 (by decide), he, nI_clamp (by omega)]
      refine ⟨vp_in_nI he6 (by decide), cC_scopy (by omega) (by decide) (by omega) ?_⟩
      have e4 : cpS (lnM a 3) (e + 1) 0 5 0 0 4 = nI e := by rw [cpS_ne (by omega), lne 3 5 0 4 (by decide)]; exact he
      have e3 : ∀ v, xUp (cpS (lnM a 3) (e + 1) 0) 5 0 0 4 v 5 0 0 3 = nI q := fun v => by
        unfold xUp
        rw [if_neg (by omega), cpS_ne (by omega), lne 3 5 0 3 (by decide)]; exact hqq
      show Q (xUp (xUp (cpS (lnM a 3) (e + 1) 0) 5 0 0 4 (cpS (lnM a 3) (e + 1) 0 5 0 0 4 + 1 - (cpS (lnM a 3) (e + 1) 0 5 0 0 4 + 1) / 6 * 6)) 5 0 0 3 (if 6 < xUp (cpS (lnM a 3) (e + 1) 0) 5 0 0 4 (cpS (lnM a 3) (e + 1) 0 5 0 0 4 + 1 - (cpS (lnM a 3) (e + 1) 0 5 0 0 4 + 1) / 6 * 6) 5 0 0 3 + 1 then 6 else xUp (cpS (lnM a 3) (e + 1) 0) 5 0 0 4 (cpS (lnM a 3) (e + 1) 0 5 0 0 4 + 1 - (cpS (lnM a 3) (e + 1) 0 5 0 0 4 + 1) / 6 * 6) 5 0 0 3 + 1), (b, h0))
      rw [e3, e4, nI_1, nI_1, lit 6, pk_rem (by omega) (by decide) (by decide)]
      have e5 : (if nI 6 < nI (q + 1) then nI 6 else nI (q + 1)) = nI (pq q) := by
        unfold pq
        by_cases h6 : q = 6
        · subst h6; decide
        · rw [if_neg (nI_nlt (by omega) (by decide)), if_neg h6]
      rw [e5]
      exact hq
    | succ m ih =>
      intro n hn
      refine rX5_keep_10 ⟨fun z => absurd z (n3 (by omega)), fun _ => ⟨vp_in_nI (by omega) (by decide), vp_in_nI (by omega) (by decide), ?_⟩⟩
      rw [nI_1, nI_clamp (by omega), lne n 1 n 0 (by decide), ls]
      exact ih (n + 1) (by omega)
  have h := key 3 0 rfl
  rw [l0] at h
  exact eX5_keep ⟨fun _ => h, fun z => absurd hf z⟩
theorem kp_KC {e q : Nat} {R : Nat → Row} (h : CR a r T) (hq6 : q ≤ 6) (he6 : e < 6) (hK : ∀ i, i < q → RelS a (sl e q i) (R i) T ∧ ∀ p, p < 3 → a 16 (sl e q i) 0 p = R i (66 + p)) (hm1 : ∀ i j, i < j → j < q → ∀ p, p < 3 → szN (R i) p ≤ szN (R j) p) (hm2 : ∀ i, i < q → ∀ p, p < 3 → szN (R i) p ≤ szN r p) : CR (kpM a e q) r T ∧ KC (kpM a e q) (pq q) (pR q R r) r T ∧ Kf a (kpM a e q) := by
  obtain ⟨⟨hI, hP, hL⟩, hU⟩ := h
  have hlog : ∀ p k, 10 ≤ k → k ≤ 15 → ∀ i, kpM a e q k 0 p i = a k 0 p i := fun p k h1 h2 i => kpM_ne a (by omega) (by omega) (by omega)
  have same : ∀ s, s ≠ e + 1 → SameS a (kpM a e q) s := fun s hs k w j hk => kpM_ne a (by omega) (Or.inl hs) (by omega)
  have old : ∀ s r', s ≠ e + 1 → s ≠ 0 → (RelS a s r' T ∧ ∀ p, p < 3 → a 16 s 0 p = r' (66 + p)) → RelS (kpM a e q) s r' T ∧ ∀ p, p < 3 → kpM a e q 16 s 0 p = r' (66 + p) := by
    intro s r' hs hs0 ⟨z1, z2⟩
    exact ⟨RelS_log z1 (same s hs) hlog, fun p hp => by rw [kpM_ne a (by omega) (Or.inl hs) (fun _ => hs0)]; exact z2 p hp⟩
  have new : RelS (kpM a e q) (e + 1) r T ∧ ∀ p, p < 3 → kpM a e q 16 (e + 1) 0 p = r (66 + p) := by
    refine ⟨⟨hI, ?_, fun p hp => PL_sl (hL p hp) (hlog p) (fun w hw => kpM_eq a (by decide) (by decide) (by omega))⟩, fun p hp => ?_⟩
    · obtain ⟨p1, p2, p3, p4⟩ := hP
      refine ⟨by rw [kpM_eq a (by decide) (by decide) (by omega)]; exact p1, by rw [kpM_eq a (by decide) (by decide) (by omega)]; exact p2, fun w hw => ?_, fun j hj p hp => by rw [kpM_eq a (by decide) (by decide) (by omega), kpM_eq a (by decide) (by decide) (by omega)]; exact p4 j hj p hp⟩
      obtain ⟨q1, q2, q3, q4, q5, q6, q7, q8⟩ := p3 w hw
      exact ⟨by rw [kpM_eq a (by decide) (by decide) (by omega)]; exact q1, by rw [kpM_eq a (by decide) (by decide) (by omega)]; exact q2, by rw [kpM_eq a (by decide) (by decide) (by omega)]; exact q3, by rw [kpM_eq a (by decide) (by decide) (by omega)]; exact q4, fun p hp => by rw [kpM_eq a (by decide) (by decide) (by omega)]; exact q5 p hp, fun p hp z => by rw [kpM_eq a (by decide) (by decide) (by omega)]; exact q6 p hp z, fun p hp => by rw [kpM_eq a (by decide) (by decide) (by omega)]; exact q7 p hp, fun k hk => by rw [kpM_eq a (by decide) (by decide) (by omega)]; exact q8 k hk⟩
    · have e1 : kpM a e q 16 (e + 1) 0 p = a 1 0 p 0 := by
        unfold kpM xUp
        rw [if_neg (by omega), if_neg (by omega), cpS_eq (by omega) (by omega)]
        unfold lnM
        rw [if_pos ⟨rfl, rfl, rfl, hp⟩]
      rw [e1]; exact (hU p hp).1
  refine ⟨⟨RelS_log ⟨hI, hP, hL⟩ (same 0 (by omega)) hlog, CU_of hU (fun _ _ => rfl) (fun p hp k hk i => kpM_ne a (by omega) (by omega) (by omega))⟩, ⟨?_, ?_, (e + 1) % 6, by omega, ?_, fun i hi => ?_, fun i j hij hj p hp => ?_, fun i hi p hp => ?_⟩, fun k s w j hk => kpM_ne a (by omega) (by omega) (by omega)⟩
  · unfold pq; split <;> omega
  · unfold kpM; rw [xUp_s]
  · unfold kpM
    show xUp _ 5 0 0 3 _ 5 0 0 4 = _
    unfold xUp
    rw [if_neg (by omega), if_pos ⟨rfl, rfl, rfl, rfl⟩]
  · unfold pq at hi ⊢
    unfold pR
    by_cases h6 : q = 6
    · subst h6
      rw [if_pos rfl] at hi ⊢
      rw [if_pos rfl]
      by_cases h5 : i < 5
      · rw [if_pos h5]
        have es : sl ((e + 1) % 6) 6 i = sl e 6 (i + 1) := by unfold sl; omega
        rw [es]
        exact old _ _ (by unfold sl; omega) (by unfold sl; omega) (hK (i + 1) (by omega))
      · rw [if_neg h5]
        have es : sl ((e + 1) % 6) 6 i = e + 1 := by unfold sl; omega
        rw [es]
        exact new
    · rw [if_neg h6] at hi ⊢
      rw [if_neg h6]
      by_cases h5 : i < q
      · rw [if_pos h5]
        have es : sl ((e + 1) % 6) (q + 1) i = sl e q i := by unfold sl; omega
        rw [es]
        exact old _ _ (by unfold sl; omega) (by unfold sl; omega) (hK i h5)
      · rw [if_neg h5]
        have es : sl ((e + 1) % 6) (q + 1) i = e + 1 := by unfold sl; omega
        rw [es]
        exact new
  · unfold pq at hj
    unfold pR
    by_cases h6 : q = 6
    · subst h6
      rw [if_pos rfl] at hj
      rw [if_pos rfl, if_pos rfl, if_pos (by omega)]
      by_cases h5 : j < 5
      · rw [if_pos h5]; exact hm1 _ _ (by omega) (by omega) p hp
      · rw [if_neg h5]; exact hm2 _ (by omega) p hp
    · rw [if_neg h6] at hj
      rw [if_neg h6, if_neg h6, if_pos (by omega)]
      by_cases h5 : j < q
      · rw [if_pos h5]; exact hm1 _ _ hij h5 p hp
      · rw [if_neg h5]; exact hm2 _ (by omega) p hp
  · unfold pq at hi
    unfold pR
    by_cases h6 : q = 6
    · subst h6
      rw [if_pos rfl]
      by_cases h5 : i < 5
      · rw [if_pos h5]; exact hm2 _ (by omega) p hp
      · rw [if_neg h5]; exact Nat.le_refl _
    · rw [if_neg h6]
      by_cases h5 : i < q
      · rw [if_pos h5]; exact hm2 _ h5 p hp
      · rw [if_neg h5]; exact Nat.le_refl _
/-- KC while the present state changes -/
theorem KC_Fr {a a' : xA} {q : Nat} {R : Nat → Row} {r r' : Row} (hK : KC a q R r T) (hI : RI r T) (h : Fr a a' r r') : KC a' q R r' T := by
  obtain ⟨k1, k2, e, e6, k3, k4, k5, k6⟩ := hK
  refine ⟨k1, by rw [h.1 5 0 0 3 (by simp)]; exact k2, e, e6, by rw [h.1 5 0 0 4 (by simp)]; exact k3, fun i hi => ?_, k5, fun i hi p hp => Nat.le_trans (k6 i hi p hp) (h.2 p hp).1⟩
  have hs : sl e q i ≠ 0 := by unfold sl; omega
  obtain ⟨z1, z2⟩ := k4 i hi
  refine ⟨RelS_keep z1 (fun k w j hk => h.1 k _ w j (Or.inl hs)) (fun p hp => ⟨hI.le hp, k6 i hi p hp, (h.2 p hp).2⟩), fun p hp => ?_⟩
  rw [h.1 16 _ 0 p (Or.inl hs)]
  exact z2 p hp
theorem KC.mono {q : Nat} {R : Nat → Row} {T' : Nat} (h : KC a q R r T) (hT : T ≤ T') : KC a q R r T' := by
  obtain ⟨k1, k2, e, e6, k3, k4, k5, k6⟩ := h
  exact ⟨k1, k2, e, e6, k3, fun i hi => ⟨(k4 i hi).1.mono hT, (k4 i hi).2⟩, k5, k6⟩
theorem CR.mono {T' : Nat} (h : CR a r T) (hT : T ≤ T') : CR a r T' := ⟨h.1.mono hT, h.2⟩
end
