/-! going back -/
section
variable {a b : xA} {h0 : Int64} {r r' : Row} {T q : Nat} {R : Nat → Row}
/-- rows that agree as far as a row goes -/
abbrev Eq945 (r r' : Row) : Prop := ∀ j, j < 945 → r' j = r j
theorem wf_r (h : Eq945 r r') {w f : Nat} (hw : w < 4) (hf : f < 16) : wf r' w f = wf r w f := h _ (by omega)
theorem lk_r (h : Eq945 r r') {w : Nat} (p : Nat) (hw : w < 4) : lk r' w p = lk r w p := lk_of (wf_r h hw (by decide)) (wf_r h hw (by decide)) (wf_r h hw (by decide))
theorem sz_r (h : Eq945 r r') {p : Nat} (hp : p < 3) : szN r' p = szN r p := szN_of (h _ (by omega))
theorem RI_r (h : Eq945 r r') (hI : RI r T) : RI r' T := by
  obtain ⟨hA, hB, hC, hD⟩ := hI
  refine ⟨fun p hp => ?_, fun w hw => (hB w hw).frame (fun f hf => wf_r h hw hf) (fun p hp => by rw [sz_r h hp]; exact Nat.le_refl _) (Nat.le_refl _), fun j hj p hp => by rw [h _ (by omega)]; exact hC j hj p hp, by rw [h 0 (by decide)]; exact hD⟩
  rw [sz_r h hp, h _ (by omega)]
  refine ⟨(hA p hp).1, ?_⟩
  have := cN_mono (P := fun w => lk r w p) (P' := fun w => lk r' w p) 4 0 (fun i _ hi hl => by rw [lk_r h p (by omega)] at hl; exact hl)
  have := (hA p hp).2
  unfold ctN at this ⊢
  omega
theorem RelS_r {s : Nat} (h : Eq945 r r') (hR : RelS a s r T) : RelS a s r' T := by
  obtain ⟨hI, hP, hL⟩ := hR
  refine ⟨RI_r h hI, ⟨by rw [h 0 (by decide)]; exact hP.1, by rw [h 1 (by decide)]; exact hP.2.1, fun w hw => PP_of (hP.2.2.1 w hw) (fun f hf => wf_r h hw hf) (fun _ _ _ => rfl), fun j hj p hp => by rw [h _ (by omega), h _ (by omega)]; exact hP.2.2.2 j hj p hp⟩, fun p hp => ?_⟩
  have hz := hI.le hp
  obtain ⟨g1, g2, g3, g4, g5, g6, g7⟩ := hL p hp
  have hce : ∀ k f, k < szN r p → f < 6 → ce r' p k f = ce r p k f := fun k f hk hf => h _ (by omega)
  unfold PL
  rw [sz_r h hp]
  refine ⟨fun k hk => ?_, g2, g3, g4, g5, fun k hk z1 f hf z2 z3 => ?_, fun w hw hl => ?_⟩
  · rw [hce k 0 hk (by decide), hce k 1 hk (by decide), hce k 2 hk (by decide), hce k 3 hk (by decide), hce k 4 hk (by decide), hce k 5 hk (by decide)]
    exact g1 k hk
  · obtain ⟨w, w1, w2, w3, w4⟩ := g6 k hk z1 f hf z2 z3
    exact ⟨w, w1, w2, by rw [lk_r h p w1]; exact w3, w4⟩
  · rw [lk_r h p hw] at hl
    exact g7 w hw hl
theorem CR_r (h : Eq945 r r') (hR : CR a r T) : CR a r' T := by
  refine ⟨RelS_r h hR.1, fun p hp => ?_⟩
  rw [h _ (by omega), sz_r h hp]
  exact hR.2 p hp
theorem KC_r (h : Eq945 r r') (hK : KC a q R r T) : KC a q R r' T := by
  obtain ⟨k1, k2, e, e6, k3, k4, k5, k6⟩ := hK
  exact ⟨k1, k2, e, e6, k3, k4, k5, fun i hi p hp => by rw [sz_r h hp]; exact k6 i hi p hp⟩
/-- cut's memory: n places looked at -/
def cuM (a : xA) (p N n : Nat) : xA := fun k s w i => if k = 1 ∧ s = 0 ∧ w = p ∧ i = 0 then nI N else if k = 15 ∧ s = 0 ∧ w = p ∧ i < n ∧ ¬ a 15 0 p i < nI N then -1 else a k s w i
theorem cuM_ne (a : xA) {p N n k s w i : Nat} (h : s ≠ 0 ∨ w ≠ p ∨ (k ≠ 1 ∧ k ≠ 15)) : cuM a p N n k s w i = a k s w i := by
  unfold cuM
  rw [if_neg (by omega), if_neg (by omega)]
theorem cuM_s (a : xA) (p N n : Nat) : cuM a p N (n + 1) = if a 15 0 p n < nI N then cuM a p N n else xUp (cuM a p N n) 15 0 p n (-1) := by
  funext k s w i
  by_cases hz : a 15 0 p n < nI N
  · rw [if_pos hz]
    unfold cuM
    by_cases e : i = n
    · subst e
      rw [if_neg (c := k = 15 ∧ s = 0 ∧ w = p ∧ i < i + 1 ∧ ¬ a 15 0 p i < nI N) (fun z => z.2.2.2.2 hz), if_neg (c := k = 15 ∧ s = 0 ∧ w = p ∧ i < i ∧ ¬ a 15 0 p i < nI N) (fun z => z.2.2.2.2 hz)]
    · have : i < n + 1 ↔ i < n := by omega
      simp only [this]
  · rw [if_neg hz]
    unfold xUp
    by_cases h : k = 15 ∧ s = 0 ∧ w = p ∧ i = n
    · obtain ⟨rfl, rfl, rfl, rfl⟩ := h
      rw [if_pos ⟨rfl, rfl, rfl, rfl⟩]
      unfold cuM
      rw [if_neg (by omega), if_pos ⟨rfl, rfl, rfl, by omega, hz⟩]
    · rw [if_neg h]
      unfold cuM
      have : (k = 15 ∧ s = 0 ∧ w = p ∧ i < n + 1 ∧ ¬ a 15 0 p i < nI N) ↔ (k = 15 ∧ s = 0 ∧ w = p ∧ i < n ∧ ¬ a 15 0 p i < nI N) := by
        constructor
        · rintro ⟨h1, h2, h3, h4, h5⟩
          have : ¬ i = n := fun z => h ⟨h1, h2, h3, z⟩
          exact ⟨h1, h2, h3, by omega, h5⟩
        · rintro ⟨h1, h2, h3, h4, h5⟩
          exact ⟨h1, h2, h3, by omega, h5⟩
      simp only [this]
theorem cC_cut {Q : xM → Prop} {x : Int32} {p N : Nat} (e : x = nI N) (hp : p < 3) (hN : N ≤ 48) (hq : Q (cuM a p N N, (b, h0))) : CV mX1_cut [vR 1 0 p, vI x] (a, (b, h0)) Q := by
  subst e
  have key : ∀ m n, n + m = N → xOk mX1_cut 7 [(0, vR 1 0 p), (2, vI (nI n))] [] (cuM a p N n, (b, h0)) (qV Q) := by
    intro m
    induction m with
    | zero =>
      intro n hn
      have hn : n = N := hn
      subst hn
      refine rX1_cut_7 hp ?_
      have e1 : cuM a p n n 1 0 p 0 = nI n := by unfold cuM; rw [if_pos ⟨rfl, rfl, rfl, rfl⟩]
      rw [e1]
      exact ⟨fun _ => hq, fun z => absurd (Int32.le_refl _) z⟩
    | succ m ih =>
      intro n hn
      have ih := ih (n + 1) (by omega)
      have e1 : cuM a p N n 1 0 p 0 = nI N := by unfold cuM; rw [if_pos ⟨rfl, rfl, rfl, rfl⟩]
      have e15 : cuM a p N n 15 0 p n = a 15 0 p n := by unfold cuM; rw [if_neg (by omega), if_neg (by omega)]
      refine rX1_cut_7 hp ?_
      rw [e1, nI_clamp (by omega), e15, nI_1]
      rw [cuM_s] at ih
      refine ⟨fun z => absurd z (nle (by omega) (by omega)), fun _ => ⟨vp_in_nI (by omega) (by decide), fun z => ?_, fun z => ⟨vp_in_nI (by omega) (by decide), ?_⟩⟩⟩
      · rw [if_pos z] at ih; exact ih
      · rw [if_neg z] at ih; exact ih
  refine eX1_cut hp ?_
  have e0 : xUp a 1 0 p 0 (nI N) = cuM a p N 0 := by
    funext k s w i
    unfold xUp cuM
    rw [if_neg (c := k = 15 ∧ s = 0 ∧ w = p ∧ i < 0 ∧ ¬ a 15 0 p i < nI N) (by omega)]
  rw [e0]
  exact key N 0 (by omega)
def bkM (a : xA) (e q : Nat) (N : Nat → Nat) : xA := cuM (cuM (cuM (cpS (xUp (xUp a 5 0 0 3 (nI (q - 1))) 5 0 0 4 (nI ((e + 5) % 6))) 0 ((e + 5) % 6 + 1)) 0 (N 0) (N 0)) 1 (N 1) (N 1)) 2 (N 2) (N 2)
theorem bkM_ne (a : xA) {e q k s w i : Nat} (N : Nat → Nat) (h1 : k = 5 → ¬ (s = 0 ∧ w = 0 ∧ (i = 3 ∨ i = 4))) (h2 : s ≠ 0 ∨ (¬ (k = 4 ∨ k = 16 ∨ k = 2 ∨ k = 17 ∨ k = 18 ∨ k = 19 ∨ k = 20 ∨ k = 21) ∧ ¬ (k = 1) ∧ ¬ (k = 15))) : bkM a e q N k s w i = a k s w i := by
  unfold bkM
  rw [cuM_ne _ (by omega), cuM_ne _ (by omega), cuM_ne _ (by omega), cpS_ne (by omega)]
  unfold xUp
  rw [if_neg (fun z => h1 z.1 ⟨z.2.1, z.2.2.1, Or.inr z.2.2.2⟩), if_neg (fun z => h1 z.1 ⟨z.2.1, z.2.2.1, Or.inl z.2.2.2⟩)]
theorem bkM_eq (a : xA) {e q k w i : Nat} (N : Nat → Nat) (hk : ¬ k = 5 ∧ ¬ k = 1 ∧ ¬ k = 15) (h : (w < 4 ∧ ((k = 2 ∧ i < 4) ∨ (k = 17 ∧ i < 3) ∨ (k = 18 ∧ i < 3) ∨ (k = 19 ∧ i < 6))) ∨ (w < 2 ∧ ((k = 20 ∧ i < 3) ∨ (k = 21 ∧ i < 3))) ∨ (w = 0 ∧ ((k = 4 ∧ i < 2) ∨ (k = 16 ∧ i < 3)))) : bkM a e q N k 0 w i = a k ((e + 5) % 6 + 1) w i := by
  unfold bkM
  rw [cuM_ne _ (by omega), cuM_ne _ (by omega), cuM_ne _ (by omega), cpS_eq (by omega) h]
  unfold xUp
  rw [if_neg (fun z => hk.1 z.1), if_neg (fun z => hk.1 z.1)]
theorem bkM_5 (a : xA) (e q : Nat) (N : Nat → Nat) : bkM a e q N 5 0 0 3 = nI (q - 1) ∧ bkM a e q N 5 0 0 4 = nI ((e + 5) % 6) := by
  unfold bkM
  constructor
  · rw [cuM_ne _ (by omega), cuM_ne _ (by omega), cuM_ne _ (by omega), cpS_ne (by omega)]
    unfold xUp
    simp
  · rw [cuM_ne _ (by omega), cuM_ne _ (by omega), cuM_ne _ (by omega), cpS_ne (by omega)]
    unfold xUp
    simp
theorem bkM_log (a : xA) {e q p : Nat} (N : Nat → Nat) (hp : p < 3) : bkM a e q N 1 0 p 0 = nI (N p) ∧ ∀ i, bkM a e q N 15 0 p i = if i < N p ∧ ¬ a 15 0 p i < nI (N p) then -1 else a 15 0 p i := by
  have base : ∀ i, cpS (xUp (xUp a 5 0 0 3 (nI (q - 1))) 5 0 0 4 (nI ((e + 5) % 6))) 0 ((e + 5) % 6 + 1) 15 0 p i = a 15 0 p i := fun i => by
    rw [cpS_ne (by omega)]
    unfold xUp
    rw [if_neg (by omega), if_neg (by omega)]
  have at15 : ∀ (c : xA) p' N i, cuM c p' N N 15 0 p' i = if i < N ∧ ¬ c 15 0 p' i < nI N then -1 else c 15 0 p' i := by
    intro c p' N i
    unfold cuM
    rw [if_neg (by omega)]
    simp only [true_and]
  have at1 : ∀ (c : xA) p' N, cuM c p' N N 1 0 p' 0 = nI N := fun c p' N => by unfold cuM; rw [if_pos ⟨rfl, rfl, rfl, rfl⟩]
  have hp' : p = 0 ∨ p = 1 ∨ p = 2 := by omega
  unfold bkM
  rcases hp' with rfl | rfl | rfl
  · refine ⟨by rw [cuM_ne _ (by omega), cuM_ne _ (by omega), at1], fun i => ?_⟩
    rw [cuM_ne _ (by omega), cuM_ne _ (by omega), at15, base]
  · refine ⟨by rw [cuM_ne _ (by omega), at1], fun i => ?_⟩
    rw [cuM_ne _ (by omega), at15, cuM_ne _ (by omega), base]
  · refine ⟨at1 _ _ _, fun i => ?_⟩
    rw [at15, cuM_ne _ (by omega), cuM_ne _ (by omega), base]
theorem bk_KC {e : Nat} (hq6 : q ≤ 6) (hq0 : 0 < q) (he6 : e < 6) (hK : ∀ i, i < q → RelS a (sl e q i) (R i) T ∧ ∀ p, p < 3 → a 16 (sl e q i) 0 p = R i (66 + p)) (hm1 : ∀ i j, i < j → j < q → ∀ p, p < 3 → szN (R i) p ≤ szN (R j) p) : CR (bkM a e q (fun p => szN (R (q - 1)) p)) (R (q - 1)) T ∧ KC (bkM a e q (fun p => szN (R (q - 1)) p)) (q - 1) R (R (q - 1)) T ∧ Kf a (bkM a e q (fun p => szN (R (q - 1)) p)) := by
  have es : sl e q (q - 1) = (e + 5) % 6 + 1 := by unfold sl; omega
  obtain ⟨⟨hI, hP, hL⟩, h16⟩ := hK (q - 1) (by omega)
  rw [es] at hP hL h16
  generalize hN : (fun p => szN (R (q - 1)) p) = N
  have eN : ∀ p, N p = szN (R (q - 1)) p := fun p => by rw [← hN]
  have hLE : ∀ p, p < 3 → LE a (bkM a e q N) p (N p) := by
    intro p hp k hk
    have hz := hI.le hp
    have lo : ∀ k', 10 ≤ k' → k' ≤ 14 → bkM a e q N k' 0 p k = a k' 0 p k := fun k' h1 h2 => bkM_ne a N (by omega) (by omega)
    refine ⟨lo 10 (by decide) (by decide), lo 11 (by decide) (by decide), lo 12 (by decide) (by decide), lo 13 (by decide) (by decide), lo 14 (by decide) (by decide), ?_⟩
    rw [(bkM_log a N hp).2 k]
    by_cases hc : a 15 0 p k < nI (N p)
    · rw [if_neg (fun z => z.2 hc)]; exact Or.inl rfl
    · rw [if_pos ⟨hk, hc⟩]
      rw [eN] at hk hc ⊢
      rcases (hL p hp).2.2.2.1 k hk with z | ⟨m, m1, m2⟩
      · exact Or.inl z.symm
      · refine Or.inr ⟨Or.inr ⟨m, ?_, m1, m2⟩, Or.inl rfl⟩
        rw [m2] at hc
        rcases Nat.lt_or_ge m (szN (R (q - 1)) p) with y | y
        · exact absurd (nI_lt y (by omega)) hc
        · exact y
  refine ⟨⟨⟨hI, ?_, fun p hp => ?_⟩, fun p hp => ?_⟩, ⟨by omega, (bkM_5 a e q N).1, (e + 5) % 6, by omega, (bkM_5 a e q N).2, fun i hi => ?_, fun i j hij hj => hm1 i j hij (by omega), fun i hi p hp => hm1 i (q - 1) (by omega) (by omega) p hp⟩, fun k s w j hk => bkM_ne a N (by omega) (by omega)⟩
  · obtain ⟨p1, p2, p3, p4⟩ := hP
    refine ⟨by rw [bkM_eq a N (by omega) (by omega)]; exact p1, by rw [bkM_eq a N (by omega) (by omega)]; exact p2, fun w hw => ?_, fun j hj p hp => by rw [bkM_eq a N (by omega) (by omega), bkM_eq a N (by omega) (by omega)]; exact p4 j hj p hp⟩
    obtain ⟨q1, q2, q3, q4, q5, q6, q7, q8⟩ := p3 w hw
    exact ⟨by rw [bkM_eq a N (by omega) (by omega)]; exact q1, by rw [bkM_eq a N (by omega) (by omega)]; exact q2, by rw [bkM_eq a N (by omega) (by omega)]; exact q3, by rw [bkM_eq a N (by omega) (by omega)]; exact q4, fun p hp => by rw [bkM_eq a N (by omega) (by omega)]; exact q5 p hp, fun p hp z => by rw [bkM_eq a N (by omega) (by omega)]; exact q6 p hp z, fun p hp => by rw [bkM_eq a N (by omega) (by omega)]; exact q7 p hp, fun k hk => by rw [bkM_eq a N (by omega) (by omega)]; exact q8 k hk⟩
  · have h1 : PL (cpS a 0 ((e + 5) % 6 + 1)) 0 (R (q - 1)) p := PL_sl (hL p hp) (fun k h1 h2 i => cpS_ne (by omega)) (fun w hw => cpS_eq (by omega) (by omega))
    have hz := hI.le hp
    refine LE_PL (N := N p) (by rw [eN]; exact hz) (a := cpS a 0 ((e + 5) % 6 + 1)) (fun k hk => ?_) (by rw [eN]; exact Nat.le_refl _) (fun w hw => ?_) h1
    · rw [cpS_ne (by omega), cpS_ne (by omega), cpS_ne (by omega), cpS_ne (by omega), cpS_ne (by omega), cpS_ne (by omega)]
      exact hLE p hp k hk
    · rw [bkM_eq a N (by omega) (by omega), cpS_eq (by omega) (by omega)]
  · obtain ⟨z1, z2⟩ := bkM_log a (e := e) (q := q) N hp
    have hz := hI.le hp
    refine ⟨by rw [z1, eN]; exact (hI.1 p hp).1.symm, fun k hk m hm y => ?_⟩
    rw [z2 k, eN] at y
    by_cases hc : a 15 0 p k < nI (szN (R (q - 1)) p)
    · rw [if_neg (fun z => z.2 hc)] at y
      rw [y] at hc
      exact (nI_ltI (by omega) (by omega)).mp hc
    · rw [if_pos ⟨hk, hc⟩] at y
      exact absurd y.symm (nIm1 (by omega))
  · have e2 : sl ((e + 5) % 6) (q - 1) i = sl e q i := by unfold sl; omega
    rw [e2]
    have hs : sl e q i ≠ 0 := by unfold sl; omega
    obtain ⟨z1, z2⟩ := hK i (by omega)
    refine ⟨RelS_keep (N := N) z1 (fun k w j hk => bkM_ne a N (by omega) (Or.inl hs)) (fun p hp => ⟨by rw [eN]; exact hI.le hp, by rw [eN]; exact hm1 i (q - 1) (by omega) (by omega) p hp, hLE p hp⟩), fun p hp => ?_⟩
    rw [bkM_ne a N (by omega) (Or.inl hs)]
    exact z2 p hp
theorem cC_back {Q : Int32 → xM → Prop} (hK : KC a q R r T) (h1 : q = 0 → Q (-3) (erM a 2, (b, h0))) (h2 : 0 < q → ∀ a', CR a' (R (q - 1)) T → KC a' (q - 1) R (R (q - 1)) T → Kf a a' → Q (nI (q - 1)) (a', (b, h0))) : CI mX5_back [vR 5 0 0] (a, (b, h0)) Q := by
  obtain ⟨k1, k2, e, e6, k3, k4, k5, k6⟩ := hK
  refine eX5_back ⟨fun z => ?_, fun z => ?_⟩
  · have hq0 : 0 < q := by
      rcases Nat.eq_zero_or_pos q with y | y
      · exact absurd (by rw [k2, y]; rfl) z
      · exact y
    obtain ⟨b1, b2, b3⟩ := bk_KC k1 hq0 e6 k4 k5
    have h2 := h2 hq0 _ b1 b2 b3
    have e4 : ∀ v, xUp a 5 0 0 3 v 5 0 0 4 = nI e := fun v => by unfold xUp; rw [if_neg (by omega)]; exact k3
    have e5 : nI e + 6 - 1 - (nI e + 6 - 1) / 6 * 6 = nI ((e + 5) % 6) := by
      rw [lit 6, lit 1, nI_add, pk_sub (by omega), pk_rem (by omega) (by decide) (by decide)]
      congr 1
    rw [e4, k2, e5, lit 1, pk_sub (by omega), xUp_s, nI_clamp (by omega)]
    refine ⟨vp_in_nI (by omega) (by decide), cC_scopy (by decide) (by omega) (by omega) ?_⟩
    generalize hc : cpS (xUp (xUp a 5 0 0 3 (nI (q - 1))) 5 0 0 4 (nI ((e + 5) % 6))) 0 ((e + 5) % 6 + 1) = c
    have h16 : ∀ p, p < 3 → c 16 0 0 p = nI (szN (R (q - 1)) p) := by
      intro p hp
      rw [← hc, cpS_eq (by omega) (by omega)]
      unfold xUp
      rw [if_neg (by omega), if_neg (by omega)]
      obtain ⟨z1, z2⟩ := k4 (q - 1) (by omega)
      rw [show (e + 5) % 6 + 1 = sl e q (q - 1) by unfold sl; omega, z2 p hp]
      exact (z1.1.1 p hp).1
    have hI := (k4 (q - 1) (by omega)).1.1
    unfold bkM at h2
    rw [hc] at h2
    refine rX5_back_58 ⟨fun z => absurd z (by decide), fun _ => ⟨vp_in_nI (n := 0) (by decide) (by decide), vp_in_nI (n := 0) (by decide) (by decide), ?_⟩⟩
    refine cC_cut (N := szN (R (q - 1)) 0) (h16 0 (by decide)) (by decide) (hI.le (by decide)) ?_
    refine rX5_back_58 ⟨fun z => absurd z (by decide), fun _ => ⟨vp_in_nI (n := 1) (by decide) (by decide), vp_in_nI (n := 1) (by decide) (by decide), ?_⟩⟩
    refine cC_cut (N := szN (R (q - 1)) 1) ((cuM_ne _ (by omega)).trans (h16 1 (by decide))) (by decide) (hI.le (by decide)) ?_
    refine rX5_back_58 ⟨fun z => absurd z (by decide), fun _ => ⟨vp_in_nI (n := 2) (by decide) (by decide), vp_in_nI (n := 2) (by decide) (by decide), ?_⟩⟩
    refine cC_cut (N := szN (R (q - 1)) 2) ((cuM_ne _ (by omega)).trans ((cuM_ne _ (by omega)).trans (h16 2 (by decide)))) (by decide) (hI.le (by decide)) ?_
    refine rX5_back_58 ⟨fun _ => qe h2 ?_, fun z => absurd (by decide) z⟩
    have := (bkM_5 a e q (fun p => szN (R (q - 1)) p)).1
    unfold bkM at this
    rw [hc] at this
    exact this.symm
  · have hq0 : q = 0 := nqI (by omega) (by decide) (k2.symm.trans z)
    exact cC_failed (i := 2) (by simp) (h1 hq0)
end
