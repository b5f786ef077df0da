section
variable {a b : xA} {h0 : Int64} {r : Row} {T p : Nat}
/-- what a log's reads stand on -/
def LG (a : xA) (r : Row) (T p : Nat) : Prop := RI r T ∧ p < 3 ∧ PL a 0 r p ∧ CU a r
theorem LG.sz (h : LG a r T p) : szN r p ≤ 48 := h.1.le h.2.1
theorem LG.len (h : LG a r T p) : a 1 0 p 0 = nI (szN r p) := ((h.2.2.2 p h.2.1).1).trans (h.1.1 p h.2.1).1
theorem cC_isMarker {Q : Int32 → xM → Prop} {x : Int32} {k : Nat} (h : LG a r T p) (e : x = nI k) (hk : k < szN r p) (h1 : mk r p k = true → a 12 0 p k = -1 → Q 1 (a, (b, h0))) (h2 : mk r p k = false → ¬ a 12 0 p k = -1 → Q 0 (a, (b, h0))) : CI mX1_isMarker [vR 1 0 p, vI x] (a, (b, h0)) Q := by
  subst e
  have := h.sz
  obtain ⟨c0, -⟩ := h.2.2.1.1 k hk
  refine eX1_isMarker h.2.1 ⟨vp_in_nI (by omega) (by decide), ?_⟩
  rw [nI_clamp (by omega)]
  refine ⟨fun z => h2 ?_ z, fun z => h1 ?_ z⟩
  · rw [if_neg z] at c0; simp [mk, c0]
  · rw [if_pos z] at c0; simp [mk, c0]
def fa (r : Row) (p k : Nat) : Int32 := if mk r p k = true then -1 else ce r p k 5
theorem cC_fate {Q : Int32 → xM → Prop} {x : Int32} {k : Nat} (h : LG a r T p) (e : x = nI k) (hk : k < szN r p) (hq : Q (fa r p k) (a, (b, h0))) : CI mX1_fate [vR 1 0 p, vI x] (a, (b, h0)) Q := by
  have hs := h.sz
  obtain ⟨hI, hp, hL, hU⟩ := id h
  obtain ⟨g1, g2, g3, g4, -⟩ := hL
  obtain ⟨c0, c1, c2, c3, c4, c5⟩ := g1 k hk
  unfold fa at hq
  refine eX1_fate hp (cC_isMarker h e hk (fun m m2 => ⟨fun z => absurd z (by decide), fun _ => ?_⟩) (fun m m2 => ⟨fun _ => ?_, fun z => absurd rfl z⟩))
  · rw [if_pos m] at hq; exact hq
  · rw [if_neg (by rw [m]; decide), c5, if_neg m2] at hq
    subst e
    rw [nI_clamp (by omega)]
    have hlen : a 1 0 p 0 = nI (szN r p) := h.len
    dsimp only
    by_cases z : a 14 0 p k = -1
    · unfold fate at hq
      rw [if_pos z] at hq
      refine ⟨vp_in_nI (by omega) (by decide), ?_⟩
      rw [z]
      exact cC_outside (fun _ => ⟨fun q => absurd q (by decide), fun _ => hq⟩) (fun q _ => absurd (by decide) q)
    · obtain ⟨f, f1, f2, -⟩ := g2 k hk m2 z
      unfold fate at hq
      rw [if_neg z, f2, nI_clamp (by omega)] at hq
      refine ⟨vp_in_nI (by omega) (by decide), ?_⟩
      rw [f2, hlen, nI_clamp (by omega)]
      refine cC_outside (fun q => absurd q ?_) (fun _ _ => ⟨fun _ => ⟨vp_in_nI (by omega) (by decide), ?_⟩, fun q => absurd rfl q⟩)
      · rintro (q | q)
        · exact nI_pos (by omega) q
        · exact q (nI_lt (by omega) (by omega))
      dsimp only
      rw [hlen]
      by_cases y : a 15 0 p f = -1
      · have hc : cm a p (szN r p) f = none := by unfold cm; rw [if_pos y]
        rw [hc] at hq
        rw [y]
        exact cC_outside (fun _ => ⟨fun q => absurd q (by decide), fun _ => hq⟩) (fun q _ => absurd (by decide) q)
      · rcases g4 f (by omega) with y2 | ⟨mm, m1, m3⟩
        · exact absurd y2 y
        · have hm := (hU p hp).2 f (by omega) mm m1 m3
          have hc : cm a p (szN r p) f = some mm := by
            unfold cm
            rw [if_neg y, m3, nI_clamp (by omega), if_pos hm]
          rw [hc] at hq
          rw [m3, nI_clamp (by omega)]
          refine cC_outside (fun q => absurd q ?_) (fun _ _ => ⟨fun _ => ⟨vp_in_nI (by omega) (by decide), fun v => ?_, fun v => ?_⟩, fun q => absurd rfl q⟩)
          · rintro (q | q)
            · exact nI_pos (by omega) q
            · exact q (nI_lt (by omega) (by omega))
          · simp only [if_neg v] at hq; exact hq
          · simp only [if_pos v] at hq; exact hq
theorem vis_fa (r : Row) (p k : Nat) (h : ce r p k 0 = 0 ∨ ce r p k 0 = 1) : vis r p k = (decide (fa r p k = 0) || decide (fa r p k = 2)) := by
  unfold vis fa mk
  rcases h with h | h <;> simp [h]
theorem LG.kind (h : LG a r T p) {k : Nat} (hk : k < szN r p) : ce r p k 0 = 0 ∨ ce r p k 0 = 1 := by
  obtain ⟨c0, -⟩ := h.2.2.1.1 k hk
  rw [c0]
  split
  · exact Or.inr rfl
  · exact Or.inl rfl
theorem cC_isVisible {Q : Int32 → xM → Prop} {x st : Int32} {k : Nat} (h : LG a r T p) (e : x = nI k) (hk : k < szN r p) (h1 : ¬ st ≤ x → vis r p k = true → Q 1 (a, (b, h0))) (h2 : st ≤ x ∨ vis r p k = false → Q 0 (a, (b, h0))) : CI mX1_isVisible [vR 1 0 p, vI x, vI st] (a, (b, h0)) Q := by
  have hv := vis_fa r p k (h.kind hk)
  refine eX1_isVisible h.2.1 (cC_fate h e hk ⟨fun z => h2 (Or.inl z), fun z => ⟨fun y => h1 z (by rw [hv]; simp [y]), fun y => ⟨fun x => h2 (Or.inr (by rw [hv]; simp [x, y])), fun x => h1 z (by rw [hv]; simp [x])⟩⟩⟩)
theorem cC_visibleFrom {Q : Int32 → xM → Prop} {x st : Int32} {k s : Nat} (h : LG a r T p) (e : x = nI k) (es : st = nI s) (hk : k ≤ 48) (hs : s ≤ szN r p) (hq : Q (nI (cN (vis r p) k (s - k))) (a, (b, h0))) : CI mX1_visibleFrom [vR 1 0 p, vI x, vI st] (a, (b, h0)) Q := by
  subst e; subst es
  have hz := h.sz
  have hl := h.len
  refine eX1_visibleFrom h.2.1 ?_
  by_cases hks : k ≤ szN r p
  · rw [← cN_cut hs (szN r p - k) k (by omega)] at hq
    refine loopC (Wk := fun c k => xOk mX1_visibleFrom 5 [(0, vR 1 0 p), (2, vI (nI s)), (3, vI c), (4, vI k)] [] (a, (b, h0)) (qI Q)) (fun k => decide (k < s) && vis r p k) (szN r p) (fun c => Q (nI c) (a, (b, h0))) (fun c hc => rX1_visibleFrom_5 h.2.1 ?_) (fun c k hk t f => rX1_visibleFrom_5 h.2.1 ?_) (szN r p - k) k 0 (by omega) (by rw [Nat.zero_add]; exact hq)
    · rw [hl]; exact ⟨fun _ => hc, fun z => absurd (Int32.le_refl _) z⟩
    · rw [hl]
      refine ⟨fun z => absurd z (nI_ge hk (by omega)), fun _ => ?_⟩
      refine cC_isVisible h rfl hk (fun y1 y2 => ⟨fun z => absurd z (by decide), fun _ => ?_⟩) (fun y => ⟨fun _ => ?_, fun z => absurd rfl z⟩)
      · rw [nI_1, nI_1]
        refine t ?_
        have : k < s := by
          rcases Nat.lt_or_ge k s with h | h
          · exact h
          · exact absurd (nI_le h (by omega)) y1
        simp [this, y2]
      · rw [nI_1]
        refine f ?_
        rcases y with y | y
        · have : ¬ k < s := fun h => nI_ge h (by omega) y
          simp [this]
        · simp [y]
  · refine rX1_visibleFrom_5 h.2.1 ?_
    rw [hl]
    rw [show s - k = 0 by omega] at hq
    exact ⟨fun _ => hq, fun z => absurd (nI_le (by omega) (by omega)) z⟩
theorem cC_nextVisible {Q : Int32 → xM → Prop} {x st : Int32} {k s : Nat} (h : LG a r T p) (e : x = nI k) (es : st = nI s) (hk : k ≤ 48) (hs : s ≤ szN r p) (hq : Q (fN (vis r p) k (s - k)) (a, (b, h0))) : CI mX1_nextVisible [vR 1 0 p, vI x, vI st] (a, (b, h0)) Q := by
  subst e; subst es
  have hz := h.sz
  have hl := h.len
  refine eX1_nextVisible h.2.1 ?_
  by_cases hks : k ≤ szN r p
  · rw [← fN_cut hs (szN r p - k) k (by omega)] at hq
    refine loopF (Wk := fun k => xOk mX1_nextVisible 2 [(0, vR 1 0 p), (2, vI (nI s)), (3, vI k)] [] (a, (b, h0)) (qI Q)) (fun k => decide (k < s) && vis r p k) (szN r p) (fun c => Q c (a, (b, h0))) (fun hc => rX1_nextVisible_2 h.2.1 ?_) (fun k hk t f => rX1_nextVisible_2 h.2.1 ?_) (szN r p - k) k (by omega) hq
    · rw [hl]; exact ⟨fun _ => hc, fun z => absurd (Int32.le_refl _) z⟩
    · rw [hl]
      refine ⟨fun z => absurd z (nI_ge hk (by omega)), fun _ => ?_⟩
      refine cC_isVisible h rfl hk (fun y1 y2 => ⟨fun z => absurd z (by decide), fun _ => ?_⟩) (fun y => ⟨fun _ => ?_, fun z => absurd rfl z⟩)
      · refine t ?_
        have : k < s := by
          rcases Nat.lt_or_ge k s with h | h
          · exact h
          · exact absurd (nI_le h (by omega)) y1
        simp [this, y2]
      · rw [nI_1]
        refine f ?_
        rcases y with y | y
        · have : ¬ k < s := fun h => nI_ge h (by omega) y
          simp [this]
        · simp [y]
  · refine rX1_nextVisible_2 h.2.1 ?_
    rw [hl]
    rw [show s - k = 0 by omega] at hq
    exact ⟨fun _ => hq, fun z => absurd (nI_le (by omega) (by omega)) z⟩
theorem cC_markers {Q : Int32 → xM → Prop} (h : LG a r T p) (hq : Q (nI (cN (mk r p) 0 (szN r p))) (a, (b, h0))) : CI mX1_markers [vR 1 0 p] (a, (b, h0)) Q := by
  have hz := h.sz
  have hl := h.len
  refine eX1_markers h.2.1 (loopC (Wk := fun c k => xOk mX1_markers 4 [(0, vR 1 0 p), (1, vI c), (2, vI k)] [] (a, (b, h0)) (qI Q)) (mk r p) (szN r p) (fun c => Q (nI c) (a, (b, h0))) (fun c hc => rX1_markers_4 h.2.1 ?_) (fun c k hk t f => rX1_markers_4 h.2.1 ?_) (szN r p) 0 0 (by omega) (by rw [Nat.zero_add]; exact hq))
  · rw [hl]; exact ⟨fun _ => hc, fun z => absurd (Int32.le_refl _) z⟩
  · rw [hl]
    refine ⟨fun z => absurd z (nI_ge hk (by omega)), fun _ => ?_⟩
    refine cC_isMarker h rfl hk (fun y _ => ⟨fun z => absurd z (by decide), fun _ => ?_⟩) (fun y _ => ⟨fun _ => ?_, fun z => absurd rfl z⟩)
    · rw [nI_1, nI_1]; exact t y
    · rw [nI_1]; exact f y
theorem cC_lastBefore {Q : Int32 → xM → Prop} {x1 x2 x3 : Int32} {e w : Nat} (h : LG a r T p) (e1 : x1 = nI e) (e2 : x2 = nI w) (e3 : x3 = wf r w 0) (he : e ≤ szN r p) (hq : Q (oI (la (rec r w p) e)) (a, (b, h0))) : CI mX1_lastBefore [vR 1 0 p, vI x1, vI x2, vI x3] (a, (b, h0)) Q := by
  subst e1; subst e2; subst e3
  have hz := h.sz
  have key : ∀ k, k ≤ szN r p → Q (oI (la (rec r w p) k)) (a, (b, h0)) → xOk mX1_lastBefore 5 [(0, vR 1 0 p), (2, vI (nI w)), (3, vI (wf r w 0)), (4, vI (nI k - 1))] [] (a, (b, h0)) (qI Q) := by
    intro k
    induction k with
    | zero => intro _ hq; exact rX1_lastBefore_5 h.2.1 ⟨fun _ => hq, fun z => absurd (by decide) z⟩
    | succ k ih =>
      intro hk hq
      have e : nI k + (-1 : Int32) = nI k - 1 := (Int32.sub_eq_add_neg _ _).symm
      obtain ⟨c0, c1, c2, c3, c4, c5⟩ := h.2.2.1.1 k (by omega)
      rw [nI_pred]
      refine rX1_lastBefore_5 h.2.1 ⟨fun z => absurd z (nI_pos (by omega)), fun _ => ⟨vp_in_nI (by omega) (by decide), ?_⟩⟩
      rw [nI_clamp (by omega), e]
      have no : rec r w p k = false → xOk mX1_lastBefore 5 [(0, vR 1 0 p), (2, vI (nI w)), (3, vI (wf r w 0)), (4, vI (nI k - 1))] [] (a, (b, h0)) (qI Q) := by
        intro hr
        rw [la, if_neg (by rw [hr]; decide)] at hq
        exact ih (by omega) hq
      refine ⟨fun z => no (by rw [← c1] at z; simp [rec, z]), fun z => ⟨vp_in_nI (by omega) (by decide), fun y => no (by rw [← c2] at y; simp [rec, y]), fun y => ?_⟩⟩
      rw [← c1] at z
      rw [← c2] at y
      refine cC_isMarker h rfl (by omega) (fun m _ => ⟨fun _ => no ?_, fun q => absurd q (by decide)⟩) (fun m m2 => ⟨fun q => absurd rfl q, fun _ => ?_⟩)
      · simp only [mk, decide_eq_true_eq] at m
        simp [rec, m]
      · rw [if_neg m2] at c0
        rw [la, if_pos (by simp [rec, c0, z, y])] at hq
        exact hq
  exact eX1_lastBefore h.2.1 (key e he hq)
theorem cC_numberDue {Q : Int32 → xM → Prop} {x2 x3 : Int32} {w : Nat} (h : LG a r T p) (e2 : x2 = nI w) (e3 : x3 = wf r w 0) (hq : Q (duR r w p) (a, (b, h0))) : CI mX1_numberDue [vR 1 0 p, vI x2, vI x3] (a, (b, h0)) Q := by
  have hz := h.sz
  unfold duR at hq
  rw [duN_la] at hq
  refine eX1_numberDue h.2.1 (cC_lastBefore h h.len e2 e3 (Nat.le_refl _) ?_)
  cases hc : la (rec r w p) (szN r p) with
  | none =>
    rw [hc] at hq
    exact ⟨fun z => absurd rfl z, fun _ => hq⟩
  | some k =>
    rw [hc] at hq
    obtain ⟨k1, k2⟩ := la_in hc
    obtain ⟨c0, c1, c2, c3, c4, c5⟩ := h.2.2.1.1 k k1
    refine ⟨fun _ => ⟨vp_in_nI (by omega) (by decide), ?_⟩, fun z => absurd z (nIm1 (by omega))⟩
    show Q (a 12 0 p (nI k).toNatClampNeg + 1) _
    rw [nI_clamp (by omega), ← c3]
    exact hq
theorem cC_twinOf {Q : Int32 → xM → Prop} {x2 x3 x : Int32} {w : Nat} (h : LG a r T p) (e2 : x2 = nI w) (e3 : x3 = wf r w 0) (hq : Q (twR r w p x) (a, (b, h0))) : CI mX1_twinOf [vR 1 0 p, vI x2, vI x3, vI x] (a, (b, h0)) Q := by
  subst e2; subst e3
  have hz := h.sz
  have key : ∀ m met e, met + m = 3 → e ≤ szN r p → Q (twN (rec r w p) (fun k => ce r p k 3) x met e) (a, (b, h0)) → xOk mX1_twinOf 9 [(0, vR 1 0 p), (1, vI (nI w)), (2, vI (wf r w 0)), (3, vI x), (4, vI (nI e)), (5, vI (nI met))] [] (a, (b, h0)) (qI Q) := by
    intro m
    induction m with
    | zero =>
      intro met e hm he hq
      have hm : met = 3 := hm
      subst hm
      rw [twN_3] at hq
      exact rX1_twinOf_9 h.2.1 ⟨fun _ => hq, fun z => absurd (by decide) z⟩
    | succ m ih =>
      intro met e hm he hq
      rw [twN_la _ _ _ (by omega)] at hq
      refine rX1_twinOf_9 h.2.1 ⟨fun z => absurd z (n3 (by omega)), fun _ => cC_lastBefore h rfl rfl rfl he ?_⟩
      cases hc : la (rec r w p) e with
      | none =>
        rw [hc] at hq
        exact ⟨fun _ => hq, fun z => absurd rfl z⟩
      | some k =>
        rw [hc] at hq
        obtain ⟨k1, k2⟩ := la_in hc
        obtain ⟨c0, c1, c2, c3, c4, c5⟩ := h.2.2.1.1 k (by omega)
        refine ⟨fun z => absurd z (nIm1 (by omega)), fun _ => ⟨vp_in_nI (by omega) (by decide), ?_⟩⟩
        show (¬ a 12 0 p (nI k).toNatClampNeg = x → _) ∧ (a 12 0 p (nI k).toNatClampNeg = x → _)
        rw [nI_clamp (by omega), ← c3]
        refine ⟨fun z => ?_, fun z => ?_⟩
        · simp only [if_neg z] at hq
          rw [nI_1]
          exact ih (met + 1) k (by omega) (by omega) hq
        · simp only [if_pos z] at hq
          exact hq
  refine eX1_twinOf h.2.1 ?_
  rw [h.len]
  exact key 3 0 (szN r p) rfl (Nat.le_refl _) hq
end
