def xPa (b : xA) (f : Row) : xA := fun k s w j => if k = 31 ∧ s = 0 ∧ w = 0 then f j else b k s w j
theorem xPa_self (b : xA) : xPa b (b 31 0 0) = b := by
  funext k s w j
  unfold xPa
  split
  · rename_i h; obtain ⟨rfl, rfl, rfl⟩ := h; rfl
  · rfl
theorem xPa_up (b : xA) (f r : Row) (i : Nat) (v : Int32) : xUp (xNow (xPa b f) r) 31 0 0 i v = xNow (xPa b (upd f i v)) r := by
  rw [xNow_upO _ _ (by decide)]
  congr 1
  funext k s w j
  unfold xUp xPa upd
  by_cases h : k = 31 ∧ s = 0 ∧ w = 0
  · obtain ⟨rfl, rfl, rfl⟩ := h
    simp
  · rw [if_neg h, if_neg h, if_neg]
    rintro ⟨h1, h2, h3, -⟩
    exact h ⟨h1, h2, h3⟩
theorem xPa_upO (b : xA) (f : Row) {k : Nat} (hk : k ≠ 31) (s w i : Nat) (v : Int32) : xUp (xPa b f) k s w i v = xPa (xUp b k s w i v) f := by
  funext k' s' w' j
  unfold xUp xPa
  by_cases h : k' = 31 ∧ s' = 0 ∧ w' = 0
  · obtain ⟨rfl, rfl, rfl⟩ := h
    simp [Ne.symm hk]
  · rw [if_neg h, if_neg h]
theorem xPa_pa (b : xA) (f g : Row) : xPa (xPa b f) g = xPa b g := by
  funext k s w j
  unfold xPa
  split <;> rfl
theorem xUp_up (b : xA) (k s w j : Nat) (u v : Int32) : xUp (xUp b k s w j u) k s w j v = xUp b k s w j v := by
  funext k' s' w' j'
  unfold xUp
  split <;> rfl
theorem xUp_s (b : xA) (k s w j : Nat) (v : Int32) : xUp b k s w j v k s w j = v := by simp [xUp]
/-- the first k of g's laid from off on -/
def cpN (f : Row) (off k : Nat) (g : Row) : Row := fun j => if off ≤ j ∧ j < off + k then g (j - off) else f j
theorem cpN_0 (f : Row) (off : Nat) (g : Row) : cpN f off 0 g = f := by
  funext j
  unfold cpN
  rw [if_neg (by omega)]
theorem cpN_s (f : Row) (off k : Nat) (g : Row) : upd (cpN f off k g) (off + k) (g k) = cpN f off (k + 1) g := by
  funext j
  unfold upd cpN
  by_cases h : j = off + k
  · subst h
    rw [if_pos rfl, if_pos (by omega), Nat.add_sub_cancel_left]
  · rw [if_neg h]
    by_cases h2 : off ≤ j ∧ j < off + k
    · rw [if_pos h2, if_pos (by omega)]
    · rw [if_neg h2, if_neg (by omega)]
def pShift (f : Row) (k : Nat) : Row := fun j => if j < k then f (j + 945) else f j
theorem pShift_s (f : Row) (k : Nat) : upd (pShift f k) k (pShift f k (k + 945)) = pShift f (k + 1) := by
  funext j
  unfold upd pShift
  rw [if_neg (show ¬ k + 945 < k by omega)]
  by_cases h : j = k
  · subst h
    rw [if_pos rfl, if_pos (by omega)]
  · rw [if_neg h]
    by_cases h2 : j < k
    · rw [if_pos h2, if_pos (by omega)]
    · rw [if_neg h2, if_neg (by omega)]
section
variable {a b : xA} {h0 : Int64}
theorem cR_copiesA {Q : xM → Prop} {f r : Row} {x2 x4 : Int32} {off : Nat} (e2 : x2 = 0) (e4 : x4 = nI off) (ho : off + 945 ≤ 6615) (hq : Q (a, (xNow (xPa b (cpN f off 945 r)) r, h0))) : CV mX6_copies [vR 6 0 0, vR 30 0 0, vI x2, vR 31 0 0, vI x4] (a, (xNow (xPa b f) r, h0)) Q := by
  subst e2; subst e4
  have key : ∀ m k, k + m = 945 → xOk mX6_copies 3 [(1, vR 30 0 0), (2, vI 0), (3, vR 31 0 0), (4, vI (nI off)), (5, vI (nI k))] [] (a, (xNow (xPa b (cpN f off k r)) r, h0)) (qV Q) := by
    intro m
    induction m with
    | zero =>
      intro k hk
      have hk : k = 945 := hk
      subst hk
      exact rX6_copies_a_3 ⟨fun _ => hq, fun z => absurd (by decide) z⟩
    | succ m ih =>
      intro k hk
      refine rX6_copies_a_3 ⟨fun z => absurd z (nI_ge (a := k) (b := 945) (by omega) (by decide)), fun _ => ?_⟩
      rw [show (0 : Int32) + nI k = nI k from Int32.zero_add _, nI_add, nI_1]
      refine ⟨vp_in_nI (by omega) (by decide), vp_in_nI (by omega) (by decide), ?_⟩
      rw [nI_clamp (by omega), nI_clamp (by omega), xPa_up, show xNow (xPa b (cpN f off k r)) r 30 0 0 k = r k from rfl, cpN_s]
      exact ih (k + 1) (by omega)
  refine eX6_copies_a ?_
  have h := key 945 0 rfl
  rw [cpN_0] at h
  exact h
theorem cR_copiesB {Q : xM → Prop} {f r : Row} {x2 x4 : Int32} {off : Nat} (e2 : x2 = nI off) (e4 : x4 = 0) (ho : off + 945 ≤ 6615) (hq : Q (a, (xNow (xPa b f) (cpN r 0 945 (fun j => f (off + j))), h0))) : CV mX6_copies [vR 6 0 0, vR 31 0 0, vI x2, vR 30 0 0, vI x4] (a, (xNow (xPa b f) r, h0)) Q := by
  subst e2; subst e4
  have key : ∀ m k, k + m = 945 → xOk mX6_copies 3 [(1, vR 31 0 0), (2, vI (nI off)), (3, vR 30 0 0), (4, vI 0), (5, vI (nI k))] [] (a, (xNow (xPa b f) (cpN r 0 k (fun j => f (off + j))), h0)) (qV Q) := by
    intro m
    induction m with
    | zero =>
      intro k hk
      have hk : k = 945 := hk
      subst hk
      exact rX6_copies_b_3 ⟨fun _ => hq, fun z => absurd (by decide) z⟩
    | succ m ih =>
      intro k hk
      refine rX6_copies_b_3 ⟨fun z => absurd z (nI_ge (a := k) (b := 945) (by omega) (by decide)), fun _ => ?_⟩
      rw [show (0 : Int32) + nI k = nI k from Int32.zero_add _, nI_add, nI_1]
      refine ⟨vp_in_nI (by omega) (by decide), vp_in_nI (by omega) (by decide), ?_⟩
      rw [nI_clamp (by omega), nI_clamp (by omega), xNow_up, show xNow (xPa b f) (cpN r 0 k (fun j => f (off + j))) 31 0 0 (off + k) = f (off + k) from rfl]
      have e := cpN_s r 0 k (fun j => f (off + j))
      rw [Nat.zero_add] at e
      rw [e]
      exact ih (k + 1) (by omega)
  refine eX6_copies_b ?_
  have h := key 945 0 rfl
  rw [cpN_0] at h
  exact h
theorem cR_copiesC {Q : xM → Prop} {f r : Row} {x2 x4 : Int32} {src off : Nat} (e2 : x2 = nI src) (e4 : x4 = nI off) (hs : src + 945 ≤ 6615) (ho : off + 945 ≤ src) (hq : Q (a, (xNow (xPa b (cpN f off 945 (fun j => f (src + j)))) r, h0))) : CV mX6_copies [vR 6 0 0, vR 31 0 0, vI x2, vR 31 0 0, vI x4] (a, (xNow (xPa b f) r, h0)) Q := by
  subst e2; subst e4
  have key : ∀ m k, k + m = 945 → xOk mX6_copies 3 [(1, vR 31 0 0), (2, vI (nI src)), (3, vR 31 0 0), (4, vI (nI off)), (5, vI (nI k))] [] (a, (xNow (xPa b (cpN f off k (fun j => f (src + j)))) r, h0)) (qV Q) := by
    intro m
    induction m with
    | zero =>
      intro k hk
      have hk : k = 945 := hk
      subst hk
      exact rX6_copies_c_3 ⟨fun _ => hq, fun z => absurd (by decide) z⟩
    | succ m ih =>
      intro k hk
      refine rX6_copies_c_3 ⟨fun z => absurd z (nI_ge (a := k) (b := 945) (by omega) (by decide)), fun _ => ?_⟩
      rw [nI_add, nI_add, nI_1]
      refine ⟨vp_in_nI (by omega) (by decide), vp_in_nI (by omega) (by decide), ?_⟩
      have e : xNow (xPa b (cpN f off k (fun j => f (src + j)))) r 31 0 0 (src + k) = f (src + k) := by
        show cpN f off k (fun j => f (src + j)) (src + k) = _
        unfold cpN
        rw [if_neg (by omega)]
      rw [nI_clamp (by omega), nI_clamp (by omega), xPa_up, e, cpN_s f off k (fun j => f (src + j))]
      exact ih (k + 1) (by omega)
  refine eX6_copies_c ?_
  have h := key 945 0 rfl
  rw [cpN_0] at h
  exact h
/-- a row g is kept -/
def kpB (b : xA) (q : Nat) (g : Row) : xA := if q = 6 then xUp (xPa b (cpN (pShift (b 31 0 0) 4725) 4725 945 g)) 6 0 0 2 (nI 6) else xUp (xPa b (cpN (b 31 0 0) (945 * q) 945 g)) 6 0 0 2 (nI (q + 1))
theorem cR_keepsA {Q : xM → Prop} {r : Row} {x2 : Int32} {q : Nat} (e2 : x2 = 0) (hs : b 6 0 0 2 = nI q) (hq6 : q ≤ 6) (hq : Q (mN a (kpB b q r) r h0)) : CV mX6_keeps [vR 6 0 0, vR 30 0 0, vI x2] (mN a b r h0) Q := by
  subst e2
  have hs' : xNow b r 6 0 0 2 = nI q := hs
  refine eX6_keeps_a ?_
  rw [hs']
  refine ⟨fun z => ?_, fun z => ?_⟩
  · have hne : q ≠ 6 := fun e => z (by rw [e]; rfl)
    refine rX6_keeps_a_50 ?_
    rw [hs', show (945 : Int32) * nI q = nI (945 * q) by rw [lit 945, pk_mul]]
    have hb : (a, (xNow b r, h0)) = ((a, (xNow (xPa b (b 31 0 0)) r, h0)) : xM) := by rw [xPa_self]
    rw [hb]
    refine cR_copiesA rfl rfl (by omega) ?_
    unfold kpB at hq
    rw [if_neg hne] at hq
    show Q (a, (xUp (xNow (xPa b (cpN (b 31 0 0) (945 * q) 945 r)) r) 6 0 0 2 (b 6 0 0 2 + 1), h0))
    rw [xNow_upO _ _ (by decide), hs, nI_1]
    exact hq
  · have he : q = 6 := nqI (by omega) (by decide) z
    subst he
    have key : ∀ m k, k + m = 4725 → xOk mX6_keeps 11 [(0, vR 6 0 0), (1, vR 30 0 0), (2, vI 0), (3, vI (nI k))] [] (a, (xNow (xPa b (pShift (b 31 0 0) k)) r, h0)) (qV Q) := by
      intro m
      induction m with
      | zero =>
        intro k hk
        have hk : k = 4725 := hk
        subst hk
        refine rX6_keeps_a_11 ⟨fun _ => ?_, fun z => absurd (by decide) z⟩
        rw [show xNow (xPa b (pShift (b 31 0 0) 4725)) r 6 0 0 2 = nI 6 from hs, show nI 6 - (1 : Int32) = nI 5 by decide, xNow_upO _ _ (by decide), xPa_upO _ _ (by decide)]
        refine rX6_keeps_a_50 ?_
        rw [show xNow (xPa (xUp b 6 0 0 2 (nI 5)) (pShift (b 31 0 0) 4725)) r 6 0 0 2 = nI 5 from by show xUp b 6 0 0 2 (nI 5) 6 0 0 2 = nI 5; rw [xUp_s], show (945 : Int32) * nI 5 = nI 4725 by decide]
        refine cR_copiesA rfl rfl (by decide) ?_
        unfold kpB at hq
        rw [if_pos rfl] at hq
        show Q (a, (xUp (xNow (xPa (xUp b 6 0 0 2 (nI 5)) (cpN (pShift (b 31 0 0) 4725) 4725 945 r)) r) 6 0 0 2 (xUp b 6 0 0 2 (nI 5) 6 0 0 2 + 1), h0))
        rw [xUp_s, show nI 5 + (1 : Int32) = nI 6 by decide, xNow_upO _ _ (by decide), xPa_upO _ _ (by decide), xUp_up, ← xPa_upO _ _ (by decide)]
        exact hq
      | succ m ih =>
        intro k hk
        refine rX6_keeps_a_11 ⟨fun z => absurd z (nI_ge (a := k) (b := 4725) (by omega) (by decide)), fun _ => ?_⟩
        rw [lit 945, nI_add, nI_1]
        refine ⟨vp_in_nI (by omega) (by decide), vp_in_nI (by omega) (by decide), ?_⟩
        rw [nI_clamp (by omega), nI_clamp (by omega), xPa_up, show xNow (xPa b (pShift (b 31 0 0) k)) r 31 0 0 (k + 945) = pShift (b 31 0 0) k (k + 945) from rfl, pShift_s]
        exact ih (k + 1) (by omega)
    have h := key 4725 0 rfl
    have e0 : pShift (b 31 0 0) 0 = b 31 0 0 := by
      funext j
      unfold pShift
      rw [if_neg (by omega)]
    rw [e0, xPa_self] at h
    exact h
theorem cR_keepsB {Q : xM → Prop} {r : Row} {x2 : Int32} {q : Nat} (e2 : x2 = nI 5670) (hs : b 6 0 0 2 = nI q) (hq6 : q ≤ 6) (hq : Q (mN a (kpB b q (fun j => b 31 0 0 (5670 + j))) r h0)) : CV mX6_keeps [vR 6 0 0, vR 31 0 0, vI x2] (mN a b r h0) Q := by
  subst e2
  have hs' : xNow b r 6 0 0 2 = nI q := hs
  refine eX6_keeps_b ?_
  rw [hs']
  refine ⟨fun z => ?_, fun z => ?_⟩
  · have hne : q ≠ 6 := fun e => z (by rw [e]; rfl)
    refine rX6_keeps_b_50 ?_
    rw [hs', show (945 : Int32) * nI q = nI (945 * q) by rw [lit 945, pk_mul]]
    have hb : (a, (xNow b r, h0)) = ((a, (xNow (xPa b (b 31 0 0)) r, h0)) : xM) := by rw [xPa_self]
    rw [hb]
    refine cR_copiesC rfl rfl (by decide) (by omega) ?_
    unfold kpB at hq
    rw [if_neg hne] at hq
    show Q (a, (xUp (xNow (xPa b (cpN (b 31 0 0) (945 * q) 945 (fun j => b 31 0 0 (5670 + j)))) r) 6 0 0 2 (b 6 0 0 2 + 1), h0))
    rw [xNow_upO _ _ (by decide), hs, nI_1]
    exact hq
  · have he : q = 6 := nqI (by omega) (by decide) z
    subst he
    have key : ∀ m k, k + m = 4725 → xOk mX6_keeps 11 [(0, vR 6 0 0), (1, vR 31 0 0), (2, vI (nI 5670)), (3, vI (nI k))] [] (a, (xNow (xPa b (pShift (b 31 0 0) k)) r, h0)) (qV Q) := by
      intro m
      induction m with
      | zero =>
        intro k hk
        have hk : k = 4725 := hk
        subst hk
        refine rX6_keeps_b_11 ⟨fun _ => ?_, fun z => absurd (by decide) z⟩
        rw [show xNow (xPa b (pShift (b 31 0 0) 4725)) r 6 0 0 2 = nI 6 from hs, show nI 6 - (1 : Int32) = nI 5 by decide, xNow_upO _ _ (by decide), xPa_upO _ _ (by decide)]
        refine rX6_keeps_b_50 ?_
        rw [show xNow (xPa (xUp b 6 0 0 2 (nI 5)) (pShift (b 31 0 0) 4725)) r 6 0 0 2 = nI 5 from by show xUp b 6 0 0 2 (nI 5) 6 0 0 2 = nI 5; rw [xUp_s], show (945 : Int32) * nI 5 = nI 4725 by decide]
        refine cR_copiesC rfl rfl (by decide) (by decide) ?_
        have es : (fun j => pShift (b 31 0 0) 4725 (5670 + j)) = fun j => b 31 0 0 (5670 + j) := by
          funext j
          unfold pShift
          rw [if_neg (by omega)]
        rw [es]
        unfold kpB at hq
        rw [if_pos rfl] at hq
        show Q (a, (xUp (xNow (xPa (xUp b 6 0 0 2 (nI 5)) (cpN (pShift (b 31 0 0) 4725) 4725 945 (fun j => b 31 0 0 (5670 + j)))) r) 6 0 0 2 (xUp b 6 0 0 2 (nI 5) 6 0 0 2 + 1), h0))
        rw [xUp_s, show nI 5 + (1 : Int32) = nI 6 by decide, xNow_upO _ _ (by decide), xPa_upO _ _ (by decide), xUp_up, ← xPa_upO _ _ (by decide)]
        exact hq
      | succ m ih =>
        intro k hk
        refine rX6_keeps_b_11 ⟨fun z => absurd z (nI_ge (a := k) (b := 4725) (by omega) (by decide)), fun _ => ?_⟩
        rw [lit 945, nI_add, nI_1]
        refine ⟨vp_in_nI (by omega) (by decide), vp_in_nI (by omega) (by decide), ?_⟩
        rw [nI_clamp (by omega), nI_clamp (by omega), xPa_up, show xNow (xPa b (pShift (b 31 0 0) k)) r 31 0 0 (k + 945) = pShift (b 31 0 0) k (k + 945) from rfl, pShift_s]
        exact ih (k + 1) (by omega)
    have h := key 4725 0 rfl
    have e0 : pShift (b 31 0 0) 0 = b 31 0 0 := by
      funext j
      unfold pShift
      rw [if_neg (by omega)]
    rw [e0, xPa_self] at h
    exact h
/-- notes(): the present row is kept, but within does() -/
def ntB (b : xA) (r : Row) : xA := if b 6 0 0 3 = 0 then kpB b (b 6 0 0 2).toNatClampNeg r else b
theorem cR_notes {Q : xM → Prop} {r : Row} {q : Nat} (hs : b 6 0 0 2 = nI q) (hq6 : q ≤ 6) (hq : Q (mN a (ntB b r) r h0)) : CV mX6_notes [vR 6 0 0] (mN a b r h0) Q := by
  refine eX6_notes ⟨fun z => ?_, fun z => ?_⟩
  · have z' : ¬ b 6 0 0 3 = 0 := z
    unfold ntB at hq
    rw [if_neg z'] at hq
    exact hq
  · have z' : b 6 0 0 3 = 0 := z
    unfold ntB at hq
    rw [if_pos z', hs, nI_clamp (by omega)] at hq
    exact cR_keepsA rfl hs hq6 hq
end
