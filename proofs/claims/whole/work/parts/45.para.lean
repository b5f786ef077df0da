/-! THE TEXT: an order's state letter by letter: orders read, whether within one, numbers wanted, given, figures of the last, letters, numbers -/
abbrev PSt : Type := Nat × Bool × Nat × Nat × Nat × Row × Row
def nOf (c : Int32) : Nat := if c = 98 then 1 else if c = 99 then 4 else if c = 101 then 3 else if c = 111 then 2 else if c = 114 then 2 else if c = 115 then 5 else if c = 116 then 1 else 0
def stp (c : Int32) : PSt → Option PSt
  | (o, inO, wa, gi, di, Lt, Nm) => if c = 32 then some (o, inO, wa, gi, 0, Lt, Nm) else
    if inO = false then (if nOf c = 0 ∨ 40 ≤ o then none else some (o, true, nOf c, 0, 0, upd Lt o c, Nm)) else
    if c = 59 then (if gi < wa then none else some (o + 1, false, wa, gi, di, Lt, Nm)) else
    if c < 48 ∨ 57 < c then none else
    if di = 2 ∨ (di = 0 ∧ gi = wa) then none else
    if di = 0 then some (o, true, wa, gi + 1, 1, Lt, upd Nm (o * 5 + gi) (c - 48))
    else some (o, true, wa, gi, di + 1, Lt, upd Nm (o * 5 + gi - 1) (10 * Nm (o * 5 + gi - 1) + (c - 48)))
def rn (t : Row) : Nat → Nat → PSt → Int32 × PSt
  | i, 0, S => (if S.2.1 = true ∨ S.1 = 0 then nI i else -1, S)
  | i, m + 1, S => match stp (t i) S with
    | none => (nI i, S)
    | some S' => rn t (i + 1) m S'
theorem nOf_le (c : Int32) : nOf c ≤ 5 := by
  unfold nOf
  split <;> (try decide)
  split <;> (try decide)
  split <;> (try decide)
  split <;> (try decide)
  split <;> (try decide)
  split <;> (try decide)
  split <;> decide
def Vp (i : Nat) : PSt → Prop
  | (o, inO, wa, gi, di, _, _) => (inO = false → 3 * o ≤ i) ∧ (inO = true → 3 * o + 1 ≤ i ∧ (0 < gi → 3 * o + 2 ≤ i) ∧ 1 ≤ wa ∧ wa ≤ 5 ∧ gi ≤ wa ∧ di ≤ 2 ∧ (0 < di → 0 < gi))
theorem V_stp {i : Nat} {c : Int32} {S S' : PSt} (h : Vp i S) (e : stp c S = some S') : Vp (i + 1) S' := by
  obtain ⟨o, inO, wa, gi, di, Lt, Nm⟩ := S
  obtain ⟨v1, v2⟩ := h
  unfold stp at e
  dsimp only at e
  split at e
  · cases e
    refine ⟨fun z => by have := v1 z; omega, fun z => ?_⟩
    have := v2 z
    refine ⟨by omega, by omega, by omega, by omega, by omega, by omega, by omega⟩
  · split at e
    · split at e
      · cases e
      · rename_i hf hn
        cases e
        have := v1 hf
        have := nOf_le c
        refine ⟨fun z => (by cases z), fun _ => ⟨by omega, by omega, by omega, by omega, by omega, by omega, by omega⟩⟩
    · rename_i hf
      have hf : inO = true := by cases inO; exact absurd rfl hf; rfl
      have v2 := v2 hf
      split at e
      · split at e
        · cases e
        · cases e
          exact ⟨fun _ => by omega, fun z => by cases z⟩
      · split at e
        · cases e
        · split at e
          · cases e
          · rename_i hd
            split at e
            · cases e
              exact ⟨fun z => (by cases z), fun _ => ⟨by omega, by omega, by omega, by omega, by omega, by omega, by omega⟩⟩
            · cases e
              exact ⟨fun z => (by cases z), fun _ => ⟨by omega, by omega, by omega, by omega, by omega, by omega, by omega⟩⟩
/-- the class's cells of the text's state -/
def PR (a a' : xA) : PSt → Prop
  | (o, inO, wa, gi, di, Lt, Nm) => a' 3 0 0 4 = nI o ∧ a' 3 0 0 5 = (if inO then 1 else 0) ∧ a' 3 0 0 6 = nI wa ∧ a' 3 0 0 7 = nI gi ∧ a' 3 0 0 8 = nI di ∧ (∀ i, a' 23 0 0 i = Lt i) ∧ (∀ i, a' 24 0 0 i = Nm i) ∧ ∀ k s w j, ¬ (k = 23 ∨ k = 24 ∨ (k = 3 ∧ 4 ≤ j)) → a' k s w j = a k s w j
theorem xUp_n {a : xA} {k s w j k' s' w' j' : Nat} {v : Int32} (h : ¬ (k' = k ∧ s' = s ∧ w' = w ∧ j' = j)) : xUp a k s w j v k' s' w' j' = a k' s' w' j' := by
  unfold xUp
  rw [if_neg h]
theorem xUp_r {a : xA} {k s w j : Nat} {v : Int32} {f : Row} (h : ∀ i, a k s w i = f i) : ∀ i, xUp a k s w j v k s w i = upd f j v i := by
  intro i
  unfold xUp upd
  by_cases e : i = j
  · rw [if_pos ⟨rfl, rfl, rfl, e⟩, if_pos e]
  · rw [if_neg (fun z => e z.2.2.2), if_neg e, h]
section
variable {a a' b : xA} {h0 : Int64}
theorem cC_numbersOf {Q : Int32 → xM → Prop} {μ : xM} {c : Int32} (hq : Q (nI (nOf c)) μ) : CI mX3_numbersOf [vI c] μ Q := by
  unfold nOf at hq
  refine eX3_numbersOf (a := μ.1) (b := μ.2.1) (h0 := μ.2.2) ⟨fun z => ?_, fun z1 => ⟨fun z => ?_, fun z2 => ⟨fun z => ?_, fun z3 => ⟨fun z => ?_, fun z4 => ⟨fun z => ?_, fun z5 => ⟨fun z => ?_, fun z6 => ⟨fun z => ?_, fun z7 => ?_⟩⟩⟩⟩⟩⟩⟩
  · rw [if_pos z] at hq; exact hq
  · rw [if_neg z1, if_pos z] at hq; exact hq
  · rw [if_neg z1, if_neg z2, if_pos z] at hq; exact hq
  · rw [if_neg z1, if_neg z2, if_neg z3, if_pos z] at hq; exact hq
  · rw [if_neg z1, if_neg z2, if_neg z3, if_neg z4, if_pos z] at hq; exact hq
  · rw [if_neg z1, if_neg z2, if_neg z3, if_neg z4, if_neg z5, if_pos z] at hq; exact hq
  · rw [if_neg z1, if_neg z2, if_neg z3, if_neg z4, if_neg z5, if_neg z6, if_pos z] at hq; exact hq
  · rw [if_neg z1, if_neg z2, if_neg z3, if_neg z4, if_neg z5, if_neg z6, if_neg z7] at hq; exact hq
theorem cC_takes {Q : Int32 → xM → Prop} {c : Int32} {i : Nat} {S : PSt} (hi : i < 120) (hV : Vp i S) (h : PR a a' S) (h1 : ∀ S', stp c S = some S' → ∀ a'', PR a a'' S' → Q 1 (a'', (b, h0))) (h2 : stp c S = none → Q 0 (a', (b, h0))) : CI mX3_takes [vR 3 0 0, vI c] (a', (b, h0)) Q := by
  obtain ⟨o, inO, wa, gi, di, Lt, Nm⟩ := S
  obtain ⟨v1, v2⟩ := hV
  obtain ⟨p4, p5, p6, p7, p8, pL, pN, pf⟩ := h
  unfold stp at h1 h2
  dsimp only at h1 h2
  refine eX3_takes ?_
  rw [p5]
  refine ⟨fun z32 => ?_, fun z32 => ?_⟩
  · rw [if_neg z32] at h1 h2
    refine ⟨fun z5 => ?_, fun z5 => ?_⟩
    · have hio : inO = true := by
        cases inO
        · exact absurd rfl z5
        · rfl
      subst hio
      have v2 := v2 rfl
      rw [if_neg (by decide)] at h1 h2
      refine ⟨fun z59 => ?_, fun z59 => ?_⟩
      · rw [if_neg z59] at h1 h2
        refine ⟨fun z => h2 (if_pos (Or.inl z)), fun z48 => ⟨fun z => h2 (if_pos (Or.inr z)), fun z57 => ?_⟩⟩
        rw [if_neg (fun z => z.elim z48 z57)] at h1 h2
        refine eX3_takesDigit ?_
        rw [p8, p7, p6]
        have go : ¬ (di = 2 ∨ (di = 0 ∧ gi = wa)) → xOk mX3_takesDigit 28 [(0, vR 3 0 0), (1, vI (c - 48))] [] (a', (b, h0)) (qI fun r1 μ1 => (r1 = 0 → Q 0 μ1) ∧ (¬ r1 = 0 → Q 1 μ1)) := by
          intro hd
          rw [if_neg hd] at h1 h2
          refine rX3_takesDigit_28 ?_
          rw [p8, p4, p7]
          have e5 : nI o * (5 : Int32) + nI gi = nI (o * 5 + gi) := by rw [lit 5, pk_mul, nI_add]
          rw [e5]
          refine ⟨fun z => ?_, fun z => ?_⟩
          · have hd0 : di ≠ 0 := fun y => z (by rw [y]; rfl)
            rw [lit 1, pk_sub (by omega), nI_clamp (by omega), pN, xUp_n (by omega), p8, ← lit 1, nI_1]
            refine ⟨vp_in_nI (by omega) (by decide), vp_in_nI (by omega) (by decide), fun y => absurd y (by decide), fun _ => ?_⟩
            refine h1 _ (if_neg hd0) _ ⟨?_, ?_, ?_, ?_, ?_, fun i => ?_, fun i => ?_, fun k s w j hk => ?_⟩
            · rw [xUp_n (by omega), xUp_n (by omega)]; exact p4
            · rw [xUp_n (by omega), xUp_n (by omega)]; exact p5
            · rw [xUp_n (by omega), xUp_n (by omega)]; exact p6
            · rw [xUp_n (by omega), xUp_n (by omega)]; exact p7
            · rw [xUp_s]
            · rw [xUp_n (by omega), xUp_n (by omega)]; exact pL i
            · rw [xUp_n (by omega)]; exact xUp_r pN i
            · rw [xUp_n (by omega), xUp_n (by omega)]; exact pf k s w j hk
          · have hd0 : di = 0 := nqI (by omega) (by decide) z
            rw [if_pos hd0] at h1 h2
            have hg : gi < wa := by omega
            rw [nI_clamp (by omega), xUp_n (by omega), p7, nI_1, xUp_n (by omega), xUp_n (by omega), p8, hd0]
            refine ⟨vp_in_nI (by omega) (by decide), fun y => absurd y (by decide), fun _ => ?_⟩
            refine h1 _ rfl _ ⟨?_, ?_, ?_, ?_, ?_, fun i => ?_, fun i => ?_, fun k s w j hk => ?_⟩
            · rw [xUp_n (by omega), xUp_n (by omega), xUp_n (by omega)]; exact p4
            · rw [xUp_n (by omega), xUp_n (by omega), xUp_n (by omega)]; exact p5
            · rw [xUp_n (by omega), xUp_n (by omega), xUp_n (by omega)]; exact p6
            · rw [xUp_n (by omega), xUp_s]
            · rw [xUp_s]; rfl
            · rw [xUp_n (by omega), xUp_n (by omega), xUp_n (by omega)]; exact pL i
            · rw [xUp_n (by omega), xUp_n (by omega)]; exact xUp_r pN i
            · rw [xUp_n (by omega), xUp_n (by omega), xUp_n (by omega)]; exact pf k s w j hk
        refine ⟨fun z => ⟨fun _ => ?_, fun y => absurd rfl y⟩, fun z => ⟨fun y => go ?_, fun y => ⟨fun x => go ?_, fun x => ⟨fun _ => ?_, fun w => absurd rfl w⟩⟩⟩⟩
        · have hd : di = 2 := nqI (by omega) (by decide) z
          exact h2 (if_pos (Or.inl hd))
        · rintro (hd | hd)
          · exact z (by rw [hd]; rfl)
          · exact y (by rw [hd.1]; rfl)
        · rintro (hd | hd)
          · exact z (by rw [hd]; rfl)
          · exact x (by rw [hd.2])
        · have hd : di = 0 := nqI (by omega) (by decide) y
          have hg : gi = wa := nqI (by omega) (by omega) x
          exact h2 (if_pos (Or.inr ⟨hd, hg⟩))
      · rw [if_pos z59] at h1 h2
        refine eX3_takesEnd ?_
        rw [p6, p7]
        refine ⟨fun z => ⟨Or.inr rfl, ?_⟩, fun z => ⟨Or.inl rfl, h2 (if_pos ?_)⟩⟩
        · have hle : wa ≤ gi := (nI_leI (by omega) (by omega)).mp z
          rw [xUp_n (by omega), p4, nI_1]
          refine h1 _ (if_neg (by omega)) _ ⟨?_, ?_, ?_, ?_, ?_, fun i => ?_, fun i => ?_, fun k s w j hk => ?_⟩
          · rw [xUp_s]
          · rw [xUp_n (by omega), xUp_s]; rfl
          · rw [xUp_n (by omega), xUp_n (by omega)]; exact p6
          · rw [xUp_n (by omega), xUp_n (by omega)]; exact p7
          · rw [xUp_n (by omega), xUp_n (by omega)]; exact p8
          · rw [xUp_n (by omega), xUp_n (by omega)]; exact pL i
          · rw [xUp_n (by omega), xUp_n (by omega)]; exact pN i
          · rw [xUp_n (by omega), xUp_n (by omega)]; exact pf k s w j hk
        · rcases Nat.lt_or_ge gi wa with y | y
          · exact y
          · exact absurd (nI_le y (by omega)) z
    · have hio : inO = false := by
        cases inO
        · rfl
        · exact absurd z5 (by decide)
      subst hio
      have v1 := v1 rfl
      rw [if_pos rfl] at h1 h2
      have ho : o < 40 := by omega
      refine eX3_takesLetter (cC_numbersOf ⟨fun z => ⟨Or.inl rfl, h2 (if_pos (Or.inl ?_))⟩, fun z => ?_⟩)
      · exact nqI (by have := nOf_le c; omega) (by decide) z
      · have hn : nOf c ≠ 0 := fun y => z (by rw [y]; rfl)
        dsimp only
        rw [p4, nI_clamp (by omega)]
        refine ⟨fun _ => ⟨vp_in_nI ho (by decide), Or.inr rfl, ?_⟩, fun y => absurd (nI_lt ho (by decide)) y⟩
        refine h1 _ (if_neg (by omega)) _ ⟨?_, ?_, ?_, ?_, ?_, fun i => ?_, fun i => ?_, fun k s w j hk => ?_⟩
        · rw [xUp_n (by omega), xUp_n (by omega), xUp_n (by omega), xUp_n (by omega), xUp_n (by omega)]; exact p4
        · rw [xUp_n (by omega), xUp_n (by omega), xUp_n (by omega), xUp_s]; rfl
        · rw [xUp_n (by omega), xUp_n (by omega), xUp_s]
        · rw [xUp_n (by omega), xUp_s]; rfl
        · rw [xUp_s]; rfl
        · rw [xUp_n (by omega), xUp_n (by omega), xUp_n (by omega), xUp_n (by omega)]; exact xUp_r pL i
        · rw [xUp_n (by omega), xUp_n (by omega), xUp_n (by omega), xUp_n (by omega), xUp_n (by omega)]; exact pN i
        · rw [xUp_n (by omega), xUp_n (by omega), xUp_n (by omega), xUp_n (by omega), xUp_n (by omega)]; exact pf k s w j hk
  · rw [if_pos z32] at h1 h2
    refine h1 _ rfl _ ⟨?_, ?_, ?_, ?_, ?_, fun i => ?_, fun i => ?_, fun k s w j hk => ?_⟩
    · rw [xUp_n (by omega)]; exact p4
    · rw [xUp_n (by omega)]; exact p5
    · rw [xUp_n (by omega)]; exact p6
    · rw [xUp_n (by omega)]; exact p7
    · rw [xUp_s]; rfl
    · rw [xUp_n (by omega)]; exact pL i
    · rw [xUp_n (by omega)]; exact pN i
    · rw [xUp_n (by omega)]; exact pf k s w j hk
theorem lC_findFault {Q : Int32 → xM → Prop} {L : Nat} (hL : a 3 0 0 1 = nI L) (hL2 : L ≤ 120) : ∀ (m i : Nat) (S : PSt) (a' : xA), i + m = L → Vp i S → PR a a' S → (∀ a'', PR a a'' (rn (a 22 0 0) i m S).2 → Q (rn (a 22 0 0) i m S).1 (a'', (b, h0))) → xOk mX3_findFault 12 [(0, vR 3 0 0), (1, vI (nI i))] [] (a', (b, h0)) (qI Q)
  | 0, i, S, a', hi, hV, h, hq => by
    have hi : i = L := hi
    subst hi
    obtain ⟨o, inO, wa, gi, di, Lt, Nm⟩ := S
    have hq := hq a' h
    obtain ⟨v1, v2⟩ := hV
    obtain ⟨p4, p5, p6, p7, p8, pL, pN, pf⟩ := h
    have e1 : a' 3 0 0 1 = nI i := (pf _ _ _ _ (by omega)).trans hL
    have hq : Q (if inO = true ∨ o = 0 then nI i else -1) (a', (b, h0)) := hq
    refine rX3_findFault_12 ?_
    rw [e1, p5, p4]
    refine ⟨fun _ => ⟨fun z => ?_, fun z => ⟨fun y => ?_, fun y => ?_⟩⟩, fun z => absurd (Int32.le_refl _) z⟩
    · have hio : inO = true := by
        cases inO
        · exact absurd rfl z
        · rfl
      rw [if_pos (Or.inl hio)] at hq
      exact hq
    · have hio : inO = false := by
        cases inO
        · rfl
        · exact absurd z (by decide)
      have ho : o ≠ 0 := fun x => y (by rw [x]; rfl)
      rw [if_neg (by rw [hio]; simp [ho])] at hq
      exact hq
    · have hio : inO = false := by
        cases inO
        · rfl
        · exact absurd z (by decide)
      have := v1 hio
      have ho : o = 0 := nqI (by omega) (by decide) y
      rw [if_pos (Or.inr ho)] at hq
      exact hq
  | m + 1, i, S, a', hi, hV, h, hq => by
    have pf : ∀ k s w j, ¬ (k = 23 ∨ k = 24 ∨ (k = 3 ∧ 4 ≤ j)) → a' k s w j = a k s w j := by
      obtain ⟨o, inO, wa, gi, di, Lt, Nm⟩ := S
      exact h.2.2.2.2.2.2.2
    have e1 : a' 3 0 0 1 = nI L := (pf _ _ _ _ (by omega)).trans hL
    have e2 : a' 22 0 0 i = a 22 0 0 i := pf _ _ _ _ (by omega)
    refine rX3_findFault_12 ?_
    rw [e1, nI_clamp (by omega), e2]
    refine ⟨fun z => absurd z (nle (by omega) (by omega)), fun _ => ⟨vp_in_nI (by omega) (by decide), ?_⟩⟩
    refine cC_takes (by omega) hV h (fun S' e a'' h' => ⟨fun _ => ?_, fun z => absurd z (by decide)⟩) (fun e => ⟨fun z => absurd rfl z, fun _ => ?_⟩)
    · rw [nI_1]
      refine lC_findFault hL hL2 m (i + 1) S' a'' (by omega) (V_stp hV e) h' (fun c hc => ?_)
      have hq := hq c
      rw [rn, e] at hq
      exact hq hc
    · have hq := hq a'
      rw [rn, e] at hq
      exact hq h
theorem cC_findFault {Q : Int32 → xM → Prop} {L wa gi di : Nat} (hL : a 3 0 0 1 = nI L) (hL2 : L ≤ 120) (h6 : a 3 0 0 6 = nI wa) (h7 : a 3 0 0 7 = nI gi) (h8 : a 3 0 0 8 = nI di) (hq : ∀ a', PR a a' (rn (a 22 0 0) 0 L (0, false, wa, gi, di, a 23 0 0, a 24 0 0)).2 → Q (rn (a 22 0 0) 0 L (0, false, wa, gi, di, a 23 0 0, a 24 0 0)).1 (a', (b, h0))) : CI mX3_findFault [vR 3 0 0] (a, (b, h0)) Q := by
  refine eX3_findFault (lC_findFault hL hL2 L 0 _ _ (by omega) ⟨fun _ => by omega, fun z => by cases z⟩ ⟨?_, ?_, ?_, ?_, ?_, fun i => ?_, fun i => ?_, fun k s w j hk => ?_⟩ hq)
  · rw [xUp_n (by omega), xUp_s]; rfl
  · rw [xUp_s]; rfl
  · rw [xUp_n (by omega), xUp_n (by omega)]; exact h6
  · rw [xUp_n (by omega), xUp_n (by omega)]; exact h7
  · rw [xUp_n (by omega), xUp_n (by omega)]; exact h8
  · rw [xUp_n (by omega), xUp_n (by omega)]
  · rw [xUp_n (by omega), xUp_n (by omega)]
  · rw [xUp_n (by omega), xUp_n (by omega)]
end
