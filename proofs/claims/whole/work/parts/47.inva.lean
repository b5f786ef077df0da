/-! THE INVARIANT between the calls -/
def KR (b : xA) (q : Nat) (R : Nat → Row) : Prop := b 6 0 0 2 = nI q ∧ ∀ i, i < q → ∀ j, j < 945 → b 31 0 0 (945 * i + j) = R i j
def ER (a b : xA) : Prop := ∀ i, i < 5 → a 25 0 0 i = b 32 0 0 i
def TX (a b : xA) : Prop := ∃ L, L ≤ 120 ∧ a 3 0 0 1 = nI L ∧ b 6 0 0 6 = nI L ∧ ∀ i, i < L → a 22 0 0 i = b 33 0 0 i
def SC (a : xA) : Prop := ∃ wa gi di, a 3 0 0 6 = nI wa ∧ a 3 0 0 7 = nI gi ∧ a 3 0 0 8 = nI di
def IVq (a b : xA) (r : Row) (T q : Nat) (R : Nat → Row) : Prop := CR a r T ∧ KC a q R r T ∧ KR b q R ∧ ER a b ∧ TX a b ∧ SC a ∧ a 5 0 0 7 = b 6 0 0 12 ∧ a 5 0 0 8 = 0 ∧ b 6 0 0 3 = 0
def IV (a b : xA) (r : Row) (T : Nat) : Prop := ∃ q R, IVq a b r T q R
/-- cells of which no state speaks -/
def Ks (a a' : xA) : Prop := ∀ k s w j, ¬ (k = 3 ∨ k = 22 ∨ k = 23 ∨ k = 24 ∨ k = 25 ∨ (k = 5 ∧ j ≠ 3 ∧ j ≠ 4)) → a' k s w j = a k s w j
section
variable {a a' b b' : xA} {h0 : Int64} {r r' : Row} {T T' q : Nat} {R : Nat → Row}
theorem CR_s (h : Ks a a') (hC : CR a r T) : CR a' r T := by
  refine ⟨RelS_log hC.1 (fun k w j hk => h _ _ _ _ (by omega)) (fun p k h1 h2 i => h _ _ _ _ (by omega)), CU_of hC.2 (fun _ _ => rfl) (fun p hp k hk i => h _ _ _ _ (by omega))⟩
theorem KC_s (h : Ks a a') (hK : KC a q R r T) : KC a' q R r T := by
  obtain ⟨k1, k2, e, e6, k3, k4, k5, k6⟩ := hK
  refine ⟨k1, by rw [h _ _ _ _ (by omega)]; exact k2, e, e6, by rw [h _ _ _ _ (by omega)]; exact k3, fun i hi => ⟨RelS_log (k4 i hi).1 (fun k w j hk => h _ _ _ _ (by omega)) (fun p k h1 h2 i => h _ _ _ _ (by omega)), fun p hp => by rw [h _ _ _ _ (by omega)]; exact (k4 i hi).2 p hp⟩, k5, k6⟩
theorem Ks_er {i : Nat} : Ks a (erM a i) := fun k s w j hk => xUp_n (by omega)
theorem KR_kp (h : KR b q R) (hq : q ≤ 6) : KR (kpB b q r) (pq q) (pR q R r) := by
  obtain ⟨h1, h2⟩ := h
  unfold kpB pq pR
  by_cases e : q = 6
  · subst e
    rw [if_pos rfl, if_pos rfl]
    refine ⟨xUp_s _ _ _ _ _ _, fun i hi j hj => ?_⟩
    dsimp only
    rw [if_pos rfl, xUp_n (by omega)]
    show cpN (pShift (b 31 0 0) 4725) 4725 945 r (945 * i + j) = _
    unfold cpN
    by_cases h5 : i < 5
    · rw [if_neg (by omega), if_pos h5]
      unfold pShift
      rw [if_pos (by omega), show 945 * i + j + 945 = 945 * (i + 1) + j by omega]
      exact h2 (i + 1) (by omega) j hj
    · rw [if_pos (by omega), if_neg h5, show 945 * i + j - 4725 = j by omega]
  · rw [if_neg e, if_neg e]
    refine ⟨xUp_s _ _ _ _ _ _, fun i hi j hj => ?_⟩
    dsimp only
    rw [if_neg e, xUp_n (by omega)]
    show cpN (b 31 0 0) (945 * q) 945 r (945 * i + j) = _
    unfold cpN
    by_cases h5 : i < q
    · have h9 : 945 * i + 945 ≤ 945 * q := by omega
      rw [if_neg (by omega), if_pos h5]
      exact h2 i h5 j hj
    · have h9 : i = q := by omega
      subst h9
      rw [if_pos (by omega), if_neg h5, show 945 * i + j - 945 * i = j by omega]
theorem kpB_n {k s w j : Nat} {g : Row} (hk : k ≠ 31 ∧ (k ≠ 6 ∨ j ≠ 2)) : kpB b q g k s w j = b k s w j := by
  have e : ∀ f, xPa b f k s w j = b k s w j := fun f => by unfold xPa; rw [if_neg (by omega)]
  unfold kpB
  split
  · rw [xUp_n (by omega), e]
  · rw [xUp_n (by omega), e]
theorem AP.mono {o : Oc} (h : AP a q R r T o a') (hT : T ≤ T') : AP a q R r T' o a' := h.imp id (fun z => z.imp id (fun ⟨z1, z2, z3, z4⟩ => ⟨z1, z2.mono hT, z3.mono hT, z4⟩))
/-- an order, of the class and of the reference -/
theorem IV_AP {o : Oc} (h : IVq a b r T q R) (hT : T ≤ T') (hA : AP a q R r T' o a') : IV a' (apB b r o) (apR r o) T' := by
  obtain ⟨c1, c2, c3, c4, c5, c6, c7, c8, c9⟩ := h
  unfold apB apR
  rcases hA with ⟨z1, z2⟩ | ⟨z1, z2⟩ | ⟨z1, z2, z3, z4⟩
  · rw [if_pos z1, if_pos (by omega), z2]
    refine ⟨q, R, (CR_s Ks_er c1).mono hT, (KC_s Ks_er c2).mono hT, ⟨?_, fun i hi j hj => ?_⟩, fun i hi => ?_, ?_, ?_, ?_, ?_, ?_⟩
    · rw [rErr, xUp_n (by omega)]; exact c3.1
    · rw [rErr, xUp_n (by omega)]; exact c3.2 i hi j hj
    · unfold erM rErr
      by_cases e : i = o.2.1
      · subst e
        rw [xUp_s, xUp_s, c4 _ z1]
      · rw [xUp_n (by omega), xUp_n (by omega)]; exact c4 i hi
    · obtain ⟨L, l1, l2, l3, l4⟩ := c5
      exact ⟨L, l1, by rw [erM, xUp_n (by omega)]; exact l2, by rw [rErr, xUp_n (by omega)]; exact l3, fun i hi => by rw [erM, xUp_n (by omega), rErr, xUp_n (by omega)]; exact l4 i hi⟩
    · obtain ⟨wa, gi, di, l1, l2, l3⟩ := c6
      exact ⟨wa, gi, di, by rw [erM, xUp_n (by omega)]; exact l1, by rw [erM, xUp_n (by omega)]; exact l2, by rw [erM, xUp_n (by omega)]; exact l3⟩
    · rw [erM, xUp_n (by omega), rErr, xUp_n (by omega)]; exact c7
    · rw [erM, xUp_n (by omega)]; exact c8
    · rw [rErr, xUp_n (by omega)]; exact c9
  · rw [if_neg (by omega), if_pos z1, if_pos (by omega), z2]
    exact ⟨q, R, c1.mono hT, c2.mono hT, c3, c4, c5, c6, c7, c8, c9⟩
  · rw [if_neg (by omega), if_neg (by omega), if_neg (by omega)]
    have hq6 := c2.1
    have en : ntB b r = kpB b q r := by
      unfold ntB
      rw [if_pos c9, c3.1, nI_clamp (by omega)]
    rw [en]
    unfold nq nR at z3
    rw [if_pos c8, if_pos c8] at z3
    refine ⟨pq q, pR q R r, z2, z3, KR_kp c3 hq6, fun i hi => ?_, ?_, ?_, ?_, ?_, ?_⟩
    · rw [z4 _ _ _ _ (by omega), kpB_n (by omega)]; exact c4 i hi
    · obtain ⟨L, l1, l2, l3, l4⟩ := c5
      exact ⟨L, l1, by rw [z4 _ _ _ _ (by omega)]; exact l2, by rw [kpB_n (by omega)]; exact l3, fun i hi => by rw [z4 _ _ _ _ (by omega), kpB_n (by omega)]; exact l4 i hi⟩
    · obtain ⟨wa, gi, di, l1, l2, l3⟩ := c6
      exact ⟨wa, gi, di, by rw [z4 _ _ _ _ (by omega)]; exact l1, by rw [z4 _ _ _ _ (by omega)]; exact l2, by rw [z4 _ _ _ _ (by omega)]; exact l3⟩
    · rw [z4 _ _ _ _ (by omega), kpB_n (by omega)]; exact c7
    · rw [z4 _ _ _ _ (by omega)]; exact c8
    · rw [kpB_n (by omega)]; exact c9
end
/-! the orders of a text -/
def ordK (r : Row) (c : Int32) (x : Nat → Int32) : Oc := if c = 98 then oBegins r (x 0) else if c = 101 then oEnds r (x 0) (x 1) (x 2) else if c = 111 then oOpens r (x 0) (x 1) else if c = 114 then oReads r (x 0) (x 1) else if c = 115 then oSends r (x 0) (x 1) (x 2) (x 3) (x 4) else if c = 116 then oTicks r (x 0) else oCarries r (x 0) (x 1) (x 2) (x 3)
abbrev DSt : Type := Row × Row × Int32 × Nat
def do1 (Lt Nm : Row) (X : DSt) (k : Nat) : DSt := (apR X.1 (ordK X.1 (Lt k) (fun j => Nm (k * 5 + j))), if (ordK X.1 (Lt k) (fun j => Nm (k * 5 + j))).2.1 < 5 then upd X.2.1 (ordK X.1 (Lt k) (fun j => Nm (k * 5 + j))).2.1 (X.2.1 (ordK X.1 (Lt k) (fun j => Nm (k * 5 + j))).2.1 + 1) else X.2.1, (ordK X.1 (Lt k) (fun j => Nm (k * 5 + j))).1, if (ordK X.1 (Lt k) (fun j => Nm (k * 5 + j))).1 < 0 then X.2.2.2 else X.2.2.2 + 1)
theorem ordK_x {r : Row} {c : Int32} {x y : Nat → Int32} (hc : nOf c ≠ 0) (h : ∀ j, j < nOf c → x j = y j) : ordK r c x = ordK r c y := by
  unfold nOf at hc h
  unfold ordK
  by_cases e1 : c = 98
  · rw [if_pos e1, if_pos e1]
    rw [if_pos e1] at h
    rw [h 0 (by decide)]
  rw [if_neg e1, if_neg e1]
  rw [if_neg e1] at h hc
  by_cases e2 : c = 99
  · rw [if_pos e2] at h
    rw [e2, if_neg (by decide), if_neg (by decide), if_neg (by decide), if_neg (by decide), if_neg (by decide), if_neg (by decide), if_neg (by decide), if_neg (by decide), if_neg (by decide), if_neg (by decide)]
    rw [h 0 (by decide), h 1 (by decide), h 2 (by decide), h 3 (by decide)]
  rw [if_neg e2] at h hc
  by_cases e3 : c = 101
  · rw [if_pos e3, if_pos e3]
    rw [if_pos e3] at h
    rw [h 0 (by decide), h 1 (by decide), h 2 (by decide)]
  rw [if_neg e3, if_neg e3]
  rw [if_neg e3] at h hc
  by_cases e4 : c = 111
  · rw [if_pos e4, if_pos e4]
    rw [if_pos e4] at h
    rw [h 0 (by decide), h 1 (by decide)]
  rw [if_neg e4, if_neg e4]
  rw [if_neg e4] at h hc
  by_cases e5 : c = 114
  · rw [if_pos e5, if_pos e5]
    rw [if_pos e5] at h
    rw [h 0 (by decide), h 1 (by decide)]
  rw [if_neg e5, if_neg e5]
  rw [if_neg e5] at h hc
  by_cases e6 : c = 115
  · rw [if_pos e6, if_pos e6]
    rw [if_pos e6] at h
    rw [h 0 (by decide), h 1 (by decide), h 2 (by decide), h 3 (by decide), h 4 (by decide)]
  rw [if_neg e6, if_neg e6]
  rw [if_neg e6] at h hc
  by_cases e7 : c = 116
  · rw [if_pos e7, if_pos e7]
    rw [if_pos e7] at h
    rw [h 0 (by decide)]
  · rw [if_neg e7] at hc
    exact absurd rfl hc
/-- letters that were read are orders' letters -/
def VL : PSt → Prop
  | (o, inO, _, _, _, Lt, _) => ∀ k, k < (if inO then o + 1 else o) → nOf (Lt k) ≠ 0
theorem VL_stp {c : Int32} {S S' : PSt} (h : VL S) (e : stp c S = some S') : VL S' := by
  obtain ⟨o, inO, wa, gi, di, Lt, Nm⟩ := S
  unfold stp at e
  dsimp only at e
  split at e
  · cases e; exact h
  · split at e
    · rename_i hf
      subst hf
      split at e
      · cases e
      · rename_i hn
        cases e
        intro k hk
        have hk : k < o + 1 := hk
        by_cases ek : k = o
        · subst ek
          show nOf (upd Lt k c k) ≠ 0
          rw [up_eq]
          omega
        · show nOf (upd Lt o c k) ≠ 0
          rw [up_ne _ _ ek]
          exact h k (show k < o by omega)
    · rename_i hf
      have hf : inO = true := by cases inO; exact absurd rfl hf; rfl
      subst hf
      split at e
      · split at e
        · cases e
        · cases e
          exact h
      · split at e
        · cases e
        · split at e
          · cases e
          · split at e
            · cases e; exact h
            · cases e; exact h
theorem rn_VL {t : Row} : ∀ (m i : Nat) (S : PSt), VL S → Vp i S → VL (rn t i m S).2 ∧ ∃ j, j ≤ i + m ∧ Vp j (rn t i m S).2
  | 0, i, S, h, v => ⟨h, i, by omega, v⟩
  | m + 1, i, S, h, v => by
    rw [rn]
    cases e : stp (t i) S with
    | none => exact ⟨h, i, by omega, v⟩
    | some S' =>
      obtain ⟨r1, j, r2, r3⟩ := rn_VL (t := t) m (i + 1) S' (VL_stp h e) (V_stp v e)
      exact ⟨r1, j, by omega, r3⟩
theorem rn_fin {t : Row} : ∀ (m i : Nat) (S : PSt), i + m ≤ 120 → ((rn t i m S).1 = -1 ∧ (rn t i m S).2.2.1 = false ∧ (rn t i m S).2.1 ≠ 0) ∨ ∃ f, f ≤ i + m ∧ (rn t i m S).1 = nI f
  | 0, i, S, h => by
    show ((if S.2.1 = true ∨ S.1 = 0 then nI i else -1) = -1 ∧ S.2.1 = false ∧ S.1 ≠ 0) ∨ ∃ f, f ≤ i + 0 ∧ (if S.2.1 = true ∨ S.1 = 0 then nI i else -1) = nI f
    by_cases e : S.2.1 = true ∨ S.1 = 0
    · rw [if_pos e]
      exact Or.inr ⟨i, by omega, rfl⟩
    · rw [if_neg e]
      refine Or.inl ⟨rfl, ?_, fun z => e (Or.inr z)⟩
      cases hb : S.2.1
      · rfl
      · exact absurd (Or.inl hb) e
  | m + 1, i, S, h => by
    rw [rn]
    cases e : stp (t i) S with
    | none => exact Or.inr ⟨i, by omega, rfl⟩
    | some S' => exact (rn_fin (t := t) m (i + 1) S' (by omega)).imp id (fun ⟨f, f1, f2⟩ => ⟨f, by omega, f2⟩)
theorem rn_cg {t t' : Row} : ∀ (m i : Nat) (S : PSt), (∀ j, i ≤ j → j < i + m → t j = t' j) → rn t i m S = rn t' i m S
  | 0, _, _, _ => rfl
  | m + 1, i, S, h => by
    rw [rn, rn, h i (by omega) (by omega)]
    cases stp (t' i) S with
    | none => rfl
    | some S' => exact rn_cg m (i + 1) S' (fun j h1 h2 => h j (by omega) (by omega))
