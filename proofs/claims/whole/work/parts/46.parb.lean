/-! the reference's reading of the text -/
def BF (b b' : xA) : Prop := ∀ k s w j, ¬ (k = 34 ∨ k = 35 ∨ (k = 6 ∧ (j = 7 ∨ j = 8 ∨ j = 9))) → b' k s w j = b k s w j
def OR (b b' : xA) (i o gi : Nat) (Lt Nm : Row) : Prop := b' 6 0 0 7 = nI i ∧ b' 6 0 0 9 = nI o ∧ (∀ k, k < o → b' 34 0 0 k = Lt k ∧ ∀ j, j < nOf (Lt k) → b' 35 0 0 (5 * k + j) = Nm (k * 5 + j)) ∧ (∀ j, j < gi → b' 35 0 0 (5 * o + j) = Nm (o * 5 + j)) ∧ BF b b'
def isF (t : Row) (L i : Nat) : Prop := i < L ∧ ¬ t i < 48 ∧ ¬ 57 < t i
def dz : PSt → PSt
  | (o, inO, wa, gi, _, Lt, Nm) => (o, inO, wa, gi, 0, Lt, Nm)
theorem stp_32 (S : PSt) : stp 32 S = some (dz S) := by
  obtain ⟨o, inO, wa, gi, di, Lt, Nm⟩ := S
  rfl
theorem dz_dz (S : PSt) : dz (dz S) = dz S := by
  obtain ⟨o, inO, wa, gi, di, Lt, Nm⟩ := S
  rfl
theorem Vp_dz {i : Nat} {S : PSt} (h : Vp i S) : Vp i (dz S) := by
  obtain ⟨o, inO, wa, gi, di, Lt, Nm⟩ := S
  obtain ⟨v1, v2⟩ := h
  refine ⟨v1, fun z => ?_⟩
  have := v2 z
  exact ⟨this.1, this.2.1, this.2.2.1, this.2.2.2.1, this.2.2.2.2.1, by omega, by omega⟩
theorem Vp_mono {i i' : Nat} {S : PSt} (h : Vp i S) (hi : i ≤ i') : Vp i' S := by
  obtain ⟨o, inO, wa, gi, di, Lt, Nm⟩ := S
  obtain ⟨v1, v2⟩ := h
  refine ⟨fun z => by have := v1 z; omega, fun z => ?_⟩
  have := v2 z
  exact ⟨by omega, by omega, by omega, by omega, by omega, by omega, by omega⟩
def skS (i i' : Nat) (S : PSt) : PSt := if i' = i then S else dz S
theorem Vp_sk {i i' : Nat} {S : PSt} (h : Vp i S) (hi : i ≤ i') : Vp i' (skS i i' S) := by
  unfold skS
  split
  · exact Vp_mono h hi
  · exact Vp_mono (Vp_dz h) hi
theorem rn_sk {t : Row} {L i' : Nat} (hL : i' ≤ L) : ∀ (d i : Nat) (S : PSt), i + d = i' → (∀ j, i ≤ j → j < i' → t j = 32) → rn t i (L - i) S = rn t i' (L - i') (skS i i' S)
  | 0, i, S, hd, _ => by
    have hd : i = i' := hd
    subst hd
    unfold skS
    rw [if_pos rfl]
  | d + 1, i, S, hd, h => by
    have e1 : L - i = (L - (i + 1)) + 1 := by omega
    rw [e1, rn, h i (Nat.le_refl _) (by omega), stp_32]
    show rn t (i + 1) (L - (i + 1)) (dz S) = _
    rw [rn_sk hL d (i + 1) (dz S) (by omega) (fun j h1 h2 => h j (by omega) h2)]
    unfold skS
    rw [if_neg (show ¬ i' = i by omega)]
    split
    · rfl
    · rw [dz_dz]
/-- what is left to show: a fault at f, or all read -/
def FinP (a b : xA) (h0 : Int64) (L : Nat) (Q : Int32 → xM → Prop) (res : Int32 × PSt) : Prop := (∀ b' f, res.1 = nI f → f ≤ L → b' 6 0 0 8 = nI f → BF b b' → Q 0 (a, (b', h0))) ∧ (∀ b' i, res.1 = -1 → OR b b' i res.2.1 0 res.2.2.2.2.2.2.1 res.2.2.2.2.2.2.2 → Q 1 (a, (b', h0)))
section
variable {a b b' : xA} {h0 : Int64} {L : Nat}
theorem BF.up {k s w j : Nat} {v : Int32} (h : BF b b') (hk : k = 34 ∨ k = 35 ∨ (k = 6 ∧ (j = 7 ∨ j = 8 ∨ j = 9))) : BF b (xUp b' k s w j v) := by
  intro k' s' w' j' hk'
  rw [xUp_n (by omega)]
  exact h k' s' w' j' hk'
theorem cR_here {Q : Int32 → xM → Prop} {i : Nat} (hL : b 6 0 0 6 = nI L) (hL2 : L ≤ 120) (hF : BF b b') (hi : b' 6 0 0 7 = nI i) (hiL : i ≤ L) (h1 : i = L → Q (-1) (a, (b', h0))) (h2 : i < L → Q (b 33 0 0 i) (a, (b', h0))) : CI mX6_here [vR 6 0 0] (a, (b', h0)) Q := by
  have e6 : b' 6 0 0 6 = nI L := (hF _ _ _ _ (by omega)).trans hL
  have e33 : b' 33 0 0 i = b 33 0 0 i := hF _ _ _ _ (by omega)
  refine eX6_here ?_
  rw [e6, hi, nI_clamp (by omega), e33]
  refine ⟨fun z => h1 ?_, fun z => ?_⟩
  · have := (nI_leI (by omega) (by omega)).mp z
    omega
  · have hlt : i < L := by
      rcases Nat.lt_or_ge i L with y | y
      · exact y
      · exact absurd (nI_le y (by omega)) z
    exact ⟨vp_in_nI (by omega) (by decide), h2 hlt⟩
theorem cR_isFigure {Q : Int32 → xM → Prop} {i : Nat} (hL : b 6 0 0 6 = nI L) (hL2 : L ≤ 120) (hF : BF b b') (hi : b' 6 0 0 7 = nI i) (hiL : i ≤ L) (h1 : isF (b 33 0 0) L i → Q 1 (a, (b', h0))) (h2 : ¬ isF (b 33 0 0) L i → Q 0 (a, (b', h0))) : CI mX6_isFigure [vR 6 0 0] (a, (b', h0)) Q := by
  refine eX6_isFigure (cR_here hL hL2 hF hi hiL (fun z => cR_in (fun y => absurd (by decide) y) (fun _ => ⟨Or.inl rfl, h2 ?_⟩)) (fun z => cR_in (fun y x => ⟨Or.inr rfl, h1 ⟨z, y, x⟩⟩) (fun y => ⟨Or.inl rfl, h2 (fun f => y.elim f.2.1 f.2.2)⟩)))
  intro f
  have := f.1
  omega
theorem lR_skips {Q : xM → Prop} (hL : b 6 0 0 6 = nI L) (hL2 : L ≤ 120) : ∀ (m i0 : Nat) (b' : xA), i0 + m = L → BF b b' → b' 6 0 0 7 = nI i0 → (∀ b'' i', i0 ≤ i' → i' ≤ L → (∀ j, i0 ≤ j → j < i' → b 33 0 0 j = 32) → (i' = L ∨ ¬ b 33 0 0 i' = 32) → b'' 6 0 0 7 = nI i' → (∀ k s w j, ¬ (k = 6 ∧ s = 0 ∧ w = 0 ∧ j = 7) → b'' k s w j = b' k s w j) → Q (a, (b'', h0))) → xOk mX6_skips 0 [(0, vR 6 0 0)] [] (a, (b', h0)) (qV Q)
  | 0, i0, b', hm, hF, hi, hq => by
    have hm : i0 = L := hm
    subst hm
    refine rX6_skips_0 (cR_here hL hL2 hF hi (Nat.le_refl _) (fun _ => ⟨fun _ => hq b' i0 (Nat.le_refl _) (Nat.le_refl _) (fun j h1 h2 => by omega) (Or.inl rfl) hi (fun _ _ _ _ _ => rfl), fun z => absurd z (by decide)⟩) (fun z => by omega))
  | m + 1, i0, b', hm, hF, hi, hq => by
    refine rX6_skips_0 (cR_here hL hL2 hF hi (by omega) (fun z => by omega) (fun z => ⟨fun y => hq b' i0 (Nat.le_refl _) (by omega) (fun j h1 h2 => by omega) (Or.inr y) hi (fun _ _ _ _ _ => rfl), fun y => ?_⟩))
    dsimp only
    rw [hi, nI_1]
    refine lR_skips hL hL2 m (i0 + 1) _ (by omega) (hF.up (by omega)) (xUp_s _ _ _ _ _ _) (fun b'' i' g1 g2 g3 g4 g5 g6 => hq b'' i' (by omega) g2 (fun j h1 h2 => ?_) g4 g5 (fun k s w j hk => by rw [g6 k s w j hk, xUp_n hk]))
    by_cases e : j = i0
    · rw [e]; exact y
    · exact g3 j (by omega) h2
theorem cR_skips {Q : xM → Prop} {i : Nat} (hL : b 6 0 0 6 = nI L) (hL2 : L ≤ 120) (hF : BF b b') (hi : b' 6 0 0 7 = nI i) (hiL : i ≤ L) (hq : ∀ b'' i', i ≤ i' → i' ≤ L → (∀ j, i ≤ j → j < i' → b 33 0 0 j = 32) → (i' = L ∨ ¬ b 33 0 0 i' = 32) → b'' 6 0 0 7 = nI i' → (∀ k s w j, ¬ (k = 6 ∧ s = 0 ∧ w = 0 ∧ j = 7) → b'' k s w j = b' k s w j) → Q (a, (b'', h0))) : CV mX6_skips [vR 6 0 0] (a, (b', h0)) Q := by
  obtain ⟨m, hm⟩ : ∃ m, i + m = L := ⟨L - i, by omega⟩
  refine eX6_skips (cR_here hL hL2 hF hi hiL (fun z => ⟨fun _ => hq b' i (Nat.le_refl _) hiL (fun j h1 h2 => by omega) (Or.inl z) hi (fun _ _ _ _ _ => rfl), fun z => absurd z (by decide)⟩) (fun z => ⟨fun y => hq b' i (Nat.le_refl _) (by omega) (fun j h1 h2 => by omega) (Or.inr y) hi (fun _ _ _ _ _ => rfl), fun y => ?_⟩))
  dsimp only
  rw [hi, nI_1]
  refine lR_skips hL hL2 (L - (i + 1)) (i + 1) _ (by omega) (hF.up (by omega)) (xUp_s _ _ _ _ _ _) (fun b'' i' g1 g2 g3 g4 g5 g6 => hq b'' i' (by omega) g2 (fun j h1 h2 => ?_) g4 g5 (fun k s w j hk => by rw [g6 k s w j hk, xUp_n hk]))
  by_cases e : j = i
  · rw [e]; exact y
  · exact g3 j (by omega) h2
theorem OR_at {b'' : xA} {i i' o gi : Nat} {Lt Nm : Row} (h : OR b b' i o gi Lt Nm) (h7 : b'' 6 0 0 7 = nI i') (hf : ∀ k s w j, ¬ (k = 6 ∧ s = 0 ∧ w = 0 ∧ j = 7) → b'' k s w j = b' k s w j) : OR b b'' i' o gi Lt Nm := by
  obtain ⟨o1, o2, o3, o4, o5⟩ := h
  refine ⟨h7, by rw [hf _ _ _ _ (by omega)]; exact o2, fun k hk => ⟨by rw [hf _ _ _ _ (by omega)]; exact (o3 k hk).1, fun j hj => by rw [hf _ _ _ _ (by omega)]; exact (o3 k hk).2 j hj⟩, fun j hj => by rw [hf _ _ _ _ (by omega)]; exact o4 j hj, fun k s w j hk => by rw [hf _ _ _ _ (by omega)]; exact o5 k s w j hk⟩
theorem rn_s {t : Row} {i : Nat} {S : PSt} (hi : i < L) : rn t i (L - i) S = match stp (t i) S with
    | none => (nI i, S)
    | some S' => rn t (i + 1) (L - (i + 1)) S' := by
  have e1 : L - i = (L - (i + 1)) + 1 := by omega
  rw [e1, rn]
  rfl
theorem stp_no {c : Int32} {o wa gi di : Nat} {Lt Nm : Row} (h32 : ¬ c = 32) (h : (c = 59 ∧ gi < wa) ∨ (¬ c = 59 ∧ (c < 48 ∨ 57 < c)) ∨ (¬ c = 59 ∧ (di = 2 ∨ (di = 0 ∧ gi = wa)))) : stp c (o, true, wa, gi, di, Lt, Nm) = none := by
  unfold stp
  dsimp only
  rw [if_neg h32, if_neg (by decide)]
  rcases h with ⟨z1, z2⟩ | ⟨z1, z2⟩ | ⟨z1, z2⟩
  · rw [if_pos z1, if_pos z2]
  · rw [if_neg z1, if_pos z2]
  · rw [if_neg z1]
    by_cases hr : c < 48 ∨ 57 < c
    · rw [if_pos hr]
    · rw [if_neg hr, if_pos z2]
theorem fig {c : Int32} (h1 : ¬ c < 48) (h2 : ¬ 57 < c) : ¬ c = 32 ∧ ¬ c = 59 := by
  refine ⟨fun e => h1 (by rw [e]; decide), fun e => h2 (by rw [e]; decide)⟩
theorem stp_d0 {c : Int32} {o wa gi : Nat} {Lt Nm : Row} (h1 : ¬ c < 48) (h2 : ¬ 57 < c) (hg : gi < wa) : stp c (o, true, wa, gi, 0, Lt, Nm) = some (o, true, wa, gi + 1, 1, Lt, upd Nm (o * 5 + gi) (c - 48)) := by
  obtain ⟨f1, f2⟩ := fig h1 h2
  unfold stp
  dsimp only
  rw [if_neg f1, if_neg (by decide), if_neg f2, if_neg (fun z => z.elim h1 h2), if_neg (by omega), if_pos rfl]
theorem stp_d1 {c : Int32} {o wa gi : Nat} {Lt Nm : Row} (h1 : ¬ c < 48) (h2 : ¬ 57 < c) : stp c (o, true, wa, gi + 1, 1, Lt, Nm) = some (o, true, wa, gi + 1, 2, Lt, upd Nm (o * 5 + gi) (10 * Nm (o * 5 + gi) + (c - 48))) := by
  obtain ⟨f1, f2⟩ := fig h1 h2
  unfold stp
  dsimp only
  rw [if_neg f1, if_neg (by decide), if_neg f2, if_neg (fun z => z.elim h1 h2), if_neg (by omega), if_neg (by decide)]
  rfl
theorem cR_number {Q : Int32 → xM → Prop} {x : Int32} {i o wa gi di : Nat} {Lt Nm : Row} (hL : b 6 0 0 6 = nI L) (hL2 : L ≤ 120) (ex : x = nI (5 * o + gi)) (hiL : i ≤ L) (hO : OR b b' i o gi Lt Nm) (hV : Vp i (o, true, wa, gi, di, Lt, Nm)) (hg : gi < wa) (hd : di = 0 ∨ ¬ isF (b 33 0 0) L i)
    (h1 : ∀ b'' i' di' Nm', rn (b 33 0 0) i (L - i) (o, true, wa, gi, di, Lt, Nm) = rn (b 33 0 0) i' (L - i') (o, true, wa, gi + 1, di', Lt, Nm') → i < i' → i' ≤ L → OR b b'' i' o (gi + 1) Lt Nm' → Vp i' (o, true, wa, gi + 1, di', Lt, Nm') → ¬ isF (b 33 0 0) L i' → Q 1 (a, (b'', h0)))
    (h2 : ∀ b'' f, (rn (b 33 0 0) i (L - i) (o, true, wa, gi, di, Lt, Nm)).1 = nI f → f ≤ L → b'' 6 0 0 8 = nI f → BF b b'' → Q 0 (a, (b'', h0))) : CI mX6_number [vR 6 0 0, vI x] (a, (b', h0)) Q := by
  subst ex
  have hlt : o < 40 ∧ wa ≤ 5 := by
    have := hV.2 rfl
    omega
  refine eX6_number (cR_skips hL hL2 hO.2.2.2.2 hO.1 hiL (fun b1 i1 g1 g2 g3 g4 g5 g6 => ?_))
  have hO1 := OR_at hO g5 g6
  have er := rn_sk (S := (o, true, wa, gi, di, Lt, Nm)) g2 (i1 - i) i (by omega) g3
  have hV1 := Vp_sk hV g1
  have es : ∃ d1, skS i i1 (o, true, wa, gi, di, Lt, Nm) = (o, true, wa, gi, d1, Lt, Nm) ∧ (isF (b 33 0 0) L i1 → d1 = 0) := by
    unfold skS
    split
    · rename_i e
      exact ⟨di, rfl, fun z => hd.resolve_right (fun y => y (by rw [← e]; exact z))⟩
    · exact ⟨0, rfl, fun _ => rfl⟩
  obtain ⟨d1, es1, es2⟩ := es
  rw [es1] at er hV1
  clear es1
  refine cR_isFigure hL hL2 hO1.2.2.2.2 g5 g2 (fun f1 => ⟨fun _ => ?_, fun z => absurd z (by decide)⟩) (fun nf => ⟨fun z => absurd rfl z, fun _ => ?_⟩)
  · cases es2 f1
    rw [rn_s f1.1, stp_d0 f1.2.1 f1.2.2 hg] at er
    have hV2 := V_stp hV1 (stp_d0 (c := b 33 0 0 i1) f1.2.1 f1.2.2 hg)
    have hlt1 := f1.1
    refine cR_here hL hL2 hO1.2.2.2.2 g5 g2 (fun z => by omega) (fun _ => ?_)
    dsimp only
    rw [g5, nI_1]
    have hO2 : OR b (xUp b1 6 0 0 7 (nI (i1 + 1))) (i1 + 1) o gi Lt Nm := OR_at hO1 (xUp_s _ _ _ _ _ _) (fun k s w j hk => xUp_n hk)
    -- behind the first figure
    have fin : ∀ (b2 : xA) (i2 d2 : Nat) (v : Int32), i1 < i2 → i2 ≤ L → OR b b2 i2 o gi Lt Nm → Vp i2 (o, true, wa, gi + 1, d2, Lt, upd Nm (o * 5 + gi) v) → rn (b 33 0 0) i (L - i) (o, true, wa, gi, di, Lt, Nm) = rn (b 33 0 0) i2 (L - i2) (o, true, wa, gi + 1, d2, Lt, upd Nm (o * 5 + gi) v) → (isF (b 33 0 0) L i2 → d2 = 2) → xOk mX6_number 64 [(0, vR 6 0 0), (1, vI (nI (5 * o + gi))), (2, vI v)] [] (a, (b2, h0)) (qI Q) := by
      intro b2 i2 d2 v g7 g8 hO3 hV3 er3 hf3
      refine rX6_number_64 (cR_isFigure hL hL2 hO3.2.2.2.2 hO3.1 g8 (fun f => ⟨fun z => absurd z (by decide), fun _ => ?_⟩) (fun nf => ⟨fun _ => ⟨vp_in_nI (by omega) (by decide), ?_⟩, fun z => absurd rfl z⟩))
      · refine eX6_stopsHere ⟨Or.inl rfl, ?_⟩
        rw [rn_s f.1, stp_no (fig f.2.1 f.2.2).1 (Or.inr (Or.inr ⟨(fig f.2.1 f.2.2).2, Or.inl (hf3 f)⟩))] at er3
        refine h2 _ i2 (by rw [er3]) g8 (by rw [xUp_s]; exact hO3.1) (hO3.2.2.2.2.up (by omega))
      · rw [nI_clamp (by omega)]
        obtain ⟨o1, o2, o3, o4, o5⟩ := hO3
        refine h1 _ i2 d2 _ er3 (by omega) g8 ⟨by rw [xUp_n (by omega)]; exact o1, by rw [xUp_n (by omega)]; exact o2, fun k hk => ⟨by rw [xUp_n (by omega)]; exact (o3 k hk).1, fun j hj => ?_⟩, fun j hj => ?_, o5.up (by omega)⟩ hV3 nf
        · have := nOf_le (Lt k)
          rw [xUp_n (by omega), up_ne _ _ (by omega)]
          exact (o3 k hk).2 j hj
        · by_cases ej : j = gi
          · rw [ej, xUp_s, up_eq]
          · rw [xUp_n (by omega), up_ne _ _ (by omega)]
            exact o4 j (by omega)
    refine cR_isFigure hL hL2 hO2.2.2.2.2 hO2.1 (by omega) (fun f2 => ⟨fun z => absurd z (by decide), fun _ => ?_⟩) (fun nf => ⟨fun _ => ?_, fun z => absurd rfl z⟩)
    · have er2 := er
      dsimp only at er2
      rw [rn_s f2.1, stp_d1 f2.2.1 f2.2.2] at er2
      have hV3 := V_stp hV2 (stp_d1 (c := b 33 0 0 (i1 + 1)) f2.2.1 f2.2.2)
      have hlt2 := f2.1
      refine cR_here hL hL2 hO2.2.2.2.2 hO2.1 (by omega) (fun z => by omega) (fun _ => ?_)
      dsimp only
      rw [xUp_s, nI_1]
      have eN : upd (upd Nm (o * 5 + gi) (b 33 0 0 i1 - 48)) (o * 5 + gi) (10 * upd Nm (o * 5 + gi) (b 33 0 0 i1 - 48) (o * 5 + gi) + (b 33 0 0 (i1 + 1) - 48)) = upd Nm (o * 5 + gi) (10 * (b 33 0 0 i1 - 48) + b 33 0 0 (i1 + 1) - 48) := by
        rw [up_eq, Int32.sub_eq_add_neg (10 * (b 33 0 0 i1 - 48) + b 33 0 0 (i1 + 1)), Int32.add_assoc, ← Int32.sub_eq_add_neg]
        funext j
        unfold upd
        split <;> rfl
      rw [eN] at er2 hV3
      refine fin _ (i1 + 1 + 1) 2 _ (by omega) (by omega) (OR_at hO2 (xUp_s _ _ _ _ _ _) (fun k s w j hk => xUp_n hk)) hV3 er2 (fun _ => rfl)
    · exact fin _ (i1 + 1) 1 _ (by omega) (by omega) hO2 hV2 er (fun z => absurd z nf)
  · refine eX6_stopsHere ⟨Or.inl rfl, ?_⟩
    refine h2 _ i1 ?_ g2 (by rw [xUp_s]; exact g5) (hO1.2.2.2.2.up (by omega))
    rw [er]
    rcases Nat.lt_or_ge i1 L with z | z
    · have h32 : ¬ b 33 0 0 i1 = 32 := g4.resolve_left (by omega)
      rw [rn_s z, stp_no h32]
      by_cases e59 : b 33 0 0 i1 = 59
      · exact Or.inl ⟨e59, hg⟩
      · refine Or.inr (Or.inl ⟨e59, ?_⟩)
        by_cases e48 : b 33 0 0 i1 < 48
        · exact Or.inl e48
        · refine Or.inr ?_
          by_cases e57 : 57 < b 33 0 0 i1
          · exact e57
          · exact absurd ⟨z, e48, e57⟩ nf
    · have : i1 = L := by omega
      subst this
      rw [Nat.sub_self]
      show (if true = true ∨ o = 0 then nI i1 else -1) = nI i1
      rw [if_pos (Or.inl rfl)]
theorem cR_numbersOf {Q : Int32 → xM → Prop} {μ : xM} {c : Int32} (h1 : nOf c = 0 → Q (-1) μ) (h2 : nOf c ≠ 0 → Q (nI (nOf c)) μ) : CI mX6_numbersOf [vI c] μ Q := by
  unfold nOf at h1 h2
  refine eX6_numbersOf (a := μ.1) (b := μ.2.1) (h0 := μ.2.2) ⟨fun z => ?_, fun z1 => ⟨fun z => ?_, fun z2 => ⟨fun z => ?_, fun z3 => ⟨fun z => ?_, fun z4 => ⟨fun z => ?_, fun z5 => ⟨fun z => ?_, fun z6 => ⟨fun z => ?_, fun z7 => ?_⟩⟩⟩⟩⟩⟩⟩
  · rw [if_pos z] at h2; exact h2 (by decide)
  · rw [if_neg z1, if_pos z] at h2; exact h2 (by decide)
  · rw [if_neg z1, if_neg z2, if_pos z] at h2; exact h2 (by decide)
  · rw [if_neg z1, if_neg z2, if_neg z3, if_pos z] at h2; exact h2 (by decide)
  · rw [if_neg z1, if_neg z2, if_neg z3, if_neg z4, if_pos z] at h2; exact h2 (by decide)
  · rw [if_neg z1, if_neg z2, if_neg z3, if_neg z4, if_neg z5, if_pos z] at h2; exact h2 (by decide)
  · rw [if_neg z1, if_neg z2, if_neg z3, if_neg z4, if_neg z5, if_neg z6, if_pos z] at h2; exact h2 (by decide)
  · rw [if_neg z1, if_neg z2, if_neg z3, if_neg z4, if_neg z5, if_neg z6, if_neg z7] at h1; exact h1 rfl
theorem lR_order {Q : Int32 → xM → Prop} {c : Int32} {o n : Nat} {Lt : Row} {res : Int32 × PSt} {i0 : Nat} (hL : b 6 0 0 6 = nI L) (hL2 : L ≤ 120) (hn : nOf c = n) (hLt : Lt o = c)
    (h1 : ∀ b'' i' S', res = rn (b 33 0 0) i' (L - i') S' → i0 < i' → i' ≤ L → S'.1 = o + 1 → S'.2.1 = false → OR b b'' i' (o + 1) 0 S'.2.2.2.2.2.1 S'.2.2.2.2.2.2 → Vp i' S' → Q 1 (a, (b'', h0)))
    (h2 : ∀ b'' f, res.1 = nI f → f ≤ L → b'' 6 0 0 8 = nI f → BF b b'' → Q 0 (a, (b'', h0))) : ∀ (m k : Nat) (b' : xA) (i di : Nat) (Nm : Row), k + m = n → i0 < i → i ≤ L → OR b b' i o k Lt Nm → Vp i (o, true, n, k, di, Lt, Nm) → (di = 0 ∨ ¬ isF (b 33 0 0) L i) → res = rn (b 33 0 0) i (L - i) (o, true, n, k, di, Lt, Nm) → xOk mX6_order 32 [(0, vR 6 0 0), (1, vI c), (2, vI (nI n)), (3, vI (nI k))] [] (a, (b', h0)) (qI Q)
  | 0, k, b', i, di, Nm, hk, hi0, hiL, hO, hV, hd, er => by
    have hk : k = n := hk
    subst hk
    have hn5 := nOf_le c
    have hlt : o < 40 := by
      have := hV.2 rfl
      omega
    refine rX6_order_32 ⟨fun _ => ?_, fun z => absurd (Int32.le_refl _) z⟩
    refine cR_skips hL hL2 hO.2.2.2.2 hO.1 hiL (fun b1 i1 g1 g2 g3 g4 g5 g6 => ?_)
    have hO1 := OR_at hO g5 g6
    have er1 := rn_sk (S := (o, true, k, k, di, Lt, Nm)) g2 (i1 - i) i (by omega) g3
    have hV1 := Vp_sk hV g1
    have es : ∃ d1, skS i i1 (o, true, k, k, di, Lt, Nm) = (o, true, k, k, d1, Lt, Nm) ∧ (isF (b 33 0 0) L i1 → d1 = 0) := by
      unfold skS
      split
      · rename_i e
        exact ⟨di, rfl, fun z => hd.resolve_right (fun y => y (by rw [← e]; exact z))⟩
      · exact ⟨0, rfl, fun _ => rfl⟩
    obtain ⟨d1, es1, es2⟩ := es
    rw [es1] at er1 hV1
    rw [er1] at er
    have stop : (i1 = L ∨ ¬ b 33 0 0 i1 = 59) → CI mX6_stopsHere [vR 6 0 0] (a, (b1, h0)) (fun r4 μ4 => (r4 = 0 ∨ r4 = 1) ∧ Q r4 μ4) := by
      intro h59
      refine eX6_stopsHere ⟨Or.inl rfl, ?_⟩
      refine h2 _ i1 ?_ g2 (by rw [xUp_s]; exact g5) (hO1.2.2.2.2.up (by omega))
      rw [er]
      rcases Nat.lt_or_ge i1 L with z | z
      · have h32 : ¬ b 33 0 0 i1 = 32 := g4.resolve_left (by omega)
        have e59 : ¬ b 33 0 0 i1 = 59 := h59.resolve_left (by omega)
        rw [rn_s z, stp_no h32]
        by_cases e48 : b 33 0 0 i1 < 48
        · exact Or.inr (Or.inl ⟨e59, Or.inl e48⟩)
        · by_cases e57 : 57 < b 33 0 0 i1
          · exact Or.inr (Or.inl ⟨e59, Or.inr e57⟩)
          · exact Or.inr (Or.inr ⟨e59, Or.inr ⟨es2 ⟨z, e48, e57⟩, rfl⟩⟩)
      · have : i1 = L := by omega
        subst this
        rw [Nat.sub_self]
        show (if true = true ∨ o = 0 then nI i1 else -1) = nI i1
        rw [if_pos (Or.inl rfl)]
    refine cR_here hL hL2 hO1.2.2.2.2 g5 g2 (fun z => ⟨fun y => absurd y (by decide), fun _ => stop (Or.inl z)⟩) (fun z => ⟨fun y => ?_, fun y => stop (Or.inr y)⟩)
    have est : stp (b 33 0 0 i1) (o, true, k, k, d1, Lt, Nm) = some (o + 1, false, k, k, d1, Lt, Nm) := by
      unfold stp
      dsimp only
      rw [if_neg (by rw [y]; decide), if_neg (by decide), if_pos y, if_neg (by omega)]
    have hV2 := V_stp hV1 est
    rw [rn_s z, est] at er
    obtain ⟨o1, o2, o3, o4, o5⟩ := hO1
    dsimp only
    rw [g5, nI_1, xUp_n (by omega), o2, nI_clamp (by omega), xUp_n (by omega), xUp_n (by omega), o2, nI_1]
    refine ⟨vp_in_nI hlt (by decide), ?_⟩
    refine h1 _ (i1 + 1) _ er (by omega) (by omega) rfl rfl ⟨?_, xUp_s _ _ _ _ _ _, fun k' hk' => ?_, fun j hj => by omega, ((o5.up (by omega)).up (by omega)).up (by omega)⟩ hV2
    · rw [xUp_n (by omega), xUp_n (by omega), xUp_s]
    · show xUp _ _ _ _ _ _ _ _ _ _ = Lt k' ∧ ∀ j, j < nOf (Lt k') → xUp _ _ _ _ _ _ _ _ _ _ = Nm (k' * 5 + j)
      by_cases e : k' = o
      · subst e
        refine ⟨by rw [xUp_n (by omega), xUp_s]; exact hLt.symm, fun j hj => ?_⟩
        rw [hLt, hn] at hj
        rw [xUp_n (by omega), xUp_n (by omega), xUp_n (by omega)]
        exact o4 j hj
      · refine ⟨by rw [xUp_n (by omega), xUp_n (by omega), xUp_n (by omega)]; exact (o3 k' (by omega)).1, fun j hj => ?_⟩
        rw [xUp_n (by omega), xUp_n (by omega), xUp_n (by omega)]
        exact (o3 k' (by omega)).2 j hj
  | m + 1, k, b', i, di, Nm, hk, hi0, hiL, hO, hV, hd, er => by
    have hn5 := nOf_le c
    refine rX6_order_32 ⟨fun z => absurd z (nle (by omega) (by omega)), fun _ => ?_⟩
    have ex : (5 : Int32) * b' 6 0 0 9 + nI k = nI (5 * o + k) := by rw [hO.2.1, lit 5, pk_mul, nI_add]
    refine cR_number hL hL2 ex hiL hO hV (by omega) hd (fun b1 i1 d1 Nm1 er1 g1 g2 hO1 hV1 nf => ⟨fun _ => ?_, fun z => absurd z (by decide)⟩) (fun b1 f e1 e2 e3 e4 => ⟨fun z => absurd rfl z, fun _ => h2 b1 f (by rw [er]; exact e1) e2 e3 e4⟩)
    rw [nI_1]
    exact lR_order hL hL2 hn hLt h1 h2 m (k + 1) b1 i1 d1 Nm1 (by omega) (by omega) g2 hO1 hV1 (Or.inr nf) (er.trans er1)
theorem cR_order {Q : Int32 → xM → Prop} {o wa gi di i : Nat} {Lt Nm : Row} (hL : b 6 0 0 6 = nI L) (hL2 : L ≤ 120) (hiL : i ≤ L) (hO : OR b b' i o 0 Lt Nm) (hV : Vp i (o, false, wa, gi, di, Lt, Nm)) (h32 : i = L ∨ ¬ b 33 0 0 i = 32) (h00 : i = L → o = 0)
    (h1 : ∀ b'' i' S', rn (b 33 0 0) i (L - i) (o, false, wa, gi, di, Lt, Nm) = rn (b 33 0 0) i' (L - i') S' → i < i' → i' ≤ L → S'.1 = o + 1 → S'.2.1 = false → OR b b'' i' (o + 1) 0 S'.2.2.2.2.2.1 S'.2.2.2.2.2.2 → Vp i' S' → Q 1 (a, (b'', h0)))
    (h2 : ∀ b'' f, (rn (b 33 0 0) i (L - i) (o, false, wa, gi, di, Lt, Nm)).1 = nI f → f ≤ L → b'' 6 0 0 8 = nI f → BF b b'' → Q 0 (a, (b'', h0))) : CI mX6_order [vR 6 0 0] (a, (b', h0)) Q := by
  have stop : (rn (b 33 0 0) i (L - i) (o, false, wa, gi, di, Lt, Nm)).1 = nI i → CI mX6_stopsHere [vR 6 0 0] (a, (b', h0)) (fun r4 μ4 => (r4 = 0 ∨ r4 = 1) ∧ Q r4 μ4) := by
    intro e
    exact eX6_stopsHere ⟨Or.inl rfl, h2 _ i e hiL (by rw [xUp_s]; exact hO.1) (hO.2.2.2.2.up (by omega))⟩
  refine eX6_order (cR_here hL hL2 hO.2.2.2.2 hO.1 hiL (fun z => ?_) (fun z => ?_))
  · refine cR_numbersOf (fun _ => ⟨fun y => absurd rfl y, fun _ => stop ?_⟩) (fun y => absurd (by decide) y)
    subst z
    rw [Nat.sub_self]
    show (if false = true ∨ o = 0 then nI i else -1) = nI i
    rw [if_pos (Or.inr (h00 rfl))]
  · have e32 := h32.resolve_left (by omega)
    have ho : o < 40 := by
      have := hV.1 rfl
      omega
    have hn5 := nOf_le (b 33 0 0 i)
    refine cR_numbersOf (fun y => ⟨fun x => absurd rfl x, fun _ => stop ?_⟩) (fun y => ⟨fun _ => ?_, fun x => absurd x (nIm1 (by omega))⟩)
    · rw [rn_s z]
      have : stp (b 33 0 0 i) (o, false, wa, gi, di, Lt, Nm) = none := by
        unfold stp
        dsimp only
        rw [if_neg e32, if_pos rfl, if_pos (Or.inl y)]
      rw [this]
    · have est : stp (b 33 0 0 i) (o, false, wa, gi, di, Lt, Nm) = some (o, true, nOf (b 33 0 0 i), 0, 0, upd Lt o (b 33 0 0 i), Nm) := by
        unfold stp
        dsimp only
        rw [if_neg e32, if_pos rfl, if_neg (by omega)]
      have hV1 := V_stp hV est
      have er : rn (b 33 0 0) i (L - i) (o, false, wa, gi, di, Lt, Nm) = rn (b 33 0 0) (i + 1) (L - (i + 1)) (o, true, nOf (b 33 0 0 i), 0, 0, upd Lt o (b 33 0 0 i), Nm) := by rw [rn_s z, est]
      dsimp only
      rw [hO.1, nI_1]
      have hO1 : OR b (xUp b' 6 0 0 7 (nI (i + 1))) (i + 1) o 0 (upd Lt o (b 33 0 0 i)) Nm := by
        obtain ⟨o1, o2, o3, o4, o5⟩ := OR_at hO (xUp_s b' 6 0 0 7 (nI (i + 1))) (fun k s w j hk => xUp_n hk)
        refine ⟨o1, o2, fun k hk => ?_, o4, o5⟩
        rw [up_ne _ _ (by omega)]
        exact o3 k hk
      exact lR_order (i0 := i) hL hL2 rfl (up_eq _ _) h1 h2 (nOf (b 33 0 0 i)) 0 _ (i + 1) 0 Nm (by omega) (by omega) (by omega) hO1 hV1 (Or.inl rfl) er
theorem lR_parses {Q : Int32 → xM → Prop} {res : Int32 × PSt} (hL : b 6 0 0 6 = nI L) (hL2 : L ≤ 120) (hq : FinP a b h0 L Q res) : ∀ (m : Nat) (b' : xA) (i o wa gi di : Nat) (Lt Nm : Row), i ≤ L → L - i ≤ m → OR b b' i o 0 Lt Nm → Vp i (o, false, wa, gi, di, Lt, Nm) → (i = L ∨ ¬ b 33 0 0 i = 32) → res = rn (b 33 0 0) i (L - i) (o, false, wa, gi, di, Lt, Nm) → xOk mX6_parses 16 [(0, vR 6 0 0), (1, vI 1)] [] (a, (b', h0)) (qI Q) := by
  intro m
  induction m with
  | zero =>
    intro b' i o wa gi di Lt Nm hiL hm hO hV h32 er
    have hi : i = L := by omega
    subst hi
    rw [Nat.sub_self] at er
    have er : res = (if false = true ∨ o = 0 then nI i else -1, (o, false, wa, gi, di, Lt, Nm)) := er
    have ho : o < 41 := by
      have := hV.1 rfl
      omega
    refine rX6_parses_16 ⟨fun z => absurd z (by decide), fun _ => ?_⟩
    have e6 : b' 6 0 0 6 = nI i := (hO.2.2.2.2 _ _ _ _ (by omega)).trans hL
    rw [hO.2.1, e6, hO.1]
    refine ⟨fun z => ?_, fun z => ⟨fun _ => ⟨Or.inr rfl, ?_⟩, fun y => absurd (Int32.le_refl _) y⟩⟩
    · have ho0 : o = 0 := nqI (by omega) (by decide) z
      refine rX6_parses_38 (cR_order hL hL2 (Nat.le_refl _) hO hV h32 (fun _ => ho0) (fun b1 i1 S1 e1 e2 e3 => by omega) (fun b1 f e1 e2 e3 e4 => ⟨fun _ => rX6_parses_16 ⟨fun _ => ⟨Or.inl rfl, hq.1 b1 f ?_ e2 e3 e4⟩, fun z => absurd rfl z⟩, fun z => absurd rfl z⟩))
      rw [Nat.sub_self] at e1
      rw [er]
      exact e1
    · have ho0 : ¬ o = 0 := fun y => z (by rw [y]; rfl)
      refine hq.2 b' i ?_ ?_
      · rw [er]
        show (if false = true ∨ o = 0 then nI i else -1) = -1
        rw [if_neg (by simp [ho0])]
      · rw [er]; exact hO
  | succ m ih =>
    intro b' i o wa gi di Lt Nm hiL hm hO hV h32 er
    rcases Nat.lt_or_ge i L with hlt | hge
    · have e6 : b' 6 0 0 6 = nI L := (hO.2.2.2.2 _ _ _ _ (by omega)).trans hL
      have go : xOk mX6_parses 38 [(0, vR 6 0 0)] [] (a, (b', h0)) (qI Q) := by
        refine rX6_parses_38 (cR_order hL hL2 hiL hO hV h32 (fun z => by omega) (fun b1 i1 S1 e1 e2 e3 e4 e5 e6 e7 => ⟨fun z => absurd z (by decide), fun _ => ?_⟩) (fun b1 f e1 e2 e3 e4 => ⟨fun _ => rX6_parses_16 ⟨fun _ => ⟨Or.inl rfl, hq.1 b1 f (by rw [er]; exact e1) e2 e3 e4⟩, fun z => absurd rfl z⟩, fun z => absurd rfl z⟩))
        obtain ⟨o1, inO1, wa1, gi1, di1, Lt1, Nm1⟩ := S1
        have e4 : o1 = o + 1 := e4
        have e5 : inO1 = false := e5
        subst e4; subst e5
        refine cR_skips hL hL2 e6.2.2.2.2 e6.1 e3 (fun b2 i2 g1 g2 g3 g4 g5 g6 => ?_)
        have er2 := rn_sk (S := (o + 1, false, wa1, gi1, di1, Lt1, Nm1)) g2 (i2 - i1) i1 (by omega) g3
        have hV2 := Vp_sk e7 g1
        have es : ∃ d2, skS i1 i2 (o + 1, false, wa1, gi1, di1, Lt1, Nm1) = (o + 1, false, wa1, gi1, d2, Lt1, Nm1) := by
          unfold skS
          split
          · exact ⟨_, rfl⟩
          · exact ⟨0, rfl⟩
        obtain ⟨d2, es⟩ := es
        rw [es] at er2 hV2
        exact ih b2 i2 (o + 1) wa1 gi1 d2 Lt1 Nm1 g2 (by omega) (OR_at e6 g5 g6) hV2 g4 (er.trans (e1.trans er2))
      refine rX6_parses_16 ⟨fun z => absurd z (by decide), fun _ => ?_⟩
      rw [hO.2.1, e6, hO.1]
      exact ⟨fun _ => go, fun _ => ⟨fun y => absurd y (nle hlt (by omega)), fun _ => go⟩⟩
    · have hi : i = L := by omega
      exact (by
        subst hi
        rw [Nat.sub_self] at er
        have er : res = (if false = true ∨ o = 0 then nI i else -1, (o, false, wa, gi, di, Lt, Nm)) := er
        have ho : o < 41 := by
          have := hV.1 rfl
          omega
        refine rX6_parses_16 ⟨fun z => absurd z (by decide), fun _ => ?_⟩
        have e6 : b' 6 0 0 6 = nI i := (hO.2.2.2.2 _ _ _ _ (by omega)).trans hL
        rw [hO.2.1, e6, hO.1]
        refine ⟨fun z => ?_, fun z => ⟨fun _ => ⟨Or.inr rfl, ?_⟩, fun y => absurd (Int32.le_refl _) y⟩⟩
        · have ho0 : o = 0 := nqI (by omega) (by decide) z
          refine rX6_parses_38 (cR_order hL hL2 (Nat.le_refl _) hO hV h32 (fun _ => ho0) (fun b1 i1 S1 e1 e2 e3 => by omega) (fun b1 f e1 e2 e3 e4 => ⟨fun _ => rX6_parses_16 ⟨fun _ => ⟨Or.inl rfl, hq.1 b1 f ?_ e2 e3 e4⟩, fun z => absurd rfl z⟩, fun z => absurd rfl z⟩))
          rw [Nat.sub_self] at e1
          rw [er]
          exact e1
        · have ho0 : ¬ o = 0 := fun y => z (by rw [y]; rfl)
          refine hq.2 b' i ?_ ?_
          · rw [er]
            show (if false = true ∨ o = 0 then nI i else -1) = -1
            rw [if_neg (by simp [ho0])]
          · rw [er]; exact hO)
theorem cR_parses {Q : Int32 → xM → Prop} {wa gi di : Nat} {Lt Nm : Row} (hL : b 6 0 0 6 = nI L) (hL2 : L ≤ 120) (hq : FinP a b h0 L Q (rn (b 33 0 0) 0 L (0, false, wa, gi, di, Lt, Nm))) : CI mX6_parses [vR 6 0 0] (a, (b, h0)) Q := by
  have hF : BF b (xUp (xUp b 6 0 0 7 0) 6 0 0 9 0) := BF.up (BF.up (fun _ _ _ _ _ => rfl) (by omega)) (by omega)
  have h7 : xUp (xUp b 6 0 0 7 0) 6 0 0 9 0 6 0 0 7 = nI 0 := by rw [xUp_n (by omega), xUp_s]; rfl
  refine eX6_parses (cR_skips hL hL2 hF h7 (by omega) (fun b2 i2 g1 g2 g3 g4 g5 g6 => ?_))
  have er2 := rn_sk (S := (0, false, wa, gi, di, Lt, Nm)) g2 i2 0 (by omega) g3
  have es : ∃ d2, skS 0 i2 (0, false, wa, gi, di, Lt, Nm) = (0, false, wa, gi, d2, Lt, Nm) := by
    unfold skS
    split
    · exact ⟨_, rfl⟩
    · exact ⟨0, rfl⟩
  obtain ⟨d2, es⟩ := es
  rw [es] at er2
  rw [Nat.sub_zero] at er2
  have hO : OR b b2 i2 0 0 Lt Nm := by
    refine ⟨g5, ?_, fun k hk => by omega, fun j hj => by omega, fun k s w j hk => ?_⟩
    · rw [g6 _ _ _ _ (by omega), xUp_s]; rfl
    · rw [g6 _ _ _ _ (by omega)]; exact hF k s w j hk
  exact lR_parses hL hL2 hq L b2 i2 0 wa gi d2 Lt Nm g2 (by omega) hO ⟨fun _ => by omega, fun z => by cases z⟩ g4 er2
end
