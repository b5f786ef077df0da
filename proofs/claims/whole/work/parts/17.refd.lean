def sv1 (r : Row) (w j p : Nat) : Row := if wf r w 4 = 1 then (if wf r w (10 + 3 * j + p) < 0 then r else upd r (69 + 6 * j + 3 + p) (wf r w (10 + 3 * j + p))) else r
def svR (r : Row) (w : Nat) : Row := sv1 (sv1 (sv1 (sv1 (sv1 (sv1 r w 0 0) w 0 1) w 0 2) w 1 0) w 1 1) w 1 2
def ovR (r : Row) (w : Nat) : Row := uw (uw (uw (uw (svR r w) w 1 0) w 2 0) w 3 0) w 4 0
def en0 (r : Row) (w : Nat) (c : Int32) : Row := uw (uw (uw (uw r w 4 c) w 3 0) w 6 (uw (uw r w 4 c) w 3 0 0)) w 1 2
def enR (r : Row) (w : Nat) (c : Int32) : Row := if wf (en0 r w c) w 2 = 0 then ovR (en0 r w c) w else en0 r w c
def rkI (x : Int32) : Nat → Int32
  | 0 => 0
  | n + 1 => rkI x n + ((x >>> (nI n &&& 31)) &&& 1)
def duB (r : Row) (w p : Nat) : Bool := decide (wf r w 1 = 2) && (lk r w p && decide (wf r w 6 + rkI (wf r w 2) (p + 1) = r 0))
def pm6 (r : Row) (w p n : Nat) : Row := uc (uc (uc (uc (uc (uc r p n 0 1) p n 1 (nI w)) p n 2 (wf (uc (uc r p n 0 1) p n 1 (nI w)) w 0)) p n 3 (-1)) p n 4 (wf r w 4)) p n 5 (wf (uc (uc (uc (uc (uc r p n 0 1) p n 1 (nI w)) p n 2 (wf (uc (uc r p n 0 1) p n 1 (nI w)) w 0)) p n 3 (-1)) p n 4 (wf r w 4)) w (7 + p))
def hm1 (r : Row) (w p : Nat) (c : Int32) (k : Nat) : Row := if ce r p k 0 = 0 ∧ ce r p k 1 = nI w ∧ ce r p k 5 = 1 then uc r p k 5 (if c = 1 then 2 else 3) else r
def hmF (w p : Nat) (c : Int32) : Row → Nat → Nat → Row
  | r, _, 0 => r
  | r, k, m + 1 => hmF w p c (hm1 r w p c k) (k + 1) m
def wm2 (r : Row) (w p : Nat) : Row := uw r w 3 (wf r w 3 ||| ((1 : Int32) <<< (nI p &&& 31)))
def wm1 (r : Row) (w p : Nat) : Row := wm2 (upd r (66 + p) (r (66 + p) + 1)) w p
def wm0 (r : Row) (w p n : Nat) : Row := wm1 (hmF w p (wf r w 4) (pm6 r w p n) 0 n) w p
def wmR (r : Row) (w p : Nat) : Row := if wf (wm0 r w p (szN r p)) w 3 = wf (wm0 r w p (szN r p)) w 2 then ovR (wm0 r w p (szN r p)) w else wm0 r w p (szN r p)
section
variable {a b : xA} {h0 : Int64}
theorem lR_isOver1 {Q : xM → Prop} {r : Row} {w j p : Nat} (hw : w < 4) (hj : j < 2) (hp : p < 3) (hn : xOk mX6_isOver 9 [(0, vR 6 0 0), (1, vI (nI w)), (2, vI (nI j)), (3, vI (nI (p + 1)))] [] (mN a b (sv1 r w j p) h0) (qV Q)) : xOk mX6_isOver 9 [(0, vR 6 0 0), (1, vI (nI w)), (2, vI (nI j)), (3, vI (nI p))] [] (mN a b r h0) (qV Q) := by
  refine rX6_isOver_9 ⟨fun z => absurd z (n3 hp), fun _ => ?_⟩
  rw [nI_1]
  have e : ((10 : Int32) + ((3 : Int32) * nI j)) + nI p = nI (10 + 3 * j + p) := by rw [lit 10, lit 3, pk_mul, nI_add, nI_add]
  have e2 : (((69 : Int32) + ((6 : Int32) * nI j)) + (3 : Int32)) + nI p = nI (69 + 6 * j + 3 + p) := by rw [lit 69, lit 6, lit 3, pk_mul, nI_add, nI_add, nI_add]
  unfold sv1 at hn
  refine cR_of rfl e hw (by omega) (cR_of (f := 4) rfl rfl hw (by decide) ⟨fun y => ?_, fun y => ⟨fun x => ?_, fun x => ?_⟩⟩)
  · rw [if_neg y] at hn; exact hn
  · rw [if_pos y, if_pos x] at hn; exact hn
  · rw [if_pos y, if_neg x] at hn
    rw [e2]
    refine ⟨vp_in_nI (by omega) (by decide), ?_⟩
    rw [nI_clamp (by omega)]
    show xOk mX6_isOver 9 _ _ (a, (xUp (xNow b r) 30 0 0 _ _, h0)) _
    rw [xNow_up]
    exact hn
theorem cR_isOver {Q : xM → Prop} {r : Row} {x1 : Int32} {w : Nat} (e1 : x1 = nI w) (hw : w < 4) (hq : Q (mN a b (ovR r w) h0)) : CV mX6_isOver [vR 6 0 0, vI x1] (mN a b r h0) Q := by
  subst e1
  refine eX6_isOver (rX6_isOver_2 ⟨fun z => absurd z (by decide), fun _ => ?_⟩)
  refine lR_isOver1 (j := 0) (p := 0) hw (by decide) (by decide) (lR_isOver1 (j := 0) (p := 1) hw (by decide) (by decide) (lR_isOver1 (j := 0) (p := 2) hw (by decide) (by decide) ?_))
  refine rX6_isOver_9 ⟨fun _ => ?_, fun z => absurd (by decide) z⟩
  refine rX6_isOver_2 ⟨fun z => absurd z (by decide), fun _ => ?_⟩
  refine lR_isOver1 (j := 1) (p := 0) hw (by decide) (by decide) (lR_isOver1 (j := 1) (p := 1) hw (by decide) (by decide) (lR_isOver1 (j := 1) (p := 2) hw (by decide) (by decide) ?_))
  refine rX6_isOver_9 ⟨fun _ => ?_, fun z => absurd (by decide) z⟩
  refine rX6_isOver_2 ⟨fun _ => ?_, fun z => absurd (by decide) z⟩
  exact cR_lays (f := 1) rfl rfl hw (by decide) (cR_lays (f := 2) rfl rfl hw (by decide) (cR_lays (f := 3) rfl rfl hw (by decide) (cR_lays (f := 4) rfl rfl hw (by decide) hq)))
theorem cR_endDeed {Q : xM → Prop} {r : Row} {x1 c : Int32} {w : Nat} (e1 : x1 = nI w) (hw : w < 4) (hq : Q (mN a b (enR r w c) h0)) : CV mX6_endDeed [vR 6 0 0, vI x1, vI c] (mN a b r h0) Q := by
  unfold enR at hq
  refine eX6_endDeed (cR_lays (f := 4) e1 rfl hw (by decide) (cR_lays (f := 3) e1 rfl hw (by decide) ⟨vp_in_nI (n := 0) (by decide) (by decide), cR_lays (f := 6) e1 rfl hw (by decide) (cR_lays (f := 1) e1 rfl hw (by decide) (cR_of (f := 2) e1 rfl hw (by decide) ⟨fun y => ?_, fun y => ?_⟩))⟩))
  · have y : ¬ wf (en0 r w c) w 2 = 0 := y
    rw [if_neg y] at hq; exact hq
  · have y : wf (en0 r w c) w 2 = 0 := y
    rw [if_pos y] at hq; exact cR_isOver e1 hw hq
theorem cR_rank {Q : Int32 → xM → Prop} {r : Row} {x1 x2 : Int32} {w p : Nat} (e1 : x1 = nI w) (e2 : x2 = nI p) (hw : w < 4) (hp : p < 3) (hq : Q (rkI (wf r w 2) (p + 1)) (mN a b r h0)) : CI mX6_rank [vR 6 0 0, vI x1, vI x2] (mN a b r h0) Q := by
  subst e1; subst e2
  have key : ∀ m k, k + m = p + 1 → xOk mX6_rank 5 [(0, vR 6 0 0), (1, vI (nI w)), (2, vI (nI p)), (3, vI (rkI (wf r w 2) k)), (4, vI (nI k))] [] (mN a b r h0) (qI Q) := by
    intro m
    induction m with
    | zero =>
      intro k hk
      have hk : k = p + 1 := hk
      subst hk
      exact rX6_rank_5 ⟨fun _ => hq, fun z => absurd (nI_lt (by omega) (by omega)) z⟩
    | succ m ih =>
      intro k hk
      refine rX6_rank_5 ⟨fun z => absurd z (nI_nlt (by omega) (by omega)), fun _ => cR_of (f := 2) rfl rfl hw (by decide) ?_⟩
      rw [nI_1]
      exact ih (k + 1) (by omega)
  exact eX6_rank (key (p + 1) 0 (by omega))
theorem cR_isDue {Q : Int32 → xM → Prop} {r : Row} {x1 x2 : Int32} {w p : Nat} (e1 : x1 = nI w) (e2 : x2 = nI p) (hw : w < 4) (hp : p < 3) (h1 : duB r w p = true → Q 1 (mN a b r h0)) (h2 : duB r w p = false → Q 0 (mN a b r h0)) : CI mX6_isDue [vR 6 0 0, vI x1, vI x2] (mN a b r h0) Q := by
  refine eX6_isDue (cR_of (f := 1) e1 rfl hw (by decide) ⟨fun z => h2 (by simp [duB, z]), fun z => ?_⟩)
  refine cR_lacksMark e1 e2 hw (fun y => ⟨fun q => absurd q (by decide), fun _ => ?_⟩) (fun y => ⟨fun _ => h2 (by simp [duB, y]), fun q => absurd rfl q⟩)
  refine cR_of (f := 6) e1 rfl hw (by decide) (cR_rank e1 e2 hw hp ⟨vp_in_nI (n := 0) (by decide) (by decide), ⟨fun x => h2 ?_, fun x => h1 ?_⟩⟩)
  · have x2 : ¬ wf r w 6 + rkI (wf r w 2) (p + 1) = r 0 := x
    simp [duB, x2]
  · have x2 : wf r w 6 + rkI (wf r w 2) (p + 1) = r 0 := x
    simp [duB, x2, y, z]
theorem lR_writeMark {Q : xM → Prop} {w p n : Nat} {c : Int32} (hw : w < 4) (hp : p < 3) (hn : n ≤ 48) : ∀ (m k : Nat) (r : Row), k + m = n → Q (mN a b (if wf (wm1 (hmF w p c r k m) w p) w 3 = wf (wm1 (hmF w p c r k m) w p) w 2 then ovR (wm1 (hmF w p c r k m) w p) w else wm1 (hmF w p c r k m) w p) h0) → xOk mX6_writeMark 79 [(0, vR 6 0 0), (1, vI (nI w)), (2, vI (nI p)), (3, vI (nI n)), (4, vI c), (5, vI (nI k))] [] (mN a b r h0) (qV Q)
  | 0, k, r, hk, hq => by
    have e66 : (66 : Int32) + nI p = nI (66 + p) := by rw [lit 66, nI_add]
    refine rX6_writeMark_79 ⟨fun _ => ?_, fun z => absurd (nI_le (by omega) (by omega)) z⟩
    rw [e66]
    refine ⟨vp_in_nI (by omega) (by decide), vp_in_nI (by omega) (by decide), ?_⟩
    rw [nI_clamp (by omega), xNow_up]
    refine cR_of (f := 3) rfl rfl hw (by decide) (cR_lays (f := 3) rfl rfl hw (by decide) (cR_of (f := 3) rfl rfl hw (by decide) (cR_of (f := 2) rfl rfl hw (by decide) ⟨fun y => ?_, fun y => ?_⟩)))
    · rw [if_neg (by exact y)] at hq; exact hq
    · rw [if_pos (by exact y)] at hq; exact cR_isOver rfl hw hq
  | m + 1, k, r, hk, hq => by
    have go : ∀ r', hm1 r w p c k = r' → xOk mX6_writeMark 79 [(0, vR 6 0 0), (1, vI (nI w)), (2, vI (nI p)), (3, vI (nI n)), (4, vI c), (5, vI (nI k + 1))] [] (mN a b r' h0) (qV Q) := by
      intro r' e
      subst e
      rw [nI_1]
      exact lR_writeMark hw hp hn m (k + 1) _ (by omega) hq
    refine rX6_writeMark_79 ⟨fun z => absurd z (nI_ge (by omega) (by omega)), fun _ => ?_⟩
    refine cR_cellOf (f := 0) rfl rfl rfl hp (by omega) (by decide) ⟨fun y0 => go r (by simp [hm1, y0]), fun y0 => ?_⟩
    refine cR_cellOf (f := 1) rfl rfl rfl hp (by omega) (by decide) ⟨fun y1 => go r (by simp [hm1, y1]), fun y1 => ?_⟩
    refine cR_cellOf (f := 5) rfl rfl rfl hp (by omega) (by decide) ⟨fun y5 => go r (by simp [hm1, y5]), fun y5 => ⟨fun yc => ?_, fun yc => ?_⟩⟩
    · exact cR_put (f := 5) rfl rfl rfl hp (by omega) (by decide) (go _ (by simp [hm1, y0, y1, y5, yc]))
    · exact cR_put (f := 5) rfl rfl rfl hp (by omega) (by decide) (go _ (by simp [hm1, y0, y1, y5, yc]))
theorem cR_writeMark {Q : xM → Prop} {r : Row} {x1 x2 : Int32} {w p : Nat} (e1 : x1 = nI w) (e2 : x2 = nI p) (hw : w < 4) (hp : p < 3) (hs : r (66 + p) = nI (szN r p)) (hn : szN r p < 48) (hq : Q (mN a b (wmR r w p) h0)) : CV mX6_writeMark [vR 6 0 0, vI x1, vI x2] (mN a b r h0) Q := by
  subst e1; subst e2
  refine eX6_writeMark (cR_sizeOf rfl hp ?_)
  rw [hs]
  have e7 : (7 : Int32) + nI p = nI (7 + p) := by rw [lit 7, nI_add]
  refine cR_of (f := 4) rfl rfl hw (by decide) (cR_put (f := 0) rfl rfl rfl hp hn (by decide) (cR_put (f := 1) rfl rfl rfl hp hn (by decide) (cR_of (f := 0) rfl rfl hw (by decide) (cR_put (f := 2) rfl rfl rfl hp hn (by decide) (cR_put (f := 3) rfl rfl rfl hp hn (by decide) (cR_put (f := 4) rfl rfl rfl hp hn (by decide) (cR_of rfl e7 hw (by omega) (cR_put (f := 5) rfl rfl rfl hp hn (by decide) ?_))))))))
  exact lR_writeMark hw hp (by omega) (szN r p) 0 _ (by omega) hq
end
