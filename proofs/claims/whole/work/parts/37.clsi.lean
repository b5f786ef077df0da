/-! the class's orders -/
def erM (a : xA) (i : Nat) : xA := xUp a 25 0 0 i (a 25 0 0 i + 1)
def nq (a : xA) (q : Nat) : Nat := if a 5 0 0 8 = 0 then pq q else q
def nR (a : xA) (q : Nat) (R : Nat → Row) (r : Row) : Nat → Row := if a 5 0 0 8 = 0 then pR q R r else R
def AP (a : xA) (q : Nat) (R : Nat → Row) (r : Row) (T : Nat) (o : Oc) (a' : xA) : Prop := (o.2.1 < 5 ∧ a' = erM a o.2.1) ∨ (o.2.1 = 5 ∧ a' = a) ∨ (o.2.1 = 6 ∧ CR a' o.2.2 T ∧ KC a' (nq a q) (nR a q R r) o.2.2 T ∧ Kf a a')
theorem Kf.trans {a a' a'' : xA} (h : Kf a a') (h' : Kf a' a'') : Kf a a'' := fun k s w j hk => (h' k s w j hk).trans (h k s w j hk)
theorem Fr.Kf {a a' : xA} {r r' : Row} (h : Fr a a' r r') : Kf a a' := fun k s w j hk => h.1 k s w j (by omega)
section
variable {a b : xA} {h0 : Int64} {r : Row} {T T' q : Nat} {R : Nat → Row}
theorem cE {Q : Int32 → xM → Prop} {o : Oc} {x : Int32} {i : Nat} {r' : Row} (hq : ∀ a', AP a q R r T' o a' → Q o.1 (a', (b, h0))) (ho : o = (x, i, r')) (hi : i < 5) : Q x (erM a i, (b, h0)) := by
  subst ho
  exact hq _ (Or.inl ⟨hi, rfl⟩)
theorem cN5 {Q : Int32 → xM → Prop} {o : Oc} {x : Int32} {r' : Row} (hq : ∀ a', AP a q R r T' o a' → Q o.1 (a', (b, h0))) (ho : o = (x, 5, r')) : Q x (a, (b, h0)) := by
  subst ho
  exact hq _ (Or.inr (Or.inl ⟨rfl, rfl⟩))
theorem cK6 {Q : Int32 → xM → Prop} {o : Oc} {x : Int32} {r' : Row} (hq : ∀ a', AP a q R r T' o a' → Q o.1 (a', (b, h0))) (ho : o = (x, 6, r')) {a1 a' : xA} (hI : RI r T') (hK : KC a1 (nq a q) (nR a q R r) r T') (hf : Kf a a1) (hC : CR a' r' T') (hF : Fr a1 a' r r') : Q x (a', (b, h0)) := by
  subst ho
  exact hq _ (Or.inr (Or.inr ⟨rfl, hC, KC_Fr hK hI hF, hf.trans hF.Kf⟩))
theorem cC_keep {Q : xM → Prop} (h : CR a r T) (hK : KC a q R r T) (hq : ∀ a1, CR a1 r T → KC a1 (nq a q) (nR a q R r) r T → Kf a a1 → Q (a1, (b, h0))) : CV mX5_keep [vR 5 0 0] (a, (b, h0)) Q := by
  obtain ⟨k1, k2, e, e6, k3, k4, k5, k6⟩ := id hK
  unfold nq nR at hq
  by_cases hf : a 5 0 0 8 = 0
  · simp only [if_pos hf] at hq
    obtain ⟨z1, z2, z3⟩ := kp_KC h k1 e6 k4 k5 k6
    exact cC_keep0 hf k3 e6 k2 k1 (hq _ z1 z2 z3)
  · simp only [if_neg hf] at hq
    exact eX5_keep ⟨fun z => absurd z hf, fun _ => hq a h hK (fun _ _ _ _ _ => rfl)⟩
theorem cC_failed {Q : Int32 → xM → Prop} {x : Int32} {i : Nat} (hx : (x = -2 ∧ i = 0) ∨ (x = -6 ∧ i = 1) ∨ (x = -3 ∧ i = 2) ∨ (x = -7 ∧ i = 3) ∨ (x = -4 ∧ i = 4)) (hq : Q x (erM a i, (b, h0))) : CI mX5_failed [vR 5 0 0, vI x] (a, (b, h0)) Q := by
  have v0 : vp_in 0 5 := vp_in_nI (n := 0) (by decide) (by decide)
  have v1 : vp_in 1 5 := vp_in_nI (n := 1) (by decide) (by decide)
  have v2 : vp_in 2 5 := vp_in_nI (n := 2) (by decide) (by decide)
  have v3 : vp_in 3 5 := vp_in_nI (n := 3) (by decide) (by decide)
  have v4 : vp_in 4 5 := vp_in_nI (n := 4) (by decide) (by decide)
  rcases hx with ⟨rfl, rfl⟩ | ⟨rfl, rfl⟩ | ⟨rfl, rfl⟩ | ⟨rfl, rfl⟩ | ⟨rfl, rfl⟩
  · exact eX5_failed ⟨fun z => absurd z (by decide), fun _ => ⟨fun z => absurd z (by decide), fun _ => ⟨fun z => absurd z (by decide), fun _ => ⟨fun _ => ⟨v0, v0, hq⟩, fun z => absurd rfl z⟩⟩⟩⟩
  · exact eX5_failed ⟨fun z => absurd z (by decide), fun _ => ⟨fun _ => ⟨v1, v1, hq⟩, fun z => absurd rfl z⟩⟩
  · exact eX5_failed ⟨fun z => absurd z (by decide), fun _ => ⟨fun z => absurd z (by decide), fun _ => ⟨fun _ => ⟨v2, v2, hq⟩, fun z => absurd rfl z⟩⟩⟩
  · exact eX5_failed ⟨fun _ => ⟨v3, v3, hq⟩, fun z => absurd rfl z⟩
  · exact eX5_failed ⟨fun z => absurd z (by decide), fun _ => ⟨fun z => absurd z (by decide), fun _ => ⟨fun z => absurd z (by decide), fun _ => ⟨fun z => absurd z (by decide), fun _ => ⟨v4, v4, hq⟩⟩⟩⟩⟩
theorem cF2 {Q : Int32 → xM → Prop} {o : Oc} (hq : ∀ a', AP a q R r T' o a' → Q o.1 (a', (b, h0))) (ho : o = (-2, 0, r)) : CI mX5_failed [vR 5 0 0, vI (-2)] (a, (b, h0)) Q := cC_failed (i := 0) (by simp) (cE hq ho (by decide))
theorem cF6 {Q : Int32 → xM → Prop} {o : Oc} (hq : ∀ a', AP a q R r T' o a' → Q o.1 (a', (b, h0))) (ho : o = (-6, 1, r)) : CI mX5_failed [vR 5 0 0, vI (-6)] (a, (b, h0)) Q := cC_failed (i := 1) (by simp) (cE hq ho (by decide))
theorem cF3 {Q : Int32 → xM → Prop} {o : Oc} (hq : ∀ a', AP a q R r T' o a' → Q o.1 (a', (b, h0))) (ho : o = (-3, 2, r)) : CI mX5_failed [vR 5 0 0, vI (-3)] (a, (b, h0)) Q := cC_failed (i := 2) (by simp) (cE hq ho (by decide))
theorem cF7 {Q : Int32 → xM → Prop} {o : Oc} (hq : ∀ a', AP a q R r T' o a' → Q o.1 (a', (b, h0))) (ho : o = (-7, 3, r)) : CI mX5_failed [vR 5 0 0, vI (-7)] (a, (b, h0)) Q := cC_failed (i := 3) (by simp) (cE hq ho (by decide))
theorem cF4 {Q : Int32 → xM → Prop} {o : Oc} (hq : ∀ a', AP a q R r T' o a' → Q o.1 (a', (b, h0))) (ho : o = (-4, 4, r)) : CI mX5_failed [vR 5 0 0, vI (-4)] (a, (b, h0)) Q := cC_failed (i := 4) (by simp) (cE hq ho (by decide))
theorem out_iff {x : Int32} {n : Nat} (hn : n + 1 < 2 ^ 31) : ¬ x < nI (n + 1) ↔ nI n < x := by
  rw [Int32.lt_iff_toInt_lt, Int32.lt_iff_toInt_lt, nI_toInt hn, nI_toInt (by omega)]
  omega
theorem cC_out {Q : Int32 → xM → Prop} {μ : xM} {x : Int32} {n : Nat} (hn : n + 1 < 2 ^ 31) (h1 : x < 0 ∨ nI n < x → Q 1 μ) (h2 : ∀ k, k ≤ n → x = nI k → Q 0 μ) : CI mX5_outside [vI x, vI (nI (n + 1))] μ Q := by
  refine cC_outside (fun z => h1 (z.imp id (fun y => (out_iff hn).mp y))) (fun z y => ?_)
  obtain ⟨k, hk, e⟩ := inN (n := n) (by omega) z (fun q => (out_iff hn).mpr q y)
  exact h2 k hk e
theorem cC_wrongAge {Q : Int32 → xM → Prop} {x y : Int32} (hP : PS a 0 r) (h1 : badAge r x y → Q 1 (a, (b, h0))) (h2 : ∀ w, w < 4 → x = nI w → ¬ badAge r x y → Q 0 (a, (b, h0))) : CI mX5_wrongAge [vR 5 0 0, vI x, vI y] (a, (b, h0)) Q := by
  refine eX5_wrongAge (cC_out (n := 3) (by decide) (fun z => ⟨fun _ => h1 (Or.inl z), fun q => absurd q (by decide)⟩) (fun w hw e => ⟨fun q => absurd rfl q, fun _ => ⟨fun z => h1 (Or.inr (Or.inl z)), fun z => ?_⟩⟩))
  subst e
  have ew : (nI w).toNatClampNeg = w := nI_clamp (by omega)
  refine ⟨vp_in_nI (by omega) (by decide), ?_⟩
  show (y ≤ a 2 0 (nI w).toNatClampNeg 0 → _) ∧ (¬ y ≤ a 2 0 (nI w).toNatClampNeg 0 → _)
  rw [ew, (hP.2.2.1 w (by omega)).1]
  refine ⟨fun u => h2 w (by omega) rfl ?_, fun u => h1 (Or.inr (Or.inr (by rw [ew]; exact Int32.not_le.mp u)))⟩
  rintro (v | v | v)
  · exact nI3 (by omega) v
  · exact z v
  · rw [ew] at v; exact Int32.not_le.mpr v u
theorem CR_P (h : CR a r T) : PS a 0 r := h.1.2.1
theorem CR_w {w : Nat} (h : CR a r T) (hw : w < 4) : PP a 0 r w := h.1.2.1.2.2.1 w hw
/-- a producer's number that no other law speaks of -/
theorem CR_f {w f j : Nat} {v : Int32} (h : CR a r T) (hw : w < 4) (hf : (f = 0 ∧ j = 0) ∨ (f = 5 ∧ j = 3)) : CR (xUp a 2 0 w j v) (uw r w f v) T ∧ Fr a (xUp a 2 0 w j v) r (uw r w f v) := by
  obtain ⟨⟨hI, hP, hL⟩, hU⟩ := h
  have hf16 : f < 16 := by omega
  have mO : ∀ k s w' i, ¬ (k = 2 ∧ s = 0 ∧ w' = w ∧ i = j) → xUp a 2 0 w j v k s w' i = a k s w' i := fun k s w' i h => by unfold xUp; rw [if_neg h]
  have hsz : ∀ p, p < 3 → uw r w f v (66 + p) = r (66 + p) := fun p hp => hi_uw r v hw hf16 (by omega)
  have oth : ∀ w' f', f' < 16 → ¬ (w' = w ∧ f' = f) → wf (uw r w f v) w' f' = wf r w' f' := fun w' f' hf' hne => by rw [wf_uw _ _ hf16 hf', if_neg hne]
  have hlk : ∀ w' p, lk (uw r w f v) w' p = lk r w' p := fun w' p => lk_of (oth w' 1 (by decide) (by omega)) (oth w' 2 (by decide) (by omega)) (oth w' 3 (by decide) (by omega))
  obtain ⟨p1, p2, p3, p4⟩ := hP
  refine ⟨⟨⟨RI_f hI hw (by omega), ⟨?_, ?_, fun w' hw' => ?_, fun j' hj p hp => ?_⟩, fun p hp => ?_⟩, ?_⟩, fun k s w' i hk => mO _ _ _ _ (by omega), fun p hp => ?_⟩
  · rw [mO _ _ _ _ (by omega), lo_uw r v (by omega)]; exact p1
  · rw [mO _ _ _ _ (by omega), lo_uw r v (by omega)]; exact p2
  · by_cases e : w' = w
    · subst e
      obtain ⟨q1, q2, q3, q4, q5, q6, q7, q8⟩ := p3 w' hw
      refine ⟨?_, ?_, ?_, ?_, fun p hp => ?_, fun p hp z => ?_, fun p hp => ?_, fun k hk => ?_⟩
      · rcases hf with ⟨rfl, rfl⟩ | ⟨rfl, rfl⟩
        · rw [xUp_s, wf_uw _ _ (by decide) (by decide), if_pos ⟨rfl, rfl⟩]
        · rw [mO _ _ _ _ (by omega), oth w' 0 (by decide) (by omega)]; exact q1
      · rw [mO _ _ _ _ (by omega), oth w' 1 (by decide) (by omega)]; exact q2
      · rw [mO _ _ _ _ (by omega), oth w' 4 (by decide) (by omega)]; exact q3
      · rcases hf with ⟨rfl, rfl⟩ | ⟨rfl, rfl⟩
        · rw [mO _ _ _ _ (by omega), oth w' 5 (by decide) (by omega)]; exact q4
        · rw [xUp_s, wf_uw _ _ (by decide) (by decide), if_pos ⟨rfl, rfl⟩]
      · rw [mO _ _ _ _ (by omega), oth w' 2 (by decide) (by omega)]; exact q5 p hp
      · rw [oth w' 2 (by decide) (by omega)] at z
        rw [mO _ _ _ _ (by omega), oth w' (7 + p) (by omega) (by omega)]; exact q6 p hp z
      · rw [mO _ _ _ _ (by omega), oth w' 1 (by decide) (by omega), oth w' 2 (by decide) (by omega), oth w' 6 (by decide) (by omega), hlk]; exact q7 p hp
      · rw [mO _ _ _ _ (by omega), oth w' 1 (by decide) (by omega), oth w' (10 + k) (by omega) (by omega)]; exact q8 k hk
    · exact PP_of (p3 w' hw') (fun f' hf' => oth w' f' hf' (fun z => e z.1)) (fun k i hk => mO _ _ _ _ (fun z => e z.2.2.1))
  · rw [mO _ _ _ _ (by omega), mO _ _ _ _ (by omega), hi_uw r v hw hf16 (by omega), hi_uw r v hw hf16 (by omega)]; exact p4 j' hj p hp
  · refine PL_of (hL p hp) (szN_of (hsz p hp)) (fun k h1 h2 i => mO _ _ _ _ (by omega)) (fun k hk f' hf' => ce_uw r v hw hf16) (fun w' hw' z => ?_) (fun w' hw' z => ?_)
    · rw [hlk]; exact ⟨z, mO _ _ _ _ (by omega)⟩
    · rw [hlk] at z; exact ⟨z, mO _ _ _ _ (by omega)⟩
  · exact CU_of hU hsz (fun p hp k hk i => mO _ _ _ _ (by omega))
  · rw [szN_of (hsz p hp)]
    exact ⟨Nat.le_refl _, LE_of (fun k h1 h2 i => mO _ _ _ _ (by omega))⟩
theorem cC_begins {Q : Int32 → xM → Prop} {x : Int32} (h : CR a r T) (hK : KC a q R r T) (hq : ∀ a', AP a q R r T (oBegins r x) a' → Q (oBegins r x).1 (a', (b, h0))) : CI mX5_begins [vR 5 0 0, vI x] (a, (b, h0)) Q := by
  refine eX5_begins (cC_out (n := 3) (by decide) (fun z => ⟨fun q => absurd q (by decide), fun _ => cF2 hq (by rw [oBegins, if_pos (show x < 0 ∨ 3 < x from z)])⟩) (fun w hw e => ⟨fun _ => ?_, fun q => absurd rfl q⟩))
  subst e
  have hw4 : w < 4 := by omega
  have hv := nI3 hw4
  obtain ⟨q1, q2, -⟩ := CR_w h hw4
  have ew : (nI w).toNatClampNeg = w := nI_clamp (by omega)
  refine ⟨vp_in_nI hw4 (by decide), ?_⟩
  dsimp only
  rw [ew, q1, q2]
  refine ⟨fun y => ⟨fun x => ?_, fun x => cF4 hq (by simp [oBegins, hv, ew, y, x])⟩, fun y => cF3 hq (by simp [oBegins, hv, ew, y])⟩
  refine cC_keep h hK (fun a1 c1 k1 f1 => ?_)
  obtain ⟨p1, p2, -⟩ := CR_w c1 hw4
  dsimp only
  rw [p1]
  obtain ⟨c2, f2⟩ := CR_f (f := 0) (j := 0) (v := wf r w 0 + 1) c1 hw4 (by simp)
  obtain ⟨s1, s2, -⟩ := CR_w c2 hw4
  rw [s2]
  refine ⟨fun u => ?_, fun u => ?_⟩
  · rw [s1]
    exact cK6 hq (by simp [oBegins, hv, ew, y, x, bgR, u]) h.1.1 k1 f1 c2 f2
  · refine cC_endDeed c2 hw4 u (Or.inl rfl) (fun a' c3 f3 => ?_)
    obtain ⟨t1, -⟩ := CR_w c3 hw4
    dsimp only
    rw [t1]
    exact cK6 hq (by simp [oBegins, hv, ew, y, x, bgR, u]) h.1.1 k1 f1 c3 (f2.trans f3)
theorem cC_ends {Q : Int32 → xM → Prop} {x y c : Int32} (h : CR a r T) (hK : KC a q R r T) (hq : ∀ a', AP a q R r T (oEnds r x y c) a' → Q (oEnds r x y c).1 (a', (b, h0))) : CI mX5_ends [vR 5 0 0, vI x, vI y, vI c] (a, (b, h0)) Q := by
  refine eX5_ends (cC_wrongAge (CR_P h) (fun z => ⟨fun _ => cF2 hq (by rw [oEnds, if_pos (Or.inl z)]), fun q => absurd q (by decide)⟩) (fun w hw e hb => ⟨fun q => absurd rfl q, fun _ => ?_⟩))
  refine cC_out (n := 1) (by decide) (fun z => ⟨fun q => absurd q (by decide), fun _ => cF2 hq (by rw [oEnds, if_pos (Or.inr (show c < 0 ∨ 1 < c from z))])⟩) (fun c' hc ec => ⟨fun _ => ?_, fun q => absurd rfl q⟩)
  subst e; subst ec
  have hb2 : ¬ (badAge r (nI w) y ∨ (nI c' < 0 ∨ 1 < nI c')) := fun z => z.elim hb (nI1 (by omega))
  obtain ⟨q1, q2, -⟩ := CR_w h hw
  have ew : (nI w).toNatClampNeg = w := nI_clamp (by omega)
  refine ⟨vp_in_nI hw (by decide), ?_⟩
  dsimp only
  rw [ew, q1, q2]
  refine ⟨fun u => ⟨fun v => ?_, fun v => cF3 hq (by rw [oEnds, if_neg hb2, ew, if_pos u, if_neg v])⟩, fun u => cF6 hq (by rw [oEnds, if_neg hb2, ew, if_neg u])⟩
  refine cC_keep h hK (fun a1 c1 k1 f1 => cC_endDeed c1 hw v ?_ (fun a' c3 f3 => cK6 hq (by rw [oEnds, if_neg hb2, ew, if_pos u, if_pos v]) h.1.1 k1 f1 c3 f3))
  have : c' = 0 ∨ c' = 1 := by omega
  rcases this with rfl | rfl
  · exact Or.inl rfl
  · exact Or.inr rfl
end
