theorem cN_le (P : Nat → Bool) : ∀ (m k : Nat), cN P k m ≤ m
  | 0, k => Nat.le_refl _
  | m + 1, k => by
    have := cN_le P m (k + 1)
    unfold cN
    split <;> omega
section
variable {a b : xA} {r : Row} {h0 : Int64}
theorem lR_writes {Q : Int32 → xM → Prop} {r : Row} {w p n : Nat} {x v d y : Int32} (hw : w < 4) (hp : p < 3) (hn : n < 48) (hd : (y = 0 → d = 0) ∧ (¬ y = 0 → d = 1)) (hq : Q (nI n) (mN a b (wr1 r w p n x v d) h0)) : xOk mX6_writes 69 [(0, vR 6 0 0), (1, vI (nI w)), (2, vI (nI p)), (3, vI x), (4, vI v), (5, vI (nI n)), (6, vI y)] [] (mN a b r h0) (qI Q) := by
  have e66 : (66 : Int32) + nI p = nI (66 + p) := by rw [lit 66, nI_add]
  have fin : ∀ d : Int32, ∀ r : Row, Q (nI n) (mN a b (upd (uc r p n 5 d) (66 + p) (uc r p n 5 d (66 + p) + 1)) h0) → xOk mX6_writes 135 [(0, vR 6 0 0), (2, vI (nI p)), (5, vI (nI n))] [vI d, vI 5, vI (nI n), vI (nI p), vR 6 0 0] (mN a b r h0) (qI Q) := by
    intro d r hq
    refine rX6_writes_135 (cR_put (f := 5) rfl rfl rfl hp hn (by decide) ?_)
    rw [e66]
    refine ⟨vp_in_nI (by omega) (by decide), vp_in_nI (by omega) (by decide), ?_⟩
    rw [nI_clamp (by omega), xNow_up]
    exact hq
  refine rX6_writes_69 (cR_put (f := 0) rfl rfl rfl hp hn (by decide) (cR_put (f := 1) rfl rfl rfl hp hn (by decide) (cR_of (f := 0) rfl rfl hw (by decide) (cR_put (f := 2) rfl rfl rfl hp hn (by decide) (cR_put (f := 3) rfl rfl rfl hp hn (by decide) (cR_put (f := 4) rfl rfl rfl hp hn (by decide) ⟨fun z => ?_, fun z => ?_⟩))))))
  · have e := hd.1 z
    subst e
    exact fin 0 _ hq
  · have e := hd.2 z
    subst e
    exact fin 1 _ hq
theorem cR_writes {Q : Int32 → xM → Prop} {x1 x2 x v : Int32} {w p : Nat} (e1 : x1 = nI w) (e2 : x2 = nI p) (hw : w < 4) (hp : p < 3) (hs : r (66 + p) = nI (szN r p)) (hn : szN r p < 48) (hq : Q (nI (szN r p)) (mN a b (wrR r w p x v) h0)) : CI mX6_writes [vR 6 0 0, vI x1, vI x2, vI x, vI v] (mN a b r h0) Q := by
  subst e1; subst e2
  refine eX6_writes (cR_sizeOf rfl hp ?_)
  rw [hs]
  have e7 : (7 : Int32) + nI p = nI (7 + p) := by rw [lit 7, nI_add]
  refine cR_of (f := 1) rfl rfl hw (by decide) ⟨fun z => ?_, fun z => ?_⟩
  · refine rX6_writes_22 ⟨fun _ => ?_, fun q => absurd rfl q⟩
    have e : wrR r w p x v = wr1 r w p (szN r p) x v 0 := by simp [wrR, wr0, z]
    rw [e] at hq
    exact lR_writes hw hp hn ⟨fun _ => rfl, fun q => absurd rfl q⟩ hq
  · refine rX6_writes_22 ⟨fun q => absurd q (by decide), fun _ => ?_⟩
    refine cR_of (f := 2) rfl rfl hw (by decide) (cR_has rfl (fun y => ⟨fun _ => ?_, fun q => absurd q (by decide)⟩) (fun y => ⟨fun q => absurd rfl q, fun _ => ?_⟩))
    · have e : wrR r w p x v = wr1 r w p (szN r p) x v 1 := by simp [wrR, wr0, z, y]
      rw [e] at hq
      exact lR_writes hw hp hn ⟨fun q => absurd q (by decide), fun _ => rfl⟩ hq
    · have e : wrR r w p x v = wr1 (uw (uw r w 2 (wf r w 2 ||| ((1 : Int32) <<< (nI p &&& 31)))) w (7 + p) (nI (szN r p))) w p (szN r p) x v 1 := by simp [wrR, wr0, z, y]
      rw [e] at hq
      refine cR_of (f := 2) rfl rfl hw (by decide) (cR_lays (f := 2) rfl rfl hw (by decide) (cR_lays (f := 7 + p) rfl e7 hw (by omega) ?_))
      exact lR_writes hw hp hn ⟨fun q => absurd q (by decide), fun _ => rfl⟩ hq
theorem cR_sends {Q : Int32 → xM → Prop} {x y p n v : Int32} {q : Nat} (hR : WR r) (hs : b 6 0 0 2 = nI q) (hq6 : q ≤ 6) (hq : Q (oSends r x y p n v).1 (mN a (apB b r (oSends r x y p n v)) (apR r (oSends r x y p n v)) h0)) : CI mX6_sends [vR 6 0 0, vI x, vI y, vI p, vI n, vI v] (mN a b r h0) Q := by
  refine eX6_sends (cR_isAge (fun w hw e hb => ⟨fun z => absurd z (by decide), fun _ => ?_⟩) (fun z => ⟨fun _ => cR_bad (er hq (by rw [oSends, if_pos (Or.inl z)]) (by decide)), fun q => absurd rfl q⟩))
  refine cR_isPart (fun p' hp ep => ⟨fun z => absurd z (by decide), fun _ => ?_⟩) (fun z => ⟨fun _ => cR_bad (er hq (by rw [oSends, if_pos (Or.inr (Or.inl z))]) (by decide)), fun q => absurd rfl q⟩)
  refine cR_in (fun c1 c2 => ⟨fun z => absurd z (by decide), fun _ => ?_⟩) (fun z => ⟨fun _ => cR_bad (er hq (by rw [oSends, if_pos (Or.inr (Or.inr (Or.inl z)))]) (by decide)), fun q => absurd rfl q⟩)
  refine cR_in (fun d1 d2 => ⟨fun _ => ?_, fun z => absurd z (by decide)⟩) (fun z => ⟨fun q => absurd rfl q, fun _ => cR_bad (er hq (by rw [oSends, if_pos (Or.inr (Or.inr (Or.inr z)))]) (by decide))⟩)
  subst ep
  have hb2 : ¬ badSend r x y (nI p') n v := fun z => z.elim hb (fun z => z.elim (nI2 hp) (fun z => z.elim (fun z => z.elim c1 c2) (fun z => z.elim d1 d2)))
  subst e
  have ew : (nI w).toNatClampNeg = w := nI_clamp (by omega)
  have ep : (nI p').toNatClampNeg = p' := nI_clamp (by omega)
  have eo : oSends r (nI w) y (nI p') n v = if wf r w 0 ≤ y then (if wf r w 1 = 2 then (-3, 2, r) else
      if twR r w p' n < 0 then (if n = duR r w p' then (if r (66 + p') + nI (owN r p') < 48 then (nI (szN r p'), 6, wrR r w p' n v) else (-4, 4, r)) else (-7, 3, r))
      else (1000 + twR r w p' n, 5, r)) else (-6, 1, r) := by rw [oSends, if_neg hb2, ew, ep]
  refine cR_of (f := 0) rfl rfl hw (by decide) ⟨fun u => ?_, fun u => cR_refuse (i := 1) rfl (by decide) (er hq (by rw [eo, if_neg u]) (by decide))⟩
  refine cR_of (f := 1) rfl rfl hw (by decide) ⟨fun t => ?_, fun t => cR_refuse (i := 2) rfl (by decide) (er hq (by rw [eo, if_pos u, if_pos t]) (by decide))⟩
  refine cR_twinOf hR rfl rfl hw hp ⟨fun z => ?_, fun z => en hq (by rw [eo, if_pos u, if_neg t, if_neg (show ¬ twR r w p' n < 0 from z)]; rfl)⟩
  have z' : twR r w p' n < 0 := z
  refine cR_dueOf hR rfl rfl hw hp ⟨fun d => ?_, fun d => cR_refuse (i := 3) rfl (by decide) (er hq (by rw [eo, if_pos u, if_neg t, if_pos z', if_neg d]) (by decide))⟩
  obtain ⟨s1, s2⟩ := hR.sz hp
  refine cR_sizeOf rfl hp (cR_owed rfl ⟨fun f => ?_, fun f => cR_refuse (i := 4) rfl (by decide) (er hq (by rw [eo, if_pos u, if_neg t, if_pos z', if_pos d, if_neg f]) (by decide))⟩)
  have hk := ek hq (by rw [eo, if_pos u, if_neg t, if_pos z', if_pos d, if_pos f])
  have hle := cN_le (fun w => lk r w p' || decide (wf r w 1 = 1)) 4 0
  have hlt : szN r p' < 48 := by
    rw [s2, nI_add] at f
    have := (nI_ltI (b := 48) (by unfold owN; omega) (by decide)).mp f
    omega
  exact cR_notes hs hq6 (cR_writes rfl rfl hw hp s2 hlt hk)
end
