/-! a tick, and ticks -/
def ti1 (s : Row × Nat) (w p : Nat) : Row × Nat := if duB s.1 w p then (wmR s.1 w p, s.2 + 1) else s
def tiW (s : Row × Nat) (w : Nat) : Row × Nat := ti1 (ti1 (ti1 s w 0) w 1) w 2
def tiA (s : Row × Nat) : Row × Nat := tiW (tiW (tiW (tiW s 0) 1) 2) 3
def hg1 (r : Row) (w : Nat) : Row := if wf r w 1 = 1 ∧ ¬ (r 0 - wf r w 5 < r 1) then enR (uw r w 0 (wf r w 0 + 1)) w 0 else r
def hgA (r : Row) : Row := hg1 (hg1 (hg1 (hg1 r 0) 1) 2) 3
def tkM (r : Row) : Row × Nat := tiA (upd r 0 (r 0 + 1), 0)
def tkR (r : Row) : Row := hgA (tkM r).1
def tkN (r : Row) : Nat := (tkM r).2
theorem RI_time {r : Row} {T : Nat} (h : RI r T) : RI (upd r 0 (r 0 + 1)) (T + 1) := by
  obtain ⟨hA, hB, hC, ⟨t, t1, t2⟩⟩ := h
  have hsz : ∀ p, p < 3 → szN (upd r 0 (r 0 + 1)) p = szN r p := fun p hp => szN_of (up_ne r _ (by omega))
  have oth : ∀ w' f, w' < 4 → f < 16 → wf (upd r 0 (r 0 + 1)) w' f = wf r w' f := fun w' f hw' hf => wf_up r _ hw' hf (by omega)
  refine ⟨fun p hp => ?_, fun w' hw' => ?_, fun j hj p hp => ?_, ?_⟩
  · rw [up_ne r _ (by omega), hsz p hp]
    refine ⟨(hA p hp).1, ?_⟩
    have := cN_mono (P := fun w => lk r w p) (P' := fun w' => lk (upd r 0 (r 0 + 1)) w' p) 4 0 (fun i' _ hi' hl => by
      rw [← lk_of (oth i' 1 (by omega) (by decide)) (oth i' 2 (by omega) (by decide)) (oth i' 3 (by omega) (by decide))]; exact hl)
    have := (hA p hp).2
    unfold ctN at this ⊢
    omega
  · exact (hB w' hw').frame (fun f hf => oth w' f hw' hf) (fun p hp => by rw [hsz p hp]; exact Nat.le_refl _) (Nat.le_succ _)
  · rw [up_ne r _ (by omega)]; exact hC j hj p hp
  · rw [up_eq]; exact ⟨t + 1, by omega, by rw [t2, nI_1]⟩
theorem RI_ti1 {s : Row × Nat} {T w p : Nat} (h : RI s.1 T) (hw : w < 4) (hp : p < 3) : RI (ti1 s w p).1 T := by
  unfold ti1
  split
  · rename_i hd
    obtain ⟨d1, d2, -⟩ := du_lk hd
    exact RI_wm h hw hp d1 d2
  · exact h
theorem RI_tiW {s : Row × Nat} {T w : Nat} (h : RI s.1 T) (hw : w < 4) : RI (tiW s w).1 T := RI_ti1 (RI_ti1 (RI_ti1 h hw (by decide)) hw (by decide)) hw (by decide)
theorem RI_hg1 {r : Row} {T w : Nat} (h : RI r T) (hw : w < 4) : RI (hg1 r w) T := by
  unfold hg1
  split
  · rename_i hc
    refine RI_en (RI_f h hw (Or.inl rfl)) hw ?_ (Or.inl rfl)
    rw [wf_uw _ _ (by decide) (by decide), if_neg (by omega)]
    exact hc.1
  · exact h
theorem RI_hgA {r : Row} {T : Nat} (h : RI r T) : RI (hgA r) T := by
  unfold hgA
  exact RI_hg1 (RI_hg1 (RI_hg1 (RI_hg1 h (by decide)) (by decide)) (by decide)) (by decide)
theorem RI_tiA {s : Row × Nat} {T : Nat} (h : RI s.1 T) : RI (tiA s).1 T := by
  unfold tiA
  exact RI_tiW (RI_tiW (RI_tiW (RI_tiW h (by decide)) (by decide)) (by decide)) (by decide)
theorem RI_tk {r : Row} {T : Nat} (h : RI r T) : RI (tkR r) (T + 1) := by
  unfold tkR tkM
  exact RI_hgA (RI_tiA (s := (upd r 0 (r 0 + 1), 0)) (RI_time h))
def tkF : Row → Nat → Row × Int32
  | r, 0 => (r, 0)
  | r, n + 1 => (tkR (tkF r n).1, (tkF r n).2 + nI (tkN (tkF r n).1))
theorem tkF_1 (r : Row) (n : Nat) : (tkF r (n + 1)).1 = tkR (tkF r n).1 := by rw [tkF]
theorem tkF_2 (r : Row) (n : Nat) : (tkF r (n + 1)).2 = (tkF r n).2 + nI (tkN (tkF r n).1) := by rw [tkF]
theorem RI_tkF {r : Row} {T : Nat} (h : RI r T) : ∀ n, RI (tkF r n).1 (T + n)
  | 0 => h
  | n + 1 => by rw [tkF_1]; exact RI_tk (RI_tkF h n)
def oTicks (r : Row) (x : Int32) : Oc := if x < 1 ∨ 20 < x then (-2, 0, r) else ((tkF r x.toNatClampNeg).2, 6, (tkF r x.toNatClampNeg).1)
section
variable {a b : xA} {h0 : Int64}
theorem lR_tick1 {Q : Int32 → xM → Prop} {s : Row × Nat} {T w p : Nat} (hI : RI s.1 T) (hw : w < 4) (hp : p < 3) (hn : xOk mX6_tick 21 [(0, vR 6 0 0), (1, vI (nI (ti1 s w p).2)), (2, vI (nI w)), (3, vI (nI (p + 1)))] [] (mN a b (ti1 s w p).1 h0) (qI Q)) : xOk mX6_tick 21 [(0, vR 6 0 0), (1, vI (nI s.2)), (2, vI (nI w)), (3, vI (nI p))] [] (mN a b s.1 h0) (qI Q) := by
  refine rX6_tick_21 ⟨fun z => absurd z (n3 hp), fun _ => ?_⟩
  rw [nI_1]
  unfold ti1 at hn
  refine cR_isDue rfl rfl hw hp (fun y => ⟨fun z => absurd z (by decide), fun _ => ?_⟩) (fun y => ⟨fun _ => ?_, fun z => absurd rfl z⟩)
  · rw [if_pos y] at hn
    obtain ⟨d1, d2, -⟩ := du_lk y
    rw [nI_1]
    exact cR_writeMark rfl rfl hw hp (hI.1 p hp).1 (RI_lt hI hw hp d2) hn
  · rw [if_neg (by rw [y]; decide)] at hn
    exact hn
theorem lR_tickW {Q : Int32 → xM → Prop} {s : Row × Nat} {T w : Nat} (hI : RI s.1 T) (hw : w < 4) (hn : xOk mX6_tick 14 [(0, vR 6 0 0), (1, vI (nI (tiW s w).2)), (2, vI (nI (w + 1)))] [] (mN a b (tiW s w).1 h0) (qI Q)) : xOk mX6_tick 14 [(0, vR 6 0 0), (1, vI (nI s.2)), (2, vI (nI w))] [] (mN a b s.1 h0) (qI Q) := by
  refine rX6_tick_14 ⟨fun z => absurd z (n4 hw), fun _ => ?_⟩
  refine lR_tick1 (p := 0) hI hw (by decide) (lR_tick1 (p := 1) (RI_ti1 hI hw (by decide)) hw (by decide) (lR_tick1 (p := 2) (RI_ti1 (RI_ti1 hI hw (by decide)) hw (by decide)) hw (by decide) ?_))
  refine rX6_tick_21 ⟨fun _ => ?_, fun z => absurd (by decide) z⟩
  rw [nI_1]
  exact hn
theorem lR_tickH {Q : Int32 → xM → Prop} {r : Row} {c : Int32} {w : Nat} (hw : w < 4) (hn : xOk mX6_tick 58 [(0, vR 6 0 0), (1, vI c), (2, vI (nI (w + 1)))] [] (mN a b (hg1 r w) h0) (qI Q)) : xOk mX6_tick 58 [(0, vR 6 0 0), (1, vI c), (2, vI (nI w))] [] (mN a b r h0) (qI Q) := by
  refine rX6_tick_58 ⟨fun z => absurd z (n4 hw), fun _ => ?_⟩
  rw [nI_1]
  unfold hg1 at hn
  refine cR_of (f := 1) rfl rfl hw (by decide) ⟨fun y => ?_, fun y => ⟨vp_in_nI (n := 0) (by decide) (by decide), cR_of (f := 5) rfl rfl hw (by decide) ⟨vp_in_nI (n := 1) (by decide) (by decide), fun x => ?_, fun x => ?_⟩⟩⟩
  · rw [if_neg (fun z => y z.1)] at hn
    exact hn
  · have x' : r 0 - wf r w 5 < r 1 := x
    rw [if_neg (fun z => z.2 x')] at hn
    exact hn
  · have x' : ¬ (r 0 - wf r w 5 < r 1) := x
    rw [if_pos ⟨y, x'⟩] at hn
    exact cR_of (f := 0) rfl rfl hw (by decide) (cR_lays (f := 0) rfl rfl hw (by decide) (cR_endDeed rfl hw hn))
theorem cR_tick {Q : Int32 → xM → Prop} {r : Row} {T : Nat} (hI : RI r T) (hq : Q (nI (tkN r)) (mN a b (tkR r) h0)) : CI mX6_tick [vR 6 0 0] (mN a b r h0) Q := by
  refine eX6_tick ⟨vp_in_nI (n := 0) (by decide) (by decide), vp_in_nI (n := 0) (by decide) (by decide), ?_⟩
  rw [show Int32.toNatClampNeg 0 = 0 from rfl, xNow_up]
  have i0 := RI_time hI
  have i1 := RI_tiW (s := (upd r 0 (r 0 + 1), 0)) (w := 0) i0 (by decide)
  have i2 := RI_tiW (w := 1) i1 (by decide)
  have i3 := RI_tiW (w := 2) i2 (by decide)
  refine lR_tickW (s := (upd r 0 (r 0 + 1), 0)) (w := 0) i0 (by decide) (lR_tickW (w := 1) i1 (by decide) (lR_tickW (w := 2) i2 (by decide) (lR_tickW (w := 3) i3 (by decide) ?_)))
  refine rX6_tick_14 ⟨fun _ => ?_, fun z => absurd (by decide) z⟩
  exact lR_tickH (w := 0) (by decide) (lR_tickH (w := 1) (by decide) (lR_tickH (w := 2) (by decide) (lR_tickH (w := 3) (by decide) (rX6_tick_58 ⟨fun _ => hq, fun z => absurd (by decide) z⟩))))
theorem cR_ticks {Q : Int32 → xM → Prop} {r : Row} {T : Nat} {x : Int32} {q : Nat} (hI : RI r T) (hs : b 6 0 0 2 = nI q) (hq6 : q ≤ 6) (hq : Q (oTicks r x).1 (mN a (apB b r (oTicks r x)) (apR r (oTicks r x)) h0)) : CI mX6_ticks [vR 6 0 0, vI x] (mN a b r h0) Q := by
  refine eX6_ticks (cR_in (fun c1 c2 => ⟨fun _ => ?_, fun z => absurd z (by decide)⟩) (fun z => ⟨fun q => absurd rfl q, fun _ => cR_bad (er hq (by rw [oTicks, if_pos z]) (by decide))⟩))
  have hb : ¬ (x < 1 ∨ 20 < x) := fun z => z.elim c1 c2
  have c0 : ¬ x < 0 := fun z => c1 (Int32.lt_trans z (by decide))
  obtain ⟨n, hn, rfl⟩ := inN (n := 20) (by decide) c0 c2
  have hk := ek hq (by rw [oTicks, if_neg hb])
  rw [nI_clamp (by omega)] at hk
  refine cR_notes hs hq6 ?_
  have key : ∀ m k, k + m = n → xOk mX6_ticks 23 [(0, vR 6 0 0), (1, vI (nI n)), (2, vI (tkF r k).2), (3, vI (nI k))] [] (mN a (ntB b r) (tkF r k).1 h0) (qI Q) := by
    intro m
    induction m with
    | zero =>
      intro k hk'
      have hk' : k = n := hk'
      subst hk'
      exact rX6_ticks_23 ⟨fun _ => hk, fun z => absurd (Int32.le_refl _) z⟩
    | succ m ih =>
      intro k hk'
      refine rX6_ticks_23 ⟨fun z => absurd z (nI_ge (by omega) (by omega)), fun _ => cR_tick (RI_tkF hI k) ?_⟩
      rw [nI_1]
      have h := ih (k + 1) (by omega)
      rw [tkF_1, tkF_2] at h
      exact h
  exact key n 0 (by omega)
end
