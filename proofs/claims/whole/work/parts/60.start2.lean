theorem law_known {p : Program} {s : State} {m : MethodId} {meth : Method} {c : Code} {b L : Nat} {xs : Nat → Int32} (C0 : lw_At p s m meth c b L xs) : ∃ (D : va_G) (ct : Nat → ClassId), kF D ct s := by
  obtain ⟨hx, hb, hr, hml, hown, hts, hX, hbl, hlk, hgv⟩ := C0
  have htx : ∀ w ∈ xT, w.before #[Value.ref b] s = true := fun w hw => hts w (xT_in w hw)
  obtain ⟨c0, i0, k0⟩ := u_known htx inX0 (htx _ xw_65)
  obtain ⟨c1, i1, k1⟩ := u_known htx inX1 (htx _ xw_140)
  obtain ⟨c2, i2, k2⟩ := u_known htx inX2 (htx _ xw_30)
  obtain ⟨c3, i3, k3⟩ := u_known htx inX3 (htx _ xw_102)
  obtain ⟨c4, i4, k4⟩ := u_known htx inX4 (htx _ xw_21)
  obtain ⟨c5, i5, k5⟩ := u_known htx inX5 (htx _ xw_11)
  obtain ⟨c6, i6, k6⟩ := u_known htx inX6 (htx _ xw_521)
  obtain ⟨t0, u0, v0, a1, a2, a3⟩ := Cond.arrayClass_spec (htx _ xw_64)
  obtain ⟨p1, t1, u1, d1, d2, d3, d4, d5⟩ := Cond.arrayOver_spec (hts _ xl_19)
  obtain ⟨p2, t2, u2, e1, e2, e3, e4, e5⟩ := Cond.arrayOver_spec (hts _ xl_100)
  obtain ⟨p3, t3, u3, f1, f2, f3, f4, f5⟩ := Cond.arrayOver_spec (hts _ xl_27)
  obtain ⟨p4, t4, u4, g1, g2, g3, g4, g5⟩ := Cond.arrayOver_spec (hts _ xl_29)
  refine ⟨(fun j => ([c0, c1, c2, c3, c4, c5, c6] : List ClassId).getD j c0, fun j => ([i0, i1, i2, i3, i4, i5, i6] : List (Nat → Nat)).getD j i0), fun j => ([t0, t1, t2, t3, t4] : List ClassId).getD j t0, ⟨fun j q hq => ?_, fun j q hq => ?_⟩, ⟨va_AO.of (hts _ xl_19), va_AO.of (hts _ xl_100), va_AO.of (hts _ xl_27), va_AO.of (hts _ xl_29)⟩, va_Nw.of rfl (hts _ xl_31), va_Nw.of rfl (hts _ xl_66), va_Nw.of rfl (hts _ xl_103), va_Nw.of rfl (hts _ xl_141)⟩
  · have hj : j < 7 := (List.getElem?_eq_some_iff.mp hq).1
    have hj' : j = 0 ∨ j = 1 ∨ j = 2 ∨ j = 3 ∨ j = 4 ∨ j = 5 ∨ j = 6 := by omega
    rcases hj' with rfl | rfl | rfl | rfl | rfl | rfl | rfl
    · have := Option.some.inj hq; subst this; exact k0
    · have := Option.some.inj hq; subst this; exact k1
    · have := Option.some.inj hq; subst this; exact k2
    · have := Option.some.inj hq; subst this; exact k3
    · have := Option.some.inj hq; subst this; exact k4
    · have := Option.some.inj hq; subst this; exact k5
    · have := Option.some.inj hq; subst this; exact k6
  · have hj : j < 5 := (List.getElem?_eq_some_iff.mp hq).1
    have hj' : j = 0 ∨ j = 1 ∨ j = 2 ∨ j = 3 ∨ j = 4 := by omega
    rcases hj' with rfl | rfl | rfl | rfl | rfl
    · have := Option.some.inj hq; subst this; exact ⟨fun n z => ⟨(fun k h => by cases h), u0, a2, v0, a3⟩, a1⟩
    · have := Option.some.inj hq; subst this; exact ⟨fun n z => ⟨(fun k h => by cases h), u1, d3, p1, d4⟩, u1, p1, d3, d4, d1, d5⟩
    · have := Option.some.inj hq; subst this; exact ⟨fun n z => ⟨(fun k h => by cases h), u2, e3, p2, e4⟩, u2, p2, e3, e4, e1, e5⟩
    · have := Option.some.inj hq; subst this; exact ⟨fun n z => ⟨(fun k h => by cases h), u3, f3, p3, f4⟩, u3, p3, f3, f4, f1, f5⟩
    · have := Option.some.inj hq; subst this; exact ⟨fun n z => ⟨(fun k h => by cases h), u4, g3, p4, g4⟩, u4, p4, g3, g4, g1, g5⟩
theorem k_free {A : Nat → Prop} {wr wc : va_W} {H0 H : Heap} {locs : List Loc} (hD : va_D A (wr ++ wc)) (hS : va_S A H0 H locs) (hA : ∀ q, H0.size ≤ q → A q) : ∀ x, va_A wc H.size x → A x := by
  intro x h
  rcases h with ⟨k, e, h⟩ | h
  · exact (k_right hD).2 k (x, e) h
  · exact hA x (Nat.le_trans hS.1 h)
/-- YOUR PART: from the entry, for every script of at most 3072 ints, the law comes to its end with true ('hflags': the launch's flags, for a law that throws: no stack traces) -/
theorem whole_start {p : Program} {e : Env} {s : State} {m : MethodId} {below : List Frame} {meth : Method} {c : Code} (l : Launch) (hflags : l.flags = flags0) {b L : Nat} {xs : Nat → Int32} (hL : L ≤ 3072) (C0 : lw_At p s m meth c b L xs) : W p l e room_1 s m #[Value.ref b] below meth c s.heap [] 0 0 (lw_Z below #[Value.ref b] s) (entryFrame m ([Value.ref b] : List Value).toArray 4) := by
  obtain ⟨D, ct, hF⟩ := law_known C0
  obtain ⟨hx, hb, hr, hml, hown, hts, hX, hbl, hlk, hgv⟩ := C0
  have htx : ∀ w ∈ xT, w.before #[Value.ref b] s = true := fun w hw => hts w (xT_in w hw)
  have hK := hF.1
  have hA : ∀ q, s.heap.size ≤ q → lA s q := fun q h => h
  rw [lg_entry_eq]
  have hl := lv_entry ([Value.ref b]) (n := 4) (Nat.le_of_ble_eq_true rfl)
  generalize (lg_sl ([Value.ref b]) ++ List.replicate (4 - (lg_sl ([Value.ref b])).length) Slot.unset).toArray = la at hl ⊢
  have hl : lv_has la 4 [(0, .ref b)] := hl
  have hP0 : va_P D vwCl [] s.heap := fun k q h => absurd h (by simp)
  have hD0 : va_D (lA s) [] := ⟨fun i j x y hi => absurd hi (by simp), fun k q h => absurd h (by simp)⟩
  refine va_new (D := D) (cl := vwCl) (tys := kTy ct) (A := lA s) (H0 := s.heap) (ci := 5) (fs := [.null, .null, .null, .int 0, .int 0, .null, .null, .int 0, .int 0]) hx hb htx inX5 tyX5 tyX5_ok hown (htx _ xw_10) (htx _ xw_11) (htx _ xw_1) hK hP0 hD0 va_S.rf hA rfl (by decide) (Nat.le_of_ble_eq_true rfl) (Nat.le_of_ble_eq_true rfl) dL_law_0 (fun q5 H hP hD hS => ?_)
  refine lv_dup hx hb dL_law_3 rfl ?_
  have hFc := k_free hD hS hA
  refine va_callv (va_runI (As := []) (rest := [.ref q5]) (b := q5) (own := R_law) ⟨hx, hb, hml, hown, htx⟩ (K5 D ct q5 l H.size) (cwI (ws' := xT) (rm := kRm kX5) 0 htx (kGood (K' := kX5) xw_14) rfl rfl rfl (htx _ xw_1) (htx _ xw_12) (htx _ xw_13) rfl ⟨by decide, by decide, by decide +kernel⟩ ⟨Nat.le_of_ble_eq_true rfl, Nat.le_of_ble_eq_true rfl⟩) ⟨kBlind _ _ _, fun U hU hW => ⟨rfl, by rw [hU], by rw [hU]; exact k_rightP hP, hF.moved hW, (k_right hD).weaken (fun _ _ _ _ => trivial)⟩⟩ rfl rfl hl.1 rfl (lv_room (Nat.le_of_ble_eq_true rfl)) dL_law_4 ⟨Nat.le_of_ble_eq_true rfl, Nat.le_of_ble_eq_true rfl⟩) hS (fun x _ h => hFc x h) hFc (fun w1 t H1 locs1 ht hvm hw hB hz1 hk1 hS1 => ?_)
  obtain ⟨f, rfl, rfl⟩ := hw
  obtain ⟨hP1, hD1⟩ := hB
  rw [ht] at hP1
  obtain ⟨hP2, hD2⟩ := k_join hP hD hk1 hFc hP1 hD1
  clear hP hD hP1 hD1 hFc hk1 hz1 ht hvm
  refine lv_astore_n (i := 1) hx hb dL_law_7 rfl hl (by decide) (lv' := [(1, .ref (f 0)), (0, .ref b)]) rfl (fun la hl => ?_)
  refine va_new (D := D) (cl := vwCl) (tys := kTy ct) (A := lA s) (H0 := s.heap) (ci := 6) (fs := [.null, .null, .int 0, .int 0, .null, .null, .int 0, .int 0, .int 0, .int 0, .null, .null, .int 0, .long 0]) hx hb htx inX6 tyX6 tyX6_ok hown (htx _ xw_520) (htx _ xw_521) (htx _ xw_7) hK hP2 hD2 hS1 hA rfl (by decide) (Nat.le_of_ble_eq_true rfl) (Nat.le_of_ble_eq_true rfl) dL_law_8 (fun q6 H3 hP3 hD3 hS3 => ?_)
  refine lv_dup hx hb dL_law_11 rfl ?_
  have hFc := k_free hD3 hS3 hA
  refine va_callv (va_runI (As := []) (rest := [.ref q6]) (b := q6) (own := R_law) ⟨hx, hb, hml, hown, htx⟩ (K6 D ct q6 l H3.size) (cwI (ws' := xT) (rm := kRm kX6) 0 htx (kGood (K' := kX6) xw_524) rfl rfl rfl (htx _ xw_7) (htx _ xw_522) (htx _ xw_523) rfl ⟨by decide, by decide, by decide +kernel⟩ ⟨Nat.le_of_ble_eq_true rfl, Nat.le_of_ble_eq_true rfl⟩) ⟨kBlind _ _ _, fun U hU hW => ⟨rfl, by rw [hU], by rw [hU]; exact k_rightP hP3, hF.moved hW, (k_right hD3).weaken (fun _ _ _ _ => trivial)⟩⟩ rfl rfl hl.1 rfl (lv_room (Nat.le_of_ble_eq_true rfl)) dL_law_12 ⟨Nat.le_of_ble_eq_true rfl, Nat.le_of_ble_eq_true rfl⟩) hS3 (fun x _ h => hFc x h) hFc (fun w1 t H4 locs4 ht hvm hw hB hz1 hk1 hS4 => ?_)
  obtain ⟨g, rfl, rfl⟩ := hw
  obtain ⟨hP4, hD4⟩ := hB
  rw [ht] at hP4
  obtain ⟨hP5, hD5⟩ := k_join hP3 hD3 hk1 hFc hP4 hD4
  have hP5 : va_P D vwCl (LyO ct f ++ LyM ct g kr0) H4 := hP5
  have hD5 : va_D (lA s) (LyO ct f ++ LyM ct g kr0) := hD5
  refine lv_astore_n (i := 2) hx hb dL_law_15 rfl hl (by decide) (lv' := [(2, .ref (g 0)), (1, .ref (f 0)), (0, .ref b)]) rfl (fun la hl => ?_)
  refine lv_iconst (v := 0) hx hb dL_law_16 (by decide) ?_
  refine lv_istore_n (i := 3) hx hb dL_law_17 rfl hl (by decide) (lv' := [(3, .int 0), (2, .ref (g 0)), (1, .ref (f 0)), (0, .ref b)]) rfl (fun la hl => ?_)
  have hl2 : lv_has la 4 [(3, .int 0), (0, .ref b), (1, .ref (f 0)), (2, .ref (g 0))] := lv_sub hl [0, 3, 2, 1] rfl
  have go := law_loop (b := b) (L := L) (xs := xs) hL 600 0 (a0, (b0, 0)) (by omega) (by omega) Iv0 p l e s m below meth c (sG D ct f g) H4 locs4 la ⟨hx, hb, hr, hml, hown, htx, hX, hbl, hlk, ⟨hK, va_Nw.of rfl (hts _ xl_350)⟩⟩ (start_P hP5) (start_D hD5) hS4 hl2
  exact W.widen (k := 218) (n := 9958) (Nat.le_of_ble_eq_true rfl) (Nat.le_of_ble_eq_true rfl) go
