section
variable {K K' : kMt} {D : va_G} {ct : Nat → ClassId} {pc : Nat} {ls : List (Nat × Value)} {st : List Value} {ws wr wc : va_W} {cells slots : Nat} {P P' : va_W → Prop}
theorem k_left {A : Nat → Prop} (hD : va_D A (wr ++ wc)) : va_D A wr := by
  have key : ∀ (k : Nat) (x : Nat × va_E), wr[k]? = some x → (wr ++ wc)[k]? = some x := fun k x hk => by
    rw [List.getElem?_append_left (List.getElem?_eq_some_iff.mp hk).1]; exact hk
  exact ⟨fun i j x y hi hj h => hD.1 i j x y (key i x hi) (key j y hj) h, fun k x hk => hD.2 k x (key k x hk)⟩
theorem k_right {A : Nat → Prop} (hD : va_D A (wr ++ wc)) : va_D A wc := by
  have key : ∀ (k : Nat) (x : Nat × va_E), wc[k]? = some x → (wr ++ wc)[wr.length + k]? = some x := fun k x hk => by
    rw [List.getElem?_append_right (by omega), Nat.add_sub_cancel_left]; exact hk
  exact ⟨fun i j x y hi hj h => by have := hD.1 _ _ x y (key i x hi) (key j y hj) h; omega, fun k x hk => hD.2 _ x (key k x hk)⟩
theorem k_rightP {H : Heap} (hP : va_P D vwCl (wr ++ wc) H) : va_P D vwCl wc H := fun k x hk => hP (wr.length + k) x (by rw [List.getElem?_append_right (by omega), Nat.add_sub_cancel_left]; exact hk)
theorem k_leftP {H : Heap} (hP : va_P D vwCl (wr ++ wc) H) : va_P D vwCl wr H := fun k x hk => hP k x (by rw [List.getElem?_append_left (List.getElem?_eq_some_iff.mp hk).1]; exact hk)
theorem k_join {A : Nat → Prop} {w1 : va_W} {H H1 : Heap} (hP : va_P D vwCl (wr ++ wc) H) (hD : va_D A (wr ++ wc)) (hk : ∀ x : Nat, x < H.size → ¬ va_A wc H.size x → H1[x]? = H[x]?) (hF : ∀ x, va_A wc H.size x → A x) (hP1 : va_P D vwCl w1 H1) (hD1 : va_D (va_A wc H.size) w1) : va_P D vwCl (wr ++ w1) H1 ∧ va_D A (wr ++ w1) := by
  have apart : ∀ (k : Nat) (x : Nat × va_E), wr[k]? = some x → x.1 < H.size ∧ ¬ va_A wc H.size x.1 := by
    intro k x hk
    have hkl := (List.getElem?_eq_some_iff.mp hk).1
    have hk' : (wr ++ wc)[k]? = some x := by rw [List.getElem?_append_left hkl]; exact hk
    have hl := (hP k x hk').lt
    refine ⟨hl, fun h => ?_⟩
    rcases h with ⟨k2, e, h⟩ | h
    · have h' : (wr ++ wc)[wr.length + k2]? = some (x.1, e) := by rw [List.getElem?_append_right (by omega), Nat.add_sub_cancel_left]; exact h
      have := hD.1 k _ x (x.1, e) hk' h' rfl
      omega
    · omega
  refine ⟨va_P.app (fun k x hk2 => ?_) hP1, va_D.app (k_left hD) (hD1.weaken (fun k x _ h => hF x.1 h)) (fun i j x y hx hy hxy => ?_)⟩
  · obtain ⟨g1, g2⟩ := apart k x hk2
    exact (k_leftP hP k x hk2).kept (hk x.1 g1 g2)
  · exact (apart i x hx).2 (by rw [hxy]; exact hD1.2 j y hy)
theorem kBlind (av : List Value) (wc : va_W) (sz : Nat) : FrameBlind (va_Pc av (kPre D ct wc sz)) := fun a U g mk q => by
  obtain ⟨q0, q1, qP, qK, qD⟩ := q
  exact ⟨q0, q1, qP, kF.same (s := U) (U := U.calling g mk a) rfl (Vm.Alike.refl U.vm) qK, qD⟩
theorem kGood (h : Cond.code K'.1.1 K'.1.2.1 K'.1.2.2.1 K'.1.2.2.2.1 ∈ xT) : GoodIn xT (xW K'.1) := xT_good h
theorem k_callI {index q : Nat} {e0 : va_E} (hd : decode K.1.2.1 pc = .ok (.invokespecial index, 3)) (hM : kMet K' D ct [.ref q] [(q, e0)] P') (hlink : Cond.methodLink K.1.1.cls index K'.1.1 ∈ xT) (hr : K'.1.2.2.2.1 = none) (hcode : Cond.code K'.1.1 K'.1.2.1 K'.1.2.2.1 K'.1.2.2.2.1 ∈ xT) (hini : Cond.initialized K'.1.1.cls ∈ xT) (hinst : Cond.instanceMethod K'.1.1 ∈ xT) (hnm : K'.1.1.name = "<init>")
    (hdd : K'.1.1.cls ≠ "java/lang/invoke/MethodHandle" ∧ K'.1.1.cls ≠ "java/lang/invoke/VarHandle" ∧ (parseMethodDescriptor K'.1.1.desc).map (fun d => d.parameters.length) = some 0) (hR : (kRm K').frames + 1 ≤ (kRm K).frames ∧ 8 + (K'.1.2.2.1 + 11) + (kRm K').locals ≤ (kRm K).locals) (hst : (st.map fun v : Value => v.category).sum ≤ 8) (hc : cells + K'.2.1 ≤ K.2.1) (hs : slots + K'.2.2 ≤ K.2.2)
    (kk : ∀ w1, P' w1 → kOk K D ct (pc + 3) ls st (wr ++ w1) (cells + K'.2.1) (slots + K'.2.2) P) : kOk K D ct pc ls (.ref q :: st) (wr ++ [(q, e0)]) cells slots P := by
  intro p l e s m args below meth c A H locs la C hA hP hD hS hL
  have hts := C.2.2.2.2.2.1
  have hFc : ∀ x, va_A [(q, e0)] H.size x → A x := by
    intro x h
    rcases h with ⟨k, e, h⟩ | h
    · exact (k_right hD).2 k (x, e) h
    · exact hA x (Nat.le_trans hS.1 h)
  refine va_callv (va_runI (As := []) (rest := st) (b := q) ⟨C.1, C.2.1, C.2.2.2.1, C.2.2.2.2.1, hts⟩ (hM l H.size) (cwI (ws' := xT) (rm := kRm K') 0 hts (kGood hcode) (by rw [xW, hr]) rfl rfl (hts _ hini) (hts _ hlink) (hts _ hinst) hnm hdd hR) ⟨kBlind _ _ _, fun U hU hW => ⟨rfl, by rw [hU], by rw [hU]; exact k_rightP hP, C.2.2.2.2.2.2.2.2.moved hW, (k_right hD).weaken (fun _ _ _ _ => trivial)⟩⟩ rfl rfl hL.1 rfl (lv_room hst) hd ⟨hc, hs⟩) hS (fun x _ h => hFc x h) hFc (fun u t H1 locs1 ht hvm hw hB hz1 hk1 hS1 => ?_)
  obtain ⟨hP1, hD1⟩ := hB
  rw [ht] at hP1
  obtain ⟨hP2, hD2⟩ := k_join hP hD hk1 hFc hP1 hD1
  exact kk u hw p l e s m args below meth c A H1 locs1 la C hA hP2 hD2 hS1 hL
theorem k_callN {index q : Nat} {e0 : va_E} (hd : decode K.1.2.1 pc = .ok (.invokespecial index, 3)) (hM : kMet K' D ct [.ref q] [(q, e0)] P') (hlink : ∀ U, kF D ct U → va_Nw (.methodLinkNest K.1.1.cls index K'.1.1 "OnceLetters") U) (hr : K'.1.2.2.2.1 = none) (hcode : Cond.code K'.1.1 K'.1.2.1 K'.1.2.2.1 K'.1.2.2.2.1 ∈ xT) (hini : Cond.initialized K'.1.1.cls ∈ xT) (hinst : Cond.instanceMethod K'.1.1 ∈ xT) (hnm : K'.1.1.name = "<init>")
    (hdd : K'.1.1.cls ≠ "java/lang/invoke/MethodHandle" ∧ K'.1.1.cls ≠ "java/lang/invoke/VarHandle" ∧ (parseMethodDescriptor K'.1.1.desc).map (fun d => d.parameters.length) = some 0) (hR : (kRm K').frames + 1 ≤ (kRm K).frames ∧ 8 + (K'.1.2.2.1 + 11) + (kRm K').locals ≤ (kRm K).locals) (hst : (st.map fun v : Value => v.category).sum ≤ 8) (hc : cells + K'.2.1 ≤ K.2.1) (hs : slots + K'.2.2 ≤ K.2.2)
    (kk : ∀ w1, P' w1 → kOk K D ct (pc + 3) ls st (wr ++ w1) (cells + K'.2.1) (slots + K'.2.2) P) : kOk K D ct pc ls (.ref q :: st) (wr ++ [(q, e0)]) cells slots P := by
  intro p l e s m args below meth c A H locs la C hA hP hD hS hL
  have hts := C.2.2.2.2.2.1
  have hFc : ∀ x, va_A [(q, e0)] H.size x → A x := by
    intro x h
    rcases h with ⟨k, e, h⟩ | h
    · exact (k_right hD).2 k (x, e) h
    · exact hA x (Nat.le_trans hS.1 h)
  refine va_callv (va_runIN (As := []) (rest := st) (b := q) (host := "OnceLetters") ⟨C.1, C.2.1, C.2.2.2.1, C.2.2.2.2.1, hts⟩ (hM l H.size) ⟨va_cnB (ws' := xT) (rm := kRm K') 0 hts (kGood hcode) (by rw [xW, hr]) rfl rfl (hlink s C.2.2.2.2.2.2.2.2) (hts _ hini) hdd hR, hnm, hts _ hinst⟩ ⟨kBlind _ _ _, fun U hU hW => ⟨rfl, by rw [hU], by rw [hU]; exact k_rightP hP, C.2.2.2.2.2.2.2.2.moved hW, (k_right hD).weaken (fun _ _ _ _ => trivial)⟩⟩ rfl rfl hL.1 rfl (lv_room hst) hd ⟨hc, hs⟩) hS (fun x _ h => hFc x h) hFc (fun u t H1 locs1 ht hvm hw hB hz1 hk1 hS1 => ?_)
  obtain ⟨hP1, hD1⟩ := hB
  rw [ht] at hP1
  obtain ⟨hP2, hD2⟩ := k_join hP hD hk1 hFc hP1 hD1
  exact kk u hw p l e s m args below meth c A H1 locs1 la C hA hP2 hD2 hS1 hL
theorem k_callV {index q ci n q0 : Nat} {fs : List Value} {r : vw_C} (As : List Value) (hd : decode K.1.2.1 pc = .ok (.invokevirtual index, 3)) (hM : kMet K' D ct (.ref q :: As) ws P') (he : ws[q0]? = some (q, .inr (ci, fs))) (hcl : vwCl[ci]? = some r) (hlink : Cond.methodLink K.1.1.cls index K'.1.1 ∈ xT) (hV : Cond.instanceMethod K'.1.1 ∈ xT ∧ Cond.selects r.1 K'.1.1 K'.1.1 ∈ xT ∧ Cond.initialized r.1 ∈ xT ∧ Cond.code K'.1.1 K'.1.2.1 K'.1.2.2.1 K'.1.2.2.2.1 ∈ xT)
    (hsn : K'.1.1.cls = r.1 ∧ K'.1.1.cls ≠ "java/lang/invoke/MethodHandle" ∧ K'.1.1.cls ≠ "java/lang/invoke/VarHandle" ∧ (parseMethodDescriptor K'.1.1.desc).map (fun d => d.parameters.length) = some n) (hn : As.length = n) (hR : (kRm K').frames + 1 ≤ (kRm K).frames ∧ 8 + (K'.1.2.2.1 + 11) + (kRm K').locals ≤ (kRm K).locals) (hst : (st.map fun v : Value => v.category).sum ≤ 8) (hc : cells + K'.2.1 ≤ K.2.1) (hs : slots + K'.2.2 ≤ K.2.2)
    (kk : ∀ w1, P' w1 → kOk K D ct (pc + 3) ls st w1 (cells + K'.2.1) (slots + K'.2.2) P) : kOk K D ct pc ls (As.reverse ++ .ref q :: st) ws cells slots P := by
  intro p l e s m args below meth c A H locs la C hA hP hD hS hL
  have hts := C.2.2.2.2.2.1
  have hFc : ∀ x, va_A ws H.size x → A x := by
    intro x h
    rcases h with ⟨k, e, h⟩ | h
    · exact hD.2 k (x, e) h
    · exact hA x (Nat.le_trans hS.1 h)
  refine va_callv (va_runV (As := As) (rest := st) (b := q) (C := r.1) ⟨C.1, C.2.1, C.2.2.2.1, C.2.2.2.2.1, hts⟩ (hM l H.size) (cwV (rm := kRm K') n hts (xGoodV hlink hV.1 hV.2.1 hV.2.2.1 hV.2.2.2) rfl rfl rfl hsn hR) ⟨kBlind _ _ _, va_recv C.2.2.2.2.2.2.2.2.1 hP hcl he, fun U hU hW => ⟨rfl, by rw [hU], by rw [hU]; exact hP, C.2.2.2.2.2.2.2.2.moved hW, hD.weaken (fun _ _ _ _ => trivial)⟩⟩ rfl hn hL.1 rfl (lv_room hst) hd ⟨hc, hs⟩) hS (fun x _ h => hFc x h) hFc (fun u t H1 locs1 ht hvm hw hB hz1 hk1 hS1 => ?_)
  obtain ⟨hP1, hD1⟩ := hB
  rw [ht] at hP1
  exact kk u hw p l e s m args below meth c A H1 locs1 la C hA hP1 (hD1.weaken (fun k x _ h => hFc x.1 h)) hS1 hL
end
