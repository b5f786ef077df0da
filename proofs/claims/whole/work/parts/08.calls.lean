theorem xFS {G : xG} {s0 s1 : Nat} (h : s0 ≤ s1) (q : Nat) (hq : xF G s1 q) : xF G s0 q := hq.imp id (fun z => Nat.le_trans h z)
theorem xFlt {G : xG} {s0 s1 : Nat} (q : Nat) (hl : q < s1) (hq : xF G s1 q) : xF G s0 q := hq.imp id (fun z => absurd hl (Nat.not_lt.mpr z))
theorem xBlind (G : xG) (av : List Value) (μ : xM) (sz : Nat) : FrameBlind (va_Pc av (xPre G μ sz)) := fun a U g mk q => by
  obtain ⟨q0, q1, qP, qK, qD⟩ := q
  exact ⟨q0, q1, qP, xK.same (s := U) (U := U.calling g mk a) rfl (Vm.Alike.refl U.vm) qK, qD⟩
theorem xcat_sum (G : xG) (st : List xV) : ((st.map (cv G)).map fun v => v.category).sum = (st.map xcat).sum := by
  rw [List.map_map]
  congr 2
  funext v
  exact cv_cat G v
theorem xGoodV {own C' : String} {index : Nat} {M' : xMt} (h1 : Cond.methodLink own index M'.1 ∈ xT) (h2 : Cond.instanceMethod M'.1 ∈ xT) (h3 : Cond.selects C' M'.1 M'.1 ∈ xT) (h4 : Cond.initialized C' ∈ xT) (h5 : Cond.code M'.1 M'.2.1 M'.2.2.1 M'.2.2.2.1 ∈ xT) : GoodIn xT (wsV own index C' M'.1 (xW M')) := by
  intro w hw
  have hm : w ∈ xT := by
    simp only [wsV, xW, List.cons_append, List.nil_append, List.mem_cons] at hw
    rcases hw with rfl | rfl | rfl | rfl | rfl | hw
    · exact h1
    · exact h2
    · exact h3
    · exact h4
    · exact h5
    · exact hw
  exact ⟨hm, good_of_word (List.mem_filter.mp hm).2⟩
theorem xGoodS {own : String} {index : Nat} {M' : xMt} (h1 : Cond.methodLink own index M'.1 ∈ xT) (h2 : Cond.static M'.1 ∈ xT) (h4 : Cond.initialized own ∈ xT) (h5 : Cond.code M'.1 M'.2.1 M'.2.2.1 M'.2.2.2.1 ∈ xT) : GoodIn xT (wsS own index M'.1 (xW M')) := by
  intro w hw
  have hm : w ∈ xT := by
    simp only [wsS, xW, List.cons_append, List.nil_append, List.mem_cons] at hw
    rcases hw with rfl | rfl | rfl | rfl | hw
    · exact h1
    · exact h2
    · exact h4
    · exact h5
    · exact hw
  exact ⟨hm, good_of_word (List.mem_filter.mp hm).2⟩
/-- behind a call -/
theorem xGo {M : xMt} {pc : Nat} {ls : List (Nat × xV)} {st : List xV} {Q : xPo} {p : Program} {l : Launch} {e : Env} {s : State} {m : MethodId} {args : Array Value} {below : List Frame} {meth : Method} {c : Code} {G : xG} {H : Heap} {locs : List Loc} {la : Array Slot} {st0 : List Value} {a : Array Value}
    (C : xC M p s m args meth c G) (hS : va_S (xF G s.heap.size) s.heap H locs) (hL : lv_has la M.2.2.1 (xLs G ls))
    (hr : va_Run p l e (xRm M) s m args below meth c H locs 0 0 0 0 (F0 m pc la st0) (st.map (cv G)) (xQ G (fun v μ1 => xOk M (pc + 3) ls (v.toList ++ st) μ1 Q) (xF G H.size) a) (xF G H.size)) :
    W p l e (xRm M) s m args below meth c H locs 0 0 (MQ below (xQ G Q (xF G s.heap.size)) args s 0 0 (xF G s.heap.size)) (F0 m pc la st0) := by
  intro T hT X
  obtain ⟨v, st₀, t, T', L, h0, X', hLc, e1, e2, ⟨⟨v', μ1, hv, hq, hP1, hK1, hD1⟩, hz, hk⟩, go⟩ := hr T hT X
  cases hv
  rw [h0] at hz hk
  have hS1 : va_S (xF G s.heap.size) s.heap T'.heap (locs ++ L) := by
    refine ⟨Nat.le_trans hS.1 (by rw [e1]; exact hz), fun q h1 h2 => ?_, fun q hq => ?_⟩
    · rw [e1, hk q (Nat.lt_of_lt_of_le h1 hS.1) (fun z => h2 (xFlt q (Nat.lt_of_lt_of_le h1 hS.1) z))]
      exact hS.2.1 q h1 h2
    · rcases List.mem_append.mp hq with h | h
      · exact hS.2.2 q h
      · exact xFS hS.1 _ (hLc q h)
  obtain ⟨t2, a1, b1⟩ := hq p l e s m args below meth c G T'.heap (locs ++ L) la C (by rw [e1]; exact hP1) (xF_D hD1) hS1 hL T' rfl X'
  refine ⟨t2, go t2 ?_, b1⟩
  have hst : ((v'.toList ++ st).map (cv G)) = (v'.map (cv G)).toList ++ st.map (cv G) := by
    cases v' <;> rfl
  rw [hst] at a1
  exact a1
theorem ok_callV {M : xMt} {pc : Nat} {ls : List (Nat × xV)} {st : List xV} {μ : xM} {Q : xPo} {M' : xMt} {index k s' w' n N : Nat} {C' : String} {T : u_T} (As : List xV) (hd : decode M.2.1 pc = .ok (.invokevirtual index, 3)) (hlink : Cond.methodLink M.1.cls index M'.1 ∈ xT)
    (hV : Cond.instanceMethod M'.1 ∈ xT ∧ Cond.selects C' M'.1 M'.1 ∈ xT ∧ Cond.initialized C' ∈ xT ∧ Cond.code M'.1 M'.2.1 M'.2.2.1 M'.2.2.2.1 ∈ xT)
    (hs : M'.1.cls = C' ∧ M'.1.cls ≠ "java/lang/invoke/MethodHandle" ∧ M'.1.cls ≠ "java/lang/invoke/VarHandle" ∧ (parseMethodDescriptor M'.1.desc).map (fun d => d.parameters.length) = some n) (hk : vwCl[k]? = some (C', T, N))
    (hR : M'.2.2.2.2.1 + 1 ≤ M.2.2.2.2.1 ∧ 8 + (M'.2.2.1 + 11) + M'.2.2.2.2.2 ≤ M.2.2.2.2.2) (hn : (k, s', w') ∈ xNms) (hob : ∀ G : xG, ∃ fs, xCell G μ (k, s', w') = .inr (k, fs)) (hA : As.length = n) (hr : (st.map xcat).sum ≤ 8)
    (kk : xCalls M' (vR k s' w' :: As) μ (fun v μ1 => xOk M (pc + 3) ls (v.toList ++ st) μ1 Q)) : xOk M pc ls (As.reverse ++ vR k s' w' :: st) μ Q := by
  intro p l e s m args below meth c G H locs la C hP hD hS hL
  obtain ⟨i, hi⟩ := xAt hn
  obtain ⟨fs, e1⟩ := hob G
  have he := xWs_get (G := G) (μ := μ) hi
  rw [e1] at he
  have hts := C.2.2.2.2.2.1
  have hK := C.2.2.2.2.2.2.2
  refine xGo (st := st) (a := (Value.ref (xr G k s' w') :: As.map (cv G)).toArray) C hS hL ?_
  exact va_runV (As := As.map (cv G)) (rest := st.map (cv G)) (b := xr G k s' w') ⟨C.1, C.2.1, C.2.2.2.1, C.2.2.2.2.1, hts⟩ (kk l G H.size)
    (cwV (rm := xRm M') n hts (xGoodV hlink hV.1 hV.2.1 hV.2.2.1 hV.2.2.2) rfl rfl rfl hs hR)
    ⟨xBlind G _ μ H.size, va_recv hK.1 hP hk he, fun U hU hW => ⟨rfl, by rw [hU], by rw [hU]; exact hP, hK.moved hW, hD.weaken (fun _ _ _ _ => trivial)⟩⟩
    rfl (by rw [List.length_map]; exact hA) hL.1 (by show (As.reverse ++ vR k s' w' :: st).map (cv G) = _; rw [List.map_append, List.map_reverse]; rfl) (lv_room (by rw [xcat_sum]; exact hr)) hd ⟨Nat.le_refl _, Nat.le_refl _⟩
theorem ok_callS {M : xMt} {pc : Nat} {ls : List (Nat × xV)} {st : List xV} {μ : xM} {Q : xPo} {M' : xMt} {index n : Nat} (As : List xV) (hd : decode M.2.1 pc = .ok (.invokestatic index, 3)) (hlink : Cond.methodLink M.1.cls index M'.1 ∈ xT)
    (hV : Cond.static M'.1 ∈ xT ∧ Cond.initialized M.1.cls ∈ xT ∧ Cond.code M'.1 M'.2.1 M'.2.2.1 M'.2.2.2.1 ∈ xT)
    (hs : M'.1.cls = M.1.cls ∧ M'.1.cls ≠ "java/lang/invoke/MethodHandle" ∧ M'.1.cls ≠ "java/lang/invoke/VarHandle" ∧ (parseMethodDescriptor M'.1.desc).map (fun d => d.parameters.length) = some n)
    (hR : M'.2.2.2.2.1 + 1 ≤ M.2.2.2.2.1 ∧ 8 + (M'.2.2.1 + 11) + M'.2.2.2.2.2 ≤ M.2.2.2.2.2) (hA : As.length = n) (hr : (st.map xcat).sum ≤ 8)
    (kk : xCalls M' As μ (fun v μ1 => xOk M (pc + 3) ls (v.toList ++ st) μ1 Q)) : xOk M pc ls (As.reverse ++ st) μ Q := by
  intro p l e s m args below meth c G H locs la C hP hD hS hL
  have hts := C.2.2.2.2.2.1
  have hK := C.2.2.2.2.2.2.2
  refine xGo (st := st) (a := (As.map (cv G)).toArray) C hS hL ?_
  exact va_runS (As := As.map (cv G)) (rest := st.map (cv G)) ⟨C.1, C.2.1, C.2.2.2.1, C.2.2.2.2.1, hts⟩ (kk l G H.size)
    (cwS (rm := xRm M') n hts (xGoodS hlink hV.1 hV.2.1 hV.2.2) rfl rfl rfl hs hR)
    ⟨xBlind G _ μ H.size, fun U hU hW => ⟨rfl, by rw [hU], by rw [hU]; exact hP, hK.moved hW, hD.weaken (fun _ _ _ _ => trivial)⟩⟩
    rfl (by rw [List.length_map]; exact hA) hL.1 (by show (As.reverse ++ st).map (cv G) = _; rw [List.map_append, List.map_reverse]) (lv_room (by rw [xcat_sum]; exact hr)) hd ⟨Nat.le_refl _, Nat.le_refl _⟩
/-- a call of a private static method of a nest mate -/
theorem ok_callSN {M : xMt} {pc : Nat} {ls : List (Nat × xV)} {st : List xV} {μ : xM} {Q : xPo} {M' : xMt} {index n : Nat} {C' : String} (As : List xV) (hd : decode M.2.1 pc = .ok (.invokestatic index, 3)) (hlink : ∀ (G : xG) (U : State), xK G U → va_Nw (.methodLinkNest M.1.cls index M'.1 "OnceLetters") U)
    (hV : Cond.static M'.1 ∈ xT ∧ Cond.initialized C' ∈ xT ∧ Cond.code M'.1 M'.2.1 M'.2.2.1 M'.2.2.2.1 ∈ xT)
    (hs : M'.1.cls = C' ∧ M'.1.cls ≠ "java/lang/invoke/MethodHandle" ∧ M'.1.cls ≠ "java/lang/invoke/VarHandle" ∧ (parseMethodDescriptor M'.1.desc).map (fun d => d.parameters.length) = some n)
    (hR : M'.2.2.2.2.1 + 1 ≤ M.2.2.2.2.1 ∧ 8 + (M'.2.2.1 + 11) + M'.2.2.2.2.2 ≤ M.2.2.2.2.2) (hA : As.length = n) (hr : (st.map xcat).sum ≤ 8)
    (kk : xCalls M' As μ (fun v μ1 => xOk M (pc + 3) ls (v.toList ++ st) μ1 Q)) : xOk M pc ls (As.reverse ++ st) μ Q := by
  intro p l e s m args below meth c G H locs la C hP hD hS hL
  have hts := C.2.2.2.2.2.1
  have hK := C.2.2.2.2.2.2.2
  obtain ⟨hs1, hs2⟩ := hs
  subst hs1
  refine xGo (st := st) (a := (As.map (cv G)).toArray) C hS hL ?_
  exact va_runSN (As := As.map (cv G)) (rest := st.map (cv G)) (host := "OnceLetters") ⟨C.1, C.2.1, C.2.2.2.1, C.2.2.2.2.1, hts⟩ (kk l G H.size)
    ⟨va_cnB (ws' := xT) (rm := xRm M') n hts (xT_good hV.2.2) rfl rfl rfl (hlink G s hK) (hts _ hV.2.1) hs2 hR, hts _ hV.1, trivial⟩
    ⟨xBlind G _ μ H.size, fun U hU hW => ⟨rfl, by rw [hU], by rw [hU]; exact hP, hK.moved hW, hD.weaken (fun _ _ _ _ => trivial)⟩⟩
    rfl (by rw [List.length_map]; exact hA) hL.1 (by show (As.reverse ++ st).map (cv G) = _; rw [List.map_append, List.map_reverse]) (lv_room (by rw [xcat_sum]; exact hr)) hd ⟨Nat.le_refl _, Nat.le_refl _⟩
def xEnt : Nat → List xV → List (Nat × xV)
  | _, [] => []
  | i, v :: vs => (i, v) :: xEnt (if xcat v = 2 then i + 2 else i + 1) vs
theorem xEnt_eq (G : xG) : ∀ (av : List xV) (i : Nat), lv_args i (av.map (cv G)) = xLs G (xEnt i av)
  | [], _ => rfl
  | v :: av, i => by
    show (i, cv G v) :: lv_args (if (cv G v).category = 2 then i + 2 else i + 1) (av.map (cv G)) = (i, cv G v) :: xLs G (xEnt (if xcat v = 2 then i + 2 else i + 1) av)
    rw [cv_cat, xEnt_eq G av]
theorem xSl_len (G : xG) : ∀ (av : List xV), (lg_sl (av.map (cv G))).length = (av.map xcat).sum
  | [] => rfl
  | v :: av => by
    have ih := xSl_len G av
    unfold lg_sl at ih ⊢
    rw [List.map_cons, List.flatMap_cons, List.length_append, ih, List.map_cons, List.sum_cons, cv_cat]
    rcases v with x | x | n <;> rfl
theorem xCalls_of {M : xMt} {av : List xV} {μ : xM} {Q : xPo} (hy : plainName M.1.cls = true) (hl : (av.map xcat).sum ≤ M.2.2.1) (h : xOk M 0 (xEnt 0 av) [] μ Q) : xCalls M av μ Q := by
  intro l G sz
  refine Met.ofW (cc := M.2.1) (maxL := M.2.2.1) (ret := M.2.2.2.1) (ws' := xT) hy rfl ?_
  intro p e s m args below meth c s₁ B hml hv
  obtain ⟨rfl, hsz, hP, hK, hD0⟩ := hv
  subst hsz
  have hts := atoms_spec (ws := xW M) B.pre
  have hown : s.vm.findClass M.1.cls = some m.cls := findClass_of_methodNamed B.named
  rw [lg_entry_eq]
  have hl2 := lv_entry (av.map (cv G)) (n := M.2.2.1) (by rw [xSl_len]; exact hl)
  rw [xEnt_eq] at hl2
  exact h p l e s m _ below meth c G s.heap [] _ ⟨B.exec, B.bytes, B.returns, hml, hown, fun w hw => hts w (List.mem_cons_of_mem _ hw), B.notSynchronized, hK⟩ hP (xF_D hD0) va_S.rf hl2
theorem xCalls_mono {M : xMt} {av : List xV} {μ : xM} {Q Q' : xPo} (h : xCalls M av μ Q) (hq : ∀ v μ1, Q v μ1 → Q' v μ1) : xCalls M av μ Q' := by
  intro l G sz
  refine MetFree.mono (h l G sz) (fun _ _ z => z) (fun _ _ _ _ _ z => z) ?_
  rintro a st o t - ⟨⟨⟨v, μ1, e1, e2, e3⟩, e4⟩, e5⟩
  exact ⟨⟨⟨v, μ1, e1, hq _ _ e2, e3⟩, e4⟩, e5⟩
def qI (Q : Int32 → xM → Prop) : xPo := fun v μ => ∃ r, v = some (vI r) ∧ Q r μ
def qL (Q : Int64 → xM → Prop) : xPo := fun v μ => ∃ r, v = some (vL r) ∧ Q r μ
def qV (Q : xM → Prop) : xPo := fun v μ => v = none ∧ Q μ
abbrev CI (M : xMt) (av : List xV) (μ : xM) (Q : Int32 → xM → Prop) : Prop := xCalls M av μ (qI Q)
abbrev CL (M : xMt) (av : List xV) (μ : xM) (Q : Int64 → xM → Prop) : Prop := xCalls M av μ (qL Q)
abbrev CV (M : xMt) (av : List xV) (μ : xM) (Q : xM → Prop) : Prop := xCalls M av μ (qV Q)
theorem CI.to {M M' : xMt} {pc : Nat} {ls : List (Nat × xV)} {st : List xV} {av : List xV} {μ : xM} {Q : xPo} (h : CI M' av μ (fun r μ1 => xOk M pc ls (vI r :: st) μ1 Q)) : xCalls M' av μ (fun v μ1 => xOk M pc ls (v.toList ++ st) μ1 Q) := xCalls_mono h (by rintro v μ1 ⟨r, rfl, h⟩; exact h)
theorem CL.to {M M' : xMt} {pc : Nat} {ls : List (Nat × xV)} {st : List xV} {av : List xV} {μ : xM} {Q : xPo} (h : CL M' av μ (fun r μ1 => xOk M pc ls (vL r :: st) μ1 Q)) : xCalls M' av μ (fun v μ1 => xOk M pc ls (v.toList ++ st) μ1 Q) := xCalls_mono h (by rintro v μ1 ⟨r, rfl, h⟩; exact h)
theorem CV.to {M M' : xMt} {pc : Nat} {ls : List (Nat × xV)} {st : List xV} {av : List xV} {μ : xM} {Q : xPo} (h : CV M' av μ (fun μ1 => xOk M pc ls st μ1 Q)) : xCalls M' av μ (fun v μ1 => xOk M pc ls (v.toList ++ st) μ1 Q) := xCalls_mono h (by rintro v μ1 ⟨rfl, h⟩; exact h)
theorem CI.mono {M : xMt} {av : List xV} {μ : xM} {Q Q' : Int32 → xM → Prop} (h : CI M av μ Q) (hq : ∀ r μ1, Q r μ1 → Q' r μ1) : CI M av μ Q' := xCalls_mono h (by rintro v μ1 ⟨r, e, h⟩; exact ⟨r, e, hq _ _ h⟩)
theorem CV.mono {M : xMt} {av : List xV} {μ : xM} {Q Q' : xM → Prop} (h : CV M av μ Q) (hq : ∀ μ1, Q μ1 → Q' μ1) : CV M av μ Q' := xCalls_mono h (by rintro v μ1 ⟨e, h⟩; exact ⟨e, hq _ h⟩)
theorem CL.mono {M : xMt} {av : List xV} {μ : xM} {Q Q' : Int64 → xM → Prop} (h : CL M av μ Q) (hq : ∀ r μ1, Q r μ1 → Q' r μ1) : CL M av μ Q' := xCalls_mono h (by rintro v μ1 ⟨r, e, h⟩; exact ⟨r, e, hq _ _ h⟩)
