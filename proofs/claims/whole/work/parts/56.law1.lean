/-! THE LAW: its locals and its stack hold names (some) and the script (none) -/
def lcv (G : xG) (b : Nat) : Option xV → Value
  | none => .ref b
  | some v => cv G v
def lLs (G : xG) (b : Nat) (ls : List (Nat × Option xV)) : List (Nat × Value) := ls.map (fun q => (q.1, lcv G b q.2))
def lCt (p : Program) (s : State) (m : MethodId) (meth : Method) (c : Code) (b L : Nat) (xs : Nat → Int32) (G : xG) : Prop :=
  p.tables.exec = Jvm.exec ∧ c.code = code ∧ meth.sig.returnType = ret ∧ c.maxLocals = 4 ∧ s.vm.findClass R_law = some m.cls ∧ (∀ w ∈ xT, w.before #[Value.ref b] s = true) ∧ va_X b L xs s s.heap ∧ b < s.heap.size ∧ meth.locks = false ∧ xK G s
abbrev lA (s : State) : Nat → Prop := fun q => s.heap.size ≤ q
def lOk (b L : Nat) (xs : Nat → Int32) (pc : Nat) (ls : List (Nat × Option xV)) (st : List (Option xV)) (μ : xM) : Prop :=
  ∀ (p : Program) (l : Launch) (e : Env) (s : State) (m : MethodId) (below : List Frame) (meth : Method) (c : Code) (G : xG) (H : Heap) (locs : List Loc) (la : Array Slot),
    lCt p s m meth c b L xs G → va_P G.1 vwCl (xWs G μ) H → va_D (lA s) (xWs G μ) → va_S (lA s) s.heap H locs → lv_has la 4 (lLs G b ls) →
    W p l e room_1 s m #[Value.ref b] below meth c H locs 218 9958 (lw_Z below #[Value.ref b] s) (F0 m pc la (st.map (lcv G b)))
section
variable {b L : Nat} {xs : Nat → Int32} {pc : Nat} {ls : List (Nat × Option xV)} {st : List (Option xV)} {μ : xM}
theorem l_at {G : xG} {la : Array Slot} (h : lv_has la 4 (lLs G b ls)) {k i : Nat} {v : Option xV} (hk : ls[k]? = some (i, v)) : la[i]? = some (.val (lcv G b v)) := by
  refine lv_at h k (v := lcv G b v) ?_
  rw [lLs, List.getElem?_map, hk]; rfl
theorem l_aload0 {k : Fin 4} {i j : Nat} (hd : decode code pc = .ok (.aload_n k, 1)) (hi : (k : Nat) = i) (hl : ls[j]? = some (i, none)) (kk : lOk b L xs (pc + 1) ls (none :: st) μ) : lOk b L xs pc ls st μ := by
  intro p l e s m below meth c G H locs la C hP hD hS hL
  exact lv_aload_n C.1 C.2.1 hd hi (l_at hL hl) (kk p l e s m below meth c G H locs la C hP hD hS hL)
theorem l_aload {k : Fin 4} {i j x y z : Nat} (hd : decode code pc = .ok (.aload_n k, 1)) (hi : (k : Nat) = i) (hl : ls[j]? = some (i, some (vR x y z))) (kk : lOk b L xs (pc + 1) ls (some (vR x y z) :: st) μ) : lOk b L xs pc ls st μ := by
  intro p l e s m below meth c G H locs la C hP hD hS hL
  exact lv_aload_n C.1 C.2.1 hd hi (l_at hL hl) (kk p l e s m below meth c G H locs la C hP hD hS hL)
theorem l_iload {k : Fin 4} {i j : Nat} {x : Int32} (hd : decode code pc = .ok (.iload_n k, 1)) (hi : (k : Nat) = i) (hl : ls[j]? = some (i, some (vI x))) (kk : lOk b L xs (pc + 1) ls (some (vI x) :: st) μ) : lOk b L xs pc ls st μ := by
  intro p l e s m below meth c G H locs la C hP hD hS hL
  exact lv_iload_n C.1 C.2.1 hd hi (l_at hL hl) (kk p l e s m below meth c G H locs la C hP hD hS hL)
theorem l_iconst {n : Int} {v : Int32} (hd : decode code pc = .ok (.iconst n, 1)) (hv : Int32.ofInt n = v) (kk : lOk b L xs (pc + 1) ls (some (vI v) :: st) μ) : lOk b L xs pc ls st μ := by
  intro p l e s m below meth c G H locs la C hP hD hS hL
  exact lv_iconst C.1 C.2.1 hd hv (kk p l e s m below meth c G H locs la C hP hD hS hL)
theorem l_bipush {n : Int} {v : Int32} (hd : decode code pc = .ok (.bipush n, 2)) (hv : (Int8.ofInt n).toInt32 = v) (kk : lOk b L xs (pc + 2) ls (some (vI v) :: st) μ) : lOk b L xs pc ls st μ := by
  intro p l e s m below meth c G H locs la C hP hD hS hL
  exact lv_bipush C.1 C.2.1 hd hv (kk p l e s m below meth c G H locs la C hP hD hS hL)
theorem l_iadd {x y : Int32} (hd : decode code pc = .ok (.iadd, 1)) (kk : lOk b L xs (pc + 1) ls (some (vI (x + y)) :: st) μ) : lOk b L xs pc ls (some (vI y) :: some (vI x) :: st) μ := by
  intro p l e s m below meth c G H locs la C hP hD hS hL
  exact lv_iadd C.1 C.2.1 hd (kk p l e s m below meth c G H locs la C hP hD hS hL)
theorem l_isub {x y : Int32} (hd : decode code pc = .ok (.isub, 1)) (kk : lOk b L xs (pc + 1) ls (some (vI (x - y)) :: st) μ) : lOk b L xs pc ls (some (vI y) :: some (vI x) :: st) μ := by
  intro p l e s m below meth c G H locs la C hP hD hS hL
  exact lv_isub C.1 C.2.1 hd (kk p l e s m below meth c G H locs la C hP hD hS hL)
theorem l_iand {x y : Int32} (hd : decode code pc = .ok (.iand, 1)) (kk : lOk b L xs (pc + 1) ls (some (vI (x &&& y)) :: st) μ) : lOk b L xs pc ls (some (vI y) :: some (vI x) :: st) μ := by
  intro p l e s m below meth c G H locs la C hP hD hS hL
  exact lv_iand C.1 C.2.1 hd (kk p l e s m below meth c G H locs la C hP hD hS hL)
theorem l_lcmp {x y : Int64} (hd : decode code pc = .ok (.lcmp, 1)) (kk : lOk b L xs (pc + 1) ls (some (vI (lg_cmp x y)) :: st) μ) : lOk b L xs pc ls (some (vL y) :: some (vL x) :: st) μ := by
  intro p l e s m below meth c G H locs la C hP hD hS hL
  exact W.lcmp C.1 C.2.1 hd (kk p l e s m below meth c G H locs la C hP hD hS hL)
theorem l_iald {i : Int32} (hd : decode code pc = .ok (.iaload, 1)) (hin : vp_in i L) (kk : lOk b L xs (pc + 1) ls (some (vI (xs i.toNatClampNeg)) :: st) μ) : lOk b L xs pc ls (some (vI i) :: none :: st) μ := by
  intro p l e s m below meth c G H locs la C hP hD hS hL
  exact va_sld C.1 C.2.1 C.2.2.2.2.2.2.1 C.2.2.2.2.2.2.2.1 (Nat.not_le.mpr C.2.2.2.2.2.2.2.1) hS hin hd (kk p l e s m below meth c G H locs la C hP hD hS hL)
theorem l_alen (hd : decode code pc = .ok (.arraylength, 1)) (kk : lOk b L xs (pc + 1) ls (some (vI (nI L)) :: st) μ) : lOk b L xs pc ls (none :: st) μ := by
  intro p l e s m below meth c G H locs la C hP hD hS hL
  exact va_slen C.1 C.2.1 C.2.2.2.2.2.2.1 C.2.2.2.2.2.2.2.1 (Nat.not_le.mpr C.2.2.2.2.2.2.2.1) hS hd (kk p l e s m below meth c G H locs la C hP hD hS hL)
theorem l_goto {off : Int} {tgt : Nat} (hd : decode code pc = .ok (.goto off, 3)) (ht : (pc : Int) + off = (tgt : Int)) (kk : lOk b L xs tgt ls st μ) : lOk b L xs pc ls st μ := by
  intro p l e s m below meth c G H locs la C hP hD hS hL
  exact lv_goto C.1 C.2.1 hd ht (kk p l e s m below meth c G H locs la C hP hD hS hL)
theorem l_icmp_gt {x y : Int32} {off : Int} {tgt : Nat} (hd : decode code pc = .ok (.if_icmp .gt off, 3)) (ht : (pc : Int) + off = (tgt : Int)) (k1 : y < x → lOk b L xs tgt ls st μ) (k2 : ¬ y < x → lOk b L xs (pc + 3) ls st μ) : lOk b L xs pc ls (some (vI y) :: some (vI x) :: st) μ := by
  intro p l e s m below meth c G H locs la C hP hD hS hL
  exact lv_icmp_gt C.1 C.2.1 hd ht (fun z => k1 z p l e s m below meth c G H locs la C hP hD hS hL) (fun z => k2 z p l e s m below meth c G H locs la C hP hD hS hL)
theorem l_icmp_eq {x y : Int32} {off : Int} {tgt : Nat} (hd : decode code pc = .ok (.if_icmp .eq off, 3)) (ht : (pc : Int) + off = (tgt : Int)) (he : x = y) (k1 : lOk b L xs tgt ls st μ) : lOk b L xs pc ls (some (vI y) :: some (vI x) :: st) μ := by
  intro p l e s m below meth c G H locs la C hP hD hS hL
  exact lv_icmp_eq C.1 C.2.1 hd ht (fun _ => k1 p l e s m below meth c G H locs la C hP hD hS hL) (fun z => absurd he z)
theorem l_ifeq {x : Int32} {off : Int} {tgt : Nat} (hd : decode code pc = .ok (.ifCond .eq off, 3)) (ht : (pc : Int) + off = (tgt : Int)) (he : x = 0) (k1 : lOk b L xs tgt ls st μ) : lOk b L xs pc ls (some (vI x) :: st) μ := by
  intro p l e s m below meth c G H locs la C hP hD hS hL
  exact lv_if_eq C.1 C.2.1 hd ht (fun _ => k1 p l e s m below meth c G H locs la C hP hD hS hL) (fun z => absurd he z)
def lSto (i : Nat) (v : Option xV) (ls : List (Nat × Option xV)) : List (Nat × Option xV) := (i, v) :: ls.filter (fun q => !(q.1 == i))
theorem l_iinc {i j : Nat} {n : Int} {x v : Int32} {x1 y1 z1 x2 y2 z2 : Nat} (hd : decode code pc = .ok (.iinc 3 n, 3)) (hv : x + Int32.ofInt n = v) (kk : lOk b L xs (pc + 3) [(3, some (vI v)), (0, none), (1, some (vR x1 y1 z1)), (2, some (vR x2 y2 z2))] st μ) : lOk b L xs pc [(3, some (vI x)), (0, none), (1, some (vR x1 y1 z1)), (2, some (vR x2 y2 z2))] st μ := by
  intro p l e s m below meth c G H locs la C hP hD hS hL
  exact lv_iinc (k := 0) C.1 C.2.1 hd hL rfl hv (by decide) rfl (fun la hL => kk p l e s m below meth c G H locs la C hP hD hS hL)
theorem l_table {dflt lo hi off : Int} {offs : Array Int} {len tgt : Nat} {x : Int32} (hd : decode code pc = .ok (.tableswitch dflt lo hi offs, len)) (hz : lo + (offs.size : Int) = hi + 1) (ho : xSw dflt lo hi offs x.toInt = off) (ht : (pc : Int) + off = (tgt : Int)) (kk : lOk b L xs tgt ls st μ) : lOk b L xs pc ls (some (vI x) :: st) μ := by
  intro p l e s m below meth c G H locs la C hP hD hS hL
  by_cases h : x.toInt < lo ∨ hi < x.toInt
  · have e1 : off = dflt := by rw [← ho]; unfold xSw; rw [if_pos h]
    subst e1
    exact lv_tableOut C.1 C.2.1 hd h ht (kk p l e s m below meth c G H locs la C hP hD hS hL)
  · have hlt : (x.toInt - lo).toNat < offs.size := by omega
    unfold xSw at ho
    rw [if_neg h] at ho
    exact lv_tableIn C.1 C.2.1 hd (fun z => h (Or.inl z)) (fun z => h (Or.inr z)) (off := off) (by rw [Array.getElem?_eq_getElem hlt]; rw [← ho]; simp [hlt]) ht (kk p l e s m below meth c G H locs la C hP hD hS hL)
theorem l_ret (hd : decode code pc = .ok (.ireturn, 1)) : lOk b L xs pc ls [some (vI 1)] μ := by
  intro p l e s m below meth c G H locs la C hP hD hS hL
  refine va_forget (fun q hq => hS.2.2 q hq) ?_
  refine W.widen (k := 600000) (n := 7302250) (Nat.le_of_ble_eq_true rfl) (Nat.le_of_ble_eq_true rfl) ?_
  exact lw_ret C.1 C.2.1 C.2.2.1 C.2.2.2.2.2.2.2.2.1 hd
theorem lcv_some (G : xG) (vs : List xV) : (vs.map some).map (lcv G b) = vs.map (cv G) := by
  rw [List.map_map]; rfl
theorem xF_lA {G : xG} {s : State} {H : Heap} {locs : List Loc} (hD : va_D (lA s) (xWs G μ)) (hS : va_S (lA s) s.heap H locs) (q : Nat) (h : xF G H.size q) : lA s q := by
  rcases h with ⟨n, hn, rfl⟩ | h
  · obtain ⟨k, hk⟩ := xAt hn
    exact hD.2 k _ (xWs_get hk)
  · exact Nat.le_trans hS.1 h
/-- a call of a system's method -/
theorem l_call {M' : xMt} {index k s' w' n N : Nat} {C' : String} {T : u_T} (As : List xV) (st : List (Option xV)) (hd : decode code pc = .ok (.invokevirtual index, 3)) (hlink : Cond.methodLink R_law index M'.1 ∈ xT)
    (hV : Cond.instanceMethod M'.1 ∈ xT ∧ Cond.selects C' M'.1 M'.1 ∈ xT ∧ Cond.initialized C' ∈ xT ∧ Cond.code M'.1 M'.2.1 M'.2.2.1 M'.2.2.2.1 ∈ xT)
    (hs : M'.1.cls = C' ∧ M'.1.cls ≠ "java/lang/invoke/MethodHandle" ∧ M'.1.cls ≠ "java/lang/invoke/VarHandle" ∧ (parseMethodDescriptor M'.1.desc).map (fun d => d.parameters.length) = some n) (hk : vwCl[k]? = some (C', T, N))
    (hR : M'.2.2.2.2.1 + 1 ≤ room_1.frames ∧ 8 + (M'.2.2.1 + 11) + M'.2.2.2.2.2 ≤ room_1.locals) (hn : (k, s', w') ∈ xNms) (hob : ∀ G : xG, ∃ fs, xCell G μ (k, s', w') = .inr (k, fs)) (hA : As.length = n) (hr : ∀ G : xG, ((st.map (lcv G b)).map fun v => v.category).sum ≤ 8)
    (kk : xCalls M' (vR k s' w' :: As) μ (fun v μ1 => lOk b L xs (pc + 3) ls (v.toList.map some ++ st) μ1)) : lOk b L xs pc ls ((As.reverse.map some) ++ some (vR k s' w') :: st) μ := by
  intro p l e s m below meth c G H locs la C hP hD hS hL
  obtain ⟨i, hi⟩ := xAt hn
  obtain ⟨fs, e1⟩ := hob G
  have he := xWs_get (G := G) (μ := μ) hi
  rw [e1] at he
  have hts := C.2.2.2.2.2.1
  have hK := C.2.2.2.2.2.2.2.2.2
  have hrun := va_runV (p := p) (l := l) (e := e) (R := room_1) (s := s) (m := m) (args := #[Value.ref b]) (below := below) (meth := meth) (c := c) (H := H) (locs := locs) (cells := 218) (slots := 9958) (As := As.map (cv G)) (rest := st.map (lcv G b)) (b := xr G k s' w') (own := R_law) (C := C') (g := F0 m pc la ((As.reverse.map some ++ some (vR k s' w') :: st).map (lcv G b))) ⟨C.1, C.2.1, C.2.2.2.1, C.2.2.2.2.1, hts⟩ (kk l G H.size)
    (cwV (rm := xRm M') n hts (xGoodV hlink hV.1 hV.2.1 hV.2.2.1 hV.2.2.2) rfl rfl rfl hs hR)
    ⟨xBlind G _ μ H.size, va_recv hK.1 hP hk he, fun U hU hW => ⟨rfl, by rw [hU], by rw [hU]; exact hP, hK.moved hW, hD.weaken (fun _ _ _ _ => trivial)⟩⟩
    rfl (by rw [List.length_map]; exact hA) hL.1 (by show (As.reverse.map some ++ some (vR k s' w') :: st).map (lcv G b) = _; rw [List.map_append, lcv_some, List.map_reverse]; rfl) (lv_room (hr G)) hd ⟨Nat.le_of_ble_eq_true rfl, Nat.le_of_ble_eq_true rfl⟩
  intro T0 hT X
  obtain ⟨v, st₀, t, T', L0, h0, X', hLc, e1, e2, ⟨⟨v', μ1, hv, hq, hP1, hK1, hD1⟩, hz, hkp⟩, go⟩ := hrun T0 hT X
  cases hv
  rw [h0] at hz hkp
  have hF := xF_lA hD hS
  have hS1 : va_S (lA s) s.heap T'.heap (locs ++ L0) := by
    refine ⟨Nat.le_trans hS.1 (by rw [e1]; exact hz), fun q h1 h2 => ?_, fun q hq => ?_⟩
    · rw [e1, hkp q (Nat.lt_of_lt_of_le h1 hS.1) (fun z => h2 (hF q z))]
      exact hS.2.1 q h1 h2
    · rcases List.mem_append.mp hq with h | h
      · exact hS.2.2 q h
      · exact hF _ (hLc q h)
  obtain ⟨t2, a1, b1⟩ := hq p l e s m below meth c G T'.heap (locs ++ L0) la C (by rw [e1]; exact hP1) (hD1.weaken (fun k x _ h => hF x.1 h)) hS1 hL T' rfl X'
  refine ⟨t2, go t2 ?_, b1⟩
  have hst : ((v'.toList.map some ++ st).map (lcv G b)) = (v'.map (cv G)).toList ++ st.map (lcv G b) := by
    cases v' <;> rfl
  rw [hst] at a1
  exact a1
end
