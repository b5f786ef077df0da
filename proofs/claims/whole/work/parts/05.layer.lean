/-! THE LAYER: the system's cells after the constructors are a fixed graph of named cells; what changes is a memory of ints.
A name is (kind, state, place). Kinds 0..6: objects of vwCl; 10..25: int rows of the class; 30..35: int rows of the reference; 40..43: rows of references. -/
abbrev xN : Type := Nat × Nat × Nat
abbrev xV : Type := Int32 ⊕ (Int64 ⊕ xN)
abbrev vI (x : Int32) : xV := Sum.inl x
abbrev vL (x : Int64) : xV := Sum.inr (Sum.inl x)
abbrev vR (k s w : Nat) : xV := Sum.inr (Sum.inr (k, s, w))
abbrev xA : Type := Nat → Nat → Nat → Nat → Int32
abbrev xM : Type := xA × (xA × Int64)
abbrev xG : Type := va_G × ((Nat → ClassId) × (Nat → Nat → Nat → Nat))
def xr (G : xG) (k s w : Nat) : Nat := G.2.2 k s w
def cv (G : xG) (v : xV) : Value := match v with
  | .inl x => .int x
  | .inr (.inl x) => .long x
  | .inr (.inr n) => .ref (xr G n.1 n.2.1 n.2.2)
def xcat (v : xV) : Nat := match v with
  | .inr (.inl _) => 2
  | _ => 1
theorem cv_cat (G : xG) (v : xV) : (cv G v).category = xcat v := by
  rcases v with x | x | n <;> rfl
def xLen (k : Nat) : Nat := if k < 16 then 48 else if k = 19 then 6 else if k < 22 then 3 else if k = 22 then 120 else if k = 23 then 40 else if k = 24 then 200 else if k = 25 then 5 else if k = 30 then 945 else if k = 31 then 6615 else if k = 32 then 5 else if k = 33 then 120 else if k = 34 then 40 else 200
abbrev xRefs (c : ClassId) (n : Nat) (f : Nat → Nat) : va_E := .inl (c, n, .inr (.inr (.inr (.inr (fun j => some (f j))))))
def xCell (G : xG) (μ : xM) (n : xN) : va_E :=
  if n.1 = 0 then .inr (0, [.ref (xr G 20 n.2.1 n.2.2), .ref (xr G 21 n.2.1 n.2.2)])
  else if n.1 = 1 then .inr (1, [.int (μ.1 n.1 n.2.1 n.2.2 0), .ref (xr G 10 n.2.1 n.2.2), .ref (xr G 11 n.2.1 n.2.2), .ref (xr G 12 n.2.1 n.2.2), .ref (xr G 13 n.2.1 n.2.2), .ref (xr G 14 n.2.1 n.2.2), .ref (xr G 15 n.2.1 n.2.2)])
  else if n.1 = 2 then .inr (2, [.int (μ.1 n.1 n.2.1 n.2.2 0), .int (μ.1 n.1 n.2.1 n.2.2 1), .int (μ.1 n.1 n.2.1 n.2.2 2), .int (μ.1 n.1 n.2.1 n.2.2 3), .ref (xr G 17 n.2.1 n.2.2), .ref (xr G 18 n.2.1 n.2.2), .ref (xr G 19 n.2.1 n.2.2)])
  else if n.1 = 3 then .inr (3, [.ref (xr G 22 n.2.1 n.2.2), .int (μ.1 n.1 n.2.1 n.2.2 1), .ref (xr G 23 n.2.1 n.2.2), .ref (xr G 24 n.2.1 n.2.2), .int (μ.1 n.1 n.2.1 n.2.2 4), .int (μ.1 n.1 n.2.1 n.2.2 5), .int (μ.1 n.1 n.2.1 n.2.2 6), .int (μ.1 n.1 n.2.1 n.2.2 7), .int (μ.1 n.1 n.2.1 n.2.2 8)])
  else if n.1 = 4 then .inr (4, [.int (μ.1 n.1 n.2.1 n.2.2 0), .int (μ.1 n.1 n.2.1 n.2.2 1), .ref (xr G 16 n.2.1 n.2.2), .ref (xr G 42 n.2.1 n.2.2), .ref (xr G 43 n.2.1 n.2.2)])
  else if n.1 = 5 then .inr (5, [.ref (xr G 40 n.2.1 n.2.2), .ref (xr G 4 0 0), .ref (xr G 41 n.2.1 n.2.2), .int (μ.1 n.1 n.2.1 n.2.2 3), .int (μ.1 n.1 n.2.1 n.2.2 4), .ref (xr G 3 n.2.1 n.2.2), .ref (xr G 25 n.2.1 n.2.2), .int (μ.1 n.1 n.2.1 n.2.2 7), .int (μ.1 n.1 n.2.1 n.2.2 8)])
  else if n.1 = 6 then .inr (6, [.ref (xr G 30 n.2.1 n.2.2), .ref (xr G 31 n.2.1 n.2.2), .int (μ.2.1 n.1 n.2.1 n.2.2 2), .int (μ.2.1 n.1 n.2.1 n.2.2 3), .ref (xr G 32 n.2.1 n.2.2), .ref (xr G 33 n.2.1 n.2.2), .int (μ.2.1 n.1 n.2.1 n.2.2 6), .int (μ.2.1 n.1 n.2.1 n.2.2 7), .int (μ.2.1 n.1 n.2.1 n.2.2 8), .int (μ.2.1 n.1 n.2.1 n.2.2 9), .ref (xr G 34 n.2.1 n.2.2), .ref (xr G 35 n.2.1 n.2.2), .int (μ.2.1 n.1 n.2.1 n.2.2 12), .long μ.2.2])
  else if n.1 = 40 then xRefs (G.2.1 1) 3 (fun j => xr G 1 0 j)
  else if n.1 = 41 then xRefs (G.2.1 2) 6 (fun j => xr G 4 (j + 1) 0)
  else if n.1 = 42 then xRefs (G.2.1 3) 4 (fun j => xr G 2 n.2.1 j)
  else if n.1 = 43 then xRefs (G.2.1 4) 2 (fun j => xr G 0 n.2.1 j)
  else if n.1 < 30 then .inl (G.2.1 0, xLen n.1, .inl (fun j => μ.1 n.1 n.2.1 n.2.2 j))
  else .inl (G.2.1 0, xLen n.1, .inl (fun j => μ.2.1 n.1 n.2.1 n.2.2 j))
theorem xCell_same {G : xG} {μ μ' : xM} {n : xN} (h1 : ∀ j, μ'.1 n.1 n.2.1 n.2.2 j = μ.1 n.1 n.2.1 n.2.2 j) (h2 : ∀ j, μ'.2.1 n.1 n.2.1 n.2.2 j = μ.2.1 n.1 n.2.1 n.2.2 j) (h3 : n.1 = 6 → μ'.2.2 = μ.2.2) : xCell G μ' n = xCell G μ n := by
  by_cases h6 : n.1 = 6
  · simp only [xCell, h1, h2, h3 h6]
  · simp only [xCell, h1, h2, if_neg h6]
def xNms : List xN := [(5, 0, 0), (3, 0, 0), (6, 0, 0), (40, 0, 0), (41, 0, 0), (22, 0, 0), (23, 0, 0), (24, 0, 0), (25, 0, 0), (30, 0, 0), (31, 0, 0), (32, 0, 0), (33, 0, 0), (34, 0, 0), (35, 0, 0)]
  ++ (List.range 3).flatMap (fun p => [(1, 0, p), (10, 0, p), (11, 0, p), (12, 0, p), (13, 0, p), (14, 0, p), (15, 0, p)])
  ++ (List.range 7).flatMap (fun s => [(4, s, 0), (16, s, 0), (42, s, 0), (43, s, 0)] ++ (List.range 4).flatMap (fun w => [(2, s, w), (17, s, w), (18, s, w), (19, s, w)]) ++ (List.range 2).flatMap (fun r => [(0, s, r), (20, s, r), (21, s, r)]))
theorem xNodup : xNms.Nodup := by decide +kernel
def xadr (G : xG) (n : xN) : Nat := xr G n.1 n.2.1 n.2.2
def xWs (G : xG) (μ : xM) : va_W := xNms.map (fun n => (xadr G n, xCell G μ n))
theorem xAt {n : xN} (h : n ∈ xNms) : ∃ k : Nat, xNms[k]? = some n := List.getElem?_of_mem h
theorem xWs_get {G : xG} {μ : xM} {n : xN} {k : Nat} (hk : xNms[k]? = some n) : (xWs G μ)[k]? = some (xadr G n, xCell G μ n) := by
  rw [xWs, List.getElem?_map, hk]; rfl
theorem xWs_set {G : xG} {μ μ' : xM} {n : xN} {k : Nat} {e : va_E} (hk : xNms[k]? = some n) (he : e = xCell G μ' n) (h : ∀ n' ∈ xNms, n' ≠ n → xCell G μ' n' = xCell G μ n') : (xWs G μ).set k (xadr G n, e) = xWs G μ' := by
  have hl : k < xNms.length := (List.getElem?_eq_some_iff.mp hk).1
  have hl2 : k < (xWs G μ).length := by rw [xWs, List.length_map]; exact hl
  apply List.ext_getElem?
  intro i
  by_cases hi : i = k
  · subst hi
    rw [List.getElem?_set_self hl2, xWs_get hk, he]
  · rw [List.getElem?_set_ne (Ne.symm hi), xWs, xWs, List.getElem?_map, List.getElem?_map]
    cases hx : xNms[i]? with
    | none => rfl
    | some n' =>
      have hne : n' ≠ n := by
        intro e2
        subst e2
        exact hi ((List.getElem?_inj (List.getElem?_eq_some_iff.mp hx).1 xNodup).mp (hx.trans hk.symm))
      show some (xadr G n', xCell G μ n') = some (xadr G n', xCell G μ' n')
      rw [h n' (List.mem_of_getElem? hx) hne]
/-- which cells a method may change -/
def xF (G : xG) (sz : Nat) : Nat → Prop := fun q => (∃ n ∈ xNms, q = xadr G n) ∨ sz ≤ q
theorem xF_of {G : xG} {sz : Nat} {μ : xM} {k : Nat} {q : Nat × va_E} (h : (xWs G μ)[k]? = some q) : xF G sz q.1 := by
  rw [xWs, List.getElem?_map] at h
  cases hx : xNms[k]? with
  | none => rw [hx] at h; cases h
  | some n =>
    rw [hx] at h
    cases h
    exact Or.inl ⟨n, List.mem_of_getElem? hx, rfl⟩
theorem xF_D {G : xG} {sz : Nat} {μ : xM} {A : Nat → Prop} (h : va_D A (xWs G μ)) : va_D (xF G sz) (xWs G μ) := ⟨h.1, fun k q hk => xF_of hk⟩
/-- a method: name, code, maxLocals, what it returns, frames and locals of the room that it asks -/
abbrev xMt : Type := MethodName × ByteArray × Nat × Option FieldType × Nat × Nat
def xRm (M : xMt) : Room := { frames := M.2.2.2.2.1, cells := 0, slots := 0, locals := M.2.2.2.2.2 }
def xTy (G : xG) : List (ClassId × FieldType) := [(G.2.1 0, .int), (G.2.1 1, .object "OnceLetters$Log"), (G.2.1 2, .object "OnceLetters$State"), (G.2.1 3, .object "OnceLetters$Producer"), (G.2.1 4, .object "OnceLetters$Consumer")]
def xW (M : xMt) : List Cond := .code M.1 M.2.1 M.2.2.1 M.2.2.2.1 :: xT
abbrev xPo : Type := Option xV → xM → Prop
def xQ (G : xG) (Q : xPo) (A : Nat → Prop) : Array Value → State → Outcome → State → Prop := fun _ st oc t =>
  (∃ (v : Option xV) (μ : xM), oc = .returned (v.map (cv G)) ∧ Q v μ ∧ va_P G.1 vwCl (xWs G μ) t.heap ∧ va_K G.1 vwCl (xTy G) t ∧ va_D A (xWs G μ)) ∧ va_F A st t
/-- what is known of the tables: the cells' classes, and the link of Log's own call of the outer class's private method -/
def xK (G : xG) (U : State) : Prop := va_K G.1 vwCl (xTy G) U ∧ va_Nw (.methodLinkNest "OnceLetters$Log" 46 yX5_outside "OnceLetters") U
theorem xK.moved {G : xG} {s U : State} (hW : s.WarmedH U.vm) (h : xK G s) : xK G U := ⟨va_K.moved hW.alike h.1, va_Nw.warmM hW h.2⟩
theorem xK.same {G : xG} {s U : State} (hv : s.vm = U.vm) (hA : s.vm.Alike U.vm) (h : xK G s) : xK G U := ⟨va_K.moved hA h.1, va_Nw.same rfl hv h.2⟩
def xPre (G : xG) (μ : xM) (sz : Nat) (U : State) : Prop := U.heap.size = sz ∧ va_P G.1 vwCl (xWs G μ) U.heap ∧ xK G U ∧ va_D (fun _ => True) (xWs G μ)
/-- the method's contract: from memory μ with these arguments it returns, and Q holds of answer and memory -/
def xCalls (M : xMt) (av : List xV) (μ : xM) (Q : xPo) : Prop := ∀ (l : Launch) (G : xG) (sz : Nat), Met l M.1 (xW M) (xRm M) (va_Pc (av.map (cv G)) (xPre G μ sz)) (xQ G Q (xF G sz)) 0 0 (xF G sz)
/-- what holds inside a method -/
def xC (M : xMt) (p : Program) (s : State) (m : MethodId) (args : Array Value) (meth : Method) (c : Code) (G : xG) : Prop :=
  p.tables.exec = Jvm.exec ∧ c.code = M.2.1 ∧ meth.sig.returnType = M.2.2.2.1 ∧ c.maxLocals = M.2.2.1 ∧ s.vm.findClass M.1.cls = some m.cls ∧ (∀ w ∈ xT, w.before args s = true) ∧ meth.locks = false ∧ xK G s
def xLs (G : xG) (ls : List (Nat × xV)) : List (Nat × Value) := ls.map (fun q => (q.1, cv G q.2))
/-- the machine, in method M at pc with these locals and this stack and memory, comes to the method's end with Q -/
def xOk (M : xMt) (pc : Nat) (ls : List (Nat × xV)) (st : List xV) (μ : xM) (Q : xPo) : Prop :=
  ∀ (p : Program) (l : Launch) (e : Env) (s : State) (m : MethodId) (args : Array Value) (below : List Frame) (meth : Method) (c : Code) (G : xG) (H : Heap) (locs : List Loc) (la : Array Slot),
    xC M p s m args meth c G → va_P G.1 vwCl (xWs G μ) H → va_D (xF G s.heap.size) (xWs G μ) → va_S (xF G s.heap.size) s.heap H locs → lv_has la M.2.2.1 (xLs G ls) →
    W p l e (xRm M) s m args below meth c H locs 0 0 (MQ below (xQ G Q (xF G s.heap.size)) args s 0 0 (xF G s.heap.size)) (F0 m pc la (st.map (cv G)))
theorem xl_at {G : xG} {la : Array Slot} {nL : Nat} {ls : List (Nat × xV)} (h : lv_has la nL (xLs G ls)) {k i : Nat} {v : xV} (hk : ls[k]? = some (i, v)) : la[i]? = some (.val (cv G v)) := by
  refine lv_at h k (v := cv G v) ?_
  rw [xLs, List.getElem?_map, hk]; rfl
def xSto (i : Nat) (v : xV) (ls : List (Nat × xV)) : List (Nat × xV) := (i, v) :: ls.filter (fun q => !(q.1 == i) && !(q.1 + 1 == i && xcat q.2 == 2))
theorem xSto_eq (G : xG) (i : Nat) (v : xV) (ls : List (Nat × xV)) : (i, cv G v) :: (xLs G ls).filter (fun q => !(q.1 == i) && !(q.1 + 1 == i && q.2.category == 2)) = xLs G (xSto i v ls) := by
  unfold xSto xLs
  rw [List.map_cons, List.filter_map]
  congr 3
  funext q
  simp only [Function.comp, cv_cat]
def xStoL (i : Nat) (v : xV) (ls : List (Nat × xV)) : List (Nat × xV) := (i, v) :: ls.filter (fun q => !(q.1 == i) && (!(q.1 == i + 1) && !(q.1 + 1 == i && xcat q.2 == 2)))
theorem xStoL_eq (G : xG) (i : Nat) (v : xV) (ls : List (Nat × xV)) : (i, cv G v) :: (xLs G ls).filter (fun q => !(q.1 == i) && (!(q.1 == i + 1) && !(q.1 + 1 == i && q.2.category == 2))) = xLs G (xStoL i v ls) := by
  unfold xStoL xLs
  rw [List.map_cons, List.filter_map]
  congr 3
  funext q
  simp only [Function.comp, cv_cat]
/-- other locals, each of them among those that are there -/
theorem ok_sub {M : xMt} {pc : Nat} {ls : List (Nat × xV)} {st : List xV} {μ : xM} {Q : xPo} (ls' : List (Nat × xV)) (ks : List Nat) (hs : ks.filterMap (fun k => ls[k]?) = ls') (kk : xOk M pc ls' st μ Q) : xOk M pc ls st μ Q := by
  intro p l e s m args below meth c G H locs la C hP hD hS hL
  refine kk p l e s m args below meth c G H locs la C hP hD hS ⟨hL.1, hL.2.1, fun q hq => ?_⟩
  subst hs
  obtain ⟨q0, h0, rfl⟩ := List.mem_map.mp hq
  obtain ⟨k, -, hk⟩ := List.mem_filterMap.mp h0
  exact hL.2.2 _ (List.mem_map.mpr ⟨q0, List.mem_of_getElem? hk, rfl⟩)
