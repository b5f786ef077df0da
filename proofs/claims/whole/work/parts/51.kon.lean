/-! THE CONSTRUCTORS: a world that grows, its cells in the order in which they come -/
abbrev kMt : Type := xMt × Nat × Nat
def kRm (K : kMt) : Room := { frames := K.1.2.2.2.2.1, cells := K.2.1, slots := K.2.2, locals := K.1.2.2.2.2.2 }
def kTy (ct : Nat → ClassId) : List (ClassId × FieldType) := [(ct 0, .int), (ct 1, .object "OnceLetters$Log"), (ct 2, .object "OnceLetters$State"), (ct 3, .object "OnceLetters$Producer"), (ct 4, .object "OnceLetters$Consumer")]
def kNC : Nat → String
  | 1 => "OnceLetters$Log"
  | 2 => "OnceLetters$State"
  | 3 => "OnceLetters$Producer"
  | _ => "OnceLetters$Consumer"
def kF (D : va_G) (ct : Nat → ClassId) (U : State) : Prop := va_K D vwCl (kTy ct) U ∧ (va_AO "OnceLetters$Log" U ∧ va_AO "OnceLetters$State" U ∧ va_AO "OnceLetters$Producer" U ∧ va_AO "OnceLetters$Consumer" U) ∧
  (va_Nw (.methodLinkNest "OnceLetters$State" 34 yX2_init "OnceLetters") U ∧ va_Nw (.methodLinkNest "OnceLetters$State" 35 yX0_init "OnceLetters") U ∧ va_Nw (.methodLinkNest "OnceLetters" 35 yX3_init "OnceLetters") U ∧ va_Nw (.methodLinkNest "OnceLetters" 51 yX1_init "OnceLetters") U)
theorem kF.moved {D : va_G} {ct : Nat → ClassId} {s U : State} (hW : s.WarmedH U.vm) (h : kF D ct s) : kF D ct U := by
  obtain ⟨h1, ⟨a1, a2, a3, a4⟩, n1, n2, n3, n4⟩ := h
  exact ⟨va_K.moved hW.alike h1, ⟨a1.moved hW.alike, a2.moved hW.alike, a3.moved hW.alike, a4.moved hW.alike⟩, va_Nw.warmM hW n1, va_Nw.warmM hW n2, va_Nw.warmM hW n3, va_Nw.warmM hW n4⟩
theorem kF.same {D : va_G} {ct : Nat → ClassId} {s U : State} (hv : s.vm = U.vm) (hA : s.vm.Alike U.vm) (h : kF D ct s) : kF D ct U := by
  obtain ⟨h1, ⟨a1, a2, a3, a4⟩, n1, n2, n3, n4⟩ := h
  exact ⟨va_K.moved hA h1, ⟨a1.moved hA, a2.moved hA, a3.moved hA, a4.moved hA⟩, va_Nw.same rfl hv n1, va_Nw.same rfl hv n2, va_Nw.same rfl hv n3, va_Nw.same rfl hv n4⟩
def kC (K : kMt) (D : va_G) (ct : Nat → ClassId) (p : Program) (s : State) (m : MethodId) (args : Array Value) (meth : Method) (c : Code) : Prop :=
  p.tables.exec = Jvm.exec ∧ c.code = K.1.2.1 ∧ meth.sig.returnType = none ∧ c.maxLocals = K.1.2.2.1 ∧ s.vm.findClass K.1.1.cls = some m.cls ∧ (∀ w ∈ xT, w.before args s = true) ∧ meth.locks = false ∧ meth.name = K.1.1.name ∧ kF D ct s
def kB (D : va_G) (A : Nat → Prop) : va_W → State → Prop := fun w1 t => va_P D vwCl w1 t.heap ∧ va_D A w1
def kOk (K : kMt) (D : va_G) (ct : Nat → ClassId) (pc : Nat) (ls : List (Nat × Value)) (st : List Value) (ws : va_W) (cells slots : Nat) (P : va_W → Prop) : Prop :=
  ∀ (p : Program) (l : Launch) (e : Env) (s : State) (m : MethodId) (args : Array Value) (below : List Frame) (meth : Method) (c : Code) (A : Nat → Prop) (H : Heap) (locs : List Loc) (la : Array Slot),
    kC K D ct p s m args meth c → (∀ q, s.heap.size ≤ q → A q) → va_P D vwCl ws H → va_D A ws → va_S A s.heap H locs → lv_has la K.1.2.2.1 ls →
    W p l e (kRm K) s m args below meth c H locs cells slots (MQ below (va_Qv P (kB D A) A) args s K.2.1 K.2.2 A) (F0 m pc la st)
def kPre (D : va_G) (ct : Nat → ClassId) (wc : va_W) (sz : Nat) (U : State) : Prop := U.heap.size = sz ∧ va_P D vwCl wc U.heap ∧ kF D ct U ∧ va_D (fun _ => True) wc
/-- a constructor's contract: the world wc, behind it P -/
def kMet (K : kMt) (D : va_G) (ct : Nat → ClassId) (av : List Value) (wc : va_W) (P : va_W → Prop) : Prop := ∀ (l : Launch) (sz : Nat), Met l K.1.1 (xW K.1) (kRm K) (va_Pc av (kPre D ct wc sz)) (va_Qv P (kB D (va_A wc sz)) (va_A wc sz)) K.2.1 K.2.2 (va_A wc sz)
section
variable {K : kMt} {D : va_G} {ct : Nat → ClassId} {pc : Nat} {ls : List (Nat × Value)} {st : List Value} {ws : va_W} {cells slots : Nat} {P : va_W → Prop}
theorem kMet_of {av : List Value} {wc : va_W} (hy : plainName K.1.1.cls = true) (hr : K.1.2.2.2.1 = none) (hl : (lg_sl av).length ≤ K.1.2.2.1) (h : kOk K D ct 0 (lv_args 0 av) [] wc 0 0 P) : kMet K D ct av wc P := by
  intro l sz
  refine Met.ofW (cc := K.1.2.1) (maxL := K.1.2.2.1) (ret := K.1.2.2.2.1) (ws' := xT) hy rfl ?_
  intro p e s m args below meth c s₁ B hml hv
  obtain ⟨rfl, hsz, hP, hK, hD0⟩ := hv
  subst hsz
  have hts := atoms_spec (ws := xW K.1) B.pre
  have hown : s.vm.findClass K.1.1.cls = some m.cls := findClass_of_methodNamed B.named
  rw [lg_entry_eq]
  have hl2 := lv_entry av (n := K.1.2.2.1) hl
  have hr2 : meth.sig.returnType = none := B.returns.trans hr
  exact h p l e s m _ below meth c (va_A wc s.heap.size) s.heap [] _ ⟨B.exec, B.bytes, hr2, hml, hown, fun w hw => hts w (List.mem_cons_of_mem _ hw), B.notSynchronized, (name_of_methodNamed B.named B.method).1, hK⟩ (fun q h => Or.inr h) hP hD0.self va_S.rf hl2
theorem k_aload {k : Fin 4} {i j a : Nat} (hd : decode K.1.2.1 pc = .ok (.aload_n k, 1)) (hi : (k : Nat) = i) (hl : ls[j]? = some (i, .ref a)) (kk : kOk K D ct (pc + 1) ls (.ref a :: st) ws cells slots P) : kOk K D ct pc ls st ws cells slots P := by
  intro p l e s m args below meth c A H locs la C hA hP hD hS hL
  exact lv_aload_n C.1 C.2.1 hd hi (lv_at hL j hl) (kk p l e s m args below meth c A H locs la C hA hP hD hS hL)
theorem k_iload {k : Fin 4} {i j : Nat} {x : Int32} (hd : decode K.1.2.1 pc = .ok (.iload_n k, 1)) (hi : (k : Nat) = i) (hl : ls[j]? = some (i, .int x)) (kk : kOk K D ct (pc + 1) ls (.int x :: st) ws cells slots P) : kOk K D ct pc ls st ws cells slots P := by
  intro p l e s m args below meth c A H locs la C hA hP hD hS hL
  exact lv_iload_n C.1 C.2.1 hd hi (lv_at hL j hl) (kk p l e s m args below meth c A H locs la C hA hP hD hS hL)
theorem k_istore {k : Fin 4} {i : Nat} {x : Int32} {ls2 : List (Nat × Value)} (hd : decode K.1.2.1 pc = .ok (.istore_n k, 1)) (hi : (k : Nat) = i) (hn : i < K.1.2.2.1) (hs : (i, Value.int x) :: ls.filter (fun q => !(q.1 == i) && !(q.1 + 1 == i && q.2.category == 2)) = ls2) (kk : kOk K D ct (pc + 1) ls2 st ws cells slots P) : kOk K D ct pc ls (.int x :: st) ws cells slots P := by
  intro p l e s m args below meth c A H locs la C hA hP hD hS hL
  exact lv_istore_n C.1 C.2.1 hd hi hL hn hs (fun la hL => kk p l e s m args below meth c A H locs la C hA hP hD hS hL)
theorem k_iinc {i j : Nat} {n : Int} {x v : Int32} {ls2 : List (Nat × Value)} (hd : decode K.1.2.1 pc = .ok (.iinc i n, 3)) (hl : ls[j]? = some (i, .int x)) (hv : x + Int32.ofInt n = v) (hn : i < K.1.2.2.1) (hs : (i, Value.int v) :: ls.filter (fun q => !(q.1 == i) && !(q.1 + 1 == i && q.2.category == 2)) = ls2) (kk : kOk K D ct (pc + 3) ls2 st ws cells slots P) : kOk K D ct pc ls st ws cells slots P := by
  intro p l e s m args below meth c A H locs la C hA hP hD hS hL
  exact lv_iinc (k := j) C.1 C.2.1 hd hL hl hv hn hs (fun la hL => kk p l e s m args below meth c A H locs la C hA hP hD hS hL)
theorem k_iconst {n : Int} {v : Int32} (hd : decode K.1.2.1 pc = .ok (.iconst n, 1)) (hv : Int32.ofInt n = v) (kk : kOk K D ct (pc + 1) ls (.int v :: st) ws cells slots P) : kOk K D ct pc ls st ws cells slots P := by
  intro p l e s m args below meth c A H locs la C hA hP hD hS hL
  exact lv_iconst C.1 C.2.1 hd hv (kk p l e s m args below meth c A H locs la C hA hP hD hS hL)
theorem k_bipush {n : Int} {v : Int32} (hd : decode K.1.2.1 pc = .ok (.bipush n, 2)) (hv : (Int8.ofInt n).toInt32 = v) (kk : kOk K D ct (pc + 2) ls (.int v :: st) ws cells slots P) : kOk K D ct pc ls st ws cells slots P := by
  intro p l e s m args below meth c A H locs la C hA hP hD hS hL
  exact lv_bipush C.1 C.2.1 hd hv (kk p l e s m args below meth c A H locs la C hA hP hD hS hL)
theorem k_sipush {n : Int} {v : Int32} (hd : decode K.1.2.1 pc = .ok (.sipush n, 3)) (hv : (Int16.ofInt n).toInt32 = v) (kk : kOk K D ct (pc + 3) ls (.int v :: st) ws cells slots P) : kOk K D ct pc ls st ws cells slots P := by
  intro p l e s m args below meth c A H locs la C hA hP hD hS hL
  exact lv_sipush C.1 C.2.1 hd hv (kk p l e s m args below meth c A H locs la C hA hP hD hS hL)
theorem k_dup {v : Value} (hd : decode K.1.2.1 pc = .ok (.dup, 1)) (hc : v.category = 1) (kk : kOk K D ct (pc + 1) ls (v :: v :: st) ws cells slots P) : kOk K D ct pc ls (v :: st) ws cells slots P := by
  intro p l e s m args below meth c A H locs la C hA hP hD hS hL
  exact lv_dup C.1 C.2.1 hd hc (kk p l e s m args below meth c A H locs la C hA hP hD hS hL)
theorem k_goto {off : Int} {tgt : Nat} (hd : decode K.1.2.1 pc = .ok (.goto off, 3)) (ht : (pc : Int) + off = (tgt : Int)) (kk : kOk K D ct tgt ls st ws cells slots P) : kOk K D ct pc ls st ws cells slots P := by
  intro p l e s m args below meth c A H locs la C hA hP hD hS hL
  exact lv_goto C.1 C.2.1 hd ht (kk p l e s m args below meth c A H locs la C hA hP hD hS hL)
theorem k_icmp_ge {x y : Int32} {off : Int} {tgt : Nat} (hd : decode K.1.2.1 pc = .ok (.if_icmp .ge off, 3)) (ht : (pc : Int) + off = (tgt : Int)) (kk : (y ≤ x → kOk K D ct tgt ls st ws cells slots P) ∧ (¬ y ≤ x → kOk K D ct (pc + 3) ls st ws cells slots P)) : kOk K D ct pc ls (.int y :: .int x :: st) ws cells slots P := by
  intro p l e s m args below meth c A H locs la C hA hP hD hS hL
  exact lv_icmp_ge C.1 C.2.1 hd ht (fun z => kk.1 z p l e s m args below meth c A H locs la C hA hP hD hS hL) (fun z => kk.2 z p l e s m args below meth c A H locs la C hA hP hD hS hL)
theorem k_iadd {x y : Int32} (hd : decode K.1.2.1 pc = .ok (.iadd, 1)) (kk : kOk K D ct (pc + 1) ls (.int (x + y) :: st) ws cells slots P) : kOk K D ct pc ls (.int y :: .int x :: st) ws cells slots P := by
  intro p l e s m args below meth c A H locs la C hA hP hD hS hL
  exact lv_iadd C.1 C.2.1 hd (kk p l e s m args below meth c A H locs la C hA hP hD hS hL)
theorem k_imul {x y : Int32} (hd : decode K.1.2.1 pc = .ok (.imul, 1)) (kk : kOk K D ct (pc + 1) ls (.int (x * y) :: st) ws cells slots P) : kOk K D ct pc ls (.int y :: .int x :: st) ws cells slots P := by
  intro p l e s m args below meth c A H locs la C hA hP hD hS hL
  exact lv_imul C.1 C.2.1 hd (kk p l e s m args below meth c A H locs la C hA hP hD hS hL)
theorem k_obj {index a : Nat} (hd : decode K.1.2.1 pc = .ok (.invokespecial index, 3)) (hlink : Cond.methodLink K.1.1.cls index Lib.objectInit ∈ xT) (h1 : 1 ≤ (kRm K).frames) (h2 : (List.map (fun v : Value => v.category) st).sum + 12 ≤ (kRm K).locals) (kk : kOk K D ct (pc + 3) ls st ws cells slots P) : kOk K D ct pc ls (.ref a :: st) ws cells slots P := by
  intro p l e s m args below meth c A H locs la C hA hP hD hS hL
  have hts := C.2.2.2.2.2.1
  refine W.objInit C.1 C.2.1 C.2.2.2.2.1 (hts _ hlink) (hts _ xw_16) (hts _ xw_17) rfl (hL.1.trans C.2.2.2.1.symm) rfl hd h1 (by simpa [F0] using h2) ?_
  exact W.eq (g2 := F0 m (pc + 3) la st) rfl (kk p l e s m args below meth c A H locs la C hA hP hD hS hL)
theorem ty_uniq {U : State} {tys : List (ClassId × FieldType)} {i j : Nat} {c1 c2 : ClassId} {ty : FieldType} (hK : va_K D vwCl tys U) (h1 : tys[i]? = some (c1, ty)) (h2 : tys[j]? = some (c2, ty)) : c1 = c2 := by
  have e1 := (hK.2 i _ h1).2
  have e2 := (hK.2 j _ h2).2
  cases ty with
  | object C =>
    obtain ⟨_, _, _, _, _, f1⟩ := e1
    obtain ⟨_, _, _, _, _, f2⟩ := e2
    exact Option.some.inj (f1.symm.trans f2)
  | _ => exact Option.some.inj (Eq.trans (Eq.symm e1) e2)
abbrev kI (ct : Nat → ClassId) (n : Nat) (f : Row) : va_E := .inl (ct 0, n, .inl f)
abbrev kQf (c : ClassId) (n : Nat) (f : Nat → Option Nat) : va_E := .inl (c, n, .inr (.inr (.inr (.inr f))))
theorem k_newa {n : Int32} {N : Nat} (hd : decode K.1.2.1 pc = .ok (.newarray .int, 2)) (hn : ¬ n < 0) (hN : n.toNatClampNeg = N) (hby : N * 4 ≤ 536870912) (hc : cells + 1 ≤ K.2.1) (hs : slots + N ≤ K.2.2) (kk : ∀ q, kOk K D ct (pc + 2) ls (.ref q :: st) (ws ++ [(q, kI ct N (fun _ => 0))]) (cells + 1) (slots + N) P) : kOk K D ct pc ls (.int n :: st) ws cells slots P := by
  intro p l e s m args below meth c A H locs la C hA hP hD hS hL
  refine va_newa (D := D) (cl := vwCl) (tys := kTy ct) (atype := .int) (ty := .int) (a0 := (N, .inl (fun _ => 0))) C.1 C.2.1 (C.2.2.2.2.2.1 _ xw_64) rfl C.2.2.2.2.2.2.2.2.1 hP hD hS hA (fun cA => rfl) hn hN hby hc hs hd (fun q cA H1 hK1 hP1 hD1 hS1 => ?_)
  have ec : cA = ct 0 := ty_uniq hK1 (i := 5) (j := 0) rfl rfl
  subst ec
  exact kk q p l e s m args below meth c A H1 locs la C hA hP1 hD1 hS1 hL
theorem k_newq {n : Int32} {N index t : Nat} {X : String} (hd : decode K.1.2.1 pc = .ok (.anewarray index, 3)) (hlink : Cond.classLink K.1.1.cls index X ∈ xT) (ht : (kTy ct)[t]? = some (ct t, .object X)) (hao : ∀ U : State, kF D ct U → va_AO X U) (hn : ¬ n < 0) (hN : n.toNatClampNeg = N) (hby : N * 4 ≤ 536870912) (hc : cells + 1 ≤ K.2.1) (hs : slots + N ≤ K.2.2) (kk : ∀ q, kOk K D ct (pc + 3) ls (.ref q :: st) (ws ++ [(q, kQf (ct t) N (fun _ => none))]) (cells + 1) (slots + N) P) : kOk K D ct pc ls (.int n :: st) ws cells slots P := by
  intro p l e s m args below meth c A H locs la C hA hP hD hS hL
  refine va_newq (D := D) (cl := vwCl) (tys := kTy ct) C.1 C.2.1 C.2.2.2.2.1 (C.2.2.2.2.2.1 _ hlink) (hao s C.2.2.2.2.2.2.2.2) C.2.2.2.2.2.2.2.2.1 hP hD hS hA hn hN hby hc hs hd (fun q cA H1 hK1 hP1 hD1 hS1 => ?_)
  have ec : cA = ct t := ty_uniq hK1 (i := 5) (j := t) rfl (by rw [List.getElem?_append_left (List.getElem?_eq_some_iff.mp ht).1]; exact ht)
  subst ec
  exact kk q p l e s m args below meth c A H1 locs la C hA hP1 hD1 hS1 hL
theorem k_new {index ci N : Nat} {X : String} {T : u_T} {fs : List Value} (ty : Nat → FieldType) (hd : decode K.1.2.1 pc = .ok (.new index, 3)) (hin : ∀ w ∈ u_ws X T N, w ∈ xT) (hty : ∀ k, k < N → parseFieldDescriptor (T k).2.2.1 = some (ty k)) (hlink : Cond.classLink K.1.1.cls index X ∈ xT) (hinst : Cond.instantiable X N ∈ xT) (hini : Cond.initialized X ∈ xT) (hcl : vwCl[ci]? = some (X, T, N)) (hfs : ∀ j, j < N → defaultValue (ty j) = vp_V fs j) (hc : cells + 1 ≤ K.2.1) (hs : slots + N ≤ K.2.2) (kk : ∀ q, kOk K D ct (pc + 3) ls (.ref q :: st) (ws ++ [(q, .inr (ci, fs))]) (cells + 1) (slots + N) P) : kOk K D ct pc ls st ws cells slots P := by
  intro p l e s m args below meth c A H locs la C hA hP hD hS hL
  have hts := C.2.2.2.2.2.1
  exact va_new (D := D) (cl := vwCl) (tys := kTy ct) C.1 C.2.1 hts hin ty hty C.2.2.2.2.1 (hts _ hlink) (hts _ hinst) (hts _ hini) C.2.2.2.2.2.2.2.2.1 hP hD hS hA hcl hfs hc hs hd (fun q H1 hP1 hD1 hS1 => kk q p l e s m args below meth c A H1 locs la C hA hP1 hD1 hS1 hL)
theorem k_put {index ci N q0 a : Nat} {X : String} {T : u_T} {fs : List Value} {v : Value} {ty : FieldType} (j : Nat) (ty0 : Nat → FieldType) (hty : ∀ k, k < N → parseFieldDescriptor (T k).2.2.1 = some (ty0 k)) (hnm : ∀ a, a < N → ∀ b, b < N → a ≠ b → (T a).2.1 ≠ (T b).2.1) (hd : decode K.1.2.1 pc = .ok (.putfield index, 3)) (he : ws[q0]? = some (a, .inr (ci, fs))) (hcl : vwCl[ci]? = some (X, T, N)) (hin : ∀ w ∈ u_ws X T N, w ∈ xT) (hj : j < N) (hlink : Cond.fieldLink K.1.1.cls index (T j).1 (T j).2.1 (T j).2.2.1 ∈ xT) (hfin : (T j).2.2.2 = false) (hpd : parseFieldDescriptor (T j).2.2.1 = some ty) (hnar : narrow ty v = v) (hfit : fits ty v = true) (hlen : j < fs.length) (kk : kOk K D ct (pc + 3) ls st (ws.set q0 (a, .inr (ci, fs.set j v))) cells slots P) : kOk K D ct pc ls (v :: .ref a :: st) ws cells slots P := by
  intro p l e s m args below meth c A H locs la C hA hP hD hS hL
  have hts := C.2.2.2.2.2.1
  exact va_put (D := D) (cl := vwCl) (tys := kTy ct) (ref := (T j).1) C.1 C.2.1 hts hin ty0 hty hnm C.2.2.2.2.1 C.2.2.2.2.2.2.2.2.1 hP hD hS q0 he hcl j hj (hts _ hlink) (fun _ h => h) hfin hpd hnar hfit hlen hd (fun H1 locs1 hP1 hD1 hS1 => kk p l e s m args below meth c A H1 locs1 la C hA hP1 hD1 hS1 hL)
theorem k_putF {index ci N q0 a : Nat} {X : String} {T : u_T} {fs : List Value} {v : Value} {ty : FieldType} (j : Nat) (ty0 : Nat → FieldType) (hty : ∀ k, k < N → parseFieldDescriptor (T k).2.2.1 = some (ty0 k)) (hnm : ∀ a, a < N → ∀ b, b < N → a ≠ b → (T a).2.1 ≠ (T b).2.1) (hd : decode K.1.2.1 pc = .ok (.putfield index, 3)) (he : ws[q0]? = some (a, .inr (ci, fs))) (hcl : vwCl[ci]? = some (X, T, N)) (hin : ∀ w ∈ u_ws X T N, w ∈ xT) (hj : j < N) (hlink : Cond.fieldLink K.1.1.cls index (T j).1 (T j).2.1 (T j).2.2.1 ∈ xT) (hfin : (T j).2.2.2 = true) (hnmi : K.1.1.name = "<init>") (hdecl : (T j).1 = K.1.1.cls) (hpd : parseFieldDescriptor (T j).2.2.1 = some ty) (hnar : narrow ty v = v) (hfit : fits ty v = true) (hlen : j < fs.length) (kk : kOk K D ct (pc + 3) ls st (ws.set q0 (a, .inr (ci, fs.set j v))) cells slots P) : kOk K D ct pc ls (v :: .ref a :: st) ws cells slots P := by
  intro p l e s m args below meth c A H locs la C hA hP hD hS hL
  have hts := C.2.2.2.2.2.1
  exact va_putF (D := D) (cl := vwCl) (tys := kTy ct) (ref := (T j).1) C.1 C.2.1 hts hin ty0 hty hnm C.2.2.2.2.1 C.2.2.2.2.2.2.2.2.1 hP hD hS q0 he hcl j hj (hts _ hlink) (fun _ h => h) hfin (C.2.2.2.2.2.2.2.1.trans hnmi) hdecl hpd hnar hfit hlen hd (fun H1 locs1 hP1 hD1 hS1 => kk p l e s m args below meth c A H1 locs1 la C hA hP1 hD1 hS1 hL)
theorem k_get {index ci N q0 a : Nat} {X : String} {T : u_T} {fs : List Value} {v : Value} (j : Nat) (hd : decode K.1.2.1 pc = .ok (.getfield index, 3)) (he : ws[q0]? = some (a, .inr (ci, fs))) (hcl : vwCl[ci]? = some (X, T, N)) (hin : ∀ w ∈ u_ws X T N, w ∈ xT) (hj : j < N) (hlink : Cond.fieldLink K.1.1.cls index (T j).1 (T j).2.1 (T j).2.2.1 ∈ xT) (hv : fs[j]? = some v) (kk : kOk K D ct (pc + 3) ls (v :: st) ws cells slots P) : kOk K D ct pc ls (.ref a :: st) ws cells slots P := by
  intro p l e s m args below meth c A H locs la C hA hP hD hS hL
  have hts := C.2.2.2.2.2.1
  exact va_get (D := D) (cl := vwCl) (tys := kTy ct) (ref := (T j).1) C.1 C.2.1 hts hin C.2.2.2.2.1 C.2.2.2.2.2.2.2.2.1 hP q0 he hcl j hj (hts _ hlink) (fun _ h => h) hv hd (kk p l e s m args below meth c A H locs la C hA hP hD hS hL)
theorem k_iast {q0 a n : Nat} {f : Row} {i x : Int32} (hd : decode K.1.2.1 pc = .ok (.iastore, 1)) (he : ws[q0]? = some (a, kI ct n f)) (hin : vp_in i n) (kk : kOk K D ct (pc + 1) ls st (ws.set q0 (a, kI ct n (upd f i.toNatClampNeg x))) cells slots P) : kOk K D ct pc ls (.int x :: .int i :: .ref a :: st) ws cells slots P := by
  intro p l e s m args below meth c A H locs la C hA hP hD hS hL
  exact va_iast (D := D) (cl := vwCl) (tys := kTy ct) C.1 C.2.1 C.2.2.2.2.2.2.2.2.1 hP hD hS q0 0 he rfl hin hd (fun H1 locs1 hP1 hD1 hS1 => kk p l e s m args below meth c A H1 locs1 la C hA hP1 hD1 hS1 hL)
theorem k_astq {q0 qk a n t ci v : Nat} {r : vw_C} {f : Nat → Option Nat} {vs : List Value} {i : Int32} (hd : decode K.1.2.1 pc = .ok (.aastore, 1)) (he : ws[q0]? = some (a, kQf (ct t) n f)) (ht : (kTy ct)[t]? = some (ct t, .object r.1)) (hv : ws[qk]? = some (v, .inr (ci, vs))) (hc : vwCl[ci]? = some r) (hin : vp_in i n) (kk : kOk K D ct (pc + 1) ls st (ws.set q0 (a, kQf (ct t) n (va_up f i.toNatClampNeg (some v)))) cells slots P) : kOk K D ct pc ls (.ref v :: .int i :: .ref a :: st) ws cells slots P := by
  intro p l e s m args below meth c A H locs la C hA hP hD hS hL
  exact va_astq (D := D) (cl := vwCl) (tys := kTy ct) C.1 C.2.1 C.2.2.2.2.2.2.2.2.1 hP hD hS q0 t qk ci he ht hv hc hin hd (fun H1 locs1 hP1 hD1 hS1 => kk p l e s m args below meth c A H1 locs1 la C hA hP1 hD1 hS1 hL)
theorem k_ret (hd : decode K.1.2.1 pc = .ok (.return_, 1)) (hc : cells ≤ K.2.1) (hs : slots ≤ K.2.2) (h : P ws) : kOk K D ct pc ls [] ws cells slots P := by
  intro p l e s m args below meth c A H locs la C hA hP hD hS hL
  have hlk : meth.locks = false := C.2.2.2.2.2.2.1
  refine W.widen (k := K.2.1) (n := K.2.2) hc hs ?_
  exact W.vret C.1 C.2.1 C.2.2.1 (fun t ht hW => ⟨⟨ws, rfl, h, by rw [ht]; exact hP, hD⟩, hS.F ht⟩) hS.2.2 hd hlk
/-- a row of references told otherwise, as far as it goes -/
theorem k_conv {q0 a n : Nat} {cA : ClassId} {f g : Nat → Option Nat} (he : ws[q0]? = some (a, kQf cA n f)) (hfg : ∀ j, j < n → f j = g j) (kk : kOk K D ct pc ls st (ws.set q0 (a, kQf cA n g)) cells slots P) : kOk K D ct pc ls st ws cells slots P := by
  intro p l e s m args below meth c A H locs la C hA hP hD hS hL
  refine kk p l e s m args below meth c A H locs la C hA (hP.set hD he ?_ (fun _ _ => rfl)) (hD.set he) hS hL
  have h1 := hP q0 _ he
  have e : vp_cell cA (n, .inr (.inr (.inr (.inr f)))) = vp_cell cA (n, .inr (.inr (.inr (.inr g)))) := by
    rw [vp_cell_q, vp_cell_q]
    unfold arrV
    congr 1
    apply Array.ext
    · simp
    · intro i h1 h2
      simp at h1
      simp [hfg i (by simpa using h1)]
  show H[a]? = some (vp_cell cA (n, .inr (.inr (.inr (.inr g)))))
  rw [← e]
  exact h1
end
