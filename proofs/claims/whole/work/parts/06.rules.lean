theorem xl_get {G : xG} {ls : List (Nat × xV)} {k i : Nat} {v : xV} (hk : ls[k]? = some (i, v)) : (xLs G ls)[k]? = some (i, cv G v) := by
  rw [xLs, List.getElem?_map, hk]; rfl
theorem ok_iconst {M : xMt} {pc : Nat} {ls : List (Nat × xV)} {st : List xV} {μ : xM} {Q : xPo} {n : Int} {v : Int32} (hd : decode M.2.1 pc = .ok (.iconst n, 1)) (hv : Int32.ofInt n = v) (kk : xOk M (pc + 1) ls (vI v :: st) μ Q) : xOk M pc ls (st) μ Q := by
  intro p l e s m args below meth c G H locs la C hP hD hS hL
  exact lv_iconst C.1 C.2.1 hd hv (kk p l e s m args below meth c G H locs la C hP hD hS hL)
theorem ok_bipush {M : xMt} {pc : Nat} {ls : List (Nat × xV)} {st : List xV} {μ : xM} {Q : xPo} {n : Int} {v : Int32} (hd : decode M.2.1 pc = .ok (.bipush n, 2)) (hv : (Int8.ofInt n).toInt32 = v) (kk : xOk M (pc + 2) ls (vI v :: st) μ Q) : xOk M pc ls (st) μ Q := by
  intro p l e s m args below meth c G H locs la C hP hD hS hL
  exact lv_bipush C.1 C.2.1 hd hv (kk p l e s m args below meth c G H locs la C hP hD hS hL)
theorem ok_sipush {M : xMt} {pc : Nat} {ls : List (Nat × xV)} {st : List xV} {μ : xM} {Q : xPo} {n : Int} {v : Int32} (hd : decode M.2.1 pc = .ok (.sipush n, 3)) (hv : (Int16.ofInt n).toInt32 = v) (kk : xOk M (pc + 3) ls (vI v :: st) μ Q) : xOk M pc ls (st) μ Q := by
  intro p l e s m args below meth c G H locs la C hP hD hS hL
  exact lv_sipush C.1 C.2.1 hd hv (kk p l e s m args below meth c G H locs la C hP hD hS hL)
theorem ok_ldc2 {M : xMt} {pc : Nat} {ls : List (Nat × xV)} {st : List xV} {μ : xM} {Q : xPo} {index : Nat} {v : Int64} (hd : decode M.2.1 pc = .ok (.ldc2_w index, 3)) (hw : Cond.constantLong M.1.cls index v ∈ xT) (kk : xOk M (pc + 3) ls (vL v :: st) μ Q) : xOk M pc ls (st) μ Q := by
  intro p l e s m args below meth c G H locs la C hP hD hS hL
  exact lv_ldc2 C.1 C.2.1 C.2.2.2.2.1 (C.2.2.2.2.2.1 _ hw) hd (kk p l e s m args below meth c G H locs la C hP hD hS hL)
theorem ok_iload_n {M : xMt} {pc : Nat} {ls : List (Nat × xV)} {st : List xV} {μ : xM} {Q : xPo} {k : Fin 4} {i j : Nat} {x : Int32} (hd : decode M.2.1 pc = .ok (.iload_n k, 1)) (hi : (k : Nat) = i) (hl : ls[j]? = some (i, vI x)) (kk : xOk M (pc + 1) ls (vI x :: st) μ Q) : xOk M pc ls (st) μ Q := by
  intro p l e s m args below meth c G H locs la C hP hD hS hL
  exact lv_iload_n C.1 C.2.1 hd hi (xl_at hL hl) (kk p l e s m args below meth c G H locs la C hP hD hS hL)
theorem ok_iload {M : xMt} {pc : Nat} {ls : List (Nat × xV)} {st : List xV} {μ : xM} {Q : xPo} {i j : Nat} {x : Int32} (hd : decode M.2.1 pc = .ok (.iload i, 2)) (hl : ls[j]? = some (i, vI x)) (kk : xOk M (pc + 2) ls (vI x :: st) μ Q) : xOk M pc ls (st) μ Q := by
  intro p l e s m args below meth c G H locs la C hP hD hS hL
  exact lv_iload C.1 C.2.1 hd (xl_at hL hl) (kk p l e s m args below meth c G H locs la C hP hD hS hL)
theorem ok_lload_n {M : xMt} {pc : Nat} {ls : List (Nat × xV)} {st : List xV} {μ : xM} {Q : xPo} {k : Fin 4} {i j : Nat} {x : Int64} (hd : decode M.2.1 pc = .ok (.lload_n k, 1)) (hi : (k : Nat) = i) (hl : ls[j]? = some (i, vL x)) (kk : xOk M (pc + 1) ls (vL x :: st) μ Q) : xOk M pc ls (st) μ Q := by
  intro p l e s m args below meth c G H locs la C hP hD hS hL
  exact lv_lload_n C.1 C.2.1 hd hi (xl_at hL hl) (kk p l e s m args below meth c G H locs la C hP hD hS hL)
theorem ok_lload {M : xMt} {pc : Nat} {ls : List (Nat × xV)} {st : List xV} {μ : xM} {Q : xPo} {i j : Nat} {x : Int64} (hd : decode M.2.1 pc = .ok (.lload i, 2)) (hl : ls[j]? = some (i, vL x)) (kk : xOk M (pc + 2) ls (vL x :: st) μ Q) : xOk M pc ls (st) μ Q := by
  intro p l e s m args below meth c G H locs la C hP hD hS hL
  exact lv_lload C.1 C.2.1 hd (xl_at hL hl) (kk p l e s m args below meth c G H locs la C hP hD hS hL)
theorem ok_aload_n {M : xMt} {pc : Nat} {ls : List (Nat × xV)} {st : List xV} {μ : xM} {Q : xPo} {k : Fin 4} {i j a b d : Nat} (hd : decode M.2.1 pc = .ok (.aload_n k, 1)) (hi : (k : Nat) = i) (hl : ls[j]? = some (i, vR a b d)) (kk : xOk M (pc + 1) ls (vR a b d :: st) μ Q) : xOk M pc ls (st) μ Q := by
  intro p l e s m args below meth c G H locs la C hP hD hS hL
  exact lv_aload_n C.1 C.2.1 hd hi (xl_at hL hl) (kk p l e s m args below meth c G H locs la C hP hD hS hL)
theorem ok_aload {M : xMt} {pc : Nat} {ls : List (Nat × xV)} {st : List xV} {μ : xM} {Q : xPo} {i j a b d : Nat} (hd : decode M.2.1 pc = .ok (.aload i, 2)) (hl : ls[j]? = some (i, vR a b d)) (kk : xOk M (pc + 2) ls (vR a b d :: st) μ Q) : xOk M pc ls (st) μ Q := by
  intro p l e s m args below meth c G H locs la C hP hD hS hL
  exact lv_aload C.1 C.2.1 hd (xl_at hL hl) (kk p l e s m args below meth c G H locs la C hP hD hS hL)
theorem ok_istore_n {M : xMt} {pc : Nat} {ls : List (Nat × xV)} {st : List xV} {μ : xM} {Q : xPo} {k : Fin 4} {i : Nat} {x : Int32} {ls2 : List (Nat × xV)} (hd : decode M.2.1 pc = .ok (.istore_n k, 1)) (hi : (k : Nat) = i) (hn : i < M.2.2.1) (hs : xSto i (vI x) ls = ls2) (kk : xOk M (pc + 1) ls2 (st) μ Q) : xOk M pc ls (vI x :: st) μ Q := by
  intro p l e s m args below meth c G H locs la C hP hD hS hL
  exact lv_istore_n C.1 C.2.1 hd hi hL hn ((xSto_eq G i (vI x) ls).trans (congrArg (xLs G) hs)) (fun la hL => kk p l e s m args below meth c G H locs la C hP hD hS hL)
theorem ok_istore {M : xMt} {pc : Nat} {ls : List (Nat × xV)} {st : List xV} {μ : xM} {Q : xPo} {i : Nat} {x : Int32} {ls2 : List (Nat × xV)} (hd : decode M.2.1 pc = .ok (.istore i, 2)) (hn : i < M.2.2.1) (hs : xSto i (vI x) ls = ls2) (kk : xOk M (pc + 2) ls2 (st) μ Q) : xOk M pc ls (vI x :: st) μ Q := by
  intro p l e s m args below meth c G H locs la C hP hD hS hL
  exact lv_istore C.1 C.2.1 hd hL hn ((xSto_eq G i (vI x) ls).trans (congrArg (xLs G) hs)) (fun la hL => kk p l e s m args below meth c G H locs la C hP hD hS hL)
theorem ok_astore_n {M : xMt} {pc : Nat} {ls : List (Nat × xV)} {st : List xV} {μ : xM} {Q : xPo} {k : Fin 4} {i : Nat} {a b d : Nat} {ls2 : List (Nat × xV)} (hd : decode M.2.1 pc = .ok (.astore_n k, 1)) (hi : (k : Nat) = i) (hn : i < M.2.2.1) (hs : xSto i (vR a b d) ls = ls2) (kk : xOk M (pc + 1) ls2 (st) μ Q) : xOk M pc ls (vR a b d :: st) μ Q := by
  intro p l e s m args below meth c G H locs la C hP hD hS hL
  exact lv_astore_n C.1 C.2.1 hd hi hL hn ((xSto_eq G i (vR a b d) ls).trans (congrArg (xLs G) hs)) (fun la hL => kk p l e s m args below meth c G H locs la C hP hD hS hL)
theorem ok_astore {M : xMt} {pc : Nat} {ls : List (Nat × xV)} {st : List xV} {μ : xM} {Q : xPo} {i : Nat} {a b d : Nat} {ls2 : List (Nat × xV)} (hd : decode M.2.1 pc = .ok (.astore i, 2)) (hn : i < M.2.2.1) (hs : xSto i (vR a b d) ls = ls2) (kk : xOk M (pc + 2) ls2 (st) μ Q) : xOk M pc ls (vR a b d :: st) μ Q := by
  intro p l e s m args below meth c G H locs la C hP hD hS hL
  exact lv_astore C.1 C.2.1 hd hL hn ((xSto_eq G i (vR a b d) ls).trans (congrArg (xLs G) hs)) (fun la hL => kk p l e s m args below meth c G H locs la C hP hD hS hL)
theorem ok_lstore_n {M : xMt} {pc : Nat} {ls : List (Nat × xV)} {st : List xV} {μ : xM} {Q : xPo} {k : Fin 4} {i : Nat} {x : Int64} {ls2 : List (Nat × xV)} (hd : decode M.2.1 pc = .ok (.lstore_n k, 1)) (hi : (k : Nat) = i) (hn : i + 1 < M.2.2.1) (hs : xStoL i (vL x) ls = ls2) (kk : xOk M (pc + 1) ls2 (st) μ Q) : xOk M pc ls (vL x :: st) μ Q := by
  intro p l e s m args below meth c G H locs la C hP hD hS hL
  exact lv_lstore_n C.1 C.2.1 hd hi hL hn ((xStoL_eq G i (vL x) ls).trans (congrArg (xLs G) hs)) (fun la hL => kk p l e s m args below meth c G H locs la C hP hD hS hL)
theorem ok_lstore {M : xMt} {pc : Nat} {ls : List (Nat × xV)} {st : List xV} {μ : xM} {Q : xPo} {i : Nat} {x : Int64} {ls2 : List (Nat × xV)} (hd : decode M.2.1 pc = .ok (.lstore i, 2)) (hn : i + 1 < M.2.2.1) (hs : xStoL i (vL x) ls = ls2) (kk : xOk M (pc + 2) ls2 (st) μ Q) : xOk M pc ls (vL x :: st) μ Q := by
  intro p l e s m args below meth c G H locs la C hP hD hS hL
  exact lv_lstore C.1 C.2.1 hd hL hn ((xStoL_eq G i (vL x) ls).trans (congrArg (xLs G) hs)) (fun la hL => kk p l e s m args below meth c G H locs la C hP hD hS hL)
theorem ok_iinc {M : xMt} {pc : Nat} {ls : List (Nat × xV)} {st : List xV} {μ : xM} {Q : xPo} {i j : Nat} {n : Int} {x v : Int32} {ls2 : List (Nat × xV)} (hd : decode M.2.1 pc = .ok (.iinc i n, 3)) (hl : ls[j]? = some (i, vI x)) (hv : x + Int32.ofInt n = v) (hn : i < M.2.2.1) (hs : xSto i (vI v) ls = ls2) (kk : xOk M (pc + 3) ls2 (st) μ Q) : xOk M pc ls (st) μ Q := by
  intro p l e s m args below meth c G H locs la C hP hD hS hL
  exact lv_iinc (k := j) C.1 C.2.1 hd hL (xl_get hl) hv hn ((xSto_eq G i (vI v) ls).trans (congrArg (xLs G) hs)) (fun la hL => kk p l e s m args below meth c G H locs la C hP hD hS hL)
theorem ok_iadd {M : xMt} {pc : Nat} {ls : List (Nat × xV)} {st : List xV} {μ : xM} {Q : xPo} {x y : Int32} (hd : decode M.2.1 pc = .ok (.iadd, 1)) (kk : xOk M (pc + 1) ls (vI (x + y) :: st) μ Q) : xOk M pc ls (vI y :: vI x :: st) μ Q := by
  intro p l e s m args below meth c G H locs la C hP hD hS hL
  exact lv_iadd C.1 C.2.1 hd (kk p l e s m args below meth c G H locs la C hP hD hS hL)
theorem ok_isub {M : xMt} {pc : Nat} {ls : List (Nat × xV)} {st : List xV} {μ : xM} {Q : xPo} {x y : Int32} (hd : decode M.2.1 pc = .ok (.isub, 1)) (kk : xOk M (pc + 1) ls (vI (x - y) :: st) μ Q) : xOk M pc ls (vI y :: vI x :: st) μ Q := by
  intro p l e s m args below meth c G H locs la C hP hD hS hL
  exact lv_isub C.1 C.2.1 hd (kk p l e s m args below meth c G H locs la C hP hD hS hL)
theorem ok_imul {M : xMt} {pc : Nat} {ls : List (Nat × xV)} {st : List xV} {μ : xM} {Q : xPo} {x y : Int32} (hd : decode M.2.1 pc = .ok (.imul, 1)) (kk : xOk M (pc + 1) ls (vI (x * y) :: st) μ Q) : xOk M pc ls (vI y :: vI x :: st) μ Q := by
  intro p l e s m args below meth c G H locs la C hP hD hS hL
  exact lv_imul C.1 C.2.1 hd (kk p l e s m args below meth c G H locs la C hP hD hS hL)
theorem ok_iand {M : xMt} {pc : Nat} {ls : List (Nat × xV)} {st : List xV} {μ : xM} {Q : xPo} {x y : Int32} (hd : decode M.2.1 pc = .ok (.iand, 1)) (kk : xOk M (pc + 1) ls (vI (x &&& y) :: st) μ Q) : xOk M pc ls (vI y :: vI x :: st) μ Q := by
  intro p l e s m args below meth c G H locs la C hP hD hS hL
  exact lv_iand C.1 C.2.1 hd (kk p l e s m args below meth c G H locs la C hP hD hS hL)
theorem ok_ior {M : xMt} {pc : Nat} {ls : List (Nat × xV)} {st : List xV} {μ : xM} {Q : xPo} {x y : Int32} (hd : decode M.2.1 pc = .ok (.ior, 1)) (kk : xOk M (pc + 1) ls (vI (x ||| y) :: st) μ Q) : xOk M pc ls (vI y :: vI x :: st) μ Q := by
  intro p l e s m args below meth c G H locs la C hP hD hS hL
  exact lv_ior C.1 C.2.1 hd (kk p l e s m args below meth c G H locs la C hP hD hS hL)
theorem ok_ixor {M : xMt} {pc : Nat} {ls : List (Nat × xV)} {st : List xV} {μ : xM} {Q : xPo} {x y : Int32} (hd : decode M.2.1 pc = .ok (.ixor, 1)) (kk : xOk M (pc + 1) ls (vI (x ^^^ y) :: st) μ Q) : xOk M pc ls (vI y :: vI x :: st) μ Q := by
  intro p l e s m args below meth c G H locs la C hP hD hS hL
  exact lv_ixor C.1 C.2.1 hd (kk p l e s m args below meth c G H locs la C hP hD hS hL)
theorem ok_ishl {M : xMt} {pc : Nat} {ls : List (Nat × xV)} {st : List xV} {μ : xM} {Q : xPo} {x y : Int32} (hd : decode M.2.1 pc = .ok (.ishl, 1)) (kk : xOk M (pc + 1) ls (vI (x <<< (y &&& 31)) :: st) μ Q) : xOk M pc ls (vI y :: vI x :: st) μ Q := by
  intro p l e s m args below meth c G H locs la C hP hD hS hL
  exact lv_ishl C.1 C.2.1 hd (kk p l e s m args below meth c G H locs la C hP hD hS hL)
theorem ok_ishr {M : xMt} {pc : Nat} {ls : List (Nat × xV)} {st : List xV} {μ : xM} {Q : xPo} {x y : Int32} (hd : decode M.2.1 pc = .ok (.ishr, 1)) (kk : xOk M (pc + 1) ls (vI (x >>> (y &&& 31)) :: st) μ Q) : xOk M pc ls (vI y :: vI x :: st) μ Q := by
  intro p l e s m args below meth c G H locs la C hP hD hS hL
  exact lv_ishr C.1 C.2.1 hd (kk p l e s m args below meth c G H locs la C hP hD hS hL)
theorem ok_idiv {M : xMt} {pc : Nat} {ls : List (Nat × xV)} {st : List xV} {μ : xM} {Q : xPo} {x y : Int32} (hd : decode M.2.1 pc = .ok (.idiv, 1)) (hne : ¬ y = 0) (kk : xOk M (pc + 1) ls (vI (x / y) :: st) μ Q) : xOk M pc ls (vI y :: vI x :: st) μ Q := by
  intro p l e s m args below meth c G H locs la C hP hD hS hL
  exact lv_idiv C.1 C.2.1 hd hne (kk p l e s m args below meth c G H locs la C hP hD hS hL)
theorem ok_irem {M : xMt} {pc : Nat} {ls : List (Nat × xV)} {st : List xV} {μ : xM} {Q : xPo} {x y : Int32} (hd : decode M.2.1 pc = .ok (.irem, 1)) (hne : ¬ y = 0) (kk : xOk M (pc + 1) ls (vI (x - x / y * y) :: st) μ Q) : xOk M pc ls (vI y :: vI x :: st) μ Q := by
  intro p l e s m args below meth c G H locs la C hP hD hS hL
  exact lv_irem C.1 C.2.1 hd hne (kk p l e s m args below meth c G H locs la C hP hD hS hL)
theorem ok_ladd {M : xMt} {pc : Nat} {ls : List (Nat × xV)} {st : List xV} {μ : xM} {Q : xPo} {x y : Int64} (hd : decode M.2.1 pc = .ok (.ladd, 1)) (kk : xOk M (pc + 1) ls (vL (x + y) :: st) μ Q) : xOk M pc ls (vL y :: vL x :: st) μ Q := by
  intro p l e s m args below meth c G H locs la C hP hD hS hL
  exact lv_ladd C.1 C.2.1 hd (kk p l e s m args below meth c G H locs la C hP hD hS hL)
theorem ok_lmul {M : xMt} {pc : Nat} {ls : List (Nat × xV)} {st : List xV} {μ : xM} {Q : xPo} {x y : Int64} (hd : decode M.2.1 pc = .ok (.lmul, 1)) (kk : xOk M (pc + 1) ls (vL (x * y) :: st) μ Q) : xOk M pc ls (vL y :: vL x :: st) μ Q := by
  intro p l e s m args below meth c G H locs la C hP hD hS hL
  exact lv_lmul C.1 C.2.1 hd (kk p l e s m args below meth c G H locs la C hP hD hS hL)
theorem ok_i2l {M : xMt} {pc : Nat} {ls : List (Nat × xV)} {st : List xV} {μ : xM} {Q : xPo} {x : Int32} (hd : decode M.2.1 pc = .ok (.i2l, 1)) (kk : xOk M (pc + 1) ls (vL x.toInt64 :: st) μ Q) : xOk M pc ls (vI x :: st) μ Q := by
  intro p l e s m args below meth c G H locs la C hP hD hS hL
  exact lv_i2l C.1 C.2.1 hd rfl (kk p l e s m args below meth c G H locs la C hP hD hS hL)
theorem ok_dup {M : xMt} {pc : Nat} {ls : List (Nat × xV)} {st : List xV} {μ : xM} {Q : xPo} {v : xV} (hd : decode M.2.1 pc = .ok (.dup, 1)) (hc : xcat v = 1) (kk : xOk M (pc + 1) ls (v :: v :: st) μ Q) : xOk M pc ls (v :: st) μ Q := by
  intro p l e s m args below meth c G H locs la C hP hD hS hL
  exact lv_dup C.1 C.2.1 hd ((cv_cat G v).trans hc) (kk p l e s m args below meth c G H locs la C hP hD hS hL)
theorem ok_dup2 {M : xMt} {pc : Nat} {ls : List (Nat × xV)} {st : List xV} {μ : xM} {Q : xPo} {u v : xV} (hd : decode M.2.1 pc = .ok (.dup2, 1)) (hc : xcat u = 1) (hc2 : xcat v = 1) (kk : xOk M (pc + 1) ls (u :: v :: u :: v :: st) μ Q) : xOk M pc ls (u :: v :: st) μ Q := by
  intro p l e s m args below meth c G H locs la C hP hD hS hL
  exact lv_dup2_11 C.1 C.2.1 hd ((cv_cat G u).trans hc) ((cv_cat G v).trans hc2) (kk p l e s m args below meth c G H locs la C hP hD hS hL)
theorem ok_dup_x1 {M : xMt} {pc : Nat} {ls : List (Nat × xV)} {st : List xV} {μ : xM} {Q : xPo} {u v : xV} (hd : decode M.2.1 pc = .ok (.dup_x1, 1)) (hc : xcat u = 1) (hc2 : xcat v = 1) (kk : xOk M (pc + 1) ls (u :: v :: u :: st) μ Q) : xOk M pc ls (u :: v :: st) μ Q := by
  intro p l e s m args below meth c G H locs la C hP hD hS hL
  exact lv_dup_x1 C.1 C.2.1 hd ((cv_cat G u).trans hc) ((cv_cat G v).trans hc2) (kk p l e s m args below meth c G H locs la C hP hD hS hL)
theorem ok_pop {M : xMt} {pc : Nat} {ls : List (Nat × xV)} {st : List xV} {μ : xM} {Q : xPo} {v : xV} (hd : decode M.2.1 pc = .ok (.pop, 1)) (hc : xcat v = 1) (kk : xOk M (pc + 1) ls (st) μ Q) : xOk M pc ls (v :: st) μ Q := by
  intro p l e s m args below meth c G H locs la C hP hD hS hL
  exact lv_pop C.1 C.2.1 hd ((cv_cat G v).trans hc) (kk p l e s m args below meth c G H locs la C hP hD hS hL)
theorem ok_goto {M : xMt} {pc : Nat} {ls : List (Nat × xV)} {st : List xV} {μ : xM} {Q : xPo} {off : Int} {tgt : Nat} (hd : decode M.2.1 pc = .ok (.goto off, 3)) (ht : (pc : Int) + off = (tgt : Int)) (kk : xOk M tgt ls (st) μ Q) : xOk M pc ls (st) μ Q := by
  intro p l e s m args below meth c G H locs la C hP hD hS hL
  exact lv_goto C.1 C.2.1 hd ht (kk p l e s m args below meth c G H locs la C hP hD hS hL)
theorem ok_if_eq {M : xMt} {pc : Nat} {ls : List (Nat × xV)} {st : List xV} {μ : xM} {Q : xPo} {x : Int32} {off : Int} {tgt : Nat} (hd : decode M.2.1 pc = .ok (.ifCond .eq off, 3)) (ht : (pc : Int) + off = (tgt : Int)) (kk : (x = 0 → xOk M tgt ls st μ Q) ∧ (¬ x = 0 → xOk M (pc + 3) ls st μ Q)) : xOk M pc ls (vI x :: st) μ Q := by
  intro p l e s m args below meth c G H locs la C hP hD hS hL
  exact lv_if_eq C.1 C.2.1 hd ht (fun z => kk.1 z p l e s m args below meth c G H locs la C hP hD hS hL) (fun z => kk.2 z p l e s m args below meth c G H locs la C hP hD hS hL)
theorem ok_if_ne {M : xMt} {pc : Nat} {ls : List (Nat × xV)} {st : List xV} {μ : xM} {Q : xPo} {x : Int32} {off : Int} {tgt : Nat} (hd : decode M.2.1 pc = .ok (.ifCond .ne off, 3)) (ht : (pc : Int) + off = (tgt : Int)) (kk : (¬ x = 0 → xOk M tgt ls st μ Q) ∧ (x = 0 → xOk M (pc + 3) ls st μ Q)) : xOk M pc ls (vI x :: st) μ Q := by
  intro p l e s m args below meth c G H locs la C hP hD hS hL
  exact lv_if_ne C.1 C.2.1 hd ht (fun z => kk.1 z p l e s m args below meth c G H locs la C hP hD hS hL) (fun z => kk.2 z p l e s m args below meth c G H locs la C hP hD hS hL)
theorem ok_if_lt {M : xMt} {pc : Nat} {ls : List (Nat × xV)} {st : List xV} {μ : xM} {Q : xPo} {x : Int32} {off : Int} {tgt : Nat} (hd : decode M.2.1 pc = .ok (.ifCond .lt off, 3)) (ht : (pc : Int) + off = (tgt : Int)) (kk : (x < 0 → xOk M tgt ls st μ Q) ∧ (¬ x < 0 → xOk M (pc + 3) ls st μ Q)) : xOk M pc ls (vI x :: st) μ Q := by
  intro p l e s m args below meth c G H locs la C hP hD hS hL
  exact lv_if_lt C.1 C.2.1 hd ht (fun z => kk.1 z p l e s m args below meth c G H locs la C hP hD hS hL) (fun z => kk.2 z p l e s m args below meth c G H locs la C hP hD hS hL)
theorem ok_if_ge {M : xMt} {pc : Nat} {ls : List (Nat × xV)} {st : List xV} {μ : xM} {Q : xPo} {x : Int32} {off : Int} {tgt : Nat} (hd : decode M.2.1 pc = .ok (.ifCond .ge off, 3)) (ht : (pc : Int) + off = (tgt : Int)) (kk : (0 ≤ x → xOk M tgt ls st μ Q) ∧ (¬ 0 ≤ x → xOk M (pc + 3) ls st μ Q)) : xOk M pc ls (vI x :: st) μ Q := by
  intro p l e s m args below meth c G H locs la C hP hD hS hL
  exact lv_if_ge C.1 C.2.1 hd ht (fun z => kk.1 z p l e s m args below meth c G H locs la C hP hD hS hL) (fun z => kk.2 z p l e s m args below meth c G H locs la C hP hD hS hL)
theorem ok_if_gt {M : xMt} {pc : Nat} {ls : List (Nat × xV)} {st : List xV} {μ : xM} {Q : xPo} {x : Int32} {off : Int} {tgt : Nat} (hd : decode M.2.1 pc = .ok (.ifCond .gt off, 3)) (ht : (pc : Int) + off = (tgt : Int)) (kk : (0 < x → xOk M tgt ls st μ Q) ∧ (¬ 0 < x → xOk M (pc + 3) ls st μ Q)) : xOk M pc ls (vI x :: st) μ Q := by
  intro p l e s m args below meth c G H locs la C hP hD hS hL
  exact lv_if_gt C.1 C.2.1 hd ht (fun z => kk.1 z p l e s m args below meth c G H locs la C hP hD hS hL) (fun z => kk.2 z p l e s m args below meth c G H locs la C hP hD hS hL)
theorem ok_if_le {M : xMt} {pc : Nat} {ls : List (Nat × xV)} {st : List xV} {μ : xM} {Q : xPo} {x : Int32} {off : Int} {tgt : Nat} (hd : decode M.2.1 pc = .ok (.ifCond .le off, 3)) (ht : (pc : Int) + off = (tgt : Int)) (kk : (x ≤ 0 → xOk M tgt ls st μ Q) ∧ (¬ x ≤ 0 → xOk M (pc + 3) ls st μ Q)) : xOk M pc ls (vI x :: st) μ Q := by
  intro p l e s m args below meth c G H locs la C hP hD hS hL
  exact lv_if_le C.1 C.2.1 hd ht (fun z => kk.1 z p l e s m args below meth c G H locs la C hP hD hS hL) (fun z => kk.2 z p l e s m args below meth c G H locs la C hP hD hS hL)
theorem ok_icmp_eq {M : xMt} {pc : Nat} {ls : List (Nat × xV)} {st : List xV} {μ : xM} {Q : xPo} {x y : Int32} {off : Int} {tgt : Nat} (hd : decode M.2.1 pc = .ok (.if_icmp .eq off, 3)) (ht : (pc : Int) + off = (tgt : Int)) (kk : (x = y → xOk M tgt ls st μ Q) ∧ (¬ x = y → xOk M (pc + 3) ls st μ Q)) : xOk M pc ls (vI y :: vI x :: st) μ Q := by
  intro p l e s m args below meth c G H locs la C hP hD hS hL
  exact lv_icmp_eq C.1 C.2.1 hd ht (fun z => kk.1 z p l e s m args below meth c G H locs la C hP hD hS hL) (fun z => kk.2 z p l e s m args below meth c G H locs la C hP hD hS hL)
theorem ok_icmp_ne {M : xMt} {pc : Nat} {ls : List (Nat × xV)} {st : List xV} {μ : xM} {Q : xPo} {x y : Int32} {off : Int} {tgt : Nat} (hd : decode M.2.1 pc = .ok (.if_icmp .ne off, 3)) (ht : (pc : Int) + off = (tgt : Int)) (kk : (¬ x = y → xOk M tgt ls st μ Q) ∧ (x = y → xOk M (pc + 3) ls st μ Q)) : xOk M pc ls (vI y :: vI x :: st) μ Q := by
  intro p l e s m args below meth c G H locs la C hP hD hS hL
  exact lv_icmp_ne C.1 C.2.1 hd ht (fun z => kk.1 z p l e s m args below meth c G H locs la C hP hD hS hL) (fun z => kk.2 z p l e s m args below meth c G H locs la C hP hD hS hL)
theorem ok_icmp_lt {M : xMt} {pc : Nat} {ls : List (Nat × xV)} {st : List xV} {μ : xM} {Q : xPo} {x y : Int32} {off : Int} {tgt : Nat} (hd : decode M.2.1 pc = .ok (.if_icmp .lt off, 3)) (ht : (pc : Int) + off = (tgt : Int)) (kk : (x < y → xOk M tgt ls st μ Q) ∧ (¬ x < y → xOk M (pc + 3) ls st μ Q)) : xOk M pc ls (vI y :: vI x :: st) μ Q := by
  intro p l e s m args below meth c G H locs la C hP hD hS hL
  exact lv_icmp_lt C.1 C.2.1 hd ht (fun z => kk.1 z p l e s m args below meth c G H locs la C hP hD hS hL) (fun z => kk.2 z p l e s m args below meth c G H locs la C hP hD hS hL)
theorem ok_icmp_ge {M : xMt} {pc : Nat} {ls : List (Nat × xV)} {st : List xV} {μ : xM} {Q : xPo} {x y : Int32} {off : Int} {tgt : Nat} (hd : decode M.2.1 pc = .ok (.if_icmp .ge off, 3)) (ht : (pc : Int) + off = (tgt : Int)) (kk : (y ≤ x → xOk M tgt ls st μ Q) ∧ (¬ y ≤ x → xOk M (pc + 3) ls st μ Q)) : xOk M pc ls (vI y :: vI x :: st) μ Q := by
  intro p l e s m args below meth c G H locs la C hP hD hS hL
  exact lv_icmp_ge C.1 C.2.1 hd ht (fun z => kk.1 z p l e s m args below meth c G H locs la C hP hD hS hL) (fun z => kk.2 z p l e s m args below meth c G H locs la C hP hD hS hL)
theorem ok_icmp_gt {M : xMt} {pc : Nat} {ls : List (Nat × xV)} {st : List xV} {μ : xM} {Q : xPo} {x y : Int32} {off : Int} {tgt : Nat} (hd : decode M.2.1 pc = .ok (.if_icmp .gt off, 3)) (ht : (pc : Int) + off = (tgt : Int)) (kk : (y < x → xOk M tgt ls st μ Q) ∧ (¬ y < x → xOk M (pc + 3) ls st μ Q)) : xOk M pc ls (vI y :: vI x :: st) μ Q := by
  intro p l e s m args below meth c G H locs la C hP hD hS hL
  exact lv_icmp_gt C.1 C.2.1 hd ht (fun z => kk.1 z p l e s m args below meth c G H locs la C hP hD hS hL) (fun z => kk.2 z p l e s m args below meth c G H locs la C hP hD hS hL)
theorem ok_icmp_le {M : xMt} {pc : Nat} {ls : List (Nat × xV)} {st : List xV} {μ : xM} {Q : xPo} {x y : Int32} {off : Int} {tgt : Nat} (hd : decode M.2.1 pc = .ok (.if_icmp .le off, 3)) (ht : (pc : Int) + off = (tgt : Int)) (kk : (x ≤ y → xOk M tgt ls st μ Q) ∧ (¬ x ≤ y → xOk M (pc + 3) ls st μ Q)) : xOk M pc ls (vI y :: vI x :: st) μ Q := by
  intro p l e s m args below meth c G H locs la C hP hD hS hL
  exact lv_icmp_le C.1 C.2.1 hd ht (fun z => kk.1 z p l e s m args below meth c G H locs la C hP hD hS hL) (fun z => kk.2 z p l e s m args below meth c G H locs la C hP hD hS hL)
/-- where a tableswitch goes -/
def xSw (dflt lo hi : Int) (offs : Array Int) (x : Int) : Int := if x < lo ∨ hi < x then dflt else (offs[(x - lo).toNat]?).getD dflt
theorem ok_table {M : xMt} {pc : Nat} {ls : List (Nat × xV)} {st : List xV} {μ : xM} {Q : xPo} {dflt lo hi off : Int} {offs : Array Int} {len tgt : Nat} {x : Int32} (hd : decode M.2.1 pc = .ok (.tableswitch dflt lo hi offs, len)) (hz : lo + (offs.size : Int) = hi + 1) (ho : xSw dflt lo hi offs x.toInt = off) (ht : (pc : Int) + off = (tgt : Int)) (kk : xOk M tgt ls st μ Q) : xOk M pc ls (vI x :: st) μ Q := by
  intro p l e s m args below meth c G H locs la C hP hD hS hL
  by_cases h : x.toInt < lo ∨ hi < x.toInt
  · rw [xSw, if_pos h] at ho
    subst ho
    exact lv_tableOut C.1 C.2.1 hd h ht (kk p l e s m args below meth c G H locs la C hP hD hS hL)
  · rw [xSw, if_neg h] at ho
    have hlt : (x.toInt - lo).toNat < offs.size := by omega
    rw [Array.getElem?_eq_getElem hlt] at ho
    exact lv_tableIn C.1 C.2.1 hd (fun z => h (Or.inl z)) (fun z => h (Or.inr z)) (off := off) (by rw [Array.getElem?_eq_getElem hlt]; exact congrArg some ho) ht (kk p l e s m args below meth c G H locs la C hP hD hS hL)
theorem xSw_d {dflt lo hi : Int} {offs : Array Int} {x : Int32} (cs : List Int32) (h : ∀ n, n < offs.size → (∀ c ∈ cs, c.toInt ≠ lo + (n : Int)) → (offs[n]?).getD dflt = dflt) (hz : lo + (offs.size : Int) = hi + 1) (hx : ∀ c ∈ cs, x ≠ c) : xSw dflt lo hi offs x.toInt = dflt := by
  by_cases hr : x.toInt < lo ∨ hi < x.toInt
  · rw [xSw, if_pos hr]
  · rw [xSw, if_neg hr]
    refine h _ (by omega) (fun c hc e => hx c hc ?_)
    apply Int32.toInt_inj.mp
    omega
theorem ok_lookup {M : xMt} {pc : Nat} {ls : List (Nat × xV)} {st : List xV} {μ : xM} {Q : xPo} {dflt off : Int} {ps : Array (Int × Int)} {len tgt : Nat} {x : Int32} (hd : decode M.2.1 pc = .ok (.lookupswitch dflt ps, len)) (hp : (ps.toList.zip (ps.toList.drop 1)).all (fun (a, next) => a.1 < next.1) = true) (ho : Op.lookupswitch.offset ps.toList dflt x.toInt = off) (ht : (pc : Int) + off = (tgt : Int)) (kk : xOk M tgt ls st μ Q) : xOk M pc ls (vI x :: st) μ Q := by
  intro p l e s m args below meth c G H locs la C hP hD hS hL
  exact lv_lookup C.1 C.2.1 hd hp ho ht (kk p l e s m args below meth c G H locs la C hP hD hS hL)
theorem ok_iret {M : xMt} {pc : Nat} {ls : List (Nat × xV)} {μ : xM} {Q : xPo} {r : Int32} (hr : M.2.2.2.1 = some .int) (hd : decode M.2.1 pc = .ok (.ireturn, 1)) (h : Q (some (vI r)) μ) : xOk M pc ls [vI r] μ Q := by
  intro p l e s m args below meth c G H locs la C hP hD hS hL
  have hlk : meth.locks = false := C.2.2.2.2.2.2.1
  exact W.iret (v := r) C.1 C.2.1 (C.2.2.1.trans hr) (fun t ht hW => ⟨⟨some (vI r), μ, rfl, h, by rw [ht]; exact hP, va_K.moved hW.alike C.2.2.2.2.2.2.2.1, hD⟩, hS.F ht⟩) hS.2.2 hd hlk
theorem ok_zret {M : xMt} {pc : Nat} {ls : List (Nat × xV)} {μ : xM} {Q : xPo} {r : Int32} (hr : M.2.2.2.1 = some .boolean) (hn : r = 0 ∨ r = 1) (hd : decode M.2.1 pc = .ok (.ireturn, 1)) (h : Q (some (vI r)) μ) : xOk M pc ls [vI r] μ Q := by
  intro p l e s m args below meth c G H locs la C hP hD hS hL
  have hlk : meth.locks = false := C.2.2.2.2.2.2.1
  exact W.zret (v := r) C.1 C.2.1 (C.2.2.1.trans hr) (by rcases hn with rfl | rfl <;> decide +kernel) (fun t ht hW => ⟨⟨some (vI r), μ, rfl, h, by rw [ht]; exact hP, va_K.moved hW.alike C.2.2.2.2.2.2.2.1, hD⟩, hS.F ht⟩) hS.2.2 hd hlk
theorem ok_lret {M : xMt} {pc : Nat} {ls : List (Nat × xV)} {μ : xM} {Q : xPo} {r : Int64} (hr : M.2.2.2.1 = some .long) (hd : decode M.2.1 pc = .ok (.lreturn, 1)) (h : Q (some (vL r)) μ) : xOk M pc ls [vL r] μ Q := by
  intro p l e s m args below meth c G H locs la C hP hD hS hL
  have hlk : meth.locks = false := C.2.2.2.2.2.2.1
  exact W.lret (v := r) C.1 C.2.1 (C.2.2.1.trans hr) (fun t ht hW => ⟨⟨some (vL r), μ, rfl, h, by rw [ht]; exact hP, va_K.moved hW.alike C.2.2.2.2.2.2.2.1, hD⟩, hS.F ht⟩) hS.2.2 hd hlk
theorem ok_vret {M : xMt} {pc : Nat} {ls : List (Nat × xV)} {μ : xM} {Q : xPo} (hr : M.2.2.2.1 = none) (hd : decode M.2.1 pc = .ok (.return_, 1)) (h : Q none μ) : xOk M pc ls [] μ Q := by
  intro p l e s m args below meth c G H locs la C hP hD hS hL
  have hlk : meth.locks = false := C.2.2.2.2.2.2.1
  exact W.vret C.1 C.2.1 (C.2.2.1.trans hr) (fun t ht hW => ⟨⟨none, μ, rfl, h, by rw [ht]; exact hP, va_K.moved hW.alike C.2.2.2.2.2.2.2.1, hD⟩, hS.F ht⟩) hS.2.2 hd hlk
