def xUp (a : xA) (k s w j : Nat) (v : Int32) : xA := fun k' s' w' j' => if k' = k ∧ s' = s ∧ w' = w ∧ j' = j then v else a k' s' w' j'
def xCp (a : xA) (k1 s1 w1 k2 s2 w2 n : Nat) : xA := fun k' s' w' j' => if k' = k2 ∧ s' = s2 ∧ w' = w2 ∧ j' < n then a k1 s1 w1 j' else a k' s' w' j'
theorem xUp_o {a : xA} {k s w j : Nat} {v : Int32} {n : xN} (h : n ≠ (k, s, w)) (j' : Nat) : xUp a k s w j v n.1 n.2.1 n.2.2 j' = a n.1 n.2.1 n.2.2 j' := by
  unfold xUp
  rw [if_neg]
  rintro ⟨h1, h2, h3, -⟩
  exact h (Prod.ext h1 (Prod.ext h2 h3))
theorem xCp_o {a : xA} {k1 s1 w1 k2 s2 w2 n' : Nat} {n : xN} (h : n ≠ (k2, s2, w2)) (j' : Nat) : xCp a k1 s1 w1 k2 s2 w2 n' n.1 n.2.1 n.2.2 j' = a n.1 n.2.1 n.2.2 j' := by
  unfold xCp
  rw [if_neg]
  rintro ⟨h1, h2, h3, -⟩
  exact h (Prod.ext h1 (Prod.ext h2 h3))
theorem xUpC_o {k s w j : Nat} {v : Int32} {μ : xM} (G : xG) {n : xN} (h : n ≠ (k, s, w)) : xCell G (xUp μ.1 k s w j v, μ.2) n = xCell G μ n := xCell_same (fun j' => xUp_o h j') (fun _ => rfl) (fun _ => rfl)
theorem xUpR_o {k s w j : Nat} {v : Int32} {μ : xM} (G : xG) {n : xN} (h : n ≠ (k, s, w)) : xCell G (μ.1, (xUp μ.2.1 k s w j v, μ.2.2)) n = xCell G μ n := xCell_same (fun _ => rfl) (fun j' => xUp_o h j') (fun _ => rfl)
theorem xCpC_o {k1 s1 w1 k2 s2 w2 n' : Nat} {μ : xM} (G : xG) {n : xN} (h : n ≠ (k2, s2, w2)) : xCell G (xCp μ.1 k1 s1 w1 k2 s2 w2 n', μ.2) n = xCell G μ n := xCell_same (fun j' => xCp_o h j') (fun _ => rfl) (fun _ => rfl)
theorem xN6 : ∀ n ∈ xNms, n.1 = 6 → n = (6, 0, 0) := by decide +kernel
theorem xUpH_o {v : Int64} {μ : xM} (G : xG) {n : xN} (hm : n ∈ xNms) (h : n ≠ (6, 0, 0)) : xCell G (μ.1, (μ.2.1, v)) n = xCell G μ n := xCell_same (fun _ => rfl) (fun _ => rfl) (fun h6 => absurd (xN6 n hm h6) h)
theorem xUp_row (a : xA) (k s w : Nat) (i : Nat) (v : Int32) : (fun j => xUp a k s w i v k s w j) = upd (fun j => a k s w j) i v := by
  funext j
  simp [xUp, upd]
theorem ok_get {M : xMt} {pc : Nat} {ls : List (Nat × xV)} {st : List xV} {μ : xM} {Q : xPo} {index k s' w' N : Nat} {C' : String} {T : u_T} {v : xV} (j : Nat) (hd : decode M.2.1 pc = .ok (.getfield index, 3)) (hn : (k, s', w') ∈ xNms) (hc : vwCl[k]? = some (C', T, N)) (hin : ∀ w ∈ u_ws C' T N, w ∈ xT) (hj : j < N) (hlink : Cond.fieldLink M.1.cls index (T j).1 (T j).2.1 (T j).2.2.1 ∈ xT) (hv : ∀ G : xG, ∃ fs, xCell G μ (k, s', w') = .inr (k, fs) ∧ fs[j]? = some (cv G v)) (kk : xOk M (pc + 3) ls (v :: st) μ Q) : xOk M pc ls (vR k s' w' :: st) μ Q := by
  intro p l e s m args below meth c G H locs la C hP hD hS hL
  obtain ⟨i, hi⟩ := xAt hn
  obtain ⟨fs, e1, e2⟩ := hv G
  have he := xWs_get (G := G) (μ := μ) hi
  rw [e1] at he
  exact va_get (D := G.1) (ws := xWs G μ) (tys := xTy G) (cl := vwCl) (ref := (T j).1) C.1 C.2.1 C.2.2.2.2.2.1 hin C.2.2.2.2.1 C.2.2.2.2.2.2.2.1 hP i he hc j hj (C.2.2.2.2.2.1 _ hlink) (fun _ h => h) e2 hd (kk p l e s m args below meth c G H locs la C hP hD hS hL)
theorem ok_put {M : xMt} {pc : Nat} {ls : List (Nat × xV)} {st : List xV} {μ : xM} {Q : xPo} {index k s' w' N : Nat} {C' : String} {T : u_T} {v : xV} {μ' : xM} {ty : FieldType} (j : Nat) (ty0 : Nat → FieldType) (hty : ∀ k, k < N → parseFieldDescriptor (T k).2.2.1 = some (ty0 k)) (hnm : ∀ a, a < N → ∀ b, b < N → a ≠ b → (T a).2.1 ≠ (T b).2.1) (hd : decode M.2.1 pc = .ok (.putfield index, 3)) (hn : (k, s', w') ∈ xNms) (hc : vwCl[k]? = some (C', T, N)) (hin : ∀ w ∈ u_ws C' T N, w ∈ xT) (hj : j < N) (hlink : Cond.fieldLink M.1.cls index (T j).1 (T j).2.1 (T j).2.2.1 ∈ xT) (hfin : (T j).2.2.2 = false) (hpd : parseFieldDescriptor (T j).2.2.1 = some ty) (hnar : ∀ G : xG, narrow ty (cv G v) = cv G v) (hfit : ∀ G : xG, fits ty (cv G v) = true) (hv : ∀ G : xG, ∃ fs, xCell G μ (k, s', w') = .inr (k, fs) ∧ j < fs.length ∧ xCell G μ' (k, s', w') = .inr (k, fs.set j (cv G v))) (ho : ∀ (G : xG) (n' : xN), n' ∈ xNms → n' ≠ (k, s', w') → xCell G μ' n' = xCell G μ n') (kk : xOk M (pc + 3) ls st μ' Q) : xOk M pc ls (v :: vR k s' w' :: st) μ Q := by
  intro p l e s m args below meth c G H locs la C hP hD hS hL
  obtain ⟨i, hi⟩ := xAt hn
  obtain ⟨fs, e1, e2, e3⟩ := hv G
  have he := xWs_get (G := G) (μ := μ) hi
  rw [e1] at he
  refine va_put (D := G.1) (ws := xWs G μ) (tys := xTy G) (cl := vwCl) (ref := (T j).1) C.1 C.2.1 C.2.2.2.2.2.1 hin ty0 hty hnm C.2.2.2.2.1 C.2.2.2.2.2.2.2.1 hP hD hS i he hc j hj (C.2.2.2.2.2.1 _ hlink) (fun _ h => h) hfin hpd (hnar G) (hfit G) e2 hd (fun H1 locs1 hP1 hD1 hS1 => ?_)
  rw [xWs_set hi e3.symm (ho G)] at hP1 hD1
  exact kk p l e s m args below meth c G H1 locs1 la C hP1 hD1 hS1 hL
theorem ok_iald {M : xMt} {pc : Nat} {ls : List (Nat × xV)} {st : List xV} {μ : xM} {Q : xPo} {k s' w' n : Nat} {i : Int32} {f : Nat → Int32} (hd : decode M.2.1 pc = .ok (.iaload, 1)) (hn : (k, s', w') ∈ xNms) (hc : ∀ G : xG, xCell G μ (k, s', w') = .inl (G.2.1 0, n, .inl f)) (hi : vp_in i n) (kk : xOk M (pc + 1) ls (vI (f i.toNatClampNeg) :: st) μ Q) : xOk M pc ls (vI i :: vR k s' w' :: st) μ Q := by
  intro p l e s m args below meth c G H locs la C hP hD hS hL
  obtain ⟨i0, hi0⟩ := xAt hn
  have he := xWs_get (G := G) (μ := μ) hi0
  rw [hc G] at he
  exact va_iald (D := G.1) (ws := xWs G μ) (tys := xTy G) (cl := vwCl) C.1 C.2.1 C.2.2.2.2.2.2.2.1 hP i0 0 he rfl hi hd (kk p l e s m args below meth c G H locs la C hP hD hS hL)
theorem ok_iast {M : xMt} {pc : Nat} {ls : List (Nat × xV)} {st : List xV} {μ : xM} {Q : xPo} {k s' w' n : Nat} {i x : Int32} {f : Nat → Int32} {μ' : xM} (hd : decode M.2.1 pc = .ok (.iastore, 1)) (hn : (k, s', w') ∈ xNms) (hc : ∀ G : xG, xCell G μ (k, s', w') = .inl (G.2.1 0, n, .inl f)) (hi : vp_in i n) (hc2 : ∀ G : xG, xCell G μ' (k, s', w') = .inl (G.2.1 0, n, .inl (upd f i.toNatClampNeg x))) (ho : ∀ (G : xG) (n' : xN), n' ∈ xNms → n' ≠ (k, s', w') → xCell G μ' n' = xCell G μ n') (kk : xOk M (pc + 1) ls st μ' Q) : xOk M pc ls (vI x :: vI i :: vR k s' w' :: st) μ Q := by
  intro p l e s m args below meth c G H locs la C hP hD hS hL
  obtain ⟨i0, hi0⟩ := xAt hn
  have he := xWs_get (G := G) (μ := μ) hi0
  rw [hc G] at he
  refine va_iast (D := G.1) (ws := xWs G μ) (tys := xTy G) (cl := vwCl) C.1 C.2.1 C.2.2.2.2.2.2.2.1 hP hD hS i0 0 he rfl hi hd (fun H1 locs1 hP1 hD1 hS1 => ?_)
  rw [xWs_set hi0 (hc2 G).symm (ho G)] at hP1 hD1
  exact kk p l e s m args below meth c G H1 locs1 la C hP1 hD1 hS1 hL
theorem ok_aald {M : xMt} {pc : Nat} {ls : List (Nat × xV)} {st : List xV} {μ : xM} {Q : xPo} {k s' w' n t : Nat} {i : Int32} {g : Nat → xN} {C' : String} (hd : decode M.2.1 pc = .ok (.aaload, 1)) (hn : (k, s', w') ∈ xNms) (hc : ∀ G : xG, xCell G μ (k, s', w') = xRefs (G.2.1 t) n (fun j => xadr G (g j))) (ht : ∀ G : xG, (xTy G)[t]? = some (G.2.1 t, .object C')) (hi : vp_in i n) (kk : xOk M (pc + 1) ls ((Sum.inr (Sum.inr (g i.toNatClampNeg)) : xV) :: st) μ Q) : xOk M pc ls (vI i :: vR k s' w' :: st) μ Q := by
  intro p l e s m args below meth c G H locs la C hP hD hS hL
  obtain ⟨i0, hi0⟩ := xAt hn
  have he := xWs_get (G := G) (μ := μ) hi0
  rw [hc G] at he
  exact va_aldq (D := G.1) (ws := xWs G μ) (tys := xTy G) (cl := vwCl) C.1 C.2.1 C.2.2.2.2.2.2.2.1 hP i0 t he (ht G) hi hd (kk p l e s m args below meth c G H locs la C hP hD hS hL)
theorem ok_copy {M : xMt} {pc : Nat} {ls : List (Nat × xV)} {st : List xV} {μ : xM} {Q : xPo} {k1 s1 w1 k2 s2 w2 nn index : Nat} {n : Int32} (hd : decode M.2.1 pc = .ok (.invokestatic index, 3)) (hlink : Cond.methodLink M.1.cls index arraycopyName ∈ xT) (h1 : (k1, s1, w1) ∈ xNms) (h2 : (k2, s2, w2) ∈ xNms) (hc1 : ∀ G : xG, xCell G μ (k1, s1, w1) = .inl (G.2.1 0, nn, .inl (fun j => μ.1 k1 s1 w1 j))) (hc2 : ∀ (G : xG) (a : xA), xCell G (a, μ.2) (k2, s2, w2) = .inl (G.2.1 0, nn, .inl (fun j => a k2 s2 w2 j))) (hn0 : ¬ n < 0) (hnn : n.toNatClampNeg = nn) (hR : 1 ≤ M.2.2.2.2.1 ∧ (st.map xcat).sum + (nativeFrameWords "java/lang/System" "arraycopy" 5 + 11) ≤ M.2.2.2.2.2) (kk : xOk M (pc + 3) ls st (xCp μ.1 k1 s1 w1 k2 s2 w2 nn, μ.2) Q) : xOk M pc ls (vI n :: vI 0 :: vR k2 s2 w2 :: vI 0 :: vR k1 s1 w1 :: st) μ Q := by
  intro p l e s m args below meth c G H locs la C hP hD hS hL
  obtain ⟨i1, hi1⟩ := xAt h1
  obtain ⟨i2, hi2⟩ := xAt h2
  have he1 := xWs_get (G := G) (μ := μ) hi1
  have he2 := xWs_get (G := G) (μ := μ) hi2
  rw [hc1 G] at he1
  rw [hc2 G μ.1] at he2
  have hts := C.2.2.2.2.2.1
  have hcat : ((st.map (cv G)).map fun v => v.category).sum = (st.map xcat).sum := by
    rw [List.map_map]
    congr 2
    funext v
    exact cv_cat G v
  refine va_copyi (D := G.1) (ws := xWs G μ) (tys := xTy G) (cl := vwCl) (ty := .int) (f := fun j => μ.1 k1 s1 w1 j) (g := fun j => μ.1 k2 s2 w2 j) C.1 C.2.1 (C.2.2.2.1.trans hL.1.symm) C.2.2.2.2.1 (hts _ hlink) (hts _ xw_222) (hts _ xw_221) (hts _ xw_8) C.2.2.2.2.2.2.2.1 hP hD hS i1 i2 0 0 he1 he2 rfl rfl rfl (by decide) (by decide) hn0 (by rw [hnn]; exact Nat.le_of_eq (Nat.zero_add _)) (by rw [hnn]; exact Nat.le_of_eq (Nat.zero_add _)) (fun _ _ => rfl) hR.1 (by rw [hcat]; exact hR.2) hd (fun H1 locs1 hP1 hD1 hS1 => ?_)
  have e3 : (Sum.inl (G.2.1 0, nn, Sum.inl (va_cpy (fun j => μ.1 k1 s1 w1 j) (fun j => μ.1 k2 s2 w2 j) (0 : Int32).toNatClampNeg (0 : Int32).toNatClampNeg n.toNatClampNeg)) : va_E) = xCell G (xCp μ.1 k1 s1 w1 k2 s2 w2 nn, μ.2) (k2, s2, w2) := by
    rw [hc2 G, hnn]
    congr 4
    funext j
    simp [va_cpy, xCp]
  rw [xWs_set hi2 e3 (fun n' _ h => xCpC_o G h)] at hP1 hD1
  exact kk p l e s m args below meth c G H1 locs1 la C hP1 hD1 hS1 hL
theorem xMinW : Cond.code Lib.Math.min.name Lib.Math.min.code 2 (some .int) ∈ xT := List.mem_filter.mpr ⟨List.mem_append_right _ (List.mem_of_getElem? (i := 235) (by decide +kernel)), by decide +kernel⟩
theorem ok_min {M : xMt} {pc : Nat} {ls : List (Nat × xV)} {st : List xV} {μ : xM} {Q : xPo} {index : Nat} {x y : Int32} (hd : decode M.2.1 pc = .ok (.invokestatic index, 3)) (hlink : Cond.methodLink M.1.cls index Lib.Math.min.name ∈ xT) (hR : 1 ≤ M.2.2.2.2.1 ∧ (st.map xcat).sum + 13 ≤ M.2.2.2.2.2) (kk : xOk M (pc + 3) ls (vI (if y < x then y else x) :: st) μ Q) : xOk M pc ls (vI y :: vI x :: st) μ Q := by
  intro p l e s m args below meth c G H locs la C hP hD hS hL
  have hts := C.2.2.2.2.2.1
  have hcat : ((st.map (cv G)).map fun v => v.category).sum = (st.map xcat).sum := by
    rw [List.map_map]
    congr 2
    funext v
    exact cv_cat G v
  exact va_mmin C.1 C.2.1 (C.2.2.2.1.trans hL.1.symm) C.2.2.2.2.1 (hts _ hlink) (hts _ xw_234) (hts _ xw_9) (hts _ xMinW) hR.1 (by rw [hcat]; exact hR.2) (Nat.zero_le _) (Nat.zero_le _) hd (kk p l e s m args below meth c G H locs la C hP hD hS hL)
