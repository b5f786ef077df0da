/-! the law's loop -/
theorem lg_same (x : Int64) : lg_cmp x x = 0 := by
  unfold lg_cmp
  simp
section
variable {b L k : Nat} {xs : Nat → Int32} {μ : xM}
theorem law_begins (hT : 1000 * k + 1000 < 2 ^ 30) (hv : ∀ j, j ≤ 5 → vp_in (nI (6 * k) + nI j) L) (h : Iv μ (1000 * k)) (next : ∀ μ, Iv μ (1000 * k + 1000) → lOk b L xs 783 [(3, some (vI (nI (6 * k)))), (0, none), (1, some (vR 5 0 0)), (2, some (vR 6 0 0))] [] μ) : lOk b L xs 136 [(3, some (vI (nI (6 * k)))), (0, none), (1, some (vR 5 0 0)), (2, some (vR 6 0 0))] [] μ := by
  refine l_aload (j := 2) dL_law_136 rfl rfl ?_
  refine l_aload0 (j := 1) dL_law_137 rfl rfl ?_
  refine l_iload (j := 0) dL_law_138 rfl rfl ?_
  refine l_iconst (v := (1 : Int32)) dL_law_139 (by decide) ?_
  refine l_iadd dL_law_140 ?_
  refine l_iald dL_law_141 (hv 1 (by decide)) ?_
  refine l_call (M' := mX5_begins) (k := 5) (s' := 0) (w' := 0) [vI (xs (nI (6 * k) + (1 : Int32)).toNatClampNeg)] [] dL_law_142 xw_201 fV_X5_begins fS_X5_begins rfl ⟨(Nat.le_of_ble_eq_true rfl), (Nat.le_of_ble_eq_true rfl)⟩ v5 (ob_5 μ 0 0) rfl (fun _ => (Nat.le_of_ble_eq_true rfl)) (xCalls_mono (st_begins h) ?_)
  rintro v μ1 ⟨r1, rfl, h6⟩
  show lOk b L xs 145 [(3, some (vI (nI (6 * k)))), (0, none), (1, some (vR 5 0 0)), (2, some (vR 6 0 0))] [some (vI r1)] μ1
  refine l_aload (j := 3) dL_law_145 rfl rfl ?_
  refine l_aload0 (j := 1) dL_law_146 rfl rfl ?_
  refine l_iload (j := 0) dL_law_147 rfl rfl ?_
  refine l_iconst (v := (1 : Int32)) dL_law_148 (by decide) ?_
  refine l_iadd dL_law_149 ?_
  refine l_iald dL_law_150 (hv 1 (by decide)) ?_
  refine l_call (M' := mX6_begins) (k := 6) (s' := 0) (w' := 0) [vI (xs (nI (6 * k) + (1 : Int32)).toNatClampNeg)] [some (vI r1)] dL_law_151 xw_573 fV_X6_begins fS_X6_begins rfl ⟨(Nat.le_of_ble_eq_true rfl), (Nat.le_of_ble_eq_true rfl)⟩ v6 (ob_6 μ1 0 0) rfl (fun _ => (Nat.le_of_ble_eq_true rfl)) (xCalls_mono h6 ?_)
  rintro v μ2 ⟨r2, rfl, e, h7⟩
  show lOk b L xs 154 [(3, some (vI (nI (6 * k)))), (0, none), (1, some (vR 5 0 0)), (2, some (vR 6 0 0))] [some (vI r2), some (vI r1)] μ2
  exact l_icmp_eq (tgt := 783) dL_law_154 (by decide) e (next μ2 h7)
theorem law_opens (hT : 1000 * k + 1000 < 2 ^ 30) (hv : ∀ j, j ≤ 5 → vp_in (nI (6 * k) + nI j) L) (h : Iv μ (1000 * k)) (next : ∀ μ, Iv μ (1000 * k + 1000) → lOk b L xs 783 [(3, some (vI (nI (6 * k)))), (0, none), (1, some (vR 5 0 0)), (2, some (vR 6 0 0))] [] μ) : lOk b L xs 159 [(3, some (vI (nI (6 * k)))), (0, none), (1, some (vR 5 0 0)), (2, some (vR 6 0 0))] [] μ := by
  refine l_aload (j := 2) dL_law_159 rfl rfl ?_
  refine l_aload0 (j := 1) dL_law_160 rfl rfl ?_
  refine l_iload (j := 0) dL_law_161 rfl rfl ?_
  refine l_iconst (v := (1 : Int32)) dL_law_162 (by decide) ?_
  refine l_iadd dL_law_163 ?_
  refine l_iald dL_law_164 (hv 1 (by decide)) ?_
  refine l_aload0 (j := 1) dL_law_165 rfl rfl ?_
  refine l_iload (j := 0) dL_law_166 rfl rfl ?_
  refine l_iconst (v := (2 : Int32)) dL_law_167 (by decide) ?_
  refine l_iadd dL_law_168 ?_
  refine l_iald dL_law_169 (hv 2 (by decide)) ?_
  refine l_call (M' := mX5_opens) (k := 5) (s' := 0) (w' := 0) [vI (xs (nI (6 * k) + (1 : Int32)).toNatClampNeg), vI (xs (nI (6 * k) + (2 : Int32)).toNatClampNeg)] [] dL_law_170 xw_256 fV_X5_opens fS_X5_opens rfl ⟨(Nat.le_of_ble_eq_true rfl), (Nat.le_of_ble_eq_true rfl)⟩ v5 (ob_5 μ 0 0) rfl (fun _ => (Nat.le_of_ble_eq_true rfl)) (xCalls_mono (st_opens h) ?_)
  rintro v μ1 ⟨r1, rfl, h6⟩
  show lOk b L xs 173 [(3, some (vI (nI (6 * k)))), (0, none), (1, some (vR 5 0 0)), (2, some (vR 6 0 0))] [some (vI r1)] μ1
  refine l_aload (j := 3) dL_law_173 rfl rfl ?_
  refine l_aload0 (j := 1) dL_law_174 rfl rfl ?_
  refine l_iload (j := 0) dL_law_175 rfl rfl ?_
  refine l_iconst (v := (1 : Int32)) dL_law_176 (by decide) ?_
  refine l_iadd dL_law_177 ?_
  refine l_iald dL_law_178 (hv 1 (by decide)) ?_
  refine l_aload0 (j := 1) dL_law_179 rfl rfl ?_
  refine l_iload (j := 0) dL_law_180 rfl rfl ?_
  refine l_iconst (v := (2 : Int32)) dL_law_181 (by decide) ?_
  refine l_iadd dL_law_182 ?_
  refine l_iald dL_law_183 (hv 2 (by decide)) ?_
  refine l_call (M' := mX6_opens) (k := 6) (s' := 0) (w' := 0) [vI (xs (nI (6 * k) + (1 : Int32)).toNatClampNeg), vI (xs (nI (6 * k) + (2 : Int32)).toNatClampNeg)] [some (vI r1)] dL_law_184 xw_615 fV_X6_opens fS_X6_opens rfl ⟨(Nat.le_of_ble_eq_true rfl), (Nat.le_of_ble_eq_true rfl)⟩ v6 (ob_6 μ1 0 0) rfl (fun _ => (Nat.le_of_ble_eq_true rfl)) (xCalls_mono h6 ?_)
  rintro v μ2 ⟨r2, rfl, e, h7⟩
  show lOk b L xs 187 [(3, some (vI (nI (6 * k)))), (0, none), (1, some (vR 5 0 0)), (2, some (vR 6 0 0))] [some (vI r2), some (vI r1)] μ2
  exact l_icmp_eq (tgt := 783) dL_law_187 (by decide) e (next μ2 h7)
theorem law_sends (hT : 1000 * k + 1000 < 2 ^ 30) (hv : ∀ j, j ≤ 5 → vp_in (nI (6 * k) + nI j) L) (h : Iv μ (1000 * k)) (next : ∀ μ, Iv μ (1000 * k + 1000) → lOk b L xs 783 [(3, some (vI (nI (6 * k)))), (0, none), (1, some (vR 5 0 0)), (2, some (vR 6 0 0))] [] μ) : lOk b L xs 192 [(3, some (vI (nI (6 * k)))), (0, none), (1, some (vR 5 0 0)), (2, some (vR 6 0 0))] [] μ := by
  refine l_aload (j := 2) dL_law_192 rfl rfl ?_
  refine l_aload0 (j := 1) dL_law_193 rfl rfl ?_
  refine l_iload (j := 0) dL_law_194 rfl rfl ?_
  refine l_iconst (v := (1 : Int32)) dL_law_195 (by decide) ?_
  refine l_iadd dL_law_196 ?_
  refine l_iald dL_law_197 (hv 1 (by decide)) ?_
  refine l_aload0 (j := 1) dL_law_198 rfl rfl ?_
  refine l_iload (j := 0) dL_law_199 rfl rfl ?_
  refine l_iconst (v := (2 : Int32)) dL_law_200 (by decide) ?_
  refine l_iadd dL_law_201 ?_
  refine l_iald dL_law_202 (hv 2 (by decide)) ?_
  refine l_aload0 (j := 1) dL_law_203 rfl rfl ?_
  refine l_iload (j := 0) dL_law_204 rfl rfl ?_
  refine l_iconst (v := (3 : Int32)) dL_law_205 (by decide) ?_
  refine l_iadd dL_law_206 ?_
  refine l_iald dL_law_207 (hv 3 (by decide)) ?_
  refine l_aload0 (j := 1) dL_law_208 rfl rfl ?_
  refine l_iload (j := 0) dL_law_209 rfl rfl ?_
  refine l_iconst (v := (4 : Int32)) dL_law_210 (by decide) ?_
  refine l_iadd dL_law_211 ?_
  refine l_iald dL_law_212 (hv 4 (by decide)) ?_
  refine l_aload0 (j := 1) dL_law_213 rfl rfl ?_
  refine l_iload (j := 0) dL_law_214 rfl rfl ?_
  refine l_iconst (v := (5 : Int32)) dL_law_215 (by decide) ?_
  refine l_iadd dL_law_216 ?_
  refine l_iald dL_law_217 (hv 5 (by decide)) ?_
  refine l_call (M' := mX5_sends) (k := 5) (s' := 0) (w' := 0) [vI (xs (nI (6 * k) + (1 : Int32)).toNatClampNeg), vI (xs (nI (6 * k) + (2 : Int32)).toNatClampNeg), vI (xs (nI (6 * k) + (3 : Int32)).toNatClampNeg), vI (xs (nI (6 * k) + (4 : Int32)).toNatClampNeg), vI (xs (nI (6 * k) + (5 : Int32)).toNatClampNeg)] [] dL_law_218 xw_268 fV_X5_sends fS_X5_sends rfl ⟨(Nat.le_of_ble_eq_true rfl), (Nat.le_of_ble_eq_true rfl)⟩ v5 (ob_5 μ 0 0) rfl (fun _ => (Nat.le_of_ble_eq_true rfl)) (xCalls_mono (st_sends hT h) ?_)
  rintro v μ1 ⟨r1, rfl, h6⟩
  show lOk b L xs 221 [(3, some (vI (nI (6 * k)))), (0, none), (1, some (vR 5 0 0)), (2, some (vR 6 0 0))] [some (vI r1)] μ1
  refine l_aload (j := 3) dL_law_221 rfl rfl ?_
  refine l_aload0 (j := 1) dL_law_222 rfl rfl ?_
  refine l_iload (j := 0) dL_law_223 rfl rfl ?_
  refine l_iconst (v := (1 : Int32)) dL_law_224 (by decide) ?_
  refine l_iadd dL_law_225 ?_
  refine l_iald dL_law_226 (hv 1 (by decide)) ?_
  refine l_aload0 (j := 1) dL_law_227 rfl rfl ?_
  refine l_iload (j := 0) dL_law_228 rfl rfl ?_
  refine l_iconst (v := (2 : Int32)) dL_law_229 (by decide) ?_
  refine l_iadd dL_law_230 ?_
  refine l_iald dL_law_231 (hv 2 (by decide)) ?_
  refine l_aload0 (j := 1) dL_law_232 rfl rfl ?_
  refine l_iload (j := 0) dL_law_233 rfl rfl ?_
  refine l_iconst (v := (3 : Int32)) dL_law_234 (by decide) ?_
  refine l_iadd dL_law_235 ?_
  refine l_iald dL_law_236 (hv 3 (by decide)) ?_
  refine l_aload0 (j := 1) dL_law_237 rfl rfl ?_
  refine l_iload (j := 0) dL_law_238 rfl rfl ?_
  refine l_iconst (v := (4 : Int32)) dL_law_239 (by decide) ?_
  refine l_iadd dL_law_240 ?_
  refine l_iald dL_law_241 (hv 4 (by decide)) ?_
  refine l_aload0 (j := 1) dL_law_242 rfl rfl ?_
  refine l_iload (j := 0) dL_law_243 rfl rfl ?_
  refine l_iconst (v := (5 : Int32)) dL_law_244 (by decide) ?_
  refine l_iadd dL_law_245 ?_
  refine l_iald dL_law_246 (hv 5 (by decide)) ?_
  refine l_call (M' := mX6_sends) (k := 6) (s' := 0) (w' := 0) [vI (xs (nI (6 * k) + (1 : Int32)).toNatClampNeg), vI (xs (nI (6 * k) + (2 : Int32)).toNatClampNeg), vI (xs (nI (6 * k) + (3 : Int32)).toNatClampNeg), vI (xs (nI (6 * k) + (4 : Int32)).toNatClampNeg), vI (xs (nI (6 * k) + (5 : Int32)).toNatClampNeg)] [some (vI r1)] dL_law_247 xw_627 fV_X6_sends fS_X6_sends rfl ⟨(Nat.le_of_ble_eq_true rfl), (Nat.le_of_ble_eq_true rfl)⟩ v6 (ob_6 μ1 0 0) rfl (fun _ => (Nat.le_of_ble_eq_true rfl)) (xCalls_mono h6 ?_)
  rintro v μ2 ⟨r2, rfl, e, h7⟩
  show lOk b L xs 250 [(3, some (vI (nI (6 * k)))), (0, none), (1, some (vR 5 0 0)), (2, some (vR 6 0 0))] [some (vI r2), some (vI r1)] μ2
  exact l_icmp_eq (tgt := 783) dL_law_250 (by decide) e (next μ2 h7)
theorem law_ends (hT : 1000 * k + 1000 < 2 ^ 30) (hv : ∀ j, j ≤ 5 → vp_in (nI (6 * k) + nI j) L) (h : Iv μ (1000 * k)) (next : ∀ μ, Iv μ (1000 * k + 1000) → lOk b L xs 783 [(3, some (vI (nI (6 * k)))), (0, none), (1, some (vR 5 0 0)), (2, some (vR 6 0 0))] [] μ) : lOk b L xs 255 [(3, some (vI (nI (6 * k)))), (0, none), (1, some (vR 5 0 0)), (2, some (vR 6 0 0))] [] μ := by
  refine l_aload (j := 2) dL_law_255 rfl rfl ?_
  refine l_aload0 (j := 1) dL_law_256 rfl rfl ?_
  refine l_iload (j := 0) dL_law_257 rfl rfl ?_
  refine l_iconst (v := (1 : Int32)) dL_law_258 (by decide) ?_
  refine l_iadd dL_law_259 ?_
  refine l_iald dL_law_260 (hv 1 (by decide)) ?_
  refine l_aload0 (j := 1) dL_law_261 rfl rfl ?_
  refine l_iload (j := 0) dL_law_262 rfl rfl ?_
  refine l_iconst (v := (2 : Int32)) dL_law_263 (by decide) ?_
  refine l_iadd dL_law_264 ?_
  refine l_iald dL_law_265 (hv 2 (by decide)) ?_
  refine l_aload0 (j := 1) dL_law_266 rfl rfl ?_
  refine l_iload (j := 0) dL_law_267 rfl rfl ?_
  refine l_iconst (v := (3 : Int32)) dL_law_268 (by decide) ?_
  refine l_iadd dL_law_269 ?_
  refine l_iald dL_law_270 (hv 3 (by decide)) ?_
  refine l_call (M' := mX5_ends) (k := 5) (s' := 0) (w' := 0) [vI (xs (nI (6 * k) + (1 : Int32)).toNatClampNeg), vI (xs (nI (6 * k) + (2 : Int32)).toNatClampNeg), vI (xs (nI (6 * k) + (3 : Int32)).toNatClampNeg)] [] dL_law_271 xw_296 fV_X5_ends fS_X5_ends rfl ⟨(Nat.le_of_ble_eq_true rfl), (Nat.le_of_ble_eq_true rfl)⟩ v5 (ob_5 μ 0 0) rfl (fun _ => (Nat.le_of_ble_eq_true rfl)) (xCalls_mono (st_ends h) ?_)
  rintro v μ1 ⟨r1, rfl, h6⟩
  show lOk b L xs 274 [(3, some (vI (nI (6 * k)))), (0, none), (1, some (vR 5 0 0)), (2, some (vR 6 0 0))] [some (vI r1)] μ1
  refine l_aload (j := 3) dL_law_274 rfl rfl ?_
  refine l_aload0 (j := 1) dL_law_275 rfl rfl ?_
  refine l_iload (j := 0) dL_law_276 rfl rfl ?_
  refine l_iconst (v := (1 : Int32)) dL_law_277 (by decide) ?_
  refine l_iadd dL_law_278 ?_
  refine l_iald dL_law_279 (hv 1 (by decide)) ?_
  refine l_aload0 (j := 1) dL_law_280 rfl rfl ?_
  refine l_iload (j := 0) dL_law_281 rfl rfl ?_
  refine l_iconst (v := (2 : Int32)) dL_law_282 (by decide) ?_
  refine l_iadd dL_law_283 ?_
  refine l_iald dL_law_284 (hv 2 (by decide)) ?_
  refine l_aload0 (j := 1) dL_law_285 rfl rfl ?_
  refine l_iload (j := 0) dL_law_286 rfl rfl ?_
  refine l_iconst (v := (3 : Int32)) dL_law_287 (by decide) ?_
  refine l_iadd dL_law_288 ?_
  refine l_iald dL_law_289 (hv 3 (by decide)) ?_
  refine l_call (M' := mX6_ends) (k := 6) (s' := 0) (w' := 0) [vI (xs (nI (6 * k) + (1 : Int32)).toNatClampNeg), vI (xs (nI (6 * k) + (2 : Int32)).toNatClampNeg), vI (xs (nI (6 * k) + (3 : Int32)).toNatClampNeg)] [some (vI r1)] dL_law_290 xw_673 fV_X6_ends fS_X6_ends rfl ⟨(Nat.le_of_ble_eq_true rfl), (Nat.le_of_ble_eq_true rfl)⟩ v6 (ob_6 μ1 0 0) rfl (fun _ => (Nat.le_of_ble_eq_true rfl)) (xCalls_mono h6 ?_)
  rintro v μ2 ⟨r2, rfl, e, h7⟩
  show lOk b L xs 293 [(3, some (vI (nI (6 * k)))), (0, none), (1, some (vR 5 0 0)), (2, some (vR 6 0 0))] [some (vI r2), some (vI r1)] μ2
  exact l_icmp_eq (tgt := 783) dL_law_293 (by decide) e (next μ2 h7)
theorem law_carries (hT : 1000 * k + 1000 < 2 ^ 30) (hv : ∀ j, j ≤ 5 → vp_in (nI (6 * k) + nI j) L) (h : Iv μ (1000 * k)) (next : ∀ μ, Iv μ (1000 * k + 1000) → lOk b L xs 783 [(3, some (vI (nI (6 * k)))), (0, none), (1, some (vR 5 0 0)), (2, some (vR 6 0 0))] [] μ) : lOk b L xs 298 [(3, some (vI (nI (6 * k)))), (0, none), (1, some (vR 5 0 0)), (2, some (vR 6 0 0))] [] μ := by
  refine l_aload (j := 2) dL_law_298 rfl rfl ?_
  refine l_aload0 (j := 1) dL_law_299 rfl rfl ?_
  refine l_iload (j := 0) dL_law_300 rfl rfl ?_
  refine l_iconst (v := (1 : Int32)) dL_law_301 (by decide) ?_
  refine l_iadd dL_law_302 ?_
  refine l_iald dL_law_303 (hv 1 (by decide)) ?_
  refine l_aload0 (j := 1) dL_law_304 rfl rfl ?_
  refine l_iload (j := 0) dL_law_305 rfl rfl ?_
  refine l_iconst (v := (2 : Int32)) dL_law_306 (by decide) ?_
  refine l_iadd dL_law_307 ?_
  refine l_iald dL_law_308 (hv 2 (by decide)) ?_
  refine l_aload0 (j := 1) dL_law_309 rfl rfl ?_
  refine l_iload (j := 0) dL_law_310 rfl rfl ?_
  refine l_iconst (v := (3 : Int32)) dL_law_311 (by decide) ?_
  refine l_iadd dL_law_312 ?_
  refine l_iald dL_law_313 (hv 3 (by decide)) ?_
  refine l_aload0 (j := 1) dL_law_314 rfl rfl ?_
  refine l_iload (j := 0) dL_law_315 rfl rfl ?_
  refine l_iconst (v := (4 : Int32)) dL_law_316 (by decide) ?_
  refine l_iadd dL_law_317 ?_
  refine l_iald dL_law_318 (hv 4 (by decide)) ?_
  refine l_call (M' := mX5_carries) (k := 5) (s' := 0) (w' := 0) [vI (xs (nI (6 * k) + (1 : Int32)).toNatClampNeg), vI (xs (nI (6 * k) + (2 : Int32)).toNatClampNeg), vI (xs (nI (6 * k) + (3 : Int32)).toNatClampNeg), vI (xs (nI (6 * k) + (4 : Int32)).toNatClampNeg)] [] dL_law_319 xw_300 fV_X5_carries fS_X5_carries rfl ⟨(Nat.le_of_ble_eq_true rfl), (Nat.le_of_ble_eq_true rfl)⟩ v5 (ob_5 μ 0 0) rfl (fun _ => (Nat.le_of_ble_eq_true rfl)) (xCalls_mono (st_carries h) ?_)
  rintro v μ1 ⟨r1, rfl, h6⟩
  show lOk b L xs 322 [(3, some (vI (nI (6 * k)))), (0, none), (1, some (vR 5 0 0)), (2, some (vR 6 0 0))] [some (vI r1)] μ1
  refine l_aload (j := 3) dL_law_322 rfl rfl ?_
  refine l_aload0 (j := 1) dL_law_323 rfl rfl ?_
  refine l_iload (j := 0) dL_law_324 rfl rfl ?_
  refine l_iconst (v := (1 : Int32)) dL_law_325 (by decide) ?_
  refine l_iadd dL_law_326 ?_
  refine l_iald dL_law_327 (hv 1 (by decide)) ?_
  refine l_aload0 (j := 1) dL_law_328 rfl rfl ?_
  refine l_iload (j := 0) dL_law_329 rfl rfl ?_
  refine l_iconst (v := (2 : Int32)) dL_law_330 (by decide) ?_
  refine l_iadd dL_law_331 ?_
  refine l_iald dL_law_332 (hv 2 (by decide)) ?_
  refine l_aload0 (j := 1) dL_law_333 rfl rfl ?_
  refine l_iload (j := 0) dL_law_334 rfl rfl ?_
  refine l_iconst (v := (3 : Int32)) dL_law_335 (by decide) ?_
  refine l_iadd dL_law_336 ?_
  refine l_iald dL_law_337 (hv 3 (by decide)) ?_
  refine l_aload0 (j := 1) dL_law_338 rfl rfl ?_
  refine l_iload (j := 0) dL_law_339 rfl rfl ?_
  refine l_iconst (v := (4 : Int32)) dL_law_340 (by decide) ?_
  refine l_iadd dL_law_341 ?_
  refine l_iald dL_law_342 (hv 4 (by decide)) ?_
  refine l_call (M' := mX6_carries) (k := 6) (s' := 0) (w' := 0) [vI (xs (nI (6 * k) + (1 : Int32)).toNatClampNeg), vI (xs (nI (6 * k) + (2 : Int32)).toNatClampNeg), vI (xs (nI (6 * k) + (3 : Int32)).toNatClampNeg), vI (xs (nI (6 * k) + (4 : Int32)).toNatClampNeg)] [some (vI r1)] dL_law_343 xw_680 fV_X6_carries fS_X6_carries rfl ⟨(Nat.le_of_ble_eq_true rfl), (Nat.le_of_ble_eq_true rfl)⟩ v6 (ob_6 μ1 0 0) rfl (fun _ => (Nat.le_of_ble_eq_true rfl)) (xCalls_mono h6 ?_)
  rintro v μ2 ⟨r2, rfl, e, h7⟩
  show lOk b L xs 346 [(3, some (vI (nI (6 * k)))), (0, none), (1, some (vR 5 0 0)), (2, some (vR 6 0 0))] [some (vI r2), some (vI r1)] μ2
  exact l_icmp_eq (tgt := 783) dL_law_346 (by decide) e (next μ2 h7)
theorem law_ticks (hT : 1000 * k + 1000 < 2 ^ 30) (hv : ∀ j, j ≤ 5 → vp_in (nI (6 * k) + nI j) L) (h : Iv μ (1000 * k)) (next : ∀ μ, Iv μ (1000 * k + 1000) → lOk b L xs 783 [(3, some (vI (nI (6 * k)))), (0, none), (1, some (vR 5 0 0)), (2, some (vR 6 0 0))] [] μ) : lOk b L xs 351 [(3, some (vI (nI (6 * k)))), (0, none), (1, some (vR 5 0 0)), (2, some (vR 6 0 0))] [] μ := by
  refine l_aload (j := 2) dL_law_351 rfl rfl ?_
  refine l_aload0 (j := 1) dL_law_352 rfl rfl ?_
  refine l_iload (j := 0) dL_law_353 rfl rfl ?_
  refine l_iconst (v := (1 : Int32)) dL_law_354 (by decide) ?_
  refine l_iadd dL_law_355 ?_
  refine l_iald dL_law_356 (hv 1 (by decide)) ?_
  refine l_call (M' := mX5_ticks) (k := 5) (s' := 0) (w' := 0) [vI (xs (nI (6 * k) + (1 : Int32)).toNatClampNeg)] [] dL_law_357 xw_304 fV_X5_ticks fS_X5_ticks rfl ⟨(Nat.le_of_ble_eq_true rfl), (Nat.le_of_ble_eq_true rfl)⟩ v5 (ob_5 μ 0 0) rfl (fun _ => (Nat.le_of_ble_eq_true rfl)) (xCalls_mono (st_ticks hT h) ?_)
  rintro v μ1 ⟨r1, rfl, h6⟩
  show lOk b L xs 360 [(3, some (vI (nI (6 * k)))), (0, none), (1, some (vR 5 0 0)), (2, some (vR 6 0 0))] [some (vI r1)] μ1
  refine l_aload (j := 3) dL_law_360 rfl rfl ?_
  refine l_aload0 (j := 1) dL_law_361 rfl rfl ?_
  refine l_iload (j := 0) dL_law_362 rfl rfl ?_
  refine l_iconst (v := (1 : Int32)) dL_law_363 (by decide) ?_
  refine l_iadd dL_law_364 ?_
  refine l_iald dL_law_365 (hv 1 (by decide)) ?_
  refine l_call (M' := mX6_ticks) (k := 6) (s' := 0) (w' := 0) [vI (xs (nI (6 * k) + (1 : Int32)).toNatClampNeg)] [some (vI r1)] dL_law_366 xw_687 fV_X6_ticks fS_X6_ticks rfl ⟨(Nat.le_of_ble_eq_true rfl), (Nat.le_of_ble_eq_true rfl)⟩ v6 (ob_6 μ1 0 0) rfl (fun _ => (Nat.le_of_ble_eq_true rfl)) (xCalls_mono h6 ?_)
  rintro v μ2 ⟨r2, rfl, e, h7⟩
  show lOk b L xs 369 [(3, some (vI (nI (6 * k)))), (0, none), (1, some (vR 5 0 0)), (2, some (vR 6 0 0))] [some (vI r2), some (vI r1)] μ2
  exact l_icmp_eq (tgt := 783) dL_law_369 (by decide) e (next μ2 h7)
theorem law_limit (hT : 1000 * k + 1000 < 2 ^ 30) (hv : ∀ j, j ≤ 5 → vp_in (nI (6 * k) + nI j) L) (h : Iv μ (1000 * k)) (next : ∀ μ, Iv μ (1000 * k + 1000) → lOk b L xs 783 [(3, some (vI (nI (6 * k)))), (0, none), (1, some (vR 5 0 0)), (2, some (vR 6 0 0))] [] μ) : lOk b L xs 374 [(3, some (vI (nI (6 * k)))), (0, none), (1, some (vR 5 0 0)), (2, some (vR 6 0 0))] [] μ := by
  refine l_aload (j := 2) dL_law_374 rfl rfl ?_
  refine l_aload0 (j := 1) dL_law_375 rfl rfl ?_
  refine l_iload (j := 0) dL_law_376 rfl rfl ?_
  refine l_iconst (v := (1 : Int32)) dL_law_377 (by decide) ?_
  refine l_iadd dL_law_378 ?_
  refine l_iald dL_law_379 (hv 1 (by decide)) ?_
  refine l_call (M' := mX5_limit) (k := 5) (s' := 0) (w' := 0) [vI (xs (nI (6 * k) + (1 : Int32)).toNatClampNeg)] [] dL_law_380 xw_329 fV_X5_limit fS_X5_limit rfl ⟨(Nat.le_of_ble_eq_true rfl), (Nat.le_of_ble_eq_true rfl)⟩ v5 (ob_5 μ 0 0) rfl (fun _ => (Nat.le_of_ble_eq_true rfl)) (xCalls_mono (st_limit h) ?_)
  rintro v μ1 ⟨r1, rfl, h6⟩
  show lOk b L xs 383 [(3, some (vI (nI (6 * k)))), (0, none), (1, some (vR 5 0 0)), (2, some (vR 6 0 0))] [some (vI r1)] μ1
  refine l_aload (j := 3) dL_law_383 rfl rfl ?_
  refine l_aload0 (j := 1) dL_law_384 rfl rfl ?_
  refine l_iload (j := 0) dL_law_385 rfl rfl ?_
  refine l_iconst (v := (1 : Int32)) dL_law_386 (by decide) ?_
  refine l_iadd dL_law_387 ?_
  refine l_iald dL_law_388 (hv 1 (by decide)) ?_
  refine l_call (M' := mX6_limit) (k := 6) (s' := 0) (w' := 0) [vI (xs (nI (6 * k) + (1 : Int32)).toNatClampNeg)] [some (vI r1)] dL_law_389 xw_707 fV_X6_limit fS_X6_limit rfl ⟨(Nat.le_of_ble_eq_true rfl), (Nat.le_of_ble_eq_true rfl)⟩ v6 (ob_6 μ1 0 0) rfl (fun _ => (Nat.le_of_ble_eq_true rfl)) (xCalls_mono h6 ?_)
  rintro v μ2 ⟨r2, rfl, e, h7⟩
  show lOk b L xs 392 [(3, some (vI (nI (6 * k)))), (0, none), (1, some (vR 5 0 0)), (2, some (vR 6 0 0))] [some (vI r2), some (vI r1)] μ2
  exact l_icmp_eq (tgt := 783) dL_law_392 (by decide) e (next μ2 h7)
theorem law_writer (hT : 1000 * k + 1000 < 2 ^ 30) (hv : ∀ j, j ≤ 5 → vp_in (nI (6 * k) + nI j) L) (h : Iv μ (1000 * k)) (next : ∀ μ, Iv μ (1000 * k + 1000) → lOk b L xs 783 [(3, some (vI (nI (6 * k)))), (0, none), (1, some (vR 5 0 0)), (2, some (vR 6 0 0))] [] μ) : lOk b L xs 397 [(3, some (vI (nI (6 * k)))), (0, none), (1, some (vR 5 0 0)), (2, some (vR 6 0 0))] [] μ := by
  refine l_aload (j := 2) dL_law_397 rfl rfl ?_
  refine l_aload0 (j := 1) dL_law_398 rfl rfl ?_
  refine l_iload (j := 0) dL_law_399 rfl rfl ?_
  refine l_iconst (v := (1 : Int32)) dL_law_400 (by decide) ?_
  refine l_iadd dL_law_401 ?_
  refine l_iald dL_law_402 (hv 1 (by decide)) ?_
  refine l_aload0 (j := 1) dL_law_403 rfl rfl ?_
  refine l_iload (j := 0) dL_law_404 rfl rfl ?_
  refine l_iconst (v := (2 : Int32)) dL_law_405 (by decide) ?_
  refine l_iadd dL_law_406 ?_
  refine l_iald dL_law_407 (hv 2 (by decide)) ?_
  refine l_call (M' := mX5_writer) (k := 5) (s' := 0) (w' := 0) [vI (xs (nI (6 * k) + (1 : Int32)).toNatClampNeg), vI (xs (nI (6 * k) + (2 : Int32)).toNatClampNeg)] [] dL_law_408 xw_333 fV_X5_writer fS_X5_writer rfl ⟨(Nat.le_of_ble_eq_true rfl), (Nat.le_of_ble_eq_true rfl)⟩ v5 (ob_5 μ 0 0) rfl (fun _ => (Nat.le_of_ble_eq_true rfl)) (xCalls_mono (st_writer hT h) ?_)
  rintro v μ1 ⟨r1, rfl, h6⟩
  show lOk b L xs 411 [(3, some (vI (nI (6 * k)))), (0, none), (1, some (vR 5 0 0)), (2, some (vR 6 0 0))] [some (vI r1)] μ1
  refine l_aload (j := 3) dL_law_411 rfl rfl ?_
  refine l_aload0 (j := 1) dL_law_412 rfl rfl ?_
  refine l_iload (j := 0) dL_law_413 rfl rfl ?_
  refine l_iconst (v := (1 : Int32)) dL_law_414 (by decide) ?_
  refine l_iadd dL_law_415 ?_
  refine l_iald dL_law_416 (hv 1 (by decide)) ?_
  refine l_aload0 (j := 1) dL_law_417 rfl rfl ?_
  refine l_iload (j := 0) dL_law_418 rfl rfl ?_
  refine l_iconst (v := (2 : Int32)) dL_law_419 (by decide) ?_
  refine l_iadd dL_law_420 ?_
  refine l_iald dL_law_421 (hv 2 (by decide)) ?_
  refine l_call (M' := mX6_writer) (k := 6) (s' := 0) (w' := 0) [vI (xs (nI (6 * k) + (1 : Int32)).toNatClampNeg), vI (xs (nI (6 * k) + (2 : Int32)).toNatClampNeg)] [some (vI r1)] dL_law_422 xw_711 fV_X6_writer fS_X6_writer rfl ⟨(Nat.le_of_ble_eq_true rfl), (Nat.le_of_ble_eq_true rfl)⟩ v6 (ob_6 μ1 0 0) rfl (fun _ => (Nat.le_of_ble_eq_true rfl)) (xCalls_mono h6 ?_)
  rintro v μ2 ⟨r2, rfl, e, h7⟩
  show lOk b L xs 425 [(3, some (vI (nI (6 * k)))), (0, none), (1, some (vR 5 0 0)), (2, some (vR 6 0 0))] [some (vI r2), some (vI r1)] μ2
  exact l_icmp_eq (tgt := 783) dL_law_425 (by decide) e (next μ2 h7)
theorem law_entry (hT : 1000 * k + 1000 < 2 ^ 30) (hv : ∀ j, j ≤ 5 → vp_in (nI (6 * k) + nI j) L) (h : Iv μ (1000 * k)) (next : ∀ μ, Iv μ (1000 * k + 1000) → lOk b L xs 783 [(3, some (vI (nI (6 * k)))), (0, none), (1, some (vR 5 0 0)), (2, some (vR 6 0 0))] [] μ) : lOk b L xs 430 [(3, some (vI (nI (6 * k)))), (0, none), (1, some (vR 5 0 0)), (2, some (vR 6 0 0))] [] μ := by
  refine l_aload (j := 2) dL_law_430 rfl rfl ?_
  refine l_aload0 (j := 1) dL_law_431 rfl rfl ?_
  refine l_iload (j := 0) dL_law_432 rfl rfl ?_
  refine l_iconst (v := (1 : Int32)) dL_law_433 (by decide) ?_
  refine l_iadd dL_law_434 ?_
  refine l_iald dL_law_435 (hv 1 (by decide)) ?_
  refine l_aload0 (j := 1) dL_law_436 rfl rfl ?_
  refine l_iload (j := 0) dL_law_437 rfl rfl ?_
  refine l_iconst (v := (2 : Int32)) dL_law_438 (by decide) ?_
  refine l_iadd dL_law_439 ?_
  refine l_iald dL_law_440 (hv 2 (by decide)) ?_
  refine l_aload0 (j := 1) dL_law_441 rfl rfl ?_
  refine l_iload (j := 0) dL_law_442 rfl rfl ?_
  refine l_iconst (v := (3 : Int32)) dL_law_443 (by decide) ?_
  refine l_iadd dL_law_444 ?_
  refine l_iald dL_law_445 (hv 3 (by decide)) ?_
  refine l_call (M' := mX5_entry) (k := 5) (s' := 0) (w' := 0) [vI (xs (nI (6 * k) + (1 : Int32)).toNatClampNeg), vI (xs (nI (6 * k) + (2 : Int32)).toNatClampNeg), vI (xs (nI (6 * k) + (3 : Int32)).toNatClampNeg)] [] dL_law_446 xw_341 fV_X5_entry fS_X5_entry rfl ⟨(Nat.le_of_ble_eq_true rfl), (Nat.le_of_ble_eq_true rfl)⟩ v5 (ob_5 μ 0 0) rfl (fun _ => (Nat.le_of_ble_eq_true rfl)) (xCalls_mono (st_entry hT h) ?_)
  rintro v μ1 ⟨r1, rfl, h6⟩
  show lOk b L xs 449 [(3, some (vI (nI (6 * k)))), (0, none), (1, some (vR 5 0 0)), (2, some (vR 6 0 0))] [some (vI r1)] μ1
  refine l_aload (j := 3) dL_law_449 rfl rfl ?_
  refine l_aload0 (j := 1) dL_law_450 rfl rfl ?_
  refine l_iload (j := 0) dL_law_451 rfl rfl ?_
  refine l_iconst (v := (1 : Int32)) dL_law_452 (by decide) ?_
  refine l_iadd dL_law_453 ?_
  refine l_iald dL_law_454 (hv 1 (by decide)) ?_
  refine l_aload0 (j := 1) dL_law_455 rfl rfl ?_
  refine l_iload (j := 0) dL_law_456 rfl rfl ?_
  refine l_iconst (v := (2 : Int32)) dL_law_457 (by decide) ?_
  refine l_iadd dL_law_458 ?_
  refine l_iald dL_law_459 (hv 2 (by decide)) ?_
  refine l_aload0 (j := 1) dL_law_460 rfl rfl ?_
  refine l_iload (j := 0) dL_law_461 rfl rfl ?_
  refine l_iconst (v := (3 : Int32)) dL_law_462 (by decide) ?_
  refine l_iadd dL_law_463 ?_
  refine l_iald dL_law_464 (hv 3 (by decide)) ?_
  refine l_call (M' := mX6_entry) (k := 6) (s' := 0) (w' := 0) [vI (xs (nI (6 * k) + (1 : Int32)).toNatClampNeg), vI (xs (nI (6 * k) + (2 : Int32)).toNatClampNeg), vI (xs (nI (6 * k) + (3 : Int32)).toNatClampNeg)] [some (vI r1)] dL_law_465 xw_723 fV_X6_entry fS_X6_entry rfl ⟨(Nat.le_of_ble_eq_true rfl), (Nat.le_of_ble_eq_true rfl)⟩ v6 (ob_6 μ1 0 0) rfl (fun _ => (Nat.le_of_ble_eq_true rfl)) (xCalls_mono h6 ?_)
  rintro v μ2 ⟨r2, rfl, e, h7⟩
  show lOk b L xs 468 [(3, some (vI (nI (6 * k)))), (0, none), (1, some (vR 5 0 0)), (2, some (vR 6 0 0))] [some (vI r2), some (vI r1)] μ2
  exact l_icmp_eq (tgt := 783) dL_law_468 (by decide) e (next μ2 h7)
theorem law_part (hT : 1000 * k + 1000 < 2 ^ 30) (hv : ∀ j, j ≤ 5 → vp_in (nI (6 * k) + nI j) L) (h : Iv μ (1000 * k)) (next : ∀ μ, Iv μ (1000 * k + 1000) → lOk b L xs 783 [(3, some (vI (nI (6 * k)))), (0, none), (1, some (vR 5 0 0)), (2, some (vR 6 0 0))] [] μ) : lOk b L xs 473 [(3, some (vI (nI (6 * k)))), (0, none), (1, some (vR 5 0 0)), (2, some (vR 6 0 0))] [] μ := by
  refine l_aload (j := 2) dL_law_473 rfl rfl ?_
  refine l_aload0 (j := 1) dL_law_474 rfl rfl ?_
  refine l_iload (j := 0) dL_law_475 rfl rfl ?_
  refine l_iconst (v := (1 : Int32)) dL_law_476 (by decide) ?_
  refine l_iadd dL_law_477 ?_
  refine l_iald dL_law_478 (hv 1 (by decide)) ?_
  refine l_aload0 (j := 1) dL_law_479 rfl rfl ?_
  refine l_iload (j := 0) dL_law_480 rfl rfl ?_
  refine l_iconst (v := (2 : Int32)) dL_law_481 (by decide) ?_
  refine l_iadd dL_law_482 ?_
  refine l_iald dL_law_483 (hv 2 (by decide)) ?_
  refine l_call (M' := mX5_part) (k := 5) (s' := 0) (w' := 0) [vI (xs (nI (6 * k) + (1 : Int32)).toNatClampNeg), vI (xs (nI (6 * k) + (2 : Int32)).toNatClampNeg)] [] dL_law_484 xw_368 fV_X5_part fS_X5_part rfl ⟨(Nat.le_of_ble_eq_true rfl), (Nat.le_of_ble_eq_true rfl)⟩ v5 (ob_5 μ 0 0) rfl (fun _ => (Nat.le_of_ble_eq_true rfl)) (xCalls_mono (st_part hT h) ?_)
  rintro v μ1 ⟨r1, rfl, h6⟩
  show lOk b L xs 487 [(3, some (vI (nI (6 * k)))), (0, none), (1, some (vR 5 0 0)), (2, some (vR 6 0 0))] [some (vI r1)] μ1
  refine l_aload (j := 3) dL_law_487 rfl rfl ?_
  refine l_aload0 (j := 1) dL_law_488 rfl rfl ?_
  refine l_iload (j := 0) dL_law_489 rfl rfl ?_
  refine l_iconst (v := (1 : Int32)) dL_law_490 (by decide) ?_
  refine l_iadd dL_law_491 ?_
  refine l_iald dL_law_492 (hv 1 (by decide)) ?_
  refine l_aload0 (j := 1) dL_law_493 rfl rfl ?_
  refine l_iload (j := 0) dL_law_494 rfl rfl ?_
  refine l_iconst (v := (2 : Int32)) dL_law_495 (by decide) ?_
  refine l_iadd dL_law_496 ?_
  refine l_iald dL_law_497 (hv 2 (by decide)) ?_
  refine l_call (M' := mX6_part) (k := 6) (s' := 0) (w' := 0) [vI (xs (nI (6 * k) + (1 : Int32)).toNatClampNeg), vI (xs (nI (6 * k) + (2 : Int32)).toNatClampNeg)] [some (vI r1)] dL_law_498 xw_743 fV_X6_part fS_X6_part rfl ⟨(Nat.le_of_ble_eq_true rfl), (Nat.le_of_ble_eq_true rfl)⟩ v6 (ob_6 μ1 0 0) rfl (fun _ => (Nat.le_of_ble_eq_true rfl)) (xCalls_mono h6 ?_)
  rintro v μ2 ⟨r2, rfl, e, h7⟩
  show lOk b L xs 501 [(3, some (vI (nI (6 * k)))), (0, none), (1, some (vR 5 0 0)), (2, some (vR 6 0 0))] [some (vI r2), some (vI r1)] μ2
  exact l_icmp_eq (tgt := 783) dL_law_501 (by decide) e (next μ2 h7)
theorem law_aborted (hT : 1000 * k + 1000 < 2 ^ 30) (hv : ∀ j, j ≤ 5 → vp_in (nI (6 * k) + nI j) L) (h : Iv μ (1000 * k)) (next : ∀ μ, Iv μ (1000 * k + 1000) → lOk b L xs 783 [(3, some (vI (nI (6 * k)))), (0, none), (1, some (vR 5 0 0)), (2, some (vR 6 0 0))] [] μ) : lOk b L xs 506 [(3, some (vI (nI (6 * k)))), (0, none), (1, some (vR 5 0 0)), (2, some (vR 6 0 0))] [] μ := by
  refine l_aload (j := 2) dL_law_506 rfl rfl ?_
  refine l_aload0 (j := 1) dL_law_507 rfl rfl ?_
  refine l_iload (j := 0) dL_law_508 rfl rfl ?_
  refine l_iconst (v := (1 : Int32)) dL_law_509 (by decide) ?_
  refine l_iadd dL_law_510 ?_
  refine l_iald dL_law_511 (hv 1 (by decide)) ?_
  refine l_aload0 (j := 1) dL_law_512 rfl rfl ?_
  refine l_iload (j := 0) dL_law_513 rfl rfl ?_
  refine l_iconst (v := (2 : Int32)) dL_law_514 (by decide) ?_
  refine l_iadd dL_law_515 ?_
  refine l_iald dL_law_516 (hv 2 (by decide)) ?_
  refine l_aload0 (j := 1) dL_law_517 rfl rfl ?_
  refine l_iload (j := 0) dL_law_518 rfl rfl ?_
  refine l_iconst (v := (3 : Int32)) dL_law_519 (by decide) ?_
  refine l_iadd dL_law_520 ?_
  refine l_iald dL_law_521 (hv 3 (by decide)) ?_
  refine l_call (M' := mX5_aborted) (k := 5) (s' := 0) (w' := 0) [vI (xs (nI (6 * k) + (1 : Int32)).toNatClampNeg), vI (xs (nI (6 * k) + (2 : Int32)).toNatClampNeg), vI (xs (nI (6 * k) + (3 : Int32)).toNatClampNeg)] [] dL_law_522 xw_385 fV_X5_aborted fS_X5_aborted rfl ⟨(Nat.le_of_ble_eq_true rfl), (Nat.le_of_ble_eq_true rfl)⟩ v5 (ob_5 μ 0 0) rfl (fun _ => (Nat.le_of_ble_eq_true rfl)) (xCalls_mono (st_aborted h) ?_)
  rintro v μ1 ⟨r1, rfl, h6⟩
  show lOk b L xs 525 [(3, some (vI (nI (6 * k)))), (0, none), (1, some (vR 5 0 0)), (2, some (vR 6 0 0))] [some (vI r1)] μ1
  refine l_aload (j := 3) dL_law_525 rfl rfl ?_
  refine l_aload0 (j := 1) dL_law_526 rfl rfl ?_
  refine l_iload (j := 0) dL_law_527 rfl rfl ?_
  refine l_iconst (v := (1 : Int32)) dL_law_528 (by decide) ?_
  refine l_iadd dL_law_529 ?_
  refine l_iald dL_law_530 (hv 1 (by decide)) ?_
  refine l_aload0 (j := 1) dL_law_531 rfl rfl ?_
  refine l_iload (j := 0) dL_law_532 rfl rfl ?_
  refine l_iconst (v := (2 : Int32)) dL_law_533 (by decide) ?_
  refine l_iadd dL_law_534 ?_
  refine l_iald dL_law_535 (hv 2 (by decide)) ?_
  refine l_aload0 (j := 1) dL_law_536 rfl rfl ?_
  refine l_iload (j := 0) dL_law_537 rfl rfl ?_
  refine l_iconst (v := (3 : Int32)) dL_law_538 (by decide) ?_
  refine l_iadd dL_law_539 ?_
  refine l_iald dL_law_540 (hv 3 (by decide)) ?_
  refine l_call (M' := mX6_aborted) (k := 6) (s' := 0) (w' := 0) [vI (xs (nI (6 * k) + (1 : Int32)).toNatClampNeg), vI (xs (nI (6 * k) + (2 : Int32)).toNatClampNeg), vI (xs (nI (6 * k) + (3 : Int32)).toNatClampNeg)] [some (vI r1)] dL_law_541 xw_763 fV_X6_aborted fS_X6_aborted rfl ⟨(Nat.le_of_ble_eq_true rfl), (Nat.le_of_ble_eq_true rfl)⟩ v6 (ob_6 μ1 0 0) rfl (fun _ => (Nat.le_of_ble_eq_true rfl)) (xCalls_mono h6 ?_)
  rintro v μ2 ⟨r2, rfl, e, h7⟩
  show lOk b L xs 544 [(3, some (vI (nI (6 * k)))), (0, none), (1, some (vR 5 0 0)), (2, some (vR 6 0 0))] [some (vI r2), some (vI r1)] μ2
  exact l_icmp_eq (tgt := 783) dL_law_544 (by decide) e (next μ2 h7)
theorem law_reads (hT : 1000 * k + 1000 < 2 ^ 30) (hv : ∀ j, j ≤ 5 → vp_in (nI (6 * k) + nI j) L) (h : Iv μ (1000 * k)) (next : ∀ μ, Iv μ (1000 * k + 1000) → lOk b L xs 783 [(3, some (vI (nI (6 * k)))), (0, none), (1, some (vR 5 0 0)), (2, some (vR 6 0 0))] [] μ) : lOk b L xs 549 [(3, some (vI (nI (6 * k)))), (0, none), (1, some (vR 5 0 0)), (2, some (vR 6 0 0))] [] μ := by
  refine l_aload (j := 2) dL_law_549 rfl rfl ?_
  refine l_aload0 (j := 1) dL_law_550 rfl rfl ?_
  refine l_iload (j := 0) dL_law_551 rfl rfl ?_
  refine l_iconst (v := (1 : Int32)) dL_law_552 (by decide) ?_
  refine l_iadd dL_law_553 ?_
  refine l_iald dL_law_554 (hv 1 (by decide)) ?_
  refine l_aload0 (j := 1) dL_law_555 rfl rfl ?_
  refine l_iload (j := 0) dL_law_556 rfl rfl ?_
  refine l_iconst (v := (2 : Int32)) dL_law_557 (by decide) ?_
  refine l_iadd dL_law_558 ?_
  refine l_iald dL_law_559 (hv 2 (by decide)) ?_
  refine l_call (M' := mX5_reads) (k := 5) (s' := 0) (w' := 0) [vI (xs (nI (6 * k) + (1 : Int32)).toNatClampNeg), vI (xs (nI (6 * k) + (2 : Int32)).toNatClampNeg)] [] dL_law_560 xw_393 fV_X5_reads fS_X5_reads rfl ⟨(Nat.le_of_ble_eq_true rfl), (Nat.le_of_ble_eq_true rfl)⟩ v5 (ob_5 μ 0 0) rfl (fun _ => (Nat.le_of_ble_eq_true rfl)) (xCalls_mono (st_reads hT h) ?_)
  rintro v μ1 ⟨r1, rfl, h6⟩
  show lOk b L xs 563 [(3, some (vI (nI (6 * k)))), (0, none), (1, some (vR 5 0 0)), (2, some (vR 6 0 0))] [some (vI r1)] μ1
  refine l_aload (j := 3) dL_law_563 rfl rfl ?_
  refine l_aload0 (j := 1) dL_law_564 rfl rfl ?_
  refine l_iload (j := 0) dL_law_565 rfl rfl ?_
  refine l_iconst (v := (1 : Int32)) dL_law_566 (by decide) ?_
  refine l_iadd dL_law_567 ?_
  refine l_iald dL_law_568 (hv 1 (by decide)) ?_
  refine l_aload0 (j := 1) dL_law_569 rfl rfl ?_
  refine l_iload (j := 0) dL_law_570 rfl rfl ?_
  refine l_iconst (v := (2 : Int32)) dL_law_571 (by decide) ?_
  refine l_iadd dL_law_572 ?_
  refine l_iald dL_law_573 (hv 2 (by decide)) ?_
  refine l_call (M' := mX6_reads) (k := 6) (s' := 0) (w' := 0) [vI (xs (nI (6 * k) + (1 : Int32)).toNatClampNeg), vI (xs (nI (6 * k) + (2 : Int32)).toNatClampNeg)] [some (vI r1)] dL_law_574 xw_775 fV_X6_reads fS_X6_reads rfl ⟨(Nat.le_of_ble_eq_true rfl), (Nat.le_of_ble_eq_true rfl)⟩ v6 (ob_6 μ1 0 0) rfl (fun _ => (Nat.le_of_ble_eq_true rfl)) (xCalls_mono h6 ?_)
  rintro v μ2 ⟨r2, rfl, e, h7⟩
  show lOk b L xs 577 [(3, some (vI (nI (6 * k)))), (0, none), (1, some (vR 5 0 0)), (2, some (vR 6 0 0))] [some (vI r2), some (vI r1)] μ2
  exact l_icmp_eq (tgt := 783) dL_law_577 (by decide) e (next μ2 h7)
theorem law_rewinds (hT : 1000 * k + 1000 < 2 ^ 30) (hv : ∀ j, j ≤ 5 → vp_in (nI (6 * k) + nI j) L) (h : Iv μ (1000 * k)) (next : ∀ μ, Iv μ (1000 * k + 1000) → lOk b L xs 783 [(3, some (vI (nI (6 * k)))), (0, none), (1, some (vR 5 0 0)), (2, some (vR 6 0 0))] [] μ) : lOk b L xs 582 [(3, some (vI (nI (6 * k)))), (0, none), (1, some (vR 5 0 0)), (2, some (vR 6 0 0))] [] μ := by
  refine l_aload (j := 2) dL_law_582 rfl rfl ?_
  refine l_aload0 (j := 1) dL_law_583 rfl rfl ?_
  refine l_iload (j := 0) dL_law_584 rfl rfl ?_
  refine l_iconst (v := (1 : Int32)) dL_law_585 (by decide) ?_
  refine l_iadd dL_law_586 ?_
  refine l_iald dL_law_587 (hv 1 (by decide)) ?_
  refine l_call (M' := mX5_rewinds) (k := 5) (s' := 0) (w' := 0) [vI (xs (nI (6 * k) + (1 : Int32)).toNatClampNeg)] [] dL_law_588 xw_401 fV_X5_rewinds fS_X5_rewinds rfl ⟨(Nat.le_of_ble_eq_true rfl), (Nat.le_of_ble_eq_true rfl)⟩ v5 (ob_5 μ 0 0) rfl (fun _ => (Nat.le_of_ble_eq_true rfl)) (xCalls_mono (st_rewinds h) ?_)
  rintro v μ1 ⟨r1, rfl, h6⟩
  show lOk b L xs 591 [(3, some (vI (nI (6 * k)))), (0, none), (1, some (vR 5 0 0)), (2, some (vR 6 0 0))] [some (vI r1)] μ1
  refine l_aload (j := 3) dL_law_591 rfl rfl ?_
  refine l_aload0 (j := 1) dL_law_592 rfl rfl ?_
  refine l_iload (j := 0) dL_law_593 rfl rfl ?_
  refine l_iconst (v := (1 : Int32)) dL_law_594 (by decide) ?_
  refine l_iadd dL_law_595 ?_
  refine l_iald dL_law_596 (hv 1 (by decide)) ?_
  refine l_call (M' := mX6_rewinds) (k := 6) (s' := 0) (w' := 0) [vI (xs (nI (6 * k) + (1 : Int32)).toNatClampNeg)] [some (vI r1)] dL_law_597 xw_783 fV_X6_rewinds fS_X6_rewinds rfl ⟨(Nat.le_of_ble_eq_true rfl), (Nat.le_of_ble_eq_true rfl)⟩ v6 (ob_6 μ1 0 0) rfl (fun _ => (Nat.le_of_ble_eq_true rfl)) (xCalls_mono h6 ?_)
  rintro v μ2 ⟨r2, rfl, e, h7⟩
  show lOk b L xs 600 [(3, some (vI (nI (6 * k)))), (0, none), (1, some (vR 5 0 0)), (2, some (vR 6 0 0))] [some (vI r2), some (vI r1)] μ2
  exact l_icmp_eq (tgt := 783) dL_law_600 (by decide) e (next μ2 h7)
theorem law_reader (hT : 1000 * k + 1000 < 2 ^ 30) (hv : ∀ j, j ≤ 5 → vp_in (nI (6 * k) + nI j) L) (h : Iv μ (1000 * k)) (next : ∀ μ, Iv μ (1000 * k + 1000) → lOk b L xs 783 [(3, some (vI (nI (6 * k)))), (0, none), (1, some (vR 5 0 0)), (2, some (vR 6 0 0))] [] μ) : lOk b L xs 605 [(3, some (vI (nI (6 * k)))), (0, none), (1, some (vR 5 0 0)), (2, some (vR 6 0 0))] [] μ := by
  refine l_aload (j := 2) dL_law_605 rfl rfl ?_
  refine l_aload0 (j := 1) dL_law_606 rfl rfl ?_
  refine l_iload (j := 0) dL_law_607 rfl rfl ?_
  refine l_iconst (v := (1 : Int32)) dL_law_608 (by decide) ?_
  refine l_iadd dL_law_609 ?_
  refine l_iald dL_law_610 (hv 1 (by decide)) ?_
  refine l_aload0 (j := 1) dL_law_611 rfl rfl ?_
  refine l_iload (j := 0) dL_law_612 rfl rfl ?_
  refine l_iconst (v := (2 : Int32)) dL_law_613 (by decide) ?_
  refine l_iadd dL_law_614 ?_
  refine l_iald dL_law_615 (hv 2 (by decide)) ?_
  refine l_aload0 (j := 1) dL_law_616 rfl rfl ?_
  refine l_iload (j := 0) dL_law_617 rfl rfl ?_
  refine l_iconst (v := (3 : Int32)) dL_law_618 (by decide) ?_
  refine l_iadd dL_law_619 ?_
  refine l_iald dL_law_620 (hv 3 (by decide)) ?_
  refine l_call (M' := mX5_reader) (k := 5) (s' := 0) (w' := 0) [vI (xs (nI (6 * k) + (1 : Int32)).toNatClampNeg), vI (xs (nI (6 * k) + (2 : Int32)).toNatClampNeg), vI (xs (nI (6 * k) + (3 : Int32)).toNatClampNeg)] [] dL_law_621 xw_409 fV_X5_reader fS_X5_reader rfl ⟨(Nat.le_of_ble_eq_true rfl), (Nat.le_of_ble_eq_true rfl)⟩ v5 (ob_5 μ 0 0) rfl (fun _ => (Nat.le_of_ble_eq_true rfl)) (xCalls_mono (st_reader hT h) ?_)
  rintro v μ1 ⟨r1, rfl, h6⟩
  show lOk b L xs 624 [(3, some (vI (nI (6 * k)))), (0, none), (1, some (vR 5 0 0)), (2, some (vR 6 0 0))] [some (vI r1)] μ1
  refine l_aload (j := 3) dL_law_624 rfl rfl ?_
  refine l_aload0 (j := 1) dL_law_625 rfl rfl ?_
  refine l_iload (j := 0) dL_law_626 rfl rfl ?_
  refine l_iconst (v := (1 : Int32)) dL_law_627 (by decide) ?_
  refine l_iadd dL_law_628 ?_
  refine l_iald dL_law_629 (hv 1 (by decide)) ?_
  refine l_aload0 (j := 1) dL_law_630 rfl rfl ?_
  refine l_iload (j := 0) dL_law_631 rfl rfl ?_
  refine l_iconst (v := (2 : Int32)) dL_law_632 (by decide) ?_
  refine l_iadd dL_law_633 ?_
  refine l_iald dL_law_634 (hv 2 (by decide)) ?_
  refine l_aload0 (j := 1) dL_law_635 rfl rfl ?_
  refine l_iload (j := 0) dL_law_636 rfl rfl ?_
  refine l_iconst (v := (3 : Int32)) dL_law_637 (by decide) ?_
  refine l_iadd dL_law_638 ?_
  refine l_iald dL_law_639 (hv 3 (by decide)) ?_
  refine l_call (M' := mX6_reader) (k := 6) (s' := 0) (w' := 0) [vI (xs (nI (6 * k) + (1 : Int32)).toNatClampNeg), vI (xs (nI (6 * k) + (2 : Int32)).toNatClampNeg), vI (xs (nI (6 * k) + (3 : Int32)).toNatClampNeg)] [some (vI r1)] dL_law_640 xw_787 fV_X6_reader fS_X6_reader rfl ⟨(Nat.le_of_ble_eq_true rfl), (Nat.le_of_ble_eq_true rfl)⟩ v6 (ob_6 μ1 0 0) rfl (fun _ => (Nat.le_of_ble_eq_true rfl)) (xCalls_mono h6 ?_)
  rintro v μ2 ⟨r2, rfl, e, h7⟩
  show lOk b L xs 643 [(3, some (vI (nI (6 * k)))), (0, none), (1, some (vR 5 0 0)), (2, some (vR 6 0 0))] [some (vI r2), some (vI r1)] μ2
  exact l_icmp_eq (tgt := 783) dL_law_643 (by decide) e (next μ2 h7)
theorem law_type (hT : 1000 * k + 1000 < 2 ^ 30) (hv : ∀ j, j ≤ 5 → vp_in (nI (6 * k) + nI j) L) (h : Iv μ (1000 * k)) (next : ∀ μ, Iv μ (1000 * k + 1000) → lOk b L xs 783 [(3, some (vI (nI (6 * k)))), (0, none), (1, some (vR 5 0 0)), (2, some (vR 6 0 0))] [] μ) : lOk b L xs 648 [(3, some (vI (nI (6 * k)))), (0, none), (1, some (vR 5 0 0)), (2, some (vR 6 0 0))] [] μ := by
  refine l_aload (j := 2) dL_law_648 rfl rfl ?_
  refine l_aload0 (j := 1) dL_law_649 rfl rfl ?_
  refine l_iload (j := 0) dL_law_650 rfl rfl ?_
  refine l_iconst (v := (1 : Int32)) dL_law_651 (by decide) ?_
  refine l_iadd dL_law_652 ?_
  refine l_iald dL_law_653 (hv 1 (by decide)) ?_
  refine l_call (M' := mX5_type) (k := 5) (s' := 0) (w' := 0) [vI (xs (nI (6 * k) + (1 : Int32)).toNatClampNeg)] [] dL_law_654 xw_413 fV_X5_type fS_X5_type rfl ⟨(Nat.le_of_ble_eq_true rfl), (Nat.le_of_ble_eq_true rfl)⟩ v5 (ob_5 μ 0 0) rfl (fun _ => (Nat.le_of_ble_eq_true rfl)) (xCalls_mono (st_type h) ?_)
  rintro v μ1 ⟨r1, rfl, h6⟩
  show lOk b L xs 657 [(3, some (vI (nI (6 * k)))), (0, none), (1, some (vR 5 0 0)), (2, some (vR 6 0 0))] [some (vI r1)] μ1
  refine l_aload (j := 3) dL_law_657 rfl rfl ?_
  refine l_aload0 (j := 1) dL_law_658 rfl rfl ?_
  refine l_iload (j := 0) dL_law_659 rfl rfl ?_
  refine l_iconst (v := (1 : Int32)) dL_law_660 (by decide) ?_
  refine l_iadd dL_law_661 ?_
  refine l_iald dL_law_662 (hv 1 (by decide)) ?_
  refine l_call (M' := mX6_type) (k := 6) (s' := 0) (w' := 0) [vI (xs (nI (6 * k) + (1 : Int32)).toNatClampNeg)] [some (vI r1)] dL_law_663 xw_795 fV_X6_type fS_X6_type rfl ⟨(Nat.le_of_ble_eq_true rfl), (Nat.le_of_ble_eq_true rfl)⟩ v6 (ob_6 μ1 0 0) rfl (fun _ => (Nat.le_of_ble_eq_true rfl)) (xCalls_mono h6 ?_)
  rintro v μ2 ⟨r2, rfl, e, h7⟩
  show lOk b L xs 666 [(3, some (vI (nI (6 * k)))), (0, none), (1, some (vR 5 0 0)), (2, some (vR 6 0 0))] [some (vI r2), some (vI r1)] μ2
  exact l_icmp_eq (tgt := 783) dL_law_666 (by decide) e (next μ2 h7)
theorem law_clear (hT : 1000 * k + 1000 < 2 ^ 30) (hv : ∀ j, j ≤ 5 → vp_in (nI (6 * k) + nI j) L) (h : Iv μ (1000 * k)) (next : ∀ μ, Iv μ (1000 * k + 1000) → lOk b L xs 783 [(3, some (vI (nI (6 * k)))), (0, none), (1, some (vR 5 0 0)), (2, some (vR 6 0 0))] [] μ) : lOk b L xs 671 [(3, some (vI (nI (6 * k)))), (0, none), (1, some (vR 5 0 0)), (2, some (vR 6 0 0))] [] μ := by
  refine l_aload (j := 2) dL_law_671 rfl rfl ?_
  refine l_call (M' := mX5_clear) (k := 5) (s' := 0) (w' := 0) [] [] dL_law_672 xw_417 fV_X5_clear fS_X5_clear rfl ⟨(Nat.le_of_ble_eq_true rfl), (Nat.le_of_ble_eq_true rfl)⟩ v5 (ob_5 μ 0 0) rfl (fun _ => (Nat.le_of_ble_eq_true rfl)) (xCalls_mono (st_clear h) ?_)
  rintro v μ1 ⟨r1, rfl, h6⟩
  show lOk b L xs 675 [(3, some (vI (nI (6 * k)))), (0, none), (1, some (vR 5 0 0)), (2, some (vR 6 0 0))] [some (vI r1)] μ1
  refine l_aload (j := 3) dL_law_675 rfl rfl ?_
  refine l_call (M' := mX6_clear) (k := 6) (s' := 0) (w' := 0) [] [some (vI r1)] dL_law_676 xw_799 fV_X6_clear fS_X6_clear rfl ⟨(Nat.le_of_ble_eq_true rfl), (Nat.le_of_ble_eq_true rfl)⟩ v6 (ob_6 μ1 0 0) rfl (fun _ => (Nat.le_of_ble_eq_true rfl)) (xCalls_mono h6 ?_)
  rintro v μ2 ⟨r2, rfl, e, h7⟩
  show lOk b L xs 679 [(3, some (vI (nI (6 * k)))), (0, none), (1, some (vR 5 0 0)), (2, some (vR 6 0 0))] [some (vI r2), some (vI r1)] μ2
  exact l_icmp_eq (tgt := 783) dL_law_679 (by decide) e (next μ2 h7)
theorem law_does (hT : 1000 * k + 1000 < 2 ^ 30) (hv : ∀ j, j ≤ 5 → vp_in (nI (6 * k) + nI j) L) (h : Iv μ (1000 * k)) (next : ∀ μ, Iv μ (1000 * k + 1000) → lOk b L xs 783 [(3, some (vI (nI (6 * k)))), (0, none), (1, some (vR 5 0 0)), (2, some (vR 6 0 0))] [] μ) : lOk b L xs 684 [(3, some (vI (nI (6 * k)))), (0, none), (1, some (vR 5 0 0)), (2, some (vR 6 0 0))] [] μ := by
  refine l_aload (j := 2) dL_law_684 rfl rfl ?_
  refine l_call (M' := mX5_does) (k := 5) (s' := 0) (w' := 0) [] [] dL_law_685 xw_421 fV_X5_does fS_X5_does rfl ⟨(Nat.le_of_ble_eq_true rfl), (Nat.le_of_ble_eq_true rfl)⟩ v5 (ob_5 μ 0 0) rfl (fun _ => (Nat.le_of_ble_eq_true rfl)) (xCalls_mono (st_does hT h) ?_)
  rintro v μ1 ⟨r1, rfl, h6⟩
  show lOk b L xs 688 [(3, some (vI (nI (6 * k)))), (0, none), (1, some (vR 5 0 0)), (2, some (vR 6 0 0))] [some (vI r1)] μ1
  refine l_aload (j := 3) dL_law_688 rfl rfl ?_
  refine l_call (M' := mX6_does) (k := 6) (s' := 0) (w' := 0) [] [some (vI r1)] dL_law_689 xw_803 fV_X6_does fS_X6_does rfl ⟨(Nat.le_of_ble_eq_true rfl), (Nat.le_of_ble_eq_true rfl)⟩ v6 (ob_6 μ1 0 0) rfl (fun _ => (Nat.le_of_ble_eq_true rfl)) (xCalls_mono h6 ?_)
  rintro v μ2 ⟨r2, rfl, e, h7⟩
  show lOk b L xs 692 [(3, some (vI (nI (6 * k)))), (0, none), (1, some (vR 5 0 0)), (2, some (vR 6 0 0))] [some (vI r2), some (vI r1)] μ2
  exact l_icmp_eq (tgt := 783) dL_law_692 (by decide) e (next μ2 h7)
theorem law_asked (hT : 1000 * k + 1000 < 2 ^ 30) (hv : ∀ j, j ≤ 5 → vp_in (nI (6 * k) + nI j) L) (h : Iv μ (1000 * k)) (next : ∀ μ, Iv μ (1000 * k + 1000) → lOk b L xs 783 [(3, some (vI (nI (6 * k)))), (0, none), (1, some (vR 5 0 0)), (2, some (vR 6 0 0))] [] μ) : lOk b L xs 697 [(3, some (vI (nI (6 * k)))), (0, none), (1, some (vR 5 0 0)), (2, some (vR 6 0 0))] [] μ := by
  refine l_aload (j := 2) dL_law_697 rfl rfl ?_
  refine l_call (M' := mX5_asked) (k := 5) (s' := 0) (w' := 0) [] [] dL_law_698 xw_459 fV_X5_asked fS_X5_asked rfl ⟨(Nat.le_of_ble_eq_true rfl), (Nat.le_of_ble_eq_true rfl)⟩ v5 (ob_5 μ 0 0) rfl (fun _ => (Nat.le_of_ble_eq_true rfl)) (xCalls_mono (st_asked h) ?_)
  rintro v μ1 ⟨r1, rfl, h6⟩
  show lOk b L xs 701 [(3, some (vI (nI (6 * k)))), (0, none), (1, some (vR 5 0 0)), (2, some (vR 6 0 0))] [some (vI r1)] μ1
  refine l_aload (j := 3) dL_law_701 rfl rfl ?_
  refine l_call (M' := mX6_asked) (k := 6) (s' := 0) (w' := 0) [] [some (vI r1)] dL_law_702 xw_849 fV_X6_asked fS_X6_asked rfl ⟨(Nat.le_of_ble_eq_true rfl), (Nat.le_of_ble_eq_true rfl)⟩ v6 (ob_6 μ1 0 0) rfl (fun _ => (Nat.le_of_ble_eq_true rfl)) (xCalls_mono h6 ?_)
  rintro v μ2 ⟨r2, rfl, e, h7⟩
  show lOk b L xs 705 [(3, some (vI (nI (6 * k)))), (0, none), (1, some (vR 5 0 0)), (2, some (vR 6 0 0))] [some (vI r2), some (vI r1)] μ2
  exact l_icmp_eq (tgt := 783) dL_law_705 (by decide) e (next μ2 h7)
theorem law_all (hT : 1000 * k + 1000 < 2 ^ 30) (hv : ∀ j, j ≤ 5 → vp_in (nI (6 * k) + nI j) L) (h : Iv μ (1000 * k)) (next : ∀ μ, Iv μ (1000 * k + 1000) → lOk b L xs 783 [(3, some (vI (nI (6 * k)))), (0, none), (1, some (vR 5 0 0)), (2, some (vR 6 0 0))] [] μ) : lOk b L xs 710 [(3, some (vI (nI (6 * k)))), (0, none), (1, some (vR 5 0 0)), (2, some (vR 6 0 0))] [] μ := by
  refine l_aload (j := 2) dL_law_710 rfl rfl ?_
  refine l_aload0 (j := 1) dL_law_711 rfl rfl ?_
  refine l_iload (j := 0) dL_law_712 rfl rfl ?_
  refine l_iconst (v := (1 : Int32)) dL_law_713 (by decide) ?_
  refine l_iadd dL_law_714 ?_
  refine l_iald dL_law_715 (hv 1 (by decide)) ?_
  refine l_call (M' := mX5_all) (k := 5) (s' := 0) (w' := 0) [vI (xs (nI (6 * k) + (1 : Int32)).toNatClampNeg)] [] dL_law_716 xw_463 fV_X5_all fS_X5_all rfl ⟨(Nat.le_of_ble_eq_true rfl), (Nat.le_of_ble_eq_true rfl)⟩ v5 (ob_5 μ 0 0) rfl (fun _ => (Nat.le_of_ble_eq_true rfl)) (xCalls_mono (st_all hT h) ?_)
  rintro v μ1 ⟨r1, rfl, h6⟩
  show lOk b L xs 719 [(3, some (vI (nI (6 * k)))), (0, none), (1, some (vR 5 0 0)), (2, some (vR 6 0 0))] [some (vI r1)] μ1
  refine l_aload (j := 3) dL_law_719 rfl rfl ?_
  refine l_aload0 (j := 1) dL_law_720 rfl rfl ?_
  refine l_iload (j := 0) dL_law_721 rfl rfl ?_
  refine l_iconst (v := (1 : Int32)) dL_law_722 (by decide) ?_
  refine l_iadd dL_law_723 ?_
  refine l_iald dL_law_724 (hv 1 (by decide)) ?_
  refine l_call (M' := mX6_all) (k := 6) (s' := 0) (w' := 0) [vI (xs (nI (6 * k) + (1 : Int32)).toNatClampNeg)] [some (vI r1)] dL_law_725 xw_853 fV_X6_all fS_X6_all rfl ⟨(Nat.le_of_ble_eq_true rfl), (Nat.le_of_ble_eq_true rfl)⟩ v6 (ob_6 μ1 0 0) rfl (fun _ => (Nat.le_of_ble_eq_true rfl)) (xCalls_mono h6 ?_)
  rintro v μ2 ⟨r2, rfl, e, h7⟩
  show lOk b L xs 728 [(3, some (vI (nI (6 * k)))), (0, none), (1, some (vR 5 0 0)), (2, some (vR 6 0 0))] [some (vI r2), some (vI r1)] μ2
  exact l_icmp_eq (tgt := 783) dL_law_728 (by decide) e (next μ2 h7)
theorem law_back (hT : 1000 * k + 1000 < 2 ^ 30) (hv : ∀ j, j ≤ 5 → vp_in (nI (6 * k) + nI j) L) (h : Iv μ (1000 * k)) (next : ∀ μ, Iv μ (1000 * k + 1000) → lOk b L xs 783 [(3, some (vI (nI (6 * k)))), (0, none), (1, some (vR 5 0 0)), (2, some (vR 6 0 0))] [] μ) : lOk b L xs 733 [(3, some (vI (nI (6 * k)))), (0, none), (1, some (vR 5 0 0)), (2, some (vR 6 0 0))] [] μ := by
  refine l_aload (j := 2) dL_law_733 rfl rfl ?_
  refine l_call (M' := mX5_back) (k := 5) (s' := 0) (w' := 0) [] [] dL_law_734 xw_487 fV_X5_back fS_X5_back rfl ⟨(Nat.le_of_ble_eq_true rfl), (Nat.le_of_ble_eq_true rfl)⟩ v5 (ob_5 μ 0 0) rfl (fun _ => (Nat.le_of_ble_eq_true rfl)) (xCalls_mono (st_back h) ?_)
  rintro v μ1 ⟨r1, rfl, h6⟩
  show lOk b L xs 737 [(3, some (vI (nI (6 * k)))), (0, none), (1, some (vR 5 0 0)), (2, some (vR 6 0 0))] [some (vI r1)] μ1
  refine l_aload (j := 3) dL_law_737 rfl rfl ?_
  refine l_call (M' := mX6_back) (k := 6) (s' := 0) (w' := 0) [] [some (vI r1)] dL_law_738 xw_869 fV_X6_back fS_X6_back rfl ⟨(Nat.le_of_ble_eq_true rfl), (Nat.le_of_ble_eq_true rfl)⟩ v6 (ob_6 μ1 0 0) rfl (fun _ => (Nat.le_of_ble_eq_true rfl)) (xCalls_mono h6 ?_)
  rintro v μ2 ⟨r2, rfl, e, h7⟩
  show lOk b L xs 741 [(3, some (vI (nI (6 * k)))), (0, none), (1, some (vR 5 0 0)), (2, some (vR 6 0 0))] [some (vI r2), some (vI r1)] μ2
  exact l_icmp_eq (tgt := 783) dL_law_741 (by decide) e (next μ2 h7)
theorem law_told (hT : 1000 * k + 1000 < 2 ^ 30) (hv : ∀ j, j ≤ 5 → vp_in (nI (6 * k) + nI j) L) (h : Iv μ (1000 * k)) (next : ∀ μ, Iv μ (1000 * k + 1000) → lOk b L xs 783 [(3, some (vI (nI (6 * k)))), (0, none), (1, some (vR 5 0 0)), (2, some (vR 6 0 0))] [] μ) : lOk b L xs 746 [(3, some (vI (nI (6 * k)))), (0, none), (1, some (vR 5 0 0)), (2, some (vR 6 0 0))] [] μ := by
  refine l_aload (j := 2) dL_law_746 rfl rfl ?_
  refine l_aload0 (j := 1) dL_law_747 rfl rfl ?_
  refine l_iload (j := 0) dL_law_748 rfl rfl ?_
  refine l_iconst (v := (1 : Int32)) dL_law_749 (by decide) ?_
  refine l_iadd dL_law_750 ?_
  refine l_iald dL_law_751 (hv 1 (by decide)) ?_
  refine l_call (M' := mX5_told) (k := 5) (s' := 0) (w' := 0) [vI (xs (nI (6 * k) + (1 : Int32)).toNatClampNeg)] [] dL_law_752 xw_495 fV_X5_told fS_X5_told rfl ⟨(Nat.le_of_ble_eq_true rfl), (Nat.le_of_ble_eq_true rfl)⟩ v5 (ob_5 μ 0 0) rfl (fun _ => (Nat.le_of_ble_eq_true rfl)) (xCalls_mono (st_told h) ?_)
  rintro v μ1 ⟨r1, rfl, h6⟩
  show lOk b L xs 755 [(3, some (vI (nI (6 * k)))), (0, none), (1, some (vR 5 0 0)), (2, some (vR 6 0 0))] [some (vI r1)] μ1
  refine l_aload (j := 3) dL_law_755 rfl rfl ?_
  refine l_aload0 (j := 1) dL_law_756 rfl rfl ?_
  refine l_iload (j := 0) dL_law_757 rfl rfl ?_
  refine l_iconst (v := (1 : Int32)) dL_law_758 (by decide) ?_
  refine l_iadd dL_law_759 ?_
  refine l_iald dL_law_760 (hv 1 (by decide)) ?_
  refine l_call (M' := mX6_told) (k := 6) (s' := 0) (w' := 0) [vI (xs (nI (6 * k) + (1 : Int32)).toNatClampNeg)] [some (vI r1)] dL_law_761 xw_873 fV_X6_told fS_X6_told rfl ⟨(Nat.le_of_ble_eq_true rfl), (Nat.le_of_ble_eq_true rfl)⟩ v6 (ob_6 μ1 0 0) rfl (fun _ => (Nat.le_of_ble_eq_true rfl)) (xCalls_mono h6 ?_)
  rintro v μ2 ⟨r2, rfl, e, h7⟩
  show lOk b L xs 764 [(3, some (vI (nI (6 * k)))), (0, none), (1, some (vR 5 0 0)), (2, some (vR 6 0 0))] [some (vI r2), some (vI r1)] μ2
  exact l_icmp_eq (tgt := 783) dL_law_764 (by decide) e (next μ2 h7)
theorem law_digest (hT : 1000 * k + 1000 < 2 ^ 30) (hv : ∀ j, j ≤ 5 → vp_in (nI (6 * k) + nI j) L) (h : Iv μ (1000 * k)) (next : ∀ μ, Iv μ (1000 * k + 1000) → lOk b L xs 783 [(3, some (vI (nI (6 * k)))), (0, none), (1, some (vR 5 0 0)), (2, some (vR 6 0 0))] [] μ) : lOk b L xs 769 [(3, some (vI (nI (6 * k)))), (0, none), (1, some (vR 5 0 0)), (2, some (vR 6 0 0))] [] μ := by
  refine l_aload (j := 2) dL_law_769 rfl rfl ?_
  refine l_call (M' := mX5_digest) (k := 5) (s' := 0) (w' := 0) [] [] dL_law_770 xw_499 fV_X5_digest fS_X5_digest rfl ⟨(Nat.le_of_ble_eq_true rfl), (Nat.le_of_ble_eq_true rfl)⟩ v5 (ob_5 μ 0 0) rfl (fun _ => (Nat.le_of_ble_eq_true rfl)) (xCalls_mono (st_digest hT h) ?_)
  rintro v μ1 ⟨r1, rfl, h6⟩
  show lOk b L xs 773 [(3, some (vI (nI (6 * k)))), (0, none), (1, some (vR 5 0 0)), (2, some (vR 6 0 0))] [some (vL r1)] μ1
  refine l_aload (j := 3) dL_law_773 rfl rfl ?_
  refine l_call (M' := mX6_digest) (k := 6) (s' := 0) (w' := 0) [] [some (vL r1)] dL_law_774 xw_881 fV_X6_digest fS_X6_digest rfl ⟨(Nat.le_of_ble_eq_true rfl), (Nat.le_of_ble_eq_true rfl)⟩ v6 (ob_6 μ1 0 0) rfl (fun _ => (Nat.le_of_ble_eq_true rfl)) (xCalls_mono h6 ?_)
  rintro v μ2 ⟨r2, rfl, e, h7⟩
  show lOk b L xs 777 [(3, some (vI (nI (6 * k)))), (0, none), (1, some (vR 5 0 0)), (2, some (vR 6 0 0))] [some (vL r2), some (vL r1)] μ2
  subst e
  refine l_lcmp dL_law_777 ?_
  exact l_ifeq (tgt := 783) dL_law_778 (by decide) (lg_same _) (next μ2 h7)
theorem law_next (kk : ∀ μ, Iv μ (1000 * (k + 1)) → lOk b L xs 18 [(3, some (vI (nI (6 * (k + 1))))), (0, none), (1, some (vR 5 0 0)), (2, some (vR 6 0 0))] [] μ) (h : Iv μ (1000 * k + 1000)) : lOk b L xs 783 [(3, some (vI (nI (6 * k)))), (0, none), (1, some (vR 5 0 0)), (2, some (vR 6 0 0))] [] μ := by
  refine l_iinc (i := 0) (j := 0) (v := nI (6 * (k + 1))) dL_law_783 ?_ ?_
  · show nI (6 * k) + nI 6 = nI (6 * (k + 1))
    rw [nI_add]
    congr 1
  · exact l_goto (tgt := 18) dL_law_786 (by decide) (kk μ h)
end
theorem law_gt {L k : Nat} (hL : L ≤ 3072) (hk : 6 * k ≤ 4000) (h : ¬ nI L - 6 < nI (6 * k)) : 6 * k + 6 ≤ L := by
  rcases Nat.lt_or_ge L 6 with z | z
  · exfalso
    apply h
    refine Int32.lt_of_lt_of_le (b := 0) ?_ (nI_le (a := 0) (Nat.zero_le _) (by omega))
    have hz : L = 0 ∨ L = 1 ∨ L = 2 ∨ L = 3 ∨ L = 4 ∨ L = 5 := by omega
    rcases hz with rfl | rfl | rfl | rfl | rfl | rfl <;> decide
  · rw [lit 6, pk_sub z] at h
    rcases Nat.lt_or_ge (L - 6) (6 * k) with y | y
    · exact absurd (nI_lt y (by omega)) h
    · omega
theorem law_loop {b L : Nat} {xs : Nat → Int32} (hL : L ≤ 3072) : ∀ (m k : Nat) (μ : xM), L + 6 ≤ 6 * k + 6 * m → 6 * k ≤ L + 6 → Iv μ (1000 * k) → lOk b L xs 18 [(3, some (vI (nI (6 * k)))), (0, none), (1, some (vR 5 0 0)), (2, some (vR 6 0 0))] [] μ := by
  intro m
  induction m with
  | zero =>
    intro k μ hm hk h
    refine l_iload (j := 0) dL_law_18 rfl rfl ?_
    refine l_aload0 (j := 1) dL_law_19 rfl rfl ?_
    refine l_alen dL_law_20 ?_
    refine l_bipush (v := (6 : Int32)) dL_law_21 (by decide) ?_
    refine l_isub dL_law_23 ?_
    refine l_icmp_gt (tgt := 789) dL_law_24 (by decide) (fun _ => ?_) (fun z => absurd (law_gt hL (by omega) z) (by omega))
    refine l_iconst (v := (1 : Int32)) dL_law_789 (by decide) ?_
    exact l_ret dL_law_790
  | succ m ih =>
    intro k μ hm hk h
    refine l_iload (j := 0) dL_law_18 rfl rfl ?_
    refine l_aload0 (j := 1) dL_law_19 rfl rfl ?_
    refine l_alen dL_law_20 ?_
    refine l_bipush (v := (6 : Int32)) dL_law_21 (by decide) ?_
    refine l_isub dL_law_23 ?_
    refine l_icmp_gt (tgt := 789) dL_law_24 (by decide) (fun _ => ?_) (fun z => ?_)
    · refine l_iconst (v := (1 : Int32)) dL_law_789 (by decide) ?_
      exact l_ret dL_law_790
    · have hlt := law_gt hL (by omega) z
      have hv : ∀ j, j ≤ 5 → vp_in (nI (6 * k) + nI j) L := fun j hj => by rw [nI_add]; exact vp_in_nI (by omega) (by omega)
      have hv0 : vp_in (nI (6 * k)) L := vp_in_nI (by omega) (by omega)
      have hT : 1000 * k + 1000 < 2 ^ 30 := by omega
      have next : ∀ μ, Iv μ (1000 * k + 1000) → lOk b L xs 783 [(3, some (vI (nI (6 * k)))), (0, none), (1, some (vR 5 0 0)), (2, some (vR 6 0 0))] [] μ := fun μ h => law_next (fun μ h => ih (k + 1) μ (by omega) (by omega) h) h
      have stay : lOk b L xs 783 [(3, some (vI (nI (6 * k)))), (0, none), (1, some (vR 5 0 0)), (2, some (vR 6 0 0))] [] μ := next μ (IV.mono h (by omega))
      refine l_aload0 (j := 1) dL_law_27 rfl rfl ?_
      refine l_iload (j := 0) dL_law_28 rfl rfl ?_
      refine l_iald dL_law_29 hv0 ?_
      refine l_bipush (v := (31 : Int32)) dL_law_30 (by decide) ?_
      refine l_iand dL_law_32 ?_
      obtain ⟨j, hj, ej⟩ := pk_andE (xs (nI (6 * k)).toNatClampNeg) (m := 31) 5 (by decide)
      rw [ej]
      have hj : j = 0 ∨ j = 1 ∨ j = 2 ∨ j = 3 ∨ j = 4 ∨ j = 5 ∨ j = 6 ∨ j = 7 ∨ j = 8 ∨ j = 9 ∨ j = 10 ∨ j = 11 ∨ j = 12 ∨ j = 13 ∨ j = 14 ∨ j = 15 ∨ j = 16 ∨ j = 17 ∨ j = 18 ∨ j = 19 ∨ j = 20 ∨ j = 21 ∨ j = 22 ∨ j = 23 ∨ j = 24 ∨ j = 25 ∨ j = 26 ∨ j = 27 ∨ j = 28 ∨ j = 29 ∨ j = 30 ∨ j = 31 := by omega
      rcases hj with rfl | rfl | rfl | rfl | rfl | rfl | rfl | rfl | rfl | rfl | rfl | rfl | rfl | rfl | rfl | rfl | rfl | rfl | rfl | rfl | rfl | rfl | rfl | rfl | rfl | rfl | rfl | rfl | rfl | rfl | rfl | rfl
      · exact l_table (off := 103) (tgt := 136) dL_law_33 (by decide) (by decide) (by decide) (law_begins hT hv h next)
      · exact l_table (off := 126) (tgt := 159) dL_law_33 (by decide) (by decide) (by decide) (law_opens hT hv h next)
      · exact l_table (off := 159) (tgt := 192) dL_law_33 (by decide) (by decide) (by decide) (law_sends hT hv h next)
      · exact l_table (off := 222) (tgt := 255) dL_law_33 (by decide) (by decide) (by decide) (law_ends hT hv h next)
      · exact l_table (off := 265) (tgt := 298) dL_law_33 (by decide) (by decide) (by decide) (law_carries hT hv h next)
      · exact l_table (off := 318) (tgt := 351) dL_law_33 (by decide) (by decide) (by decide) (law_ticks hT hv h next)
      · exact l_table (off := 341) (tgt := 374) dL_law_33 (by decide) (by decide) (by decide) (law_limit hT hv h next)
      · exact l_table (off := 364) (tgt := 397) dL_law_33 (by decide) (by decide) (by decide) (law_writer hT hv h next)
      · exact l_table (off := 397) (tgt := 430) dL_law_33 (by decide) (by decide) (by decide) (law_entry hT hv h next)
      · exact l_table (off := 440) (tgt := 473) dL_law_33 (by decide) (by decide) (by decide) (law_part hT hv h next)
      · exact l_table (off := 473) (tgt := 506) dL_law_33 (by decide) (by decide) (by decide) (law_aborted hT hv h next)
      · exact l_table (off := 516) (tgt := 549) dL_law_33 (by decide) (by decide) (by decide) (law_reads hT hv h next)
      · exact l_table (off := 549) (tgt := 582) dL_law_33 (by decide) (by decide) (by decide) (law_rewinds hT hv h next)
      · exact l_table (off := 572) (tgt := 605) dL_law_33 (by decide) (by decide) (by decide) (law_reader hT hv h next)
      · exact l_table (off := 615) (tgt := 648) dL_law_33 (by decide) (by decide) (by decide) (law_type hT hv h next)
      · exact l_table (off := 638) (tgt := 671) dL_law_33 (by decide) (by decide) (by decide) (law_clear hT hv h next)
      · exact l_table (off := 651) (tgt := 684) dL_law_33 (by decide) (by decide) (by decide) (law_does hT hv h next)
      · exact l_table (off := 664) (tgt := 697) dL_law_33 (by decide) (by decide) (by decide) (law_asked hT hv h next)
      · exact l_table (off := 677) (tgt := 710) dL_law_33 (by decide) (by decide) (by decide) (law_all hT hv h next)
      · exact l_table (off := 700) (tgt := 733) dL_law_33 (by decide) (by decide) (by decide) (law_back hT hv h next)
      · exact l_table (off := 713) (tgt := 746) dL_law_33 (by decide) (by decide) (by decide) (law_told hT hv h next)
      · exact l_table (off := 736) (tgt := 769) dL_law_33 (by decide) (by decide) (by decide) (law_digest hT hv h next)
      · exact l_table (off := 750) (tgt := 783) dL_law_33 (by decide) (by decide) (by decide) stay
      · exact l_table (off := 750) (tgt := 783) dL_law_33 (by decide) (by decide) (by decide) stay
      · exact l_table (off := 750) (tgt := 783) dL_law_33 (by decide) (by decide) (by decide) stay
      · exact l_table (off := 750) (tgt := 783) dL_law_33 (by decide) (by decide) (by decide) stay
      · exact l_table (off := 750) (tgt := 783) dL_law_33 (by decide) (by decide) (by decide) stay
      · exact l_table (off := 750) (tgt := 783) dL_law_33 (by decide) (by decide) (by decide) stay
      · exact l_table (off := 750) (tgt := 783) dL_law_33 (by decide) (by decide) (by decide) stay
      · exact l_table (off := 750) (tgt := 783) dL_law_33 (by decide) (by decide) (by decide) stay
      · exact l_table (off := 750) (tgt := 783) dL_law_33 (by decide) (by decide) (by decide) stay
      · exact l_table (off := 750) (tgt := 783) dL_law_33 (by decide) (by decide) (by decide) stay
