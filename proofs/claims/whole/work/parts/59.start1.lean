/-! where the names' cells lie -/
def sb (s : Nat) : Nat := if s = 0 then 2 else 55 + 26 * (s - 1)
def num (k s w : Nat) : Nat := if k = 5 then 0 else if k = 40 then 1 else if k = 41 then 28 else if k = 3 then 29 else if k = 22 then 30 else if k = 23 then 31 else if k = 24 then 32 else if k = 25 then 33 else
  if k = 1 then 34 + 7 * w else if k = 10 then 34 + 7 * w + 1 else if k = 11 then 34 + 7 * w + 2 else if k = 12 then 34 + 7 * w + 3 else if k = 13 then 34 + 7 * w + 4 else if k = 14 then 34 + 7 * w + 5 else if k = 15 then 34 + 7 * w + 6 else
  if k = 4 then sb s + 0 else if k = 16 then sb s + 1 else if k = 42 then sb s + 2 else if k = 43 then sb s + 3 else
  if k = 2 then sb s + (4 + 4 * w) else if k = 17 then sb s + (4 + 4 * w + 1) else if k = 18 then sb s + (4 + 4 * w + 2) else if k = 19 then sb s + (4 + 4 * w + 3) else
  if k = 0 then sb s + (20 + 3 * w) else if k = 20 then sb s + (20 + 3 * w + 1) else if k = 21 then sb s + (20 + 3 * w + 2) else
  if k = 6 then 211 else if k = 30 then 212 else if k = 31 then 213 else if k = 32 then 214 else if k = 33 then 215 else if k = 34 then 216 else 217
def adr (f g : Nat → Nat) (k s w : Nat) : Nat := if k = 6 ∨ (30 ≤ k ∧ k ≤ 35) then g (num k s w - 211) else f (num k s w)
theorem num_g : ∀ n ∈ xNms, (n.1 = 6 ∨ (30 ≤ n.1 ∧ n.1 ≤ 35)) ↔ ¬ num n.1 n.2.1 n.2.2 < 211 := by decide +kernel
def rg (b n : Nat) : List Nat := (List.range n).map (fun i => b + i)
def pL : List Nat := [33, 28, 0, 1] ++ (rg 2 26 ++ rg 29 4 ++ rg 34 7 ++ rg 41 7 ++ rg 48 7 ++ rg 55 26 ++ rg 81 26 ++ rg 107 26 ++ rg 133 26 ++ rg 159 26 ++ rg 185 26) ++ rg 211 7
theorem num_in : ∀ n ∈ xNms, num n.1 n.2.1 n.2.2 ∈ pL := by decide +kernel
theorem num_inj : ∀ n ∈ xNms, ∀ n' ∈ xNms, num n.1 n.2.1 n.2.2 = num n'.1 n'.2.1 n'.2.2 → n = n' := by decide +kernel
def phi (f g : Nat → Nat) (c : Nat) : Nat := if c < 211 then f c else g (c - 211)
theorem rg_f {f g : Nat → Nat} {b n : Nat} (h : b + n ≤ 211) : (rg b n).map (phi f g) = (List.range n).map (fun i => f (b + i)) := by
  unfold rg
  rw [List.map_map]
  apply List.map_congr_left
  intro i hi
  have := List.mem_range.mp hi
  show (if b + i < 211 then f (b + i) else g (b + i - 211)) = f (b + i)
  rw [if_pos (by omega)]
theorem rg_g {f g : Nat → Nat} : (rg 211 7).map (phi f g) = (List.range 7).map g := by
  unfold rg
  rw [List.map_map]
  apply List.map_congr_left
  intro i hi
  show (if 211 + i < 211 then f (211 + i) else g (211 + i - 211)) = g i
  rw [if_neg (by omega), Nat.add_sub_cancel_left]
theorem LyS_a (ct : Nat → ClassId) (f : Nat → Nat) : (LyS ct f).map Prod.fst = (List.range 26).map f := rfl
theorem LyR_a (ct : Nat → ClassId) (f : Nat → Nat) : (LyR ct f).map Prod.fst = (List.range 4).map f := rfl
theorem LyL_a (ct : Nat → ClassId) (f : Nat → Nat) : (LyL ct f).map Prod.fst = (List.range 7).map f := rfl
theorem LyM_a (ct : Nat → ClassId) (f : Nat → Nat) (r : Row) : (LyM ct f r).map Prod.fst = (List.range 7).map f := rfl
theorem addr_eq (ct : Nat → ClassId) (f g : Nat → Nat) : (LyO ct f ++ LyM ct g kr0).map Prod.fst = pL.map (phi f g) := by
  unfold LyO pL
  simp only [List.map_append, LyS_a, LyR_a, LyL_a, LyM_a]
  rw [rg_f (b := 2) (n := 26) (by decide), rg_f (b := 29) (n := 4) (by decide), rg_f (b := 34) (n := 7) (by decide), rg_f (b := 41) (n := 7) (by decide), rg_f (b := 48) (n := 7) (by decide), rg_f (b := 55) (n := 26) (by decide), rg_f (b := 81) (n := 26) (by decide), rg_f (b := 107) (n := 26) (by decide), rg_f (b := 133) (n := 26) (by decide), rg_f (b := 159) (n := 26) (by decide), rg_f (b := 185) (n := 26) (by decide), rg_g]
  rfl
section
variable {D : va_G} {ct : Nat → ClassId} {f g : Nat → Nat} {H : Heap}
abbrev sG (D : va_G) (ct : Nat → ClassId) (f g : Nat → Nat) : xG := (D, (ct, adr f g))
theorem start_D {A : Nat → Prop} (hD : va_D A (LyO ct f ++ LyM ct g kr0)) : va_D A (xWs (sG D ct f g) (a0, (b0, 0))) := by
  have key : ∀ c, c ∈ pL → ∃ (i : Nat) (e : va_E), (LyO ct f ++ LyM ct g kr0)[i]? = some (phi f g c, e) ∧ pL[i]? = some c := by
    intro c hc
    obtain ⟨i, hi⟩ := List.getElem?_of_mem hc
    have h1 : ((LyO ct f ++ LyM ct g kr0).map Prod.fst)[i]? = some (phi f g c) := by rw [addr_eq, List.getElem?_map, hi]; rfl
    rw [List.getElem?_map] at h1
    cases hx : (LyO ct f ++ LyM ct g kr0)[i]? with
    | none => rw [hx] at h1; cases h1
    | some x =>
      rw [hx] at h1
      have h2 : x.1 = phi f g c := Option.some.inj h1
      exact ⟨i, x.2, by rw [← h2, hx], hi⟩
  have ad : ∀ n ∈ xNms, xadr (sG D ct f g) n = phi f g (num n.1 n.2.1 n.2.2) := by
    intro n hn
    show adr f g n.1 n.2.1 n.2.2 = _
    unfold adr phi
    by_cases hz : num n.1 n.2.1 n.2.2 < 211
    · rw [if_neg (fun z => (num_g n hn).mp z hz), if_pos hz]
    · rw [if_pos ((num_g n hn).mpr hz), if_neg hz]
  have get : ∀ (i : Nat) (x : Nat × va_E), (xWs (sG D ct f g) (a0, (b0, 0)))[i]? = some x → ∃ n, xNms[i]? = some n ∧ x.1 = xadr (sG D ct f g) n := by
    intro i x hx
    rw [xWs, List.getElem?_map] at hx
    cases hn : xNms[i]? with
    | none => rw [hn] at hx; cases hx
    | some n =>
      rw [hn] at hx
      cases hx
      exact ⟨n, rfl, rfl⟩
  refine ⟨fun i j x y hi hj hxy => ?_, fun i x hi => ?_⟩
  · obtain ⟨n, n1, n2⟩ := get i x hi
    obtain ⟨n', n3, n4⟩ := get j y hj
    have hm := List.mem_of_getElem? n1
    have hm' := List.mem_of_getElem? n3
    rw [n2, n4, ad n hm, ad n' hm'] at hxy
    obtain ⟨u, e, u1, u2⟩ := key _ (num_in n hm)
    obtain ⟨u', e', u3, u4⟩ := key _ (num_in n' hm')
    have hu := hD.1 u u' _ _ u1 u3 hxy
    subst hu
    have hc : num n.1 n.2.1 n.2.2 = num n'.1 n'.2.1 n'.2.2 := Option.some.inj (u2.symm.trans u4)
    have hnn := num_inj n hm n' hm' hc
    subst hnn
    exact (List.getElem?_inj (List.getElem?_eq_some_iff.mp n1).1 xNodup).mp (n1.trans n3.symm)
  · obtain ⟨n, n1, n2⟩ := get i x hi
    have hm := List.mem_of_getElem? n1
    obtain ⟨u, e, u1, u2⟩ := key _ (num_in n hm)
    rw [n2, ad n hm]
    exact hD.2 u _ u1
theorem at_conv {a n : Nat} {cA : ClassId} {p q : Nat → Option Nat} (h : va_at D vwCl (a, kQf cA n p) H) (hpq : ∀ j, j < n → p j = q j) : va_at D vwCl (a, kQf cA n q) H := by
  have e : vp_cell cA (n, .inr (.inr (.inr (.inr p)))) = vp_cell cA (n, .inr (.inr (.inr (.inr q)))) := by
    rw [vp_cell_q, vp_cell_q]
    unfold arrV
    congr 1
    apply Array.ext
    · simp
    · intro i h1 h2
      simp at h1
      simp [hpq i (by simpa using h1)]
  show H[a]? = some (vp_cell cA (n, .inr (.inr (.inr (.inr q)))))
  rw [← e]
  exact h
theorem qr_at {n j : Nat} {u : Nat → Nat} (h : j < n) : qr n u j = some (u j) := by unfold qr; rw [if_pos h]
theorem start_P (hP : va_P D vwCl (LyO ct f ++ LyM ct g kr0) H) : va_P D vwCl (xWs (sG D ct f g) (a0, (b0, 0))) H := by
  have hO := k_leftP hP
  have hM := k_rightP hP
  have q1 := k_rightP hO
  have s6 := k_rightP q1
  have q2 := k_leftP q1
  have s5 := k_rightP q2
  have q3 := k_leftP q2
  have s4 := k_rightP q3
  have q4 := k_leftP q3
  have s3 := k_rightP q4
  have q5 := k_leftP q4
  have s2 := k_rightP q5
  have q6 := k_leftP q5
  have s1 := k_rightP q6
  have q7 := k_leftP q6
  have l3 := k_rightP q7
  have q8 := k_leftP q7
  have l2 := k_rightP q8
  have q9 := k_leftP q8
  have l1 := k_rightP q9
  have q10 := k_leftP q9
  have hR := k_rightP q10
  have s0 := k_leftP q10
  have hS : ∀ s, s < 7 → va_P D vwCl (LyS ct (fun i => f (sb s + i))) H := by
    intro s hs
    have hs' : s = 0 ∨ s = 1 ∨ s = 2 ∨ s = 3 ∨ s = 4 ∨ s = 5 ∨ s = 6 := by omega
    rcases hs' with rfl | rfl | rfl | rfl | rfl | rfl | rfl
    · exact s0
    · exact s1
    · exact s2
    · exact s3
    · exact s4
    · exact s5
    · exact s6
  have hL : ∀ p, p < 3 → va_P D vwCl (LyL ct (fun i => f (34 + 7 * p + i))) H := by
    intro p hp
    have hp' : p = 0 ∨ p = 1 ∨ p = 2 := by omega
    rcases hp' with rfl | rfl | rfl
    · exact l1
    · exact l2
    · exact l3
  have all : ∀ n ∈ xNms, va_at D vwCl (xadr (sG D ct f g) n, xCell (sG D ct f g) (a0, (b0, 0)) n) H := by
    intro n hn
    unfold xNms at hn
    rcases List.mem_append.mp hn with hn | hn
    · rcases List.mem_append.mp hn with hn | hn
      · simp only [List.mem_cons, List.not_mem_nil, or_false] at hn
        rcases hn with rfl | rfl | rfl | rfl | rfl | rfl | rfl | rfl | rfl | rfl | rfl | rfl | rfl | rfl | rfl
        · exact hO 2 _ rfl
        · exact hR 0 _ rfl
        · exact hM 0 _ rfl
        · exact at_conv (hO 3 _ rfl) (fun j hj => qr_at hj)
        · refine at_conv (hO 1 _ rfl) (fun j hj => ?_)
          rw [qr_at hj]
          show some (f (55 + 26 * j)) = some (f (sb (j + 1) + 0))
          unfold sb
          rw [if_neg (by omega), Nat.add_sub_cancel]
          rfl
        · exact hR 1 _ rfl
        · exact hR 2 _ rfl
        · exact hR 3 _ rfl
        · exact hO 0 _ rfl
        · exact hM 1 _ rfl
        · exact hM 2 _ rfl
        · exact hM 3 _ rfl
        · exact hM 4 _ rfl
        · exact hM 5 _ rfl
        · exact hM 6 _ rfl
      · obtain ⟨p, hp, hn⟩ := List.mem_flatMap.mp hn
        have hp := List.mem_range.mp hp
        simp only [List.mem_cons, List.not_mem_nil, or_false] at hn
        rcases hn with rfl | rfl | rfl | rfl | rfl | rfl | rfl
        · exact hL p hp 0 _ rfl
        · exact hL p hp 1 _ rfl
        · exact hL p hp 2 _ rfl
        · exact hL p hp 3 _ rfl
        · exact hL p hp 4 _ rfl
        · exact hL p hp 5 _ rfl
        · exact hL p hp 6 _ rfl
    · obtain ⟨s, hs, hn⟩ := List.mem_flatMap.mp hn
      have hs := List.mem_range.mp hs
      rcases List.mem_append.mp hn with hn | hn
      · rcases List.mem_append.mp hn with hn | hn
        · simp only [List.mem_cons, List.not_mem_nil, or_false] at hn
          rcases hn with rfl | rfl | rfl | rfl
          · exact hS s hs 0 _ rfl
          · exact hS s hs 1 _ rfl
          · exact at_conv (hS s hs 2 _ rfl) (fun j hj => qr_at hj)
          · exact at_conv (hS s hs 3 _ rfl) (fun j hj => qr_at hj)
        · obtain ⟨w, hw, hn⟩ := List.mem_flatMap.mp hn
          have hw := List.mem_range.mp hw
          have hw' : w = 0 ∨ w = 1 ∨ w = 2 ∨ w = 3 := by omega
          simp only [List.mem_cons, List.not_mem_nil, or_false] at hn
          rcases hw' with rfl | rfl | rfl | rfl
          · rcases hn with rfl | rfl | rfl | rfl
            · exact hS s hs 4 _ rfl
            · exact hS s hs 5 _ rfl
            · exact hS s hs 6 _ rfl
            · exact hS s hs 7 _ rfl
          · rcases hn with rfl | rfl | rfl | rfl
            · exact hS s hs 8 _ rfl
            · exact hS s hs 9 _ rfl
            · exact hS s hs 10 _ rfl
            · exact hS s hs 11 _ rfl
          · rcases hn with rfl | rfl | rfl | rfl
            · exact hS s hs 12 _ rfl
            · exact hS s hs 13 _ rfl
            · exact hS s hs 14 _ rfl
            · exact hS s hs 15 _ rfl
          · rcases hn with rfl | rfl | rfl | rfl
            · exact hS s hs 16 _ rfl
            · exact hS s hs 17 _ rfl
            · exact hS s hs 18 _ rfl
            · exact hS s hs 19 _ rfl
      · obtain ⟨w, hw, hn⟩ := List.mem_flatMap.mp hn
        have hw := List.mem_range.mp hw
        have hw' : w = 0 ∨ w = 1 := by omega
        simp only [List.mem_cons, List.not_mem_nil, or_false] at hn
        rcases hw' with rfl | rfl
        · rcases hn with rfl | rfl | rfl
          · exact hS s hs 20 _ rfl
          · exact hS s hs 21 _ rfl
          · exact hS s hs 22 _ rfl
        · rcases hn with rfl | rfl | rfl
          · exact hS s hs 23 _ rfl
          · exact hS s hs 24 _ rfl
          · exact hS s hs 25 _ rfl
  intro k x hk
  rw [xWs, List.getElem?_map] at hk
  cases hn : xNms[k]? with
  | none => rw [hn] at hk; cases hk
  | some n =>
    rw [hn] at hk
    cases hk
    exact all n (List.mem_of_getElem? hn)
end
