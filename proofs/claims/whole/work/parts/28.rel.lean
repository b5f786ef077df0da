/-! THE CLASS AGAINST THE ROW: what the cells of a state (s = 0: the present one; 1..6: kept ones) hold when the reference's row is r -/
def PP (a : xA) (s : Nat) (r : Row) (w : Nat) : Prop :=
  a 2 s w 0 = wf r w 0 ∧ a 2 s w 1 = wf r w 1 ∧ a 2 s w 2 = wf r w 4 ∧ a 2 s w 3 = wf r w 5 ∧
  (∀ p, p < 3 → bitAt (wf r w 2) p = decide (¬ a 17 s w p = -1)) ∧ (∀ p, p < 3 → bitAt (wf r w 2) p = true → a 17 s w p = wf r w (7 + p)) ∧
  (∀ p, p < 3 → a 18 s w p = if wf r w 1 = 2 ∧ lk r w p = true then wf r w 6 + rkI (wf r w 2) (p + 1) else 0) ∧ (∀ k, k < 6 → a 19 s w k = if wf r w 1 = 0 then -1 else wf r w (10 + k))
def PS (a : xA) (s : Nat) (r : Row) : Prop := a 4 s 0 0 = r 0 ∧ a 4 s 0 1 = r 1 ∧ (∀ w, w < 4 → PP a s r w) ∧ ∀ j, j < 2 → ∀ p, p < 3 → a 20 s j p = r (69 + 6 * j + p) ∧ a 21 s j p = r (69 + 6 * j + 3 + p)
/-- the mark of the deed that begins at f, where the log is N long -/
def cm (a : xA) (p N f : Nat) : Option Nat := if a 15 0 p f = -1 then none else if (a 15 0 p f).toNatClampNeg < N then some (a 15 0 p f).toNatClampNeg else none
def fate (a : xA) (p N k : Nat) : Int32 := if a 14 0 p k = -1 then 0 else match cm a p N (a 14 0 p k).toNatClampNeg with
  | none => 1
  | some m => if a 13 0 p m = 1 then 2 else 3
def L1 (a : xA) (r : Row) (p N : Nat) : Prop := ∀ k, k < N → ce r p k 0 = (if a 12 0 p k = -1 then 1 else 0) ∧ ce r p k 1 = a 10 0 p k ∧ ce r p k 2 = a 11 0 p k ∧ ce r p k 3 = a 12 0 p k ∧ ce r p k 4 = a 13 0 p k ∧ ce r p k 5 = (if a 12 0 p k = -1 then a 14 0 p k else fate a p N k)
def L2 (a : xA) (p N : Nat) : Prop := ∀ k, k < N → ¬ a 12 0 p k = -1 → ¬ a 14 0 p k = -1 → ∃ f, f ≤ k ∧ a 14 0 p k = nI f ∧ a 14 0 p f = nI f ∧ ¬ a 12 0 p f = -1 ∧ a 10 0 p f = a 10 0 p k
def L3 (a : xA) (p N : Nat) : Prop := ∀ k, k < N → a 12 0 p k = -1 → ∃ f, f < k ∧ a 14 0 p k = nI f ∧ a 14 0 p f = nI f ∧ ¬ a 12 0 p f = -1 ∧ a 15 0 p f = nI k ∧ (a 13 0 p k = 0 ∨ a 13 0 p k = 1) ∧ a 10 0 p f = a 10 0 p k
def L4 (a : xA) (p N : Nat) : Prop := ∀ k, k < N → a 15 0 p k = -1 ∨ ∃ m, m < 48 ∧ a 15 0 p k = nI m
def L5 (a : xA) (p N : Nat) : Prop := ∀ f, f < N → ¬ a 12 0 p f = -1 → a 14 0 p f = nI f → ∀ m, m < N → a 15 0 p f = nI m → f < m ∧ a 12 0 p m = -1 ∧ a 14 0 p m = nI f
def L6 (a : xA) (s : Nat) (r : Row) (p N : Nat) : Prop := ∀ k, k < N → ¬ a 12 0 p k = -1 → ∀ f, f < 48 → a 14 0 p k = nI f → cm a p N f = none → ∃ w, w < 4 ∧ a 10 0 p k = nI w ∧ lk r w p = true ∧ a 17 s w p = nI f
def L7 (a : xA) (s : Nat) (r : Row) (p N : Nat) : Prop := ∀ w, w < 4 → lk r w p = true → ∃ f, f < N ∧ a 17 s w p = nI f ∧ ¬ a 12 0 p f = -1 ∧ a 14 0 p f = nI f ∧ a 10 0 p f = nI w ∧ cm a p N f = none
def PL (a : xA) (s : Nat) (r : Row) (p : Nat) : Prop := L1 a r p (szN r p) ∧ L2 a p (szN r p) ∧ L3 a p (szN r p) ∧ L4 a p (szN r p) ∧ L5 a p (szN r p) ∧ L6 a s r p (szN r p) ∧ L7 a s r p (szN r p)
def RelS (a : xA) (s : Nat) (r : Row) (T : Nat) : Prop := RI r T ∧ PS a s r ∧ ∀ p, p < 3 → PL a s r p
/-- of the present state: the logs' lengths; no mark beyond them -/
def CU (a : xA) (r : Row) : Prop := ∀ p, p < 3 → a 1 0 p 0 = r (66 + p) ∧ ∀ k, k < szN r p → ∀ m, m < 48 → a 15 0 p k = nI m → m < szN r p
/-- marks that a log of length N doesn't see -/
def dang (N : Nat) (x : Int32) : Prop := x = -1 ∨ ∃ m, N ≤ m ∧ m < 48 ∧ x = nI m
/-- the log p has grown from N on, or was cut down to N -/
def LE (a a' : xA) (p N : Nat) : Prop := ∀ k, k < N → a' 10 0 p k = a 10 0 p k ∧ a' 11 0 p k = a 11 0 p k ∧ a' 12 0 p k = a 12 0 p k ∧ a' 13 0 p k = a 13 0 p k ∧ a' 14 0 p k = a 14 0 p k ∧ (a' 15 0 p k = a 15 0 p k ∨ (dang N (a 15 0 p k) ∧ dang N (a' 15 0 p k)))
theorem cm_dang {a : xA} {p N n f : Nat} (hn : n ≤ N) (h : dang N (a 15 0 p f)) : cm a p n f = none := by
  unfold cm
  rcases h with h | ⟨m, h1, h2, h3⟩
  · rw [if_pos h]
  · rw [if_neg (by rw [h3]; exact nIm1 (by omega)), h3, nI_clamp (by omega), if_neg (by omega)]
theorem cmk_some {a : xA} {p n f m : Nat} (h : cm a p n f = some m) : m < n ∧ ¬ a 15 0 p f = -1 ∧ (a 15 0 p f).toNatClampNeg = m := by
  unfold cm at h
  split at h
  · cases h
  · split at h
    · cases h
      rename_i h1 h2
      exact ⟨h2, h1, rfl⟩
    · cases h
theorem LE_cm {a a' : xA} {p N n f : Nat} (h : LE a a' p N) (hn : n ≤ N) (hf : f < N) : cm a' p n f = cm a p n f := by
  rcases (h f hf).2.2.2.2.2 with e | ⟨e1, e2⟩
  · unfold cm; rw [e]
  · rw [cm_dang hn e1, cm_dang hn e2]
theorem LE.mono {a a' : xA} {p N n : Nat} (h : LE a a' p N) (hn : n ≤ N) : LE a a' p n := by
  intro k hk
  obtain ⟨e0, e1, e2, e3, e4, e5⟩ := h k (by omega)
  refine ⟨e0, e1, e2, e3, e4, e5.imp id (fun z => ?_)⟩
  have key : ∀ x, dang N x → dang n x := fun x z => z.imp id (fun ⟨m, h1, h2, h3⟩ => ⟨m, by omega, h2, h3⟩)
  exact ⟨key _ z.1, key _ z.2⟩
theorem LE.rfl' {a : xA} {p N : Nat} : LE a a p N := fun k _ => ⟨rfl, rfl, rfl, rfl, rfl, Or.inl rfl⟩
theorem LE.trans {a a' a'' : xA} {p N : Nat} (h : LE a a' p N) (h' : LE a' a'' p N) : LE a a'' p N := by
  intro k hk
  obtain ⟨e0, e1, e2, e3, e4, e5⟩ := h k hk
  obtain ⟨g0, g1, g2, g3, g4, g5⟩ := h' k hk
  refine ⟨g0.trans e0, g1.trans e1, g2.trans e2, g3.trans e3, g4.trans e4, ?_⟩
  rcases g5 with g5 | ⟨g5, g6⟩
  · rw [g5]; exact e5
  · rcases e5 with e5 | ⟨e5, e6⟩
    · rw [e5] at g5; exact Or.inr ⟨g5, g6⟩
    · exact Or.inr ⟨e5, g6⟩
theorem LE_fate {a a' : xA} {p N n k : Nat} (hN : N ≤ 48) (h : LE a a' p N) (hn : n ≤ N) (hk : k < n) (h2 : L2 a p n) (hm : ¬ a 12 0 p k = -1) : fate a' p n k = fate a p n k := by
  have e4 := (h k (by omega)).2.2.2.2.1
  unfold fate
  rw [e4]
  by_cases hz : a 14 0 p k = -1
  · rw [if_pos hz, if_pos hz]
  · rw [if_neg hz, if_neg hz]
    obtain ⟨f, f1, f2, -⟩ := h2 k hk hm hz
    rw [f2, nI_clamp (by omega), LE_cm h hn (by omega)]
    cases hc : cm a p n f with
    | none => rfl
    | some m =>
      have hm := (cmk_some hc).1
      show (if a' 13 0 p m = 1 then (2 : Int32) else 3) = if a 13 0 p m = 1 then 2 else 3
      rw [(h m (by omega)).2.2.2.1]
theorem dang_ne {N x : Nat} {y : Int32} (h : dang N y) (hx : x < N) (hN : N ≤ 48) : ¬ y = nI x := by
  intro e
  rcases h with h | ⟨m, h1, h2, h3⟩
  · exact nIm1 (n := x) (by omega) (e.symm.trans h)
  · have := nqI (by omega) (by omega) (h3.symm.trans e)
    omega
theorem LE_PL {a a' : xA} {s p N : Nat} {r : Row} (hN : N ≤ 48) (h : LE a a' p N) (hn : szN r p ≤ N) (h17 : ∀ w, w < 4 → a' 17 s w p = a 17 s w p) (hP : PL a s r p) : PL a' s r p := by
  obtain ⟨g1, g2, g3, g4, g5, g6, g7⟩ := hP
  unfold PL
  generalize szN r p = n at *
  have q : ∀ k, k < n → a' 10 0 p k = a 10 0 p k ∧ a' 11 0 p k = a 11 0 p k ∧ a' 12 0 p k = a 12 0 p k ∧ a' 13 0 p k = a 13 0 p k ∧ a' 14 0 p k = a 14 0 p k := fun k hk => by
    obtain ⟨e0, e1, e2, e3, e4, -⟩ := h k (by omega)
    exact ⟨e0, e1, e2, e3, e4⟩
  refine ⟨fun k hk => ?_, fun k hk z1 z2 => ?_, fun k hk z1 => ?_, fun k hk => ?_, fun f hf z1 z2 m hm z3 => ?_, fun k hk z1 f hf z2 z3 => ?_, fun w hw hl => ?_⟩
  · obtain ⟨e0, e1, e2, e3, e4⟩ := q k hk
    obtain ⟨c0, c1, c2, c3, c4, c5⟩ := g1 k hk
    rw [e0, e1, e2, e3, e4]
    refine ⟨c0, c1, c2, c3, c4, ?_⟩
    rw [c5]
    by_cases hm : a 12 0 p k = -1
    · rw [if_pos hm, if_pos hm]
    · rw [if_neg hm, if_neg hm, LE_fate hN h hn hk g2 hm]
  · obtain ⟨e0, e1, e2, e3, e4⟩ := q k hk
    rw [e2] at z1
    rw [e4] at z2
    obtain ⟨f, f1, f2, f3, f4, f5⟩ := g2 k hk z1 z2
    obtain ⟨d0, d1, d2, d3, d4⟩ := q f (by omega)
    exact ⟨f, f1, by rw [e4]; exact f2, by rw [d4]; exact f3, by rw [d2]; exact f4, by rw [d0, e0]; exact f5⟩
  · obtain ⟨e0, e1, e2, e3, e4⟩ := q k hk
    rw [e2] at z1
    obtain ⟨f, f1, f2, f3, f4, f5, f6, f7⟩ := g3 k hk z1
    obtain ⟨d0, d1, d2, d3, d4⟩ := q f (by omega)
    refine ⟨f, f1, by rw [e4]; exact f2, by rw [d4]; exact f3, by rw [d2]; exact f4, ?_, by rw [e3]; exact f6, by rw [d0, e0]; exact f7⟩
    rcases (h f (by omega)).2.2.2.2.2 with e | ⟨e5, -⟩
    · rw [e]; exact f5
    · exact absurd f5 (dang_ne e5 (by omega) hN)
  · rcases (h k (by omega)).2.2.2.2.2 with e | ⟨-, e5⟩
    · rw [e]; exact g4 k hk
    · exact e5.imp id (fun ⟨m, m1, m2, m3⟩ => ⟨m, m2, m3⟩)
  · obtain ⟨e0, e1, e2, e3, e4⟩ := q f hf
    obtain ⟨d0, d1, d2, d3, d4⟩ := q m hm
    rw [e2] at z1
    rw [e4] at z2
    rcases (h f (by omega)).2.2.2.2.2 with e | ⟨-, e5⟩
    · rw [e] at z3
      rw [d2, d4]
      exact g5 f hf z1 z2 m hm z3
    · exact absurd z3 (dang_ne e5 (by omega) hN)
  · obtain ⟨e0, e1, e2, e3, e4⟩ := q k hk
    rw [e2] at z1
    rw [e4] at z2
    have hz : ¬ a 14 0 p k = -1 := by rw [z2]; exact nIm1 (by omega)
    obtain ⟨f', f1, f2, -⟩ := g2 k hk z1 hz
    have hff : f' = f := nqI (by omega) (by omega) (f2.symm.trans z2)
    subst hff
    rw [LE_cm h hn (by omega)] at z3
    obtain ⟨w, w1, w2, w3, w4⟩ := g6 k hk z1 f' hf z2 z3
    exact ⟨w, w1, by rw [e0]; exact w2, w3, by rw [h17 w w1]; exact w4⟩
  · obtain ⟨f, f1, f2, f3, f4, f5, f6⟩ := g7 w hw hl
    obtain ⟨d0, d1, d2, d3, d4⟩ := q f f1
    exact ⟨f, f1, by rw [h17 w hw]; exact f2, by rw [d2]; exact f3, by rw [d4]; exact f4, by rw [d0]; exact f5, by rw [LE_cm h hn (by omega)]; exact f6⟩
/-- a state's own cells are as they were -/
def SameS (a a' : xA) (s : Nat) : Prop := ∀ k w j, (k = 4 ∨ k = 2 ∨ k = 17 ∨ k = 18 ∨ k = 19 ∨ k = 20 ∨ k = 21) → a' k s w j = a k s w j
theorem PS_same {a a' : xA} {s : Nat} {r : Row} (h : SameS a a' s) (hP : PS a s r) : PS a' s r := by
  obtain ⟨p1, p2, p3, p4⟩ := hP
  refine ⟨by rw [h 4 0 0 (by simp)]; exact p1, by rw [h 4 0 1 (by simp)]; exact p2, fun w hw => ?_, fun j hj p hp => by rw [h 20 j p (by simp), h 21 j p (by simp)]; exact p4 j hj p hp⟩
  obtain ⟨q1, q2, q3, q4, q5, q6, q7, q8⟩ := p3 w hw
  refine ⟨by rw [h 2 w 0 (by simp)]; exact q1, by rw [h 2 w 1 (by simp)]; exact q2, by rw [h 2 w 2 (by simp)]; exact q3, by rw [h 2 w 3 (by simp)]; exact q4, fun p hp => by rw [h 17 w p (by simp)]; exact q5 p hp, fun p hp z => by rw [h 17 w p (by simp)]; exact q6 p hp z, fun p hp => by rw [h 18 w p (by simp)]; exact q7 p hp, fun k hk => by rw [h 19 w k (by simp)]; exact q8 k hk⟩
theorem RI.mono {r : Row} {T T' : Nat} (h : RI r T) (hT : T ≤ T') : RI r T' := by
  obtain ⟨hA, hB, hC, ⟨t, t1, t2⟩⟩ := h
  exact ⟨hA, fun w hw => (hB w hw).frame (fun _ _ => rfl) (fun _ _ => Nat.le_refl _) hT, hC, t, by omega, t2⟩
theorem RelS.mono {a : xA} {s : Nat} {r : Row} {T T' : Nat} (h : RelS a s r T) (hT : T ≤ T') : RelS a s r T' := ⟨h.1.mono hT, h.2⟩
theorem RI.le {r : Row} {T p : Nat} (h : RI r T) (hp : p < 3) : szN r p ≤ 48 := by have := (h.1 p hp).2; omega
/-- a kept state stays what it was while the logs grow -/
theorem RelS_keep {a a' : xA} {s : Nat} {r : Row} {T : Nat} {N : Nat → Nat} (h : RelS a s r T) (hs : SameS a a' s) (hN : ∀ p, p < 3 → N p ≤ 48 ∧ szN r p ≤ N p ∧ LE a a' p (N p)) : RelS a' s r T := by
  refine ⟨h.1, PS_same hs h.2.1, fun p hp => ?_⟩
  obtain ⟨n1, n2, n3⟩ := hN p hp
  exact LE_PL n1 n3 n2 (fun w _ => hs 17 w p (by simp)) (h.2.2 p hp)
