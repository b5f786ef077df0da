/-! THE ROW's own laws: reads behind writes; what stays true of it -/
theorem wf_uw (r : Row) {w f w' f' : Nat} (v : Int32) (hf : f < 16) (hf' : f' < 16) : wf (uw r w f v) w' f' = if w' = w ∧ f' = f then v else wf r w' f' := by
  unfold wf uw upd
  by_cases h : w' = w ∧ f' = f
  · rw [if_pos h, if_pos (by omega)]
  · rw [if_neg h, if_neg (by omega)]
theorem wf_uc (r : Row) {p k f w' f' : Nat} (v : Int32) (hw : w' < 4) (hf' : f' < 16) : wf (uc r p k f v) w' f' = wf r w' f' := by
  unfold wf uc upd
  rw [if_neg (by omega)]
theorem ce_uc (r : Row) {p k f p' k' f' : Nat} (v : Int32) (hk : k < 48) (hk' : k' < 48) (hf : f < 6) (hf' : f' < 6) : ce (uc r p k f v) p' k' f' = if p' = p ∧ k' = k ∧ f' = f then v else ce r p' k' f' := by
  unfold ce uc upd
  by_cases h : p' = p ∧ k' = k ∧ f' = f
  · rw [if_pos h, if_pos (by omega)]
  · rw [if_neg h, if_neg (by omega)]
theorem ce_uw (r : Row) {w f p' k' f' : Nat} (v : Int32) (hw : w < 4) (hf : f < 16) : ce (uw r w f v) p' k' f' = ce r p' k' f' := by
  unfold ce uw upd
  rw [if_neg (by omega)]
theorem hi_uw (r : Row) {w f i : Nat} (v : Int32) (hw : w < 4) (hf : f < 16) (hi : 66 ≤ i) : uw r w f v i = r i := by
  unfold uw upd
  rw [if_neg (by omega)]
theorem lo_uw (r : Row) {w f i : Nat} (v : Int32) (hi : i < 2) : uw r w f v i = r i := by
  unfold uw upd
  rw [if_neg (by omega)]
theorem lo_uc (r : Row) {p k f i : Nat} (v : Int32) (hi : i < 81) : uc r p k f v i = r i := by
  unfold uc upd
  rw [if_neg (by omega)]
theorem up_ne (r : Row) {i j : Nat} (v : Int32) (h : j ≠ i) : upd r i v j = r j := by
  unfold upd
  rw [if_neg h]
theorem up_eq (r : Row) {i : Nat} (v : Int32) : upd r i v i = v := by
  unfold upd
  rw [if_pos rfl]
theorem wf_up (r : Row) {i w f : Nat} (v : Int32) (hw : w < 4) (hf : f < 16) (hi : i < 2 ∨ 66 ≤ i) : wf (upd r i v) w f = wf r w f := by
  unfold wf upd
  rw [if_neg (by omega)]
theorem ce_up (r : Row) {i p k f : Nat} (v : Int32) (hi : i < 81) : ce (upd r i v) p k f = ce r p k f := by
  unfold ce upd
  rw [if_neg (by omega)]
theorem wf_sv1 (r : Row) {w j p w' f' : Nat} (hw : w' < 4) (hf : f' < 16) : wf (sv1 r w j p) w' f' = wf r w' f' := by
  unfold sv1
  split
  · split
    · rfl
    · exact wf_up r _ hw hf (by omega)
  · rfl
theorem wf_sv (r : Row) {w w' f' : Nat} (hw : w' < 4) (hf : f' < 16) : wf (svR r w) w' f' = wf r w' f' := by
  unfold svR
  rw [wf_sv1 _ hw hf, wf_sv1 _ hw hf, wf_sv1 _ hw hf, wf_sv1 _ hw hf, wf_sv1 _ hw hf, wf_sv1 _ hw hf]
theorem sv1_at (r : Row) (w j p i : Nat) : sv1 r w j p i = if i = 69 + 6 * j + 3 + p ∧ wf r w 4 = 1 ∧ ¬ wf r w (10 + 3 * j + p) < 0 then wf r w (10 + 3 * j + p) else r i := by
  unfold sv1 upd
  by_cases h1 : wf r w 4 = 1
  · by_cases h2 : wf r w (10 + 3 * j + p) < 0
    · simp [h1, h2]
    · simp [h1, h2]
  · simp [h1]
theorem sv_ne (r : Row) {w i : Nat} (hi : i < 72 ∨ (75 ≤ i ∧ i < 78) ∨ 81 ≤ i) : svR r w i = r i := by
  unfold svR
  rw [sv1_at, if_neg (by omega), sv1_at, if_neg (by omega), sv1_at, if_neg (by omega), sv1_at, if_neg (by omega), sv1_at, if_neg (by omega), sv1_at, if_neg (by omega)]
theorem sv_eq (r : Row) {w j p : Nat} (hw : w < 4) (hj : j < 2) (hp : p < 3) : svR r w (69 + 6 * j + 3 + p) = if wf r w 4 = 1 ∧ ¬ wf r w (10 + 3 * j + p) < 0 then wf r w (10 + 3 * j + p) else r (69 + 6 * j + 3 + p) := by
  have hj' : j = 0 ∨ j = 1 := by omega
  have hp' : p = 0 ∨ p = 1 ∨ p = 2 := by omega
  unfold svR
  rcases hj' with rfl | rfl <;> rcases hp' with rfl | rfl | rfl <;>
    simp only [sv1_at, wf_sv1 _ hw (show 4 < 16 by decide), wf_sv1 _ hw (show 10 + 3 * 0 + 0 < 16 by decide), wf_sv1 _ hw (show 10 + 3 * 0 + 1 < 16 by decide), wf_sv1 _ hw (show 10 + 3 * 0 + 2 < 16 by decide), wf_sv1 _ hw (show 10 + 3 * 1 + 0 < 16 by decide), wf_sv1 _ hw (show 10 + 3 * 1 + 1 < 16 by decide), wf_sv1 _ hw (show 10 + 3 * 1 + 2 < 16 by decide)] <;> simp
theorem ce_sv (r : Row) {w p k f : Nat} : ce (svR r w) p k f = ce r p k f := sv_ne r (by omega)
theorem cN_mono {P P' : Nat → Bool} : ∀ (m k : Nat), (∀ i, k ≤ i → i < k + m → P' i = true → P i = true) → cN P' k m ≤ cN P k m
  | 0, _, _ => Nat.le_refl _
  | m + 1, k, h => by
    have ih := cN_mono (P := P) (P' := P') m (k + 1) (fun i h1 h2 => h i (by omega) (by omega))
    have hk := h k (by omega) (by omega)
    unfold cN
    by_cases h' : P' k = true
    · simp [h', hk h']; exact ih
    · simp [h']; omega
theorem cN_dec {P P' : Nat → Bool} {w : Nat} : ∀ (m k : Nat), k ≤ w → w < k + m → P w = true → P' w = false → (∀ i, k ≤ i → i < k + m → P' i = true → P i = true) → cN P' k m + 1 ≤ cN P k m
  | 0, k, h1, h2, _, _, _ => by omega
  | m + 1, k, h1, h2, hp, hp', h => by
    unfold cN
    by_cases e : k = w
    · subst e
      have ih := cN_mono (P := P) (P' := P') m (k + 1) (fun i h1 h2 => h i (by omega) (by omega))
      simp [hp, hp']; omega
    · have ih := cN_dec (P := P) (P' := P') m (k + 1) (by omega) (by omega) hp hp' (fun i h1 h2 => h i (by omega) (by omega))
      have hk := h k (by omega) (by omega)
      by_cases h' : P' k = true
      · simp [h', hk h']; omega
      · simp [h']; omega
theorem cN_pos {P : Nat → Bool} {w : Nat} : ∀ (m k : Nat), k ≤ w → w < k + m → P w = true → 1 ≤ cN P k m
  | 0, k, h1, h2, _ => by omega
  | m + 1, k, h1, h2, hp => by
    unfold cN
    by_cases e : k = w
    · subst e; simp [hp]
    · have := cN_pos (P := P) m (k + 1) (by omega) (by omega) hp
      omega
def ctN (r : Row) (p : Nat) : Nat := cN (fun w => lk r w p) 0 4
/-- bits of sets below 8 -/
theorem bitN : ∀ s, s < 8 → ∀ p, p < 3 → bitAt (nI s) p = Nat.testBit s p := by decide
theorem bit_or : ∀ s, s < 8 → ∀ p, p < 3 → ∃ m, m < 8 ∧ nI s ||| ((1 : Int32) <<< (nI p &&& 31)) = nI m ∧ ∀ p', p' < 3 → Nat.testBit m p' = (Nat.testBit s p' || decide (p' = p)) := by
  intro s hs p hp
  refine ⟨s ||| 2 ^ p, ?_, ?_, ?_⟩
  · revert s p; decide
  · revert s p; decide
  · revert s p; decide
/-- what a writer's numbers are -/
def PW (r : Row) (T w : Nat) : Prop := (wf r w 1 = 0 ∨ wf r w 1 = 1 ∨ wf r w 1 = 2) ∧ (∃ s, s < 8 ∧ wf r w 2 = nI s) ∧ (∃ m, m < 8 ∧ wf r w 3 = nI m) ∧ (∀ p, p < 3 → bitAt (wf r w 3) p = true → bitAt (wf r w 2) p = true) ∧
  (¬ wf r w 1 = 2 → wf r w 3 = 0) ∧ (wf r w 1 = 0 → wf r w 2 = 0) ∧ ((wf r w 4 = 0 ∨ wf r w 4 = 1) ∧ (¬ wf r w 1 = 2 → wf r w 4 = 0)) ∧ (wf r w 1 = 2 → ∃ e, e ≤ T ∧ wf r w 6 = nI e) ∧
  (∀ p, p < 3 → bitAt (wf r w 2) p = true → ∃ f, f < szN r p ∧ wf r w (7 + p) = nI f) ∧ (¬ wf r w 1 = 0 → ∀ k, k < 6 → wf r w (10 + k) = -1 ∨ ∃ n, n ≤ 48 ∧ wf r w (10 + k) = nI n)
/-- what stays true of the row: T bounds the time -/
def RI (r : Row) (T : Nat) : Prop := (∀ p, p < 3 → r (66 + p) = nI (szN r p) ∧ szN r p + ctN r p ≤ 48) ∧ (∀ w, w < 4 → PW r T w) ∧ (∀ j, j < 2 → ∀ p, p < 6 → ∃ k, k ≤ 48 ∧ r (69 + 6 * j + p) = nI k) ∧ ∃ t, t ≤ T ∧ r 0 = nI t
theorem RI.WR {r : Row} {T : Nat} (h : RI r T) : WR r := by
  refine ⟨fun p hp => ⟨szN r p, by have := (h.1 p hp).2; omega, (h.1 p hp).1⟩, fun w hw p hp hl => ?_, fun j hj p hp => h.2.2.1 j hj p (by omega)⟩
  have hb : bitAt (wf r w 2) p = true := by
    simp only [lk, Bool.and_eq_true] at hl
    exact hl.2.1
  obtain ⟨f, h1, h2⟩ := (h.2.1 w hw).2.2.2.2.2.2.2.2.1 p hp hb
  exact ⟨f, by have := (h.1 p hp).2; omega, h2⟩
theorem bit0 : ∀ p, p < 3 → bitAt 0 p = false := by decide
