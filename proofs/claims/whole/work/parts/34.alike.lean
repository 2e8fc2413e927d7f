/-! PURE: numbers of a sheet against facts -/
theorem sx_8 (v : Int32) {m : Nat} (hm : m < 8) : v &&& 255 = nI m ↔ v.toInt8.toInt32 = nI m := by
  rw [pk_and v 8 (by decide), nI_eq (by omega) (by omega), ← Int32.toInt_inj, nI_c (by omega), Int8.toInt_toInt32, Int32.toInt_toInt8]
  have h1 : v.toInt = v.toBitVec.toInt := rfl
  rw [h1, BitVec.toInt_eq_toNat_cond]
  have h2 := v.toBitVec.isLt
  unfold Int.bmod
  split <;> simp only <;> split <;> omega
theorem sx_16 (v : Int32) {m : Nat} (hm : m < 8) : v &&& 65535 = nI m ↔ v.toInt16.toInt32 = nI m := by
  rw [pk_and v 16 (by decide), nI_eq (by omega) (by omega), ← Int32.toInt_inj, nI_c (by omega), Int16.toInt_toInt32, Int32.toInt_toInt16]
  have h1 : v.toInt = v.toBitVec.toInt := rfl
  rw [h1, BitVec.toInt_eq_toNat_cond]
  have h2 := v.toBitVec.isLt
  unfold Int.bmod
  split <;> simp only <;> split <;> omega
theorem sx_iff {b : Nat} (v : Int32) {m : Nat} (hm : m < 8) : lwb b v = nI m ↔ sxb b v = nI m := by
  unfold lwb sxb
  by_cases e : b = 8
  · rw [if_pos e, if_pos e]
    exact sx_8 v hm
  · rw [if_neg e, if_neg e]
    by_cases e' : b = 16
    · rw [if_pos e', if_pos e']
      exact sx_16 v hm
    · rw [if_neg e', if_neg e']
/-- from k on, how many more of at most r hold -/
def alk (E : Nat → Bool) : Nat → Nat → Nat
  | 0, k => k
  | r + 1, k => if E k then alk E r (k + 1) else k
theorem lp_alk {body : Int32 → Option (Int32 ⊕ Int32)} (E : Nat → Bool) : ∀ (r k F : Nat), r < F → (∀ i, i < r → E (k + i) = true → body (nI (k + i)) = some (.inl (nI (k + i + 1)))) → (∀ i, i < r → E (k + i) = false → body (nI (k + i)) = some (.inr (nI (k + i)))) → body (nI (k + r)) = some (.inr (nI (k + r))) → lp body F (nI k) = some (nI (alk E r k)) := by
  intro r
  induction r with
  | zero =>
    intro k F hF h1 h2 h3
    obtain ⟨F', rfl⟩ : ∃ F', F = F' + 1 := ⟨F - 1, by omega⟩
    simp only [lp, Nat.add_zero] at h3 ⊢
    rw [h3]
    rfl
  | succ r ih =>
    intro k F hF h1 h2 h3
    obtain ⟨F', rfl⟩ : ∃ F', F = F' + 1 := ⟨F - 1, by omega⟩
    simp only [lp, alk]
    by_cases e : E k = true
    · rw [if_pos e]
      have := h1 0 (by omega) e
      simp only [Nat.add_zero] at this
      rw [this]
      refine ih (k + 1) F' (by omega) (fun i hi => ?_) (fun i hi => ?_) ?_
      · rw [show k + 1 + i = k + (i + 1) by omega]; exact h1 (i + 1) (by omega)
      · rw [show k + 1 + i = k + (i + 1) by omega]; exact h2 (i + 1) (by omega)
      · rw [show k + 1 + r = k + (r + 1) by omega]; exact h3
    · rw [if_neg e]
      have := h2 0 (by omega) (by simpa using e)
      simp only [Nat.add_zero] at this
      rw [this]
      rfl
