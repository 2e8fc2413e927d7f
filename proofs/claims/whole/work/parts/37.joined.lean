/-! PURE: a loop that looks for one; joined -/
def anyF (E : Nat → Bool) : Nat → Nat → Bool
  | 0, _ => false
  | r + 1, k => if E k then true else anyF E r (k + 1)
theorem anyF_t {E : Nat → Bool} {r k : Nat} (e : E k = true) : anyF E (r + 1) k = true := by
  rw [anyF, if_pos e]
theorem anyF_f {E : Nat → Bool} {r k : Nat} (e : ¬ E k = true) : anyF E (r + 1) k = anyF E r (k + 1) := by
  rw [anyF, if_neg e]
theorem lp_any {body : Int32 → Option (Int32 ⊕ (Unit ⊕ Unit))} (E : Nat → Bool) : ∀ (r k F : Nat), r < F → (∀ i, i < r → E (k + i) = false → body (nI (k + i)) = some (.inl (nI (k + i + 1)))) → (∀ i, i < r → E (k + i) = true → body (nI (k + i)) = some (.inr (.inl ()))) → body (nI (k + r)) = some (.inr (.inr ())) → lp body F (nI k) = some (if anyF E r k then .inl () else .inr ()) := by
  intro r
  induction r with
  | zero =>
    intro k F hF h1 h2 h3
    obtain ⟨F', rfl⟩ : ∃ F', F = F' + 1 := ⟨F - 1, by omega⟩
    simp only [lp, Nat.add_zero] at h3 ⊢
    rw [h3]
    rfl
  | succ r ih =>
    intro k F hF h1 h2 h3
    obtain ⟨F', rfl⟩ : ∃ F', F = F' + 1 := ⟨F - 1, by omega⟩
    simp only [lp]
    by_cases e : E k = true
    · have := h2 0 (by omega) e
      simp only [Nat.add_zero] at this
      rw [this, anyF_t e]
      rfl
    · have := h1 0 (by omega) (by simpa using e)
      simp only [Nat.add_zero] at this
      rw [this, anyF_f e]
      refine ih (k + 1) F' (by omega) (fun i hi => ?_) (fun i hi => ?_) ?_
      · rw [show k + 1 + i = k + (i + 1) by omega]; exact h1 (i + 1) (by omega)
      · rw [show k + 1 + i = k + (i + 1) by omega]; exact h2 (i + 1) (by omega)
      · rw [show k + 1 + r = k + (r + 1) by omega]; exact h3
/-- a fact of one set clashes with one of the other -/
def clE (cl : Nat → Nat) (x y : Nat) (f : Nat) : Bool := decide (x / 2 ^ f % 2 = 1) && !decide (cl f &&& y = 0)
theorem e_clX {μ : Mem} {n : Nat} {nd cl wi wt : Nat → Nat} {bi : Nat → Int32} (H : FX μ 2 n nd cl wi wt bi) (V : FW n nd cl wi wt bi) {x y : Nat} (hx : x < 256) (hy : y < 256) : f_X1_clashBetween μ 2 (nI x) (nI y) = some (if anyF (clE cl x y) n 0 then 1 else 0) := by
  unfold f_X1_clashBetween
  have n8 := V.1
  have := lp_any (body := fun q => f_X1_clashBetween_l2 μ 2 (nI x) (nI y) q) (clE cl x y) n 0 FU (by unfold FU; omega) ?_ ?_ ?_
  · rw [show (0 : Int32) = nI 0 from rfl, this, bd_s]
    cases anyF (clE cl x y) n 0 <;> rfl
  · intro i hi e
    simp only [Nat.zero_add] at e ⊢
    unfold f_X1_clashBetween_l2
    rw [H.1, if_neg (nI_ge hi (by omega)), shr_1 _ hx _ (show i < 8 by omega)]
    have t := tb_lt x i
    by_cases q : x / 2 ^ i % 2 = 1
    · simp only [clE, q, decide_true, Bool.true_and, Bool.not_eq_false', decide_eq_true_eq] at e
      rw [if_neg (not_not_intro (by rw [q]; rfl)), ib_nI (show i < 8 by omega) (by omega), if_pos rfl, tn_nI (by omega)]
      simp only [rfs]
      rw [(H.2 i hi).2.1, nI_and, e, if_pos (show nI 0 = 0 from rfl), nI_1]
    · rw [if_pos (show ¬ nI (x / 2 ^ i % 2) = 1 from fun w => q ((nI_eq (b := 1) (by omega) (by omega)).mp w)), nI_1]
  · intro i hi e
    simp only [Nat.zero_add] at e ⊢
    unfold f_X1_clashBetween_l2
    simp only [clE, Bool.and_eq_true, decide_eq_true_eq, Bool.not_eq_true', decide_eq_false_iff_not] at e
    rw [H.1, if_neg (nI_ge hi (by omega)), shr_1 _ hx _ (show i < 8 by omega), e.1, if_neg (not_not_intro (show nI 1 = (1 : Int32) from rfl)), ib_nI (show i < 8 by omega) (by omega), if_pos rfl, tn_nI (by omega)]
    simp only [rfs]
    have c8 := (V.2 i hi).2.1
    have := and_256 (b := y) c8
    rw [(H.2 i hi).2.1, nI_and, if_neg (nI_ne0 (by omega) (by omega))]
  · simp only [Nat.zero_add]
    unfold f_X1_clashBetween_l2
    rw [H.1, if_pos (nI_le (Nat.le_refl _) (by omega))]
theorem e_clM {μ : Mem} {n : Nat} {nd cl wi wt : Nat → Nat} {bi : Nat → Int32} (H : FM μ 106 n nd cl wi wt bi) (V : FW n nd cl wi wt bi) {x y : Nat} (hx : x < 256) (hy : y < 256) (a1 a2 : Int32) : lp (fun s => f_X12_joined_l43 μ 105 a1 a2 (nI x) (nI y) s) FU (0 : Int32) = some (if anyF (clE cl x y) n 0 then .inl () else .inr ()) := by
  have n8 := V.1
  refine lp_any (body := fun q => f_X12_joined_l43 μ 105 a1 a2 (nI x) (nI y) q) (clE cl x y) n 0 FU (by unfold FU; omega) ?_ ?_ ?_
  · intro i hi e
    simp only [Nat.zero_add] at e ⊢
    simp only [f_X12_joined_l43, rfs, cls]
    rw [H.1, if_neg (nI_ge hi (by omega)), shr_1 _ hx _ (show i < 8 by omega)]
    have t := tb_lt x i
    by_cases q : x / 2 ^ i % 2 = 1
    · simp only [clE, q, decide_true, Bool.true_and, Bool.not_eq_false', decide_eq_true_eq] at e
      rw [if_neg (not_not_intro (by rw [q]; rfl)), (e_itss (show i < 8 by omega) μ).2.1, bd_s, (H.2 i hi).2.1, nI_and, e, if_pos (show nI 0 = 0 from rfl), nI_1]
    · rw [if_pos (show ¬ nI (x / 2 ^ i % 2) = 1 from fun w => q ((nI_eq (b := 1) (by omega) (by omega)).mp w)), nI_1]
  · intro i hi e
    simp only [Nat.zero_add] at e ⊢
    simp only [clE, Bool.and_eq_true, decide_eq_true_eq, Bool.not_eq_true', decide_eq_false_iff_not] at e
    simp only [f_X12_joined_l43, rfs, cls]
    have c8 := (V.2 i hi).2.1
    have := and_256 (b := y) c8
    rw [H.1, if_neg (nI_ge hi (by omega)), shr_1 _ hx _ (show i < 8 by omega), e.1, if_neg (not_not_intro (show nI 1 = (1 : Int32) from rfl)), (e_itss (show i < 8 by omega) μ).2.1, bd_s, (H.2 i hi).2.1, nI_and, if_neg (nI_ne0 (by omega) (by omega))]
  · simp only [Nat.zero_add]
    simp only [f_X12_joined_l43, rfs, cls]
    rw [H.1, if_pos (nI_le (Nat.le_refl _) (by omega))]
