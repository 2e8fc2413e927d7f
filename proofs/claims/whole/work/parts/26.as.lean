/-! PURE: as -/
def abv (kd : Nat) : Nat := if kd < 4 then 0 else kd - 3
theorem above_all : ∀ kd, kd < 7 → f_X12_above (nI kd) = some (nI (abv kd)) := by decide +kernel
theorem e_is {μ : Mem} {c kd a : Nat} (h : rd μ c 4 = nI kd) (hk : kd < 7) (ha : a < 7) : f_X0_is μ c (nI a) = some (if a = 0 ∨ a = kd ∨ a = abv kd then 1 else 0) := by
  unfold f_X0_is
  rw [h]
  exact is_all kd hk a ha
theorem e_isKind (a : Int32) : f_X11_isKind a = some (if (0 : Int32) ≤ a ∧ a ≤ 6 then 1 else 0) := by
  unfold f_X11_isKind
  simp only [e_among, bd_s, bz_if, if_true]
theorem sh_as : SH_as Rel := by
  intro μ h a x
  show OKS (f_X11_as μ 0 a x) (fun m => f_X12_as m 105 a x)
  obtain ⟨n, nd, cl, wi, wt, bi, N, w, kd, m, db, br, s, bk, wk, H⟩ := h.1.1.2
  have N4 : N ≤ 4 := H.2.2.2.2.2.1
  have c1 : rd μ 14 3 = nI N := H.2.2.2.1.1
  have c2 : rd μ 106 1 = nI N := H.2.2.2.2.1.1
  by_cases g : ((0 : Int32) ≤ a ∧ a ≤ nI N - 1) ∧ ((0 : Int32) ≤ x ∧ x ≤ 6)
  · obtain ⟨g1, g2⟩ := g
    obtain ⟨p, hp, rfl⟩ := (isF_iff (by omega)).mp g1
    obtain ⟨y, hy, rfl⟩ := upto (n := 6) (by omega) g2
    obtain ⟨p1, p2, p3, p4, p5, p6, p7⟩ := H.2.2.2.1.2.2 p hp
    obtain ⟨r1, r2, r3, r4, r5, r6⟩ := H.2.2.2.2.1.2.2 p hp
    obtain ⟨d1, d2, d3, d4, d5, d6, d7⟩ := H.2.2.2.2.2.2.2 p hp
    have E := e_is (c := 16 + 3 * p) (a := y) (show rd μ (16 + 3 * p) 4 = nI (kd p) from p3) (by omega) (by omega)
    by_cases g3 : y = 0 ∨ y = kd p ∨ y = abv (kd p)
    · refine oks_go (r := nI (m p)) (μ1 := μ) (μ2 := μ) ?_ ?_ h
      · unfold f_X11_as
        simp only [e_isDebX c1, e_isKind, bd_s, if10, i00, i10, g1, g2, and_self, not_true, not_false_eq_true, if_true, if_false, ib_nI (show p < 4 by omega) (by omega), tn_nI (show p < 2 ^ 31 by omega), e_among, rfs, rf_15 (show p < 4 by omega), E, bz_if, show rd μ (16 + 3 * p) 5 = nI (m p) from p4]
        rw [if_neg (not_not_intro g3)]
      · show f_X12_as _ 105 _ _ = _
        unfold f_X12_as f_X12_as_j50
        simp only [e_isDebM c2, bd_s, if10, i00, i10, g1, g2, and_self, not_true, not_false_eq_true, if_true, if_false, e_ins, e_ofs (show p < 4 by omega), r1, r2, above_all (kd p) (by omega)]
        by_cases e1 : y = 0
        · subst e1
          rfl
        · rw [if_neg (nI_ne0 (by omega) (by omega))]
          by_cases e2 : y = kd p
          · rw [if_pos (by rw [e2])]
          · rw [if_neg (fun q => e2 ((nI_eq (by omega) (by omega)).mp q))]
            have e3 : y = abv (kd p) := (g3.resolve_left e1).resolve_left e2
            rw [if_neg (not_not_intro (by rw [e3]))]
    · have ab : abv (kd p) < 7 := by unfold abv; split <;> omega
      refine oks_ref (k := 5) h (by omega) ?_ ?_
      · unfold f_X11_as
        simp only [e_isDebX c1, e_isKind, bd_s, if10, i00, i10, g1, g2, and_self, not_true, not_false_eq_true, if_true, if_false, ib_nI (show p < 4 by omega) (by omega), tn_nI (show p < 2 ^ 31 by omega), e_among, rfs, rf_15 (show p < 4 by omega), E, bz_if, bd_p]
        rw [if_pos g3]
        rfl
      · intro μ1 hR
        show f_X12_as μ1 105 _ _ = _
        unfold f_X12_as
        have c3 : rd μ1 106 1 = nI N := by rw [hR _ _ (by omega), c2]
        have c4 : rd μ1 106 (50 + 21 * p) = nI (kd p) := by rw [hR _ _ (by omega), r1]
        simp only [e_isDebM c3, bd_s, if10, i00, i10, g1, g2, and_self, not_true, not_false_eq_true, if_true, if_false, e_ins, e_ofs (show p < 4 by omega), c4, above_all (kd p) (by omega), bd_p]
        rw [if_neg (nI_ne0 (by omega) (by omega)), if_neg (fun q => g3 (Or.inr (Or.inl ((nI_eq (by omega) (by omega)).mp q)))), if_pos (fun q => g3 (Or.inr (Or.inr ((nI_eq (by omega) (by omega)).mp q))))]
        rfl
  · refine oks_ref (k := 1) h (by omega) ?_ ?_
    · unfold f_X11_as f_X11_as_j15
      simp only [e_isDebX c1, e_isKind, e_among, bd_s, if10, bd_p, i00, i10, bz_if, if_true]
      by_cases g1 : (0 : Int32) ≤ a ∧ a ≤ nI N - 1
      · have g2 : ¬ ((0 : Int32) ≤ x ∧ x ≤ 6) := fun q => g ⟨g1, q⟩
        simp only [g1, g2, and_self, not_true, if_false, not_false_eq_true, if_true]
        rfl
      · simp only [g1, not_false_eq_true, if_true]
        rfl
    · intro μ1 hR
      show f_X12_as μ1 105 _ _ = _
      unfold f_X12_as f_X12_as_j20
      have c3 : rd μ1 106 1 = nI N := by rw [hR _ _ (by omega), c2]
      simp only [e_isDebM c3, e_ins, bd_s, if10, bd_p, i00, i10]
      by_cases g1 : (0 : Int32) ≤ a ∧ a ≤ nI N - 1
      · have g2 : ¬ ((0 : Int32) ≤ x ∧ x ≤ 6) := fun q => g ⟨g1, q⟩
        simp only [g1, g2, and_self, not_true, if_false, not_false_eq_true, if_true]
        rfl
      · simp only [g1, not_false_eq_true, if_true]
        rfl
