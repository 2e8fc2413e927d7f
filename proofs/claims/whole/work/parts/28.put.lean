/-! PURE: put -/
theorem rf_sh {s : Nat} (hs : s < 4) : rf 94 s = 97 + 2 * s ∧ rf (97 + 2 * s) 0 = 98 + 2 * s ∧ ln (98 + 2 * s) = 40 := by
  have : s = 0 ∨ s = 1 ∨ s = 2 ∨ s = 3 := by omega
  rcases this with rfl | rfl | rfl | rfl <;> decide
theorem e_isSheetX (a : Int32) : f_X11_isSheet a = some (if (0 : Int32) ≤ a ∧ a ≤ 3 then 1 else 0) := by
  unfold f_X11_isSheet
  simp only [e_among, bd_s, bz_if, if_true]
theorem e_isSheetM (a : Int32) : f_X12_isSheet a = some (if (0 : Int32) ≤ a ∧ a ≤ 3 then 1 else 0) := by
  unfold f_X12_isSheet
  simp only [e_ins, bd_s, bz_if, if_true]
theorem e_missing {μ : Mem} {c b : Nat} (h : rd μ c 1 = nI b) (hb : b < 100) : f_X6_isMissing μ c = some (if b = 0 then 1 else 0) := by
  unfold f_X6_isMissing
  rw [h]
  by_cases e : b = 0
  · subst e
    rfl
  · rw [if_pos (nI_ne0 (by omega) (by omega)), if_neg e]
theorem e_lowest {μ : Mem} {c b : Nat} (h : rd μ c 1 = nI b) (hb : b = 8 ∨ b = 16 ∨ b = 32) (v : Int32) : f_X6_lowest μ c v = some (lwb b v) := by
  unfold f_X6_lowest
  rw [h]
  rcases hb with rfl | rfl | rfl <;> rfl
theorem sh_put : SH_put Rel := by
  intro μ h a x v
  show OKS (f_X11_put μ 0 a x v) (fun m => f_X12_put m 105 a x v)
  by_cases g1 : (0 : Int32) ≤ a ∧ a ≤ 3
  · obtain ⟨s, hs, rfl⟩ := upto (n := 3) (by omega) g1
    have s4 : s < 4 := by omega
    obtain ⟨b, n, b1, b2, b3, b4, b5, b6, b7, b8⟩ := h.2.2.2.2.1 s s4
    have E := e_missing b3 (by omega)
    by_cases g2 : b = 0
    · refine oks_ref (k := 2) h (by omega) ?_ ?_
      · unfold f_X11_put
        simp only [e_isSheetX, bd_s, if10, i00, i10, g1, and_self, not_true, not_false_eq_true, if_true, if_false, ib_nI s4 (by omega), tn_nI (show s < 2 ^ 31 by omega), rfs, rf_sh s4, E, g2, bd_p]
        rfl
      · intro μ1 hR
        show f_X12_put μ1 105 _ _ _ = _
        unfold f_X12_put
        have c3 : rd μ1 116 s = nI 0 := by rw [hR _ _ (by omega), b4, g2]
        simp only [e_isSheetM, bd_s, if10, i00, i10, g1, and_self, not_true, not_false_eq_true, if_true, if_false, ib_nI s4 (by omega), tn_nI (show s < 2 ^ 31 by omega), rfs, c3, bd_p]
        rw [if_neg (by decide)]
        rfl
    · have bb : b = 8 ∨ b = 16 ∨ b = 32 := b1.resolve_left g2
      by_cases g3 : (0 : Int32) ≤ x ∧ x ≤ nI n - 1
      · obtain ⟨i, hi, rfl⟩ := (isF_iff (by omega)).mp g3
        refine oks_go (r := 1) (μ1 := wr μ (98 + 2 * s) i (lwb b v)) (μ2 := wr (wr μ (98 + 2 * s) i (lwb b v)) 118 (40 * s + i) (sxb b v)) ?_ ?_ ?_
        · unfold f_X11_put
          simp only [e_isSheetX, bd_s, if10, i00, i10, g1, g3, and_self, not_true, not_false_eq_true, if_true, if_false, ib_nI s4 (by omega), tn_nI (show s < 2 ^ 31 by omega), rfs, rf_sh s4, E, g2, b5, e_among, e_lowest b3 bb, ib_nI (show i < 40 by omega) (by omega), tn_nI (show i < 2 ^ 31 by omega)]
        · show f_X12_put _ 105 _ _ _ = _
          unfold f_X12_put f_X12_put_j95
          have c3 : rd (wr μ (98 + 2 * s) i (lwb b v)) 116 s = nI b := by rw [rd_wr_n (by omega), b4]
          have c4 : rd (wr μ (98 + 2 * s) i (lwb b v)) 117 s = nI n := by rw [rd_wr_n (by omega), b6]
          have e1 : (40 : Int32) * nI s + nI i = nI (40 * s + i) := by rw [show (40 : Int32) = nI 40 from rfl, pk_mul, nI_add]
          simp only [e_isSheetM, bd_s, if10, i00, i10, g1, g3, and_self, not_true, not_false_eq_true, if_true, if_false, ib_nI s4 (by omega), tn_nI (show s < 2 ^ 31 by omega), rfs, c3, c4, e_in0, e1, show ln 118 = 160 from rfl, ib_nI (show 40 * s + i < 160 by omega) (by omega), tn_nI (show 40 * s + i < 2 ^ 31 by omega)]
          rw [if_pos (nI_ne0 (by omega) (by omega))]
          rcases bb with rfl | rfl | rfl
          · rw [if_neg (by decide)]
            rfl
          · rw [if_pos (by decide), if_neg (by decide)]
            rfl
          · rw [if_pos (by decide), if_pos (by decide)]
            rfl
        · refine R2_Sh h (fun k j c d => by rw [rd_wr_n (by omega), rd_wr_n (by omega)]) fun s' hs' => ?_
          obtain ⟨b', n', q1, q2, q3, q4, q5, q6, q7, q8⟩ := h.2.2.2.2.1 s' hs'
          refine ⟨b', n', q1, q2, ?_, ?_, ?_, ?_, q7, fun i' hi' => ?_⟩
          · rw [rd_wr_n (by omega), rd_wr_n (by omega), q3]
          · rw [rd_wr_n (by omega), rd_wr_n (by omega), q4]
          · rw [rd_wr_n (by omega), rd_wr_n (by omega), q5]
          · rw [rd_wr_n (by omega), rd_wr_n (by omega), q6]
          · by_cases e : s' = s ∧ i' = i
            · obtain ⟨rfl, rfl⟩ := e
              have eb : b' = b := (nI_eq (by omega) (by omega)).mp (q3.symm.trans b3)
              subst eb
              exact ⟨v, by rw [rd_wr_n (by omega), rd_wr_s], by rw [rd_wr_s]⟩
            · rw [rd_wr_n (by omega), rd_wr_n (by omega), rd_wr_n (by omega), rd_wr_n (by omega)]
              exact q8 i' hi'
      · refine oks_ref (k := 1) h (by omega) ?_ ?_
        · unfold f_X11_put
          simp only [e_isSheetX, bd_s, if10, i00, i10, g1, g3, and_self, not_true, not_false_eq_true, if_true, if_false, ib_nI s4 (by omega), tn_nI (show s < 2 ^ 31 by omega), rfs, rf_sh s4, E, g2, b5, e_among, bd_p]
          rfl
        · intro μ1 hR
          show f_X12_put μ1 105 _ _ _ = _
          unfold f_X12_put
          have c3 : rd μ1 116 s = nI b := by rw [hR _ _ (by omega), b4]
          have c4 : rd μ1 117 s = nI n := by rw [hR _ _ (by omega), b6]
          simp only [e_isSheetM, bd_s, if10, i00, i10, g1, g3, and_self, not_true, not_false_eq_true, if_true, if_false, ib_nI s4 (by omega), tn_nI (show s < 2 ^ 31 by omega), rfs, c3, c4, e_in0, bd_p]
          rw [if_pos (nI_ne0 (by omega) (by omega))]
          rfl
  · refine oks_ref (k := 1) h (by omega) ?_ ?_
    · unfold f_X11_put
      simp only [e_isSheetX, bd_s, if10, i00, i10, g1, not_true, not_false_eq_true, if_true, if_false, bd_p]
      rfl
    · intro μ1 hR
      show f_X12_put μ1 105 _ _ _ = _
      unfold f_X12_put
      simp only [e_isSheetM, bd_s, if10, i00, i10, g1, not_true, not_false_eq_true, if_true, if_false, bd_p]
      rfl
