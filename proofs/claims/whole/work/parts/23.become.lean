/-! PURE: become, lend, pardon -/
theorem sh_become : SH_become Rel := by
  intro μ h a x
  show OKS (f_X11_become μ 0 a x) (fun m => f_X12_become m 105 a x)
  obtain ⟨n, nd, cl, wi, wt, bi, N, w, kd, m, db, br, s, bk, wk, H⟩ := h.1.1.2
  have N4 : N ≤ 4 := H.2.2.2.2.2.1
  have c1 : rd μ 14 3 = nI N := H.2.2.2.1.1
  have c2 : rd μ 106 1 = nI N := H.2.2.2.2.1.1
  by_cases g : ((0 : Int32) ≤ a ∧ a ≤ nI N - 1) ∧ ((0 : Int32) ≤ x ∧ x ≤ 69)
  · obtain ⟨g1, g2⟩ := g
    obtain ⟨p, hp, rfl⟩ := (isF_iff (by omega)).mp g1
    obtain ⟨y, hy, rfl⟩ := upto (n := 69) (by omega) g2
    obtain ⟨p1, p2, p3, p4, p5, p6, p7⟩ := H.2.2.2.1.2.2 p hp
    obtain ⟨r1, r2, r3, r4, r5, r6⟩ := H.2.2.2.2.1.2.2 p hp
    obtain ⟨d1, d2, d3, d4, d5, d6, d7⟩ := H.2.2.2.2.2.2.2 p hp
    have q1 : nI y / 10 = nI (y / 10) := pk_div (d := 10) (by omega) (by omega) (by omega)
    have q2 : jrem (nI y) 10 = nI (y % 10) := j_rem (y := 10) (by omega) (by omega) (by omega)
    refine oks_go (r := nI (kd p)) (μ1 := wr (wr μ (16 + 3 * p) 4 (nI (y / 10))) (16 + 3 * p) 5 (nI (y % 10))) (μ2 := wr (wr (wr (wr μ (16 + 3 * p) 4 (nI (y / 10))) (16 + 3 * p) 5 (nI (y % 10))) 106 (50 + 21 * p) (nI (y / 10))) 106 (51 + 21 * p) (nI (y % 10))) ?_ ?_ ?_
    · unfold f_X11_become
      simp only [e_isDebX c1, bd_s, if10, i00, i10, g1, g2, and_self, not_true, not_false_eq_true, if_true, if_false, ib_nI (show p < 4 by omega) (by omega), tn_nI (show p < 2 ^ 31 by omega), e_among, rfs, rf_15 (show p < 4 by omega), q1, q2]
      rw [show rd μ (16 + 3 * p) 4 = nI (kd p) from p3]
    · show f_X12_become _ 105 _ _ = _
      unfold f_X12_become
      have e1 : rd (wr (wr μ (16 + 3 * p) 4 (nI (y / 10))) (16 + 3 * p) 5 (nI (y % 10))) 106 1 = nI N := by rw [rd_wr_n (by omega), rd_wr_n (by omega), c2]
      have e2 : rd (wr (wr μ (16 + 3 * p) 4 (nI (y / 10))) (16 + 3 * p) 5 (nI (y % 10))) 106 (50 + 21 * p) = nI (kd p) := by rw [rd_wr_n (by omega), rd_wr_n (by omega), r1]
      simp only [e_isDebM e1, bd_s, if10, i00, i10, g1, g2, and_self, not_true, not_false_eq_true, if_true, if_false, e_ins, q1, q2, e_ofs (show p < 4 by omega), e_setss (show p < 4 by omega), e2]
    · refine R2_FT h (fun k j c d => by simp (discharger := omega) only [rd_wr_n]) (fun p' hp' => by show bz (rd _ (16 + 3 * p') 7) = true; simp (discharger := omega) only [rd_wr_n]; exact h.1.1.1 p' hp') (PFT_R (RFT_one H (by omega) (p := p) (kd' := y / 10) (m' := y % 10) (db' := db p) (br' := br p) (s' := s p) (bk' := bk p) (wk' := wk p) hp (fun k j c d => by simp (discharger := omega) only [rd_wr_n]) (fun j c d => by simp (discharger := omega) only [rd_wr_n]) ⟨?_, ?_, ?_, ?_, ?_, ?_, fun i hi => ?_⟩ ⟨?_, ?_, ?_, ?_, ?_, fun i hi => ?_⟩ ⟨by omega, by omega, d3, d4, d5, d6, d7⟩))
      · simp (discharger := omega) only [rd_wr_n]; exact p1
      · simp (discharger := omega) only [rd_wr_n]; exact p2
      · rw [show 14 + 2 + 3 * p = 16 + 3 * p by omega]; simp (discharger := omega) only [rd_wr_n, rd_wr_s]
      · rw [show 14 + 2 + 3 * p = 16 + 3 * p by omega]; simp (discharger := omega) only [rd_wr_n, rd_wr_s]
      · simp (discharger := omega) only [rd_wr_n]; exact p5
      · simp (discharger := omega) only [rd_wr_n]; exact p6
      · simp (discharger := omega) only [rd_wr_n]; exact p7 i hi
      · simp (discharger := omega) only [rd_wr_n, rd_wr_s]
      · simp (discharger := omega) only [rd_wr_n, rd_wr_s]
      · simp (discharger := omega) only [rd_wr_n]; exact r3
      · simp (discharger := omega) only [rd_wr_n]; exact r4
      · simp (discharger := omega) only [rd_wr_n]; exact r5
      · simp (discharger := omega) only [rd_wr_n]; exact r6 i hi
  · refine oks_ref (k := 1) h (by omega) ?_ ?_
    · unfold f_X11_become f_X11_become_j18
      simp only [e_isDebX c1, e_among, bd_s, if10, bd_p, i00, i10]
      by_cases g1 : (0 : Int32) ≤ a ∧ a ≤ nI N - 1
      · have g2 : ¬ ((0 : Int32) ≤ x ∧ x ≤ 69) := fun q => g ⟨g1, q⟩
        simp only [g1, g2, and_self, not_true, if_false, not_false_eq_true, if_true]
        rfl
      · simp only [g1, not_false_eq_true, if_true]
        rfl
    · intro μ1 hR
      show f_X12_become μ1 105 _ _ = _
      unfold f_X12_become f_X12_become_j20
      have c3 : rd μ1 106 1 = nI N := by rw [hR _ _ (by omega), c2]
      simp only [e_isDebM c3, e_ins, bd_s, if10, bd_p, i00, i10]
      by_cases g1 : (0 : Int32) ≤ a ∧ a ≤ nI N - 1
      · have g2 : ¬ ((0 : Int32) ≤ x ∧ x ≤ 69) := fun q => g ⟨g1, q⟩
        simp only [g1, g2, and_self, not_true, if_false, not_false_eq_true, if_true]
        rfl
      · simp only [g1, not_false_eq_true, if_true]
        rfl
