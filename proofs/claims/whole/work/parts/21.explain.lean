/-! PURE: explain -/
/-- facts anew at one place (by the same number of facts) -/
theorem sh_explain : SH_explain Rel := by
  intro μ h a x b
  show OKS (f_X11_explain μ 0 a x b) (fun m => f_X12_explain m 105 a x b)
  obtain ⟨n, nd, cl, wi, wt, bi, N, w, kd, m, db, br, s, bk, wk, h1, h2, h3, h4, h5, h6⟩ := h.1.1.2
  have n8 : n ≤ 8 := h3.1
  have c1 : rd μ 2 5 = nI n := h1.1
  have c2 : rd μ 106 0 = nI n := h2.1
  by_cases g : ((0 : Int32) ≤ a ∧ a ≤ nI n - 1) ∧ ((0 : Int32) ≤ x ∧ x ≤ 9) ∧ (x ≤ 0 ∨ ((0 : Int32) ≤ b ∧ b ≤ nI n - 1) ∧ ¬ b = a)
  · obtain ⟨g1, g2, g3⟩ := g
    obtain ⟨i, hi, rfl⟩ := (isF_iff (by omega)).mp g1
    obtain ⟨y, hy, rfl⟩ := upto (n := 9) (by omega) g2
    obtain ⟨p1, p2, p3, p4, p5⟩ := h1.2 i hi
    obtain ⟨r1, r2, r3, r4, r5⟩ := h2.2 i hi
    have hb : ∃ B : Int32, (B = if nI y ≤ 0 then -1 else b) ∧ ((y = 0 ∧ B = -1) ∨ (0 < y ∧ ∃ j, j < n ∧ B = nI j)) := by
      refine ⟨_, rfl, ?_⟩
      by_cases e : y = 0
      · subst e
        exact Or.inl ⟨rfl, rfl⟩
      · have e0 : ¬ nI y ≤ 0 := nI_nle (by omega) (by omega)
        rw [if_neg e0]
        rcases g3 with q | ⟨q, _⟩
        · exact absurd q e0
        · exact Or.inr ⟨by omega, (isF_iff (by omega)).mp q⟩
    obtain ⟨B, hB, hB2⟩ := hb
    refine oks_go (r := nI (wi i)) (μ1 := wr (wr μ 5 i (nI y)) 6 i B) (μ2 := wr (wr (wr (wr μ 5 i (nI y)) 6 i B) 106 (12 + 5 * i) (nI y)) 106 (13 + 5 * i) B) ?_ ?_ ?_
    · unfold f_X11_explain f_X11_explain_j47 f_X11_explain_j94
      simp only [e_isFactX c1, bd_s, if10, i00, i10, g1, g2, and_self, not_true, not_false_eq_true, if_true, if_false, ib_nI (show i < 8 by omega) (by omega), tn_nI (show i < 2 ^ 31 by omega), e_among, rfs, show rd μ 5 i = nI (wi i) from p3, show ln 6 = 8 from rfl]
      by_cases e : nI y ≤ 0
      · rw [if_pos e, if_pos e, hB, if_pos e]
      · obtain ⟨q1, q2⟩ := g3.resolve_left e
        simp only [e, q1, q2, and_self, not_true, not_false_eq_true, if_true, if_false, hB]
    · show f_X12_explain _ 105 _ _ _ = _
      unfold f_X12_explain f_X12_explain_j43 f_X12_explain_j70
      have e1 : rd (wr (wr μ 5 i (nI y)) 6 i B) 106 0 = nI n := by rw [rd_wr_n (by omega), rd_wr_n (by omega), c2]
      have e2 : rd (wr (wr μ 5 i (nI y)) 6 i B) 106 (12 + 5 * i) = nI (wi i) := by rw [rd_wr_n (by omega), rd_wr_n (by omega), r3]
      simp only [e_isFactM e1, bd_s, if10, i00, i10, g1, g2, and_self, not_true, not_false_eq_true, if_true, if_false, e_ins, e_itss (show i < 8 by omega), e_putss (show i < 8 by omega), e2]
      by_cases e : nI y ≤ 0
      · rw [if_pos e, if_pos e, hB, if_pos e]
      · obtain ⟨q1, q2⟩ := g3.resolve_left e
        simp only [e, q1, q2, and_self, not_true, not_false_eq_true, if_true, if_false, hB]
    · refine R2_FT h (fun k j c d => by rw [rd_wr_n (by omega), rd_wr_n (by omega), rd_wr_n (by omega), rd_wr_n (by omega)]) (fun p' hp' => by show bz (rd _ (16 + 3 * p') 7) = true; simp (discharger := omega) only [rd_wr_n]; exact h.1.1.1 p' hp') ⟨n, nd, cl, up wi i y, wt, up bi i B, N, w, kd, m, db, br, s, bk, wk, ⟨?_, fun k hk => ?_⟩, ⟨?_, fun k hk => ?_⟩, ⟨by omega, fun k hk => ?_⟩, ?_, ?_, h6⟩
      · simp (discharger := omega) only [rd_wr_n, c1]
      · obtain ⟨t1, t2, t3, t4, t5⟩ := h1.2 k hk
        by_cases e : k = i
        · subst e
          simp (discharger := omega) only [rd_wr_n, rd_wr_s, up_s]
          exact ⟨t1, t2, trivial, trivial, t5⟩
        · simp (discharger := omega) only [rd_wr_n, up_n e]
          exact ⟨t1, t2, t3, t4, t5⟩
      · simp (discharger := omega) only [rd_wr_n, c2]
      · obtain ⟨t1, t2, t3, t4, t5⟩ := h2.2 k hk
        by_cases e : k = i
        · subst e
          simp (discharger := omega) only [rd_wr_n, rd_wr_s, up_s]
          exact ⟨t1, t2, trivial, trivial, t5⟩
        · simp (discharger := omega) only [rd_wr_n, up_n e]
          exact ⟨t1, t2, t3, t4, t5⟩
      · obtain ⟨t1, t2, t3, t4, t5⟩ := h3.2 k hk
        by_cases e : k = i
        · subst e
          rw [up_s, up_s]
          exact ⟨t1, t2, hy, t4, hB2⟩
        · rw [up_n e, up_n e]
          exact ⟨t1, t2, t3, t4, t5⟩
      · exact TX_cg h6.1 (fun k j a b => by simp (discharger := omega) only [rd_wr_n]) h4
      · exact TM_cg h6.1 (fun p hp => (h6.2.2 p hp).2.2.2.2.1) (fun j a => by simp (discharger := omega) only [rd_wr_n]) h5
  · refine oks_ref (k := 1) h (by omega) ?_ ?_
    · unfold f_X11_explain f_X11_explain_j18 f_X11_explain_j41
      simp only [e_isFactX c1, e_among, bd_s, if10, bd_p, i00, i10]
      by_cases g1 : (0 : Int32) ≤ a ∧ a ≤ nI n - 1
      · by_cases g2 : (0 : Int32) ≤ x ∧ x ≤ 9
        · have g3 : ¬ x ≤ 0 := fun q => g ⟨g1, g2, Or.inl q⟩
          by_cases g4 : (0 : Int32) ≤ b ∧ b ≤ nI n - 1
          · have g5 : b = a := Classical.byContradiction fun q => g ⟨g1, g2, Or.inr ⟨g4, q⟩⟩
            subst g5
            simp only [g1, g2, g3, and_self, not_true, not_false_eq_true, if_true, if_false]
            rfl
          · simp only [g1, g2, g3, g4, and_self, not_true, not_false_eq_true, if_true, if_false]
            rfl
        · simp only [g1, g2, and_self, not_true, if_false, not_false_eq_true, if_true]
          rfl
      · simp only [g1, not_false_eq_true, if_true]
        rfl
    · intro μ1 hR
      show f_X12_explain μ1 105 _ _ _ = _
      unfold f_X12_explain f_X12_explain_j37
      have c3 : rd μ1 106 0 = nI n := by rw [hR _ _ (by omega), c2]
      simp only [e_isFactM c3, e_ins, bd_s, if10, bd_p, i00, i10]
      by_cases g1 : (0 : Int32) ≤ a ∧ a ≤ nI n - 1
      · by_cases g2 : (0 : Int32) ≤ x ∧ x ≤ 9
        · have g3 : ¬ x ≤ 0 := fun q => g ⟨g1, g2, Or.inl q⟩
          by_cases g4 : (0 : Int32) ≤ b ∧ b ≤ nI n - 1
          · have g5 : b = a := Classical.byContradiction fun q => g ⟨g1, g2, Or.inr ⟨g4, q⟩⟩
            subst g5
            simp only [g1, g2, g3, and_self, not_true, not_false_eq_true, if_true, if_false]
            rfl
          · simp only [g1, g2, g3, g4, and_self, not_true, not_false_eq_true, if_true, if_false]
            rfl
        · simp only [g1, g2, and_self, not_true, if_false, not_false_eq_true, if_true]
          rfl
      · simp only [g1, not_false_eq_true, if_true]
        rfl
