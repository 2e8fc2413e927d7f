/-! PURE: debtor, book -/
theorem sh_debtor : SH_debtor Rel := by
  intro μ h a x
  show OKS (f_X11_debtor μ 0 a x) (fun m => f_X12_debtor m 105 a x)
  obtain ⟨n, nd, cl, wi, wt, bi, N, w, kd, m, db, br, s, bk, wk, H⟩ := h.1.1.2
  have N4 : N ≤ 4 := H.2.2.2.2.2.1
  have c1 : rd μ 14 3 = nI N := H.2.2.2.1.1
  have c2 : rd μ 106 1 = nI N := H.2.2.2.2.1.1
  by_cases g : ((0 : Int32) ≤ a ∧ a ≤ 69) ∧ ((0 : Int32) ≤ x ∧ x ≤ 9999)
  · obtain ⟨g1, g2⟩ := g
    obtain ⟨y, hy, rfl⟩ := upto (n := 69) (by omega) g1
    obtain ⟨z, hz, rfl⟩ := upto (n := 9999) (by omega) g2
    have q1 : nI y / 10 = nI (y / 10) := pk_div (d := 10) (by omega) (by omega) (by omega)
    have q2 : jrem (nI y) 10 = nI (y % 10) := j_rem (y := 10) (by omega) (by omega) (by omega)
    by_cases hn : N < 4
    · have R := rf_15 hn
      refine oks_go (r := nI N) (μ1 := wr (wr (wr (wr (wr (wr (wr (wr μ (16 + 3 * N) 6 0) (16 + 3 * N) 2 0) (16 + 3 * N) 3 0) (16 + 3 * N) 7 0) (16 + 3 * N) 4 (nI (y / 10))) (16 + 3 * N) 5 (nI (y % 10))) (16 + 3 * N) 6 (nI z)) 14 3 (nI (N + 1))) (μ2 := wr (wr (wr (wr (wr (wr (wr (wr (wr (wr (wr (wr (wr (wr μ (16 + 3 * N) 6 0) (16 + 3 * N) 2 0) (16 + 3 * N) 3 0) (16 + 3 * N) 7 0) (16 + 3 * N) 4 (nI (y / 10))) (16 + 3 * N) 5 (nI (y % 10))) (16 + 3 * N) 6 (nI z)) 14 3 (nI (N + 1))) 106 1 (nI (N + 1))) 106 (50 + 21 * N) (nI (y / 10))) 106 (51 + 21 * N) (nI (y % 10))) 106 (52 + 21 * N) (nI z)) 106 (53 + 21 * N) 0) 106 (54 + 21 * N) 0) ?_ ?_ ?_
      · unfold f_X11_debtor f_X8_add f_X0_letOff
        simp only [rfs, c1, e_among, bd_s, if10, i00, i10, g1, g2, and_self, not_true, not_false_eq_true, if_true, if_false, ib_nI hn (by omega), tn_nI (show N < 2 ^ 31 by omega), R, q1, q2]
        rw [if_pos (show nI N < 4 from nI_lt (b := 4) hn (by omega)), if_neg (show ¬ 4 ≤ nI N from nI_ge (b := 4) hn (by omega))]
        simp (discharger := omega) only [rd_wr_n, c1, nI_1, bd_s]
      · show f_X12_debtor _ 105 _ _ = _
        generalize hμ : wr (wr (wr (wr (wr (wr (wr (wr μ (16 + 3 * N) 6 0) (16 + 3 * N) 2 0) (16 + 3 * N) 3 0) (16 + 3 * N) 7 0) (16 + 3 * N) 4 (nI (y / 10))) (16 + 3 * N) 5 (nI (y % 10))) (16 + 3 * N) 6 (nI z)) 14 3 (nI (N + 1)) = μ1
        have e1 : rd μ1 106 1 = nI N := by rw [← hμ]; simp (discharger := omega) only [rd_wr_n, c2]
        unfold f_X12_debtor
        simp only [rfs, cls, e1, e_ins, bd_s, if10, i00, i10, g1, g2, and_self, not_true, not_false_eq_true, if_true, if_false, q1, q2, e_setss hn, nI_1]
        rw [if_pos (show ¬ nI N = 4 from fun q => by have := (nI_eq (b := 4) (by omega) (by omega)).mp q; omega)]
      · refine R2_FT h (fun k j c d => by simp (discharger := omega) only [rd_wr_n]) (fun p' hp' => by
        show bz (rd _ (16 + 3 * p') 7) = true
        by_cases e : p' = N
        · rw [e]; simp (discharger := omega) only [rd_wr_n, rd_wr_s]; rfl
        · simp (discharger := omega) only [rd_wr_n]; exact h.1.1.1 p' hp') ⟨n, nd, cl, wi, wt, bi, N + 1, w, up kd N (y / 10), up m N (y % 10), up db N z, up br N 0, up s N 0, bk, wk, ?_, ?_, H.2.2.1, ⟨?_, ?_, fun p hp => ?_⟩, ⟨?_, ?_, fun p hp => ?_⟩, ⟨by omega, H.2.2.2.2.2.2.1, fun p hp => ?_⟩⟩
        · exact FX_cg (fun k j a b => by simp (discharger := omega) only [rd_wr_n]) H.1
        · exact FM_cg H.2.2.1.1 (fun j a => by simp (discharger := omega) only [rd_wr_n]) H.2.1
        · simp (discharger := omega) only [rd_wr_n, rd_wr_s]
        · simp (discharger := omega) only [rd_wr_n]; exact H.2.2.2.1.2.1
        · by_cases e : p = N
          · subst e
            simp only [up_s]
            rw [show 14 + 2 + 3 * p = 16 + 3 * p by omega]
            refine ⟨?_, ?_, ?_, ?_, ?_, ?_, fun i hi => absurd hi (by omega)⟩
            all_goals simp (discharger := omega) only [rd_wr_n, rd_wr_s]
            all_goals rfl
          · simp only [up_n e]
            exact DX_cg (fun k j b c => by simp (discharger := omega) only [rd_wr_n]) (H.2.2.2.1.2.2 p (by omega))
        · simp (discharger := omega) only [rd_wr_n, rd_wr_s]
        · simp (discharger := omega) only [rd_wr_n]; exact H.2.2.2.2.1.2.1
        · by_cases e : p = N
          · subst e
            simp only [up_s]
            refine ⟨?_, ?_, ?_, ?_, ?_, fun i hi => absurd hi (by omega)⟩
            all_goals simp (discharger := omega) only [rd_wr_n, rd_wr_s]
            all_goals rfl
          · simp only [up_n e]
            exact DM_cg (H.2.2.2.2.2.2.2 p (by omega)).2.2.2.2.1 (fun j b c => by simp (discharger := omega) only [rd_wr_n]) (H.2.2.2.2.1.2.2 p (by omega))
        · by_cases e : p = N
          · subst e
            simp only [up_s]
            exact ⟨by omega, by omega, by omega, by omega, by omega, fun i hi => absurd hi (by omega), fun i j hi => absurd hi (by omega)⟩
          · simp only [up_n e]
            exact H.2.2.2.2.2.2.2 p (by omega)
    · have e : N = 4 := by omega
      subst e
      refine oks_ref (k := 4) h (by omega) ?_ ?_
      · unfold f_X11_debtor
        simp only [rfs, c1, e_among, bd_s, if10, i00, i10, g1, g2, and_self, not_true, not_false_eq_true, if_true, if_false, bd_p]
        rw [if_neg (by decide)]
        rfl
      · intro μ1 hR
        show f_X12_debtor μ1 105 _ _ = _
        unfold f_X12_debtor
        have c3 : rd μ1 106 1 = nI 4 := by rw [hR _ _ (by omega), c2]
        simp only [rfs, cls, c3, e_ins, bd_s, if10, i00, i10, g1, g2, and_self, not_true, not_false_eq_true, if_true, if_false, bd_p]
        rw [if_neg (by decide)]
        rfl
  · refine oks_ref (k := 1) h (by omega) ?_ ?_
    · unfold f_X11_debtor f_X11_debtor_j21
      simp only [e_among, bd_s, if10, bd_p, i00, i10]
      by_cases g1 : (0 : Int32) ≤ a ∧ a ≤ 69
      · have g2 : ¬ ((0 : Int32) ≤ x ∧ x ≤ 9999) := fun q => g ⟨g1, q⟩
        simp only [g1, g2, and_self, not_true, if_false, not_false_eq_true, if_true]
        rfl
      · simp only [g1, not_false_eq_true, if_true]
        rfl
    · intro μ1 hR
      show f_X12_debtor μ1 105 _ _ = _
      unfold f_X12_debtor f_X12_debtor_j24
      simp only [e_ins, bd_s, if10, bd_p, i00, i10]
      by_cases g1 : (0 : Int32) ≤ a ∧ a ≤ 69
      · have g2 : ¬ ((0 : Int32) ≤ x ∧ x ≤ 9999) := fun q => g ⟨g1, q⟩
        simp only [g1, g2, and_self, not_true, if_false, not_false_eq_true, if_true]
        rfl
      · simp only [g1, not_false_eq_true, if_true]
        rfl
theorem sh_book : SH_book Rel := by
  intro μ h a x v
  show OKS (f_X11_book μ 0 a x v) (fun m => f_X12_book m 105 a x v)
  obtain ⟨n, nd, cl, wi, wt, bi, N, w, kd, m, db, br, s, bk, wk, H⟩ := h.1.1.2
  have N4 : N ≤ 4 := H.2.2.2.2.2.1
  have n8 : n ≤ 8 := H.2.2.1.1
  have c1 : rd μ 14 3 = nI N := H.2.2.2.1.1
  have c2 : rd μ 106 1 = nI N := H.2.2.2.2.1.1
  by_cases g : ((0 : Int32) ≤ a ∧ a ≤ nI N - 1) ∧ ((0 : Int32) ≤ v ∧ v ≤ 1)
  · obtain ⟨g1, g2⟩ := g
    obtain ⟨p, hp, rfl⟩ := (isF_iff (by omega)).mp g1
    obtain ⟨y, hy, rfl⟩ := upto (n := 1) (by omega) g2
    obtain ⟨p1, p2, p3, p4, p5, p6, p7⟩ := H.2.2.2.1.2.2 p hp
    obtain ⟨r1, r2, r3, r4, r5, r6⟩ := H.2.2.2.2.1.2.2 p hp
    obtain ⟨d1, d2, d3, d4, d5, d6, d7⟩ := H.2.2.2.2.2.2.2 p hp
    by_cases g3 : (0 : Int32) ≤ x ∧ x ≤ nI (s p) - 1
    · obtain ⟨i, hi, rfl⟩ := (isF_iff (by omega)).mp g3
      have b8 : bk p i < n := (d6 i hi).1
      refine oks_go (r := if y = 0 then nI (bk p i) else nI (wk p i)) (μ1 := μ) (μ2 := μ) ?_ ?_ h
      · unfold f_X11_book
        simp only [e_isDebX c1, bd_s, if10, i00, i10, g1, g2, g3, and_self, not_true, not_false_eq_true, if_true, if_false, ib_nI (show p < 4 by omega) (by omega), tn_nI (show p < 2 ^ 31 by omega), e_among, rfs, rf_15 (show p < 4 by omega), show rd μ (16 + 3 * p) 3 = nI (s p) from p2, ib_nI (show i < 8 by omega) (by omega), tn_nI (show i < 2 ^ 31 by omega), show rd μ (17 + 3 * p) i = nI (bk p i) by rw [show 17 + 3 * p = 14 + 2 + 3 * p + 1 by omega]; exact (p7 i hi).1, ib_nI (show bk p i < 8 by omega) (by omega), tn_nI (show bk p i < 2 ^ 31 by omega), show rd μ (18 + 3 * p) (bk p i) = nI (wk p i) by rw [show 18 + 3 * p = 14 + 2 + 3 * p + 2 by omega]; exact (p7 i hi).2]
        by_cases e : y = 0
        · subst e
          rfl
        · rw [if_pos (nI_ne0 (by omega) (by omega)), if_neg e]
      · show f_X12_book _ 105 _ _ _ = _
        unfold f_X12_book f_X12_book_j64
        simp only [e_isDebM c2, bd_s, if10, i00, i10, g1, g2, g3, and_self, not_true, not_false_eq_true, if_true, if_false, e_ins, e_in0, e_ofs (show p < 4 by omega), r5, e_ofi (show p < 4 by omega) (show i < 8 by omega), (r6 i hi).1, (r6 i hi).2]
        by_cases e : y = 0
        · subst e
          rfl
        · rw [if_pos (nI_ne0 (by omega) (by omega)), if_neg e]
    · refine oks_ref (k := 2) h (by omega) ?_ ?_
      · unfold f_X11_book
        simp only [e_isDebX c1, bd_s, if10, i00, i10, g1, g2, g3, and_self, not_true, not_false_eq_true, if_true, if_false, ib_nI (show p < 4 by omega) (by omega), tn_nI (show p < 2 ^ 31 by omega), e_among, rfs, rf_15 (show p < 4 by omega), show rd μ (16 + 3 * p) 3 = nI (s p) from p2, bd_p]
        rfl
      · intro μ1 hR
        show f_X12_book μ1 105 _ _ _ = _
        unfold f_X12_book
        have c3 : rd μ1 106 1 = nI N := by rw [hR _ _ (by omega), c2]
        have c4 : rd μ1 106 (54 + 21 * p) = nI (s p) := by rw [hR _ _ (by omega), r5]
        simp only [e_isDebM c3, bd_s, if10, i00, i10, g1, g2, g3, and_self, not_true, not_false_eq_true, if_true, if_false, e_ins, e_in0, e_ofs (show p < 4 by omega), c4, bd_p]
        rfl
  · refine oks_ref (k := 1) h (by omega) ?_ ?_
    · unfold f_X11_book f_X11_book_j17
      simp only [e_isDebX c1, e_among, bd_s, if10, bd_p, i00, i10]
      by_cases g1 : (0 : Int32) ≤ a ∧ a ≤ nI N - 1
      · have g2 : ¬ ((0 : Int32) ≤ v ∧ v ≤ 1) := fun q => g ⟨g1, q⟩
        simp only [g1, g2, and_self, not_true, if_false, not_false_eq_true, if_true]
        rfl
      · simp only [g1, not_false_eq_true, if_true]
        rfl
    · intro μ1 hR
      show f_X12_book μ1 105 _ _ _ = _
      unfold f_X12_book f_X12_book_j18
      have c3 : rd μ1 106 1 = nI N := by rw [hR _ _ (by omega), c2]
      simp only [e_isDebM c3, e_ins, bd_s, if10, bd_p, i00, i10]
      by_cases g1 : (0 : Int32) ≤ a ∧ a ≤ nI N - 1
      · have g2 : ¬ ((0 : Int32) ≤ v ∧ v ≤ 1) := fun q => g ⟨g1, q⟩
        simp only [g1, g2, and_self, not_true, if_false, not_false_eq_true, if_true]
        rfl
      · simp only [g1, not_false_eq_true, if_true]
        rfl
theorem is_all : ∀ kd, kd < 7 → ∀ c, c < 7 → ((lp (fun s => f_X0_is_l7 μz 0 (nI c) s.1 s.2) FU (nI kd, (0 : Int32))).bind fun e => f_X0_is_j30 μz 0 (nI c) e) = some (if c = 0 ∨ c = kd ∨ c = (if kd < 4 then 0 else kd - 3) then 1 else 0) := by decide +kernel
