/-! PURE: lend, pardon -/
theorem e_held {v : Nat} (hv : v < 1000000) : f_X12_held (nI v) 0 9999 = some (nI (min 9999 v)) := by
  unfold f_X12_held
  rw [if_pos (show (0 : Int32) ≤ nI v from nI_pos' (by omega))]
  by_cases e : v ≤ 9999
  · rw [if_pos (show nI v ≤ 9999 from (nI_leI (b := 9999) (by omega) (by omega)).mpr e), Nat.min_eq_right e]
  · rw [if_neg (show ¬ nI v ≤ 9999 from fun q => e ((nI_leI (b := 9999) (by omega) (by omega)).mp q)), Nat.min_eq_left (by omega)]
    rfl
theorem e_owe {μ : Mem} {c v x : Nat} (h : rd μ c 6 = nI v) (hv : v < 1000000) (hx : x < 1000000) : f_X0_owe μ c (nI x) = some (wr μ c 6 (nI (min 9999 (v + x)))) := by
  unfold f_X0_owe
  rw [h, nI_add, show (9999 : Int32) = nI 9999 from rfl, j_min (by omega) (by omega)]
  rfl
theorem e_lends {μ : Mem} {p v x : Nat} (hp : p < 4) (h : rd μ 106 (52 + 21 * p) = nI v) (hv : v < 500000) (hx : x < 500000) : f_X12_lends μ 105 (nI p) (nI x) = some (wr μ 106 (52 + 21 * p) (nI (min 9999 (v + x)))) := by
  unfold f_X12_lends
  simp only [e_ofs hp, h, bd_s, nI_add, e_held (show v + x < 1000000 by omega), e_setss hp]
theorem sh_lend : SH_lend Rel := by
  intro μ h a x
  show OKS (f_X11_lend μ 0 a x) (fun m => f_X12_lend m 105 a x)
  obtain ⟨n, nd, cl, wi, wt, bi, N, w, kd, m, db, br, s, bk, wk, H⟩ := h.1.1.2
  have N4 : N ≤ 4 := H.2.2.2.2.2.1
  have c1 : rd μ 14 3 = nI N := H.2.2.2.1.1
  have c2 : rd μ 106 1 = nI N := H.2.2.2.2.1.1
  by_cases g : ((0 : Int32) ≤ a ∧ a ≤ nI N - 1) ∧ ((1 : Int32) ≤ x ∧ x ≤ 999)
  · obtain ⟨g1, g2⟩ := g
    obtain ⟨p, hp, rfl⟩ := (isF_iff (by omega)).mp g1
    obtain ⟨y, hy0, hy, rfl⟩ := upto1 (n := 999) (by omega) g2
    obtain ⟨p1, p2, p3, p4, p5, p6, p7⟩ := H.2.2.2.1.2.2 p hp
    obtain ⟨r1, r2, r3, r4, r5, r6⟩ := H.2.2.2.2.1.2.2 p hp
    obtain ⟨d1, d2, d3, d4, d5, d6, d7⟩ := H.2.2.2.2.2.2.2 p hp
    by_cases hb : br p = 0
    · refine oks_go (r := nI (min 9999 (db p + y))) (μ1 := wr μ (16 + 3 * p) 6 (nI (min 9999 (db p + y)))) (μ2 := wr (wr μ (16 + 3 * p) 6 (nI (min 9999 (db p + y)))) 106 (52 + 21 * p) (nI (min 9999 (db p + y)))) ?_ ?_ ?_
      · unfold f_X11_lend
        simp only [e_isDebX c1, bd_s, if10, i00, i10, g1, g2, and_self, not_true, not_false_eq_true, if_true, if_false, ib_nI (show p < 4 by omega) (by omega), tn_nI (show p < 2 ^ 31 by omega), e_among, rfs, rf_15 (show p < 4 by omega), show rd μ (16 + 3 * p) 7 = nI (br p) from p6, hb, nI_0, e_owe (show rd μ (16 + 3 * p) 6 = nI (db p) from p5) (by omega) (show y < 1000000 by omega), rd_wr_s]
      · show f_X12_lend _ 105 _ _ = _
        unfold f_X12_lend
        have e1 : rd (wr μ (16 + 3 * p) 6 (nI (min 9999 (db p + y)))) 106 1 = nI N := by rw [rd_wr_n (by omega), c2]
        have e2 : rd (wr μ (16 + 3 * p) 6 (nI (min 9999 (db p + y)))) 106 (53 + 21 * p) = 0 := by rw [rd_wr_n (by omega), r4, hb]; rfl
        have e3 : rd (wr μ (16 + 3 * p) 6 (nI (min 9999 (db p + y)))) 106 (52 + 21 * p) = nI (db p) := by rw [rd_wr_n (by omega), r3]
        simp only [e_isDebM e1, bd_s, if10, i00, i10, g1, g2, and_self, not_true, not_false_eq_true, if_true, if_false, e_ins, e_ofs (show p < 4 by omega), e2, e_lends (show p < 4 by omega) e3 (show db p < 500000 by omega) (show y < 500000 by omega), rd_wr_s]
        rw [if_pos (by decide)]
      · refine R2_FT h (fun k j c d => by simp (discharger := omega) only [rd_wr_n]) (fun p' hp' => by show bz (rd _ (16 + 3 * p') 7) = true; simp (discharger := omega) only [rd_wr_n]; exact h.1.1.1 p' hp') (PFT_R (RFT_one H (by omega) (p := p) (kd' := kd p) (m' := m p) (db' := min 9999 (db p + y)) (br' := br p) (s' := s p) (bk' := bk p) (wk' := wk p) hp (fun k j c d => by simp (discharger := omega) only [rd_wr_n]) (fun j c d => by simp (discharger := omega) only [rd_wr_n]) ⟨?_, ?_, ?_, ?_, ?_, ?_, fun i hi => ?_⟩ ⟨?_, ?_, ?_, ?_, ?_, fun i hi => ?_⟩ ⟨d1, d2, by omega, d4, d5, d6, d7⟩))
        · simp (discharger := omega) only [rd_wr_n]; exact p1
        · simp (discharger := omega) only [rd_wr_n]; exact p2
        · simp (discharger := omega) only [rd_wr_n]; exact p3
        · simp (discharger := omega) only [rd_wr_n]; exact p4
        · rw [show 14 + 2 + 3 * p = 16 + 3 * p by omega]; simp (discharger := omega) only [rd_wr_n, rd_wr_s]
        · simp (discharger := omega) only [rd_wr_n]; exact p6
        · simp (discharger := omega) only [rd_wr_n]; exact p7 i hi
        · simp (discharger := omega) only [rd_wr_n]; exact r1
        · simp (discharger := omega) only [rd_wr_n]; exact r2
        · simp (discharger := omega) only [rd_wr_n, rd_wr_s]
        · simp (discharger := omega) only [rd_wr_n]; exact r4
        · simp (discharger := omega) only [rd_wr_n]; exact r5
        · simp (discharger := omega) only [rd_wr_n]; exact r6 i hi
    · have hb1 : br p = 1 := by omega
      refine oks_ref (k := 3) h (by omega) ?_ ?_
      · unfold f_X11_lend
        simp only [e_isDebX c1, bd_s, if10, i00, i10, g1, g2, and_self, not_true, not_false_eq_true, if_true, if_false, ib_nI (show p < 4 by omega) (by omega), tn_nI (show p < 2 ^ 31 by omega), e_among, rfs, rf_15 (show p < 4 by omega), show rd μ (16 + 3 * p) 7 = nI (br p) from p6, hb1, bd_p]
        rw [if_neg (by decide)]
        rfl
      · intro μ1 hR
        show f_X12_lend μ1 105 _ _ = _
        unfold f_X12_lend
        have c3 : rd μ1 106 1 = nI N := by rw [hR _ _ (by omega), c2]
        have c4 : rd μ1 106 (53 + 21 * p) = nI 1 := by rw [hR _ _ (by omega), r4, hb1]
        simp only [e_isDebM c3, bd_s, if10, i00, i10, g1, g2, and_self, not_true, not_false_eq_true, if_true, if_false, e_ins, e_ofs (show p < 4 by omega), c4, bd_p]
        rw [if_neg (by decide)]
        rfl
  · refine oks_ref (k := 1) h (by omega) ?_ ?_
    · unfold f_X11_lend f_X11_lend_j19
      simp only [e_isDebX c1, e_among, bd_s, if10, bd_p, i00, i10]
      by_cases g1 : (0 : Int32) ≤ a ∧ a ≤ nI N - 1
      · have g2 : ¬ ((1 : Int32) ≤ x ∧ x ≤ 999) := fun q => g ⟨g1, q⟩
        simp only [g1, g2, and_self, not_true, if_false, not_false_eq_true, if_true]
        rfl
      · simp only [g1, not_false_eq_true, if_true]
        rfl
    · intro μ1 hR
      show f_X12_lend μ1 105 _ _ = _
      unfold f_X12_lend f_X12_lend_j20
      have c3 : rd μ1 106 1 = nI N := by rw [hR _ _ (by omega), c2]
      simp only [e_isDebM c3, e_ins, bd_s, if10, bd_p, i00, i10]
      by_cases g1 : (0 : Int32) ≤ a ∧ a ≤ nI N - 1
      · have g2 : ¬ ((1 : Int32) ≤ x ∧ x ≤ 999) := fun q => g ⟨g1, q⟩
        simp only [g1, g2, and_self, not_true, if_false, not_false_eq_true, if_true]
        rfl
      · simp only [g1, not_false_eq_true, if_true]
        rfl
theorem sh_pardon : SH_pardon Rel := by
  intro μ h a
  show OKS (f_X11_pardon μ 0 a) (fun m => f_X12_pardon m 105 a)
  obtain ⟨n, nd, cl, wi, wt, bi, N, w, kd, m, db, br, s, bk, wk, H⟩ := h.1.1.2
  have N4 : N ≤ 4 := H.2.2.2.2.2.1
  have c1 : rd μ 14 3 = nI N := H.2.2.2.1.1
  have c2 : rd μ 106 1 = nI N := H.2.2.2.2.1.1
  by_cases g1 : ((0 : Int32) ≤ a ∧ a ≤ nI N - 1)
  · obtain ⟨p, hp, rfl⟩ := (isF_iff (by omega)).mp g1
    obtain ⟨p1, p2, p3, p4, p5, p6, p7⟩ := H.2.2.2.1.2.2 p hp
    obtain ⟨r1, r2, r3, r4, r5, r6⟩ := H.2.2.2.2.1.2.2 p hp
    obtain ⟨d1, d2, d3, d4, d5, d6, d7⟩ := H.2.2.2.2.2.2.2 p hp
    by_cases hb : br p = 1
    · refine oks_go (r := nI (s p)) (μ1 := wr (wr (wr (wr μ (16 + 3 * p) 6 0) (16 + 3 * p) 2 0) (16 + 3 * p) 3 0) (16 + 3 * p) 7 0) (μ2 := wr (wr (wr (wr (wr (wr (wr μ (16 + 3 * p) 6 0) (16 + 3 * p) 2 0) (16 + 3 * p) 3 0) (16 + 3 * p) 7 0) 106 (52 + 21 * p) 0) 106 (53 + 21 * p) 0) 106 (54 + 21 * p) 0) ?_ ?_ ?_
      · unfold f_X11_pardon f_X0_letOff
        simp only [e_isDebX c1, bd_s, if10, i00, i10, g1, and_self, not_true, not_false_eq_true, if_true, if_false, ib_nI (show p < 4 by omega) (by omega), tn_nI (show p < 2 ^ 31 by omega), rfs, rf_15 (show p < 4 by omega), show rd μ (16 + 3 * p) 7 = nI (br p) from p6, hb]
        rw [if_pos (by decide), show rd μ (16 + 3 * p) 3 = nI (s p) from p2]
      · show f_X12_pardon _ 105 _ = _
        unfold f_X12_pardon
        have e1 : rd (wr (wr (wr (wr μ (16 + 3 * p) 6 0) (16 + 3 * p) 2 0) (16 + 3 * p) 3 0) (16 + 3 * p) 7 0) 106 1 = nI N := by simp (discharger := omega) only [rd_wr_n, c2]
        have e2 : rd (wr (wr (wr (wr μ (16 + 3 * p) 6 0) (16 + 3 * p) 2 0) (16 + 3 * p) 3 0) (16 + 3 * p) 7 0) 106 (53 + 21 * p) = nI 1 := by simp (discharger := omega) only [rd_wr_n]; rw [r4, hb]
        have e3 : rd (wr (wr (wr (wr μ (16 + 3 * p) 6 0) (16 + 3 * p) 2 0) (16 + 3 * p) 3 0) (16 + 3 * p) 7 0) 106 (54 + 21 * p) = nI (s p) := by simp (discharger := omega) only [rd_wr_n, r5]
        simp only [e_isDebM e1, bd_s, if10, i00, i10, g1, and_self, not_true, not_false_eq_true, if_true, if_false, e_ofs (show p < 4 by omega), e2, e3, e_setss (show p < 4 by omega)]
        rw [if_pos (by decide)]
      · refine R2_FT h (fun k j c d => by simp (discharger := omega) only [rd_wr_n]) (fun p' hp' => by
        show bz (rd _ (16 + 3 * p') 7) = true
        by_cases e : p' = p
        · rw [e]; simp (discharger := omega) only [rd_wr_n, rd_wr_s]; rfl
        · simp (discharger := omega) only [rd_wr_n]; exact h.1.1.1 p' hp') (PFT_R (RFT_one H (by omega) (p := p) (kd' := kd p) (m' := m p) (db' := 0) (br' := 0) (s' := 0) (bk' := bk p) (wk' := wk p) hp (fun k j c d => by simp (discharger := omega) only [rd_wr_n]) (fun j c d => by simp (discharger := omega) only [rd_wr_n]) ⟨?_, ?_, ?_, ?_, ?_, ?_, fun i hi => absurd hi (by omega)⟩ ⟨?_, ?_, ?_, ?_, ?_, fun i hi => absurd hi (by omega)⟩ ⟨d1, d2, by omega, by omega, by omega, fun i hi => absurd hi (by omega), fun i j hi => absurd hi (by omega)⟩))
        · rw [show 14 + 2 + 3 * p = 16 + 3 * p by omega]; simp (discharger := omega) only [rd_wr_n, rd_wr_s]; rfl
        · rw [show 14 + 2 + 3 * p = 16 + 3 * p by omega]; simp (discharger := omega) only [rd_wr_n, rd_wr_s]; rfl
        · simp (discharger := omega) only [rd_wr_n]; exact p3
        · simp (discharger := omega) only [rd_wr_n]; exact p4
        · rw [show 14 + 2 + 3 * p = 16 + 3 * p by omega]; simp (discharger := omega) only [rd_wr_n, rd_wr_s]; rfl
        · rw [show 14 + 2 + 3 * p = 16 + 3 * p by omega]; simp (discharger := omega) only [rd_wr_n, rd_wr_s]; rfl
        · simp (discharger := omega) only [rd_wr_n]; exact r1
        · simp (discharger := omega) only [rd_wr_n]; exact r2
        · simp (discharger := omega) only [rd_wr_n, rd_wr_s]; rfl
        · simp (discharger := omega) only [rd_wr_n, rd_wr_s]; rfl
        · simp (discharger := omega) only [rd_wr_n, rd_wr_s]; rfl
    · have hb1 : br p = 0 := by omega
      refine oks_ref (k := 3) h (by omega) ?_ ?_
      · unfold f_X11_pardon
        simp only [e_isDebX c1, bd_s, if10, i00, i10, g1, and_self, not_true, not_false_eq_true, if_true, if_false, ib_nI (show p < 4 by omega) (by omega), tn_nI (show p < 2 ^ 31 by omega), rfs, rf_15 (show p < 4 by omega), show rd μ (16 + 3 * p) 7 = nI (br p) from p6, hb1, bd_p]
        rw [if_neg (by decide)]
        rfl
      · intro μ1 hR
        show f_X12_pardon μ1 105 _ = _
        unfold f_X12_pardon
        have c3 : rd μ1 106 1 = nI N := by rw [hR _ _ (by omega), c2]
        have c4 : rd μ1 106 (53 + 21 * p) = nI 0 := by rw [hR _ _ (by omega), r4, hb1]
        simp only [e_isDebM c3, bd_s, if10, i00, i10, g1, and_self, not_true, not_false_eq_true, if_true, if_false, e_ofs (show p < 4 by omega), c4, bd_p]
        rw [if_neg (by decide)]
        rfl
  · refine oks_ref (k := 1) h (by omega) ?_ ?_
    · unfold f_X11_pardon
      simp only [e_isDebX c1, bd_s, if10, bd_p, i00, i10, g1, not_true, not_false_eq_true, if_true, if_false]
      rfl
    · intro μ1 hR
      show f_X12_pardon μ1 105 _ = _
      unfold f_X12_pardon
      have c3 : rd μ1 106 1 = nI N := by rw [hR _ _ (by omega), c2]
      simp only [e_isDebM c3, bd_s, if10, bd_p, i00, i10, g1, not_true, not_false_eq_true, if_true, if_false]
      rfl
