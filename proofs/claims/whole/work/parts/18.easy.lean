/-! PURE: seed, told, trace, tell, image, restore -/
theorem i10 : ((1 : Int32) = 0) = False := by decide
theorem i00 : ((0 : Int32) = 0) = True := by decide
theorem upto1 {a : Int32} {n : Nat} (hn : n < 1000000) (h : (1 : Int32) ≤ a ∧ a ≤ nI n) : ∃ i, 1 ≤ i ∧ i ≤ n ∧ a = nI i := by
  have h0 : (1 : Int32).toInt = 1 := rfl
  rw [i32_le, i32_le, h0, nI_c (by omega)] at h
  refine ⟨a.toInt.toNat, by omega, by omega, i32_eq ?_⟩
  rw [nI_c (by omega)]
  omega
theorem sh_seed : SH_seed Rel := by
  intro μ h a
  have hz : rd μ 1 8 = rd μ 106 4 := h.1.2.2.2.2.1
  have hf : f_X11_seed μ 0 a = some (rd μ 1 8, wr μ 1 8 a) := by
    unfold f_X11_seed
    simp only [rfs, bd_s]
  have hg : f_X12_seed (wr μ 1 8 a) 105 a = some (rd μ 1 8, wr (wr μ 1 8 a) 106 4 a) := by
    unfold f_X12_seed
    simp only [rfs, cls, bd_s]
    rw [rd_wr_n (by omega), hz]
  refine oks_go (g := fun m => f_X12_seed m 105 a) hf hg ?_
  refine R2_z h (fun k j c d => by rw [rd_wr_n (by omega), rd_wr_n (by omega)]) ?_
  rw [rd_wr_n (by omega), rd_wr_s, rd_wr_s]
theorem sh_told : SH_told Rel := by
  intro μ h a
  show OKS (f_X11_told μ 0 a) (fun m => f_X12_told m 105 a)
  by_cases h1 : (1 : Int32) ≤ a ∧ a ≤ 5
  · obtain ⟨i, hi, hj, rfl⟩ := upto1 (n := 5) (by omega) h1
    refine oks_go (r := rd μ 96 i) (μ1 := μ) (μ2 := μ) ?_ ?_ h
    · unfold f_X11_told
      simp only [e_among, bd_s, if10, h1, and_self, not_true, if_false, i10, i00, ib_nI (show i < 6 by omega) (by omega), if_true, rfs, tn_nI (show i < 2 ^ 31 by omega)]
    · show f_X12_told μ 105 (nI i) = _
      unfold f_X12_told
      simp only [e_ins, bd_s, if10, h1, and_self, not_true, if_false, i10, i00, ib_nI (show i < 6 by omega) (by omega), if_true, rfs, tn_nI (show i < 2 ^ 31 by omega)]
      rw [h.2.2.1 i (by omega)]
  · refine oks_ref (k := 1) h (by omega) ?_ ?_
    · unfold f_X11_told
      simp only [e_among, bd_s, if10, h1, not_false_eq_true, if_true, bd_p]
      rfl
    · intro μ1 _
      show f_X12_told μ1 105 a = _
      unfold f_X12_told
      simp only [e_ins, bd_s, if10, h1, not_false_eq_true, if_true, bd_p]
      rfl
theorem sh_trace : SH_trace Rel := by
  intro μ h a
  show OKS (f_X11_trace μ 0 a) (fun m => f_X12_trace m 105 a)
  obtain ⟨n, n1, n2, n3, n4⟩ := h.2.2.2.1
  by_cases h1 : (0 : Int32) ≤ a ∧ a ≤ nI n - 1
  · obtain ⟨i, hi, rfl⟩ := (isF_iff (by omega)).mp h1
    refine oks_go (r := rd μ 93 i) (μ1 := μ) (μ2 := μ) ?_ ?_ h
    · unfold f_X11_trace
      simp only [rfs, n2, e_among, bd_s, if10, h1, and_self, not_true, if_false, i10, i00, ib_nI (show i < 40 by omega) (by omega), if_true, tn_nI (show i < 2 ^ 31 by omega)]
    · show f_X12_trace μ 105 (nI i) = _
      unfold f_X12_trace
      simp only [rfs, n3, e_in0, bd_s, if10, h1, and_self, not_true, if_false, i10, i00, ib_nI (show i < 40 by omega) (by omega), if_true, tn_nI (show i < 2 ^ 31 by omega)]
      rw [n4 i hi]
  · refine oks_ref (k := 2) h (by omega) ?_ ?_
    · unfold f_X11_trace
      simp only [rfs, n2, e_among, bd_s, if10, h1, not_false_eq_true, if_true, bd_p]
      rfl
    · intro μ1 hR
      show f_X12_trace μ1 105 a = _
      unfold f_X12_trace
      simp only [hR _ _ (show 105 ≤ 105 by omega), n3, e_in0, bd_s, if10, h1, not_false_eq_true, if_true, bd_p]
      rfl
theorem sh_tell : SH_tell Rel := by
  intro μ h a
  show OKS (f_X11_tell μ 0 a) (fun m => f_X12_tell m 105 a)
  obtain ⟨n, n1, n2, n3, n4⟩ := h.1.2.2.2.1
  by_cases h1 : n < 20
  · refine oks_go (r := nI (n + 1)) (μ1 := wr (wr μ 34 n a) 1 7 (nI (n + 1))) (μ2 := wr (wr (wr (wr μ 34 n a) 1 7 (nI (n + 1))) 106 (172 + n) a) 106 6 (nI (n + 1))) ?_ ?_ ?_
    · unfold f_X11_tell
      simp only [rfs, n2, ib_nI h1 (by omega), if_true, tn_nI (show n < 2 ^ 31 by omega), bd_s, rd_wr_n (show ¬ (1 = 34 ∧ 7 = n) by omega), rd_wr_s, nI_1]
      rw [if_pos (show nI n < 20 from nI_lt (b := 20) h1 (by omega))]
    · show f_X12_tell _ 105 a = _
      unfold f_X12_tell
      have e1 : rd (wr (wr μ 34 n a) 1 7 (nI (n + 1))) 106 6 = nI n := by rw [rd_wr_n (by omega), rd_wr_n (by omega), n3]
      have e2 : (172 : Int32) + nI n = nI (172 + n) := nI_add 172 n
      simp only [rfs, cls, e1, e2, ib_nI (show 172 + n < 342 by omega) (by omega), if_true, tn_nI (show 172 + n < 2 ^ 31 by omega), bd_s, rd_wr_n (show ¬ (106 = 106 ∧ 6 = 172 + n) by omega), rd_wr_s, nI_1]
      rw [if_pos (show ¬ nI n = 20 from fun q => by have := (nI_eq (b := 20) (by omega) (by omega)).mp q; omega)]
    · refine R2_Wa h (fun k j c d => by rw [rd_wr_n (by omega), rd_wr_n (by omega), rd_wr_n (by omega), rd_wr_n (by omega)]) ⟨n + 1, by omega, ?_, ?_, fun i hi => ?_⟩
      · rw [rd_wr_n (by omega), rd_wr_n (by omega), rd_wr_s]
      · rw [rd_wr_s]
      · by_cases e : i = n
        · subst e
          rw [rd_wr_n (by omega), rd_wr_n (by omega), rd_wr_n (by omega), rd_wr_s, rd_wr_n (by omega), rd_wr_s]
        · rw [rd_wr_n (by omega), rd_wr_n (by omega), rd_wr_n (by omega), rd_wr_n (by omega), rd_wr_n (by omega), rd_wr_n (by omega), rd_wr_n (by omega), rd_wr_n (by omega)]
          exact n4 i (by omega)
  · have e : n = 20 := by omega
    subst e
    refine oks_ref (k := 4) h (by omega) ?_ ?_
    · unfold f_X11_tell
      simp only [rfs, n2, bd_p]
      rw [if_neg (by decide)]
      rfl
    · intro μ1 hR
      show f_X12_tell μ1 105 a = _
      unfold f_X12_tell
      simp only [rfs, cls, hR _ _ (show 105 ≤ 106 by omega), n3, bd_p]
      rw [if_neg (by decide)]
      rfl
