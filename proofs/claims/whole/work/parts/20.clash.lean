/-! PURE: bits; clash, explain -/
def sc (c o v : Nat) : Nat := (((nI c) &&& ((jshl 1 (nI o)) ^^^ (-1))) ||| (jshl (nI v) (nI o))).toNatClampNeg
theorem sc_all : ∀ c, c < 256 → ∀ o, o < 8 → ∀ v, v < 2 → ((nI c) &&& ((jshl 1 (nI o)) ^^^ (-1))) ||| (jshl (nI v) (nI o)) = nI (sc c o v) ∧ sc c o v < 256 := by decide +kernel
theorem sh_clash : SH_clash Rel := by
  intro μ h a b v
  show OKS (f_X11_clash μ 0 a b v) (fun m => f_X12_clash m 105 a b v)
  obtain ⟨n, nd, cl, wi, wt, bi, N, w, kd, m, db, br, s, bk, wk, h1, h2, h3, h4, h5, h6⟩ := h.1.1.2
  have n8 : n ≤ 8 := h3.1
  have c1 : rd μ 2 5 = nI n := h1.1
  have c2 : rd μ 106 0 = nI n := h2.1
  by_cases g : ((0 : Int32) ≤ a ∧ a ≤ nI n - 1) ∧ ((0 : Int32) ≤ b ∧ b ≤ nI n - 1) ∧ ¬ a = b ∧ ((0 : Int32) ≤ v ∧ v ≤ 1)
  · obtain ⟨g1, g2, g3, g4⟩ := g
    obtain ⟨i, hi, rfl⟩ := (isF_iff (by omega)).mp g1
    obtain ⟨j, hj, rfl⟩ := (isF_iff (by omega)).mp g2
    obtain ⟨x, hx, rfl⟩ := upto (n := 1) (by omega) g4
    have hij : i ≠ j := fun e => g3 (by rw [e])
    obtain ⟨p1, p2, p3, p4, p5⟩ := h1.2 i hi
    obtain ⟨q1, q2, q3, q4, q5⟩ := h1.2 j hj
    obtain ⟨r1, r2, r3, r4, r5⟩ := h2.2 i hi
    obtain ⟨s1, s2, s3, s4, s5⟩ := h2.2 j hj
    have A := sc_all (cl i) (h3.2 i hi).2.1 j (by omega) x (by omega)
    have B := sc_all (cl j) (h3.2 j hj).2.1 i (by omega) x (by omega)
    refine oks_go (r := jshr (nI (cl i)) (nI j) &&& 1) (μ1 := wr (wr μ 4 i (nI (sc (cl i) j x))) 4 j (nI (sc (cl j) i x))) (μ2 := wr (wr (wr (wr μ 4 i (nI (sc (cl i) j x))) 4 j (nI (sc (cl j) i x))) 106 (11 + 5 * i) (nI (sc (cl i) j x))) 106 (11 + 5 * j) (nI (sc (cl j) i x))) ?_ ?_ ?_
    · unfold f_X11_clash f_X1_setClash
      simp only [e_isFactX c1, bd_s, if10, i00, i10, g1, g2, g3, g4, and_self, not_true, not_false_eq_true, if_true, if_false, ib_nI (show i < 8 by omega) (by omega), ib_nI (show j < 8 by omega) (by omega), tn_nI (show i < 2 ^ 31 by omega), tn_nI (show j < 2 ^ 31 by omega), e_among, rfs, show rd μ 4 i = nI (cl i) from p2, A.1]
      rw [rd_wr_n (by omega), show rd μ 4 j = nI (cl j) from q2, B.1]
    · show f_X12_clash _ 105 _ _ _ = _
      unfold f_X12_clash
      have e1 : rd (wr (wr μ 4 i (nI (sc (cl i) j x))) 4 j (nI (sc (cl j) i x))) 106 0 = nI n := by rw [rd_wr_n (by omega), rd_wr_n (by omega), c2]
      have e2 : rd (wr (wr μ 4 i (nI (sc (cl i) j x))) 4 j (nI (sc (cl j) i x))) 106 (11 + 5 * i) = nI (cl i) := by rw [rd_wr_n (by omega), rd_wr_n (by omega), r2]
      have e3 : rd (wr (wr (wr μ 4 i (nI (sc (cl i) j x))) 4 j (nI (sc (cl j) i x))) 106 (11 + 5 * i) (nI (sc (cl i) j x))) 106 (11 + 5 * j) = nI (cl j) := by rw [rd_wr_n (by omega), rd_wr_n (by omega), rd_wr_n (by omega), s2]
      simp only [e_isFactM e1, bd_s, if10, i00, i10, g1, g2, g3, g4, and_self, not_true, not_false_eq_true, if_true, if_false, e_ins, e_itss (show i < 8 by omega), e_putss (show i < 8 by omega), e_itss (show j < 8 by omega), e_putss (show j < 8 by omega), e2, A.1, e3, B.1]
    · refine R2_FT h (fun k j c d => by rw [rd_wr_n (by omega), rd_wr_n (by omega), rd_wr_n (by omega), rd_wr_n (by omega)]) (fun p' hp' => by show bz (rd _ (16 + 3 * p') 7) = true; simp (discharger := omega) only [rd_wr_n]; exact h.1.1.1 p' hp') ⟨n, nd, up (up cl i (sc (cl i) j x)) j (sc (cl j) i x), wi, wt, bi, N, w, kd, m, db, br, s, bk, wk, ⟨?_, fun k hk => ?_⟩, ⟨?_, fun k hk => ?_⟩, ⟨by omega, fun k hk => ?_⟩, ?_, ?_, h6⟩
      · simp (discharger := omega) only [rd_wr_n, c1]
      · obtain ⟨t1, t2, t3, t4, t5⟩ := h1.2 k hk
        by_cases e : k = j
        · subst e
          simp (discharger := omega) only [rd_wr_n, rd_wr_s, up_s]
          exact ⟨t1, trivial, t3, t4, t5⟩
        · by_cases e' : k = i
          · subst e'
            simp (discharger := omega) only [rd_wr_n, rd_wr_s, up_n e, up_s]
            exact ⟨t1, trivial, t3, t4, t5⟩
          · simp (discharger := omega) only [rd_wr_n, up_n e, up_n e']
            exact ⟨t1, t2, t3, t4, t5⟩
      · simp (discharger := omega) only [rd_wr_n, c2]
      · obtain ⟨t1, t2, t3, t4, t5⟩ := h2.2 k hk
        by_cases e : k = j
        · subst e
          simp (discharger := omega) only [rd_wr_n, rd_wr_s, up_s]
          exact ⟨t1, trivial, t3, t4, t5⟩
        · by_cases e' : k = i
          · subst e'
            simp (discharger := omega) only [rd_wr_n, rd_wr_s, up_n e, up_s]
            exact ⟨t1, trivial, t3, t4, t5⟩
          · simp (discharger := omega) only [rd_wr_n, up_n e, up_n e']
            exact ⟨t1, t2, t3, t4, t5⟩
      · obtain ⟨t1, t2, t3⟩ := h3.2 k hk
        refine ⟨t1, ?_, t3⟩
        by_cases e : k = j
        · subst e
          rw [up_s]
          exact B.2
        · by_cases e' : k = i
          · subst e'
            rw [up_n e, up_s]
            exact A.2
          · rw [up_n e, up_n e']
            exact t2
      · exact TX_cg h6.1 (fun k j a b => by simp (discharger := omega) only [rd_wr_n]) h4
      · exact TM_cg h6.1 (fun p hp => (h6.2.2 p hp).2.2.2.2.1) (fun j a => by simp (discharger := omega) only [rd_wr_n]) h5
  · refine oks_ref (k := 1) h (by omega) ?_ ?_
    · unfold f_X11_clash f_X11_clash_j30
      simp only [e_isFactX c1, e_among, bd_s, if10, bd_p, i00, i10]
      by_cases g1 : (0 : Int32) ≤ a ∧ a ≤ nI n - 1
      · by_cases g2 : (0 : Int32) ≤ b ∧ b ≤ nI n - 1
        · by_cases g3 : a = b
          · simp only [g1, g2, if_pos g3, and_self, not_true, if_false]
            rfl
          · have g4 : ¬ ((0 : Int32) ≤ v ∧ v ≤ 1) := fun q => g ⟨g1, g2, g3, q⟩
            simp only [g1, g2, g3, g4, and_self, not_true, if_false, not_false_eq_true, if_true]
            rfl
        · simp only [g1, g2, and_self, not_true, if_false, not_false_eq_true, if_true]
          rfl
      · simp only [g1, not_false_eq_true, if_true]
        rfl
    · intro μ1 hR
      show f_X12_clash μ1 105 _ _ _ = _
      unfold f_X12_clash f_X12_clash_j31
      have c3 : rd μ1 106 0 = nI n := by rw [hR _ _ (by omega), c2]
      simp only [e_isFactM c3, e_ins, bd_s, if10, bd_p, i00, i10]
      by_cases g1 : (0 : Int32) ≤ a ∧ a ≤ nI n - 1
      · by_cases g2 : (0 : Int32) ≤ b ∧ b ≤ nI n - 1
        · by_cases g3 : a = b
          · simp only [g1, g2, if_pos g3, and_self, not_true, if_false]
            rfl
          · have g4 : ¬ ((0 : Int32) ≤ v ∧ v ≤ 1) := fun q => g ⟨g1, g2, g3, q⟩
            simp only [g1, g2, g3, g4, and_self, not_true, if_false, not_false_eq_true, if_true]
            rfl
        · simp only [g1, g2, and_self, not_true, if_false, not_false_eq_true, if_true]
          rfl
      · simp only [g1, not_false_eq_true, if_true]
        rfl
