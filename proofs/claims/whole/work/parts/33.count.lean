/-! PURE: count, ofFact -/
theorem PFT_b {μx : Mem} {f t : Nat} {μm : Mem} {D W n : Nat} {nd cl wi wt : Nat → Nat} {bi : Nat → Int32} {N w : Nat} {kd m db br s : Nat → Nat} {bk wk : Nat → Nat → Nat} (H : PFT μx f t μm D W n nd cl wi wt bi N w kd m db br s bk wk) : (∀ p, p < N → s p ≤ 8 ∧ ∀ i, i < s p → bk p i < 8) ∧ (∀ p, p < N → bks (bk p) (s p) < 256) ∧ (∀ p, p < N → br p ≤ 1) := by
  have a : ∀ p, p < N → s p ≤ 8 ∧ ∀ i, i < s p → bk p i < 8 := fun p hp => by
    obtain ⟨d1, d2, d3, d4, d5, d6, d7⟩ := H.2.2.2.2.2.2.2 p hp
    exact ⟨d5, fun i hi => Nat.lt_of_lt_of_le (d6 i hi).1 H.2.2.1.1⟩
  exact ⟨a, fun p hp => bks_256 _ (a p hp).2, fun p hp => (H.2.2.2.2.2.2.2 p hp).2.2.2.1⟩
theorem sh_count : SH_count Rel := by
  intro μ h a
  show OKS (f_X11_count μ 0 a) (fun m => f_X12_count m 105 a)
  obtain ⟨n, nd, cl, wi, wt, bi, N, w, kd, m, db, br, s, bk, wk, H⟩ := h.1.1.2
  have H : PFT μ 2 14 μ 106 999 n nd cl wi wt bi N w kd m db br s bk wk := H
  have N4 : N ≤ 4 := H.2.2.2.2.2.1
  obtain ⟨B1, B2, B3⟩ := PFT_b H
  have q1 := e_debtsX (Or.inl rfl) N4 H.2.2.2.1
  have q2 := e_debtsM N4 H.2.2.2.2.1
  have q3 := e_brokenX (Or.inl rfl) N4 H.2.2.2.1 B3
  have q4 := e_brokenM N4 H.2.2.2.2.1
  have r0 : rd μ 2 5 = rd μ 106 0 := H.1.1.trans H.2.1.1.symm
  have r1 : rd μ 14 3 = rd μ 106 1 := H.2.2.2.1.1.trans H.2.2.2.2.1.1.symm
  have r2 : rd μ 14 4 = rd μ 106 3 := H.2.2.2.1.2.1.trans H.2.2.2.2.1.2.1.symm
  have r3 : rd μ 28 3 = rd μ 106 2 := by
    obtain ⟨l, l1, l2, l3, l4⟩ := h.1.2.1
    have e3 : rd μ 28 3 = _ := l3.1
    rw [e3, l4.1, msrt_len, List.length_reverse]
  have r6 : rd μ 32 1 = rd μ 106 5 := by
    obtain ⟨l, l1, l2, l3, l4⟩ := h.1.2.2.1
    exact l2.trans l3.symm
  have r7 : rd μ 1 7 = rd μ 106 6 := by
    obtain ⟨l, l1, l2, l3, l4⟩ := h.1.2.2.2.1
    exact l2.trans l3.symm
  have r8 : rd μ 92 1 = rd μ 105 20 := by
    obtain ⟨l, l1, l2, l3, l4⟩ := h.2.2.2.1
    exact l2.trans l3.symm
  have r9 : rd μ 1 8 = rd μ 106 4 := h.1.2.2.2.2.1
  by_cases g : a = 0 ∨ a = 1 ∨ a = 2 ∨ a = 3 ∨ a = 4 ∨ a = 5 ∨ a = 6 ∨ a = 7 ∨ a = 8 ∨ a = 9
  · obtain ⟨r, x1, x2⟩ : ∃ r, f_X11_count μ 0 a = some (r, μ) ∧ f_X12_count μ 105 a = some (r, μ) := by
      unfold f_X11_count f_X12_count
      simp only [rfs, cls, r0, r1, r2, r3, r6, r7, r8, r9, q1, q2, q3, q4, bd_s]
      rcases g with rfl | rfl | rfl | rfl | rfl | rfl | rfl | rfl | rfl | rfl <;> exact ⟨_, rfl, rfl⟩
    exact oks_go x1 x2 h
  · have n0 : ¬ a = 0 := fun e => g (by simp [e])
    have n1 : ¬ a = 1 := fun e => g (by simp [e])
    have n2 : ¬ a = 2 := fun e => g (by simp [e])
    have n3 : ¬ a = 3 := fun e => g (by simp [e])
    have n4 : ¬ a = 4 := fun e => g (by simp [e])
    have n5 : ¬ a = 5 := fun e => g (by simp [e])
    have n6 : ¬ a = 6 := fun e => g (by simp [e])
    have n7 : ¬ a = 7 := fun e => g (by simp [e])
    have n8 : ¬ a = 8 := fun e => g (by simp [e])
    have n9 : ¬ a = 9 := fun e => g (by simp [e])
    refine oks_ref (k := 1) h (by omega) ?_ ?_
    · unfold f_X11_count
      simp only [n0, n1, n2, n3, n4, n5, n6, n7, n8, n9, if_false, bd_p]
      rfl
    · intro μ1 hR
      show f_X12_count μ1 105 a = _
      unfold f_X12_count
      simp only [n0, n1, n2, n3, n4, n5, n6, n7, n8, n9, if_false, bd_p]
      rfl
theorem sh_ofFact : SH_ofFact Rel := by
  intro μ h a x
  show OKS (f_X11_ofFact μ 0 a x) (fun m => f_X12_ofFact m 105 a x)
  obtain ⟨n, nd, cl, wi, wt, bi, N, w, kd, m, db, br, s, bk, wk, H⟩ := h.1.1.2
  have H : PFT μ 2 14 μ 106 999 n nd cl wi wt bi N w kd m db br s bk wk := H
  have N4 : N ≤ 4 := H.2.2.2.2.2.1
  have n8 : n ≤ 8 := H.2.2.1.1
  have c1 : rd μ 2 5 = nI n := H.1.1
  have c2 : rd μ 106 0 = nI n := H.2.1.1
  obtain ⟨B1, B2, B3⟩ := PFT_b H
  by_cases g1 : (0 : Int32) ≤ a ∧ a ≤ nI n - 1
  · obtain ⟨i, hi, rfl⟩ := (isF_iff (by omega)).mp g1
    obtain ⟨p1, p2, p3, p4, p5⟩ := H.1.2 i hi
    obtain ⟨r1, r2, r3, r4, r5⟩ := H.2.1.2 i hi
    have q1 := e_booksX (Or.inl rfl) N4 H.2.2.2.1 B2 (f := i) (by omega)
    have q2 := e_booksM N4 H.2.2.2.2.1 B1 (f := i) (by omega)
    by_cases g2 : (0 : Int32) ≤ x ∧ x ≤ 5
    · obtain ⟨y, hy, rfl⟩ := upto (n := 5) (by omega) g2
      obtain ⟨r, x1, x2⟩ : ∃ r, f_X11_ofFact μ 0 (nI i) (nI y) = some (r, μ) ∧ f_X12_ofFact μ 105 (nI i) (nI y) = some (r, μ) := by
        unfold f_X11_ofFact f_X12_ofFact
        simp only [e_isFactX c1, e_isFactM c2, bd_s, if10, i00, i10, g1, g2, and_self, not_true, not_false_eq_true, if_true, if_false, e_ins, rfs, ib_nI (show i < 8 by omega) (by omega), tn_nI (show i < 2 ^ 31 by omega), q1, q2]
        have : y = 0 ∨ y = 1 ∨ y = 2 ∨ y = 3 ∨ y = 4 ∨ y = 5 := by omega
        rcases this with rfl | rfl | rfl | rfl | rfl | rfl
        · exact ⟨nI (nd i), congrArg (fun z => some (z, μ)) p1, by rw [if_neg (by decide), show nI 0 = 0 from rfl, (e_itss (show i < 8 by omega) μ).1, bd_s, r1]⟩
        · exact ⟨nI (cl i), congrArg (fun z => some (z, μ)) p2, by rw [if_neg (by decide), show nI 1 = 1 from rfl, (e_itss (show i < 8 by omega) μ).2.1, bd_s, r2]⟩
        · exact ⟨nI (wi i), congrArg (fun z => some (z, μ)) p3, by rw [if_neg (by decide), show nI 2 = 2 from rfl, (e_itss (show i < 8 by omega) μ).2.2.1, bd_s, r3]⟩
        · exact ⟨bi i, congrArg (fun z => some (z, μ)) p4, by rw [if_neg (by decide), show nI 3 = 3 from rfl, (e_itss (show i < 8 by omega) μ).2.2.2.1, bd_s, r4]⟩
        · exact ⟨nI (wt i), congrArg (fun z => some (z, μ)) p5, by rw [if_neg (by decide), show nI 4 = 4 from rfl, (e_itss (show i < 8 by omega) μ).2.2.2.2, bd_s, r5]⟩
        · exact ⟨_, rfl, rfl⟩
      exact oks_go x1 x2 h
    · have n0 : ¬ x = 0 := fun e => g2 (by rw [e]; decide)
      have n1 : ¬ x = 1 := fun e => g2 (by rw [e]; decide)
      have n2 : ¬ x = 2 := fun e => g2 (by rw [e]; decide)
      have n3 : ¬ x = 3 := fun e => g2 (by rw [e]; decide)
      have n4 : ¬ x = 4 := fun e => g2 (by rw [e]; decide)
      have n5 : ¬ x = 5 := fun e => g2 (by rw [e]; decide)
      refine oks_ref (k := 1) h (by omega) ?_ ?_
      · unfold f_X11_ofFact
        simp only [e_isFactX c1, bd_s, if10, i00, i10, g1, and_self, not_true, not_false_eq_true, if_true, if_false, n0, n1, n2, n3, n4, n5, bd_p]
        rfl
      · intro μ1 hR
        show f_X12_ofFact μ1 105 _ _ = _
        unfold f_X12_ofFact f_X12_ofFact_j20
        have c3 : rd μ1 106 0 = nI n := by rw [hR _ _ (by omega), c2]
        simp only [e_isFactM c3, bd_s, if10, i00, i10, g1, g2, and_self, not_true, not_false_eq_true, if_true, if_false, e_ins, bd_p]
        rfl
  · refine oks_ref (k := 1) h (by omega) ?_ ?_
    · unfold f_X11_ofFact
      simp only [e_isFactX c1, bd_s, if10, i00, i10, g1, not_true, not_false_eq_true, if_true, if_false, bd_p]
      rfl
    · intro μ1 hR
      show f_X12_ofFact μ1 105 _ _ = _
      unfold f_X12_ofFact f_X12_ofFact_j20
      have c3 : rd μ1 106 0 = nI n := by rw [hR _ _ (by omega), c2]
      simp only [e_isFactM c3, bd_s, if10, i00, i10, g1, not_true, not_false_eq_true, if_true, if_false, bd_p]
      rfl
