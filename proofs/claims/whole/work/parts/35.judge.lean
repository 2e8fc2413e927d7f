/-! PURE: judge -/
theorem alk_cg {E E' : Nat → Bool} : ∀ (r k : Nat), (∀ i, i < r → E (k + i) = E' (k + i)) → alk E r k = alk E' r k := by
  intro r
  induction r with
  | zero => intro k _; rfl
  | succ r ih =>
    intro k h
    have h0 := h 0 (by omega)
    simp only [Nat.add_zero] at h0
    simp only [alk, h0]
    rw [ih (k + 1) (fun i hi => by rw [show k + 1 + i = k + (i + 1) by omega]; exact h (i + 1) (by omega))]
theorem alk_le (E : Nat → Bool) : ∀ (r k : Nat), alk E r k ≤ k + r := by
  intro r
  induction r with
  | zero => intro k; exact Nat.le_refl _
  | succ r ih =>
    intro k
    simp only [alk]
    split
    · have := ih (k + 1); omega
    · omega
theorem e_alikeX {μ : Mem} {c sc s n a : Nat} {bk : Nat → Nat} (hc : rf c 0 = c + 1) (hsc : rf sc 0 = sc + 1) (h3 : rd μ c 3 = nI s) (hs : s ≤ 8) (ha : a ≤ s) (hb : ∀ i, i < s → rd μ (c + 1) i = nI (bk i)) (h2 : rd μ sc 2 = nI n) (hn : n ≤ 40) : f_X0_alikeFrom μ c (nI a) sc = some (nI (alk (fun k => decide (nI (bk (a + k)) = rd μ (sc + 1) k)) (min n (s - a)) 0)) := by
  unfold f_X0_alikeFrom
  have := lp_alk (body := fun q => f_X0_alikeFrom_l2 μ c (nI a) sc q) (fun k => decide (nI (bk (a + k)) = rd μ (sc + 1) k)) (min n (s - a)) 0 FU (by unfold FU; omega) ?_ ?_ ?_
  · rw [show (0 : Int32) = nI 0 from rfl, this]
    rfl
  · intro i hi e
    have e := of_decide_eq_true e
    simp only [Nat.zero_add] at e ⊢
    unfold f_X0_alikeFrom_l2
    rw [h2, if_neg (nI_ge (by omega) (by omega)), h3, nI_add, if_neg (nI_ge (by omega) (by omega)), ib_nI (show a + i < 8 by omega) (by omega), if_pos rfl, ib_nI (show i < 40 by omega) (by omega), if_pos rfl, hc, hsc, tn_nI (by omega), tn_nI (by omega), hb _ (by omega), if_neg (not_not_intro e), nI_1]
  · intro i hi e
    have e := of_decide_eq_false e
    simp only [Nat.zero_add] at e ⊢
    unfold f_X0_alikeFrom_l2
    rw [h2, if_neg (nI_ge (by omega) (by omega)), h3, nI_add, if_neg (nI_ge (by omega) (by omega)), ib_nI (show a + i < 8 by omega) (by omega), if_pos rfl, ib_nI (show i < 40 by omega) (by omega), if_pos rfl, hc, hsc, tn_nI (by omega), tn_nI (by omega), hb _ (by omega), if_pos e]
  · simp only [Nat.zero_add]
    unfold f_X0_alikeFrom_l2
    by_cases e : n ≤ s - a
    · rw [h2, Nat.min_eq_left e, if_pos (nI_le (Nat.le_refl _) (by omega))]
    · rw [h2, Nat.min_eq_right (by omega), if_neg (nI_ge (by omega) (by omega)), h3, nI_add, if_pos (nI_le (by omega) (by omega))]
theorem sh_judge : SH_judge Rel := by
  intro μ h a x
  show OKS (f_X11_judge μ 0 a x) (fun m => f_X12_judge m 105 a x)
  obtain ⟨nn, nd, cl, wi, wt, bi, N, w, kd, m, db, br, s, bk, wk, H⟩ := h.1.1.2
  have H : PFT μ 2 14 μ 106 999 nn nd cl wi wt bi N w kd m db br s bk wk := H
  have N4 : N ≤ 4 := H.2.2.2.2.2.1
  have c1 : rd μ 14 3 = nI N := H.2.2.2.1.1
  have c2 : rd μ 106 1 = nI N := H.2.2.2.2.1.1
  obtain ⟨B1, B2, B3⟩ := PFT_b H
  by_cases g : ((0 : Int32) ≤ a ∧ a ≤ 3) ∧ ((0 : Int32) ≤ x ∧ x ≤ nI N - 1)
  · obtain ⟨g1, g2⟩ := g
    obtain ⟨t, ht, rfl⟩ := upto (n := 3) (by omega) g1
    obtain ⟨p, hp, rfl⟩ := (isF_iff (by omega)).mp g2
    have t4 : t < 4 := by omega
    have p4 : p < 4 := by omega
    obtain ⟨b, n, b1, b2, b3, b4, b5, b6, b7, b8⟩ := h.2.2.2.2.1 t t4
    have E := e_missing b3 (by omega)
    obtain ⟨p1, p2, p3, p4', p5, p6, p7⟩ := H.2.2.2.1.2.2 p hp
    obtain ⟨r1, r2, r3, r4, r5, r6⟩ := H.2.2.2.2.1.2.2 p hp
    by_cases g3 : b = 0
    · refine oks_ref (k := 2) h (by omega) ?_ ?_
      · unfold f_X11_judge
        simp only [e_isSheetX, e_isDebX c1, bd_s, if10, i00, i10, g1, g2, and_self, not_true, not_false_eq_true, if_true, if_false, ib_nI t4 (by omega), tn_nI (show t < 2 ^ 31 by omega), rfs, rf_sh t4, E, g3, bd_p]
        rfl
      · intro μ1 hR
        show f_X12_judge μ1 105 _ _ = _
        unfold f_X12_judge
        have c3 : rd μ1 106 1 = nI N := by rw [hR _ _ (by omega), c2]
        have c4 : rd μ1 116 t = nI 0 := by rw [hR _ _ (by omega), b4, g3]
        simp only [e_isSheetM, e_isDebM c3, bd_s, if10, i00, i10, g1, g2, and_self, not_true, not_false_eq_true, if_true, if_false, ib_nI t4 (by omega), tn_nI (show t < 2 ^ 31 by omega), rfs, c4, bd_p]
        rw [if_neg (by decide)]
        rfl
    · have X := e_alikeX (μ := μ) (c := 16 + 3 * p) (sc := 97 + 2 * t) (a := 0) (bk := bk p) (by rw [(rf_15 p4).2.1]; omega) (by rw [(rf_sh t4).2.1]; omega) (show rd μ (16 + 3 * p) 3 = nI (s p) from p2) (B1 p hp).1 (Nat.zero_le _) (fun i hi => by rw [show 16 + 3 * p + 1 = 14 + 2 + 3 * p + 1 by omega]; exact (p7 i hi).1) b5 b2
      have EE : alk (fun k => decide (nI (bk p (0 + k)) = rd μ (97 + 2 * t + 1) k)) (min n (s p - 0)) 0 = alk (fun k => decide (rd μ 118 (40 * t + k) = nI (bk p k))) (min n (s p)) 0 := by
        rw [Nat.sub_zero]
        refine alk_cg _ _ fun i hi => ?_
        simp only [Nat.zero_add]
        obtain ⟨v, v1, v2⟩ := b8 i (by omega)
        rw [show 97 + 2 * t + 1 = 98 + 2 * t by omega, v1, v2]
        have := sx_iff (b := b) v ((B1 p hp).2 i (by omega))
        by_cases e : lwb b v = nI (bk p i)
        · rw [decide_eq_true e.symm, decide_eq_true (this.mp e)]
        · rw [decide_eq_false (fun q => e q.symm), decide_eq_false (fun q => e (this.mpr q))]
      rw [EE] at X
      have M := lp_alk (body := fun q => f_X12_judge_l46 μ 105 (nI t) (nI p) (nI (s p)) q) (fun k => decide (rd μ 118 (40 * t + k) = nI (bk p k))) (min n (s p)) 0 FU (by unfold FU; omega) ?_ ?_ ?_
      · generalize alk (fun k => decide (rd μ 118 (40 * t + k) = nI (bk p k))) (min n (s p)) 0 = K at X M
        obtain ⟨r, x1, x2⟩ : ∃ r, f_X11_judge μ 0 (nI t) (nI p) = some (r, μ) ∧ f_X12_judge μ 105 (nI t) (nI p) = some (r, μ) := by
          refine ⟨if ¬ nI K = nI n then nI K else if ¬ nI K = nI (s p) then nI K else -1, ?_, ?_⟩
          · unfold f_X11_judge
            simp only [e_isSheetX, e_isDebX c1, bd_s, if10, i00, i10, g1, g2, and_self, not_true, not_false_eq_true, if_true, if_false, ib_nI t4 (by omega), ib_nI p4 (by omega), tn_nI (show t < 2 ^ 31 by omega), tn_nI (show p < 2 ^ 31 by omega), rfs, rf_sh t4, rf_15 p4, E, g3, show f_X0_alikeFrom μ (16 + 3 * p) 0 (97 + 2 * t) = some (nI K) from X, b5, show rd μ (16 + 3 * p) 3 = nI (s p) from p2]
            split
            · rfl
            · split <;> rfl
          · unfold f_X12_judge f_X12_judge_j93
            simp only [e_isSheetM, e_isDebM c2, bd_s, if10, i00, i10, g1, g2, and_self, not_true, not_false_eq_true, if_true, if_false, ib_nI t4 (by omega), tn_nI (show t < 2 ^ 31 by omega), rfs, b4, e_ofs p4, r5, show lp (fun s_1 => f_X12_judge_l46 μ 105 (nI t) (nI p) (nI (s p)) s_1) FU 0 = some (nI K) from M, b6]
            rw [if_pos (nI_ne0 (by omega) (by omega))]
            split
            · rfl
            · split <;> rfl
        exact oks_go x1 x2 h
      · intro i hi e
        have e := of_decide_eq_true e
        simp only [Nat.zero_add] at e ⊢
        unfold f_X12_judge_l46
        simp only [ib_nI t4 (by omega), if_true, rfs, tn_nI (show t < 2 ^ 31 by omega), b6, show (40 : Int32) * nI t + nI i = nI (40 * t + i) by rw [show (40 : Int32) = nI 40 from rfl, pk_mul, nI_add], ib_nI (show 40 * t + i < 160 by omega) (by omega), tn_nI (show 40 * t + i < 2 ^ 31 by omega), (e_ofi p4 (show i < 8 by have := (B1 p hp).1; omega) μ).1, bd_s, (r6 i (by omega)).1]
        rw [if_neg (nI_ge (by omega) (by omega)), if_neg (nI_ge (by omega) (by have := (B1 p hp).1; omega)), if_neg (not_not_intro e), nI_1]
      · intro i hi e
        have e := of_decide_eq_false e
        simp only [Nat.zero_add] at e ⊢
        unfold f_X12_judge_l46
        simp only [ib_nI t4 (by omega), if_true, rfs, tn_nI (show t < 2 ^ 31 by omega), b6, show (40 : Int32) * nI t + nI i = nI (40 * t + i) by rw [show (40 : Int32) = nI 40 from rfl, pk_mul, nI_add], ib_nI (show 40 * t + i < 160 by omega) (by omega), tn_nI (show 40 * t + i < 2 ^ 31 by omega), (e_ofi p4 (show i < 8 by have := (B1 p hp).1; omega) μ).1, bd_s, (r6 i (by omega)).1]
        rw [if_neg (nI_ge (by omega) (by omega)), if_neg (nI_ge (by omega) (by have := (B1 p hp).1; omega)), if_pos e]
      · simp only [Nat.zero_add]
        have s8 := (B1 p hp).1
        unfold f_X12_judge_l46
        simp only [ib_nI t4 (by omega), if_true, rfs, tn_nI (show t < 2 ^ 31 by omega), b6]
        by_cases e : n ≤ s p
        · rw [Nat.min_eq_left e, if_pos (nI_le (Nat.le_refl _) (by omega))]
        · rw [Nat.min_eq_right (by omega), if_neg (nI_ge (by omega) (by omega)), if_pos (nI_le (Nat.le_refl _) (by omega))]
  · refine oks_ref (k := 1) h (by omega) ?_ ?_
    · unfold f_X11_judge f_X11_judge_j15
      simp only [e_isSheetX, e_isDebX c1, bd_s, if10, i00, i10, bd_p]
      by_cases g1 : (0 : Int32) ≤ a ∧ a ≤ 3
      · have g2 : ¬ ((0 : Int32) ≤ x ∧ x ≤ nI N - 1) := fun q => g ⟨g1, q⟩
        simp only [g1, g2, and_self, not_true, if_false, not_false_eq_true, if_true]
        rfl
      · simp only [g1, not_false_eq_true, if_true]
        rfl
    · intro μ1 hR
      show f_X12_judge μ1 105 _ _ = _
      unfold f_X12_judge f_X12_judge_j15
      have c3 : rd μ1 106 1 = nI N := by rw [hR _ _ (by omega), c2]
      simp only [e_isSheetM, e_isDebM c3, bd_s, if10, i00, i10, bd_p]
      by_cases g1 : (0 : Int32) ≤ a ∧ a ≤ 3
      · have g2 : ¬ ((0 : Int32) ≤ x ∧ x ≤ nI N - 1) := fun q => g ⟨g1, q⟩
        simp only [g1, g2, and_self, not_true, if_false, not_false_eq_true, if_true]
        rfl
      · simp only [g1, not_false_eq_true, if_true]
        rfl
