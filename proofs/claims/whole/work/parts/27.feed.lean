/-! PURE: loops by an index; feed -/
theorem lp_ix {σ ρ : Type} {body : σ → Option (σ ⊕ ρ)} (I : Nat → σ → Prop) (n : Nat) (Post : ρ → Prop) (hs : ∀ j s, j < n → I j s → ∃ s', body s = some (.inl s') ∧ I (j + 1) s') (he : ∀ s, I n s → ∃ r, body s = some (.inr r) ∧ Post r) : ∀ (k j N : Nat) (s : σ), k + j = n → k < N → I j s → ∃ r, lp body N s = some r ∧ Post r := by
  intro k
  induction k with
  | zero =>
    intro j N s hk hN hI
    obtain ⟨N', rfl⟩ : ∃ N', N = N' + 1 := ⟨N - 1, by omega⟩
    obtain ⟨r, h1, h2⟩ := he s (by rw [show n = j by omega]; exact hI)
    exact ⟨r, by simp only [lp, h1, Option.bind_some], h2⟩
  | succ k ih =>
    intro j N s hk hN hI
    obtain ⟨N', rfl⟩ : ∃ N', N = N' + 1 := ⟨N - 1, by omega⟩
    obtain ⟨s', h1, h2⟩ := hs j s (by omega) hI
    obtain ⟨r, h3, h4⟩ := ih (j + 1) N' s' (by omega) (by omega) h2
    exact ⟨r, by simp only [lp, h1, Option.bind_some]; exact h3, h4⟩
theorem lp_I {σ ρ : Type} {body : σ → Option (σ ⊕ ρ)} (I : Nat → σ → Prop) (n : Nat) (Post : ρ → Prop) {s : σ} (hn : n < 1000000) (h0 : I 0 s) (hs : ∀ j s, j < n → I j s → ∃ s', body s = some (.inl s') ∧ I (j + 1) s') (he : ∀ s, I n s → ∃ r, body s = some (.inr r) ∧ Post r) : ∃ r, lp body FU s = some r ∧ Post r := lp_ix I n Post hs he n 0 FU s (by omega) (by unfold FU; omega) h0
theorem lshr_bv (a : Int64) {j : Nat} (hj : j < 8) : (jlshr a (8 * nI j)).toBitVec = a.toBitVec.sshiftRight (8 * j) := by
  have : j = 0 ∨ j = 1 ∨ j = 2 ∨ j = 3 ∨ j = 4 ∨ j = 5 ∨ j = 6 ∨ j = 7 := by omega
  rcases this with rfl | rfl | rfl | rfl | rfl | rfl | rfl | rfl <;> rfl
theorem lushr_bv (a : Int64) {j : Nat} (hj : j < 8) : (jlushr a (8 * nI j)).toBitVec = a.toBitVec >>> (8 * j) := by
  have : j = 0 ∨ j = 1 ∨ j = 2 ∨ j = 3 ∨ j = 4 ∨ j = 5 ∨ j = 6 ∨ j = 7 := by omega
  rcases this with rfl | rfl | rfl | rfl | rfl | rfl | rfl | rfl <;> rfl
theorem feed_b (a : Int64) {j : Nat} (hj : j < 8) : (jlushr a (8 * nI j)).toInt32 &&& 255 = ((jlshr a (8 * nI j)) &&& 255).toInt32 := by
  apply Int32.toBitVec_inj.mp
  have e1 : ((jlushr a (8 * nI j)).toInt32 &&& 255).toBitVec = (a.toBitVec >>> (8 * j)).signExtend 32 &&& 255#32 := by rw [← lushr_bv a hj]; rfl
  have e2 : ((jlshr a (8 * nI j)) &&& 255).toInt32.toBitVec = (a.toBitVec.sshiftRight (8 * j) &&& 255#64).signExtend 32 := by rw [← lshr_bv a hj]; rfl
  rw [e1, e2]
  ext i hi
  have h255 : ∀ i, i < 32 → (255#32)[i]! = decide (i < 8) := by decide
  have g255 : ∀ i, i < 32 → (255#64).getLsbD i = decide (i < 8) := by decide
  have k255 : ∀ i, i < 32 → (255#32).getLsbD i = decide (i < 8) := by decide
  rw [← BitVec.getLsbD_eq_getElem, ← BitVec.getLsbD_eq_getElem]
  simp only [BitVec.getLsbD_and, BitVec.getLsbD_signExtend, BitVec.getLsbD_ushiftRight, BitVec.getLsbD_sshiftRight, g255 i hi, k255 i hi, hi]
  by_cases h8 : i < 8
  · have : i < 64 := by omega
    have : 8 * j + i < 64 := by omega
    simp [*]
  · simp [h8]
    intro q
    omega
theorem e_add7 {μ : Mem} {n : Nat} (h : rd μ 32 1 = nI n) (hn : n < 50) (v : Int32) : f_X7_add μ 32 v = some (wr (wr μ 33 n v) 32 1 (nI (n + 1))) := by
  unfold f_X7_add
  simp only [rfs, h, ib_nI hn (by omega), if_true, bd_s, tn_nI (show n < 2 ^ 31 by omega)]
  rw [if_neg (show ¬ 50 ≤ nI n from nI_ge (b := 50) hn (by omega)), rd_wr_n (by omega), h, nI_1]
theorem sh_feed : SH_feed Rel := by
  intro μ h a x
  show OKS (f_X11_feed μ 0 a x) (fun m => f_X12_feed m 105 a x)
  obtain ⟨n, n1, n2, n3, n4⟩ := h.1.2.2.1
  have n2 : rd μ 32 1 = nI n := n2
  by_cases g1 : (1 : Int32) ≤ x ∧ x ≤ 8
  · obtain ⟨y, hy0, hy, rfl⟩ := upto1 (n := 8) (by omega) g1
    by_cases g2 : n + y ≤ 50
    · let V : Nat → Int32 := fun i => if i < n then rd μ 33 i else (jlushr a (8 * nI (i - n))).toInt32 &&& 255
      have V1 : ∀ i, i < n → V i = rd μ 33 i := fun i hi => if_pos hi
      have V2 : ∀ j, V (n + j) = (jlushr a (8 * nI j)).toInt32 &&& 255 := fun j => by
        show (if n + j < n then _ else _) = _
        rw [if_neg (by omega), show n + j - n = j by omega]
      obtain ⟨m1, l1, k1, k2, k3⟩ : ∃ m1, lp (fun s => f_X11_feed_l46 0 a (nI y) 32 s.1 s.2) FU ((0 : Int32), μ) = some m1 ∧ rd m1 32 1 = nI (n + y) ∧ (∀ i, i < n + y → rd m1 33 i = V i) ∧ ∀ k j', k ≠ 32 → k ≠ 33 → rd m1 k j' = rd μ k j' := by
        refine lp_I (fun j s => s.1 = nI j ∧ rd s.2 32 1 = nI (n + j) ∧ (∀ i, i < n + j → rd s.2 33 i = V i) ∧ ∀ k j', k ≠ 32 → k ≠ 33 → rd s.2 k j' = rd μ k j') y _ (by omega) ⟨rfl, n2, fun i hi => (V1 i hi).symm, fun k j' _ _ => rfl⟩ ?_ ?_
        · rintro j ⟨v, m⟩ hj ⟨e1, e2, e3, e4⟩
          simp only at e1 e2 e3 e4
          subst e1
          refine ⟨(nI (j + 1), wr (wr m 33 (n + j) (V (n + j))) 32 1 (nI (n + j + 1))), ?_, rfl, rd_wr_s .., fun i hi => ?_, fun k j' c d => ?_⟩
          · simp only [f_X11_feed_l46]
            rw [if_neg (nI_ge hj (by omega)), e_add7 e2 (by omega), V2 j, bd_s, nI_1]
          · simp only
            rw [rd_wr_n (by omega)]
            by_cases e : i = n + j
            · subst e
              rw [rd_wr_s]
            · rw [rd_wr_n (by omega)]
              exact e3 i (by omega)
          · simp only
            rw [rd_wr_n (by omega), rd_wr_n (by omega)]
            exact e4 k j' c d
        · rintro ⟨v, m⟩ ⟨e1, e2, e3, e4⟩
          simp only at e1 e2 e3 e4
          subst e1
          refine ⟨m, ?_, e2, e3, e4⟩
          simp only [f_X11_feed_l46]
          rw [if_pos (nI_le (Nat.le_refl _) (by omega))]
      have n3' : rd m1 106 5 = nI n := by rw [k3 _ _ (by omega) (by omega), n3]
      obtain ⟨m2, l2, j1, j2, j3⟩ : ∃ m2, lp (fun s => f_X12_feed_l40 105 a (nI y) s.1 s.2) FU ((0 : Int32), m1) = some m2 ∧ rd m2 106 5 = nI (n + y) ∧ (∀ i, i < n + y → rd m2 106 (292 + i) = V i) ∧ ∀ k j', ¬ (k = 106 ∧ (j' = 5 ∨ 292 ≤ j' ∧ j' < 342)) → rd m2 k j' = rd m1 k j' := by
        refine lp_I (fun j s => s.1 = nI j ∧ rd s.2 106 5 = nI (n + j) ∧ (∀ i, i < n + j → rd s.2 106 (292 + i) = V i) ∧ ∀ k j', ¬ (k = 106 ∧ (j' = 5 ∨ 292 ≤ j' ∧ j' < 342)) → rd s.2 k j' = rd m1 k j') y _ (by omega) ⟨rfl, n3', fun i hi => ?_, fun k j' _ => rfl⟩ ?_ ?_
        · obtain ⟨b, hb1, hb2, hb3⟩ := n4 i hi
          have hb2 : rd μ 33 i = nI b := hb2
          rw [k3 _ _ (by omega) (by omega), V1 i hi, hb2, hb3]
        · rintro j ⟨v, m⟩ hj ⟨e1, e2, e3, e4⟩
          simp only at e1 e2 e3 e4
          subst e1
          refine ⟨(nI (j + 1), wr (wr m 106 (292 + (n + j)) (V (n + j))) 106 5 (nI (n + j + 1))), ?_, rfl, rd_wr_s .., fun i hi => ?_, fun k j' c => ?_⟩
          · simp only [f_X12_feed_l40, rfs, cls, e2]
            rw [if_neg (nI_ge hj (by omega)), show (292 : Int32) + nI (n + j) = nI (292 + (n + j)) from nI_add 292 (n + j), ib_nI (show 292 + (n + j) < 342 by omega) (by omega), if_pos rfl, tn_nI (show 292 + (n + j) < 2 ^ 31 by omega), bd_s, bd_s, rd_wr_n (by omega), e2, V2 j, feed_b a (show j < 8 by omega), nI_1, nI_1]
          · simp only
            rw [rd_wr_n (by omega)]
            by_cases e : i = n + j
            · subst e
              rw [rd_wr_s]
            · rw [rd_wr_n (by omega)]
              exact e3 i (by omega)
          · simp only
            rw [rd_wr_n (by omega), rd_wr_n (by omega)]
            exact e4 k j' c
        · rintro ⟨v, m⟩ ⟨e1, e2, e3, e4⟩
          simp only at e1 e2 e3 e4
          subst e1
          refine ⟨m, ?_, e2, e3, e4⟩
          simp only [f_X12_feed_l40]
          rw [if_pos (nI_le (Nat.le_refl _) (by omega))]
      refine oks_go (r := nI (n + y)) (μ1 := m1) (μ2 := m2) ?_ ?_ ?_
      · unfold f_X11_feed
        simp only [rfs, n2, e_among, bd_s, if10, i00, i10, g1, and_self, not_true, not_false_eq_true, if_true, if_false, nI_add]
        rw [if_pos (show nI (n + y) ≤ 50 from nI_le (b := 50) g2 (by omega)), l1, bd_s, k1]
      · show f_X12_feed m1 105 a (nI y) = _
        unfold f_X12_feed
        simp only [rfs, cls, n3', e_ins, bd_s, if10, i00, i10, g1, and_self, not_true, not_false_eq_true, if_true, if_false, nI_add]
        rw [if_pos (show nI (n + y) ≤ 50 from nI_le (b := 50) g2 (by omega)), l2, bd_s, j1]
      · refine R2_Tp h (fun k j c d => by rw [j3 k j (by omega), k3 k j (by omega) (by omega)]) ⟨n + y, g2, by rw [j3 _ _ (by omega), k1], j1, fun i hi => ?_⟩
        rw [j3 _ _ (by omega), k2 i hi, j2 i hi]
        by_cases e : i < n
        · obtain ⟨b, hb1, hb2, hb3⟩ := n4 i e
          exact ⟨b, hb1, by rw [V1 i e]; exact hb2, by rw [V1 i e]; exact hb2⟩
        · obtain ⟨b, hb1, hb2⟩ := pk_andE ((jlushr a (8 * nI (i - n))).toInt32) (m := 255) 8 (by decide)
          have : V i = nI b := by rw [show i = n + (i - n) by omega, V2, hb2]
          exact ⟨b, hb1, this, this⟩
    · have e3 : ¬ nI (n + y) ≤ 50 := fun q => g2 ((nI_leI (b := 50) (by omega) (by omega)).mp q)
      refine oks_ref (k := 4) h (by omega) ?_ ?_
      · unfold f_X11_feed
        simp only [rfs, n2, e_among, bd_s, if10, i00, i10, g1, and_self, not_true, not_false_eq_true, if_true, if_false, nI_add, e3, bd_p]
        rfl
      · intro μ1 hR
        show f_X12_feed μ1 105 _ _ = _
        unfold f_X12_feed
        have c3 : rd μ1 106 5 = nI n := by rw [hR _ _ (by omega), n3]
        simp only [rfs, cls, c3, e_ins, bd_s, if10, i00, i10, g1, and_self, not_true, not_false_eq_true, if_true, if_false, nI_add, e3, bd_p]
        rfl
  · refine oks_ref (k := 1) h (by omega) ?_ ?_
    · unfold f_X11_feed
      simp only [e_among, bd_s, if10, i00, i10, g1, not_true, not_false_eq_true, if_true, if_false, bd_p]
      rfl
    · intro μ1 hR
      show f_X12_feed μ1 105 _ _ = _
      unfold f_X12_feed
      simp only [e_ins, bd_s, if10, i00, i10, g1, not_true, not_false_eq_true, if_true, if_false, bd_p]
      rfl
