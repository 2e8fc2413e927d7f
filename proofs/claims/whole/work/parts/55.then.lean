/-! PURE: a town copied; the model's land aside and back; then -/
theorem rf_t3 {t : Nat} (h : t = 14 ∨ t = 48 ∨ t = 69) : rf t 0 = t + 1 ∧ ∀ p, p < 4 → rf (t + 1) p = t + 2 + 3 * p ∧ rf (t + 2 + 3 * p) 0 = t + 3 + 3 * p ∧ rf (t + 2 + 3 * p) 1 = t + 4 + 3 * p ∧ ln (t + 3 + 3 * p) = 8 ∧ ln (t + 4 + 3 * p) = 8 := by
  rcases h with rfl | rfl | rfl <;> decide
theorem e_cpD {μ : Mem} {c a : Nat} (hc : rf c 0 = c + 1 ∧ rf c 1 = c + 2 ∧ ln (c + 1) = 8 ∧ ln (c + 2) = 8) (ha : rf a 0 = a + 1 ∧ rf a 1 = a + 2 ∧ ln (a + 1) = 8 ∧ ln (a + 2) = 8) (hd : a + 2 < c ∨ c + 2 < a) (hb : bz (rd μ a 7) = true) : ∃ μ2, f_X0_copyFrom μ c a = some μ2 ∧ (∀ j, 2 ≤ j → j ≤ 7 → rd μ2 c j = rd μ a j) ∧ (∀ i, i < 8 → rd μ2 (c + 1) i = rd μ (a + 1) i ∧ rd μ2 (c + 2) i = rd μ (a + 2) i) ∧ ∀ k j, ¬ (c ≤ k ∧ k ≤ c + 2) → rd μ2 k j = rd μ k j := by
  have hcb : cb (0 : Int32) (0 : Int32) (8 : Int32) 8 8 = true := by decide
  have K1 : ∀ k j, ¬ (k = c + 1) → rd (cpy μ (a + 1) 0 (c + 1) 0 8) k j = rd μ k j := fun k j h => by rw [rd_cpy, if_neg (by omega)]
  have K2 : ∀ k j, ¬ (k = c + 1 ∨ k = c + 2) → rd (cpy (cpy μ (a + 1) 0 (c + 1) 0 8) (a + 2) 0 (c + 2) 0 8) k j = rd μ k j := fun k j h => by rw [rd_cpy, if_neg (by omega), K1 k j (by omega)]
  refine ⟨wr (wr (wr (wr (wr (wr (cpy (cpy μ (a + 1) 0 (c + 1) 0 8) (a + 2) 0 (c + 2) 0 8) c 2 (rd μ a 2)) c 3 (rd μ a 3)) c 4 (rd μ a 4)) c 5 (rd μ a 5)) c 6 (rd μ a 6)) c 7 (rd μ a 7), ?_, fun j j2 j7 => ?_, fun i hi => ⟨?_, ?_⟩, fun k j h => ?_⟩
  · unfold f_X0_copyFrom
    rw [hc.1, hc.2.1, ha.1, ha.2.1, hc.2.2.1, hc.2.2.2, ha.2.2.1, ha.2.2.2, hcb, if_pos rfl, bd_s, if_pos rfl, bd_s, bd_s, bd_s, bd_s, bd_s, bd_s]
    simp only [show (0 : Int32).toNatClampNeg = 0 from rfl, show (8 : Int32).toNatClampNeg = 8 from rfl]
    simp (discharger := omega) only [rd_wr_n, K2, hb, if_true, bd_s]
  · have : j = 2 ∨ j = 3 ∨ j = 4 ∨ j = 5 ∨ j = 6 ∨ j = 7 := by omega
    rcases this with rfl | rfl | rfl | rfl | rfl | rfl <;> simp (discharger := omega) only [rd_wr_n, rd_wr_s]
  · simp (discharger := omega) only [rd_wr_n]
    rw [rd_cpy, if_neg (by omega), rd_cpy, if_pos (by omega), Nat.zero_add, Nat.sub_zero]
  · simp (discharger := omega) only [rd_wr_n]
    rw [rd_cpy, if_pos (by omega), Nat.zero_add, Nat.sub_zero, K1 _ _ (by omega)]
  · simp (discharger := omega) only [rd_wr_n]
    exact K2 k j (by omega)
theorem e_cpT {μ : Mem} {t s : Nat} (ht : t = 14 ∨ t = 48 ∨ t = 69) (hs : s = 14 ∨ s = 48 ∨ s = 69) (hts : t ≠ s) (hb : BZt μ s) : ∃ μ2, f_X8_copyFrom μ t s = some μ2 ∧ rd μ2 t 3 = rd μ s 3 ∧ rd μ2 t 4 = rd μ s 4 ∧ (∀ p, p < 4 → (∀ j, 2 ≤ j → j ≤ 7 → rd μ2 (t + 2 + 3 * p) j = rd μ (s + 2 + 3 * p) j) ∧ ∀ i, i < 8 → rd μ2 (t + 3 + 3 * p) i = rd μ (s + 3 + 3 * p) i ∧ rd μ2 (t + 4 + 3 * p) i = rd μ (s + 4 + 3 * p) i) ∧ ∀ k j, ¬ (t ≤ k ∧ k ≤ t + 13) → rd μ2 k j = rd μ k j := by
  obtain ⟨rt0, rt⟩ := rf_t3 ht
  obtain ⟨rs0, rs⟩ := rf_t3 hs
  obtain ⟨μ1, l1, l2, l3⟩ : ∃ μ1, lp (fun q => f_X8_copyFrom_l2 t s q.1 q.2) FU ((0 : Int32), μ) = some μ1 ∧ (∀ p, p < 4 → (∀ j, 2 ≤ j → j ≤ 7 → rd μ1 (t + 2 + 3 * p) j = rd μ (s + 2 + 3 * p) j) ∧ ∀ i, i < 8 → rd μ1 (t + 3 + 3 * p) i = rd μ (s + 3 + 3 * p) i ∧ rd μ1 (t + 4 + 3 * p) i = rd μ (s + 4 + 3 * p) i) ∧ ∀ k j, ¬ (t + 2 ≤ k ∧ k ≤ t + 13) → rd μ1 k j = rd μ k j := by
    refine lp_I (fun j q => q.1 = nI j ∧ (∀ p, p < j → (∀ j, 2 ≤ j → j ≤ 7 → rd q.2 (t + 2 + 3 * p) j = rd μ (s + 2 + 3 * p) j) ∧ ∀ i, i < 8 → rd q.2 (t + 3 + 3 * p) i = rd μ (s + 3 + 3 * p) i ∧ rd q.2 (t + 4 + 3 * p) i = rd μ (s + 4 + 3 * p) i) ∧ ∀ k j, ¬ (t + 2 ≤ k ∧ k ≤ t + 13) → rd q.2 k j = rd μ k j) 4 _ (by omega) ⟨rfl, fun p hp => by omega, fun _ _ _ => rfl⟩ ?_ ?_
    · rintro j ⟨v, m⟩ hj ⟨e1, e2, e3⟩
      simp only at e1 e2 e3
      subst e1
      obtain ⟨a1, a2, a3, a4, a5⟩ := rt j hj
      obtain ⟨b1, b2, b3, b4, b5⟩ := rs j hj
      obtain ⟨m1, c1, c2, c3, c4⟩ := e_cpD (μ := m) (c := t + 2 + 3 * j) (a := s + 2 + 3 * j) ⟨by rw [a2]; omega, by rw [a3]; omega, by rw [show t + 2 + 3 * j + 1 = t + 3 + 3 * j by omega]; exact a4, by rw [show t + 2 + 3 * j + 2 = t + 4 + 3 * j by omega]; exact a5⟩ ⟨by rw [b2]; omega, by rw [b3]; omega, by rw [show s + 2 + 3 * j + 1 = s + 3 + 3 * j by omega]; exact b4, by rw [show s + 2 + 3 * j + 2 = s + 4 + 3 * j by omega]; exact b5⟩ (by omega) (by rw [e3 _ _ (by omega)]; exact hb j hj)
      refine ⟨(nI (j + 1), m1), ?_, rfl, fun p hp => ?_, fun k i h => ?_⟩
      · show f_X8_copyFrom_l2 t s (nI j) m = _
        unfold f_X8_copyFrom_l2
        rw [if_neg (show ¬ (4 : Int32) ≤ nI j from nI_ge (b := 4) hj (by omega)), ib_nI hj (by omega), if_pos rfl, if_pos rfl, tn_nI (by omega), rt0, rs0, a1, b1, c1, bd_s, nI_1]
      · simp only
        by_cases e : p = j
        · subst e
          refine ⟨fun i i2 i7 => by rw [c2 i i2 i7, e3 _ _ (by omega)], fun i hi => ?_⟩
          have := c3 i hi
          rw [show t + 3 + 3 * p = t + 2 + 3 * p + 1 by omega, show t + 4 + 3 * p = t + 2 + 3 * p + 2 by omega, show s + 3 + 3 * p = s + 2 + 3 * p + 1 by omega, show s + 4 + 3 * p = s + 2 + 3 * p + 2 by omega, this.1, this.2, e3 _ _ (by omega), e3 _ _ (by omega)]
          exact ⟨rfl, rfl⟩
        · obtain ⟨x1, x2⟩ := e2 p (by omega)
          refine ⟨fun i i2 i7 => by rw [c4 _ _ (by omega)]; exact x1 i i2 i7, fun i hi => ?_⟩
          rw [c4 _ _ (by omega), c4 _ _ (by omega)]
          exact x2 i hi
      · simp only
        rw [c4 _ _ (by omega), e3 k i h]
    · rintro ⟨v, m⟩ ⟨e1, e2, e3⟩
      simp only at e1 e2 e3
      subst e1
      refine ⟨m, ?_, e2, e3⟩
      show f_X8_copyFrom_l2 t s (nI 4) m = _
      unfold f_X8_copyFrom_l2
      rw [if_pos (by decide)]
  refine ⟨wr (wr μ1 t 3 (rd μ s 3)) t 4 (rd μ s 4), ?_, by rw [rd_wr_n (by omega), rd_wr_s], rd_wr_s _ _ _ _, fun p hp => ?_, fun k j h => by rw [rd_wr_n (by omega), rd_wr_n (by omega), l3 k j (by omega)]⟩
  · unfold f_X8_copyFrom
    rw [l1, bd_s, bd_s, bd_s, rd_wr_n (by omega), l3 s 3 (by omega), l3 s 4 (by omega)]
  · obtain ⟨x1, x2⟩ := l2 p hp
    refine ⟨fun i i2 i7 => by rw [rd_wr_n (by omega), rd_wr_n (by omega)]; exact x1 i i2 i7, fun i hi => ?_⟩
    rw [rd_wr_n (by omega), rd_wr_n (by omega), rd_wr_n (by omega), rd_wr_n (by omega)]
    exact x2 i hi
/-- the thought town -/
theorem e_think {μ : Mem} {n N w : Nat} {T : Nat → Dt} (n8 : n ≤ 8) (hb : BZt μ 14) (H : TXt μ 14 N w T) (W : TWt n N w T) : ∃ μ2, f_X8_copyFrom μ 69 14 = some μ2 ∧ TXt μ2 69 N w T ∧ ∀ k j, ¬ (69 ≤ k ∧ k ≤ 82) → rd μ2 k j = rd μ k j := by
  have N4 := W.1
  obtain ⟨μ2, a1, a2, a3, a4, a5⟩ := e_cpT (Or.inr (Or.inr rfl)) (Or.inl rfl) (by omega) hb
  refine ⟨μ2, a1, ⟨by rw [a2]; exact H.1, by rw [a3]; exact H.2.1, fun p hp => ?_⟩, a5⟩
  obtain ⟨p1, p2, p3, p4, p5, p6, p7⟩ := H.2.2 p hp
  obtain ⟨d1, d2, d3, d4, d5, d6, d7⟩ := W.2.2 p hp
  obtain ⟨x1, x2⟩ := a4 p (by omega)
  refine ⟨by rw [x1 2 (by omega) (by omega)]; exact p1, by rw [x1 3 (by omega) (by omega)]; exact p2, by rw [x1 4 (by omega) (by omega)]; exact p3, by rw [x1 5 (by omega) (by omega)]; exact p4, by rw [x1 6 (by omega) (by omega)]; exact p5, by rw [x1 7 (by omega) (by omega)]; exact p6, fun i hi => ?_⟩
  have b8 := (d6 i hi).1
  have := p7 i hi
  rw [show 69 + 2 + 3 * p + 1 = 69 + 3 + 3 * p by omega, show 69 + 2 + 3 * p + 2 = 69 + 4 + 3 * p by omega, (x2 i (by omega)).1, (x2 (dbk (T p) i) (by omega)).2]
  rw [show 14 + 2 + 3 * p + 1 = 14 + 3 + 3 * p by omega, show 14 + 2 + 3 * p + 2 = 14 + 4 + 3 * p by omega] at this
  exact this
theorem e_aside (μ : Mem) : ∃ μ2, f_X12_keepAside μ 105 = some μ2 ∧ (∀ j, j < 170 → rd μ2 108 j = rd μ 106 j) ∧ ∀ k j, k ≠ 108 → rd μ2 k j = rd μ k j := by
  obtain ⟨m1, l1, l2, l3⟩ : ∃ m1, lp (fun q => f_X12_keepAside_l2 105 q.1 q.2) FU ((0 : Int32), μ) = some m1 ∧ (∀ j, j < 170 → rd m1 108 j = rd μ 106 j) ∧ ∀ k j, k ≠ 108 → rd m1 k j = rd μ k j := by
    refine lp_I (fun j q => q.1 = nI j ∧ (∀ i, i < j → rd q.2 108 i = rd μ 106 i) ∧ ∀ k j, k ≠ 108 → rd q.2 k j = rd μ k j) 170 _ (by omega) ⟨rfl, fun i hi => by omega, fun _ _ _ => rfl⟩ ?_ ?_
    · rintro j ⟨v, m⟩ hj ⟨e1, e2, e3⟩
      simp only at e1 e2 e3
      subst e1
      refine ⟨(nI (j + 1), wr m 108 j (rd μ 106 j)), ?_, rfl, fun i hi => ?_, fun k i h => ?_⟩
      · show f_X12_keepAside_l2 105 (nI j) m = _
        unfold f_X12_keepAside_l2
        rw [if_neg (show ¬ (170 : Int32) ≤ nI j from nI_ge (b := 170) hj (by omega)), ib_nI (show j < 342 by omega) (by omega), if_pos rfl, ib_nI hj (by omega), if_pos rfl, bd_s, tn_nI (by omega), nI_1]
        simp only [rfs]
        rw [e3 106 j (by omega)]
      · simp only
        by_cases e : i = j
        · rw [e, rd_wr_s]
        · rw [rd_wr_n (by omega)]; exact e2 i (by omega)
      · simp only
        rw [rd_wr_n (by omega)]; exact e3 k i h
    · rintro ⟨v, m⟩ ⟨e1, e2, e3⟩
      simp only at e1 e2 e3
      subst e1
      refine ⟨m, ?_, e2, e3⟩
      show f_X12_keepAside_l2 105 (nI 170) m = _
      unfold f_X12_keepAside_l2
      rw [if_pos (by decide)]
  exact ⟨m1, by unfold f_X12_keepAside; rw [l1, bd_s], l2, l3⟩
theorem e_back (μ : Mem) : ∃ μ2, f_X12_putBack μ 105 = some μ2 ∧ (∀ j, j < 170 → rd μ2 106 j = rd μ 108 j) ∧ ∀ k j, ¬ (k = 106 ∧ j < 170) → rd μ2 k j = rd μ k j := by
  obtain ⟨m1, l1, l2, l3⟩ : ∃ m1, lp (fun q => f_X12_putBack_l2 105 q.1 q.2) FU ((0 : Int32), μ) = some m1 ∧ (∀ j, j < 170 → rd m1 106 j = rd μ 108 j) ∧ ∀ k j, ¬ (k = 106 ∧ j < 170) → rd m1 k j = rd μ k j := by
    refine lp_I (fun j q => q.1 = nI j ∧ (∀ i, i < j → rd q.2 106 i = rd μ 108 i) ∧ ∀ k j, ¬ (k = 106 ∧ j < 170) → rd q.2 k j = rd μ k j) 170 _ (by omega) ⟨rfl, fun i hi => by omega, fun _ _ _ => rfl⟩ ?_ ?_
    · rintro j ⟨v, m⟩ hj ⟨e1, e2, e3⟩
      simp only at e1 e2 e3
      subst e1
      refine ⟨(nI (j + 1), wr m 106 j (rd μ 108 j)), ?_, rfl, fun i hi => ?_, fun k i h => ?_⟩
      · show f_X12_putBack_l2 105 (nI j) m = _
        unfold f_X12_putBack_l2
        rw [if_neg (show ¬ (170 : Int32) ≤ nI j from nI_ge (b := 170) hj (by omega)), ib_nI hj (by omega), if_pos rfl, ib_nI (show j < 342 by omega) (by omega), if_pos rfl, bd_s, tn_nI (by omega), nI_1]
        simp only [rfs]
        rw [e3 108 j (by omega)]
      · simp only
        by_cases e : i = j
        · rw [e, rd_wr_s]
        · rw [rd_wr_n (by omega)]; exact e2 i (by omega)
      · simp only
        rw [rd_wr_n (by omega)]; exact e3 k i h
    · rintro ⟨v, m⟩ ⟨e1, e2, e3⟩
      simp only at e1 e2 e3
      subst e1
      refine ⟨m, ?_, e2, e3⟩
      show f_X12_putBack_l2 105 (nI 170) m = _
      unfold f_X12_putBack_l2
      rw [if_pos (by decide)]
  exact ⟨m1, by unfold f_X12_putBack; rw [l1, bd_s], l2, l3⟩
/-- the model's weeks in a loop of their own -/
theorem awN {n N w r0 r k : Nat} {a1 : Int32} {nd cl wi wt : Nat → Nat} {bi : Nat → Int32} {gv : Nat → Nat → Nat → Nat} {T : Nat → Dt} {μ : Mem} (B : Int32 → Mem → Option ((Int32 × Mem) ⊕ Mem)) (hB : ∀ v m, B v m = if nI k ≤ v then some (.inr m) else (f_X12_aWeek m 105).bind fun μ60 => some (.inl (v + 1, μ60))) (F : FM μ 106 n nd cl wi wt bi) (V : FW n nd cl wi wt bi) (h12 : rd μ 105 12 = a1) (hr : ∀ p, p < 4 → (nI p = a1 ↔ p = r0)) (h13 : r0 < 4 → rd μ 105 13 = nI r) (hr4 : r ≤ 4) (L : LwM μ gv) (H : TMt μ 106 N w T) (W : TWt n N w T) (hk : w + k ≤ 5000) : ∃ μ2, lp (fun s => B s.1 s.2) FU ((0 : Int32), μ) = some μ2 ∧ TMt μ2 106 N (w + k) (wksT n nd cl wi bi gv N w r0 r k T) ∧ WF μ μ2 := by
  refine lp_I (fun j s => s.1 = nI j ∧ TMt s.2 106 N (w + j) (wksT n nd cl wi bi gv N w r0 r j T) ∧ WF μ s.2) k _ (by omega) ⟨rfl, H, fun _ _ _ _ _ => rfl⟩ ?_ ?_
  · rintro j ⟨v, m⟩ hj ⟨e1, e2, e3⟩
    simp only at e1 e2 e3
    subst e1
    obtain ⟨m1, x1, x2, x3⟩ := e_weekM (r0 := r0) (r := r) (a1 := a1) (WF_FM V.1 e3 F) V (by rw [e3 _ _ (by omega) (by omega) (by omega)]; exact h12) hr (fun z => by rw [e3 _ _ (by omega) (by omega) (by omega)]; exact h13 z) hr4 (WF_LM e3 L) e2 (TW_wks V.1 W j (by omega))
    refine ⟨(nI (j + 1), m1), ?_, rfl, x2, WF_tr e3 x3⟩
    show B (nI j) m = _
    rw [hB, if_neg (nI_ge hj (by omega)), x1, bd_s, nI_1]
  · rintro ⟨v, m⟩ ⟨e1, e2, e3⟩
    simp only at e1 e2 e3
    subst e1
    refine ⟨m, ?_, e2, e3⟩
    show B (nI k) m = _
    rw [hB, if_pos (nI_le (Nat.le_refl _) (by omega))]
theorem sh_then : SH_then Rel := by
  intro μ h a x y
  show OKS (f_X11_then μ 0 a x y) (fun m => f_X12_then m 105 a x y)
  obtain ⟨n, nd, cl, wi, wt, bi, N, w, T, gv, ⟨F, F1, V⟩, H, M, W, w9, L1, L2⟩ := rel_T h
  have N4 := W.1
  have n8 := V.1
  have c1 : rd μ 14 3 = nI N := H.1
  have c2 : rd μ 106 1 = nI N := M.1
  by_cases g : ((0 : Int32) ≤ a ∧ a ≤ 60) ∧ ((0 : Int32) ≤ x ∧ x ≤ nI N - 1) ∧ ((2 : Int32) ≤ y ∧ y ≤ 7) ∧ ¬ y = 6
  · obtain ⟨g1, g2, g3, g4⟩ := g
    obtain ⟨k, hk, rfl⟩ := upto (n := 60) (by omega) g1
    obtain ⟨p, hp, rfl⟩ := (isF_iff (by omega)).mp g2
    have p4 : p < 4 := by omega
    obtain ⟨z, hz, rfl⟩ : ∃ z, (z = 2 ∨ z = 3 ∨ z = 4 ∨ z = 5 ∨ z = 7) ∧ y = nI z := by
      obtain ⟨z, hz, rfl⟩ := upto (n := 7) (by omega) ⟨by have := g3.1; rw [i32_le] at this ⊢; have h2 : (2 : Int32).toInt = 2 := rfl; have h0 : (0 : Int32).toInt = 0 := rfl; omega, g3.2⟩
      have z0 : z ≠ 0 := fun e => by rw [e] at g3; exact absurd g3.1 (by decide)
      have z1 : z ≠ 1 := fun e => by rw [e] at g3; exact absurd g3.1 (by decide)
      have z6 : z ≠ 6 := fun e => g4 (by rw [e]; rfl)
      exact ⟨z, by omega, rfl⟩
    obtain ⟨μ1, a1, a2, a3⟩ := e_think n8 h.1.1.1 H W
    obtain ⟨μ2, b1, b2, b3⟩ := e_weeksX (t := 69) (k := k) (Or.inr rfl) (FX_cg (fun k j c d => a3 k j (by omega)) F) V (by omega) (LwX_cg (fun j => a3 8 j (by omega)) (fun j => a3 9 j (by omega)) L1) a2 W
    have W2 := TW_wks (nd := nd) (cl := cl) (wi := wi) (bi := bi) (gv := gv) (r0 := 9) (r := 0) n8 W k (by omega)
    have K : ∀ k j, ¬ (69 ≤ k ∧ k ≤ 82) → k ≠ 10 → rd μ2 k j = rd μ k j := fun k j c d => by rw [b3 k j d (by omega), a3 k j c]
    have hR : RX μ μ2 := fun k j hk => K k j (by omega) (by omega)
    obtain ⟨m1, d1, d2, d3⟩ := e_aside μ2
    have K1 : ∀ k j, 105 ≤ k → k ≠ 108 → rd m1 k j = rd μ k j := fun k j c d => by rw [d3 k j d, hR k j c]
    obtain ⟨m2, e1, e2, e3⟩ := awN (k := k) (r0 := 9) (r := 0) (a1 := -1) (μ := m1) (fun v m => f_X12_then_l53 105 (nI k) (nI p) (nI z) v m) (fun v m => rfl) (FM_cg n8 (fun j _ => K1 106 j (by omega) (by omega)) F1) V ((K1 105 12 (by omega) (by omega)).trans h.2.2.2.2.2.1) m1_no (fun z => by omega) (by omega) (LwM_cg (fun j _ => K1 106 j (by omega) (by omega)) L2) (TMt_cg N4 (TW_s W) (fun j _ => K1 106 j (by omega) (by omega)) M) W (by omega)
    obtain ⟨m3, f1, f2, f3⟩ := e_back m2
    refine oks_go (r := nI (stv wi bi z (wksT n nd cl wi bi gv N w 9 0 k T p))) (μ1 := μ2) (μ2 := m3) ?_ ?_ ?_
    · unfold f_X11_then
      simp only [rfs]
      rw [e_among, bd_s, if_pos g1, if_neg (by decide), e_isDebX c1, bd_s, if_pos g2, if_neg (by decide), e_among, bd_s, if_pos g3, if_neg (by decide), if_pos g4, a1, bd_s, b1, bd_s, e_stX (Or.inr rfl) (FX_cg (fun k j c d => K k j (by omega) (by omega)) F) V hp b2 W2 hz, bd_s]
    · show f_X12_then μ2 105 _ _ _ = _
      unfold f_X12_then
      rw [show f_X12_in (nI k).toInt64 0 60 = _ from e_in (nI k) 0 60, bd_s, if_pos g1, if_neg (by decide), e_isDebM ((hR 106 1 (by omega)).trans c2), bd_s, if_pos g2, if_neg (by decide), show f_X12_in (nI z).toInt64 2 7 = _ from e_in (nI z) 2 7, bd_s, if_pos g3, if_neg (by decide), if_pos g4, d1, bd_s, e1, bd_s, e_stM (WF_FM n8 e3 (FM_cg n8 (fun j _ => K1 106 j (by omega) (by omega)) F1)) V hp e2 W2 hz, bd_s, f1, bd_s]
    · refine R2_no h (fun k j c d => ?_)
      by_cases q : k = 106 ∧ j < 170
      · obtain ⟨rfl, q⟩ := q
        rw [f2 j q, e3 _ _ (by omega) (by omega) (by omega), d2 j q, hR _ _ (by omega)]
      · rw [f3 k j q, e3 k j (by omega) (by omega) (by omega), d3 k j (by omega), K k j (by omega) (by omega)]
  · refine oks_ref (k := 1) h (by omega) ?_ ?_
    · unfold f_X11_then f_X11_then_j34
      rw [e_among, bd_s, bd_p]
      by_cases g1 : (0 : Int32) ≤ a ∧ a ≤ 60
      · rw [if_pos g1, if_neg (by decide), e_isDebX c1, bd_s]
        by_cases g2 : (0 : Int32) ≤ x ∧ x ≤ nI N - 1
        · rw [if_pos g2, if_neg (by decide), e_among, bd_s]
          by_cases g3 : (2 : Int32) ≤ y ∧ y ≤ 7
          · rw [if_pos g3, if_neg (by decide), if_neg (fun q => g ⟨g1, g2, g3, q⟩)]
            rfl
          · rw [if_neg g3, if_pos rfl]
            rfl
        · rw [if_neg g2, if_pos rfl]
          rfl
      · rw [if_neg g1, if_pos rfl]
        rfl
    · intro μ1 hR
      show f_X12_then μ1 105 _ _ _ = _
      unfold f_X12_then f_X12_then_j40
      have c3 : rd μ1 106 1 = nI N := by rw [hR _ _ (by omega), c2]
      rw [show f_X12_in a.toInt64 0 60 = _ from e_in a 0 60, bd_s, bd_p]
      by_cases g1 : (0 : Int32) ≤ a ∧ a ≤ 60
      · rw [if_pos g1, if_neg (by decide), e_isDebM c3, bd_s]
        by_cases g2 : (0 : Int32) ≤ x ∧ x ≤ nI N - 1
        · rw [if_pos g2, if_neg (by decide), show f_X12_in y.toInt64 2 7 = _ from e_in y 2 7, bd_s]
          by_cases g3 : (2 : Int32) ≤ y ∧ y ≤ 7
          · rw [if_pos g3, if_neg (by decide), if_neg (fun q => g ⟨g1, g2, g3, q⟩)]
            rfl
          · rw [if_neg g3, if_pos rfl]
            rfl
        · rw [if_neg g2, if_pos rfl]
          rfl
      · rw [if_neg g1, if_pos rfl]
        rfl
