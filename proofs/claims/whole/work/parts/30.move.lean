/-! PURE: move -/
abbrev HL (i n : Int32) (sz : Nat) : Prop := 0 ≤ n.toInt ∧ 0 ≤ i.toInt ∧ i.toInt + n.toInt ≤ (sz : Int)
theorem lt0 {a : Int32} : a < 0 ↔ a.toInt < 0 := by rw [i32_lt]; rfl
theorem ge0 {a : Int32} (h : ¬ a < 0) : 0 ≤ a.toInt := by rw [lt0] at h; omega
theorem sub_toInt {i : Int32} {sz : Nat} (h : sz ≤ 40) (hi : 0 ≤ i.toInt) : (nI sz - i).toInt = (sz : Int) - i.toInt := by
  rw [Int32.toInt_sub, nI_c (by omega)]
  have := i.toInt_lt
  exact Int.bmod_eq_of_le (by omega) (by omega)
theorem e_holds {μ : Mem} {c sz : Nat} (h : rd μ c 2 = nI sz) (hz : sz ≤ 40) (i n : Int32) : (HL i n sz ∧ f_X6_holds μ c i n = some 1) ∨ (¬ HL i n sz ∧ f_X6_holds μ c i n = some 0) := by
  unfold f_X6_holds
  rw [h]
  by_cases h1 : n < 0
  · exact Or.inr ⟨fun q => by have := lt0.mp h1; have := q.1; omega, by rw [if_pos h1]⟩
  · rw [if_neg h1]
    by_cases h2 : i < 0
    · exact Or.inr ⟨fun q => by have := lt0.mp h2; have := q.2.1; omega, by rw [if_pos h2]⟩
    · rw [if_neg h2]
      have n0 : 0 ≤ n.toInt := ge0 h1
      have i0 : 0 ≤ i.toInt := ge0 h2
      have es := sub_toInt hz n0
      by_cases h3 : nI sz < n
      · refine Or.inr ⟨fun q => ?_, by rw [if_pos h3]⟩
        rw [i32_lt, nI_c (by omega)] at h3
        have := q.2.2
        omega
      · rw [if_neg h3]
        by_cases h4 : nI sz - n < i
        · refine Or.inr ⟨fun q => ?_, by rw [if_pos h4]⟩
          rw [i32_lt, es] at h4
          have := q.2.2
          omega
        · rw [if_neg h4]
          rw [i32_lt, es] at h4
          exact Or.inl ⟨⟨n0, i0, by omega⟩, rfl⟩
theorem HL_nat {i n : Int32} {sz : Nat} (hz : sz ≤ 40) (h : HL i n sz) : ∃ I K : Nat, i = nI I ∧ n = nI K ∧ I + K ≤ sz := by
  obtain ⟨h1, h2, h3⟩ := h
  refine ⟨i.toInt.toNat, n.toInt.toNat, i32_eq ?_, i32_eq ?_, by omega⟩ <;> rw [nI_c (by omega)] <;> omega
theorem e_lift1 {μ : Mem} {s i n : Nat} (hs : s < 4) (hi : i + n ≤ 40) (a3 a4 : Int32) : ∃ m1, lp (fun q => f_X12_move_l115 105 (nI s) (nI i) a3 a4 (nI n) q.1 q.2) FU ((0 : Int32), μ) = some m1 ∧ (∀ k, k < n → rd m1 119 k = rd μ 118 (40 * s + i + k)) ∧ ∀ k' j', k' ≠ 119 → rd m1 k' j' = rd μ k' j' := by
  refine lp_I (fun j q => q.1 = nI j ∧ (∀ k, k < j → rd q.2 119 k = rd μ 118 (40 * s + i + k)) ∧ ∀ k' j', k' ≠ 119 → rd q.2 k' j' = rd μ k' j') n _ (by omega) ⟨rfl, fun i hi => absurd hi (by omega), fun k j' _ => rfl⟩ ?_ ?_
  · rintro j ⟨x, m⟩ hj ⟨e1, e2, e3⟩
    simp only at e1 e2 e3
    subst e1
    refine ⟨(nI (j + 1), wr m 119 j (rd μ 118 (40 * s + i + j))), ?_, rfl, fun k hk => ?_, fun k j' d => ?_⟩
    · simp only [f_X12_move_l115, rfs]
      rw [if_neg (nI_ge hj (by omega)), show ((40 : Int32) * nI s + nI i) + nI j = nI (40 * s + i + j) by rw [show (40 : Int32) = nI 40 from rfl, pk_mul, nI_add, nI_add], ib_nI (show 40 * s + i + j < 160 by omega) (by omega), if_pos rfl, ib_nI (show j < 40 by omega) (by omega), if_pos rfl, bd_s, tn_nI (by omega), tn_nI (by omega), nI_1, e3 118 _ (by omega)]
    · simp only
      by_cases e : k = j
      · subst e
        rw [rd_wr_s]
      · rw [rd_wr_n (by omega)]
        exact e2 k (by omega)
    · simp only
      rw [rd_wr_n (by omega)]
      exact e3 k j' d
  · rintro ⟨x, m⟩ ⟨e1, e2, e3⟩
    simp only at e1 e2 e3
    subst e1
    exact ⟨m, by simp only [f_X12_move_l115]; rw [if_pos (nI_le (Nat.le_refl _) (by omega))], e2, e3⟩
theorem e_lift2 {μ : Mem} {t j n : Nat} (hs : t < 4) (hi : j + n ≤ 40) (a1 a2 : Int32) : ∃ m1, lp (fun q => f_X12_move_l152 105 a1 a2 (nI t) (nI j) (nI n) q.1 q.2) FU ((0 : Int32), μ) = some m1 ∧ (∀ k, k < n → rd m1 118 (40 * t + j + k) = rd μ 119 k) ∧ ∀ k' j', ¬ (k' = 118 ∧ 40 * t + j ≤ j' ∧ j' < 40 * t + j + n) → rd m1 k' j' = rd μ k' j' := by
  refine lp_I (fun i q => q.1 = nI i ∧ (∀ k, k < i → rd q.2 118 (40 * t + j + k) = rd μ 119 k) ∧ ∀ k' j', ¬ (k' = 118 ∧ 40 * t + j ≤ j' ∧ j' < 40 * t + j + n) → rd q.2 k' j' = rd μ k' j') n _ (by omega) ⟨rfl, fun i hi => absurd hi (by omega), fun k j' _ => rfl⟩ ?_ ?_
  · rintro i ⟨x, m⟩ hj ⟨e1, e2, e3⟩
    simp only at e1 e2 e3
    subst e1
    refine ⟨(nI (i + 1), wr m 118 (40 * t + j + i) (rd μ 119 i)), ?_, rfl, fun k hk => ?_, fun k j' d => ?_⟩
    · simp only [f_X12_move_l152, rfs]
      rw [if_neg (nI_ge hj (by omega)), show ((40 : Int32) * nI t + nI j) + nI i = nI (40 * t + j + i) by rw [show (40 : Int32) = nI 40 from rfl, pk_mul, nI_add, nI_add], ib_nI (show i < 40 by omega) (by omega), if_pos rfl, ib_nI (show 40 * t + j + i < 160 by omega) (by omega), if_pos rfl, bd_s, tn_nI (by omega), tn_nI (by omega), nI_1, e3 119 _ (by omega)]
    · simp only
      by_cases e : k = i
      · subst e
        rw [rd_wr_s]
      · rw [rd_wr_n (by omega)]
        exact e2 k (by omega)
    · simp only
      rw [rd_wr_n (by omega)]
      exact e3 k j' d
  · rintro ⟨x, m⟩ ⟨e1, e2, e3⟩
    simp only at e1 e2 e3
    subst e1
    exact ⟨m, by simp only [f_X12_move_l152]; rw [if_pos (nI_le (Nat.le_refl _) (by omega))], e2, e3⟩
theorem cb_nI {i j n a b : Nat} (h1 : i + n ≤ a) (h2 : j + n ≤ b) (ha : a < 1000) (hb : b < 1000) : cb (nI i) (nI j) (nI n) a b = true := by
  unfold cb
  simp only [nI_pos (show i < 2 ^ 31 by omega), nI_pos (show j < 2 ^ 31 by omega), nI_pos (show n < 2 ^ 31 by omega), tn_nI (show i < 2 ^ 31 by omega), tn_nI (show j < 2 ^ 31 by omega), tn_nI (show n < 2 ^ 31 by omega), h1, h2]
  rfl
theorem sh_move : SH_move Rel := by
  intro μ h a x c y v
  show OKS (f_X11_move μ 0 a x c y v) (fun m => f_X12_move m 105 a x c y v)
  by_cases g : ((0 : Int32) ≤ a ∧ a ≤ 3) ∧ ((0 : Int32) ≤ c ∧ c ≤ 3)
  · obtain ⟨g1, g2⟩ := g
    obtain ⟨s, hs, rfl⟩ := upto (n := 3) (by omega) g1
    obtain ⟨t, ht, rfl⟩ := upto (n := 3) (by omega) g2
    have s4 : s < 4 := by omega
    have t4 : t < 4 := by omega
    obtain ⟨b, n, b1, b2, b3, b4, b5, b6, b7, b8⟩ := h.2.2.2.2.1 s s4
    obtain ⟨b', n', c1, c2, c3, c4, c5, c6, c7, c8⟩ := h.2.2.2.2.1 t t4
    have E := e_missing b3 (by omega)
    have E' := e_missing c3 (by omega)
    have d4 : ∀ μ1, RX μ μ1 → rd μ1 116 s = nI b := fun μ1 hR => by rw [hR _ _ (by omega), b4]
    have d4' : ∀ μ1, RX μ μ1 → rd μ1 116 t = nI b' := fun μ1 hR => by rw [hR _ _ (by omega), c4]
    have d6 : ∀ μ1, RX μ μ1 → rd μ1 117 s = nI n := fun μ1 hR => by rw [hR _ _ (by omega), b6]
    have d6' : ∀ μ1, RX μ μ1 → rd μ1 117 t = nI n' := fun μ1 hR => by rw [hR _ _ (by omega), c6]
    have nz : ∀ {q : Nat}, (q = 0 ∨ q = 8 ∨ q = 16 ∨ q = 32) → q ≠ 0 → ¬ nI q = 0 := fun h1 h2 => nI_ne0 (by omega) (by omega)
    by_cases g3 : b = 0 ∨ b' = 0
    · refine oks_ref (k := 2) h (by omega) ?_ ?_
      · unfold f_X11_move f_X11_move_j52
        simp only [e_isSheetX, bd_s, if10, i00, i10, g1, g2, and_self, not_true, not_false_eq_true, if_true, if_false, ib_nI s4 (by omega), ib_nI t4 (by omega), tn_nI (show s < 2 ^ 31 by omega), tn_nI (show t < 2 ^ 31 by omega), rfs, rf_sh s4, rf_sh t4, E, E', bd_p]
        by_cases e : b = 0
        · simp only [e, not_true, not_false_eq_true, if_true, if_false]
          rfl
        · simp only [e, g3.resolve_left e, not_true, not_false_eq_true, if_true, if_false]
          rfl
      · intro μ1 hR
        show f_X12_move μ1 105 _ _ _ _ _ = _
        unfold f_X12_move f_X12_move_j38
        simp only [e_isSheetM, bd_s, if10, i00, i10, g1, g2, and_self, not_true, not_false_eq_true, if_true, if_false, ib_nI s4 (by omega), ib_nI t4 (by omega), tn_nI (show s < 2 ^ 31 by omega), tn_nI (show t < 2 ^ 31 by omega), rfs, d4 μ1 hR, d4' μ1 hR, bd_p]
        by_cases e : b = 0
        · rw [if_pos (by rw [e]; rfl)]
          rfl
        · rw [if_neg (nz b1 e), if_neg (not_not_intro (by rw [g3.resolve_left e]; rfl))]
          rfl
    · have z1 : b ≠ 0 := fun e => g3 (Or.inl e)
      have z2 : b' ≠ 0 := fun e => g3 (Or.inr e)
      by_cases g4 : b = b'
      · subst g4
        have X0 : f_X11_move μ 0 (nI s) x (nI t) y v = (f_X6_holds μ (97 + 2 * s) x v).bind fun r82 => if r82 = 0 then f_X11_refuse μ 0 1 else (f_X6_holds μ (97 + 2 * t) y v).bind fun r94 => if ¬ r94 = 0 then (if cb x y v 40 40 then some (v, cpy μ (98 + 2 * s) x.toNatClampNeg (98 + 2 * t) y.toNatClampNeg v.toNatClampNeg) else none) else f_X11_refuse μ 0 1 := by
          unfold f_X11_move f_X11_move_j100
          simp only [e_isSheetX, bd_s, if10, i00, i10, g1, g2, and_self, not_true, not_false_eq_true, if_true, if_false, ib_nI s4 (by omega), ib_nI t4 (by omega), tn_nI (show s < 2 ^ 31 by omega), tn_nI (show t < 2 ^ 31 by omega), rfs, rf_sh s4, rf_sh t4, E, E', z1, b3, c3, bd_p]
        have M0 : ∀ μ1, RX μ μ1 → f_X12_move μ1 105 (nI s) x (nI t) y v = if HL x v n ∧ HL y v n' then ((lp (fun s1 => f_X12_move_l115 105 (nI s) x (nI t) y v s1.1 s1.2) FU ((0 : Int32), μ1)).bind fun e115 => (lp (fun s1 => f_X12_move_l152 105 (nI s) x (nI t) y v s1.1 s1.2) FU ((0 : Int32), e115)).bind fun e152 => some (v, e152)) else f_X12_finds μ1 105 1 := by
          intro μ1 hR
          unfold f_X12_move f_X12_move_j106
          simp only [e_isSheetM, bd_s, if10, i00, i10, g1, g2, and_self, not_true, not_false_eq_true, if_true, if_false, ib_nI s4 (by omega), ib_nI t4 (by omega), tn_nI (show s < 2 ^ 31 by omega), tn_nI (show t < 2 ^ 31 by omega), rfs, d4 μ1 hR, d4' μ1 hR, d6 μ1 hR, d6' μ1 hR, bd_p, nz b1 z1]
          by_cases h1 : v < 0
          · rw [if_pos h1, if_neg (fun q => by have := lt0.mp h1; have := q.1.1; omega)]
          · rw [if_neg h1]
            by_cases h2 : x < 0
            · rw [if_pos h2, if_neg (fun q => by have := lt0.mp h2; have := q.1.2.1; omega)]
            · rw [if_neg h2]
              by_cases h3 : y < 0
              · rw [if_pos h3, if_neg (fun q => by have := lt0.mp h3; have := q.2.2.1; omega)]
              · rw [if_neg h3]
                have v0 : 0 ≤ v.toInt := ge0 h1
                have x0 : 0 ≤ x.toInt := ge0 h2
                have y0 : 0 ≤ y.toInt := ge0 h3
                have e1 := sub_toInt b2 x0
                have e2 := sub_toInt c2 y0
                by_cases h4 : nI n - x < v
                · rw [if_pos h4, if_neg (fun q => by rw [i32_lt, e1] at h4; have := q.1.2.2; omega)]
                · rw [if_neg h4]
                  by_cases h5 : v ≤ nI n' - y
                  · rw [if_pos h5, if_pos]
                    rw [i32_lt, e1] at h4
                    rw [i32_le, e2] at h5
                    exact ⟨⟨v0, x0, by omega⟩, ⟨v0, y0, by omega⟩⟩
                  · rw [if_neg h5, if_neg (fun q => by rw [i32_le, e2] at h5; have := q.2.2.2; omega)]
        by_cases g5 : HL x v n ∧ HL y v n'
        · obtain ⟨I, K, rfl, rfl, hI⟩ := HL_nat b2 g5.1
          obtain ⟨J, K', rfl, e9, hJ⟩ := HL_nat c2 g5.2
          have k1 : (nI K).toInt = (K : Int) := nI_c (by have := g5.1.2.2; have := g5.1.1; have := g5.1.2.1; omega)
          have eK : K = K' := by
            have q1 : (nI K').toInt = (K' : Int) := nI_c (by omega)
            have q2 : (nI K).toInt = (nI K').toInt := by rw [e9]
            omega
          subst eK
          have R0 := (e_holds b5 b2 (nI I) (nI K)).resolve_right (fun q => q.1 g5.1)
          have R1 := (e_holds c5 c2 (nI J) (nI K)).resolve_right (fun q => q.1 g5.2)
          obtain ⟨m1, l1, l2, l3⟩ := e_lift1 (μ := cpy μ (98 + 2 * s) I (98 + 2 * t) J K) s4 (show I + K ≤ 40 by omega) (nI t) (nI J)
          obtain ⟨m2, l4, l5, l6⟩ := e_lift2 (μ := m1) t4 (show J + K ≤ 40 by omega) (nI s) (nI I)
          have hcp : ∀ k' j', ¬ (k' = 98 + 2 * t ∧ J ≤ j' ∧ j' < J + K) → rd (cpy μ (98 + 2 * s) I (98 + 2 * t) J K) k' j' = rd μ k' j' := fun k' j' q => by rw [rd_cpy, if_neg q]
          refine oks_go (r := nI K) (μ1 := cpy μ (98 + 2 * s) I (98 + 2 * t) J K) (μ2 := m2) ?_ ?_ ?_
          · rw [X0, R0.2, bd_s, if_neg (by decide), R1.2, bd_s, if_pos (by decide), cb_nI (by omega) (by omega) (by omega) (by omega), if_pos rfl, tn_nI (by omega), tn_nI (by omega), tn_nI (by omega)]
          · show f_X12_move _ 105 _ _ _ _ _ = _
            rw [M0 _ (fun k j hk => hcp k j (by omega)), if_pos g5, l1, bd_s, l4, bd_s]
          · refine R2_Sh h (fun k j p q => by rw [l6 _ _ (by omega), l3 _ _ (by omega), hcp _ _ (by omega)]) fun s' hs' => ?_
            obtain ⟨B, N, q1, q2, q3, q4, q5, q6, q7, q8⟩ := h.2.2.2.2.1 s' hs'
            refine ⟨B, N, q1, q2, ?_, ?_, ?_, ?_, q7, fun i hi => ?_⟩
            · rw [l6 _ _ (by omega), l3 _ _ (by omega), hcp _ _ (by omega), q3]
            · rw [l6 _ _ (by omega), l3 _ _ (by omega), hcp _ _ (by omega), q4]
            · rw [l6 _ _ (by omega), l3 _ _ (by omega), hcp _ _ (by omega), q5]
            · rw [l6 _ _ (by omega), l3 _ _ (by omega), hcp _ _ (by omega), q6]
            · by_cases e : s' = t ∧ J ≤ i ∧ i < J + K
              · obtain ⟨rfl, e1, e2⟩ := e
                have eb : B = b := (nI_eq (by omega) (by omega)).mp (q3.symm.trans c3)
                subst eb
                obtain ⟨w, w1, w2⟩ := b8 (I + (i - J)) (by omega)
                refine ⟨w, ?_, ?_⟩
                · rw [l6 _ _ (by omega), l3 _ _ (by omega), rd_cpy, if_pos ⟨rfl, e1, e2⟩, w1]
                · have := l5 (i - J) (by omega)
                  rw [show 40 * s' + J + (i - J) = 40 * s' + i by omega] at this
                  rw [this, l2 _ (by omega), hcp _ _ (by omega), show 40 * s + I + (i - J) = 40 * s + (I + (i - J)) by omega, w2]
              · rw [l6 _ _ (by omega), l3 _ _ (by omega), hcp _ _ (by omega), l6 _ _ (by omega), l3 _ _ (by omega), hcp _ _ (by omega)]
                exact q8 i hi
        · refine oks_ref (k := 1) h (by omega) ?_ (fun μ1 hR => by show f_X12_move μ1 105 _ _ _ _ _ = _; rw [M0 μ1 hR, if_neg g5]; rfl)
          rw [X0]
          rcases e_holds b5 b2 x v with ⟨q1, q2⟩ | ⟨q1, q2⟩
          · rcases e_holds c5 c2 y v with ⟨q3, q4⟩ | ⟨q3, q4⟩
            · exact absurd ⟨q1, q3⟩ g5
            · rw [q2, bd_s, if_neg (by decide), q4, bd_s, if_neg (by decide)]
              rfl
          · rw [q2, bd_s, if_pos rfl]
            rfl
      · have ne1 : ¬ nI b = nI b' := fun q => g4 ((nI_eq (by omega) (by omega)).mp q)
        refine oks_ref (k := 5) h (by omega) ?_ ?_
        · unfold f_X11_move
          simp only [e_isSheetX, bd_s, if10, i00, i10, g1, g2, and_self, not_true, not_false_eq_true, if_true, if_false, ib_nI s4 (by omega), ib_nI t4 (by omega), tn_nI (show s < 2 ^ 31 by omega), tn_nI (show t < 2 ^ 31 by omega), rfs, rf_sh s4, rf_sh t4, E, E', z1, z2, b3, c3, ne1, bd_p]
          rfl
        · intro μ1 hR
          show f_X12_move μ1 105 _ _ _ _ _ = _
          unfold f_X12_move
          simp only [e_isSheetM, bd_s, if10, i00, i10, g1, g2, and_self, not_true, not_false_eq_true, if_true, if_false, ib_nI s4 (by omega), ib_nI t4 (by omega), tn_nI (show s < 2 ^ 31 by omega), tn_nI (show t < 2 ^ 31 by omega), rfs, d4 μ1 hR, d4' μ1 hR, bd_p, nz b1 z1, nz c1 z2, ne1]
          rfl
  · refine oks_ref (k := 1) h (by omega) ?_ ?_
    · unfold f_X11_move f_X11_move_j14
      simp only [e_isSheetX, bd_s, if10, i00, i10, bd_p]
      by_cases g1 : (0 : Int32) ≤ a ∧ a ≤ 3
      · have g2 : ¬ ((0 : Int32) ≤ c ∧ c ≤ 3) := fun q => g ⟨g1, q⟩
        simp only [g1, g2, and_self, not_true, if_false, not_false_eq_true, if_true]
        rfl
      · simp only [g1, not_false_eq_true, if_true]
        rfl
    · intro μ1 hR
      show f_X12_move μ1 105 _ _ _ _ _ = _
      unfold f_X12_move f_X12_move_j14
      simp only [e_isSheetM, bd_s, if10, i00, i10, bd_p]
      by_cases g1 : (0 : Int32) ≤ a ∧ a ≤ 3
      · have g2 : ¬ ((0 : Int32) ≤ c ∧ c ≤ 3) := fun q => g ⟨g1, q⟩
        simp only [g1, g2, and_self, not_true, if_false, not_false_eq_true, if_true]
        rfl
      · simp only [g1, not_false_eq_true, if_true]
        rfl
