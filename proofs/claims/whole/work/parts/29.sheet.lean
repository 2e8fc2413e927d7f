/-! PURE: a row filled; sheet -/
theorem e_fill {μ : Mem} {c L : Nat} (hL : ln c = L) (h : L < 1000) (v : Int32) : ∃ m1, f_J7_fill_53178 μ c v = some m1 ∧ (∀ i, i < L → rd m1 c i = v) ∧ ∀ k j, k ≠ c → rd m1 k j = rd μ k j := by
  unfold f_J7_fill_53178
  rw [hL]
  obtain ⟨m1, l1, k1, k2⟩ : ∃ m1, lp (fun s => f_J7_fill_53178_l5 c v (nI L) s.1 s.2) FU ((0 : Int32), μ) = some m1 ∧ (∀ i, i < L → rd m1 c i = v) ∧ ∀ k j, k ≠ c → rd m1 k j = rd μ k j := by
    refine lp_I (fun j s => s.1 = nI j ∧ (∀ i, i < j → rd s.2 c i = v) ∧ ∀ k j', k ≠ c → rd s.2 k j' = rd μ k j') L _ (by omega) ⟨rfl, fun i hi => absurd hi (by omega), fun k j' _ => rfl⟩ ?_ ?_
    · rintro j ⟨x, m⟩ hj ⟨e1, e2, e3⟩
      simp only at e1 e2 e3
      subst e1
      refine ⟨(nI (j + 1), wr m c j v), ?_, rfl, fun i hi => ?_, fun k j' d => ?_⟩
      · simp only [f_J7_fill_53178_l5, hL]
        rw [if_neg (nI_ge hj (by omega)), ib_nI hj (by omega), if_pos rfl, bd_s, tn_nI (by omega), nI_1]
      · simp only
        by_cases e : i = j
        · subst e
          rw [rd_wr_s]
        · rw [rd_wr_n (by omega)]
          exact e2 i (by omega)
      · simp only
        rw [rd_wr_n (by omega)]
        exact e3 k j' d
    · rintro ⟨x, m⟩ ⟨e1, e2, e3⟩
      simp only at e1 e2 e3
      subst e1
      refine ⟨m, ?_, e2, e3⟩
      simp only [f_J7_fill_53178_l5]
      rw [if_pos (nI_le (Nat.le_refl _) (by omega))]
  exact ⟨m1, by rw [l1]; rfl, k1, k2⟩
theorem sheet_ok {μ : Mem} (h : Rel μ) {s b k : Nat} (hs : s < 4) (hb : b = 0 ∨ b = 8 ∨ b = 16 ∨ b = 32) (hk : k ≤ 40) (hbk : b = 0 → k = 0) (a1 a2 a3 b1 b2 b3 : Int32) : ∃ m1 m2, f_X11_sheet_j81 μ 0 a1 a2 a3 (97 + 2 * s) (nI b) (nI k) = some (1, m1) ∧ f_X12_sheet_j86 (wr m1 116 s (nI b)) 105 (nI s) b2 b3 117 (nI s) (nI k) = some (1, m2) ∧ Rel m2 := by
  obtain ⟨m1, f1, f2, f3⟩ := e_fill (μ := wr (wr μ (97 + 2 * s) 1 (nI b)) (97 + 2 * s) 2 (nI k)) (rf_sh hs).2.2 (by omega) 0
  refine ⟨m1, ?_⟩
  obtain ⟨m2, l2, j1, j2⟩ : ∃ m2, lp (fun q => f_X12_sheet_l90 105 (nI s) b2 b3 q.1 q.2) FU ((0 : Int32), wr (wr m1 116 s (nI b)) 117 s (nI k)) = some m2 ∧ (∀ i, i < 40 → rd m2 118 (40 * s + i) = 0) ∧ ∀ k' j', ¬ (k' = 118 ∧ 40 * s ≤ j' ∧ j' < 40 * s + 40) → rd m2 k' j' = rd (wr (wr m1 116 s (nI b)) 117 s (nI k)) k' j' := by
    refine lp_I (fun j q => q.1 = nI j ∧ (∀ i, i < j → rd q.2 118 (40 * s + i) = 0) ∧ ∀ k' j', ¬ (k' = 118 ∧ 40 * s ≤ j' ∧ j' < 40 * s + 40) → rd q.2 k' j' = rd (wr (wr m1 116 s (nI b)) 117 s (nI k)) k' j') 40 _ (by omega) ⟨rfl, fun i hi => absurd hi (by omega), fun k j' _ => rfl⟩ ?_ ?_
    · rintro j ⟨x, m⟩ hj ⟨e1, e2, e3⟩
      simp only at e1 e2 e3
      subst e1
      refine ⟨(nI (j + 1), wr m 118 (40 * s + j) 0), ?_, rfl, fun i hi => ?_, fun k j' d => ?_⟩
      · simp only [f_X12_sheet_l90, rfs]
        rw [if_neg (show ¬ 40 ≤ nI j from nI_ge (b := 40) hj (by omega)), show (40 : Int32) * nI s + nI j = nI (40 * s + j) by rw [show (40 : Int32) = nI 40 from rfl, pk_mul, nI_add], ib_nI (show 40 * s + j < 160 by omega) (by omega), if_pos rfl, bd_s, tn_nI (by omega), nI_1]
      · simp only
        by_cases e : i = j
        · subst e
          rw [rd_wr_s]
        · rw [rd_wr_n (by omega)]
          exact e2 i (by omega)
      · simp only
        rw [rd_wr_n (by omega)]
        exact e3 k j' d
    · rintro ⟨x, m⟩ ⟨e1, e2, e3⟩
      simp only at e1 e2 e3
      subst e1
      exact ⟨m, by simp only [f_X12_sheet_l90]; rw [if_pos (by decide)], e2, e3⟩
  refine ⟨m2, ?_, ?_, ?_⟩
  · unfold f_X11_sheet_j81 f_X6_begin
    have e1 : jmax 0 (jmin (nI k) 40) = nI k := by
      rw [show (40 : Int32) = nI 40 from rfl, j_min (by omega) (by omega), Nat.min_eq_left hk, show (0 : Int32) = nI 0 from rfl, j_max (by omega) (by omega), Nat.max_eq_right (by omega)]
    simp only [bd_s, e1, rf_sh hs, f1]
  · unfold f_X12_sheet_j86
    simp only [show ln 117 = 4 from rfl, ib_nI hs (by omega), if_true, bd_s, tn_nI (show s < 2 ^ 31 by omega), l2]
  · have hx : ∀ k' j', ¬ (97 ≤ k' ∧ k' < 105 ∨ 116 ≤ k' ∧ k' ≤ 118) → rd m2 k' j' = rd μ k' j' := fun k' j' c => by
      rw [j2 _ _ (by omega), rd_wr_n (by omega), rd_wr_n (by omega), f3 _ _ (by omega), rd_wr_n (by omega), rd_wr_n (by omega)]
    refine R2_Sh h (fun k j c d => hx k j c) fun s' hs' => ?_
    by_cases e : s' = s
    · subst e
      refine ⟨b, k, hb, hk, ?_, ?_, ?_, ?_, hbk, fun i hi => ⟨0, ?_, ?_⟩⟩
      · rw [j2 _ _ (by omega), rd_wr_n (by omega), rd_wr_n (by omega), f3 _ _ (by omega), rd_wr_n (by omega), rd_wr_s]
      · rw [j2 _ _ (by omega), rd_wr_n (by omega), rd_wr_s]
      · rw [j2 _ _ (by omega), rd_wr_n (by omega), rd_wr_n (by omega), f3 _ _ (by omega), rd_wr_s]
      · rw [j2 _ _ (by omega), rd_wr_s]
      · rw [j2 _ _ (by omega), rd_wr_n (by omega), rd_wr_n (by omega), f2 i hi]
        rcases hb with rfl | rfl | rfl | rfl <;> rfl
      · rw [j1 i hi]
        rcases hb with rfl | rfl | rfl | rfl <;> rfl
    · obtain ⟨b', n', q1, q2, q3, q4, q5, q6, q7, q8⟩ := h.2.2.2.2.1 s' hs'
      refine ⟨b', n', q1, q2, ?_, ?_, ?_, ?_, q7, fun i' hi' => ?_⟩
      · rw [j2 _ _ (by omega), rd_wr_n (by omega), rd_wr_n (by omega), f3 _ _ (by omega), rd_wr_n (by omega), rd_wr_n (by omega), q3]
      · rw [j2 _ _ (by omega), rd_wr_n (by omega), rd_wr_n (by omega), f3 _ _ (by omega), rd_wr_n (by omega), rd_wr_n (by omega), q4]
      · rw [j2 _ _ (by omega), rd_wr_n (by omega), rd_wr_n (by omega), f3 _ _ (by omega), rd_wr_n (by omega), rd_wr_n (by omega), q5]
      · rw [j2 _ _ (by omega), rd_wr_n (by omega), rd_wr_n (by omega), f3 _ _ (by omega), rd_wr_n (by omega), rd_wr_n (by omega), q6]
      · rw [j2 _ _ (by omega), rd_wr_n (by omega), rd_wr_n (by omega), f3 _ _ (by omega), rd_wr_n (by omega), rd_wr_n (by omega), j2 _ _ (by omega), rd_wr_n (by omega), rd_wr_n (by omega), f3 _ _ (by omega), rd_wr_n (by omega), rd_wr_n (by omega)]
        exact q8 i' hi'
theorem sh_sheet : SH_sheet Rel := by
  intro μ h a x v
  show OKS (f_X11_sheet μ 0 a x v) (fun m => f_X12_sheet m 105 a x v)
  by_cases g1 : (0 : Int32) ≤ a ∧ a ≤ 3
  · obtain ⟨s, hs, rfl⟩ := upto (n := 3) (by omega) g1
    have s4 : s < 4 := by omega
    have X0 : f_X11_sheet μ 0 (nI s) x v = if x = 0 ∨ x = 8 ∨ x = 16 ∨ x = 32 then f_X11_sheet_j35 μ 0 (nI s) x v else f_X11_refuse μ 0 (nI 1) := by
      unfold f_X11_sheet f_X11_sheet_j29
      simp only [e_isSheetX, bd_s, if10, i00, i10, g1, and_self, not_true, if_false, bd_p]
      by_cases e1 : x = 0
      · simp [e1]
      · by_cases e2 : x = 8
        · simp [e2]
        · by_cases e3 : x = 16
          · simp [e3]
          · by_cases e4 : x = 32
            · simp [e4]
            · simp [e1, e2, e3, e4, nI_lit]
    have M0 : ∀ μ1, f_X12_sheet μ1 105 (nI s) x v = if x = 0 ∨ x = 8 ∨ x = 16 ∨ x = 32 then f_X12_sheet_j35 μ1 105 (nI s) x v else f_X12_finds μ1 105 (nI 1) := by
      intro μ1
      unfold f_X12_sheet f_X12_sheet_j29
      simp only [e_isSheetM, bd_s, if10, i00, i10, g1, and_self, not_true, if_false, bd_p]
      by_cases e1 : x = 0
      · simp [e1]
      · by_cases e2 : x = 8
        · simp [e2]
        · by_cases e3 : x = 16
          · simp [e3]
          · by_cases e4 : x = 32
            · simp [e4]
            · simp [e1, e2, e3, e4, nI_lit]
    by_cases g2 : x = 0 ∨ x = 8 ∨ x = 16 ∨ x = 32
    · obtain ⟨b, hb, rfl⟩ : ∃ b : Nat, (b = 0 ∨ b = 8 ∨ b = 16 ∨ b = 32) ∧ x = nI b := by
        rcases g2 with rfl | rfl | rfl | rfl
        · exact ⟨0, by omega, rfl⟩
        · exact ⟨8, by omega, rfl⟩
        · exact ⟨16, by omega, rfl⟩
        · exact ⟨32, by omega, rfl⟩
      by_cases b0 : b = 0
      · subst b0
        obtain ⟨m1, m2, t1, t2, t3⟩ := sheet_ok h s4 hb (Nat.zero_le 40) (fun _ => rfl) (nI s) (nI 0) v (nI s) (nI 0) v
        refine oks_go (r := 1) (μ1 := m1) (μ2 := m2) ?_ ?_ t3
        · rw [X0, if_pos g2]
          unfold f_X11_sheet_j35 f_X11_sheet_j49 f_X11_sheet_j65
          rw [if_pos (by decide), if_pos (by decide), ib_nI s4 (by omega), if_pos rfl, if_neg (by decide), tn_nI (by omega)]
          simp only [rfs, rf_sh s4]
          exact t1
        · show f_X12_sheet m1 105 _ _ _ = _
          rw [M0, if_pos g2]
          unfold f_X12_sheet_j35 f_X12_sheet_j49 f_X12_sheet_j65
          rw [if_pos (by decide), if_pos (by decide), ib_nI s4 (by omega), if_pos rfl, bd_s, if_neg (by decide), tn_nI (by omega)]
          simp only [rfs]
          exact t2
      · have bne : ¬ nI b = 0 := nI_ne0 (by omega) (by omega)
        by_cases g3 : 0 ≤ v
        · by_cases g4 : v ≤ 40
          · obtain ⟨k, hk, rfl⟩ := upto (n := 40) (by omega) ⟨g3, g4⟩
            obtain ⟨m1, m2, t1, t2, t3⟩ := sheet_ok h s4 hb hk (fun e => absurd e b0) (nI s) (nI b) (nI k) (nI s) (nI b) (nI k)
            refine oks_go (r := 1) (μ1 := m1) (μ2 := m2) ?_ ?_ t3
            · rw [X0, if_pos g2]
              unfold f_X11_sheet_j35 f_X11_sheet_j49 f_X11_sheet_j65
              rw [if_neg bne, if_pos g3, if_neg bne, if_pos g4, ib_nI s4 (by omega), if_pos rfl, if_pos bne, tn_nI (by omega)]
              simp only [rfs, rf_sh s4]
              exact t1
            · show f_X12_sheet m1 105 _ _ _ = _
              rw [M0, if_pos g2]
              unfold f_X12_sheet_j35 f_X12_sheet_j49 f_X12_sheet_j65
              rw [if_neg bne, if_pos g3, if_neg bne, if_pos g4, ib_nI s4 (by omega), if_pos rfl, bd_s, if_pos bne, tn_nI (by omega)]
              simp only [rfs]
              exact t2
          · refine oks_ref (k := 1) h (by omega) ?_ ?_
            · rw [X0, if_pos g2]
              unfold f_X11_sheet_j35 f_X11_sheet_j49
              rw [if_neg bne, if_pos g3, if_neg bne, if_neg g4, bd_p]
              rfl
            · intro μ1 hR
              show f_X12_sheet μ1 105 _ _ _ = _
              rw [M0, if_pos g2]
              unfold f_X12_sheet_j35 f_X12_sheet_j49
              rw [if_neg bne, if_pos g3, if_neg bne, if_neg g4, bd_p]
              rfl
        · refine oks_ref (k := 3) h (by omega) ?_ ?_
          · rw [X0, if_pos g2]
            unfold f_X11_sheet_j35
            rw [if_neg bne, if_neg g3, bd_p]
            rfl
          · intro μ1 hR
            show f_X12_sheet μ1 105 _ _ _ = _
            rw [M0, if_pos g2]
            unfold f_X12_sheet_j35
            rw [if_neg bne, if_neg g3, bd_p]
            rfl
    · exact oks_ref (k := 1) h (by omega) (by rw [X0, if_neg g2]) (fun μ1 _ => by show f_X12_sheet μ1 105 _ _ _ = _; rw [M0, if_neg g2])
  · refine oks_ref (k := 1) h (by omega) ?_ ?_
    · unfold f_X11_sheet f_X11_sheet_j29
      simp only [e_isSheetX, bd_s, if10, i00, i10, g1, not_true, not_false_eq_true, if_true, if_false, bd_p]
      rfl
    · intro μ1 hR
      show f_X12_sheet μ1 105 _ _ _ = _
      unfold f_X12_sheet f_X12_sheet_j29
      simp only [e_isSheetM, bd_s, if10, i00, i10, g1, not_true, not_false_eq_true, if_true, if_false, bd_p]
      rfl
