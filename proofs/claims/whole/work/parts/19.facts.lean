/-! PURE: fact, clash, explain -/
def up {α : Type} (f : Nat → α) (i : Nat) (v : α) : Nat → α := fun j => if j = i then v else f j
theorem up_s {α : Type} (f : Nat → α) (i : Nat) (v : α) : up f i v i = v := by simp [up]
theorem up_n {α : Type} {f : Nat → α} {i j : Nat} {v : α} (h : j ≠ i) : up f i v j = f j := by simp [up, h]
theorem DW_mono {n n' w w' kd m db br s : Nat} {bk wk : Nat → Nat} (hn : n ≤ n') (hw : w ≤ w') (H : DW n w kd m db br s bk wk) : DW n' w' kd m db br s bk wk := by
  obtain ⟨h1, h2, h3, h4, h5, h6, h7⟩ := H
  exact ⟨h1, h2, h3, h4, h5, fun i hi => ⟨Nat.lt_of_lt_of_le (h6 i hi).1 hn, Nat.le_trans (h6 i hi).2 hw⟩, h7⟩
theorem e_puts {μ : Mem} {f k : Nat} (hf : f < 8) (hk : k < 5) (v : Int32) : f_X12_puts μ 105 (nI f) (nI k) v = some (wr μ 106 (10 + 5 * f + k) v) := by
  unfold f_X12_puts
  have e : ((10 : Int32) + (5 : Int32) * nI f) + nI k = nI (10 + 5 * f + k) := by
    rw [show (10 : Int32) = nI 10 from rfl, show (5 : Int32) = nI 5 from rfl, pk_mul, nI_add, nI_add]
  rw [e, ib_nI (by omega) (by omega), if_pos rfl, bd_s, tn_nI (by omega)]
  simp only [rfs]
theorem e_its {μ : Mem} {f k : Nat} (hf : f < 8) (hk : k < 5) : f_X12_its μ 105 (nI f) (nI k) = some (rd μ 106 (10 + 5 * f + k)) := by
  unfold f_X12_its
  have e : ((10 : Int32) + (5 : Int32) * nI f) + nI k = nI (10 + 5 * f + k) := by
    rw [show (10 : Int32) = nI 10 from rfl, show (5 : Int32) = nI 5 from rfl, pk_mul, nI_add, nI_add]
  rw [e, ib_nI (by omega) (by omega), if_pos rfl, tn_nI (by omega)]
  simp only [rfs]
theorem e_putss {f : Nat} (hf : f < 8) (μ : Mem) (v : Int32) : f_X12_puts μ 105 (nI f) 0 v = some (wr μ 106 (10 + 5 * f) v) ∧ f_X12_puts μ 105 (nI f) 1 v = some (wr μ 106 (11 + 5 * f) v) ∧ f_X12_puts μ 105 (nI f) 2 v = some (wr μ 106 (12 + 5 * f) v) ∧ f_X12_puts μ 105 (nI f) 3 v = some (wr μ 106 (13 + 5 * f) v) ∧ f_X12_puts μ 105 (nI f) 4 v = some (wr μ 106 (14 + 5 * f) v) := by
  refine ⟨?_, ?_, ?_, ?_, ?_⟩
  · rw [show (0 : Int32) = nI 0 from rfl, e_puts hf (by omega), Nat.add_zero]
  · rw [show (1 : Int32) = nI 1 from rfl, e_puts hf (by omega), show 10 + 5 * f + 1 = 11 + 5 * f by omega]
  · rw [show (2 : Int32) = nI 2 from rfl, e_puts hf (by omega), show 10 + 5 * f + 2 = 12 + 5 * f by omega]
  · rw [show (3 : Int32) = nI 3 from rfl, e_puts hf (by omega), show 10 + 5 * f + 3 = 13 + 5 * f by omega]
  · rw [show (4 : Int32) = nI 4 from rfl, e_puts hf (by omega), show 10 + 5 * f + 4 = 14 + 5 * f by omega]
theorem e_itss {f : Nat} (hf : f < 8) (μ : Mem) : f_X12_its μ 105 (nI f) 0 = some (rd μ 106 (10 + 5 * f)) ∧ f_X12_its μ 105 (nI f) 1 = some (rd μ 106 (11 + 5 * f)) ∧ f_X12_its μ 105 (nI f) 2 = some (rd μ 106 (12 + 5 * f)) ∧ f_X12_its μ 105 (nI f) 3 = some (rd μ 106 (13 + 5 * f)) ∧ f_X12_its μ 105 (nI f) 4 = some (rd μ 106 (14 + 5 * f)) := by
  refine ⟨?_, ?_, ?_, ?_, ?_⟩
  · rw [show (0 : Int32) = nI 0 from rfl, e_its hf (by omega), Nat.add_zero]
  · rw [show (1 : Int32) = nI 1 from rfl, e_its hf (by omega), show 10 + 5 * f + 1 = 11 + 5 * f by omega]
  · rw [show (2 : Int32) = nI 2 from rfl, e_its hf (by omega), show 10 + 5 * f + 2 = 12 + 5 * f by omega]
  · rw [show (3 : Int32) = nI 3 from rfl, e_its hf (by omega), show 10 + 5 * f + 3 = 13 + 5 * f by omega]
  · rw [show (4 : Int32) = nI 4 from rfl, e_its hf (by omega), show 10 + 5 * f + 4 = 14 + 5 * f by omega]
theorem sh_fact : SH_fact Rel := by
  intro μ h a b
  show OKS (f_X11_fact μ 0 a b) (fun m => f_X12_fact m 105 a b)
  obtain ⟨n, nd, cl, wi, wt, bi, N, w, kd, m, db, br, s, bk, wk, h1, h2, h3, h4, h5, h6⟩ := h.1.1.2
  have n8 : n ≤ 8 := h3.1
  have c1 : rd μ 2 5 = nI n := h1.1
  have c2 : rd μ 106 0 = nI n := h2.1
  by_cases g : ((0 : Int32) ≤ a ∧ a ≤ 255) ∧ ¬ (jshr a (nI n)) &&& (1 : Int32) = (1 : Int32) ∧ ((0 : Int32) ≤ b ∧ b ≤ 31)
  · obtain ⟨g1, g2, g3⟩ := g
    obtain ⟨x, hx, rfl⟩ := upto (n := 255) (by omega) g1
    obtain ⟨y, hy, rfl⟩ := upto (n := 31) (by omega) g3
    by_cases hn : n < 8
    · refine oks_go (r := nI n) (μ1 := wr (wr (wr (wr (wr (wr μ 3 n (nI x)) 4 n 0) 5 n 0) 6 n (-1)) 7 n (nI y)) 2 5 (nI (n + 1))) (μ2 := wr (wr (wr (wr (wr (wr (wr (wr (wr (wr (wr (wr μ 3 n (nI x)) 4 n 0) 5 n 0) 6 n (-1)) 7 n (nI y)) 2 5 (nI (n + 1))) 106 0 (nI (n + 1))) 106 (10 + 5 * n) (nI x)) 106 (11 + 5 * n) 0) 106 (12 + 5 * n) 0) 106 (13 + 5 * n) (-1)) 106 (14 + 5 * n) (nI y)) ?_ ?_ ?_
      · unfold f_X11_fact f_X11_fact_j25 f_X1_add
        simp only [rfs, c1, g2, not_false_eq_true, if_true, e_among, bd_s, if10, i00, i10, g1, g3, and_self, not_true, if_false, ib_nI hn (by omega), tn_nI (show n < 2 ^ 31 by omega)]
        rw [if_pos (show nI n < 8 from nI_lt (b := 8) hn (by omega)), if_neg (show ¬ 8 ≤ nI n from nI_ge (b := 8) hn (by omega))]
        rw [rd_wr_n (by omega), rd_wr_n (by omega), rd_wr_n (by omega), rd_wr_n (by omega), rd_wr_n (by omega), c1, nI_1]
        rfl
      · show f_X12_fact _ 105 _ _ = _
        have e1 : rd (wr (wr (wr (wr (wr (wr μ 3 n (nI x)) 4 n 0) 5 n 0) 6 n (-1)) 7 n (nI y)) 2 5 (nI (n + 1))) 106 0 = nI n := by rw [rd_wr_n (by omega), rd_wr_n (by omega), rd_wr_n (by omega), rd_wr_n (by omega), rd_wr_n (by omega), rd_wr_n (by omega), c2]
        unfold f_X12_fact
        simp only [rfs, cls, e1, g2, not_false_eq_true, if_true, e_ins, bd_s, if10, i00, i10, g1, g3, and_self, not_true, if_false]
        rw [if_pos (show ¬ nI n = 8 from fun q => by have := (nI_eq (b := 8) (by omega) (by omega)).mp q; omega)]
        simp only [e_putss hn, bd_s, nI_1]
      · refine R2_FT h (fun k j c d => by rw [rd_wr_n (by omega), rd_wr_n (by omega), rd_wr_n (by omega), rd_wr_n (by omega), rd_wr_n (by omega), rd_wr_n (by omega), rd_wr_n (by omega), rd_wr_n (by omega), rd_wr_n (by omega), rd_wr_n (by omega), rd_wr_n (by omega), rd_wr_n (by omega)]) (fun p' hp' => by show bz (rd _ (16 + 3 * p') 7) = true; simp (discharger := omega) only [rd_wr_n]; exact h.1.1.1 p' hp') ⟨n + 1, up nd n x, up cl n 0, up wi n 0, up wt n y, up bi n (-1), N, w, kd, m, db, br, s, bk, wk, ⟨?_, fun i hi => ?_⟩, ⟨?_, fun i hi => ?_⟩, ⟨by omega, fun i hi => ?_⟩, ?_, ?_, ?_⟩
        · simp (discharger := omega) only [rd_wr_n, rd_wr_s]
        · by_cases e : i = n
          · subst e
            simp (discharger := omega) only [rd_wr_n, rd_wr_s, up_s]
            refine ⟨?_, ?_, ?_, ?_, ?_⟩ <;> first | rfl | trivial
          · simp (discharger := omega) only [rd_wr_n, up_n e]
            exact h1.2 i (by omega)
        · simp (discharger := omega) only [rd_wr_n, rd_wr_s]
        · by_cases e : i = n
          · subst e
            simp (discharger := omega) only [rd_wr_n, rd_wr_s, up_s]
            refine ⟨?_, ?_, ?_, ?_, ?_⟩ <;> first | rfl | trivial
          · simp (discharger := omega) only [rd_wr_n, up_n e]
            exact h2.2 i (by omega)
        · by_cases e : i = n
          · subst e
            simp only [up_s]
            exact ⟨by omega, by omega, by omega, by omega, Or.inl ⟨trivial, trivial⟩⟩
          · simp only [up_n e]
            obtain ⟨q1, q2, q3, q4, q5⟩ := h3.2 i (by omega)
            refine ⟨q1, q2, q3, q4, ?_⟩
            rcases q5 with q | ⟨q, b, hb, e⟩
            · exact Or.inl q
            · exact Or.inr ⟨q, b, by omega, e⟩
        · exact TX_cg h6.1 (fun k j a b => by simp (discharger := omega) only [rd_wr_n]) h4
        · exact TM_cg h6.1 (fun p hp => (h6.2.2 p hp).2.2.2.2.1) (fun j a => by simp (discharger := omega) only [rd_wr_n]) h5
        · exact ⟨h6.1, h6.2.1, fun p hp => DW_mono (by omega) (Nat.le_refl _) (h6.2.2 p hp)⟩
    · have e : n = 8 := by omega
      subst e
      refine oks_ref (k := 4) h (by omega) ?_ ?_
      · unfold f_X11_fact f_X11_fact_j25
        simp only [rfs, c1, g2, not_false_eq_true, if_true, e_among, bd_s, if10, i00, i10, g1, g3, and_self, not_true, if_false, bd_p]
        rw [if_neg (by decide)]
        rfl
      · intro μ1 hR
        show f_X12_fact μ1 105 _ _ = _
        unfold f_X12_fact
        simp only [rfs, cls, hR _ _ (show 105 ≤ 106 by omega), c2, g2, not_false_eq_true, if_true, e_ins, bd_s, if10, i00, i10, g1, g3, and_self, not_true, if_false, bd_p]
        rw [if_neg (by decide)]
        rfl
  · refine oks_ref (k := 1) h (by omega) ?_ ?_
    · unfold f_X11_fact f_X11_fact_j25 f_X11_fact_j53
      simp only [rfs, c1, e_among, bd_s, if10, bd_p, i00, i10]
      by_cases g1 : (0 : Int32) ≤ a ∧ a ≤ 255
      · by_cases g2 : (jshr a (nI n)) &&& (1 : Int32) = (1 : Int32)
        · simp only [g1, g2, and_self, not_true, if_false, i10, not_false_eq_true, if_true]
          rfl
        · have g3 : ¬ ((0 : Int32) ≤ b ∧ b ≤ 31) := fun q => g ⟨g1, g2, q⟩
          simp only [g1, g2, g3, and_self, not_true, if_false, i10, not_false_eq_true, if_true]
          rfl
      · simp only [g1, not_false_eq_true, if_true, ite_self]
        rfl
    · intro μ1 hR
      show f_X12_fact μ1 105 _ _ = _
      unfold f_X12_fact f_X12_fact_j38
      simp only [rfs, cls, hR _ _ (show 105 ≤ 106 by omega), c2, e_ins, bd_s, if10, bd_p, i00, i10]
      by_cases g1 : (0 : Int32) ≤ a ∧ a ≤ 255
      · by_cases g2 : (jshr a (nI n)) &&& (1 : Int32) = (1 : Int32)
        · simp only [g1, g2, and_self, not_true, if_false, i10, not_false_eq_true, if_true]
          rfl
        · have g3 : ¬ ((0 : Int32) ≤ b ∧ b ≤ 31) := fun q => g ⟨g1, g2, q⟩
          simp only [g1, g2, g3, and_self, not_true, if_false, i10, not_false_eq_true, if_true]
          rfl
      · simp only [g1, not_false_eq_true, if_true]
        rfl
