/-! PURE: image, restore -/
theorem rf_w {w : Nat} (h : w = 1 ∨ w = 35) : (rf w 0 = w + 1 ∧ rf w 1 = w + 7 ∧ rf w 2 = w + 10 ∧ rf w 3 = w + 13 ∧ rf w 4 = w + 27 ∧ rf w 5 = w + 31 ∧ rf w 6 = w + 33) ∧ (rf (w + 1) 0 = w + 2 ∧ rf (w + 1) 1 = w + 3 ∧ rf (w + 1) 2 = w + 4 ∧ rf (w + 1) 3 = w + 5 ∧ rf (w + 1) 4 = w + 6) ∧ (rf (w + 7) 0 = w + 8 ∧ rf (w + 10) 0 = w + 11 ∧ rf (w + 27) 0 = w + 28 ∧ rf (w + 27) 1 = w + 29 ∧ rf (w + 27) 2 = w + 30 ∧ rf (w + 31) 0 = w + 32) ∧ (ln (w + 2) = 8 ∧ ln (w + 3) = 8 ∧ ln (w + 4) = 8 ∧ ln (w + 5) = 8 ∧ ln (w + 6) = 8) ∧ (ln (w + 8) = 50 ∧ ln (w + 11) = 50 ∧ ln (w + 28) = 12 ∧ ln (w + 29) = 12 ∧ ln (w + 30) = 12 ∧ ln (w + 32) = 50 ∧ ln (w + 33) = 20) := by
  rcases h with rfl | rfl <;> decide
theorem rd_cp_in {μ : Mem} {a c n i : Nat} (h : i < n) : rd (cpy μ a 0 c 0 n) c i = rd μ a i := by
  rw [rd_cpy, if_pos ⟨rfl, by omega, by omega⟩, Nat.zero_add, Nat.sub_zero]
theorem rd_cp_n {μ : Mem} {a c n k i : Nat} (h : k ≠ c) : rd (cpy μ a 0 c 0 n) k i = rd μ k i := by
  rw [rd_cpy, if_neg (fun q => h q.1)]
section
variable {d s : Nat}
theorem e_cpF {μ : Mem} (hd : d = 1 ∨ d = 35) (hs : s = 1 ∨ s = 35) (hds : d ≠ s) : ∃ μ2, f_X1_copyFrom μ (d + 1) (s + 1) = some μ2 ∧ rd μ2 (d + 1) 5 = rd μ (s + 1) 5 ∧ (∀ r i, r < 5 → i < 8 → rd μ2 (d + 2 + r) i = rd μ (s + 2 + r) i) ∧ ∀ k j, ¬ (d + 1 ≤ k ∧ k ≤ d + 6) → rd μ2 k j = rd μ k j := by
  obtain ⟨-, ⟨a0, a1, a2, a3, a4⟩, -, ⟨l0, l1, l2, l3, l4⟩, -⟩ := rf_w hd
  obtain ⟨-, ⟨b0, b1, b2, b3, b4⟩, -, ⟨m0, m1, m2, m3, m4⟩, -⟩ := rf_w hs
  have hcb : cb (0 : Int32) (0 : Int32) (8 : Int32) 8 8 = true := by decide
  refine ⟨wr (cpy (cpy (cpy (cpy (cpy μ (s + 2) 0 (d + 2) 0 8) (s + 3) 0 (d + 3) 0 8) (s + 4) 0 (d + 4) 0 8) (s + 5) 0 (d + 5) 0 8) (s + 6) 0 (d + 6) 0 8) (d + 1) 5 (rd μ (s + 1) 5), ?_, rd_wr_s _ _ _ _, fun r i hr hi => ?_, fun k j h => ?_⟩
  · unfold f_X1_copyFrom
    rw [a0, a1, a2, a3, a4, b0, b1, b2, b3, b4, l0, l1, l2, l3, l4, m0, m1, m2, m3, m4, hcb, if_pos rfl, bd_s, if_pos rfl, bd_s, if_pos rfl, bd_s, if_pos rfl, bd_s, if_pos rfl, bd_s, bd_s]
    simp only [show (0 : Int32).toNatClampNeg = 0 from rfl, show (8 : Int32).toNatClampNeg = 8 from rfl]
    clear a0 a1 a2 a3 a4 l0 l1 l2 l3 l4 b0 b1 b2 b3 b4 m0 m1 m2 m3 m4
    simp (discharger := omega) only [rd_cp_n, rd_wr_n]
  · clear a0 a1 a2 a3 a4 l0 l1 l2 l3 l4 b0 b1 b2 b3 b4 m0 m1 m2 m3 m4
    rw [rd_wr_n (by omega)]
    have : r = 0 ∨ r = 1 ∨ r = 2 ∨ r = 3 ∨ r = 4 := by omega
    rcases this with rfl | rfl | rfl | rfl | rfl
    · rw [Nat.add_zero, Nat.add_zero]; simp (discharger := omega) only [rd_cp_n, rd_wr_n, rd_cp_in, hi]
    · rw [show d + 2 + 1 = d + 3 by omega, show s + 2 + 1 = s + 3 by omega]; simp (discharger := omega) only [rd_cp_n, rd_wr_n, rd_cp_in, hi]
    · rw [show d + 2 + 2 = d + 4 by omega, show s + 2 + 2 = s + 4 by omega]; simp (discharger := omega) only [rd_cp_n, rd_wr_n, rd_cp_in, hi]
    · rw [show d + 2 + 3 = d + 5 by omega, show s + 2 + 3 = s + 5 by omega]; simp (discharger := omega) only [rd_cp_n, rd_wr_n, rd_cp_in, hi]
    · rw [show d + 2 + 4 = d + 6 by omega, show s + 2 + 4 = s + 6 by omega]; simp (discharger := omega) only [rd_cp_n, rd_wr_n, rd_cp_in, hi]
  · clear a0 a1 a2 a3 a4 l0 l1 l2 l3 l4 b0 b1 b2 b3 b4 m0 m1 m2 m3 m4
    simp (discharger := omega) only [rd_cp_n, rd_wr_n]
theorem e_cpMt {μ : Mem} (hd : d = 1 ∨ d = 35) (hs : s = 1 ∨ s = 35) (hds : d ≠ s) : ∃ μ2, f_X3_copyFrom μ (d + 27) (s + 27) = some μ2 ∧ rd μ2 (d + 27) 3 = rd μ (s + 27) 3 ∧ (∀ r i, r < 3 → i < 12 → rd μ2 (d + 28 + r) i = rd μ (s + 28 + r) i) ∧ ∀ k j, ¬ (d + 27 ≤ k ∧ k ≤ d + 30) → rd μ2 k j = rd μ k j := by
  obtain ⟨-, -, ⟨-, -, a0, a1, a2, -⟩, -, ⟨-, -, l0, l1, l2, -, -⟩⟩ := rf_w hd
  obtain ⟨-, -, ⟨-, -, b0, b1, b2, -⟩, -, ⟨-, -, m0, m1, m2, -, -⟩⟩ := rf_w hs
  have hcb : cb (0 : Int32) (0 : Int32) (12 : Int32) 12 12 = true := by decide
  refine ⟨wr (cpy (cpy (cpy μ (s + 28) 0 (d + 28) 0 12) (s + 29) 0 (d + 29) 0 12) (s + 30) 0 (d + 30) 0 12) (d + 27) 3 (rd μ (s + 27) 3), ?_, rd_wr_s _ _ _ _, fun r i hr hi => ?_, fun k j h => ?_⟩
  · unfold f_X3_copyFrom
    rw [a0, a1, a2, b0, b1, b2, l0, l1, l2, m0, m1, m2, hcb, if_pos rfl, bd_s, if_pos rfl, bd_s, if_pos rfl, bd_s, bd_s]
    simp only [show (0 : Int32).toNatClampNeg = 0 from rfl, show (12 : Int32).toNatClampNeg = 12 from rfl]
    clear a0 a1 a2 l0 l1 l2 b0 b1 b2 m0 m1 m2
    simp (discharger := omega) only [rd_cp_n, rd_wr_n]
  · clear a0 a1 a2 l0 l1 l2 b0 b1 b2 m0 m1 m2
    rw [rd_wr_n (by omega)]
    have : r = 0 ∨ r = 1 ∨ r = 2 := by omega
    rcases this with rfl | rfl | rfl
    · rw [Nat.add_zero, Nat.add_zero]; simp (discharger := omega) only [rd_cp_n, rd_wr_n, rd_cp_in, hi]
    · rw [show d + 28 + 1 = d + 29 by omega, show s + 28 + 1 = s + 29 by omega]; simp (discharger := omega) only [rd_cp_n, rd_wr_n, rd_cp_in, hi]
    · rw [show d + 28 + 2 = d + 30 by omega, show s + 28 + 2 = s + 30 by omega]; simp (discharger := omega) only [rd_cp_n, rd_wr_n, rd_cp_in, hi]
  · clear a0 a1 a2 l0 l1 l2 b0 b1 b2 m0 m1 m2
    simp (discharger := omega) only [rd_cp_n, rd_wr_n]
theorem e_cpTp {μ : Mem} (hd : d = 1 ∨ d = 35) (hs : s = 1 ∨ s = 35) (hds : d ≠ s) : ∃ μ2, f_X7_copyFrom μ (d + 31) (s + 31) = some μ2 ∧ rd μ2 (d + 31) 1 = rd μ (s + 31) 1 ∧ (∀ i, i < 50 → rd μ2 (d + 32) i = rd μ (s + 32) i) ∧ ∀ k j, ¬ (d + 31 ≤ k ∧ k ≤ d + 32) → rd μ2 k j = rd μ k j := by
  obtain ⟨-, -, ⟨-, -, -, -, -, a0⟩, -, ⟨-, -, -, -, -, l0, -⟩⟩ := rf_w hd
  obtain ⟨-, -, ⟨-, -, -, -, -, b0⟩, -, ⟨-, -, -, -, -, m0, -⟩⟩ := rf_w hs
  have hcb : cb (0 : Int32) (0 : Int32) (50 : Int32) 50 50 = true := by decide
  refine ⟨wr (cpy μ (s + 32) 0 (d + 32) 0 50) (d + 31) 1 (rd μ (s + 31) 1), ?_, rd_wr_s _ _ _ _, fun i hi => ?_, fun k j h => ?_⟩
  · unfold f_X7_copyFrom
    rw [a0, b0, l0, m0, hcb, if_pos rfl, bd_s, bd_s]
    simp only [show (0 : Int32).toNatClampNeg = 0 from rfl, show (50 : Int32).toNatClampNeg = 50 from rfl]
    clear a0 l0 b0 m0
    simp (discharger := omega) only [rd_cp_n, rd_wr_n]
  · clear a0 l0 b0 m0
    simp (discharger := omega) only [rd_cp_n, rd_wr_n, rd_cp_in, hi]
  · clear a0 l0 b0 m0
    simp (discharger := omega) only [rd_cp_n, rd_wr_n]
/-- all that an image keeps, of the class: cell by cell -/
theorem e_cpW0 {μ : Mem} {np nq : Nat} (hd : d = 1 ∨ d = 35) (hs : s = 1 ∨ s = 35) (hds : d ≠ s) (hz : BZt μ (s + 13)) (p2 : np ≤ 50) (p3 : rd μ (s + 7) 3 = nI np) (q2 : nq ≤ 50) (q3 : rd μ (s + 10) 3 = nI nq) : ∃ μ2, f_X10_copyFrom μ d s = some μ2 ∧ (∀ k j, ¬ (d ≤ k ∧ k ≤ d + 33 ∧ ¬ (k = d + 7 ∧ j ≠ 3) ∧ ¬ (k = d + 10 ∧ j ≠ 3)) → rd μ2 k j = rd μ k j) ∧ (rd μ2 (d + 1) 5 = rd μ (s + 1) 5 ∧ ∀ r i, r < 5 → i < 8 → rd μ2 (d + 2 + r) i = rd μ (s + 2 + r) i) ∧ (rd μ2 (d + 7) 3 = nI np ∧ ∀ i, i < np → rd μ2 (d + 8) i = rd μ (s + 8) i) ∧ (rd μ2 (d + 10) 3 = nI nq ∧ ∀ i, i < nq → rd μ2 (d + 11) i = rd μ (s + 11) i) ∧ (rd μ2 (d + 13) 3 = rd μ (s + 13) 3 ∧ rd μ2 (d + 13) 4 = rd μ (s + 13) 4 ∧ ∀ p, p < 4 → (∀ j, 2 ≤ j → j ≤ 7 → rd μ2 (d + 13 + 2 + 3 * p) j = rd μ (s + 13 + 2 + 3 * p) j) ∧ ∀ i, i < 8 → rd μ2 (d + 13 + 3 + 3 * p) i = rd μ (s + 13 + 3 + 3 * p) i ∧ rd μ2 (d + 13 + 4 + 3 * p) i = rd μ (s + 13 + 4 + 3 * p) i) ∧ (rd μ2 (d + 27) 3 = rd μ (s + 27) 3 ∧ ∀ r i, r < 3 → i < 12 → rd μ2 (d + 28 + r) i = rd μ (s + 28 + r) i) ∧ (rd μ2 (d + 31) 1 = rd μ (s + 31) 1 ∧ ∀ i, i < 50 → rd μ2 (d + 32) i = rd μ (s + 32) i) ∧ (rd μ2 d 7 = rd μ s 7 ∧ rd μ2 d 8 = rd μ s 8 ∧ ∀ i, i < 20 → rd μ2 (d + 33) i = rd μ (s + 33) i) := by
  obtain ⟨μ1, c1, c2, c3, c4⟩ := e_cpF (μ := μ) hd hs hds
  have k1 : rd μ1 (s + 7) 3 = nI np := by rw [c4 _ _ (by omega)]; exact p3
  have e1 : f_X2_take μ1 (d + 7) (s + 8) (nI np) = some (cpy (wr μ1 (d + 7) 3 (nI np)) (s + 8) 0 (d + 8) 0 np) := e_take (c := d + 7) (rf_w hd).2.2.1.1 (rf_w hd).2.2.2.2.1 (rf_w hs).2.2.2.2.1 p2
  generalize hμ2 : cpy (wr μ1 (d + 7) 3 (nI np)) (s + 8) 0 (d + 8) 0 np = μ2 at e1
  have K2 : ∀ k j, k ≠ d + 8 → ¬ (k = d + 7 ∧ j = 3) → rd μ2 k j = rd μ1 k j := fun k j a b => by rw [← hμ2, rd_cp_n a, rd_wr_n b]
  have k2 : rd μ2 (s + 10) 3 = nI nq := by rw [K2 _ _ (by omega) (by omega), c4 _ _ (by omega)]; exact q3
  have e2 : f_X2_take μ2 (d + 10) (s + 11) (nI nq) = some (cpy (wr μ2 (d + 10) 3 (nI nq)) (s + 11) 0 (d + 11) 0 nq) := e_take (c := d + 10) (rf_w hd).2.2.1.2.1 (rf_w hd).2.2.2.2.2.1 (rf_w hs).2.2.2.2.2.1 q2
  generalize hμ3 : cpy (wr μ2 (d + 10) 3 (nI nq)) (s + 11) 0 (d + 11) 0 nq = μ3 at e2
  have K3 : ∀ k j, k ≠ d + 11 → ¬ (k = d + 10 ∧ j = 3) → rd μ3 k j = rd μ2 k j := fun k j a b => by rw [← hμ3, rd_cp_n a, rd_wr_n b]
  have K30 : ∀ k j, ¬ (d + 1 ≤ k ∧ k ≤ d + 12) → rd μ3 k j = rd μ k j := fun k j a => by rw [K3 k j (by omega) (by omega), K2 k j (by omega) (by omega), c4 k j (by omega)]
  have L1 : rd μ2 (d + 7) 3 = nI np := by rw [← hμ2, rd_cp_n (show d + 7 ≠ d + 8 by omega), rd_wr_s]
  have L2 : ∀ i, i < np → rd μ2 (d + 8) i = rd μ (s + 8) i := fun i hi => by rw [← hμ2, rd_cp_in hi, rd_wr_n (show ¬ (s + 8 = d + 7 ∧ i = 3) by omega), c4 _ _ (by omega)]
  have L3 : rd μ3 (d + 10) 3 = nI nq := by rw [← hμ3, rd_cp_n (show d + 10 ≠ d + 11 by omega), rd_wr_s]
  have L4 : ∀ i, i < nq → rd μ3 (d + 11) i = rd μ (s + 11) i := fun i hi => by rw [← hμ3, rd_cp_in hi, rd_wr_n (show ¬ (s + 11 = d + 10 ∧ i = 3) by omega), K2 _ _ (by omega) (by omega), c4 _ _ (by omega)]
  clear hμ2 hμ3
  obtain ⟨μ4, f1, f2, f3, f4, f5⟩ := e_cpT (μ := μ3) (t := d + 13) (s := s + 13) (by omega) (by omega) (by omega) (fun p hp => by rw [K30 _ _ (by omega)]; exact hz p hp)
  obtain ⟨μ5, g1, g2, g3, g4⟩ := e_cpMt (μ := μ4) hd hs hds
  obtain ⟨μ6, i1, i2, i3, i4⟩ := e_cpTp (μ := μ5) hd hs hds
  -- the cells of the source till the end
  have S4 : ∀ k j, s ≤ k → k ≤ s + 33 → rd μ4 k j = rd μ k j := fun k j a b => by rw [f5 k j (by omega), K30 k j (by omega)]
  have S5 : ∀ k j, s ≤ k → k ≤ s + 33 → rd μ5 k j = rd μ k j := fun k j a b => by rw [g4 k j (by omega), S4 k j a b]
  have S6 : ∀ k j, s ≤ k → k ≤ s + 33 → rd μ6 k j = rd μ k j := fun k j a b => by rw [i4 k j (by omega), S5 k j a b]
  -- those of the copy
  have D6 : ∀ k j, ¬ (d + 13 ≤ k ∧ k ≤ d + 32) → rd μ6 k j = rd μ3 k j := fun k j a => by rw [i4 k j (by omega), g4 k j (by omega), f5 k j (by omega)]
  have C7 : ∀ k j, k ≠ d + 33 → rd (cpy μ6 (s + 33) 0 (d + 33) 0 20) k j = rd μ6 k j := fun k j a => rd_cp_n a
  have E7 : ∀ i, i < 20 → rd (cpy μ6 (s + 33) 0 (d + 33) 0 20) (d + 33) i = rd μ6 (s + 33) i := fun i hi => rd_cp_in hi
  have FIN : f_X10_copyFrom μ d s = some (wr (wr (cpy μ6 (s + 33) 0 (d + 33) 0 20) d 7 (rd μ s 7)) d 8 (rd μ s 8)) := by
    have x7 : rd (cpy μ6 (s + 33) 0 (d + 33) 0 20) s 7 = rd μ s 7 := by rw [C7 _ _ (by omega), S6 _ _ (by omega) (by omega)]
    have x8 : ∀ v, rd (wr (cpy μ6 (s + 33) 0 (d + 33) 0 20) d 7 v) s 8 = rd μ s 8 := fun v => by rw [rd_wr_n (show ¬ (s = d ∧ (8 : Nat) = 7) by omega), C7 _ _ (by omega), S6 _ _ (by omega) (by omega)]
    obtain ⟨⟨a0, a1, a2, a3, a4, a5, a6⟩, -, -, -, ⟨-, -, -, -, -, -, l33⟩⟩ := rf_w hd
    obtain ⟨⟨b0, b1, b2, b3, b4, b5, b6⟩, -, ⟨s7, s10, -, -, -, -⟩, -, ⟨-, -, -, -, -, -, m33⟩⟩ := rf_w hs
    have hcb : cb (0 : Int32) (0 : Int32) (20 : Int32) 20 20 = true := by decide
    unfold f_X10_copyFrom
    rw [a0, a1, a2, a3, a4, a5, a6, b0, b1, b2, b3, b4, b5, b6, c1, bd_s, k1, s7, e1, bd_s, k2, s10, e2, bd_s, f1, bd_s, g1, bd_s, i1, bd_s, l33, m33, hcb, if_pos rfl, bd_s, bd_s, bd_s]
    simp only [show (0 : Int32).toNatClampNeg = 0 from rfl, show (20 : Int32).toNatClampNeg = 20 from rfl]
    rw [x7, x8]
  generalize hμ7 : cpy μ6 (s + 33) 0 (d + 33) 0 20 = μ7 at C7 E7 FIN
  clear hμ7
  have E : ∀ k j, k ≠ d → k ≠ d + 33 → rd (wr (wr μ7 d 7 (rd μ s 7)) d 8 (rd μ s 8)) k j = rd μ6 k j := fun k j a b => by rw [rd_wr_n (show ¬ (k = d ∧ j = 8) by omega), rd_wr_n (show ¬ (k = d ∧ j = 7) by omega), C7 k j b]
  have W8 : rd (wr (wr μ7 d 7 (rd μ s 7)) d 8 (rd μ s 8)) d 8 = rd μ s 8 := rd_wr_s _ _ _ _
  have W7 : rd (wr (wr μ7 d 7 (rd μ s 7)) d 8 (rd μ s 8)) d 7 = rd μ s 7 := by rw [rd_wr_n (show ¬ (d = d ∧ (7 : Nat) = 8) by omega), rd_wr_s]
  have W33 : ∀ i, i < 20 → rd (wr (wr μ7 d 7 (rd μ s 7)) d 8 (rd μ s 8)) (d + 33) i = rd μ (s + 33) i := fun i hi => by
    rw [rd_wr_n (show ¬ (d + 33 = d ∧ i = 8) by omega), rd_wr_n (show ¬ (d + 33 = d ∧ i = 7) by omega), E7 i hi, S6 _ _ (by omega) (by omega)]
  have WX : ∀ k j, ¬ (d ≤ k ∧ k ≤ d + 33) → rd (wr (wr μ7 d 7 (rd μ s 7)) d 8 (rd μ s 8)) k j = rd μ k j := fun k j a => by
    rw [E k j (by omega) (by omega), D6 k j (by omega), K30 k j (by omega)]
  generalize wr (wr μ7 d 7 (rd μ s 7)) d 8 (rd μ s 8) = μ8 at FIN E W8 W7 W33 WX
  have FF : ∀ k j, d + 1 ≤ k → k ≤ d + 6 → rd μ8 k j = rd μ1 k j := fun k j a b => by rw [E k j (by omega) (by omega), D6 k j (by omega), K3 k j (by omega) (by omega), K2 k j (by omega) (by omega)]
  have TT : ∀ k j, d + 13 ≤ k → k ≤ d + 26 → rd μ8 k j = rd μ4 k j := fun k j a b => by rw [E k j (by omega) (by omega), i4 k j (by omega), g4 k j (by omega)]
  refine ⟨μ8, FIN, fun k j h => ?_, ⟨by rw [FF _ _ (by omega) (by omega), c2], fun r i hr hi => by rw [FF _ _ (by omega) (by omega), c3 r i hr hi]⟩, ⟨by rw [E _ _ (by omega) (by omega), D6 _ _ (by omega), K3 _ _ (by omega) (by omega), L1], fun i hi => by rw [E _ _ (by omega) (by omega), D6 _ _ (by omega), K3 _ _ (by omega) (by omega), L2 i hi]⟩, ⟨by rw [E _ _ (by omega) (by omega), D6 _ _ (by omega), L3], fun i hi => by rw [E _ _ (by omega) (by omega), D6 _ _ (by omega), L4 i hi]⟩, ⟨by rw [TT _ _ (by omega) (by omega), f2, K30 _ _ (by omega)], by rw [TT _ _ (by omega) (by omega), f3, K30 _ _ (by omega)], fun p hp => ⟨fun j j2 j7 => by rw [TT _ _ (by omega) (by omega), (f4 p hp).1 j j2 j7, K30 _ _ (by omega)], fun i hi => ⟨by rw [TT _ _ (by omega) (by omega), ((f4 p hp).2 i hi).1, K30 _ _ (by omega)], by rw [TT _ _ (by omega) (by omega), ((f4 p hp).2 i hi).2, K30 _ _ (by omega)]⟩⟩⟩, ⟨by rw [E _ _ (by omega) (by omega), i4 _ _ (by omega), g2, S4 _ _ (by omega) (by omega)], fun r i hr hi => by rw [E _ _ (by omega) (by omega), i4 _ _ (by omega), g3 r i hr hi, S4 _ _ (by omega) (by omega)]⟩, ⟨by rw [E _ _ (by omega) (by omega), i2, S5 _ _ (by omega) (by omega)], fun i hi => by rw [E _ _ (by omega) (by omega), i3 i hi, S5 _ _ (by omega) (by omega)]⟩, ⟨W7, W8, W33⟩⟩
  by_cases x : d ≤ k ∧ k ≤ d + 33
  · by_cases y : k = d + 7
    · rw [E k j (by omega) (by omega), D6 k j (by omega), K3 k j (by omega) (by omega), K2 k j (by omega) (by omega), c4 k j (by omega)]
    · rw [E k j (by omega) (by omega), D6 k j (by omega), K3 k j (by omega) (by omega), K2 k j (by omega) (by omega), c4 k j (by omega)]
  · exact WX k j x
/-- and the relation of it -/
theorem e_cpW {μ μm : Mem} {D : Nat} (hd : d = 1 ∨ d = 35) (hs : s = 1 ∨ s = 35) (hds : d ≠ s) (H : RW μ s μm D) : ∃ μ2, f_X10_copyFrom μ d s = some μ2 ∧ RW μ2 d μm D ∧ ∀ k j, ¬ (d ≤ k ∧ k ≤ d + 33 ∧ ¬ (k = d + 7 ∧ j ≠ 3) ∧ ¬ (k = d + 10 ∧ j ≠ 3)) → rd μ2 k j = rd μ k j := by
  obtain ⟨⟨hz, n, nd, cl, wi, wt, bi, N, w, kd, m, db, br, ss, bk, wk, h1, h2, h3, h4, h5, h6⟩, ⟨l, t1, t2, t3, t4⟩, ⟨tn, u1, u2, u3, u4⟩, ⟨wn, v1, v2, v3, v4⟩, hzz, ⟨p0, pb, ps, p1, p2, p3, p4, p5, p6, p7⟩, ⟨q0, qb, qs, q1, q2, q3, q4, q5, q6, q7⟩⟩ := H
  obtain ⟨μ2, FI, FR, ⟨A1, A2⟩, ⟨B1, B2⟩, ⟨C1, C2⟩, ⟨D1, D2, D3⟩, ⟨E1, E2⟩, ⟨F1, F2⟩, ⟨G1, G2, G3⟩⟩ := e_cpW0 (μ := μ) hd hs hds hz p2 p3 q2 q3
  refine ⟨μ2, FI, ?_, FR⟩
  clear FI FR
  refine ⟨⟨fun p hp => ?_, n, nd, cl, wi, wt, bi, N, w, kd, m, db, br, ss, bk, wk, ⟨?_, fun i hi => ?_⟩, h2, h3, ⟨?_, ?_, fun p hp => ?_⟩, h5, h6⟩, ⟨l, t1, t2, ⟨?_, fun i x hx => ?_⟩, t4⟩, ⟨tn, u1, ?_, u3, fun i hi => ?_⟩, ⟨wn, v1, ?_, v3, fun i hi => ?_⟩, ?_, ⟨p0, pb, ps, p1, p2, B1, fun i v hv => ?_, p5, p6, p7⟩, ⟨q0, qb, qs, q1, q2, C1, fun i v hv => ?_, q5, q6, q7⟩⟩
  · have := hz p hp
    have y := (D3 p hp).1 7 (by omega) (by omega)
    rw [y]; exact this
  · rw [A1]; exact h1.1
  · have n8 := h3.1
    have x := h1.2 i hi
    have y := fun r hr => A2 r i hr (by omega)
    rw [show d + 1 + 1 = d + 2 + 0 by omega, show d + 1 + 2 = d + 2 + 1 by omega, show d + 1 + 3 = d + 2 + 2 by omega, show d + 1 + 4 = d + 2 + 3 by omega, show d + 1 + 5 = d + 2 + 4 by omega, y 0 (by omega), y 1 (by omega), y 2 (by omega), y 3 (by omega), y 4 (by omega)]
    rw [show s + 1 + 1 = s + 2 + 0 by omega, show s + 1 + 2 = s + 2 + 1 by omega, show s + 1 + 3 = s + 2 + 2 by omega, show s + 1 + 4 = s + 2 + 3 by omega, show s + 1 + 5 = s + 2 + 4 by omega] at x
    exact x
  · rw [D1]; exact h4.1
  · rw [D2]; exact h4.2.1
  · have N4 := h6.1
    have p4 : p < 4 := by omega
    obtain ⟨x1, x2, x3, x4, x5, x6, x7⟩ := h4.2.2 p hp
    obtain ⟨y1, y2⟩ := D3 p p4
    obtain ⟨z1, z2, z3, z4, z5, z6, z7⟩ := h6.2.2 p hp
    have n8 := h3.1
    refine ⟨by rw [y1 2 (by omega) (by omega)]; exact x1, by rw [y1 3 (by omega) (by omega)]; exact x2, by rw [y1 4 (by omega) (by omega)]; exact x3, by rw [y1 5 (by omega) (by omega)]; exact x4, by rw [y1 6 (by omega) (by omega)]; exact x5, by rw [y1 7 (by omega) (by omega)]; exact x6, fun i hi => ?_⟩
    have b8 := (z6 i hi).1
    have := x7 i hi
    rw [show d + 13 + 2 + 3 * p + 1 = d + 13 + 3 + 3 * p by omega, show d + 13 + 2 + 3 * p + 2 = d + 13 + 4 + 3 * p by omega, (y2 i (by omega)).1, (y2 (bk p i) (by omega)).2]
    rw [show s + 13 + 2 + 3 * p + 1 = s + 13 + 3 + 3 * p by omega, show s + 13 + 2 + 3 * p + 2 = s + 13 + 4 + 3 * p by omega] at this
    exact this
  · rw [E1]; exact t3.1
  · have lt := lt_of_get hx
    rw [msrt_len, List.length_reverse] at lt
    have y := fun r hr => E2 r i hr (show i < 12 by omega)
    have x' := t3.2 i x hx
    rw [show d + 27 + 1 = d + 28 + 0 by omega, show d + 27 + 2 = d + 28 + 1 by omega, show d + 27 + 3 = d + 28 + 2 by omega, y 0 (by omega), y 1 (by omega), y 2 (by omega)]
    rw [show s + 27 + 1 = s + 28 + 0 by omega, show s + 27 + 2 = s + 28 + 1 by omega, show s + 27 + 3 = s + 28 + 2 by omega] at x'
    exact x'
  · rw [F1]; exact u2
  · obtain ⟨b, b1', b2', b3'⟩ := u4 i hi
    refine ⟨b, b1', ?_, b3'⟩
    rw [show d + 31 + 1 = d + 32 by omega, F2 i (by omega)]
    exact b2'
  · rw [G1]; exact v2
  · rw [G3 i (by omega)]
    exact v4 i hi
  · rw [G2]; exact hzz
  · have lt := lt_of_get hv
    rw [show d + 7 + 1 = d + 8 by omega, B2 i lt]
    exact p4 i v hv
  · have lt := lt_of_get hv
    rw [show d + 10 + 1 = d + 11 by omega, C2 i lt]
    exact q4 i v hv
end
theorem RW_D {μx μm μm' : Mem} {w D D' : Nat} (h : ∀ j, rd μm' D' j = rd μm D j) (H : RW μx w μm D) : RW μx w μm' D' := by
  have e : rd μm' D' = rd μm D := funext h
  unfold RW RFT RFE FM TM DM RMe MM RTp RWa RLaw at H ⊢
  rw [e]
  exact H
theorem RIm_W {μx μm : Mem} (h0 : rd μx 0 9 = rd μm 105 3) (H : RW μx 35 μm 107) : RIm μx μm := ⟨h0, fun _ => H⟩
theorem sh_image : SH_image Rel := by
  intro μ h
  show OKS (f_X11_image μ 0) (fun m => f_X12_image m 105)
  obtain ⟨μ1, a1, a2, a3⟩ := e_cpW (d := 35) (s := 1) (Or.inr rfl) (Or.inl rfl) (by omega) h.1
  have hR1 : RX μ μ1 := fun k j hk => a3 k j (by omega)
  have h9 : rd μ 0 9 = rd μ 105 3 := h.2.1.1
  obtain ⟨m1, l1, l2, l3⟩ : ∃ m1, lp (fun q => f_X12_image_l2 105 q.1 q.2) FU ((0 : Int32), wr μ1 0 9 (rd μ 0 9 + 1)) = some m1 ∧ (∀ j, j < 342 → rd m1 107 j = rd μ 106 j) ∧ ∀ k j, ¬ (k = 107 ∧ j < 342) → rd m1 k j = rd (wr μ1 0 9 (rd μ 0 9 + 1)) k j := by
    refine lp_I (fun j q => q.1 = nI j ∧ (∀ i, i < j → rd q.2 107 i = rd μ 106 i) ∧ ∀ k j, ¬ (k = 107 ∧ j < 342) → rd q.2 k j = rd (wr μ1 0 9 (rd μ 0 9 + 1)) k j) 342 _ (by omega) ⟨rfl, fun i hi => by omega, fun _ _ _ => rfl⟩ ?_ ?_
    · rintro j ⟨v, m⟩ hj ⟨e1, e2, e3⟩
      simp only at e1 e2 e3
      subst e1
      refine ⟨(nI (j + 1), wr m 107 j (rd μ 106 j)), ?_, rfl, fun i hi => ?_, fun k i hk => ?_⟩
      · show f_X12_image_l2 105 (nI j) m = _
        unfold f_X12_image_l2
        rw [if_neg (show ¬ (342 : Int32) ≤ nI j from nI_ge (b := 342) hj (by omega)), ib_nI hj (by omega), if_pos rfl, if_pos rfl, bd_s, tn_nI (by omega), nI_1]
        simp only [rfs]
        rw [e3 106 j (by omega), rd_wr_n (by omega), hR1 _ _ (by omega)]
      · simp only
        by_cases e : i = j
        · rw [e, rd_wr_s]
        · rw [rd_wr_n (by omega)]; exact e2 i (by omega)
      · simp only
        rw [rd_wr_n (by omega)]; exact e3 k i hk
    · rintro ⟨v, m⟩ ⟨e1, e2, e3⟩
      simp only at e1 e2 e3
      subst e1
      refine ⟨m, ?_, e2, e3⟩
      show f_X12_image_l2 105 (nI 342) m = _
      unfold f_X12_image_l2
      rw [if_pos (by decide)]
  refine oks_go (r := rd μ 0 9 + 1) (μ1 := wr μ1 0 9 (rd μ 0 9 + 1)) (μ2 := wr m1 105 3 (rd μ 0 9 + 1)) ?_ ?_ ?_
  · unfold f_X11_image
    simp only [rfs]
    rw [a1, bd_s, bd_s, a3 0 9 (by omega), rd_wr_s]
  · show f_X12_image (wr μ1 0 9 (rd μ 0 9 + 1)) 105 = _
    unfold f_X12_image
    have x : rd m1 105 3 = rd μ 0 9 := by rw [l3 _ _ (by omega), rd_wr_n (show ¬ ((105 : Nat) = 0 ∧ (3 : Nat) = 9) by omega), hR1 _ _ (by omega), h9]
    rw [l1, bd_s, bd_s, x, rd_wr_s]
  · have E : ∀ k j, ¬ (k = 107 ∧ j < 342) → ¬ (k = 0 ∧ j = 9) → ¬ (k = 105 ∧ j = 3) → rd (wr m1 105 3 (rd μ 0 9 + 1)) k j = rd μ1 k j := fun k j a b c => by rw [rd_wr_n c, l3 k j a, rd_wr_n b]
    refine R2_Im h (fun k j c d => by rw [E k j (by omega) (by omega) (by omega), a3 k j (by omega)]) (RIm_W ?_ ?_)
    · rw [rd_wr_n (by omega), l3 _ _ (by omega), rd_wr_s, rd_wr_s]
    · -- the model's cells beyond the row are none that the relation reads
      have H1 : RW (wr m1 105 3 (rd μ 0 9 + 1)) 35 μ 106 := RW_cg (fun k j a b => E k j (by omega) (by omega) (by omega)) (fun _ => rfl) a2
      have H2 : RW (wr m1 105 3 (rd μ 0 9 + 1)) 35 (fun a b => if a = 107 ∧ ¬ b < 342 then rd μ 106 b else rd (wr m1 105 3 (rd μ 0 9 + 1)) a b, (wr m1 105 3 (rd μ 0 9 + 1)).2) 107 := by
        refine RW_D (fun j => ?_) H1
        show (if (107 : Nat) = 107 ∧ ¬ j < 342 then rd μ 106 j else rd (wr m1 105 3 (rd μ 0 9 + 1)) 107 j) = rd μ 106 j
        by_cases z : j < 342
        · rw [if_neg (fun q => q.2 z), rd_wr_n (by omega)]
          exact l2 j z
        · rw [if_pos ⟨rfl, z⟩]
      obtain ⟨w1, w2, w3, w4, w5, w6, w7⟩ := H2
      have K : ∀ j, j < 342 → rd (wr m1 105 3 (rd μ 0 9 + 1)) 107 j = rd ((fun a b => if a = 107 ∧ ¬ b < 342 then rd μ 106 b else rd (wr m1 105 3 (rd μ 0 9 + 1)) a b, (wr m1 105 3 (rd μ 0 9 + 1)).2) : Mem) 107 j := by
        intro j hj
        show _ = (if (107 : Nat) = 107 ∧ ¬ j < 342 then rd μ 106 j else rd (wr m1 105 3 (rd μ 0 9 + 1)) 107 j)
        rw [if_neg (fun q => q.2 hj)]
      exact ⟨RFT_cg (fun _ _ _ => rfl) (fun j _ => K j (by omega)) w1, RMe_cg (fun _ _ _ _ => rfl) (fun j _ => K j (by omega)) w2, RTp_cg (fun _ _ _ _ => rfl) (fun j _ => K j (by omega)) w3, RWa_cg rfl (fun _ => rfl) (fun j _ => K j (by omega)) w4, by rw [K 4 (by omega)]; exact w5, RLaw_cg (by omega) rfl (fun _ => rfl) (fun j _ => K j (by omega)) w6, RLaw_cg (by omega) rfl (fun _ => rfl) (fun j _ => K j (by omega)) w7⟩
/-- the world as a whole anew -/
theorem R2_W {μ μ2 : Mem} (h : Rel μ) (hx : ∀ k j, ¬ (1 ≤ k ∧ k ≤ 34 ∧ ¬ (k = 8 ∧ j ≠ 3) ∧ ¬ (k = 11 ∧ j ≠ 3)) → k ≠ 106 → rd μ2 k j = rd μ k j) (H : RW μ2 1 μ2 106) : Rel μ2 := by
  obtain ⟨w1, h2, h3, h4, h5, h6, h7, h8⟩ := h
  exact ⟨H, RIm_cg (hx _ _ (by omega) (by omega)) (fun k j _ _ => hx _ _ (by omega) (by omega)) (hx _ _ (by omega) (by omega)) (fun j => hx _ _ (by omega) (by omega)) h2, RRe_cg (fun j => hx _ _ (by omega) (by omega)) (fun j => hx _ _ (by omega) (by omega)) h3, RTr_cg (fun k j _ _ => hx _ _ (by omega) (by omega)) (hx _ _ (by omega) (by omega)) (fun j => hx _ _ (by omega) (by omega)) h4, RSh_cg (fun k j _ _ => hx _ _ (by omega) (by omega)) (fun k j _ _ => hx _ _ (by omega) (by omega)) h5, by rw [hx _ _ (by omega) (by omega)]; exact h6, by rw [hx _ _ (by omega) (by omega)]; exact h7, by rw [hx _ _ (by omega) (by omega)]; exact h8⟩
theorem sh_restore : SH_restore Rel := by
  intro μ h
  show OKS (f_X11_restore μ 0) (fun m => f_X12_restore m 105)
  have h9 : rd μ 0 9 = rd μ 105 3 := h.2.1.1
  by_cases z : rd μ 0 9 = 0
  · refine oks_ref (k := 2) h (by omega) ?_ ?_
    · unfold f_X11_restore
      rw [if_neg (not_not_intro z), bd_p]
      rfl
    · intro μ1 hR
      show f_X12_restore μ1 105 = _
      unfold f_X12_restore
      rw [hR _ _ (by omega), ← h9, if_neg (not_not_intro z), bd_p]
      rfl
  · have HW := h.2.1.2 z
    obtain ⟨μ1, a1, a2, a3⟩ := e_cpW (d := 1) (s := 35) (Or.inl rfl) (Or.inr rfl) (by omega) HW
    have hR1 : RX μ μ1 := fun k j hk => a3 k j (by omega)
    obtain ⟨m1, l1, l2, l3⟩ : ∃ m1, lp (fun q => f_X12_restore_l15 105 q.1 q.2) FU ((0 : Int32), μ1) = some m1 ∧ (∀ j, j < 342 → rd m1 106 j = rd μ 107 j) ∧ ∀ k j, ¬ (k = 106 ∧ j < 342) → rd m1 k j = rd μ1 k j := by
      refine lp_I (fun j q => q.1 = nI j ∧ (∀ i, i < j → rd q.2 106 i = rd μ 107 i) ∧ ∀ k j, ¬ (k = 106 ∧ j < 342) → rd q.2 k j = rd μ1 k j) 342 _ (by omega) ⟨rfl, fun i hi => by omega, fun _ _ _ => rfl⟩ ?_ ?_
      · rintro j ⟨v, m⟩ hj ⟨e1, e2, e3⟩
        simp only at e1 e2 e3
        subst e1
        refine ⟨(nI (j + 1), wr m 106 j (rd μ 107 j)), ?_, rfl, fun i hi => ?_, fun k i hk => ?_⟩
        · show f_X12_restore_l15 105 (nI j) m = _
          unfold f_X12_restore_l15
          rw [if_neg (show ¬ (342 : Int32) ≤ nI j from nI_ge (b := 342) hj (by omega)), ib_nI hj (by omega), if_pos rfl, if_pos rfl, bd_s, tn_nI (by omega), nI_1]
          simp only [rfs]
          rw [e3 107 j (by omega), hR1 _ _ (by omega)]
        · simp only
          by_cases e : i = j
          · rw [e, rd_wr_s]
          · rw [rd_wr_n (by omega)]; exact e2 i (by omega)
        · simp only
          rw [rd_wr_n (by omega)]; exact e3 k i hk
      · rintro ⟨v, m⟩ ⟨e1, e2, e3⟩
        simp only at e1 e2 e3
        subst e1
        refine ⟨m, ?_, e2, e3⟩
        show f_X12_restore_l15 105 (nI 342) m = _
        unfold f_X12_restore_l15
        rw [if_pos (by decide)]
    have H1 : RW m1 1 μ 107 := RW_cg (fun k j a b => l3 k j (by omega)) (fun _ => rfl) a2
    have HF : RW m1 1 m1 106 := by
      have H2 : RW m1 1 (fun a b => if a = 106 ∧ ¬ b < 342 then rd μ 107 b else rd m1 a b, m1.2) 106 := by
        refine RW_D (fun j => ?_) H1
        show (if (106 : Nat) = 106 ∧ ¬ j < 342 then rd μ 107 j else rd m1 106 j) = rd μ 107 j
        by_cases y : j < 342
        · rw [if_neg (fun q => q.2 y)]
          exact l2 j y
        · rw [if_pos ⟨rfl, y⟩]
      obtain ⟨w1, w2, w3, w4, w5, w6, w7⟩ := H2
      have K : ∀ j, j < 342 → rd m1 106 j = rd ((fun a b => if a = 106 ∧ ¬ b < 342 then rd μ 107 b else rd m1 a b, m1.2) : Mem) 106 j := by
        intro j hj
        show _ = (if (106 : Nat) = 106 ∧ ¬ j < 342 then rd μ 107 j else rd m1 106 j)
        rw [if_neg (fun q => q.2 hj)]
      exact ⟨RFT_cg (fun _ _ _ => rfl) (fun j _ => K j (by omega)) w1, RMe_cg (fun _ _ _ _ => rfl) (fun j _ => K j (by omega)) w2, RTp_cg (fun _ _ _ _ => rfl) (fun j _ => K j (by omega)) w3, RWa_cg rfl (fun _ => rfl) (fun j _ => K j (by omega)) w4, by rw [K 4 (by omega)]; exact w5, RLaw_cg (by omega) rfl (fun _ => rfl) (fun j _ => K j (by omega)) w6, RLaw_cg (by omega) rfl (fun _ => rfl) (fun j _ => K j (by omega)) w7⟩
    have hw : rd μ1 14 4 = rd m1 106 3 := by
      obtain ⟨n, nd, cl, wi, wt, bi, N, w, kd, m, db, br, s, bk, wk, x1, x2, x3, x4, x5, x6⟩ := HF.1.2
      have y1 : rd m1 14 4 = nI w := x4.2.1
      rw [← l3 14 4 (by omega), y1, x5.2.1]
    refine oks_go (r := rd μ1 14 4) (μ1 := μ1) (μ2 := m1) ?_ ?_ ?_
    · unfold f_X11_restore
      simp only [rfs]
      rw [if_pos z, a1, bd_s]
    · show f_X12_restore μ1 105 = _
      unfold f_X12_restore
      simp only [rfs, cls]
      rw [hR1 _ _ (by omega), ← h9, if_pos z, l1, bd_s, hw]
    · exact R2_W h (fun k j c d => by rw [l3 k j (by omega), a3 k j (by omega)]) HF
