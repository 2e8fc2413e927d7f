/-! PURE: sums over the debtors; ofFact, count -/
def sm (f : Nat → Nat) : Nat → Nat
  | 0 => 0
  | k + 1 => sm f k + f k
theorem lp_two {v : Int32 → Int32 → Option ((Int32 × Int32) ⊕ Int32)} (F : Nat → Nat) (N : Nat) (hN : N < 1000000) (hs : ∀ j, j < N → v (nI (F j)) (nI j) = some (.inl (nI (F (j + 1)), nI (j + 1)))) (he : v (nI (F N)) (nI N) = some (.inr (nI (F N)))) (h0 : F 0 = 0) : lp (fun q => v q.1 q.2) FU ((0 : Int32), (0 : Int32)) = some (nI (F N)) := by
  obtain ⟨r, l1, l2⟩ : ∃ r, lp (fun q => v q.1 q.2) FU ((0 : Int32), (0 : Int32)) = some r ∧ r = nI (F N) := by
    refine lp_I (fun j q => q.1 = nI (F j) ∧ q.2 = nI j) N _ hN ⟨by rw [h0]; rfl, rfl⟩ ?_ ?_
    · rintro j ⟨x, y⟩ hj ⟨e1, e2⟩
      simp only at e1 e2
      subst e1 e2
      exact ⟨_, hs j hj, rfl, rfl⟩
    · rintro ⟨x, y⟩ ⟨e1, e2⟩
      simp only at e1 e2
      subst e1 e2
      exact ⟨_, he, rfl⟩
  rw [l1, l2]
theorem e_debX {μ : Mem} {t n N w : Nat} {kd m db br s : Nat → Nat} {bk wk : Nat → Nat → Nat} (ht : t = 14 ∨ t = 69) (hN : N ≤ 4) (H : TX μ t n N w kd m db br s bk wk) {j : Nat} (hj : j < N) : rd μ (t + 2 + 3 * j) 2 = nI (bks (bk j) (s j)) ∧ rd μ (t + 2 + 3 * j) 6 = nI (db j) ∧ rd μ (t + 2 + 3 * j) 7 = nI (br j) := by
  obtain ⟨p1, p2, p3, p4, p5, p6, p7⟩ := H.2.2 j hj
  exact ⟨p1, p5, p6⟩
theorem e_booksX {μ : Mem} {t n N w : Nat} {kd m db br s : Nat → Nat} {bk wk : Nat → Nat → Nat} (ht : t = 14 ∨ t = 69) (hN : N ≤ 4) (H : TX μ t n N w kd m db br s bk wk) (hb : ∀ p, p < N → bks (bk p) (s p) < 256) {f : Nat} (hf : f < 8) : f_X8_booksWith μ t (nI f) = some (nI (sm (fun p => bks (bk p) (s p) / 2 ^ f % 2) N)) := by
  unfold f_X8_booksWith
  rw [lp_two (sm (fun p => bks (bk p) (s p) / 2 ^ f % 2)) N (by omega) ?_ ?_ rfl, bd_s]
  · intro j hj
    simp only [f_X8_booksWith_l4, H.1, rf_tw ht, tn_nI (show j < 2 ^ 31 by omega), rf_d ht (show j < 4 by omega), (e_debX ht hN H hj).1]
    rw [if_neg (nI_ge hj (by omega)), ib_nI (show j < 4 by omega) (by omega), if_pos rfl, shr_1 _ (hb j hj) _ hf, nI_add, nI_1]
    rfl
  · simp only [f_X8_booksWith_l4, H.1]
    rw [if_pos (nI_le (Nat.le_refl _) (by omega))]
theorem e_booksM {μ : Mem} {n N w : Nat} {kd m db br s : Nat → Nat} {bk wk : Nat → Nat → Nat} (hN : N ≤ 4) (H : TM μ 106 n N w kd m db br s bk wk) (hs : ∀ p, p < N → s p ≤ 8 ∧ ∀ i, i < s p → bk p i < 8) {f : Nat} (hf : f < 8) : f_X12_booksWith μ 105 (nI f) = some (nI (sm (fun p => bks (bk p) (s p) / 2 ^ f % 2) N)) := by
  unfold f_X12_booksWith
  rw [lp_two (sm (fun p => bks (bk p) (s p) / 2 ^ f % 2)) N (by omega) ?_ ?_ rfl, bd_s]
  · intro j hj
    obtain ⟨r1, r2, r3, r4, r5, r6⟩ := H.2.2 j hj
    simp only [f_X12_booksWith_l4, rfs, cls, H.1, e_bookOf (show j < 4 by omega) (hs j hj).1 r5 (fun i hi => ⟨(r6 i hi).1, (hs j hj).2 i hi⟩), bd_s]
    rw [if_neg (nI_ge hj (by omega)), shr_1 _ (bks_256 _ (hs j hj).2) _ hf, nI_add, nI_1]
    rfl
  · simp only [f_X12_booksWith_l4, rfs, cls, H.1]
    rw [if_pos (nI_le (Nat.le_refl _) (by omega))]
theorem e_debtsX {μ : Mem} {t n N w : Nat} {kd m db br s : Nat → Nat} {bk wk : Nat → Nat → Nat} (ht : t = 14 ∨ t = 69) (hN : N ≤ 4) (H : TX μ t n N w kd m db br s bk wk) : f_X8_debts μ t = some (nI (sm db N)) := by
  unfold f_X8_debts
  rw [lp_two (sm db) N (by omega) ?_ ?_ rfl, bd_s]
  · intro j hj
    simp only [f_X8_debts_l4, H.1, rf_tw ht, tn_nI (show j < 2 ^ 31 by omega), rf_d ht (show j < 4 by omega), (e_debX ht hN H hj).2.1]
    rw [if_neg (nI_ge hj (by omega)), ib_nI (show j < 4 by omega) (by omega), if_pos rfl, nI_add, nI_1]
    rfl
  · simp only [f_X8_debts_l4, H.1]
    rw [if_pos (nI_le (Nat.le_refl _) (by omega))]
theorem e_debtsM {μ : Mem} {n N w : Nat} {kd m db br s : Nat → Nat} {bk wk : Nat → Nat → Nat} (hN : N ≤ 4) (H : TM μ 106 n N w kd m db br s bk wk) : f_X12_debts μ 105 = some (nI (sm db N)) := by
  unfold f_X12_debts
  rw [lp_two (sm db) N (by omega) ?_ ?_ rfl, bd_s]
  · intro j hj
    obtain ⟨r1, r2, r3, r4, r5, r6⟩ := H.2.2 j hj
    simp only [f_X12_debts_l4, rfs, cls, H.1, e_ofs (show j < 4 by omega), r3, bd_s]
    rw [if_neg (nI_ge hj (by omega)), nI_add, nI_1]
    rfl
  · simp only [f_X12_debts_l4, rfs, cls, H.1]
    rw [if_pos (nI_le (Nat.le_refl _) (by omega))]
theorem e_brokenX {μ : Mem} {t n N w : Nat} {kd m db br s : Nat → Nat} {bk wk : Nat → Nat → Nat} (ht : t = 14 ∨ t = 69) (hN : N ≤ 4) (H : TX μ t n N w kd m db br s bk wk) (hb : ∀ p, p < N → br p ≤ 1) : f_X8_broken μ t = some (nI (sm br N)) := by
  unfold f_X8_broken
  rw [lp_two (sm br) N (by omega) ?_ ?_ rfl, bd_s]
  · intro j hj
    simp only [f_X8_broken_l4, H.1, rf_tw ht, tn_nI (show j < 2 ^ 31 by omega), rf_d ht (show j < 4 by omega), (e_debX ht hN H hj).2.2]
    rw [if_neg (nI_ge hj (by omega)), ib_nI (show j < 4 by omega) (by omega), if_pos rfl]
    have := hb j hj
    by_cases e : br j = 0
    · rw [if_pos (by rw [e]; rfl), show sm br (j + 1) = sm br j + 0 by rw [sm, e], show (0 : Int32) = nI 0 from rfl, nI_add, nI_1]
    · rw [if_neg (nI_ne0 (by omega) (by omega)), show sm br (j + 1) = sm br j + 1 by rw [sm, show br j = 1 by omega], nI_1, nI_1]
  · simp only [f_X8_broken_l4, H.1]
    rw [if_pos (nI_le (Nat.le_refl _) (by omega))]
theorem e_brokenM {μ : Mem} {n N w : Nat} {kd m db br s : Nat → Nat} {bk wk : Nat → Nat → Nat} (hN : N ≤ 4) (H : TM μ 106 n N w kd m db br s bk wk) : f_X12_brokenMany μ 105 = some (nI (sm br N)) := by
  unfold f_X12_brokenMany
  rw [lp_two (sm br) N (by omega) ?_ ?_ rfl, bd_s]
  · intro j hj
    obtain ⟨r1, r2, r3, r4, r5, r6⟩ := H.2.2 j hj
    simp only [f_X12_brokenMany_l4, rfs, cls, H.1, e_ofs (show j < 4 by omega), r4, bd_s]
    rw [if_neg (nI_ge hj (by omega)), nI_add, nI_1]
    rfl
  · simp only [f_X12_brokenMany_l4, rfs, cls, H.1]
    rw [if_pos (nI_le (Nat.le_refl _) (by omega))]
