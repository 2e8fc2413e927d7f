/-! PURE: sets of facts as bits; bookOf -/
theorem nI_or (a b : Nat) : nI a ||| nI b = nI (a ||| b) := by
  apply Int32.toBitVec_inj.mp
  show BitVec.ofNat 32 a ||| BitVec.ofNat 32 b = BitVec.ofNat 32 (a ||| b)
  apply BitVec.eq_of_toNat_eq
  simp [Nat.or_mod_two_pow]
theorem nI_and (a b : Nat) : nI a &&& nI b = nI (a &&& b) := by
  apply Int32.toBitVec_inj.mp
  show BitVec.ofNat 32 a &&& BitVec.ofNat 32 b = BitVec.ofNat 32 (a &&& b)
  apply BitVec.eq_of_toNat_eq
  simp [Nat.and_mod_two_pow]
theorem shl_1 : ∀ i, i < 8 → jshl 1 (nI i) = nI (2 ^ i) := by decide +kernel
theorem or_256 {a b : Nat} (ha : a < 256) (hb : b < 256) : a ||| b < 256 := Nat.or_lt_two_pow (n := 8) ha hb
theorem and_256 {a b : Nat} (ha : a < 256) : a &&& b < 256 := Nat.and_lt_two_pow (n := 8) b ha |> fun h => by rw [Nat.and_comm] at h; exact h
theorem pow_256 {i : Nat} (h : i < 8) : 2 ^ i < 256 := Nat.pow_lt_pow_right (a := 2) (by omega) (show i < 8 from h)
theorem bks_256 {bk : Nat → Nat} : ∀ s, (∀ i, i < s → bk i < 8) → bks bk s < 256 := by
  intro s
  induction s with
  | zero => intro _; exact (by decide : (0 : Nat) < 256)
  | succ s ih => intro h; exact or_256 (ih (fun i hi => h i (by omega))) (pow_256 (h s (by omega)))
theorem shr_1 : ∀ x, x < 256 → ∀ i, i < 8 → (jshr (nI x) (nI i)) &&& 1 = nI (x / 2 ^ i % 2) := by decide +kernel
theorem tb_iff {x i : Nat} : x / 2 ^ i % 2 = 1 ↔ x.testBit i = true := by
  rw [Nat.testBit_eq_decide_div_mod_eq]
  simp
theorem tb_lt (x i : Nat) : x / 2 ^ i % 2 < 2 := Nat.mod_lt _ (by omega)
theorem bks_tb {bk : Nat → Nat} {s f : Nat} : (bks bk s).testBit f = true ↔ ∃ i, i < s ∧ bk i = f := by
  induction s with
  | zero => simp [bks]
  | succ s ih =>
    rw [bks, Nat.testBit_or, Bool.or_eq_true, ih, Nat.testBit_two_pow, decide_eq_true_eq]
    constructor
    · rintro (⟨i, hi, e⟩ | e)
      · exact ⟨i, by omega, e⟩
      · exact ⟨s, by omega, e⟩
    · rintro ⟨i, hi, e⟩
      by_cases q : i = s
      · subst q
        exact Or.inr e
      · exact Or.inl ⟨i, by omega, e⟩
theorem e_bookOf {μ : Mem} {p s : Nat} {bk : Nat → Nat} (hp : p < 4) (hs : s ≤ 8) (h : rd μ 106 (54 + 21 * p) = nI s) (hb : ∀ i, i < s → rd μ 106 (55 + 21 * p + i) = nI (bk i) ∧ bk i < 8) : f_X12_bookOf μ 105 (nI p) = some (nI (bks bk s)) := by
  unfold f_X12_bookOf
  obtain ⟨r, l1, l2⟩ : ∃ r, lp (fun q => f_X12_bookOf_l4 μ 105 (nI p) q.1 q.2) FU ((0 : Int32), (0 : Int32)) = some r ∧ r = nI (bks bk s) := by
    refine lp_I (fun j q => q.1 = nI (bks bk j) ∧ q.2 = nI j) s _ (by omega) ⟨rfl, rfl⟩ ?_ ?_
    · rintro j ⟨x, y⟩ hj ⟨e1, e2⟩
      simp only at e1 e2
      subst e1 e2
      refine ⟨(nI (bks bk (j + 1)), nI (j + 1)), ?_, rfl, rfl⟩
      simp only [f_X12_bookOf_l4, e_ofs hp, h, bd_s]
      rw [if_neg (nI_ge hj (by omega)), (e_ofi hp (show j < 8 by omega) μ).1, (hb j hj).1, bd_s, shl_1 _ (hb j hj).2, nI_or, nI_1]
      rfl
    · rintro ⟨x, y⟩ ⟨e1, e2⟩
      simp only at e1 e2
      subst e1 e2
      refine ⟨_, ?_, rfl⟩
      simp only [f_X12_bookOf_l4, e_ofs hp, h, bd_s]
      rw [if_pos (nI_le (Nat.le_refl _) (by omega))]
  rw [l1, l2]
  rfl
