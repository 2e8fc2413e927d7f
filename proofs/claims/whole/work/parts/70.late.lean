/-! PURE: how late, eight times four bits -/
def nL (a : Nat) : Int64 := Int64.ofNat a
theorem nL_or (a b : Nat) : nL a ||| nL b = nL (a ||| b) := by
  apply Int64.toBitVec_inj.mp
  show BitVec.ofNat 64 a ||| BitVec.ofNat 64 b = BitVec.ofNat 64 (a ||| b)
  apply BitVec.eq_of_toNat_eq
  simp [Nat.or_mod_two_pow]
theorem nL_and (a b : Nat) : nL a &&& nL b = nL (a &&& b) := by
  apply Int64.toBitVec_inj.mp
  show BitVec.ofNat 64 a &&& BitVec.ofNat 64 b = BitVec.ofNat 64 (a &&& b)
  apply BitVec.eq_of_toNat_eq
  simp [Nat.and_mod_two_pow]
theorem nL_int {a : Nat} (h : a < 2 ^ 63) : (nL a).toInt = (a : Int) := Int64.toInt_ofNat_of_lt h
theorem nL_of {a : Nat} (h : a < 2 ^ 31) : (nI a).toInt64 = nL a := by
  apply Int64.toInt_inj.mp
  rw [to64, nL_int (by omega), nI_c (by omega)]
theorem sh_amt : ∀ f, f < 8 → ((4 : Int32) * nI f).toInt64 &&& 63 = nL (4 * f) := by decide +kernel
theorem sh_md : ∀ f, f < 8 → ((nL (4 * f)).toBitVec.smod 64) = BitVec.ofNat 64 (4 * f) := by decide +kernel
theorem sh_tn : ∀ f, f < 8 → (BitVec.ofNat 64 (4 * f)).toNat = 4 * f := by decide +kernel
theorem nL_shl {a f : Nat} (hf : f < 8) : jlshl (nL a) ((4 : Int32) * nI f) = nL (a <<< (4 * f)) := by
  unfold jlshl
  rw [sh_amt f hf]
  apply Int64.toBitVec_inj.mp
  show (nL a).toBitVec <<< ((nL (4 * f)).toBitVec.smod 64) = _
  rw [sh_md f hf]
  apply BitVec.eq_of_toNat_eq
  rw [BitVec.shiftLeft_eq', BitVec.toNat_shiftLeft, sh_tn f hf]
  show (a % 2 ^ 64) <<< (4 * f) % 2 ^ 64 = a <<< (4 * f) % 2 ^ 64
  rw [Nat.shiftLeft_eq, Nat.shiftLeft_eq, Nat.mul_mod, Nat.mod_mod, ← Nat.mul_mod]
theorem nL_shr {a f : Nat} (hf : f < 8) (ha : a < 2 ^ 63) : jlshr (nL a) ((4 : Int32) * nI f) = nL (a >>> (4 * f)) := by
  unfold jlshr
  rw [sh_amt f hf]
  apply Int64.toBitVec_inj.mp
  show (nL a).toBitVec.sshiftRight' ((nL (4 * f)).toBitVec.smod 64) = _
  rw [sh_md f hf, BitVec.sshiftRight_eq', sh_tn f hf]
  have hm : (nL a).toBitVec.msb = false := by
    show (BitVec.ofNat 64 a).msb = false
    rw [BitVec.msb_eq_false_iff_two_mul_lt]
    rw [BitVec.toNat_ofNat, Nat.mod_eq_of_lt (by omega)]
    omega
  rw [BitVec.sshiftRight_eq_of_msb_false hm]
  apply BitVec.eq_of_toNat_eq
  rw [BitVec.toNat_ushiftRight]
  show (a % 2 ^ 64) >>> (4 * f) = a >>> (4 * f) % 2 ^ 64
  rw [Nat.mod_eq_of_lt (show a < 2 ^ 64 by omega), Nat.mod_eq_of_lt]
  have := Nat.shiftRight_le a (4 * f)
  omega
/-- the four-bit rows put together -/
def la (x : Nat → Nat) : Nat → Nat
  | 0 => 0
  | k + 1 => la x k ||| x k <<< (4 * k)
theorem la_tb {x : Nat → Nat} (hx : ∀ k, x k < 16) : ∀ k i, (la x k).testBit i = (decide (i < 4 * k) && (x (i / 4)).testBit (i % 4)) := by
  intro k
  induction k with
  | zero => intro i; rw [la, Nat.zero_testBit, decide_eq_false (by omega)]; rfl
  | succ k ih =>
    intro i
    rw [la, Nat.testBit_or, ih, Nat.testBit_shiftLeft]
    by_cases a : i < 4 * k
    · rw [decide_eq_true a, decide_eq_true (show i < 4 * (k + 1) by omega), decide_eq_false (show ¬ i ≥ 4 * k by omega), Bool.false_and, Bool.or_false]
    · rw [decide_eq_false a, decide_eq_true (show i ≥ 4 * k by omega), Bool.false_and, Bool.false_or, Bool.true_and]
      by_cases b : i < 4 * (k + 1)
      · rw [decide_eq_true b, show i / 4 = k by omega, show i - 4 * k = i % 4 by omega]
        rfl
      · rw [decide_eq_false b, Bool.false_and]
        have := hx k
        exact Nat.testBit_lt_two_pow (Nat.lt_of_lt_of_le this (Nat.pow_le_pow_right (n := 2) (by omega) (show 4 ≤ i - 4 * k by omega)))
theorem la_lt {x : Nat → Nat} (hx : ∀ k, x k < 16) : la x 8 < 2 ^ 32 := by
  apply Nat.lt_pow_two_of_testBit
  intro i hi
  rw [la_tb hx, decide_eq_false (by omega)]
  rfl
theorem la_nib {x : Nat → Nat} (hx : ∀ k, x k < 16) {f : Nat} (hf : f < 8) : (la x 8 >>> (4 * f)) &&& 15 = x f := by
  apply Nat.eq_of_testBit_eq
  intro j
  rw [Nat.testBit_and, Nat.testBit_shiftRight, la_tb hx]
  by_cases z : j < 4
  · rw [decide_eq_true (show 4 * f + j < 4 * 8 by omega), show (4 * f + j) / 4 = f by omega, show (4 * f + j) % 4 = j by omega, Bool.true_and]
    have : Nat.testBit 15 j = true := by
      have : j = 0 ∨ j = 1 ∨ j = 2 ∨ j = 3 := by omega
      rcases this with rfl | rfl | rfl | rfl <;> rfl
    rw [this, Bool.and_true]
  · have e1 : Nat.testBit 15 j = false := Nat.testBit_lt_two_pow (Nat.lt_of_lt_of_le (show 15 < 2 ^ 4 by omega) (Nat.pow_le_pow_right (n := 2) (by omega) (show 4 ≤ j by omega)))
    have e2 : (x f).testBit j = false := Nat.testBit_lt_two_pow (Nat.lt_of_lt_of_le (hx f) (Nat.pow_le_pow_right (n := 2) (by omega) (show 4 ≤ j by omega)))
    rw [e1, e2, Bool.and_false]
theorem e_nol (x y : Nat → Nat) (hx : ∀ k, x k < 16) (hy : ∀ k, y k < 16) : ∃ b, f_X5_isNoLater (nL (la x 8)) (nL (la y 8)) = some (b2 b) ∧ (b = true ↔ ∀ f, f < 8 → x f ≤ y f) := by
  have lx := la_lt hx
  have ly := la_lt hy
  have st : ∀ f, f < 8 → (lg_cmp ((jlshr (nL (la x 8)) ((4 : Int32) * nI f)) &&& (15 : Int64)) ((jlshr (nL (la y 8)) ((4 : Int32) * nI f)) &&& (15 : Int64)) ≤ 0 ↔ x f ≤ y f) := by
    intro f hf
    rw [nL_shr hf (by omega), nL_shr hf (by omega), show (15 : Int64) = nL 15 from rfl, nL_and, nL_and, la_nib hx hf, la_nib hy hf]
    have a := hx f
    have b := hy f
    have q := cmp_gt (nL (x f)) (nL (y f))
    rw [i64_lt, nL_int (by omega), nL_int (by omega)] at q
    have p : lg_cmp (nL (x f)) (nL (y f)) ≤ 0 ↔ ¬ 0 < lg_cmp (nL (x f)) (nL (y f)) := by
      rw [i32_le, i32_lt]
      omega
    rw [p, q]
    omega
  have := lp_any (body := fun s => f_X5_isNoLater_l3 (nL (la x 8)) (nL (la y 8)) s) (fun f => decide (¬ x f ≤ y f)) 8 0 FU (by unfold FU; omega) ?_ ?_ ?_
  · refine ⟨!anyF (fun f => decide (¬ x f ≤ y f)) 8 0, ?_, ?_⟩
    · unfold f_X5_isNoLater
      rw [show (0 : Int32) = nI 0 from rfl, this, bd_s]
      cases anyF (fun f => decide (¬ x f ≤ y f)) 8 0 <;> rfl
    · rw [Bool.not_eq_true', Bool.eq_false_iff, ne_eq, anyF_iff]
      constructor
      · intro h f hf
        by_cases z : x f ≤ y f
        · exact z
        · exact absurd ⟨f, hf, by rw [Nat.zero_add]; exact decide_eq_true z⟩ h
      · rintro h ⟨f, hf, q⟩
        rw [Nat.zero_add, decide_eq_true_eq] at q
        exact q (h f hf)
  · intro i hi h
    rw [Nat.zero_add, decide_eq_false_iff_not, Classical.not_not] at h
    rw [Nat.zero_add]
    show f_X5_isNoLater_l3 _ _ (nI i) = _
    unfold f_X5_isNoLater_l3
    rw [if_neg (show ¬ (8 : Int32) ≤ nI i from nI_ge (b := 8) hi (by omega)), if_pos ((st i hi).mpr h), nI_1]
  · intro i hi h
    rw [Nat.zero_add, decide_eq_true_eq] at h
    rw [Nat.zero_add]
    show f_X5_isNoLater_l3 _ _ (nI i) = _
    unfold f_X5_isNoLater_l3
    rw [if_neg (show ¬ (8 : Int32) ≤ nI i from nI_ge (b := 8) hi (by omega)), if_neg (fun q => h ((st i hi).mp q))]
  · show f_X5_isNoLater_l3 _ _ (nI (0 + 8)) = _
    unfold f_X5_isNoLater_l3
    rw [if_pos (by decide)]
