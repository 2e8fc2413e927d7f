/-! PURE: tools -/
def OKS (f : Option (Int32 × Mem)) (g : Mem → Option (Int32 × Mem)) : Prop := ∃ p q : Int32 × Mem, f = some p ∧ g p.2 = some q ∧ p.1 = q.1 ∧ Rel q.2
/-- the class leaves the reference's cells -/
def RX (μ μ1 : Mem) : Prop := ∀ k j, 105 ≤ k → rd μ1 k j = rd μ k j
theorem oks_go {f : Option (Int32 × Mem)} {g : Mem → Option (Int32 × Mem)} {r : Int32} {μ1 μ2 : Mem} (hf : f = some (r, μ1)) (hg : g μ1 = some (r, μ2)) (h : Rel μ2) : OKS f g := ⟨(r, μ1), (r, μ2), hf, hg, rfl, h⟩
theorem bd_p (x : Option (Int32 × Mem)) : (x.bind fun p => some (p.1, p.2)) = x := by cases x <;> rfl
theorem bd_i {α : Type} (x : Option α) : (x.bind fun p => some p) = x := by cases x <;> rfl
theorem nI_lit : nI 0 = 0 ∧ nI 1 = 1 ∧ nI 2 = 2 ∧ nI 3 = 3 ∧ nI 4 = 4 ∧ nI 5 = 5 ∧ nI 6 = 6 ∧ nI 7 = 7 ∧ nI 8 = 8 ∧ nI 9 = 9 := by decide +kernel
theorem rel_ref {μ : Mem} (h : Rel μ) {k : Nat} (hk : k < 6) (μ1 : Mem) (h1 : μ1 = wr μ 96 k (rd μ 96 k + 1)) : Rel (wr μ1 109 k (rd μ1 109 k + 1)) := by
  subst h1
  obtain ⟨h1, h2, h3, h4, h5, h6, h7, h8⟩ := h
  have hx : ∀ k' j, k' ≠ 96 → k' ≠ 109 → rd (wr (wr μ 96 k (rd μ 96 k + 1)) 109 k (rd (wr μ 96 k (rd μ 96 k + 1)) 109 k + 1)) k' j = rd μ k' j := by
    intro k' j a b
    rw [rd_wr_n (by omega), rd_wr_n (by omega)]
  refine ⟨RW_cg (fun k j a b => hx k j (by omega) (by omega)) (fun j => hx _ j (by omega) (by omega)) h1, RIm_cg (hx _ _ (by omega) (by omega)) (fun k j a b => hx k j (by omega) (by omega)) (hx _ _ (by omega) (by omega)) (fun j => hx _ j (by omega) (by omega)) h2, ?_, RTr_cg (fun k j a b => hx k j (by omega) (by omega)) (hx _ _ (by omega) (by omega)) (fun j => hx _ j (by omega) (by omega)) h4, RSh_cg (fun k j a b => hx k j (by omega) (by omega)) (fun k j a b => hx k j (by omega) (by omega)) h5, by rw [hx _ _ (by omega) (by omega)]; exact h6, by rw [hx _ _ (by omega) (by omega)]; exact h7, by rw [hx _ _ (by omega) (by omega)]; exact h8⟩
  intro i hi
  have h0 := h3 k hk
  have h9 := h3 i hi
  by_cases e : i = k
  · subst e
    simp only [rd_wr, true_and, and_true, if_true, show ¬ (96 = 109) by omega, show ¬ (109 = 96) by omega, false_and, if_false]
    rw [h0]
  · rw [rd_wr_n (by omega), rd_wr_n (by omega), rd_wr_n (by omega), rd_wr_n (by omega)]
    exact h9
theorem oks_ref {μ : Mem} (h : Rel μ) {k : Nat} (hk : k < 6) {f : Option (Int32 × Mem)} {g : Mem → Option (Int32 × Mem)} (hf : f = f_X11_refuse μ 0 (nI k)) (hg : ∀ μ1, RX μ μ1 → g μ1 = f_X12_finds μ1 105 (nI k)) : OKS f g := by
  rw [e_refuse μ k hk] at hf
  have h1 : RX μ (wr μ 96 k (rd μ 96 k + 1)) := fun k' j a => rd_wr_n (by omega)
  have h2 := hg _ h1
  rw [e_finds _ k hk] at h2
  exact oks_go hf h2 (rel_ref h hk _ rfl)
/-- among, in: as conditions -/
theorem e_ins (a : Int32) : f_X12_in a.toInt64 (-1) 7 = some (if (-1 : Int32) ≤ a ∧ a ≤ 7 then 1 else 0) ∧ f_X12_in a.toInt64 0 1 = some (if (0 : Int32) ≤ a ∧ a ≤ 1 then 1 else 0) ∧ f_X12_in a.toInt64 0 255 = some (if (0 : Int32) ≤ a ∧ a ≤ 255 then 1 else 0) ∧ f_X12_in a.toInt64 0 3 = some (if (0 : Int32) ≤ a ∧ a ≤ 3 then 1 else 0) ∧ f_X12_in a.toInt64 0 31 = some (if (0 : Int32) ≤ a ∧ a ≤ 31 then 1 else 0) ∧ f_X12_in a.toInt64 0 4 = some (if (0 : Int32) ≤ a ∧ a ≤ 4 then 1 else 0) ∧ f_X12_in a.toInt64 0 5 = some (if (0 : Int32) ≤ a ∧ a ≤ 5 then 1 else 0) ∧ f_X12_in a.toInt64 0 6 = some (if (0 : Int32) ≤ a ∧ a ≤ 6 then 1 else 0) ∧ f_X12_in a.toInt64 0 60 = some (if (0 : Int32) ≤ a ∧ a ≤ 60 then 1 else 0) ∧ f_X12_in a.toInt64 0 69 = some (if (0 : Int32) ≤ a ∧ a ≤ 69 then 1 else 0) ∧ f_X12_in a.toInt64 0 9 = some (if (0 : Int32) ≤ a ∧ a ≤ 9 then 1 else 0) ∧ f_X12_in a.toInt64 0 999 = some (if (0 : Int32) ≤ a ∧ a ≤ 999 then 1 else 0) ∧ f_X12_in a.toInt64 0 9999 = some (if (0 : Int32) ≤ a ∧ a ≤ 9999 then 1 else 0) ∧ f_X12_in a.toInt64 1 31 = some (if (1 : Int32) ≤ a ∧ a ≤ 31 then 1 else 0) ∧ f_X12_in a.toInt64 1 4 = some (if (1 : Int32) ≤ a ∧ a ≤ 4 then 1 else 0) ∧ f_X12_in a.toInt64 1 5 = some (if (1 : Int32) ≤ a ∧ a ≤ 5 then 1 else 0) ∧ f_X12_in a.toInt64 1 60 = some (if (1 : Int32) ≤ a ∧ a ≤ 60 then 1 else 0) ∧ f_X12_in a.toInt64 1 8 = some (if (1 : Int32) ≤ a ∧ a ≤ 8 then 1 else 0) ∧ f_X12_in a.toInt64 1 999 = some (if (1 : Int32) ≤ a ∧ a ≤ 999 then 1 else 0) ∧ f_X12_in a.toInt64 2 7 = some (if (2 : Int32) ≤ a ∧ a ≤ 7 then 1 else 0) ∧ f_X12_in a.toInt64 48 57 = some (if (48 : Int32) ≤ a ∧ a ≤ 57 then 1 else 0) :=
  ⟨e_in a (-1) 7, e_in a 0 1, e_in a 0 255, e_in a 0 3, e_in a 0 31, e_in a 0 4, e_in a 0 5, e_in a 0 6, e_in a 0 60, e_in a 0 69, e_in a 0 9, e_in a 0 999, e_in a 0 9999, e_in a 1 31, e_in a 1 4, e_in a 1 5, e_in a 1 60, e_in a 1 8, e_in a 1 999, e_in a 2 7, e_in a 48 57⟩
theorem e_in0 (a h : Int32) : f_X12_in a.toInt64 0 h.toInt64 = some (if (0 : Int32) ≤ a ∧ a ≤ h then 1 else 0) := e_in a 0 h
theorem bz_if (c : Prop) [Decidable c] : bz (if c then 1 else 0) = true := by split <;> rfl
theorem if10 (c : Prop) [Decidable c] : ((if c then (1 : Int32) else 0) = 0) = ¬ c := by
  by_cases h : c <;> simp [h]
/-- a number within 0 .. n - 1 -/
theorem isF_iff {a : Int32} {n : Nat} (hn : n < 1000000) : ((0 : Int32) ≤ a ∧ a ≤ nI n - 1) ↔ ∃ i, i < n ∧ a = nI i := by
  have h0 : (0 : Int32).toInt = 0 := rfl
  have h1 : (1 : Int32).toInt = 1 := rfl
  have h2 : (nI n - 1).toInt = (n : Int) - 1 := by
    rw [Int32.toInt_sub, nI_c (by omega), h1]
    exact Int.bmod_eq_of_le (by omega) (by omega)
  rw [i32_le, i32_le, h0, h2]
  constructor
  · rintro ⟨a1, a2⟩
    refine ⟨a.toInt.toNat, by omega, i32_eq ?_⟩
    rw [nI_c (by omega)]
    omega
  · rintro ⟨i, hi, rfl⟩
    rw [nI_c (by omega)]
    omega
theorem upto {a : Int32} {n : Nat} (hn : n < 1000000) (h : (0 : Int32) ≤ a ∧ a ≤ nI n) : ∃ i, i ≤ n ∧ a = nI i := by
  have h0 : (0 : Int32).toInt = 0 := rfl
  rw [i32_le, i32_le, h0, nI_c (by omega)] at h
  refine ⟨a.toInt.toNat, by omega, i32_eq ?_⟩
  rw [nI_c (by omega)]
  omega
theorem e_isFactX {μ : Mem} {n : Nat} (h : rd μ 2 5 = nI n) (a : Int32) : f_X11_isFact μ 0 a = some (if (0 : Int32) ≤ a ∧ a ≤ nI n - 1 then 1 else 0) := by
  unfold f_X11_isFact
  simp only [rfs, h, e_among, bd_s, bz_if, if_true]
theorem e_isFactM {μ : Mem} {n : Nat} (h : rd μ 106 0 = nI n) (a : Int32) : f_X12_isFact μ 105 a = some (if (0 : Int32) ≤ a ∧ a ≤ nI n - 1 then 1 else 0) := by
  unfold f_X12_isFact
  simp only [rfs, cls, h, e_in0, bd_s, bz_if, if_true]
theorem e_isDebX {μ : Mem} {n : Nat} (h : rd μ 14 3 = nI n) (a : Int32) : f_X11_isDebtor μ 0 a = some (if (0 : Int32) ≤ a ∧ a ≤ nI n - 1 then 1 else 0) := by
  unfold f_X11_isDebtor
  simp only [rfs, h, e_among, bd_s, bz_if, if_true]
theorem e_isDebM {μ : Mem} {n : Nat} (h : rd μ 106 1 = nI n) (a : Int32) : f_X12_isDebtor μ 105 a = some (if (0 : Int32) ≤ a ∧ a ≤ nI n - 1 then 1 else 0) := by
  unfold f_X12_isDebtor
  simp only [rfs, cls, h, e_in0, bd_s, bz_if, if_true]
