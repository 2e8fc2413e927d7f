/-! PURE: tools for debtors; become, lend, pardon, debtor -/
theorem rf_tw {t : Nat} (h : t = 14 ∨ t = 69) : rf t 0 = t + 1 ∧ rf t 1 = 2 ∧ rf t 2 = 8 := by
  rcases h with rfl | rfl <;> decide
theorem rf_d {t : Nat} (h : t = 14 ∨ t = 69) {p : Nat} (hp : p < 4) : rf (t + 1) p = t + 2 + 3 * p ∧ rf (t + 2 + 3 * p) 0 = t + 3 + 3 * p ∧ rf (t + 2 + 3 * p) 1 = t + 4 + 3 * p := by
  have : p = 0 ∨ p = 1 ∨ p = 2 ∨ p = 3 := by omega
  rcases h with rfl | rfl <;> rcases this with rfl | rfl | rfl | rfl <;> decide
theorem rf_15 {p : Nat} (hp : p < 4) : rf 15 p = 16 + 3 * p ∧ rf (16 + 3 * p) 0 = 17 + 3 * p ∧ rf (16 + 3 * p) 1 = 18 + 3 * p := rf_d (t := 14) (Or.inl rfl) hp
theorem e_of {μ : Mem} {p k : Nat} (hp : p < 4) (hk : k < 21) : f_X12_of μ 105 (nI p) (nI k) = some (rd μ 106 (50 + 21 * p + k)) := by
  unfold f_X12_of
  have e : ((50 : Int32) + (21 : Int32) * nI p) + nI k = nI (50 + 21 * p + k) := by
    rw [show (50 : Int32) = nI 50 from rfl, show (21 : Int32) = nI 21 from rfl, pk_mul, nI_add, nI_add]
  rw [e, ib_nI (by omega) (by omega), if_pos rfl, tn_nI (by omega)]
  simp only [rfs]
theorem e_sets {μ : Mem} {p k : Nat} (hp : p < 4) (hk : k < 21) (v : Int32) : f_X12_sets μ 105 (nI p) (nI k) v = some (wr μ 106 (50 + 21 * p + k) v) := by
  unfold f_X12_sets
  have e : ((50 : Int32) + (21 : Int32) * nI p) + nI k = nI (50 + 21 * p + k) := by
    rw [show (50 : Int32) = nI 50 from rfl, show (21 : Int32) = nI 21 from rfl, pk_mul, nI_add, nI_add]
  rw [e, ib_nI (by omega) (by omega), if_pos rfl, bd_s, tn_nI (by omega)]
  simp only [rfs]
theorem e_ofs {p : Nat} (hp : p < 4) (μ : Mem) : f_X12_of μ 105 (nI p) 0 = some (rd μ 106 (50 + 21 * p)) ∧ f_X12_of μ 105 (nI p) 1 = some (rd μ 106 (51 + 21 * p)) ∧ f_X12_of μ 105 (nI p) 2 = some (rd μ 106 (52 + 21 * p)) ∧ f_X12_of μ 105 (nI p) 3 = some (rd μ 106 (53 + 21 * p)) ∧ f_X12_of μ 105 (nI p) 4 = some (rd μ 106 (54 + 21 * p)) := by
  refine ⟨?_, ?_, ?_, ?_, ?_⟩
  · rw [show (0 : Int32) = nI 0 from rfl, e_of hp (by omega), Nat.add_zero]
  · rw [show (1 : Int32) = nI 1 from rfl, e_of hp (by omega), show 50 + 21 * p + 1 = 51 + 21 * p by omega]
  · rw [show (2 : Int32) = nI 2 from rfl, e_of hp (by omega), show 50 + 21 * p + 2 = 52 + 21 * p by omega]
  · rw [show (3 : Int32) = nI 3 from rfl, e_of hp (by omega), show 50 + 21 * p + 3 = 53 + 21 * p by omega]
  · rw [show (4 : Int32) = nI 4 from rfl, e_of hp (by omega), show 50 + 21 * p + 4 = 54 + 21 * p by omega]
theorem e_ofi {p i : Nat} (hp : p < 4) (hi : i < 8) (μ : Mem) : f_X12_of μ 105 (nI p) (5 + nI i) = some (rd μ 106 (55 + 21 * p + i)) ∧ f_X12_of μ 105 (nI p) (13 + nI i) = some (rd μ 106 (63 + 21 * p + i)) := by
  constructor
  · rw [show (5 : Int32) + nI i = nI (5 + i) from nI_add 5 i, e_of hp (by omega), show 50 + 21 * p + (5 + i) = 55 + 21 * p + i by omega]
  · rw [show (13 : Int32) + nI i = nI (13 + i) from nI_add 13 i, e_of hp (by omega), show 50 + 21 * p + (13 + i) = 63 + 21 * p + i by omega]
theorem e_setss {p : Nat} (hp : p < 4) (μ : Mem) (v : Int32) : f_X12_sets μ 105 (nI p) 0 v = some (wr μ 106 (50 + 21 * p) v) ∧ f_X12_sets μ 105 (nI p) 1 v = some (wr μ 106 (51 + 21 * p) v) ∧ f_X12_sets μ 105 (nI p) 2 v = some (wr μ 106 (52 + 21 * p) v) ∧ f_X12_sets μ 105 (nI p) 3 v = some (wr μ 106 (53 + 21 * p) v) ∧ f_X12_sets μ 105 (nI p) 4 v = some (wr μ 106 (54 + 21 * p) v) := by
  refine ⟨?_, ?_, ?_, ?_, ?_⟩
  · rw [show (0 : Int32) = nI 0 from rfl, e_sets hp (by omega), Nat.add_zero]
  · rw [show (1 : Int32) = nI 1 from rfl, e_sets hp (by omega), show 50 + 21 * p + 1 = 51 + 21 * p by omega]
  · rw [show (2 : Int32) = nI 2 from rfl, e_sets hp (by omega), show 50 + 21 * p + 2 = 52 + 21 * p by omega]
  · rw [show (3 : Int32) = nI 3 from rfl, e_sets hp (by omega), show 50 + 21 * p + 3 = 53 + 21 * p by omega]
  · rw [show (4 : Int32) = nI 4 from rfl, e_sets hp (by omega), show 50 + 21 * p + 4 = 54 + 21 * p by omega]
/-- all of facts and debtors, for what follows -/
def PFT (μx : Mem) (f t : Nat) (μm : Mem) (D W n : Nat) (nd cl wi wt : Nat → Nat) (bi : Nat → Int32) (N w : Nat) (kd m db br s : Nat → Nat) (bk wk : Nat → Nat → Nat) : Prop := FX μx f n nd cl wi wt bi ∧ FM μm D n nd cl wi wt bi ∧ FW n nd cl wi wt bi ∧ TX μx t n N w kd m db br s bk wk ∧ TM μm D n N w kd m db br s bk wk ∧ TW n N w W kd m db br s bk wk
/-- one debtor anew -/
theorem RFT_one {μx μm μx' μm' : Mem} {f t D W n N w : Nat} {nd cl wi wt : Nat → Nat} {bi : Nat → Int32} {kd m db br s : Nat → Nat} {bk wk : Nat → Nat → Nat} (H : PFT μx f t μm D W n nd cl wi wt bi N w kd m db br s bk wk) (hft : f + 5 < t) {p kd' m' db' br' s' : Nat} {bk' wk' : Nat → Nat} (hp : p < N) (hx : ∀ k j, f ≤ k ∧ k ≤ f + 5 ∨ t ≤ k ∧ k ≤ t + 13 → ¬ (t + 2 + 3 * p ≤ k ∧ k ≤ t + 4 + 3 * p) → rd μx' k j = rd μx k j) (hm : ∀ j, j = 0 ∨ j = 1 ∨ j = 3 ∨ 10 ≤ j ∧ j < 134 → ¬ (50 + 21 * p ≤ j ∧ j < 71 + 21 * p) → rd μm' D j = rd μm D j) (h1 : DX μx' (t + 2 + 3 * p) kd' m' db' br' s' bk' wk') (h2 : DM μm' D p kd' m' db' br' s' bk' wk') (h3 : DW n w kd' m' db' br' s' bk' wk') : PFT μx' f t μm' D W n nd cl wi wt bi N w (up kd p kd') (up m p m') (up db p db') (up br p br') (up s p s') (up bk p bk') (up wk p wk') := by
  obtain ⟨a1, a2, a3, a4, a5, a6⟩ := H
  have hN := a6.1
  refine ⟨FX_cg (fun k j a b => hx k j (by omega) (by omega)) a1, FM_cg a3.1 (fun j a => hm j (by omega) (by omega)) a2, a3, ⟨by rw [hx _ _ (by omega) (by omega)]; exact a4.1, by rw [hx _ _ (by omega) (by omega)]; exact a4.2.1, fun q hq => ?_⟩, ⟨by rw [hm _ (by omega) (by omega)]; exact a5.1, by rw [hm _ (by omega) (by omega)]; exact a5.2.1, fun q hq => ?_⟩, ⟨hN, a6.2.1, fun q hq => ?_⟩⟩
  · by_cases e : q = p
    · subst e
      simp only [up_s]
      exact h1
    · simp only [up_n e]
      exact DX_cg (fun k j b c => hx k j (by omega) (by omega)) (a4.2.2 q hq)
  · by_cases e : q = p
    · subst e
      simp only [up_s]
      exact h2
    · simp only [up_n e]
      exact DM_cg (a6.2.2 q hq).2.2.2.2.1 (fun j b c => hm j (by omega) (by omega)) (a5.2.2 q hq)
  · by_cases e : q = p
    · subst e
      simp only [up_s]
      exact h3
    · simp only [up_n e]
      exact a6.2.2 q hq
theorem PFT_R {μx : Mem} {f t : Nat} {μm : Mem} {D W n : Nat} {nd cl wi wt : Nat → Nat} {bi : Nat → Int32} {N w : Nat} {kd m db br s : Nat → Nat} {bk wk : Nat → Nat → Nat} (H : PFT μx f t μm D W n nd cl wi wt bi N w kd m db br s bk wk) : RFE μx f t μm D W := ⟨n, nd, cl, wi, wt, bi, N, w, kd, m, db, br, s, bk, wk, H⟩
theorem j_rem {x : Nat} (hx : x < 2 ^ 31) {y : Nat} (h0 : 0 < y) (hy : y < 2 ^ 31) : jrem (nI x) (nI y) = nI (x % y) := pk_rem hx h0 hy
theorem j_min {x y : Nat} (hx : x < 2 ^ 31) (hy : y < 2 ^ 31) : jmin (nI x) (nI y) = nI (min x y) := by
  unfold jmin
  by_cases e : y < x
  · rw [if_pos ((nI_ltI hy hx).mpr e), Nat.min_eq_right (by omega)]
  · rw [if_neg (fun q => e ((nI_ltI hy hx).mp q)), Nat.min_eq_left (by omega)]
theorem j_max {x y : Nat} (hx : x < 2 ^ 31) (hy : y < 2 ^ 31) : jmax (nI x) (nI y) = nI (max x y) := by
  unfold jmax
  by_cases e : x < y
  · rw [if_pos ((nI_ltI hx hy).mpr e), Nat.max_eq_right (by omega)]
  · rw [if_neg (fun q => e ((nI_ltI hx hy).mp q)), Nat.max_eq_left (by omega)]
