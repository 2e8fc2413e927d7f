/-! PURE: the class's search -/
theorem sub_int {a b : Nat} (ha : a < 1000000) (hb : b < 1000000) : (nI a - nI b).toInt = (a : Int) - b := by
  rw [Int32.toInt_sub, nI_c (by omega), nI_c (by omega)]
  exact Int.bmod_eq_of_le (by omega) (by omega)
theorem sub1_int {t : Nat} (ht : t < 1000000) : (nI t - 1).toInt = (t : Int) - 1 := sub_int (b := 1) ht (by omega)
theorem jmax_late {t w : Nat} (ht : t < 1000000) (hw : w < 1000000) : jmax 0 (nI t - nI w + 1) = nI (t + 1 - w) := by
  have e : (nI t - nI w + 1).toInt = (t : Int) - w + 1 := by
    rw [Int32.toInt_add, sub_int ht hw, show (1 : Int32).toInt = 1 from by decide]
    exact Int.bmod_eq_of_le (by omega) (by omega)
  unfold jmax
  by_cases z : (0 : Int32) < nI t - nI w + 1
  · rw [if_pos z]
    rw [i32_lt, e, show (0 : Int32).toInt = 0 from by decide] at z
    apply i32_eq
    rw [e, nI_c (by omega)]
    omega
  · rw [if_neg z]
    rw [i32_lt, e, show (0 : Int32).toInt = 0 from by decide] at z
    rw [show t + 1 - w = 0 by omega]
    rfl
theorem pm_neg {t : Nat} (ht : t < 1000000) : nI t - 1 < 0 ↔ t = 0 := by
  rw [i32_lt, sub1_int ht, show (0 : Int32).toInt = 0 from by decide]
  omega
theorem pm_le {t d : Nat} (ht : t < 1000000) (hd : d < 1000000) : nI t - 1 ≤ nI d ↔ t ≤ d + 1 := by
  rw [i32_le, sub1_int ht, nI_c (by omega)]
  omega
theorem pm_lt {t d : Nat} (ht : t < 1000000) (hd : d < 1000000) : nI t - 1 < nI d ↔ t ≤ d := by
  rw [i32_lt, sub1_int ht, nI_c (by omega)]
  omega
theorem pm_gt {t d : Nat} (ht : t < 1000000) (hd : d < 1000000) : nI d < nI t - 1 ↔ d + 1 < t := by
  rw [i32_lt, sub1_int ht, nI_c (by omega)]
  omega
/-- what stays while one searches -/
def SeX (n s kd m O w : Nat) (nd cl wi wt : Nat → Nat) (bi : Nat → Int32) (c : Bool) (μ : Mem) : Prop := FX μ 2 n nd cl wi wt bi ∧ rd μ 83 6 = b2 c ∧ rd μ 83 7 = nI kd ∧ rd μ 83 8 = nI m ∧ rd μ 83 9 = nI O ∧ rd μ 83 10 = nI w ∧ rd μ 83 11 = nI (n - s)
theorem SeX_cg {n s kd m O w : Nat} {nd cl wi wt : Nat → Nat} {bi : Nat → Int32} {c : Bool} {μ μ' : Mem} (h1 : ∀ k j, ¬ (83 ≤ k ∧ k ≤ 86) → rd μ' k j = rd μ k j) (h2 : ∀ j, j ≠ 1 → rd μ' 83 j = rd μ 83 j) (H : SeX n s kd m O w nd cl wi wt bi c μ) : SeX n s kd m O w nd cl wi wt bi c μ' := by
  obtain ⟨a, b1, b2, b3, b4, b5, b6⟩ := H
  exact ⟨FX_cg (fun k j x y => h1 k j (by omega)) a, by rw [h2 _ (by omega)]; exact b1, by rw [h2 _ (by omega)]; exact b2, by rw [h2 _ (by omega)]; exact b3, by rw [h2 _ (by omega)]; exact b4, by rw [h2 _ (by omega)]; exact b5, by rw [h2 _ (by omega)]; exact b6⟩
def SeC (n s kd m O w : Nat) (nd cl wi wt : Nat → Nat) (bi : Nat → Int32) (c : Bool) (μ : Mem) (ν : Nd) (β : Bt) : Prop := SeX n s kd m O w nd cl wi wt bi c μ ∧ rd μ 83 1 = nI β.1 - 1 ∧ (∀ i, i + 1 < β.1 → rd μ 84 i = nI (β.2 i)) ∧ (∀ i, i < ν.1 → rd μ 85 i = nI (ν.2.2.2 i)) ∧ (∀ f, ν.2.1.testBit f = true → rd μ 86 f = nI (ν.2.2.1 f)) ∧ β.1 ≤ 9
def nOK (n s w B0 : Nat) (τ0 : Nat → Nat) (ν : Nd) (r : Nat) : Prop := ν.1 + s + r = n ∧ cnt n ν.2.1 + r = n ∧ ν.2.1 < 256 ∧ ∀ f, ν.2.1.testBit f = true → f < n ∧ ν.2.2.1 f ≤ w + ν.1 ∧ (B0.testBit f = true → ν.2.2.1 f = τ0 f) ∧ (B0.testBit f = false → w ≤ ν.2.2.1 f)
def lx (n w : Nat) (opn : Nat → Nat → Bool) (ν : Nd) (f : Nat) : Nat := if f < n ∧ (ν.2.1.testBit f && opn ν.2.1 f) = true then ν.2.2.1 f + 1 - w else 0
def sup (B' B : Nat) : Prop := ∀ f, B.testBit f = true → B'.testBit f = true
def Good (n s w B0 : Nat) (τ0 : Nat → Nat) (may opn : Nat → Nat → Bool) (wi : Nat → Nat) (c : Bool) (β : Bt) (σ : Nat → Int64) (B : Nat) : Prop := σ B = -1 ∨ ∃ y : Nat → Nat, (∀ k, y k < 16) ∧ σ B = nL (la y 8) ∧ ∀ ν r, nOK n s w B0 τ0 ν r → ν.2.1 = B → (∀ f, f < 8 → lx n w opn ν f ≤ y f) → AbT n w may opn wi c r ν β
section
variable {n s kd m O w B0 : Nat} {nd cl wi wt τ0 : Nat → Nat} {bi : Nat → Int32} {c : Bool} {may opn : Nat → Nat → Bool}
theorem Good_V {β : Bt} {σ : Nat → Int64} {B : Nat} (P : Bt → Bt) (hP : ∀ r ν, AbT n w may opn wi c r ν β → AbT n w may opn wi c r ν (P β)) (h : Good n s w B0 τ0 may opn wi c β σ B) : Good n s w B0 τ0 may opn wi c (P β) σ B := by
  rcases h with h | ⟨y, h1, h2, h3⟩
  · exact Or.inl h
  · exact Or.inr ⟨y, h1, h2, fun ν r a b d => hP _ _ (h3 ν r a b d)⟩
theorem lx_16 {ν : Nd} {r : Nat} (n8 : n ≤ 8) (h : nOK n s w B0 τ0 ν r) : ∀ f, lx n w opn ν f < 16 := by
  intro f
  unfold lx
  split
  · rename_i q
    rw [Bool.and_eq_true] at q
    have := (h.2.2.2 f q.2.1).2.1
    have := h.1
    omega
  · omega
theorem Le_of {ν' ν : Nd} {r' r : Nat} (n8 : n ≤ 8) (h' : nOK n s w B0 τ0 ν' r') (h : nOK n s w B0 τ0 ν r) (hB : ν'.2.1 = ν.2.1) (hl : ∀ f, f < 8 → lx n w opn ν' f ≤ lx n w opn ν f) : LeN opn ν' ν ∧ r' = r := by
  have e1 := h'.2.1
  rw [hB] at e1
  have e2 := h.2.1
  have e3 := h'.1
  have e4 := h.1
  refine ⟨⟨by omega, hB, fun f hf ho => ?_⟩, by omega⟩
  obtain ⟨a1, a2, a3, a4⟩ := h.2.2.2 f hf
  obtain ⟨b1, b2, b3, b4⟩ := h'.2.2.2 f (by rw [hB]; exact hf)
  cases z : B0.testBit f
  · have := hl f (by omega)
    unfold lx at this
    rw [hB, if_pos ⟨a1, by rw [hf, ho]; rfl⟩, if_pos ⟨a1, by rw [hf, ho]; rfl⟩] at this
    have := a4 z
    have := b4 z
    omega
  · rw [a3 z, b3 z]
    exact Nat.le_refl _
theorem nOK_chd {ν : Nd} {r f : Nat} (n8 : n ≤ 8) (h : nOK n s w B0 τ0 ν r) (h0 : sup ν.2.1 B0) (hf : f < n) (hb : ν.2.1.testBit f = false) : 1 ≤ r ∧ nOK n s w B0 τ0 (chd w ν f) (r - 1) ∧ sup (chd w ν f).2.1 B0 := by
  obtain ⟨a1, a2, a3, a4⟩ := h
  have cu := cnt_up hf hb
  have cl' := cnt_le n (ν.2.1 ||| 2 ^ f)
  refine ⟨by omega, ⟨?_, ?_, ?_, fun g hg => ?_⟩, fun g hg => tb_pow.mpr (Or.inl (h0 g hg))⟩
  · show ν.1 + 1 + s + (r - 1) = n
    omega
  · show cnt n (ν.2.1 ||| 2 ^ f) + (r - 1) = n
    omega
  · exact or_256 a3 (pow_256 (by omega))
  · show g < n ∧ up ν.2.2.1 f (w + ν.1) g ≤ w + (ν.1 + 1) ∧ (B0.testBit g = true → up ν.2.2.1 f (w + ν.1) g = τ0 g) ∧ (B0.testBit g = false → w ≤ up ν.2.2.1 f (w + ν.1) g)
    by_cases e : g = f
    · subst e
      rw [up_s]
      refine ⟨hf, by omega, fun q => ?_, fun _ => by omega⟩
      rw [h0 g q] at hb
      cases hb
    · obtain ⟨b1, b2, b3, b4⟩ := a4 g ((tb_pow.mp hg).resolve_right e)
      rw [up_n e]
      exact ⟨b1, by omega, b3, b4⟩
theorem e_bet {μ : Mem} {ν : Nd} {β : Bt} {d B : Nat} (V : FW n nd cl wi wt bi) (H : SeC n s kd m O w nd cl wi wt bi c μ ν β) (hd : d ≤ 8) (hB : B < 256) : f_X5_isBetter μ 83 (nI d) (nI B) = some (b2 (bet n (op0 wi bi) c β d B)) := by
  obtain ⟨⟨F, c6, c7, c8, c9, c10, c11⟩, H1, H2, H3, H4, H5⟩ := H
  unfold f_X5_isBetter f_X5_isBetter_j22
  have n8 := V.1
  have J := e_openIn F V hB
  have e : bts (opE wi bi B) n = bts (fun f => B.testBit f && op0 wi bi B f) n := rfl
  have b256 := bts_lt (opE wi bi B) n n8
  simp only [rfs]
  rw [c6, H1, J, bd_s]
  have O' : (if ¬ nI (bts (opE wi bi B) n) = 0 then some (0 : Int32) else some 1) = some (b2 (opB n (op0 wi bi) B)) := by
    unfold opB
    by_cases z : bts (opE wi bi B) n = 0
    · rw [if_neg (not_not_intro (by rw [z]; rfl)), decide_eq_true (by rw [← e]; exact z)]
      rfl
    · rw [if_pos (nI_ne0 (by omega) (by omega)), decide_eq_false (by rw [← e]; exact z)]
      rfl
  rw [O']
  unfold bet
  cases c
  · rw [if_pos b2_f, if_neg (show ¬ (false = true) by decide)]
    by_cases z : d < β.1
    · rw [if_pos ((pred_le (by omega) (by omega)).mpr z), decide_eq_false (by omega)]
      rfl
    · rw [if_neg (fun q => z ((pred_le (by omega) (by omega)).mp q)), decide_eq_true (by omega)]
      rfl
  · rw [if_neg (by decide), if_pos rfl]
    by_cases z : β.1 = 0
    · rw [if_pos ((pm_neg (by omega)).mpr z), decide_eq_true z, Bool.true_or, Bool.true_and]
    · rw [if_neg (fun q => z ((pm_neg (by omega)).mp q)), decide_eq_false z, Bool.false_or]
      by_cases y : d + 1 < β.1
      · rw [if_neg (fun q => by have := (pm_le (t := β.1) (d := d) (by omega) (by omega)).mp q; omega), decide_eq_true y, Bool.true_and]
      · rw [if_pos ((pm_le (by omega) (by omega)).mpr (by omega)), decide_eq_false y, Bool.false_and]
        rfl
def agd (u : Nat) (c : Bool) (β : Bt) (d : Nat) : Bool := if c = true then decide (β.1 ≠ 0) && decide (β.1 ≤ d + 2) else decide (u < β.1)
theorem e_agd {μ : Mem} {ν : Nd} {β : Bt} {d : Nat} (n8 : n ≤ 8) (H : SeC n s kd m O w nd cl wi wt bi c μ ν β) (hd : d ≤ 8) : f_X5_isAsGoodAsCanBe μ 83 (nI d) = some (b2 (agd (n - s) c β d)) := by
  obtain ⟨⟨F, c6, c7, c8, c9, c10, c11⟩, H1, H2, H3, H4, H5⟩ := H
  unfold f_X5_isAsGoodAsCanBe agd
  rw [c6, H1, c11, nI_1]
  cases c
  · rw [if_pos b2_f, if_neg (show ¬ (false = true) by decide)]
    by_cases z : β.1 ≤ n - s
    · rw [if_pos ((pm_lt (by omega) (by omega)).mpr z), decide_eq_false (by omega)]
      rfl
    · rw [if_neg (fun q => z ((pm_lt (by omega) (by omega)).mp q)), decide_eq_true (by omega)]
      rfl
  · rw [if_neg (by decide), if_pos rfl]
    by_cases z : β.1 = 0
    · rw [if_pos ((pm_neg (by omega)).mpr z), decide_eq_false (not_not_intro z), Bool.false_and]
      rfl
    · rw [if_neg (fun q => z ((pm_neg (by omega)).mp q)), decide_eq_true z, Bool.true_and]
      by_cases y : β.1 ≤ d + 2
      · rw [if_neg (fun q => by have := (pm_gt (t := β.1) (d := d + 1) (by omega) (by omega)).mp q; omega), decide_eq_true y]
        rfl
      · rw [if_pos ((pm_gt (by omega) (by omega)).mpr (by omega)), decide_eq_false y]
        rfl
theorem e_late {μ : Mem} {ν : Nd} {β : Bt} {r : Nat} (V : FW n nd cl wi wt bi) (w9 : w ≤ 999) (H : SeC n s kd m O w nd cl wi wt bi c μ ν β) (h : nOK n s w B0 τ0 ν r) : f_X5_lateness μ 83 (nI ν.2.1) = some (nL (la (lx n w (op0 wi bi) ν) 8)) := by
  obtain ⟨⟨F, c6, c7, c8, c9, c10, c11⟩, H1, H2, H3, H4, H5⟩ := H
  have n8 := V.1
  have hB := h.2.2.1
  have x16 := lx_16 (opn := op0 wi bi) n8 h
  unfold f_X5_lateness
  simp only [rfs]
  rw [e_openIn F V hB, bd_s]
  obtain ⟨q, q1, q2⟩ : ∃ q, lp (fun p => f_X5_lateness_l14 μ 83 (nI ν.2.1) (nI (bts (opE wi bi ν.2.1) n)) p.1 p.2) FU ((0 : Int64), (0 : Int32)) = some q ∧ q = nL (la (lx n w (op0 wi bi) ν) 8) := by
    refine lp_I (fun j p => p.1 = nL (la (lx n w (op0 wi bi) ν) j) ∧ p.2 = nI j) 8 _ (by omega) ⟨rfl, rfl⟩ ?_ ?_
    · rintro j ⟨v, v'⟩ hj ⟨e1, e2⟩
      simp only at e1 e2
      subst e1 e2
      refine ⟨(nL (la (lx n w (op0 wi bi) ν) (j + 1)), nI (j + 1)), ?_, rfl, rfl⟩
      show f_X5_lateness_l14 μ 83 (nI ν.2.1) (nI (bts (opE wi bi ν.2.1) n)) _ (nI j) = _
      unfold f_X5_lateness_l14
      simp only [rfs]
      have tb := bts_tb (opE wi bi ν.2.1) j n
      rw [if_neg (show ¬ (8 : Int32) ≤ nI j from nI_ge (b := 8) hj (by omega)), shr_b (bts_lt _ n n8) hj, tb, ib_nI hj (by omega), if_pos rfl, tn_nI (by omega), nI_1, la]
      have xj : lx n w (op0 wi bi) ν j = if (decide (j < n) && opE wi bi ν.2.1 j) = true then ν.2.2.1 j + 1 - w else 0 := by
        unfold lx opE
        by_cases z : j < n ∧ (ν.2.1.testBit j && op0 wi bi ν.2.1 j) = true
        · rw [if_pos z, if_pos (by rw [decide_eq_true z.1, Bool.true_and]; exact z.2)]
        · rw [if_neg z, if_neg (fun q => z (by rw [Bool.and_eq_true, decide_eq_true_eq] at q; exact q))]
      by_cases z : (decide (j < n) && opE wi bi ν.2.1 j) = true
      · rw [if_pos z] at xj
        rw [if_neg (by rw [z]; decide), xj]
        rw [Bool.and_eq_true, decide_eq_true_eq] at z
        have bj : ν.2.1.testBit j = true := by
          have := z.2
          unfold opE at this
          rw [Bool.and_eq_true] at this
          exact this.1
        have tj := (h.2.2.2 j bj).2.1
        have := h.1
        rw [H4 j bj, c10, jmax_late (by omega) (by omega), nL_of (by omega), nL_shl hj, nL_or]
      · rw [if_neg z] at xj
        rw [if_pos (by rw [Bool.eq_false_iff.mpr z]; decide), xj, Nat.zero_shiftLeft, Nat.or_zero]
    · rintro ⟨v, v'⟩ ⟨e1, e2⟩
      simp only at e1 e2
      subst e1 e2
      refine ⟨_, ?_, rfl⟩
      show f_X5_lateness_l14 μ 83 (nI ν.2.1) (nI (bts (opE wi bi ν.2.1) n)) _ (nI 8) = _
      unfold f_X5_lateness_l14
      rw [if_pos (by decide)]
  rw [q1, bd_s, q2]
theorem cmp_z (x : Int64) : lg_cmp x (-1) = 0 ↔ x = -1 := by
  unfold lg_cmp
  by_cases h1 : x > -1
  · rw [if_pos h1]
    refine ⟨fun q => absurd q (by decide), fun q => ?_⟩
    rw [q] at h1
    exact absurd h1 (by decide)
  · rw [if_neg h1]
    by_cases h2 : x = -1
    · rw [if_pos h2]; exact ⟨fun _ => h2, fun _ => rfl⟩
    · rw [if_neg h2]; exact ⟨fun q => absurd q (by decide), fun q => absurd q h2⟩
/-- whether the book was gone on from -/
theorem e_seen {μ : Mem} {ν : Nd} {β : Bt} {r : Nat} (V : FW n nd cl wi wt bi) (w9 : w ≤ 999) (H : SeC n s kd m O w nd cl wi wt bi c μ ν β) (h : nOK n s w B0 τ0 ν r) (G : Good n s w B0 τ0 may (op0 wi bi) wi c β (rl μ 87) ν.2.1) : (f_X5_wasSeen μ 83 (nI ν.2.1) = some (1, μ) ∧ AbT n w may (op0 wi bi) wi c r ν β) ∨ f_X5_wasSeen μ 83 (nI ν.2.1) = some (0, wl μ 87 ν.2.1 (nL (la (lx n w (op0 wi bi) ν) 8))) := by
  have n8 := V.1
  have hB := h.2.2.1
  have x16 := lx_16 (opn := op0 wi bi) n8 h
  have J : f_X5_wasSeen_j47 μ 83 (nI ν.2.1) (nL (la (lx n w (op0 wi bi) ν) 8)) = some (0, wl μ 87 ν.2.1 (nL (la (lx n w (op0 wi bi) ν) 8))) := by
    unfold f_X5_wasSeen_j47
    rw [ib_nI hB (by omega), if_pos rfl, bd_s, tn_nI (by omega)]
    rfl
  unfold f_X5_wasSeen
  simp only [rfs]
  rw [if_neg (nI_pos (by omega)), if_pos (show nI ν.2.1 < 256 from nI_lt (b := 256) hB (by omega)), e_late V w9 H h, bd_s, ib_nI hB (by omega), if_pos rfl, if_pos rfl, tn_nI (by omega), J]
  rcases G with G | ⟨y, y1, y2, y3⟩
  · rw [if_pos ((cmp_z _).mpr G)]
    exact Or.inr rfl
  · have ne : ¬ rl μ 87 ν.2.1 = -1 := fun q => by
      rw [y2] at q
      have := congrArg Int64.toInt q
      rw [nL_int (by have := la_lt y1; omega), show (-1 : Int64).toInt = -1 from by decide] at this
      omega
    rw [if_neg (fun q => ne ((cmp_z _).mp q)), y2]
    obtain ⟨b, b1, b2⟩ := e_nol (lx n w (op0 wi bi) ν) y x16 y1
    rw [b1, bd_s]
    cases b
    · rw [if_pos b2_f]
      exact Or.inr rfl
    · rw [if_neg (by decide)]
      exact Or.inl ⟨rfl, y3 ν r h rfl (b2.mp rfl)⟩
end
