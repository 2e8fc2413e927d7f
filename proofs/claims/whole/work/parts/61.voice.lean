/-! PURE: voice -/
def tad (L : List Int32) (v : Int32) : List Int32 := if L.length < 40 then L ++ [v] else L
section
variable (kd : Nat) (N m : Int32)
def oP (f : Nat) (x : Int32) (L : List Int32) : Int32 × List Int32 := if f = 2 ∨ f = 5 then ((x + N) * 3, tad (tad L 30) 10) else (x + N, tad L 10)
def rP (f : Nat) (x : Int32) (L : List Int32) : Int32 × List Int32 := if f = 3 then (-(x - m), tad (tad L 40) 12) else if f = 6 then (-(x - m) ^^^ N, tad (tad (tad L 70) 40) 12) else (x - m, tad L 12)
def wB (x : Int32) (L : List Int32) : Int32 × List Int32 := ((oP N kd x (tad L 11)).1 * 2, (oP N kd x (tad L 11)).2)
def wP1 (x : Int32) (L : List Int32) : Int32 × List Int32 := ((wB kd N x (tad L 20)).1 - (rP N m kd 1 (wB kd N x (tad L 20)).2).1, (rP N m kd 1 (wB kd N x (tad L 20)).2).2)
def wP (f : Nat) (x : Int32) (L : List Int32) : Int32 × List Int32 := if f = 1 then wP1 kd N m x L else if f = 4 then wP1 kd N m (x + 1) (tad L 50) else wB kd N x L
def tB (x : Int32) (L : List Int32) : Int32 × List Int32 := ((wP kd N m kd x (tad L 13)).1 ^^^ (rP N m kd x (wP kd N m kd x (tad L 13)).2).1, (rP N m kd x (wP kd N m kd x (tad L 13)).2).2)
def tP (f : Nat) (x : Int32) (L : List Int32) : Int32 × List Int32 := if f = 5 then ((tB kd N m x (tad L 60)).1 - (oP N kd 2 (tB kd N m x (tad L 60)).2).1, (oP N kd 2 (tB kd N m x (tad L 60)).2).2) else if f = 6 then ((wP kd N m kd x (tad L 71)).1 - (tB kd N m x (wP kd N m kd x (tad L 71)).2).1, (tB kd N m x (wP kd N m kd x (tad L 71)).2).2) else tB kd N m x L
end
theorem tad_len {L : List Int32} (h : L.length ≤ 40) (v : Int32) : (tad L v).length ≤ 40 := by
  unfold tad
  split
  · rw [List.length_append]; simp; omega
  · exact h
/-- the trace in a row k, its length at c i -/
def TRc (μ : Mem) (c i k : Nat) (L : List Int32) : Prop := L.length ≤ 40 ∧ rd μ c i = nI L.length ∧ ∀ j v, L[j]? = some v → rd μ k j = v
def VX (μ : Mem) (kd : Nat) (N m : Int32) (L : List Int32) : Prop := rd μ 92 2 = nI kd ∧ rd μ 92 3 = N ∧ rd μ 92 4 = m ∧ TRc μ 92 1 93 L
def VK (μ μ2 : Mem) : Prop := ∀ k j, ¬ (k = 92 ∧ j = 1) → k ≠ 93 → rd μ2 k j = rd μ k j
def VM (μ : Mem) (p kd : Nat) (m : Int32) (L : List Int32) : Prop := rd μ 105 21 = nI p ∧ rd μ 106 (50 + 21 * p) = nI kd ∧ rd μ 106 (51 + 21 * p) = m ∧ TRc μ 105 20 115 L
def VL (μ μ2 : Mem) : Prop := ∀ k j, ¬ (k = 105 ∧ j = 20) → k ≠ 115 → rd μ2 k j = rd μ k j
theorem VK_tr {μ μ1 μ2 : Mem} (h1 : VK μ μ1) (h2 : VK μ1 μ2) : VK μ μ2 := fun k j a b => by rw [h2 k j a b, h1 k j a b]
theorem VL_tr {μ μ1 μ2 : Mem} (h1 : VL μ μ1) (h2 : VL μ1 μ2) : VL μ μ2 := fun k j a b => by rw [h2 k j a b, h1 k j a b]
theorem TR_add {μ : Mem} {c i k : Nat} {L : List Int32} (hck : c ≠ k) (h : TRc μ c i k L) (hl : L.length < 40) (v : Int32) : TRc (wr (wr μ k L.length v) c i (nI (L.length + 1))) c i k (tad L v) := by
  obtain ⟨h1, h2, h3⟩ := h
  have e : tad L v = L ++ [v] := by unfold tad; rw [if_pos hl]
  rw [e]
  refine ⟨by rw [List.length_append]; simp; omega, by rw [rd_wr_s, List.length_append]; rfl, fun j w hw => ?_⟩
  rw [rd_wr_n (by omega)]
  by_cases z : j < L.length
  · rw [List.getElem?_append_left z] at hw
    rw [rd_wr_n (by omega)]
    exact h3 j w hw
  · have := lt_of_get hw
    rw [List.length_append] at this
    simp only [List.length_cons, List.length_nil] at this
    have : j = L.length := by omega
    subst this
    rw [List.getElem?_append_right (Nat.le_refl _), Nat.sub_self] at hw
    have hw : some v = some w := hw
    cases hw
    exact rd_wr_s _ _ _ _
theorem e_vadd {μ : Mem} {kd : Nat} {N m : Int32} {L : List Int32} (h : VX μ kd N m L) (v : Int32) : ∃ μ2, f_X9_add μ 92 v = some μ2 ∧ VX μ2 kd N m (tad L v) ∧ VK μ μ2 := by
  obtain ⟨h1, h2, h3, h4⟩ := h
  unfold f_X9_add
  simp only [rfs]
  rw [h4.2.1]
  by_cases z : L.length < 40
  · rw [if_neg (show ¬ (40 : Int32) ≤ nI L.length from nI_ge (b := 40) z (by omega)), ib_nI z (by omega), if_pos rfl, bd_s, bd_s, tn_nI (by omega), rd_wr_n (by omega), h4.2.1, nI_1]
    exact ⟨_, rfl, ⟨by rw [rd_wr_n (by omega), rd_wr_n (by omega)]; exact h1, by rw [rd_wr_n (by omega), rd_wr_n (by omega)]; exact h2, by rw [rd_wr_n (by omega), rd_wr_n (by omega)]; exact h3, TR_add (by omega) h4 z v⟩, fun k j a b => by rw [rd_wr_n a, rd_wr_n (by omega)]⟩
  · rw [if_pos (show (40 : Int32) ≤ nI L.length from nI_le (a := 40) (by omega) (by have := h4.1; omega))]
    have e : tad L v = L := by unfold tad; rw [if_neg z]
    rw [e]
    exact ⟨μ, rfl, ⟨h1, h2, h3, h4⟩, fun _ _ _ _ => rfl⟩
theorem e_ran {μ : Mem} {p kd : Nat} {m : Int32} {L : List Int32} (h : VM μ p kd m L) (v : Int32) : ∃ μ2, f_X12_ran μ 105 v = some μ2 ∧ VM μ2 p kd m (tad L v) ∧ VL μ μ2 := by
  obtain ⟨h1, h2, h3, h4⟩ := h
  unfold f_X12_ran
  simp only [rfs]
  rw [h4.2.1]
  by_cases z : L.length < 40
  · rw [if_neg (show ¬ (40 : Int32) ≤ nI L.length from nI_ge (b := 40) z (by omega)), ib_nI z (by omega), if_pos rfl, bd_s, bd_s, tn_nI (by omega), rd_wr_n (by omega), h4.2.1, nI_1]
    exact ⟨_, rfl, ⟨by rw [rd_wr_n (by omega), rd_wr_n (by omega)]; exact h1, by rw [rd_wr_n (by omega), rd_wr_n (by omega)]; exact h2, by rw [rd_wr_n (by omega), rd_wr_n (by omega)]; exact h3, TR_add (by omega) h4 z v⟩, fun k j a b => by rw [rd_wr_n a, rd_wr_n (by omega)]⟩
  · rw [if_pos (show (40 : Int32) ≤ nI L.length from nI_le (a := 40) (by omega) (by have := h4.1; omega))]
    have e : tad L v = L := by unfold tad; rw [if_neg z]
    rw [e]
    exact ⟨μ, rfl, ⟨h1, h2, h3, h4⟩, fun _ _ _ _ => rfl⟩
/-- which kind has the body -/
def kwb (f a : Nat) : Nat := if a = 0 then (if f = 2 ∨ f = 5 then 2 else 0) else if a = 1 then (if f = 1 then 1 else if f = 4 then 4 else 0) else if a = 2 then (if f = 3 then 3 else if f = 6 then 6 else 0) else (if f = 5 then 5 else if f = 6 then 6 else 0)
theorem kwb_all : ∀ f, f < 7 → ∀ a, a < 4 → f_X9_kindWithBody (nI f) (nI a) = some (nI (kwb f a)) := by decide +kernel
theorem e_saysF {g : Mem → Nat → Int32 → Int32 → Int32 → Int32 → Option (Int32 × Mem)} {μ : Mem} {f a d : Nat} (hf : f < 7) (ha : a < 4) (hd : d ≤ 20) (x : Int32) : F_X9_says g μ 92 (nI f) (nI a) x (nI d) = (f_X9_add μ 92 (st 1 (kwb f a * 4 + a))).bind fun μ50 => if st 1 (kwb f a * 4 + a) = 10 then some (x + rd μ50 92 3, μ50) else if st 1 (kwb f a * 4 + a) = 11 then (g μ50 92 (rd μ50 92 2) 0 x (nI (d + 1))).bind fun p168 => some (p168.1 * 2, p168.2) else if st 1 (kwb f a * 4 + a) = 12 then some (x - rd μ50 92 4, μ50) else if st 1 (kwb f a * 4 + a) = 13 then (g μ50 92 (rd μ50 92 2) 1 x (nI (d + 1))).bind fun p190 => (g p190.2 92 (rd p190.2 92 2) 2 x (nI (d + 1))).bind fun p202 => some (p190.1 ^^^ p202.1, p202.2) else if st 1 (kwb f a * 4 + a) = 20 then (g μ50 92 (st 0 (kwb f a)) 1 x (nI (d + 1))).bind fun p214 => (g p214.2 92 (rd p214.2 92 2) 2 1 (nI (d + 1))).bind fun p226 => some (p214.1 - p226.1, p226.2) else if st 1 (kwb f a * 4 + a) = 30 then (g μ50 92 (st 0 (kwb f a)) 0 x (nI (d + 1))).bind fun p238 => some (p238.1 * 3, p238.2) else if st 1 (kwb f a * 4 + a) = 40 then (g μ50 92 (st 0 (kwb f a)) 2 x (nI (d + 1))).bind fun p251 => some (-p251.1, p251.2) else if st 1 (kwb f a * 4 + a) = 50 then (g μ50 92 (st 0 (kwb f a)) 1 (x + 1) (nI (d + 1))).bind fun p265 => some (p265.1, p265.2) else if st 1 (kwb f a * 4 + a) = 60 then (g μ50 92 (st 0 (kwb f a)) 3 x (nI (d + 1))).bind fun p276 => (g p276.2 92 (rd p276.2 92 2) 0 2 (nI (d + 1))).bind fun p288 => some (p276.1 - p288.1, p288.2) else if st 1 (kwb f a * 4 + a) = 70 then (g μ50 92 (st 0 (kwb f a)) 2 x (nI (d + 1))).bind fun p300 => some (p300.1 ^^^ rd p300.2 92 3, p300.2) else if st 1 (kwb f a * 4 + a) = 71 then (g μ50 92 (rd μ50 92 2) 1 x (nI (d + 1))).bind fun p318 => (g p318.2 92 (st 0 (kwb f a)) 3 x (nI (d + 1))).bind fun p328 => some (p318.1 - p328.1, p328.2) else some (0, μ50) := by
  have kl : kwb f a ≤ 6 := by
    unfold kwb
    repeat' split
    all_goals omega
  have ei : nI (kwb f a) * 4 + nI a = nI (kwb f a * 4 + a) := by rw [show (4 : Int32) = nI 4 from rfl, pk_mul, nI_add]
  unfold F_X9_says
  rw [kwb_all f hf a ha, bd_s, if_neg (nI_pos (by omega)), if_pos (show nI d ≤ (20 : Int32) from nI_le (b := 20) hd (by omega)), ei, ib_nI (show kwb f a * 4 + a < 28 by omega) (by omega), if_pos rfl, ib_nI (show kwb f a < 7 by omega) (by omega), if_pos rfl, tn_nI (by omega), tn_nI (by omega), nI_1]
theorem VX_kd {μ : Mem} {kd : Nat} {N m : Int32} {L : List Int32} (h : VX μ kd N m L) : rd μ 92 2 = nI kd := h.1
section
variable {kd : Nat} {N m : Int32}
/-- what a voice of the class comes to -/
def SX (kd : Nat) (N m : Int32) (μ : Mem) (r : Option (Int32 × Mem)) (q : Int32 × List Int32) : Prop := ∃ μ2, r = some (q.1, μ2) ∧ VX μ2 kd N m q.2 ∧ VK μ μ2
theorem sayO {K f d : Nat} {μ : Mem} {L : List Int32} (hf : f < 7) (hd : d ≤ 15) (x : Int32) (h : VX μ kd N m L) : SX kd N m μ (f_X9_says (K + 2) μ 92 (nI f) 0 x (nI d)) (oP N f x L) := by
  have base : ∀ (K f d : Nat) (μ : Mem) (L : List Int32), f < 7 → d ≤ 20 → kwb f 0 = 0 → VX μ kd N m L → SX kd N m μ (f_X9_says (K + 1) μ 92 (nI f) 0 x (nI d)) (x + N, tad L 10) := by
    intro K f d μ L hf hd hk h
    obtain ⟨μ1, a1, a2, a3⟩ := e_vadd h 10
    refine ⟨μ1, ?_, a2, a3⟩
    show F_X9_says _ μ 92 (nI f) (nI 0) x (nI d) = _
    rw [e_saysF hf (by omega) hd, hk, show st 1 (0 * 4 + 0) = 10 from rfl, a1, bd_s, if_pos rfl, a2.2.1]
  unfold oP
  by_cases z : f = 2 ∨ f = 5
  · rw [if_pos z]
    obtain ⟨μ1, a1, a2, a3⟩ := e_vadd h 30
    obtain ⟨μ2, b1, b2, b3⟩ := base K 0 (d + 1) μ1 _ (by omega) (by omega) rfl a2
    refine ⟨μ2, ?_, b2, VK_tr a3 b3⟩
    show F_X9_says _ μ 92 (nI f) (nI 0) x (nI d) = _
    have hk : kwb f 0 = 2 := by unfold kwb; rw [if_pos rfl, if_pos z]
    have b1 : grp_X9_says (K + 1) μ1 92 0 0 x (nI (d + 1)) = _ := b1
    rw [e_saysF hf (by omega) (by omega), hk, show st 1 (2 * 4 + 0) = 30 from rfl, show st 0 2 = 0 from rfl, a1, bd_s, if_neg (by decide), if_neg (by decide), if_neg (by decide), if_neg (by decide), if_neg (by decide), if_pos rfl, b1, bd_s]
  · rw [if_neg z]
    exact base (K + 1) f d μ L hf (by omega) (by unfold kwb; rw [if_pos rfl, if_neg z]) h
theorem sayR {K f d : Nat} {μ : Mem} {L : List Int32} (hf : f < 7) (hd : d ≤ 15) (x : Int32) (h : VX μ kd N m L) : SX kd N m μ (f_X9_says (K + 3) μ 92 (nI f) 2 x (nI d)) (rP N m f x L) := by
  have base : ∀ (K f d : Nat) (μ : Mem) (L : List Int32), f < 7 → d ≤ 20 → kwb f 2 = 0 → VX μ kd N m L → SX kd N m μ (f_X9_says (K + 1) μ 92 (nI f) 2 x (nI d)) (x - m, tad L 12) := by
    intro K f d μ L hf hd hk h
    obtain ⟨μ1, a1, a2, a3⟩ := e_vadd h 12
    refine ⟨μ1, ?_, a2, a3⟩
    show F_X9_says _ μ 92 (nI f) (nI 2) x (nI d) = _
    rw [e_saysF hf (by omega) hd, hk, show st 1 (0 * 4 + 2) = 12 from rfl, a1, bd_s, if_neg (by decide), if_neg (by decide), if_pos rfl, a2.2.2.1]
  have r3 : ∀ (K d : Nat) (μ : Mem) (L : List Int32), d ≤ 18 → VX μ kd N m L → SX kd N m μ (f_X9_says (K + 2) μ 92 (nI 3) 2 x (nI d)) (-(x - m), tad (tad L 40) 12) := by
    intro K d μ L hd h
    obtain ⟨μ1, a1, a2, a3⟩ := e_vadd h 40
    obtain ⟨μ2, b1, b2, b3⟩ := base K 0 (d + 1) μ1 _ (by omega) (by omega) rfl a2
    refine ⟨μ2, ?_, b2, VK_tr a3 b3⟩
    show F_X9_says _ μ 92 (nI 3) (nI 2) x (nI d) = _
    have b1 : grp_X9_says (K + 1) μ1 92 0 2 x (nI (d + 1)) = _ := b1
    rw [e_saysF (by omega) (by omega) (by omega), show kwb 3 2 = 3 from rfl, show st 1 (3 * 4 + 2) = 40 from rfl, show st 0 3 = 0 from rfl, a1, bd_s, if_neg (by decide), if_neg (by decide), if_neg (by decide), if_neg (by decide), if_neg (by decide), if_neg (by decide), if_pos rfl, b1, bd_s]
  unfold rP
  by_cases z3 : f = 3
  · subst z3
    rw [if_pos rfl]
    exact r3 (K + 1) d μ L (by omega) h
  · rw [if_neg z3]
    by_cases z6 : f = 6
    · subst z6
      rw [if_pos rfl]
      obtain ⟨μ1, a1, a2, a3⟩ := e_vadd h 70
      obtain ⟨μ2, b1, b2, b3⟩ := r3 K (d + 1) μ1 _ (by omega) a2
      refine ⟨μ2, ?_, b2, VK_tr a3 b3⟩
      show F_X9_says _ μ 92 (nI 6) (nI 2) x (nI d) = _
      have b1 : grp_X9_says (K + 2) μ1 92 3 2 x (nI (d + 1)) = _ := b1
      rw [e_saysF (by omega) (by omega) (by omega), show kwb 6 2 = 6 from rfl, show st 1 (6 * 4 + 2) = 70 from rfl, show st 0 6 = 3 from rfl, a1, bd_s, if_neg (by decide), if_neg (by decide), if_neg (by decide), if_neg (by decide), if_neg (by decide), if_neg (by decide), if_neg (by decide), if_neg (by decide), if_neg (by decide), if_pos rfl, b1, bd_s]
      simp only
      rw [b2.2.1]
    · rw [if_neg z6]
      exact base (K + 2) f d μ L hf (by omega) (by unfold kwb; rw [if_neg (by omega), if_neg (by omega), if_pos rfl, if_neg z3, if_neg z6]) h
theorem sayW {K f d : Nat} {μ : Mem} {L : List Int32} (hk6 : kd < 7) (hf : f < 7) (hd : d ≤ 12) (x : Int32) (h : VX μ kd N m L) : SX kd N m μ (f_X9_says (K + 6) μ 92 (nI f) 1 x (nI d)) (wP kd N m f x L) := by
  have base : ∀ (K f d : Nat) (x : Int32) (μ : Mem) (L : List Int32), f < 7 → d ≤ 14 → kwb f 1 = 0 → VX μ kd N m L → SX kd N m μ (f_X9_says (K + 3) μ 92 (nI f) 1 x (nI d)) (wB kd N x L) := by
    intro K f d x μ L hf hd hk h
    obtain ⟨μ1, a1, a2, a3⟩ := e_vadd h 11
    obtain ⟨μ2, b1, b2, b3⟩ := sayO (K := K) (f := kd) (d := d + 1) hk6 (by omega) x a2
    refine ⟨μ2, ?_, b2, VK_tr a3 b3⟩
    show F_X9_says _ μ 92 (nI f) (nI 1) x (nI d) = _
    have b1 : grp_X9_says (K + 2) μ1 92 (nI kd) 0 x (nI (d + 1)) = _ := b1
    rw [e_saysF hf (by omega) (by omega), hk, show st 1 (0 * 4 + 1) = 11 from rfl, a1, bd_s, if_neg (by decide), if_pos rfl, a2.1, b1, bd_s]
    rfl
  have w1 : ∀ (K d : Nat) (x : Int32) (μ : Mem) (L : List Int32), d ≤ 13 → VX μ kd N m L → SX kd N m μ (f_X9_says (K + 4) μ 92 (nI 1) 1 x (nI d)) (wP1 kd N m x L) := by
    intro K d x μ L hd h
    obtain ⟨μ1, a1, a2, a3⟩ := e_vadd h 20
    obtain ⟨μ2, b1, b2, b3⟩ := base K 0 (d + 1) x μ1 _ (by omega) (by omega) rfl a2
    obtain ⟨μ3, c1, c2, c3⟩ := sayR (K := K) (f := kd) (d := d + 1) hk6 (by omega) 1 b2
    refine ⟨μ3, ?_, c2, VK_tr (VK_tr a3 b3) c3⟩
    show F_X9_says _ μ 92 (nI 1) (nI 1) x (nI d) = _
    have b1 : grp_X9_says (K + 3) μ1 92 0 1 x (nI (d + 1)) = _ := b1
    have c1 : grp_X9_says (K + 3) μ2 92 (nI kd) 2 1 (nI (d + 1)) = _ := c1
    rw [e_saysF (by omega) (by omega) (by omega), show kwb 1 1 = 1 from rfl, show st 1 (1 * 4 + 1) = 20 from rfl, show st 0 1 = 0 from rfl, a1, bd_s, if_neg (by decide), if_neg (by decide), if_neg (by decide), if_neg (by decide), if_pos rfl, b1, bd_s]
    simp only
    rw [b2.1, c1, bd_s]
    rfl
  unfold wP
  by_cases z1 : f = 1
  · subst z1
    rw [if_pos rfl]
    exact w1 (K + 2) d x μ L (by omega) h
  · rw [if_neg z1]
    by_cases z4 : f = 4
    · subst z4
      rw [if_pos rfl]
      obtain ⟨μ1, a1, a2, a3⟩ := e_vadd h 50
      obtain ⟨μ2, b1, b2, b3⟩ := w1 (K + 1) (d + 1) (x + 1) μ1 _ (by omega) a2
      refine ⟨μ2, ?_, b2, VK_tr a3 b3⟩
      show F_X9_says _ μ 92 (nI 4) (nI 1) x (nI d) = _
      have b1 : grp_X9_says (K + 5) μ1 92 1 1 (x + 1) (nI (d + 1)) = _ := b1
      rw [e_saysF (by omega) (by omega) (by omega), show kwb 4 1 = 4 from rfl, show st 1 (4 * 4 + 1) = 50 from rfl, show st 0 4 = 1 from rfl, a1, bd_s, if_neg (by decide), if_neg (by decide), if_neg (by decide), if_neg (by decide), if_neg (by decide), if_neg (by decide), if_neg (by decide), if_pos rfl, b1, bd_s]
    · rw [if_neg z4]
      exact base (K + 3) f d x μ L hf (by omega) (by unfold kwb; rw [if_neg (by omega), if_pos rfl, if_neg z1, if_neg z4]) h
theorem sayT {K f d : Nat} {μ : Mem} {L : List Int32} (hk6 : kd < 7) (hf : f < 7) (hd : d ≤ 9) (x : Int32) (h : VX μ kd N m L) : SX kd N m μ (f_X9_says (K + 8) μ 92 (nI f) 3 x (nI d)) (tP kd N m f x L) := by
  have base : ∀ (K f d : Nat) (μ : Mem) (L : List Int32), f < 7 → d ≤ 11 → kwb f 3 = 0 → VX μ kd N m L → SX kd N m μ (f_X9_says (K + 7) μ 92 (nI f) 3 x (nI d)) (tB kd N m x L) := by
    intro K f d μ L hf hd hk h
    obtain ⟨μ1, a1, a2, a3⟩ := e_vadd h 13
    obtain ⟨μ2, b1, b2, b3⟩ := sayW (K := K) (f := kd) (d := d + 1) hk6 hk6 (by omega) x a2
    obtain ⟨μ3, c1, c2, c3⟩ := sayR (K := K + 3) (f := kd) (d := d + 1) hk6 (by omega) x b2
    refine ⟨μ3, ?_, c2, VK_tr (VK_tr a3 b3) c3⟩
    show F_X9_says _ μ 92 (nI f) (nI 3) x (nI d) = _
    have b1 : grp_X9_says (K + 6) μ1 92 (nI kd) 1 x (nI (d + 1)) = _ := b1
    have c1 : grp_X9_says (K + 6) μ2 92 (nI kd) 2 x (nI (d + 1)) = _ := c1
    rw [e_saysF hf (by omega) (by omega), hk, show st 1 (0 * 4 + 3) = 13 from rfl, a1, bd_s, if_neg (by decide), if_neg (by decide), if_neg (by decide), if_pos rfl, a2.1, b1, bd_s]
    simp only
    rw [b2.1, c1, bd_s]
    rfl
  unfold tP
  by_cases z5 : f = 5
  · subst z5
    rw [if_pos rfl]
    obtain ⟨μ1, a1, a2, a3⟩ := e_vadd h 60
    obtain ⟨μ2, b1, b2, b3⟩ := base K 2 (d + 1) μ1 _ (by omega) (by omega) rfl a2
    obtain ⟨μ3, c1, c2, c3⟩ := sayO (K := K + 5) (f := kd) (d := d + 1) hk6 (by omega) 2 b2
    refine ⟨μ3, ?_, c2, VK_tr (VK_tr a3 b3) c3⟩
    show F_X9_says _ μ 92 (nI 5) (nI 3) x (nI d) = _
    have b1 : grp_X9_says (K + 7) μ1 92 2 3 x (nI (d + 1)) = _ := b1
    have c1 : grp_X9_says (K + 7) μ2 92 (nI kd) 0 2 (nI (d + 1)) = _ := c1
    rw [e_saysF (by omega) (by omega) (by omega), show kwb 5 3 = 5 from rfl, show st 1 (5 * 4 + 3) = 60 from rfl, show st 0 5 = 2 from rfl, a1, bd_s, if_neg (by decide), if_neg (by decide), if_neg (by decide), if_neg (by decide), if_neg (by decide), if_neg (by decide), if_neg (by decide), if_neg (by decide), if_pos rfl, b1, bd_s]
    simp only
    rw [b2.1, c1, bd_s]
  · rw [if_neg z5]
    by_cases z6 : f = 6
    · subst z6
      rw [if_pos rfl]
      obtain ⟨μ1, a1, a2, a3⟩ := e_vadd h 71
      obtain ⟨μ2, b1, b2, b3⟩ := sayW (K := K + 1) (f := kd) (d := d + 1) hk6 hk6 (by omega) x a2
      obtain ⟨μ3, c1, c2, c3⟩ := base K 3 (d + 1) μ2 _ (by omega) (by omega) rfl b2
      refine ⟨μ3, ?_, c2, VK_tr (VK_tr a3 b3) c3⟩
      show F_X9_says _ μ 92 (nI 6) (nI 3) x (nI d) = _
      have b1 : grp_X9_says (K + 7) μ1 92 (nI kd) 1 x (nI (d + 1)) = _ := b1
      have c1 : grp_X9_says (K + 7) μ2 92 3 3 x (nI (d + 1)) = _ := c1
      rw [e_saysF (by omega) (by omega) (by omega), show kwb 6 3 = 6 from rfl, show st 1 (6 * 4 + 3) = 71 from rfl, show st 0 6 = 3 from rfl, a1, bd_s, if_neg (by decide), if_neg (by decide), if_neg (by decide), if_neg (by decide), if_neg (by decide), if_neg (by decide), if_neg (by decide), if_neg (by decide), if_neg (by decide), if_neg (by decide), if_pos rfl, a2.1, b1, bd_s]
      simp only
      rw [c1, bd_s]
    · rw [if_neg z6]
      exact base (K + 1) f d μ L hf (by omega) (by unfold kwb; rw [if_neg (by omega), if_neg (by omega), if_neg (by omega), if_neg z5, if_neg z6]) h
end
