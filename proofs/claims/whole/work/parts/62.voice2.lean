/-! PURE: the model's voices; voice -/
theorem abvM : f_X12_above 1 = some 0 ∧ f_X12_above 2 = some 0 ∧ f_X12_above 3 = some 0 ∧ f_X12_above 4 = some 1 ∧ f_X12_above 5 = some 2 ∧ f_X12_above 6 = some 3 := by decide
section
variable {p kd : Nat} {m : Int32}
def SM (p kd : Nat) (m : Int32) (μ : Mem) (r : Option (Int32 × Mem)) (q : Int32 × List Int32) : Prop := ∃ μ2, r = some (q.1, μ2) ∧ VM μ2 p kd m q.2 ∧ VL μ μ2
theorem e_own {μ : Mem} {L : List Int32} (p4 : p < 4) (h : VM μ p kd m L) : f_X12_own μ 105 = some (nI kd) := by
  unfold f_X12_own
  rw [h.1, (e_ofs p4 μ).1, bd_s, h.2.1]
theorem mO0 {K : Nat} {μ : Mem} {L : List Int32} (x : Int32) (h : VM μ p kd m L) : SM p kd m μ (f_X12_owesBy (K + 1) μ 105 0 x) (x + nI p, tad L 10) := by
  obtain ⟨μ1, a1, a2, a3⟩ := e_ran h 10
  refine ⟨μ1, ?_, a2, a3⟩
  show F_X12_owesBy (grp_X12_owesBy K) μ 105 0 x = _
  unfold F_X12_owesBy
  rw [if_pos rfl, a1, bd_s, a2.1]
theorem mO2 {K : Nat} {μ : Mem} {L : List Int32} (x : Int32) (h : VM μ p kd m L) : SM p kd m μ (f_X12_owesBy (K + 2) μ 105 2 x) ((x + nI p) * 3, tad (tad L 30) 10) := by
  obtain ⟨μ1, a1, a2, a3⟩ := e_ran h 30
  obtain ⟨μ2, b1, b2, b3⟩ := mO0 (K := K) x a2
  refine ⟨μ2, ?_, b2, VL_tr a3 b3⟩
  show F_X12_owesBy (grp_X12_owesBy (K + 1)) μ 105 2 x = _
  unfold F_X12_owesBy
  have b1 : grp_X12_owesBy (K + 1) μ1 105 0 x = _ := b1
  rw [if_neg (by decide), if_pos rfl, a1, bd_s, abvM.2.1, bd_s, b1, bd_s]
theorem mO {K f : Nat} {μ : Mem} {L : List Int32} (hf : f < 7) (x : Int32) (h : VM μ p kd m L) : SM p kd m μ (f_X12_owesBy (K + 3) μ 105 (nI f) x) (oP (nI p) f x L) := by
  have up0 : ∀ (K : Nat) (f : Int32), ¬ f = 0 → ¬ f = 2 → f_X12_above f = some 0 → SM p kd m μ (f_X12_owesBy (K + 2) μ 105 f x) (x + nI p, tad L 10) := by
    intro K f f0 f2 fa
    obtain ⟨μ2, b1, b2, b3⟩ := mO0 (K := K) x h
    refine ⟨μ2, ?_, b2, b3⟩
    show F_X12_owesBy (grp_X12_owesBy (K + 1)) μ 105 f x = _
    unfold F_X12_owesBy
    have b1 : grp_X12_owesBy (K + 1) μ 105 0 x = _ := b1
    rw [if_neg f0, if_neg f2, fa, bd_s, b1, bd_s]
  have step : ∀ (f g : Int32) (q : Int32 × List Int32), ¬ f = 0 → ¬ f = 2 → f_X12_above f = some g → SM p kd m μ (f_X12_owesBy (K + 2) μ 105 g x) q → SM p kd m μ (f_X12_owesBy (K + 3) μ 105 f x) q := by
    intro f g q f0 f2 fa hq
    obtain ⟨μ2, b1, b2, b3⟩ := hq
    refine ⟨μ2, ?_, b2, b3⟩
    show F_X12_owesBy (grp_X12_owesBy (K + 2)) μ 105 f x = _
    unfold F_X12_owesBy
    have b1 : grp_X12_owesBy (K + 2) μ 105 g x = _ := b1
    rw [if_neg f0, if_neg f2, fa, bd_s, b1, bd_s]
  have : f = 0 ∨ f = 1 ∨ f = 2 ∨ f = 3 ∨ f = 4 ∨ f = 5 ∨ f = 6 := by omega
  rcases this with rfl | rfl | rfl | rfl | rfl | rfl | rfl
  · exact mO0 (K := K + 2) x h
  · exact up0 (K + 1) 1 (by decide) (by decide) abvM.1
  · exact mO2 (K := K + 1) x h
  · exact up0 (K + 1) 3 (by decide) (by decide) abvM.2.2.1
  · exact step 4 1 _ (by decide) (by decide) abvM.2.2.2.1 (up0 K 1 (by decide) (by decide) abvM.1)
  · exact step 5 2 _ (by decide) (by decide) abvM.2.2.2.2.1 (mO2 (K := K) x h)
  · exact step 6 3 _ (by decide) (by decide) abvM.2.2.2.2.2 (up0 K 3 (by decide) (by decide) abvM.2.2.1)
theorem mR0 {K : Nat} {μ : Mem} {L : List Int32} (p4 : p < 4) (x : Int32) (h : VM μ p kd m L) : SM p kd m μ (f_X12_readsBy (K + 1) μ 105 0 x) (x - m, tad L 12) := by
  obtain ⟨μ1, a1, a2, a3⟩ := e_ran h 12
  refine ⟨μ1, ?_, a2, a3⟩
  show F_X12_readsBy (grp_X12_readsBy K) μ 105 0 x = _
  unfold F_X12_readsBy
  rw [if_pos rfl, a1, bd_s, a2.1, (e_ofs p4 μ1).2.1, bd_s, a2.2.2.1]
theorem mR3 {K : Nat} {μ : Mem} {L : List Int32} (p4 : p < 4) (x : Int32) (h : VM μ p kd m L) : SM p kd m μ (f_X12_readsBy (K + 2) μ 105 3 x) (-(x - m), tad (tad L 40) 12) := by
  obtain ⟨μ1, a1, a2, a3⟩ := e_ran h 40
  obtain ⟨μ2, b1, b2, b3⟩ := mR0 (K := K) p4 x a2
  refine ⟨μ2, ?_, b2, VL_tr a3 b3⟩
  show F_X12_readsBy (grp_X12_readsBy (K + 1)) μ 105 3 x = _
  unfold F_X12_readsBy
  have b1 : grp_X12_readsBy (K + 1) μ1 105 0 x = _ := b1
  rw [if_neg (by decide), if_pos rfl, a1, bd_s, abvM.2.2.1, bd_s, b1, bd_s]
theorem mR {K f : Nat} {μ : Mem} {L : List Int32} (p4 : p < 4) (hf : f < 7) (x : Int32) (h : VM μ p kd m L) : SM p kd m μ (f_X12_readsBy (K + 3) μ 105 (nI f) x) (rP (nI p) m f x L) := by
  have up0 : ∀ (K : Nat) (f : Int32), ¬ f = 0 → ¬ f = 3 → ¬ f = 6 → f_X12_above f = some 0 → SM p kd m μ (f_X12_readsBy (K + 2) μ 105 f x) (x - m, tad L 12) := by
    intro K f f0 f3 f6 fa
    obtain ⟨μ2, b1, b2, b3⟩ := mR0 (K := K) p4 x h
    refine ⟨μ2, ?_, b2, b3⟩
    show F_X12_readsBy (grp_X12_readsBy (K + 1)) μ 105 f x = _
    unfold F_X12_readsBy
    have b1 : grp_X12_readsBy (K + 1) μ 105 0 x = _ := b1
    rw [if_neg f0, if_neg f3, if_neg f6, fa, bd_s, b1, bd_s]
  have step : ∀ (f g : Int32) (q : Int32 × List Int32), ¬ f = 0 → ¬ f = 3 → ¬ f = 6 → f_X12_above f = some g → SM p kd m μ (f_X12_readsBy (K + 2) μ 105 g x) q → SM p kd m μ (f_X12_readsBy (K + 3) μ 105 f x) q := by
    intro f g q f0 f3 f6 fa hq
    obtain ⟨μ2, b1, b2, b3⟩ := hq
    refine ⟨μ2, ?_, b2, b3⟩
    show F_X12_readsBy (grp_X12_readsBy (K + 2)) μ 105 f x = _
    unfold F_X12_readsBy
    have b1 : grp_X12_readsBy (K + 2) μ 105 g x = _ := b1
    rw [if_neg f0, if_neg f3, if_neg f6, fa, bd_s, b1, bd_s]
  have : f = 0 ∨ f = 1 ∨ f = 2 ∨ f = 3 ∨ f = 4 ∨ f = 5 ∨ f = 6 := by omega
  rcases this with rfl | rfl | rfl | rfl | rfl | rfl | rfl
  · exact mR0 (K := K + 2) p4 x h
  · exact up0 (K + 1) 1 (by decide) (by decide) (by decide) abvM.1
  · exact up0 (K + 1) 2 (by decide) (by decide) (by decide) abvM.2.1
  · exact mR3 (K := K + 1) p4 x h
  · exact step 4 1 _ (by decide) (by decide) (by decide) abvM.2.2.2.1 (up0 K 1 (by decide) (by decide) (by decide) abvM.1)
  · exact step 5 2 _ (by decide) (by decide) (by decide) abvM.2.2.2.2.1 (up0 K 2 (by decide) (by decide) (by decide) abvM.2.1)
  · obtain ⟨μ1, a1, a2, a3⟩ := e_ran h 70
    obtain ⟨μ2, b1, b2, b3⟩ := mR3 (K := K) p4 x a2
    refine ⟨μ2, ?_, b2, VL_tr a3 b3⟩
    show F_X12_readsBy (grp_X12_readsBy (K + 2)) μ 105 6 x = _
    unfold F_X12_readsBy
    have b1 : grp_X12_readsBy (K + 2) μ1 105 3 x = _ := b1
    rw [if_neg (by decide), if_neg (by decide), if_pos rfl, a1, bd_s, abvM.2.2.2.2.2, bd_s, b1, bd_s, b2.1]
    rfl
theorem mW0 {K : Nat} {μ : Mem} {L : List Int32} (p4 : p < 4) (hk : kd < 7) (x : Int32) (h : VM μ p kd m L) : SM p kd m μ (f_X12_writesBy (K + 1) μ 105 0 x) (wB kd (nI p) x L) := by
  obtain ⟨μ1, a1, a2, a3⟩ := e_ran h 11
  obtain ⟨μ2, b1, b2, b3⟩ := mO (K := 97) hk x a2
  refine ⟨μ2, ?_, b2, VL_tr a3 b3⟩
  show F_X12_writesBy (grp_X12_writesBy K) μ 105 0 x = _
  unfold F_X12_writesBy
  have b1 : f_X12_owesBy 100 μ1 105 (nI kd) x = _ := b1
  rw [if_pos rfl, a1, bd_s, e_own p4 a2, bd_s, b1, bd_s]
  rfl
theorem mW1 {K : Nat} {μ : Mem} {L : List Int32} (p4 : p < 4) (hk : kd < 7) (x : Int32) (h : VM μ p kd m L) : SM p kd m μ (f_X12_writesBy (K + 2) μ 105 1 x) (wP1 kd (nI p) m x L) := by
  obtain ⟨μ1, a1, a2, a3⟩ := e_ran h 20
  obtain ⟨μ2, b1, b2, b3⟩ := mW0 (K := K) p4 hk x a2
  obtain ⟨μ3, c1, c2, c3⟩ := mR (K := 97) p4 hk 1 b2
  refine ⟨μ3, ?_, c2, VL_tr (VL_tr a3 b3) c3⟩
  show F_X12_writesBy (grp_X12_writesBy (K + 1)) μ 105 1 x = _
  unfold F_X12_writesBy
  have b1 : grp_X12_writesBy (K + 1) μ1 105 0 x = _ := b1
  have c1 : f_X12_readsBy 100 μ2 105 (nI kd) 1 = _ := c1
  rw [if_neg (by decide), if_pos rfl, a1, bd_s, abvM.1, bd_s, b1, bd_s]
  simp only
  rw [e_own p4 b2, bd_s, c1, bd_s]
  rfl
theorem mW {K f : Nat} {μ : Mem} {L : List Int32} (p4 : p < 4) (hk : kd < 7) (hf : f < 7) (x : Int32) (h : VM μ p kd m L) : SM p kd m μ (f_X12_writesBy (K + 3) μ 105 (nI f) x) (wP kd (nI p) m f x L) := by
  have step : ∀ (K : Nat) (f g : Int32) (q : Int32 × List Int32), (f = 2 ∨ f = 3 ∨ f = 5 ∨ f = 6) → f_X12_above f = some g → SM p kd m μ (f_X12_writesBy (K + 1) μ 105 g x) q → SM p kd m μ (f_X12_writesBy (K + 2) μ 105 f x) q := by
    intro K f g q hfs fa hq
    obtain ⟨μ2, b1, b2, b3⟩ := hq
    refine ⟨μ2, ?_, b2, b3⟩
    show F_X12_writesBy (grp_X12_writesBy (K + 1)) μ 105 f x = _
    unfold F_X12_writesBy
    have b1 : grp_X12_writesBy (K + 1) μ 105 g x = _ := b1
    rcases hfs with rfl | rfl | rfl | rfl
    · rw [if_neg (by decide), if_neg (by decide), if_pos rfl, fa, bd_s, b1, bd_s]
    · rw [if_neg (by decide), if_neg (by decide), if_neg (by decide), if_pos rfl, fa, bd_s, b1, bd_s]
    · rw [if_neg (by decide), if_neg (by decide), if_neg (by decide), if_neg (by decide), if_neg (by decide), fa, bd_s, b1, bd_s]
    · rw [if_neg (by decide), if_neg (by decide), if_neg (by decide), if_neg (by decide), if_neg (by decide), fa, bd_s, b1, bd_s]
  have : f = 0 ∨ f = 1 ∨ f = 2 ∨ f = 3 ∨ f = 4 ∨ f = 5 ∨ f = 6 := by omega
  rcases this with rfl | rfl | rfl | rfl | rfl | rfl | rfl
  · exact mW0 (K := K + 2) p4 hk x h
  · exact mW1 (K := K + 1) p4 hk x h
  · exact step (K + 1) 2 0 _ (by decide) abvM.2.1 (mW0 (K := K + 1) p4 hk x h)
  · exact step (K + 1) 3 0 _ (by decide) abvM.2.2.1 (mW0 (K := K + 1) p4 hk x h)
  · obtain ⟨μ1, a1, a2, a3⟩ := e_ran h 50
    obtain ⟨μ2, b1, b2, b3⟩ := mW1 (K := K) p4 hk (x + 1) a2
    refine ⟨μ2, ?_, b2, VL_tr a3 b3⟩
    show F_X12_writesBy (grp_X12_writesBy (K + 2)) μ 105 4 x = _
    unfold F_X12_writesBy
    have b1 : grp_X12_writesBy (K + 2) μ1 105 1 (x + 1) = _ := b1
    rw [if_neg (by decide), if_neg (by decide), if_neg (by decide), if_neg (by decide), if_pos rfl, a1, bd_s, abvM.2.2.2.1, bd_s, b1, bd_s]
    rfl
  · exact step (K + 1) 5 2 _ (by decide) abvM.2.2.2.2.1 (step K 2 0 _ (by decide) abvM.2.1 (mW0 (K := K) p4 hk x h))
  · exact step (K + 1) 6 3 _ (by decide) abvM.2.2.2.2.2 (step K 3 0 _ (by decide) abvM.2.2.1 (mW0 (K := K) p4 hk x h))
theorem mT0 {K : Nat} {μ : Mem} {L : List Int32} (p4 : p < 4) (hk : kd < 7) (x : Int32) (h : VM μ p kd m L) : SM p kd m μ (f_X12_tellsBy (K + 1) μ 105 0 x) (tB kd (nI p) m x L) := by
  obtain ⟨μ1, a1, a2, a3⟩ := e_ran h 13
  obtain ⟨μ2, b1, b2, b3⟩ := mW (K := 97) p4 hk hk x a2
  obtain ⟨μ3, c1, c2, c3⟩ := mR (K := 97) p4 hk x b2
  refine ⟨μ3, ?_, c2, VL_tr (VL_tr a3 b3) c3⟩
  show F_X12_tellsBy (grp_X12_tellsBy K) μ 105 0 x = _
  unfold F_X12_tellsBy
  have b1 : f_X12_writesBy 100 μ1 105 (nI kd) x = _ := b1
  have c1 : f_X12_readsBy 100 μ2 105 (nI kd) x = _ := c1
  rw [if_pos rfl, a1, bd_s, e_own p4 a2, bd_s, b1, bd_s]
  simp only
  rw [e_own p4 b2, bd_s, c1, bd_s]
  rfl
theorem mT {K f : Nat} {μ : Mem} {L : List Int32} (p4 : p < 4) (hk : kd < 7) (hf : f < 7) (x : Int32) (h : VM μ p kd m L) : SM p kd m μ (f_X12_tellsBy (K + 3) μ 105 (nI f) x) (tP kd (nI p) m f x L) := by
  have step : ∀ (K : Nat) (μ : Mem) (L : List Int32) (f g : Int32) (q : Int32 × List Int32), ¬ f = 0 → ¬ f = 5 → ¬ f = 6 → f_X12_above f = some g → SM p kd m μ (f_X12_tellsBy (K + 1) μ 105 g x) q → SM p kd m μ (f_X12_tellsBy (K + 2) μ 105 f x) q := by
    intro K μ L f g q f0 f5 f6 fa hq
    obtain ⟨μ2, b1, b2, b3⟩ := hq
    refine ⟨μ2, ?_, b2, b3⟩
    show F_X12_tellsBy (grp_X12_tellsBy (K + 1)) μ 105 f x = _
    unfold F_X12_tellsBy
    have b1 : grp_X12_tellsBy (K + 1) μ 105 g x = _ := b1
    rw [if_neg f0, if_neg f5, if_neg f6, fa, bd_s, b1, bd_s]
  have : f = 0 ∨ f = 1 ∨ f = 2 ∨ f = 3 ∨ f = 4 ∨ f = 5 ∨ f = 6 := by omega
  rcases this with rfl | rfl | rfl | rfl | rfl | rfl | rfl
  · exact mT0 (K := K + 2) p4 hk x h
  · exact step (K + 1) μ L 1 0 _ (by decide) (by decide) (by decide) abvM.1 (mT0 (K := K + 1) p4 hk x h)
  · exact step (K + 1) μ L 2 0 _ (by decide) (by decide) (by decide) abvM.2.1 (mT0 (K := K + 1) p4 hk x h)
  · exact step (K + 1) μ L 3 0 _ (by decide) (by decide) (by decide) abvM.2.2.1 (mT0 (K := K + 1) p4 hk x h)
  · exact step (K + 1) μ L 4 1 _ (by decide) (by decide) (by decide) abvM.2.2.2.1 (step K μ L 1 0 _ (by decide) (by decide) (by decide) abvM.1 (mT0 (K := K) p4 hk x h))
  · obtain ⟨μ1, a1, a2, a3⟩ := e_ran h 60
    obtain ⟨μ2, b1, b2, b3⟩ := step K μ1 L 2 0 _ (by decide) (by decide) (by decide) abvM.2.1 (mT0 (K := K) p4 hk x a2)
    obtain ⟨μ3, c1, c2, c3⟩ := mO (K := 97) hk 2 b2
    refine ⟨μ3, ?_, c2, VL_tr (VL_tr a3 b3) c3⟩
    show F_X12_tellsBy (grp_X12_tellsBy (K + 2)) μ 105 5 x = _
    unfold F_X12_tellsBy
    have b1 : grp_X12_tellsBy (K + 2) μ1 105 2 x = _ := b1
    have c1 : f_X12_owesBy 100 μ2 105 (nI kd) 2 = _ := c1
    rw [if_neg (by decide), if_pos rfl, a1, bd_s, abvM.2.2.2.2.1, bd_s, b1, bd_s]
    simp only
    rw [e_own p4 b2, bd_s, c1, bd_s]
    rfl
  · obtain ⟨μ1, a1, a2, a3⟩ := e_ran h 71
    obtain ⟨μ2, b1, b2, b3⟩ := mW (K := 97) p4 hk hk x a2
    obtain ⟨μ3, c1, c2, c3⟩ := step K μ2 L 3 0 _ (by decide) (by decide) (by decide) abvM.2.2.1 (mT0 (K := K) p4 hk x b2)
    refine ⟨μ3, ?_, c2, VL_tr (VL_tr a3 b3) c3⟩
    show F_X12_tellsBy (grp_X12_tellsBy (K + 2)) μ 105 6 x = _
    unfold F_X12_tellsBy
    have b1 : f_X12_writesBy 100 μ1 105 (nI kd) x = _ := b1
    have c1 : grp_X12_tellsBy (K + 2) μ2 105 3 x = _ := c1
    rw [if_neg (by decide), if_neg (by decide), if_pos rfl, a1, bd_s, e_own p4 a2, bd_s, b1, bd_s]
    simp only
    rw [abvM.2.2.2.2.2, bd_s, c1, bd_s]
    rfl
end
/-- the voice of an act -/
def voP (kd : Nat) (N m : Int32) (a : Nat) (x : Int32) : Int32 × List Int32 := if a = 0 then oP N kd x [] else if a = 1 then wP kd N m kd x [] else if a = 2 then rP N m kd x [] else tP kd N m kd x []
theorem sh_voice : SH_voice Rel := by
  intro μ h a x y
  show OKS (f_X11_voice μ 0 a x y) (fun m => f_X12_voice m 105 a x y)
  obtain ⟨n, nd, cl, wi, wt, bi, N, w, T, gv, ⟨F, F1, V⟩, H, M, W, w9, L1, L2⟩ := rel_T h
  have N4 := W.1
  have c1 : rd μ 14 3 = nI N := H.1
  have c2 : rd μ 106 1 = nI N := M.1
  by_cases g : ((0 : Int32) ≤ a ∧ a ≤ nI N - 1) ∧ ((0 : Int32) ≤ x ∧ x ≤ 3)
  · obtain ⟨g1, g2⟩ := g
    obtain ⟨p, hp, rfl⟩ := (isF_iff (by omega)).mp g1
    obtain ⟨z, hz, rfl⟩ := upto (n := 3) (by omega) g2
    have p4 : p < 4 := by omega
    obtain ⟨p1, p2, p3, p4', p5, p6, p7⟩ := H.2.2 p hp
    obtain ⟨q1, q2, q3, q4, q5, q6⟩ := M.2.2 p hp
    obtain ⟨d1, d2, d3, d4, d5, d6, d7⟩ := W.2.2 p hp
    have k7 : dk (T p) < 7 := by omega
    have p3 : rd μ (16 + 3 * p) 4 = nI (dk (T p)) := p3
    have p4'' : rd μ (16 + 3 * p) 5 = nI (dm (T p)) := p4'
    -- the class
    generalize hμ0 : wr (wr (wr (wr μ 92 2 (nI (dk (T p)))) 92 3 (nI p)) 92 4 (nI (dm (T p)))) 92 1 0 = μ0'
    have V0 : VX μ0' (dk (T p)) (nI p) (nI (dm (T p))) [] := by
      refine ⟨?_, ?_, ?_, by simp, ?_, fun j v hv => by simp at hv⟩ <;> rw [← hμ0] <;> simp (discharger := omega) only [rd_wr_n, rd_wr_s] <;> rfl
    have SXa : SX (dk (T p)) (nI p) (nI (dm (T p))) μ0' (f_X9_says 100 μ0' 92 (nI (dk (T p))) (nI z) y (nI 0)) (voP (dk (T p)) (nI p) (nI (dm (T p))) z y) := by
      unfold voP
      have : z = 0 ∨ z = 1 ∨ z = 2 ∨ z = 3 := by omega
      rcases this with rfl | rfl | rfl | rfl
      · exact sayO (K := 98) k7 (by omega) y V0
      · exact sayW (K := 94) k7 k7 (by omega) y V0
      · exact sayR (K := 97) k7 (by omega) y V0
      · exact sayT (K := 92) k7 k7 (by omega) y V0
    obtain ⟨μ1, a1, a2, a3⟩ := SXa
    have K : ∀ k j, k ≠ 92 → k ≠ 93 → rd μ1 k j = rd μ k j := by
      intro k j b c
      rw [a3 k j (fun e => b e.1) c, ← hμ0]
      simp (discharger := omega) only [rd_wr_n]
    have hR : RX μ μ1 := fun k j hk => K k j (by omega) (by omega)
    have X : f_X11_voice μ 0 (nI p) (nI z) y = some ((voP (dk (T p)) (nI p) (nI (dm (T p))) z y).1, μ1) := by
      unfold f_X11_voice f_X9_begin
      rw [e_isDebX c1, bd_s, if_pos g1, if_neg (by decide), e_among, bd_s, if_pos g2, if_pos (by decide), ib_nI p4 (by omega), if_pos rfl]
      simp only [rfs, tn_nI (show p < 2 ^ 31 by omega), rf_15 p4]
      have a1 : f_X9_says 100 μ0' 92 (nI (dk (T p))) (nI z) y 0 = _ := a1
      rw [p3, p4'', bd_s, bd_s, bd_s, bd_s, hμ0, a1, bd_s, bd_s]
    -- the model
    generalize hm0 : wr (wr μ1 105 20 0) 105 21 (nI p) = m0
    have U0 : VM m0 p (dk (T p)) (nI (dm (T p))) [] := by
      refine ⟨by rw [← hm0, rd_wr_s], ?_, ?_, by simp, by rw [← hm0, rd_wr_n (by omega), rd_wr_s]; rfl, fun j v hv => by simp at hv⟩
      · rw [← hm0, rd_wr_n (by omega), rd_wr_n (by omega), hR _ _ (by omega)]; exact q1
      · rw [← hm0, rd_wr_n (by omega), rd_wr_n (by omega), hR _ _ (by omega)]; exact q2
    have Mo : ∃ μ2, f_X12_voice μ1 105 (nI p) (nI z) y = some ((voP (dk (T p)) (nI p) (nI (dm (T p))) z y).1, μ2) ∧ VM μ2 p (dk (T p)) (nI (dm (T p))) (voP (dk (T p)) (nI p) (nI (dm (T p))) z y).2 ∧ VL m0 μ2 := by
      have hs : f_X12_voice μ1 105 (nI p) (nI z) y = if ¬ nI z = 0 then if ¬ nI z = 1 then if ¬ nI z = 2 then f_X12_tellsBy 100 m0 105 (nI (dk (T p))) y else f_X12_readsBy 100 m0 105 (nI (dk (T p))) y else f_X12_writesBy 100 m0 105 (nI (dk (T p))) y else f_X12_owesBy 100 m0 105 (nI (dk (T p))) y := by
        unfold f_X12_voice
        rw [e_isDebM ((hR 106 1 (by omega)).trans c2), bd_s, if_pos g1, if_neg (by decide), show f_X12_in (nI z).toInt64 0 3 = _ from e_in (nI z) 0 3, bd_s, if_pos g2, if_pos (by decide), bd_s, bd_s, hm0, e_own p4 U0, bd_s]
        simp only [bd_p]
      rw [hs]
      unfold voP
      have : z = 0 ∨ z = 1 ∨ z = 2 ∨ z = 3 := by omega
      rcases this with rfl | rfl | rfl | rfl
      · rw [if_neg (by decide)]
        exact mO (K := 97) k7 y U0
      · rw [if_pos (by decide), if_neg (by decide)]
        exact mW (K := 97) p4 k7 k7 y U0
      · rw [if_pos (by decide), if_pos (by decide), if_neg (by decide)]
        exact mR (K := 97) p4 k7 y U0
      · rw [if_pos (by decide), if_pos (by decide), if_pos (by decide)]
        exact mT (K := 97) p4 k7 k7 y U0
    obtain ⟨μ2, b1, b2, b3⟩ := Mo
    refine oks_go X b1 ?_
    have K2 : ∀ k j, ¬ (k = 105 ∧ (j = 20 ∨ j = 21)) → k ≠ 115 → rd μ2 k j = rd μ1 k j := by
      intro k j c d
      rw [b3 k j (by omega) d, ← hm0, rd_wr_n (by omega), rd_wr_n (by omega)]
    refine R2_Tr h (fun k j c d => by rw [K2 k j (by omega) (by omega), K k j (by omega) (by omega)]) ?_
    obtain ⟨t1, t2, t3⟩ := a2.2.2.2
    obtain ⟨s1, s2, s3⟩ := b2.2.2.2
    refine ⟨_, t1, by rw [K2 92 1 (by omega) (by omega)]; exact t2, s2, fun i hi => ?_⟩
    obtain ⟨v, hv⟩ : ∃ v, (voP (dk (T p)) (nI p) (nI (dm (T p))) z y).2[i]? = some v := ⟨_, List.getElem?_eq_getElem hi⟩
    rw [K2 93 i (by omega) (by omega), t3 i v hv, s3 i v hv]
  · refine oks_ref (k := 1) h (by omega) ?_ ?_
    · unfold f_X11_voice f_X11_voice_j17
      rw [e_isDebX c1, bd_s, bd_p]
      by_cases g1 : (0 : Int32) ≤ a ∧ a ≤ nI N - 1
      · rw [if_pos g1, if_neg (by decide), e_among, bd_s, if_neg (fun q => g ⟨g1, q⟩), if_neg (by decide)]
        rfl
      · rw [if_neg g1, if_pos rfl]
        rfl
    · intro μ1 hR
      show f_X12_voice μ1 105 _ _ _ = _
      unfold f_X12_voice f_X12_voice_j20
      rw [e_isDebM ((hR 106 1 (by omega)).trans c2), bd_s, bd_p]
      by_cases g1 : (0 : Int32) ≤ a ∧ a ≤ nI N - 1
      · rw [if_pos g1, if_neg (by decide), show f_X12_in x.toInt64 0 3 = _ from e_in x 0 3, bd_s, if_neg (fun q => g ⟨g1, q⟩), if_neg (by decide)]
        rfl
      · rw [if_neg g1, if_pos rfl]
        rfl
