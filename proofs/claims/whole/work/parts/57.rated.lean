/-! PURE: rated -/
/-- behind how many weeks one is free; 61: not by 60 -/
def frE (n : Nat) (nd cl wi : Nat → Nat) (bi : Nat → Int32) (gv : Nat → Nat → Nat → Nat) (N w p r : Nat) (T : Nat → Dt) (k : Nat) : Bool := decide (0 < dd (wksT n nd cl wi bi gv N w p r k T p))
def fr (n : Nat) (nd cl wi : Nat → Nat) (bi : Nat → Int32) (gv : Nat → Nat → Nat → Nat) (N w p r : Nat) (T : Nat → Dt) : Nat := alk (frE n nd cl wi bi gv N w p r T) 61 0
def fri (x : Nat) : Int32 := if x ≤ 60 then nI x else -1
theorem rt_hr {p : Nat} (hp : p < 4) : ∀ q, q < 4 → (nI q = nI p ↔ q = p) := fun q hq => nI_eq (by omega) (by omega)
theorem frX {n N w p r : Nat} {nd cl wi wt : Nat → Nat} {bi : Nat → Int32} {gv : Nat → Nat → Nat → Nat} {T : Nat → Dt} (V : FW n nd cl wi wt bi) (W : TWt n N w T) (w9 : w ≤ 999) (hp : p < N) (hr : r ≤ 4) : ∀ (i k fu : Nat) (μ : Mem), k + i = 61 → i < fu → FX μ 2 n nd cl wi wt bi → LwX μ gv → TXt μ 69 N (w + k) (wksT n nd cl wi bi gv N w p r k T) → ∃ (e : (Int32 × Mem) ⊕ Mem) (μ2 : Mem), lp (fun s => f_X11_weeksUntilFree_l16 0 (nI p) (nI r) s.1 s.2) fu (nI k, μ) = some e ∧ (if alk (frE n nd cl wi bi gv N w p r T) i k = 61 then e = .inr μ2 else e = .inl (nI (alk (frE n nd cl wi bi gv N w p r T) i k), μ2)) ∧ ∀ k' j, k' ≠ 10 → ¬ (69 ≤ k' ∧ k' ≤ 82) → rd μ2 k' j = rd μ k' j := by
  intro i
  induction i with
  | zero =>
    intro k fu μ hk hfu F L H
    obtain ⟨fu', rfl⟩ : ∃ fu', fu = fu' + 1 := ⟨fu - 1, by omega⟩
    refine ⟨.inr μ, μ, ?_, by rw [alk, if_pos (by omega)], fun _ _ _ _ => rfl⟩
    rw [lp]
    show (f_X11_weeksUntilFree_l16 0 (nI p) (nI r) (nI k) μ).bind _ = _
    unfold f_X11_weeksUntilFree_l16
    rw [if_pos (show (60 : Int32) < nI k from nI_lt (a := 60) (by omega) (by omega)), bd_s]
  | succ i ih =>
    intro k fu μ hk hfu F L H
    obtain ⟨fu', rfl⟩ : ∃ fu', fu = fu' + 1 := ⟨fu - 1, by omega⟩
    have N4 := W.1
    have p4 : p < 4 := by omega
    have W1 := TW_wks (nd := nd) (cl := cl) (wi := wi) (bi := bi) (gv := gv) (r0 := p) (r := r) V.1 W k (by omega)
    obtain ⟨μ1, b1, b2, b3⟩ := e_weekX (t := 69) (r0 := p) (r := r) (a1 := nI p) (Or.inr rfl) F V (rt_hr p4) hr L H W1
    obtain ⟨p1, p2, p3, p4', p5, p6, p7⟩ := H.2.2 p hp
    obtain ⟨d1, d2, d3, d4, d5, d6, d7⟩ := W1.2.2 p hp
    have hs : f_X11_weeksUntilFree_l16 0 (nI p) (nI r) (nI k) μ = if frE n nd cl wi bi gv N w p r T k = true then some (.inl (nI (k + 1), μ1)) else some (.inr (.inl (nI k, μ))) := by
      unfold f_X11_weeksUntilFree_l16
      rw [if_neg (show ¬ (60 : Int32) < nI k from nI_nlt (b := k) (a := 60) (by omega) (by omega)), ib_nI p4 (by omega), if_pos rfl]
      simp only [rfs, tn_nI (show p < 2 ^ 31 by omega), (rf_d (t := 69) (Or.inr rfl) p4).1]
      rw [p5, b1, bd_s, nI_1]
      unfold frE
      by_cases z : 0 < dd (wksT n nd cl wi bi gv N w p r k T p)
      · rw [if_pos (nI_ne0 z (by omega)), decide_eq_true z, if_pos rfl]
      · rw [if_neg (not_not_intro (by rw [show dd (wksT n nd cl wi bi gv N w p r k T p) = 0 by omega]; rfl)), decide_eq_false z, if_neg (by decide)]
    by_cases z : frE n nd cl wi bi gv N w p r T k = true
    · rw [if_pos z] at hs
      have b2 : TXt μ1 69 N (w + (k + 1)) (wksT n nd cl wi bi gv N w p r (k + 1) T) := b2
      obtain ⟨e, μ2, i1, i2, i3⟩ := ih (k + 1) fu' μ1 (by omega) (by omega) (FX_cg (fun k j c d => b3 k j (by omega) (by omega)) F) (LwX_cg (fun j => b3 8 j (by omega) (by omega)) (fun j => b3 9 j (by omega) (by omega)) L) b2
      refine ⟨e, μ2, ?_, by rw [alk, if_pos z]; exact i2, fun k' j c d => by rw [i3 k' j c d, b3 k' j c (by omega)]⟩
      rw [lp]
      show (f_X11_weeksUntilFree_l16 0 (nI p) (nI r) (nI k) μ).bind _ = _
      rw [hs, bd_s]
      exact i1
    · rw [if_neg z] at hs
      refine ⟨.inl (nI k, μ), μ, ?_, by rw [alk, if_neg z, if_neg (by omega)], fun _ _ _ _ => rfl⟩
      rw [lp]
      show (f_X11_weeksUntilFree_l16 0 (nI p) (nI r) (nI k) μ).bind _ = _
      rw [hs, bd_s]
theorem frM {n N w p r : Nat} {nd cl wi wt : Nat → Nat} {bi : Nat → Int32} {gv : Nat → Nat → Nat → Nat} {T : Nat → Dt} (V : FW n nd cl wi wt bi) (W : TWt n N w T) (w9 : w ≤ 999) (hp : p < N) (hr : r ≤ 4) : ∀ (i k fu : Nat) (μ : Mem), k + i = 61 → i < fu → FM μ 106 n nd cl wi wt bi → rd μ 105 12 = nI p → rd μ 105 13 = nI r → LwM μ gv → TMt μ 106 N (w + k) (wksT n nd cl wi bi gv N w p r k T) → ∃ (μ2 : Mem), lp (fun s => f_X12_ratedBy_l16 105 (nI p) (nI r) s.1 s.2) fu (nI k, μ) = some (nI (alk (frE n nd cl wi bi gv N w p r T) i k), μ2) ∧ WF μ μ2 := by
  intro i
  induction i with
  | zero =>
    intro k fu μ hk hfu F h12 h13 L H
    obtain ⟨fu', rfl⟩ : ∃ fu', fu = fu' + 1 := ⟨fu - 1, by omega⟩
    refine ⟨μ, ?_, fun _ _ _ _ _ => rfl⟩
    rw [lp]
    show (f_X12_ratedBy_l16 105 (nI p) (nI r) (nI k) μ).bind _ = _
    unfold f_X12_ratedBy_l16
    rw [if_pos (show (60 : Int32) < nI k from nI_lt (a := 60) (by omega) (by omega)), bd_s]
    rfl
  | succ i ih =>
    intro k fu μ hk hfu F h12 h13 L H
    obtain ⟨fu', rfl⟩ : ∃ fu', fu = fu' + 1 := ⟨fu - 1, by omega⟩
    have N4 := W.1
    have p4 : p < 4 := by omega
    have W1 := TW_wks (nd := nd) (cl := cl) (wi := wi) (bi := bi) (gv := gv) (r0 := p) (r := r) V.1 W k (by omega)
    obtain ⟨μ1, b1, b2, b3⟩ := e_weekM (r0 := p) (r := r) (a1 := nI p) F V h12 (rt_hr p4) (fun _ => h13) hr L H W1
    obtain ⟨q1, q2, q3, q4, q5, q6⟩ := H.2.2 p hp
    obtain ⟨d1, d2, d3, d4, d5, d6, d7⟩ := W1.2.2 p hp
    have hs : f_X12_ratedBy_l16 105 (nI p) (nI r) (nI k) μ = if frE n nd cl wi bi gv N w p r T k = true then some (.inl (nI (k + 1), μ1)) else some (.inr (nI k, μ)) := by
      unfold f_X12_ratedBy_l16
      rw [if_neg (show ¬ (60 : Int32) < nI k from nI_nlt (b := k) (a := 60) (by omega) (by omega)), (e_ofs p4 μ).2.2.1, bd_s, q3, b1, bd_s, nI_1]
      unfold frE
      by_cases z : 0 < dd (wksT n nd cl wi bi gv N w p r k T p)
      · rw [if_neg (nI_nle z (by omega)), decide_eq_true z, if_pos rfl]
      · rw [show dd (wksT n nd cl wi bi gv N w p r k T p) = 0 by omega, if_pos (by decide), if_neg (by decide)]
    by_cases z : frE n nd cl wi bi gv N w p r T k = true
    · rw [if_pos z] at hs
      have b2 : TMt μ1 106 N (w + (k + 1)) (wksT n nd cl wi bi gv N w p r (k + 1) T) := b2
      obtain ⟨μ2, i1, i2⟩ := ih (k + 1) fu' μ1 (by omega) (by omega) (WF_FM V.1 b3 F) (by rw [b3 _ _ (by omega) (by omega) (by omega)]; exact h12) (by rw [b3 _ _ (by omega) (by omega) (by omega)]; exact h13) (WF_LM b3 L) b2
      refine ⟨μ2, ?_, WF_tr b3 i2⟩
      rw [alk, if_pos z, lp]
      show (f_X12_ratedBy_l16 105 (nI p) (nI r) (nI k) μ).bind _ = _
      rw [hs, bd_s]
      exact i1
    · rw [if_neg z] at hs
      refine ⟨μ, ?_, fun _ _ _ _ _ => rfl⟩
      rw [alk, if_neg z, lp]
      show (f_X12_ratedBy_l16 105 (nI p) (nI r) (nI k) μ).bind _ = _
      rw [hs, bd_s]
section
variable {n N w p : Nat} {nd cl wi wt : Nat → Nat} {bi : Nat → Int32} {gv : Nat → Nat → Nat → Nat} {T : Nat → Dt}
theorem e_freeX {μ : Mem} {r : Nat} (F : FX μ 2 n nd cl wi wt bi) (V : FW n nd cl wi wt bi) (hb : BZt μ 14) (L : LwX μ gv) (H : TXt μ 14 N w T) (W : TWt n N w T) (w9 : w ≤ 999) (hp : p < N) (hr : r ≤ 4) : ∃ μ2, f_X11_weeksUntilFree μ 0 (nI p) (nI r) = some (fri (fr n nd cl wi bi gv N w p r T), μ2) ∧ ∀ k j, k ≠ 10 → ¬ (69 ≤ k ∧ k ≤ 82) → rd μ2 k j = rd μ k j := by
  have N4 := W.1
  obtain ⟨μ1, a1, a2, a3⟩ := e_think V.1 hb H W
  obtain ⟨e, μ2, b1, b2, b3⟩ := frX (r := r) V W w9 hp hr 61 0 FU μ1 (by omega) (by unfold FU; omega) (FX_cg (fun k j c d => a3 k j (by omega)) F) (LwX_cg (fun j => a3 8 j (by omega)) (fun j => a3 9 j (by omega)) L) a2
  have b1 : lp (fun s => f_X11_weeksUntilFree_l16 0 (nI p) (nI r) s.1 s.2) FU ((0 : Int32), μ1) = some e := b1
  have al := alk_le (frE n nd cl wi bi gv N w p r T) 61 0
  refine ⟨μ2, ?_, fun k j c d => by rw [b3 k j c d, a3 k j d]⟩
  unfold f_X11_weeksUntilFree fr fri
  simp only [rfs]
  rw [a1, bd_s, b1, bd_s]
  by_cases z : alk (frE n nd cl wi bi gv N w p r T) 61 0 = 61
  · rw [if_pos z] at b2
    subst b2
    rw [if_neg (by omega)]
    rfl
  · rw [if_neg z] at b2
    subst b2
    rw [if_pos (by omega)]
    rfl
theorem e_freeM {μ : Mem} {r : Nat} (F : FM μ 106 n nd cl wi wt bi) (V : FW n nd cl wi wt bi) (h12 : rd μ 105 12 = -1) (L : LwM μ gv) (H : TMt μ 106 N w T) (W : TWt n N w T) (w9 : w ≤ 999) (hp : p < N) (hr : r ≤ 4) : ∃ μ2, f_X12_ratedBy μ 105 (nI p) (nI r) = some (fri (fr n nd cl wi bi gv N w p r T), μ2) ∧ ∀ k j, k ≠ 110 → k ≠ 108 → ¬ (k = 105 ∧ (5 ≤ j ∧ j ≤ 10 ∨ j = 13)) → rd μ2 k j = rd μ k j := by
  have N4 := W.1
  generalize hμ : wr (wr μ 105 12 (nI p)) 105 13 (nI r) = μ0'
  have K0 : ∀ k j, k ≠ 105 → rd μ0' k j = rd μ k j := fun k j c => by rw [← hμ, rd_wr_n (by omega), rd_wr_n (by omega)]
  obtain ⟨m1, d1, d2, d3⟩ := e_aside μ0'
  have K1 : ∀ j, rd m1 106 j = rd μ 106 j := fun j => by rw [d3 _ _ (by omega), K0 _ _ (by omega)]
  obtain ⟨m2, e1, e3⟩ := frM (r := r) V W w9 hp hr 61 0 FU m1 (by omega) (by unfold FU; omega) (FM_cg V.1 (fun j _ => K1 j) F) (by rw [d3 _ _ (by omega), ← hμ, rd_wr_n (by omega), rd_wr_s]) (by rw [d3 _ _ (by omega), ← hμ, rd_wr_s]) (LwM_cg (fun j _ => K1 j) L) (TMt_cg N4 (TW_s W) (fun j _ => K1 j) H)
  have e1 : lp (fun s => f_X12_ratedBy_l16 105 (nI p) (nI r) s.1 s.2) FU ((0 : Int32), m1) = some (nI (alk (frE n nd cl wi bi gv N w p r T) 61 0), m2) := e1
  obtain ⟨m3, f1, f2, f3⟩ := e_back m2
  have al := alk_le (frE n nd cl wi bi gv N w p r T) 61 0
  refine ⟨wr m3 105 12 (-1), ?_, fun k j a b c => ?_⟩
  · unfold f_X12_ratedBy f_X12_ratedBy_j41 fr fri
    rw [bd_s, bd_s, hμ, d1, bd_s, e1, bd_s, f1, bd_s, bd_s]
    by_cases z : alk (frE n nd cl wi bi gv N w p r T) 61 0 ≤ 60
    · rw [if_pos (show nI (alk (frE n nd cl wi bi gv N w p r T) 61 0) ≤ 60 from nI_le (b := 60) z (by omega)), if_pos z]
    · rw [if_neg (show ¬ nI (alk (frE n nd cl wi bi gv N w p r T) 61 0) ≤ 60 from nI_ge (a := 60) (by omega) (by omega)), if_neg z]
  · by_cases q : k = 105 ∧ j = 12
    · obtain ⟨rfl, rfl⟩ := q
      rw [rd_wr_s, h12]
    · rw [rd_wr_n q]
      by_cases y : k = 106 ∧ j < 170
      · obtain ⟨rfl, y⟩ := y
        rw [f2 j y, e3 _ _ (by omega) (by omega) (by omega), d2 j y, K0 _ _ (by omega)]
      · rw [f3 k j y, e3 k j (by omega) (by omega) (by omega), d3 k j (by omega), ← hμ, rd_wr_n (by omega), rd_wr_n (by omega)]
end
/-- the best rate so far (0: none), and behind how many weeks -/
def bnR (f : Nat → Nat) : Nat → Nat × Nat
  | 0 => (0, 61)
  | j + 1 => if f (j + 1) < (bnR f j).2 then (j + 1, f (j + 1)) else bnR f j
def bri (x : Nat) : Int32 := if x = 0 then -1 else nI x
theorem bnR_le {f : Nat → Nat} (hf : ∀ r, f r ≤ 61) : ∀ j, (bnR f j).1 ≤ j ∧ (bnR f j).2 ≤ 61 ∧ ((bnR f j).1 = 0 → (bnR f j).2 = 61) ∧ ((bnR f j).1 ≠ 0 → (bnR f j).2 ≤ 60) := by
  intro j
  induction j with
  | zero => exact ⟨Nat.le_refl _, Nat.le_refl _, fun _ => rfl, fun h => absurd rfl h⟩
  | succ j ih =>
    have := hf (j + 1)
    rw [bnR]
    split
    · exact ⟨Nat.le_refl _, by show f (j + 1) ≤ 61; omega, fun h => by have h : j + 1 = 0 := h; omega, fun _ => by show f (j + 1) ≤ 60; omega⟩
    · exact ⟨by omega, ih.2.1, ih.2.2.1, ih.2.2.2⟩
theorem fri_neg {x : Nat} (hx : x ≤ 61) : (fri x < 0) = (x = 61) := by
  unfold fri
  by_cases z : x ≤ 60
  · rw [if_pos z]
    exact propext ⟨fun q => absurd q (nI_pos (by omega)), fun q => by omega⟩
  · rw [if_neg z]
    exact propext ⟨fun _ => by omega, fun _ => by decide⟩
theorem fr_le {n N w p r : Nat} {nd cl wi : Nat → Nat} {bi : Nat → Int32} {gv : Nat → Nat → Nat → Nat} {T : Nat → Dt} : fr n nd cl wi bi gv N w p r T ≤ 61 := by
  have := alk_le (frE n nd cl wi bi gv N w p r T) 61 0
  unfold fr
  omega
theorem bri_neg {x : Nat} (hx : x ≤ 4) : (bri x < 0) = (x = 0) := by
  unfold bri
  by_cases z : x = 0
  · rw [if_pos z]
    exact propext ⟨fun _ => z, fun _ => by decide⟩
  · rw [if_neg z]
    exact propext ⟨fun q => absurd q (nI_pos (by omega)), fun q => absurd q z⟩
theorem ge0_iff (x : Int32) : (0 ≤ x) = ¬ x < 0 := by
  refine propext ?_
  have : (0 : Int32).toInt = 0 := rfl
  rw [i32_le, i32_lt]
  omega
theorem sh_rated : SH_rated Rel := by
  intro μ h a x y
  show OKS (f_X11_rated μ 0 a x y) (fun m => f_X12_rated m 105 a x y)
  obtain ⟨n, nd, cl, wi, wt, bi, N, w, T, gv, ⟨F, F1, V⟩, H, M, W, w9, L1, L2⟩ := rel_T h
  have N4 := W.1
  have n8 := V.1
  have c1 : rd μ 14 3 = nI N := H.1
  have c2 : rd μ 106 1 = nI N := M.1
  by_cases g : ((0 : Int32) ≤ a ∧ a ≤ nI N - 1) ∧ ((1 : Int32) ≤ x ∧ x ≤ 4) ∧ ((0 : Int32) ≤ y ∧ y ≤ 1)
  · obtain ⟨g1, g2, g3⟩ := g
    obtain ⟨p, hp, rfl⟩ := (isF_iff (by omega)).mp g1
    obtain ⟨r, r1, r4, rfl⟩ := upto1 (n := 4) (by omega) g2
    -- the answers as a number, or none
    have done : ∀ (v : Int32) (μ1 m2 : Mem), f_X11_rated μ 0 (nI p) (nI r) y = (if 0 ≤ v then some (v, μ1) else f_X11_refuse μ1 0 2) → (∀ k j, k ≠ 10 → ¬ (69 ≤ k ∧ k ≤ 82) → rd μ1 k j = rd μ k j) → (∀ μ', (∀ k j, 105 ≤ k → ¬ (k = 109) → rd μ' k j = rd μ k j) → ∃ m2, f_X12_rated μ' 105 (nI p) (nI r) y = (if 0 ≤ v then some (v, m2) else f_X12_finds m2 105 2) ∧ ∀ k j, k ≠ 110 → k ≠ 108 → ¬ (k = 105 ∧ (5 ≤ j ∧ j ≤ 10 ∨ j = 13)) → rd m2 k j = rd μ' k j) → OKS (f_X11_rated μ 0 (nI p) (nI r) y) (fun m => f_X12_rated m 105 (nI p) (nI r) y) := by
      intro v μ1 _ hX hF hM
      by_cases z : 0 ≤ v
      · rw [if_pos z] at hX
        obtain ⟨m2, q1, q2⟩ := hM μ1 (fun k j c d => hF k j (by omega) (by omega))
        rw [if_pos z] at q1
        exact oks_go hX q1 (R2_no h (fun k j c d => by rw [q2 k j (by omega) (by omega) (by omega), hF k j (by omega) (by omega)]))
      · rw [if_neg z] at hX
        have e1 := e_refuse μ1 2 (by omega)
        have e1 : f_X11_refuse μ1 0 2 = _ := e1
        rw [e1] at hX
        obtain ⟨m2, q1, q2⟩ := hM (wr μ1 96 2 (rd μ1 96 2 + 1)) (fun k j c d => by rw [rd_wr_n (by omega), hF k j (by omega) (by omega)])
        rw [if_neg z] at q1
        have e2 : f_X12_finds m2 105 2 = _ := e_finds m2 2 (by omega)
        rw [e2] at q1
        have R1 : Rel m2 → True := fun _ => trivial
        refine oks_go hX q1 ?_
        refine R2_Re h (fun k j c d => ?_) (fun k hk => ?_)
        · rw [rd_wr_n (by omega), q2 k j (by omega) (by omega) (by omega), rd_wr_n (by omega), hF k j (by omega) (by omega)]
        · have hre := h.2.2.1
          by_cases e : k = 2
          · subst e
            rw [rd_wr_n (by omega), rd_wr_s, q2 96 2 (by omega) (by omega) (by omega), rd_wr_s, q2 109 2 (by omega) (by omega) (by omega), rd_wr_n (by omega), hF 96 2 (by omega) (by omega), hF 109 2 (by omega) (by omega), hre 2 (by omega)]
          · rw [rd_wr_n (by omega), rd_wr_n (by omega), q2 96 k (by omega) (by omega) (by omega), rd_wr_n (by omega), q2 109 k (by omega) (by omega) (by omega), rd_wr_n (by omega), hF 96 k (by omega) (by omega), hF 109 k (by omega) (by omega), hre k hk]
    by_cases y0 : y = 0
    · subst y0
      obtain ⟨μ1, a1, a2⟩ := e_freeX (r := r) F V h.1.1.1 L1 H W w9 hp r4
      refine done (fri (fr n nd cl wi bi gv N w p r T)) μ1 μ1 ?_ a2 (fun μ' hR => ?_)
      · unfold f_X11_rated f_X11_rated_j50
        rw [e_isDebX c1, bd_s, if_pos g1, if_neg (by decide), e_among, bd_s, if_pos g2, if_neg (by decide), e_among, bd_s, if_pos g3, if_pos (by decide), if_neg (not_not_intro rfl), a1, bd_s, bd_p]
      · obtain ⟨m2, b1, b2⟩ := e_freeM (r := r) (μ := μ') (FM_cg n8 (fun j _ => hR 106 j (by omega) (by omega)) F1) V ((hR 105 12 (by omega) (by omega)).trans h.2.2.2.2.2.1) (LwM_cg (fun j _ => hR 106 j (by omega) (by omega)) L2) (TMt_cg N4 (TW_s W) (fun j _ => hR 106 j (by omega) (by omega)) M) W w9 hp r4
        refine ⟨m2, ?_, b2⟩
        unfold f_X12_rated
        rw [e_isDebM ((hR 106 1 (by omega) (by omega)).trans c2), bd_s, if_pos g1, if_neg (by decide), show f_X12_in (nI r).toInt64 1 4 = _ from e_in (nI r) 1 4, bd_s, if_pos g2, if_neg (by decide), show f_X12_in (0 : Int32).toInt64 0 1 = _ from e_in 0 0 1, bd_s, if_pos g3, if_pos (by decide), if_neg (not_not_intro rfl), b1, bd_s, bd_p]
    · generalize hf : (fun q => fr n nd cl wi bi gv N w p q T) = f
      have hfl : ∀ q, f q ≤ 61 := fun q => by rw [← hf]; exact fr_le
      have bl := bnR_le hfl
      have X : ∃ μ1, f_X11_bestRate μ 0 (nI p) = some (bri (bnR f 4).1, μ1) ∧ ∀ k j, k ≠ 10 → ¬ (69 ≤ k ∧ k ≤ 82) → rd μ1 k j = rd μ k j := by
        obtain ⟨q, l1, l2, l3⟩ : ∃ q : Int32 × Mem, lp (fun s => f_X11_bestRate_l8 0 (nI p) s.1 s.2.1 s.2.2.1 s.2.2.2) FU ((-1 : Int32), (61 : Int32), (1 : Int32), μ) = some q ∧ q.1 = bri (bnR f 4).1 ∧ ∀ k j, k ≠ 10 → ¬ (69 ≤ k ∧ k ≤ 82) → rd q.2 k j = rd μ k j := by
          refine lp_I (fun j s => s.1 = bri (bnR f j).1 ∧ s.2.1 = nI (bnR f j).2 ∧ s.2.2.1 = nI (j + 1) ∧ ∀ k j, k ≠ 10 → ¬ (69 ≤ k ∧ k ≤ 82) → rd s.2.2.2 k j = rd μ k j) 4 _ (by omega) ⟨rfl, rfl, rfl, fun _ _ _ _ => rfl⟩ ?_ ?_
          · rintro j ⟨v1, v2, v3, m⟩ hj ⟨e1, e2, e3, e4⟩
            simp only at e1 e2 e3 e4
            subst e1 e2 e3
            obtain ⟨m1, a1, a2⟩ := e_freeX (r := j + 1) (μ := m) (FX_cg (fun k j c d => e4 k j (by omega) (by omega)) F) V (fun q hq => by rw [e4 _ _ (by omega) (by omega)]; exact h.1.1.1 q hq) (LwX_cg (fun j => e4 8 j (by omega) (by omega)) (fun j => e4 9 j (by omega) (by omega)) L1) (TXt_cg N4 (fun k j c d => e4 k j (by omega) (by omega)) H) W w9 hp (by omega)
            have fj : fr n nd cl wi bi gv N w p (j + 1) T = f (j + 1) := by rw [← hf]
            rw [fj] at a1
            have fl := hfl (j + 1)
            obtain ⟨s1, s2, s3, s4⟩ := bl j
            refine ⟨(bri (bnR f (j + 1)).1, nI (bnR f (j + 1)).2, nI (j + 1 + 1), m1), ?_, rfl, rfl, rfl, fun k i c d => by rw [a2 k i c d, e4 k i c d]⟩
            show f_X11_bestRate_l8 0 (nI p) _ _ (nI (j + 1)) m = _
            unfold f_X11_bestRate_l8
            rw [if_neg (show ¬ (4 : Int32) < nI (j + 1) from nI_nlt (a := 4) (by omega) (by omega)), a1, bd_s, nI_1]
            simp only
            have fn := fri_neg fl
            by_cases z : f (j + 1) = 61
            · rw [if_pos (fn.mpr z), bnR, if_neg (by omega)]
            · rw [if_neg (fun q => z (fn.mp q))]
              have fe : fri (f (j + 1)) = nI (f (j + 1)) := by unfold fri; rw [if_pos (by omega)]
              rw [fe]
              by_cases u : f (j + 1) < (bnR f j).2
              · rw [if_neg (nI_ge u (by omega)), bnR, if_pos u]
                show _ = some (Sum.inl (bri (j + 1), nI (f (j + 1)), nI (j + 1 + 1), m1))
                unfold bri
                rw [if_neg (by omega)]
              · rw [if_pos (nI_le (by omega) (by omega)), bnR, if_neg u]
          · rintro ⟨v1, v2, v3, m⟩ ⟨e1, e2, e3, e4⟩
            simp only at e1 e2 e3 e4
            subst e1 e2 e3
            refine ⟨(bri (bnR f 4).1, m), ?_, rfl, e4⟩
            show f_X11_bestRate_l8 0 (nI p) _ _ (nI 5) m = _
            unfold f_X11_bestRate_l8
            rw [if_pos (by decide)]
        obtain ⟨q1, q2⟩ := q
        simp only at l2 l3
        subst l2
        exact ⟨q2, by unfold f_X11_bestRate; rw [l1, bd_s], l3⟩
      obtain ⟨μ1, a1, a2⟩ := X
      have ny : ¬ y = 0 := y0
      refine done (bri (bnR f 4).1) μ1 μ1 ?_ a2 (fun μ' hR => ?_)
      · unfold f_X11_rated f_X11_rated_j50
        rw [e_isDebX c1, bd_s, if_pos g1, if_neg (by decide), e_among, bd_s, if_pos g2, if_neg (by decide), e_among, bd_s, if_pos g3, if_pos (by decide), if_pos ny, a1, bd_s, bd_p]
      · obtain ⟨q, l1, l2, l3⟩ : ∃ q : Int32 × Mem, lp (fun s => f_X12_rated_l73 105 (nI p) (nI r) y s.1 s.2.1 s.2.2.1 s.2.2.2) FU ((-1 : Int32), (0 : Int32), (1 : Int32), μ') = some q ∧ q.1 = bri (bnR f 4).1 ∧ ∀ k j, k ≠ 110 → k ≠ 108 → ¬ (k = 105 ∧ (5 ≤ j ∧ j ≤ 10 ∨ j = 13)) → rd q.2 k j = rd μ' k j := by
          refine lp_I (fun j s => s.1 = bri (bnR f j).1 ∧ s.2.1 = (if (bnR f j).1 = 0 then 0 else nI (bnR f j).2) ∧ s.2.2.1 = nI (j + 1) ∧ ∀ k j, k ≠ 110 → k ≠ 108 → ¬ (k = 105 ∧ (5 ≤ j ∧ j ≤ 10 ∨ j = 13)) → rd s.2.2.2 k j = rd μ' k j) 4 _ (by omega) ⟨rfl, rfl, rfl, fun _ _ _ _ _ => rfl⟩ ?_ ?_
          · rintro j ⟨v1, v2, v3, m⟩ hj ⟨e1, e2, e3, e4⟩
            simp only at e1 e2 e3 e4
            subst e1 e2 e3
            have KM : ∀ i, rd m 106 i = rd μ 106 i := fun i => by rw [e4 106 i (by omega) (by omega) (by omega), hR 106 i (by omega) (by omega)]
            obtain ⟨m1, b1, b2⟩ := e_freeM (r := j + 1) (μ := m) (FM_cg n8 (fun j _ => KM j) F1) V (by rw [e4 105 12 (by omega) (by omega) (by omega), hR 105 12 (by omega) (by omega)]; exact h.2.2.2.2.2.1) (LwM_cg (fun j _ => KM j) L2) (TMt_cg N4 (TW_s W) (fun j _ => KM j) M) W w9 hp (by omega)
            have fj : fr n nd cl wi bi gv N w p (j + 1) T = f (j + 1) := by rw [← hf]
            rw [fj] at b1
            have fl := hfl (j + 1)
            obtain ⟨s1, s2, s3, s4⟩ := bl j
            refine ⟨(bri (bnR f (j + 1)).1, (if (bnR f (j + 1)).1 = 0 then 0 else nI (bnR f (j + 1)).2), nI (j + 1 + 1), m1), ?_, rfl, rfl, rfl, fun k i c d e => by rw [b2 k i c d e, e4 k i c d e]⟩
            show f_X12_rated_l73 105 (nI p) (nI r) y _ _ (nI (j + 1)) m = _
            unfold f_X12_rated_l73 f_X12_rated_j105
            rw [if_neg (show ¬ (4 : Int32) < nI (j + 1) from nI_nlt (a := 4) (by omega) (by omega)), b1, bd_s, nI_1]
            simp only
            have fn := fri_neg fl
            by_cases z : f (j + 1) = 61
            · rw [if_pos (fn.mpr z), bnR, if_neg (show ¬ f (j + 1) < (bnR f j).2 by omega)]
            · rw [if_neg (fun q => z (fn.mp q))]
              have fe : fri (f (j + 1)) = nI (f (j + 1)) := by unfold fri; rw [if_pos (by omega)]
              rw [fe]
              have bng := bri_neg (x := (bnR f j).1) (by omega)
              have up1 : f (j + 1) < (bnR f j).2 → some (Sum.inl (nI (j + 1), nI (f (j + 1)), nI (j + 1 + 1), m1)) = (some (Sum.inl (bri (bnR f (j + 1)).1, (if (bnR f (j + 1)).1 = 0 then 0 else nI (bnR f (j + 1)).2), nI (j + 1 + 1), m1)) : Option ((Int32 × Int32 × Int32 × Mem) ⊕ (Int32 × Mem))) := by
                intro u
                rw [bnR, if_pos u]
                show _ = some (Sum.inl (bri (j + 1), (if j + 1 = 0 then 0 else nI (f (j + 1))), nI (j + 1 + 1), m1))
                unfold bri
                rw [if_neg (by omega), if_neg (by omega)]
              by_cases b0 : (bnR f j).1 = 0
              · rw [if_pos (bng.mpr b0)]
                exact up1 (by rw [s3 b0]; omega)
              · rw [if_neg (fun q => b0 (bng.mp q)), if_neg b0]
                by_cases u : f (j + 1) < (bnR f j).2
                · rw [if_neg (nI_ge u (by omega))]
                  exact up1 u
                · rw [if_pos (nI_le (by omega) (by omega)), bnR, if_neg u, if_neg b0]
          · rintro ⟨v1, v2, v3, m⟩ ⟨e1, e2, e3, e4⟩
            simp only at e1 e2 e3 e4
            subst e1 e2 e3
            refine ⟨(bri (bnR f 4).1, m), ?_, rfl, e4⟩
            show f_X12_rated_l73 105 (nI p) (nI r) y _ _ (nI 5) m = _
            unfold f_X12_rated_l73
            rw [if_pos (by decide)]
        obtain ⟨q1, q2⟩ := q
        simp only at l2 l3
        subst l2
        refine ⟨q2, ?_, l3⟩
        unfold f_X12_rated
        rw [e_isDebM ((hR 106 1 (by omega) (by omega)).trans c2), bd_s, if_pos g1, if_neg (by decide), show f_X12_in (nI r).toInt64 1 4 = _ from e_in (nI r) 1 4, bd_s, if_pos g2, if_neg (by decide), show f_X12_in y.toInt64 0 1 = _ from e_in y 0 1, bd_s, if_pos g3, if_pos (by decide), if_pos ny, l1, bd_s, bd_p]
  · refine oks_ref (k := 1) h (by omega) ?_ ?_
    · unfold f_X11_rated f_X11_rated_j26
      rw [e_isDebX c1, bd_s, bd_p]
      by_cases g1 : (0 : Int32) ≤ a ∧ a ≤ nI N - 1
      · rw [if_pos g1, if_neg (by decide), e_among, bd_s]
        by_cases g2 : (1 : Int32) ≤ x ∧ x ≤ 4
        · rw [if_pos g2, if_neg (by decide), e_among, bd_s, if_neg (fun q => g ⟨g1, g2, q⟩), if_neg (by decide)]
          rfl
        · rw [if_neg g2, if_pos rfl]
          rfl
      · rw [if_neg g1, if_pos rfl]
        rfl
    · intro μ1 hR
      show f_X12_rated μ1 105 _ _ _ = _
      unfold f_X12_rated f_X12_rated_j30
      rw [e_isDebM ((hR 106 1 (by omega)).trans c2), bd_s, bd_p]
      by_cases g1 : (0 : Int32) ≤ a ∧ a ≤ nI N - 1
      · rw [if_pos g1, if_neg (by decide), show f_X12_in x.toInt64 1 4 = _ from e_in x 1 4, bd_s]
        by_cases g2 : (1 : Int32) ≤ x ∧ x ≤ 4
        · rw [if_pos g2, if_neg (by decide), show f_X12_in y.toInt64 0 1 = _ from e_in y 0 1, bd_s, if_neg (fun q => g ⟨g1, g2, q⟩), if_neg (by decide)]
          rfl
        · rw [if_neg g2, if_pos rfl]
          rfl
      · rw [if_neg g1, if_pos rfl]
        rfl
