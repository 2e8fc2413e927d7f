/-! PURE: check -/
theorem wks_one {n N w r0 r k : Nat} {nd cl wi : Nat → Nat} {bi : Nat → Int32} {gv : Nat → Nat → Nat → Nat} {T : Nat → Dt} : wksT n nd cl wi bi gv N w r0 r (k + 1) T = wkT n nd cl wi bi gv N (w + k) r0 r N (wksT n nd cl wi bi gv N w r0 r k T) := rfl
theorem e_debtT {μ : Mem} {t n N w : Nat} {T : Nat → Dt} (ht : t = 14 ∨ t = 69) (H : TXt μ t N w T) (W : TWt n N w T) : f_X8_debts μ t = some (nI (sm (fun p => dd (T p)) N)) := e_debtsX ht W.1 (TX_T n H)
theorem e_debtTM {μ : Mem} {n N w : Nat} {T : Nat → Dt} (H : TMt μ 106 N w T) (W : TWt n N w T) : f_X12_debts μ 105 = some (nI (sm (fun p => dd (T p)) N)) := e_debtsM W.1 (TM_T n H)
/-- from k on the weeks agree -/
def chE (n : Nat) (nd cl wi : Nat → Nat) (bi : Nat → Int32) (gv : Nat → Nat → Nat → Nat) (N w : Nat) (T : Nat → Dt) (wa : Nat → Int32) (k : Nat) : Bool := decide (nI (sm (fun p => dd (wksT n nd cl wi bi gv N w 9 0 (k + 1) T p)) N) = wa k)
theorem chX {n N w m : Nat} {nd cl wi wt : Nat → Nat} {bi : Nat → Int32} {gv : Nat → Nat → Nat → Nat} {T : Nat → Dt} {wa : Nat → Int32} (V : FW n nd cl wi wt bi) (W : TWt n N w T) (w9 : w ≤ 999) (hm : m ≤ 20) : ∀ (r k fu : Nat) (μ : Mem), k + r = m → r < fu → FX μ 2 n nd cl wi wt bi → LwX μ gv → TXt μ 69 N (w + k) (wksT n nd cl wi bi gv N w 9 0 k T) → (∀ i, i < m → rd μ 34 i = wa i) → ∃ (e : (Int32 × Mem) ⊕ Mem) (μ2 : Mem), lp (fun s => f_X11_check_l32 0 (nI m) s.1 s.2) fu (nI k, μ) = some e ∧ (if alk (chE n nd cl wi bi gv N w T wa) r k = m then e = .inr μ2 else e = .inl (nI (alk (chE n nd cl wi bi gv N w T wa) r k), μ2)) ∧ ∀ k' j, k' ≠ 10 → ¬ (69 ≤ k' ∧ k' ≤ 82) → rd μ2 k' j = rd μ k' j := by
  intro r
  induction r with
  | zero =>
    intro k fu μ hk hfu F L H hw
    obtain ⟨fu', rfl⟩ : ∃ fu', fu = fu' + 1 := ⟨fu - 1, by omega⟩
    refine ⟨.inr μ, μ, ?_, ?_, fun _ _ _ _ => rfl⟩
    · rw [lp]
      show (f_X11_check_l32 0 (nI m) (nI k) μ).bind _ = _
      unfold f_X11_check_l32
      rw [if_pos (nI_le (by omega) (by omega)), bd_s]
    · rw [alk, if_pos (by omega)]
  | succ r ih =>
    intro k fu μ hk hfu F L H hw
    obtain ⟨fu', rfl⟩ : ∃ fu', fu = fu' + 1 := ⟨fu - 1, by omega⟩
    have N4 := W.1
    obtain ⟨μ1, b1, b2, b3⟩ := e_weeksX (t := 69) (k := 1) (Or.inr rfl) F V (by omega) L H (TW_wks V.1 W k (by omega))
    have b1 : f_X8_passWeeks μ 69 1 = some μ1 := b1
    have b2 : TXt μ1 69 N (w + (k + 1)) (wksT n nd cl wi bi gv N w 9 0 (k + 1) T) := b2
    have D := e_debtT (Or.inr rfl) b2 (TW_wks V.1 W (k + 1) (by omega))
    have hs : f_X11_check_l32 0 (nI m) (nI k) μ = if chE n nd cl wi bi gv N w T wa k = true then some (.inl (nI (k + 1), μ1)) else some (.inr (.inl (nI k, μ1))) := by
      unfold f_X11_check_l32
      simp only [rfs]
      rw [if_neg (nI_ge (by omega) (by omega)), if_neg (show ¬ (20 : Int32) ≤ nI k from nI_ge (b := 20) (by omega) (by omega)), b1, bd_s, D, bd_s, ib_nI (show k < 20 by omega) (by omega), if_pos rfl, tn_nI (by omega), b3 34 k (by omega) (by omega), hw k (by omega), nI_1]
      unfold chE
      by_cases z : nI (sm (fun p => dd (wksT n nd cl wi bi gv N w 9 0 (k + 1) T p)) N) = wa k
      · rw [if_pos z, decide_eq_true z, if_pos rfl]
      · rw [if_neg z, decide_eq_false z, if_neg (by decide)]
    by_cases z : chE n nd cl wi bi gv N w T wa k = true
    · rw [if_pos z] at hs
      obtain ⟨e, μ2, i1, i2, i3⟩ := ih (k + 1) fu' μ1 (by omega) (by omega) (FX_cg (fun k j c d => b3 k j (by omega) (by omega)) F) (LwX_cg (fun j => b3 8 j (by omega) (by omega)) (fun j => b3 9 j (by omega) (by omega)) L) b2 (fun i hi => by rw [b3 34 i (by omega) (by omega)]; exact hw i hi)
      refine ⟨e, μ2, ?_, ?_, fun k' j c d => by rw [i3 k' j c d, b3 k' j c (by omega)]⟩
      · rw [lp]
        show (f_X11_check_l32 0 (nI m) (nI k) μ).bind _ = _
        rw [hs, bd_s]
        exact i1
      · rw [alk, if_pos z]
        exact i2
    · rw [if_neg z] at hs
      refine ⟨.inl (nI k, μ1), μ1, ?_, ?_, fun k' j c d => b3 k' j c (by omega)⟩
      · rw [lp]
        show (f_X11_check_l32 0 (nI m) (nI k) μ).bind _ = _
        rw [hs, bd_s]
      · rw [alk, if_neg z, if_neg (by omega)]
theorem chM {n N w m : Nat} {nd cl wi wt : Nat → Nat} {bi : Nat → Int32} {gv : Nat → Nat → Nat → Nat} {T : Nat → Dt} {wa : Nat → Int32} (V : FW n nd cl wi wt bi) (W : TWt n N w T) (w9 : w ≤ 999) (hm : m ≤ 20) : ∀ (r k fu : Nat) (μ : Mem), k + r = m → r + 1 < fu → FM μ 106 n nd cl wi wt bi → rd μ 105 12 = -1 → LwM μ gv → TMt μ 106 N (w + k) (wksT n nd cl wi bi gv N w 9 0 k T) → (∀ i, i < m → rd μ 106 (172 + i) = wa i) → ∃ (μ2 : Mem), lp (fun s => f_X12_check_l24 105 (nI m) s.1 s.2.1 s.2.2) fu (nI k, 1, μ) = some (nI (alk (chE n nd cl wi bi gv N w T wa) r k), μ2) ∧ WF μ μ2 := by
  intro r
  induction r with
  | zero =>
    intro k fu μ hk hfu F h12 L H hw
    obtain ⟨fu', rfl⟩ : ∃ fu', fu = fu' + 1 := ⟨fu - 1, by omega⟩
    refine ⟨μ, ?_, fun _ _ _ _ _ => rfl⟩
    rw [lp]
    show (f_X12_check_l24 105 (nI m) (nI k) 1 μ).bind _ = _
    unfold f_X12_check_l24
    rw [if_pos (nI_le (by omega) (by omega)), bd_s]
    rfl
  | succ r ih =>
    intro k fu μ hk hfu F h12 L H hw
    obtain ⟨fu', rfl⟩ : ∃ fu', fu = fu' + 1 := ⟨fu - 1, by omega⟩
    have N4 := W.1
    obtain ⟨μ1, b1, b2, b3⟩ := e_weekM (r0 := 9) (r := 0) (a1 := -1) F V h12 m1_no (fun z => by omega) (by omega) L H (TW_wks V.1 W k (by omega))
    have b2 : TMt μ1 106 N (w + (k + 1)) (wksT n nd cl wi bi gv N w 9 0 (k + 1) T) := b2
    have D := e_debtTM b2 (TW_wks V.1 W (k + 1) (by omega))
    have hs : f_X12_check_l24 105 (nI m) (nI k) 1 μ = if chE n nd cl wi bi gv N w T wa k = true then some (.inl (nI (k + 1), 1, μ1)) else some (.inl (nI k, 0, μ1)) := by
      unfold f_X12_check_l24 f_X12_check_j59
      simp only [rfs]
      rw [if_neg (nI_ge (by omega) (by omega)), if_neg (show ¬ (1 : Int32) = 0 by decide), b1, bd_s, D, bd_s, show (172 : Int32) + nI k = nI (172 + k) from nI_add 172 k, ib_nI (show 172 + k < 342 by omega) (by omega), if_pos rfl, tn_nI (by omega), b3 106 (172 + k) (by omega) (by omega) (by omega), hw k (by omega), show nI k + 1 = nI (k + 1) from nI_1 k]
      unfold chE
      by_cases z : nI (sm (fun p => dd (wksT n nd cl wi bi gv N w 9 0 (k + 1) T p)) N) = wa k
      · rw [if_neg (not_not_intro z), decide_eq_true z, if_pos rfl, if_neg (show ¬ (1 : Int32) = 0 by decide)]
      · rw [if_pos z, decide_eq_false z, if_neg (show ¬ false = true by decide), if_pos trivial, show nI k + 0 = nI k from nI_add k 0]
    by_cases z : chE n nd cl wi bi gv N w T wa k = true
    · rw [if_pos z] at hs
      obtain ⟨μ2, i1, i2⟩ := ih (k + 1) fu' μ1 (by omega) (by omega) (WF_FM V.1 b3 F) (by rw [b3 _ _ (by omega) (by omega) (by omega)]; exact h12) (WF_LM b3 L) b2 (fun i hi => by rw [b3 106 _ (by omega) (by omega) (by omega)]; exact hw i hi)
      refine ⟨μ2, ?_, WF_tr b3 i2⟩
      rw [alk, if_pos z, lp]
      show (f_X12_check_l24 105 (nI m) (nI k) 1 μ).bind _ = _
      rw [hs, bd_s]
      exact i1
    · rw [if_neg z] at hs
      refine ⟨μ1, ?_, b3⟩
      obtain ⟨fu2, rfl⟩ : ∃ fu2, fu' = fu2 + 1 := ⟨fu' - 1, by omega⟩
      rw [alk, if_neg z, lp]
      show (f_X12_check_l24 105 (nI m) (nI k) 1 μ).bind _ = _
      rw [hs, bd_s]
      simp only
      rw [lp]
      show (f_X12_check_l24 105 (nI m) (nI k) 0 μ1).bind _ = _
      unfold f_X12_check_l24
      rw [if_neg (nI_ge (by omega) (by omega)), if_pos rfl, bd_s]
theorem sh_check : SH_check Rel := by
  intro μ h
  show OKS (f_X11_check μ 0) (fun m => f_X12_check m 105)
  obtain ⟨n, nd, cl, wi, wt, bi, N, w, T, gv, ⟨F, F1, V⟩, H, M, W, w9, L1, L2⟩ := rel_T h
  have N4 := W.1
  have n8 := V.1
  obtain ⟨m, m1, m2, m3, m4⟩ := h.1.2.2.2.1
  have m2 : rd μ 1 7 = nI m := m2
  have m4 : ∀ i, i < m → rd μ 34 i = rd μ 106 (172 + i) := m4
  have K0 : ∀ k j, ¬ (k = 1 ∧ j = 7) → rd (wr μ 1 7 0) k j = rd μ k j := fun k j q => rd_wr_n q
  obtain ⟨μ1, a1, a2, a3⟩ := e_think (μ := wr μ 1 7 0) n8 (fun p hp => by rw [K0 _ _ (by omega)]; exact h.1.1.1 p hp) (TXt_cg N4 (fun k j c d => K0 k j (by omega)) H) W
  have K : ∀ k j, ¬ (k = 1 ∧ j = 7) → ¬ (69 ≤ k ∧ k ≤ 82) → rd μ1 k j = rd μ k j := fun k j c d => by rw [a3 k j d, K0 k j c]
  obtain ⟨e, μ2, b1, b2, b3⟩ := chX (wa := fun i => rd μ 34 i) V W w9 m1 m 0 FU μ1 (by omega) (by unfold FU; omega) (FX_cg (fun k j c d => K k j (by omega) (by omega)) F) (LwX_cg (fun j => K 8 j (by omega) (by omega)) (fun j => K 9 j (by omega) (by omega)) L1) a2 (fun i hi => K 34 i (by omega) (by omega))
  have b1 : lp (fun s => f_X11_check_l32 0 (nI m) s.1 s.2) FU ((0 : Int32), μ1) = some e := b1
  have hR : RX μ μ2 := fun k j hk => by rw [b3 k j (by omega) (by omega), K k j (by omega) (by omega)]
  -- the model
  have Kw : ∀ k j, 105 ≤ k → ¬ (k = 106 ∧ j = 6) → rd (wr μ2 106 6 0) k j = rd μ k j := fun k j c d => by rw [rd_wr_n d, hR k j c]
  obtain ⟨m1', d1, d2, d3⟩ := e_aside (wr μ2 106 6 0)
  have K1 : ∀ k j, 105 ≤ k → k ≠ 108 → ¬ (k = 106 ∧ j = 6) → rd m1' k j = rd μ k j := fun k j c d f => by rw [d3 k j d, Kw k j c f]
  obtain ⟨m2', e1, e3⟩ := chM (wa := fun i => rd μ 34 i) V W w9 m1 m 0 FU m1' (by omega) (by unfold FU; omega) (FM_cg n8 (fun j _ => K1 106 j (by omega) (by omega) (by omega)) F1) ((K1 105 12 (by omega) (by omega) (by omega)).trans h.2.2.2.2.2.1) (LwM_cg (fun j _ => K1 106 j (by omega) (by omega) (by omega)) L2) (TMt_cg N4 (TW_s W) (fun j _ => K1 106 j (by omega) (by omega) (by omega)) M) (fun i hi => by rw [K1 106 _ (by omega) (by omega) (by omega), m4 i hi])
  have e1 : lp (fun s => f_X12_check_l24 105 (nI m) s.1 s.2.1 s.2.2) FU ((0 : Int32), (1 : Int32), m1') = some (nI (alk (chE n nd cl wi bi gv N w T (fun i => rd μ 34 i)) m 0), m2') := e1
  obtain ⟨m3', f1, f2, f3⟩ := e_back m2'
  have al := alk_le (chE n nd cl wi bi gv N w T (fun i => rd μ 34 i)) m 0
  have X0 : f_X11_check μ 0 = Sum.elim (fun e32 => some ((1 : Int32) + e32.1, e32.2)) (fun e32 => some ((0 : Int32), e32)) e := by
    unfold f_X11_check
    simp only [rfs]
    rw [bd_s, a1, bd_s, m2, b1, bd_s]
  have M0 : f_X12_check μ2 105 = some (if alk (chE n nd cl wi bi gv N w T (fun i => rd μ 34 i)) m 0 = m then 0 else 1 + nI (alk (chE n nd cl wi bi gv N w T (fun i => rd μ 34 i)) m 0), m3') := by
    unfold f_X12_check f_X12_check_j75
    simp only [rfs, cls]
    rw [bd_s, d1, bd_s, hR 106 6 (by omega), m3, e1, bd_s, f1, bd_s]
    by_cases z : alk (chE n nd cl wi bi gv N w T (fun i => rd μ 34 i)) m 0 = m
    · rw [if_pos z, z, if_neg (not_not_intro rfl)]
    · rw [if_neg z, if_pos (fun q => z ((nI_eq (by omega) (by omega)).mp q))]
  have RR : Rel m3' := by
    refine R2_Wa h (fun k j c d => ?_) ⟨0, by omega, ?_, ?_, fun i hi => absurd hi (by omega)⟩
    · by_cases q : k = 106 ∧ j < 170
      · obtain ⟨rfl, q⟩ := q
        rw [f2 j q, e3 _ _ (by omega) (by omega) (by omega), d2 j q, Kw _ _ (by omega) (by omega)]
      · rw [f3 k j q, e3 k j (by omega) (by omega) (by omega), d3 k j (by omega), rd_wr_n (by omega), b3 k j (by omega) (by omega), K k j (by omega) (by omega)]
    · rw [f3 1 7 (by omega), e3 _ _ (by omega) (by omega) (by omega), d3 _ _ (by omega), rd_wr_n (by omega), b3 _ _ (by omega) (by omega), a3 _ _ (by omega), rd_wr_s]
      rfl
    · rw [f2 6 (by omega), e3 _ _ (by omega) (by omega) (by omega), d2 6 (by omega), rd_wr_s]
      rfl
  by_cases z : alk (chE n nd cl wi bi gv N w T (fun i => rd μ 34 i)) m 0 = m
  · rw [if_pos z] at b2 M0
    subst b2
    exact oks_go (by rw [X0]; rfl) M0 RR
  · rw [if_neg z] at b2 M0
    subst b2
    exact oks_go (by rw [X0]; rfl) M0 RR
