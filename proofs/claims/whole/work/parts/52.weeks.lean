/-! PURE: tells, weeks -/
theorem rel_new {μ μ2 : Mem} {n N w : Nat} {nd cl wi wt : Nat → Nat} {bi : Nat → Int32} {T : Nat → Dt} (h : Rel μ) (F : FX μ 2 n nd cl wi wt bi) (F1 : FM μ 106 n nd cl wi wt bi) (V : FW n nd cl wi wt bi) (hx : ∀ k j, ¬ (14 ≤ k ∧ k < 16 + 3 * N) → ¬ (k = 106 ∧ (j = 3 ∨ 50 ≤ j ∧ j < 134)) → ¬ (69 ≤ k ∧ k ≤ 91 ∨ k = 95 ∨ k = 105 ∧ j ≠ 3 ∧ j ≠ 12 ∧ j ≠ 20 ∨ k = 108 ∨ 110 ≤ k ∧ k ≤ 114 ∨ k = 119 ∨ k = 10 ∨ k = 13) → rd μ2 k j = rd μ k j) (H : TXt μ2 14 N w T) (M : TMt μ2 106 N w T) (W : TWt n N w T) (hw : w ≤ 999) : Rel μ2 := by
  have N4 := W.1
  refine R2_FT h (fun k j c d => hx k j (by omega) (by omega) d) (fun p hp => ?_) (T_RFT (FX_cg (fun k j a b => hx k j (by omega) (by omega) (by omega)) F) (FM_cg V.1 (fun j a => hx _ j (by omega) (by omega) (by omega)) F1) V H M W hw)
  by_cases z : p < N
  · have e : rd μ2 (14 + 2 + 3 * p) 7 = nI (dr (T p)) := (H.2.2 p z).2.2.2.2.2.1
    have := (W.2.2 p z).2.2.2.1
    rw [e]
    by_cases y : dr (T p) = 0
    · rw [y]; rfl
    · rw [show dr (T p) = 1 by omega]; rfl
  · rw [hx _ _ (by omega) (by omega) (by omega)]
    exact h.1.1.1 p hp
theorem e_canX {μ : Mem} {n N w : Nat} {nd cl wi wt : Nat → Nat} {bi : Nat → Int32} {T : Nat → Dt} (F : FX μ 2 n nd cl wi wt bi) (V : FW n nd cl wi wt bi) (H : TXt μ 14 N w T) (W : TWt n N w T) {p f : Nat} (hp : p < N) (hf : f < n) : f_X11_canTell μ 0 (nI p) (nI f) = some (b2 (decide (dr (T p) = 0) && mayD nd cl (oth (fun q => dB (T q)) p N) (T p) f)) := by
  have N4 := W.1
  have n8 := V.1
  have p4 : p < 4 := by omega
  obtain ⟨p1, p2, p3, p4', p5, p6, p7⟩ := H.2.2 p hp
  obtain ⟨d1, d2, d3, d4, d5, d6, d7⟩ := W.2.2 p hp
  have c1 : rd μ 14 3 = nI N := H.1
  have c2 : rd μ 2 5 = nI n := F.1
  unfold f_X11_canTell
  rw [e_isDebX c1, bd_s, if_pos ((isF_iff (by omega)).mpr ⟨p, hp, rfl⟩), if_neg (by decide), e_isFactX c2, bd_s, if_pos ((isF_iff (by omega)).mpr ⟨f, hf, rfl⟩), if_neg (by decide), ib_nI p4 (by omega), if_pos rfl]
  simp only [rfs, tn_nI (show p < 2 ^ 31 by omega), rf_15 p4]
  have e7 : rd μ (16 + 3 * p) 7 = nI (dr (T p)) := p6
  rw [e7, e_mayT (Or.inl rfl) F V hp H W, bd_s, shr_b (bts_lt _ _ n8) (by omega), bts_tb, decide_eq_true hf, Bool.true_and]
  by_cases z : dr (T p) = 0
  · rw [z, if_neg (not_not_intro (show nI 0 = 0 from rfl)), decide_eq_true rfl, Bool.true_and]
    cases mayD nd cl (oth (fun q => dB (T q)) p N) (T p) f
    · rw [if_pos (by decide)]; rfl
    · rw [if_neg (by decide)]; rfl
  · rw [if_pos (nI_ne0 (by omega) (by omega)), decide_eq_false z]
    rfl
theorem sh_tells : SH_tells Rel := by
  intro μ h a x
  show OKS (f_X11_tells μ 0 a x) (fun m => f_X12_tells m 105 a x)
  obtain ⟨n, nd, cl, wi, wt, bi, N, w, T, gv, ⟨F, F1, V⟩, H, M, W, w9, L1, L2⟩ := rel_T h
  have N4 := W.1
  have n8 := V.1
  have c1 : rd μ 14 3 = nI N := H.1
  have c2 : rd μ 106 1 = nI N := M.1
  have c3 : rd μ 2 5 = nI n := F.1
  have c4 : rd μ 106 0 = nI n := F1.1
  by_cases g : ((0 : Int32) ≤ a ∧ a ≤ nI N - 1) ∧ ((0 : Int32) ≤ x ∧ x ≤ nI n - 1)
  · obtain ⟨g1, g2⟩ := g
    obtain ⟨p, hp, rfl⟩ := (isF_iff (by omega)).mp g1
    obtain ⟨f, hf, rfl⟩ := (isF_iff (by omega)).mp g2
    have p4 : p < 4 := by omega
    obtain ⟨q1, q2, q3, q4, q5, q6⟩ := M.2.2 p hp
    obtain ⟨d1, d2, d3, d4, d5, d6, d7⟩ := W.2.2 p hp
    have C := e_canX F V H W hp hf
    have MT : ∀ μ1, RX μ μ1 → f_X12_tells μ1 105 (nI p) (nI f) = if (decide (dr (T p) = 0) && mayD nd cl (oth (fun q => dB (T q)) p N) (T p) f) = true then (f_X12_tellsNow μ1 105 (nI p) (nI f)).bind fun μ50 => (f_X12_of μ50 105 (nI p) 2).bind fun r56 => some (r56, μ50) else f_X12_finds μ1 105 3 := by
      intro μ1 hR
      have M1 := TMt_cg N4 (TW_s W) (fun j _ => hR 106 j (by omega)) M
      have F1' := FM_cg V.1 (fun j _ => hR 106 j (by omega)) F1
      obtain ⟨q1, q2, q3, q4, q5, q6⟩ := M1.2.2 p hp
      unfold f_X12_tells f_X12_tells_j41
      rw [e_isDebM M1.1, bd_s, if_pos g1, if_neg (by decide), e_isFactM F1'.1, bd_s, if_pos g2, if_pos (by decide), (e_ofs p4 μ1).2.2.2.1, bd_s, q4, e_mayTM F1' V hp M1 W hf, bd_s, bd_p]
      by_cases z : dr (T p) = 0
      · rw [z, if_neg (by decide), decide_eq_true rfl, Bool.true_and]
        cases mayD nd cl (oth (fun q => dB (T q)) p N) (T p) f
        · rw [if_neg (by decide), if_neg (by decide)]
        · rw [if_pos (by decide), if_pos rfl]
      · rw [show dr (T p) = 1 by omega, if_pos (by decide)]
        rfl
    have X : f_X11_tells μ 0 (nI p) (nI f) = if (decide (dr (T p) = 0) && mayD nd cl (oth (fun q => dB (T q)) p N) (T p) f) = true then (f_X8_write μ 14 (nI p) (nI f)).bind fun μ46 => some (rd μ46 (16 + 3 * p) 6, μ46) else f_X11_refuse μ 0 3 := by
      unfold f_X11_tells
      rw [e_isDebX c1, bd_s, if_pos g1, if_neg (by decide), e_isFactX c3, bd_s, if_pos g2, if_pos (by decide), C, bd_s, ib_nI p4 (by omega), bd_p]
      simp only [rfs, tn_nI (show p < 2 ^ 31 by omega), rf_15 p4, if_true]
      cases (decide (dr (T p) = 0) && mayD nd cl (oth (fun q => dB (T q)) p N) (T p) f)
      · rw [if_neg (by decide), if_neg (by decide)]
      · rw [if_pos (by decide), if_pos rfl]
    by_cases e : (decide (dr (T p) = 0) && mayD nd cl (oth (fun q => dB (T q)) p N) (T p) f) = true
    · rw [if_pos e] at X
      rw [Bool.and_eq_true, decide_eq_true_eq] at e
      have nb := may_nb e.2
      obtain ⟨μ1, a1, a2, a3⟩ := e_writeX (Or.inl rfl) n8 hp L1 H W hf nb
      have hR : RX μ μ1 := fun k j hk => a3 k j (by omega) (by omega)
      have M1 := TMt_cg N4 (TW_s W) (fun j _ => hR 106 j (by omega)) M
      obtain ⟨μ2, b1, b2, b3⟩ := e_tellM n8 hp (LwM_cg (fun j _ => hR 106 j (by omega)) L2) M1 W hf nb
      have MT1 := MT μ1 hR
      rw [if_pos (by rw [Bool.and_eq_true, decide_eq_true_eq]; exact e), b1, bd_s, (e_ofs p4 μ2).2.2.1, bd_s] at MT1
      have r1 := (b2.2.2 p hp).2.2.1
      rw [up_s] at r1
      have r2 := (a2.2.2 p hp).2.2.2.2.1
      rw [up_s] at r2
      have r2 : rd μ1 (16 + 3 * p) 6 = _ := r2
      rw [a1, bd_s, r2] at X
      rw [r1] at MT1
      have W2 := TW_up (p := p) W (DW_tell (gv := gv) n8 (W.2.2 p hp) hf nb).1
      exact oks_go X MT1 (rel_new h F F1 V (fun k j c d s => by rw [b3 k j (by omega) (by omega) (by omega), a3 k j (by omega) (by omega)]) (TXt_cg N4 (fun k j c d => b3 k j (by omega) (by omega) (by omega)) a2) b2 W2 w9)
    · rw [if_neg e] at X
      refine oks_ref (k := 3) h (by omega) X ?_
      intro μ1 hR
      show f_X12_tells μ1 105 _ _ = _
      rw [MT μ1 hR, if_neg e]
      rfl
  · refine oks_ref (k := 1) h (by omega) ?_ ?_
    · unfold f_X11_tells f_X11_tells_j16
      simp only [e_isDebX c1, e_isFactX c3, bd_s, if10, bd_p, i00, i10]
      by_cases g1 : (0 : Int32) ≤ a ∧ a ≤ nI N - 1
      · have g2 : ¬ ((0 : Int32) ≤ x ∧ x ≤ nI n - 1) := fun q => g ⟨g1, q⟩
        simp only [g1, g2, and_self, not_true, if_false, not_false_eq_true, if_true]
        rfl
      · simp only [g1, not_false_eq_true, if_true]
        rfl
    · intro μ1 hR
      show f_X12_tells μ1 105 _ _ = _
      unfold f_X12_tells f_X12_tells_j16
      have c5 : rd μ1 106 1 = nI N := by rw [hR _ _ (by omega), c2]
      have c6 : rd μ1 106 0 = nI n := by rw [hR _ _ (by omega), c4]
      simp only [e_isDebM c5, e_isFactM c6, bd_s, if10, bd_p, i00, i10]
      by_cases g1 : (0 : Int32) ≤ a ∧ a ≤ nI N - 1
      · have g2 : ¬ ((0 : Int32) ≤ x ∧ x ≤ nI n - 1) := fun q => g ⟨g1, q⟩
        simp only [g1, g2, and_self, not_true, if_false, not_false_eq_true, if_true]
        rfl
      · simp only [g1, not_false_eq_true, if_true]
        rfl
/-- the model's weeks one by one: what stays -/
def WF (μ μ2 : Mem) : Prop := ∀ k j, k ≠ 110 → ¬ (k = 105 ∧ 5 ≤ j ∧ j ≤ 10) → ¬ (k = 106 ∧ (j = 3 ∨ 50 ≤ j ∧ j < 134)) → rd μ2 k j = rd μ k j
theorem WF_tr {μ μ1 μ2 : Mem} (h1 : WF μ μ1) (h2 : WF μ1 μ2) : WF μ μ2 := fun k j a b c => by rw [h2 k j a b c, h1 k j a b c]
theorem WF_FM {μ μ2 : Mem} {n : Nat} {nd cl wi wt : Nat → Nat} {bi : Nat → Int32} (hn : n ≤ 8) (h : WF μ μ2) (F : FM μ 106 n nd cl wi wt bi) : FM μ2 106 n nd cl wi wt bi := FM_cg hn (fun j _ => h _ _ (by omega) (by omega) (by omega)) F
theorem WF_LM {μ μ2 : Mem} {gv : Nat → Nat → Nat → Nat} (h : WF μ μ2) (L : LwM μ gv) : LwM μ2 gv := LwM_cg (fun j _ => h _ _ (by omega) (by omega) (by omega)) L
theorem rd_same (μ : Mem) (k j : Nat) (v : Int32) (h : rd μ k j = v) : ∀ a b, rd (wr μ k j v) a b = rd μ a b := by
  intro a b
  rw [rd_wr]
  by_cases e : a = k ∧ b = j
  · rw [if_pos e, e.1, e.2, h]
  · rw [if_neg e]
theorem weeksM {n N w : Nat} {nd cl wi wt : Nat → Nat} {bi : Nat → Int32} {gv : Nat → Nat → Nat → Nat} {T : Nat → Dt} {μ : Mem} (F : FM μ 106 n nd cl wi wt bi) (V : FW n nd cl wi wt bi) (h12 : rd μ 105 12 = -1) (L : LwM μ gv) (H : TMt μ 106 N w T) (W : TWt n N w T) (k : Nat) (hk : w + k ≤ 5000) : ∃ μ2, lp (fun s => f_X12_passes_l40 105 (nI k) 0 s.1 s.2) FU ((0 : Int32), μ) = some μ2 ∧ TMt μ2 106 N (w + k) (wksT n nd cl wi bi gv N w 9 0 k T) ∧ WF μ μ2 := by
  refine lp_I (fun j s => s.1 = nI j ∧ TMt s.2 106 N (w + j) (wksT n nd cl wi bi gv N w 9 0 j T) ∧ WF μ s.2) k _ (by omega) ⟨rfl, H, fun _ _ _ _ _ => rfl⟩ ?_ ?_
  · rintro j ⟨v, m⟩ hj ⟨e1, e2, e3⟩
    simp only at e1 e2 e3
    subst e1
    have W1 := TW_wks (nd := nd) (cl := cl) (wi := wi) (bi := bi) (gv := gv) (r0 := 9) (r := 0) V.1 W j (by omega)
    have N4 := W.1
    have F1 := WF_FM V.1 e3 F
    have hb : ∃ m0, f_X12_passes_l40 105 (nI k) 0 (nI j) m = f_X12_passes_j105 m0 105 (nI k) 0 (nI j) ∧ ∀ a b, rd m0 a b = rd m a b := by
      unfold f_X12_passes_l40 f_X12_passes_j59 f_X12_passes_j76
      rw [if_neg (nI_ge hj (by omega)), if_pos rfl, if_pos rfl, e_isDebM e2.1, bd_s]
      by_cases z : 0 < N
      · have g0 : (0 : Int32) ≤ 0 ∧ (0 : Int32) ≤ nI N - 1 := (isF_iff (by omega)).mpr ⟨0, z, rfl⟩
        obtain ⟨q1, q2, q3, q4, q5, q6⟩ := e2.2.2 0 z
        obtain ⟨d1, d2, d3, d4, d5, d6, d7⟩ := W1.2.2 0 z
        have o3 : f_X12_of m 105 0 3 = some (nI (dr (wksT n nd cl wi bi gv N w 9 0 j T 0))) := by
          have := (e_ofs (show 0 < 4 by omega) m).2.2.2.1
          rw [q4] at this
          exact this
        rw [if_pos g0, if_neg (by decide), o3, bd_s]
        by_cases y : dr (wksT n nd cl wi bi gv N w 9 0 j T 0) = 0
        · rw [y, if_neg (not_not_intro (show nI 0 = 0 from rfl))]
          have L0 : f_X12_lends m 105 0 0 = _ := e_lends (p := 0) (x := 0) (by omega) q3 (by omega) (by omega)
          rw [L0, bd_s]
          refine ⟨_, rfl, rd_same m _ _ _ ?_⟩
          rw [q3, Nat.add_zero, Nat.min_eq_right (by omega)]
        · rw [if_pos (nI_ne0 (by omega) (by omega))]
          exact ⟨m, rfl, fun _ _ => rfl⟩
      · have g0 : ¬ ((0 : Int32) ≤ 0 ∧ (0 : Int32) ≤ nI N - 1) := fun q => by
          obtain ⟨i, hi, _⟩ := (isF_iff (by omega)).mp q
          omega
        rw [if_neg g0, if_pos rfl]
        exact ⟨m, rfl, fun _ _ => rfl⟩
    obtain ⟨m0, b1, b2⟩ := hb
    have F2 : FM m0 106 n nd cl wi wt bi := FM_cg V.1 (fun j _ => b2 _ _) F1
    have e2' := TMt_cg (μ' := m0) N4 (TW_s W1) (fun j _ => b2 _ _) e2
    obtain ⟨m1, x1, x2, x3⟩ := e_weekM (r0 := 9) (r := 0) (a1 := -1) F2 V (by rw [b2, e3 _ _ (by omega) (by omega) (by omega)]; exact h12) m1_no (fun z => by omega) (by omega) (LwM_cg (fun j _ => b2 _ _) (WF_LM e3 L)) e2' W1
    refine ⟨(nI (j + 1), m1), ?_, rfl, x2, fun k' i a b c => ?_⟩
    · show f_X12_passes_l40 105 (nI k) 0 (nI j) m = _
      rw [b1]
      unfold f_X12_passes_j105
      rw [x1, bd_s, nI_1]
    · simp only
      rw [x3 k' i a b c, b2, e3 k' i a b c]
  · rintro ⟨v, m⟩ ⟨e1, e2, e3⟩
    simp only at e1 e2 e3
    subst e1
    refine ⟨m, ?_, e2, e3⟩
    show f_X12_passes_l40 105 (nI k) 0 (nI k) m = _
    unfold f_X12_passes_l40
    rw [if_pos (nI_le (Nat.le_refl _) (by omega))]
theorem e_brokX {μ : Mem} {t n N w : Nat} {T : Nat → Dt} (ht : t = 14 ∨ t = 69) (H : TXt μ t N w T) (W : TWt n N w T) : f_X8_broken μ t = some (nI (sm (fun p => dr (T p)) N)) := e_brokenX ht W.1 (TX_T n H) (fun p hp => (W.2.2 p hp).2.2.2.1)
theorem e_brokM {μ : Mem} {n N w : Nat} {T : Nat → Dt} (H : TMt μ 106 N w T) (W : TWt n N w T) : f_X12_brokenMany μ 105 = some (nI (sm (fun p => dr (T p)) N)) := e_brokenM W.1 (TM_T n H)
theorem le999 {a b : Nat} (ha : a < 100000) (hb : b < 100000) : (nI a + nI b ≤ 999) = (a + b ≤ 999) := by
  rw [nI_add]
  exact propext (nI_leI (b := 999) (by omega) (by omega))
theorem sh_weeks : SH_weeks Rel := by
  intro μ h a
  show OKS (f_X11_weeks μ 0 a) (fun m => f_X12_weeks m 105 a)
  obtain ⟨n, nd, cl, wi, wt, bi, N, w, T, gv, ⟨F, F1, V⟩, H, M, W, w9, L1, L2⟩ := rel_T h
  have N4 := W.1
  have n8 := V.1
  by_cases g : (1 : Int32) ≤ a ∧ a ≤ 60
  · obtain ⟨k, k0, k60, rfl⟩ := upto1 (n := 60) (by omega) g
    have c1 : rd μ 14 4 = nI w := H.2.1
    have c2 : rd μ 106 3 = nI w := M.2.1
    have le := le999 (a := w) (b := k) (by omega) (by omega)
    by_cases g2 : w + k ≤ 999
    · obtain ⟨μ1, a1, a2, a3⟩ := e_weeksX (k := k) (Or.inl rfl) F V (by omega) L1 H W
      have hR : RX μ μ1 := fun k j hk => a3 k j (by omega) (by omega)
      obtain ⟨μ2, b1, b2, b3⟩ := weeksM (FM_cg n8 (fun j _ => hR 106 j (by omega)) F1) V ((hR 105 12 (by omega)).trans h.2.2.2.2.2.1) (LwM_cg (fun j _ => hR 106 j (by omega)) L2) (TMt_cg N4 (TW_s W) (fun j _ => hR 106 j (by omega)) M) W k (by omega)
      have W2 := TW_wks (nd := nd) (cl := cl) (wi := wi) (bi := bi) (gv := gv) (r0 := 9) (r := 0) n8 W k (by omega)
      refine oks_go (μ1 := μ1) (μ2 := μ2) (r := nI (sm (fun p => dr (wksT n nd cl wi bi gv N w 9 0 k T p)) N)) ?_ ?_ ?_
      · unfold f_X11_weeks
        simp only [rfs]
        rw [e_among, bd_s, if_pos g, if_pos (by decide), c1, if_pos (le.mpr g2), a1, bd_s, e_brokX (Or.inl rfl) a2 W2, bd_s]
      · show f_X12_weeks μ1 105 _ = _
        unfold f_X12_weeks f_X12_passes
        simp only [rfs, cls]
        rw [show f_X12_in (nI k).toInt64 1 60 = _ from e_in (nI k) 1 60, bd_s, if_pos g, if_pos (by decide), hR _ _ (by omega), c2, if_pos (le.mpr g2), b1, bd_s, e_brokM b2 W2, bd_s, bd_s]
      · exact rel_new h F F1 V (fun k j c d s => by rw [b3 k j (by omega) (by omega) (by omega), a3 k j (by omega) (by omega)]) (TXt_cg N4 (fun k j c d => b3 k j (by omega) (by omega) (by omega)) a2) b2 W2 g2
    · refine oks_ref (k := 3) h (by omega) ?_ ?_
      · unfold f_X11_weeks
        simp only [rfs]
        rw [e_among, bd_s, if_pos g, if_pos (by decide), c1, if_neg (fun z => g2 (le.mp z)), bd_p]
        rfl
      · intro μ1 hR
        show f_X12_weeks μ1 105 _ = _
        unfold f_X12_weeks f_X12_passes
        simp only [rfs, cls]
        rw [bd_p, show f_X12_in (nI k).toInt64 1 60 = _ from e_in (nI k) 1 60, bd_s, if_pos g, if_pos (by decide), hR _ _ (by omega), c2, if_neg (fun z => g2 (le.mp z)), bd_p]
        rfl
  · refine oks_ref (k := 1) h (by omega) ?_ ?_
    · unfold f_X11_weeks
      rw [e_among, bd_s, if_neg g, if_neg (by decide), bd_p]
      rfl
    · intro μ1 hR
      show f_X12_weeks μ1 105 _ = _
      unfold f_X12_weeks f_X12_passes
      rw [bd_p, show f_X12_in a.toInt64 1 60 = _ from e_in a 1 60, bd_s, if_neg g, if_neg (by decide), bd_p]
      rfl
