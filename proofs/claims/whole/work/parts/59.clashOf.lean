/-! PURE: clashOf -/
theorem shl_8 : ∀ n, n < 9 → jshl 1 (nI n) - 1 = nI (2 ^ n - 1) := by decide +kernel
def hiB (y f : Nat) : Nat := y / 2 ^ (f + 1) * 2 ^ (f + 1)
theorem hi_all : ∀ y, y < 256 → ∀ f, f < 8 → (nI y &&& jshl (-2) (nI f)) = nI (hiB y f) := by decide +kernel
theorem hi_tb : ∀ f, f < 8 → ∀ y, y < 256 → hiB y f < 256 ∧ ∀ k, k < 8 → (hiB y f).testBit k = (decide (f < k) && y.testBit k) := by decide +kernel
/-- behind f, the first with which it clashes in a set -/
def nxE (cl : Nat → Nat) (x f b : Nat) : Bool := x.testBit f && x.testBit b && (cl f).testBit b
def nx (cl : Nat → Nat) (n x f : Nat) : Nat := alk (fun b => !nxE cl x f b) (n - (f + 1)) (f + 1)
theorem nx_spec {cl : Nat → Nat} {n x f : Nat} (hf : f < n) : (∀ b, f < b → b < nx cl n x f → nxE cl x f b = false) ∧ f < nx cl n x f ∧ nx cl n x f ≤ n ∧ (nx cl n x f < n → nxE cl x f (nx cl n x f) = true) := by
  obtain ⟨h1, h2, h3, h4⟩ := alk_spec (fun b => !nxE cl x f b) (n - (f + 1)) (f + 1)
  refine ⟨fun b a c => ?_, h2, by unfold nx; omega, fun h => ?_⟩
  · have := h1 b a c
    simpa using this
  · have := h4 (by unfold nx at h; omega)
    unfold nx
    simpa using this
theorem lt_tb {x n b : Nat} (hx : x < 2 ^ n) (h : x.testBit b = true) : b < n := by
  by_cases z : b < n
  · exact z
  · rw [Nat.testBit_lt_two_pow (Nat.lt_of_lt_of_le hx (Nat.pow_le_pow_right (by omega) (by omega)))] at h
    cases h
theorem e_fcX {μ : Mem} {n : Nat} {nd cl wi wt : Nat → Nat} {bi : Nat → Int32} (H : FX μ 2 n nd cl wi wt bi) (V : FW n nd cl wi wt bi) {x : Nat} (hx : x < 2 ^ n) : f_X1_firstClash μ 2 (nI x) = some (if fstE (fun f => decide (nx cl n x f < n)) n < n then nI (10 * fstE (fun f => decide (nx cl n x f < n)) n + nx cl n x (fstE (fun f => decide (nx cl n x f < n)) n)) else -1) := by
  have n8 := V.1
  have x8 : x < 256 := Nat.lt_of_lt_of_le hx (Nat.pow_le_pow_right (n := 2) (by omega) (show n ≤ 8 from n8))
  have later : ∀ f, f < n → f_X1_firstClash_l2 μ 2 (nI x) (nI f) = if nx cl n x f < n then some (.inr (.inl (nI f, nI (hiB (cl f &&& x) f)))) else some (.inl (nI (f + 1))) := by
    intro f hf
    obtain ⟨p1, p2, p3, p4, p5⟩ := H.2 f hf
    obtain ⟨v1, v2, v3, v4, v5⟩ := V.2 f hf
    have f8 : f < 8 := by omega
    have c8 := and_256 (b := x) v2
    obtain ⟨s1, s2, s3, s4⟩ := nx_spec (cl := cl) (x := x) hf
    obtain ⟨t1, t2⟩ := hi_tb f f8 (cl f &&& x) c8
    unfold f_X1_firstClash_l2
    rw [H.1, if_neg (nI_ge hf (by omega)), ib_nI f8 (by omega), if_pos rfl, shr_b x8 f8, tn_nI (by omega)]
    simp only [rfs]
    rw [show rd μ 4 f = nI (cl f) from p2, nI_and, hi_all _ c8 f f8, nI_1]
    cases e : x.testBit f
    · have hn : ¬ nx cl n x f < n := fun z => by
        have := s4 z
        rw [nxE, e] at this
        cases this
      rw [if_pos (show ¬ b2 false = 1 by decide), if_neg hn]
    · rw [if_neg (show ¬ ¬ b2 true = 1 by decide)]
      by_cases z : nx cl n x f < n
      · have hz : hiB (cl f &&& x) f ≠ 0 := by
          intro w
          have := t2 (nx cl n x f) (by omega)
          rw [w, Nat.zero_testBit, decide_eq_true s2, Bool.true_and, Nat.testBit_and] at this
          have h4 := s4 z
          rw [nxE, Bool.and_eq_true, Bool.and_eq_true] at h4
          rw [h4.2, h4.1.2] at this
          cases this
        rw [if_neg (nI_ne0 (by omega) (by omega)), if_pos z]
      · have hz : hiB (cl f &&& x) f = 0 := by
          apply Nat.eq_of_testBit_eq
          intro i
          rw [Nat.zero_testBit]
          by_cases i8 : i < 8
          · rw [t2 i i8]
            by_cases fi : f < i
            · rw [decide_eq_true fi, Bool.true_and, Nat.testBit_and]
              cases xi : x.testBit i
              · rw [Bool.and_false]
              · have i_n := lt_tb hx xi
                have := s1 i fi (by omega)
                rw [nxE, e, xi] at this
                rw [Bool.and_true]
                simpa using this
            · rw [decide_eq_false fi, Bool.false_and]
          · exact Nat.testBit_lt_two_pow (Nat.lt_of_lt_of_le t1 (Nat.pow_le_pow_right (n := 2) (by omega) (show 8 ≤ i by omega)))
        rw [if_pos (by rw [hz]; rfl), if_neg z]
  have lpX : ∀ r k fu, k + r = n → r < fu → (∀ i, i < k → ¬ nx cl n x i < n) → lp (fun q => f_X1_firstClash_l2 μ 2 (nI x) q) fu (nI k) = some (if fstE (fun f => decide (nx cl n x f < n)) n < n then .inl (nI (fstE (fun f => decide (nx cl n x f < n)) n), nI (hiB (cl (fstE (fun f => decide (nx cl n x f < n)) n) &&& x) (fstE (fun f => decide (nx cl n x f < n)) n))) else .inr ()) := by
    intro r
    induction r with
    | zero =>
      intro k fu hk hfu hn
      obtain ⟨fu', rfl⟩ : ∃ fu', fu = fu' + 1 := ⟨fu - 1, by omega⟩
      have hf : fstE (fun f => decide (nx cl n x f < n)) n = n := fstE_uniq (fun i hi => decide_eq_false (hn i (by omega))) (Nat.le_refl _) (fun h => by omega)
      rw [hf, if_neg (by omega), lp]
      show (f_X1_firstClash_l2 μ 2 (nI x) (nI k)).bind _ = _
      unfold f_X1_firstClash_l2
      rw [H.1, if_pos (nI_le (by omega) (by omega)), bd_s]
    | succ r ih =>
      intro k fu hk hfu hn
      obtain ⟨fu', rfl⟩ : ∃ fu', fu = fu' + 1 := ⟨fu - 1, by omega⟩
      rw [lp]
      show (f_X1_firstClash_l2 μ 2 (nI x) (nI k)).bind _ = _
      rw [later k (by omega)]
      by_cases z : nx cl n x k < n
      · have hf : fstE (fun f => decide (nx cl n x f < n)) n = k := fstE_uniq (fun i hi => decide_eq_false (hn i hi)) (by omega) (fun _ => decide_eq_true z)
        rw [if_pos z, bd_s, hf, if_pos (by omega)]
      · rw [if_neg z, bd_s]
        exact ih (k + 1) fu' (by omega) (by omega) (fun i hi => by
          by_cases e : i = k
          · rw [e]; exact z
          · exact hn i (by omega))
  have L := lpX n 0 FU (by omega) (by unfold FU; omega) (fun i hi => by omega)
  have L : lp (fun s => f_X1_firstClash_l2 μ 2 (nI x) s) FU (0 : Int32) = _ := L
  unfold f_X1_firstClash
  rw [L, bd_s]
  obtain ⟨a1, a2, a3⟩ := fstE_spec (fun f => decide (nx cl n x f < n)) n
  generalize hF : fstE (fun f => decide (nx cl n x f < n)) n = f at a1 a2 a3
  by_cases z : f < n
  · rw [if_pos z, if_pos z, Sum.elim_inl]
    have zz := of_decide_eq_true (a3 z)
    obtain ⟨s1, s2, s3, s4⟩ := nx_spec (cl := cl) (x := x) z
    have c8 := and_256 (b := x) (V.2 f z).2.1
    obtain ⟨t1, t2⟩ := hi_tb f (by omega) (cl f &&& x) c8
    have h4 := s4 zz
    rw [nxE, Bool.and_eq_true, Bool.and_eq_true] at h4
    have hz : hiB (cl f &&& x) f ≠ 0 := by
      intro w
      have := t2 (nx cl n x f) (by omega)
      rw [w, Nat.zero_testBit, decide_eq_true s2, Bool.true_and, Nat.testBit_and, h4.2, h4.1.2] at this
      cases this
    have hft : fstE (fun k => (hiB (cl f &&& x) f).testBit k) 8 = nx cl n x f := by
      refine fstE_uniq (fun i hi => ?_) (by omega) (fun _ => ?_)
      · rw [t2 i (by omega)]
        by_cases fi : f < i
        · rw [decide_eq_true fi, Bool.true_and, Nat.testBit_and]
          have := s1 i fi hi
          rw [nxE, h4.1.1] at this
          cases xi : x.testBit i
          · rw [Bool.and_false]
          · rw [xi] at this
            rw [Bool.and_true]
            simpa using this
        · rw [decide_eq_false fi, Bool.false_and]
      · rw [t2 _ (by omega), decide_eq_true s2, Bool.true_and, Nat.testBit_and, h4.2, h4.1.2]
        rfl
    simp only
    rw [ctzX _ t1 hz, bd_s, hft, show (10 : Int32) = nI 10 from rfl, pk_mul, nI_add]
  · rw [if_neg z, if_neg z, Sum.elim_inr]
theorem e_fcM {μ : Mem} {n : Nat} {nd cl wi wt : Nat → Nat} {bi : Nat → Int32} (H : FM μ 106 n nd cl wi wt bi) (V : FW n nd cl wi wt bi) {x : Nat} (hx : x < 2 ^ n) : lp (fun s => f_X12_clashOf_l28 μ 105 (nI x) s) FU (0 : Int32) = some (if fstE (fun f => decide (nx cl n x f < n)) n < n then .inl (nI (fstE (fun f => decide (nx cl n x f < n)) n), nI (nx cl n x (fstE (fun f => decide (nx cl n x f < n)) n))) else .inr ()) := by
  have n8 := V.1
  have x8 : x < 256 := Nat.lt_of_lt_of_le hx (Nat.pow_le_pow_right (n := 2) (by omega) (show n ≤ 8 from n8))
  have inner : ∀ f, f < n → ∀ r k fu, k + r = n → r < fu → lp (fun s => f_X12_clashOf_l42 μ 105 (nI x) (nI f) s) fu (nI k) = some (if alk (fun b => !nxE cl x f b) r k < n then .inl (nI (alk (fun b => !nxE cl x f b) r k)) else .inr ()) := by
    intro f hf r
    have f8 : f < 8 := by omega
    induction r with
    | zero =>
      intro k fu hk hfu
      obtain ⟨fu', rfl⟩ : ∃ fu', fu = fu' + 1 := ⟨fu - 1, by omega⟩
      rw [lp, alk, if_neg (by omega)]
      show (f_X12_clashOf_l42 μ 105 (nI x) (nI f) (nI k)).bind _ = _
      simp only [f_X12_clashOf_l42, rfs, cls]
      rw [H.1, if_pos (nI_le (by omega) (by omega)), bd_s]
    | succ r ih =>
      intro k fu hk hfu
      obtain ⟨fu', rfl⟩ : ∃ fu', fu = fu' + 1 := ⟨fu - 1, by omega⟩
      have k8 : k < 8 := by omega
      obtain ⟨v1, v2, v3, v4, v5⟩ := V.2 f hf
      have hs : f_X12_clashOf_l42 μ 105 (nI x) (nI f) (nI k) = if nxE cl x f k = true then some (.inr (.inl (nI k))) else some (.inl (nI (k + 1))) := by
        simp only [f_X12_clashOf_l42, rfs, cls]
        rw [H.1, if_neg (nI_ge (by omega) (by omega)), shr_b x8 f8, shr_b x8 k8, (e_itss f8 μ).2.1, bd_s, (H.2 f hf).2.1, shr_b v2 k8, nI_1]
        unfold nxE
        cases x.testBit f
        · rw [if_pos (show ¬ b2 false = 1 by decide)]; rfl
        · rw [if_neg (show ¬ ¬ b2 true = 1 by decide)]
          cases x.testBit k
          · rw [if_pos (show ¬ b2 false = 1 by decide)]; rfl
          · rw [if_neg (show ¬ ¬ b2 true = 1 by decide)]
            cases (cl f).testBit k
            · rw [if_pos (show ¬ b2 false = 1 by decide)]; rfl
            · rw [if_neg (show ¬ ¬ b2 true = 1 by decide)]; rfl
      rw [lp]
      show (f_X12_clashOf_l42 μ 105 (nI x) (nI f) (nI k)).bind _ = _
      rw [hs]
      cases e : nxE cl x f k
      · rw [if_neg (by decide), bd_s, alk_t (E := fun b => !nxE cl x f b) (by show (!nxE cl x f k) = true; rw [e]; rfl)]
        exact ih (k + 1) fu' (by omega) (by omega)
      · rw [if_pos rfl, bd_s, alk_f (E := fun b => !nxE cl x f b) (by show (!nxE cl x f k) = false; rw [e]; rfl), if_pos (by omega)]
  have outer : ∀ r k fu, k + r = n → r < fu → (∀ i, i < k → ¬ nx cl n x i < n) → lp (fun s => f_X12_clashOf_l28 μ 105 (nI x) s) fu (nI k) = some (if fstE (fun f => decide (nx cl n x f < n)) n < n then .inl (nI (fstE (fun f => decide (nx cl n x f < n)) n), nI (nx cl n x (fstE (fun f => decide (nx cl n x f < n)) n))) else .inr ()) := by
    intro r
    induction r with
    | zero =>
      intro k fu hk hfu hn
      obtain ⟨fu', rfl⟩ : ∃ fu', fu = fu' + 1 := ⟨fu - 1, by omega⟩
      have hf : fstE (fun f => decide (nx cl n x f < n)) n = n := fstE_uniq (fun i hi => decide_eq_false (hn i (by omega))) (Nat.le_refl _) (fun h => by omega)
      rw [hf, if_neg (by omega), lp]
      show (f_X12_clashOf_l28 μ 105 (nI x) (nI k)).bind _ = _
      simp only [f_X12_clashOf_l28, rfs, cls]
      rw [H.1, if_pos (nI_le (by omega) (by omega)), bd_s]
    | succ r ih =>
      intro k fu hk hfu hn
      obtain ⟨fu', rfl⟩ : ∃ fu', fu = fu' + 1 := ⟨fu - 1, by omega⟩
      rw [lp]
      show (f_X12_clashOf_l28 μ 105 (nI x) (nI k)).bind _ = _
      have I := inner k (by omega) (n - (k + 1)) (k + 1) FU (by omega) (by unfold FU; omega)
      have hs : f_X12_clashOf_l28 μ 105 (nI x) (nI k) = if nx cl n x k < n then some (.inr (.inl (nI k, nI (nx cl n x k)))) else some (.inl (nI (k + 1))) := by
        simp only [f_X12_clashOf_l28, rfs, cls]
        rw [H.1, if_neg (nI_ge (by omega) (by omega)), nI_1, I, bd_s]
        unfold nx
        by_cases z : alk (fun b => !nxE cl x k b) (n - (k + 1)) (k + 1) < n
        · rw [if_pos z, if_pos z, Sum.elim_inl]
        · rw [if_neg z, if_neg z, Sum.elim_inr]
      rw [hs]
      by_cases z : nx cl n x k < n
      · have hf : fstE (fun f => decide (nx cl n x f < n)) n = k := fstE_uniq (fun i hi => decide_eq_false (hn i hi)) (by omega) (fun _ => decide_eq_true z)
        rw [if_pos z, bd_s, hf, if_pos (by omega)]
      · rw [if_neg z, bd_s]
        exact ih (k + 1) fu' (by omega) (by omega) (fun i hi => by
          by_cases e : i = k
          · rw [e]; exact z
          · exact hn i (by omega))
  exact outer n 0 FU (by omega) (by unfold FU; omega) (fun i hi => by omega)
theorem sh_clashOf : SH_clashOf Rel := by
  intro μ h a
  show OKS (f_X11_clashOf μ 0 a) (fun m => f_X12_clashOf m 105 a)
  obtain ⟨n, nd, cl, wi, wt, bi, N, w, T, gv, ⟨F, F1, V⟩, H, M, W, w9, L1, L2⟩ := rel_T h
  have n8 := V.1
  have c3 : rd μ 2 5 = nI n := F.1
  have c4 : rd μ 106 0 = nI n := F1.1
  have s8 := shl_8 n (by omega)
  have p8 : 2 ^ n ≤ 256 := Nat.pow_le_pow_right (n := 2) (by omega) (show n ≤ 8 from n8)
  have p0 : 0 < 2 ^ n := Nat.two_pow_pos n
  by_cases g : (0 : Int32) ≤ a ∧ a ≤ nI (2 ^ n - 1)
  · obtain ⟨x, hx, rfl⟩ := upto (n := 2 ^ n - 1) (by omega) g
    have xl : x < 2 ^ n := by omega
    have X := e_fcX F V xl
    have hX : f_X11_clashOf μ 0 (nI x) = if fstE (fun f => decide (nx cl n x f < n)) n < n then some (nI (10 * fstE (fun f => decide (nx cl n x f < n)) n + nx cl n x (fstE (fun f => decide (nx cl n x f < n)) n)), μ) else f_X11_refuse μ 0 2 := by
      unfold f_X11_clashOf
      simp only [rfs]
      rw [c3, s8, e_among, bd_s, if_pos g, if_pos (by decide), X, bd_s, bd_p]
      by_cases z : fstE (fun f => decide (nx cl n x f < n)) n < n
      · obtain ⟨s1, s2, s3, s4⟩ := nx_spec (cl := cl) (x := x) z
        rw [if_pos z, if_pos (nI_pos' (by omega)), if_pos z]
      · rw [if_neg z, if_neg (by decide), if_neg z]
    have hM : ∀ μ1, RX μ μ1 → f_X12_clashOf μ1 105 (nI x) = if fstE (fun f => decide (nx cl n x f < n)) n < n then some (nI (10 * fstE (fun f => decide (nx cl n x f < n)) n + nx cl n x (fstE (fun f => decide (nx cl n x f < n)) n)), μ1) else f_X12_finds μ1 105 2 := by
      intro μ1 hR
      have F2 := FM_cg n8 (fun j _ => hR 106 j (by omega)) F1
      unfold f_X12_clashOf
      simp only [rfs, cls]
      rw [F2.1, s8, e_in0, bd_s, if_pos g, if_pos (by decide), e_fcM F2 V xl, bd_s]
      by_cases z : fstE (fun f => decide (nx cl n x f < n)) n < n
      · rw [if_pos z, if_pos z, Sum.elim_inl, show (10 : Int32) = nI 10 from rfl, pk_mul, nI_add]
      · rw [if_neg z, if_neg z, Sum.elim_inr, bd_p]
    by_cases z : fstE (fun f => decide (nx cl n x f < n)) n < n
    · rw [if_pos z] at hX
      exact oks_go hX (by show f_X12_clashOf μ 105 _ = _; rw [hM μ (fun _ _ _ => rfl), if_pos z]) h
    · rw [if_neg z] at hX
      refine oks_ref (k := 2) h (by omega) hX ?_
      intro μ1 hR
      show f_X12_clashOf μ1 105 _ = _
      rw [hM μ1 hR, if_neg z]
      rfl
  · refine oks_ref (k := 1) h (by omega) ?_ ?_
    · unfold f_X11_clashOf
      simp only [rfs]
      rw [c3, s8, e_among, bd_s, if_neg g, if_neg (by decide), bd_p]
      rfl
    · intro μ1 hR
      show f_X12_clashOf μ1 105 _ = _
      unfold f_X12_clashOf
      simp only [rfs, cls]
      rw [hR _ _ (by omega), c4, s8, e_in0, bd_s, if_neg g, if_neg (by decide), bd_p]
      rfl
