/-! PURE: joined -/
theorem joinedM {μ1 : Mem} {n N w : Nat} {nd cl wi wt : Nat → Nat} {bi : Nat → Int32} {kd m db br s : Nat → Nat} {bk wk : Nat → Nat → Nat} (N4 : N ≤ 4) (F1 : FM μ1 106 n nd cl wi wt bi) (V : FW n nd cl wi wt bi) (T : TM μ1 106 n N w kd m db br s bk wk) (B1 : ∀ p, p < N → s p ≤ 8 ∧ ∀ i, i < s p → bk p i < 8) (B2 : ∀ p, p < N → bks (bk p) (s p) < 256) {p q : Nat} (hp : p < N) (hq : q < N) (hpq : ¬ p = q) : f_X12_joined μ1 105 (nI p) (nI q) = if anyF (clE cl (bks (bk p) (s p)) (bks (bk q) (s q))) n 0 = true then f_X12_finds μ1 105 2 else some (nI (bks (bk p) (s p)) ||| nI (bks (bk q) (s q)), μ1) := by
  have p4 : p < 4 := by omega
  have q4 : q < 4 := by omega
  have c3 : rd μ1 106 1 = nI N := T.1
  obtain ⟨r1, r2, r3, r4, r5, r6⟩ := T.2.2 p hp
  obtain ⟨t1, t2, t3, t4, t5, t6⟩ := T.2.2 q hq
  have e1 := e_bookOf (μ := μ1) p4 (B1 p hp).1 r5 (fun i hi => ⟨(r6 i hi).1, (B1 p hp).2 i hi⟩)
  have e2 := e_bookOf (μ := μ1) q4 (B1 q hq).1 t5 (fun i hi => ⟨(t6 i hi).1, (B1 q hq).2 i hi⟩)
  have e3 := e_clM F1 V (B2 p hp) (B2 q hq) (nI p) (nI q)
  have g1 : (0 : Int32) ≤ nI p ∧ nI p ≤ nI N - 1 := (isF_iff (by omega)).mpr ⟨p, hp, rfl⟩
  have g2 : (0 : Int32) ≤ nI q ∧ nI q ≤ nI N - 1 := (isF_iff (by omega)).mpr ⟨q, hq, rfl⟩
  have g3 : ¬ nI p = nI q := fun e => hpq ((nI_eq (by omega) (by omega)).mp e)
  unfold f_X12_joined
  rw [e_isDebM c3, e_isDebM c3, bd_s, if_pos g1, if_neg (by decide), bd_s, if_pos g2, if_neg (by decide), if_pos g3, e1, bd_s, e2, bd_s, e3, bd_s]
  by_cases e : anyF (clE cl (bks (bk p) (s p)) (bks (bk q) (s q))) n 0 = true
  · rw [if_pos e, if_pos e, Sum.elim_inl, bd_p]
  · rw [if_neg e, if_neg e, Sum.elim_inr]
theorem joinedX {μ : Mem} {n N w : Nat} {nd cl wi wt : Nat → Nat} {bi : Nat → Int32} {kd m db br s : Nat → Nat} {bk wk : Nat → Nat → Nat} (N4 : N ≤ 4) (F1 : FX μ 2 n nd cl wi wt bi) (V : FW n nd cl wi wt bi) (T : TX μ 14 n N w kd m db br s bk wk) (B2 : ∀ p, p < N → bks (bk p) (s p) < 256) {p q : Nat} (hp : p < N) (hq : q < N) (hpq : ¬ p = q) : f_X11_joined μ 0 (nI p) (nI q) = if anyF (clE cl (bks (bk p) (s p)) (bks (bk q) (s q))) n 0 = true then f_X11_refuse μ 0 2 else some (nI (bks (bk p) (s p)) ||| nI (bks (bk q) (s q)), μ) := by
  have p4 : p < 4 := by omega
  have q4 : q < 4 := by omega
  have c1 : rd μ 14 3 = nI N := T.1
  have P : rd μ (16 + 3 * p) 2 = nI (bks (bk p) (s p)) := (e_debX (Or.inl rfl) N4 T hp).1
  have Q : rd μ (16 + 3 * q) 2 = nI (bks (bk q) (s q)) := (e_debX (Or.inl rfl) N4 T hq).1
  have X := e_clX F1 V (B2 p hp) (B2 q hq)
  have g1 : (0 : Int32) ≤ nI p ∧ nI p ≤ nI N - 1 := (isF_iff (by omega)).mpr ⟨p, hp, rfl⟩
  have g2 : (0 : Int32) ≤ nI q ∧ nI q ≤ nI N - 1 := (isF_iff (by omega)).mpr ⟨q, hq, rfl⟩
  have g3 : ¬ nI p = nI q := fun e => hpq ((nI_eq (by omega) (by omega)).mp e)
  unfold f_X11_joined
  rw [e_isDebX c1, e_isDebX c1, bd_s, if_pos g1, if_neg (by decide), bd_s, if_pos g2, if_neg (by decide), if_pos g3]
  simp only [ib_nI p4 (by omega), ib_nI q4 (by omega), tn_nI (show p < 2 ^ 31 by omega), tn_nI (show q < 2 ^ 31 by omega), rfs, rf_15 p4, rf_15 q4, P, Q, X, bd_p, if_true, bd_s]
  by_cases e : anyF (clE cl (bks (bk p) (s p)) (bks (bk q) (s q))) n 0 = true
  · simp only [e, if_true, i10, not_false_eq_true, if_false]
  · simp only [e, if_true, i00, i10, not_true, if_false]
    first | done | simp only [Bool.false_eq_true, if_false, not_true, i00, if_true]
theorem sh_joined : SH_joined Rel := by
  intro μ h a c
  show OKS (f_X11_joined μ 0 a c) (fun m => f_X12_joined m 105 a c)
  obtain ⟨n, nd, cl, wi, wt, bi, N, w, kd, m, db, br, s, bk, wk, H⟩ := h.1.1.2
  have H : PFT μ 2 14 μ 106 999 n nd cl wi wt bi N w kd m db br s bk wk := H
  have N4 : N ≤ 4 := H.2.2.2.2.2.1
  have c1 : rd μ 14 3 = nI N := H.2.2.2.1.1
  have c2 : rd μ 106 1 = nI N := H.2.2.2.2.1.1
  obtain ⟨B1, B2, B3⟩ := PFT_b H
  by_cases g : ((0 : Int32) ≤ a ∧ a ≤ nI N - 1) ∧ ((0 : Int32) ≤ c ∧ c ≤ nI N - 1) ∧ ¬ a = c
  · obtain ⟨g1, g2, g3⟩ := g
    obtain ⟨p, hp, rfl⟩ := (isF_iff (by omega)).mp g1
    obtain ⟨q, hq, rfl⟩ := (isF_iff (by omega)).mp g2
    have hpq : ¬ p = q := fun e => g3 (by rw [e])
    have X := joinedX N4 H.1 H.2.2.1 H.2.2.2.1 B2 hp hq hpq
    have M : ∀ μ1, RX μ μ1 → f_X12_joined μ1 105 (nI p) (nI q) = if anyF (clE cl (bks (bk p) (s p)) (bks (bk q) (s q))) n 0 = true then f_X12_finds μ1 105 2 else some (nI (bks (bk p) (s p)) ||| nI (bks (bk q) (s q)), μ1) := fun μ1 hR => joinedM N4 (FM_cg H.2.2.1.1 (fun j _ => hR _ _ (by omega)) H.2.1) H.2.2.1 (TM_cg N4 (fun p hp => (B1 p hp).1) (fun j _ => hR _ _ (by omega)) H.2.2.2.2.1) B1 B2 hp hq hpq
    generalize anyF (clE cl (bks (bk p) (s p)) (bks (bk q) (s q))) n 0 = z at X M
    by_cases e : z = true
    · refine oks_ref (k := 2) h (by omega) ?_ ?_
      · rw [X, if_pos e]
        rfl
      · intro μ1 hR
        show f_X12_joined μ1 105 _ _ = _
        rw [M μ1 hR, if_pos e]
        rfl
    · exact oks_go (by rw [X, if_neg e]) (by show f_X12_joined μ 105 _ _ = _; rw [M μ (fun _ _ _ => rfl), if_neg e]) h
  · refine oks_ref (k := 1) h (by omega) ?_ ?_
    · unfold f_X11_joined f_X11_joined_j21
      simp only [e_isDebX c1, bd_s, if10, i00, i10, bd_p]
      by_cases g1 : (0 : Int32) ≤ a ∧ a ≤ nI N - 1
      · by_cases g2 : (0 : Int32) ≤ c ∧ c ≤ nI N - 1
        · have g3 : a = c := Classical.byContradiction fun q => g ⟨g1, g2, q⟩
          subst g3
          simp only [g1, and_self, not_true, if_false]
          rfl
        · simp only [g1, g2, and_self, not_true, if_false, not_false_eq_true, if_true]
          rfl
      · simp only [g1, not_false_eq_true, if_true]
        rfl
    · intro μ1 hR
      show f_X12_joined μ1 105 _ _ = _
      unfold f_X12_joined f_X12_joined_j21
      have c3 : rd μ1 106 1 = nI N := by rw [hR _ _ (by omega), c2]
      simp only [e_isDebM c3, bd_s, if10, i00, i10, bd_p]
      by_cases g1 : (0 : Int32) ≤ a ∧ a ≤ nI N - 1
      · by_cases g2 : (0 : Int32) ≤ c ∧ c ≤ nI N - 1
        · have g3 : a = c := Classical.byContradiction fun q => g ⟨g1, g2, q⟩
          subst g3
          simp only [g1, and_self, not_true, if_false]
          rfl
        · simp only [g1, g2, and_self, not_true, if_false, not_false_eq_true, if_true]
          rfl
      · simp only [g1, not_false_eq_true, if_true]
        rfl
