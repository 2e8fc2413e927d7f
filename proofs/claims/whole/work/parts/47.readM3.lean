/-! PURE: units of the model; worked -/
section
variable {u n base : Nat} {bb : Nat → Nat} {a b c : Int32}
theorem e_wrong {μ : Mem} {p : Nat} (h6 : rd μ 105 6 = nI p) (h8 : rd μ 105 8 = -1) : f_X12_wrong μ 105 = some (0, wr μ 105 8 (nI p)) := by
  unfold f_X12_wrong f_X12_wrong_j19
  rw [h8, if_neg (by decide), h6, bd_s]
theorem e_wrongF {μ : Mem} {p : Nat} (hp : p < 1000) (h8 : rd μ 105 8 = nI p) : f_X12_wrong μ 105 = some (0, wr μ 105 8 (nI p)) := by
  unfold f_X12_wrong f_X12_wrong_j19
  rw [h8, if_pos (show (0 : Int32) ≤ nI p from nI_le (a := 0) (by omega) (by omega)), bd_s]
theorem e_nameM {μ : Mem} (hu : u < 2) (C : MSc μ u n base bb a b c) (p : Nat) : f_X12_nameOf μ 105 (hv n bb p) = some (if pname u (pat n bb p) = 0 then -1 else nI (pname u (pat n bb p) - 1)) := by
  have q1 : (hv n bb p = 102) = (pat n bb p = 102) := hvq C p 102 (by omega)
  have q2 : (hv n bb p = 119) = (pat n bb p = 119) := hvq C p 119 (by omega)
  have q3 : (hv n bb p = 100) = (pat n bb p = 100) := hvq C p 100 (by omega)
  have q4 : (hv n bb p = 111) = (pat n bb p = 111) := hvq C p 111 (by omega)
  have q5 : (hv n bb p = 110) = (pat n bb p = 110) := hvq C p 110 (by omega)
  unfold f_X12_nameOf pname
  rw [C.2.2.1]
  simp only [q1, q2, q3, q4, q5]
  generalize pat n bb p = x
  have : u = 0 ∨ u = 1 := by omega
  rcases this with rfl | rfl
  · rw [if_pos (by decide)]
    by_cases e1 : x = 102
    · subst e1; rfl
    · by_cases e2 : x = 119
      · subst e2; rfl
      · by_cases e3 : x = 100
        · subst e3; rfl
        · simp [e1, e2, e3]
  · rw [if_neg (by decide)]
    by_cases e1 : x = 100
    · subst e1; rfl
    · by_cases e2 : x = 111
      · subst e2; rfl
      · by_cases e3 : x = 110
        · subst e3; rfl
        · by_cases e4 : x = 102
          · subst e4; rfl
          · by_cases e5 : x = 119
            · subst e5; rfl
            · simp [e1, e2, e3, e4, e5]
theorem pname_le (u x : Nat) : pname u x ≤ 3 := by
  unfold pname
  repeat' split
  all_goals omega
theorem pname_sg {x : Nat} (h : pname u x ≠ 0) : x ≠ 33 ∧ x ≠ 40 ∧ ¬ (48 ≤ x ∧ x ≤ 57) ∧ x < 256 := by
  unfold pname at h
  repeat' split at h
  all_goals first | omega | exact absurd rfl h
/-- whether it is a digit -/
theorem hv_dig {μ : Mem} (C : MSc μ u n base bb a b c) (p : Nat) : ((48 : Int32) ≤ hv n bb p ∧ hv n bb p ≤ 57) = (48 ≤ pat n bb p ∧ pat n bb p ≤ 57) := by
  unfold hv pat
  by_cases h : p < n
  · rw [if_pos h, if_pos h]
    have := (C.2.2.2.2.2.2 p h).2
    rw [show ((48 : Int32) ≤ nI (bb p)) = (48 ≤ bb p) from propext (nI_leI (a := 48) (by omega) (by omega)), show (nI (bb p) ≤ (57 : Int32)) = (bb p ≤ 57) from propext (nI_leI (b := 57) (by omega) (by omega))]
  · rw [if_neg h, if_neg h]
    refine propext ⟨fun q => absurd q.1 (by decide), fun q => by omega⟩
theorem digM (k : Nat) (hn : n ≤ 50) (hbase : base + n ≤ 342) {o : Nat} : ∀ (j v p d fu : Nat) (μ : Mem), d + j = 4 → j < fu → v < 10 ^ d → p ≤ n → MSc μ u n base bb a b c → MSo μ p o → ∃ (d' : Nat) (μ2 : Mem), lp (fun s => F_X12_unit_l150 (grp_X12_both k).1 (grp_X12_both k).2.1 (grp_X12_both k).2.2.1 (grp_X12_both k).2.2.2.1 (grp_X12_both k).2.2.2.2.1 (grp_X12_both k).2.2.2.2.2 105 s.1 s.2.1 s.2.2) fu (nI v, nI d, μ) = some (nI (pnum n bb j v p).1, nI d', μ2) ∧ d' + p = d + (pnum n bb j v p).2 ∧ d' ≤ 4 ∧ p ≤ (pnum n bb j v p).2 ∧ (pnum n bb j v p).2 ≤ n ∧ (pnum n bb j v p).1 < 10 ^ 4 ∧ MK μ μ2 ∧ MSo μ2 (pnum n bb j v p).2 o := by
  intro j
  induction j with
  | zero =>
    intro v p d fu μ hd hfu hv' hp C O
    obtain ⟨fu', rfl⟩ : ∃ fu', fu = fu' + 1 := ⟨fu - 1, by omega⟩
    have d4 : d = 4 := by omega
    subst d4
    refine ⟨4, μ, ?_, ?_, by omega, Nat.le_refl _, hp, hv', MK_rfl μ, O⟩
    · rw [lp]
      show (F_X12_unit_l150 _ _ _ _ _ _ 105 (nI v) (nI 4) μ).bind _ = _
      unfold F_X12_unit_l150
      rw [if_pos (by decide), bd_s]
      rfl
    · show 4 + p = 4 + p
      rfl
  | succ j ih =>
    intro v p d fu μ hd hfu hv' hp C O
    obtain ⟨fu', rfl⟩ : ∃ fu', fu = fu' + 1 := ⟨fu - 1, by omega⟩
    have v4 : 10 ^ d ≤ 10 ^ 3 := Nat.pow_le_pow_right (by omega) (by omega)
    have hs : F_X12_unit_l150 (grp_X12_both k).1 (grp_X12_both k).2.1 (grp_X12_both k).2.2.1 (grp_X12_both k).2.2.2.1 (grp_X12_both k).2.2.2.2.1 (grp_X12_both k).2.2.2.2.2 105 (nI v) (nI d) μ = if 48 ≤ pat n bb p ∧ pat n bb p ≤ 57 then some (.inl (((10 * nI v) + hv n bb p) - 48, nI (d + 1), wr μ 105 6 (nI (p + 1)))) else some (.inr (nI v, nI d, μ)) := by
      unfold F_X12_unit_l150
      rw [if_neg (show ¬ (4 : Int32) ≤ nI d from nI_ge (b := 4) (by omega) (by omega)), e_here hn hbase C hp O.1 O.2.1, bd_s, show f_X12_in (hv n bb p).toInt64 48 57 = _ from e_in (hv n bb p) 48 57, bd_s, bd_s, bd_s, O.1, nI_1, nI_1]
      have := hv_dig C p
      by_cases z : 48 ≤ pat n bb p ∧ pat n bb p ≤ 57
      · rw [if_pos (this.mpr z), if_neg (by decide), if_pos z]
      · rw [if_neg (fun y => z (this.mp y)), if_pos rfl, if_neg z]
    by_cases z : 48 ≤ pat n bb p ∧ pat n bb p ≤ 57
    · have hpn : p < n := by
        by_cases y : p < n
        · exact y
        · unfold pat at z; rw [if_neg y] at z; omega
      have hvp : hv n bb p = nI (pat n bb p) := by unfold hv pat; rw [if_pos hpn, if_pos hpn]
      have hval : ((10 * nI v) + hv n bb p) - 48 = nI (10 * v + (pat n bb p - 48)) := by
        rw [hvp, show (10 : Int32) = nI 10 from rfl, pk_mul, nI_add, show (48 : Int32) = nI 48 from rfl, pk_sub (by omega)]
        congr 1
        omega
      rw [if_pos z, hval] at hs
      have K1 : MK μ (wr μ 105 6 (nI (p + 1))) := MK_wr (Or.inl rfl)
      have hpow : 10 ^ (d + 1) = 10 * 10 ^ d := by rw [Nat.pow_succ, Nat.mul_comm]
      obtain ⟨d', μ2, i1, i2, i3, i4, i5, i6, i7, i8⟩ := ih (10 * v + (pat n bb p - 48)) (p + 1) (d + 1) fu' _ (by omega) (by omega) (by omega) (by omega) (MSc_K K1 C) ⟨rd_wr_s _ _ _ _, by rw [rd_wr_n (by omega)]; exact O.2.1, by rw [rd_wr_n (by omega)]; exact O.2.2⟩
      have hP : pnum n bb (j + 1) v p = pnum n bb j (10 * v + (pat n bb p - 48)) (p + 1) := by rw [pnum, if_pos z]
      rw [hP]
      refine ⟨d', μ2, ?_, by omega, i3, by omega, i5, i6, MK_tr K1 i7, i8⟩
      rw [lp]
      show (F_X12_unit_l150 _ _ _ _ _ _ 105 (nI v) (nI d) μ).bind _ = _
      rw [hs, bd_s]
      exact i1
    · rw [if_neg z] at hs
      have hP : pnum n bb (j + 1) v p = (v, p) := by rw [pnum, if_neg z]
      rw [hP]
      refine ⟨d, μ, ?_, rfl, by omega, Nat.le_refl _, hp, ?_, MK_rfl μ, O⟩
      · rw [lp]
        show (F_X12_unit_l150 _ _ _ _ _ _ 105 (nI v) (nI d) μ).bind _ = _
        rw [hs, bd_s]
      · show v < 10 ^ 4
        omega
theorem evl_num {q : Nat} (hq : q < 10 ^ 4) : ∀ L, evl a b c [nI q] L = nI q :: L := by
  intro L
  show ev1 a b c (nI q) L = _
  unfold ev1 nmV
  have h1 : ¬ nI q < (-3 : Int32) := by
    rw [i32_lt, nI_c (by omega)]
    have : (-3 : Int32).toInt = -3 := rfl
    omega
  rw [if_neg h1, if_neg (nI_pos (by omega))]
theorem lev5 (k o : Nat) (ho : o ≤ 5) (hu : u < 2) (hn : n ≤ 50) (hbase : base + n ≤ 342)
    (hs0 : o < 5 → ∀ p μ, p ≤ n → MSc μ u n base bb a b c → MSo μ p (o + 1) → RES u n bb a b c (o + 1) p (prd u n bb k 0 (o + 1)) (gM k 0 μ 105) μ)
    (hs5 : o < 5 → ∀ p μ, p ≤ n → MSc μ u n base bb a b c → MSo μ p (o + 1) → RES u n bb a b c (o + 1) p (prd u n bb k 5 (o + 1)) (gM k 5 μ 105) μ)
    {p : Nat} {μ : Mem} (hp : p ≤ n) (C : MSc μ u n base bb a b c) (O : MSo μ p o) : RES u n bb a b c o p (prd u n bb (k + 1) 5 o) (gM (k + 1) 5 μ 105) μ := by
  have q33 : (hv n bb p = 33) = (pat n bb p = 33) := hvq C p 33 (by omega)
  have q40 : (hv n bb p = 40) = (pat n bb p = 40) := hvq C p 40 (by omega)
  have hM : gM (k + 1) 5 μ 105 = if hv n bb p = 33 then F_X12_unit_j17 (grp_X12_both k).1 (grp_X12_both k).2.1 (grp_X12_both k).2.2.1 (grp_X12_both k).2.2.2.1 (grp_X12_both k).2.2.2.2.1 (grp_X12_both k).2.2.2.2.2 μ 105 (hv n bb p) else if ¬ hv n bb p = 40 then (if pname u (pat n bb p) = 0 then (lp (fun s => F_X12_unit_l150 (grp_X12_both k).1 (grp_X12_both k).2.1 (grp_X12_both k).2.2.1 (grp_X12_both k).2.2.2.1 (grp_X12_both k).2.2.2.2.1 (grp_X12_both k).2.2.2.2.2 105 s.1 s.2.1 s.2.2) FU ((0 : Int32), (0 : Int32), μ)).bind fun e150 => F_X12_unit_j202 (grp_X12_both k).1 (grp_X12_both k).2.1 (grp_X12_both k).2.2.1 (grp_X12_both k).2.2.2.1 (grp_X12_both k).2.2.2.2.1 (grp_X12_both k).2.2.2.2.2 e150.2.2 105 e150.1 e150.2.1 else some (rd μ 110 (pname u (pat n bb p) - 1), wr μ 105 6 (nI (p + 1)))) else F_X12_unit_j17 (grp_X12_both k).1 (grp_X12_both k).2.1 (grp_X12_both k).2.2.1 (grp_X12_both k).2.2.2.1 (grp_X12_both k).2.2.2.2.1 (grp_X12_both k).2.2.2.2.2 μ 105 (hv n bb p) := by
    show F_X12_unit _ _ _ _ _ _ μ 105 = _
    unfold F_X12_unit
    rw [e_here hn hbase C hp O.1 O.2.1, bd_s, e_nameM hu C, bd_s]
    have pl := pname_le u (pat n bb p)
    by_cases z : pname u (pat n bb p) = 0
    · rw [if_pos z, if_pos z, if_pos (show (-1 : Int32) < 0 by decide)]
    · rw [if_neg z, if_neg z, if_neg (nI_pos (n := pname u (pat n bb p) - 1) (by omega)), bd_s, ib_nI (show pname u (pat n bb p) - 1 < 3 by omega) (by omega), if_pos rfl, tn_nI (by omega), O.1, nI_1]
      simp only [rfs]
      rw [rd_wr_n (by omega)]
  have hP : ∀ st, prd u n bb (k + 1) 5 o (p, st, false) = if 48 ≤ pat n bb p ∧ pat n bb p ≤ 57 then ((pnum n bb 4 0 p).2, st ++ [nI (pnum n bb 4 0 p).1], false) else if pname u (pat n bb p) ≠ 0 then (p + 1, st ++ [-nI (pname u (pat n bb p))], false) else if pat n bb p = 33 ∧ o < 5 then padd (-33) (prd u n bb k 5 (o + 1) (p + 1, st, false)) else if pat n bb p = 40 ∧ o < 5 then (if (prd u n bb k 0 (o + 1) (p + 1, st, false)).2.2 = false ∧ pat n bb (prd u n bb k 0 (o + 1) (p + 1, st, false)).1 = 41 then ((prd u n bb k 0 (o + 1) (p + 1, st, false)).1 + 1, (prd u n bb k 0 (o + 1) (p + 1, st, false)).2) else ((prd u n bb k 0 (o + 1) (p + 1, st, false)).1, (prd u n bb k 0 (o + 1) (p + 1, st, false)).2.1, true)) else (p, st, true) := fun st => rfl
  have hpn : pat n bb p < 256 → p < n := fun h => by
    by_cases y : p < n
    · exact y
    · unfold pat at h; rw [if_neg y] at h; omega
  have hj17 : ∀ ch, F_X12_unit_j17 (grp_X12_both k).1 (grp_X12_both k).2.1 (grp_X12_both k).2.2.1 (grp_X12_both k).2.2.2.1 (grp_X12_both k).2.2.2.2.1 (grp_X12_both k).2.2.2.2.2 μ 105 ch = if o = 5 then some (0, wr μ 105 8 (nI p)) else if ¬ ch = 40 then (gM k 5 (wr (wr μ 105 9 (nI (o + 1))) 105 6 (nI (p + 1))) 105).bind fun p64 => F_X12_unit_j67 (grp_X12_both k).1 (grp_X12_both k).2.1 (grp_X12_both k).2.2.1 (grp_X12_both k).2.2.2.1 (grp_X12_both k).2.2.2.2.1 (grp_X12_both k).2.2.2.2.2 p64.2 105 ch p64.1 else (gM k 0 (wr (wr μ 105 9 (nI (o + 1))) 105 6 (nI (p + 1))) 105).bind fun p57 => F_X12_unit_j67 (grp_X12_both k).1 (grp_X12_both k).2.1 (grp_X12_both k).2.2.1 (grp_X12_both k).2.2.2.1 (grp_X12_both k).2.2.2.2.1 (grp_X12_both k).2.2.2.2.2 p57.2 105 ch p57.1 := by
    intro ch
    unfold F_X12_unit_j17
    rw [O.2.2]
    by_cases z : o = 5
    · rw [if_neg (not_not_intro (by rw [z]; rfl)), if_pos z, e_wrong O.1 O.2.1, bd_s]
    · rw [if_pos (show ¬ nI o = 5 from fun y => z ((nI_eq (b := 5) (by omega) (by omega)).mp y)), if_neg z, bd_s, bd_s, nI_1, rd_wr_n (by omega), O.1, nI_1]
      rfl
  have K1 : MK μ (wr (wr μ 105 9 (nI (o + 1))) 105 6 (nI (p + 1))) := MK_tr (MK_wr (Or.inr (Or.inr rfl))) (MK_wr (Or.inl rfl))
  have O1 : MSo (wr (wr μ 105 9 (nI (o + 1))) 105 6 (nI (p + 1))) (p + 1) (o + 1) := ⟨rd_wr_s _ _ _ _, by rw [rd_wr_n (by omega), rd_wr_n (by omega)]; exact O.2.1, by rw [rd_wr_n (by omega), rd_wr_s]⟩
  by_cases c33 : pat n bb p = 33
  · have lt := hpn (by omega)
    have nd : ¬ (48 ≤ pat n bb p ∧ pat n bb p ≤ 57) := by omega
    have nn : ¬ pname u (pat n bb p) ≠ 0 := fun y => (pname_sg y).1 c33
    rw [if_pos (q33.mpr c33), hj17] at hM
    by_cases o5 : o = 5
    · rw [if_pos o5] at hM
      exact ⟨p, [], true, 0, _, fun st => by rw [hP, if_neg nd, if_neg nn, if_neg (by omega), if_neg (by omega), List.append_nil], hM, Nat.le_refl _, hp, by simp, MK_wr (Or.inr (Or.inl rfl)), by rw [rd_wr_n (by omega)]; exact O.1, (fun h => by cases h), fun _ => rd_wr_s _ _ _ _⟩
    · rw [if_neg o5, if_pos (fun y => by have := q40.mp y; omega)] at hM
      obtain ⟨p1, y, f1, v, μ1, g1, g2, g3, g4, g5, g6, g7, g8, g9⟩ := hs5 (by omega) (p + 1) _ (by omega) (MSc_K K1 C) O1
      have hM2 : gM (k + 1) 5 μ 105 = some (nt v, wr μ1 105 9 (rd μ1 105 9 - 1)) := by
        rw [hM, g2, bd_s]
        unfold F_X12_unit_j67 F_X12_unit_j88
        rw [if_pos (fun y => by have := q40.mp y; omega), bd_s, if_pos (fun y => by have := q40.mp y; omega)]
        unfold nt
        split <;> rfl
      refine ⟨p1, y ++ [-33], f1, nt v, _, fun st => ?_, hM2, by omega, g4, by simp only [List.length_append, List.length_cons, List.length_nil]; omega, MK_tr (MK_tr K1 g6) (MK_wr (Or.inr (Or.inr rfl))), by rw [rd_wr_n (by omega)]; exact g7, fun h => ?_, fun h => by rw [rd_wr_n (by omega)]; exact g9 h⟩
      · rw [hP, if_neg nd, if_neg nn, if_pos ⟨c33, by omega⟩, g1]
        unfold padd
        simp only [List.append_assoc]
      · obtain ⟨z1, z2, z3, z4⟩ := g8 h
        refine ⟨by omega, by rw [rd_wr_n (by omega)]; exact z2, by rw [rd_wr_s, z3, nI_pred], fun L => ?_⟩
        rw [evl_app, z4]
        rfl
  · by_cases c40 : pat n bb p = 40
    · have lt := hpn (by omega)
      have nd : ¬ (48 ≤ pat n bb p ∧ pat n bb p ≤ 57) := by omega
      have nn : ¬ pname u (pat n bb p) ≠ 0 := fun y => (pname_sg y).2.1 c40
      rw [if_neg (fun y => c33 (q33.mp y)), if_neg (not_not_intro (q40.mpr c40)), hj17] at hM
      by_cases o5 : o = 5
      · rw [if_pos o5] at hM
        exact ⟨p, [], true, 0, _, fun st => by rw [hP, if_neg nd, if_neg nn, if_neg (by omega), if_neg (by omega), List.append_nil], hM, Nat.le_refl _, hp, by simp, MK_wr (Or.inr (Or.inl rfl)), by rw [rd_wr_n (by omega)]; exact O.1, (fun h => by cases h), fun _ => rd_wr_s _ _ _ _⟩
      · rw [if_neg o5, if_neg (not_not_intro (q40.mpr c40))] at hM
        obtain ⟨p1, y, f1, v, μ1, g1, g2, g3, g4, g5, g6, g7, g8, g9⟩ := hs0 (by omega) (p + 1) _ (by omega) (MSc_K K1 C) O1
        have C1 := MSc_K (MK_tr K1 g6) C
        have hP1 : ∀ st, prd u n bb (k + 1) 5 o (p, st, false) = if f1 = false ∧ pat n bb p1 = 41 then (p1 + 1, st ++ y, f1) else (p1, st ++ y, true) := by
          intro st
          rw [hP, if_neg nd, if_neg nn, if_neg (fun z => c33 z.1), if_pos ⟨c40, by omega⟩, g1]
        have hM1 : gM (k + 1) 5 μ 105 = (f_X12_takes μ1 105 41).bind fun p77 => if ¬ p77.1 = 0 then some (v, wr p77.2 105 9 (rd p77.2 105 9 - 1)) else (f_X12_wrong p77.2 105).bind fun p84 => some (p84.1, p84.2) := by
          rw [hM, g2, bd_s]
          unfold F_X12_unit_j67 F_X12_unit_j88
          rw [if_neg (not_not_intro (q40.mpr c40))]
          simp only [if_neg (not_not_intro (q40.mpr c40)), bd_s]
        cases f1 with
        | true =>
          have z := g9 rfl
          rw [show (41 : Int32) = nI 41 from rfl, e_takesF (by omega) z 41 (by omega), bd_s, if_neg (not_not_intro rfl), e_wrongF (by omega) z, bd_s] at hM1
          exact ⟨p1, y, true, 0, _, fun st => by rw [hP1, if_neg (fun h => by cases h.1)], hM1, by omega, g4, by omega, MK_tr (MK_tr K1 g6) (MK_wr (Or.inr (Or.inl rfl))), by rw [rd_wr_n (by omega)]; exact g7, fun h => (by cases h), fun _ => rd_wr_s _ _ _ _⟩
        | false =>
          obtain ⟨z1, z2, z3, z4⟩ := g8 rfl
          rw [show (41 : Int32) = nI 41 from rfl, e_takes hn hbase C1 g4 ⟨g7, z2, z3⟩ 41 (by omega)] at hM1
          by_cases e41 : pat n bb p1 = 41
          · have lt1 : p1 < n := by
              by_cases w : p1 < n
              · exact w
              · unfold pat at e41; rw [if_neg w] at e41; omega
            rw [if_pos e41, bd_s, if_pos (show ¬ (1 : Int32) = 0 by decide)] at hM1
            refine ⟨p1 + 1, y, false, v, _, fun st => by rw [hP1, if_pos ⟨rfl, e41⟩], hM1, by omega, by omega, by omega, MK_tr (MK_tr K1 g6) (MK_tr (MK_wr (Or.inl rfl)) (MK_wr (Or.inr (Or.inr rfl)))), by rw [rd_wr_n (by omega), rd_wr_s], fun _ => ⟨by omega, by rw [rd_wr_n (by omega), rd_wr_n (by omega)]; exact z2, by rw [rd_wr_s, rd_wr_n (by omega), z3, nI_pred], z4⟩, fun h => by cases h⟩
          · rw [if_neg e41, bd_s, if_neg (not_not_intro rfl), e_wrong g7 z2, bd_s] at hM1
            exact ⟨p1, y, true, 0, _, fun st => by rw [hP1, if_neg (fun h => e41 h.2)], hM1, by omega, g4, by omega, MK_tr (MK_tr K1 g6) (MK_wr (Or.inr (Or.inl rfl))), by rw [rd_wr_n (by omega)]; exact g7, fun h => (by cases h), fun _ => rd_wr_s _ _ _ _⟩
    · rw [if_neg (fun y => c33 (q33.mp y)), if_pos (fun y => c40 (q40.mp y))] at hM
      by_cases cn : pname u (pat n bb p) = 0
      · rw [if_pos cn] at hM
        obtain ⟨d', μ2, i1, i2, i3, i4, i5, i6, i7, i8⟩ := digM k hn hbase (o := o) 4 0 p 0 FU μ (by omega) (by unfold FU; omega) (by decide) hp C O
        have i1 : lp (fun s => F_X12_unit_l150 (grp_X12_both k).1 (grp_X12_both k).2.1 (grp_X12_both k).2.2.1 (grp_X12_both k).2.2.2.1 (grp_X12_both k).2.2.2.2.1 (grp_X12_both k).2.2.2.2.2 105 s.1 s.2.1 s.2.2) FU ((0 : Int32), (0 : Int32), μ) = some (nI (pnum n bb 4 0 p).1, nI d', μ2) := i1
        rw [i1, bd_s] at hM
        by_cases cd : 48 ≤ pat n bb p ∧ pat n bb p ≤ 57
        · have hlt : p < (pnum n bb 4 0 p).2 := by
            have := (show ∀ j v q, q ≤ (pnum n bb j v q).2 from fun j => by
              induction j with
              | zero => intro v q; exact Nat.le_refl _
              | succ j ih =>
                intro v q
                rw [pnum]
                split
                · have := ih (10 * v + (pat n bb q - 48)) (q + 1); omega
                · exact Nat.le_refl _)
            rw [pnum, if_pos cd]
            have := this 3 (10 * 0 + (pat n bb p - 48)) (p + 1)
            omega
          have hM2 : gM (k + 1) 5 μ 105 = some (nI (pnum n bb 4 0 p).1, μ2) := by
            rw [hM]
            unfold F_X12_unit_j202
            rw [if_pos (nI_ne0 (by omega) (by omega))]
          refine ⟨(pnum n bb 4 0 p).2, [nI (pnum n bb 4 0 p).1], false, _, _, fun st => by rw [hP, if_pos cd], hM2, by omega, i5, by simp only [List.length_cons, List.length_nil]; omega, i7, i8.1, fun _ => ⟨hlt, i8.2.1, i8.2.2, evl_num i6⟩, fun h => by cases h⟩
        · have hP0 : pnum n bb 4 0 p = (0, p) := by rw [pnum, if_neg cd]
          rw [hP0] at i1 i2 i8 hM
          have hd0 : d' = 0 := by
            have : d' + p = 0 + p := i2
            omega
          have hM2 : gM (k + 1) 5 μ 105 = some (0, wr μ2 105 8 (nI p)) := by
            rw [hM]
            unfold F_X12_unit_j202
            simp only [hd0]
            rw [if_neg (not_not_intro (show nI 0 = 0 from rfl)), e_wrong i8.1 i8.2.1, bd_s]
          exact ⟨p, [], true, 0, _, fun st => by rw [hP, if_neg cd, if_neg (not_not_intro cn), if_neg (fun h => c33 h.1), if_neg (fun h => c40 h.1), List.append_nil], hM2, Nat.le_refl _, hp, by simp, MK_tr i7 (MK_wr (Or.inr (Or.inl rfl))), by rw [rd_wr_n (by omega)]; exact i8.1, fun h => (by cases h), fun _ => rd_wr_s _ _ _ _⟩
      · rw [if_neg cn] at hM
        obtain ⟨s1, s2, s3, s4⟩ := pname_sg cn
        have lt := hpn s4
        refine ⟨p + 1, [-nI (pname u (pat n bb p))], false, _, _, fun st => by rw [hP, if_neg s3, if_pos cn], hM, by omega, by omega, by simp, MK_wr (Or.inl rfl), rd_wr_s _ _ _ _, fun _ => ⟨by omega, by rw [rd_wr_n (by omega)]; exact O.2.1, by rw [rd_wr_n (by omega)]; exact O.2.2, fun L => ?_⟩, fun h => by cases h⟩
        obtain ⟨m1, m2, m3, m4, m5, m6, m7⟩ := C
        have pl := pname_le u (pat n bb p)
        revert pl cn
        generalize pname u (pat n bb p) = x
        intro cn pl
        have : x = 1 ∨ x = 2 ∨ x = 3 := by omega
        rcases this with rfl | rfl | rfl
        · rw [show 1 - 1 = 0 from rfl, m4]; rfl
        · rw [show 2 - 1 = 1 from rfl, m5]; rfl
        · rw [show 3 - 1 = 2 from rfl, m6]; rfl
theorem readM (hu : u < 2) (hn : n ≤ 50) (hbase : base + n ≤ 342) : ∀ k l o, l ≤ 5 → o ≤ 5 → 6 * (5 - o) + (5 - l) < k → ∀ p μ, p ≤ n → MSc μ u n base bb a b c → MSo μ p o → RES u n bb a b c o p (prd u n bb k l o) (gM k l μ 105) μ := by
  intro k
  induction k with
  | zero => intro l o _ _ h; omega
  | succ k ih =>
    intro l o hl ho hm p μ hp C O
    have : l = 0 ∨ l = 1 ∨ l = 2 ∨ l = 3 ∨ l = 4 ∨ l = 5 := by omega
    rcases this with rfl | rfl | rfl | rfl | rfl | rfl
    · exact lev0 k o hn hbase (ih 1 o (by omega) ho (by omega)) hp C O
    · exact lev1 k o hn hbase (ih 2 o (by omega) ho (by omega)) hp C O
    · exact lev2 k o hn hbase (ih 3 o (by omega) ho (by omega)) hp C O
    · exact lev3 k o hn hbase (ih 4 o (by omega) ho (by omega)) hp C O
    · exact lev4 k o hn hbase (ih 5 o (by omega) ho (by omega)) hp C O
    · exact lev5 k o ho hu hn hbase (fun h => ih 0 (o + 1) (by omega) (by omega) (by omega)) (fun h => ih 5 (o + 1) (by omega) (by omega) (by omega)) hp C O
end
/-- what the model's reading of n bytes from a place on comes to -/
theorem e_worked {μ : Mem} {u n base : Nat} {bb : Nat → Nat} (hu : u < 2) (hn : n ≤ 50) (hbase : base + n ≤ 342) (hb : ∀ i, i < n → rd μ 106 (base + i) = nI (bb i) ∧ bb i < 256) : ∃ (v : Int32) (μ2 : Mem), f_X12_worked μ 105 (nI base) (nI n) (nI u) = some (v, μ2) ∧ (∀ k j, ¬ (k = 105 ∧ 5 ≤ j ∧ j ≤ 10) → rd μ2 k j = rd μ k j) ∧ (ptx u n bb).1 ≤ n ∧ (ptx u n bb).2.1.length ≤ n ∧ (((ptx u n bb).1 = n ∧ (ptx u n bb).2.2 = false) → 0 < n ∧ rd μ2 105 8 = -1 ∧ ∀ L, evl (rd μ 110 0) (rd μ 110 1) (rd μ 110 2) (ptx u n bb).2.1 L = v :: L) ∧ (¬ ((ptx u n bb).1 = n ∧ (ptx u n bb).2.2 = false) → rd μ2 105 8 = nI (ptx u n bb).1) := by
  have hW : f_X12_worked μ 105 (nI base) (nI n) (nI u) = (gM 100 0 (wr (wr (wr (wr (wr (wr μ 105 5 (nI base)) 105 6 0) 105 7 (nI n)) 105 8 (-1)) 105 9 0) 105 10 (nI u)) 105).bind fun p40 => if 0 ≤ rd p40.2 105 8 then some (p40.1, p40.2) else if rd p40.2 105 7 ≤ rd p40.2 105 6 then some (p40.1, p40.2) else (f_X12_wrong p40.2 105).bind fun p64 => some (p64.1, p64.2) := by
    have : u = 0 ∨ u = 1 := by omega
    rcases this with rfl | rfl <;> rfl
  generalize hμ : wr (wr (wr (wr (wr (wr μ 105 5 (nI base)) 105 6 0) 105 7 (nI n)) 105 8 (-1)) 105 9 0) 105 10 (nI u) = μ0' at hW
  have K0 : ∀ k j, ¬ (k = 105 ∧ 5 ≤ j ∧ j ≤ 10) → rd μ0' k j = rd μ k j := by
    intro k j h
    rw [← hμ]
    simp (discharger := omega) only [rd_wr_n]
  have C : MSc μ0' u n base bb (rd μ 110 0) (rd μ 110 1) (rd μ 110 2) := by
    refine ⟨?_, ?_, ?_, K0 _ _ (by omega), K0 _ _ (by omega), K0 _ _ (by omega), fun i hi => ⟨by rw [K0 _ _ (by omega)]; exact (hb i hi).1, (hb i hi).2⟩⟩ <;> rw [← hμ] <;> simp (discharger := omega) only [rd_wr_n, rd_wr_s]
  have O : MSo μ0' 0 0 := by
    refine ⟨?_, ?_, ?_⟩ <;> rw [← hμ] <;> simp (discharger := omega) only [rd_wr_n, rd_wr_s] <;> rfl
  obtain ⟨p', x, fl, v, μ1, g1, g2, g3, g4, g5, g6, g7, g8, g9⟩ := readM hu hn hbase 100 0 0 (by omega) (by omega) (by omega) 0 μ0' (by omega) C O
  have hp : ptx u n bb = (p', x, fl) := by
    show prd u n bb 100 0 0 (0, [], false) = _
    rw [g1, List.nil_append]
  rw [g2, bd_s] at hW
  rw [hp]
  have K1 : ∀ k j, ¬ (k = 105 ∧ 5 ≤ j ∧ j ≤ 10) → rd μ1 k j = rd μ k j := fun k j h => by rw [g6 k j (by omega), K0 k j h]
  cases fl with
  | true =>
    have z := g9 rfl
    simp only at hW
    rw [z, if_pos (show (0 : Int32) ≤ nI p' from nI_le (a := 0) (by omega) (by omega))] at hW
    exact ⟨v, μ1, hW, K1, g4, by simp only; omega, fun h => (by cases h.2), fun _ => z⟩
  | false =>
    obtain ⟨z1, z2, z3, z4⟩ := g8 rfl
    simp only at hW
    rw [z2, if_neg (by decide), g6 105 7 (by omega), C.2.1, g7] at hW
    by_cases e : p' = n
    · rw [if_pos (nI_le (by omega) (by omega))] at hW
      exact ⟨v, μ1, hW, K1, g4, by simp only; omega, fun _ => ⟨by omega, z2, z4⟩, fun h => absurd ⟨e, rfl⟩ h⟩
    · rw [if_neg (nI_ge (by omega) (by omega)), e_wrong g7 z2, bd_s] at hW
      exact ⟨0, _, hW, fun k j h => by rw [rd_wr_n (by omega)]; exact K1 k j h, g4, by simp only; omega, fun h => absurd h.1 e, fun _ => rd_wr_s _ _ _ _⟩
