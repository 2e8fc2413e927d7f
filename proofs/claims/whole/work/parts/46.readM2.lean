/-! PURE: the levels of the model -/
theorem levM {u n base : Nat} {bb : Nat → Nat} {a b c : Int32} (l o : Nat) (hl : l ≤ 4) (hl2 : l ≠ 2) (g : PS → PS) (gm : Mem → Nat → Option (Int32 × Mem)) (B : Int32 → Mem → Option ((Int32 × Mem) ⊕ (Int32 × Mem)))
    (hsub : ∀ p μ, p ≤ n → MSc μ u n base bb a b c → MSo μ p o → RES u n bb a b c o p g (gm μ 105) μ)
    (hF : ∀ v μ p, p ≤ n → rd μ 105 8 = nI p → B v μ = some (.inr (v, μ)))
    (hstop : ∀ v μ p, p ≤ n → MSc μ u n base bb a b c → MSo μ p o → plv (pat n bb p) ≠ l → B v μ = some (.inr (v, μ)))
    (hgo : ∀ v μ p, p ≤ n → MSc μ u n base bb a b c → MSo μ p o → plv (pat n bb p) = l → B v μ = (gm (wr μ 105 6 (nI (p + 1))) 105).bind fun q => some (.inl (jn (nI (pat n bb p)) v q.1, q.2)))
    {p : Nat} {μ : Mem} (hn : n ≤ 50) (hp : p ≤ n) (C : MSc μ u n base bb a b c) (O : MSo μ p o) :
    RES u n bb a b c o p (fun s => plp n bb g l 50 (g s)) ((gm μ 105).bind fun p1 => (lp (fun s => B s.1 s.2) FU (p1.1, p1.2)).bind fun e5 => some (e5.1, e5.2)) μ := by
  obtain ⟨p1, x1, f1, v1, μ1, g1, g2, g3, g4, g5, g6, g7, g8, g9⟩ := hsub p μ hp C O
  cases f1 with
  | true =>
    have z := g9 rfl
    refine ⟨p1, x1, true, v1, μ1, fun st => ?_, ?_, g3, g4, g5, g6, g7, fun h => (by cases h), fun _ => z⟩
    · show plp n bb g l 50 (g (p, st, false)) = _
      rw [g1, plp, if_neg (fun h => by cases h.1)]
    · rw [g2, bd_s]
      obtain ⟨fu, hfu⟩ : ∃ fu, FU = fu + 1 := ⟨999999999, rfl⟩
      rw [hfu, lp]
      show ((B v1 μ1).bind _).bind _ = _
      rw [hF v1 μ1 p1 g4 z, bd_s, bd_s]
  | false =>
    obtain ⟨z1, z2, z3, z4⟩ := g8 rfl
    obtain ⟨p2, x, f2, v2, μ2, i1, i2, i3, i4, i5, i6, i7, i8, i9⟩ := loopM l o hl hl2 g gm B hsub hF hstop hgo 50 FU p1 v1 μ1 x1 (by unfold FU; omega) (by omega) hn g4 (MSc_K g6 C) ⟨g7, z2, z3⟩ z4
    refine ⟨p2, x1 ++ x, f2, v2, μ2, fun st => ?_, ?_, by omega, i4, by rw [List.length_append]; omega, MK_tr g6 i6, i7, fun h => ⟨by omega, i8 h⟩, i9⟩
    · show plp n bb g l 50 (g (p, st, false)) = _
      rw [g1]
      exact i1 st
    · rw [g2, bd_s]
      simp only
      rw [i2, bd_s]
theorem e_takesF {μ : Mem} {p : Nat} (hp : p < 1000) (h8 : rd μ 105 8 = nI p) (c : Nat) (hc : c < 256) : f_X12_takes μ 105 (nI c) = some (0, μ) := by
  unfold f_X12_takes
  rw [e_hereF hp h8, bd_s, if_neg]
  intro e
  have h1 : (nI c).toInt = (c : Int) := nI_c (by omega)
  rw [← e] at h1
  have : (-1 : Int32).toInt = -1 := rfl
  omega
theorem neg1_ne {c : Nat} (hc : c < 256) : ((-1 : Int32) = nI c) = False := by
  refine propext ⟨fun e => ?_, fun h => h.elim⟩
  have h1 : (nI c).toInt = (c : Int) := nI_c (by omega)
  rw [← e] at h1
  have : (-1 : Int32).toInt = -1 := rfl
  omega
theorem plv_0 {c : Nat} : plv c = 0 ↔ c = 124 := by
  unfold plv
  constructor
  · intro h
    repeat' split at h
    all_goals omega
  · intro h; rw [if_pos h]
theorem plv_1 {c : Nat} : plv c = 1 ↔ c = 38 := by
  unfold plv
  constructor
  · intro h
    repeat' split at h
    all_goals omega
  · rintro rfl; rfl
theorem plv_2 {c : Nat} : plv c = 2 ↔ c = 60 ∨ c = 61 ∨ c = 62 := by
  unfold plv
  constructor
  · intro h
    repeat' split at h
    all_goals omega
  · rintro (rfl | rfl | rfl) <;> rfl
theorem plv_3 {c : Nat} : plv c = 3 ↔ c = 43 ∨ c = 45 := by
  unfold plv
  constructor
  · intro h
    repeat' split at h
    all_goals omega
  · rintro (rfl | rfl) <;> rfl
theorem plv_4 {c : Nat} : plv c = 4 ↔ c = 42 ∨ c = 47 ∨ c = 37 := by
  unfold plv
  constructor
  · intro h
    repeat' split at h
    all_goals omega
  · rintro (rfl | rfl | rfl) <;> rfl
section
variable {u n base : Nat} {bb : Nat → Nat} {a b c : Int32}
theorem hvq {μ : Mem} (C : MSc μ u n base bb a b c) (p k : Nat) (hk : k < 256) : (hv n bb p = nI k) = (pat n bb p = k) := hv_eq (fun h => (C.2.2.2.2.2.2 p h).2) hk
theorem e_takes {μ : Mem} (hn : n ≤ 50) (hbase : base + n ≤ 342) (C : MSc μ u n base bb a b c) {p o : Nat} (hp : p ≤ n) (O : MSo μ p o) (k : Nat) (hk : k < 256) : f_X12_takes μ 105 (nI k) = if pat n bb p = k then some (1, wr μ 105 6 (nI (p + 1))) else some (0, μ) := by
  unfold f_X12_takes
  rw [e_here hn hbase C hp O.1 O.2.1, bd_s, O.1, nI_1]
  have := hvq C p k hk
  by_cases e : pat n bb p = k
  · rw [if_pos (this.mpr e), if_pos e, bd_s]
  · rw [if_neg (fun z => e (this.mp z)), if_neg e]
theorem lev0 (k o : Nat) (hn : n ≤ 50) (hbase : base + n ≤ 342) (hsub : ∀ p μ, p ≤ n → MSc μ u n base bb a b c → MSo μ p o → RES u n bb a b c o p (prd u n bb k 1 o) (gM k 1 μ 105) μ) {p : Nat} {μ : Mem} (hp : p ≤ n) (C : MSc μ u n base bb a b c) (O : MSo μ p o) : RES u n bb a b c o p (prd u n bb (k + 1) 0 o) (gM (k + 1) 0 μ 105) μ := by
  refine levM 0 o (by omega) (by omega) (prd u n bb k 1 o) (gM k 1) (fun v m => F_X12_either_l5 (grp_X12_both k).1 (grp_X12_both k).2.1 (grp_X12_both k).2.2.1 (grp_X12_both k).2.2.2.1 (grp_X12_both k).2.2.2.2.1 (grp_X12_both k).2.2.2.2.2 105 v m) hsub ?_ ?_ ?_ hn hp C O
  · intro v m q hq h8
    unfold F_X12_either_l5
    rw [show (124 : Int32) = nI 124 from rfl, e_takesF (by omega) h8 124 (by omega), bd_s, if_pos rfl]
  · intro v m q hq C' O' h
    unfold F_X12_either_l5
    rw [show (124 : Int32) = nI 124 from rfl, e_takes hn hbase C' hq O' 124 (by omega), if_neg (fun z => h (plv_0.mpr z)), bd_s, if_pos rfl]
  · intro v m q hq C' O' h
    have h := plv_0.mp h
    unfold F_X12_either_l5
    rw [show (124 : Int32) = nI 124 from rfl, e_takes hn hbase C' hq O' 124 (by omega), if_pos h, bd_s, if_neg (show ¬ (1 : Int32) = 0 by decide), h]
    show (gM k 1 (wr m 105 6 (nI (q + 1))) 105).bind _ = _
    cases gM k 1 (wr m 105 6 (nI (q + 1))) 105 with
    | none => rfl
    | some r =>
      rw [bd_s, bd_s]
      show _ = some (Sum.inl ((if ¬ v = 0 then some (1 : Int32) else if r.1 = 0 then some 0 else some 1).getD 0, r.2))
      split
      · rfl
      · split <;> rfl
theorem lev1 (k o : Nat) (hn : n ≤ 50) (hbase : base + n ≤ 342) (hsub : ∀ p μ, p ≤ n → MSc μ u n base bb a b c → MSo μ p o → RES u n bb a b c o p (prd u n bb k 2 o) (gM k 2 μ 105) μ) {p : Nat} {μ : Mem} (hp : p ≤ n) (C : MSc μ u n base bb a b c) (O : MSo μ p o) : RES u n bb a b c o p (prd u n bb (k + 1) 1 o) (gM (k + 1) 1 μ 105) μ := by
  refine levM 1 o (by omega) (by omega) (prd u n bb k 2 o) (gM k 2) (fun v m => F_X12_both_l5 (grp_X12_both k).1 (grp_X12_both k).2.1 (grp_X12_both k).2.2.1 (grp_X12_both k).2.2.2.1 (grp_X12_both k).2.2.2.2.1 (grp_X12_both k).2.2.2.2.2 105 v m) hsub ?_ ?_ ?_ hn hp C O
  · intro v m q hq h8
    unfold F_X12_both_l5
    rw [show (38 : Int32) = nI 38 from rfl, e_takesF (by omega) h8 38 (by omega), bd_s, if_pos rfl]
  · intro v m q hq C' O' h
    unfold F_X12_both_l5
    rw [show (38 : Int32) = nI 38 from rfl, e_takes hn hbase C' hq O' 38 (by omega), if_neg (fun z => h (plv_1.mpr z)), bd_s, if_pos rfl]
  · intro v m q hq C' O' h
    have h := plv_1.mp h
    unfold F_X12_both_l5
    rw [show (38 : Int32) = nI 38 from rfl, e_takes hn hbase C' hq O' 38 (by omega), if_pos h, bd_s, if_neg (show ¬ (1 : Int32) = 0 by decide), h]
    show (gM k 2 (wr m 105 6 (nI (q + 1))) 105).bind _ = _
    cases gM k 2 (wr m 105 6 (nI (q + 1))) 105 with
    | none => rfl
    | some r =>
      rw [bd_s, bd_s]
      show _ = some (Sum.inl ((if v = 0 then some (0 : Int32) else if r.1 = 0 then some 0 else some 1).getD 0, r.2))
      split
      · rfl
      · split <;> rfl
theorem lev3 (k o : Nat) (hn : n ≤ 50) (hbase : base + n ≤ 342) (hsub : ∀ p μ, p ≤ n → MSc μ u n base bb a b c → MSo μ p o → RES u n bb a b c o p (prd u n bb k 4 o) (gM k 4 μ 105) μ) {p : Nat} {μ : Mem} (hp : p ≤ n) (C : MSc μ u n base bb a b c) (O : MSo μ p o) : RES u n bb a b c o p (prd u n bb (k + 1) 3 o) (gM (k + 1) 3 μ 105) μ := by
  refine levM 3 o (by omega) (by omega) (prd u n bb k 4 o) (gM k 4) (fun v m => F_X12_sum_l5 (grp_X12_both k).1 (grp_X12_both k).2.1 (grp_X12_both k).2.2.1 (grp_X12_both k).2.2.2.1 (grp_X12_both k).2.2.2.2.1 (grp_X12_both k).2.2.2.2.2 105 v m) hsub ?_ ?_ ?_ hn hp C O
  · intro v m q hq h8
    unfold F_X12_sum_l5
    rw [e_hereF (by omega) h8, bd_s, bd_s, if_neg (by decide), if_pos (by decide)]
  · intro v m q hq C' O' h
    unfold F_X12_sum_l5
    have q1 : (hv n bb q = 43) = (pat n bb q = 43) := hvq C' q 43 (by omega)
    have q2 : (hv n bb q = 45) = (pat n bb q = 45) := hvq C' q 45 (by omega)
    rw [e_here hn hbase C' hq O'.1 O'.2.1, bd_s, bd_s, if_neg (fun z => h (plv_3.mpr (Or.inl (q1.mp z)))), if_pos (fun z => h (plv_3.mpr (Or.inr (q2.mp z))))]
  · intro v m q hq C' O' h
    have q1 : (hv n bb q = 43) = (pat n bb q = 43) := hvq C' q 43 (by omega)
    have q2 : (hv n bb q = 45) = (pat n bb q = 45) := hvq C' q 45 (by omega)
    have J : ∀ k' : Nat, (k' = 43 ∨ k' = 45) → pat n bb q = k' → F_X12_sum_j23 (grp_X12_both k).1 (grp_X12_both k).2.1 (grp_X12_both k).2.2.1 (grp_X12_both k).2.2.2.1 (grp_X12_both k).2.2.2.2.1 (grp_X12_both k).2.2.2.2.2 m 105 v = (gM k 4 (wr m 105 6 (nI (q + 1))) 105).bind fun q' => some (.inl (jn (nI k') v q'.1, q'.2)) := by
      intro k' hk' hq'
      unfold F_X12_sum_j23
      rw [e_here hn hbase C' hq O'.1 O'.2.1, bd_s, bd_s, O'.1, nI_1, (hvq C' q k' (by omega)).mpr hq']
      show (gM k 4 (wr m 105 6 (nI (q + 1))) 105).bind _ = _
      cases gM k 4 (wr m 105 6 (nI (q + 1))) 105 with
      | none => rfl
      | some r =>
        rw [bd_s, bd_s]
        rcases hk' with rfl | rfl
        · rw [if_neg (not_not_intro (by decide))]; rfl
        · rw [if_pos (by decide)]; rfl
    unfold F_X12_sum_l5
    rw [e_here hn hbase C' hq O'.1 O'.2.1, bd_s, bd_s]
    rcases plv_3.mp h with z | z
    · rw [if_pos (q1.mpr z), J 43 (Or.inl rfl) z, z]
    · rw [if_neg (fun y => by have := q1.mp y; omega), if_neg (not_not_intro (q2.mpr z)), J 45 (Or.inr rfl) z, z]
theorem lev4 (k o : Nat) (hn : n ≤ 50) (hbase : base + n ≤ 342) (hsub : ∀ p μ, p ≤ n → MSc μ u n base bb a b c → MSo μ p o → RES u n bb a b c o p (prd u n bb k 5 o) (gM k 5 μ 105) μ) {p : Nat} {μ : Mem} (hp : p ≤ n) (C : MSc μ u n base bb a b c) (O : MSo μ p o) : RES u n bb a b c o p (prd u n bb (k + 1) 4 o) (gM (k + 1) 4 μ 105) μ := by
  refine levM 4 o (by omega) (by omega) (prd u n bb k 5 o) (gM k 5) (fun v m => F_X12_product_l5 (grp_X12_both k).1 (grp_X12_both k).2.1 (grp_X12_both k).2.2.1 (grp_X12_both k).2.2.2.1 (grp_X12_both k).2.2.2.2.1 (grp_X12_both k).2.2.2.2.2 105 v m) hsub ?_ ?_ ?_ hn hp C O
  · intro v m q hq h8
    unfold F_X12_product_l5
    rw [e_hereF (by omega) h8, bd_s, bd_s, bd_s, if_neg (by decide), if_neg (by decide), if_pos (by decide)]
  · intro v m q hq C' O' h
    unfold F_X12_product_l5
    have q1 : (hv n bb q = 42) = (pat n bb q = 42) := hvq C' q 42 (by omega)
    have q2 : (hv n bb q = 47) = (pat n bb q = 47) := hvq C' q 47 (by omega)
    have q3 : (hv n bb q = 37) = (pat n bb q = 37) := hvq C' q 37 (by omega)
    rw [e_here hn hbase C' hq O'.1 O'.2.1, bd_s, bd_s, bd_s, if_neg (fun z => h (plv_4.mpr (Or.inl (q1.mp z)))), if_neg (fun z => h (plv_4.mpr (Or.inr (Or.inl (q2.mp z))))), if_pos (fun z => h (plv_4.mpr (Or.inr (Or.inr (q3.mp z)))))]
  · intro v m q hq C' O' h
    have q1 : (hv n bb q = 42) = (pat n bb q = 42) := hvq C' q 42 (by omega)
    have q2 : (hv n bb q = 47) = (pat n bb q = 47) := hvq C' q 47 (by omega)
    have q3 : (hv n bb q = 37) = (pat n bb q = 37) := hvq C' q 37 (by omega)
    have J : ∀ k' : Nat, (k' = 42 ∨ k' = 47 ∨ k' = 37) → pat n bb q = k' → F_X12_product_j32 (grp_X12_both k).1 (grp_X12_both k).2.1 (grp_X12_both k).2.2.1 (grp_X12_both k).2.2.2.1 (grp_X12_both k).2.2.2.2.1 (grp_X12_both k).2.2.2.2.2 m 105 v = (gM k 5 (wr m 105 6 (nI (q + 1))) 105).bind fun q' => some (.inl (jn (nI k') v q'.1, q'.2)) := by
      intro k' hk' hq'
      unfold F_X12_product_j32
      rw [e_here hn hbase C' hq O'.1 O'.2.1, bd_s, bd_s, O'.1, nI_1, (hvq C' q k' (by omega)).mpr hq']
      show (gM k 5 (wr m 105 6 (nI (q + 1))) 105).bind _ = _
      cases gM k 5 (wr m 105 6 (nI (q + 1))) 105 with
      | none => rfl
      | some r =>
        rw [bd_s, bd_s]
        rcases hk' with rfl | rfl | rfl
        · rw [if_neg (not_not_intro (by decide))]; rfl
        · rw [if_pos (by decide)]
          show _ = some (Sum.inl ((if ¬ r.1 = 0 then if ¬ r.1 = 0 then some (v / r.1) else none else some (0 : Int32)).getD 0, r.2))
          by_cases y : r.1 = 0
          · rw [if_neg (not_not_intro y), if_neg (not_not_intro y)]; rfl
          · simp only [y, not_false_eq_true, if_true]
            rw [if_neg (not_not_intro (by decide))]; rfl
        · rw [if_pos (by decide)]
          show _ = some (Sum.inl ((if ¬ r.1 = 0 then if ¬ r.1 = 0 then some (jrem v r.1) else none else some (0 : Int32)).getD 0, r.2))
          by_cases y : r.1 = 0
          · rw [if_neg (not_not_intro y), if_neg (not_not_intro y)]; rfl
          · simp only [y, not_false_eq_true, if_true]
            rw [if_pos (by decide)]; rfl
    unfold F_X12_product_l5
    rw [e_here hn hbase C' hq O'.1 O'.2.1, bd_s, bd_s, bd_s]
    rcases plv_4.mp h with z | z | z
    · rw [if_pos (q1.mpr z), J 42 (Or.inl rfl) z, z]
    · rw [if_neg (fun y => by have := q1.mp y; omega), if_pos (q2.mpr z), J 47 (Or.inr (Or.inl rfl)) z, z]
    · rw [if_neg (fun y => by have := q1.mp y; omega), if_neg (fun y => by have := q2.mp y; omega), if_neg (not_not_intro (q3.mpr z)), J 37 (Or.inr (Or.inr rfl)) z, z]
theorem lev2 (k o : Nat) (hn : n ≤ 50) (hbase : base + n ≤ 342) (hsub : ∀ p μ, p ≤ n → MSc μ u n base bb a b c → MSo μ p o → RES u n bb a b c o p (prd u n bb k 3 o) (gM k 3 μ 105) μ) {p : Nat} {μ : Mem} (hp : p ≤ n) (C : MSc μ u n base bb a b c) (O : MSo μ p o) : RES u n bb a b c o p (prd u n bb (k + 1) 2 o) (gM (k + 1) 2 μ 105) μ := by
  obtain ⟨p1, x1, f1, v1, μ1, g1, g2, g3, g4, g5, g6, g7, g8, g9⟩ := hsub p μ hp C O
  have hM : gM (k + 1) 2 μ 105 = (f_X12_here μ1 105).bind fun r6 => if r6 = 60 then F_X12_compared_j30 (grp_X12_both k).1 (grp_X12_both k).2.1 (grp_X12_both k).2.2.1 (grp_X12_both k).2.2.2.1 (grp_X12_both k).2.2.2.2.1 (grp_X12_both k).2.2.2.2.2 μ1 105 v1 r6 else if r6 = 61 then F_X12_compared_j30 (grp_X12_both k).1 (grp_X12_both k).2.1 (grp_X12_both k).2.2.1 (grp_X12_both k).2.2.2.1 (grp_X12_both k).2.2.2.2.1 (grp_X12_both k).2.2.2.2.2 μ1 105 v1 r6 else if r6 = 62 then F_X12_compared_j30 (grp_X12_both k).1 (grp_X12_both k).2.1 (grp_X12_both k).2.2.1 (grp_X12_both k).2.2.2.1 (grp_X12_both k).2.2.2.2.1 (grp_X12_both k).2.2.2.2.2 μ1 105 v1 r6 else some (v1, μ1) := by
    show (gM k 3 μ 105).bind _ = _
    rw [g2, bd_s]
  have hP : ∀ st, prd u n bb (k + 1) 2 o (p, st, false) = plp n bb (prd u n bb k 3 o) 2 50 (p1, st ++ x1, f1) := by
    intro st
    rw [← g1]
    rfl
  cases f1 with
  | true =>
    have z := g9 rfl
    rw [e_hereF (by omega) z, bd_s, if_neg (by decide), if_neg (by decide), if_neg (by decide)] at hM
    exact ⟨p1, x1, true, v1, μ1, fun st => by rw [hP, plp, if_neg (fun h => by cases h.1)], hM, g3, g4, g5, g6, g7, fun h => (by cases h), fun _ => z⟩
  | false =>
    obtain ⟨z1, z2, z3, z4⟩ := g8 rfl
    have C1 := MSc_K g6 C
    have q1 : (hv n bb p1 = 60) = (pat n bb p1 = 60) := hvq C1 p1 60 (by omega)
    have q2 : (hv n bb p1 = 61) = (pat n bb p1 = 61) := hvq C1 p1 61 (by omega)
    have q3 : (hv n bb p1 = 62) = (pat n bb p1 = 62) := hvq C1 p1 62 (by omega)
    rw [e_here hn hbase C1 g4 g7 z2, bd_s] at hM
    by_cases hgo : plv (pat n bb p1) = 2
    · have hc := plv_gt hgo (by omega)
      have hpn : p1 < n := by
        unfold pat at hc
        by_cases y : p1 < n
        · exact y
        · rw [if_neg y] at hc; omega
      obtain ⟨s1, s2, s3⟩ := sgn_lt hc.1 hc.2
      have K1 : MK μ1 (wr μ1 105 6 (nI (p1 + 1))) := MK_wr (Or.inl rfl)
      obtain ⟨p2, y, f2, w, μ2, i1, i2, i3, i4, i5, i6, i7, i8, i9⟩ := hsub (p1 + 1) _ (by omega) (MSc_K K1 C1) ⟨rd_wr_s _ _ _ _, by rw [rd_wr_n (by omega)]; exact z2, by rw [rd_wr_n (by omega)]; exact z3⟩
      have J : ∀ k' : Nat, (k' = 60 ∨ k' = 61 ∨ k' = 62) → F_X12_compared_j30 (grp_X12_both k).1 (grp_X12_both k).2.1 (grp_X12_both k).2.2.1 (grp_X12_both k).2.2.2.1 (grp_X12_both k).2.2.2.2.1 (grp_X12_both k).2.2.2.2.2 μ1 105 v1 (nI k') = some (jn (nI k') v1 w, μ2) := by
        intro k' hk'
        unfold F_X12_compared_j30
        rw [bd_s, g7, nI_1]
        show (gM k 3 (wr μ1 105 6 (nI (p1 + 1))) 105).bind _ = _
        rw [i2, bd_s]
        rcases hk' with rfl | rfl | rfl
        · rw [if_neg (not_not_intro (by decide))]
          show _ = some ((if w ≤ v1 then some (0 : Int32) else some 1).getD 0, μ2)
          split <;> rfl
        · rw [if_pos (by decide), if_neg (not_not_intro (by decide))]
          show _ = some ((if ¬ v1 = w then some (0 : Int32) else some 1).getD 0, μ2)
          split <;> rfl
        · rw [if_pos (by decide), if_pos (by decide)]
          show _ = some ((if v1 ≤ w then some (0 : Int32) else some 1).getD 0, μ2)
          split <;> rfl
      have hM2 : gM (k + 1) 2 μ 105 = some (jn (nI (pat n bb p1)) v1 w, μ2) := by
        rw [hM]
        rcases plv_2.mp hgo with e | e | e
        · rw [if_pos (q1.mpr e), show hv n bb p1 = nI 60 from q1.mpr e, J 60 (Or.inl rfl), e]
        · rw [if_neg (fun y => by have := q1.mp y; omega), if_pos (q2.mpr e), show hv n bb p1 = nI 61 from q2.mpr e, J 61 (Or.inr (Or.inl rfl)), e]
        · rw [if_neg (fun y => by have := q1.mp y; omega), if_neg (fun y => by have := q2.mp y; omega), if_pos (q3.mpr e), show hv n bb p1 = nI 62 from q3.mpr e, J 62 (Or.inr (Or.inr rfl)), e]
      refine ⟨p2, x1 ++ (y ++ [-nI (pat n bb p1)]), f2, _, μ2, fun st => ?_, hM2, by omega, i4, by simp only [List.length_append, List.length_cons, List.length_nil]; omega, MK_tr (MK_tr g6 K1) i6, i7, fun h => ?_, i9⟩
      · rw [hP, plp, if_pos ⟨rfl, hgo⟩, if_pos rfl, i1]
        unfold padd
        simp only [List.append_assoc]
      · obtain ⟨j1, j2, j3, j4⟩ := i8 h
        refine ⟨by omega, j2, j3, ?_⟩
        have := evl_two s1 s2 z4 j4
        rw [s3] at this
        simp only [List.append_assoc] at this ⊢
        exact this
    · rw [if_neg (fun y => hgo (plv_2.mpr (Or.inl (q1.mp y)))), if_neg (fun y => hgo (plv_2.mpr (Or.inr (Or.inl (q2.mp y))))), if_neg (fun y => hgo (plv_2.mpr (Or.inr (Or.inr (q3.mp y)))))] at hM
      exact ⟨p1, x1, false, v1, μ1, fun st => by rw [hP, plp, if_neg (fun h => hgo h.2)], hM, g3, g4, g5, g6, g7, g8, g9⟩
end
