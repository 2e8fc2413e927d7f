/-! PURE: the model reads a text -/
/-- what stays while a text is read -/
def MSc (μ : Mem) (u n base : Nat) (bb : Nat → Nat) (a b c : Int32) : Prop := rd μ 105 5 = nI base ∧ rd μ 105 7 = nI n ∧ rd μ 105 10 = nI u ∧ rd μ 110 0 = a ∧ rd μ 110 1 = b ∧ rd μ 110 2 = c ∧ ∀ i, i < n → rd μ 106 (base + i) = nI (bb i) ∧ bb i < 256
def MSo (μ : Mem) (p o : Nat) : Prop := rd μ 105 6 = nI p ∧ rd μ 105 8 = -1 ∧ rd μ 105 9 = nI o
/-- only the place, the fault, how many are open change -/
def MK (μ μ2 : Mem) : Prop := ∀ k j, ¬ (k = 105 ∧ (j = 6 ∨ j = 8 ∨ j = 9)) → rd μ2 k j = rd μ k j
theorem MK_rfl (μ : Mem) : MK μ μ := fun _ _ _ => rfl
theorem MK_tr {μ μ1 μ2 : Mem} (h1 : MK μ μ1) (h2 : MK μ1 μ2) : MK μ μ2 := fun k j h => by rw [h2 k j h, h1 k j h]
theorem MK_wr {μ : Mem} {j : Nat} {v : Int32} (h : j = 6 ∨ j = 8 ∨ j = 9) : MK μ (wr μ 105 j v) := fun k i q => rd_wr_n (fun z => q ⟨z.1, by rw [z.2]; exact h⟩)
theorem MSc_K {μ μ2 : Mem} {u n base : Nat} {bb : Nat → Nat} {a b c : Int32} (h : MK μ μ2) (H : MSc μ u n base bb a b c) : MSc μ2 u n base bb a b c := by
  obtain ⟨h1, h2, h3, h4, h5, h6, h7⟩ := H
  refine ⟨by rw [h _ _ (by omega)]; exact h1, by rw [h _ _ (by omega)]; exact h2, by rw [h _ _ (by omega)]; exact h3, by rw [h _ _ (by omega)]; exact h4, by rw [h _ _ (by omega)]; exact h5, by rw [h _ _ (by omega)]; exact h6, fun i hi => by rw [h _ _ (by omega)]; exact h7 i hi⟩
def hv (n : Nat) (bb : Nat → Nat) (p : Nat) : Int32 := if p < n then nI (bb p) else -1
theorem hv_eq {n : Nat} {bb : Nat → Nat} {p c : Nat} (hb : p < n → bb p < 256) (hc : c < 256) : (hv n bb p = nI c) = (pat n bb p = c) := by
  unfold hv pat
  by_cases h : p < n
  · rw [if_pos h, if_pos h]
    exact propext (nI_eq (by have := hb h; omega) (by omega))
  · rw [if_neg h, if_neg h]
    refine propext ⟨fun q => ?_, fun q => by omega⟩
    have h1 : (nI c).toInt = (c : Int) := nI_c (by omega)
    rw [← q] at h1
    have : (-1 : Int32).toInt = -1 := rfl
    omega
theorem e_here {μ : Mem} {u n base : Nat} {bb : Nat → Nat} {a b c : Int32} (hn : n ≤ 50) (hbase : base + n ≤ 342) (C : MSc μ u n base bb a b c) {p : Nat} (hp : p ≤ n) (h6 : rd μ 105 6 = nI p) (h8 : rd μ 105 8 = -1) : f_X12_here μ 105 = some (hv n bb p) := by
  obtain ⟨c1, c2, c3, c4, c5, c6, c7⟩ := C
  unfold f_X12_here hv
  rw [c2, h6, h8, c1]
  by_cases h : p < n
  · rw [if_neg (nI_ge h (by omega)), if_neg (by decide), nI_add, ib_nI (show base + p < 342 by omega) (by omega), if_pos rfl, if_pos h, tn_nI (by omega)]
    simp only [rfs]
    rw [(c7 p h).1]
  · rw [if_pos (nI_le (by omega) (by omega)), if_neg h]
theorem e_hereF {μ : Mem} {p : Nat} (hp : p < 1000) (h8 : rd μ 105 8 = nI p) : f_X12_here μ 105 = some (-1) := by
  unfold f_X12_here
  rw [h8]
  split
  · rfl
  · rw [if_pos (show (0 : Int32) ≤ nI p from nI_le (a := 0) (by omega) (by omega))]
/-- the model's function of a level -/
def gM (k : Nat) : Nat → Mem → Nat → Option (Int32 × Mem)
  | 0 => (grp_X12_both k).2.2.1
  | 1 => (grp_X12_both k).1
  | 2 => (grp_X12_both k).2.1
  | 3 => (grp_X12_both k).2.2.2.2.1
  | 4 => (grp_X12_both k).2.2.2.1
  | _ => (grp_X12_both k).2.2.2.2.2
/-- what a reading from place p comes to: place, steps more, failed; the value -/
def RES (u n : Nat) (bb : Nat → Nat) (a b c : Int32) (o p : Nat) (f : PS → PS) (r : Option (Int32 × Mem)) (μ : Mem) : Prop :=
  ∃ (p' : Nat) (x : List Int32) (fl : Bool) (v : Int32) (μ2 : Mem), (∀ st, f (p, st, false) = (p', st ++ x, fl)) ∧ r = some (v, μ2) ∧ p ≤ p' ∧ p' ≤ n ∧ x.length ≤ p' - p ∧ MK μ μ2 ∧ rd μ2 105 6 = nI p' ∧ (fl = false → p < p' ∧ rd μ2 105 8 = -1 ∧ rd μ2 105 9 = nI o ∧ ∀ L, evl a b c x L = v :: L) ∧ (fl = true → rd μ2 105 8 = nI p')
theorem evl_two {a b c s v w : Int32} {x y : List Int32} (hs : s < -3) (hs2 : ¬ s = -33) (h1 : ∀ L, evl a b c x L = v :: L) (h2 : ∀ L, evl a b c y L = w :: L) : ∀ L, evl a b c (x ++ y ++ [s]) L = jn (-s) v w :: L := by
  intro L
  rw [evl_app, evl_app, h1, h2]
  show ev1 a b c s (w :: v :: L) = _
  unfold ev1
  rw [if_pos hs, if_pos hs2]
theorem sgn_lt {c : Nat} (h : 33 < c) (hc : c < 256) : (-nI c : Int32) < -3 ∧ ¬ (-nI c : Int32) = -33 ∧ -(-nI c) = nI c := by
  refine ⟨?_, ?_, Int32.neg_neg⟩
  · have h1 : (-nI c).toInt = -(c : Int) := by
      rw [Int32.toInt_neg, nI_c (by omega)]
      exact Int.bmod_eq_of_le (by omega) (by omega)
    rw [i32_lt, h1]
    have : (-3 : Int32).toInt = -3 := rfl
    omega
  · intro e
    have h1 : (-nI c).toInt = -(c : Int) := by
      rw [Int32.toInt_neg, nI_c (by omega)]
      exact Int.bmod_eq_of_le (by omega) (by omega)
    rw [e] at h1
    have : (-33 : Int32).toInt = -33 := rfl
    omega
theorem plv_gt {c l : Nat} (h : plv c = l) (hl : l ≤ 4) : 33 < c ∧ c < 256 := by
  unfold plv at h
  repeat' split at h
  all_goals omega
/-- a loop of a level -/
theorem loopM {u n base : Nat} {bb : Nat → Nat} {a b c : Int32} (l o : Nat) (hl : l ≤ 4) (hl2 : l ≠ 2) (g : PS → PS) (gm : Mem → Nat → Option (Int32 × Mem)) (B : Int32 → Mem → Option ((Int32 × Mem) ⊕ (Int32 × Mem)))
    (hsub : ∀ p μ, p ≤ n → MSc μ u n base bb a b c → MSo μ p o → RES u n bb a b c o p g (gm μ 105) μ)
    (hF : ∀ v μ p, p ≤ n → rd μ 105 8 = nI p → B v μ = some (.inr (v, μ)))
    (hstop : ∀ v μ p, p ≤ n → MSc μ u n base bb a b c → MSo μ p o → plv (pat n bb p) ≠ l → B v μ = some (.inr (v, μ)))
    (hgo : ∀ v μ p, p ≤ n → MSc μ u n base bb a b c → MSo μ p o → plv (pat n bb p) = l → B v μ = (gm (wr μ 105 6 (nI (p + 1))) 105).bind fun q => some (.inl (jn (nI (pat n bb p)) v q.1, q.2))) :
    ∀ (i fu p : Nat) (v : Int32) (μ : Mem) (x0 : List Int32), i < fu → 50 ≤ i + p → n ≤ 50 → p ≤ n → MSc μ u n base bb a b c → MSo μ p o → (∀ L, evl a b c x0 L = v :: L) → ∃ (p' : Nat) (x : List Int32) (fl : Bool) (v' : Int32) (μ2 : Mem), (∀ st, plp n bb g l i (p, st ++ x0, false) = (p', st ++ (x0 ++ x), fl)) ∧ lp (fun s => B s.1 s.2) fu (v, μ) = some (v', μ2) ∧ p ≤ p' ∧ p' ≤ n ∧ x.length ≤ p' - p ∧ MK μ μ2 ∧ rd μ2 105 6 = nI p' ∧ (fl = false → rd μ2 105 8 = -1 ∧ rd μ2 105 9 = nI o ∧ ∀ L, evl a b c (x0 ++ x) L = v' :: L) ∧ (fl = true → rd μ2 105 8 = nI p') := by
  intro i
  induction i with
  | zero =>
    intro fu p v μ x0 hfu h50 hn hp C O hx
    obtain ⟨fu', rfl⟩ : ∃ fu', fu = fu' + 1 := ⟨fu - 1, by omega⟩
    have hnot : plv (pat n bb p) ≠ l := by
      have : pat n bb p = 999 := by unfold pat; rw [if_neg (by omega)]
      rw [this]
      show (9 : Nat) ≠ l
      omega
    refine ⟨p, [], false, v, μ, fun st => ?_, ?_, Nat.le_refl _, hp, by simp, MK_rfl μ, O.1, fun _ => ⟨O.2.1, O.2.2, by rw [List.append_nil]; exact hx⟩, fun h => by cases h⟩
    · rw [List.append_nil]; rfl
    · rw [lp]
      show (B v μ).bind _ = _
      rw [hstop v μ p hp C O hnot, bd_s]
  | succ i ih =>
    intro fu p v μ x0 hfu h50 hn hp C O hx
    obtain ⟨fu', rfl⟩ : ∃ fu', fu = fu' + 1 := ⟨fu - 1, by omega⟩
    by_cases hgo0 : plv (pat n bb p) = l
    · have hc := plv_gt hgo0 hl
      have hpn : p < n := by
        unfold pat at hc
        by_cases z : p < n
        · exact z
        · rw [if_neg z] at hc; omega
      obtain ⟨s1, s2, s3⟩ := sgn_lt hc.1 hc.2
      have K1 : MK μ (wr μ 105 6 (nI (p + 1))) := MK_wr (Or.inl rfl)
      have C1 := MSc_K K1 C
      have O1 : MSo (wr μ 105 6 (nI (p + 1))) (p + 1) o := ⟨rd_wr_s _ _ _ _, by rw [rd_wr_n (by omega)]; exact O.2.1, by rw [rd_wr_n (by omega)]; exact O.2.2⟩
      obtain ⟨p1, y, f1, w, μ1, g1, g2, g3, g4, g5, g6, g7, g8, g9⟩ := hsub (p + 1) _ (by omega) C1 O1
      have hB : B v μ = some (.inl (jn (nI (pat n bb p)) v w, μ1)) := by rw [hgo v μ p hp C O hgo0, g2, bd_s]
      have hP : ∀ st, plp n bb g l (i + 1) (p, st ++ x0, false) = plp n bb g l i (padd (-nI (pat n bb p)) (p1, st ++ x0 ++ y, f1)) := by
        intro st
        rw [plp, if_pos ⟨rfl, hgo0⟩, if_neg hl2, g1]
      cases f1 with
      | true =>
        have z := g9 rfl
        refine ⟨p1, y ++ [-nI (pat n bb p)], true, jn (nI (pat n bb p)) v w, μ1, fun st => ?_, ?_, by omega, g4, by simp only [List.length_append, List.length_cons, List.length_nil]; omega, MK_tr K1 g6, g7, fun h => (by cases h), fun _ => z⟩
        · rw [hP]
          unfold padd
          simp only [List.append_assoc]
          cases i with
          | zero => rfl
          | succ i => rw [plp, if_neg (fun h => by cases h.1)]
        · rw [lp]
          show (B v μ).bind _ = _
          rw [hB, bd_s]
          obtain ⟨fu2, rfl⟩ : ∃ fu2, fu' = fu2 + 1 := ⟨fu' - 1, by omega⟩
          simp only
          rw [lp]
          show (B _ μ1).bind _ = _
          rw [hF _ μ1 p1 g4 z, bd_s]
      | false =>
        obtain ⟨z1, z2, z3, z4⟩ := g8 rfl
        have hx1 : ∀ L, evl a b c (x0 ++ y ++ [-nI (pat n bb p)]) L = jn (nI (pat n bb p)) v w :: L := by
          have := evl_two s1 s2 hx z4
          rw [s3] at this
          exact this
        obtain ⟨p2, x, f2, v2, μ2, i1, i2, i3, i4, i5, i6, i7, i8, i9⟩ := ih fu' p1 (jn (nI (pat n bb p)) v w) μ1 (x0 ++ y ++ [-nI (pat n bb p)]) (by omega) (by omega) hn g4 (MSc_K g6 C1) ⟨g7, z2, z3⟩ hx1
        refine ⟨p2, y ++ [-nI (pat n bb p)] ++ x, f2, v2, μ2, fun st => ?_, ?_, by omega, i4, by simp only [List.length_append, List.length_cons, List.length_nil]; omega, MK_tr (MK_tr K1 g6) i6, i7, fun h => ?_, i9⟩
        · rw [hP]
          unfold padd
          have := i1 st
          simp only [List.append_assoc] at this ⊢
          exact this
        · rw [lp]
          show (B v μ).bind _ = _
          rw [hB, bd_s]
          exact i2
        · obtain ⟨j1, j2, j3⟩ := i8 h
          refine ⟨j1, j2, ?_⟩
          simp only [List.append_assoc] at j3 ⊢
          exact j3
    · refine ⟨p, [], false, v, μ, fun st => ?_, ?_, Nat.le_refl _, hp, by simp, MK_rfl μ, O.1, fun _ => ⟨O.2.1, O.2.2, by rw [List.append_nil]; exact hx⟩, fun h => by cases h⟩
      · rw [List.append_nil, plp, if_neg (fun h => hgo0 h.2)]
      · rw [lp]
        show (B v μ).bind _ = _
        rw [hstop v μ p hp C O hgo0, bd_s]
