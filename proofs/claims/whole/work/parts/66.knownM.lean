/-! PURE: what is known, the model -/
theorem pred_le {a t : Nat} (ha : a < 1000000) (ht : t < 1000000) : nI a ≤ nI t - 1 ↔ a < t := by
  by_cases z : t = 0
  · subst z
    rw [show nI 0 - 1 = (-1 : Int32) from by decide, i32_le, nI_c (by omega), show (-1 : Int32).toInt = -1 from by decide]
    omega
  · obtain ⟨q, rfl⟩ : ∃ q, t = q + 1 := ⟨t - 1, by omega⟩
    have e : nI (q + 1) - 1 = nI q := by rw [← nI_1]; exact Int32.add_sub_cancel _ _
    rw [e, i32_le, nI_c (by omega), nI_c (by omega)]
    omega
def kyk (l : List Mt) (j : Nat) : Nat := 12 * (l.getD j z3).1 + j
/-- the next meeting -/
theorem e_kbL {m : Mem} {l : List Mt} {k t : Nat} {a1 : Int32} (l12 : l.length ≤ 12) (lw : ∀ x ∈ l, x.1 ≤ 999 ∧ x.2.1 < 5 ∧ x.2.2 < 5 ∧ x.2.1 ≠ x.2.2) (M : MM m 106 l) (hk : k ≤ 999) (ht : t < 100000) : ∃ r, lp (fun s => f_X12_knownBy_l36 m 105 a1 (nI k) (nI t - 1) s.1 s.2) FU ((-1 : Int32), (0 : Int32)) = some r ∧ ((r = -1 ∧ ∀ j, j < l.length → ¬ (t ≤ kyk l j ∧ (l.getD j z3).1 ≤ k)) ∨ ∃ b, b < l.length ∧ r = nI b ∧ (t ≤ kyk l b ∧ (l.getD b z3).1 ≤ k) ∧ ∀ j, j < l.length → (t ≤ kyk l j ∧ (l.getD j z3).1 ≤ k) → kyk l b ≤ kyk l j) := by
  refine lp_I (fun i s => s.2 = nI i ∧ ((s.1 = -1 ∧ ∀ j, j < i → ¬ (t ≤ kyk l j ∧ (l.getD j z3).1 ≤ k)) ∨ ∃ b, b < i ∧ s.1 = nI b ∧ (t ≤ kyk l b ∧ (l.getD b z3).1 ≤ k) ∧ ∀ j, j < i → (t ≤ kyk l j ∧ (l.getD j z3).1 ≤ k) → kyk l b ≤ kyk l j)) l.length _ (by omega) ⟨rfl, Or.inl ⟨rfl, fun j hj => absurd hj (Nat.not_lt_zero j)⟩⟩ ?_ ?_
  · rintro i ⟨v, v'⟩ hi ⟨e1, e2⟩
    simp only at e1 e2
    subst e1
    have i12 : i < 12 := by omega
    have P : ∀ j, (134 : Int32) + 3 * nI j = nI (134 + 3 * j) := fun j => by rw [show (3 : Int32) * nI j = nI (3 * j) from pk_mul 3 j]; exact nI_add 134 (3 * j)
    have Ky : ∀ j, j < l.length → (12 : Int32) * rd m 106 (134 + 3 * j) + nI j = nI (kyk l j) := fun j hj => by rw [(MM_at M hj).1, show (12 : Int32) * nI (l.getD j z3).1 = nI (12 * (l.getD j z3).1) from pk_mul 12 _, nI_add]; rfl
    have Kb : ∀ j, j < l.length → kyk l j < 100000 ∧ (l.getD j z3).1 ≤ 999 := fun j hj => by
      have := (getD_in lw hj).1
      unfold kyk
      omega
    have J0 : f_X12_knownBy_j102 m 105 a1 (nI k) (nI t - 1) v (nI i) (nI (kyk l i)) 0 = some (.inl (v, nI (i + 1))) := by
      unfold f_X12_knownBy_j102
      rw [P, nI_1]
      by_cases y : nI (kyk l i) ≤ nI t - 1
      · rw [if_pos y]
      · rw [if_neg y, ib_nI (show 134 + 3 * i < 342 by omega) (by omega), if_pos rfl, if_pos (show (0 : Int32) = 0 from rfl)]
        split <;> rfl
    have J1 : f_X12_knownBy_j97 m 105 a1 (nI k) (nI t - 1) v (nI i) (nI (kyk l i)) = some (.inl (if t ≤ kyk l i ∧ (l.getD i z3).1 ≤ k then nI i else v, nI (i + 1))) := by
      unfold f_X12_knownBy_j97 f_X12_knownBy_j102
      simp only [rfs]
      rw [P, nI_1, ib_nI (show 134 + 3 * i < 342 by omega) (by omega), tn_nI (by omega), (MM_at M hi).1]
      by_cases y : kyk l i < t
      · rw [if_pos ((pred_le (by have := (Kb i hi).1; omega) (by omega)).mpr y), if_neg (fun q => by omega)]
      · rw [if_neg (fun q => y ((pred_le (by have := (Kb i hi).1; omega) (by omega)).mp q)), if_pos rfl]
        by_cases x : (l.getD i z3).1 ≤ k
        · rw [if_neg (nI_nlt x (by omega)), if_neg (show ¬ (1 : Int32) = 0 by decide), if_pos ⟨by omega, x⟩]
        · rw [if_pos (nI_lt (by omega) (by have := (Kb i hi).2; omega)), if_neg (fun q => x q.2)]
    rcases e2 with ⟨rfl, n1⟩ | ⟨b, hb, rfl, e, mn⟩
    · refine ⟨(if t ≤ kyk l i ∧ (l.getD i z3).1 ≤ k then nI i else -1, nI (i + 1)), ?_, rfl, ?_⟩
      · show f_X12_knownBy_l36 m 105 a1 (nI k) (nI t - 1) (-1) (nI i) = _
        unfold f_X12_knownBy_l36
        simp only [rfs, cls]
        rw [M.1, if_neg (nI_ge hi (by omega)), P, ib_nI (show 134 + 3 * i < 342 by omega) (by omega), if_pos rfl, if_pos (by decide), tn_nI (by omega), Ky i hi, J1]
      · simp only
        by_cases x : t ≤ kyk l i ∧ (l.getD i z3).1 ≤ k
        · rw [if_pos x]
          refine Or.inr ⟨i, by omega, rfl, x, fun j hj q => ?_⟩
          by_cases z : j = i
          · rw [z]; exact Nat.le_refl _
          · exact absurd q (n1 j (by omega))
        · rw [if_neg x]
          refine Or.inl ⟨rfl, fun j hj q => ?_⟩
          by_cases z : j = i
          · rw [z] at q; exact x q
          · exact n1 j (by omega) q
    · have hbl : b < l.length := by omega
      have hL : ∀ y : Option ((Int32 × Int32) ⊕ Int32), (if kyk l b ≤ kyk l i then f_X12_knownBy_j102 m 105 a1 (nI k) (nI t - 1) (nI b) (nI i) (nI (kyk l i)) 0 else f_X12_knownBy_j97 m 105 a1 (nI k) (nI t - 1) (nI b) (nI i) (nI (kyk l i))) = y → f_X12_knownBy_l36 m 105 a1 (nI k) (nI t - 1) (nI b) (nI i) = y := by
        intro y hy
        unfold f_X12_knownBy_l36
        simp only [rfs, cls]
        rw [M.1, if_neg (nI_ge hi (by omega)), P, ib_nI (show 134 + 3 * i < 342 by omega) (by omega), if_pos rfl, if_neg (nI_pos (by omega)), P, ib_nI (show 134 + 3 * b < 342 by omega) (by omega), if_pos rfl, tn_nI (by omega), tn_nI (by omega), Ky i hi, Ky b hbl]
        by_cases z : kyk l b ≤ kyk l i
        · rw [if_pos (nI_le z (by have := (Kb i hi).1; omega))]
          rw [if_pos z] at hy
          exact hy
        · rw [if_neg (nI_ge (by omega) (by have := (Kb b hbl).1; omega))]
          rw [if_neg z] at hy
          exact hy
      by_cases z : kyk l b ≤ kyk l i
      · refine ⟨(nI b, nI (i + 1)), hL _ (by rw [if_pos z, J0]), rfl, Or.inr ⟨b, by omega, rfl, e, fun j hj q => ?_⟩⟩
        by_cases y : j = i
        · rw [y]; exact z
        · exact mn j (by omega) q
      · refine ⟨(if t ≤ kyk l i ∧ (l.getD i z3).1 ≤ k then nI i else nI b, nI (i + 1)), hL _ (by rw [if_neg z, J1]), rfl, ?_⟩
        simp only
        by_cases x : t ≤ kyk l i ∧ (l.getD i z3).1 ≤ k
        · rw [if_pos x]
          refine Or.inr ⟨i, by omega, rfl, x, fun j hj q => ?_⟩
          by_cases y : j = i
          · rw [y]; exact Nat.le_refl _
          · have := mn j (by omega) q; omega
        · rw [if_neg x]
          refine Or.inr ⟨b, by omega, rfl, e, fun j hj q => ?_⟩
          by_cases y : j = i
          · rw [y] at q; exact absurd q x
          · exact mn j (by omega) q
  · rintro ⟨v, v'⟩ ⟨e1, e2⟩
    simp only at e1 e2
    subst e1
    refine ⟨v, ?_, e2⟩
    show f_X12_knownBy_l36 m 105 a1 (nI k) (nI t - 1) v (nI l.length) = _
    unfold f_X12_knownBy_l36
    simp only [rfs, cls]
    rw [M.1, if_pos (nI_le (Nat.le_refl _) (by omega))]
theorem e_kbM {μ : Mem} {n N w : Nat} {nd cl wi wt : Nat → Nat} {bi : Nat → Int32} {T : Nat → Dt} {l : List Mt} (F : FM μ 106 n nd cl wi wt bi) (V : FW n nd cl wi wt bi) (w9 : w ≤ 999) (H : TMt μ 106 N w T) (W : TWt n N w T) (l12 : l.length ≤ 12) (lw : ∀ x ∈ l, x.1 ≤ 999 ∧ x.2.1 < 5 ∧ x.2.2 < 5 ∧ x.2.1 ≠ x.2.2) (M : MM μ 106 l) {g k : Nat} (hg : g < 5) (hk : k ≤ 999) : ∃ μ2, f_X12_knownBy μ 105 (nI g) (nI k) = some (nI (kf (msrt l.reverse) (sw n wt T N) (cw k (msrt l.reverse)) g ||| sw n wt T N g k), μ2) ∧ ∀ k' j, k' ≠ 114 → rd μ2 k' j = rd μ k' j := by
  have n8 := V.1
  have N4 := W.1
  have len : (msrt l.reverse).length = l.length := by rw [msrt_len, List.length_reverse]
  obtain ⟨π, p1, p2, p3⟩ := srt_pos l l12
  have pS : ∀ i, i < l.length → (msrt l.reverse).getD i z3 = l.getD (π i) z3 := fun i hi => by
    rw [List.getD_eq_getElem?_getD, (p1 i hi).2]
    rfl
  obtain ⟨c1, c2, c3⟩ := cw_spec k (msrt l.reverse)
  rw [len] at c1 c3
  generalize hc : cw k (msrt l.reverse) = c at c1 c2 c3 ⊢
  generalize hS : msrt l.reverse = S at pS c2 c3 len ⊢
  have srt : Srt S := by rw [← hS]; exact msrt_srt _
  -- which of them may come next
  have th : ∀ j, j ≤ c → ∃ t, t < 100000 ∧ (j = 0 → t = 0) ∧ (∀ q, j = q + 1 → t = kyk l (π q) + 1) := by
    intro j hj
    cases j with
    | zero => exact ⟨0, by omega, fun _ => rfl, fun q h => by omega⟩
    | succ q =>
      have := (getD_in lw (p1 q (by omega)).1).1
      have := (p1 q (by omega)).1
      exact ⟨kyk l (π q) + 1, by unfold kyk; omega, fun h => by omega, fun q' h => by rw [show q' = q by omega]⟩
  have wk : ∀ i, i < l.length → ((l.getD (π i) z3).1 ≤ k ↔ i < c) := by
    intro i hi
    rw [← pS i hi]
    constructor
    · intro q
      by_cases z : i < c
      · exact z
      · have h1 := c3 (by omega)
        have h2 := srt_at srt (i := c) (j := i) (by omega) (List.getElem?_eq_getElem (by omega)) (List.getElem?_eq_getElem (by omega))
        rw [getD_at (show c < S.length by omega)] at h1
        rw [getD_at (show i < S.length by omega)] at q
        omega
    · exact c2 i
  have el : ∀ j t i, j ≤ c → (j = 0 → t = 0) → (∀ q, j = q + 1 → t = kyk l (π q) + 1) → i < l.length → ((t ≤ kyk l (π i) ∧ (l.getD (π i) z3).1 ≤ k) ↔ j ≤ i ∧ i < c) := by
    intro j t i hj t0 t1 hi
    rw [wk i hi]
    refine and_congr_left (fun ic => ?_)
    cases j with
    | zero => rw [t0 rfl]; exact ⟨fun _ => Nat.zero_le _, fun _ => Nat.zero_le _⟩
    | succ q =>
      rw [t1 q rfl]
      constructor
      · intro h
        by_cases z : q < i
        · exact z
        · by_cases y : i = q
          · subst y; omega
          · have := p3 i q (by omega) (by omega)
            unfold kyk at h
            omega
      · intro h
        have := p3 q i (by omega) hi
        unfold kyk
        omega
  obtain ⟨m0, a1, a2, a3⟩ : ∃ m0, lp (fun s => f_X12_knownBy_l2 105 (nI g) (nI k) s.1 s.2) FU ((0 : Int32), μ) = some m0 ∧ (∀ i, i < 5 → rd m0 114 i = nI 0) ∧ ∀ k' j, k' ≠ 114 → rd m0 k' j = rd μ k' j := by
    refine lp_I (fun j q => q.1 = nI j ∧ (∀ i, i < j → rd q.2 114 i = nI 0) ∧ ∀ k' j, k' ≠ 114 → rd q.2 k' j = rd μ k' j) 5 _ (by omega) ⟨rfl, fun i hi => absurd hi (Nat.not_lt_zero i), fun _ _ _ => rfl⟩ ?_ ?_
    · rintro j ⟨v, m⟩ hj ⟨e1, e2, e3⟩
      simp only at e1 e2 e3
      subst e1
      refine ⟨(nI (j + 1), wr m 114 j (nI 0)), ?_, rfl, fun i hi => ?_, fun k' i hk' => ?_⟩
      · show f_X12_knownBy_l2 105 (nI g) (nI k) (nI j) m = _
        unfold f_X12_knownBy_l2
        simp only [rfs]
        rw [if_neg (show ¬ (5 : Int32) ≤ nI j from nI_ge (b := 5) hj (by omega)), ib_nI hj (by omega), if_pos rfl, bd_s, tn_nI (by omega), nI_1]
        rfl
      · simp only
        by_cases z : i = j
        · rw [z, rd_wr_s]
        · rw [rd_wr_n (fun q => z q.2)]; exact e2 i (by omega)
      · simp only
        rw [rd_wr_n (fun q => hk' q.1), e3 k' i hk']
    · rintro ⟨v, m⟩ ⟨e1, e2, e3⟩
      simp only at e1 e2 e3
      subst e1
      refine ⟨m, ?_, e2, e3⟩
      show f_X12_knownBy_l2 105 (nI g) (nI k) (nI 5) m = _
      unfold f_X12_knownBy_l2
      rw [if_pos (by decide)]
  obtain ⟨m1, b1, b2, b3⟩ : ∃ m1, lp (fun s => f_X12_knownBy_l25 105 (nI g) (nI k) s.1 s.2.1 s.2.2) FU ((-1 : Int32), (1 : Int32), m0) = some m1 ∧ (∀ i, i < 5 → rd m1 114 i = nI (kf S (sw n wt T N) c i)) ∧ ∀ k' j, k' ≠ 114 → rd m1 k' j = rd μ k' j := by
    refine lp_I (fun j q => q.2.1 = (if j ≤ c then 1 else 0) ∧ (j ≤ c → ∃ t, t < 100000 ∧ (j = 0 → t = 0) ∧ (∀ q, j = q + 1 → t = kyk l (π q) + 1) ∧ q.1 = nI t - 1) ∧ (∀ i, i < 5 → rd q.2.2 114 i = nI (kf S (sw n wt T N) (min j c) i)) ∧ ∀ k' j, k' ≠ 114 → rd q.2.2 k' j = rd μ k' j) (c + 1) _ (by omega) ⟨by rw [if_pos (Nat.zero_le _)], fun _ => ⟨0, by omega, fun _ => rfl, fun q h => by omega, (show (-1 : Int32) = nI 0 - 1 from by decide)⟩, fun i hi => by rw [Nat.zero_min]; exact a2 i hi, a3⟩ ?_ ?_
    · rintro j ⟨v, v', m⟩ hj ⟨e1, e2, e3, e4⟩
      simp only at e1 e2 e3 e4
      have hjc : j ≤ c := by omega
      obtain ⟨t, t9, t0, t1, rfl⟩ := e2 hjc
      rw [if_pos hjc] at e1
      rw [Nat.min_eq_left hjc] at e3
      subst e1
      have KM : ∀ i, rd m 106 i = rd μ 106 i := fun i => e4 106 i (by omega)
      have M' : MM m 106 l := ⟨by rw [KM]; exact M.1, fun i x hx => by rw [KM, KM, KM]; exact M.2 i x hx⟩
      obtain ⟨r, r1, r2⟩ := e_kbL (a1 := nI g) l12 lw M' hk t9
      by_cases z : j < c
      · -- the meeting at place j
        have jl : j < l.length := by omega
        have e0 := (el j t j hjc t0 t1 jl).mpr ⟨Nat.le_refl _, z⟩
        have hr : r = nI (π j) := by
          rcases r2 with ⟨_, no⟩ | ⟨b, hb, rfl, q1, q2⟩
          · exact absurd e0 (no _ (p1 j jl).1)
          · obtain ⟨i, hi, rfl⟩ := p2 b hb
            have h1 := (el j t i hjc t0 t1 hi).mp q1
            have h2 := q2 _ (p1 j jl).1 e0
            by_cases y : i = j
            · rw [y]
            · have := p3 j i (by omega) hi
              unfold kyk at h2
              omega
        subst hr
        have pl := (p1 j jl).1
        have p12 : π j < 12 := by omega
        obtain ⟨x1, x2, x3, x4⟩ := getD_in lw pl
        obtain ⟨y1, y2, y3⟩ := MM_at M' pl
        have s9 : ∀ a b, sw n wt T N a b < 256 := fun a b => sw_256 n8 wt T N a b
        have F' := FM_cg n8 (fun j _ => KM j) F
        have H' := TMt_cg N4 (TW_s W) (fun j _ => KM j) H
        have P0 : (134 : Int32) + 3 * nI (π j) = nI (134 + 3 * π j) := by rw [show (3 : Int32) * nI (π j) = nI (3 * π j) from pk_mul 3 _]; exact nI_add 134 (3 * π j)
        have P1 : nI (134 + 3 * π j) + 1 = nI (135 + 3 * π j) := by rw [nI_1]; exact congrArg nI (by omega)
        have P2 : nI (134 + 3 * π j) + 2 = nI (136 + 3 * π j) := by rw [show nI (134 + 3 * π j) + 2 = nI (134 + 3 * π j + 2) from nI_add _ 2]; exact congrArg nI (by omega)
        refine ⟨(nI (kyk l (π j) + 1) - 1, 1, wr (wr m 114 (l.getD (π j) z3).2.1 (nI (kf S (sw n wt T N) j (l.getD (π j) z3).2.1 ||| kf S (sw n wt T N) j (l.getD (π j) z3).2.2 ||| sw n wt T N (l.getD (π j) z3).2.1 (l.getD (π j) z3).1 ||| sw n wt T N (l.getD (π j) z3).2.2 (l.getD (π j) z3).1))) 114 (l.getD (π j) z3).2.2 (nI (kf S (sw n wt T N) j (l.getD (π j) z3).2.1 ||| kf S (sw n wt T N) j (l.getD (π j) z3).2.2 ||| sw n wt T N (l.getD (π j) z3).2.1 (l.getD (π j) z3).1 ||| sw n wt T N (l.getD (π j) z3).2.2 (l.getD (π j) z3).1))), ?_, ?_, ?_, fun i hi => ?_, fun k' i hk' => ?_⟩
        · show f_X12_knownBy_l25 105 (nI g) (nI k) (nI t - 1) 1 m = _
          unfold f_X12_knownBy_l25
          rw [if_neg (show ¬ (1 : Int32) = 0 by decide), r1, bd_s, if_neg (nI_pos (by omega))]
          unfold f_X12_knownBy_j157
          simp only [rfs]
          rw [P0, P1, P2, if_neg (show ¬ (1 : Int32) = 0 by decide), ib_nI (show 134 + 3 * π j < 342 by omega) (by omega), if_pos rfl, ib_nI (show 135 + 3 * π j < 342 by omega) (by omega), if_pos rfl, ib_nI (show 136 + 3 * π j < 342 by omega) (by omega), if_pos rfl, tn_nI (show 134 + 3 * π j < 2 ^ 31 by omega), tn_nI (show 135 + 3 * π j < 2 ^ 31 by omega), tn_nI (show 136 + 3 * π j < 2 ^ 31 by omega), y1, y2, y3, ib_nI x2 (by omega), if_pos rfl, ib_nI x3 (by omega), if_pos rfl, e_sawM F' V w9 H' W x2 x1, bd_s, e_sawM F' V w9 H' W x3 x1, bd_s, if_pos rfl, bd_s, if_pos rfl, bd_s, tn_nI (by omega), tn_nI (by omega), e3 _ x2, e3 _ x3, nI_or, nI_or, nI_or, show (12 : Int32) * nI (l.getD (π j) z3).1 = nI (12 * (l.getD (π j) z3).1) from pk_mul 12 _, nI_add]
          have e : nI (kyk l (π j) + 1) - 1 = nI (12 * (l.getD (π j) z3).1 + π j) := by rw [← nI_1]; exact Int32.add_sub_cancel _ _
          rw [e]
        · simp only
          rw [if_pos (by omega)]
        · intro _
          exact ⟨kyk l (π j) + 1, by unfold kyk; omega, fun h => by omega, fun q h => by rw [show q = j by omega], rfl⟩
        · simp only
          rw [Nat.min_eq_left (show j + 1 ≤ c by omega), kf, met, pS j jl]
          by_cases a : i = (l.getD (π j) z3).2.2
          · rw [a, rd_wr_s, up_s]
          · rw [rd_wr_n (fun q => a q.2), up_n a]
            by_cases b : i = (l.getD (π j) z3).2.1
            · rw [b, rd_wr_s, up_s]
            · rw [rd_wr_n (fun q => b q.2), up_n b, e3 i hi]
        · simp only
          rw [rd_wr_n (fun q => hk' q.1), rd_wr_n (fun q => hk' q.1), e4 k' i hk']
      · have jc : j = c := by omega
        have hr : r = -1 := by
          rcases r2 with ⟨q, _⟩ | ⟨b, hb, _, q1, q2⟩
          · exact q
          · obtain ⟨i, hi, rfl⟩ := p2 b hb
            have := (el j t i hjc t0 t1 hi).mp q1
            omega
        subst hr
        refine ⟨(nI t - 1, 0, m), ?_, ?_, fun h => by omega, fun i hi => ?_, e4⟩
        · show f_X12_knownBy_l25 105 (nI g) (nI k) (nI t - 1) 1 m = _
          unfold f_X12_knownBy_l25
          rw [if_neg (show ¬ (1 : Int32) = 0 by decide), r1, bd_s, if_pos (by decide)]
          unfold f_X12_knownBy_j157
          rw [if_pos rfl]
        · simp only
          rw [if_neg (by omega)]
        · simp only
          rw [Nat.min_eq_right (by omega), e3 i hi, jc]
    · rintro ⟨v, v', m⟩ ⟨e1, e2, e3, e4⟩
      simp only at e1 e2 e3 e4
      rw [if_neg (by omega)] at e1
      rw [Nat.min_eq_right (by omega)] at e3
      subst e1
      refine ⟨m, ?_, e3, e4⟩
      show f_X12_knownBy_l25 105 (nI g) (nI k) v 0 m = _
      unfold f_X12_knownBy_l25
      rw [if_pos rfl]
  refine ⟨m1, ?_, b3⟩
  have KM : ∀ i, rd m1 106 i = rd μ 106 i := fun i => b3 106 i (by omega)
  unfold f_X12_knownBy
  simp only [rfs]
  rw [a1, bd_s, b1, bd_s, ib_nI hg (by omega), if_pos rfl, e_sawM (FM_cg n8 (fun j _ => KM j) F) V w9 (TMt_cg N4 (TW_s W) (fun j _ => KM j) H) W hg hk, bd_s, tn_nI (by omega), b2 g hg, nI_or]
