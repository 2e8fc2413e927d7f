/-! PURE: meetings in their order; what is known -/
abbrev z3 : Mt := (0, 0, 0)
theorem getD_at {l : List Mt} {i : Nat} (h : i < l.length) : l.getD i z3 = l[i] := by
  rw [List.getD_eq_getElem?_getD, List.getElem?_eq_getElem h]
  rfl
theorem mins_map (u : Mt → Mt) (hu : ∀ y, (u y).1 = y.1) (x : Mt) : ∀ l, mins (u x) (l.map u) = (mins x l).map u := by
  intro l
  induction l with
  | nil => rfl
  | cons y l ih =>
    rw [List.map_cons, mins, mins, hu, hu]
    by_cases e : x.1 < y.1
    · rw [if_pos e, if_pos e]; rfl
    · rw [if_neg e, if_neg e, List.map_cons, ih]
theorem msrt_map (u : Mt → Mt) (hu : ∀ y, (u y).1 = y.1) : ∀ l, msrt (l.map u) = (msrt l).map u := by
  intro l
  induction l with
  | nil => rfl
  | cons y l ih => rw [List.map_cons, msrt, msrt, ih, mins_map u hu]
def KSr (l : List Mt) : Prop := l.Pairwise (fun a b => 12 * a.1 + a.2.1 < 12 * b.1 + b.2.1)
theorem mins_ks {x : Mt} (hx : x.2.1 < 12) : ∀ l, KSr l → (∀ y ∈ l, y.2.1 < x.2.1) → KSr (mins x l) := by
  intro l
  induction l with
  | nil => intro _ _; simp [mins, KSr]
  | cons y l ih =>
    intro h hl
    unfold KSr at h
    rw [List.pairwise_cons] at h
    have hy := hl y List.mem_cons_self
    rw [mins]
    by_cases e : x.1 < y.1
    · rw [if_pos e]
      unfold KSr
      rw [List.pairwise_cons, List.pairwise_cons]
      refine ⟨fun z hz => ?_, h.1, h.2⟩
      rcases List.mem_cons.mp hz with rfl | hz
      · omega
      · have := h.1 z hz; omega
    · rw [if_neg e]
      unfold KSr
      rw [List.pairwise_cons]
      refine ⟨fun z hz => ?_, ih h.2 (fun z hz => hl z (List.mem_cons_of_mem _ hz))⟩
      rcases (mins_mem l).mp hz with rfl | hz
      · omega
      · exact h.1 z hz
def tg (l : List Mt) (k : Nat) : Mt := ((l.getD k z3).1, k, 0)
def tgs (l : List Mt) (n : Nat) : List Mt := (List.range n).map (tg l)
theorem tgs_mem {l : List Mt} {n : Nat} {y : Mt} : y ∈ tgs l n ↔ ∃ k, k < n ∧ tg l k = y := by
  unfold tgs
  rw [List.mem_map]
  exact ⟨fun ⟨k, a, b⟩ => ⟨k, List.mem_range.mp a, b⟩, fun ⟨k, a, b⟩ => ⟨k, List.mem_range.mpr a, b⟩⟩
theorem tgs_ks (l : List Mt) : ∀ n, n ≤ 12 → KSr (msrt (tgs l n).reverse) := by
  intro n
  induction n with
  | zero => intro _; simp [tgs, msrt, KSr]
  | succ n ih =>
    intro hn
    have e : (tgs l (n + 1)).reverse = tg l n :: (tgs l n).reverse := by
      unfold tgs
      rw [List.range_succ, List.map_append, List.reverse_append]
      rfl
    rw [e, msrt]
    refine mins_ks (show n < 12 by omega) _ (ih (by omega)) (fun y hy => ?_)
    rw [msrt_mem, List.mem_reverse, tgs_mem] at hy
    obtain ⟨k, a, b⟩ := hy
    rw [← b]
    exact a
/-- where the meetings stand that the class keeps by weeks -/
theorem srt_pos (l : List Mt) (h : l.length ≤ 12) : ∃ π : Nat → Nat, (∀ i, i < l.length → π i < l.length ∧ (msrt l.reverse)[i]? = some (l.getD (π i) z3)) ∧ (∀ k, k < l.length → ∃ i, i < l.length ∧ π i = k) ∧ (∀ i j, i < j → j < l.length → 12 * (l.getD (π i) z3).1 + π i < 12 * (l.getD (π j) z3).1 + π j) := by
  have hu : ∀ y : Mt, (fun y : Mt => ((y.1, (l.getD y.2.1 z3).2) : Mt)) y = (y.1, (l.getD y.2.1 z3).2) := fun _ => rfl
  have e1 : (tgs l l.length).map (fun y : Mt => ((y.1, (l.getD y.2.1 z3).2) : Mt)) = l := by
    unfold tgs
    rw [List.map_map]
    apply List.ext_getElem
    · simp
    · intro i h1 h2
      rw [List.getElem_map, List.getElem_range]
      show ((l.getD i z3).1, (l.getD i z3).2) = l[i]
      rw [getD_at h2]
  have e2 : msrt l.reverse = (msrt (tgs l l.length).reverse).map (fun y : Mt => ((y.1, (l.getD y.2.1 z3).2) : Mt)) := by
    rw [← msrt_map (fun y : Mt => ((y.1, (l.getD y.2.1 z3).2) : Mt)) (fun _ => rfl), List.map_reverse, e1]
  have ks := tgs_ks l l.length h
  have len : (msrt (tgs l l.length).reverse).length = l.length := by rw [msrt_len]; simp [tgs]
  have at' : ∀ i, i < l.length → ∃ k, k < l.length ∧ (msrt (tgs l l.length).reverse)[i]? = some (tg l k) := by
    intro i hi
    have hi' : i < (msrt (tgs l l.length).reverse).length := by omega
    have m := List.getElem_mem hi'
    rw [msrt_mem, List.mem_reverse, tgs_mem] at m
    obtain ⟨k, a, b⟩ := m
    exact ⟨k, a, by rw [List.getElem?_eq_getElem hi', b]⟩
  refine ⟨fun i => ((msrt (tgs l l.length).reverse).getD i z3).2.1, fun i hi => ?_, fun k hk => ?_, fun i j hij hj => ?_⟩
  · obtain ⟨k, a, b⟩ := at' i hi
    have g : (msrt (tgs l l.length).reverse).getD i z3 = tg l k := by rw [List.getD_eq_getElem?_getD, b]; rfl
    simp only [g]
    refine ⟨a, ?_⟩
    rw [e2, List.getElem?_map, b]
    show some ((l.getD k z3).1, (l.getD k z3).2) = _
    rfl
  · have m : tg l k ∈ msrt (tgs l l.length).reverse := by
      rw [msrt_mem, List.mem_reverse, tgs_mem]
      exact ⟨k, hk, rfl⟩
    obtain ⟨i, hi, e⟩ := List.getElem_of_mem m
    refine ⟨i, by omega, ?_⟩
    simp only [getD_at hi, e]
    rfl
  · obtain ⟨k, a, b⟩ := at' i (by omega)
    obtain ⟨k', a', b'⟩ := at' j hj
    have g : (msrt (tgs l l.length).reverse).getD i z3 = tg l k := by rw [List.getD_eq_getElem?_getD, b]; rfl
    have g' : (msrt (tgs l l.length).reverse).getD j z3 = tg l k' := by rw [List.getD_eq_getElem?_getD, b']; rfl
    simp only [g, g']
    obtain ⟨hi, x⟩ := List.getElem?_eq_some_iff.mp b
    obtain ⟨hj', x'⟩ := List.getElem?_eq_some_iff.mp b'
    have := List.pairwise_iff_getElem.mp ks i j hi hj' hij
    rw [x, x'] at this
    exact this
/-- two meet -/
def met (s : Nat → Nat → Nat) (K : Nat → Nat) (x : Mt) : Nat → Nat := up (up K x.2.1 (K x.2.1 ||| K x.2.2 ||| s x.2.1 x.1 ||| s x.2.2 x.1)) x.2.2 (K x.2.1 ||| K x.2.2 ||| s x.2.1 x.1 ||| s x.2.2 x.1)
def kf (S : List Mt) (s : Nat → Nat → Nat) : Nat → Nat → Nat
  | 0 => fun _ => 0
  | i + 1 => met s (kf S s i) (S.getD i z3)
/-- how many of them by a week -/
def cw (k : Nat) : List Mt → Nat
  | [] => 0
  | x :: l => if x.1 ≤ k then cw k l + 1 else 0
theorem cw_spec (k : Nat) : ∀ l : List Mt, cw k l ≤ l.length ∧ (∀ i, i < cw k l → (l.getD i z3).1 ≤ k) ∧ (cw k l < l.length → k < (l.getD (cw k l) z3).1) := by
  intro l
  induction l with
  | nil => exact ⟨Nat.le_refl _, fun i hi => absurd hi (Nat.not_lt_zero i), fun h => absurd h (Nat.not_lt_zero _)⟩
  | cons x l ih =>
    obtain ⟨h1, h2, h3⟩ := ih
    rw [cw]
    by_cases e : x.1 ≤ k
    · rw [if_pos e, List.length_cons]
      refine ⟨by omega, fun i hi => ?_, fun h => ?_⟩
      · cases i with
        | zero => exact e
        | succ i => rw [List.getD_cons_succ]; exact h2 i (by omega)
      · rw [List.getD_cons_succ]; exact h3 (by omega)
    · rw [if_neg e]
      exact ⟨Nat.zero_le _, fun i hi => absurd hi (Nat.not_lt_zero i), fun _ => by show k < x.1; omega⟩
theorem MX_at {μ : Mem} {c : Nat} {S : List Mt} (H : MX μ c S) {i : Nat} (hi : i < S.length) : rd μ (c + 1) i = nI (S.getD i z3).1 ∧ rd μ (c + 2) i = nI (S.getD i z3).2.1 ∧ rd μ (c + 3) i = nI (S.getD i z3).2.2 := by
  rw [getD_at hi]
  exact H.2 i _ (List.getElem?_eq_getElem hi)
theorem MM_at {μ : Mem} {D : Nat} {l : List Mt} (H : MM μ D l) {i : Nat} (hi : i < l.length) : rd μ D (134 + 3 * i) = nI (l.getD i z3).1 ∧ rd μ D (135 + 3 * i) = nI (l.getD i z3).2.1 ∧ rd μ D (136 + 3 * i) = nI (l.getD i z3).2.2 := by
  rw [getD_at hi]
  exact H.2 i _ (List.getElem?_eq_getElem hi)
theorem getD_in {S : List Mt} {P : Mt → Prop} (h : ∀ x ∈ S, P x) {i : Nat} (hi : i < S.length) : P (S.getD i z3) := by
  rw [getD_at hi]
  exact h _ (List.getElem_mem hi)
/-- the class -/
theorem e_gatherX {μ : Mem} {n N w : Nat} {nd cl wi wt : Nat → Nat} {bi : Nat → Int32} {T : Nat → Dt} {S : List Mt} (F : FX μ 2 n nd cl wi wt bi) (V : FW n nd cl wi wt bi) (w9 : w ≤ 999) (H : TXt μ 14 N w T) (W : TWt n N w T) (S12 : S.length ≤ 12) (hS : ∀ x ∈ S, x.1 ≤ 999 ∧ x.2.1 < 5 ∧ x.2.2 < 5 ∧ x.2.1 ≠ x.2.2) (X : MX μ 28 S) {k : Nat} (hk : k ≤ 999) : ∃ μ2, f_X10_gatherKnown μ 1 (nI k) 95 = some μ2 ∧ (∀ g, g < 5 → rd μ2 95 g = nI (kf S (sw n wt T N) (cw k S) g ||| sw n wt T N g k)) ∧ ∀ k' j, k' ≠ 95 → rd μ2 k' j = rd μ k' j := by
  have N4 := W.1
  obtain ⟨c1, c2, c3⟩ := cw_spec k S
  obtain ⟨m0, f1, f2, f3⟩ := e_fill (μ := μ) (c := 95) (L := 5) rfl (by omega) 0
  obtain ⟨m1, l1, l2, l3⟩ : ∃ m1, lp (fun s => f_X10_gatherKnown_l7 1 (nI k) 95 s.1 s.2) FU ((0 : Int32), m0) = some m1 ∧ (∀ g, g < 5 → rd m1 95 g = nI (kf S (sw n wt T N) (cw k S) g)) ∧ ∀ k' j, k' ≠ 95 → rd m1 k' j = rd μ k' j := by
    refine lp_I (fun j q => q.1 = nI j ∧ (∀ g, g < 5 → rd q.2 95 g = nI (kf S (sw n wt T N) j g)) ∧ ∀ k' j, k' ≠ 95 → rd q.2 k' j = rd μ k' j) (cw k S) _ (by omega) ⟨rfl, f2, f3⟩ ?_ ?_
    · rintro j ⟨v, m⟩ hj ⟨e1, e2, e3⟩
      simp only at e1 e2 e3
      subst e1
      have jl : j < S.length := by omega
      have j12 : j < 12 := by omega
      obtain ⟨x1, x2, x3, x4⟩ := getD_in hS jl
      obtain ⟨y1, y2, y3⟩ := MX_at (c := 28) X jl
      have wk := c2 j hj
      have r0 : rd m 28 3 = nI S.length := by rw [e3 _ _ (by omega)]; exact X.1
      have r1 : rd m 29 j = nI (S.getD j z3).1 := by rw [e3 _ _ (by omega)]; exact y1
      have r2 : rd m 30 j = nI (S.getD j z3).2.1 := by rw [e3 _ _ (by omega)]; exact y2
      have r3 : rd m 31 j = nI (S.getD j z3).2.2 := by rw [e3 _ _ (by omega)]; exact y3
      have F' := FX_cg (fun k j a b => e3 k j (by omega)) F
      have H' := TXt_cg N4 (fun k j a b => e3 k j (by omega)) H
      refine ⟨(nI (j + 1), wr (wr m 95 (S.getD j z3).2.1 (nI (kf S (sw n wt T N) j (S.getD j z3).2.1 ||| kf S (sw n wt T N) j (S.getD j z3).2.2 ||| sw n wt T N (S.getD j z3).2.1 (S.getD j z3).1 ||| sw n wt T N (S.getD j z3).2.2 (S.getD j z3).1))) 95 (S.getD j z3).2.2 (nI (kf S (sw n wt T N) j (S.getD j z3).2.1 ||| kf S (sw n wt T N) j (S.getD j z3).2.2 ||| sw n wt T N (S.getD j z3).2.1 (S.getD j z3).1 ||| sw n wt T N (S.getD j z3).2.2 (S.getD j z3).1))), ?_, rfl, fun g hg => ?_, fun k' i hk' => ?_⟩
      · show f_X10_gatherKnown_l7 1 (nI k) 95 (nI j) m = _
        unfold f_X10_gatherKnown_l7
        simp only [rfs, tn_nI (show j < 2 ^ 31 by omega)]
        rw [r0, r1, r2, r3, if_neg (nI_ge jl (by omega)), ib_nI j12 (by omega), if_pos rfl, if_neg (nI_nlt wk (by omega)), if_pos rfl, if_pos rfl, if_pos rfl, show ln 95 = 5 from rfl, ib_nI x2 (by omega), if_pos rfl, ib_nI x3 (by omega), if_pos rfl, e_witX F' V w9 H' W x2 x1, bd_s, e_witX F' V w9 H' W x3 x1, bd_s, if_pos rfl, bd_s, if_pos rfl, bd_s, tn_nI (by omega), tn_nI (by omega), e2 _ x2, e2 _ x3, nI_or, nI_or, nI_or, nI_1]
      · simp only
        rw [kf, met]
        by_cases a : g = (S.getD j z3).2.2
        · rw [a, rd_wr_s, up_s]
        · rw [rd_wr_n (fun q => a q.2), up_n a]
          by_cases b : g = (S.getD j z3).2.1
          · rw [b, rd_wr_s, up_s]
          · rw [rd_wr_n (fun q => b q.2), up_n b, e2 g hg]
      · simp only
        rw [rd_wr_n (fun q => hk' q.1), rd_wr_n (fun q => hk' q.1), e3 k' i hk']
    · rintro ⟨v, m⟩ ⟨e1, e2, e3⟩
      simp only at e1 e2 e3
      subst e1
      refine ⟨m, ?_, e2, e3⟩
      show f_X10_gatherKnown_l7 1 (nI k) 95 (nI (cw k S)) m = _
      have r0 : rd m 28 3 = nI S.length := by rw [e3 _ _ (by omega)]; exact X.1
      unfold f_X10_gatherKnown_l7
      simp only [rfs, tn_nI (show cw k S < 2 ^ 31 by omega)]
      by_cases z : cw k S < S.length
      · have r1 : rd m 29 (cw k S) = nI (S.getD (cw k S) z3).1 := by rw [e3 _ _ (by omega)]; exact (MX_at (c := 28) X z).1
        obtain ⟨x1, x2, x3, x4⟩ := getD_in hS z
        rw [r0, r1, if_neg (nI_ge z (by omega)), ib_nI (show cw k S < 12 by omega) (by omega), if_pos rfl, if_pos (nI_lt (c3 z) (by omega))]
      · rw [r0, if_pos (nI_le (by omega) (by omega))]
  obtain ⟨m2, g1, g2, g3⟩ : ∃ m2, lp (fun s => f_X10_gatherKnown_l113 1 (nI k) 95 s.1 s.2) FU ((0 : Int32), m1) = some m2 ∧ (∀ g, g < 5 → rd m2 95 g = nI (kf S (sw n wt T N) (cw k S) g ||| sw n wt T N g k)) ∧ ∀ k' j, k' ≠ 95 → rd m2 k' j = rd μ k' j := by
    refine lp_I (fun j q => q.1 = nI j ∧ (∀ g, g < 5 → rd q.2 95 g = nI (if g < j then kf S (sw n wt T N) (cw k S) g ||| sw n wt T N g k else kf S (sw n wt T N) (cw k S) g)) ∧ ∀ k' j, k' ≠ 95 → rd q.2 k' j = rd μ k' j) 5 _ (by omega) ⟨rfl, fun g hg => by rw [if_neg (by omega)]; exact l2 g hg, l3⟩ ?_ ?_
    · rintro j ⟨v, m⟩ hj ⟨e1, e2, e3⟩
      simp only at e1 e2 e3
      subst e1
      have F' := FX_cg (fun k j a b => e3 k j (by omega)) F
      have H' := TXt_cg N4 (fun k j a b => e3 k j (by omega)) H
      refine ⟨(nI (j + 1), wr m 95 j (nI (kf S (sw n wt T N) (cw k S) j ||| sw n wt T N j k))), ?_, rfl, fun g hg => ?_, fun k' i hk' => ?_⟩
      · show f_X10_gatherKnown_l113 1 (nI k) 95 (nI j) m = _
        unfold f_X10_gatherKnown_l113
        have e2' := e2 j hj
        rw [if_neg (Nat.lt_irrefl j)] at e2'
        rw [if_neg (show ¬ (5 : Int32) ≤ nI j from nI_ge (b := 5) hj (by omega)), show ln 95 = 5 from rfl, ib_nI hj (by omega), if_pos rfl, e_witX F' V w9 H' W hj hk, bd_s, if_pos rfl, bd_s, tn_nI (by omega), e2', nI_or, nI_1]
      · simp only
        by_cases a : g = j
        · rw [a, rd_wr_s, if_pos (by omega)]
        · rw [rd_wr_n (fun q => a q.2), e2 g hg]
          by_cases b : g < j
          · rw [if_pos b, if_pos (by omega)]
          · rw [if_neg b, if_neg (by omega)]
      · simp only
        rw [rd_wr_n (fun q => hk' q.1), e3 k' i hk']
    · rintro ⟨v, m⟩ ⟨e1, e2, e3⟩
      simp only at e1 e2 e3
      subst e1
      refine ⟨m, ?_, fun g hg => by have := e2 g hg; rw [if_pos hg] at this; exact this, e3⟩
      show f_X10_gatherKnown_l113 1 (nI k) 95 (nI 5) m = _
      unfold f_X10_gatherKnown_l113
      rw [if_pos (by decide)]
  refine ⟨m2, ?_, g2, g3⟩
  unfold f_X10_gatherKnown f_X10_gatherKnown_j111
  rw [f1, bd_s, l1, bd_s, g1, bd_s]
