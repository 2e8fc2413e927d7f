/-! PURE: each relation speaks of its own cells alone -/
theorem FX_cg {μ μ' : Mem} {f n : Nat} {nd cl wi wt : Nat → Nat} {bi : Nat → Int32} (h : ∀ k j, f ≤ k → k ≤ f + 5 → rd μ' k j = rd μ k j) (H : FX μ f n nd cl wi wt bi) : FX μ' f n nd cl wi wt bi := by
  refine ⟨by rw [h f 5 (by omega) (by omega)]; exact H.1, fun i hi => ?_⟩
  rw [h (f + 1) i (by omega) (by omega), h (f + 2) i (by omega) (by omega), h (f + 3) i (by omega) (by omega), h (f + 4) i (by omega) (by omega), h (f + 5) i (by omega) (by omega)]
  exact H.2 i hi
theorem FM_cg {μ μ' : Mem} {D n : Nat} {nd cl wi wt : Nat → Nat} {bi : Nat → Int32} (hn : n ≤ 8) (h : ∀ j, j = 0 ∨ 10 ≤ j ∧ j < 50 → rd μ' D j = rd μ D j) (H : FM μ D n nd cl wi wt bi) : FM μ' D n nd cl wi wt bi := by
  refine ⟨by rw [h 0 (by omega)]; exact H.1, fun i hi => ?_⟩
  rw [h (10 + 5 * i) (by omega), h (11 + 5 * i) (by omega), h (12 + 5 * i) (by omega), h (13 + 5 * i) (by omega), h (14 + 5 * i) (by omega)]
  exact H.2 i hi
theorem DX_cg {μ μ' : Mem} {c kd m db br s : Nat} {bk wk : Nat → Nat} (h : ∀ k j, c ≤ k → k ≤ c + 2 → rd μ' k j = rd μ k j) (H : DX μ c kd m db br s bk wk) : DX μ' c kd m db br s bk wk := by
  obtain ⟨h1, h2, h3, h4, h5, h6, h7⟩ := H
  refine ⟨?_, ?_, ?_, ?_, ?_, ?_, fun i hi => ?_⟩
  all_goals simp only [h c _ (Nat.le_refl _) (by omega), h (c + 1) _ (by omega) (by omega), h (c + 2) _ (by omega) (by omega)]
  all_goals first | assumption | exact h7 i hi
theorem DM_cg {μ μ' : Mem} {D p kd m db br s : Nat} {bk wk : Nat → Nat} (hs : s ≤ 8) (h : ∀ j, 50 + 21 * p ≤ j → j < 71 + 21 * p → rd μ' D j = rd μ D j) (H : DM μ D p kd m db br s bk wk) : DM μ' D p kd m db br s bk wk := by
  obtain ⟨h1, h2, h3, h4, h5, h7⟩ := H
  refine ⟨?_, ?_, ?_, ?_, ?_, fun i hi => ?_⟩
  · rw [h _ (by omega) (by omega)]; exact h1
  · rw [h _ (by omega) (by omega)]; exact h2
  · rw [h _ (by omega) (by omega)]; exact h3
  · rw [h _ (by omega) (by omega)]; exact h4
  · rw [h _ (by omega) (by omega)]; exact h5
  · rw [h _ (by omega) (by omega), h _ (by omega) (by omega)]; exact h7 i hi
theorem TX_cg {μ μ' : Mem} {t n N w : Nat} {kd m db br s : Nat → Nat} {bk wk : Nat → Nat → Nat} (hN : N ≤ 4) (h : ∀ k j, t ≤ k → k ≤ t + 13 → rd μ' k j = rd μ k j) (H : TX μ t n N w kd m db br s bk wk) : TX μ' t n N w kd m db br s bk wk := by
  refine ⟨by rw [h _ _ (by omega) (by omega)]; exact H.1, by rw [h _ _ (by omega) (by omega)]; exact H.2.1, fun p hp => DX_cg (fun k j h1 h2 => h k j (by omega) (by omega)) (H.2.2 p hp)⟩
theorem TM_cg {μ μ' : Mem} {D n N w : Nat} {kd m db br s : Nat → Nat} {bk wk : Nat → Nat → Nat} (hN : N ≤ 4) (hs : ∀ p, p < N → s p ≤ 8) (h : ∀ j, j = 1 ∨ j = 3 ∨ 50 ≤ j ∧ j < 134 → rd μ' D j = rd μ D j) (H : TM μ D n N w kd m db br s bk wk) : TM μ' D n N w kd m db br s bk wk := by
  refine ⟨by rw [h _ (by omega)]; exact H.1, by rw [h _ (by omega)]; exact H.2.1, fun p hp => DM_cg (hs p hp) (fun j h1 h2 => h j (by omega)) (H.2.2 p hp)⟩
theorem RFT_cg {μx μx' μm μm' : Mem} {f t D W : Nat} (hx : ∀ k j, f ≤ k ∧ k ≤ f + 5 ∨ t ≤ k ∧ k ≤ t + 13 → rd μx' k j = rd μx k j) (hm : ∀ j, j = 0 ∨ j = 1 ∨ j = 3 ∨ 10 ≤ j ∧ j < 134 → rd μm' D j = rd μm D j) (H : RFT μx f t μm D W) : RFT μx' f t μm' D W := by
  obtain ⟨z, n, nd, cl, wi, wt, bi, N, w, kd, m, db, br, s, bk, wk, h1, h2, h3, h4, h5, h6⟩ := H
  exact ⟨fun p hp => by rw [hx _ _ (Or.inr ⟨by omega, by omega⟩)]; exact z p hp, n, nd, cl, wi, wt, bi, N, w, kd, m, db, br, s, bk, wk, FX_cg (fun k j a b => hx k j (Or.inl ⟨a, b⟩)) h1, FM_cg h3.1 (fun j a => hm j (by omega)) h2, h3, TX_cg h6.1 (fun k j a b => hx k j (Or.inr ⟨a, b⟩)) h4, TM_cg h6.1 (fun p hp => (h6.2.2 p hp).2.2.2.2.1) (fun j a => hm j (by omega)) h5, h6⟩
theorem msrt_len (l : List Mt) : (msrt l).length = l.length := by
  have h1 : ∀ (x : Mt) (l : List Mt), (mins x l).length = l.length + 1 := by
    intro x l
    induction l with
    | nil => rfl
    | cons y l ih =>
      unfold mins
      split
      · rfl
      · simp [ih]
  induction l with
  | nil => rfl
  | cons x l ih => simp [msrt, h1, ih]
theorem lt_of_get {α : Type} {l : List α} {i : Nat} {x : α} (h : l[i]? = some x) : i < l.length := (List.getElem?_eq_some_iff.mp h).1
theorem RMe_cg {μx μx' μm μm' : Mem} {c D : Nat} (hx : ∀ k j, c ≤ k → k ≤ c + 3 → rd μx' k j = rd μx k j) (hm : ∀ j, j = 2 ∨ 134 ≤ j ∧ j < 170 → rd μm' D j = rd μm D j) (H : RMe μx c μm D) : RMe μx' c μm' D := by
  obtain ⟨l, h1, h2, h3, h4⟩ := H
  refine ⟨l, h1, h2, ⟨by rw [hx _ _ (by omega) (by omega)]; exact h3.1, fun i x h => ?_⟩, ⟨by rw [hm _ (by omega)]; exact h4.1, fun i x h => ?_⟩⟩
  · rw [hx _ _ (by omega) (by omega), hx _ _ (by omega) (by omega), hx _ _ (by omega) (by omega)]
    exact h3.2 i x h
  · have := lt_of_get h
    rw [hm _ (by omega), hm _ (by omega), hm _ (by omega)]
    exact h4.2 i x h
theorem RTp_cg {μx μx' μm μm' : Mem} {c D : Nat} (hx : ∀ k j, c ≤ k → k ≤ c + 1 → rd μx' k j = rd μx k j) (hm : ∀ j, j = 5 ∨ 292 ≤ j ∧ j < 342 → rd μm' D j = rd μm D j) (H : RTp μx c μm D) : RTp μx' c μm' D := by
  obtain ⟨n, h1, h2, h3, h4⟩ := H
  refine ⟨n, h1, by rw [hx _ _ (by omega) (by omega)]; exact h2, by rw [hm _ (by omega)]; exact h3, fun i hi => ?_⟩
  rw [hx _ _ (by omega) (by omega), hm _ (by omega)]
  exact h4 i hi
theorem RWa_cg {μx μx' μm μm' : Mem} {c k D : Nat} (hx : rd μx' c 7 = rd μx c 7) (hk : ∀ j, rd μx' k j = rd μx k j) (hm : ∀ j, j = 6 ∨ 172 ≤ j ∧ j < 192 → rd μm' D j = rd μm D j) (H : RWa μx c k μm D) : RWa μx' c k μm' D := by
  obtain ⟨n, h1, h2, h3, h4⟩ := H
  refine ⟨n, h1, by rw [hx]; exact h2, by rw [hm _ (by omega)]; exact h3, fun i hi => ?_⟩
  rw [hk, hm _ (by omega)]
  exact h4 i hi
theorem RLaw_cg {μx μx' μm μm' : Mem} {c s D u : Nat} (hu : u < 2) (hx : rd μx' c 3 = rd μx c 3) (hs : ∀ j, rd μx' s j = rd μx s j) (hm : ∀ j, j = 170 + u ∨ 192 + 50 * u ≤ j ∧ j < 242 + 50 * u → rd μm' D j = rd μm D j) (H : RLaw μx c s μm D u) : RLaw μx' c s μm' D u := by
  obtain ⟨n, bb, st, h1, h2, h3, h4, h5, h6, h7⟩ := H
  refine ⟨n, bb, st, h1, h2, by rw [hx]; exact h3, fun i v hv => by rw [hs]; exact h4 i v hv, by rw [hm _ (by omega)]; exact h5, fun i hi => ⟨(h6 i hi).1, ?_⟩, h7⟩
  rw [hm _ (by omega)]
  exact (h6 i hi).2
theorem RW_cg {μx μx' μm μm' : Mem} {w D : Nat} (hx : ∀ k j, w ≤ k → k ≤ w + 33 → rd μx' k j = rd μx k j) (hm : ∀ j, rd μm' D j = rd μm D j) (H : RW μx w μm D) : RW μx' w μm' D := by
  obtain ⟨h1, h2, h3, h4, h5, h6, h7⟩ := H
  refine ⟨RFT_cg (fun k j h => hx k j (by omega) (by omega)) (fun j _ => hm j) h1, RMe_cg (fun k j a b => hx k j (by omega) (by omega)) (fun j _ => hm j) h2, RTp_cg (fun k j a b => hx k j (by omega) (by omega)) (fun j _ => hm j) h3, RWa_cg (hx _ _ (by omega) (by omega)) (fun j => hx _ j (by omega) (by omega)) (fun j _ => hm j) h4, ?_, RLaw_cg (by omega) (hx _ _ (by omega) (by omega)) (fun j => hx _ j (by omega) (by omega)) (fun j _ => hm j) h6, RLaw_cg (by omega) (hx _ _ (by omega) (by omega)) (fun j => hx _ j (by omega) (by omega)) (fun j _ => hm j) h7⟩
  rw [hx _ _ (by omega) (by omega), hm]
  exact h5
theorem RSh_cg {μx μx' μm μm' : Mem} (hx : ∀ k j, 97 ≤ k → k < 105 → rd μx' k j = rd μx k j) (hm : ∀ k j, 116 ≤ k → k ≤ 118 → rd μm' k j = rd μm k j) (H : RSh μx μm) : RSh μx' μm' := by
  intro s hs
  obtain ⟨b, n, h1, h2, h3, h4, h5, h6, h7, h8⟩ := H s hs
  refine ⟨b, n, h1, h2, by rw [hx _ _ (by omega) (by omega)]; exact h3, by rw [hm _ _ (by omega) (by omega)]; exact h4, by rw [hx _ _ (by omega) (by omega)]; exact h5, by rw [hm _ _ (by omega) (by omega)]; exact h6, h7, fun i hi => ?_⟩
  rw [hx _ _ (by omega) (by omega), hm _ _ (by omega) (by omega)]
  exact h8 i hi
theorem RTr_cg {μx μx' μm μm' : Mem} (hx : ∀ k j, 92 ≤ k → k ≤ 93 → rd μx' k j = rd μx k j) (hm1 : rd μm' 105 20 = rd μm 105 20) (hm : ∀ j, rd μm' 115 j = rd μm 115 j) (H : RTr μx μm) : RTr μx' μm' := by
  obtain ⟨n, h1, h2, h3, h4⟩ := H
  refine ⟨n, h1, by rw [hx _ _ (by omega) (by omega)]; exact h2, by rw [hm1]; exact h3, fun i hi => ?_⟩
  rw [hx _ _ (by omega) (by omega), hm]
  exact h4 i hi
theorem RRe_cg {μx μx' μm μm' : Mem} (hx : ∀ j, rd μx' 96 j = rd μx 96 j) (hm : ∀ j, rd μm' 109 j = rd μm 109 j) (H : RRe μx μm) : RRe μx' μm' := by
  intro k hk
  rw [hx, hm]
  exact H k hk
theorem RIm_cg {μx μx' μm μm' : Mem} (h0 : rd μx' 0 9 = rd μx 0 9) (hx : ∀ k j, 35 ≤ k → k ≤ 68 → rd μx' k j = rd μx k j) (h3 : rd μm' 105 3 = rd μm 105 3) (hm : ∀ j, rd μm' 107 j = rd μm 107 j) (H : RIm μx μm) : RIm μx' μm' := by
  refine ⟨by rw [h0, h3]; exact H.1, fun h => RW_cg (fun k j a b => hx k j (by omega) (by omega)) hm (H.2 (by rw [← h0]; exact h))⟩
theorem R2_cg {μx μx' μm μm' : Mem} (hx : ∀ k j, k < 105 → rd μx' k j = rd μx k j) (hm : ∀ k j, 105 ≤ k → rd μm' k j = rd μm k j) (H : R2 μx μm) : R2 μx' μm' := by
  obtain ⟨h1, h2, h3, h4, h5, h6, h7, h8⟩ := H
  refine ⟨RW_cg (fun k j a b => hx k j (by omega)) (fun j => hm _ j (by omega)) h1, RIm_cg (hx _ _ (by omega)) (fun k j a b => hx k j (by omega)) (hm _ _ (by omega)) (fun j => hm _ j (by omega)) h2, RRe_cg (fun j => hx _ j (by omega)) (fun j => hm _ j (by omega)) h3, RTr_cg (fun k j a b => hx k j (by omega)) (hm _ _ (by omega)) (fun j => hm _ j (by omega)) h4, RSh_cg (fun k j a b => hx k j (by omega)) (fun k j a b => hm k j (by omega)) h5, by rw [hm _ _ (by omega)]; exact h6, by rw [hx _ _ (by omega)]; exact h7, by rw [hx _ _ (by omega)]; exact h8⟩
