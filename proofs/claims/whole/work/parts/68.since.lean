/-! PURE: since -/
def mf (K : Nat → Nat) (x : Mt) : Nat → Nat := if K x.2.1 ≤ x.1 ∨ K x.2.2 ≤ x.1 then up (up K x.2.1 (min (K x.2.1) x.1)) x.2.2 (min (K x.2.2) x.1) else K
def fs (S : List Mt) (f0 : Nat → Nat) : Nat → Nat → Nat
  | 0 => f0
  | i + 1 => mf (fs S f0 i) (S.getD i z3)
def st0 (wt : Nat → Nat) (T : Nat → Dt) (N f g : Nat) : Nat := if (wt f).testBit g = true then fw T f N else 1000
theorem st0_le (wt : Nat → Nat) (T : Nat → Dt) (N f g : Nat) : st0 wt T N f g ≤ 1000 := by
  unfold st0
  split
  · exact fw_le _ _ _
  · exact Nat.le_refl _
theorem fs_le {S : List Mt} {f0 : Nat → Nat} (h : ∀ g, f0 g ≤ 1000) : ∀ i g, fs S f0 i g ≤ 1000 := by
  intro i
  induction i with
  | zero => exact h
  | succ i ih =>
    intro g
    rw [fs, mf]
    split
    · have a := ih (S.getD i z3).2.1
      have b := ih (S.getD i z3).2.2
      by_cases z : g = (S.getD i z3).2.2
      · rw [z, up_s]; omega
      · rw [up_n z]
        by_cases y : g = (S.getD i z3).2.1
        · rw [y, up_s]; omega
        · rw [up_n y]; exact ih g
    · exact ih g
theorem jmin_nI {a b : Nat} (ha : a < 1000000) (hb : b < 1000000) : jmin (nI a) (nI b) = nI (min a b) := by
  unfold jmin
  by_cases z : b < a
  · rw [if_pos (nI_lt z (by omega)), Nat.min_eq_right (by omega)]
  · rw [if_neg (nI_nlt (by omega) (by omega)), Nat.min_eq_left (by omega)]
theorem e_sinceX {μ : Mem} {n N w f : Nat} {nd cl wi wt : Nat → Nat} {bi : Nat → Int32} {T : Nat → Dt} {S : List Mt} (F : FX μ 2 n nd cl wi wt bi) (V : FW n nd cl wi wt bi) (w9 : w ≤ 999) (H : TXt μ 14 N w T) (W : TWt n N w T) (S12 : S.length ≤ 12) (hS : ∀ x ∈ S, x.1 ≤ 999 ∧ x.2.1 < 5 ∧ x.2.2 < 5 ∧ x.2.1 ≠ x.2.2) (X : MX μ 28 S) (hf : f < n) : ∃ μ2, f_X10_gatherFirstWeeks μ 1 (nI f) 95 = some μ2 ∧ (∀ g, g < 5 → rd μ2 95 g = nI (fs S (st0 wt T N f) S.length g)) ∧ ∀ k' j, k' ≠ 95 → rd μ2 k' j = rd μ k' j := by
  have n8 := V.1
  have N4 := W.1
  have LE := fs_le (S := S) (st0_le wt T N f)
  obtain ⟨m1, l1, l2, l3⟩ : ∃ m1, lp (fun s => f_X10_gatherFirstWeeks_l12 1 (nI f) 95 (fwI (fw T f N)) s.1 s.2) FU ((0 : Int32), μ) = some m1 ∧ (∀ g, g < 5 → rd m1 95 g = nI (st0 wt T N f g)) ∧ ∀ k' j, k' ≠ 95 → rd m1 k' j = rd μ k' j := by
    refine lp_I (fun j q => q.1 = nI j ∧ (∀ g, g < j → rd q.2 95 g = nI (st0 wt T N f g)) ∧ ∀ k' j, k' ≠ 95 → rd q.2 k' j = rd μ k' j) 5 _ (by omega) ⟨rfl, fun g hg => absurd hg (Nat.not_lt_zero g), fun _ _ _ => rfl⟩ ?_ ?_
    · rintro j ⟨v, m⟩ hj ⟨e1, e2, e3⟩
      simp only at e1 e2 e3
      subst e1
      refine ⟨(nI (j + 1), wr m 95 j (nI (st0 wt T N f j))), ?_, rfl, fun g hg => ?_, fun k' i hk' => ?_⟩
      · show f_X10_gatherFirstWeeks_l12 1 (nI f) 95 (fwI (fw T f N)) (nI j) m = _
        have r7 : rd m 7 f = nI (wt f) := by rw [e3 _ _ (by omega)]; exact (F.2 f hf).2.2.2.2
        have J : ∀ x, f_X10_gatherFirstWeeks_j62 m 1 (nI f) 95 (fwI (fw T f N)) (nI j) 95 (nI j) x = some (.inl (nI (j + 1), wr m 95 j x)) := by
          intro x
          unfold f_X10_gatherFirstWeeks_j62
          rw [show ln 95 = 5 from rfl, ib_nI hj (by omega), if_pos rfl, bd_s, tn_nI (by omega), nI_1]
        unfold f_X10_gatherFirstWeeks_l12 f_X10_gatherFirstWeeks_j41 f_X10_gatherFirstWeeks_j59
        simp only [rfs]
        rw [if_neg (show ¬ (5 : Int32) ≤ nI j from nI_ge (b := 5) hj (by omega)), ib_nI (show f < 8 by omega) (by omega), if_pos rfl, tn_nI (by omega), r7, shr_b (by have := (V.2 f hf).2.2.2.1; omega) (by omega), J, J]
        unfold st0
        by_cases z : (wt f).testBit j = true
        · rw [if_neg (by rw [z]; decide), if_neg (show ¬ (1 : Int32) = 0 by decide), if_pos z]
          have le := fw_le T f N
          by_cases y : fw T f N ≤ 999
          · rw [if_neg (fun q => fwI_neg.mp q y)]
            unfold fwI
            rw [if_pos y]
          · rw [if_pos (fwI_neg.mpr y), show fw T f N = 1000 by omega]
            rfl
        · rw [if_pos (by rw [Bool.eq_false_iff.mpr z]; decide), if_pos trivial, if_neg z]
          rfl
      · simp only
        by_cases z : g = j
        · rw [z, rd_wr_s]
        · rw [rd_wr_n (fun q => z q.2)]; exact e2 g (by omega)
      · simp only
        rw [rd_wr_n (fun q => hk' q.1), e3 k' i hk']
    · rintro ⟨v, m⟩ ⟨e1, e2, e3⟩
      simp only at e1 e2 e3
      subst e1
      refine ⟨m, ?_, e2, e3⟩
      show f_X10_gatherFirstWeeks_l12 1 (nI f) 95 (fwI (fw T f N)) (nI 5) m = _
      unfold f_X10_gatherFirstWeeks_l12
      rw [if_pos (by decide)]
  obtain ⟨m2, g1, g2, g3⟩ : ∃ m2, lp (fun s => f_X10_gatherFirstWeeks_l72 1 (nI f) 95 s.1 s.2) FU ((0 : Int32), m1) = some m2 ∧ (∀ g, g < 5 → rd m2 95 g = nI (fs S (st0 wt T N f) S.length g)) ∧ ∀ k' j, k' ≠ 95 → rd m2 k' j = rd μ k' j := by
    refine lp_I (fun j q => q.1 = nI j ∧ (∀ g, g < 5 → rd q.2 95 g = nI (fs S (st0 wt T N f) j g)) ∧ ∀ k' j, k' ≠ 95 → rd q.2 k' j = rd μ k' j) S.length _ (by omega) ⟨rfl, l2, l3⟩ ?_ ?_
    · rintro j ⟨v, m⟩ hj ⟨e1, e2, e3⟩
      simp only at e1 e2 e3
      subst e1
      have j12 : j < 12 := by omega
      obtain ⟨x1, x2, x3, x4⟩ := getD_in hS hj
      obtain ⟨y1, y2, y3⟩ := MX_at (c := 28) X hj
      have r0 : rd m 28 3 = nI S.length := by rw [e3 _ _ (by omega)]; exact X.1
      have r1 : rd m 29 j = nI (S.getD j z3).1 := by rw [e3 _ _ (by omega)]; exact y1
      have r2 : rd m 30 j = nI (S.getD j z3).2.1 := by rw [e3 _ _ (by omega)]; exact y2
      have r3 : rd m 31 j = nI (S.getD j z3).2.2 := by rw [e3 _ _ (by omega)]; exact y3
      have A := e2 _ x2
      have B := e2 _ x3
      have lA := LE j (S.getD j z3).2.1
      have lB := LE j (S.getD j z3).2.2
      have J : f_X10_gatherFirstWeeks_j138 m 1 (nI f) 95 (nI j) (nI (S.getD j z3).2.1) (nI (S.getD j z3).2.2) (nI (S.getD j z3).1) = some (.inl (nI (j + 1), wr (wr m 95 (S.getD j z3).2.1 (nI (min (fs S (st0 wt T N f) j (S.getD j z3).2.1) (S.getD j z3).1))) 95 (S.getD j z3).2.2 (nI (min (fs S (st0 wt T N f) j (S.getD j z3).2.2) (S.getD j z3).1)))) := by
        unfold f_X10_gatherFirstWeeks_j138
        rw [show ln 95 = 5 from rfl, ib_nI x2 (by omega), if_pos rfl, if_pos rfl, bd_s, ib_nI x3 (by omega), if_pos rfl, if_pos rfl, bd_s, tn_nI (by omega), tn_nI (by omega), A, jmin_nI (by omega) (by omega), rd_wr_n (fun q => x4 q.2.symm), B, jmin_nI (by omega) (by omega), nI_1]
      by_cases c : fs S (st0 wt T N f) j (S.getD j z3).2.1 ≤ (S.getD j z3).1 ∨ fs S (st0 wt T N f) j (S.getD j z3).2.2 ≤ (S.getD j z3).1
      · refine ⟨(nI (j + 1), wr (wr m 95 (S.getD j z3).2.1 (nI (min (fs S (st0 wt T N f) j (S.getD j z3).2.1) (S.getD j z3).1))) 95 (S.getD j z3).2.2 (nI (min (fs S (st0 wt T N f) j (S.getD j z3).2.2) (S.getD j z3).1))), ?_, rfl, fun g hg => ?_, fun k' i hk' => ?_⟩
        · show f_X10_gatherFirstWeeks_l72 1 (nI f) 95 (nI j) m = _
          unfold f_X10_gatherFirstWeeks_l72
          simp only [rfs, tn_nI (show j < 2 ^ 31 by omega)]
          rw [r0, r1, r2, r3, if_neg (nI_ge hj (by omega)), ib_nI j12 (by omega), if_pos rfl, if_pos rfl, if_pos rfl, show ln 95 = 5 from rfl, ib_nI x2 (by omega), if_pos rfl, tn_nI (by omega), tn_nI (by omega), A, B, J, ib_nI x3 (by omega), if_pos rfl]
          by_cases u : fs S (st0 wt T N f) j (S.getD j z3).2.1 ≤ (S.getD j z3).1
          · rw [if_pos (nI_le u (by omega))]
          · rw [if_neg (nI_ge (by omega) (by omega)), if_neg (nI_nlt (by omega) (by omega))]
        · simp only
          rw [fs, mf, if_pos c]
          by_cases a : g = (S.getD j z3).2.2
          · rw [a, rd_wr_s, up_s]
          · rw [rd_wr_n (fun q => a q.2), up_n a]
            by_cases b : g = (S.getD j z3).2.1
            · rw [b, rd_wr_s, up_s]
            · rw [rd_wr_n (fun q => b q.2), up_n b, e2 g hg]
        · simp only
          rw [rd_wr_n (fun q => hk' q.1), rd_wr_n (fun q => hk' q.1), e3 k' i hk']
      · refine ⟨(nI (j + 1), m), ?_, rfl, fun g hg => by rw [fs, mf, if_neg c]; exact e2 g hg, e3⟩
        show f_X10_gatherFirstWeeks_l72 1 (nI f) 95 (nI j) m = _
        unfold f_X10_gatherFirstWeeks_l72
        simp only [rfs, tn_nI (show j < 2 ^ 31 by omega)]
        rw [r0, r1, r2, r3, if_neg (nI_ge hj (by omega)), ib_nI j12 (by omega), if_pos rfl, if_pos rfl, if_pos rfl, show ln 95 = 5 from rfl, ib_nI x2 (by omega), if_pos rfl, tn_nI (by omega), tn_nI (by omega), A, B, ib_nI x3 (by omega), if_pos rfl, if_neg (nI_ge (by omega) (by omega)), if_pos (nI_lt (by omega) (by omega)), nI_1]
    · rintro ⟨v, m⟩ ⟨e1, e2, e3⟩
      simp only at e1 e2 e3
      subst e1
      refine ⟨m, ?_, e2, e3⟩
      show f_X10_gatherFirstWeeks_l72 1 (nI f) 95 (nI S.length) m = _
      have r0 : rd m 28 3 = nI S.length := by rw [e3 _ _ (by omega)]; exact X.1
      unfold f_X10_gatherFirstWeeks_l72
      simp only [rfs]
      rw [r0, if_pos (nI_le (by omega) (by omega))]
  refine ⟨m2, ?_, g2, g3⟩
  unfold f_X10_gatherFirstWeeks
  simp only [rfs]
  rw [e_firstX n8 w9 hf H W, bd_s, l1, bd_s, g1, bd_s]
/-- the two ways agree -/
theorem sw_tb {n N g k f : Nat} {wt : Nat → Nat} {T : Nat → Dt} (hf : f < n) : (sw n wt T N g k).testBit f = true ↔ (wt f).testBit g = true ∧ fw T f N ≤ k := by
  unfold sw swE
  rw [bts_tb, Bool.and_eq_true, Bool.and_eq_true, decide_eq_true_eq, decide_eq_true_eq]
  exact ⟨fun q => q.2, fun q => ⟨hf, q⟩⟩
theorem fs_kf {S : List Mt} {n N f : Nat} {wt : Nat → Nat} {T : Nat → Dt} (hf : f < n) (hs : Srt S) (h9 : ∀ x ∈ S, x.1 ≤ 999) : ∀ j, j ≤ S.length → ∀ v, v ≤ 999 → (∀ i, i < j → (S.getD i z3).1 ≤ v) → ∀ g, fs S (st0 wt T N f) j g ≤ v ↔ ((kf S (sw n wt T N) j g).testBit f = true ∨ (wt f).testBit g = true ∧ fw T f N ≤ v) := by
  intro j
  induction j with
  | zero =>
    intro _ v hv _ g
    rw [fs, kf, st0]
    have e : ¬ (Nat.testBit 0 f = true) := by rw [Nat.zero_testBit]; decide
    by_cases z : (wt f).testBit g = true
    · rw [if_pos z]; exact ⟨fun q => Or.inr ⟨z, q⟩, fun q => q.elim (fun q => absurd q e) (fun q => q.2)⟩
    · rw [if_neg z]; exact ⟨fun q => by omega, fun q => q.elim (fun q => absurd q e) (fun q => absurd q.1 z)⟩
  | succ j ih =>
    intro hj v hv hw g
    have x9 := getD_in h9 (show j < S.length by omega)
    have kv := hw j (by omega)
    have I1 := ih (by omega) v hv (fun i hi => hw i (by omega))
    have I2 := ih (by omega) _ x9 (fun i hi => by
      have := srt_at hs (i := i) (j := j) (by omega) (List.getElem?_eq_getElem (by omega)) (List.getElem?_eq_getElem (by omega))
      rw [getD_at (show i < S.length by omega), getD_at (show j < S.length by omega)]
      exact this)
    have A := I2 (S.getD j z3).2.1
    have B := I2 (S.getD j z3).2.2
    have bit : (kf S (sw n wt T N) j (S.getD j z3).2.1 ||| kf S (sw n wt T N) j (S.getD j z3).2.2 ||| sw n wt T N (S.getD j z3).2.1 (S.getD j z3).1 ||| sw n wt T N (S.getD j z3).2.2 (S.getD j z3).1).testBit f = true ↔ (fs S (st0 wt T N f) j (S.getD j z3).2.1 ≤ (S.getD j z3).1 ∨ fs S (st0 wt T N f) j (S.getD j z3).2.2 ≤ (S.getD j z3).1) := by
      rw [A, B, Nat.testBit_or, Nat.testBit_or, Nat.testBit_or, Bool.or_eq_true, Bool.or_eq_true, Bool.or_eq_true, sw_tb hf, sw_tb hf]
      constructor
      · rintro (((q | q) | q) | q)
        · exact Or.inl (Or.inl q)
        · exact Or.inr (Or.inl q)
        · exact Or.inl (Or.inr q)
        · exact Or.inr (Or.inr q)
      · rintro ((q | q) | (q | q))
        · exact Or.inl (Or.inl (Or.inl q))
        · exact Or.inl (Or.inr q)
        · exact Or.inl (Or.inl (Or.inr q))
        · exact Or.inr q
    rw [fs, kf, mf, met]
    by_cases c : fs S (st0 wt T N f) j (S.getD j z3).2.1 ≤ (S.getD j z3).1 ∨ fs S (st0 wt T N f) j (S.getD j z3).2.2 ≤ (S.getD j z3).1
    · rw [if_pos c]
      by_cases a : g = (S.getD j z3).2.2
      · rw [a, up_s, up_s]
        exact ⟨fun _ => Or.inl (bit.mpr c), fun _ => by omega⟩
      · rw [up_n a, up_n a]
        by_cases b : g = (S.getD j z3).2.1
        · rw [b, up_s, up_s]
          exact ⟨fun _ => Or.inl (bit.mpr c), fun _ => by omega⟩
        · rw [up_n b, up_n b]
          exact I1 g
    · rw [if_neg c]
      have nb := fun q => c (bit.mp q)
      have na : ¬ (kf S (sw n wt T N) j (S.getD j z3).2.1).testBit f = true := fun q => c (Or.inl (A.mpr (Or.inl q)))
      have nB : ¬ (kf S (sw n wt T N) j (S.getD j z3).2.2).testBit f = true := fun q => c (Or.inr (B.mpr (Or.inl q)))
      by_cases a : g = (S.getD j z3).2.2
      · rw [a, up_s, I1]
        exact or_congr_left ⟨fun q => absurd q nB, fun q => absurd q nb⟩
      · rw [up_n a]
        by_cases b : g = (S.getD j z3).2.1
        · rw [b, up_s, I1]
          exact or_congr_left ⟨fun q => absurd q na, fun q => absurd q nb⟩
        · rw [up_n b]
          exact I1 g
theorem fs_late {S : List Mt} {f0 : Nat → Nat} {v c : Nat} (h : ∀ i, c ≤ i → i < S.length → v < (S.getD i z3).1) : ∀ r, c + r ≤ S.length → ∀ g, fs S f0 (c + r) g ≤ v ↔ fs S f0 c g ≤ v := by
  intro r
  induction r with
  | zero => intro _ g; exact Iff.rfl
  | succ r ih =>
    intro hr g
    have x := h (c + r) (by omega) (by omega)
    have I := ih (by omega)
    rw [show c + (r + 1) = c + r + 1 by omega, fs, mf]
    split
    · by_cases a : g = (S.getD (c + r) z3).2.2
      · rw [a, up_s, ← I]; omega
      · rw [up_n a]
        by_cases b : g = (S.getD (c + r) z3).2.1
        · rw [b, up_s, ← I]; omega
        · rw [up_n b]; exact I g
    · exact I g
theorem kn_fs {S : List Mt} {n N f g v : Nat} {wt : Nat → Nat} {T : Nat → Dt} (hf : f < n) (hs : Srt S) (h9 : ∀ x ∈ S, x.1 ≤ 999) (hv : v ≤ 999) : (kn S (sw n wt T N) g v).testBit f = true ↔ fs S (st0 wt T N f) S.length g ≤ v := by
  obtain ⟨c1, c2, c3⟩ := cw_spec v S
  have late := fs_late (S := S) (f0 := st0 wt T N f) (v := v) (c := cw v S) (fun i hi hl => by
    have h1 := c3 (by omega)
    have h2 := srt_at hs (i := cw v S) (j := i) hi (List.getElem?_eq_getElem (by omega)) (List.getElem?_eq_getElem (by omega))
    rw [getD_at (show cw v S < S.length by omega)] at h1
    rw [getD_at hl]
    omega) (S.length - cw v S) (by omega) g
  rw [show cw v S + (S.length - cw v S) = S.length by omega] at late
  rw [late, fs_kf (n := n) hf hs h9 _ c1 v hv c2 g]
  unfold kn
  rw [Nat.testBit_or, Bool.or_eq_true, sw_tb hf]
theorem sh_since : SH_since Rel := by
  intro μ h a b
  show OKS (f_X11_since μ 0 a b) (fun m => f_X12_since m 105 a b)
  obtain ⟨n, nd, cl, wi, wt, bi, N, w, T, gv, ⟨F, F1, V⟩, H, M, W, w9, L1, L2⟩ := rel_T h
  obtain ⟨l, l12, lw, lX, lM⟩ := rel_M h
  obtain ⟨s12, sw'⟩ := srt_ok l12 lw
  have n8 := V.1
  by_cases g : ((0 : Int32) ≤ a ∧ a ≤ 4) ∧ ((0 : Int32) ≤ b ∧ b ≤ nI n - 1)
  · obtain ⟨g1, g2⟩ := g
    obtain ⟨p, hp, rfl⟩ := upto (n := 4) (by omega) g1
    obtain ⟨f, hf, rfl⟩ := (isF_iff (by omega)).mp g2
    have p5 : p < 5 := by omega
    obtain ⟨μ1, a1, a2, a3⟩ := e_sinceX F V w9 H W s12 sw' lX hf
    have le := fs_le (S := msrt l.reverse) (st0_le wt T N f) (msrt l.reverse).length p
    have kf' := fun v (hv : v ≤ 999) => kn_fs (wt := wt) (T := T) (N := N) (g := p) hf (msrt_srt l.reverse) (fun x hx => (sw' x hx).1) hv
    generalize hx : fs (msrt l.reverse) (st0 wt T N f) (msrt l.reverse).length p = x at le kf'
    -- the model, from any such memory
    have fin : ∀ μ' : Mem, (∀ k j, 105 ≤ k → k ≠ 109 → rd μ' k j = rd μ k j) → ∃ m3, f_X12_since μ' 105 (nI p) (nI f) = (if x ≤ 999 then some (nI x, m3) else f_X12_finds m3 105 2) ∧ ∀ k j, k ≠ 114 → rd m3 k j = rd μ' k j := by
      intro μ' hR
      obtain ⟨r, y1, y2, y3⟩ : ∃ r, lp (fun s => f_X12_since_l28 105 (nI p) (nI f) s.1 s.2) FU ((0 : Int32), μ') = some r ∧ (∃ m3, r = (if x ≤ 999 then .inl (nI x, m3) else .inr m3) ∧ ∀ k j, k ≠ 114 → rd m3 k j = rd μ' k j) ∧ True := by
        refine lp_I (fun j q => q.1 = nI j ∧ ∀ k j, k ≠ 114 → rd q.2 k j = rd μ' k j) x _ (by omega) ⟨rfl, fun _ _ _ => rfl⟩ ?_ ?_
        · rintro j ⟨v, m⟩ hj ⟨e1, e2⟩
          simp only at e1 e2
          subst e1
          have KM : ∀ j, rd m 106 j = rd μ 106 j := fun j => by rw [e2 106 j (by omega), hR 106 j (by omega) (by omega)]
          obtain ⟨μ2, b1, b2⟩ := e_kbM (k := j) (FM_cg n8 (fun j _ => KM j) F1) V w9 (TMt_cg W.1 (TW_s W) (fun j _ => KM j) M) W l12 lw (MM_cg KM lM) p5 (by omega)
          refine ⟨(nI (j + 1), μ2), ?_, rfl, fun k i hk => by rw [b2 k i hk, e2 k i hk]⟩
          show f_X12_since_l28 105 (nI p) (nI f) (nI j) m = _
          unfold f_X12_since_l28
          have z : ¬ (kn (msrt l.reverse) (sw n wt T N) p j).testBit f = true := fun q => by have := (kf' j (by omega)).mp q; omega
          rw [if_neg (show ¬ (999 : Int32) < nI j from nI_nlt (a := 999) (by omega) (by omega)), b1, bd_s]
          simp only
          rw [show kf (msrt l.reverse) (sw n wt T N) (cw j (msrt l.reverse)) p ||| sw n wt T N p j = kn (msrt l.reverse) (sw n wt T N) p j from rfl, shr_b (kn_256 (fun a b => sw_256 n8 wt T N a b) _ _) (by omega), if_pos (by rw [Bool.eq_false_iff.mpr z]; decide), nI_1]
        · rintro ⟨v, m⟩ ⟨e1, e2⟩
          simp only at e1 e2
          subst e1
          by_cases y : x ≤ 999
          · have KM : ∀ j, rd m 106 j = rd μ 106 j := fun j => by rw [e2 106 j (by omega), hR 106 j (by omega) (by omega)]
            obtain ⟨μ2, b1, b2⟩ := e_kbM (k := x) (FM_cg n8 (fun j _ => KM j) F1) V w9 (TMt_cg W.1 (TW_s W) (fun j _ => KM j) M) W l12 lw (MM_cg KM lM) p5 y
            refine ⟨.inl (nI x, μ2), ?_, ⟨μ2, by rw [if_pos y], fun k i hk => by rw [b2 k i hk, e2 k i hk]⟩, trivial⟩
            show f_X12_since_l28 105 (nI p) (nI f) (nI x) m = _
            unfold f_X12_since_l28
            have z : (kn (msrt l.reverse) (sw n wt T N) p x).testBit f = true := (kf' x y).mpr (Nat.le_refl _)
            rw [if_neg (show ¬ (999 : Int32) < nI x from nI_nlt (a := 999) (by omega) (by omega)), b1, bd_s]
            simp only
            rw [show kf (msrt l.reverse) (sw n wt T N) (cw x (msrt l.reverse)) p ||| sw n wt T N p x = kn (msrt l.reverse) (sw n wt T N) p x from rfl, shr_b (kn_256 (fun a b => sw_256 n8 wt T N a b) _ _) (by omega), if_neg (by rw [z]; decide)]
          · refine ⟨.inr m, ?_, ⟨m, by rw [if_neg y], e2⟩, trivial⟩
            show f_X12_since_l28 105 (nI p) (nI f) (nI x) m = _
            unfold f_X12_since_l28
            rw [if_pos (show (999 : Int32) < nI x from nI_lt (a := 999) (by omega) (by omega))]
      obtain ⟨m3, rfl, y4⟩ := y2
      refine ⟨m3, ?_, y4⟩
      unfold f_X12_since
      rw [show f_X12_in (nI p).toInt64 0 4 = _ from e_in (nI p) 0 4, bd_s, if_pos g1, if_neg (by decide), e_isFactM (by rw [hR 106 0 (by omega) (by omega)]; exact F1.1), bd_s, if_pos g2, if_pos (by decide), y1, bd_s]
      by_cases y : x ≤ 999
      · rw [if_pos y, if_pos y]
        rfl
      · rw [if_neg y, if_neg y]
        show (f_X12_finds m3 105 2).bind _ = _
        rw [bd_p]
    have X0 : f_X11_since μ 0 (nI p) (nI f) = (if x ≤ 999 then some (nI x, μ1) else f_X11_refuse μ1 0 2) := by
      unfold f_X11_since
      simp only [rfs]
      rw [e_isFigX, bd_s, if_pos g1, if_neg (by decide), e_isFactX F.1, bd_s, if_pos g2, if_pos (by decide), a1, bd_s, ib_nI p5 (by omega), if_pos rfl, tn_nI (by omega), a2 p p5, hx]
      by_cases y : x ≤ 999
      · rw [if_pos (show nI x ≤ 999 from nI_le (b := 999) y (by omega)), if_pos rfl, if_pos y]
      · rw [if_neg (show ¬ nI x ≤ 999 from nI_ge (a := 999) (by omega) (by omega)), if_neg y, bd_p]
    by_cases y : x ≤ 999
    · rw [if_pos y] at X0
      obtain ⟨m3, z1, z2⟩ := fin μ1 (fun k j c d => a3 k j (by omega))
      rw [if_pos y] at z1
      exact oks_go X0 z1 (R2_no h (fun k j c d => by rw [z2 k j (by omega), a3 k j (by omega)]))
    · rw [if_neg y, show f_X11_refuse μ1 0 2 = _ from e_refuse μ1 2 (by omega)] at X0
      obtain ⟨m3, y1, y2⟩ := fin (wr μ1 96 2 (rd μ1 96 2 + 1)) (fun k j c d => by rw [rd_wr_n (by omega), a3 k j (by omega)])
      rw [if_neg y, show f_X12_finds m3 105 2 = _ from e_finds m3 2 (by omega)] at y1
      refine oks_go X0 y1 ?_
      refine R2_Re h (fun k j c d => ?_) (fun k hk => ?_)
      · rw [rd_wr_n (by omega), y2 k j (by omega), rd_wr_n (by omega), a3 k j (by omega)]
      · have hre := h.2.2.1
        by_cases e : k = 2
        · subst e
          rw [rd_wr_n (by omega), rd_wr_s, y2 96 2 (by omega), rd_wr_s, y2 109 2 (by omega), rd_wr_n (by omega), a3 96 2 (by omega), a3 109 2 (by omega), hre 2 (by omega)]
        · rw [rd_wr_n (by omega), rd_wr_n (by omega), y2 96 k (by omega), rd_wr_n (by omega), y2 109 k (by omega), rd_wr_n (by omega), a3 96 k (by omega), a3 109 k (by omega), hre k hk]
  · refine oks_ref (k := 1) h (by omega) ?_ ?_
    · unfold f_X11_since f_X11_since_j15
      rw [e_isFigX, bd_s, bd_p]
      by_cases g1 : (0 : Int32) ≤ a ∧ a ≤ 4
      · rw [if_pos g1, if_neg (by decide), e_isFactX F.1, bd_s, if_neg (fun q => g ⟨g1, q⟩), if_neg (by decide)]
        rfl
      · rw [if_neg g1, if_pos rfl]
        rfl
    · intro μ1 hR
      show f_X12_since μ1 105 _ _ = _
      unfold f_X12_since f_X12_since_j20
      rw [show f_X12_in a.toInt64 0 4 = _ from e_in a 0 4, bd_s, bd_p]
      by_cases g1 : (0 : Int32) ≤ a ∧ a ≤ 4
      · rw [if_pos g1, if_neg (by decide), e_isFactM (by rw [hR 106 0 (by omega)]; exact F1.1), bd_s, if_neg (fun q => g ⟨g1, q⟩), if_neg (by decide)]
        rfl
      · rw [if_neg g1, if_pos rfl]
        rfl
