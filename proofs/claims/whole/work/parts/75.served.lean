/-! PURE: served, closed -/
theorem e_fillL {μ : Mem} (v : Int64) : ∃ m1, f_J7_fill_d0a16 μ 87 v = some m1 ∧ (∀ i, i < 256 → rl m1 87 i = v) ∧ ∀ k j, rd m1 k j = rd μ k j := by
  unfold f_J7_fill_d0a16
  rw [show ln 87 = 256 from rfl]
  obtain ⟨m1, l1, k1, k2⟩ : ∃ m1, lp (fun s => f_J7_fill_d0a16_l6 87 v (nI 256) s.1 s.2) FU ((0 : Int32), μ) = some m1 ∧ (∀ i, i < 256 → rl m1 87 i = v) ∧ ∀ k j, rd m1 k j = rd μ k j := by
    refine lp_I (fun j s => s.1 = nI j ∧ (∀ i, i < j → rl s.2 87 i = v) ∧ ∀ k j', rd s.2 k j' = rd μ k j') 256 _ (by omega) ⟨rfl, fun i hi => absurd hi (Nat.not_lt_zero i), fun k j' => rfl⟩ ?_ ?_
    · rintro j ⟨x, m⟩ hj ⟨e1, e2, e3⟩
      simp only at e1 e2 e3
      subst e1
      refine ⟨(nI (j + 1), wl m 87 j v), ?_, rfl, fun i hi => ?_, fun k j' => ?_⟩
      · simp only [f_J7_fill_d0a16_l6, show ln 87 = 256 from rfl]
        rw [if_neg (nI_ge hj (by omega)), ib_nI hj (by omega), if_pos rfl, bd_s, tn_nI (by omega), nI_1]
      · simp only
        rw [rl_wl]
        by_cases e : i = j
        · rw [if_pos ⟨rfl, e⟩]
        · rw [if_neg (fun q => e q.2)]
          exact e2 i (by omega)
      · simp only
        rw [rd_wl]
        exact e3 k j'
    · rintro ⟨x, m⟩ ⟨e1, e2, e3⟩
      simp only at e1 e2 e3
      subst e1
      refine ⟨m, ?_, e2, e3⟩
      simp only [f_J7_fill_d0a16_l6]
      rw [if_pos (nI_le (Nat.le_refl _) (by omega))]
  exact ⟨m1, by rw [l1]; rfl, k1, k2⟩
/-- the start of all rows -/
def nd0 (d : Dt) : Nd := (0, dB d, twd d, fun _ => 0)
def bt0 : Bt := (0, fun _ => 0)
theorem cnt_d {n w : Nat} {d : Dt} (h : DWt n w d) : cnt n (dB d) = ds d := by
  unfold cnt dB
  have := sm_bk (bk := dbk d) (n := n) (fun _ => true) (ds d) (fun i hi => (h.2.2.2.2.2.1 i hi).1) h.2.2.2.2.2.2
  simp only [Bool.and_true] at this
  rw [this]
  have : ∀ k, sm (fun _ => b2n true) k = k := by
    intro k
    induction k with
    | zero => rfl
    | succ k ih => rw [sm, ih]; rfl
  exact this _
theorem nOK_0 {n w : Nat} {d : Dt} (n8 : n ≤ 8) (h : DWt n w d) : nOK n (ds d) w (dB d) (twd d) (nd0 d) (n - ds d) := by
  have c := cnt_d h
  have l := cnt_le n (dB d)
  refine ⟨?_, ?_, DWt_B n8 h, fun f hf => ?_⟩
  · show 0 + ds d + (n - ds d) = n
    omega
  · show cnt n (dB d) + (n - ds d) = n
    omega
  · have hf : (dB d).testBit f = true := hf
    obtain ⟨i, i1, i2, i3, i4⟩ := twd_at h hf
    refine ⟨?_, ?_, fun _ => rfl, fun q => ?_⟩
    · rw [← i2]; exact (h.2.2.2.2.2.1 i i1).1
    · show twd d f ≤ w + 0
      omega
    · rw [hf] at q; cases q
theorem TI_0 {n w : Nat} {d : Dt} (h : DWt n w d) : TI n (ds d) (dk d) (dm d) w d (nd0 d) :=
  ⟨rfl, rfl, rfl, rfl, fun i hi => twf_at _ h.2.2.2.2.2.2 i hi, h⟩
/-- what both find -/
def fnd (n N w p : Nat) (nd cl wi : Nat → Nat) (bi : Nat → Int32) (T : Nat → Dt) (c : Bool) : Bt := vsN n w (fun B f => mtE nd cl (dk (T p)) (dm (T p)) B (oth (fun q => dB (T q)) p N) f) (op0 wi bi) wi c (n - ds (T p)) (nd0 (T p)) bt0
def vl (β : Bt) (i : Nat) : Int32 := if i = 0 then nI β.1 - 1 else nI (β.2 (i - 1))
theorem e_beginX {μ : Mem} {n N w p : Nat} {nd cl wi wt : Nat → Nat} {bi : Nat → Int32} {T : Nat → Dt} (c : Bool) (F : FX μ 2 n nd cl wi wt bi) (V : FW n nd cl wi wt bi) (w9 : w ≤ 999) (H : TXt μ 14 N w T) (W : TWt n N w T) (hp : p < N) : ∃ μ1, f_X5_begin μ 83 (16 + 3 * p) (nI (oth (fun q => dB (T q)) p N)) (nI w) (b2 c) = some μ1 ∧ rd μ1 83 1 = nI (fnd n N w p nd cl wi bi T c).1 - 1 ∧ (∀ i, i + 1 < (fnd n N w p nd cl wi bi T c).1 → rd μ1 84 i = nI ((fnd n N w p nd cl wi bi T c).2 i)) ∧ (fnd n N w p nd cl wi bi T c).1 ≤ 9 ∧ ∀ k j, ¬ (83 ≤ k ∧ k ≤ 86) → rd μ1 k j = rd μ k j := by
  have n8 := V.1
  have N4 := W.1
  have p4 : p < 4 := by omega
  have dw := W.2.2 p hp
  have hO : oth (fun q => dB (T q)) p N < 256 := oth_lt N (fun q hq => DWt_B n8 (W.2.2 q hq))
  obtain ⟨p1, p2, p3, p4', p5, p6, p7⟩ := H.2.2 p hp
  rw [show 14 + 2 + 3 * p = 16 + 3 * p by omega] at p1 p2 p3 p4' p5 p6 p7
  have hcb : cb (0 : Int32) (0 : Int32) (8 : Int32) 8 8 = true := by decide
  have ns : nI n - nI (ds (T p)) = nI (n - ds (T p)) := by
    have l := cnt_le n (dB (T p))
    rw [cnt_d dw] at l
    have e : nI n = nI (n - ds (T p)) + nI (ds (T p)) := by rw [nI_add]; exact congrArg nI (by omega)
    rw [e]
    exact Int32.add_sub_cancel _ _
  -- the fields
  have hm : wr (wr (wr (wr (wr (wr (wr μ 83 7 (rd μ (16 + 3 * p) 4)) 83 8 (rd (wr μ 83 7 (rd μ (16 + 3 * p) 4)) (16 + 3 * p) 5)) 83 9 (nI (oth (fun q => dB (T q)) p N))) 83 10 (nI w)) 83 6 (b2 c)) 83 11 (rd (wr (wr (wr (wr (wr μ 83 7 (rd μ (16 + 3 * p) 4)) 83 8 (rd (wr μ 83 7 (rd μ (16 + 3 * p) 4)) (16 + 3 * p) 5)) 83 9 (nI (oth (fun q => dB (T q)) p N))) 83 10 (nI w)) 83 6 (b2 c)) 2 5 - rd (wr (wr (wr (wr (wr μ 83 7 (rd μ (16 + 3 * p) 4)) 83 8 (rd (wr μ 83 7 (rd μ (16 + 3 * p) 4)) (16 + 3 * p) 5)) 83 9 (nI (oth (fun q => dB (T q)) p N))) 83 10 (nI w)) 83 6 (b2 c)) (16 + 3 * p) 3)) 83 1 (-1) = wr (wr (wr (wr (wr (wr (wr μ 83 7 (nI (dk (T p)))) 83 8 (nI (dm (T p)))) 83 9 (nI (oth (fun q => dB (T q)) p N))) 83 10 (nI w)) 83 6 (b2 c)) 83 11 (nI (n - ds (T p)))) 83 1 (-1) := by
    simp (discharger := omega) only [rd_wr_n]
    rw [p3, p4', p2, F.1, ns]
  generalize hm7 : wr (wr (wr (wr (wr (wr (wr μ 83 7 (nI (dk (T p)))) 83 8 (nI (dm (T p)))) 83 9 (nI (oth (fun q => dB (T q)) p N))) 83 10 (nI w)) 83 6 (b2 c)) 83 11 (nI (n - ds (T p)))) 83 1 (-1) = m7 at hm
  have K7 : ∀ k j, k ≠ 83 → rd m7 k j = rd μ k j := fun k j h => by rw [← hm7]; simp (discharger := omega) only [rd_wr_n]
  have q7 : rd m7 83 7 = nI (dk (T p)) := by rw [← hm7]; simp (discharger := omega) only [rd_wr_n, rd_wr_s]
  have q8 : rd m7 83 8 = nI (dm (T p)) := by rw [← hm7]; simp (discharger := omega) only [rd_wr_n, rd_wr_s]
  have q9 : rd m7 83 9 = nI (oth (fun q => dB (T q)) p N) := by rw [← hm7]; simp (discharger := omega) only [rd_wr_n, rd_wr_s]
  have q10 : rd m7 83 10 = nI w := by rw [← hm7]; simp (discharger := omega) only [rd_wr_n, rd_wr_s]
  have q6 : rd m7 83 6 = b2 c := by rw [← hm7]; simp (discharger := omega) only [rd_wr_n, rd_wr_s]
  have q11 : rd m7 83 11 = nI (n - ds (T p)) := by rw [← hm7]; simp (discharger := omega) only [rd_wr_n, rd_wr_s]
  have q1 : rd m7 83 1 = -1 := by rw [← hm7]; exact rd_wr_s _ _ _ _
  clear hm7
  have C1 : ∀ i, i < 8 → rd (cpy m7 (18 + 3 * p) 0 86 0 8) 86 i = rd m7 (18 + 3 * p) i := fun i hi => rd_cp_in hi
  have C2 : ∀ k j, k ≠ 86 → rd (cpy m7 (18 + 3 * p) 0 86 0 8) k j = rd m7 k j := fun k j h => rd_cp_n h
  obtain ⟨m8, f1, f2, f3⟩ := e_fillL (μ := cpy m7 (18 + 3 * p) 0 86 0 8) (-1)
  have K8 : ∀ k j, k ≠ 86 → rd m8 k j = rd m7 k j := fun k j h => by rw [f3, C2 k j h]
  have hS : SeC n (ds (T p)) (dk (T p)) (dm (T p)) (oth (fun q => dB (T q)) p N) w nd cl wi wt bi c m8 (nd0 (T p)) bt0 := by
    refine ⟨⟨FX_cg (fun k j a b => by rw [K8 k j (by omega), K7 k j (by omega)]) F, by rw [K8 _ _ (by omega), q6], by rw [K8 _ _ (by omega), q7], by rw [K8 _ _ (by omega), q8], by rw [K8 _ _ (by omega), q9], by rw [K8 _ _ (by omega), q10], by rw [K8 _ _ (by omega), q11]⟩, ?_, fun i hi => ?_, fun i hi => absurd hi (Nat.not_lt_zero i), fun f hf => ?_, ?_⟩
    · rw [K8 _ _ (by omega), q1]; decide
    · have hi : i + 1 < 0 := hi
      omega
    · have hf : (dB (T p)).testBit f = true := hf
      obtain ⟨i, i1, i2, i3, i4⟩ := twd_at dw hf
      have b8 := (dw.2.2.2.2.2.1 i i1).1
      show rd m8 86 f = nI (twd (T p) f)
      rw [f3, C1 f (by omega), K7 _ _ (by omega), i3, ← i2]
      have := (p7 i i1).2
      rw [show 16 + 3 * p + 2 = 18 + 3 * p by omega] at this
      exact this
    · show (0 : Nat) ≤ 9
      omega
  obtain ⟨μ1, g1, g2, g3, g4, g5⟩ := goX (B0 := dB (T p)) (τ0 := twd (T p)) V w9 dw.1 dw.2.1 hO 100 (n - ds (T p)) (nd0 (T p)) bt0 m8 (by omega) (nOK_0 n8 dw) (fun _ q => q) hS (fun B' h1 h2 => Or.inl (f2 B' h1))
  have g1 : f_X5_goOn 100 m8 83 0 (nI (dB (T p))) = some μ1 := g1
  refine ⟨μ1, ?_, g2.2.1, g2.2.2.1, g2.2.2.2.2.2, fun k j h => by rw [g5 k j h, K8 k j (by omega), K7 k j (by omega)]⟩
  unfold f_X5_begin
  simp only [rfs]
  rw [bd_s, bd_s, bd_s, bd_s, b2_bz, if_pos rfl, bd_s, bd_s, bd_s, hm, (rf_15 p4).2.2, show ln (18 + 3 * p) = 8 from ln_d (t := 14) (Or.inl rfl) p4, show ln 86 = 8 from rfl, hcb, if_pos rfl, bd_s]
  simp only [show (0 : Int32).toNatClampNeg = 0 from rfl, show (8 : Int32).toNatClampNeg = 8 from rfl]
  rw [f1, bd_s, K8 _ _ (by omega), K7 _ _ (by omega), p1]
  show (f_X5_goOn 100 m8 83 0 (nI (dB (T p)))).bind _ = _
  rw [g1, bd_s]
theorem e_findRow {μ : Mem} {n N w p : Nat} {nd cl wi wt : Nat → Nat} {bi : Nat → Int32} {T : Nat → Dt} (c : Bool) (F : FM μ 106 n nd cl wi wt bi) (V : FW n nd cl wi wt bi) (w9 : w ≤ 999) (H : TMt μ 106 N w T) (W : TWt n N w T) (hp : p < N) : ∃ μ1, f_X12_findRow μ 105 (nI p) (b2 c) = some μ1 ∧ Bm μ1 (fnd n N w p nd cl wi bi T c) ∧ ∀ k j, k ≠ 108 → k ≠ 111 → k ≠ 112 → k ≠ 113 → ¬ (k = 105 ∧ j = 17) → rd μ1 k j = rd μ k j := by
  have n8 := V.1
  have N4 := W.1
  have dw := W.2.2 p hp
  obtain ⟨m1, a1, a2, a3⟩ := e_aside μ
  generalize hm2 : wr (wr m1 105 17 (-1)) 111 0 (-1) = m2
  have K2 : ∀ k j, k ≠ 108 → ¬ (k = 105 ∧ j = 17) → ¬ (k = 111 ∧ j = 0) → rd m2 k j = rd μ k j := fun k j a b d => by rw [← hm2, rd_wr_n d, rd_wr_n b, a3 k j a]
  have K2' : ∀ j, j < 170 → rd m2 108 j = rd μ 106 j := fun j hj => by rw [← hm2, rd_wr_n (by omega), rd_wr_n (by omega), a2 j hj]
  have B2 : Bm m2 bt0 := ⟨by rw [← hm2, rd_wr_n (by omega), rd_wr_s]; decide, fun i hi => by have hi : i + 1 < 0 := hi; omega, by show (0 : Nat) ≤ 9; omega⟩
  have T2 : rd m2 111 0 = nI 0 - 1 := by rw [← hm2, rd_wr_s]; decide
  have upT : up T p (T p) = T := up_id T p
  have F2 := FM_cg n8 (fun j _ => K2 106 j (by omega) (by omega) (by omega)) F
  have H2 : TMt m2 106 N (w + (nd0 (T p)).1) (up T p (T p)) := by
    rw [upT]
    exact TMt_cg N4 (TW_s W) (fun j _ => K2 106 j (by omega) (by omega) (by omega)) H
  have nok := nOK_0 n8 dw
  obtain ⟨m3, l1, l2, l3⟩ := e_looks (c := c) F2 V W w9 hp nok (TI_0 dw) H2 B2 (fun i hi => absurd hi (Nat.not_lt_zero i))
  have l1 : f_X12_looksAt m2 105 (nI p) 0 (b2 c) = some m3 := l1
  obtain ⟨K, m4, r1, r2, r3, r4, r5, r6⟩ := rowM (c := c) (τ0 := twd (T p)) (B0 := dB (T p)) V W w9 hp (n - ds (T p)) (nd0 (T p)) (T p) (T p) nok (fun _ q => q) (TI_0 dw) (Or.inl ⟨rfl, rfl⟩) n 0 (bup n (op0 wi bi) c bt0 (nd0 (T p))) m3 (by omega) (FM_cg n8 (fun j _ => l3 106 j (by omega) (by omega)) F2) (TMt_cg N4 (fun q hq => by rw [upT]; exact TW_s W q hq) (fun j _ => l3 106 j (by omega) (by omega)) H2) l2 (fun i hi => absurd hi (Nat.not_lt_zero i)) (by rw [l3 _ _ (by omega) (by omega)]; exact T2)
  have vs := vsR_L (g := vsG n w (fun B f => mtE nd cl (dk (T p)) (dm (T p)) B (oth (fun q => dB (T q)) p N) f) (op0 wi bi) wi c (n - ds (T p)) (nd0 (T p))) n 0 (bup n (op0 wi bi) c bt0 (nd0 (T p)))
  rw [Nat.zero_add] at vs
  have vs := (show vsR (vsG n w (fun B f => mtE nd cl (dk (T p)) (dm (T p)) B (oth (fun q => dB (T q)) p N) f) (op0 wi bi) wi c (n - ds (T p)) (nd0 (T p))) n 0 (bup n (op0 wi bi) c bt0 (nd0 (T p))) = _ from vs).trans (vsN_G nok).symm
  rw [vs] at r4
  have Kb : K + 1 ≤ FU := by
    have h1 : n * (1 + kb (n - ds (T p))) ≤ 8 * (1 + kb (n - ds (T p))) := Nat.mul_le_mul_right _ n8
    have h2 : ∀ a b, a ≤ b → kb a ≤ kb b := by
      intro a b h
      induction h with
      | refl => exact Nat.le_refl _
      | step _ ih =>
        have : ∀ k, kb k ≤ kb (k + 1) := fun k => by rw [kb]; omega
        exact Nat.le_trans ih (this _)
    have h3 := h2 (n - ds (T p)) 8 (by omega)
    have h4 : kb 8 = 21570705 := by decide
    unfold FU
    omega
  have run : lp (fun q => f_X12_findRow_l25 105 (nI p) (b2 c) q.1 q.2) FU ((0 : Int32), m3) = some m4 := by
    have e : FU = K + ((FU - K - 1) + 1) := by omega
    have := r2 ((FU - K - 1) + 1)
    rw [← e] at this
    refine this.trans ?_
    rw [lp]
    show (f_X12_findRow_l25 105 (nI p) (b2 c) (nI 0 + -1) m4).bind _ = _
    unfold f_X12_findRow_l25
    rw [if_pos (show nI 0 + -1 < 0 by decide), bd_s]
  obtain ⟨m5, b1, b2', b3⟩ := e_back m4
  refine ⟨m5, ?_, ⟨?_, fun i hi => ?_, r4.2.2⟩, fun k j a b d e f => ?_⟩
  · unfold f_X12_findRow
    simp only [rfs, cls]
    rw [a1, bd_s, bd_s, bd_s, hm2, l1, bd_s, run, bd_s, b1, bd_s]
  · rw [b3 _ _ (by omega)]; exact r4.1
  · rw [b3 _ _ (by omega)]; exact r4.2.1 i hi
  · by_cases q : k = 106 ∧ j < 170
    · obtain ⟨rfl, q⟩ := q
      rw [b2' j q, r6 108 j (by omega) (by omega) (by omega) (by omega) (by omega), l3 108 j (by omega) (by omega), K2' j q]
    · rw [b3 k j q, r6 k j f (by omega) b d e, l3 k j f e, K2 k j a f (by omega)]
theorem sh_search (c : Bool) {μ : Mem} (h : Rel μ) (a b : Int32) : OKS (f_X11_searched μ 0 a b (b2 c)) (fun m => f_X12_rowTold m 105 a b (b2 c)) := by
  obtain ⟨n, nd, cl, wi, wt, bi, N, w, T, gv, ⟨F, F1, V⟩, H, M, W, w9, L1, L2⟩ := rel_T h
  have N4 := W.1
  have n8 := V.1
  have c1 : rd μ 14 3 = nI N := H.1
  have c2 : rd μ 106 1 = nI N := M.1
  by_cases g : ((0 : Int32) ≤ a ∧ a ≤ nI N - 1) ∧ ((-1 : Int32) ≤ b ∧ b ≤ 7)
  · obtain ⟨g1, g2⟩ := g
    obtain ⟨p, hp, rfl⟩ := (isF_iff (by omega)).mp g1
    have p4 : p < 4 := by omega
    have dw := W.2.2 p hp
    obtain ⟨i, i8, rfl⟩ : ∃ i, i ≤ 8 ∧ b = nI i - 1 := by
      have q1 := g2.1
      have q2 := g2.2
      rw [i32_le, show (-1 : Int32).toInt = -1 from by decide] at q1
      rw [i32_le, show (7 : Int32).toInt = 7 from by decide] at q2
      refine ⟨(b.toInt + 1).toNat, by omega, i32_eq ?_⟩
      rw [sub1_int (by omega)]
      omega
    obtain ⟨p1, p2, p3, p4', p5, p6, p7⟩ := H.2.2 p hp
    have m6 : rd μ 106 (53 + 21 * p) = nI (dr (T p)) := (M.2.2 p hp).2.2.2.1
    have br1 := dw.2.2.2.1
    by_cases zb : dr (T p) = 0
    · -- the search
      obtain ⟨μ1, x1, x2, x3, x4, x5⟩ := e_beginX c F V w9 H W hp
      generalize hβ : fnd n N w p nd cl wi bi T c = β at x2 x3 x4
      have br0 : rd μ (14 + 2 + 3 * p) 7 = 0 := by rw [p6, zb]; rfl
      have X0 : f_X11_searched μ 0 (nI p) (nI i - 1) (b2 c) = (if β.1 ≤ i then f_X11_refuse μ1 0 2 else some (vl β i, μ1)) := by
        unfold f_X11_searched f_X11_searched_j104
        simp only [rfs, tn_nI (show p < 2 ^ 31 by omega), (rf_d (t := 14) (Or.inl rfl) p4).1]
        rw [e_isDebX c1, bd_s, if_pos g1, if_neg (by decide), e_among, bd_s, if_pos g2, if_pos (by decide), ib_nI p4 (by omega), if_pos rfl, if_pos br0, show 14 + 2 + 3 * p = 16 + 3 * p by omega]
        have ot := e_othX (Or.inl rfl) N4 (TX_T n H) p4
        have ot : f_X8_othersOf μ 14 (nI p) = some (nI (oth (fun q => dB (T q)) p N)) := ot
        have wk : rd μ 14 4 = nI w := H.2.1
        rw [ot, bd_s, wk, x1, bd_s, x2, bd_p]
        by_cases y : β.1 = 0
        · rw [if_pos ((pm_neg (by omega)).mpr y), if_pos (by omega)]
        · rw [if_neg (fun q => y ((pm_neg (by omega)).mp q))]
          by_cases z : β.1 ≤ i
          · rw [if_neg (fun q => by rw [i32_lt, sub1_int (by omega), sub1_int (by omega)] at q; omega), if_pos z]
          · rw [if_pos (by rw [i32_lt, sub1_int (by omega), sub1_int (by omega)]; omega), if_neg z]
            unfold vl
            by_cases u : i = 0
            · rw [if_neg (by rw [u]; decide), if_pos u]
            · obtain ⟨j, rfl⟩ : ∃ j, i = j + 1 := ⟨i - 1, by omega⟩
              have e : nI (j + 1) - 1 = nI j := by rw [← nI_1]; exact Int32.add_sub_cancel _ _
              rw [e, if_pos (nI_pos' (by omega)), ib_nI (show j < 8 by omega) (by omega), if_pos rfl, tn_nI (by omega), x3 j (by omega), if_neg u]
              rfl
      have fin : ∀ μ' : Mem, (∀ k j, 105 ≤ k → k ≠ 109 → rd μ' k j = rd μ k j) → ∃ m3, f_X12_rowTold μ' 105 (nI p) (nI i - 1) (b2 c) = (if β.1 ≤ i then f_X12_finds m3 105 2 else some (vl β i, m3)) ∧ ∀ k j, k ≠ 108 → k ≠ 111 → k ≠ 112 → k ≠ 113 → ¬ (k = 105 ∧ j = 17) → rd m3 k j = rd μ' k j := by
        intro μ' hR
        have KM : ∀ j, rd μ' 106 j = rd μ 106 j := fun j => hR 106 j (by omega) (by omega)
        obtain ⟨m3, y1, y2, y3⟩ := e_findRow (p := p) c (FM_cg n8 (fun j _ => KM j) F1) V w9 (TMt_cg N4 (TW_s W) (fun j _ => KM j) M) W hp
        rw [hβ] at y2
        obtain ⟨z1, z2, z3⟩ := y2
        refine ⟨m3, ?_, y3⟩
        unfold f_X12_rowTold f_X12_rowTold_j65
        simp only [rfs]
        rw [e_isDebM ((KM 1).trans c2), bd_s, if_pos g1, if_neg (by decide), (e_ins (nI i - 1)).1, bd_s, if_pos g2, if_pos (by decide), (e_ofs p4 μ').2.2.2.1, bd_s, KM, m6, if_pos (by rw [zb]; decide), y1, bd_s, z1, bd_p]
        by_cases y : β.1 = 0
        · rw [if_pos ((pm_neg (by omega)).mpr y), if_pos (by omega)]
        · rw [if_neg (fun q => y ((pm_neg (by omega)).mp q))]
          by_cases z : β.1 ≤ i
          · rw [if_neg (fun q => by rw [i32_lt, sub1_int (by omega), sub1_int (by omega)] at q; omega), if_pos z]
          · rw [if_pos (by rw [i32_lt, sub1_int (by omega), sub1_int (by omega)]; omega), if_neg z]
            unfold vl
            by_cases u : i = 0
            · rw [if_neg (by rw [u]; decide), if_pos u]
            · obtain ⟨j, rfl⟩ : ∃ j, i = j + 1 := ⟨i - 1, by omega⟩
              have e : nI (j + 1) - 1 = nI j := by rw [← nI_1]; exact Int32.add_sub_cancel _ _
              rw [e, if_pos (nI_pos' (by omega)), ib_nI (show j < 9 by omega) (by omega), if_pos rfl, tn_nI (by omega), z2 j (by omega), if_neg u]
              rfl
      by_cases y : β.1 ≤ i
      · rw [if_pos y, show f_X11_refuse μ1 0 2 = _ from e_refuse μ1 2 (by omega)] at X0
        obtain ⟨m3, y1, y2⟩ := fin (wr μ1 96 2 (rd μ1 96 2 + 1)) (fun k j u v => by rw [rd_wr_n (by omega), x5 k j (by omega)])
        rw [if_pos y, show f_X12_finds m3 105 2 = _ from e_finds m3 2 (by omega)] at y1
        refine oks_go X0 y1 ?_
        refine R2_Re h (fun k j u v => ?_) (fun k hk => ?_)
        · rw [rd_wr_n (by omega), y2 k j (by omega) (by omega) (by omega) (by omega) (by omega), rd_wr_n (by omega), x5 k j (by omega)]
        · have hre := h.2.2.1
          by_cases e : k = 2
          · subst e
            rw [rd_wr_n (by omega), rd_wr_s, y2 96 2 (by omega) (by omega) (by omega) (by omega) (by omega), rd_wr_s, y2 109 2 (by omega) (by omega) (by omega) (by omega) (by omega), rd_wr_n (by omega), x5 96 2 (by omega), x5 109 2 (by omega), hre 2 (by omega)]
          · rw [rd_wr_n (by omega), rd_wr_n (by omega), y2 96 k (by omega) (by omega) (by omega) (by omega) (by omega), rd_wr_n (by omega), y2 109 k (by omega) (by omega) (by omega) (by omega) (by omega), rd_wr_n (by omega), x5 96 k (by omega), x5 109 k (by omega), hre k hk]
      · rw [if_neg y] at X0
        obtain ⟨m3, y1, y2⟩ := fin μ1 (fun k j u v => x5 k j (by omega))
        rw [if_neg y] at y1
        exact oks_go X0 y1 (R2_no h (fun k j u v => by rw [y2 k j (by omega) (by omega) (by omega) (by omega) (by omega), x5 k j (by omega)]))
    · have dr1 : dr (T p) = 1 := by omega
      refine oks_ref (k := 3) h (by omega) ?_ ?_
      · unfold f_X11_searched
        simp only [rfs, tn_nI (show p < 2 ^ 31 by omega), (rf_d (t := 14) (Or.inl rfl) p4).1]
        rw [e_isDebX c1, bd_s, if_pos g1, if_neg (by decide), e_among, bd_s, if_pos g2, if_pos (by decide), ib_nI p4 (by omega), if_pos rfl, if_neg (show ¬ rd μ (14 + 2 + 3 * p) 7 = 0 by rw [p6, dr1]; decide), bd_p]
        rfl
      · intro μ1 hR
        show f_X12_rowTold μ1 105 _ _ _ = _
        unfold f_X12_rowTold
        rw [e_isDebM ((hR 106 1 (by omega)).trans c2), bd_s, if_pos g1, if_neg (by decide), (e_ins (nI i - 1)).1, bd_s, if_pos g2, if_pos (by decide), (e_ofs p4 μ1).2.2.2.1, bd_s, hR _ _ (by omega), m6, if_neg (by rw [dr1]; decide), bd_p]
        rfl
  · refine oks_ref (k := 1) h (by omega) ?_ ?_
    · unfold f_X11_searched f_X11_searched_j18
      rw [e_isDebX c1, bd_s, bd_p]
      by_cases g1 : (0 : Int32) ≤ a ∧ a ≤ nI N - 1
      · rw [if_pos g1, if_neg (by decide), e_among, bd_s, if_neg (fun q => g ⟨g1, q⟩), if_neg (by decide)]
        rfl
      · rw [if_neg g1, if_pos rfl]
        rfl
    · intro μ1 hR
      show f_X12_rowTold μ1 105 _ _ _ = _
      unfold f_X12_rowTold f_X12_rowTold_j22
      rw [e_isDebM ((hR 106 1 (by omega)).trans c2), bd_s, bd_p]
      by_cases g1 : (0 : Int32) ≤ a ∧ a ≤ nI N - 1
      · rw [if_pos g1, if_neg (by decide), (e_ins b).1, bd_s, if_neg (fun q => g ⟨g1, q⟩), if_neg (by decide)]
        rfl
      · rw [if_neg g1, if_pos rfl]
        rfl
theorem sh_served : SH_served Rel := by
  intro μ h a b
  show OKS (f_X11_served μ 0 a b) (fun m => f_X12_served m 105 a b)
  have e1 : f_X11_served μ 0 a b = f_X11_searched μ 0 a b (b2 false) := by unfold f_X11_served; rw [bd_p]; rfl
  have e2 : (fun m => f_X12_served m 105 a b) = fun m => f_X12_rowTold m 105 a b (b2 false) := funext fun m => by unfold f_X12_served; rw [bd_p]; rfl
  rw [e1, e2]
  exact sh_search false h a b
theorem sh_closed : SH_closed Rel := by
  intro μ h a b
  show OKS (f_X11_closed μ 0 a b) (fun m => f_X12_closed m 105 a b)
  have e1 : f_X11_closed μ 0 a b = f_X11_searched μ 0 a b (b2 true) := by unfold f_X11_closed; rw [bd_p]; rfl
  have e2 : (fun m => f_X12_closed m 105 a b) = fun m => f_X12_rowTold m 105 a b (b2 true) := funext fun m => by unfold f_X12_closed; rw [bd_p]; rfl
  rw [e1, e2]
  exact sh_search true h a b
