/-! PURE: the model's search, as a whole -/
def Rn {σ ρ : Type} (body : σ → Option (σ ⊕ ρ)) (K : Nat) (s s' : σ) : Prop := ∀ F, lp body (K + F) s = lp body F s'
theorem Rn_1 {σ ρ : Type} {body : σ → Option (σ ⊕ ρ)} {s s' : σ} (h : body s = some (.inl s')) : Rn body 1 s s' := by
  intro F
  rw [Nat.add_comm, lp, h, bd_s]
theorem Rn_t {σ ρ : Type} {body : σ → Option (σ ⊕ ρ)} {K1 K2 : Nat} {s s1 s2 : σ} (h1 : Rn body K1 s s1) (h2 : Rn body K2 s1 s2) : Rn body (K1 + K2) s s2 := by
  intro F
  rw [Nat.add_assoc, h1, h2]
def vsR (g : Nat → Bt → Bt) : Nat → Nat → Bt → Bt
  | 0, _, β => β
  | k + 1, t, β => vsR g k (t + 1) (g t β)
theorem vsR_L {g : Nat → Bt → Bt} : ∀ k t β, vsR g k t (vsL g t β) = vsL g (t + k) β := by
  intro k
  induction k with
  | zero => intro t β; rfl
  | succ k ih =>
    intro t β
    rw [vsR, show g t (vsL g t β) = vsL g (t + 1) β from rfl, ih, show t + 1 + k = t + (k + 1) by omega]
theorem vsR_skip {g : Nat → Bt → Bt} : ∀ a k t β, a ≤ k → (∀ i, t ≤ i → i < t + a → ∀ β, g i β = β) → vsR g k t β = vsR g (k - a) (t + a) β := by
  intro a
  induction a with
  | zero => intro k t β _ _; rfl
  | succ a ih =>
    intro k t β hk h
    obtain ⟨k', rfl⟩ : ∃ k', k = k' + 1 := ⟨k - 1, by omega⟩
    rw [vsR, h t (Nat.le_refl _) (by omega), ih k' (t + 1) β (by omega) (fun i a b => h i (by omega) (by omega)), show k' + 1 - (a + 1) = k' - a by omega, show t + 1 + a = t + (a + 1) by omega]
def kb : Nat → Nat
  | 0 => 0
  | r + 1 => 1 + 8 * (1 + kb r)
section
variable {n N w s kd m p B0 : Nat} {nd cl wi wt τ0 : Nat → Nat} {bi : Nat → Int32} {T : Nat → Dt} {c : Bool}
theorem e_findN {r : Nat} {D : Dt} {ν : Nd} {a2 v3 : Int32} (V : FW n nd cl wi wt bi) (W : TWt n N w T) (w9 : w ≤ 999) (hp : p < N) (hN : nOK n s w B0 τ0 ν r) (h : TI n s kd m w D ν) : ∀ k t fu m', t + k = n → k < fu → FM m' 106 n nd cl wi wt bi → TMt m' 106 N (w + ν.1) (up T p D) → ∃ f m2, lp (fun q => f_X12_findRow_l39 105 (nI p) a2 v3 q.1 q.2) fu (nI t, m') = some (nI f, m2) ∧ t ≤ f ∧ f ≤ n ∧ (∀ i, t ≤ i → i < f → okN n w (fun B f => mtE nd cl kd m B (oth (fun q => dB (T q)) p N) f) (op0 wi bi) wi ν i = false) ∧ ((f = n ∧ TMt m2 106 N (w + ν.1) (up T p D)) ∨ (f < n ∧ okN n w (fun B f => mtE nd cl kd m B (oth (fun q => dB (T q)) p N) f) (op0 wi bi) wi ν f = true ∧ TMt m2 106 N (w + ν.1) (up T p (wrtD (w + ν.1) f D)))) ∧ ∀ k j, ¬ (k = 106 ∧ 50 + 21 * p ≤ j ∧ j < 71 + 21 * p) → rd m2 k j = rd m' k j := by
  have n8 := V.1
  intro k
  induction k with
  | zero =>
    intro t fu m' ht hfu F H
    obtain ⟨fu', rfl⟩ : ∃ fu', fu = fu' + 1 := ⟨fu - 1, by omega⟩
    have e : t = n := by omega
    subst e
    refine ⟨t, m', ?_, Nat.le_refl _, Nat.le_refl _, fun i a b => by omega, Or.inl ⟨rfl, H⟩, fun _ _ _ => rfl⟩
    rw [lp]
    show (f_X12_findRow_l39 105 (nI p) a2 v3 (nI t) m').bind _ = _
    unfold f_X12_findRow_l39
    simp only [rfs, cls]
    rw [F.1, if_pos (nI_le (Nat.le_refl _) (by omega)), bd_s]
  | succ k ih =>
    intro t fu m' ht hfu F H
    obtain ⟨fu', rfl⟩ : ∃ fu', fu = fu' + 1 := ⟨fu - 1, by omega⟩
    have tn : t < n := by omega
    obtain ⟨m1, a1, a2', a3⟩ := e_takesD F V W w9 hp hN h H tn
    have st : f_X12_findRow_l39 105 (nI p) a2 v3 (nI t) m' = if okN n w (fun B f => mtE nd cl kd m B (oth (fun q => dB (T q)) p N) f) (op0 wi bi) wi ν t = true then some (.inr (nI t, m1)) else some (.inl (nI (t + 1), m1)) := by
      unfold f_X12_findRow_l39
      simp only [rfs, cls]
      rw [F.1, if_neg (nI_ge tn (by omega)), a1, bd_s, nI_1]
      simp only
      cases okN n w (fun B f => mtE nd cl kd m B (oth (fun q => dB (T q)) p N) f) (op0 wi bi) wi ν t
      · rw [if_neg (not_not_intro b2_f), if_neg (show ¬ (false = true) by decide)]
      · rw [if_pos (by decide), if_pos rfl]
    by_cases z : okN n w (fun B f => mtE nd cl kd m B (oth (fun q => dB (T q)) p N) f) (op0 wi bi) wi ν t = true
    · rw [if_pos z] at st a2'
      refine ⟨t, m1, ?_, Nat.le_refl _, by omega, fun i a b => by omega, Or.inr ⟨tn, z, a2'⟩, a3⟩
      rw [lp]
      show (f_X12_findRow_l39 105 (nI p) a2 v3 (nI t) m').bind _ = _
      rw [st, bd_s]
    · rw [if_neg z] at st a2'
      obtain ⟨f, m2, x1, x2, x3, x4, x5, x6⟩ := ih (t + 1) fu' m1 (by omega) (by omega) (FM_cg n8 (fun j hj => a3 106 j (by have := hp; omega)) F) a2'
      refine ⟨f, m2, ?_, by omega, x3, fun i a b => ?_, x5, fun k j hk => by rw [x6 k j hk, a3 k j hk]⟩
      · rw [lp]
        show (f_X12_findRow_l39 105 (nI p) a2 v3 (nI t) m').bind _ = _
        rw [st, bd_s]
        exact x1
      · by_cases y : i = t
        · rw [y]; exact Bool.eq_false_iff.mpr z
        · exact x4 i (by omega) b
theorem TMt_wk {μ : Mem} {T : Nat → Dt} {w w' : Nat} (hN : N ≤ 4) (hs : ∀ q, q < N → ds (T q) ≤ 8) (H : TMt μ 106 N w T) : TMt (wr μ 106 3 (nI w')) 106 N w' T :=
  ⟨by rw [rd_wr_n (by omega)]; exact H.1, rd_wr_s _ _ _ _, fun q hq => DM_cg (hs q hq) (fun j a b => rd_wr_n (by omega)) (H.2.2 q hq)⟩
theorem rowM (V : FW n nd cl wi wt bi) (W : TWt n N w T) (w9 : w ≤ 999) (hp : p < N) : ∀ r ν D Dp, nOK n s w B0 τ0 ν r → sup ν.2.1 B0 → TI n s kd m w D ν → ((ν.1 = 0 ∧ Dp = D) ∨ ∃ q x f, ν.1 = q + 1 ∧ D = wrtD x f Dp) → ∀ k t β μ, t + k = n → FM μ 106 n nd cl wi wt bi → TMt μ 106 N (w + ν.1) (up T p D) → Bm μ β → (∀ i, i < ν.1 → rd μ 112 i = nI (ν.2.2.2 i)) → rd μ 111 ν.1 = nI t - 1 → ∃ K μ', K ≤ 1 + k * (1 + kb r) ∧ Rn (fun q => f_X12_findRow_l25 105 (nI p) (b2 c) q.1 q.2) K (nI ν.1, μ) (nI ν.1 + -1, μ') ∧ TMt μ' 106 N (w + (ν.1 - 1)) (up T p Dp) ∧ Bm μ' (vsR (vsG n w (fun B f => mtE nd cl kd m B (oth (fun q => dB (T q)) p N) f) (op0 wi bi) wi c r ν) k t β) ∧ (∀ i, i < ν.1 → rd μ' 112 i = rd μ 112 i ∧ rd μ' 111 i = rd μ 111 i) ∧ ∀ k j, ¬ (k = 105 ∧ j = 17) → ¬ (k = 106 ∧ (j = 3 ∨ 50 + 21 * p ≤ j ∧ j < 71 + 21 * p)) → k ≠ 111 → k ≠ 112 → k ≠ 113 → rd μ' k j = rd μ k j := by
  have n8 := V.1
  have N4 := W.1
  intro r
  induction r using Nat.strongRecOn with
  | _ r ihr =>
  intro ν D Dp hN hsup hT hD k
  induction k using Nat.strongRecOn with
  | _ k ihk =>
  intro t β μ ht F H hβ hr h111
  have d8 : ν.1 ≤ 8 := by have := hN.1; omega
  obtain ⟨f, m2, x1, x2, x3, x4, x5, x6⟩ := e_findN (a2 := b2 c) (v3 := nI ν.1) V W w9 hp hN hT k t FU μ ht (by unfold FU; omega) F H
  have F2 := FM_cg n8 (fun j hj => x6 106 j (by omega)) F
  have hβ2 : Bm m2 β := ⟨by rw [x6 _ _ (by omega)]; exact hβ.1, fun i hi => by rw [x6 _ _ (by omega)]; exact hβ.2.1 i hi, hβ.2.2⟩
  have st0 : f_X12_findRow_l25 105 (nI p) (b2 c) (nI ν.1) μ = f_X12_findRow_j66 m2 105 (nI p) (b2 c) (nI ν.1) (nI f) := by
    unfold f_X12_findRow_l25
    simp only [rfs]
    rw [if_neg (nI_pos (by omega)), ib_nI (show ν.1 < 9 by omega) (by omega), if_pos rfl, tn_nI (by omega), h111, Int32.sub_add_cancel, x1, bd_s]
  rcases x5 with ⟨rfl, y1⟩ | ⟨fn, fo, y1⟩
  · -- no fact is left
    have same : vsR (vsG f w (fun B f => mtE nd cl kd m B (oth (fun q => dB (T q)) p N) f) (op0 wi bi) wi c r ν) k t β = β := by
      rw [vsR_skip k k t β (Nat.le_refl _) (fun i a b β => by rw [vsG, if_neg (by rw [x4 i a (by omega)]; decide)]), Nat.sub_self]
      rfl
    rw [same]
    have hle : nI f ≤ nI f := nI_le (Nat.le_refl _) (by omega)
    have r0 : rd (wr m2 111 ν.1 (nI f)) 106 0 = nI f := by rw [rd_wr_n (by omega)]; exact F2.1
    rcases hD with ⟨d0, rfl⟩ | ⟨q, x, f', dq, rfl⟩
    · refine ⟨1, wr m2 111 ν.1 (nI f), by omega, Rn_1 ?_, ?_, ⟨by rw [rd_wr_n (by omega)]; exact hβ2.1, fun i hi => by rw [rd_wr_n (by omega)]; exact hβ2.2.1 i hi, hβ2.2.2⟩, fun i hi => by omega, fun k j a b c d e => by rw [rd_wr_n (by omega), x6 k j (by omega)]⟩
      · show f_X12_findRow_l25 105 (nI p) (b2 c) (nI ν.1) μ = _
        rw [st0]
        unfold f_X12_findRow_j66
        simp only [rfs, cls]
        rw [ib_nI (show ν.1 < 9 by omega) (by omega), if_pos rfl, bd_s, tn_nI (by omega), r0, if_pos hle, if_pos (show nI ν.1 + -1 < 0 by rw [d0]; decide)]
      · rw [show w + (ν.1 - 1) = w + ν.1 by omega]
        exact TMt_cg N4 (TW_s (TW_upD (p := p) W (show w ≤ w + ν.1 by omega) (by omega) hT.2.2.2.2.2)) (fun j _ => rd_wr_n (by omega)) y1
    · have s8 : ds Dp < 8 := by
        have := hT.2.2.2.2.2.2.2.2.2.1
        have e : ds (wrtD x f' Dp) = ds Dp + 1 := rfl
        omega
      have W1 := TW_upD (p := p) W (show w ≤ w + ν.1 by omega) (by omega) hT.2.2.2.2.2
      have y1' : TMt (wr m2 111 ν.1 (nI f)) 106 N (w + ν.1) (up T p (wrtD x f' Dp)) := TMt_cg N4 (TW_s W1) (fun j _ => rd_wr_n (by omega)) y1
      obtain ⟨rr, q1, q2, q3⟩ := e_pop N4 hp (TW_s W) s8 y1'
      have dsp : ∀ q', q' < N → ds (up T p Dp q') ≤ 8 := fun q' hq' => by
        by_cases z : q' = p
        · rw [z, up_s]; omega
        · rw [up_n z]; exact TW_s W q' hq'
      have w3 : rd (wr (wr m2 111 ν.1 (nI f)) 106 (54 + 21 * p) (nI (ds Dp))) 106 3 - 1 = nI (w + (ν.1 - 1)) := by
        rw [q3.2.1, dq, show w + (q + 1) = w + (q + 1 - 1) + 1 by omega, ← nI_1]
        exact Int32.add_sub_cancel _ _
      have nz : ¬ nI ν.1 + -1 < 0 := by
        rw [dq, ← nI_1, Int32.add_assoc, show (1 : Int32) + -1 = 0 from by decide, Int32.add_zero]
        exact nI_pos (by omega)
      refine ⟨1, wr (wr (wr m2 111 ν.1 (nI f)) 106 (54 + 21 * p) (nI (ds Dp))) 106 3 (nI (w + (ν.1 - 1))), by omega, Rn_1 ?_, TMt_wk N4 dsp q3, ⟨?_, fun i hi => ?_, hβ2.2.2⟩, fun i hi => ⟨?_, ?_⟩, fun k j a b c d e => ?_⟩
      · show f_X12_findRow_l25 105 (nI p) (b2 c) (nI ν.1) μ = _
        rw [st0]
        unfold f_X12_findRow_j66
        simp only [rfs, cls]
        rw [ib_nI (show ν.1 < 9 by omega) (by omega), if_pos rfl, bd_s, tn_nI (by omega), r0, if_pos hle, if_neg nz, q1, bd_s, q2, bd_s, w3, bd_s]
      · simp (discharger := omega) only [rd_wr_n]; exact hβ2.1
      · simp (discharger := omega) only [rd_wr_n]; exact hβ2.2.1 i hi
      · simp (discharger := omega) only [rd_wr_n]; exact x6 _ _ (by omega)
      · simp (discharger := omega) only [rd_wr_n]; exact x6 _ _ (by omega)
      · simp (discharger := omega) only [rd_wr_n]; exact x6 _ _ (by omega)
  · -- one more fact
    have nb : ν.2.1.testBit f = false := by
      have := fo
      unfold okN at this
      rw [Bool.and_eq_true] at this
      exact mtE_nb this.1
    obtain ⟨r1, hNc, hsc⟩ := nOK_chd n8 hN hsup fn nb
    obtain ⟨t1, t2, t3⟩ := TI_chd n8 hT fn nb
    have W1 := TW_upD (p := p) W (show w ≤ w + ν.1 by omega) (by omega) t2
    have hN1 := hN.1
    -- the memory as it goes on
    have w3 : rd (wr (wr m2 111 ν.1 (nI f)) 112 ν.1 (nI f)) 106 3 + 1 = nI (w + (ν.1 + 1)) := by
      rw [rd_wr_n (by omega), rd_wr_n (by omega), y1.2.1, nI_1]
      rfl
    generalize hm5 : wr (wr (wr (wr m2 111 ν.1 (nI f)) 112 ν.1 (nI f)) 106 3 (nI (w + (ν.1 + 1)))) 111 (ν.1 + 1) (-1) = m5
    have K5 : ∀ k j, ¬ (k = 111 ∧ (j = ν.1 ∨ j = ν.1 + 1)) → ¬ (k = 112 ∧ j = ν.1) → ¬ (k = 106 ∧ j = 3) → rd m5 k j = rd m2 k j := fun k j a b d => by
      rw [← hm5, rd_wr_n (by omega), rd_wr_n (by omega), rd_wr_n (by omega), rd_wr_n (by omega)]
    have R5 : rd m5 111 ν.1 = nI f := by rw [← hm5, rd_wr_n (by omega), rd_wr_n (by omega), rd_wr_n (by omega), rd_wr_s]
    have R5' : rd m5 111 (ν.1 + 1) = nI 0 - 1 := by rw [← hm5, rd_wr_s]; decide
    have R6 : rd m5 112 ν.1 = nI f := by rw [← hm5, rd_wr_n (by omega), rd_wr_n (by omega), rd_wr_s]
    have H5 : TMt m5 106 N (w + (chd w ν f).1) (up T p (wrtD (w + ν.1) f D)) := by
      rw [← hm5]
      have a := TMt_cg (μ' := wr (wr m2 111 ν.1 (nI f)) 112 ν.1 (nI f)) N4 (TW_s W1) (fun j _ => by rw [rd_wr_n (by omega), rd_wr_n (by omega)]) y1
      have b := TMt_wk (w' := w + (ν.1 + 1)) N4 (TW_s W1) a
      exact TMt_cg N4 (TW_s W1) (fun j _ => rd_wr_n (by omega)) b
    have F5 := FM_cg n8 (fun j hj => K5 106 j (by omega) (by omega) (by omega)) F2
    have rows5 : ∀ i, i < (chd w ν f).1 → rd m5 112 i = nI ((chd w ν f).2.2.2 i) := by
      intro i hi
      have hi : i < ν.1 + 1 := hi
      show _ = nI (up ν.2.2.2 ν.1 f i)
      by_cases z : i = ν.1
      · rw [z, up_s]; exact R6
      · rw [up_n z, K5 _ _ (by omega) (by omega) (by omega), x6 _ _ (by omega)]
        exact hr i (by omega)
    obtain ⟨m6, l1, l2, l3⟩ := e_looks (c := c) F5 V W w9 hp hNc t1 H5 ⟨by rw [K5 _ _ (by omega) (by omega) (by omega)]; exact hβ2.1, fun i hi => by rw [K5 _ _ (by omega) (by omega) (by omega)]; exact hβ2.2.1 i hi, hβ2.2.2⟩ rows5
    have step : f_X12_findRow_l25 105 (nI p) (b2 c) (nI ν.1) μ = some (.inl (nI (ν.1 + 1), m6)) := by
      have l1 : f_X12_looksAt m5 105 (nI p) (nI (ν.1 + 1)) (b2 c) = some m6 := l1
      have r0 : rd (wr m2 111 ν.1 (nI f)) 106 0 = nI n := by rw [rd_wr_n (by omega)]; exact F2.1
      rw [st0]
      unfold f_X12_findRow_j66
      simp only [rfs, cls]
      rw [ib_nI (show ν.1 < 9 by omega) (by omega), if_pos rfl, bd_s, tn_nI (by omega), r0, if_neg (nI_ge fn (by omega)), if_pos rfl, bd_s, w3, bd_s, nI_1, ib_nI (show ν.1 + 1 < 9 by omega) (by omega), if_pos rfl, bd_s, tn_nI (by omega), hm5, l1, bd_s]
    have TMt6 : TMt m6 106 N (w + (chd w ν f).1) (up T p (wrtD (w + ν.1) f D)) := TMt_cg N4 (TW_s W1) (fun j _ => l3 106 j (by omega) (by omega)) H5
    have F6 := FM_cg n8 (fun j hj => l3 106 j (by omega) (by omega)) F5
    obtain ⟨K1, μ1, i1, i2, i3, i4, i5, i6⟩ := ihr (r - 1) (by omega) (chd w ν f) (wrtD (w + ν.1) f D) D hNc hsc t1 (Or.inr ⟨ν.1, w + ν.1, f, rfl, rfl⟩) n 0 (bup n (op0 wi bi) c β (chd w ν f)) m6 (by omega) F6 TMt6 l2 (fun i hi => by rw [l3 112 i (by omega) (by omega)]; exact rows5 i hi) (by rw [l3 _ _ (by omega) (by omega)]; exact R5')
    have i2 : Rn (fun q => f_X12_findRow_l25 105 (nI p) (b2 c) q.1 q.2) K1 (nI (ν.1 + 1), m6) (nI (ν.1 + 1) + -1, μ1) := i2
    rw [show nI (ν.1 + 1) + -1 = nI ν.1 by rw [← nI_1, Int32.add_assoc, show (1 : Int32) + -1 = 0 from by decide, Int32.add_zero]] at i2
    have i3 : TMt μ1 106 N (w + ν.1) (up T p D) := i3
    have i5 : ∀ i, i < ν.1 + 1 → rd μ1 112 i = rd m6 112 i ∧ rd μ1 111 i = rd m6 111 i := i5
    have F7 := FM_cg n8 (fun j hj => i6 106 j (by omega) (by omega) (by omega) (by omega) (by omega)) F6
    have r7 : rd μ1 111 ν.1 = nI (f + 1) - 1 := by
      rw [(i5 ν.1 (by omega)).2, l3 _ _ (by omega) (by omega), R5, ← nI_1]
      exact (Int32.add_sub_cancel _ _).symm
    have rows7 : ∀ i, i < ν.1 → rd μ1 112 i = nI (ν.2.2.2 i) := fun i hi => by
      rw [(i5 i (by omega)).1, l3 _ _ (by omega) (by omega), K5 _ _ (by omega) (by omega) (by omega), x6 _ _ (by omega)]
      exact hr i hi
    have gf : vsR (vsG n w (fun B f => mtE nd cl kd m B (oth (fun q => dB (T q)) p N) f) (op0 wi bi) wi c (r - 1) (chd w ν f)) n 0 (bup n (op0 wi bi) c β (chd w ν f)) = vsG n w (fun B f => mtE nd cl kd m B (oth (fun q => dB (T q)) p N) f) (op0 wi bi) wi c r ν f β := by
      have := vsR_L (g := vsG n w (fun B f => mtE nd cl kd m B (oth (fun q => dB (T q)) p N) f) (op0 wi bi) wi c (r - 1) (chd w ν f)) n 0 (bup n (op0 wi bi) c β (chd w ν f))
      rw [Nat.zero_add] at this
      refine this.trans ?_
      rw [← vsN_G hNc, vsG, if_pos fo]
    rw [gf] at i4
    obtain ⟨K2, μ2, j1, j2, j3, j4, j5, j6⟩ := ihk (n - (f + 1)) (by omega) (f + 1) _ μ1 (by omega) F7 i3 i4 rows7 r7
    refine ⟨1 + K1 + K2, μ2, ?_, Rn_t (Rn_t (Rn_1 step) i2) j2, j3, ?_, fun i hi => ⟨?_, ?_⟩, fun k j a b c d e => ?_⟩
    · have e1 : (n - (f + 1) + 1) * (1 + kb r) ≤ k * (1 + kb r) := Nat.mul_le_mul_right _ (by omega)
      rw [Nat.succ_mul] at e1
      have e2 : n * (1 + kb (r - 1)) ≤ 8 * (1 + kb (r - 1)) := Nat.mul_le_mul_right _ n8
      have e3 : kb r = 1 + 8 * (1 + kb (r - 1)) := by
        obtain ⟨r', rfl⟩ : ∃ r', r = r' + 1 := ⟨r - 1, by omega⟩
        rfl
      omega
    · have sk := vsR_skip (g := vsG n w (fun B f => mtE nd cl kd m B (oth (fun q => dB (T q)) p N) f) (op0 wi bi) wi c r ν) (f - t) k t β (by omega) (fun i a b β => by rw [vsG, if_neg (by rw [x4 i a (by omega)]; decide)])
      rw [sk, show k - (f - t) = n - (f + 1) + 1 by omega, show t + (f - t) = f by omega, vsR]
      exact j4
    · rw [(j5 i hi).1, (i5 i (by omega)).1, l3 _ _ (by omega) (by omega), K5 _ _ (by omega) (by omega) (by omega), x6 _ _ (by omega)]
    · rw [(j5 i hi).2, (i5 i (by omega)).2, l3 _ _ (by omega) (by omega), K5 _ _ (by omega) (by omega) (by omega), x6 _ _ (by omega)]
    · rw [j6 k j a b c d e, i6 k j a b c d e, l3 k j a e, K5 k j (by omega) (by omega) (by omega), x6 k j (by omega)]
end
