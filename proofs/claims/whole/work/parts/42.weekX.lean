/-! PURE: telling, serving, weeks: the class -/
def LwX (μ : Mem) (gv : Nat → Nat → Nat → Nat) : Prop := (∀ f w d, gv f w d ≤ 999) ∧ ∀ μ' : Mem, (∀ j, rd μ' 8 j = rd μ 8 j) → (∀ j, rd μ' 9 j = rd μ 9 j) → ∀ f w d, ∃ μ2, f_X2_gives μ' 8 (nI f) (nI w) (nI d) = some (nI (gv f w d), μ2) ∧ ∀ k j, k ≠ 10 → rd μ2 k j = rd μ' k j
theorem LwX_cg {μ μ' : Mem} {gv : Nat → Nat → Nat → Nat} (h8 : ∀ j, rd μ' 8 j = rd μ 8 j) (h9 : ∀ j, rd μ' 9 j = rd μ 9 j) (L : LwX μ gv) : LwX μ' gv := ⟨L.1, fun m a b => L.2 m (fun j => by rw [a, h8]) (fun j => by rw [b, h9])⟩
theorem j_mx0 {a b : Nat} (ha : a < 2 ^ 30) (hb : b < 2 ^ 30) : jmax 0 (nI a - nI b) = nI (a - b) := by
  unfold jmax
  have h := pk_sub_toInt ha hb
  have h0 : (0 : Int32).toInt = 0 := rfl
  by_cases e : b < a
  · rw [if_pos (by rw [i32_lt, h, h0]; omega), pk_sub (by omega)]
  · rw [if_neg (by rw [i32_lt, h, h0]; omega), show a - b = 0 by omega]
    rfl
theorem e_writeX {μ : Mem} {t p n N w f : Nat} {T : Nat → Dt} {gv : Nat → Nat → Nat → Nat} (ht : t = 14 ∨ t = 69) (hn : n ≤ 8) (hp : p < N) (L : LwX μ gv) (H : TXt μ t N w T) (W : TWt n N w T) (hf : f < n) (hb : (dB (T p)).testBit f = false) : ∃ μ2, f_X8_write μ t (nI p) (nI f) = some μ2 ∧ TXt μ2 t N w (up T p (tellD gv w f (T p))) ∧ ∀ k j, k ≠ 10 → ¬ (t + 2 + 3 * p ≤ k ∧ k ≤ t + 4 + 3 * p) → rd μ2 k j = rd μ k j := by
  have p4 : p < 4 := Nat.lt_of_lt_of_le hp W.1
  have f8 : f < 8 := by omega
  have wd := W.2.2 p hp
  obtain ⟨wt, s8, nb⟩ := DW_tell (gv := gv) hn wd hf hb
  obtain ⟨d1, d2, d3, d4, d5, d6, d7⟩ := wd
  obtain ⟨p1, p2, p3, p4', p5, p6, p7⟩ := H.2.2 p hp
  have hT : T p = T p := rfl
  revert d1 d2 d3 d4 d5 d6 d7 p1 p2 p3 p4' p5 p6 p7 nb s8 wt hb
  generalize T p = d
  intro hb wt s8 nb d1 d2 d3 d4 d5 d6 d7 p1 p2 p3 p4' p5 p6 p7
  have R := rf_d ht p4
  obtain ⟨μ1, g1, g2⟩ := L.2 μ (fun _ => rfl) (fun _ => rfl) f w (dd d)
  have pl := paid_le L.1 (dk d) f w (dd d)
  have gl := L.1 f w (dd d)
  have key : f_X8_write_j64 μ1 t (nI p) (nI f) (t + 2 + 3 * p) (nI (paid gv (dk d) f w (dd d))) = some (wr (wr (wr (wr (wr μ1 (t + 2 + 3 * p) 6 (nI (dd d - paid gv (dk d) f w (dd d)))) (t + 3 + 3 * p) (ds d) (nI f)) (t + 4 + 3 * p) f (nI w)) (t + 2 + 3 * p) 2 (nI (dB d ||| 2 ^ f))) (t + 2 + 3 * p) 3 (nI (ds d + 1))) := by
    unfold f_X8_write_j64 f_X0_keep
    have e6 : rd μ1 (t + 2 + 3 * p) 6 = nI (dd d) := by rw [g2 _ _ (by omega), p5]
    have e3 : rd μ1 (t + 2 + 3 * p) 3 = nI (ds d) := by rw [g2 _ _ (by omega), p2]
    have e2 : rd μ1 (t + 2 + 3 * p) 2 = nI (dB d) := by rw [g2 _ _ (by omega), p1]; rfl
    have e4 : rd μ1 t 4 = nI w := by rw [g2 _ _ (by omega), H.2.1]
    rw [e6, j_mx0 (by omega) (by omega), bd_s]
    simp (discharger := omega) only [rd_wr_n, e3, e4, bd_i]
    rw [if_neg (show ¬ (8 : Int32) ≤ nI (ds d) from nI_ge (b := 8) s8 (by omega)), if_neg (nI_pos (by omega)), if_neg (show ¬ (8 : Int32) ≤ nI f from nI_ge (b := 8) f8 (by omega)), ib_nI s8 (by omega), if_pos rfl, bd_s, ib_nI f8 (by omega), if_pos rfl, bd_s, bd_s, tn_nI (by omega), tn_nI (by omega), R.2.1, R.2.2]
    simp (discharger := omega) only [rd_wr_n, e3, e2, shl_1 f f8, nI_or, nI_1]
  refine ⟨wr (wr (wr (wr (wr μ1 (t + 2 + 3 * p) 6 (nI (dd d - paid gv (dk d) f w (dd d)))) (t + 3 + 3 * p) (ds d) (nI f)) (t + 4 + 3 * p) f (nI w)) (t + 2 + 3 * p) 2 (nI (dB d ||| 2 ^ f))) (t + 2 + 3 * p) 3 (nI (ds d + 1)), ?_, ?_, ?_⟩
  · unfold f_X8_write f_X8_write_j41
    rw [ib_nI p4 (by omega), if_pos rfl]
    simp only [rf_tw ht, tn_nI (show p < 2 ^ 31 by omega), R.1]
    rw [H.2.1, p5, g1, bd_s]
    have e4 : rd μ1 (t + 2 + 3 * p) 4 = nI (dk d) := by rw [g2 _ _ (by omega), p3]
    simp only [e4, nIq (show dk d < 2 ^ 31 by omega)]
    by_cases k1 : dk d = 1
    · rw [if_pos k1, show (2 : Int32) = nI 2 from rfl, pk_div (by omega) (by omega) (by omega), ← key, paid, if_pos (Or.inl k1)]
    · rw [if_neg k1]
      by_cases k4 : dk d = 4
      · rw [if_neg (not_not_intro k4), show (2 : Int32) = nI 2 from rfl, pk_div (by omega) (by omega) (by omega), ← key, paid, if_pos (Or.inr k4)]
      · rw [if_pos k4]
        by_cases k5 : dk d = 5
        · rw [if_neg (not_not_intro k5), show (2 : Int32) = nI 2 from rfl, pk_mul, ← key, paid, if_neg (by omega), if_pos k5]
        · rw [if_pos k5, ← key, paid, if_neg (by omega), if_neg k5]
  · refine ⟨?_, ?_, fun q hq => ?_⟩
    · simp (discharger := omega) only [rd_wr_n]
      rw [g2 _ _ (by omega)]; exact H.1
    · simp (discharger := omega) only [rd_wr_n]
      rw [g2 _ _ (by omega)]; exact H.2.1
    · by_cases e : q = p
      · subst e
        rw [up_s]
        refine ⟨?_, ?_, ?_, ?_, ?_, ?_, fun i hi => ?_⟩
        · simp (discharger := omega) only [rd_wr_n, rd_wr_s]
          show nI (dB d ||| 2 ^ f) = nI (bks (up (dbk d) (ds d) f) (ds d + 1))
          rw [bks, up_s, dB, bks_cg (bk := dbk d) (bk' := up (dbk d) (ds d) f) (ds d) (fun i hi => (up_n (by omega)).symm)]
        · simp (discharger := omega) only [rd_wr_n, rd_wr_s]
          rfl
        · simp (discharger := omega) only [rd_wr_n]
          rw [g2 _ _ (by omega)]; exact p3
        · simp (discharger := omega) only [rd_wr_n]
          rw [g2 _ _ (by omega)]; exact p4'
        · simp (discharger := omega) only [rd_wr_n, rd_wr_s]
          rfl
        · simp (discharger := omega) only [rd_wr_n]
          rw [g2 _ _ (by omega)]; exact p6
        · have hi : i < ds d + 1 := hi
          show rd _ (t + 2 + 3 * q + 1) i = nI (up (dbk d) (ds d) f i) ∧ rd _ (t + 2 + 3 * q + 2) (up (dbk d) (ds d) f i) = nI (up (dwk d) (ds d) w i)
          rw [show t + 2 + 3 * q + 1 = t + 3 + 3 * q by omega, show t + 2 + 3 * q + 2 = t + 4 + 3 * q by omega]
          by_cases z : i = ds d
          · subst z
            simp only [up_s]
            simp (discharger := omega) only [rd_wr_n, rd_wr_s, and_self]
          · have zb := nb i (by omega)
            simp only [up_n z]
            simp (discharger := omega) only [rd_wr_n]
            rw [g2 _ _ (by omega), g2 _ _ (by omega)]
            have := p7 i (by omega)
            rw [show t + 2 + 3 * q + 1 = t + 3 + 3 * q by omega, show t + 2 + 3 * q + 2 = t + 4 + 3 * q by omega] at this
            exact this
      · rw [up_n e]
        refine DX_cg (fun k j a b => ?_) (H.2.2 q hq)
        simp (discharger := omega) only [rd_wr_n]
        exact g2 _ _ (by omega)
  · intro k j a b
    simp (discharger := omega) only [rd_wr_n]
    exact g2 _ _ a
theorem e_brkX {μ : Mem} {t p N w : Nat} {T : Nat → Dt} (ht : t = 14 ∨ t = 69) (hN : N ≤ 4) (hp : p < N) (H : TXt μ t N w T) : TXt (wr μ (t + 2 + 3 * p) 7 1) t N w (up T p (brkD (T p))) := by
  refine ⟨?_, ?_, fun q hq => ?_⟩
  · rw [rd_wr_n (by omega)]; exact H.1
  · rw [rd_wr_n (by omega)]; exact H.2.1
  · by_cases e : q = p
    · subst e
      rw [up_s]
      obtain ⟨p1, p2, p3, p4, p5, p6, p7⟩ := H.2.2 q hq
      refine ⟨?_, ?_, ?_, ?_, ?_, ?_, fun i hi => ?_⟩
      · rw [rd_wr_n (by omega)]; exact p1
      · rw [rd_wr_n (by omega)]; exact p2
      · rw [rd_wr_n (by omega)]; exact p3
      · rw [rd_wr_n (by omega)]; exact p4
      · rw [rd_wr_n (by omega)]; exact p5
      · rw [rd_wr_s]; rfl
      · rw [rd_wr_n (by omega), rd_wr_n (by omega)]; exact p7 i hi
    · rw [up_n e]
      exact DX_cg (fun k j a b => rd_wr_n (by omega)) (H.2.2 q hq)
theorem ctzX : ∀ x, x < 256 → x ≠ 0 → f_J6_numberOfTrailingZeros_0f7a4 (nI x) = some (nI (fstE (fun k => x.testBit k) 8)) := by decide +kernel
theorem bts_0 {E : Nat → Bool} {n : Nat} : bts E n = 0 ↔ ¬ fstE E n < n := by
  obtain ⟨a1, a2, a3⟩ := fstE_spec E n
  constructor
  · intro h z
    have := bts_tb E (fstE E n) n
    rw [h, a3 z, decide_eq_true z] at this
    simp at this
  · intro h
    apply Nat.eq_of_testBit_eq
    intro i
    rw [bts_tb, Nat.zero_testBit]
    by_cases z : i < n
    · rw [a1 i (by omega), Bool.and_false]
    · rw [decide_eq_false z, Bool.false_and]
theorem bts_fst {E : Nat → Bool} {n : Nat} (hn : n ≤ 8) (h : fstE E n < n) : fstE (fun k => (bts E n).testBit k) 8 = fstE E n := by
  obtain ⟨a1, a2, a3⟩ := fstE_spec E n
  refine fstE_uniq (fun i hi => ?_) (by omega) (fun _ => ?_)
  · simp only [bts_tb, a1 i hi, Bool.and_false]
  · simp only [bts_tb, a3 h, decide_eq_true h, Bool.and_self]
theorem oth_up {T : Nat → Dt} {p N : Nat} {d : Dt} : oth (fun q => dB (up T p d q)) p N = oth (fun q => dB (T q)) p N := oth_cg N (fun q _ e => by simp only [up_n e])
theorem oth_256 {n N w : Nat} {T : Nat → Dt} (hn : n ≤ 8) (W : TWt n N w T) (p : Nat) : oth (fun q => dB (T q)) p N < 256 := oth_lt N (fun q hq => DWt_B hn (W.2.2 q hq))
theorem e_mayT {μ : Mem} {t p n N w : Nat} {nd cl wi wt : Nat → Nat} {bi : Nat → Int32} {T : Nat → Dt} (ht : t = 14 ∨ t = 69) (F : FX μ 2 n nd cl wi wt bi) (V : FW n nd cl wi wt bi) (hp : p < N) (H : TXt μ t N w T) (W : TWt n N w T) : f_X8_mayTell μ t (nI p) = some (nI (bts (mayD nd cl (oth (fun q => dB (T q)) p N) (T p)) n)) := by
  have p4 : p < 4 := Nat.lt_of_lt_of_le hp W.1
  obtain ⟨p1, p2, p3, p4', p5, p6, p7⟩ := H.2.2 p hp
  obtain ⟨d1, d2, d3, d4, d5, d6, d7⟩ := W.2.2 p hp
  unfold f_X8_mayTell
  rw [ib_nI p4 (by omega), if_pos rfl, e_othX ht W.1 (TX_T n H) p4, bd_s]
  simp only [rf_tw ht, tn_nI (show p < 2 ^ 31 by omega), rf_d ht p4]
  rw [p3, p4', p1]
  show (f_X1_mayTell μ 2 (nI (dk (T p))) (nI (dm (T p))) (nI (dB (T p))) (nI (oth (fun q => dB (T q)) p N))).bind _ = _
  rw [e_mayX F V d1 d2 (DWt_B V.1 (W.2.2 p hp)) (oth_256 V.1 W p), bd_s]
  rfl
theorem srvX {t p n N w : Nat} {nd cl wi wt : Nat → Nat} {bi : Nat → Int32} {gv : Nat → Nat → Nat → Nat} (ht : t = 14 ∨ t = 69) (V : FW n nd cl wi wt bi) (hp : p < N) (due : Nat) (hd : due ≤ 10) : ∀ (k v fu : Nat) (T : Nat → Dt) (μ : Mem), v + k = due → k < fu → FX μ 2 n nd cl wi wt bi → LwX μ gv → TXt μ t N w T → TWt n N w T → ∃ μ2, lp (fun s => f_X8_serve_l10 t (nI p) (nI due) (t + 2 + 3 * p) s.1 s.2) fu (nI v, μ) = some μ2 ∧ TXt μ2 t N w (up T p (srvL n nd cl gv (oth (fun q => dB (T q)) p N) w k (T p))) ∧ ∀ k' j, k' ≠ 10 → ¬ (t + 2 + 3 * p ≤ k' ∧ k' ≤ t + 4 + 3 * p) → rd μ2 k' j = rd μ k' j := by
  intro k
  induction k with
  | zero =>
    intro v fu T μ hv hfu F L H W
    obtain ⟨fu', rfl⟩ : ∃ fu', fu = fu' + 1 := ⟨fu - 1, by omega⟩
    refine ⟨μ, ?_, ?_, fun _ _ _ _ => rfl⟩
    · simp only [lp, f_X8_serve_l10]
      rw [if_pos (nI_le (by omega) (by omega))]
      rfl
    · rw [srvL, up_id]; exact H
  | succ k ih =>
    intro v fu T μ hv hfu F L H W
    obtain ⟨fu', rfl⟩ : ∃ fu', fu = fu' + 1 := ⟨fu - 1, by omega⟩
    have p4 : p < 4 := Nat.lt_of_lt_of_le hp W.1
    obtain ⟨p1, p2, p3, p4', p5, p6, p7⟩ := H.2.2 p hp
    obtain ⟨d1, d2, d3, d4, d5, d6, d7⟩ := W.2.2 p hp
    have hs : f_X8_serve_l10 t (nI p) (nI due) (t + 2 + 3 * p) (nI v) μ = if dd (T p) ≤ 0 then some (.inr μ) else if ¬ dr (T p) = 0 then some (.inr μ) else (f_X8_mayTell μ t (nI p)).bind fun r32 => if ¬ r32 = 0 then (f_J6_numberOfTrailingZeros_0f7a4 r32).bind fun r54 => (f_X8_write μ t (nI p) r54).bind fun μ57 => some (.inl (nI v + 1, μ57)) else (some (wr μ (t + 2 + 3 * p) 7 1)).bind fun m44 => some (.inl (nI v + 1, m44)) := by
      unfold f_X8_serve_l10
      rw [if_neg (nI_ge (by omega) (by omega)), p5, p6]
      have e1 : (nI (dd (T p)) ≤ 0) = (dd (T p) ≤ 0) := propext (nI_leI (b := 0) (by omega) (by omega))
      simp only [e1, nIq (show dr (T p) < 2 ^ 31 by omega)]
    by_cases c1 : 0 < dd (T p) ∧ dr (T p) = 0
    · rw [if_neg (by omega), if_neg (not_not_intro c1.2), e_mayT ht F V hp H W, bd_s] at hs
      have e0 : bts (mayD nd cl (oth (fun q => dB (T q)) p N) (T p)) n < 256 := bts_lt _ _ V.1
      have nxt : ∃ μ1, f_X8_serve_l10 t (nI p) (nI due) (t + 2 + 3 * p) (nI v) μ = some (.inl (nI v + 1, μ1)) ∧ TXt μ1 t N w (up T p (stepD n nd cl gv (oth (fun q => dB (T q)) p N) w (T p))) ∧ ∀ k' j, k' ≠ 10 → ¬ (t + 2 + 3 * p ≤ k' ∧ k' ≤ t + 4 + 3 * p) → rd μ1 k' j = rd μ k' j := by
        by_cases c2 : fstE (mayD nd cl (oth (fun q => dB (T q)) p N) (T p)) n < n
        · have z0 : bts (mayD nd cl (oth (fun q => dB (T q)) p N) (T p)) n ≠ 0 := fun z => bts_0.mp z c2
          obtain ⟨μ1, w1, w2, w3⟩ := e_writeX ht V.1 hp L H W c2 (may_nb ((fstE_spec _ n).2.2 c2))
          rw [if_pos (nI_ne0 (by omega) (by omega)), ctzX _ e0 z0, bd_s, bts_fst V.1 c2, w1, bd_s] at hs
          exact ⟨μ1, hs, by rw [stepD, if_pos c2]; exact w2, w3⟩
        · rw [bts_0.mpr c2, if_neg (by decide), bd_s] at hs
          exact ⟨_, hs, by rw [stepD, if_neg c2]; exact e_brkX ht W.1 hp H, fun k' j a b => rd_wr_n (by omega)⟩
      obtain ⟨μ1, n1, n2, n3⟩ := nxt
      obtain ⟨μ2, i1, i2, i3⟩ := ih (v + 1) fu' (up T p (stepD n nd cl gv (oth (fun q => dB (T q)) p N) w (T p))) μ1 (by omega) (by omega) (FX_cg (fun k j a b => n3 k j (by omega) (by omega)) F) (LwX_cg (fun j => n3 8 j (by omega) (by omega)) (fun j => n3 9 j (by omega) (by omega)) L) n2 (TW_up W (DW_step V.1 (W.2.2 p hp)))
      refine ⟨μ2, ?_, ?_, fun k' j a b => by rw [i3 k' j a b, n3 k' j a b]⟩
      · rw [lp]
        show (f_X8_serve_l10 t (nI p) (nI due) (t + 2 + 3 * p) (nI v) μ).bind _ = _
        rw [n1, bd_s, nI_1]
        exact i1
      · rw [up_up, up_s, oth_up] at i2
        rw [srvL, if_pos c1]
        exact i2
    · have hs2 : f_X8_serve_l10 t (nI p) (nI due) (t + 2 + 3 * p) (nI v) μ = some (.inr μ) := by
        rw [hs]
        by_cases c3 : dd (T p) ≤ 0
        · rw [if_pos c3]
        · rw [if_neg c3, if_pos (fun z => c1 ⟨by omega, z⟩)]
      refine ⟨μ, ?_, ?_, fun _ _ _ _ => rfl⟩
      · rw [lp]
        show (f_X8_serve_l10 t (nI p) (nI due) (t + 2 + 3 * p) (nI v) μ).bind _ = _
        rw [hs2, bd_s]
      · rw [srvL, if_neg c1, up_id]; exact H
/-- the week of a fact in a book -/
def twf (bk wk : Nat → Nat) : Nat → Nat → Nat
  | 0, _ => 0
  | s + 1, f => if bk s = f then wk s else twf bk wk s f
theorem twf_at {bk wk : Nat → Nat} : ∀ s, (∀ i j, i < s → j < s → bk i = bk j → i = j) → ∀ i, i < s → twf bk wk s (bk i) = wk i := by
  intro s
  induction s with
  | zero => intro _ i hi; omega
  | succ s ih =>
    intro h i hi
    rw [twf]
    by_cases e : bk s = bk i
    · rw [if_pos e, h s i (by omega) hi e]
    · rw [if_neg e]
      have : i ≠ s := fun z => e (by rw [z])
      exact ih (fun i j a b => h i j (by omega) (by omega)) i (by omega)
theorem ln_d {t : Nat} (h : t = 14 ∨ t = 69) {p : Nat} (hp : p < 4) : ln (t + 4 + 3 * p) = 8 := by
  have : p = 0 ∨ p = 1 ∨ p = 2 ∨ p = 3 := by omega
  rcases h with rfl | rfl <;> rcases this with rfl | rfl | rfl | rfl <;> decide
theorem e_odT {μ : Mem} {t p n N w : Nat} {nd cl wi wt : Nat → Nat} {bi : Nat → Int32} {T : Nat → Dt} (ht : t = 14 ∨ t = 69) (F : FX μ 2 n nd cl wi wt bi) (V : FW n nd cl wi wt bi) (hp : p < N) (H : TXt μ t N w T) (W : TWt n N w T) : f_X1_anyOverdue μ 2 (rd μ (t + 2 + 3 * p) 2) (t + 4 + 3 * p) (nI w) = some (b2 (odB wi bi (dbk (T p)) (dwk (T p)) (ds (T p)) w)) := by
  have p4 : p < 4 := Nat.lt_of_lt_of_le hp W.1
  obtain ⟨p1, p2, p3, p4', p5, p6, p7⟩ := H.2.2 p hp
  obtain ⟨d1, d2, d3, d4, d5, d6, d7⟩ := W.2.2 p hp
  have wl := W.2.1
  rw [p1]
  show f_X1_anyOverdue μ 2 (nI (dB (T p))) (t + 4 + 3 * p) (nI w) = _
  refine (e_odX (tw := twf (dbk (T p)) (dwk (T p)) (ds (T p))) F V (DWt_B V.1 (W.2.2 p hp)) (ln_d ht p4) (by omega) ?_).trans (congrArg (fun z => some (b2 z)) (od_eq (fun i hi => ⟨(d6 i hi).1, twf_at _ d7 i hi⟩)))
  intro f hf hb
  obtain ⟨i, hi, e⟩ := bks_tb.mp hb
  have := (p7 i hi).2
  rw [show t + 2 + 3 * p + 2 = t + 4 + 3 * p by omega] at this
  rw [← e, twf_at _ d7 i hi]
  exact ⟨this, by have := (d6 i hi).2; omega⟩
theorem e_serveX {μ : Mem} {t p n N w due : Nat} {nd cl wi wt : Nat → Nat} {bi : Nat → Int32} {gv : Nat → Nat → Nat → Nat} {T : Nat → Dt} (ht : t = 14 ∨ t = 69) (F : FX μ 2 n nd cl wi wt bi) (V : FW n nd cl wi wt bi) (hp : p < N) (hd : due ≤ 10) (L : LwX μ gv) (H : TXt μ t N w T) (W : TWt n N w T) : ∃ μ2, f_X8_serve μ t (nI p) (nI due) = some μ2 ∧ TXt μ2 t N w (up T p (srvD n nd cl wi bi gv (oth (fun q => dB (T q)) p N) w due (T p))) ∧ ∀ k' j, k' ≠ 10 → ¬ (t + 2 + 3 * p ≤ k' ∧ k' ≤ t + 4 + 3 * p) → rd μ2 k' j = rd μ k' j := by
  have p4 : p < 4 := Nat.lt_of_lt_of_le hp W.1
  obtain ⟨μ1, l1, l2, l3⟩ := srvX (w := w) (gv := gv) ht V hp due hd due 0 FU T μ (by omega) (by unfold FU; omega) F L H W
  have W1 := TW_up (p := p) W (DW_srvL (n := n) (w := w) (nd := nd) (cl := cl) (gv := gv) (O := oth (fun q => dB (T q)) p N) V.1 due (T p) (W.2.2 p hp))
  have O1 := e_odT ht (FX_cg (fun k j a b => l3 k j (by omega) (by omega)) F) V hp l2 W1
  rw [up_s] at O1
  have B1 := e_brkX ht W.1 hp l2
  rw [up_s, up_up] at B1
  unfold f_X8_serve f_X8_serve_j66
  rw [ib_nI p4 (by omega), if_pos rfl]
  simp only [rf_tw ht, tn_nI (show p < 2 ^ 31 by omega), rf_d ht p4]
  rw [show (0 : Int32) = nI 0 from rfl, l1, bd_s, l2.2.1, O1, bd_s]
  cases e : odB wi bi (dbk (srvL n nd cl gv (oth (fun q => dB (T q)) p N) w due (T p))) (dwk (srvL n nd cl gv (oth (fun q => dB (T q)) p N) w due (T p))) (ds (srvL n nd cl gv (oth (fun q => dB (T q)) p N) w due (T p))) w
  · refine ⟨μ1, by rw [if_pos (by decide)], ?_, l3⟩
    rw [srvD, endD, e, if_neg (by decide)]
    exact l2
  · refine ⟨_, by rw [if_neg (by decide), bd_s], ?_, fun k' j a b => by rw [rd_wr_n (by omega), l3 k' j a b]⟩
    rw [srvD, endD, e, if_pos rfl]
    exact B1
theorem e_dueX {μ : Mem} {c n w : Nat} {d : Dt} (h : DXt μ c d) (hw : DWt n w d) : f_X0_due μ c = some (nI (dueD d)) ∧ dueD d ≤ 2 := by
  obtain ⟨p1, p2, p3, p4, p5, p6, p7⟩ := h
  obtain ⟨d1, d2, d3, d4, d5, d6, d7⟩ := hw
  unfold f_X0_due dueD
  rw [p3, p4]
  have e2 : jrem (nI (dm d)) 2 = nI (dm d % 2) := j_rem (y := 2) (by omega) (by omega) (by omega)
  simp only [e2, nIq (show dk d < 2 ^ 31 by omega)]
  by_cases k3 : dk d = 3
  · rw [if_pos k3, if_pos k3]; exact ⟨rfl, by omega⟩
  · rw [if_neg k3, if_neg k3]
    by_cases k4 : dk d = 4
    · rw [if_pos k4, if_pos k4]; exact ⟨by rw [show (1 : Int32) = nI 1 from rfl, nI_add], by omega⟩
    · rw [if_neg k4, if_neg k4]
      by_cases k6 : dk d = 6
      · rw [if_neg (by omega), if_pos k6, if_pos k6]; exact ⟨by rw [show (2 : Int32) = nI 2 from rfl, pk_sub (by omega)], by omega⟩
      · rw [if_neg k6, if_neg k6]; exact ⟨by by_cases k5 : dk d = 5 <;> simp only [k5, if_true, if_false] <;> rfl, by omega⟩
theorem e_weekX {μ : Mem} {t n N w r0 r : Nat} {a1 : Int32} {nd cl wi wt : Nat → Nat} {bi : Nat → Int32} {gv : Nat → Nat → Nat → Nat} {T : Nat → Dt} (ht : t = 14 ∨ t = 69) (F : FX μ 2 n nd cl wi wt bi) (V : FW n nd cl wi wt bi) (hr : ∀ p, p < 4 → (nI p = a1 ↔ p = r0)) (hr4 : r ≤ 4) (L : LwX μ gv) (H : TXt μ t N w T) (W : TWt n N w T) : ∃ μ2, f_X8_passWeek μ t a1 (nI r) = some μ2 ∧ TXt μ2 t N (w + 1) (wkT n nd cl wi bi gv N w r0 r N T) ∧ ∀ k' j, k' ≠ 10 → ¬ (k' = t ∧ j = 4 ∨ t + 2 ≤ k' ∧ k' < t + 2 + 3 * N) → rd μ2 k' j = rd μ k' j := by
  have N4 := W.1
  obtain ⟨μ1, l1, l2, l3⟩ : ∃ μ1, lp (fun s => f_X8_passWeek_l2 t a1 (nI r) s.1 s.2) FU ((0 : Int32), μ) = some μ1 ∧ TXt μ1 t N w (wkT n nd cl wi bi gv N w r0 r N T) ∧ ∀ k' j, k' ≠ 10 → ¬ (t + 2 ≤ k' ∧ k' < t + 2 + 3 * N) → rd μ1 k' j = rd μ k' j := by
    refine lp_I (fun j s => s.1 = nI j ∧ TXt s.2 t N w (wkT n nd cl wi bi gv N w r0 r j T) ∧ ∀ k' j, k' ≠ 10 → ¬ (t + 2 ≤ k' ∧ k' < t + 2 + 3 * N) → rd s.2 k' j = rd μ k' j) N _ (by omega) ⟨rfl, H, fun _ _ _ _ => rfl⟩ ?_ ?_
    · rintro j ⟨v, m⟩ hj ⟨e1, e2, e3⟩
      simp only at e1 e2 e3
      subst e1
      have j4 : j < 4 := by omega
      have R := rf_d ht j4
      have W1 := TW_wk (nd := nd) (cl := cl) (wi := wi) (bi := bi) (gv := gv) (r0 := r0) (r := r) V.1 W j (by omega)
      obtain ⟨p1, p2, p3, p4', p5, p6, p7⟩ := e2.2.2 j hj
      obtain ⟨d1, d2, d3, d4, d5, d6, d7⟩ := W1.2.2 j hj
      obtain ⟨u1, u2⟩ := e_dueX (e2.2.2 j hj) (W1.2.2 j hj)
      have F1 := FX_cg (fun k j a b => e3 k j (by omega) (by omega)) F
      have L1 := LwX_cg (fun j => e3 8 j (by omega) (by omega)) (fun j => e3 9 j (by omega) (by omega)) L
      rw [show wkT n nd cl wi bi gv N w r0 r (j + 1) T = (fun T' => if dr (T' j) = 0 ∧ 0 < dd (T' j) then up T' j (srvD n nd cl wi bi gv (oth (fun q => dB (T' q)) j N) w (if j = r0 then r else dueD (T' j)) (T' j)) else T') (wkT n nd cl wi bi gv N w r0 r j T) from rfl]
      revert e2 p1 p2 p3 p4' p5 p6 p7 d1 d2 d3 d4 d5 d6 d7 u1 u2 W1
      generalize wkT n nd cl wi bi gv N w r0 r j T = T'
      intro e2 W1 p1 p2 p3 p4' p5 p6 p7 d1 d2 d3 d4 d5 d6 d7 u1 u2
      have hs : f_X8_passWeek_l2 t a1 (nI r) (nI j) m = if ¬ dr (T' j) = 0 then some (.inl (nI j + 1, m)) else if dd (T' j) ≤ 0 then some (.inl (nI j + 1, m)) else (f_X8_serve m t (nI j) (nI (if j = r0 then r else dueD (T' j)))).bind fun μ54 => some (.inl (nI j + 1, μ54)) := by
        unfold f_X8_passWeek_l2 f_X8_passWeek_j54
        have e4 : (nI (dd (T' j)) ≤ 0) = (dd (T' j) ≤ 0) := propext (nI_leI (b := 0) (by omega) (by omega))
        rw [e2.1, if_neg (nI_ge hj (by omega)), ib_nI j4 (by omega), if_pos rfl, if_pos rfl, if_pos rfl]
        simp only [rf_tw ht, tn_nI (show j < 2 ^ 31 by omega), R.1]
        rw [p6, p5, u1, bd_s]
        simp only [e4, nIq (show dr (T' j) < 2 ^ 31 by omega)]
        by_cases q : j = r0
        · rw [if_neg (not_not_intro ((hr j j4).mpr q)), if_pos q]
        · rw [if_pos (fun z => q ((hr j j4).mp z)), if_neg q]
      by_cases c1 : dr (T' j) = 0 ∧ 0 < dd (T' j)
      · have hdue : (if j = r0 then r else dueD (T' j)) ≤ 10 := by split <;> omega
        obtain ⟨m1, x1, x2, x3⟩ := e_serveX ht F1 V hj hdue L1 e2 W1
        refine ⟨(nI (j + 1), m1), ?_, rfl, ?_, fun k' i a b => ?_⟩
        · show f_X8_passWeek_l2 t a1 (nI r) (nI j) m = _
          rw [hs, if_neg (not_not_intro c1.1), if_neg (by omega), x1, bd_s, nI_1]
        · simp only [if_pos c1]
          exact x2
        · simp only
          rw [x3 k' i a (by omega), e3 k' i a b]
      · refine ⟨(nI (j + 1), m), ?_, rfl, ?_, e3⟩
        · show f_X8_passWeek_l2 t a1 (nI r) (nI j) m = _
          rw [hs, nI_1]
          by_cases c2 : dr (T' j) = 0
          · rw [if_neg (not_not_intro c2), if_pos (by omega)]
          · rw [if_pos c2]
        · simp only [if_neg c1]
          exact e2
    · rintro ⟨v, m⟩ ⟨e1, e2, e3⟩
      simp only at e1 e2 e3
      subst e1
      refine ⟨m, ?_, e2, e3⟩
      show f_X8_passWeek_l2 t a1 (nI r) (nI N) m = _
      unfold f_X8_passWeek_l2
      rw [e2.1, if_pos (nI_le (Nat.le_refl _) (by omega))]
  unfold f_X8_passWeek
  rw [l1, bd_s, bd_s, l2.2.1, nI_1]
  refine ⟨_, rfl, ⟨?_, rd_wr_s _ _ _ _, fun q hq => ?_⟩, fun k' j a b => by rw [rd_wr_n (by omega), l3 k' j a (by omega)]⟩
  · rw [rd_wr_n (by omega)]; exact l2.1
  · exact DX_cg (fun k j a b => rd_wr_n (by omega)) (l2.2.2 q hq)
theorem m1_no : ∀ p, p < 4 → (nI p = -1 ↔ p = 9) := by
  intro p hp
  have : p = 0 ∨ p = 1 ∨ p = 2 ∨ p = 3 := by omega
  rcases this with rfl | rfl | rfl | rfl <;> decide
theorem e_weeksX {μ : Mem} {t n N w k : Nat} {nd cl wi wt : Nat → Nat} {bi : Nat → Int32} {gv : Nat → Nat → Nat → Nat} {T : Nat → Dt} (ht : t = 14 ∨ t = 69) (F : FX μ 2 n nd cl wi wt bi) (V : FW n nd cl wi wt bi) (hk : w + k ≤ 5000) (L : LwX μ gv) (H : TXt μ t N w T) (W : TWt n N w T) : ∃ μ2, f_X8_passWeeks μ t (nI k) = some μ2 ∧ TXt μ2 t N (w + k) (wksT n nd cl wi bi gv N w 9 0 k T) ∧ ∀ k' j, k' ≠ 10 → ¬ (k' = t ∧ j = 4 ∨ t + 2 ≤ k' ∧ k' < t + 2 + 3 * N) → rd μ2 k' j = rd μ k' j := by
  obtain ⟨μ1, l1, l2, l3⟩ : ∃ μ1, lp (fun s => f_X8_passWeeks_l2 t (nI k) s.1 s.2) FU ((0 : Int32), μ) = some μ1 ∧ TXt μ1 t N (w + k) (wksT n nd cl wi bi gv N w 9 0 k T) ∧ ∀ k' j, k' ≠ 10 → ¬ (k' = t ∧ j = 4 ∨ t + 2 ≤ k' ∧ k' < t + 2 + 3 * N) → rd μ1 k' j = rd μ k' j := by
    refine lp_I (fun j s => s.1 = nI j ∧ TXt s.2 t N (w + j) (wksT n nd cl wi bi gv N w 9 0 j T) ∧ ∀ k' j, k' ≠ 10 → ¬ (k' = t ∧ j = 4 ∨ t + 2 ≤ k' ∧ k' < t + 2 + 3 * N) → rd s.2 k' j = rd μ k' j) k _ (by omega) ⟨rfl, H, fun _ _ _ _ => rfl⟩ ?_ ?_
    · rintro j ⟨v, m⟩ hj ⟨e1, e2, e3⟩
      simp only at e1 e2 e3
      subst e1
      obtain ⟨m1, x1, x2, x3⟩ := e_weekX (r0 := 9) (r := 0) (a1 := -1) ht (FX_cg (fun k j a b => e3 k j (by omega) (by omega)) F) V m1_no (by omega) (LwX_cg (fun j => e3 8 j (by omega) (by omega)) (fun j => e3 9 j (by omega) (by omega)) L) e2 (TW_wks V.1 W j (by omega))
      refine ⟨(nI (j + 1), m1), ?_, rfl, ?_, fun k' i a b => ?_⟩
      · show f_X8_passWeeks_l2 t (nI k) (nI j) m = _
        unfold f_X8_passWeeks_l2
        rw [if_neg (nI_ge hj (by omega)), show (0 : Int32) = nI 0 from rfl, x1, bd_s, nI_1]
      · exact x2
      · simp only
        rw [x3 k' i a b, e3 k' i a b]
    · rintro ⟨v, m⟩ ⟨e1, e2, e3⟩
      simp only at e1 e2 e3
      subst e1
      refine ⟨m, ?_, e2, e3⟩
      show f_X8_passWeeks_l2 t (nI k) (nI k) m = _
      unfold f_X8_passWeeks_l2
      rw [if_pos (nI_le (Nat.le_refl _) (by omega))]
  unfold f_X8_passWeeks
  rw [l1, bd_s]
  exact ⟨μ1, rfl, l2, l3⟩
