/-! PURE: telling, serving, weeks: the model -/
def MF (μ μ2 : Mem) : Prop := ∀ k j, k ≠ 110 → ¬ (k = 105 ∧ 5 ≤ j ∧ j ≤ 10) → ¬ (k = 106 ∧ 50 ≤ j ∧ j < 134) → rd μ2 k j = rd μ k j
def LwM (μ : Mem) (gv : Nat → Nat → Nat → Nat) : Prop := (∀ f w d, gv f w d ≤ 999) ∧ ∀ μ' : Mem, (∀ j, j = 170 ∨ 192 ≤ j ∧ j < 242 → rd μ' 106 j = rd μ 106 j) → ∀ f w d, ∃ μ2, f_X12_textGives μ' 105 0 (nI f) (nI w) (nI d) = some (nI (gv f w d), μ2) ∧ ∀ k j, k ≠ 110 → ¬ (k = 105 ∧ 5 ≤ j ∧ j ≤ 10) → rd μ2 k j = rd μ' k j
theorem LwM_cg {μ μ' : Mem} {gv : Nat → Nat → Nat → Nat} (h : ∀ j, j = 170 ∨ 192 ≤ j ∧ j < 242 → rd μ' 106 j = rd μ 106 j) (L : LwM μ gv) : LwM μ' gv := ⟨L.1, fun m a => L.2 m (fun j hj => by rw [a j hj, h j hj])⟩
theorem e_seti {p i : Nat} (hp : p < 4) (hi : i < 8) (μ : Mem) (v : Int32) : f_X12_sets μ 105 (nI p) (5 + nI i) v = some (wr μ 106 (55 + 21 * p + i) v) ∧ f_X12_sets μ 105 (nI p) (13 + nI i) v = some (wr μ 106 (63 + 21 * p + i) v) := by
  constructor
  · rw [show (5 : Int32) + nI i = nI (5 + i) from nI_add 5 i, e_sets hp (by omega), show 50 + 21 * p + (5 + i) = 55 + 21 * p + i by omega]
  · rw [show (13 : Int32) + nI i = nI (13 + i) from nI_add 13 i, e_sets hp (by omega), show 50 + 21 * p + (13 + i) = 63 + 21 * p + i by omega]
/-- a row more in the book alone -/
def wrtD (w f : Nat) (d : Dt) : Dt := (dk d, dm d, dd d, dr d, ds d + 1, up (dbk d) (ds d) f, up (dwk d) (ds d) w)
theorem e_writesM {μ : Mem} {p N w f : Nat} {T : Nat → Dt} (hN : N ≤ 4) (hp : p < N) (hs : ∀ q, q < N → ds (T q) ≤ 8) (H : TMt μ 106 N w T) (s8 : ds (T p) < 8) : ∃ μ2, f_X12_writes μ 105 (nI p) (nI f) = some μ2 ∧ TMt μ2 106 N w (up T p (wrtD w f (T p))) ∧ ∀ k j, ¬ (k = 106 ∧ 50 + 21 * p ≤ j ∧ j < 71 + 21 * p) → rd μ2 k j = rd μ k j := by
  have p4 : p < 4 := by omega
  obtain ⟨r1, r2, r3, r4, r5, r6⟩ := H.2.2 p hp
  have hT : ∀ d, T p = d → ∃ μ2, f_X12_writes μ 105 (nI p) (nI f) = some μ2 ∧ TMt μ2 106 N w (up T p (wrtD w f d)) ∧ ∀ k j, ¬ (k = 106 ∧ 50 + 21 * p ≤ j ∧ j < 71 + 21 * p) → rd μ2 k j = rd μ k j := by
    intro d hd
    rw [hd] at r1 r2 r3 r4 r5 r6 s8
    refine ⟨wr (wr (wr μ 106 (55 + 21 * p + ds d) (nI f)) 106 (63 + 21 * p + ds d) (nI w)) 106 (54 + 21 * p) (nI (ds d + 1)), ?_, ?_, ?_⟩
    · unfold f_X12_writes
      simp only [rfs, cls]
      rw [(e_ofs p4 μ).2.2.2.2, bd_s, r5, (e_seti p4 s8 μ _).1, bd_s, (e_ofs p4 _).2.2.2.2, bd_s, rd_wr_n (by omega), rd_wr_n (by omega), r5, H.2.1, (e_seti p4 s8 _ _).2, bd_s, (e_ofs p4 _).2.2.2.2, bd_s, rd_wr_n (by omega), rd_wr_n (by omega), r5, nI_1, (e_setss p4 _ _).2.2.2.2, bd_s]
    · refine ⟨?_, ?_, fun q hq => ?_⟩
      · simp (discharger := omega) only [rd_wr_n]; exact H.1
      · simp (discharger := omega) only [rd_wr_n]; exact H.2.1
      · by_cases e : q = p
        · subst e
          rw [up_s]
          refine ⟨?_, ?_, ?_, ?_, ?_, fun i hi => ?_⟩
          · simp (discharger := omega) only [rd_wr_n]; exact r1
          · simp (discharger := omega) only [rd_wr_n]; exact r2
          · simp (discharger := omega) only [rd_wr_n]; exact r3
          · simp (discharger := omega) only [rd_wr_n]; exact r4
          · simp (discharger := omega) only [rd_wr_s]; rfl
          · have hi : i < ds d + 1 := hi
            show rd _ 106 (55 + 21 * q + i) = nI (up (dbk d) (ds d) f i) ∧ rd _ 106 (63 + 21 * q + i) = nI (up (dwk d) (ds d) w i)
            by_cases z : i = ds d
            · subst z
              simp only [up_s]
              simp (discharger := omega) only [rd_wr_n, rd_wr_s, and_self]
            · simp only [up_n z]
              simp (discharger := omega) only [rd_wr_n]
              exact r6 i (by omega)
        · rw [up_n e]
          refine DM_cg (hs q hq) (fun j a b => ?_) (H.2.2 q hq)
          simp (discharger := omega) only [rd_wr_n]
    · intro k j a
      simp (discharger := omega) only [rd_wr_n]
  exact hT _ rfl
theorem e_paysM {μ : Mem} {p N w f : Nat} {T : Nat → Dt} {gv : Nat → Nat → Nat → Nat} (hN : N ≤ 4) (hp : p < N) (L : LwM μ gv) (H : TMt μ 106 N w T) (hk : dk (T p) ≤ 6) : ∃ μ2, f_X12_paysOf μ 105 (nI p) (nI f) = some (nI (paid gv (dk (T p)) f w (dd (T p))), μ2) ∧ ∀ k j, k ≠ 110 → ¬ (k = 105 ∧ 5 ≤ j ∧ j ≤ 10) → rd μ2 k j = rd μ k j := by
  have p4 : p < 4 := by omega
  obtain ⟨r1, r2, r3, r4, r5, r6⟩ := H.2.2 p hp
  obtain ⟨μ1, g1, g2⟩ := L.2 μ (fun _ _ => rfl) f w (dd (T p))
  have gl := L.1 f w (dd (T p))
  refine ⟨μ1, ?_, g2⟩
  unfold f_X12_paysOf f_X12_paysOf_j51
  simp only [rfs, cls]
  rw [(e_ofs p4 μ).2.2.1, bd_s, r3, H.2.1, g1, bd_s, (e_ofs p4 μ1).1, bd_s, g2 _ _ (by omega) (by omega), r1]
  simp only [nIq (show dk (T p) < 2 ^ 31 by omega)]
  by_cases k5 : dk (T p) = 5
  · rw [if_neg (not_not_intro k5), show (2 : Int32) = nI 2 from rfl, pk_mul, paid, if_neg (by omega), if_pos k5, Nat.mul_comm]
  · rw [if_pos k5]
    by_cases k1 : dk (T p) = 1
    · rw [if_pos k1, show (2 : Int32) = nI 2 from rfl, pk_div (by omega) (by omega) (by omega), paid, if_pos (Or.inl k1)]
    · rw [if_neg k1]
      by_cases k4 : dk (T p) = 4
      · rw [if_neg (not_not_intro k4), show (2 : Int32) = nI 2 from rfl, pk_div (by omega) (by omega) (by omega), paid, if_pos (Or.inr k4)]
      · rw [if_pos k4, paid, if_neg (by omega), if_neg k5]
theorem TMt_cg {μ μ' : Mem} {N w : Nat} {T : Nat → Dt} (hN : N ≤ 4) (hs : ∀ q, q < N → ds (T q) ≤ 8) (h : ∀ j, j = 1 ∨ j = 3 ∨ 50 ≤ j ∧ j < 134 → rd μ' 106 j = rd μ 106 j) (H : TMt μ 106 N w T) : TMt μ' 106 N w T := ⟨by rw [h _ (by omega)]; exact H.1, by rw [h _ (by omega)]; exact H.2.1, fun p hp => DM_cg (hs p hp) (fun j a b => h j (by omega)) (H.2.2 p hp)⟩
/-- one cell of a debtor anew -/
theorem TMt_db {μ : Mem} {p N w x : Nat} {T : Nat → Dt} (hN : N ≤ 4) (hs : ∀ q, q < N → ds (T q) ≤ 8) (hp : p < N) (H : TMt μ 106 N w T) : TMt (wr μ 106 (52 + 21 * p) (nI x)) 106 N w (up T p (dk (T p), dm (T p), x, dr (T p), ds (T p), dbk (T p), dwk (T p))) := by
  refine ⟨by rw [rd_wr_n (by omega)]; exact H.1, by rw [rd_wr_n (by omega)]; exact H.2.1, fun q hq => ?_⟩
  by_cases e : q = p
  · subst e
    rw [up_s]
    have s8 := hs q hq
    obtain ⟨q1, q2, q3, q4, q5, q6⟩ := H.2.2 q hq
    refine ⟨?_, ?_, ?_, ?_, ?_, fun i hi => ?_⟩
    · rw [rd_wr_n (by omega)]; exact q1
    · rw [rd_wr_n (by omega)]; exact q2
    · rw [rd_wr_s]
    · rw [rd_wr_n (by omega)]; exact q4
    · rw [rd_wr_n (by omega)]; exact q5
    · rw [rd_wr_n (by omega), rd_wr_n (by omega)]; exact q6 i hi
  · rw [up_n e]
    exact DM_cg (hs q hq) (fun j a b => rd_wr_n (by omega)) (H.2.2 q hq)
theorem TMt_br {μ : Mem} {p N w x : Nat} {T : Nat → Dt} (hN : N ≤ 4) (hs : ∀ q, q < N → ds (T q) ≤ 8) (hp : p < N) (H : TMt μ 106 N w T) : TMt (wr μ 106 (53 + 21 * p) (nI x)) 106 N w (up T p (dk (T p), dm (T p), dd (T p), x, ds (T p), dbk (T p), dwk (T p))) := by
  refine ⟨by rw [rd_wr_n (by omega)]; exact H.1, by rw [rd_wr_n (by omega)]; exact H.2.1, fun q hq => ?_⟩
  by_cases e : q = p
  · subst e
    rw [up_s]
    have s8 := hs q hq
    obtain ⟨q1, q2, q3, q4, q5, q6⟩ := H.2.2 q hq
    refine ⟨?_, ?_, ?_, ?_, ?_, fun i hi => ?_⟩
    · rw [rd_wr_n (by omega)]; exact q1
    · rw [rd_wr_n (by omega)]; exact q2
    · rw [rd_wr_n (by omega)]; exact q3
    · rw [rd_wr_s]
    · rw [rd_wr_n (by omega)]; exact q5
    · rw [rd_wr_n (by omega), rd_wr_n (by omega)]; exact q6 i hi
  · rw [up_n e]
    exact DM_cg (hs q hq) (fun j a b => rd_wr_n (by omega)) (H.2.2 q hq)
theorem TW_s {n N w : Nat} {T : Nat → Dt} (W : TWt n N w T) : ∀ q, q < N → ds (T q) ≤ 8 := fun q hq => (W.2.2 q hq).2.2.2.2.1
theorem e_tellM {μ : Mem} {p n N w f : Nat} {T : Nat → Dt} {gv : Nat → Nat → Nat → Nat} (hn : n ≤ 8) (hp : p < N) (L : LwM μ gv) (H : TMt μ 106 N w T) (W : TWt n N w T) (hf : f < n) (hb : (dB (T p)).testBit f = false) : ∃ μ2, f_X12_tellsNow μ 105 (nI p) (nI f) = some μ2 ∧ TMt μ2 106 N w (up T p (tellD gv w f (T p))) ∧ ∀ k j, k ≠ 110 → ¬ (k = 105 ∧ 5 ≤ j ∧ j ≤ 10) → ¬ (k = 106 ∧ 50 + 21 * p ≤ j ∧ j < 71 + 21 * p) → rd μ2 k j = rd μ k j := by
  have N4 := W.1
  have p4 : p < 4 := by omega
  obtain ⟨wt, s8, nb⟩ := DW_tell (gv := gv) hn (W.2.2 p hp) hf hb
  obtain ⟨d1, d2, d3, d4, d5, d6, d7⟩ := W.2.2 p hp
  obtain ⟨μ1, a1, a2⟩ := e_paysM (f := f) N4 hp L H d1
  have H1 := TMt_cg (μ' := μ1) N4 (TW_s W) (fun j hj => a2 _ _ (by omega) (by omega)) H
  obtain ⟨μ2, b1, b2, b3⟩ := e_writesM (f := f) N4 hp (TW_s W) H1 s8
  have pl := paid_le L.1 (dk (T p)) f w (dd (T p))
  have hs2 : ∀ q, q < N → ds (up T p (wrtD w f (T p)) q) ≤ 8 := fun q hq => by
    by_cases e : q = p
    · rw [e, up_s]; show ds (T p) + 1 ≤ 8; omega
    · rw [up_n e]; exact TW_s W q hq
  have D := TMt_db (x := dd (T p) - paid gv (dk (T p)) f w (dd (T p))) N4 hs2 hp b2
  rw [up_s, up_up] at D
  have r3 := (b2.2.2 p hp).2.2.1
  rw [up_s] at r3
  refine ⟨wr μ2 106 (52 + 21 * p) (nI (dd (T p) - paid gv (dk (T p)) f w (dd (T p)))), ?_, D, fun k j x y z => by rw [rd_wr_n (by omega), b3 k j z, a2 k j x y]⟩
  unfold f_X12_tellsNow f_X12_tellsNow_j38
  rw [a1, bd_s, b1, bd_s, (e_ofs p4 μ2).2.2.1, bd_s, show rd μ2 106 (52 + 21 * p) = nI (dd (T p)) from r3]
  by_cases q : dd (T p) ≤ paid gv (dk (T p)) f w (dd (T p))
  · rw [if_pos (nI_le q (by omega)), (e_setss p4 μ2 _).2.2.1, bd_s, show dd (T p) - paid gv (dk (T p)) f w (dd (T p)) = 0 by omega]
    rfl
  · rw [if_neg (nI_ge (by omega) (by omega)), bd_s, pk_sub (by omega), (e_setss p4 μ2 _).2.2.1, bd_s]
theorem e_mayTM {μ : Mem} {p n N w f : Nat} {nd cl wi wt : Nat → Nat} {bi : Nat → Int32} {T : Nat → Dt} (F : FM μ 106 n nd cl wi wt bi) (V : FW n nd cl wi wt bi) (hp : p < N) (H : TMt μ 106 N w T) (W : TWt n N w T) (hf : f < n) : f_X12_mayTell μ 105 (nI p) (nI f) = some (b2 (mayD nd cl (oth (fun q => dB (T q)) p N) (T p) f)) := by
  obtain ⟨d1, d2, d3, d4, d5, d6, d7⟩ := W.2.2 p hp
  exact e_mayM F V W.1 (TM_T n H) (fun q hq => ⟨TW_s W q hq, fun i hi => Nat.lt_of_lt_of_le ((W.2.2 q hq).2.2.2.2.2.1 i hi).1 V.1⟩) hp d1 d2 hf (fun f _ => oth_tb N)
theorem e_fstM {μ : Mem} {p n N w : Nat} {nd cl wi wt : Nat → Nat} {bi : Nat → Int32} {T : Nat → Dt} (F : FM μ 106 n nd cl wi wt bi) (V : FW n nd cl wi wt bi) (hp : p < N) (H : TMt μ 106 N w T) (W : TWt n N w T) (a2 a3 : Int32) : lp (fun s => f_X12_serves_l34 μ 105 (nI p) a2 a3 s) FU (0 : Int32) = some (nI (fstE (mayD nd cl (oth (fun q => dB (T q)) p N) (T p)) n)) := by
  have n8 := V.1
  have := lp_alk (body := fun s => f_X12_serves_l34 μ 105 (nI p) a2 a3 s) (fun k => !mayD nd cl (oth (fun q => dB (T q)) p N) (T p) k) n 0 FU (by unfold FU; omega) ?_ ?_ ?_
  · exact this
  · intro i hi e
    simp only [Nat.zero_add, Bool.not_eq_true'] at e ⊢
    simp only [f_X12_serves_l34, rfs, cls]
    rw [F.1, if_neg (nI_ge hi (by omega)), e_mayTM F V hp H W hi, bd_s, e, if_neg (by decide), nI_1]
  · intro i hi e
    simp only [Nat.zero_add, Bool.not_eq_false'] at e ⊢
    simp only [f_X12_serves_l34, rfs, cls]
    rw [F.1, if_neg (nI_ge hi (by omega)), e_mayTM F V hp H W hi, bd_s, e, if_pos (by decide)]
  · simp only [Nat.zero_add]
    simp only [f_X12_serves_l34, rfs, cls]
    rw [F.1, if_pos (nI_le (Nat.le_refl _) (by omega))]
theorem FM_MF {μ μ2 : Mem} {n : Nat} {nd cl wi wt : Nat → Nat} {bi : Nat → Int32} (hn : n ≤ 8) (h : MF μ μ2) (F : FM μ 106 n nd cl wi wt bi) : FM μ2 106 n nd cl wi wt bi := FM_cg hn (fun j _ => h _ _ (by omega) (by omega) (by omega)) F
theorem LwM_MF {μ μ2 : Mem} {gv : Nat → Nat → Nat → Nat} (h : MF μ μ2) (L : LwM μ gv) : LwM μ2 gv := LwM_cg (fun j _ => h _ _ (by omega) (by omega) (by omega)) L
theorem srvM {p n N w : Nat} {nd cl wi wt : Nat → Nat} {bi : Nat → Int32} {gv : Nat → Nat → Nat → Nat} (V : FW n nd cl wi wt bi) (hp : p < N) (due : Nat) (hd : due ≤ 10) : ∀ (k v fu : Nat) (T : Nat → Dt) (μ : Mem), v + k = due → k < fu → FM μ 106 n nd cl wi wt bi → LwM μ gv → TMt μ 106 N w T → TWt n N w T → ∃ μ2, lp (fun s => f_X12_serves_l8 105 (nI p) (nI due) s.1 s.2) fu (nI v, μ) = some μ2 ∧ TMt μ2 106 N w (up T p (srvL n nd cl gv (oth (fun q => dB (T q)) p N) w k (T p))) ∧ MF μ μ2 := by
  intro k
  induction k with
  | zero =>
    intro v fu T μ hv hfu F L H W
    obtain ⟨fu', rfl⟩ : ∃ fu', fu = fu' + 1 := ⟨fu - 1, by omega⟩
    refine ⟨μ, ?_, ?_, fun _ _ _ _ _ => rfl⟩
    · simp only [lp, f_X12_serves_l8]
      rw [if_pos (nI_le (by omega) (by omega))]
      rfl
    · rw [srvL, up_id]; exact H
  | succ k ih =>
    intro v fu T μ hv hfu F L H W
    obtain ⟨fu', rfl⟩ : ∃ fu', fu = fu' + 1 := ⟨fu - 1, by omega⟩
    have N4 := W.1
    have p4 : p < 4 := Nat.lt_of_lt_of_le hp W.1
    obtain ⟨r1, r2, r3, r4, r5, r6⟩ := H.2.2 p hp
    obtain ⟨d1, d2, d3, d4, d5, d6, d7⟩ := W.2.2 p hp
    have hs : f_X12_serves_l8 105 (nI p) (nI due) (nI v) μ = if dd (T p) ≤ 0 then some (.inr μ) else if ¬ dr (T p) = 0 then some (.inr μ) else f_X12_serves_j61 μ 105 (nI p) (nI due) (nI v) (nI (fstE (mayD nd cl (oth (fun q => dB (T q)) p N) (T p)) n)) := by
      unfold f_X12_serves_l8
      rw [if_neg (nI_ge (by omega) (by omega)), (e_ofs p4 μ).2.2.1, bd_s, (e_ofs p4 μ).2.2.2.1, bd_s, r3, r4, e_fstM F V hp H W, bd_s]
      have e1 : (nI (dd (T p)) ≤ 0) = (dd (T p) ≤ 0) := propext (nI_leI (b := 0) (by omega) (by omega))
      simp only [e1, nIq (show dr (T p) < 2 ^ 31 by omega)]
    by_cases c1 : 0 < dd (T p) ∧ dr (T p) = 0
    · rw [if_neg (by omega), if_neg (not_not_intro c1.2)] at hs
      have nxt : ∃ μ1, f_X12_serves_l8 105 (nI p) (nI due) (nI v) μ = some (.inl (nI v + 1, μ1)) ∧ TMt μ1 106 N w (up T p (stepD n nd cl gv (oth (fun q => dB (T q)) p N) w (T p))) ∧ MF μ μ1 := by
        have n8 := V.1
        have fl := (fstE_spec (mayD nd cl (oth (fun q => dB (T q)) p N) (T p)) n).2.1
        by_cases c2 : fstE (mayD nd cl (oth (fun q => dB (T q)) p N) (T p)) n < n
        · obtain ⟨μ1, w1, w2, w3⟩ := e_tellM V.1 hp L H W c2 (may_nb ((fstE_spec _ n).2.2 c2))
          refine ⟨μ1, ?_, by rw [stepD, if_pos c2]; exact w2, fun k j x y z => w3 k j x y (by omega)⟩
          rw [hs]
          unfold f_X12_serves_j61
          simp only [rfs, cls]
          rw [F.1, if_neg (nI_ge c2 (by omega)), w1, bd_s]
        · refine ⟨wr μ 106 (53 + 21 * p) 1, ?_, by rw [stepD, if_neg c2]; exact TMt_br (x := 1) N4 (TW_s W) hp H, fun k j x y z => rd_wr_n (by omega)⟩
          rw [hs]
          unfold f_X12_serves_j61
          simp only [rfs, cls]
          rw [F.1, if_pos (nI_le (by omega) (by omega)), (e_setss p4 μ _).2.2.2.1, bd_s]
      obtain ⟨μ1, n1, n2, n3⟩ := nxt
      obtain ⟨μ2, i1, i2, i3⟩ := ih (v + 1) fu' (up T p (stepD n nd cl gv (oth (fun q => dB (T q)) p N) w (T p))) μ1 (by omega) (by omega) (FM_MF V.1 n3 F) (LwM_MF n3 L) n2 (TW_up W (DW_step V.1 (W.2.2 p hp)))
      refine ⟨μ2, ?_, ?_, fun k j x y z => by rw [i3 k j x y z, n3 k j x y z]⟩
      · rw [lp]
        show (f_X12_serves_l8 105 (nI p) (nI due) (nI v) μ).bind _ = _
        rw [n1, bd_s, nI_1]
        exact i1
      · rw [up_up, up_s, oth_up] at i2
        rw [srvL, if_pos c1]
        exact i2
    · have hs2 : f_X12_serves_l8 105 (nI p) (nI due) (nI v) μ = some (.inr μ) := by
        rw [hs]
        by_cases c3 : dd (T p) ≤ 0
        · rw [if_pos c3]
        · rw [if_neg c3, if_pos (fun z => c1 ⟨by omega, z⟩)]
      refine ⟨μ, ?_, ?_, fun _ _ _ _ _ => rfl⟩
      · rw [lp]
        show (f_X12_serves_l8 105 (nI p) (nI due) (nI v) μ).bind _ = _
        rw [hs2, bd_s]
      · rw [srvL, if_neg c1, up_id]; exact H
theorem e_odTM {μ : Mem} {p n N w : Nat} {nd cl wi wt : Nat → Nat} {bi : Nat → Int32} {T : Nat → Dt} (F : FM μ 106 n nd cl wi wt bi) (V : FW n nd cl wi wt bi) (hp : p < N) (H : TMt μ 106 N w T) (W : TWt n N w T) : f_X12_isOverdue μ 105 (nI p) = some (b2 (odB wi bi (dbk (T p)) (dwk (T p)) (ds (T p)) w)) := by
  have wl := W.2.1
  exact e_odM F V W.1 (TM_T n H) (by omega) hp (TW_s W p hp) (fun i hi => ⟨((W.2.2 p hp).2.2.2.2.2.1 i hi).1, by have := ((W.2.2 p hp).2.2.2.2.2.1 i hi).2; omega⟩)
theorem e_serveM {μ : Mem} {p n N w due : Nat} {nd cl wi wt : Nat → Nat} {bi : Nat → Int32} {gv : Nat → Nat → Nat → Nat} {T : Nat → Dt} (F : FM μ 106 n nd cl wi wt bi) (V : FW n nd cl wi wt bi) (hp : p < N) (hd : due ≤ 10) (hdue : f_X12_dueOf μ 105 (nI p) = some (nI due)) (L : LwM μ gv) (H : TMt μ 106 N w T) (W : TWt n N w T) : ∃ μ2, f_X12_serves μ 105 (nI p) = some μ2 ∧ TMt μ2 106 N w (up T p (srvD n nd cl wi bi gv (oth (fun q => dB (T q)) p N) w due (T p))) ∧ MF μ μ2 := by
  have N4 := W.1
  have p4 : p < 4 := Nat.lt_of_lt_of_le hp W.1
  obtain ⟨μ1, l1, l2, l3⟩ := srvM (w := w) (gv := gv) V hp due hd due 0 FU T μ (by omega) (by unfold FU; omega) F L H W
  have W1 := TW_up (p := p) W (DW_srvL (n := n) (w := w) (nd := nd) (cl := cl) (gv := gv) (O := oth (fun q => dB (T q)) p N) V.1 due (T p) (W.2.2 p hp))
  have O1 := e_odTM (FM_MF V.1 l3 F) V hp l2 W1
  rw [up_s] at O1
  have B1 := TMt_br (x := 1) N4 (TW_s W1) hp l2
  rw [up_s, up_up] at B1
  unfold f_X12_serves f_X12_serves_j95
  rw [hdue, bd_s, show (0 : Int32) = nI 0 from rfl, l1, bd_s, O1, bd_s]
  cases e : odB wi bi (dbk (srvL n nd cl gv (oth (fun q => dB (T q)) p N) w due (T p))) (dwk (srvL n nd cl gv (oth (fun q => dB (T q)) p N) w due (T p))) (ds (srvL n nd cl gv (oth (fun q => dB (T q)) p N) w due (T p))) w
  · refine ⟨μ1, by rw [if_pos (by decide)], ?_, l3⟩
    rw [srvD, endD, e, if_neg (by decide)]
    exact l2
  · refine ⟨wr μ1 106 (53 + 21 * p) 1, by rw [if_neg (by decide), (e_setss p4 μ1 _).2.2.2.1, bd_s], ?_, fun k j x y z => by rw [rd_wr_n (by omega), l3 k j x y z]⟩
    rw [srvD, endD, e, if_pos rfl]
    exact B1
theorem e_dueM {μ : Mem} {p n N w r0 r : Nat} {a1 : Int32} {T : Nat → Dt} (hp : p < N) (H : TMt μ 106 N w T) (W : TWt n N w T) (h12 : rd μ 105 12 = a1) (hr : nI p = a1 ↔ p = r0) (h13 : p = r0 → rd μ 105 13 = nI r) : f_X12_dueOf μ 105 (nI p) = some (nI (if p = r0 then r else dueD (T p))) := by
  have p4 : p < 4 := Nat.lt_of_lt_of_le hp W.1
  obtain ⟨r1, r2, r3, r4, r5, r6⟩ := H.2.2 p hp
  obtain ⟨d1, d2, d3, d4, d5, d6, d7⟩ := W.2.2 p hp
  unfold f_X12_dueOf dueD
  rw [h12]
  by_cases q : p = r0
  · rw [if_neg (not_not_intro (hr.mpr q)), if_pos q, h13 q]
  · rw [if_pos (fun z => q (hr.mp z)), if_neg q, (e_ofs p4 μ).2.1, bd_s, (e_ofs p4 μ).1, bd_s, r1, r2]
    have e2 : jrem (nI (dm (T p))) 2 = nI (dm (T p) % 2) := j_rem (y := 2) (by omega) (by omega) (by omega)
    simp only [e2, nIq (show dk (T p) < 2 ^ 31 by omega)]
    by_cases k3 : dk (T p) = 3
    · rw [if_neg (not_not_intro k3), if_pos k3]; rfl
    · rw [if_pos k3, if_neg k3]
      by_cases k4 : dk (T p) = 4
      · rw [if_pos (by omega), if_neg (not_not_intro k4), if_pos k4, show (1 : Int32) = nI 1 from rfl, nI_add]
      · by_cases k6 : dk (T p) = 6
        · rw [if_neg (not_not_intro k6), if_neg k4, if_pos k6, show (2 : Int32) = nI 2 from rfl, pk_sub (by omega)]
        · rw [if_pos k6, if_pos k4, if_neg k4, if_neg k6]; rfl
theorem e_weekM {μ : Mem} {n N w r0 r : Nat} {a1 : Int32} {nd cl wi wt : Nat → Nat} {bi : Nat → Int32} {gv : Nat → Nat → Nat → Nat} {T : Nat → Dt} (F : FM μ 106 n nd cl wi wt bi) (V : FW n nd cl wi wt bi) (h12 : rd μ 105 12 = a1) (hr : ∀ p, p < 4 → (nI p = a1 ↔ p = r0)) (h13 : r0 < 4 → rd μ 105 13 = nI r) (hr4 : r ≤ 4) (L : LwM μ gv) (H : TMt μ 106 N w T) (W : TWt n N w T) : ∃ μ2, f_X12_aWeek μ 105 = some μ2 ∧ TMt μ2 106 N (w + 1) (wkT n nd cl wi bi gv N w r0 r N T) ∧ ∀ k j, k ≠ 110 → ¬ (k = 105 ∧ 5 ≤ j ∧ j ≤ 10) → ¬ (k = 106 ∧ (j = 3 ∨ 50 ≤ j ∧ j < 134)) → rd μ2 k j = rd μ k j := by
  have N4 := W.1
  obtain ⟨μ1, l1, l2, l3⟩ : ∃ μ1, lp (fun s => f_X12_aWeek_l2 105 s.1 s.2) FU ((0 : Int32), μ) = some μ1 ∧ TMt μ1 106 N w (wkT n nd cl wi bi gv N w r0 r N T) ∧ MF μ μ1 := by
    refine lp_I (fun j s => s.1 = nI j ∧ TMt s.2 106 N w (wkT n nd cl wi bi gv N w r0 r j T) ∧ MF μ s.2) N _ (by omega) ⟨rfl, H, fun _ _ _ _ _ => rfl⟩ ?_ ?_
    · rintro j ⟨v, m⟩ hj ⟨e1, e2, e3⟩
      simp only at e1 e2 e3
      subst e1
      have j4 : j < 4 := by omega
      have W1 := TW_wk (nd := nd) (cl := cl) (wi := wi) (bi := bi) (gv := gv) (r0 := r0) (r := r) V.1 W j (by omega)
      have F1 := FM_MF V.1 e3 F
      have L1 := LwM_MF e3 L
      rw [show wkT n nd cl wi bi gv N w r0 r (j + 1) T = (fun T' => if dr (T' j) = 0 ∧ 0 < dd (T' j) then up T' j (srvD n nd cl wi bi gv (oth (fun q => dB (T' q)) j N) w (if j = r0 then r else dueD (T' j)) (T' j)) else T') (wkT n nd cl wi bi gv N w r0 r j T) from rfl]
      revert e2 W1
      generalize wkT n nd cl wi bi gv N w r0 r j T = T'
      intro e2 W1
      obtain ⟨q1, q2, q3, q4, q5, q6⟩ := e2.2.2 j hj
      obtain ⟨d1, d2, d3, d4, d5, d6, d7⟩ := W1.2.2 j hj
      have D := e_dueM (r := r) hj e2 W1 ((e3 105 12 (by omega) (by omega) (by omega)).trans h12) (hr j j4) (fun z => by rw [e3 105 13 (by omega) (by omega) (by omega)]; exact h13 (by omega))
      have hs : f_X12_aWeek_l2 105 (nI j) m = if ¬ dr (T' j) = 0 then some (.inl (nI j + 1, m)) else if dd (T' j) ≤ 0 then some (.inl (nI j + 1, m)) else (f_X12_serves m 105 (nI j)).bind fun μ54 => some (.inl (nI j + 1, μ54)) := by
        unfold f_X12_aWeek_l2
        have e4 : (nI (dd (T' j)) ≤ 0) = (dd (T' j) ≤ 0) := propext (nI_leI (b := 0) (by omega) (by omega))
        simp only [rfs, cls]
        rw [e2.1, if_neg (nI_ge hj (by omega)), (e_ofs j4 m).2.2.2.1, bd_s, (e_ofs j4 m).2.2.1, bd_s, q3, q4]
        simp only [e4, nIq (show dr (T' j) < 2 ^ 31 by omega)]
      by_cases c1 : dr (T' j) = 0 ∧ 0 < dd (T' j)
      · have hdue : (if j = r0 then r else dueD (T' j)) ≤ 10 := by
          split
          · omega
          · unfold dueD
            split
            · omega
            · split
              · omega
              · split <;> omega
        obtain ⟨m1, x1, x2, x3⟩ := e_serveM F1 V hj hdue D L1 e2 W1
        refine ⟨(nI (j + 1), m1), ?_, rfl, ?_, fun k i x y z => ?_⟩
        · show f_X12_aWeek_l2 105 (nI j) m = _
          rw [hs, if_neg (not_not_intro c1.1), if_neg (by omega), x1, bd_s, nI_1]
        · simp only [if_pos c1]
          exact x2
        · simp only
          rw [x3 k i x y z, e3 k i x y z]
      · refine ⟨(nI (j + 1), m), ?_, rfl, ?_, e3⟩
        · show f_X12_aWeek_l2 105 (nI j) m = _
          rw [hs, nI_1]
          by_cases c2 : dr (T' j) = 0
          · rw [if_neg (not_not_intro c2), if_pos (by omega)]
          · rw [if_pos c2]
        · simp only [if_neg c1]
          exact e2
    · rintro ⟨v, m⟩ ⟨e1, e2, e3⟩
      simp only at e1 e2 e3
      subst e1
      refine ⟨m, ?_, e2, e3⟩
      show f_X12_aWeek_l2 105 (nI N) m = _
      unfold f_X12_aWeek_l2
      simp only [rfs, cls]
      rw [e2.1, if_pos (nI_le (Nat.le_refl _) (by omega))]
  unfold f_X12_aWeek
  simp only [rfs, cls]
  rw [l1, bd_s, bd_s, l2.2.1, nI_1]
  refine ⟨_, rfl, ⟨?_, rd_wr_s _ _ _ _, fun q hq => ?_⟩, fun k j x y z => by rw [rd_wr_n (by omega), l3 k j x y (by omega)]⟩
  · rw [rd_wr_n (by omega)]; exact l2.1
  · exact DM_cg (TW_s (TW_wk (nd := nd) (cl := cl) (wi := wi) (bi := bi) (gv := gv) (r0 := r0) (r := r) V.1 W N (Nat.le_refl _)) q hq) (fun j a b => rd_wr_n (by omega)) (l2.2.2 q hq)
