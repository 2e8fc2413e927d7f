/-! PURE: the model's search, its steps -/
theorem e_pop {μ : Mem} {p N w x f : Nat} {T : Nat → Dt} {D : Dt} (hN : N ≤ 4) (hp : p < N) (hs : ∀ q, q < N → ds (T q) ≤ 8) (s8 : ds D < 8) (H : TMt μ 106 N w (up T p (wrtD x f D))) : ∃ r, f_X12_of μ 105 (nI p) 4 = some r ∧ f_X12_sets μ 105 (nI p) 4 (r - 1) = some (wr μ 106 (54 + 21 * p) (nI (ds D))) ∧ TMt (wr μ 106 (54 + 21 * p) (nI (ds D))) 106 N w (up T p D) := by
  have p4 : p < 4 := by omega
  have hTp : up T p (wrtD x f D) p = wrtD x f D := up_s _ _ _
  have h0 := H.2.2 p hp
  rw [hTp] at h0
  obtain ⟨r1, r2, r3, r4, r5, r6⟩ := h0
  have e : nI (ds D + 1) - 1 = nI (ds D) := by rw [← nI_1]; exact Int32.add_sub_cancel _ _
  have r5' : rd μ 106 (54 + 21 * p) = nI (ds D + 1) := r5
  refine ⟨nI (ds D + 1), by rw [(e_ofs p4 μ).2.2.2.2, r5'], by rw [e, (e_setss p4 μ _).2.2.2.2], ?_, ?_, fun q hq => ?_⟩
  · rw [rd_wr_n (by omega)]; exact H.1
  · rw [rd_wr_n (by omega)]; exact H.2.1
  · by_cases z : q = p
    · subst z
      rw [up_s]
      refine ⟨?_, ?_, ?_, ?_, ?_, fun i hi => ?_⟩
      · rw [rd_wr_n (by omega)]; exact r1
      · rw [rd_wr_n (by omega)]; exact r2
      · rw [rd_wr_n (by omega)]; exact r3
      · rw [rd_wr_n (by omega)]; exact r4
      · rw [rd_wr_s]
      · rw [rd_wr_n (by omega), rd_wr_n (by omega)]
        have := r6 i (show i < ds D + 1 by omega)
        have e1 : dbk (wrtD x f D) i = dbk D i := up_n (by omega)
        have e2 : dwk (wrtD x f D) i = dwk D i := up_n (by omega)
        rw [e1, e2] at this
        exact this
    · have := H.2.2 q hq
      rw [up_n z] at this ⊢
      exact DM_cg (hs q hq) (fun j a b => rd_wr_n (by omega)) this
/-- the debtor of a row so far -/
def TI (n s kd m w : Nat) (D : Dt) (ν : Nd) : Prop := dk D = kd ∧ dm D = m ∧ ds D = s + ν.1 ∧ dB D = ν.2.1 ∧ (∀ i, i < ds D → ν.2.2.1 (dbk D i) = dwk D i) ∧ DWt n (w + ν.1) D
theorem wrt_tell {w f : Nat} {d : Dt} : wrtD w f d = tellD (fun _ _ _ => 0) w f d := by
  have : paid (fun _ _ _ => 0) (dk d) f w (dd d) = 0 := by unfold paid; split; exact Nat.zero_div 2; split; exact Nat.zero_mul 2; rfl
  unfold tellD wrtD
  rw [this]
  rfl
theorem TI_chd {n s kd m w f : Nat} {D : Dt} {ν : Nd} (n8 : n ≤ 8) (h : TI n s kd m w D ν) (hf : f < n) (hb : ν.2.1.testBit f = false) : TI n s kd m w (wrtD (w + ν.1) f D) (chd w ν f) ∧ DWt n (w + ν.1) (wrtD (w + ν.1) f D) ∧ ds D < 8 := by
  obtain ⟨a1, a2, a3, a4, a5, a6⟩ := h
  obtain ⟨d1, d2, d3⟩ := DW_tell (gv := fun _ _ _ => 0) n8 a6 hf (by rw [a4]; exact hb)
  rw [← wrt_tell] at d1
  have bkn : ∀ i, i < ds D → dbk (wrtD (w + ν.1) f D) i = dbk D i := fun i hi => up_n (by omega)
  have bks' : dB (wrtD (w + ν.1) f D) = ν.2.1 ||| 2 ^ f := by
    show bks (up (dbk D) (ds D) f) (ds D + 1) = _
    rw [bks, up_s, bks_cg (bk' := dbk D) (ds D) (fun i hi => up_n (by omega)), ← a4]
    rfl
  refine ⟨⟨a1, a2, ?_, bks', fun i hi => ?_, ?_⟩, d1, d2⟩
  · show ds D + 1 = s + (ν.1 + 1)
    omega
  · have hi : i < ds D + 1 := hi
    show up ν.2.2.1 f (w + ν.1) (up (dbk D) (ds D) f i) = up (dwk D) (ds D) (w + ν.1) i
    by_cases z : i = ds D
    · rw [z, up_s, up_s, up_s]
    · rw [up_n z, up_n z, up_n (d3 i (by omega))]
      exact a5 i (by omega)
  · exact DW_mono (Nat.le_refl _) (show w + ν.1 ≤ w + (ν.1 + 1) by omega) d1
theorem TW_upD {n N w w' p : Nat} {T : Nat → Dt} {D : Dt} (W : TWt n N w T) (hw : w ≤ w') (h5 : w' ≤ 5000) (hD : DWt n w' D) : TWt n N w' (up T p D) := TW_up ⟨W.1, h5, fun q hq => DW_mono (Nat.le_refl _) hw (W.2.2 q hq)⟩ hD
theorem oth_upD {T : Nat → Dt} {p N : Nat} {D : Dt} : oth (fun q => dB (up T p D q)) p N = oth (fun q => dB (T q)) p N := oth_cg N (fun q _ e => by rw [up_n e])
theorem e_takesD {μ : Mem} {n N w s kd m p f B0 r : Nat} {nd cl wi wt τ0 : Nat → Nat} {bi : Nat → Int32} {T : Nat → Dt} {D : Dt} {ν : Nd} (F : FM μ 106 n nd cl wi wt bi) (V : FW n nd cl wi wt bi) (W : TWt n N w T) (w9 : w ≤ 999) (hp : p < N) (hN : nOK n s w B0 τ0 ν r) (h : TI n s kd m w D ν) (H : TMt μ 106 N (w + ν.1) (up T p D)) (hf : f < n) : ∃ μ', f_X12_takes_ μ 105 (nI p) (nI f) = some (b2 (okN n w (fun B f => mtE nd cl kd m B (oth (fun q => dB (T q)) p N) f) (op0 wi bi) wi ν f), μ') ∧ TMt μ' 106 N (w + ν.1) (up T p (if okN n w (fun B f => mtE nd cl kd m B (oth (fun q => dB (T q)) p N) f) (op0 wi bi) wi ν f = true then wrtD (w + ν.1) f D else D)) ∧ ∀ k j, ¬ (k = 106 ∧ 50 + 21 * p ≤ j ∧ j < 71 + 21 * p) → rd μ' k j = rd μ k j := by
  have n8 := V.1
  have N4 := W.1
  have d8 : ν.1 ≤ 8 := by have := hN.1; omega
  have W1 := TW_upD (p := p) W (show w ≤ w + ν.1 by omega) (by omega) h.2.2.2.2.2
  have Tp : up T p D p = D := up_s _ _ _
  have may := e_mayTM F V hp H W1 hf
  rw [Tp, oth_upD] at may
  have me : mayD nd cl (oth (fun q => dB (T q)) p N) D f = mtE nd cl kd m ν.2.1 (oth (fun q => dB (T q)) p N) f := by
    unfold mayD
    rw [h.1, h.2.1, h.2.2.2.1]
  rw [me] at may
  unfold f_X12_takes_
  rw [may, bd_s]
  by_cases z : mtE nd cl kd m ν.2.1 (oth (fun q => dB (T q)) p N) f = true
  · have nb := mtE_nb z
    obtain ⟨c1, c2, c3⟩ := TI_chd n8 h hf nb
    obtain ⟨μ1, a1, a2, a3⟩ := e_writesM (f := f) N4 hp (TW_s W1) H (by rw [Tp]; exact c3)
    rw [Tp, up_up] at a2
    have W2 := TW_upD (p := p) W (show w ≤ w + ν.1 by omega) (by omega) c2
    have F1 := FM_cg n8 (fun j hj => a3 106 j (by omega)) F
    have od := e_odTM F1 V hp a2 W2
    rw [up_s] at od
    have oe : odB wi bi (dbk (wrtD (w + ν.1) f D)) (dwk (wrtD (w + ν.1) f D)) (ds (wrtD (w + ν.1) f D)) (w + ν.1) = odN n (op0 wi bi) wi (ν.2.1 ||| 2 ^ f) (up ν.2.2.1 f (w + ν.1)) (w + ν.1) := by
      rw [← od_eq (n := n) (tw := up ν.2.2.1 f (w + ν.1)) (fun i hi => ⟨(c2.2.2.2.2.2.1 i hi).1, c1.2.2.2.2.1 i hi⟩)]
      have e : bks (dbk (wrtD (w + ν.1) f D)) (ds (wrtD (w + ν.1) f D)) = ν.2.1 ||| 2 ^ f := c1.2.2.2.1
      rw [e]
      rfl
    rw [oe] at od
    have ok : okN n w (fun B f => mtE nd cl kd m B (oth (fun q => dB (T q)) p N) f) (op0 wi bi) wi ν f = !odN n (op0 wi bi) wi (ν.2.1 ||| 2 ^ f) (up ν.2.2.1 f (w + ν.1)) (w + ν.1) := by
      show (mtE nd cl kd m ν.2.1 (oth (fun q => dB (T q)) p N) f && _) = _
      rw [z, Bool.true_and]
    rw [z, if_pos (by decide), a1, bd_s, od, bd_s, ok]
    cases y : odN n (op0 wi bi) wi (ν.2.1 ||| 2 ^ f) (up ν.2.2.1 f (w + ν.1)) (w + ν.1)
    · rw [if_pos b2_f]
      refine ⟨μ1, rfl, ?_, a3⟩
      rw [if_pos (show (!false) = true from rfl)]
      exact a2
    · rw [if_neg (by decide)]
      obtain ⟨r, q1, q2, q3⟩ := e_pop N4 hp (TW_s W) c3 a2
      rw [q1, bd_s, q2, bd_s]
      refine ⟨_, rfl, ?_, fun k j hk => by rw [rd_wr_n (by omega), a3 k j hk]⟩
      rw [if_neg (show ¬ (!true) = true by decide)]
      exact q3
  · have z' := Bool.eq_false_iff.mpr z
    have ok : okN n w (fun B f => mtE nd cl kd m B (oth (fun q => dB (T q)) p N) f) (op0 wi bi) wi ν f = false := by
      show (mtE nd cl kd m ν.2.1 (oth (fun q => dB (T q)) p N) f && _) = _
      rw [z', Bool.false_and]
    rw [z', if_neg (not_not_intro b2_f), ok]
    exact ⟨μ, rfl, by rw [if_neg (show ¬ (false = true) by decide)]; exact H, fun _ _ _ => rfl⟩
/-- what was found, as the model keeps it -/
def Bm (μ : Mem) (β : Bt) : Prop := rd μ 105 17 = nI β.1 - 1 ∧ (∀ i, i + 1 < β.1 → rd μ 113 i = nI (β.2 i)) ∧ β.1 ≤ 9
theorem bts_nil {E : Nat → Bool} {n : Nat} (n8 : n ≤ 8) : bts E n = 0 ↔ sm (fun f => b2n (E f)) n = 0 := by
  rw [← pc_bts n8]
  constructor
  · intro h
    rw [h]
    decide
  · intro h
    rw [pc_bts n8] at h
    apply Nat.eq_of_testBit_eq
    intro f
    rw [bts_tb, Nat.zero_testBit]
    by_cases z : f < n
    · cases e : E f
      · exact Bool.and_false _
      · have := (sm_pos (F := fun f => b2n (E f)) n).mpr ⟨f, z, by rw [e]; decide⟩
        omega
    · rw [decide_eq_false z, Bool.false_and]
theorem e_looks {μ : Mem} {n N w s kd m p B0 r : Nat} {nd cl wi wt τ0 : Nat → Nat} {bi : Nat → Int32} {T : Nat → Dt} {D : Dt} {ν : Nd} {β : Bt} {c : Bool} (F : FM μ 106 n nd cl wi wt bi) (V : FW n nd cl wi wt bi) (W : TWt n N w T) (w9 : w ≤ 999) (hp : p < N) (hN : nOK n s w B0 τ0 ν r) (h : TI n s kd m w D ν) (H : TMt μ 106 N (w + ν.1) (up T p D)) (hβ : Bm μ β) (hr : ∀ i, i < ν.1 → rd μ 112 i = nI (ν.2.2.2 i)) : ∃ μ', f_X12_looksAt μ 105 (nI p) (nI ν.1) (b2 c) = some μ' ∧ Bm μ' (bup n (op0 wi bi) c β ν) ∧ ∀ k j, ¬ (k = 105 ∧ j = 17) → k ≠ 113 → rd μ' k j = rd μ k j := by
  have n8 := V.1
  have N4 := W.1
  have d8 : ν.1 ≤ 8 := by have := hN.1; omega
  have W1 := TW_upD (p := p) W (show w ≤ w + ν.1 by omega) (by omega) h.2.2.2.2.2
  have Tp : up T p D p = D := up_s _ _ _
  obtain ⟨b1, b2', b3⟩ := hβ
  have J0 : f_X12_looksAt_j48 μ 105 (nI p) (nI ν.1) (b2 c) 0 = some μ := by
    unfold f_X12_looksAt_j48
    rw [if_pos rfl]
  obtain ⟨μ1, J1, J2, J3⟩ : ∃ μ1, f_X12_looksAt_j48 μ 105 (nI p) (nI ν.1) (b2 c) 1 = some μ1 ∧ Bm μ1 (ν.1 + 1, ν.2.2.2) ∧ ∀ k j, ¬ (k = 105 ∧ j = 17) → k ≠ 113 → rd μ1 k j = rd μ k j := by
    obtain ⟨m1, l1, l2, l3⟩ : ∃ m1, lp (fun q => f_X12_looksAt_l63 105 (nI p) (nI ν.1) (b2 c) q.1 q.2) FU ((0 : Int32), wr μ 105 17 (nI ν.1)) = some m1 ∧ (∀ i, i < ν.1 → rd m1 113 i = nI (ν.2.2.2 i)) ∧ ∀ k j, k ≠ 113 → rd m1 k j = rd (wr μ 105 17 (nI ν.1)) k j := by
      refine lp_I (fun j q => q.1 = nI j ∧ (∀ i, i < j → rd q.2 113 i = nI (ν.2.2.2 i)) ∧ ∀ k j, k ≠ 113 → rd q.2 k j = rd (wr μ 105 17 (nI ν.1)) k j) ν.1 _ (by omega) ⟨rfl, fun i hi => absurd hi (Nat.not_lt_zero i), fun _ _ _ => rfl⟩ ?_ ?_
      · rintro j ⟨v, mm⟩ hj ⟨e1, e2, e3⟩
        simp only at e1 e2 e3
        subst e1
        have rj : rd mm 112 j = nI (ν.2.2.2 j) := by rw [e3 112 j (by omega), rd_wr_n (by omega)]; exact hr j hj
        refine ⟨(nI (j + 1), wr mm 113 j (nI (ν.2.2.2 j))), ?_, rfl, fun i hi => ?_, fun k i hk => ?_⟩
        · show f_X12_looksAt_l63 105 (nI p) (nI ν.1) (b2 c) (nI j) mm = _
          unfold f_X12_looksAt_l63
          simp only [rfs]
          rw [if_neg (nI_ge hj (by omega)), ib_nI (show j < 9 by omega) (by omega), if_pos rfl, if_pos rfl, bd_s, tn_nI (by omega), rj, nI_1]
        · simp only
          by_cases z : i = j
          · rw [z, rd_wr_s]
          · rw [rd_wr_n (fun q => z q.2)]; exact e2 i (by omega)
        · simp only
          rw [rd_wr_n (fun q => hk q.1), e3 k i hk]
      · rintro ⟨v, mm⟩ ⟨e1, e2, e3⟩
        simp only at e1 e2 e3
        subst e1
        refine ⟨mm, ?_, e2, e3⟩
        show f_X12_looksAt_l63 105 (nI p) (nI ν.1) (b2 c) (nI ν.1) mm = _
        unfold f_X12_looksAt_l63
        rw [if_pos (nI_le (Nat.le_refl _) (by omega))]
    refine ⟨m1, ?_, ⟨?_, fun i hi => l2 i ?_, ?_⟩, fun k j a b => ?_⟩
    · unfold f_X12_looksAt_j48
      rw [if_neg (show ¬ (1 : Int32) = 0 by decide), bd_s, l1, bd_s]
    · rw [l3 _ _ (by omega), rd_wr_s]
      show nI ν.1 = nI (ν.1 + 1) - 1
      rw [← nI_1]
      exact (Int32.add_sub_cancel _ _).symm
    · have hi : i + 1 < ν.1 + 1 := hi
      omega
    · show ν.1 + 1 ≤ 9
      omega
    · rw [l3 k j b, rd_wr_n a]
  have op := e_openTM F V hp H W1
  rw [Tp] at op
  have oe : sm (fun i => b2n (op0 wi bi (dB D) (dbk D i))) (ds D) = 0 ↔ opB n (op0 wi bi) ν.2.1 = true := by
    unfold opB
    rw [decide_eq_true_eq, bts_nil n8, ← h.2.2.2.1]
    have := sm_bk (bk := dbk D) (n := n) (op0 wi bi (dB D)) (ds D) (fun i hi => (h.2.2.2.2.2.2.2.2.2.2.1 i hi).1) h.2.2.2.2.2.2.2.2.2.2.2
    rw [← this]
    exact Iff.rfl
  have lt : sm (fun i => b2n (op0 wi bi (dB D) (dbk D i))) (ds D) ≤ 8 := sm_le8 h.2.2.2.2.2.2.2.2.2.1
  have fin : (f_X12_looksAt μ 105 (nI p) (nI ν.1) (b2 c)) = if bet n (op0 wi bi) c β ν.1 ν.2.1 = true then some μ1 else some μ := by
    unfold f_X12_looksAt f_X12_looksAt_j31 f_X12_looksAt_j27
    rw [op, bd_s, J0, J1, b1]
    unfold bet
    cases c
    · rw [if_pos b2_f, if_neg (show ¬ (false = true) by decide)]
      by_cases z : β.1 ≤ ν.1
      · rw [if_neg (fun q => by have := (pred_le (a := ν.1) (t := β.1) (by omega) (by omega)).mp q; omega), if_pos (decide_eq_true z)]
      · rw [if_pos ((pred_le (by omega) (by omega)).mpr (by omega)), if_neg (fun q => z (of_decide_eq_true q))]
    · rw [if_neg (show ¬ b2 true = 0 by decide), if_pos (show true = true from rfl)]
      by_cases o : opB n (op0 wi bi) ν.2.1 = true
      · rw [if_neg (not_not_intro (by rw [oe.mpr o]; rfl)), o, Bool.and_true]
        by_cases z : β.1 = 0
        · rw [if_pos ((pm_neg (by omega)).mpr z), if_pos (by rw [decide_eq_true z]; rfl)]
        · rw [if_neg (fun q => z ((pm_neg (by omega)).mp q)), decide_eq_false z, Bool.false_or]
          by_cases y : ν.1 + 1 < β.1
          · rw [if_neg (fun q => by have := (pm_le (t := β.1) (d := ν.1) (by omega) (by omega)).mp q; omega), if_pos (decide_eq_true y)]
          · rw [if_pos ((pm_le (by omega) (by omega)).mpr (by omega)), if_neg (fun q => y (of_decide_eq_true q))]
      · have ne : sm (fun i => b2n (op0 wi bi (dB D) (dbk D i))) (ds D) ≠ 0 := fun q => o (oe.mp q)
        rw [if_pos (nI_ne0 (by omega) (by omega)), Bool.eq_false_iff.mpr o, Bool.and_false, if_neg (by decide)]
  rw [fin]
  unfold bup
  by_cases z : bet n (op0 wi bi) c β ν.1 ν.2.1 = true
  · rw [if_pos z, if_pos z]
    exact ⟨μ1, rfl, J2, J3⟩
  · rw [if_neg z, if_neg z]
    exact ⟨μ, rfl, ⟨b1, b2', b3⟩, fun _ _ _ _ => rfl⟩
