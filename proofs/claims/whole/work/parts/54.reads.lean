/-! PURE: reads -/
def rdS (n : Nat) (nd cl : Nat → Nat) (gv : Nat → Nat → Nat → Nat) (N w : Nat) (fk : Nat → Nat) : Nat → Nat → (Nat → Dt) → Nat × (Nat → Dt)
  | 0, k, T => (k, T)
  | r + 1, k, T => if (0 < N ∧ dr (T 0) = 0) ∧ fk k < n ∧ mayD nd cl (oth (fun q => dB (T q)) 0 N) (T 0) (fk k) = true then rdS n nd cl gv N w fk r (k + 1) (up T 0 (tellD gv w (fk k) (T 0))) else (k, T)
theorem canX0 {μ : Mem} {n N w : Nat} {nd cl wi wt : Nat → Nat} {bi : Nat → Int32} {T : Nat → Dt} (F : FX μ 2 n nd cl wi wt bi) (V : FW n nd cl wi wt bi) (H : TXt μ 14 N w T) (W : TWt n N w T) {x : Int32} {fk : Nat} (h1 : fk < n → x = nI fk) (h2 : ¬ fk < n → ¬ ((0 : Int32) ≤ x ∧ x ≤ nI n - 1)) : f_X11_canTell μ 0 0 x = some (b2 (decide ((0 < N ∧ dr (T 0) = 0) ∧ fk < n ∧ mayD nd cl (oth (fun q => dB (T q)) 0 N) (T 0) fk = true))) := by
  have N4 := W.1
  have n8 := V.1
  have c1 : rd μ 14 3 = nI N := H.1
  have c2 : rd μ 2 5 = nI n := F.1
  by_cases z : 0 < N
  · by_cases y : fk < n
    · rw [h1 y, show (0 : Int32) = nI 0 from rfl, e_canX F V H W z y]
      congr 2
      refine bool_iff ?_
      rw [Bool.and_eq_true, decide_eq_true_eq, decide_eq_true_eq]
      exact ⟨fun q => ⟨⟨z, q.1⟩, y, q.2⟩, fun q => ⟨q.1.2, q.2.2⟩⟩
    · unfold f_X11_canTell
      have g0 : (0 : Int32) ≤ 0 ∧ (0 : Int32) ≤ nI N - 1 := (isF_iff (by omega)).mpr ⟨0, z, rfl⟩
      rw [e_isDebX c1, bd_s, if_pos g0, if_neg (by decide), e_isFactX c2, bd_s, if_neg (h2 y), if_pos rfl, decide_eq_false (fun q => y q.2.1)]
      rfl
  · unfold f_X11_canTell
    have ng : ¬ ((0 : Int32) ≤ 0 ∧ (0 : Int32) ≤ nI N - 1) := fun q => by
      obtain ⟨i, hi, he⟩ := (isF_iff (by omega)).mp q
      omega
    rw [e_isDebX c1, bd_s, if_neg ng, if_pos rfl, decide_eq_false (fun q => z q.1.1)]
    rfl
theorem rdX {n N w s sz : Nat} {nd cl wi wt : Nat → Nat} {bi : Nat → Int32} {gv : Nat → Nat → Nat → Nat} {fk : Nat → Nat} (hs : s < 4) (V : FW n nd cl wi wt bi) (hsz : sz ≤ 40) : ∀ (r k fu : Nat) (T : Nat → Dt) (μ : Mem), k + r = sz → r < fu → FX μ 2 n nd cl wi wt bi → LwX μ gv → TXt μ 14 N w T → TWt n N w T → rd μ (97 + 2 * s) 2 = nI sz → (∀ i, i < sz → (fk i < n → rd μ (98 + 2 * s) i = nI (fk i)) ∧ (¬ fk i < n → ¬ ((0 : Int32) ≤ rd μ (98 + 2 * s) i ∧ rd μ (98 + 2 * s) i ≤ nI n - 1))) → ∃ μ2, lp (fun q => f_X11_reads_l35 0 (nI s) (97 + 2 * s) q.1 q.2) fu (nI k, μ) = some (nI (rdS n nd cl gv N w fk r k T).1, μ2) ∧ TXt μ2 14 N w (rdS n nd cl gv N w fk r k T).2 ∧ TWt n N w (rdS n nd cl gv N w fk r k T).2 ∧ ∀ k' j, k' ≠ 10 → ¬ (16 ≤ k' ∧ k' < 16 + 3 * N) → rd μ2 k' j = rd μ k' j := by
  intro r
  induction r with
  | zero =>
    intro k fu T μ hk hfu F L H W e2 e3
    obtain ⟨fu', rfl⟩ : ∃ fu', fu = fu' + 1 := ⟨fu - 1, by omega⟩
    refine ⟨μ, ?_, H, W, fun _ _ _ _ => rfl⟩
    rw [lp]
    show (f_X11_reads_l35 0 (nI s) (97 + 2 * s) (nI k) μ).bind _ = _
    unfold f_X11_reads_l35
    rw [e2, if_pos (nI_le (by omega) (by omega)), bd_s]
    rfl
  | succ r ih =>
    intro k fu T μ hk hfu F L H W e2 e3
    obtain ⟨fu', rfl⟩ : ∃ fu', fu = fu' + 1 := ⟨fu - 1, by omega⟩
    have n8 := V.1
    have N4 := W.1
    have C := canX0 F V H W (e3 k (by omega)).1 (e3 k (by omega)).2
    have hst : f_X11_reads_l35 0 (nI s) (97 + 2 * s) (nI k) μ = if (0 < N ∧ dr (T 0) = 0) ∧ fk k < n ∧ mayD nd cl (oth (fun q => dB (T q)) 0 N) (T 0) (fk k) = true then (f_X8_write μ 14 0 (rd μ (98 + 2 * s) k)).bind fun μ71 => some (.inl (nI (k + 1), μ71)) else some (.inr (nI k, μ)) := by
      unfold f_X11_reads_l35
      rw [e2, if_neg (nI_ge (by omega) (by omega)), ib_nI (show k < 40 by omega) (by omega), if_pos rfl, if_pos rfl, tn_nI (by omega)]
      simp only [rfs, rf_sh hs]
      rw [C, bd_s, nI_1]
      by_cases c : (0 < N ∧ dr (T 0) = 0) ∧ fk k < n ∧ mayD nd cl (oth (fun q => dB (T q)) 0 N) (T 0) (fk k) = true
      · rw [decide_eq_true c, if_neg (by decide), if_pos c]
      · rw [decide_eq_false c, if_pos (by decide), if_neg c]
    by_cases c : (0 < N ∧ dr (T 0) = 0) ∧ fk k < n ∧ mayD nd cl (oth (fun q => dB (T q)) 0 N) (T 0) (fk k) = true
    · obtain ⟨μ1, a1, a2, a3⟩ := e_writeX (Or.inl rfl) n8 c.1.1 L H W c.2.1 (may_nb c.2.2)
      have a1 : f_X8_write μ 14 0 (nI (fk k)) = some μ1 := a1
      rw [if_pos c, (e3 k (by omega)).1 c.2.1, a1, bd_s] at hst
      have W1 := TW_up (p := 0) W (DW_tell (gv := gv) n8 (W.2.2 0 c.1.1) c.2.1 (may_nb c.2.2)).1
      have K : ∀ k' j, k' ≠ 10 → ¬ (16 ≤ k' ∧ k' < 16 + 3 * N) → rd μ1 k' j = rd μ k' j := fun k' j a b => a3 k' j a (by omega)
      obtain ⟨μ2, i1, i2, i3, i4⟩ := ih (k + 1) fu' _ μ1 (by omega) (by omega) (FX_cg (fun k j a b => K k j (by omega) (by omega)) F) (LwX_cg (fun j => K 8 j (by omega) (by omega)) (fun j => K 9 j (by omega) (by omega)) L) a2 W1 (by rw [K _ _ (by omega) (by omega)]; exact e2) (fun i hi => by rw [K _ _ (by omega) (by omega)]; exact e3 i hi)
      rw [rdS, if_pos c]
      refine ⟨μ2, ?_, i2, i3, fun k' j a b => by rw [i4 k' j a b, K k' j a b]⟩
      rw [lp]
      show (f_X11_reads_l35 0 (nI s) (97 + 2 * s) (nI k) μ).bind _ = _
      rw [hst, bd_s]
      exact i1
    · rw [if_neg c] at hst
      rw [rdS, if_neg c]
      refine ⟨μ, ?_, H, W, fun _ _ _ _ => rfl⟩
      rw [lp]
      show (f_X11_reads_l35 0 (nI s) (97 + 2 * s) (nI k) μ).bind _ = _
      rw [hst, bd_s]
theorem rdM {n N w s sz : Nat} {nd cl wi wt : Nat → Nat} {bi : Nat → Int32} {gv : Nat → Nat → Nat → Nat} {fk : Nat → Nat} (hs : s < 4) (V : FW n nd cl wi wt bi) (hsz : sz ≤ 40) : ∀ (r k fu : Nat) (T : Nat → Dt) (μ : Mem), k + r = sz → r + 1 < fu → (0 < N ∧ dr (T 0) = 0) → FM μ 106 n nd cl wi wt bi → LwM μ gv → TMt μ 106 N w T → TWt n N w T → rd μ 117 s = nI sz → (∀ i, i < sz → (fk i < n → rd μ 118 (40 * s + i) = nI (fk i)) ∧ (¬ fk i < n → ¬ ((0 : Int32) ≤ rd μ 118 (40 * s + i) ∧ rd μ 118 (40 * s + i) ≤ nI n - 1))) → ∃ μ2, lp (fun q => f_X12_reads_l53 105 (nI s) q.1 q.2.1 q.2.2) fu (nI k, 1, μ) = some (nI (rdS n nd cl gv N w fk r k T).1, μ2) ∧ TMt μ2 106 N w (rdS n nd cl gv N w fk r k T).2 ∧ MF μ μ2 := by
  intro r
  induction r with
  | zero =>
    intro k fu T μ hk hfu hT F L H W e2 e3
    obtain ⟨fu', rfl⟩ : ∃ fu', fu = fu' + 1 := ⟨fu - 1, by omega⟩
    refine ⟨μ, ?_, H, fun _ _ _ _ _ => rfl⟩
    rw [lp]
    show (f_X12_reads_l53 105 (nI s) (nI k) 1 μ).bind _ = _
    unfold f_X12_reads_l53
    simp only [rfs, ib_nI hs (show 4 < 2 ^ 31 by omega), if_true, tn_nI (show s < 2 ^ 31 by omega)]
    rw [e2, if_pos (nI_le (by omega) (by omega)), bd_s]
    rfl
  | succ r ih =>
    intro k fu T μ hk hfu hT F L H W e2 e3
    obtain ⟨fu', rfl⟩ : ∃ fu', fu = fu' + 1 := ⟨fu - 1, by omega⟩
    have n8 := V.1
    have N4 := W.1
    have k40 : (40 : Int32) * nI s + nI k = nI (40 * s + k) := by rw [show (40 : Int32) = nI 40 from rfl, pk_mul, nI_add]
    have hst : f_X12_reads_l53 105 (nI s) (nI k) 1 μ = if fk k < n ∧ mayD nd cl (oth (fun q => dB (T q)) 0 N) (T 0) (fk k) = true then (f_X12_tellsNow μ 105 0 (nI (fk k))).bind fun μ113 => some (.inl (nI (k + 1), 1, μ113)) else some (.inl (nI k, 0, μ)) := by
      unfold f_X12_reads_l53 f_X12_reads_j103 f_X12_reads_j104
      simp only [rfs, ib_nI hs (show 4 < 2 ^ 31 by omega), if_true, tn_nI (show s < 2 ^ 31 by omega), k40, ib_nI (show 40 * s + k < 160 by omega) (show 160 < 2 ^ 31 by omega), tn_nI (show 40 * s + k < 2 ^ 31 by omega)]
      rw [e2, if_neg (nI_ge (by omega) (by omega)), if_neg (show ¬ (1 : Int32) = 0 by decide), e_isFactM F.1, bd_s]
      obtain ⟨x1, x2⟩ := e3 k (by omega)
      by_cases y : fk k < n
      · have M := e_mayTM F V hT.1 H W y
        have M : f_X12_mayTell μ 105 0 (nI (fk k)) = _ := M
        rw [x1 y, if_pos ((isF_iff (by omega)).mpr ⟨fk k, y, rfl⟩), if_neg (show ¬ (1 : Int32) = 0 by decide), M, bd_s, nI_1]
        cases e : mayD nd cl (oth (fun q => dB (T q)) 0 N) (T 0) (fk k)
        · rw [if_pos b2_f, if_neg (fun q => by cases q.2)]
        · rw [if_neg (show ¬ b2 true = 0 by decide), if_neg (show ¬ (1 : Int32) = 0 by decide), if_pos ⟨y, rfl⟩]
      · rw [if_neg (x2 y), if_pos rfl, if_neg (fun q => y q.1)]
    by_cases c : fk k < n ∧ mayD nd cl (oth (fun q => dB (T q)) 0 N) (T 0) (fk k) = true
    · obtain ⟨μ1, a1, a2, a3⟩ := e_tellM n8 hT.1 L H W c.1 (may_nb c.2)
      have a1 : f_X12_tellsNow μ 105 0 (nI (fk k)) = some μ1 := a1
      rw [if_pos c, a1, bd_s] at hst
      have W1 := TW_up (p := 0) W (DW_tell (gv := gv) n8 (W.2.2 0 hT.1) c.1 (may_nb c.2)).1
      have K : MF μ μ1 := fun k' j a b z => a3 k' j a b (by omega)
      obtain ⟨μ2, i1, i2, i3⟩ := ih (k + 1) fu' (up T 0 (tellD gv w (fk k) (T 0))) μ1 (by omega) (by omega) ⟨hT.1, by rw [up_s]; exact hT.2⟩ (FM_MF n8 K F) (LwM_MF K L) a2 W1 (by rw [K _ _ (by omega) (by omega) (by omega)]; exact e2) (fun i hi => by rw [K _ _ (by omega) (by omega) (by omega)]; exact e3 i hi)
      rw [rdS, if_pos ⟨hT, c⟩]
      refine ⟨μ2, ?_, i2, fun k' j a b z => by rw [i3 k' j a b z, K k' j a b z]⟩
      rw [lp]
      show (f_X12_reads_l53 105 (nI s) (nI k) 1 μ).bind _ = _
      rw [hst, bd_s]
      exact i1
    · rw [if_neg c] at hst
      rw [rdS, if_neg (fun q => c q.2)]
      refine ⟨μ, ?_, H, fun _ _ _ _ _ => rfl⟩
      obtain ⟨fu2, rfl⟩ : ∃ fu2, fu' = fu2 + 1 := ⟨fu' - 1, by omega⟩
      rw [lp]
      show (f_X12_reads_l53 105 (nI s) (nI k) 1 μ).bind _ = _
      rw [hst, bd_s]
      simp only
      rw [lp]
      show (f_X12_reads_l53 105 (nI s) (nI k) 0 μ).bind _ = _
      unfold f_X12_reads_l53
      simp only [rfs, ib_nI hs (show 4 < 2 ^ 31 by omega), if_true, tn_nI (show s < 2 ^ 31 by omega)]
      rw [e2, if_neg (nI_ge (by omega) (by omega)), bd_s]
theorem rdS_no {n : Nat} {nd cl : Nat → Nat} {gv : Nat → Nat → Nat → Nat} {N w : Nat} {fk : Nat → Nat} {T : Nat → Dt} (h : ¬ (0 < N ∧ dr (T 0) = 0)) (r k : Nat) : rdS n nd cl gv N w fk r k T = (k, T) := by
  cases r with
  | zero => rfl
  | succ r => rw [rdS, if_neg (fun q => h q.1)]
theorem sh_reads : SH_reads Rel := by
  intro μ h a
  show OKS (f_X11_reads μ 0 a) (fun m => f_X12_reads m 105 a)
  obtain ⟨n, nd, cl, wi, wt, bi, N, w, T, gv, ⟨F, F1, V⟩, H, M, W, w9, L1, L2⟩ := rel_T h
  have N4 := W.1
  have n8 := V.1
  by_cases g : (0 : Int32) ≤ a ∧ a ≤ 3
  · obtain ⟨s, hs, rfl⟩ := upto (n := 3) (by omega) g
    have s4 : s < 4 := by omega
    obtain ⟨b, sz, b1, b2', b3, b4, b5, b6, b7, b8⟩ := h.2.2.2.2.1 s s4
    have E := e_missing b3 (by omega)
    by_cases b0 : b = 0
    · refine oks_ref (k := 2) h (by omega) ?_ ?_
      · unfold f_X11_reads
        rw [e_isSheetX, bd_s, if_pos g, if_pos (by decide), ib_nI s4 (by omega), if_pos rfl]
        simp only [rfs, tn_nI (show s < 2 ^ 31 by omega), rf_sh s4]
        rw [E, bd_s, if_pos b0, if_neg (by decide), bd_p]
        rfl
      · intro μ1 hR
        show f_X12_reads μ1 105 _ = _
        unfold f_X12_reads
        rw [e_isSheetM, bd_s, if_pos g, if_pos (by decide), ib_nI s4 (by omega), if_pos rfl]
        simp only [rfs, tn_nI (show s < 2 ^ 31 by omega)]
        rw [hR _ _ (by omega), b4, b0, if_neg (by decide), bd_p]
        rfl
    · -- the facts that the numbers are
      generalize hfk : (fun i => if (0 : Int32) ≤ rd μ (98 + 2 * s) i ∧ rd μ (98 + 2 * s) i ≤ nI n - 1 then (rd μ (98 + 2 * s) i).toNatClampNeg else 8) = fk
      have e3 : ∀ i, i < sz → (fk i < n → rd μ (98 + 2 * s) i = nI (fk i)) ∧ (¬ fk i < n → ¬ ((0 : Int32) ≤ rd μ (98 + 2 * s) i ∧ rd μ (98 + 2 * s) i ≤ nI n - 1)) := by
        intro i hi
        rw [← hfk]
        simp only
        by_cases z : (0 : Int32) ≤ rd μ (98 + 2 * s) i ∧ rd μ (98 + 2 * s) i ≤ nI n - 1
        · obtain ⟨m, hm, em⟩ := (isF_iff (by omega)).mp z
          rw [if_pos z, em, tn_nI (by omega)]
          exact ⟨fun _ => rfl, fun q => absurd hm q⟩
        · rw [if_neg z]
          exact ⟨fun q => by omega, fun _ => z⟩
      have e3m : ∀ i, i < sz → (fk i < n → rd μ 118 (40 * s + i) = nI (fk i)) ∧ (¬ fk i < n → ¬ ((0 : Int32) ≤ rd μ 118 (40 * s + i) ∧ rd μ 118 (40 * s + i) ≤ nI n - 1)) := by
        intro i hi
        obtain ⟨x1, x2⟩ := e3 i hi
        obtain ⟨v, v1, v2⟩ := b8 i (by omega)
        rw [v1] at x1 x2
        rw [v2]
        refine ⟨fun q => (sx_iff (b := b) v (by omega)).mp (x1 q), fun q z => ?_⟩
        obtain ⟨m, hm, em⟩ := (isF_iff (by omega)).mp z
        have := (sx_iff (b := b) v (by omega)).mpr em
        exact x2 q ((isF_iff (by omega)).mpr ⟨m, hm, this⟩)
      obtain ⟨μ1, a1, a2, a3, a4⟩ := rdX (fk := fk) s4 V b2' sz 0 FU T μ (by omega) (by unfold FU; omega) F L1 H W b5 e3
      have hR : RX μ μ1 := fun k j hk => a4 k j (by omega) (by omega)
      have M1 := TMt_cg (μ' := μ1) N4 (TW_s W) (fun j _ => hR 106 j (by omega)) M
      have hM : f_X12_reads μ1 105 (nI s) = (lp (fun q => f_X12_reads_l53 105 (nI s) q.1 q.2.1 q.2.2) FU ((0 : Int32), (if 0 < N ∧ dr (T 0) = 0 then 1 else 0 : Int32), μ1)).bind fun e53 => some (e53.1, e53.2) := by
        unfold f_X12_reads f_X12_reads_j51 f_X12_reads_j52
        rw [e_isSheetM, bd_s, if_pos g, if_pos (by decide), ib_nI s4 (by omega), if_pos rfl]
        simp only [rfs, tn_nI (show s < 2 ^ 31 by omega)]
        rw [hR _ _ (by omega), b4, if_pos (nI_ne0 (by omega) (by omega)), e_isDebM M1.1, bd_s]
        by_cases z : 0 < N
        · obtain ⟨q1, q2, q3, q4, q5, q6⟩ := M1.2.2 0 z
          have d4 := (W.2.2 0 z).2.2.2.1
          have o3 : f_X12_of μ1 105 0 3 = some (nI (dr (T 0))) := by
            have := (e_ofs (show 0 < 4 by omega) μ1).2.2.2.1
            rw [q4] at this
            exact this
          have g0 : (0 : Int32) ≤ 0 ∧ (0 : Int32) ≤ nI N - 1 := (isF_iff (by omega)).mpr ⟨0, z, rfl⟩
          rw [if_pos g0, if_neg (by decide), o3, bd_s]
          by_cases y : dr (T 0) = 0
          · rw [if_neg (not_not_intro (by rw [y]; rfl)), if_pos ⟨z, y⟩]
          · rw [if_pos (nI_ne0 (by omega) (by omega)), if_neg (fun q => y q.2)]
        · have ng : ¬ ((0 : Int32) ≤ 0 ∧ (0 : Int32) ≤ nI N - 1) := fun q => by
            obtain ⟨i, hi, he⟩ := (isF_iff (by omega)).mp q
            omega
          rw [if_neg ng, if_pos rfl, if_neg (fun q => z q.1)]
      have hX : f_X11_reads μ 0 (nI s) = some (nI (rdS n nd cl gv N w fk sz 0 T).1, μ1) := by
        unfold f_X11_reads
        rw [e_isSheetX, bd_s, if_pos g, if_pos (by decide), ib_nI s4 (by omega), if_pos rfl]
        simp only [rfs, tn_nI (show s < 2 ^ 31 by omega), rf_sh s4]
        have a1 : lp (fun q => f_X11_reads_l35 0 (nI s) (97 + 2 * s) q.1 q.2) FU ((0 : Int32), μ) = _ := a1
        rw [E, bd_s, if_neg b0, if_pos rfl, a1, bd_s]
      by_cases z : 0 < N ∧ dr (T 0) = 0
      · obtain ⟨μ2, c1, c2, c3⟩ := rdM (fk := fk) s4 V b2' sz 0 FU T μ1 (by omega) (by unfold FU; omega) z (FM_cg n8 (fun j _ => hR 106 j (by omega)) F1) (LwM_cg (fun j _ => hR 106 j (by omega)) L2) M1 W (by rw [hR _ _ (by omega)]; exact b6) (fun i hi => by rw [hR _ _ (by omega)]; exact e3m i hi)
        have c1 : lp (fun q => f_X12_reads_l53 105 (nI s) q.1 q.2.1 q.2.2) FU ((0 : Int32), (1 : Int32), μ1) = _ := c1
        rw [if_pos z, c1, bd_s] at hM
        exact oks_go hX hM (rel_new h F F1 V (fun k j c d s' => by rw [c3 k j (by omega) (by omega) (by omega), a4 k j (by omega) (by omega)]) (TXt_cg N4 (fun k j c d => c3 k j (by omega) (by omega) (by omega)) a2) c2 a3 w9)
      · rw [rdS_no z] at hX a2
        have hx : lp (fun q => f_X12_reads_l53 105 (nI s) q.1 q.2.1 q.2.2) FU ((0 : Int32), (0 : Int32), μ1) = some (0, μ1) := by
          obtain ⟨fu, hfu⟩ : ∃ fu, FU = fu + 1 := ⟨999999999, rfl⟩
          rw [hfu, lp]
          show (f_X12_reads_l53 105 (nI s) 0 0 μ1).bind _ = _
          unfold f_X12_reads_l53
          simp only [rfs, ib_nI s4 (show 4 < 2 ^ 31 by omega), if_true, tn_nI (show s < 2 ^ 31 by omega)]
          split <;> rfl
        rw [if_neg z, hx, bd_s] at hM
        exact oks_go hX hM (rel_new h F F1 V (fun k j c d s' => a4 k j (by omega) (by omega)) a2 M1 W w9)
  · refine oks_ref (k := 1) h (by omega) ?_ ?_
    · unfold f_X11_reads
      rw [e_isSheetX, bd_s, if_neg g, if_neg (by decide), bd_p]
      rfl
    · intro μ1 _
      show f_X12_reads μ1 105 _ = _
      unfold f_X12_reads
      rw [e_isSheetM, bd_s, if_neg g, if_neg (by decide), bd_p]
      rfl
