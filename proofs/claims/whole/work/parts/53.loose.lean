/-! PURE: loose, reads -/
def drw (z : Int32) : Int32 := z * 1103515245 + 12345
def dwn (z : Int32) : Nat := z.toBitVec.toNat / 256
theorem dwn_lt (z : Int32) : dwn z < 2 ^ 24 := by
  have := z.toBitVec.isLt
  unfold dwn
  omega
theorem jushr_8 (z : Int32) : jushr z 8 = nI (dwn z) := by
  have h := pk_ushr z 8 8 (by decide)
  have l := dwn_lt z
  apply Int32.toBitVec_inj.mp
  apply BitVec.eq_of_toNat_eq
  rw [pk_tn (by omega)]
  exact h
def lendT (N who more : Nat) (T : Nat → Dt) : Nat → Dt := if who < N ∧ dr (T who) = 0 then up T who (dk (T who), dm (T who), min 9999 (dd (T who) + more), dr (T who), ds (T who), dbk (T who), dwk (T who)) else T
theorem TW_lend {n N w who more : Nat} {T : Nat → Dt} (W : TWt n N w T) : TWt n N w (lendT N who more T) := by
  unfold lendT
  split
  · rename_i h
    obtain ⟨d1, d2, d3, d4, d5, d6, d7⟩ := W.2.2 who h.1
    exact TW_up W ⟨d1, d2, by show min 9999 _ ≤ 9999; omega, d4, d5, d6, d7⟩
  · exact W
theorem TXt_db {μ : Mem} {t p N w x : Nat} {T : Nat → Dt} (hN : N ≤ 4) (hp : p < N) (H : TXt μ t N w T) : TXt (wr μ (t + 2 + 3 * p) 6 (nI x)) t N w (up T p (dk (T p), dm (T p), x, dr (T p), ds (T p), dbk (T p), dwk (T p))) := by
  refine ⟨?_, ?_, fun q hq => ?_⟩
  · rw [rd_wr_n (by omega)]; exact H.1
  · rw [rd_wr_n (by omega)]; exact H.2.1
  · by_cases e : q = p
    · subst e
      rw [up_s]
      obtain ⟨p1, p2, p3, p4, p5, p6, p7⟩ := H.2.2 q hq
      refine ⟨?_, ?_, ?_, ?_, ?_, ?_, fun i hi => ?_⟩
      · rw [rd_wr_n (by omega)]; exact p1
      · rw [rd_wr_n (by omega)]; exact p2
      · rw [rd_wr_n (by omega)]; exact p3
      · rw [rd_wr_n (by omega)]; exact p4
      · rw [rd_wr_s]
      · rw [rd_wr_n (by omega)]; exact p6
      · rw [rd_wr_n (by omega), rd_wr_n (by omega)]; exact p7 i hi
    · rw [up_n e]
      exact DX_cg (fun k j a b => rd_wr_n (by omega)) (H.2.2 q hq)
theorem rem4 (m : Nat) (h : m < 2 ^ 24) : jrem (nI m) 4 = nI (m % 4) := j_rem (y := 4) (by omega) (by omega) (by omega)
theorem rem50 (m : Nat) (h : m < 2 ^ 24) : jrem (nI m) 50 = nI (m % 50) := j_rem (y := 50) (by omega) (by omega) (by omega)
theorem e_lendX {μ : Mem} {n N w : Nat} {T : Nat → Dt} {z : Int32} (hz : rd μ 1 8 = z) (H : TXt μ 14 N w T) (W : TWt n N w T) : ∃ μ2, f_X10_lendByDraws μ 1 = some μ2 ∧ rd μ2 1 8 = drw (drw z) ∧ TXt μ2 14 N w (lendT N (dwn (drw z) % 4) (dwn (drw (drw z)) % 50) T) ∧ ∀ k j, ¬ (k = 1 ∧ j = 8) → ¬ (16 ≤ k ∧ k < 16 + 3 * N) → rd μ2 k j = rd μ k j := by
  have N4 := W.1
  have l1 := dwn_lt (drw z)
  have l2 := dwn_lt (drw (drw z))
  have D1 : f_X10_draw μ 1 = some (nI (dwn (drw z)), wr μ 1 8 (drw z)) := by
    unfold f_X10_draw
    rw [bd_s, rd_wr_s, hz, show z * 1103515245 + 12345 = drw z from rfl, jushr_8]
  have D2 : f_X10_draw (wr μ 1 8 (drw z)) 1 = some (nI (dwn (drw (drw z))), wr (wr μ 1 8 (drw z)) 1 8 (drw (drw z))) := by
    unfold f_X10_draw
    rw [bd_s, rd_wr_s, rd_wr_s, show drw z * 1103515245 + 12345 = drw (drw z) from rfl, jushr_8]
  generalize hμ : wr (wr μ 1 8 (drw z)) 1 8 (drw (drw z)) = μ1 at D2
  have K : ∀ k j, ¬ (k = 1 ∧ j = 8) → rd μ1 k j = rd μ k j := by
    intro k j a
    rw [← hμ, rd_wr_n a, rd_wr_n a]
  have z1 : rd μ1 1 8 = drw (drw z) := by rw [← hμ, rd_wr_s]
  have H1 := TXt_cg (μ' := μ1) N4 (fun k j a b => K k j (by omega)) H
  generalize hw : dwn (drw z) % 4 = who
  have w4 : who < 4 := by omega
  have hs : f_X10_lendByDraws μ 1 = if N ≤ who then some μ1 else if ¬ dr (T who) = 0 then some μ1 else some (wr μ1 (16 + 3 * who) 6 (nI (min 9999 (dd (T who) + dwn (drw (drw z)) % 50)))) := by
    unfold f_X10_lendByDraws
    rw [D1, bd_s, D2, bd_s]
    simp only [rfs, rem4 _ l1, rem50 _ l2, hw, tn_nI (show who < 2 ^ 31 by omega), rf_15 w4]
    have c1 : rd μ1 14 3 = nI N := H1.1
    rw [c1]
    have kk : nI N ≤ nI who ↔ N ≤ who := nI_leI (by omega) (by omega)
    by_cases y : N ≤ who
    · rw [if_pos (kk.mpr y), if_pos y]
    · rw [if_neg (fun q => y (kk.mp q)), if_neg y, ib_nI w4 (by omega), if_pos rfl, if_pos rfl]
      obtain ⟨p1, p2, p3, p4, p5, p6, p7⟩ := H1.2.2 who (by omega)
      obtain ⟨d1, d2, d3, d4, d5, d6, d7⟩ := W.2.2 who (by omega)
      have p5 : rd μ1 (16 + 3 * who) 6 = nI (dd (T who)) := p5
      have p6 : rd μ1 (16 + 3 * who) 7 = nI (dr (T who)) := p6
      rw [p6, e_owe p5 (by omega) (by omega), bd_s]
      by_cases x : dr (T who) = 0
      · rw [if_neg (not_not_intro (by rw [x]; rfl)), if_neg (not_not_intro x)]
      · rw [if_pos (nI_ne0 (by omega) (by omega)), if_pos x]
  unfold lendT
  by_cases y : who < N ∧ dr (T who) = 0
  · rw [if_neg (by omega), if_neg (not_not_intro y.2)] at hs
    refine ⟨_, hs, by rw [rd_wr_n (by omega)]; exact z1, ?_, fun k j a b => by rw [rd_wr_n (by omega)]; exact K k j a⟩
    rw [if_pos y]
    exact TXt_db N4 y.1 H1
  · have hs2 : f_X10_lendByDraws μ 1 = some μ1 := by
      rw [hs]
      by_cases x : N ≤ who
      · rw [if_pos x]
      · rw [if_neg x, if_pos (fun q => y ⟨by omega, q⟩)]
    refine ⟨_, hs2, z1, ?_, fun k j a b => K k j a⟩
    rw [if_neg y]
    exact H1
def zsq (z : Int32) : Nat → Int32
  | 0 => z
  | j + 1 => drw (drw (zsq z j))
def looT (n : Nat) (nd cl wi : Nat → Nat) (bi : Nat → Int32) (gv : Nat → Nat → Nat → Nat) (N w : Nat) (z : Int32) : Nat → (Nat → Dt) → (Nat → Dt)
  | 0, T => T
  | k + 1, T => wkT n nd cl wi bi gv N (w + k) 9 0 N (lendT N (dwn (drw (zsq z k)) % 4) (dwn (zsq z (k + 1)) % 50) (looT n nd cl wi bi gv N w z k T))
theorem TW_loo {n N w : Nat} {nd cl wi : Nat → Nat} {bi : Nat → Int32} {gv : Nat → Nat → Nat → Nat} {z : Int32} (hn : n ≤ 8) {T : Nat → Dt} (h : TWt n N w T) : ∀ k, w + k ≤ 5000 → TWt n N (w + k) (looT n nd cl wi bi gv N w z k T) := by
  intro k
  induction k with
  | zero => intro _; exact h
  | succ k ih =>
    intro hk
    rw [looT]
    exact TW_next (by omega) (TW_wk hn (TW_lend (ih (by omega))) N (Nat.le_refl _))
theorem looX {μ : Mem} {n N w : Nat} {nd cl wi wt : Nat → Nat} {bi : Nat → Int32} {gv : Nat → Nat → Nat → Nat} {T : Nat → Dt} {z : Int32} (F : FX μ 2 n nd cl wi wt bi) (V : FW n nd cl wi wt bi) (hz : rd μ 1 8 = z) (L : LwX μ gv) (H : TXt μ 14 N w T) (W : TWt n N w T) (k : Nat) (hk : w + k ≤ 5000) : ∃ μ2, lp (fun s => f_X11_loose_l42 0 (nI k) s.1 s.2) FU ((0 : Int32), μ) = some μ2 ∧ rd μ2 1 8 = zsq z k ∧ TXt μ2 14 N (w + k) (looT n nd cl wi bi gv N w z k T) ∧ ∀ k' j, ¬ (k' = 1 ∧ j = 8) → k' ≠ 10 → ¬ (k' = 14 ∧ j = 4 ∨ 16 ≤ k' ∧ k' < 16 + 3 * N) → rd μ2 k' j = rd μ k' j := by
  refine lp_I (fun j s => s.1 = nI j ∧ rd s.2 1 8 = zsq z j ∧ TXt s.2 14 N (w + j) (looT n nd cl wi bi gv N w z j T) ∧ ∀ k' j, ¬ (k' = 1 ∧ j = 8) → k' ≠ 10 → ¬ (k' = 14 ∧ j = 4 ∨ 16 ≤ k' ∧ k' < 16 + 3 * N) → rd s.2 k' j = rd μ k' j) k _ (by omega) ⟨rfl, hz, H, fun _ _ _ _ _ => rfl⟩ ?_ ?_
  · rintro j ⟨v, m⟩ hj ⟨e1, e0, e2, e3⟩
    simp only at e1 e0 e2 e3
    subst e1
    have W1 := TW_loo (nd := nd) (cl := cl) (wi := wi) (bi := bi) (gv := gv) (z := z) V.1 W j (by omega)
    obtain ⟨m1, a1, a2, a3, a4⟩ := e_lendX e0 e2 W1
    have W2 := TW_lend (who := dwn (drw (zsq z j)) % 4) (more := dwn (drw (drw (zsq z j))) % 50) W1
    obtain ⟨m2, b1, b2, b3⟩ := e_weeksX (k := 1) (Or.inl rfl) (FX_cg (fun k i a b => by rw [a4 k i (by omega) (by omega), e3 k i (by omega) (by omega) (by omega)]) F) V (by omega) (LwX_cg (fun i => by rw [a4 8 i (by omega) (by omega), e3 8 i (by omega) (by omega) (by omega)]) (fun i => by rw [a4 9 i (by omega) (by omega), e3 9 i (by omega) (by omega) (by omega)]) L) a3 W2
    refine ⟨(nI (j + 1), m2), ?_, rfl, ?_, b2, fun k' i a b c => ?_⟩
    · show f_X11_loose_l42 0 (nI k) (nI j) m = _
      unfold f_X11_loose_l42
      simp only [rfs]
      have b1 : f_X8_passWeeks m1 14 1 = some m2 := b1
      rw [if_neg (nI_ge hj (by omega)), a1, bd_s, b1, bd_s, nI_1]
    · simp only
      rw [b3 1 8 (by omega) (by omega), a2]
      rfl
    · simp only
      rw [b3 k' i b (by omega), a4 k' i a (by omega), e3 k' i a b c]
  · rintro ⟨v, m⟩ ⟨e1, e0, e2, e3⟩
    simp only at e1 e0 e2 e3
    subst e1
    refine ⟨m, ?_, e0, e2, e3⟩
    show f_X11_loose_l42 0 (nI k) (nI k) m = _
    unfold f_X11_loose_l42
    rw [if_pos (nI_le (Nat.le_refl _) (by omega))]
theorem e_drawn {μ : Mem} {z : Int32} (hz : rd μ 106 4 = z) : f_X12_drawn μ 105 = some (nI (dwn (drw z)), wr μ 106 4 (drw z)) := by
  unfold f_X12_drawn
  simp only [rfs, cls]
  rw [bd_s, rd_wr_s, hz, show z * 1103515245 + 12345 = drw z from rfl, jushr_8]
theorem looM {n N w : Nat} {nd cl wi wt : Nat → Nat} {bi : Nat → Int32} {gv : Nat → Nat → Nat → Nat} {T : Nat → Dt} {μ : Mem} {z : Int32} (F : FM μ 106 n nd cl wi wt bi) (V : FW n nd cl wi wt bi) (hz : rd μ 106 4 = z) (h12 : rd μ 105 12 = -1) (L : LwM μ gv) (H : TMt μ 106 N w T) (W : TWt n N w T) (k : Nat) (hk : w + k ≤ 5000) : ∃ μ2, lp (fun s => f_X12_passes_l40 105 (nI k) 1 s.1 s.2) FU ((0 : Int32), μ) = some μ2 ∧ rd μ2 106 4 = zsq z k ∧ TMt μ2 106 N (w + k) (looT n nd cl wi bi gv N w z k T) ∧ ∀ k j, k ≠ 110 → ¬ (k = 105 ∧ 5 ≤ j ∧ j ≤ 10) → ¬ (k = 106 ∧ (j = 3 ∨ j = 4 ∨ 50 ≤ j ∧ j < 134)) → rd μ2 k j = rd μ k j := by
  refine lp_I (fun j s => s.1 = nI j ∧ rd s.2 106 4 = zsq z j ∧ TMt s.2 106 N (w + j) (looT n nd cl wi bi gv N w z j T) ∧ ∀ k j, k ≠ 110 → ¬ (k = 105 ∧ 5 ≤ j ∧ j ≤ 10) → ¬ (k = 106 ∧ (j = 3 ∨ j = 4 ∨ 50 ≤ j ∧ j < 134)) → rd s.2 k j = rd μ k j) k _ (by omega) ⟨rfl, hz, H, fun _ _ _ _ _ => rfl⟩ ?_ ?_
  · rintro j ⟨v, m⟩ hj ⟨e1, e0, e2, e3⟩
    simp only at e1 e0 e2 e3
    subst e1
    have N4 := W.1
    have W1 := TW_loo (nd := nd) (cl := cl) (wi := wi) (bi := bi) (gv := gv) (z := z) V.1 W j (by omega)
    have F1 : FM m 106 n nd cl wi wt bi := FM_cg V.1 (fun j _ => e3 _ _ (by omega) (by omega) (by omega)) F
    have l1 := dwn_lt (drw (zsq z j))
    have l2 := dwn_lt (drw (drw (zsq z j)))
    generalize hm : wr (wr m 106 4 (drw (zsq z j))) 106 4 (drw (drw (zsq z j))) = m1
    have K : ∀ k i, ¬ (k = 106 ∧ i = 4) → rd m1 k i = rd m k i := by
      intro k i a
      rw [← hm, rd_wr_n a, rd_wr_n a]
    have z1 : rd m1 106 4 = drw (drw (zsq z j)) := by rw [← hm, rd_wr_s]
    have M1 := TMt_cg (μ' := m1) N4 (TW_s W1) (fun i _ => K 106 i (by omega)) e2
    generalize hw : dwn (drw (zsq z j)) % 4 = who
    have w4 : who < 4 := by omega
    have hb : f_X12_passes_l40 105 (nI k) 1 (nI j) m = f_X12_passes_j76 m1 105 (nI k) 1 (nI j) (nI who) (nI (dwn (drw (drw (zsq z j))) % 50)) := by
      unfold f_X12_passes_l40 f_X12_passes_j59
      rw [if_neg (nI_ge hj (by omega)), if_neg (by decide), e_drawn e0, bd_s]
      simp only
      rw [if_neg (by decide), e_drawn (rd_wr_s m 106 4 _), bd_s]
      simp only
      rw [rem4 _ l1, rem50 _ l2, hw, hm]
    have W2 := TW_lend (N := N) (who := who) (more := dwn (drw (drw (zsq z j))) % 50) W1
    have hl : ∃ m2, f_X12_passes_j76 m1 105 (nI k) 1 (nI j) (nI who) (nI (dwn (drw (drw (zsq z j))) % 50)) = f_X12_passes_j105 m2 105 (nI k) 1 (nI j) ∧ TMt m2 106 N (w + j) (lendT N who (dwn (drw (drw (zsq z j))) % 50) (looT n nd cl wi bi gv N w z j T)) ∧ ∀ k i, ¬ (k = 106 ∧ 50 ≤ i ∧ i < 134) → rd m2 k i = rd m1 k i := by
      unfold f_X12_passes_j76 lendT
      rw [e_isDebM M1.1, bd_s]
      by_cases y : who < N
      · rw [if_pos ((isF_iff (by omega)).mpr ⟨who, y, rfl⟩), if_neg (by decide), (e_ofs w4 m1).2.2.2.1, bd_s]
        obtain ⟨q1, q2, q3, q4, q5, q6⟩ := M1.2.2 who y
        obtain ⟨d1, d2, d3, d4, d5, d6, d7⟩ := W1.2.2 who y
        rw [q4]
        by_cases x : dr (looT n nd cl wi bi gv N w z j T who) = 0
        · rw [if_neg (not_not_intro (by rw [x]; rfl)), e_lends w4 q3 (by omega) (by omega), bd_s, if_pos ⟨y, x⟩]
          exact ⟨_, rfl, TMt_db N4 (TW_s W1) y M1, fun k i a => rd_wr_n (by omega)⟩
        · rw [if_pos (nI_ne0 (by omega) (by omega)), if_neg (fun h => x h.2)]
          exact ⟨_, rfl, M1, fun _ _ _ => rfl⟩
      · have ng : ¬ ((0 : Int32) ≤ nI who ∧ nI who ≤ nI N - 1) := fun q => by
          obtain ⟨i, hi, he⟩ := (isF_iff (by omega)).mp q
          have := (nI_eq (by omega) (by omega)).mp he
          omega
        rw [if_neg ng, if_pos rfl, if_neg (fun h => y h.1)]
        exact ⟨_, rfl, M1, fun _ _ _ => rfl⟩
    obtain ⟨m2, b1, b2, b3⟩ := hl
    have K2 : ∀ k i, ¬ (k = 106 ∧ (i = 4 ∨ 50 ≤ i ∧ i < 134)) → rd m2 k i = rd m k i := fun k i a => by rw [b3 k i (by omega), K k i (by omega)]
    obtain ⟨m3, x1, x2, x3⟩ := e_weekM (r0 := 9) (r := 0) (a1 := -1) (FM_cg (μ' := m2) V.1 (fun i _ => K2 _ _ (by omega)) F1) V (by rw [K2 _ _ (by omega), e3 _ _ (by omega) (by omega) (by omega)]; exact h12) m1_no (fun z => by omega) (by omega) (LwM_cg (fun i _ => by rw [K2 _ _ (by omega), e3 _ _ (by omega) (by omega) (by omega)]) L) b2 W2
    refine ⟨(nI (j + 1), m3), ?_, rfl, ?_, ?_, fun k' i a b c => ?_⟩
    · show f_X12_passes_l40 105 (nI k) 1 (nI j) m = _
      rw [hb, b1]
      unfold f_X12_passes_j105
      rw [x1, bd_s, nI_1]
    · simp only
      rw [x3 106 4 (by omega) (by omega) (by omega), b3 106 4 (by omega), z1]
      rfl
    · simp only
      rw [← hw] at x2
      exact x2
    · simp only
      rw [x3 k' i a b (by omega), K2 k' i (by omega), e3 k' i a b c]
  · rintro ⟨v, m⟩ ⟨e1, e0, e2, e3⟩
    simp only at e1 e0 e2 e3
    subst e1
    refine ⟨m, ?_, e0, e2, e3⟩
    show f_X12_passes_l40 105 (nI k) 1 (nI k) m = _
    unfold f_X12_passes_l40
    rw [if_pos (nI_le (Nat.le_refl _) (by omega))]
theorem sh_loose : SH_loose Rel := by
  intro μ h a
  show OKS (f_X11_loose μ 0 a) (fun m => f_X12_loose m 105 a)
  obtain ⟨n, nd, cl, wi, wt, bi, N, w, T, gv, ⟨F, F1, V⟩, H, M, W, w9, L1, L2⟩ := rel_T h
  have N4 := W.1
  have n8 := V.1
  have hz : rd μ 1 8 = rd μ 106 4 := h.1.2.2.2.2.1
  by_cases g : (1 : Int32) ≤ a ∧ a ≤ 60
  · obtain ⟨k, k0, k60, rfl⟩ := upto1 (n := 60) (by omega) g
    have c1 : rd μ 14 4 = nI w := H.2.1
    have c2 : rd μ 106 3 = nI w := M.2.1
    have le := le999 (a := w) (b := k) (by omega) (by omega)
    by_cases g2 : w + k ≤ 999
    · obtain ⟨μ1, a1, a0, a2, a3⟩ := looX (z := rd μ 1 8) F V rfl L1 H W k (by omega)
      have hR : RX μ μ1 := fun k j hk => a3 k j (by omega) (by omega) (by omega)
      obtain ⟨μ2, b1, b0, b2, b3⟩ := looM (z := rd μ 1 8) (FM_cg n8 (fun j _ => hR 106 j (by omega)) F1) V (by rw [hR _ _ (by omega), hz]) ((hR 105 12 (by omega)).trans h.2.2.2.2.2.1) (LwM_cg (fun j _ => hR 106 j (by omega)) L2) (TMt_cg N4 (TW_s W) (fun j _ => hR 106 j (by omega)) M) W k (by omega)
      have W2 := TW_loo (nd := nd) (cl := cl) (wi := wi) (bi := bi) (gv := gv) (z := rd μ 1 8) n8 W k (by omega)
      refine oks_go (μ1 := μ1) (μ2 := μ2) (r := nI (sm (fun p => dr (looT n nd cl wi bi gv N w (rd μ 1 8) k T p)) N)) ?_ ?_ ?_
      · unfold f_X11_loose
        simp only [rfs]
        rw [e_among, bd_s, if_pos g, if_pos (by decide), c1, if_pos (le.mpr g2), a1, bd_s, e_brokX (Or.inl rfl) a2 W2, bd_s]
      · show f_X12_loose μ1 105 _ = _
        unfold f_X12_loose f_X12_passes
        simp only [rfs, cls]
        rw [show f_X12_in (nI k).toInt64 1 60 = _ from e_in (nI k) 1 60, bd_s, if_pos g, if_pos (by decide), hR _ _ (by omega), c2, if_pos (le.mpr g2), b1, bd_s, e_brokM b2 W2, bd_s, bd_s]
      · have Rz : Rel (wr (wr μ 1 8 (zsq (rd μ 1 8) k)) 106 4 (zsq (rd μ 1 8) k)) := R2_z h (fun k j c d => by rw [rd_wr_n (by omega), rd_wr_n (by omega)]) (by rw [rd_wr_n (by omega), rd_wr_s, rd_wr_s])
        refine rel_new Rz (FX_cg (fun k j a b => by rw [rd_wr_n (by omega), rd_wr_n (by omega)]) F) (FM_cg n8 (fun j a => by rw [rd_wr_n (by omega), rd_wr_n (by omega)]) F1) V (fun k' j c d s => ?_) (TXt_cg N4 (fun k j c d => b3 k j (by omega) (by omega) (by omega)) a2) b2 W2 g2
        by_cases y1 : k' = 106 ∧ j = 4
        · obtain ⟨rfl, rfl⟩ := y1
          rw [b0, rd_wr_s]
        · rw [b3 k' j (by omega) (by omega) (by omega), rd_wr_n y1]
          by_cases y2 : k' = 1 ∧ j = 8
          · obtain ⟨rfl, rfl⟩ := y2
            rw [a0, rd_wr_s]
          · rw [a3 k' j y2 (by omega) (by omega), rd_wr_n y2]
    · refine oks_ref (k := 3) h (by omega) ?_ ?_
      · unfold f_X11_loose
        simp only [rfs]
        rw [e_among, bd_s, if_pos g, if_pos (by decide), c1, if_neg (fun z => g2 (le.mp z)), bd_p]
        rfl
      · intro μ1 hR
        show f_X12_loose μ1 105 _ = _
        unfold f_X12_loose f_X12_passes
        simp only [rfs, cls]
        rw [bd_p, show f_X12_in (nI k).toInt64 1 60 = _ from e_in (nI k) 1 60, bd_s, if_pos g, if_pos (by decide), hR _ _ (by omega), c2, if_neg (fun z => g2 (le.mp z)), bd_p]
        rfl
  · refine oks_ref (k := 1) h (by omega) ?_ ?_
    · unfold f_X11_loose
      rw [e_among, bd_s, if_neg g, if_neg (by decide), bd_p]
      rfl
    · intro μ1 hR
      show f_X12_loose μ1 105 _ = _
      unfold f_X12_loose f_X12_passes
      rw [bd_p, show f_X12_in a.toInt64 1 60 = _ from e_in a 1 60, bd_s, if_neg g, if_neg (by decide), bd_p]
      rfl
