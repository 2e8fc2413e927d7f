/-! PURE: explained -/
theorem alk_t {E : Nat → Bool} {r k : Nat} (h : E k = true) : alk E (r + 1) k = alk E r (k + 1) := by rw [alk, if_pos h]
theorem alk_f {E : Nat → Bool} {r k : Nat} (h : E k = false) : alk E (r + 1) k = k := by rw [alk, if_neg (by rw [h]; decide)]
theorem ds_srvL {n : Nat} {nd cl : Nat → Nat} {gv : Nat → Nat → Nat → Nat} {O w : Nat} : ∀ k (d : Dt), ds d ≤ ds (srvL n nd cl gv O w k d) := by
  intro k
  induction k with
  | zero => intro d; exact Nat.le_refl _
  | succ k ih =>
    intro d
    rw [srvL]
    split
    · refine Nat.le_trans ?_ (ih _)
      unfold stepD
      split
      · exact Nat.le_succ _
      · exact Nat.le_refl _
    · exact Nat.le_refl _
theorem ds_srvD {n : Nat} {nd cl wi : Nat → Nat} {bi : Nat → Int32} {gv : Nat → Nat → Nat → Nat} {O w k : Nat} (d : Dt) : ds d ≤ ds (srvD n nd cl wi bi gv O w k d) := by
  unfold srvD endD
  split
  · exact ds_srvL k d
  · exact ds_srvL k d
theorem ds_wkT {n N w r0 r : Nat} {nd cl wi : Nat → Nat} {bi : Nat → Int32} {gv : Nat → Nat → Nat → Nat} {T : Nat → Dt} (q : Nat) : ∀ p, ds (T q) ≤ ds (wkT n nd cl wi bi gv N w r0 r p T q) := by
  intro p
  induction p with
  | zero => exact Nat.le_refl _
  | succ p ih =>
    rw [wkT]
    generalize wkT n nd cl wi bi gv N w r0 r p T = T' at ih
    show ds (T q) ≤ ds ((if dr (T' p) = 0 ∧ 0 < dd (T' p) then up T' p (srvD n nd cl wi bi gv (oth (fun q => dB (T' q)) p N) w (if p = r0 then r else dueD (T' p)) (T' p)) else T') q)
    by_cases z : dr (T' p) = 0 ∧ 0 < dd (T' p)
    · rw [if_pos z]
      by_cases e : q = p
      · subst e
        rw [up_s]
        exact Nat.le_trans ih (ds_srvD _)
      · rw [up_n e]; exact ih
    · rw [if_neg z]; exact ih
theorem ds_wks {n N w r0 r : Nat} {nd cl wi : Nat → Nat} {bi : Nat → Int32} {gv : Nat → Nat → Nat → Nat} {T : Nat → Dt} (q : Nat) : ∀ k, ds (T q) ≤ ds (wksT n nd cl wi bi gv N w r0 r k T q) := by
  intro k
  induction k with
  | zero => exact Nat.le_refl _
  | succ k ih => rw [wksT]; exact Nat.le_trans ih (ds_wkT q N)
def kdD (k : Nat) (d : Dt) : Dt := (k, dm d, dd d, dr d, ds d, dbk d, dwk d)
theorem TW_kd {n N w p k : Nat} {T : Nat → Dt} (hp : p < N) (hk : k ≤ 6) (W : TWt n N w T) : TWt n N w (up T p (kdD k (T p))) := by
  obtain ⟨d1, d2, d3, d4, d5, d6, d7⟩ := W.2.2 p hp
  exact TW_up W ⟨hk, d2, d3, d4, d5, d6, d7⟩
theorem TXt_kd {μ : Mem} {t p N w k : Nat} {T : Nat → Dt} (hN : N ≤ 4) (hp : p < N) (H : TXt μ t N w T) : TXt (wr μ (t + 2 + 3 * p) 4 (nI k)) t N w (up T p (kdD k (T p))) := by
  refine ⟨?_, ?_, fun q hq => ?_⟩
  · rw [rd_wr_n (by omega)]; exact H.1
  · rw [rd_wr_n (by omega)]; exact H.2.1
  · by_cases e : q = p
    · subst e
      rw [up_s]
      obtain ⟨p1, p2, p3, p4, p5, p6, p7⟩ := H.2.2 q hq
      refine ⟨?_, ?_, ?_, ?_, ?_, ?_, fun i hi => ?_⟩
      · rw [rd_wr_n (by omega)]; exact p1
      · rw [rd_wr_n (by omega)]; exact p2
      · rw [rd_wr_s]; rfl
      · rw [rd_wr_n (by omega)]; exact p4
      · rw [rd_wr_n (by omega)]; exact p5
      · rw [rd_wr_n (by omega)]; exact p6
      · rw [rd_wr_n (by omega), rd_wr_n (by omega)]; exact p7 i hi
    · rw [up_n e]
      exact DX_cg (fun k j a b => rd_wr_n (by omega)) (H.2.2 q hq)
theorem TMt_kd {μ : Mem} {p N w k : Nat} {T : Nat → Dt} (hN : N ≤ 4) (hs : ∀ q, q < N → ds (T q) ≤ 8) (hp : p < N) (H : TMt μ 106 N w T) : TMt (wr μ 106 (50 + 21 * p) (nI k)) 106 N w (up T p (kdD k (T p))) := by
  refine ⟨by rw [rd_wr_n (by omega)]; exact H.1, by rw [rd_wr_n (by omega)]; exact H.2.1, fun q hq => ?_⟩
  by_cases e : q = p
  · subst e
    rw [up_s]
    have s8 := hs q hq
    obtain ⟨q1, q2, q3, q4, q5, q6⟩ := H.2.2 q hq
    refine ⟨?_, ?_, ?_, ?_, ?_, fun i hi => ?_⟩
    · rw [rd_wr_s]; rfl
    · rw [rd_wr_n (by omega)]; exact q2
    · rw [rd_wr_n (by omega)]; exact q3
    · rw [rd_wr_n (by omega)]; exact q4
    · rw [rd_wr_n (by omega)]; exact q5
    · rw [rd_wr_n (by omega), rd_wr_n (by omega)]; exact q6 i hi
  · rw [up_n e]
    exact DM_cg (hs q hq) (fun j a b => rd_wr_n (by omega)) (H.2.2 q hq)
/-- the k-th kind tells the numbers first -/
def exE (n : Nat) (nd cl wi : Nat → Nat) (bi : Nat → Int32) (gv : Nat → Nat → Nat → Nat) (N w p : Nat) (T : Nat → Dt) (sz : Nat) (num : Nat → Int32) (k : Nat) : Bool := decide (alk (fun i => decide (nI (dbk (wksT n nd cl wi bi gv N w 9 0 60 (up T p (kdD k (T p))) p) (ds (T p) + i)) = num i)) (min sz (ds (wksT n nd cl wi bi gv N w 9 0 60 (up T p (kdD k (T p))) p) - ds (T p))) 0 = sz)
section
variable {n N w p : Nat} {nd cl wi wt : Nat → Nat} {bi : Nat → Int32} {gv : Nat → Nat → Nat → Nat} {T : Nat → Dt}
theorem wtX {μ : Mem} {k s sz : Nat} (F : FX μ 2 n nd cl wi wt bi) (V : FW n nd cl wi wt bi) (hb : BZt μ 14) (L : LwX μ gv) (H : TXt μ 14 N w T) (W : TWt n N w T) (w9 : w ≤ 999) (hp : p < N) (hk : k ≤ 6) (hs : s < 4) (h2 : rd μ (97 + 2 * s) 2 = nI sz) (hsz : sz ≤ 40) : ∃ μ2, f_X11_wouldTell μ 0 (nI p) (nI k) (97 + 2 * s) = some (b2 (exE n nd cl wi bi gv N w p T sz (fun i => rd μ (98 + 2 * s) i) k), μ2) ∧ ∀ k' j, k' ≠ 10 → ¬ (69 ≤ k' ∧ k' ≤ 82) → rd μ2 k' j = rd μ k' j := by
  have N4 := W.1
  have p4 : p < 4 := by omega
  have R := rf_d (t := 69) (Or.inr rfl) p4
  obtain ⟨μ1, a1, a2, a3⟩ := e_think V.1 hb H W
  have A2 := TXt_kd (k := k) N4 hp a2
  have W1 := TW_kd (k := k) hp hk W
  have K : ∀ k' j, ¬ (69 ≤ k' ∧ k' ≤ 82) → rd (wr μ1 (69 + 2 + 3 * p) 4 (nI k)) k' j = rd μ k' j := fun k' j c => by rw [rd_wr_n (by omega), a3 k' j c]
  obtain ⟨μ2, b1, b2', b3⟩ := e_weeksX (t := 69) (k := 60) (Or.inr rfl) (FX_cg (fun k j c d => K k j (by omega)) F) V (by omega) (LwX_cg (fun j => K 8 j (by omega)) (fun j => K 9 j (by omega)) L) A2 W1
  have W2 := TW_wks (nd := nd) (cl := cl) (wi := wi) (bi := bi) (gv := gv) (r0 := 9) (r := 0) V.1 W1 60 (by omega)
  have b1 : f_X8_passWeeks (wr μ1 (69 + 2 + 3 * p) 4 (nI k)) 69 60 = some μ2 := b1
  have K2 : ∀ k' j, k' ≠ 10 → ¬ (69 ≤ k' ∧ k' ≤ 82) → rd μ2 k' j = rd μ k' j := fun k' j c d => by rw [b3 k' j c (by omega), K k' j d]
  refine ⟨μ2, ?_, K2⟩
  have mono : ds (T p) ≤ ds (wksT n nd cl wi bi gv N w 9 0 60 (up T p (kdD k (T p))) p) := by
    have := ds_wks (n := n) (N := N) (w := w) (r0 := 9) (r := 0) (nd := nd) (cl := cl) (wi := wi) (bi := bi) (gv := gv) (T := up T p (kdD k (T p))) p 60
    rw [up_s] at this
    exact this
  obtain ⟨p1, p2, p3, p4', p5, p6, p7⟩ := a2.2.2 p hp
  unfold exE
  revert b2' W2 mono
  generalize wksT n nd cl wi bi gv N w 9 0 60 (up T p (kdD k (T p))) = T'
  intro b2' W2 mono
  obtain ⟨u1, u2, u3, u4, u5, u6, u7⟩ := b2'.2.2 p hp
  have X := e_alikeX (μ := μ2) (c := 69 + 2 + 3 * p) (sc := 97 + 2 * s) (a := ds (T p)) (n := sz) (bk := dbk (T' p)) (by rw [R.2.1]; omega) (by rw [(rf_sh hs).2.1]; omega) u2 (TW_s W2 p hp) mono (fun i hi => (u7 i hi).1) (by rw [K2 _ _ (by omega) (by omega)]; exact h2) hsz
  unfold f_X11_wouldTell
  simp only [rfs, tn_nI (show p < 2 ^ 31 by omega), R.1]
  rw [a1, bd_s, ib_nI p4 (by omega), if_pos rfl, bd_s, b1, bd_s, p2, X, bd_s, K2 _ _ (by omega) (by omega), h2]
  have hcg : (fun i => decide (nI (dbk (T' p) (ds (T p) + i)) = rd μ2 (97 + 2 * s + 1) i)) = (fun i => decide (nI (dbk (T' p) (ds (T p) + i)) = rd μ (98 + 2 * s) i)) := by
    funext i
    rw [show 97 + 2 * s + 1 = 98 + 2 * s by omega, K2 _ _ (by omega) (by omega)]
  rw [hcg]
  have al := alk_le (fun i => decide (nI (dbk (T' p) (ds (T p) + i)) = rd μ (98 + 2 * s) i)) (min sz (ds (T' p) - ds (T p))) 0
  by_cases z : alk (fun i => decide (nI (dbk (T' p) (ds (T p) + i)) = rd μ (98 + 2 * s) i)) (min sz (ds (T' p) - ds (T p))) 0 = sz
  · rw [if_neg (not_not_intro (by rw [z])), decide_eq_true z]
    rfl
  · rw [if_pos (fun q => z ((nI_eq (by omega) (by omega)).mp q)), decide_eq_false z]
    rfl
/-- the model's comparing -/
theorem cmpM {m : Mem} {s sz s0 s1 : Nat} {bk : Nat → Nat} {num : Nat → Int32} (p4 : p < 4) (hs : s < 4) (hsz : sz ≤ 40) (h23 : rd m 117 s = nI sz) (hle : s0 + sz ≤ s1) (h8 : s1 ≤ 8) (hbk : ∀ i, i < s1 → rd m 106 (55 + 21 * p + i) = nI (bk i) ∧ bk i < 8) (hnum : ∀ i, i < sz → ∀ x, x < 8 → (num i = nI x ↔ rd m 118 (40 * s + i) = nI x)) : ∀ (r k fu : Nat), k + r = sz → r + 1 < fu → lp (fun q => f_X12_begins_l58 m 105 (nI p) (nI s) (nI s0) q.1 q.2) fu ((1 : Int32), nI k) = some (if alk (fun i => decide (nI (bk (s0 + i)) = num i)) r k = sz then 1 else 0) := by
  intro r
  induction r with
  | zero =>
    intro k fu hk hfu
    obtain ⟨fu', rfl⟩ : ∃ fu', fu = fu' + 1 := ⟨fu - 1, by omega⟩
    rw [lp]
    show (f_X12_begins_l58 m 105 (nI p) (nI s) (nI s0) 1 (nI k)).bind _ = _
    unfold f_X12_begins_l58
    simp only [rfs, ib_nI hs (show 4 < 2 ^ 31 by omega), if_true, tn_nI (show s < 2 ^ 31 by omega)]
    rw [h23, if_pos (nI_le (by omega) (by omega)), bd_s, alk, if_pos (by omega)]
  | succ r ih =>
    intro k fu hk hfu
    obtain ⟨fu', rfl⟩ : ∃ fu', fu = fu' + 1 := ⟨fu - 1, by omega⟩
    have k40 : (40 : Int32) * nI s + nI k = nI (40 * s + k) := by rw [show (40 : Int32) = nI 40 from rfl, pk_mul, nI_add]
    have k5 : ((5 : Int32) + nI s0) + nI k = nI (5 + s0 + k) := by rw [show (5 : Int32) = nI 5 from rfl, nI_add, nI_add]
    obtain ⟨b1, b2⟩ := hbk (s0 + k) (by omega)
    have hst : f_X12_begins_l58 m 105 (nI p) (nI s) (nI s0) 1 (nI k) = if nI (bk (s0 + k)) = num k then some (.inl (1, nI (k + 1))) else some (.inl (0, nI (k + 1))) := by
      unfold f_X12_begins_l58
      simp only [rfs, ib_nI hs (show 4 < 2 ^ 31 by omega), if_true, tn_nI (show s < 2 ^ 31 by omega), k40, k5, ib_nI (show 40 * s + k < 160 by omega) (show 160 < 2 ^ 31 by omega), tn_nI (show 40 * s + k < 2 ^ 31 by omega)]
      rw [h23, if_neg (nI_ge (by omega) (by omega)), if_neg (show ¬ (1 : Int32) = 0 by decide), e_of p4 (show 5 + s0 + k < 21 by omega), bd_s, show 50 + 21 * p + (5 + s0 + k) = 55 + 21 * p + (s0 + k) by omega, b1, nI_1]
      have hn := hnum k (by omega) _ b2
      by_cases z : nI (bk (s0 + k)) = num k
      · rw [if_neg (not_not_intro (hn.mp z.symm).symm), if_pos z]
      · rw [if_pos (fun q => z (hn.mpr q.symm).symm), if_neg z]
    rw [lp]
    show (f_X12_begins_l58 m 105 (nI p) (nI s) (nI s0) 1 (nI k)).bind _ = _
    rw [hst]
    by_cases z : nI (bk (s0 + k)) = num k
    · rw [if_pos z, bd_s, alk, if_pos (decide_eq_true z)]
      exact ih (k + 1) fu' (by omega) (by omega)
    · rw [if_neg z, bd_s, alk_f (E := fun i => decide (nI (bk (s0 + i)) = num i)) (decide_eq_false z), if_neg (by omega)]
      simp only
      obtain ⟨fu2, rfl⟩ : ∃ fu2, fu' = fu2 + 1 := ⟨fu' - 1, by omega⟩
      rw [lp]
      show (f_X12_begins_l58 m 105 (nI p) (nI s) (nI s0) 0 (nI (k + 1))).bind _ = _
      unfold f_X12_begins_l58
      simp only [rfs, ib_nI hs (show 4 < 2 ^ 31 by omega), if_true, tn_nI (show s < 2 ^ 31 by omega)]
      split <;> rfl
theorem bgM {m : Mem} {k s sz : Nat} {num : Nat → Int32} (F : FM m 106 n nd cl wi wt bi) (V : FW n nd cl wi wt bi) (h12 : rd m 105 12 = -1) (L : LwM m gv) (H : TMt m 106 N w (up T p (kdD k (T p)))) (W : TWt n N w T) (w9 : w ≤ 999) (hp : p < N) (hk : k ≤ 6) (hs : s < 4) (h23 : rd m 117 s = nI sz) (hsz : sz ≤ 40) (hnum : ∀ i, i < sz → ∀ x, x < 8 → (num i = nI x ↔ rd m 118 (40 * s + i) = nI x)) : ∃ m2, f_X12_begins m 105 (nI p) (nI s) = some (b2 (exE n nd cl wi bi gv N w p T sz num k), m2) ∧ ∀ k j, k ≠ 110 → k ≠ 108 → ¬ (k = 105 ∧ 5 ≤ j ∧ j ≤ 10) → rd m2 k j = rd m k j := by
  have N4 := W.1
  have n8 := V.1
  have p4 : p < 4 := by omega
  have W1 := TW_kd (k := k) hp hk W
  obtain ⟨m1, d1, d2, d3⟩ := e_aside m
  have H1 := TMt_cg (μ' := m1) N4 (TW_s W1) (fun j _ => d3 106 j (by omega)) H
  obtain ⟨m2, e1, e2, e3⟩ := awN (k := 60) (r0 := 9) (r := 0) (a1 := -1) (μ := m1) (fun v m => f_X12_begins_l14 105 (nI p) (nI s) (nI (ds (T p))) v m) (fun v m => rfl) (FM_cg n8 (fun j _ => d3 106 j (by omega)) F) V ((d3 105 12 (by omega)).trans h12) m1_no (fun z => by omega) (by omega) (LwM_cg (fun j _ => d3 106 j (by omega)) L) H1 W1 (by omega)
  have W2 := TW_wks (nd := nd) (cl := cl) (wi := wi) (bi := bi) (gv := gv) (r0 := 9) (r := 0) V.1 W1 60 (by omega)
  obtain ⟨m3, f1, f2, f3⟩ := e_back m2
  refine ⟨m3, ?_, fun k' j a b c => ?_⟩
  · have q5 := (H1.2.2 p hp).2.2.2.2.1
    rw [up_s] at q5
    have q5 : rd m1 106 (54 + 21 * p) = nI (ds (T p)) := q5
    have mono : ds (T p) ≤ ds (wksT n nd cl wi bi gv N w 9 0 60 (up T p (kdD k (T p))) p) := by
      have := ds_wks (n := n) (N := N) (w := w) (r0 := 9) (r := 0) (nd := nd) (cl := cl) (wi := wi) (bi := bi) (gv := gv) (T := up T p (kdD k (T p))) p 60
      rw [up_s] at this
      exact this
    unfold exE
    revert e2 W2 mono
    generalize wksT n nd cl wi bi gv N w 9 0 60 (up T p (kdD k (T p))) = T'
    intro e2 W2 mono
    obtain ⟨v1, v2, v3, v4, v5, v6⟩ := e2.2.2 p hp
    have s8 := TW_s W2 p hp
    have k23 : rd m2 117 s = nI sz := by rw [e3 _ _ (by omega) (by omega) (by omega), d3 _ _ (by omega)]; exact h23
    have al := alk_le (fun i => decide (nI (dbk (T' p) (ds (T p) + i)) = num i)) (min sz (ds (T' p) - ds (T p))) 0
    have hB : f_X12_begins m 105 (nI p) (nI s) = if nI (ds (T' p) - ds (T p)) < nI sz then f_X12_begins_j53 m2 105 (nI p) (nI s) (nI (ds (T p))) 0 else f_X12_begins_j53 m2 105 (nI p) (nI s) (nI (ds (T p))) 1 := by
      unfold f_X12_begins
      have e1 : lp (fun q => f_X12_begins_l14 105 (nI p) (nI s) (nI (ds (T p))) q.1 q.2) FU ((0 : Int32), m1) = some m2 := e1
      rw [d1, bd_s, (e_ofs p4 m1).2.2.2.2, bd_s, q5, e1, bd_s, (e_ofs p4 m2).2.2.2.2, bd_s, v5, ib_nI hs (by omega), if_pos rfl, pk_sub mono]
      simp only [rfs, tn_nI (show s < 2 ^ 31 by omega)]
      rw [k23]
    have hfin : ∀ b : Bool, f_X12_begins_j113 m2 105 (nI p) (nI s) (b2 b) = some (b2 b, m3) := fun b => by
      unfold f_X12_begins_j113
      rw [f1, bd_s, b2_bz, if_pos rfl]
    by_cases z : ds (T' p) - ds (T p) < sz
    · rw [if_pos (nI_lt z (by omega))] at hB
      have hz : ¬ alk (fun i => decide (nI (dbk (T' p) (ds (T p) + i)) = num i)) (min sz (ds (T' p) - ds (T p))) 0 = sz := by omega
      rw [decide_eq_false hz, hB]
      unfold f_X12_begins_j53
      have : lp (fun q => f_X12_begins_l58 m2 105 (nI p) (nI s) (nI (ds (T p))) q.1 q.2) FU ((0 : Int32), (0 : Int32)) = some 0 := by
        obtain ⟨fu, hfu⟩ : ∃ fu, FU = fu + 1 := ⟨999999999, rfl⟩
        rw [hfu, lp]
        show (f_X12_begins_l58 m2 105 (nI p) (nI s) (nI (ds (T p))) 0 0).bind _ = _
        unfold f_X12_begins_l58
        simp only [rfs, ib_nI hs (show 4 < 2 ^ 31 by omega), if_true, tn_nI (show s < 2 ^ 31 by omega)]
        split <;> rfl
      rw [this, bd_s]
      exact hfin false
    · rw [if_neg (nI_nlt (by omega) (by omega))] at hB
      have C := cmpM (m := m2) (s0 := ds (T p)) (s1 := ds (T' p)) (bk := dbk (T' p)) (num := num) p4 hs hsz k23 (by omega) s8 (fun i hi => ⟨(v6 i hi).1, Nat.lt_of_lt_of_le ((W2.2.2 p hp).2.2.2.2.2.1 i hi).1 n8⟩) (fun i hi x hx => by rw [e3 _ _ (by omega) (by omega) (by omega), d3 _ _ (by omega)]; exact hnum i hi x hx) sz 0 FU (by omega) (by unfold FU; omega)
      have C : lp (fun q => f_X12_begins_l58 m2 105 (nI p) (nI s) (nI (ds (T p))) q.1 q.2) FU ((1 : Int32), (0 : Int32)) = some (if alk (fun i => decide (nI (dbk (T' p) (ds (T p) + i)) = num i)) sz 0 = sz then 1 else 0) := C
      rw [hB, Nat.min_eq_left (by omega)]
      unfold f_X12_begins_j53
      rw [C, bd_s, b2_d]
      exact hfin _
  · by_cases q : k' = 106 ∧ j < 170
    · obtain ⟨rfl, q⟩ := q
      rw [f2 j q, e3 _ _ (by omega) (by omega) (by omega), d2 j q]
    · rw [f3 k' j q, e3 k' j a c (by omega), d3 k' j b]
end
theorem sh_explained : SH_explained Rel := by
  intro μ h a x
  show OKS (f_X11_explained μ 0 a x) (fun m => f_X12_explained m 105 a x)
  obtain ⟨n, nd, cl, wi, wt, bi, N, w, T, gv, ⟨F, F1, V⟩, H, M, W, w9, L1, L2⟩ := rel_T h
  have N4 := W.1
  have n8 := V.1
  have c1 : rd μ 14 3 = nI N := H.1
  have c2 : rd μ 106 1 = nI N := M.1
  by_cases g : ((0 : Int32) ≤ a ∧ a ≤ nI N - 1) ∧ ((0 : Int32) ≤ x ∧ x ≤ 3)
  · obtain ⟨g1, g2⟩ := g
    obtain ⟨p, hp, rfl⟩ := (isF_iff (by omega)).mp g1
    obtain ⟨s, hs, rfl⟩ := upto (n := 3) (by omega) g2
    have p4 : p < 4 := by omega
    have s4 : s < 4 := by omega
    obtain ⟨b, sz, b1, b2', b3, b4, b5, b6, b7, b8⟩ := h.2.2.2.2.1 s s4
    have E := e_missing b3 (by omega)
    by_cases b0 : b = 0
    · refine oks_ref (k := 2) h (by omega) ?_ ?_
      · unfold f_X11_explained
        rw [e_isDebX c1, bd_s, if_pos g1, if_neg (by decide), e_isSheetX, bd_s, if_pos g2, if_pos (by decide), ib_nI s4 (by omega), if_pos rfl]
        simp only [rfs, tn_nI (show s < 2 ^ 31 by omega), rf_sh s4]
        rw [E, bd_s, if_pos b0, if_neg (by decide), bd_p]
        rfl
      · intro μ1 hR
        show f_X12_explained μ1 105 _ _ = _
        unfold f_X12_explained
        rw [e_isDebM ((hR 106 1 (by omega)).trans c2), bd_s, if_pos g1, if_neg (by decide), e_isSheetM, bd_s, if_pos g2, if_pos (by decide), ib_nI s4 (by omega), if_pos rfl]
        simp only [rfs, tn_nI (show s < 2 ^ 31 by omega)]
        rw [hR _ _ (by omega), b4, b0, if_neg (by decide), bd_p]
        rfl
    · generalize hnum : (fun i => rd μ (98 + 2 * s) i) = num
      have hn8 : ∀ i, i < sz → ∀ y, y < 8 → (num i = nI y ↔ rd μ 118 (40 * s + i) = nI y) := by
        intro i hi y hy
        obtain ⟨v, v1, v2⟩ := b8 i (by omega)
        rw [← hnum]
        simp only
        rw [v1, v2]
        exact sx_iff (b := b) v hy
      -- the class
      have lpX : ∀ (r k fu : Nat) (m : Mem), k + r = 7 → r < fu → (∀ k' j, k' ≠ 10 → ¬ (69 ≤ k' ∧ k' ≤ 82) → rd m k' j = rd μ k' j) → ∃ (e : (Int32 × Mem) ⊕ Mem) (m2 : Mem), lp (fun q => f_X11_explained_l41 0 (nI p) (nI s) q.1 q.2) fu (nI k, m) = some e ∧ (if alk (fun k => !exE n nd cl wi bi gv N w p T sz num k) r k = 7 then e = .inr m2 else e = .inl (nI (alk (fun k => !exE n nd cl wi bi gv N w p T sz num k) r k), m2)) ∧ ∀ k' j, k' ≠ 10 → ¬ (69 ≤ k' ∧ k' ≤ 82) → rd m2 k' j = rd μ k' j := by
        intro r
        induction r with
        | zero =>
          intro k fu m hk hfu hm
          obtain ⟨fu', rfl⟩ : ∃ fu', fu = fu' + 1 := ⟨fu - 1, by omega⟩
          refine ⟨.inr m, m, ?_, by rw [alk, if_pos (by omega)], hm⟩
          rw [lp]
          show (f_X11_explained_l41 0 (nI p) (nI s) (nI k) m).bind _ = _
          unfold f_X11_explained_l41
          rw [if_pos (show (7 : Int32) ≤ nI k from nI_le (a := 7) (by omega) (by omega)), bd_s]
        | succ r ih =>
          intro k fu m hk hfu hm
          obtain ⟨fu', rfl⟩ : ∃ fu', fu = fu' + 1 := ⟨fu - 1, by omega⟩
          obtain ⟨m1, a1, a2⟩ := wtX (μ := m) (k := k) (s := s) (sz := sz) (FX_cg (fun k j c d => hm k j (by omega) (by omega)) F) V (fun q hq => by rw [hm _ _ (by omega) (by omega)]; exact h.1.1.1 q hq) (LwX_cg (fun j => hm 8 j (by omega) (by omega)) (fun j => hm 9 j (by omega) (by omega)) L1) (TXt_cg N4 (fun k j c d => hm k j (by omega) (by omega)) H) W w9 hp (by omega) s4 (by rw [hm _ _ (by omega) (by omega)]; exact b5) b2'
          have hnm : (fun i => rd m (98 + 2 * s) i) = num := by
            rw [← hnum]
            funext i
            rw [hm _ _ (by omega) (by omega)]
          rw [hnm] at a1
          have hst : f_X11_explained_l41 0 (nI p) (nI s) (nI k) m = if exE n nd cl wi bi gv N w p T sz num k = true then some (.inr (.inl (nI k, m1))) else some (.inl (nI (k + 1), m1)) := by
            unfold f_X11_explained_l41
            rw [if_neg (show ¬ (7 : Int32) ≤ nI k from nI_ge (b := 7) (by omega) (by omega)), ib_nI s4 (by omega), if_pos rfl]
            simp only [rfs, tn_nI (show s < 2 ^ 31 by omega), rf_sh s4]
            rw [a1, bd_s, nI_1]
            cases exE n nd cl wi bi gv N w p T sz num k
            · rw [if_pos b2_f, if_neg (by decide)]
            · rw [if_neg (show ¬ b2 true = 0 by decide), if_pos rfl]
          have hm1 : ∀ k' j, k' ≠ 10 → ¬ (69 ≤ k' ∧ k' ≤ 82) → rd m1 k' j = rd μ k' j := fun k' j c d => by rw [a2 k' j c d, hm k' j c d]
          rw [lp]
          show ∃ e m2, (f_X11_explained_l41 0 (nI p) (nI s) (nI k) m).bind _ = _ ∧ _
          rw [hst]
          cases e : exE n nd cl wi bi gv N w p T sz num k
          · rw [if_neg (by decide), bd_s, alk_t (E := fun k => !exE n nd cl wi bi gv N w p T sz num k) (by show (!exE n nd cl wi bi gv N w p T sz num k) = true; rw [e]; rfl)]
            exact ih (k + 1) fu' m1 (by omega) (by omega) hm1
          · rw [if_pos rfl, bd_s, alk_f (E := fun k => !exE n nd cl wi bi gv N w p T sz num k) (by show (!exE n nd cl wi bi gv N w p T sz num k) = false; rw [e]; rfl)]
            exact ⟨.inl (nI k, m1), m1, rfl, by rw [if_neg (by omega)], hm1⟩
      obtain ⟨e, μ1, x1, x2, x3⟩ := lpX 7 0 FU μ (by omega) (by unfold FU; omega) (fun _ _ _ _ => rfl)
      have x1 : lp (fun q => f_X11_explained_l41 0 (nI p) (nI s) q.1 q.2) FU ((0 : Int32), μ) = some e := x1
      have X0 : f_X11_explained μ 0 (nI p) (nI s) = Sum.elim (fun e41 => some (e41.1, e41.2)) (fun e41 => f_X11_refuse e41 0 2) e := by
        unfold f_X11_explained
        rw [e_isDebX c1, bd_s, if_pos g1, if_neg (by decide), e_isSheetX, bd_s, if_pos g2, if_pos (by decide), ib_nI s4 (by omega), if_pos rfl]
        simp only [rfs, tn_nI (show s < 2 ^ 31 by omega), rf_sh s4]
        rw [E, bd_s, if_neg b0, if_pos rfl, x1, bd_s]
        simp only [bd_p]
      have al := alk_le (fun k => !exE n nd cl wi bi gv N w p T sz num k) 7 0
      have asp := alk_spec (fun k => !exE n nd cl wi bi gv N w p T sz num k) 7 0
      -- the model
      have lpM : ∀ (μ' : Mem), (∀ k j, 105 ≤ k → k ≠ 109 → rd μ' k j = rd μ k j) → ∃ m2, lp (fun q => f_X12_explained_l49 105 (nI p) (nI s) (nI (dk (T p))) q.1 q.2.1 q.2.2) FU ((-1 : Int32), (0 : Int32), μ') = some ((if alk (fun k => !exE n nd cl wi bi gv N w p T sz num k) 7 0 = 7 then -1 else nI (alk (fun k => !exE n nd cl wi bi gv N w p T sz num k) 7 0)), m2) ∧ ∀ k j, k ≠ 110 → k ≠ 108 → ¬ (k = 105 ∧ 5 ≤ j ∧ j ≤ 10) → ¬ (k = 106 ∧ j = 50 + 21 * p) → rd m2 k j = rd μ' k j := by
        intro μ' hR
        have key : ∀ (r k fu : Nat) (m : Mem), k + r = 7 → r + 1 < fu → (∀ k j, k ≠ 110 → k ≠ 108 → ¬ (k = 105 ∧ 5 ≤ j ∧ j ≤ 10) → ¬ (k = 106 ∧ j = 50 + 21 * p) → rd m k j = rd μ' k j) → ∃ m2, lp (fun q => f_X12_explained_l49 105 (nI p) (nI s) (nI (dk (T p))) q.1 q.2.1 q.2.2) fu ((-1 : Int32), nI k, m) = some ((if alk (fun k => !exE n nd cl wi bi gv N w p T sz num k) r k = 7 then -1 else nI (alk (fun k => !exE n nd cl wi bi gv N w p T sz num k) r k)), m2) ∧ ∀ k j, k ≠ 110 → k ≠ 108 → ¬ (k = 105 ∧ 5 ≤ j ∧ j ≤ 10) → ¬ (k = 106 ∧ j = 50 + 21 * p) → rd m2 k j = rd μ' k j := by
          intro r
          induction r with
          | zero =>
            intro k fu m hk hfu hm
            obtain ⟨fu', rfl⟩ : ∃ fu', fu = fu' + 1 := ⟨fu - 1, by omega⟩
            refine ⟨m, ?_, hm⟩
            rw [lp]
            show (f_X12_explained_l49 105 (nI p) (nI s) (nI (dk (T p))) (-1) (nI k) m).bind _ = _
            unfold f_X12_explained_l49
            rw [if_pos (show (6 : Int32) < nI k from nI_lt (a := 6) (by omega) (by omega)), bd_s, alk, if_pos (by omega)]
          | succ r ih =>
            intro k fu m hk hfu hm
            obtain ⟨fu', rfl⟩ : ∃ fu', fu = fu' + 1 := ⟨fu - 1, by omega⟩
            have K : ∀ j, j ≠ 50 + 21 * p → rd m 106 j = rd μ 106 j := fun j hj => by rw [hm 106 j (by omega) (by omega) (by omega) (by omega), hR 106 j (by omega) (by omega)]
            -- the kind put in place
            have Hk : TMt (wr m 106 (50 + 21 * p) (nI k)) 106 N w (up T p (kdD k (T p))) := by
              have H0 := TMt_kd (k := k) N4 (TW_s W) hp M
              have W1 := TW_kd (k := k) hp (show k ≤ 6 by omega) W
              refine TMt_cg N4 (TW_s W1) (fun j _ => ?_) H0
              by_cases e : j = 50 + 21 * p
              · rw [e, rd_wr_s, rd_wr_s]
              · rw [rd_wr_n (by omega), rd_wr_n (by omega), K j e]
            have Fk : FM (wr m 106 (50 + 21 * p) (nI k)) 106 n nd cl wi wt bi := FM_cg n8 (fun j _ => by rw [rd_wr_n (by omega), K j (by omega)]) F1
            obtain ⟨m1, a1, a2⟩ := bgM (m := wr m 106 (50 + 21 * p) (nI k)) (k := k) (s := s) (sz := sz) (num := num) Fk V (by rw [rd_wr_n (by omega), hm _ _ (by omega) (by omega) (by omega) (by omega), hR _ _ (by omega) (by omega)]; exact h.2.2.2.2.2.1) (LwM_cg (fun j _ => by rw [rd_wr_n (by omega), K j (by omega)]) L2) Hk W w9 hp (by omega) s4 (by rw [rd_wr_n (by omega), hm _ _ (by omega) (by omega) (by omega) (by omega), hR _ _ (by omega) (by omega)]; exact b6) b2' (fun i hi y hy => by rw [rd_wr_n (by omega), hm _ _ (by omega) (by omega) (by omega) (by omega), hR _ _ (by omega) (by omega)]; exact hn8 i hi y hy)
            have hst : f_X12_explained_l49 105 (nI p) (nI s) (nI (dk (T p))) (-1) (nI k) m = if exE n nd cl wi bi gv N w p T sz num k = true then some (.inl (nI k, nI (k + 1), m1)) else some (.inl (-1, nI (k + 1), m1)) := by
              unfold f_X12_explained_l49
              rw [if_neg (show ¬ (6 : Int32) < nI k from nI_nlt (a := 6) (by omega) (by omega)), if_neg (by decide), (e_setss p4 m _).1, bd_s, a1, bd_s, nI_1]
              cases exE n nd cl wi bi gv N w p T sz num k
              · rw [if_pos b2_f, if_neg (by decide)]
              · rw [if_neg (show ¬ b2 true = 0 by decide), if_pos rfl]
            have hm1 : ∀ k j, k ≠ 110 → k ≠ 108 → ¬ (k = 105 ∧ 5 ≤ j ∧ j ≤ 10) → ¬ (k = 106 ∧ j = 50 + 21 * p) → rd m1 k j = rd μ' k j := fun k' j c d e f => by rw [a2 k' j c d e, rd_wr_n (by omega), hm k' j c d e f]
            rw [lp]
            show ∃ m2, (f_X12_explained_l49 105 (nI p) (nI s) (nI (dk (T p))) (-1) (nI k) m).bind _ = _ ∧ _
            rw [hst]
            cases e : exE n nd cl wi bi gv N w p T sz num k
            · rw [if_neg (by decide), bd_s, alk_t (E := fun k => !exE n nd cl wi bi gv N w p T sz num k) (by show (!exE n nd cl wi bi gv N w p T sz num k) = true; rw [e]; rfl)]
              exact ih (k + 1) fu' m1 (by omega) (by omega) hm1
            · rw [if_pos rfl, bd_s, alk_f (E := fun k => !exE n nd cl wi bi gv N w p T sz num k) (by show (!exE n nd cl wi bi gv N w p T sz num k) = false; rw [e]; rfl), if_neg (by omega)]
              refine ⟨m1, ?_, hm1⟩
              obtain ⟨fu2, rfl⟩ : ∃ fu2, fu' = fu2 + 1 := ⟨fu' - 1, by omega⟩
              simp only
              rw [lp]
              show (f_X12_explained_l49 105 (nI p) (nI s) (nI (dk (T p))) (nI k) (nI (k + 1)) m1).bind _ = _
              unfold f_X12_explained_l49
              by_cases y : (6 : Int32) < nI (k + 1)
              · rw [if_pos y, bd_s]
              · rw [if_neg y, if_pos (show (0 : Int32) ≤ nI k from nI_pos' (by omega)), bd_s]
        exact key 7 0 FU μ' (by omega) (by unfold FU; omega) (fun _ _ _ _ _ _ => rfl)
      have fin : ∀ μ' : Mem, (∀ k j, 105 ≤ k → k ≠ 109 → rd μ' k j = rd μ k j) → ∃ m3, f_X12_explained μ' 105 (nI p) (nI s) = (if alk (fun k => !exE n nd cl wi bi gv N w p T sz num k) 7 0 = 7 then f_X12_finds m3 105 2 else some (nI (alk (fun k => !exE n nd cl wi bi gv N w p T sz num k) 7 0), m3)) ∧ ∀ k j, k ≠ 110 → k ≠ 108 → ¬ (k = 105 ∧ 5 ≤ j ∧ j ≤ 10) → rd m3 k j = rd μ' k j := by
        intro μ' hR
        obtain ⟨m2, y1, y2⟩ := lpM μ' hR
        have q1 : rd μ' 106 (50 + 21 * p) = nI (dk (T p)) := by rw [hR _ _ (by omega) (by omega)]; exact (M.2.2 p hp).1
        refine ⟨wr m2 106 (50 + 21 * p) (nI (dk (T p))), ?_, fun k j a b c => ?_⟩
        · unfold f_X12_explained f_X12_explained_j92
          rw [e_isDebM ((hR 106 1 (by omega) (by omega)).trans c2), bd_s, if_pos g1, if_neg (by decide), e_isSheetM, bd_s, if_pos g2, if_pos (by decide), ib_nI s4 (by omega), if_pos rfl]
          simp only [rfs, tn_nI (show s < 2 ^ 31 by omega)]
          rw [hR _ _ (by omega) (by omega), b4, if_pos (nI_ne0 (by omega) (by omega)), (e_ofs p4 μ').1, bd_s, q1, y1, bd_s]
          simp only
          rw [(e_setss p4 m2 _).1, bd_s, bd_p]
          by_cases z : alk (fun k => !exE n nd cl wi bi gv N w p T sz num k) 7 0 = 7
          · rw [if_pos z, if_neg (by decide), if_pos z]
          · rw [if_neg z, if_pos (nI_pos' (by omega)), if_neg z]
        · by_cases q : k = 106 ∧ j = 50 + 21 * p
          · obtain ⟨rfl, rfl⟩ := q
            rw [rd_wr_s, q1]
          · rw [rd_wr_n q, y2 k j a b c q]
      by_cases z : alk (fun k => !exE n nd cl wi bi gv N w p T sz num k) 7 0 = 7
      · rw [if_pos z] at x2
        subst x2
        have e1 : f_X11_refuse μ1 0 2 = _ := e_refuse μ1 2 (by omega)
        have X1 : f_X11_explained μ 0 (nI p) (nI s) = some (-1000000000 - nI 2, wr μ1 96 2 (rd μ1 96 2 + 1)) := by rw [X0]; exact e1
        obtain ⟨m3, y1, y2⟩ := fin (wr μ1 96 2 (rd μ1 96 2 + 1)) (fun k j c d => by rw [rd_wr_n (by omega), x3 k j (by omega) (by omega)])
        rw [if_pos z, show f_X12_finds m3 105 2 = _ from e_finds m3 2 (by omega)] at y1
        refine oks_go X1 y1 ?_
        refine R2_Re h (fun k j c d => ?_) (fun k hk => ?_)
        · rw [rd_wr_n (by omega), y2 k j (by omega) (by omega) (by omega), rd_wr_n (by omega), x3 k j (by omega) (by omega)]
        · have hre := h.2.2.1
          by_cases e : k = 2
          · subst e
            rw [rd_wr_n (by omega), rd_wr_s, y2 96 2 (by omega) (by omega) (by omega), rd_wr_s, y2 109 2 (by omega) (by omega) (by omega), rd_wr_n (by omega), x3 96 2 (by omega) (by omega), x3 109 2 (by omega) (by omega), hre 2 (by omega)]
          · rw [rd_wr_n (by omega), rd_wr_n (by omega), y2 96 k (by omega) (by omega) (by omega), rd_wr_n (by omega), y2 109 k (by omega) (by omega) (by omega), rd_wr_n (by omega), x3 96 k (by omega) (by omega), x3 109 k (by omega) (by omega), hre k hk]
      · rw [if_neg z] at x2
        subst x2
        obtain ⟨m3, y1, y2⟩ := fin μ1 (fun k j c d => x3 k j (by omega) (by omega))
        rw [if_neg z] at y1
        exact oks_go (by rw [X0]; rfl) y1 (R2_no h (fun k j c d => by rw [y2 k j (by omega) (by omega) (by omega), x3 k j (by omega) (by omega)]))
  · refine oks_ref (k := 1) h (by omega) ?_ ?_
    · unfold f_X11_explained f_X11_explained_j15
      rw [e_isDebX c1, bd_s, bd_p]
      by_cases g1 : (0 : Int32) ≤ a ∧ a ≤ nI N - 1
      · rw [if_pos g1, if_neg (by decide), e_isSheetX, bd_s, if_neg (fun q => g ⟨g1, q⟩), if_neg (by decide)]
        rfl
      · rw [if_neg g1, if_pos rfl]
        rfl
    · intro μ1 hR
      show f_X12_explained μ1 105 _ _ = _
      unfold f_X12_explained f_X12_explained_j15
      rw [e_isDebM ((hR 106 1 (by omega)).trans c2), bd_s, bd_p]
      by_cases g1 : (0 : Int32) ≤ a ∧ a ≤ nI N - 1
      · rw [if_pos g1, if_neg (by decide), e_isSheetM, bd_s, if_neg (fun q => g ⟨g1, q⟩), if_neg (by decide)]
        rfl
      · rw [if_neg g1, if_pos rfl]
        rfl
