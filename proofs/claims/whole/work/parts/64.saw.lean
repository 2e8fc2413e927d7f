/-! PURE: who witnessed what by which week -/
abbrev twd (d : Dt) (f : Nat) : Nat := twf (dbk d) (dwk d) (ds d) f
/-- the first week of a fact; 1000: none -/
def fw (T : Nat → Dt) (f : Nat) : Nat → Nat
  | 0 => 1000
  | p + 1 => if (dB (T p)).testBit f = true then min (fw T f p) (twd (T p) f) else fw T f p
def fwI (x : Nat) : Int32 := if x ≤ 999 then nI x else -1
theorem fwI_neg {x : Nat} : fwI x < 0 ↔ ¬ x ≤ 999 := by
  unfold fwI
  by_cases z : x ≤ 999
  · rw [if_pos z]; exact ⟨fun q => absurd q (nI_pos (by omega)), fun q => absurd z q⟩
  · rw [if_neg z]; exact ⟨fun _ => z, fun _ => by decide⟩
theorem fw_le (T : Nat → Dt) (f : Nat) : ∀ p, fw T f p ≤ 1000 := by
  intro p
  induction p with
  | zero => exact Nat.le_refl _
  | succ p ih => rw [fw]; split <;> omega
theorem twd_at {n w : Nat} {d : Dt} (h : DWt n w d) {f : Nat} (hb : (dB d).testBit f = true) : ∃ i, i < ds d ∧ dbk d i = f ∧ twd d f = dwk d i ∧ dwk d i ≤ w := by
  obtain ⟨i, hi, e⟩ := bks_tb.mp hb
  refine ⟨i, hi, e, ?_, (h.2.2.2.2.2.1 i hi).2⟩
  rw [← e]
  exact twf_at _ h.2.2.2.2.2.2 i hi
theorem fw_iff {T : Nat → Dt} {f W : Nat} (hW : W ≤ 999) : ∀ N, fw T f N ≤ W ↔ ∃ p, p < N ∧ (dB (T p)).testBit f = true ∧ twd (T p) f ≤ W := by
  intro N
  induction N with
  | zero => exact ⟨fun q => by rw [fw] at q; omega, fun ⟨p, hp, _⟩ => by omega⟩
  | succ N ih =>
    rw [fw]
    constructor
    · intro q
      by_cases z : (dB (T N)).testBit f = true
      · rw [if_pos z] at q
        by_cases y : twd (T N) f ≤ W
        · exact ⟨N, by omega, z, y⟩
        · obtain ⟨p, a, b⟩ := ih.mp (by omega)
          exact ⟨p, by omega, b⟩
      · rw [if_neg z] at q
        obtain ⟨p, a, b⟩ := ih.mp q
        exact ⟨p, by omega, b⟩
    · rintro ⟨p, a, b, c⟩
      by_cases e : p = N
      · subst e
        rw [if_pos b]
        omega
      · have := ih.mpr ⟨p, by omega, b, c⟩
        split <;> omega
theorem e_firstX {μ : Mem} {n N w f : Nat} {T : Nat → Dt} (n8 : n ≤ 8) (w9 : w ≤ 999) (hf : f < n) (H : TXt μ 14 N w T) (W : TWt n N w T) : f_X8_firstWeekOf μ 14 (nI f) = some (fwI (fw T f N)) := by
  have N4 := W.1
  unfold f_X8_firstWeekOf
  obtain ⟨r, r1, r2⟩ : ∃ r, lp (fun s : Int32 × Int32 => f_X8_firstWeekOf_l4 μ 14 (nI f) s.1 s.2) FU ((-1 : Int32), (0 : Int32)) = some r ∧ r = fwI (fw T f N) := by
    refine lp_I (fun j q => q.1 = fwI (fw T f j) ∧ q.2 = nI j) N _ (by omega) ⟨rfl, rfl⟩ ?_ ?_
    · rintro j ⟨v, v'⟩ hj ⟨e1, e2⟩
      simp only at e1 e2
      subst e1 e2
      have p4 : j < 4 := by omega
      obtain ⟨p1, p2, p3, p4', p5, p6, p7⟩ := H.2.2 j hj
      refine ⟨(fwI (fw T f (j + 1)), nI (j + 1)), ?_, rfl, rfl⟩
      show f_X8_firstWeekOf_l4 μ 14 (nI f) (fwI (fw T f j)) (nI j) = _
      unfold f_X8_firstWeekOf_l4
      obtain ⟨q1, q2, q3⟩ := rf_d (t := 14) (Or.inl rfl) p4
      rw [H.1, if_neg (nI_ge hj (by omega)), ib_nI p4 (by omega), if_pos rfl]
      simp only [rfs, tn_nI (show j < 2 ^ 31 by omega), q1]
      rw [p1, show nI (bks (dbk (T j)) (ds (T j))) = nI (dB (T j)) from rfl, shr_b (i := f) (DWt_B n8 (W.2.2 j hj)) (by omega), nI_1, fw]
      show (if ¬ b2 ((dB (T j)).testBit f) = 1 then _ else _) = _
      by_cases z : (dB (T j)).testBit f = true
      · obtain ⟨i, i1, i2, i3, i4⟩ := twd_at (W.2.2 j hj) z
        have rw1 : rd μ (14 + 4 + 3 * j) f = nI (twd (T j) f) := by
          rw [i3, ← i2]
          rw [show 14 + 4 + 3 * j = 14 + 2 + 3 * j + 2 by omega]
          exact (p7 i i1).2
        have J : f_X8_firstWeekOf_j48 μ 14 (nI f) (nI j) (14 + 2 + 3 * j) = some (.inl (nI (twd (T j) f), nI (j + 1))) := by
          unfold f_X8_firstWeekOf_j48
          rw [ib_nI (show f < 8 by omega) (by omega), if_pos rfl, q3, tn_nI (by omega), rw1, nI_1]
        rw [if_neg (by rw [z]; decide), if_pos z]
        by_cases y : fw T f j ≤ 999
        · rw [if_neg (fun q => fwI_neg.mp q y), ib_nI (show f < 8 by omega) (by omega), if_pos rfl, q3, tn_nI (by omega), rw1]
          have e : fwI (fw T f j) = nI (fw T f j) := by unfold fwI; rw [if_pos y]
          rw [e]
          by_cases u : fw T f j ≤ twd (T j) f
          · rw [if_pos (nI_le u (by omega)), Nat.min_eq_left u, e]
          · rw [if_neg (nI_ge (by omega) (by omega)), J, Nat.min_eq_right (by omega)]
            unfold fwI
            rw [if_pos (by omega)]
        · rw [if_pos (fwI_neg.mpr y), J, Nat.min_eq_right (by omega)]
          unfold fwI
          rw [if_pos (by omega)]
      · rw [if_pos (by rw [Bool.eq_false_iff.mpr z]; decide), if_neg z]
    · rintro ⟨v, v'⟩ ⟨e1, e2⟩
      simp only at e1 e2
      subst e1 e2
      refine ⟨fwI (fw T f N), ?_, rfl⟩
      show f_X8_firstWeekOf_l4 μ 14 (nI f) (fwI (fw T f N)) (nI N) = _
      unfold f_X8_firstWeekOf_l4
      rw [H.1, if_pos (nI_le (Nat.le_refl _) (by omega))]
  rw [r1, bd_s, r2]
/-- the facts that a figure has seen by a week -/
def swE (wt : Nat → Nat) (T : Nat → Dt) (N g W f : Nat) : Bool := (wt f).testBit g && decide (fw T f N ≤ W)
def sw (n : Nat) (wt : Nat → Nat) (T : Nat → Dt) (N g W : Nat) : Nat := bts (swE wt T N g W) n
theorem sw_256 {n : Nat} (hn : n ≤ 8) (wt : Nat → Nat) (T : Nat → Dt) (N g W : Nat) : sw n wt T N g W < 256 := bts_lt _ _ hn
theorem e_witX {μ : Mem} {n N w : Nat} {nd cl wi wt : Nat → Nat} {bi : Nat → Int32} {T : Nat → Dt} (F : FX μ 2 n nd cl wi wt bi) (V : FW n nd cl wi wt bi) (w9 : w ≤ 999) (H : TXt μ 14 N w T) (W : TWt n N w T) {g k : Nat} (hg : g < 5) (hk : k ≤ 999) : f_X10_witnessed μ 1 (nI g) (nI k) = some (nI (sw n wt T N g k)) := by
  have n8 := V.1
  unfold f_X10_witnessed
  rw [lp_two (bts (swE wt T N g k)) n (by omega) ?_ ?_ rfl, bd_s]
  · rfl
  · intro j hj
    simp only [f_X10_witnessed_l5, rfs]
    rw [F.1, if_neg (nI_ge hj (by omega)), e_firstX n8 w9 hj H W, bd_s, ib_nI (show j < 8 by omega) (by omega), if_pos rfl, tn_nI (by omega)]
    have r7 : rd μ 7 j = nI (wt j) := (F.2 j hj).2.2.2.2
    rw [r7, shr_b (by have := (V.2 j hj).2.2.2.1; omega) (by omega), nI_1, shl_1 j (by omega), nI_or]
    by_cases z : (wt j).testBit g = true
    · rw [if_neg (by rw [z]; decide)]
      by_cases y : fw T j N ≤ k
      · have E : swE wt T N g k j = true := by unfold swE; rw [z, decide_eq_true y]; rfl
        have e : fwI (fw T j N) = nI (fw T j N) := by unfold fwI; rw [if_pos (by omega)]
        rw [if_neg (fun q => fwI_neg.mp q (by omega)), e, if_neg (nI_nlt y (by omega)), bts_t E]
      · have E : swE wt T N g k j = false := by unfold swE; rw [decide_eq_false y, Bool.and_false]
        by_cases u : fw T j N ≤ 999
        · have e : fwI (fw T j N) = nI (fw T j N) := by unfold fwI; rw [if_pos u]
          rw [if_neg (fun q => fwI_neg.mp q u), e, if_pos (nI_lt (by omega) (by omega)), bts_f E]
        · rw [if_pos (fwI_neg.mpr u), bts_f E]
    · have E : swE wt T N g k j = false := by unfold swE; rw [Bool.eq_false_iff.mpr z]; rfl
      rw [if_pos (by rw [Bool.eq_false_iff.mpr z]; decide), bts_f E]
  · simp only [f_X10_witnessed_l5, rfs]
    rw [F.1, if_pos (nI_le (Nat.le_refl _) (by omega))]
/-- the same, row by row -/
def inn (wt : Nat → Nat) (g W : Nat) (d : Dt) (x : Nat) : Nat → Nat
  | 0 => x
  | i + 1 => if dwk d i ≤ W ∧ (wt (dbk d i)).testBit g = true then inn wt g W d x i ||| 2 ^ dbk d i else inn wt g W d x i
def swM (wt : Nat → Nat) (T : Nat → Dt) (g W : Nat) : Nat → Nat
  | 0 => 0
  | p + 1 => inn wt g W (T p) (swM wt T g W p) (ds (T p))
theorem inn_tb {wt : Nat → Nat} {g W : Nat} {d : Dt} {x f : Nat} : ∀ i, (inn wt g W d x i).testBit f = true ↔ x.testBit f = true ∨ ∃ j, j < i ∧ dwk d j ≤ W ∧ (wt (dbk d j)).testBit g = true ∧ dbk d j = f := by
  intro i
  induction i with
  | zero => exact ⟨fun q => Or.inl q, fun q => q.elim (fun q => q) (fun ⟨j, hj, _⟩ => absurd hj (Nat.not_lt_zero j))⟩
  | succ i ih =>
    rw [inn]
    by_cases z : dwk d i ≤ W ∧ (wt (dbk d i)).testBit g = true
    · rw [if_pos z, Nat.testBit_or, Nat.testBit_two_pow, Bool.or_eq_true, decide_eq_true_eq, ih]
      constructor
      · rintro ((q | ⟨j, a, b⟩) | q)
        · exact Or.inl q
        · exact Or.inr ⟨j, by omega, b⟩
        · exact Or.inr ⟨i, by omega, z.1, z.2, q⟩
      · rintro (q | ⟨j, a, b, c, e⟩)
        · exact Or.inl (Or.inl q)
        · by_cases y : j = i
          · subst y; exact Or.inr e
          · exact Or.inl (Or.inr ⟨j, by omega, b, c, e⟩)
    · rw [if_neg z, ih]
      constructor
      · rintro (q | ⟨j, a, b⟩)
        · exact Or.inl q
        · exact Or.inr ⟨j, by omega, b⟩
      · rintro (q | ⟨j, a, b, c, e⟩)
        · exact Or.inl q
        · by_cases y : j = i
          · subst y; exact absurd ⟨b, c⟩ z
          · exact Or.inr ⟨j, by omega, b, c, e⟩
theorem swM_tb {wt : Nat → Nat} {T : Nat → Dt} {g W f : Nat} : ∀ N, (swM wt T g W N).testBit f = true ↔ ∃ p, p < N ∧ ∃ j, j < ds (T p) ∧ dwk (T p) j ≤ W ∧ (wt (dbk (T p) j)).testBit g = true ∧ dbk (T p) j = f := by
  intro N
  induction N with
  | zero => exact ⟨fun q => (by rw [swM, Nat.zero_testBit] at q; cases q), fun ⟨p, hp, _⟩ => absurd hp (Nat.not_lt_zero p)⟩
  | succ N ih =>
    rw [swM, inn_tb, ih]
    constructor
    · rintro (⟨p, a, b⟩ | q)
      · exact ⟨p, by omega, b⟩
      · exact ⟨N, by omega, q⟩
    · rintro ⟨p, a, b⟩
      by_cases e : p = N
      · subst e; exact Or.inr b
      · exact Or.inl ⟨p, by omega, b⟩
theorem swM_eq {n N w : Nat} {wt : Nat → Nat} {T : Nat → Dt} (W : TWt n N w T) {g k : Nat} (hk : k ≤ 999) : swM wt T g k N = sw n wt T N g k := by
  apply Nat.eq_of_testBit_eq
  intro f
  apply bool_iff
  unfold sw swE
  rw [swM_tb, bts_tb, Bool.and_eq_true, Bool.and_eq_true, decide_eq_true_eq, decide_eq_true_eq, fw_iff hk]
  constructor
  · rintro ⟨p, hp, j, a, b, c, e⟩
    have d := W.2.2 p hp
    subst e
    refine ⟨(d.2.2.2.2.2.1 j a).1, c, p, hp, bks_tb.mpr ⟨j, a, rfl⟩, ?_⟩
    rw [twd, twf_at _ d.2.2.2.2.2.2 j a]
    exact b
  · rintro ⟨a, b, p, hp, c, e⟩
    obtain ⟨i, i1, i2, i3, i4⟩ := twd_at (W.2.2 p hp) c
    exact ⟨p, hp, i, i1, by rw [← i3]; exact e, by rw [i2]; exact b, i2⟩
theorem e_sawM {μ : Mem} {n N w : Nat} {nd cl wi wt : Nat → Nat} {bi : Nat → Int32} {T : Nat → Dt} (F : FM μ 106 n nd cl wi wt bi) (V : FW n nd cl wi wt bi) (w9 : w ≤ 999) (H : TMt μ 106 N w T) (W : TWt n N w T) {g k : Nat} (hg : g < 5) (hk : k ≤ 999) : f_X12_saw μ 105 (nI g) (nI k) = some (nI (sw n wt T N g k)) := by
  have n8 := V.1
  have N4 := W.1
  unfold f_X12_saw
  rw [lp_two (swM wt T g k) N (by omega) ?_ ?_ rfl, bd_s, swM_eq W hk]
  · intro p hp
    have p4 : p < 4 := by omega
    obtain ⟨r1, r2, r3, r4, r5, r6⟩ := H.2.2 p hp
    obtain ⟨d1, d2, d3, d4, d5, d6, d7⟩ := W.2.2 p hp
    simp only [f_X12_saw_l5, rfs, cls]
    rw [H.1, if_neg (nI_ge hp (by omega))]
    obtain ⟨r, x1, x2⟩ : ∃ r, lp (fun s : Int32 × Int32 => f_X12_saw_l19 μ 105 (nI g) (nI k) (nI p) s.1 s.2) FU (nI (swM wt T g k p), (0 : Int32)) = some r ∧ r = nI (swM wt T g k (p + 1)) := by
      refine lp_I (fun j q => q.1 = nI (inn wt g k (T p) (swM wt T g k p) j) ∧ q.2 = nI j) (ds (T p)) _ (by omega) ⟨rfl, rfl⟩ ?_ ?_
      · rintro j ⟨v, v'⟩ hj ⟨e1, e2⟩
        simp only at e1 e2
        subst e1 e2
        refine ⟨(nI (inn wt g k (T p) (swM wt T g k p) (j + 1)), nI (j + 1)), ?_, rfl, rfl⟩
        show f_X12_saw_l19 μ 105 (nI g) (nI k) (nI p) _ (nI j) = _
        have b8 := (d6 j hj).1
        have wk9 := (d6 j hj).2
        have j8 : j < 8 := by omega
        have t14 : rd μ 106 (14 + 5 * dbk (T p) j) = nI (wt (dbk (T p) j)) := (F.2 _ b8).2.2.2.2
        unfold f_X12_saw_l19 f_X12_saw_j81
        rw [(e_ofs p4 μ).2.2.2.2, bd_s, r5, if_neg (nI_ge hj (by omega)), (e_ofi p4 j8 μ).1, bd_s, (e_ofi p4 j8 μ).2, bd_s, (r6 j hj).1, (r6 j hj).2, (e_itss (show dbk (T p) j < 8 by omega) μ).2.2.2.2, bd_s, t14, shr_b (by have := (V.2 _ b8).2.2.2.1; omega) (by omega), shl_1 _ (by omega), nI_1, inn, nI_or, show (0 : Int32) = nI 0 from rfl, nI_or, Nat.or_zero]
        by_cases y : dwk (T p) j ≤ k
        · rw [if_neg (nI_nlt y (by omega))]
          by_cases z : (wt (dbk (T p) j)).testBit g = true
          · rw [if_neg (by rw [z]; decide), if_pos ⟨y, z⟩]
          · rw [if_pos (by rw [Bool.eq_false_iff.mpr z]; decide), if_neg (fun q => z q.2)]
        · rw [if_pos (nI_lt (by omega) (by omega)), if_neg (fun q => y q.1)]
      · rintro ⟨v, v'⟩ ⟨e1, e2⟩
        simp only at e1 e2
        subst e1 e2
        refine ⟨nI (swM wt T g k (p + 1)), ?_, rfl⟩
        show f_X12_saw_l19 μ 105 (nI g) (nI k) (nI p) _ (nI (ds (T p))) = _
        unfold f_X12_saw_l19
        rw [(e_ofs p4 μ).2.2.2.2, bd_s, r5, if_pos (nI_le (Nat.le_refl _) (by omega))]
        rfl
    rw [x1, bd_s, x2, nI_1]
  · simp only [f_X12_saw_l5, rfs, cls]
    rw [H.1, if_pos (nI_le (Nat.le_refl _) (by omega))]
