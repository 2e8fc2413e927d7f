/-! PURE: what is open, what is overdue -/
def op0 (wi : Nat → Nat) (bi : Nat → Int32) (B f : Nat) : Bool := decide (0 < wi f) && !B.testBit (bi f).toNatClampNeg
def opE (wi : Nat → Nat) (bi : Nat → Int32) (B f : Nat) : Bool := B.testBit f && op0 wi bi B f
theorem e_isOpX {μ : Mem} {n : Nat} {nd cl wi wt : Nat → Nat} {bi : Nat → Int32} (H : FX μ 2 n nd cl wi wt bi) (V : FW n nd cl wi wt bi) {B f : Nat} (hB : B < 256) (hf : f < n) : f_X1_isOpen μ 2 (nI f) (nI B) = some (b2 (opE wi bi B f)) := by
  have n8 := V.1
  have f8 : f < 8 := by omega
  obtain ⟨p1, p2, p3, p4, p5⟩ := H.2 f hf
  obtain ⟨v1, v2, v3, v4, v5⟩ := V.2 f hf
  unfold f_X1_isOpen
  rw [shr_b hB f8, opE, op0]
  cases e : B.testBit f
  · rw [if_pos (by decide)]
    rfl
  · rw [if_neg (by decide), ib_nI f8 (by omega), if_pos rfl, if_pos rfl, tn_nI (by omega)]
    simp only [rfs]
    rw [show rd μ 5 f = nI (wi f) from p3, show rd μ 6 f = bi f from p4]
    rcases v5 with ⟨z1, z2⟩ | ⟨z1, b, z2, z3⟩
    · rw [if_pos (show nI (wi f) ≤ 0 from nI_le (b := 0) (by omega) (by omega)), decide_eq_false (show ¬ 0 < wi f by omega)]
      rfl
    · rw [if_neg (show ¬ nI (wi f) ≤ 0 from nI_ge (a := 0) (by omega) (by omega)), z3, shr_b hB (by omega), tn_nI (by omega), decide_eq_true z1]
      cases B.testBit b <;> rfl
theorem e_isOpM {μ : Mem} {n : Nat} {nd cl wi wt : Nat → Nat} {bi : Nat → Int32} (H : FM μ 106 n nd cl wi wt bi) (V : FW n nd cl wi wt bi) {B f : Nat} (hB : B < 256) (hf : f < n) : f_X12_isOpen μ 105 (nI f) (nI B) = some (b2 (op0 wi bi B f)) := by
  have n8 := V.1
  have f8 : f < 8 := by omega
  obtain ⟨p1, p2, p3, p4, p5⟩ := H.2 f hf
  obtain ⟨v1, v2, v3, v4, v5⟩ := V.2 f hf
  unfold f_X12_isOpen
  rw [(e_itss f8 μ).2.2.1, bd_s, p3, op0, (e_itss f8 μ).2.2.2.1, bd_s, p4]
  rcases v5 with ⟨z1, z2⟩ | ⟨z1, b, z2, z3⟩
  · rw [if_pos (show nI (wi f) ≤ 0 from nI_le (b := 0) (by omega) (by omega)), decide_eq_false (show ¬ 0 < wi f by omega)]
    rfl
  · rw [if_neg (show ¬ nI (wi f) ≤ 0 from nI_ge (a := 0) (by omega) (by omega)), z3, shr_b hB (by omega), tn_nI (by omega), decide_eq_true z1]
    cases B.testBit b <;> rfl
theorem e_openIn {μ : Mem} {n : Nat} {nd cl wi wt : Nat → Nat} {bi : Nat → Int32} (H : FX μ 2 n nd cl wi wt bi) (V : FW n nd cl wi wt bi) {B : Nat} (hB : B < 256) : f_X1_openIn μ 2 (nI B) = some (nI (bts (opE wi bi B) n)) := by
  have n8 := V.1
  unfold f_X1_openIn
  rw [lp_two (bts (opE wi bi B)) n (by omega) ?_ ?_ rfl, bd_s]
  · intro j hj
    simp only [f_X1_openIn_l4]
    rw [H.1, if_neg (nI_ge hj (by omega)), e_isOpX H V hB hj, bd_s, nI_1]
    cases e : opE wi bi B j
    · rw [if_pos b2_f, bts_f e]
    · rw [if_neg (by decide), bts_t e, shl_1 j (by omega), nI_or]
  · simp only [f_X1_openIn_l4]
    rw [H.1, if_pos (nI_le (Nat.le_refl _) (by omega))]
theorem sm_cg {F G : Nat → Nat} : ∀ N, (∀ q, q < N → F q = G q) → sm F N = sm G N := by
  intro N
  induction N with
  | zero => intro _; rfl
  | succ k ih =>
    intro h
    rw [sm, sm, ih (fun q hq => h q (by omega)), h k (by omega)]
theorem sm_cut {F : Nat → Nat} {n : Nat} : ∀ m, n ≤ m → (∀ i, n ≤ i → i < m → F i = 0) → sm F m = sm F n := by
  intro m
  induction m with
  | zero => intro h _; rw [show n = 0 by omega]
  | succ k ih =>
    intro h hz
    by_cases e : n = k + 1
    · rw [e]
    · rw [sm, hz k (by omega) (by omega), ih (by omega) (fun i h1 h2 => hz i h1 (by omega)), Nat.add_zero]
theorem sm_add (F G : Nat → Nat) : ∀ N, sm (fun q => F q + G q) N = sm F N + sm G N := by
  intro N
  induction N with
  | zero => rfl
  | succ k ih => rw [sm, sm, sm, ih]; omega
theorem sm_one (a c : Nat) : ∀ N, sm (fun q => if q = a then c else 0) N = if a < N then c else 0 := by
  intro N
  induction N with
  | zero => rfl
  | succ k ih =>
    rw [sm, ih]
    by_cases e : k = a
    · subst e
      rw [if_neg (by omega), if_pos rfl, if_pos (by omega)]; omega
    · rw [if_neg e]
      by_cases z : a < k
      · rw [if_pos z, if_pos (by omega), Nat.add_zero]
      · rw [if_neg z, if_neg (by omega)]
def b2n (b : Bool) : Nat := if b = true then 1 else 0
theorem b2n_b2 (b : Bool) : nI (b2n b) = b2 b := by cases b <;> rfl
theorem pc_bts {E : Nat → Bool} {n : Nat} (hn : n ≤ 8) : pc (bts E n) = sm (fun f => b2n (E f)) n := by
  have h : pc (bts E n) = sm (fun f => b2n (decide (f < n) && E f)) 8 := by
    refine sm_cg 8 fun i hi => ?_
    rw [← bts_tb E i n]
    cases e : (bts E n).testBit i
    · have h1 : ¬ bts E n / 2 ^ i % 2 = 1 := fun z => by rw [tb_iff.mp z] at e; cases e
      have := tb_lt (bts E n) i
      show bts E n / 2 ^ i % 2 = 0
      omega
    · exact tb_iff.mpr e
  rw [h, sm_cut 8 hn (fun i h1 h2 => by rw [decide_eq_false (by omega)]; rfl)]
  exact sm_cg n fun i hi => by rw [decide_eq_true hi, Bool.true_and]
theorem sm_bk {bk : Nat → Nat} {n : Nat} (G : Nat → Bool) : ∀ s, (∀ i, i < s → bk i < n) → (∀ i j, i < s → j < s → bk i = bk j → i = j) → sm (fun f => b2n ((bks bk s).testBit f && G f)) n = sm (fun i => b2n (G (bk i))) s := by
  intro s
  induction s with
  | zero =>
    intro _ _
    rw [show sm (fun i => b2n (G (bk i))) 0 = 0 from rfl]
    have := sm_cut (F := fun f => b2n ((bks bk 0).testBit f && G f)) n (Nat.zero_le n) (fun i _ _ => by simp [bks, b2n])
    rw [this]
    rfl
  | succ s ih =>
    intro h1 h2
    have nb : (bks bk s).testBit (bk s) = false := by
      cases e : (bks bk s).testBit (bk s)
      · rfl
      · obtain ⟨i, hi, he⟩ := bks_tb.mp e
        have := h2 i s (by omega) (by omega) he
        omega
    rw [sm, ← ih (fun i hi => h1 i (by omega)) (fun i j hi hj => h2 i j (by omega) (by omega))]
    have h3 := sm_one (bk s) (b2n (G (bk s))) n
    rw [if_pos (h1 s (by omega))] at h3
    rw [← h3, ← sm_add]
    refine sm_cg n fun f hf => ?_
    simp only [bks, Nat.testBit_or, Nat.testBit_two_pow]
    by_cases e : f = bk s
    · subst e
      rw [nb, if_pos rfl]
      simp [b2n]
    · rw [if_neg e, decide_eq_false (fun z => e z.symm), Bool.or_false, Nat.add_zero]
theorem e_openX {μ : Mem} {t n N w : Nat} {nd cl wi wt : Nat → Nat} {bi : Nat → Int32} {kd m db br s : Nat → Nat} {bk wk : Nat → Nat → Nat} (ht : t = 14 ∨ t = 69) (F : FX μ 2 n nd cl wi wt bi) (V : FW n nd cl wi wt bi) (hN : N ≤ 4) (H : TX μ t n N w kd m db br s bk wk) {p : Nat} (hp : p < N) (hb : ∀ i, i < s p → bk p i < n) (hi : ∀ i j, i < s p → j < s p → bk p i = bk p j → i = j) : f_X8_openOf μ t (nI p) = some (nI (sm (fun i => b2n (op0 wi bi (bks (bk p) (s p)) (bk p i))) (s p))) := by
  have n8 := V.1
  have B8 : bks (bk p) (s p) < 256 := bks_256 _ (fun i h => by have := hb i h; omega)
  unfold f_X8_openOf
  rw [ib_nI (show p < 4 by omega) (by omega), if_pos rfl]
  simp only [rf_tw ht, tn_nI (show p < 2 ^ 31 by omega), rf_d ht (show p < 4 by omega), (e_debX ht hN H hp).1]
  rw [e_openIn F V B8, bd_s, pcX _ (bts_lt _ _ n8), bd_s, pc_bts n8, ← sm_bk (fun f => op0 wi bi (bks (bk p) (s p)) f) (s p) hb hi]
  rfl
theorem e_openM {μ : Mem} {n N w : Nat} {nd cl wi wt : Nat → Nat} {bi : Nat → Int32} {kd m db br s : Nat → Nat} {bk wk : Nat → Nat → Nat} (F : FM μ 106 n nd cl wi wt bi) (V : FW n nd cl wi wt bi) (hN : N ≤ 4) (H : TM μ 106 n N w kd m db br s bk wk) {p : Nat} (hp : p < N) (hs : s p ≤ 8) (hb : ∀ i, i < s p → bk p i < n) : f_X12_openOf μ 105 (nI p) = some (nI (sm (fun i => b2n (op0 wi bi (bks (bk p) (s p)) (bk p i))) (s p))) := by
  have n8 := V.1
  have p4 : p < 4 := by omega
  have hb8 : ∀ i, i < s p → bk p i < 8 := fun i h => by have := hb i h; omega
  have B8 : bks (bk p) (s p) < 256 := bks_256 _ hb8
  obtain ⟨r1, r2, r3, r4, r5, r6⟩ := H.2.2 p hp
  unfold f_X12_openOf
  rw [e_bookOf p4 hs r5 (fun i hi => ⟨(r6 i hi).1, hb8 i hi⟩), bd_s, lp_two (sm (fun i => b2n (op0 wi bi (bks (bk p) (s p)) (bk p i)))) (s p) (by omega) ?_ ?_ rfl, bd_s]
  · intro j hj
    simp only [f_X12_openOf_l11]
    rw [(e_ofs p4 μ).2.2.2.2, bd_s, r5, if_neg (nI_ge hj (by omega)), (e_ofi p4 (show j < 8 by omega) μ).1, bd_s, (r6 j hj).1, e_isOpM F V B8 (hb j hj), bd_s, nI_1, sm]
    cases op0 wi bi (bks (bk p) (s p)) (bk p j)
    · rw [if_pos b2_f, show (0 : Int32) = nI 0 from rfl, nI_add]
      rfl
    · rw [if_neg (by decide), nI_1]
      rfl
  · simp only [f_X12_openOf_l11]
    rw [(e_ofs p4 μ).2.2.2.2, bd_s, r5, if_pos (nI_le (Nat.le_refl _) (by omega))]
theorem anyF_iff {E : Nat → Bool} : ∀ r k, anyF E r k = true ↔ ∃ i, i < r ∧ E (k + i) = true := by
  intro r
  induction r with
  | zero => intro k; simp [anyF]
  | succ r ih =>
    intro k
    cases e : E k
    · rw [anyF_f (by rw [e]; decide), ih]
      constructor
      · rintro ⟨i, h1, h2⟩
        exact ⟨i + 1, by omega, by rw [show k + (i + 1) = k + 1 + i by omega]; exact h2⟩
      · rintro ⟨i, h1, h2⟩
        cases i with
        | zero => rw [Nat.add_zero, e] at h2; cases h2
        | succ i => exact ⟨i, by omega, by rw [show k + 1 + i = k + (i + 1) by omega]; exact h2⟩
    · rw [anyF_t e]
      exact ⟨fun _ => ⟨0, by omega, e⟩, fun _ => rfl⟩
def ex (E : Nat → Bool) : Nat → Bool
  | 0 => false
  | k + 1 => ex E k || E k
theorem ex_iff {E : Nat → Bool} : ∀ k, ex E k = true ↔ ∃ i, i < k ∧ E i = true := by
  intro k
  induction k with
  | zero => simp [ex]
  | succ k ih =>
    rw [ex, Bool.or_eq_true, ih]
    constructor
    · rintro (⟨i, h1, h2⟩ | h)
      · exact ⟨i, by omega, h2⟩
      · exact ⟨k, by omega, h⟩
    · rintro ⟨i, h1, h2⟩
      by_cases z : i = k
      · subst z; exact Or.inr h2
      · exact Or.inl ⟨i, by omega, h2⟩
theorem bool_iff {a b : Bool} (h : a = true ↔ b = true) : a = b := by
  cases a <;> cases b <;> simp at h ⊢
def odE (wi : Nat → Nat) (bi : Nat → Int32) (B : Nat) (tw : Nat → Nat) (w f : Nat) : Bool := opE wi bi B f && decide (tw f + wi f ≤ w)
theorem e_odX {μ : Mem} {n : Nat} {nd cl wi wt : Nat → Nat} {bi : Nat → Int32} (H : FX μ 2 n nd cl wi wt bi) (V : FW n nd cl wi wt bi) {B k w : Nat} {tw : Nat → Nat} (hB : B < 256) (hk : ln k = 8) (hw : w < 1000000) (ht : ∀ f, f < n → B.testBit f = true → rd μ k f = nI (tw f) ∧ tw f < 1000000) : f_X1_anyOverdue μ 2 (nI B) k (nI w) = some (b2 (anyF (odE wi bi B tw w) n 0)) := by
  have n8 := V.1
  unfold f_X1_anyOverdue
  have := lp_any (body := fun q => f_X1_anyOverdue_l3 μ 2 (nI B) k (nI w) q) (odE wi bi B tw w) n 0 FU (by unfold FU; omega) ?_ ?_ ?_
  · rw [show (0 : Int32) = nI 0 from rfl, this, bd_s]
    cases anyF (odE wi bi B tw w) n 0 <;> rfl
  · intro i hi e
    simp only [Nat.zero_add] at e ⊢
    simp only [f_X1_anyOverdue_l3]
    rw [H.1, if_neg (nI_ge hi (by omega)), e_isOpX H V hB hi, bd_s, nI_1]
    cases q : opE wi bi B i
    · rw [if_pos b2_f]
    · rw [if_neg (by decide), hk, ib_nI (show i < 8 by omega) (by omega), if_pos rfl, if_pos rfl, tn_nI (by omega)]
      simp only [rfs]
      have q2 : B.testBit i = true := by
        rw [opE, Bool.and_eq_true] at q; exact q.1
      obtain ⟨t1, t2⟩ := ht i hi q2
      have w9 := (V.2 i hi).2.2.1
      rw [t1, show rd μ 5 i = nI (wi i) from (H.2 i hi).2.2.1, nI_add]
      rw [odE, q, Bool.true_and, decide_eq_false_iff_not] at e
      rw [if_pos (nI_lt (by omega) (by omega))]
  · intro i hi e
    simp only [Nat.zero_add] at e ⊢
    rw [odE, Bool.and_eq_true, decide_eq_true_eq] at e
    have q2 : B.testBit i = true := by
      have := e.1
      rw [opE, Bool.and_eq_true] at this; exact this.1
    obtain ⟨t1, t2⟩ := ht i hi q2
    have w9 := (V.2 i hi).2.2.1
    simp only [f_X1_anyOverdue_l3]
    rw [H.1, if_neg (nI_ge hi (by omega)), e_isOpX H V hB hi, bd_s, e.1, if_neg (by decide), hk, ib_nI (show i < 8 by omega) (by omega), if_pos rfl, if_pos rfl, tn_nI (by omega)]
    simp only [rfs]
    rw [t1, show rd μ 5 i = nI (wi i) from (H.2 i hi).2.2.1, nI_add, if_neg (nI_nlt e.2 (by omega))]
  · simp only [Nat.zero_add]
    simp only [f_X1_anyOverdue_l3]
    rw [H.1, if_pos (nI_le (Nat.le_refl _) (by omega))]
/-- one row of the BOOK is overdue -/
def odI (wi : Nat → Nat) (bi : Nat → Int32) (bk wk : Nat → Nat) (s w i : Nat) : Bool := op0 wi bi (bks bk s) (bk i) && decide (wk i + wi (bk i) ≤ w)
def odB (wi : Nat → Nat) (bi : Nat → Int32) (bk wk : Nat → Nat) (s w : Nat) : Bool := ex (odI wi bi bk wk s w) s
theorem od_eq {n : Nat} {wi : Nat → Nat} {bi : Nat → Int32} {bk wk tw : Nat → Nat} {s w : Nat} (hb : ∀ i, i < s → bk i < n ∧ tw (bk i) = wk i) : anyF (odE wi bi (bks bk s) tw w) n 0 = odB wi bi bk wk s w := by
  refine bool_iff ?_
  rw [anyF_iff, odB, ex_iff]
  constructor
  · rintro ⟨f, h1, h2⟩
    rw [Nat.zero_add, odE, opE, Bool.and_eq_true, Bool.and_eq_true, decide_eq_true_eq] at h2
    obtain ⟨i, hi, e⟩ := bks_tb.mp h2.1.1
    refine ⟨i, hi, ?_⟩
    rw [odI, Bool.and_eq_true, decide_eq_true_eq, e, ← (hb i hi).2, e]
    exact ⟨h2.1.2, h2.2⟩
  · rintro ⟨i, h1, h2⟩
    rw [odI, Bool.and_eq_true, decide_eq_true_eq] at h2
    refine ⟨bk i, (hb i h1).1, ?_⟩
    rw [Nat.zero_add, odE, opE, Bool.and_eq_true, Bool.and_eq_true, decide_eq_true_eq, (hb i h1).2]
    exact ⟨⟨bks_tb.mpr ⟨i, h1, rfl⟩, h2.1⟩, h2.2⟩
theorem e_odM {μ : Mem} {n N w : Nat} {nd cl wi wt : Nat → Nat} {bi : Nat → Int32} {kd m db br s : Nat → Nat} {bk wk : Nat → Nat → Nat} (F : FM μ 106 n nd cl wi wt bi) (V : FW n nd cl wi wt bi) (hN : N ≤ 4) (H : TM μ 106 n N w kd m db br s bk wk) (hw : w < 1000000) {p : Nat} (hp : p < N) (hs : s p ≤ 8) (hb : ∀ i, i < s p → bk p i < n ∧ wk p i < 1000000) : f_X12_isOverdue μ 105 (nI p) = some (b2 (odB wi bi (bk p) (wk p) (s p) w)) := by
  have n8 := V.1
  have p4 : p < 4 := by omega
  have hb8 : ∀ i, i < s p → bk p i < 8 := fun i h => by have := (hb i h).1; omega
  have B8 : bks (bk p) (s p) < 256 := bks_256 _ hb8
  obtain ⟨r1, r2, r3, r4, r5, r6⟩ := H.2.2 p hp
  have c2 : rd μ 106 3 = nI w := H.2.1
  unfold f_X12_isOverdue
  rw [e_bookOf p4 hs r5 (fun i hi => ⟨(r6 i hi).1, hb8 i hi⟩), bd_s, lp_two (fun k => b2n (ex (odI wi bi (bk p) (wk p) (s p) w) k)) (s p) (by omega) ?_ ?_ rfl, bd_s, b2n_b2, b2_bz, if_pos rfl]
  · rfl
  · intro j hj
    simp only [f_X12_isOverdue_l11, f_X12_isOverdue_j74, b2n_b2]
    rw [(e_ofs p4 μ).2.2.2.2, bd_s, r5, if_neg (nI_ge hj (by omega)), (e_ofi p4 (show j < 8 by omega) μ).1, bd_s, (r6 j hj).1, nI_1]
    cases e : ex (odI wi bi (bk p) (wk p) (s p) w) j
    · rw [if_neg (by decide), e_isOpM F V B8 (hb j hj).1, bd_s]
      simp only [ex, e, Bool.false_or, odI]
      cases z : op0 wi bi (bks (bk p) (s p)) (bk p j)
      · rw [if_pos b2_f]
        rfl
      · rw [if_neg (by decide), (e_ofi p4 (show j < 8 by omega) μ).2, bd_s, (r6 j hj).2, (e_itss (hb8 j hj) μ).2.2.1, bd_s, (F.2 _ (hb j hj).1).2.2.1, nI_add]
        simp only [rfs, cls, c2]
        have w9 := (V.2 _ (hb j hj).1).2.2.1
        have := (hb j hj).2
        by_cases y : wk p j + wi (bk p j) ≤ w
        · rw [if_neg (nI_nlt y (by omega)), decide_eq_true y]
          rfl
        · rw [if_pos (nI_lt (by omega) (by omega)), decide_eq_false y]
          rfl
    · rw [if_pos (by decide)]
      simp only [ex, e, Bool.true_or]
      rfl
  · simp only [f_X12_isOverdue_l11, b2n_b2]
    rw [(e_ofs p4 μ).2.2.2.2, bd_s, r5, if_pos (nI_le (Nat.le_refl _) (by omega))]
