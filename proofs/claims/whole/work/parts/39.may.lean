/-! PURE: booleans as numbers; counting bits; sets out of a test; who may tell -/
def b2 (b : Bool) : Int32 := if b = true then 1 else 0
theorem b2_0 (b : Bool) : (b2 b = 0) = (b = false) := by cases b <;> simp [b2]
theorem b2_1 (b : Bool) : (b2 b = 1) = (b = true) := by cases b <;> simp [b2]
theorem b2_t : b2 true = 1 := rfl
theorem b2_f : b2 false = 0 := rfl
theorem b2_d (p : Prop) [Decidable p] : (if p then (1 : Int32) else 0) = b2 (decide p) := by by_cases h : p <;> simp [h, b2]
theorem b2_bz (b : Bool) : bz (b2 b) = true := by cases b <;> rfl
theorem nIq {k : Nat} (h : k < 2 ^ 31) : (nI k = 0) = (k = 0) ∧ (nI k = 1) = (k = 1) ∧ (nI k = 2) = (k = 2) ∧ (nI k = 3) = (k = 3) ∧ (nI k = 4) = (k = 4) ∧ (nI k = 5) = (k = 5) ∧ (nI k = 6) = (k = 6) ∧ (nI k = 7) = (k = 7) := by
  have e : ∀ j, j < 2 ^ 31 → (nI k = nI j) = (k = j) := fun j hj => propext (nI_eq h hj)
  exact ⟨e 0 (by omega), e 1 (by omega), e 2 (by omega), e 3 (by omega), e 4 (by omega), e 5 (by omega), e 6 (by omega), e 7 (by omega)⟩
theorem shr_b {x i : Nat} (hx : x < 256) (hi : i < 8) : (jshr (nI x) (nI i)) &&& 1 = b2 (x.testBit i) := by
  rw [shr_1 x hx i hi]
  have t := tb_lt x i
  by_cases e : x / 2 ^ i % 2 = 1
  · rw [e, tb_iff.mp e]
    rfl
  · have h0 : x / 2 ^ i % 2 = 0 := by omega
    have h1 : x.testBit i = false := by
      cases q : x.testBit i
      · rfl
      · exact absurd (tb_iff.mpr q) e
    rw [h0, h1]
    rfl
theorem nI_xor (a b : Nat) : nI a ^^^ nI b = nI (a ^^^ b) := by
  apply Int32.toBitVec_inj.mp
  show BitVec.ofNat 32 a ^^^ BitVec.ofNat 32 b = BitVec.ofNat 32 (a ^^^ b)
  apply BitVec.eq_of_toNat_eq
  simp [Nat.xor_mod_two_pow]
/-- what of a isn't in B -/
def lk (a B : Nat) : Nat := a &&& (B ^^^ 4294967295)
theorem nI_lk (a B : Nat) : nI a &&& (nI B ^^^ (-1)) = nI (lk a B) := by
  rw [show (-1 : Int32) = nI 4294967295 from by decide, nI_xor, nI_and]
  rfl
theorem lk_lt {a B : Nat} (ha : a < 256) : lk a B < 256 := and_256 ha
def pc (x : Nat) : Nat := sm (fun i => x / 2 ^ i % 2) 8
theorem pcX : ∀ x, x < 256 → f_J6_bitCount_0f7a4 (nI x) = some (nI (pc x)) := by decide +kernel
theorem pcM : ∀ x, x < 256 → f_X12_ones (nI x) = some (nI (pc x)) := by decide +kernel
theorem pc_le : ∀ x, x < 256 → pc x ≤ 8 := by decide +kernel
/-- a set out of a test -/
def bts (E : Nat → Bool) : Nat → Nat
  | 0 => 0
  | k + 1 => if E k = true then bts E k ||| 2 ^ k else bts E k
theorem bts_t {E : Nat → Bool} {k : Nat} (h : E k = true) : bts E (k + 1) = bts E k ||| 2 ^ k := by rw [bts, if_pos h]
theorem bts_f {E : Nat → Bool} {k : Nat} (h : E k = false) : bts E (k + 1) = bts E k := by rw [bts, if_neg (by rw [h]; decide)]
theorem bts_lt (E : Nat → Bool) : ∀ k, k ≤ 8 → bts E k < 256 := by
  intro k
  induction k with
  | zero => intro _; exact (by decide : (0 : Nat) < 256)
  | succ k ih =>
    intro h
    cases e : E k
    · rw [bts_f e]; exact ih (by omega)
    · rw [bts_t e]; exact or_256 (ih (by omega)) (pow_256 (by omega))
theorem bts_tb (E : Nat → Bool) (f : Nat) : ∀ k, (bts E k).testBit f = (decide (f < k) && E f) := by
  intro k
  induction k with
  | zero => simp [bts]
  | succ k ih =>
    by_cases q : f = k
    · subst q
      cases e : E f
      · rw [bts_f e, ih]; simp
      · rw [bts_t e, Nat.testBit_or, Nat.testBit_two_pow]; simp
    · have h1 : decide (f < k + 1) = decide (f < k) := by
        by_cases z : f < k
        · rw [decide_eq_true z, decide_eq_true (by omega)]
        · rw [decide_eq_false z, decide_eq_false (by omega)]
      cases e : E k
      · rw [bts_f e, ih, h1]
      · rw [bts_t e, Nat.testBit_or, ih, Nat.testBit_two_pow, h1, decide_eq_false (show ¬ k = f from fun z => q z.symm), Bool.or_false]
theorem bts_cg {E E' : Nat → Bool} : ∀ k, (∀ f, f < k → E f = E' f) → bts E k = bts E' k := by
  intro k
  induction k with
  | zero => intro _; rfl
  | succ k ih =>
    intro h
    rw [bts, bts, ih (fun f hf => h f (by omega)), h k (by omega)]
/-- a KIND allows: lacks, goes with, read by another -/
def alw (kd m f l : Nat) (g r : Bool) : Bool :=
  if kd = 1 then g && (decide (l = 0) || r)
  else if kd = 2 then g && decide (l ≤ m % 3)
  else if kd = 3 then decide (l = 0)
  else if kd = 4 then g && (decide (l = 0) || r)
  else if kd = 5 then g && decide (l ≤ m % 3) && !decide (f = m)
  else if kd = 6 then decide (l = 0) && (g || decide (m % 2 = 1))
  else g && decide (l = 0)
theorem e_allows {kd m f l : Nat} (hk : kd ≤ 6) (hm : m ≤ 9) (hf : f < 8) (hl : l ≤ 8) (g r : Bool) : f_X1_allows (nI kd) (nI m) (nI f) (nI l) (b2 g) (b2 r) = some (b2 (alw kd m f l g r)) := by
  have q := nIq (k := kd) (by omega)
  have ql := nIq (k := l) (by omega)
  have e3 : jrem (nI m) 3 = nI (m % 3) := j_rem (y := 3) (by omega) (by omega) (by omega)
  have e2 : jrem (nI m) 2 = nI (m % 2) := j_rem (y := 2) (by omega) (by omega) (by omega)
  have q2 := nIq (k := m % 2) (by omega)
  have e4 : (nI (m % 3) < nI l) = (m % 3 < l) := propext (nI_ltI (by omega) (by omega))
  have e5 : (nI f = nI m) = (f = m) := propext (nI_eq (by omega) (by omega))
  unfold f_X1_allows alw
  simp only [q, ql, e3, e2, q2, e4, e5, b2_0]
  have : kd = 0 ∨ kd = 1 ∨ kd = 2 ∨ kd = 3 ∨ kd = 4 ∨ kd = 5 ∨ kd = 6 := by omega
  have h3 : ¬ m % 3 < l ↔ l ≤ m % 3 := by omega
  rcases this with rfl | rfl | rfl | rfl | rfl | rfl | rfl <;> cases g <;> cases r <;> by_cases z : l = 0 <;> by_cases y : m % 3 < l <;> by_cases x : f = m <;> by_cases u : m % 2 = 1 <;> simp [z, y, x, u, b2] <;> omega
/-- one with the BOOK B, the others' O, may tell f -/
def mtE (nd cl : Nat → Nat) (kd m B O f : Nat) : Bool := !B.testBit f && alw kd m f (pc (lk (nd f) B)) (decide (cl f &&& B = 0)) (O.testBit f)
theorem e_mayX {μ : Mem} {n : Nat} {nd cl wi wt : Nat → Nat} {bi : Nat → Int32} (H : FX μ 2 n nd cl wi wt bi) (V : FW n nd cl wi wt bi) {kd m B O : Nat} (hk : kd ≤ 6) (hm : m ≤ 9) (hB : B < 256) (hO : O < 256) : f_X1_mayTell μ 2 (nI kd) (nI m) (nI B) (nI O) = some (nI (bts (mtE nd cl kd m B O) n)) := by
  have n8 := V.1
  unfold f_X1_mayTell
  rw [lp_two (bts (mtE nd cl kd m B O)) n (by omega) ?_ ?_ rfl, bd_s]
  · intro j hj
    have j8 : j < 8 := by omega
    obtain ⟨p1, p2, p3, p4, p5⟩ := H.2 j hj
    obtain ⟨v1, v2, v3, v4, v5⟩ := V.2 j hj
    have c8 := and_256 (b := B) v2
    simp only [f_X1_mayTell_l6]
    rw [H.1, if_neg (nI_ge hj (by omega)), shr_b hB j8]
    have key : ∀ nw : Bool, nw = !B.testBit j → f_X1_mayTell_j29 μ 2 (nI kd) (nI m) (nI B) (nI O) (nI (bts (mtE nd cl kd m B O) j)) (nI j) (b2 nw) = some (.inl (nI (bts (mtE nd cl kd m B O) (j + 1)), nI (j + 1))) := by
      intro nw hnw
      have k66 : ∀ g r : Bool, g = decide (cl j &&& B = 0) → r = O.testBit j → f_X1_mayTell_j66 μ 2 (nI kd) (nI m) (nI B) (nI O) (nI (bts (mtE nd cl kd m B O) j)) (nI j) (b2 nw) (b2 r) (b2 g) = some (.inl (nI (bts (mtE nd cl kd m B O) (j + 1)), nI (j + 1))) := by
        intro g r hg hr
        unfold f_X1_mayTell_j66
        rw [ib_nI j8 (by omega), if_pos rfl, tn_nI (by omega)]
        simp only [rfs]
        rw [show rd μ 3 j = nI (nd j) from p1, nI_lk, pcX _ (lk_lt v1), bd_s, nI_1]
        have hE : mtE nd cl kd m B O j = (nw && alw kd m j (pc (lk (nd j) B)) g r) := by rw [mtE, hnw, hg, hr]
        cases nw
        · rw [if_pos b2_f, bts_f (by rw [hE]; rfl)]
        · rw [if_neg (by decide), e_allows hk hm j8 (pc_le _ (lk_lt v1)), bd_s]
          cases e : alw kd m j (pc (lk (nd j) B)) g r
          · rw [if_pos b2_f, bts_f (by rw [hE, e]; rfl)]
          · rw [if_neg (by decide), bts_t (by rw [hE, e]; rfl), shl_1 j j8, nI_or]
      have k47 : ∀ r : Bool, r = O.testBit j → f_X1_mayTell_j47 μ 2 (nI kd) (nI m) (nI B) (nI O) (nI (bts (mtE nd cl kd m B O) j)) (nI j) (b2 nw) (b2 r) = some (.inl (nI (bts (mtE nd cl kd m B O) (j + 1)), nI (j + 1))) := by
        intro r hr
        unfold f_X1_mayTell_j47
        rw [ib_nI j8 (by omega), if_pos rfl, tn_nI (by omega)]
        simp only [rfs]
        rw [show rd μ 4 j = nI (cl j) from p2, nI_and]
        by_cases z : cl j &&& B = 0
        · rw [if_neg (not_not_intro (by rw [z]; rfl)), show (1 : Int32) = b2 true from rfl]
          exact k66 true r (by rw [decide_eq_true z]) hr
        · rw [if_pos (nI_ne0 (by omega) (by omega)), show (0 : Int32) = b2 false from rfl]
          exact k66 false r (by rw [decide_eq_false z]) hr
      unfold f_X1_mayTell_j29
      rw [shr_b hO j8]
      cases e : O.testBit j
      · rw [if_pos (by decide), show (0 : Int32) = b2 false from rfl]
        exact k47 false e.symm
      · rw [if_neg (by decide), show (1 : Int32) = b2 true from rfl]
        exact k47 true e.symm
    skip
    cases e : B.testBit j
    · rw [if_neg (by decide), show (1 : Int32) = b2 true from rfl]
      exact key true (by rw [e]; rfl)
    · rw [if_pos (by decide), show (0 : Int32) = b2 false from rfl]
      exact key false (by rw [e]; rfl)
  · simp only [f_X1_mayTell_l6]
    rw [H.1, if_pos (nI_le (Nat.le_refl _) (by omega))]
/-- all that the others have told -/
def oth (Bq : Nat → Nat) (p : Nat) : Nat → Nat
  | 0 => 0
  | k + 1 => if k = p then oth Bq p k else oth Bq p k ||| Bq k
theorem oth_lt {Bq : Nat → Nat} {p : Nat} : ∀ N, (∀ q, q < N → Bq q < 256) → oth Bq p N < 256 := by
  intro N
  induction N with
  | zero => intro _; exact (by decide : (0 : Nat) < 256)
  | succ k ih =>
    intro h
    rw [oth]
    split
    · exact ih (fun q hq => h q (by omega))
    · exact or_256 (ih (fun q hq => h q (by omega))) (h k (by omega))
theorem oth_tb {Bq : Nat → Nat} {p f : Nat} : ∀ N, (oth Bq p N).testBit f = true ↔ ∃ q, q < N ∧ q ≠ p ∧ (Bq q).testBit f = true := by
  intro N
  induction N with
  | zero => simp [oth]
  | succ k ih =>
    rw [oth]
    by_cases e : k = p
    · rw [if_pos e, ih]
      constructor
      · rintro ⟨q, h1, h2, h3⟩; exact ⟨q, by omega, h2, h3⟩
      · rintro ⟨q, h1, h2, h3⟩; exact ⟨q, by omega, h2, h3⟩
    · rw [if_neg e, Nat.testBit_or, Bool.or_eq_true, ih]
      constructor
      · rintro (⟨q, h1, h2, h3⟩ | h)
        · exact ⟨q, by omega, h2, h3⟩
        · exact ⟨k, by omega, e, h⟩
      · rintro ⟨q, h1, h2, h3⟩
        by_cases z : q = k
        · subst z; exact Or.inr h3
        · exact Or.inl ⟨q, by omega, h2, h3⟩
theorem oth_cg {Bq Bq' : Nat → Nat} {p : Nat} : ∀ N, (∀ q, q < N → q ≠ p → Bq q = Bq' q) → oth Bq p N = oth Bq' p N := by
  intro N
  induction N with
  | zero => intro _; rfl
  | succ k ih =>
    intro h
    rw [oth, oth, ih (fun q hq => h q (by omega))]
    by_cases e : k = p
    · rw [if_pos e, if_pos e]
    · rw [if_neg e, if_neg e, h k (by omega) e]
theorem e_othX {μ : Mem} {t n N w : Nat} {kd m db br s : Nat → Nat} {bk wk : Nat → Nat → Nat} (ht : t = 14 ∨ t = 69) (hN : N ≤ 4) (H : TX μ t n N w kd m db br s bk wk) {p : Nat} (hp : p < 4) : f_X8_othersOf μ t (nI p) = some (nI (oth (fun q => bks (bk q) (s q)) p N)) := by
  unfold f_X8_othersOf
  rw [lp_two (oth (fun q => bks (bk q) (s q)) p) N (by omega) ?_ ?_ rfl, bd_s]
  · intro j hj
    simp only [f_X8_othersOf_l4, H.1, rf_tw ht, tn_nI (show j < 2 ^ 31 by omega), rf_d ht (show j < 4 by omega), (e_debX ht hN H hj).1]
    rw [if_neg (nI_ge hj (by omega)), nI_1]
    by_cases e : j = p
    · rw [if_pos (by rw [e]), oth, if_pos e]
    · rw [if_neg (fun z => e ((nI_eq (by omega) (by omega)).mp z)), ib_nI (show j < 4 by omega) (by omega), if_pos rfl, nI_or, oth, if_neg e]
  · simp only [f_X8_othersOf_l4, H.1]
    rw [if_pos (nI_le (Nat.le_refl _) (by omega))]
theorem sm_pos {F : Nat → Nat} : ∀ N, 0 < sm F N ↔ ∃ q, q < N ∧ 0 < F q := by
  intro N
  induction N with
  | zero => simp [sm]
  | succ k ih =>
    rw [sm]
    constructor
    · intro h
      by_cases z : 0 < sm F k
      · obtain ⟨q, h1, h2⟩ := ih.mp z
        exact ⟨q, by omega, h2⟩
      · exact ⟨k, by omega, by omega⟩
    · rintro ⟨q, h1, h2⟩
      by_cases z : q = k
      · subst z; omega
      · have := ih.mpr ⟨q, by omega, h2⟩
        omega
theorem sm_le {F : Nat → Nat} {c : Nat} (h : ∀ q, F q ≤ c) : ∀ N, sm F N ≤ c * N := by
  intro N
  induction N with
  | zero => simp [sm]
  | succ k ih =>
    rw [sm, Nat.mul_succ]
    have := h k
    omega
theorem e_j48 {μ : Mem} {p : Nat} {kd m f l : Nat} (hp : p < 4) (hk : kd ≤ 6) (hm : m ≤ 9) (hf : f < 8) (hl : l ≤ 8) (h0 : rd μ 106 (50 + 21 * p) = nI kd) (h1 : rd μ 106 (51 + 21 * p) = nI m) {c : Nat} (hc : c < 100) (h2 : f_X12_booksWith μ 105 (nI f) = some (nI c)) (g : Bool) : f_X12_mayTell_j48 μ 105 (nI p) (nI f) (nI l) (b2 g) = some (b2 (alw kd m f l g (decide (0 < c)))) := by
  have q := nIq (k := kd) (by omega)
  have ql := nIq (k := l) (by omega)
  have e3 : jrem (nI m) 3 = nI (m % 3) := j_rem (y := 3) (by omega) (by omega) (by omega)
  have e2 : jrem (nI m) 2 = nI (m % 2) := j_rem (y := 2) (by omega) (by omega) (by omega)
  have q2 := nIq (k := m % 2) (by omega)
  have e4 : (nI (m % 3) < nI l) = (m % 3 < l) := propext (nI_ltI (by omega) (by omega))
  have e5 : (nI f = nI m) = (f = m) := propext (nI_eq (by omega) (by omega))
  have e6 : (nI c ≤ 0) = (c ≤ 0) := propext (nI_leI (b := 0) (by omega) (by omega))
  unfold f_X12_mayTell_j48 alw
  simp only [e_ofs hp, h0, h1, h2, bd_s, q, ql, e3, e2, q2, e4, e5, e6, b2_0]
  have : kd = 0 ∨ kd = 1 ∨ kd = 2 ∨ kd = 3 ∨ kd = 4 ∨ kd = 5 ∨ kd = 6 := by omega
  rcases this with rfl | rfl | rfl | rfl | rfl | rfl | rfl <;> cases g <;> by_cases v : c ≤ 0 <;> by_cases z : l = 0 <;> by_cases y : m % 3 < l <;> by_cases x : f = m <;> by_cases u : m % 2 = 1 <;> simp [z, y, x, u, v, b2] <;> omega
theorem e_mayM {μ : Mem} {n N w : Nat} {nd cl wi wt : Nat → Nat} {bi : Nat → Int32} {kd m db br s : Nat → Nat} {bk wk : Nat → Nat → Nat} (H : FM μ 106 n nd cl wi wt bi) (V : FW n nd cl wi wt bi) (hN : N ≤ 4) (T : TM μ 106 n N w kd m db br s bk wk) (hs : ∀ p, p < N → s p ≤ 8 ∧ ∀ i, i < s p → bk p i < 8) {p f O : Nat} (hp : p < N) (hk : kd p ≤ 6) (hm : m p ≤ 9) (hf : f < n) (hO : ∀ f, f < n → (O.testBit f = true ↔ ∃ q, q < N ∧ q ≠ p ∧ (bks (bk q) (s q)).testBit f = true)) : f_X12_mayTell μ 105 (nI p) (nI f) = some (b2 (mtE nd cl (kd p) (m p) (bks (bk p) (s p)) O f)) := by
  have n8 := V.1
  have f8 : f < 8 := by omega
  have p4 : p < 4 := by omega
  obtain ⟨r1, r2, r3, r4, r5, r6⟩ := T.2.2 p hp
  obtain ⟨u1, u2, u3, u4, u5⟩ := H.2 f hf
  obtain ⟨v1, v2, v3, v4, v5⟩ := V.2 f hf
  have B8 : bks (bk p) (s p) < 256 := bks_256 _ (hs p hp).2
  unfold f_X12_mayTell
  rw [e_bookOf p4 (hs p hp).1 r5 (fun i hi => ⟨(r6 i hi).1, (hs p hp).2 i hi⟩), bd_s, shr_b B8 f8]
  have c8 := and_256 (b := bks (bk p) (s p)) v2
  cases e : (bks (bk p) (s p)).testBit f
  · rw [if_pos (by decide), (e_itss f8 μ).1, bd_s, u1, nI_lk, pcM _ (lk_lt v1), bd_s, (e_itss f8 μ).2.1, bd_s, u2, nI_and]
    have bw := e_booksM hN T hs f8
    have cl8 : sm (fun q => bks (bk q) (s q) / 2 ^ f % 2) N < 100 := by
      have := sm_le (F := fun q => bks (bk q) (s q) / 2 ^ f % 2) (c := 1) (fun q => by have := tb_lt (bks (bk q) (s q)) f; show _ % 2 ≤ 1; omega) N
      omega
    have J := fun g => e_j48 p4 hk hm f8 (pc_le _ (lk_lt (B := bks (bk p) (s p)) v1)) r1 r2 cl8 bw g
    have ho : decide (0 < sm (fun q => bks (bk q) (s q) / 2 ^ f % 2) N) = O.testBit f := by
      have h1 : (0 < sm (fun q => bks (bk q) (s q) / 2 ^ f % 2) N) ↔ O.testBit f = true := by
        rw [sm_pos, hO f hf]
        constructor
        · rintro ⟨q, z1, z2⟩
          have z3 : (bks (bk q) (s q)).testBit f = true := tb_iff.mp (by have := tb_lt (bks (bk q) (s q)) f; omega)
          exact ⟨q, z1, (fun y => by rw [y, e] at z3; cases z3), z3⟩
        · rintro ⟨q, z1, z2, z3⟩
          exact ⟨q, z1, by have := tb_iff.mpr z3; omega⟩
      cases y : O.testBit f
      · exact decide_eq_false (fun z => by rw [h1.mp z] at y; cases y)
      · exact decide_eq_true (h1.mpr y)
    rw [mtE, e]
    by_cases z : cl f &&& bks (bk p) (s p) = 0
    · rw [if_neg (not_not_intro (by rw [z]; rfl)), show (1 : Int32) = b2 true from rfl, J, ho, decide_eq_true z]
      rfl
    · rw [if_pos (nI_ne0 (by omega) (by omega)), show (0 : Int32) = b2 false from rfl, J, ho, decide_eq_false z]
      rfl
  · rw [if_neg (by decide), mtE, e]
    rfl
theorem e_allM {μ : Mem} {n N w : Nat} {nd cl wi wt : Nat → Nat} {bi : Nat → Int32} {kd m db br s : Nat → Nat} {bk wk : Nat → Nat → Nat} (H : FM μ 106 n nd cl wi wt bi) (V : FW n nd cl wi wt bi) (hN : N ≤ 4) (T : TM μ 106 n N w kd m db br s bk wk) (hs : ∀ p, p < N → s p ≤ 8 ∧ ∀ i, i < s p → bk p i < 8) {p O : Nat} (hp : p < N) (hk : kd p ≤ 6) (hm : m p ≤ 9) (hO : ∀ f, f < n → (O.testBit f = true ↔ ∃ q, q < N ∧ q ≠ p ∧ (bks (bk q) (s q)).testBit f = true)) : f_X12_allMay μ 105 (nI p) = some (nI (bts (mtE nd cl (kd p) (m p) (bks (bk p) (s p)) O) n)) := by
  have n8 := V.1
  unfold f_X12_allMay
  rw [lp_two (bts (mtE nd cl (kd p) (m p) (bks (bk p) (s p)) O)) n (by omega) ?_ ?_ rfl, bd_s]
  · intro j hj
    simp only [f_X12_allMay_l4, rfs, cls]
    rw [H.1, if_neg (nI_ge hj (by omega)), e_mayM H V hN T hs hp hk hm hj hO, bd_s, nI_1]
    cases e : mtE nd cl (kd p) (m p) (bks (bk p) (s p)) O j
    · rw [if_pos b2_f, bts_f e, show (0 : Int32) = nI 0 from rfl, nI_or, Nat.or_zero]
    · rw [if_neg (by decide), bts_t e, shl_1 j (by omega), nI_or]
  · simp only [f_X12_allMay_l4, rfs, cls]
    rw [H.1, if_pos (nI_le (Nat.le_refl _) (by omega))]
