/-! PURE: numbers, reads behind writes, the small functions, the relation -/
theorem rd_wr (μ : Mem) (k j a b : Nat) (v : Int32) : rd (wr μ a b v) k j = if k = a ∧ j = b then v else rd μ k j := rfl
theorem rd_wl (μ : Mem) (k j a b : Nat) (v : Int64) : rd (wl μ a b v) k j = rd μ k j := rfl
theorem rl_wr (μ : Mem) (k j a b : Nat) (v : Int32) : rl (wr μ a b v) k j = rl μ k j := rfl
theorem rl_wl (μ : Mem) (k j a b : Nat) (v : Int64) : rl (wl μ a b v) k j = if k = a ∧ j = b then v else rl μ k j := rfl
theorem rd_cpy (μ : Mem) (k1 sp k2 dp n k j : Nat) : rd (cpy μ k1 sp k2 dp n) k j = if k = k2 ∧ dp ≤ j ∧ j < dp + n then rd μ k1 (sp + (j - dp)) else rd μ k j := rfl
theorem rd_wr_s (μ : Mem) (k j : Nat) (v : Int32) : rd (wr μ k j v) k j = v := by simp [rd_wr]
theorem rd_wr_n {μ : Mem} {k j a b : Nat} {v : Int32} (h : ¬ (k = a ∧ j = b)) : rd (wr μ a b v) k j = rd μ k j := by simp [rd_wr, h]
theorem bd_s {α β : Type} (a : α) (f : α → Option β) : (some a).bind f = f a := rfl
/-- small numbers -/
theorem tn_nI {n : Nat} (h : n < 2 ^ 31) : (nI n).toNatClampNeg = n := nI_clamp h
theorem ib_nI {n N : Nat} (h : n < N) (hN : N < 2 ^ 31) : ib (nI n) N = true := by
  have h1 : (nI n).toInt = (n : Int) := nI_toInt (by omega)
  simp only [ib, h1, Bool.and_eq_true, decide_eq_true_eq]
  omega
theorem i32_eq {a b : Int32} (h : a.toInt = b.toInt) : a = b := Int32.toInt_inj.mp h
theorem i32_le {a b : Int32} : a ≤ b ↔ a.toInt ≤ b.toInt := Int32.le_iff_toInt_le
theorem i32_lt {a b : Int32} : a < b ↔ a.toInt < b.toInt := Int32.lt_iff_toInt_lt
theorem nI_c {n : Nat} (h : n < 2147483648) : (nI n).toInt = (n : Int) := nI_toInt h
/-- between -/
def btw (a l h : Int32) : Prop := l ≤ a ∧ a ≤ h
theorem e_among (a l h : Int32) : f_X11_among a l h = some (if l ≤ a ∧ a ≤ h then 1 else 0) := by
  unfold f_X11_among
  by_cases h1 : a < l
  · have h2 : ¬ (l ≤ a ∧ a ≤ h) := fun q => by rw [i32_le, i32_le] at q; rw [i32_lt] at h1; omega
    rw [if_pos h1, if_neg h2]
  · by_cases h3 : h < a
    · have h2 : ¬ (l ≤ a ∧ a ≤ h) := fun q => by rw [i32_le, i32_le] at q; rw [i32_lt] at h3; omega
      rw [if_neg h1, if_pos h3, if_neg h2]
    · have h2 : l ≤ a ∧ a ≤ h := by rw [i32_le, i32_le]; rw [i32_lt] at h1 h3; omega
      rw [if_neg h1, if_neg h3, if_pos h2]
theorem i64_le {a b : Int64} : a ≤ b ↔ a.toInt ≤ b.toInt := Int64.le_iff_toInt_le
theorem i64_lt {a b : Int64} : a < b ↔ a.toInt < b.toInt := Int64.lt_iff_toInt_lt
theorem cmp_lt (a b : Int64) : lg_cmp a b < 0 ↔ a < b := by
  unfold lg_cmp
  by_cases h1 : a > b
  · rw [if_pos h1]
    refine ⟨fun q => absurd q (by decide), fun q => ?_⟩
    rw [gt_iff_lt, i64_lt] at h1
    rw [i64_lt] at q
    omega
  · rw [if_neg h1]
    by_cases h2 : a = b
    · rw [if_pos h2]
      refine ⟨fun q => absurd q (by decide), fun q => ?_⟩
      rw [h2, i64_lt] at q
      omega
    · rw [if_neg h2]
      refine ⟨fun _ => ?_, fun _ => by decide⟩
      rw [gt_iff_lt, i64_lt] at h1
      rw [i64_lt]
      have h3 : a.toInt ≠ b.toInt := fun e => h2 (Int64.toInt_inj.mp e)
      omega
theorem cmp_gt (a b : Int64) : 0 < lg_cmp a b ↔ b < a := by
  unfold lg_cmp
  by_cases h1 : a > b
  · rw [if_pos h1]
    exact ⟨fun _ => h1, fun _ => by decide⟩
  · rw [if_neg h1]
    by_cases h2 : a = b
    · rw [if_pos h2]
      exact ⟨fun q => absurd q (by decide), fun q => absurd q h1⟩
    · rw [if_neg h2]
      exact ⟨fun q => absurd q (by decide), fun q => absurd q h1⟩
theorem to64 (a : Int32) : a.toInt64.toInt = a.toInt := by simp
theorem e_in (a l h : Int32) : f_X12_in a.toInt64 l.toInt64 h.toInt64 = some (if l ≤ a ∧ a ≤ h then 1 else 0) := by
  unfold f_X12_in
  have e1 : (lg_cmp a.toInt64 l.toInt64 < 0) ↔ a.toInt < l.toInt := by rw [cmp_lt, i64_lt, to64, to64]
  have e2 : (0 < lg_cmp a.toInt64 h.toInt64) ↔ h.toInt < a.toInt := by rw [cmp_gt, i64_lt, to64, to64]
  have e3 : (l ≤ a ∧ a ≤ h) ↔ (l.toInt ≤ a.toInt ∧ a.toInt ≤ h.toInt) := by rw [i32_le, i32_le]
  by_cases h1 : a.toInt < l.toInt
  · rw [if_pos (e1.mpr h1), if_neg (fun q => by have := e3.mp q; omega)]
  · by_cases h3 : h.toInt < a.toInt
    · rw [if_neg (fun q => h1 (e1.mp q)), if_pos (e2.mpr h3), if_neg (fun q => by have := e3.mp q; omega)]
    · rw [if_neg (fun q => h1 (e1.mp q)), if_neg (fun q => h3 (e2.mp q)), if_pos (e3.mpr (by omega))]
theorem e_refuse (μ : Mem) (k : Nat) (hk : k < 6) : f_X11_refuse μ 0 (nI k) = some (-1000000000 - nI k, wr μ 96 k (rd μ 96 k + 1)) := by
  unfold f_X11_refuse
  rw [ib_nI hk (by omega), if_pos rfl, if_pos rfl, bd_s, tn_nI (by omega)]
  rfl
theorem e_finds (μ : Mem) (k : Nat) (hk : k < 6) : f_X12_finds μ 105 (nI k) = some (-1000000000 - nI k, wr μ 109 k (rd μ 109 k + 1)) := by
  unfold f_X12_finds
  rw [ib_nI hk (by omega), if_pos rfl, if_pos rfl, bd_s, tn_nI (by omega)]
  rfl
/-! THE RELATION. Class cells of μx, model cells of μm. -/
/-- facts: n of them; needs, clashes, within, by, witnesses -/
def FX (μ : Mem) (f n : Nat) (nd cl wi wt : Nat → Nat) (bi : Nat → Int32) : Prop := rd μ f 5 = nI n ∧ ∀ i, i < n → rd μ (f + 1) i = nI (nd i) ∧ rd μ (f + 2) i = nI (cl i) ∧ rd μ (f + 3) i = nI (wi i) ∧ rd μ (f + 4) i = bi i ∧ rd μ (f + 5) i = nI (wt i)
def FM (μ : Mem) (D n : Nat) (nd cl wi wt : Nat → Nat) (bi : Nat → Int32) : Prop := rd μ D 0 = nI n ∧ ∀ i, i < n → rd μ D (10 + 5 * i) = nI (nd i) ∧ rd μ D (11 + 5 * i) = nI (cl i) ∧ rd μ D (12 + 5 * i) = nI (wi i) ∧ rd μ D (13 + 5 * i) = bi i ∧ rd μ D (14 + 5 * i) = nI (wt i)
def FW (n : Nat) (nd cl wi wt : Nat → Nat) (bi : Nat → Int32) : Prop := n ≤ 8 ∧ ∀ i, i < n → nd i < 256 ∧ cl i < 256 ∧ wi i ≤ 9 ∧ wt i < 32 ∧ ((wi i = 0 ∧ bi i = -1) ∨ (0 < wi i ∧ ∃ b, b < n ∧ bi i = nI b))
/-- the bits of a book -/
def bks (bk : Nat → Nat) : Nat → Nat
  | 0 => 0
  | s + 1 => bks bk s ||| 2 ^ bk s
/-- one debtor: kind, m, debt, broken, how many told, the facts and the weeks -/
def DX (μ : Mem) (c : Nat) (kd m db br s : Nat) (bk wk : Nat → Nat) : Prop := rd μ c 2 = nI (bks bk s) ∧ rd μ c 3 = nI s ∧ rd μ c 4 = nI kd ∧ rd μ c 5 = nI m ∧ rd μ c 6 = nI db ∧ rd μ c 7 = nI br ∧ ∀ i, i < s → rd μ (c + 1) i = nI (bk i) ∧ rd μ (c + 2) (bk i) = nI (wk i)
def DM (μ : Mem) (D p : Nat) (kd m db br s : Nat) (bk wk : Nat → Nat) : Prop := rd μ D (50 + 21 * p) = nI kd ∧ rd μ D (51 + 21 * p) = nI m ∧ rd μ D (52 + 21 * p) = nI db ∧ rd μ D (53 + 21 * p) = nI br ∧ rd μ D (54 + 21 * p) = nI s ∧ ∀ i, i < s → rd μ D (55 + 21 * p + i) = nI (bk i) ∧ rd μ D (63 + 21 * p + i) = nI (wk i)
def DW (n w kd m db br s : Nat) (bk wk : Nat → Nat) : Prop := kd ≤ 6 ∧ m ≤ 9 ∧ db ≤ 9999 ∧ br ≤ 1 ∧ s ≤ 8 ∧ (∀ i, i < s → bk i < n ∧ wk i ≤ w) ∧ ∀ i j, i < s → j < s → bk i = bk j → i = j
def TX (μ : Mem) (t n N w : Nat) (kd m db br s : Nat → Nat) (bk wk : Nat → Nat → Nat) : Prop := rd μ t 3 = nI N ∧ rd μ t 4 = nI w ∧ ∀ p, p < N → DX μ (t + 2 + 3 * p) (kd p) (m p) (db p) (br p) (s p) (bk p) (wk p)
def TM (μ : Mem) (D n N w : Nat) (kd m db br s : Nat → Nat) (bk wk : Nat → Nat → Nat) : Prop := rd μ D 1 = nI N ∧ rd μ D 3 = nI w ∧ ∀ p, p < N → DM μ D p (kd p) (m p) (db p) (br p) (s p) (bk p) (wk p)
def TW (n N w W : Nat) (kd m db br s : Nat → Nat) (bk wk : Nat → Nat → Nat) : Prop := N ≤ 4 ∧ w ≤ W ∧ ∀ p, p < N → DW n w (kd p) (m p) (db p) (br p) (s p) (bk p) (wk p)
/-- facts and debtors together; the week at most W -/
def RFE (μx : Mem) (f t : Nat) (μm : Mem) (D W : Nat) : Prop := ∃ (n : Nat) (nd cl wi wt : Nat → Nat) (bi : Nat → Int32) (N w : Nat) (kd m db br s : Nat → Nat) (bk wk : Nat → Nat → Nat), FX μx f n nd cl wi wt bi ∧ FM μm D n nd cl wi wt bi ∧ FW n nd cl wi wt bi ∧ TX μx t n N w kd m db br s bk wk ∧ TM μm D n N w kd m db br s bk wk ∧ TW n N w W kd m db br s bk wk
/-- whether one is broken, also of those that aren't there yet -/
def BZt (μ : Mem) (t : Nat) : Prop := ∀ p, p < 4 → bz (rd μ (t + 2 + 3 * p) 7) = true
def RFT (μx : Mem) (f t : Nat) (μm : Mem) (D W : Nat) : Prop := BZt μx t ∧ RFE μx f t μm D W
/-- meetings: the class keeps them by weeks -/
abbrev Mt : Type := Nat × Nat × Nat
def mins (x : Mt) : List Mt → List Mt
  | [] => [x]
  | y :: l => if x.1 < y.1 then x :: y :: l else y :: mins x l
def msrt : List Mt → List Mt
  | [] => []
  | x :: l => mins x (msrt l)
def MX (μ : Mem) (c : Nat) (l : List Mt) : Prop := rd μ c 3 = nI l.length ∧ ∀ i x, l[i]? = some x → rd μ (c + 1) i = nI x.1 ∧ rd μ (c + 2) i = nI x.2.1 ∧ rd μ (c + 3) i = nI x.2.2
def MM (μ : Mem) (D : Nat) (l : List Mt) : Prop := rd μ D 2 = nI l.length ∧ ∀ i x, l[i]? = some x → rd μ D (134 + 3 * i) = nI x.1 ∧ rd μ D (135 + 3 * i) = nI x.2.1 ∧ rd μ D (136 + 3 * i) = nI x.2.2
def RMe (μx : Mem) (c : Nat) (μm : Mem) (D : Nat) : Prop := ∃ l : List Mt, l.length ≤ 12 ∧ (∀ x ∈ l, x.1 ≤ 999 ∧ x.2.1 < 5 ∧ x.2.2 < 5 ∧ x.2.1 ≠ x.2.2) ∧ MX μx c (msrt l.reverse) ∧ MM μm D l
def RTp (μx : Mem) (c : Nat) (μm : Mem) (D : Nat) : Prop := ∃ n : Nat, n ≤ 50 ∧ rd μx c 1 = nI n ∧ rd μm D 5 = nI n ∧ ∀ i, i < n → ∃ b : Nat, b < 256 ∧ rd μx (c + 1) i = nI b ∧ rd μm D (292 + i) = nI b
def RWa (μx : Mem) (c k : Nat) (μm : Mem) (D : Nat) : Prop := ∃ n : Nat, n ≤ 20 ∧ rd μx c 7 = nI n ∧ rd μm D 6 = nI n ∧ ∀ i, i < n → rd μx k i = rd μm D (172 + i)
