/-! PURE: the tree of rows -/
/-- a row so far: how long, the book, the weeks, the facts -/
abbrev Nd : Type := Nat × Nat × (Nat → Nat) × (Nat → Nat)
/-- what was found: the length and one, 0 if nothing; the facts -/
abbrev Bt : Type := Nat × (Nat → Nat)
def vsL (g : Nat → Bt → Bt) : Nat → Bt → Bt
  | 0, β => β
  | f + 1, β => g f (vsL g f β)
section
variable (n w : Nat) (may opn : Nat → Nat → Bool) (wi : Nat → Nat) (c : Bool)
def chd (ν : Nd) (f : Nat) : Nd := (ν.1 + 1, ν.2.1 ||| 2 ^ f, up ν.2.2.1 f (w + ν.1), up ν.2.2.2 ν.1 f)
def odN (B : Nat) (τ : Nat → Nat) (k : Nat) : Bool := anyF (fun f => (B.testBit f && opn B f) && decide (τ f + wi f ≤ k)) n 0
def okN (ν : Nd) (f : Nat) : Bool := may ν.2.1 f && !odN n opn wi (ν.2.1 ||| 2 ^ f) (up ν.2.2.1 f (w + ν.1)) (w + ν.1)
def opB (B : Nat) : Bool := decide (bts (fun f => B.testBit f && opn B f) n = 0)
def bet (β : Bt) (d B : Nat) : Bool := if c = true then (decide (β.1 = 0) || decide (d + 1 < β.1)) && opB n opn B else decide (β.1 ≤ d)
def bup (β : Bt) (ν : Nd) : Bt := if bet n opn c β ν.1 ν.2.1 = true then (ν.1 + 1, ν.2.2.2) else β
def vsN : Nat → Nd → Bt → Bt
  | 0, ν, β => bup n opn c β ν
  | r + 1, ν, β => vsL (fun f β => if okN n w may opn wi ν f = true then vsN r (chd w ν f) β else β) n (bup n opn c β ν)
def AbT : Nat → Nd → Bt → Prop
  | 0, ν, β => bet n opn c β ν.1 ν.2.1 = false
  | r + 1, ν, β => bet n opn c β ν.1 ν.2.1 = false ∧ ∀ f, f < n → okN n w may opn wi ν f = true → AbT r (chd w ν f) β
def LeN (ν' ν : Nd) : Prop := ν'.1 = ν.1 ∧ ν'.2.1 = ν.2.1 ∧ ∀ f, ν.2.1.testBit f = true → opn ν.2.1 f = true → ν'.2.2.1 f ≤ ν.2.2.1 f
end
section
variable {n w : Nat} {may opn : Nat → Nat → Bool} {wi : Nat → Nat} {c : Bool}
theorem bup_f {β : Bt} {ν : Nd} (h : bet n opn c β ν.1 ν.2.1 = false) : bup n opn c β ν = β := by
  unfold bup
  rw [if_neg (by rw [h]; decide)]
theorem bet_mono {β : Bt} {ν : Nd} {d B : Nat} (h : bet n opn c β d B = false) : bet n opn c (bup n opn c β ν) d B = false := by
  unfold bup
  by_cases z : bet n opn c β ν.1 ν.2.1 = true
  · rw [if_pos z]
    unfold bet at h z ⊢
    cases c
    · rw [if_neg (by decide)] at h z ⊢
      rw [decide_eq_false_iff_not] at h ⊢
      rw [decide_eq_true_eq] at z
      show ¬ ν.1 + 1 ≤ d
      omega
    · rw [if_pos rfl] at h z ⊢
      rw [Bool.and_eq_false_iff] at h ⊢
      rcases h with h | h
      · refine Or.inl ?_
        rw [Bool.or_eq_false_iff, decide_eq_false_iff_not, decide_eq_false_iff_not] at h ⊢
        rw [Bool.and_eq_true, Bool.or_eq_true, decide_eq_true_eq, decide_eq_true_eq] at z
        show ¬ ν.1 + 1 = 0 ∧ ¬ d + 1 < ν.1 + 1
        have := z.1
        omega
      · exact Or.inr h
  · rw [if_neg z]; exact h
theorem bet_self (β : Bt) (ν : Nd) : bet n opn c (bup n opn c β ν) ν.1 ν.2.1 = false := by
  unfold bup
  by_cases z : bet n opn c β ν.1 ν.2.1 = true
  · rw [if_pos z]
    unfold bet
    cases c
    · rw [if_neg (by decide), decide_eq_false_iff_not]
      show ¬ ν.1 + 1 ≤ ν.1
      omega
    · rw [if_pos rfl, Bool.and_eq_false_iff]
      refine Or.inl ?_
      rw [Bool.or_eq_false_iff, decide_eq_false_iff_not, decide_eq_false_iff_not]
      show ¬ ν.1 + 1 = 0 ∧ ¬ ν.1 + 1 < ν.1 + 1
      omega
  · rw [if_neg z]
    exact Bool.eq_false_iff.mpr z
theorem vsL_mono {g : Nat → Bt → Bt} (P : Bt → Prop) (h : ∀ f β, P β → P (g f β)) : ∀ k β, P β → P (vsL g k β) := by
  intro k
  induction k with
  | zero => intro β hβ; exact hβ
  | succ k ih => intro β hβ; exact h _ _ (ih β hβ)
theorem V_mono (P : Bt → Prop) (h : ∀ β ν, P β → P (bup n opn c β ν)) : ∀ r ν β, P β → P (vsN n w may opn wi c r ν β) := by
  intro r
  induction r with
  | zero => intro ν β hβ; exact h _ _ hβ
  | succ r ih =>
    intro ν β hβ
    rw [vsN]
    refine vsL_mono P (fun f β hβ => ?_) n _ (h _ _ hβ)
    split
    · exact ih _ _ hβ
    · exact hβ
theorem AbT_upd : ∀ r ν β ν', AbT n w may opn wi c r ν β → AbT n w may opn wi c r ν (bup n opn c β ν') := by
  intro r
  induction r with
  | zero => intro ν β ν' h; exact bet_mono h
  | succ r ih => intro ν β ν' h; exact ⟨bet_mono h.1, fun f hf ho => ih _ _ _ (h.2 f hf ho)⟩
theorem AbT_V {r r' : Nat} {ν ν' : Nd} {β : Bt} (h : AbT n w may opn wi c r ν β) : AbT n w may opn wi c r ν (vsN n w may opn wi c r' ν' β) :=
  V_mono (fun β => AbT n w may opn wi c r ν β) (fun β ν' hβ => AbT_upd r ν β ν' hβ) r' ν' β h
theorem V_ab : ∀ r ν β, AbT n w may opn wi c r ν β → vsN n w may opn wi c r ν β = β := by
  intro r
  induction r with
  | zero => intro ν β h; exact bup_f h
  | succ r ih =>
    intro ν β h
    rw [vsN, bup_f h.1]
    have : ∀ k, k ≤ n → vsL (fun f β => if okN n w may opn wi ν f = true then vsN n w may opn wi c r (chd w ν f) β else β) k β = β := by
      intro k
      induction k with
      | zero => intro _; rfl
      | succ k ihk =>
        intro hk
        rw [vsL, ihk (by omega)]
        by_cases z : okN n w may opn wi ν k = true
        · rw [if_pos z]; exact ih _ _ (h.2 k (by omega) z)
        · rw [if_neg z]
    exact this n (Nat.le_refl _)
theorem V_self : ∀ r ν β, AbT n w may opn wi c r ν (vsN n w may opn wi c r ν β) := by
  intro r
  induction r with
  | zero => intro ν β; exact bet_self β ν
  | succ r ih =>
    intro ν β
    rw [vsN]
    have st : ∀ (P : Bt → Prop), (∀ β ν, P β → P (bup n opn c β ν)) → ∀ f β, P β → P ((fun f β => if okN n w may opn wi ν f = true then vsN n w may opn wi c r (chd w ν f) β else β) f β) := by
      intro P hP f β hβ
      simp only
      split
      · exact V_mono P hP _ _ _ hβ
      · exact hβ
    refine ⟨?_, fun f hf ho => ?_⟩
    · exact vsL_mono (fun β => bet n opn c β ν.1 ν.2.1 = false) (st _ (fun β ν' hβ => bet_mono hβ)) n _ (bet_self β ν)
    · have key : ∀ k, f < k → AbT n w may opn wi c r (chd w ν f) (vsL (fun f β => if okN n w may opn wi ν f = true then vsN n w may opn wi c r (chd w ν f) β else β) k (bup n opn c β ν)) := by
        intro k
        induction k with
        | zero => intro h; exact absurd h (Nat.not_lt_zero _)
        | succ k ihk =>
          intro h
          rw [vsL]
          by_cases e : f = k
          · subst e
            rw [if_pos ho]
            exact ih _ _
          · exact st (fun β => AbT n w may opn wi c r (chd w ν f) β) (fun β ν' hβ => AbT_upd r _ β ν' hβ) k _ (ihk (by omega))
      exact key n hf
theorem AbT_deep : ∀ r (ν : Nd) β, (∀ d' B', ν.1 ≤ d' → d' ≤ ν.1 + r → bet n opn c β d' B' = false) → AbT n w may opn wi c r ν β := by
  intro r
  induction r with
  | zero => intro ν β h; exact h _ _ (Nat.le_refl _) (Nat.le_refl _)
  | succ r ih =>
    intro ν β h
    refine ⟨h _ _ (Nat.le_refl _) (by omega), fun f hf ho => ih _ _ (fun d' B' h1 h2 => ?_)⟩
    have e : (chd w ν f).1 = ν.1 + 1 := rfl
    rw [e] at h1 h2
    exact h d' B' (by omega) (by omega)
theorem odN_iff {B : Nat} {τ : Nat → Nat} {k : Nat} : odN n opn wi B τ k = true ↔ ∃ f, f < n ∧ B.testBit f = true ∧ opn B f = true ∧ τ f + wi f ≤ k := by
  unfold odN
  rw [anyF_iff]
  constructor
  · rintro ⟨i, h1, h2⟩
    rw [Nat.zero_add, Bool.and_eq_true, Bool.and_eq_true, decide_eq_true_eq] at h2
    exact ⟨i, h1, h2.1.1, h2.1.2, h2.2⟩
  · rintro ⟨i, h1, h2, h3, h4⟩
    refine ⟨i, h1, ?_⟩
    rw [Nat.zero_add, Bool.and_eq_true, Bool.and_eq_true, decide_eq_true_eq]
    exact ⟨⟨h2, h3⟩, h4⟩
theorem tb_pow {B g f : Nat} : (B ||| 2 ^ g).testBit f = true ↔ B.testBit f = true ∨ f = g := by
  rw [Nat.testBit_or, Nat.testBit_two_pow, Bool.or_eq_true, decide_eq_true_eq]
  exact or_congr_right ⟨fun q => q.symm, fun q => q.symm⟩
theorem okN_le {ν' ν : Nd} {f : Nat} (anti : ∀ B g f, opn (B ||| 2 ^ g) f = true → opn B f = true) (h : LeN opn ν' ν) (ho : okN n w may opn wi ν' f = true) : okN n w may opn wi ν f = true := by
  obtain ⟨h1, h2, h3⟩ := h
  unfold okN at ho ⊢
  rw [h1, h2, Bool.and_eq_true] at ho
  rw [Bool.and_eq_true]
  refine ⟨ho.1, ?_⟩
  have ho2 := ho.2
  rw [Bool.not_eq_true', Bool.eq_false_iff] at ho2 ⊢
  intro q
  apply ho2
  obtain ⟨g, g1, g2, g3, g4⟩ := odN_iff.mp q
  refine odN_iff.mpr ⟨g, g1, g2, g3, ?_⟩
  by_cases e : g = f
  · rw [e, up_s] at g4 ⊢
    exact g4
  · rw [up_n e] at g4 ⊢
    have := h3 g ((tb_pow.mp g2).resolve_right e) (anti _ _ _ g3)
    omega
theorem LeN_chd {ν' ν : Nd} {g : Nat} (anti : ∀ B g f, opn (B ||| 2 ^ g) f = true → opn B f = true) (h : LeN opn ν' ν) : LeN opn (chd w ν' g) (chd w ν g) := by
  obtain ⟨h1, h2, h3⟩ := h
  refine ⟨by show ν'.1 + 1 = ν.1 + 1; rw [h1], by show ν'.2.1 ||| 2 ^ g = ν.2.1 ||| 2 ^ g; rw [h2], fun f hf ho => ?_⟩
  show up ν'.2.2.1 g (w + ν'.1) f ≤ up ν.2.2.1 g (w + ν.1) f
  have hf : (ν.2.1 ||| 2 ^ g).testBit f = true := hf
  have ho : opn (ν.2.1 ||| 2 ^ g) f = true := ho
  by_cases e : f = g
  · rw [e, up_s, up_s, h1]; exact Nat.le_refl _
  · rw [up_n e, up_n e]
    exact h3 f ((tb_pow.mp hf).resolve_right e) (anti _ _ _ ho)
theorem AbT_le (anti : ∀ B g f, opn (B ||| 2 ^ g) f = true → opn B f = true) : ∀ r ν' ν β, LeN opn ν' ν → AbT n w may opn wi c r ν β → AbT n w may opn wi c r ν' β := by
  intro r
  induction r with
  | zero =>
    intro ν' ν β h hA
    show bet n opn c β ν'.1 ν'.2.1 = false
    rw [h.1, h.2.1]
    exact hA
  | succ r ih =>
    intro ν' ν β h hA
    refine ⟨by rw [h.1, h.2.1]; exact hA.1, fun f hf ho => ih _ _ _ (LeN_chd anti h) (hA.2 f hf (okN_le anti h ho))⟩
end
/-- how many facts a book has -/
def cnt (n B : Nat) : Nat := sm (fun f => b2n (B.testBit f)) n
theorem cnt_le (n B : Nat) : cnt n B ≤ n := by
  unfold cnt
  have := sm_le (F := fun f => b2n (B.testBit f)) (c := 1) (fun q => by unfold b2n; split <;> omega) n
  omega
theorem cnt_up {n B f : Nat} (hf : f < n) (hb : B.testBit f = false) : cnt n (B ||| 2 ^ f) = cnt n B + 1 := by
  unfold cnt
  have e : sm (fun i => b2n ((B ||| 2 ^ f).testBit i)) n = sm (fun i => b2n (B.testBit i) + (if i = f then 1 else 0)) n := by
    refine sm_cg n (fun i _ => ?_)
    by_cases z : i = f
    · rw [z, if_pos rfl, hb, tb_pow.mpr (Or.inr rfl)]
      rfl
    · rw [if_neg z]
      have : (B ||| 2 ^ f).testBit i = B.testBit i := bool_iff ⟨fun q => (tb_pow.mp q).resolve_right z, fun q => tb_pow.mpr (Or.inl q)⟩
      rw [this]
      rfl
  rw [e, sm_add, sm_one, if_pos hf]
theorem cnt_full {n B f : Nat} (h : cnt n B = n) (hf : f < n) : B.testBit f = true := by
  cases z : B.testBit f
  · have := cnt_up hf z
    have := cnt_le n (B ||| 2 ^ f)
    omega
  · rfl
