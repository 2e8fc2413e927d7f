/-! PURE: steps on a stack; the class gives -/
def jn (a b c : Int32) : Int32 := (f_X2_joins a b c).getD 0
theorem sS {α : Type} (x : α) : ∃ r, some x = some r := ⟨x, rfl⟩
theorem iS {α : Type} {c : Prop} [Decidable c] {a b : Option α} (h1 : ∃ r, a = some r) (h2 : ∃ r, b = some r) : ∃ r, (if c then a else b) = some r := by
  by_cases h : c
  · rw [if_pos h]; exact h1
  · rw [if_neg h]; exact h2
theorem e_jn (a b c : Int32) : f_X2_joins a b c = some (jn a b c) := by
  have h : ∃ r, f_X2_joins a b c = some r := by
    unfold f_X2_joins
    by_cases z : c = 0
    · simp only [z, not_true, if_false]
      repeat' (first | exact sS _ | refine iS ?_ ?_)
    · simp only [z, not_false_eq_true, if_true]
      repeat' (first | exact sS _ | refine iS ?_ ?_)
  obtain ⟨r, h⟩ := h
  unfold jn
  rw [h]
  rfl
def nmV (a b c x : Int32) : Int32 := if x < 0 then (if ¬ x = -1 then (if ¬ x = -2 then c else b) else a) else x
def nt (v : Int32) : Int32 := if ¬ v = 0 then 0 else 1
def ev1 (a b c x : Int32) (L : List Int32) : List Int32 :=
  if x < -3 then
    (if ¬ x = -33 then
      (match L with
       | v :: w :: L' => jn (-x) w v :: L'
       | L' => L')
     else
      (match L with
       | v :: L' => nt v :: L'
       | [] => []))
  else nmV a b c x :: L
def evl (a b c : Int32) : List Int32 → List Int32 → List Int32
  | [], L => L
  | x :: xs, L => evl a b c xs (ev1 a b c x L)
theorem evl_app (a b c : Int32) : ∀ xs ys L, evl a b c (xs ++ ys) L = evl a b c ys (evl a b c xs L) := by
  intro xs
  induction xs with
  | nil => intro ys L; rfl
  | cons x xs ih => intro ys L; exact ih ys _
/-- the lowest of a stack -/
def bot : List Int32 → Int32
  | [] => 0
  | [x] => x
  | _ :: y :: L => bot (y :: L)
def evs (st : List Int32) (a b c : Int32) : Int32 := bot (evl a b c st [])
theorem ev1_len (a b c x : Int32) (L : List Int32) : (ev1 a b c x L).length ≤ L.length + 1 := by
  unfold ev1
  split
  · split
    · rcases L with _ | ⟨v, _ | ⟨w, L'⟩⟩ <;> simp
    · rcases L with _ | ⟨v, L'⟩ <;> simp
  · simp
/-- a stack in the memory -/
def SK (μ : Mem) (k : Nat) : List Int32 → Prop
  | [] => True
  | x :: L => rd μ k L.length = x ∧ SK μ k L
theorem SK_wr {μ : Mem} {k i : Nat} {v : Int32} : ∀ L, L.length ≤ i → SK μ k L → SK (wr μ k i v) k L := by
  intro L
  induction L with
  | nil => intro _ _; trivial
  | cons x L ih =>
    intro h H
    simp only [List.length_cons] at h
    exact ⟨by rw [rd_wr_n (by omega)]; exact H.1, ih (by omega) H.2⟩
theorem SK_bot {μ : Mem} {k : Nat} : ∀ L, L ≠ [] → SK μ k L → rd μ k 0 = bot L := by
  intro L
  induction L with
  | nil => intro h; exact absurd rfl h
  | cons x L ih =>
    intro _ H
    cases L with
    | nil => exact H.1
    | cons y L => exact ih (by simp) H.2
theorem e_gives {μ : Mem} {c n : Nat} {st : List Int32} (hc : rf c 0 = c + 1 ∧ rf c 1 = c + 2 ∧ ln (c + 2) = 50) (h3 : rd μ c 3 = nI st.length) (h50 : st.length ≤ 50) (hs : ∀ i v, st[i]? = some v → rd μ (c + 1) i = v) (x y z : Int32) : ∃ μ2, f_X2_gives μ c x y z = some (jmax (rd μ c 2) (jmin (evs st x y z) 999), μ2) ∧ ∀ k j, k ≠ c + 2 → rd μ2 k j = rd μ k j := by
  obtain ⟨⟨v, m⟩, l1, l2, l3, l4⟩ : ∃ q : Int32 × Mem, lp (fun s => f_X2_gives_l6 c x y z s.1 s.2.1 s.2.2) FU ((0 : Int32), (0 : Int32), μ) = some q ∧ q.1 = nI (evl x y z st []).length ∧ SK q.2 (c + 2) (evl x y z st []) ∧ ∀ k j, k ≠ c + 2 → rd q.2 k j = rd μ k j := by
    have key : ∃ q : Int32 × Mem, lp (fun s => f_X2_gives_l6 c x y z s.1 s.2.1 s.2.2) FU ((0 : Int32), (0 : Int32), μ) = some q ∧ (q.1 = nI (evl x y z st []).length ∧ SK q.2 (c + 2) (evl x y z st []) ∧ ∀ k j, k ≠ c + 2 → rd q.2 k j = rd μ k j) := by
      refine lp_I (fun j s => s.1 = nI (evl x y z (st.take j) []).length ∧ s.2.1 = nI j ∧ (evl x y z (st.take j) []).length ≤ j ∧ SK s.2.2 (c + 2) (evl x y z (st.take j) []) ∧ ∀ k j, k ≠ c + 2 → rd s.2.2 k j = rd μ k j) st.length _ (by omega) ⟨rfl, rfl, Nat.le_refl _, trivial, fun _ _ _ => rfl⟩ ?_ ?_
      · rintro j ⟨v, i, m⟩ hj ⟨e1, e2, e3, e4, e5⟩
        simp only at e1 e2 e3 e4 e5
        subst e1 e2
        have hg : st[j]? = some st[j] := List.getElem?_eq_getElem hj
        have tk : st.take (j + 1) = st.take j ++ [st[j]] := by rw [List.take_succ, hg]; rfl
        rw [tk, evl_app]
        have hx := hs j _ hg
        revert hx
        generalize st[j] = a
        intro hx
        revert e3 e4
        generalize evl x y z (st.take j) [] = L
        intro e3 e4
        have hE : evl x y z [a] L = ev1 x y z a L := rfl
        rw [hE]
        have hb : f_X2_gives_l6 c x y z (nI L.length) (nI j) m = (if a < -3 then (if ¬ a = -33 then (if nI L.length ≤ 1 then some (.inl (nI L.length, nI j + 1, m)) else if ib ((nI L.length + -1) - 1) 50 then if ib (nI L.length + -1) 50 then (f_X2_joins (-a) (rd m (c + 2) ((nI L.length + -1) - 1).toNatClampNeg) (rd m (c + 2) (nI L.length + -1).toNatClampNeg)).bind fun r167 => if ib ((nI L.length + -1) - 1) 50 then (some (wr m (c + 2) ((nI L.length + -1) - 1).toNatClampNeg r167)).bind fun m170 => some (.inl (nI L.length + -1, nI j + 1, m170)) else none else none else none) else (if nI L.length ≤ 0 then some (.inl (nI L.length, nI j + 1, m)) else if ib (nI L.length - 1) 50 then if ¬ rd m (c + 2) (nI L.length - 1).toNatClampNeg = 0 then f_X2_gives_j127 m c x y z (nI L.length) (nI j) (c + 2) (nI L.length - 1) 0 else f_X2_gives_j127 m c x y z (nI L.length) (nI j) (c + 2) (nI L.length - 1) 1 else none)) else f_X2_gives_j83 m c x y z (nI L.length) (nI j) (c + 2) (nI L.length) (nmV x y z a)) := by
          unfold f_X2_gives_l6
          rw [e5 c 3 (by omega), h3, if_neg (nI_ge hj (by omega)), if_neg (show ¬ (50 : Int32) ≤ nI j from nI_ge (b := 50) (by omega) (by omega)), ib_nI (show j < 50 by omega) (by omega), if_pos rfl, tn_nI (by omega), hc.1, hc.2.1, e5 (c + 1) j (by omega), hx, if_neg (show ¬ (50 : Int32) ≤ nI L.length from nI_ge (b := 50) (by omega) (by omega))]
          unfold nmV
          by_cases q1 : a < -3
          · rw [if_pos q1, if_pos q1]
          · rw [if_neg q1, if_neg q1]
            by_cases q2 : a < 0
            · rw [if_pos q2, if_pos q2]
              by_cases q3 : a = -1
              · rw [if_neg (not_not_intro q3), if_neg (not_not_intro q3)]
              · rw [if_pos q3, if_pos q3]
                by_cases q4 : a = -2
                · rw [if_neg (not_not_intro q4), if_neg (not_not_intro q4)]
                · rw [if_pos q4, if_pos q4]
            · rw [if_neg q2, if_neg q2]
        have hlen := ev1_len x y z a L
        show ∃ s', f_X2_gives_l6 c x y z (nI L.length) (nI j) m = some (.inl s') ∧ _
        rw [hb]
        unfold ev1 at hlen ⊢
        by_cases q1 : a < -3
        · rw [if_pos q1] at hlen ⊢
          simp only [if_pos q1]
          by_cases q2 : a = -33
          · rw [if_neg (not_not_intro q2)] at hlen ⊢
            simp only [if_neg (not_not_intro q2)]
            cases L with
            | nil => exact ⟨_, by rw [if_pos (by decide)], rfl, nI_1 j, by simp, trivial, e5⟩
            | cons v L =>
              simp only [List.length_cons] at e3 hlen ⊢
              rw [if_neg (nI_nle (by omega) (by omega)), nI_pred, ib_nI (show L.length < 50 by omega) (by omega), if_pos rfl, tn_nI (by omega), e4.1]
              have : ∀ r, f_X2_gives_j127 m c x y z (nI (L.length + 1)) (nI j) (c + 2) (nI L.length) r = some (.inl (nI (L.length + 1), nI (j + 1), wr m (c + 2) L.length r)) := by
                intro r
                unfold f_X2_gives_j127
                rw [hc.2.2, ib_nI (show L.length < 50 by omega) (by omega), if_pos rfl, bd_s, tn_nI (by omega), nI_1]
              rw [this, this]
              refine ⟨(nI (L.length + 1), nI (j + 1), wr m (c + 2) L.length (nt v)), ?_, rfl, rfl, by omega, ⟨rd_wr_s _ _ _ _, SK_wr L (Nat.le_refl _) e4.2⟩, fun k i h => by rw [rd_wr_n (by omega)]; exact e5 k i h⟩
              unfold nt
              split <;> rfl
          · rw [if_pos q2] at hlen ⊢
            simp only [if_pos q2]
            rcases L with _ | ⟨v, _ | ⟨w, L⟩⟩
            · exact ⟨_, by rw [if_pos (by decide)], rfl, nI_1 j, by simp, trivial, e5⟩
            · exact ⟨(nI [v].length, nI j + 1, m), if_pos (show nI 1 ≤ 1 by decide), rfl, nI_1 j, (show 1 ≤ j + 1 by omega), e4, e5⟩
            · simp only [List.length_cons] at e3 e4 hlen ⊢
              rw [if_neg (show ¬ nI (L.length + 1 + 1) ≤ 1 from nI_ge (a := 1) (by omega) (by omega)), pk_m1, nI_pred, ib_nI (show L.length < 50 by omega) (by omega), if_pos rfl, ib_nI (show L.length + 1 < 50 by omega) (by omega), if_pos rfl, tn_nI (by omega), tn_nI (by omega), e_jn, bd_s, if_pos rfl, bd_s, nI_1]
              have e41 : rd m (c + 2) (L.length + 1) = v := e4.1
              have e42 : rd m (c + 2) L.length = w := e4.2.1
              rw [e41, e42]
              exact ⟨_, rfl, rfl, rfl, (by omega), ⟨rd_wr_s _ _ _ _, SK_wr L (Nat.le_refl _) e4.2.2⟩, fun k i h => by rw [rd_wr_n (by omega)]; exact e5 k i h⟩
        · rw [if_neg q1] at hlen ⊢
          simp only [if_neg q1]
          unfold f_X2_gives_j83
          rw [hc.2.2, ib_nI (show L.length < 50 by omega) (by omega), if_pos rfl, bd_s, tn_nI (by omega), nI_1, nI_1]
          exact ⟨_, rfl, rfl, rfl, by simp only [List.length_cons]; omega, ⟨rd_wr_s _ _ _ _, SK_wr L (Nat.le_refl _) e4⟩, fun k i h => by rw [rd_wr_n (by omega)]; exact e5 k i h⟩
      · rintro ⟨v, i, m⟩ ⟨e1, e2, e3, e4, e5⟩
        simp only at e1 e2 e3 e4 e5
        subst e1 e2
        rw [List.take_length] at e3 e4 ⊢
        refine ⟨(nI (evl x y z st []).length, m), ?_, rfl, e4, e5⟩
        show f_X2_gives_l6 c x y z _ (nI st.length) m = _
        unfold f_X2_gives_l6
        rw [e5 c 3 (by omega), h3, if_pos (nI_le (Nat.le_refl _) (by omega))]
    exact key
  simp only at l2 l3 l4
  subst l2
  refine ⟨m, ?_, l4⟩
  unfold f_X2_gives f_X2_gives_j177 f_X2_gives_j192
  rw [l1, bd_s]
  simp only
  rw [l4 c 2 (by omega), hc.2.1]
  unfold evs
  have hlen : ∀ (xs L : List Int32), (evl x y z xs L).length ≤ L.length + xs.length := by
    intro xs
    induction xs with
    | nil => intro L; exact Nat.le_refl _
    | cons a xs ih =>
      intro L
      have h1 := ih (ev1 x y z a L)
      have h2 := ev1_len x y z a L
      simp only [List.length_cons]
      show (evl x y z xs (ev1 x y z a L)).length ≤ _
      omega
  have hl := hlen st []
  simp only [List.length_nil] at hl
  revert l3 hl
  generalize evl x y z st [] = L
  intro l3 hl
  cases L with
  | nil => rw [if_pos (by decide)]; rfl
  | cons v L =>
    simp only [List.length_cons] at hl ⊢
    rw [if_neg (nI_nle (by omega) (by omega)), show (0 : Int32).toNatClampNeg = 0 from rfl, SK_bot _ (by simp) l3]
