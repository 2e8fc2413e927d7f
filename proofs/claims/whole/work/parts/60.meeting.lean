/-! PURE: meeting -/
def Srt (l : List Mt) : Prop := l.Pairwise (fun a b => a.1 ≤ b.1)
theorem mins_mem {x y : Mt} : ∀ l, y ∈ mins x l ↔ y = x ∨ y ∈ l := by
  intro l
  induction l with
  | nil => simp [mins]
  | cons z l ih =>
    rw [mins]
    split
    · simp
    · rw [List.mem_cons, ih, List.mem_cons]
      constructor
      · rintro (h | h | h)
        · exact Or.inr (Or.inl h)
        · exact Or.inl h
        · exact Or.inr (Or.inr h)
      · rintro (h | h | h)
        · exact Or.inr (Or.inl h)
        · exact Or.inl h
        · exact Or.inr (Or.inr h)
theorem mins_srt {x : Mt} : ∀ l, Srt l → Srt (mins x l) := by
  intro l
  induction l with
  | nil => intro _; simp [mins, Srt]
  | cons y l ih =>
    intro h
    unfold Srt at h
    rw [List.pairwise_cons] at h
    rw [mins]
    by_cases e : x.1 < y.1
    · rw [if_pos e]
      unfold Srt
      rw [List.pairwise_cons, List.pairwise_cons]
      refine ⟨fun z hz => ?_, h.1, h.2⟩
      rcases List.mem_cons.mp hz with rfl | hz
      · omega
      · have := h.1 z hz; omega
    · rw [if_neg e]
      unfold Srt
      rw [List.pairwise_cons]
      refine ⟨fun z hz => ?_, ih h.2⟩
      rcases (mins_mem l).mp hz with rfl | hz
      · omega
      · exact h.1 z hz
theorem msrt_srt : ∀ l, Srt (msrt l) := by
  intro l
  induction l with
  | nil => simp [msrt, Srt]
  | cons x l ih => exact mins_srt _ ih
theorem msrt_mem {y : Mt} : ∀ l, y ∈ msrt l ↔ y ∈ l := by
  intro l
  induction l with
  | nil => simp [msrt]
  | cons x l ih => rw [msrt, mins_mem, ih, List.mem_cons]
theorem srt_at {l : List Mt} (h : Srt l) {i j : Nat} {a b : Mt} (hij : i ≤ j) (ha : l[i]? = some a) (hb : l[j]? = some b) : a.1 ≤ b.1 := by
  obtain ⟨hi, ea⟩ := List.getElem?_eq_some_iff.mp ha
  obtain ⟨hj, eb⟩ := List.getElem?_eq_some_iff.mp hb
  by_cases e : i = j
  · subst e
    rw [ea] at eb
    rw [eb]
    exact Nat.le_refl _
  · have := List.pairwise_iff_getElem.mp h i j hi hj (by omega)
    rw [ea, eb] at this
    exact this
/-- where it comes to stand -/
theorem mins_at {x : Mt} : ∀ (l : List Mt) (p : Nat), Srt l → p ≤ l.length → (∀ i a, p ≤ i → l[i]? = some a → x.1 < a.1) → (∀ a, 0 < p → l[p - 1]? = some a → a.1 ≤ x.1) → ∀ i, (mins x l)[i]? = if i < p then l[i]? else if i = p then some x else l[i - 1]? := by
  intro l
  induction l with
  | nil =>
    intro p _ hp _ _ i
    have : p = 0 := by simpa using hp
    subst this
    rw [if_neg (by omega)]
    cases i with
    | zero => rfl
    | succ i => rw [if_neg (by omega)]; simp [mins]
  | cons y l ih =>
    intro p hs hp h1 h2 i
    unfold Srt at hs
    rw [List.pairwise_cons] at hs
    rw [mins]
    by_cases e : x.1 < y.1
    · have p0 : p = 0 := by
        by_cases z : p = 0
        · exact z
        · obtain ⟨b, hb⟩ : ∃ b, (y :: l)[p - 1]? = some b := ⟨_, List.getElem?_eq_getElem (by simp at hp ⊢; omega)⟩
          have := h2 b (by omega) hb
          have := srt_at (l := y :: l) (i := 0) (j := p - 1) (a := y) (by unfold Srt; rw [List.pairwise_cons]; exact hs) (by omega) rfl hb
          omega
      subst p0
      rw [if_pos e, if_neg (by omega)]
      cases i with
      | zero => rfl
      | succ i => rw [if_neg (by omega)]; rfl
    · have p1 : p ≠ 0 := fun z => by
        have := h1 0 y (by omega) rfl
        omega
      rw [if_neg e]
      cases i with
      | zero => rw [if_pos (by omega)]; rfl
      | succ i =>
        obtain ⟨q, rfl⟩ : ∃ q, p = q + 1 := ⟨p - 1, by omega⟩
        have := ih q hs.2 (by simpa using hp) (fun i a hi ha => h1 (i + 1) a (by omega) (by simpa using ha)) (fun a hq ha => h2 a (by omega) (by
          obtain ⟨q', rfl⟩ : ∃ q', q = q' + 1 := ⟨q - 1, by omega⟩
          simpa using ha)) i
        rw [List.getElem?_cons_succ, this]
        by_cases a1 : i < q
        · rw [if_pos a1, if_pos (by omega), List.getElem?_cons_succ]
        · rw [if_neg a1, if_neg (show ¬ i + 1 < q + 1 by omega)]
          by_cases a2 : i = q
          · rw [if_pos a2, if_pos (show i + 1 = q + 1 by omega)]
          · rw [if_neg a2, if_neg (show ¬ i + 1 = q + 1 by omega)]
            obtain ⟨j, rfl⟩ : ∃ j, i = j + 1 := ⟨i - 1, by omega⟩
            simp
theorem e_addMt {μ : Mem} {S : List Mt} {x : Mt} (hS : Srt S) (h12 : S.length < 12) (hw : ∀ y ∈ S, y.1 ≤ 999) (hx : x.1 ≤ 999) (H : MX μ 28 S) : ∃ μ2, f_X3_add μ 28 (nI x.1) (nI x.2.1) (nI x.2.2) = some (nI S.length, μ2) ∧ MX μ2 28 (mins x S) ∧ ∀ k j, ¬ (28 ≤ k ∧ k ≤ 31) → rd μ2 k j = rd μ k j := by
  obtain ⟨H1, H2⟩ := H
  have key : ∀ (p fu : Nat) (m : Mem), p < fu → p ≤ S.length → rd m 28 3 = nI S.length → (∀ i a, i < p → S[i]? = some a → rd m 29 i = nI a.1 ∧ rd m 30 i = nI a.2.1 ∧ rd m 31 i = nI a.2.2) → (∀ i a, p ≤ i → S[i]? = some a → x.1 < a.1 ∧ rd m 29 (i + 1) = nI a.1 ∧ rd m 30 (i + 1) = nI a.2.1 ∧ rd m 31 (i + 1) = nI a.2.2) → ∃ (q : Nat) (m2 : Mem), lp (fun s => f_X3_add_l17 28 (nI x.1) (nI x.2.1) (nI x.2.2) (nI S.length) s.1 s.2) fu (nI p, m) = some (nI q, m2) ∧ q ≤ S.length ∧ rd m2 28 3 = nI S.length ∧ (∀ i a, i < q → S[i]? = some a → rd m2 29 i = nI a.1 ∧ rd m2 30 i = nI a.2.1 ∧ rd m2 31 i = nI a.2.2) ∧ (∀ i a, q ≤ i → S[i]? = some a → x.1 < a.1 ∧ rd m2 29 (i + 1) = nI a.1 ∧ rd m2 30 (i + 1) = nI a.2.1 ∧ rd m2 31 (i + 1) = nI a.2.2) ∧ (∀ a, 0 < q → S[q - 1]? = some a → a.1 ≤ x.1) ∧ ∀ k j, ¬ (28 ≤ k ∧ k ≤ 31) → rd m2 k j = rd m k j := by
    intro p
    induction p with
    | zero =>
      intro fu m hfu hp h3 hlo hhi
      obtain ⟨fu', rfl⟩ : ∃ fu', fu = fu' + 1 := ⟨fu - 1, by omega⟩
      refine ⟨0, m, ?_, by omega, h3, hlo, hhi, fun a h => absurd h (by omega), fun _ _ _ => rfl⟩
      rw [lp]
      show (f_X3_add_l17 28 (nI x.1) (nI x.2.1) (nI x.2.2) (nI S.length) (nI 0) m).bind _ = _
      unfold f_X3_add_l17
      rw [if_pos (by decide), bd_s]
    | succ p ih =>
      intro fu m hfu hp h3 hlo hhi
      obtain ⟨fu', rfl⟩ : ∃ fu', fu = fu' + 1 := ⟨fu - 1, by omega⟩
      obtain ⟨a, ha⟩ : ∃ a, S[p]? = some a := ⟨_, List.getElem?_eq_getElem (by omega)⟩
      obtain ⟨r1, r2, r3⟩ := hlo p a (by omega) ha
      have a9 : a.1 ≤ 999 := hw a (List.mem_of_getElem? ha)
      have hst : f_X3_add_l17 28 (nI x.1) (nI x.2.1) (nI x.2.2) (nI S.length) (nI (p + 1)) m = if a.1 ≤ x.1 then some (.inr (nI (p + 1), m)) else some (.inl (nI p, wr (wr (wr m 29 (p + 1) (nI a.1)) 30 (p + 1) (nI a.2.1)) 31 (p + 1) (nI a.2.2))) := by
        unfold f_X3_add_l17
        rw [if_neg (nI_nle (by omega) (by omega)), nI_pred, ib_nI (show p < 12 by omega) (by omega), ib_nI (show p + 1 < 12 by omega) (by omega)]
        simp only [rfs, if_true, tn_nI (show p < 2 ^ 31 by omega), tn_nI (show p + 1 < 2 ^ 31 by omega)]
        rw [r1, bd_s, rd_wr_n (by omega), r2, bd_s, rd_wr_n (by omega), rd_wr_n (by omega), r3, bd_s, pk_m1]
        by_cases z : a.1 ≤ x.1
        · rw [if_pos (nI_le z (by omega)), if_pos z]
        · rw [if_neg (nI_ge (by omega) (by omega)), if_neg z]
      rw [lp]
      show ∃ q m2, (f_X3_add_l17 28 (nI x.1) (nI x.2.1) (nI x.2.2) (nI S.length) (nI (p + 1)) m).bind _ = _ ∧ _
      rw [hst]
      by_cases z : a.1 ≤ x.1
      · rw [if_pos z, bd_s]
        exact ⟨p + 1, m, rfl, hp, h3, hlo, hhi, fun b _ hb => by
          have hb : S[p]? = some b := hb
          rw [ha] at hb
          cases hb
          exact z, fun _ _ _ => rfl⟩
      · rw [if_neg z, bd_s]
        obtain ⟨q, m2, i1, i2, i3, i4, i5, i6, i7⟩ := ih fu' (wr (wr (wr m 29 (p + 1) (nI a.1)) 30 (p + 1) (nI a.2.1)) 31 (p + 1) (nI a.2.2)) (by omega) (by omega) (by rw [rd_wr_n (by omega), rd_wr_n (by omega), rd_wr_n (by omega)]; exact h3) (fun i b hi hb => by
          simp (discharger := omega) only [rd_wr_n]
          exact hlo i b (by omega) hb) (fun i b hi hb => by
          by_cases e : i = p
          · subst e
            rw [ha] at hb
            cases hb
            refine ⟨by omega, ?_, ?_, ?_⟩
            · rw [rd_wr_n (by omega), rd_wr_n (by omega), rd_wr_s]
            · rw [rd_wr_n (by omega), rd_wr_s]
            · rw [rd_wr_s]
          · simp (discharger := omega) only [rd_wr_n]
            exact hhi i b (by omega) hb)
        exact ⟨q, m2, i1, i2, i3, i4, i5, i6, fun k j h => by rw [i7 k j h, rd_wr_n (by omega), rd_wr_n (by omega), rd_wr_n (by omega)]⟩
  obtain ⟨q, m, l1, l2, l3, l4, l5, l6, l7⟩ := key S.length FU μ (by unfold FU; omega) (Nat.le_refl _) H1 (fun i a _ ha => H2 i a ha) (fun i a hi ha => by have := lt_of_get ha; omega)
  refine ⟨wr (wr (wr (wr m 29 q (nI x.1)) 30 q (nI x.2.1)) 31 q (nI x.2.2)) 28 3 (nI (S.length + 1)), ?_, ⟨?_, fun i a ha => ?_⟩, fun k j h => by rw [rd_wr_n (by omega), rd_wr_n (by omega), rd_wr_n (by omega), rd_wr_n (by omega)]; exact l7 k j h⟩
  · unfold f_X3_add f_X3_add_j89
    rw [H1, if_neg (show ¬ (12 : Int32) ≤ nI S.length from nI_ge (b := 12) h12 (by omega)), l1, bd_s]
    simp only
    rw [ib_nI (show q < 12 by omega) (by omega), if_pos rfl, bd_s, if_pos rfl, bd_s, if_pos rfl, bd_s, bd_s, tn_nI (by omega)]
    simp only [rfs]
    rw [rd_wr_n (by omega), rd_wr_n (by omega), rd_wr_n (by omega), l3, nI_1]
  · rw [rd_wr_s]
    have : (mins x S).length = S.length + 1 := by
      have := msrt_len [x]
      have h1 : ∀ (x : Mt) (l : List Mt), (mins x l).length = l.length + 1 := by
        intro x l
        induction l with
        | nil => rfl
        | cons y l ih =>
          unfold mins
          split
          · rfl
          · simp [ih]
      exact h1 x S
    rw [this]
  · rw [mins_at S q hS l2 (fun i a hi ha => (l5 i a hi ha).1) l6] at ha
    by_cases e1 : i < q
    · rw [if_pos e1] at ha
      simp (discharger := omega) only [rd_wr_n]
      exact l4 i a e1 ha
    · rw [if_neg e1] at ha
      by_cases e2 : i = q
      · rw [if_pos e2] at ha
        cases ha
        subst e2
        refine ⟨?_, ?_, ?_⟩
        · rw [rd_wr_n (by omega), rd_wr_n (by omega), rd_wr_n (by omega), rd_wr_s]
        · rw [rd_wr_n (by omega), rd_wr_n (by omega), rd_wr_s]
        · rw [rd_wr_n (by omega), rd_wr_s]
      · rw [if_neg e2] at ha
        have := (l5 (i - 1) a (by omega) ha).2
        rw [show i - 1 + 1 = i by omega] at this
        simp (discharger := omega) only [rd_wr_n]
        exact this
theorem e_isFigX (a : Int32) : f_X11_isFigure a = some (if (0 : Int32) ≤ a ∧ a ≤ 4 then 1 else 0) := by
  unfold f_X11_isFigure
  simp only [e_among, bd_s, bz_if, if_true]
theorem sh_meeting : SH_meeting Rel := by
  intro μ h a x y
  show OKS (f_X11_meeting μ 0 a x y) (fun m => f_X12_meeting m 105 a x y)
  obtain ⟨l, l12, lw, lX, lM⟩ := h.1.2.1
  have lX : MX μ 28 (msrt l.reverse) := lX
  have len : (msrt l.reverse).length = l.length := by rw [msrt_len, List.length_reverse]
  by_cases g : ((0 : Int32) ≤ a ∧ a ≤ 999) ∧ ((0 : Int32) ≤ x ∧ x ≤ 4) ∧ ((0 : Int32) ≤ y ∧ y ≤ 4) ∧ ¬ x = y
  · obtain ⟨g1, g2, g3, g4⟩ := g
    obtain ⟨w, hw, rfl⟩ := upto (n := 999) (by omega) g1
    obtain ⟨p, hp, rfl⟩ := upto (n := 4) (by omega) g2
    obtain ⟨q, hq, rfl⟩ := upto (n := 4) (by omega) g3
    have pq : p ≠ q := fun e => g4 (by rw [e])
    by_cases hl : l.length < 12
    · obtain ⟨μ1, a1, a2, a3⟩ := e_addMt (x := (w, p, q)) (msrt_srt l.reverse) (by omega) (fun z hz => (lw z (by rw [msrt_mem] at hz; simpa using hz)).1) hw lX
      rw [len] at a1
      have hR : RX μ μ1 := fun k j hk => a3 k j (by omega)
      have c2 : rd μ1 106 2 = nI l.length := by rw [hR _ _ (by omega)]; exact lM.1
      have k3 : (134 : Int32) + 3 * nI l.length = nI (134 + 3 * l.length) := by rw [show (3 : Int32) * nI l.length = nI (3 * l.length) from pk_mul 3 _, show (134 : Int32) + nI (3 * l.length) = nI (134 + 3 * l.length) from nI_add 134 _]
      refine oks_go (r := nI l.length) (μ1 := μ1) (μ2 := wr (wr (wr (wr μ1 106 2 (nI (l.length + 1))) 106 (134 + 3 * l.length) (nI w)) 106 (135 + 3 * l.length) (nI p)) 106 (136 + 3 * l.length) (nI q)) ?_ ?_ ?_
      · unfold f_X11_meeting
        simp only [rfs]
        rw [e_among, bd_s, if_pos g1, if_neg (by decide), e_isFigX, bd_s, if_pos g2, if_neg (by decide), e_isFigX, bd_s, if_pos g3, if_neg (by decide), if_pos g4, lX.1, len, if_pos (show nI l.length < 12 from nI_lt (b := 12) hl (by omega)), bd_p]
        exact a1
      · show f_X12_meeting μ1 105 _ _ _ = _
        unfold f_X12_meeting
        simp only [rfs, cls]
        rw [show f_X12_in (nI w).toInt64 0 999 = _ from e_in (nI w) 0 999, bd_s, if_pos g1, if_neg (by decide), show f_X12_in (nI p).toInt64 0 4 = _ from e_in (nI p) 0 4, bd_s, if_pos g2, if_neg (by decide), show f_X12_in (nI q).toInt64 0 4 = _ from e_in (nI q) 0 4, bd_s, if_pos g3, if_neg (by decide), if_pos g4, c2, if_pos (show ¬ nI l.length = 12 from fun z => by have := (nI_eq (b := 12) (by omega) (by omega)).mp z; omega), bd_s, k3, show nI (134 + 3 * l.length) + 1 = nI (135 + 3 * l.length) by rw [nI_1, show 134 + 3 * l.length + 1 = 135 + 3 * l.length by omega], show nI (134 + 3 * l.length) + 2 = nI (136 + 3 * l.length) by rw [show (2 : Int32) = nI 2 from rfl, nI_add, show 134 + 3 * l.length + 2 = 136 + 3 * l.length by omega], ib_nI (show 134 + 3 * l.length < 342 by omega) (by omega), if_pos rfl, bd_s, ib_nI (show 135 + 3 * l.length < 342 by omega) (by omega), if_pos rfl, bd_s, ib_nI (show 136 + 3 * l.length < 342 by omega) (by omega), if_pos rfl, bd_s, tn_nI (by omega), tn_nI (by omega), tn_nI (by omega), nI_1]
      · refine R2_Me h (fun k j c d => by rw [rd_wr_n (by omega), rd_wr_n (by omega), rd_wr_n (by omega), rd_wr_n (by omega)]; exact a3 k j (by omega)) ⟨l ++ [(w, p, q)], by rw [List.length_append]; simp; omega, fun z hz => ?_, ?_, ⟨?_, fun i z hz => ?_⟩⟩
        · rcases List.mem_append.mp hz with hz | hz
          · exact lw z hz
          · have : z = (w, p, q) := by simpa using hz
            subst this
            exact ⟨hw, by show p < 5; omega, by show q < 5; omega, pq⟩
        · rw [List.reverse_append]
          show MX _ 28 (mins (w, p, q) (msrt l.reverse))
          refine ⟨by rw [rd_wr_n (by omega), rd_wr_n (by omega), rd_wr_n (by omega), rd_wr_n (by omega)]; exact a2.1, fun i z hz => ?_⟩
          simp (discharger := omega) only [rd_wr_n]
          exact a2.2 i z hz
        · rw [rd_wr_n (by omega), rd_wr_n (by omega), rd_wr_n (by omega), rd_wr_s, List.length_append]
          rfl
        · by_cases e : i < l.length
          · rw [List.getElem?_append_left e] at hz
            simp (discharger := omega) only [rd_wr_n]
            have := lM.2 i z hz
            rw [hR _ _ (by omega), hR _ _ (by omega), hR _ _ (by omega)]
            exact this
          · have hlt := lt_of_get hz
            rw [List.length_append] at hlt
            simp only [List.length_cons, List.length_nil] at hlt
            have : i = l.length := by omega
            subst this
            rw [List.getElem?_append_right (Nat.le_refl _), Nat.sub_self] at hz
            have hz : some (w, p, q) = some z := hz
            cases hz
            refine ⟨?_, ?_, ?_⟩
            · rw [rd_wr_n (by omega), rd_wr_n (by omega), rd_wr_s]
            · rw [rd_wr_n (by omega), rd_wr_s]
            · rw [rd_wr_s]
    · have l12' : l.length = 12 := by omega
      refine oks_ref (k := 4) h (by omega) ?_ ?_
      · unfold f_X11_meeting
        simp only [rfs]
        rw [e_among, bd_s, if_pos g1, if_neg (by decide), e_isFigX, bd_s, if_pos g2, if_neg (by decide), e_isFigX, bd_s, if_pos g3, if_neg (by decide), if_pos g4, lX.1, len, l12', if_neg (by decide), bd_p]
        rfl
      · intro μ1 hR
        show f_X12_meeting μ1 105 _ _ _ = _
        unfold f_X12_meeting
        simp only [rfs, cls]
        rw [show f_X12_in (nI w).toInt64 0 999 = _ from e_in (nI w) 0 999, bd_s, if_pos g1, if_neg (by decide), show f_X12_in (nI p).toInt64 0 4 = _ from e_in (nI p) 0 4, bd_s, if_pos g2, if_neg (by decide), show f_X12_in (nI q).toInt64 0 4 = _ from e_in (nI q) 0 4, bd_s, if_pos g3, if_neg (by decide), if_pos g4, hR _ _ (by omega), lM.1, l12', if_neg (by decide), bd_p]
        rfl
  · refine oks_ref (k := 1) h (by omega) ?_ ?_
    · unfold f_X11_meeting f_X11_meeting_j30
      rw [e_among, bd_s, bd_p]
      by_cases g1 : (0 : Int32) ≤ a ∧ a ≤ 999
      · rw [if_pos g1, if_neg (by decide), e_isFigX, bd_s]
        by_cases g2 : (0 : Int32) ≤ x ∧ x ≤ 4
        · rw [if_pos g2, if_neg (by decide), e_isFigX, bd_s]
          by_cases g3 : (0 : Int32) ≤ y ∧ y ≤ 4
          · rw [if_pos g3, if_neg (by decide), if_neg (fun q => g ⟨g1, g2, g3, q⟩)]
            rfl
          · rw [if_neg g3, if_pos rfl]
            rfl
        · rw [if_neg g2, if_pos rfl]
          rfl
      · rw [if_neg g1, if_pos rfl]
        rfl
    · intro μ1 hR
      show f_X12_meeting μ1 105 _ _ _ = _
      unfold f_X12_meeting f_X12_meeting_j41
      rw [show f_X12_in a.toInt64 0 999 = _ from e_in a 0 999, bd_s, bd_p]
      by_cases g1 : (0 : Int32) ≤ a ∧ a ≤ 999
      · rw [if_pos g1, if_neg (by decide), show f_X12_in x.toInt64 0 4 = _ from e_in x 0 4, bd_s]
        by_cases g2 : (0 : Int32) ≤ x ∧ x ≤ 4
        · rw [if_pos g2, if_neg (by decide), show f_X12_in y.toInt64 0 4 = _ from e_in y 0 4, bd_s]
          by_cases g3 : (0 : Int32) ≤ y ∧ y ≤ 4
          · rw [if_pos g3, if_neg (by decide), if_neg (fun q => g ⟨g1, g2, g3, q⟩)]
            rfl
          · rw [if_neg g3, if_pos rfl]
            rfl
        · rw [if_neg g2, if_pos rfl]
          rfl
      · rw [if_neg g1, if_pos rfl]
        rfl
