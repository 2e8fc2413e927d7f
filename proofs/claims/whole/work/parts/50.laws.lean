/-! PURE: laws: law, text -/
theorem e_heldJ {v lo : Int32} (h : lo ≤ 999) : f_X12_held v lo 999 = some (jmax lo (jmin v 999)) := by
  unfold f_X12_held jmax jmin
  rw [i32_le] at h
  by_cases h1 : lo ≤ v
  · rw [if_pos h1]
    rw [i32_le] at h1
    by_cases h2 : v ≤ 999
    · rw [if_pos h2]
      rw [i32_le] at h2
      rw [if_neg (show ¬ (999 : Int32) < v by rw [i32_lt]; omega)]
      by_cases h3 : lo < v
      · rw [if_pos h3]
      · rw [if_neg h3]
        rw [i32_lt] at h3
        rw [show v = lo from i32_eq (by omega)]
    · rw [if_neg h2]
      rw [i32_le] at h2
      rw [if_pos (show (999 : Int32) < v by rw [i32_lt]; omega)]
      by_cases h3 : lo < 999
      · rw [if_pos h3]
      · rw [if_neg h3]
        rw [i32_lt] at h3
        rw [show (999 : Int32) = lo from i32_eq (by omega)]
  · rw [if_neg h1]
    rw [i32_le] at h1
    rw [if_neg (show ¬ (999 : Int32) < v by rw [i32_lt]; omega), if_neg (show ¬ lo < v by rw [i32_lt]; omega)]
theorem j_in {v lo : Int32} (h : lo ≤ 999) : lo ≤ jmax lo (jmin v 999) ∧ jmax lo (jmin v 999) ≤ 999 := by
  unfold jmax jmin
  rw [i32_le] at h
  by_cases h1 : (999 : Int32) < v
  · rw [if_pos h1]
    by_cases h2 : lo < 999
    · rw [if_pos h2]
      exact ⟨by rw [i32_le]; exact h, by rw [i32_le]; exact Int.le_refl _⟩
    · rw [if_neg h2]
      exact ⟨by rw [i32_le]; exact Int.le_refl _, by rw [i32_le]; exact h⟩
  · rw [if_neg h1]
    by_cases h2 : lo < v
    · rw [if_pos h2]
      rw [i32_lt] at h1 h2
      exact ⟨by rw [i32_le]; omega, by rw [i32_le]; omega⟩
    · rw [if_neg h2]
      exact ⟨by rw [i32_le]; exact Int.le_refl _, by rw [i32_le]; exact h⟩
def GX (μ : Mem) (c : Nat) (g : Int32 → Int32 → Int32 → Int32) : Prop := ∀ μ' : Mem, (∀ j, rd μ' c j = rd μ c j) → (∀ j, rd μ' (c + 1) j = rd μ (c + 1) j) → ∀ x y z, ∃ μ2, f_X2_gives μ' c x y z = some (g x y z, μ2) ∧ ∀ k j, k ≠ c + 2 → rd μ2 k j = rd μ' k j
def GM (μ : Mem) (u : Nat) (g : Int32 → Int32 → Int32 → Int32) : Prop := ∀ μ' : Mem, (∀ j, j = 170 + u ∨ 192 + 50 * u ≤ j ∧ j < 242 + 50 * u → rd μ' 106 j = rd μ 106 j) → ∀ x y z, ∃ μ2, f_X12_textGives μ' 105 (nI u) x y z = some (g x y z, μ2) ∧ ∀ k j, k ≠ 110 → ¬ (k = 105 ∧ 5 ≤ j ∧ j ≤ 10) → rd μ2 k j = rd μ' k j
def lwo (u : Nat) : Int32 := if u = 0 then 0 else -999
theorem e_j82 {μ : Mem} {u : Nat} (hu : u < 2) (x y z v : Int32) : f_X12_textGives_j82 μ 105 (nI u) x y z v = some (jmax (lwo u) (jmin v 999), μ) := by
  unfold f_X12_textGives_j82
  have : u = 0 ∨ u = 1 := by omega
  rcases this with rfl | rfl
  · rw [if_neg (not_not_intro (show nI 0 = 0 from rfl)), e_heldJ (by decide), bd_s]
    rfl
  · rw [if_pos (by decide), e_heldJ (by decide), bd_s]
    rfl
theorem evs_usu (u : Nat) (hu : u < 2) (x y z : Int32) : evs (usu u) x y z = if u = 0 then 10 else (10 * z - 5 * y) - x := by
  have : u = 0 ∨ u = 1 := by omega
  rcases this with rfl | rfl
  · rfl
  · rfl
theorem laws_g {μx μm : Mem} {c u : Nat} (hc : rf c 0 = c + 1 ∧ rf c 1 = c + 2 ∧ ln (c + 2) = 50) (hu : u < 2) (h2 : rd μx c 2 = lwo u) (H : RLaw μx c (c + 1) μm 106 u) : ∃ g, GX μx c g ∧ GM μm u g ∧ ∀ x y z, lwo u ≤ g x y z ∧ g x y z ≤ 999 := by
  obtain ⟨n, bb, st, n50, s50, a1, a2, a3, a4, a5⟩ := H
  have lo9 : lwo u ≤ 999 := by
    unfold lwo
    split <;> decide
  refine ⟨fun x y z => jmax (lwo u) (jmin (evs st x y z) 999), fun μ' hA hB x y z => ?_, fun μ' hA x y z => ?_, fun x y z => j_in lo9⟩
  · obtain ⟨μ2, g1, g2⟩ := e_gives (n := 0) (μ := μ') hc (by rw [hA]; exact a1) s50 (fun i v hv => by rw [hB]; exact a2 i v hv) x y z
    rw [hA, h2] at g1
    exact ⟨μ2, g1, g2⟩
  · have hN : rd μ' 106 (170 + u) = nI n := by rw [hA _ (Or.inl rfl)]; exact a3
    have h170 : (170 : Int32) + nI u = nI (170 + u) := nI_add 170 u
    have hJ : ∀ v0, f_X12_textGives_j20 μ' 105 (nI u) x y z v0 = if n = 0 then some (jmax (lwo u) (jmin v0 999), μ') else (f_X12_worked (wr (wr (wr μ' 110 0 x) 110 1 y) 110 2 z) 105 (nI (192 + 50 * u)) (nI n) (nI u)).bind fun p77 => some (jmax (lwo u) (jmin p77.1 999), p77.2) := by
      intro v0
      unfold f_X12_textGives_j20
      rw [h170, ib_nI (show 170 + u < 342 by omega) (by omega), if_pos rfl, tn_nI (by omega)]
      simp only [rfs, cls]
      rw [hN, e_j82 hu]
      by_cases z0 : n = 0
      · rw [if_pos (by rw [z0]; decide), if_pos z0]
      · rw [if_neg (nI_nle (by omega) (by omega)), if_neg z0, bd_s, bd_s, bd_s, if_pos trivial]
        rw [rd_wr_n (by omega), rd_wr_n (by omega), rd_wr_n (by omega), hN, show (50 : Int32) * nI u = nI (50 * u) from pk_mul 50 u, show (192 : Int32) + nI (50 * u) = nI (192 + 50 * u) from nI_add 192 _]
        cases f_X12_worked (wr (wr (wr μ' 110 0 x) 110 1 y) 110 2 z) 105 (nI (192 + 50 * u)) (nI n) (nI u) with
        | none => rfl
        | some q => rw [bd_s, bd_s, e_j82 hu]
    have hT : f_X12_textGives μ' 105 (nI u) x y z = f_X12_textGives_j20 μ' 105 (nI u) x y z (if u = 0 then 10 else (10 * z - 5 * y) - x) := by
      unfold f_X12_textGives
      have : u = 0 ∨ u = 1 := by omega
      rcases this with rfl | rfl
      · rw [if_neg (not_not_intro (show nI 0 = 0 from rfl)), if_pos rfl]
      · rw [if_pos (by decide), if_neg (by decide)]
    rw [hT, hJ]
    by_cases z0 : n = 0
    · rw [if_pos z0]
      unfold LAWS at a5
      rw [if_pos z0] at a5
      rw [a5]
      refine ⟨μ', ?_, fun _ _ _ _ => rfl⟩
      show _ = some (jmax (lwo u) (jmin (evs (usu u) x y z) 999), μ')
      rw [evs_usu u hu]
    · rw [if_neg z0]
      unfold LAWS at a5
      rw [if_neg z0] at a5
      obtain ⟨v, μ2, w1, w2, w3, w4, w5, w6⟩ := e_worked (μ := wr (wr (wr μ' 110 0 x) 110 1 y) 110 2 z) (bb := bb) hu n50 (show 192 + 50 * u + n ≤ 342 by omega) (fun i hi => ⟨by rw [rd_wr_n (by omega), rd_wr_n (by omega), rd_wr_n (by omega), hA _ (Or.inr ⟨by omega, by omega⟩)]; exact (a4 i hi).2, (a4 i hi).1⟩)
      obtain ⟨y1, y2, y3⟩ := w5 ⟨a5.1, a5.2.1⟩
      rw [rd_wr_n (by omega), rd_wr_n (by omega), rd_wr_s, rd_wr_n (by omega), rd_wr_s, rd_wr_s, a5.2.2] at y3
      have hv : evs st x y z = v := by
        unfold evs
        rw [y3]
        rfl
      rw [w1, bd_s]
      refine ⟨μ2, ?_, fun k j p q => by rw [w2 k j q, rd_wr_n (by omega), rd_wr_n (by omega), rd_wr_n (by omega)]⟩
      show _ = some (jmax (lwo u) (jmin (evs st x y z) 999), μ2)
      rw [hv]
theorem rf_law : (rf 8 0 = 9 ∧ rf 8 1 = 10 ∧ ln 10 = 50) ∧ (rf 11 0 = 12 ∧ rf 11 1 = 13 ∧ ln 13 = 50) := by decide
/-- what the two laws give -/
theorem rel_g {μ : Mem} (h : Rel μ) : (∃ g, GX μ 8 g ∧ GM μ 0 g ∧ ∀ x y z, (0 : Int32) ≤ g x y z ∧ g x y z ≤ 999) ∧ ∃ g, GX μ 11 g ∧ GM μ 1 g := by
  obtain ⟨⟨w1, w2, w3, w4, w5, w6, w7⟩, h2, h3, h4, h5, h6, h7, h8⟩ := h
  refine ⟨?_, ?_⟩
  · exact laws_g (c := 8) (u := 0) rf_law.1 (by omega) h7 w6
  · obtain ⟨g, g1, g2, g3⟩ := laws_g (c := 11) (u := 1) rf_law.2 (by omega) h8 w7
    exact ⟨g, g1, g2⟩
/-- the pay as a number -/
theorem rel_gv {μ : Mem} (h : Rel μ) : ∃ gv, LwX μ gv ∧ LwM μ gv := by
  obtain ⟨⟨g, g1, g2, g3⟩, _⟩ := rel_g h
  have hg : ∀ f w d : Nat, ∃ m : Nat, m ≤ 999 ∧ g (nI f) (nI w) (nI d) = nI m := fun f w d => upto (n := 999) (by omega) (g3 _ _ _)
  have hv : ∀ f w d : Nat, (g (nI f) (nI w) (nI d)).toNatClampNeg ≤ 999 ∧ g (nI f) (nI w) (nI d) = nI (g (nI f) (nI w) (nI d)).toNatClampNeg := by
    intro f w d
    obtain ⟨m, m1, m2⟩ := hg f w d
    rw [m2, tn_nI (by omega)]
    exact ⟨m1, rfl⟩
  refine ⟨fun f w d => (g (nI f) (nI w) (nI d)).toNatClampNeg, ⟨fun f w d => (hv f w d).1, fun μ' a b f w d => ?_⟩, ⟨fun f w d => (hv f w d).1, fun μ' a f w d => ?_⟩⟩
  · obtain ⟨μ2, e1, e2⟩ := g1 μ' a b (nI f) (nI w) (nI d)
    exact ⟨μ2, by rw [e1, ← (hv f w d).2], e2⟩
  · obtain ⟨μ2, e1, e2⟩ := g2 μ' (fun j hj => a j (by omega)) (nI f) (nI w) (nI d)
    exact ⟨μ2, by show f_X12_textGives μ' 105 (nI 0) _ _ _ = _; rw [e1, ← (hv f w d).2], e2⟩
theorem isT_law : isT 2 8 = true ∧ isT 2 11 = true := by decide
theorem sh_law : SH_law Rel := by
  intro μ h a x y z
  show OKS (f_X11_law μ 0 a x y z) (fun m => f_X12_law m 105 a x y z)
  obtain ⟨⟨g0, G1, G2, _⟩, g1, G3, G4⟩ := rel_g h
  by_cases a0 : a = 0
  · subst a0
    obtain ⟨μ1, p1, p2⟩ := G1 μ (fun _ => rfl) (fun _ => rfl) x y z
    obtain ⟨μ2, q1, q2⟩ := G2 μ1 (fun j _ => p2 _ _ (by omega)) x y z
    refine oks_go (r := g0 x y z) (μ1 := μ1) (μ2 := μ2) ?_ ?_ ?_
    · unfold f_X11_law f_X11_isUse f_X11_lawOf
      simp only [rfs, bd_s, if_true, not_true, if_false, i10, isT_law, p1]
    · show f_X12_law μ1 105 0 x y z = _
      unfold f_X12_law
      rw [(e_ins 0).2.1, bd_s, if_pos (show (0 : Int32) ≤ 0 ∧ (0 : Int32) ≤ 1 by decide), if_neg (show ¬ (1 : Int32) = 0 by decide)]
      have q1 : f_X12_textGives μ1 105 0 x y z = some (g0 x y z, μ2) := q1
      rw [q1, bd_s]
    · exact R2_no h (fun k j c d => by rw [q2 k j (by omega) (by omega), p2 k j (by omega)])
  · by_cases a1 : a = 1
    · subst a1
      obtain ⟨μ1, p1, p2⟩ := G3 μ (fun _ => rfl) (fun _ => rfl) x y z
      obtain ⟨μ2, q1, q2⟩ := G4 μ1 (fun j _ => p2 _ _ (by omega)) x y z
      refine oks_go (r := g1 x y z) (μ1 := μ1) (μ2 := μ2) ?_ ?_ ?_
      · unfold f_X11_law f_X11_isUse f_X11_lawOf
        simp only [rfs, bd_s, if_true, not_true, if_false, i10, isT_law, p1, not_false_eq_true]
      · show f_X12_law μ1 105 1 x y z = _
        unfold f_X12_law
        rw [(e_ins 1).2.1, bd_s, if_pos (show (0 : Int32) ≤ 1 ∧ (1 : Int32) ≤ 1 by decide), if_neg (show ¬ (1 : Int32) = 0 by decide)]
        have q1 : f_X12_textGives μ1 105 1 x y z = some (g1 x y z, μ2) := q1
        rw [q1, bd_s]
      · exact R2_no h (fun k j c d => by rw [q2 k j (by omega) (by omega), p2 k j (by omega)])
    · have nb : ¬ ((0 : Int32) ≤ a ∧ a ≤ 1) := by
        intro q
        obtain ⟨i, hi, e⟩ := upto (n := 1) (by omega) q
        have : i = 0 ∨ i = 1 := by omega
        rcases this with rfl | rfl
        · exact a0 e
        · exact a1 e
      refine oks_ref (k := 1) h (by omega) ?_ ?_
      · unfold f_X11_law f_X11_isUse
        rw [if_neg a0, if_pos a1, bd_s, if_pos rfl, bd_p]
        rfl
      · intro μ1 _
        show f_X12_law μ1 105 a x y z = _
        unfold f_X12_law
        rw [(e_ins a).2.1, bd_s, if_neg nb, if_pos rfl, bd_p]
        rfl
theorem e_take {μ : Mem} {c k1 n : Nat} (hc : rf c 0 = c + 1) (hl : ln (c + 1) = 50) (hk : ln k1 = 50) (hn : n ≤ 50) : f_X2_take μ c k1 (nI n) = some (cpy (wr μ c 3 (nI n)) k1 0 (c + 1) 0 n) := by
  unfold f_X2_take
  rw [show (50 : Int32) = nI 50 from rfl, j_min (by omega) (by omega), Nat.min_eq_left hn, show (0 : Int32) = nI 0 from rfl, j_max (by omega) (by omega), Nat.max_eq_right (by omega), bd_s, rd_wr_s, hc, hl, hk, cb_nI (by omega) (by omega) (by omega) (by omega), if_pos rfl, bd_s, tn_nI (by omega), tn_nI (by omega)]
theorem e_bytes {μ : Mem} {u n : Nat} (hu : u < 2) (hn : n ≤ 50) : ∃ m1, lp (fun s => f_X12_text_l69 105 (nI u) (nI n) s.1 s.2) FU ((0 : Int32), μ) = some m1 ∧ (∀ i, i < n → rd m1 106 (192 + 50 * u + i) = rd μ 106 (292 + i)) ∧ ∀ k j, ¬ (k = 106 ∧ 192 + 50 * u ≤ j ∧ j < 192 + 50 * u + n) → rd m1 k j = rd μ k j := by
  refine lp_I (fun j s => s.1 = nI j ∧ (∀ i, i < j → rd s.2 106 (192 + 50 * u + i) = rd μ 106 (292 + i)) ∧ ∀ k j, ¬ (k = 106 ∧ 192 + 50 * u ≤ j ∧ j < 192 + 50 * u + n) → rd s.2 k j = rd μ k j) n _ (by omega) ⟨rfl, fun i hi => absurd hi (by omega), fun _ _ _ => rfl⟩ ?_ ?_
  · rintro j ⟨v, m⟩ hj ⟨e1, e2, e3⟩
    simp only at e1 e2 e3
    subst e1
    refine ⟨(nI (j + 1), wr m 106 (192 + 50 * u + j) (rd μ 106 (292 + j))), ?_, rfl, fun i hi => ?_, fun k j' d => ?_⟩
    · show f_X12_text_l69 105 (nI u) (nI n) (nI j) m = _
      unfold f_X12_text_l69
      rw [if_neg (nI_ge hj (by omega)), show (292 : Int32) + nI j = nI (292 + j) from nI_add 292 j, show ((192 : Int32) + 50 * nI u) + nI j = nI (192 + 50 * u + j) by rw [show (50 : Int32) * nI u = nI (50 * u) from pk_mul 50 u, show (192 : Int32) + nI (50 * u) = nI (192 + 50 * u) from nI_add 192 _, nI_add], ib_nI (show 292 + j < 342 by omega) (by omega), if_pos rfl, ib_nI (show 192 + 50 * u + j < 342 by omega) (by omega), if_pos rfl, bd_s, tn_nI (by omega), tn_nI (by omega), nI_1]
      simp only [rfs]
      rw [e3 106 (292 + j) (by omega)]
    · simp only
      by_cases e : i = j
      · rw [e, rd_wr_s]
      · rw [rd_wr_n (by omega)]
        exact e2 i (by omega)
    · simp only
      rw [rd_wr_n (by omega)]
      exact e3 k j' d
  · rintro ⟨v, m⟩ ⟨e1, e2, e3⟩
    simp only at e1 e2 e3
    subst e1
    refine ⟨m, ?_, e2, e3⟩
    show f_X12_text_l69 105 (nI u) (nI n) (nI n) m = _
    unfold f_X12_text_l69
    rw [if_pos (nI_le (Nat.le_refl _) (by omega))]
theorem ln_laws : ln 9 = 50 ∧ ln 12 = 50 ∧ ln 89 = 50 := by decide
theorem use_iff {a : Int32} (q : (0 : Int32) ≤ a ∧ a ≤ 1) : ∃ u, u < 2 ∧ a = nI u := by
  obtain ⟨i, hi, e⟩ := upto (n := 1) (by omega) q
  exact ⟨i, by omega, e⟩
theorem e_useX (a : Int32) : f_X11_isUse a = some (if (0 : Int32) ≤ a ∧ a ≤ 1 then 1 else 0) := by
  unfold f_X11_isUse
  by_cases a0 : a = 0
  · subst a0; rfl
  · by_cases a1 : a = 1
    · subst a1; rfl
    · have nb : ¬ ((0 : Int32) ≤ a ∧ a ≤ 1) := by
        intro q
        obtain ⟨i, hi, e⟩ := upto (n := 1) (by omega) q
        have : i = 0 ∨ i = 1 := by omega
        rcases this with rfl | rfl
        · exact a0 e
        · exact a1 e
      rw [if_neg a0, if_pos a1, if_neg nb]
theorem sh_text : SH_text Rel := by
  intro μ h a
  show OKS (f_X11_text μ 0 a) (fun m => f_X12_text m 105 a)
  by_cases g : (0 : Int32) ≤ a ∧ a ≤ 1
  · obtain ⟨u, hu, rfl⟩ := use_iff g
    obtain ⟨n, n50, t1, t2, t3⟩ := h.1.2.2.1
    have t1 : rd μ 32 1 = nI n := t1
    have hb : ∀ i, i < n → (rd μ 33 i).toNatClampNeg < 256 ∧ rd μ 33 i = nI (rd μ 33 i).toNatClampNeg ∧ rd μ 106 (292 + i) = nI (rd μ 33 i).toNatClampNeg := by
      intro i hi
      obtain ⟨b, b1, b2, b3⟩ := t3 i hi
      have b2 : rd μ 33 i = nI b := b2
      rw [b2, tn_nI (by omega)]
      exact ⟨b1, rfl, b3⟩
    generalize hbb : (fun i => (rd μ 33 i).toNatClampNeg) = bb
    have hb : ∀ i, i < n → bb i < 256 ∧ rd μ 33 i = nI (bb i) ∧ rd μ 106 (292 + i) = nI (bb i) := by rw [← hbb]; exact hb
    obtain ⟨μ1, r1, r2, r3, r4, r5, r6⟩ := e_readAll (μ := μ) (bb := bb) hu n50 t1 (fun i hi => ⟨(hb i hi).2.1, (hb i hi).1⟩)
    -- the class, with the tape emptied
    have X : f_X11_text μ 0 (nI u) = if (ptx u n bb).1 = n ∧ (ptx u n bb).2.2 = false then some (1, cpy (wr (wr μ1 32 1 0) (8 + 3 * u) 3 (nI (ptx u n bb).2.1.length)) 89 0 (9 + 3 * u) 0 (ptx u n bb).2.1.length) else some (-10 - nI (ptx u n bb).1, wr μ1 32 1 0) := by
      unfold f_X11_text f_X11_lawOf
      simp only [rfs]
      rw [e_useX, bd_s, if_pos g, if_pos (by decide), r1, bd_s, bd_s]
      simp only
      by_cases z : (ptx u n bb).1 = n ∧ (ptx u n bb).2.2 = false
      · rw [if_pos z, if_pos (by decide), if_pos z, rd_wr_n (by omega), r2]
        have : u = 0 ∨ u = 1 := by omega
        rcases this with rfl | rfl
        · rw [if_neg (not_not_intro (show nI 0 = 0 from rfl)), bd_s, if_pos isT_law.1, e_take rf_law.1.1 ln_laws.1 ln_laws.2.2 (by omega), bd_s]
        · rw [if_pos (by decide), bd_s, if_pos isT_law.2, e_take rf_law.2.1 ln_laws.2.1 ln_laws.2.2 (by omega), bd_s]
      · rw [if_neg z, if_neg (nI_pos (by omega)), if_neg z]
    have M : ∀ μ' : Mem, (∀ k j, 105 ≤ k → rd μ' k j = rd μ k j) → ∃ (m3 : Mem), f_X12_text μ' 105 (nI u) = some (if (ptx u n bb).1 = n ∧ (ptx u n bb).2.2 = false then 1 else -10 - nI (ptx u n bb).1, m3) ∧ rd m3 106 5 = 0 ∧ (((ptx u n bb).1 = n ∧ (ptx u n bb).2.2 = false) → 0 < n ∧ rd m3 106 (170 + u) = nI n ∧ ∀ i, i < n → rd m3 106 (192 + 50 * u + i) = nI (bb i)) ∧ (∀ k j, ¬ (k = 106 ∧ (j = 5 ∨ (((ptx u n bb).1 = n ∧ (ptx u n bb).2.2 = false) ∧ (j = 170 + u ∨ 192 + 50 * u ≤ j ∧ j < 242 + 50 * u)))) → ¬ (k = 105 ∧ 5 ≤ j ∧ j ≤ 10) → rd m3 k j = rd μ' k j) := by
      intro μ' hR
      obtain ⟨v, μ2, w1, w2, w3, w4, w5, w6⟩ := e_worked (μ := wr μ' 106 5 0) (base := 292) (bb := bb) hu n50 (by omega) (fun i hi => ⟨by rw [rd_wr_n (by omega), hR _ _ (by omega)]; exact (hb i hi).2.2, (hb i hi).1⟩)
      have w1 : f_X12_worked (wr μ' 106 5 0) 105 292 (nI n) (nI u) = some (v, μ2) := w1
      have hT : f_X12_text μ' 105 (nI u) = if rd μ2 105 8 < 0 then (lp (fun s => f_X12_text_l69 105 (nI u) (nI n) s.1 s.2) FU ((0 : Int32), wr μ2 106 (170 + u) (nI n))).bind fun e69 => some (1, e69) else some (-10 - rd μ2 105 8, μ2) := by
        unfold f_X12_text
        simp only [rfs, cls]
        rw [(e_ins (nI u)).2.1, bd_s, if_pos g, if_pos (by decide), bd_s, hR _ _ (by omega), t2, w1, bd_s, show (170 : Int32) + nI u = nI (170 + u) from nI_add 170 u, ib_nI (show 170 + u < 342 by omega) (by omega), if_pos rfl, bd_s, tn_nI (by omega)]
      by_cases z : (ptx u n bb).1 = n ∧ (ptx u n bb).2.2 = false
      · obtain ⟨y1, y2, y3⟩ := w5 z
        obtain ⟨m1, l1, l2, l3⟩ := e_bytes (μ := wr μ2 106 (170 + u) (nI n)) hu n50
        rw [y2, if_pos (by decide), l1, bd_s] at hT
        refine ⟨m1, by rw [hT, if_pos z], ?_, fun _ => ⟨y1, ?_, fun i hi => ?_⟩, fun k j p q => ?_⟩
        · rw [l3 _ _ (by omega), rd_wr_n (by omega), w2 _ _ (by omega), rd_wr_s]
        · rw [l3 _ _ (by omega), rd_wr_s]
        · rw [l2 i hi, rd_wr_n (by omega), w2 _ _ (by omega), rd_wr_n (by omega), hR _ _ (by omega)]
          exact (hb i hi).2.2
        · have p' : ¬ (k = 106 ∧ (j = 5 ∨ (j = 170 + u ∨ 192 + 50 * u ≤ j ∧ j < 242 + 50 * u))) := fun e => p ⟨e.1, e.2.imp id fun f => ⟨z, f⟩⟩
          rw [l3 _ _ (by omega), rd_wr_n (by omega), w2 _ _ (by omega), rd_wr_n (by omega)]
      · have y := w6 z
        rw [y, if_neg (nI_pos (by omega))] at hT
        refine ⟨μ2, by rw [hT, if_neg z], ?_, fun e => absurd e z, fun k j p q => ?_⟩
        · rw [w2 _ _ (by omega), rd_wr_s]
        · have p' : ¬ (k = 106 ∧ j = 5) := fun e => p ⟨e.1, Or.inl e.2⟩
          rw [w2 _ _ q, rd_wr_n p']
    have R0 : Rel (wr (wr μ 32 1 0) 106 5 0) := by
      refine R2_Tp h (fun k j c d => by rw [rd_wr_n (by omega), rd_wr_n (by omega)]) ⟨0, by omega, ?_, ?_, fun i hi => absurd hi (by omega)⟩
      · rw [rd_wr_n (by omega), rd_wr_s]; rfl
      · rw [rd_wr_s]; rfl
    by_cases z : (ptx u n bb).1 = n ∧ (ptx u n bb).2.2 = false
    · rw [if_pos z] at X
      have K : ∀ k j, 105 ≤ k → rd (cpy (wr (wr μ1 32 1 0) (8 + 3 * u) 3 (nI (ptx u n bb).2.1.length)) 89 0 (9 + 3 * u) 0 (ptx u n bb).2.1.length) k j = rd μ k j := by
        intro k j hk
        rw [rd_cpy, if_neg (by omega), rd_wr_n (by omega), rd_wr_n (by omega), r6 _ _ (by omega) (by omega)]
      obtain ⟨m3, q1, q2, q3, q4⟩ := M _ K
      rw [if_pos z] at q1
      refine oks_go X q1 ?_
      obtain ⟨q5, q6, q7⟩ := q3 z
      have FR : ∀ k j, ¬ (k = 8 + 3 * u ∧ j = 3 ∨ k = 9 + 3 * u ∨ k = 106 ∧ (j = 170 + u ∨ 192 + 50 * u ≤ j ∧ j < 242 + 50 * u)) → ¬ (k = 88 ∨ k = 89 ∨ k = 105 ∧ 5 ≤ j ∧ j ≤ 10) → rd m3 k j = rd (wr (wr μ 32 1 0) 106 5 0) k j := by
        intro k j c d
        by_cases t5 : k = 106 ∧ j = 5
        · obtain ⟨rfl, rfl⟩ := t5
          rw [q2, rd_wr_s]
        · rw [q4 k j (fun e => by
            rcases e.2 with f | f
            · exact t5 ⟨e.1, f⟩
            · exact c (Or.inr (Or.inr ⟨e.1, f.2⟩))) (by omega), rd_cpy, if_neg (by omega), rd_wr_n (by omega), rd_wr_n (μ := wr μ 32 1 0) (by omega)]
          by_cases t3 : k = 32 ∧ j = 1
          · obtain ⟨rfl, rfl⟩ := t3
            rw [rd_wr_s, rd_wr_s]
          · rw [rd_wr_n t3, rd_wr_n t3, r6 _ _ (by omega) (by omega)]
      have LW : RLaw m3 (8 + 3 * u) (9 + 3 * u) m3 106 u := by
        refine ⟨n, bb, (ptx u n bb).2.1, n50, by omega, ?_, fun i v hv => ?_, q6, fun i hi => ⟨(hb i hi).1, q7 i hi⟩, ?_⟩
        · rw [q4 _ _ (by omega) (by omega), rd_cpy, if_neg (by omega), rd_wr_s]
        · have := lt_of_get hv
          rw [q4 _ _ (by omega) (by omega), rd_cpy, if_pos ⟨rfl, by omega, by omega⟩, rd_wr_n (by omega), rd_wr_n (by omega), Nat.sub_zero, Nat.zero_add]
          exact r3 i v hv
        · unfold LAWS
          rw [if_neg (by omega)]
          exact ⟨z.1, z.2, rfl⟩
      have : u = 0 ∨ u = 1 := by omega
      rcases this with rfl | rfl
      · exact R2_L0 R0 (fun k j c d => FR k j (by omega) (by omega)) LW
      · exact R2_L1 R0 (fun k j c d => FR k j (by omega) (by omega)) LW
    · rw [if_neg z] at X
      obtain ⟨m3, q1, q2, q3, q4⟩ := M (wr μ1 32 1 0) (fun k j hk => by rw [rd_wr_n (by omega), r6 _ _ (by omega) (by omega)])
      rw [if_neg z] at q1
      refine oks_go X q1 ?_
      refine R2_Tp h (fun k j c d => ?_) ⟨0, by omega, ?_, by rw [q2]; rfl, fun i hi => absurd hi (by omega)⟩
      · rw [q4 k j (fun e => by
          rcases e.2 with f | f
          · exact c (Or.inr ⟨e.1, Or.inl f⟩)
          · exact z f.1) (by omega), rd_wr_n (by omega), r6 _ _ (by omega) (by omega)]
      · rw [q4 _ _ (by omega) (by omega), rd_wr_s]
        rfl
  · refine oks_ref (k := 1) h (by omega) ?_ ?_
    · unfold f_X11_text
      rw [e_useX, bd_s, if_neg g, if_neg (by decide), bd_p]
      rfl
    · intro μ1 _
      show f_X12_text μ1 105 a = _
      unfold f_X12_text
      rw [(e_ins a).2.1, bd_s, if_neg g, if_neg (by decide), bd_p]
      rfl
