/-! PURE: the class reads a text -/
def CSc (μ : Mem) (u n : Nat) (bb : Nat → Nat) : Prop := rd μ 88 3 = nI u ∧ rd μ 88 2 = nI 32 ∧ rd μ 32 1 = nI n ∧ ∀ i, i < n → rd μ 33 i = nI (bb i) ∧ bb i < 256
def CSt (μ : Mem) (s : PS) : Prop := rd μ 88 4 = nI s.1 ∧ rd μ 88 1 = nI s.2.1.length ∧ rd μ 88 5 = b2 s.2.2 ∧ ∀ i v, s.2.1[i]? = some v → rd μ 89 i = v
def CK (μ μ2 : Mem) : Prop := ∀ k j, ¬ (k = 88 ∧ (j = 1 ∨ j = 4 ∨ j = 5)) → k ≠ 89 → rd μ2 k j = rd μ k j
theorem CK_rfl (μ : Mem) : CK μ μ := fun _ _ _ _ => rfl
theorem CK_tr {μ μ1 μ2 : Mem} (h1 : CK μ μ1) (h2 : CK μ1 μ2) : CK μ μ2 := fun k j a b => by rw [h2 k j a b, h1 k j a b]
theorem CSc_K {μ μ2 : Mem} {u n : Nat} {bb : Nat → Nat} (h : CK μ μ2) (H : CSc μ u n bb) : CSc μ2 u n bb := ⟨by rw [h _ _ (by omega) (by omega)]; exact H.1, by rw [h _ _ (by omega) (by omega)]; exact H.2.1, by rw [h _ _ (by omega) (by omega)]; exact H.2.2.1, fun i hi => by rw [h _ _ (by omega) (by omega)]; exact H.2.2.2 i hi⟩
theorem isT32 : isT 7 (nI 32).toNatClampNeg = true := by decide
section
variable {u n : Nat} {bb : Nat → Nat}
theorem hvc {μ : Mem} (C : CSc μ u n bb) (p k : Nat) (hk : k < 256) : (hv n bb p = nI k) = (pat n bb p = k) := hv_eq (fun h => (C.2.2.2 p h).2) hk
theorem e_at {μ : Mem} (hn : n ≤ 50) (C : CSc μ u n bb) {p : Nat} (hp : p ≤ n) : f_X7_at μ 32 (nI p) = some (hv n bb p) := by
  unfold f_X7_at hv
  rw [if_neg (nI_pos (by omega)), C.2.2.1]
  by_cases h : p < n
  · rw [if_neg (nI_ge h (by omega)), ib_nI (show p < 50 by omega) (by omega), if_pos rfl, if_pos h, tn_nI (by omega)]
    simp only [rfs]
    rw [(C.2.2.2 p h).1]
  · rw [if_pos (nI_le (by omega) (by omega)), if_neg h]
theorem e_at2 {μ : Mem} (hn : n ≤ 50) (C : CSc μ u n bb) {p : Nat} (hp : p ≤ n) (h4 : rd μ 88 4 = nI p) : f_X7_at μ (rd μ 88 2).toNatClampNeg (rd μ 88 4) = some (hv n bb p) := by
  rw [C.2.1, h4]
  exact e_at hn C hp
theorem e_lvl {μ : Mem} (C : CSc μ u n bb) (p : Nat) : ∃ r, f_X4_levelOf (hv n bb p) = some r ∧ ∀ l, l ≤ 4 → (r = nI l ↔ plv (pat n bb p) = l) := by
  have q1 : (hv n bb p = 37) = (pat n bb p = 37) := hvc C p 37 (by omega)
  have q2 : (hv n bb p = 38) = (pat n bb p = 38) := hvc C p 38 (by omega)
  have q3 : (hv n bb p = 42) = (pat n bb p = 42) := hvc C p 42 (by omega)
  have q4 : (hv n bb p = 43) = (pat n bb p = 43) := hvc C p 43 (by omega)
  have q5 : (hv n bb p = 45) = (pat n bb p = 45) := hvc C p 45 (by omega)
  have q6 : (hv n bb p = 47) = (pat n bb p = 47) := hvc C p 47 (by omega)
  have q7 : (hv n bb p = 60) = (pat n bb p = 60) := hvc C p 60 (by omega)
  have q8 : (hv n bb p = 61) = (pat n bb p = 61) := hvc C p 61 (by omega)
  have q9 : (hv n bb p = 62) = (pat n bb p = 62) := hvc C p 62 (by omega)
  have q0 : (hv n bb p = 124) = (pat n bb p = 124) := hvc C p 124 (by omega)
  unfold f_X4_levelOf
  simp only [q1, q2, q3, q4, q5, q6, q7, q8, q9, q0]
  have key : ∀ x k : Nat, k ≤ 4 → plv x = k → ∀ l, l ≤ 4 → (nI k = nI l ↔ plv x = l) := fun x k hk h l hl => by rw [nI_eq (by omega) (by omega), h]
  generalize pat n bb p = x
  by_cases e1 : x = 37
  · subst e1; exact ⟨4, rfl, key 37 4 (by omega) rfl⟩
  · by_cases e2 : x = 38
    · subst e2; exact ⟨1, rfl, key 38 1 (by omega) rfl⟩
    · by_cases e3 : x = 42
      · subst e3; exact ⟨4, rfl, key 42 4 (by omega) rfl⟩
      · by_cases e4 : x = 43
        · subst e4; exact ⟨3, rfl, key 43 3 (by omega) rfl⟩
        · by_cases e5 : x = 45
          · subst e5; exact ⟨3, rfl, key 45 3 (by omega) rfl⟩
          · by_cases e6 : x = 47
            · subst e6; exact ⟨4, rfl, key 47 4 (by omega) rfl⟩
            · by_cases e7 : x = 60
              · subst e7; exact ⟨2, rfl, key 60 2 (by omega) rfl⟩
              · by_cases e8 : x = 61
                · subst e8; exact ⟨2, rfl, key 61 2 (by omega) rfl⟩
                · by_cases e9 : x = 62
                  · subst e9; exact ⟨2, rfl, key 62 2 (by omega) rfl⟩
                  · by_cases e0 : x = 124
                    · subst e0; exact ⟨0, rfl, key 124 0 (by omega) rfl⟩
                    · refine ⟨-1, by simp only [e1, e2, e3, e4, e5, e6, e7, e8, e9, e0, if_false], fun l hl => ⟨fun h => ?_, fun h => ?_⟩⟩
                      · have := neg1_ne (c := l) (by omega)
                        exact absurd h (by rw [this]; exact not_false)
                      · exfalso
                        unfold plv at h
                        repeat' split at h
                        all_goals omega
theorem e_nameC {μ : Mem} (hu : u < 2) (C : CSc μ u n bb) (p : Nat) : f_X4_nameOf μ 88 (hv n bb p) = some (-nI (pname u (pat n bb p))) := by
  have q1 : (hv n bb p = 102) = (pat n bb p = 102) := hvc C p 102 (by omega)
  have q2 : (hv n bb p = 119) = (pat n bb p = 119) := hvc C p 119 (by omega)
  have q3 : (hv n bb p = 100) = (pat n bb p = 100) := hvc C p 100 (by omega)
  have q4 : (hv n bb p = 111) = (pat n bb p = 111) := hvc C p 111 (by omega)
  have q5 : (hv n bb p = 110) = (pat n bb p = 110) := hvc C p 110 (by omega)
  unfold f_X4_nameOf pname
  rw [C.1]
  simp only [q1, q2, q3, q4, q5]
  generalize pat n bb p = x
  have : u = 0 ∨ u = 1 := by omega
  rcases this with rfl | rfl
  · by_cases e1 : x = 102
    · subst e1; rfl
    · by_cases e2 : x = 119
      · subst e2; rfl
      · by_cases e3 : x = 100
        · subst e3; rfl
        · by_cases e4 : x = 111
          · subst e4; rfl
          · by_cases e5 : x = 110
            · subst e5; rfl
            · simp only [e1, e2, e3, e4, e5, if_false]; rfl
  · by_cases e1 : x = 102
    · subst e1; rfl
    · by_cases e2 : x = 119
      · subst e2; rfl
      · by_cases e3 : x = 100
        · subst e3; rfl
        · by_cases e4 : x = 111
          · subst e4; rfl
          · by_cases e5 : x = 110
            · subst e5; rfl
            · simp only [e1, e2, e3, e4, e5, if_false]; rfl
theorem e_digC {μ : Mem} (C : CSc μ u n bb) (p : Nat) : f_X4_isDigit (hv n bb p) = some (b2 (decide (48 ≤ pat n bb p ∧ pat n bb p ≤ 57))) := by
  unfold f_X4_isDigit hv pat
  by_cases h : p < n
  · rw [if_pos h, if_pos h]
    have := (C.2.2.2 p h).2
    have k1 : nI (bb p) < (48 : Int32) ↔ bb p < 48 := nI_ltI (b := 48) (by omega) (by omega)
    have k2 : (57 : Int32) < nI (bb p) ↔ 57 < bb p := nI_ltI (a := 57) (by omega) (by omega)
    by_cases z1 : bb p < 48
    · rw [if_pos (k1.mpr z1), decide_eq_false (by omega)]; rfl
    · by_cases z2 : 57 < bb p
      · rw [if_neg (fun y => z1 (k1.mp y)), if_pos (k2.mpr z2), decide_eq_false (by omega)]; rfl
      · rw [if_neg (fun y => z1 (k1.mp y)), if_neg (fun y => z2 (k2.mp y)), decide_eq_true (by omega)]; rfl
  · rw [if_neg h, if_neg h]
    rw [if_pos (by decide), decide_eq_false (by omega)]
    rfl
theorem CSt_place {μ : Mem} {p p' : Nat} {st : List Int32} {fl : Bool} (h : CSt μ (p, st, fl)) : CSt (wr μ 88 4 (nI p')) (p', st, fl) ∧ CK μ (wr μ 88 4 (nI p')) := ⟨⟨rd_wr_s _ _ _ _, by rw [rd_wr_n (by omega)]; exact h.2.1, by rw [rd_wr_n (by omega)]; exact h.2.2.1, fun i v hv => by rw [rd_wr_n (by omega)]; exact h.2.2.2 i v hv⟩, fun k j a b => rd_wr_n (by omega)⟩
theorem CSt_fail {μ : Mem} {p : Nat} {st : List Int32} {fl : Bool} (h : CSt μ (p, st, fl)) : CSt (wr μ 88 5 1) (p, st, true) ∧ CK μ (wr μ 88 5 1) := ⟨⟨by rw [rd_wr_n (by omega)]; exact h.1, by rw [rd_wr_n (by omega)]; exact h.2.1, rd_wr_s _ _ _ _, fun i v hv => by rw [rd_wr_n (by omega)]; exact h.2.2.2 i v hv⟩, fun k j a b => rd_wr_n (by omega)⟩
theorem e_add4 {μ : Mem} {s : PS} (h : CSt μ s) (hl : s.2.1.length < 50) (v : Int32) : ∃ μ2, f_X4_add μ 88 v = some μ2 ∧ CSt μ2 (padd v s) ∧ CK μ μ2 := by
  obtain ⟨h1, h2, h3, h4⟩ := h
  refine ⟨wr (wr μ 89 s.2.1.length v) 88 1 (nI (s.2.1.length + 1)), ?_, ⟨?_, ?_, ?_, fun i w hw => ?_⟩, fun k j a b => by rw [rd_wr_n (by omega), rd_wr_n (by omega)]⟩
  · unfold f_X4_add
    rw [h2, if_neg (show ¬ (50 : Int32) ≤ nI s.2.1.length from nI_ge (b := 50) hl (by omega)), ib_nI hl (by omega), if_pos rfl, bd_s, bd_s, tn_nI (by omega)]
    simp only [rfs]
    rw [rd_wr_n (by omega), h2, nI_1]
  · rw [rd_wr_n (by omega), rd_wr_n (by omega)]; exact h1
  · rw [rd_wr_s]
    show _ = nI (s.2.1 ++ [v]).length
    rw [List.length_append]
    rfl
  · rw [rd_wr_n (by omega), rd_wr_n (by omega)]; exact h3
  · rw [rd_wr_n (by omega)]
    have hw : (s.2.1 ++ [v])[i]? = some w := hw
    by_cases z : i < s.2.1.length
    · rw [List.getElem?_append_left z] at hw
      rw [rd_wr_n (by omega)]; exact h4 i w hw
    · have : i = s.2.1.length := by
        have := lt_of_get hw
        rw [List.length_append] at this
        simp only [List.length_cons, List.length_nil] at this
        omega
      subst this
      rw [List.getElem?_append_right (Nat.le_refl _), Nat.sub_self] at hw
      have hw : some v = some w := hw
      cases hw
      exact rd_wr_s _ _ _ _
/-- what a reading of the class comes to -/
def RSC (n p : Nat) (st : List Int32) (s' : PS) (r : Option Mem) (μ : Mem) : Prop := ∃ μ2, r = some μ2 ∧ CSt μ2 s' ∧ CK μ μ2 ∧ p ≤ s'.1 ∧ s'.1 ≤ n ∧ s'.2.1.length + p ≤ st.length + s'.1 ∧ (s'.2.2 = false → p < s'.1)
theorem loopC (hn : n ≤ 50) {l o K : Nat} (hl : l ≤ 4) (g : PS → PS)
    (hsub : ∀ p st μ, p ≤ n → st.length ≤ p → CSc μ u n bb → CSt μ (p, st, false) → RSC n p st (g (p, st, false)) (f_X4_readLevel K μ 88 (nI (l + 1)) (nI o)) μ) :
    ∀ (i v fu : Nat) (p : Nat) (st : List Int32) (fl : Bool) (μ : Mem), v + i = 50 → i < fu → p ≤ n → st.length ≤ p → CSc μ u n bb → CSt μ (p, st, fl) → ∃ (e : Mem ⊕ Mem) (μ2 : Mem), lp (fun s => F_X4_readLevel_l21 (f_X4_readLevel K) (f_X4_readUnit K) 88 (nI l) (nI o) s.1 s.2) fu (nI v, μ) = some e ∧ (e = .inl μ2 ∨ e = .inr μ2) ∧ CSt μ2 (plp n bb g l i (p, st, fl)) ∧ CK μ μ2 ∧ p ≤ (plp n bb g l i (p, st, fl)).1 ∧ (plp n bb g l i (p, st, fl)).1 ≤ n ∧ (plp n bb g l i (p, st, fl)).2.1.length + p ≤ st.length + (plp n bb g l i (p, st, fl)).1 := by
  intro i
  induction i with
  | zero =>
    intro v fu p st fl μ hvi hfu hp hst C S
    obtain ⟨fu', rfl⟩ : ∃ fu', fu = fu' + 1 := ⟨fu - 1, by omega⟩
    refine ⟨.inr μ, μ, ?_, Or.inr rfl, S, CK_rfl μ, Nat.le_refl _, hp, Nat.le_refl _⟩
    rw [lp]
    show (F_X4_readLevel_l21 _ _ 88 (nI l) (nI o) (nI v) μ).bind _ = _
    unfold F_X4_readLevel_l21
    rw [if_pos (show (50 : Int32) ≤ nI v from nI_le (a := 50) (by omega) (by omega)), bd_s]
  | succ i ih =>
    intro v fu p st fl μ hvi hfu hp hst C S
    obtain ⟨fu', rfl⟩ : ∃ fu', fu = fu' + 1 := ⟨fu - 1, by omega⟩
    obtain ⟨S1, S2, S3, S4⟩ := S
    cases fl with
    | true =>
      refine ⟨.inr μ, μ, ?_, Or.inr rfl, ?_⟩
      · rw [lp]
        show (F_X4_readLevel_l21 _ _ 88 (nI l) (nI o) (nI v) μ).bind _ = _
        unfold F_X4_readLevel_l21
        rw [if_neg (show ¬ (50 : Int32) ≤ nI v from nI_ge (b := 50) (by omega) (by omega)), S3, if_pos (show ¬ b2 true = 0 by decide), bd_s]
      · rw [plp, if_neg (fun h => by cases h.1)]
        exact ⟨⟨S1, S2, S3, S4⟩, CK_rfl μ, Nat.le_refl _, hp, Nat.le_refl _⟩
    | false =>
      obtain ⟨r, r1, r2⟩ := e_lvl C p
      have hs : F_X4_readLevel_l21 (f_X4_readLevel K) (f_X4_readUnit K) 88 (nI l) (nI o) (nI v) μ = if ¬ plv (pat n bb p) = l then some (.inr (.inr μ)) else (f_X4_readLevel K (wr μ 88 4 (nI (p + 1))) 88 (nI (l + 1)) (nI o)).bind fun μ80 => (f_X4_add μ80 88 (-hv n bb p)).bind fun μ87 => if ¬ nI l = 2 then some (.inl (nI (v + 1), μ87)) else some (.inr (.inl μ87)) := by
        unfold F_X4_readLevel_l21
        rw [if_neg (show ¬ (50 : Int32) ≤ nI v from nI_ge (b := 50) (by omega) (by omega)), S3, if_neg (show ¬ ¬ b2 (p, st, false).2.2 = 0 from not_not_intro rfl), C.2.1, isT32, if_pos rfl, if_pos rfl, S1, show f_X7_at μ (nI 32).toNatClampNeg (nI (p, st, false).1) = some (hv n bb p) from e_at hn C hp, bd_s, bd_s, r1, bd_s, bd_s, nI_1, nI_1, nI_1]
        by_cases z : plv (pat n bb p) = l
        · rw [if_neg (not_not_intro ((r2 l hl).mpr z)), if_neg (not_not_intro z)]
        · rw [if_pos (fun y => z ((r2 l hl).mp y)), if_pos z]
      by_cases z : plv (pat n bb p) = l
      · rw [if_neg (not_not_intro z)] at hs
        have hc := plv_gt z hl
        have hpn : p < n := by
          unfold pat at hc
          by_cases y : p < n
          · exact y
          · rw [if_neg y] at hc; omega
        have hvp : hv n bb p = nI (pat n bb p) := by unfold hv pat; rw [if_pos hpn, if_pos hpn]
        obtain ⟨T1, T2⟩ := CSt_place (p' := p + 1) (fl := false) ⟨S1, S2, S3, S4⟩
        obtain ⟨μ1, g1, g2, g3, g4, g5, g6, g7⟩ := hsub (p + 1) st _ (by omega) (by omega) (CSc_K T2 C) T1
        rw [g1, bd_s, hvp] at hs
        revert g2 g4 g5 g6 g7
        generalize hg : g (p + 1, st, false) = s'
        intro g2 g4 g5 g6 g7
        obtain ⟨μ2, a1, a2, a3⟩ := e_add4 g2 (by omega) (-nI (pat n bb p))
        rw [a1, bd_s] at hs
        have hlen : (padd (-nI (pat n bb p)) s').2.1.length = s'.2.1.length + 1 := by
          show (s'.2.1 ++ [_]).length = _
          rw [List.length_append]; rfl
        have hP : plp n bb g l (i + 1) (p, st, false) = if l = 2 then padd (-nI (pat n bb p)) s' else plp n bb g l i (padd (-nI (pat n bb p)) s') := by
          rw [plp, if_pos ⟨rfl, z⟩]
          show (if l = 2 then padd (-nI (pat n bb p)) (g (p + 1, st, false)) else plp n bb g l i (padd (-nI (pat n bb p)) (g (p + 1, st, false)))) = _
          rw [hg]
        rw [hP]
        by_cases l2 : l = 2
        · rw [if_neg (not_not_intro (by rw [l2]; rfl))] at hs
          refine ⟨.inl μ2, μ2, ?_, Or.inl rfl, ?_⟩
          · rw [lp]
            show (F_X4_readLevel_l21 _ _ 88 (nI l) (nI o) (nI v) μ).bind _ = _
            rw [hs, bd_s]
          · rw [if_pos l2]
            exact ⟨a2, CK_tr (CK_tr T2 g3) a3, by show p ≤ s'.1; omega, g5, by rw [hlen]; show _ ≤ _ + s'.1; omega⟩
        · rw [if_pos (show ¬ nI l = 2 from fun y => l2 ((nI_eq (b := 2) (by omega) (by omega)).mp y))] at hs
          obtain ⟨e, μ3, i1, i2, i3, i4, i5, i6, i7⟩ := ih (v + 1) fu' s'.1 (padd (-nI (pat n bb p)) s').2.1 s'.2.2 μ2 (by omega) (by omega) g5 (by rw [hlen]; omega) (CSc_K a3 (CSc_K g3 (CSc_K T2 C))) a2
          refine ⟨e, μ3, ?_, i2, ?_⟩
          · rw [lp]
            show (F_X4_readLevel_l21 _ _ 88 (nI l) (nI o) (nI v) μ).bind _ = _
            rw [hs, bd_s]
            exact i1
          · rw [if_neg l2]
            rw [hlen] at i7
            exact ⟨i3, CK_tr (CK_tr (CK_tr T2 g3) a3) i4, Nat.le_trans (by omega) i5, i6, by have i7 : (plp n bb g l i (padd (-nI (pat n bb p)) s')).2.1.length + s'.1 ≤ s'.2.1.length + 1 + (plp n bb g l i (padd (-nI (pat n bb p)) s')).1 := i7; omega⟩
      · rw [if_pos z] at hs
        refine ⟨.inr μ, μ, ?_, Or.inr rfl, ?_⟩
        · rw [lp]
          show (F_X4_readLevel_l21 _ _ 88 (nI l) (nI o) (nI v) μ).bind _ = _
          rw [hs, bd_s]
        · rw [plp, if_neg (fun h => z h.2)]
          exact ⟨⟨S1, S2, S3, S4⟩, CK_rfl μ, Nat.le_refl _, hp, Nat.le_refl _⟩
theorem digC (hn : n ≤ 50) {st : List Int32} : ∀ (j v p d fu : Nat) (μ : Mem), d + j = 4 → j < fu → v < 10 ^ d → p ≤ n → CSc μ u n bb → CSt μ (p, st, false) → ∃ (μ2 : Mem), lp (fun s => f_X4_readNumber_l4 88 s.1 s.2.1 s.2.2) fu (nI v, nI d, μ) = some (nI (pnum n bb j v p).1, μ2) ∧ p ≤ (pnum n bb j v p).2 ∧ (pnum n bb j v p).2 ≤ n ∧ CK μ μ2 ∧ CSt μ2 ((pnum n bb j v p).2, st, false) := by
  intro j
  induction j with
  | zero =>
    intro v p d fu μ hd hfu hv' hp C S
    obtain ⟨fu', rfl⟩ : ∃ fu', fu = fu' + 1 := ⟨fu - 1, by omega⟩
    refine ⟨μ, ?_, Nat.le_refl _, hp, CK_rfl μ, S⟩
    rw [lp]
    show (f_X4_readNumber_l4 88 (nI v) (nI d) μ).bind _ = _
    unfold f_X4_readNumber_l4
    rw [if_pos (show (4 : Int32) ≤ nI d from nI_le (a := 4) (by omega) (by omega)), bd_s]
    rfl
  | succ j ih =>
    intro v p d fu μ hd hfu hv' hp C S
    obtain ⟨fu', rfl⟩ : ∃ fu', fu = fu' + 1 := ⟨fu - 1, by omega⟩
    have v4 : 10 ^ d ≤ 10 ^ 3 := Nat.pow_le_pow_right (by omega) (by omega)
    have hs : f_X4_readNumber_l4 88 (nI v) (nI d) μ = if 48 ≤ pat n bb p ∧ pat n bb p ≤ 57 then some (.inl (((10 * nI v) + hv n bb p) - 48, nI (d + 1), wr μ 88 4 (nI (p + 1)))) else some (.inr (nI v, μ)) := by
      unfold f_X4_readNumber_l4
      rw [if_neg (show ¬ (4 : Int32) ≤ nI d from nI_ge (b := 4) (by omega) (by omega)), C.2.1, isT32, if_pos rfl, if_pos rfl, S.1, show f_X7_at μ (nI 32).toNatClampNeg (nI (p, st, false).1) = some (hv n bb p) from e_at hn C hp, bd_s, bd_s, e_digC C p, bd_s, bd_s, nI_1, nI_1]
      by_cases z : 48 ≤ pat n bb p ∧ pat n bb p ≤ 57
      · rw [decide_eq_true z, if_neg (by decide), if_pos z]
      · rw [decide_eq_false z, if_pos (by decide), if_neg z]
    by_cases z : 48 ≤ pat n bb p ∧ pat n bb p ≤ 57
    · have hpn : p < n := by
        by_cases y : p < n
        · exact y
        · unfold pat at z; rw [if_neg y] at z; omega
      have hvp : hv n bb p = nI (pat n bb p) := by unfold hv pat; rw [if_pos hpn, if_pos hpn]
      have hval : ((10 * nI v) + hv n bb p) - 48 = nI (10 * v + (pat n bb p - 48)) := by
        rw [hvp, show (10 : Int32) = nI 10 from rfl, pk_mul, nI_add, show (48 : Int32) = nI 48 from rfl, pk_sub (by omega)]
        congr 1
        omega
      rw [if_pos z, hval] at hs
      obtain ⟨T1, T2⟩ := CSt_place (p' := p + 1) S
      have hpow : 10 ^ (d + 1) = 10 * 10 ^ d := by rw [Nat.pow_succ, Nat.mul_comm]
      obtain ⟨μ2, i1, i2, i3, i4, i5⟩ := ih (10 * v + (pat n bb p - 48)) (p + 1) (d + 1) fu' _ (by omega) (by omega) (by omega) (by omega) (CSc_K T2 C) T1
      have hP : pnum n bb (j + 1) v p = pnum n bb j (10 * v + (pat n bb p - 48)) (p + 1) := by rw [pnum, if_pos z]
      rw [hP]
      refine ⟨μ2, ?_, by omega, i3, CK_tr T2 i4, i5⟩
      rw [lp]
      show (f_X4_readNumber_l4 88 (nI v) (nI d) μ).bind _ = _
      rw [hs, bd_s]
      exact i1
    · rw [if_neg z] at hs
      have hP : pnum n bb (j + 1) v p = (v, p) := by rw [pnum, if_neg z]
      rw [hP]
      refine ⟨μ, ?_, Nat.le_refl _, hp, CK_rfl μ, S⟩
      rw [lp]
      show (f_X4_readNumber_l4 88 (nI v) (nI d) μ).bind _ = _
      rw [hs, bd_s]
theorem pnum_gt {p : Nat} (h : 48 ≤ pat n bb p ∧ pat n bb p ≤ 57) : p < (pnum n bb 4 0 p).2 := by
  have := (show ∀ j v q, q ≤ (pnum n bb j v q).2 from fun j => by
    induction j with
    | zero => intro v q; exact Nat.le_refl _
    | succ j ih =>
      intro v q
      rw [pnum]
      split
      · have := ih (10 * v + (pat n bb q - 48)) (q + 1); omega
      · exact Nat.le_refl _)
  rw [pnum, if_pos h]
  have := this 3 (10 * 0 + (pat n bb p - 48)) (p + 1)
  omega
end
