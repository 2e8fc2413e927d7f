/-! PURE: the class reads a text, whole -/
section
variable {u n : Nat} {bb : Nat → Nat}
theorem levC (hn : n ≤ 50) {l o K : Nat} (hl : l ≤ 4) (g : PS → PS)
    (hsub : ∀ p st μ, p ≤ n → st.length ≤ p → CSc μ u n bb → CSt μ (p, st, false) → RSC n p st (g (p, st, false)) (f_X4_readLevel K μ 88 (nI (l + 1)) (nI o)) μ)
    {p : Nat} {st : List Int32} {μ : Mem} (hp : p ≤ n) (hst : st.length ≤ p) (C : CSc μ u n bb) (S : CSt μ (p, st, false)) : RSC n p st (plp n bb g l 50 (g (p, st, false))) (f_X4_readLevel (K + 1) μ 88 (nI l) (nI o)) μ := by
  obtain ⟨μ1, g1, g2, g3, g4, g5, g6, g7⟩ := hsub p st μ hp hst C S
  obtain ⟨e, μ2, i1, i2, i3, i4, i5, i6, i7⟩ := loopC hn hl g hsub 50 0 FU (g (p, st, false)).1 (g (p, st, false)).2.1 (g (p, st, false)).2.2 μ1 (by omega) (by unfold FU; omega) g5 (by omega) (CSc_K g3 C) g2
  have i3 : CSt μ2 (plp n bb g l 50 (g (p, st, false))) := i3
  have i5 : (g (p, st, false)).1 ≤ (plp n bb g l 50 (g (p, st, false))).1 := i5
  have i6 : (plp n bb g l 50 (g (p, st, false))).1 ≤ n := i6
  have i7 : (plp n bb g l 50 (g (p, st, false))).2.1.length + (g (p, st, false)).1 ≤ (g (p, st, false)).2.1.length + (plp n bb g l 50 (g (p, st, false))).1 := i7
  refine ⟨μ2, ?_, i3, CK_tr g3 i4, by omega, i6, by omega, fun h => ?_⟩
  · show F_X4_readLevel (f_X4_readLevel K) (f_X4_readUnit K) μ 88 (nI l) (nI o) = _
    unfold F_X4_readLevel
    rw [if_pos (show nI l ≤ (4 : Int32) from nI_le (b := 4) (by omega) (by omega)), nI_1, g1, bd_s, show (0 : Int32) = nI 0 from rfl, i1, bd_s]
    rcases i2 with rfl | rfl <;> rfl
  · by_cases z : (g (p, st, false)).2.2 = false
    · have := g7 z; omega
    · have hz : (g (p, st, false)).2.2 = true := by simpa using z
      have : plp n bb g l 50 (g (p, st, false)) = g (p, st, false) := by rw [plp, if_neg (fun h => z h.1)]
      rw [this, hz] at h
      cases h
theorem readC (hu : u < 2) (hn : n ≤ 50) : ∀ k l o K, l ≤ 5 → o ≤ 5 → 6 * (5 - o) + (5 - l) < k →
    (2 * (6 * (5 - o) + (5 - l)) + 1 < K → ∀ p st μ, p ≤ n → st.length ≤ p → CSc μ u n bb → CSt μ (p, st, false) → RSC n p st (prd u n bb k l o (p, st, false)) (f_X4_readLevel K μ 88 (nI l) (nI o)) μ) ∧
    (l = 5 → 2 * (6 * (5 - o)) < K → ∀ p st μ, p ≤ n → st.length ≤ p → CSc μ u n bb → CSt μ (p, st, false) → RSC n p st (prd u n bb k 5 o (p, st, false)) (f_X4_readUnit K μ 88 (nI o)) μ) := by
  intro k
  induction k with
  | zero => intro l o K _ _ h; omega
  | succ k ih =>
    intro l o K hl ho hm
    have unit : l = 5 → ∀ K, 2 * (6 * (5 - o)) < K → ∀ p st μ, p ≤ n → st.length ≤ p → CSc μ u n bb → CSt μ (p, st, false) → RSC n p st (prd u n bb (k + 1) 5 o (p, st, false)) (f_X4_readUnit K μ 88 (nI o)) μ := by
      intro l5 K hK p st μ hp hst C S
      subst l5
      obtain ⟨K', rfl⟩ : ∃ K', K = K' + 1 := ⟨K - 1, by omega⟩
      have q33 : (hv n bb p = 33) = (pat n bb p = 33) := hvc C p 33 (by omega)
      have q40 : (hv n bb p = 40) = (pat n bb p = 40) := hvc C p 40 (by omega)
      have hP : prd u n bb (k + 1) 5 o (p, st, false) = if 48 ≤ pat n bb p ∧ pat n bb p ≤ 57 then ((pnum n bb 4 0 p).2, st ++ [nI (pnum n bb 4 0 p).1], false) else if pname u (pat n bb p) ≠ 0 then (p + 1, st ++ [-nI (pname u (pat n bb p))], false) else if pat n bb p = 33 ∧ o < 5 then padd (-33) (prd u n bb k 5 (o + 1) (p + 1, st, false)) else if pat n bb p = 40 ∧ o < 5 then (if (prd u n bb k 0 (o + 1) (p + 1, st, false)).2.2 = false ∧ pat n bb (prd u n bb k 0 (o + 1) (p + 1, st, false)).1 = 41 then ((prd u n bb k 0 (o + 1) (p + 1, st, false)).1 + 1, (prd u n bb k 0 (o + 1) (p + 1, st, false)).2) else ((prd u n bb k 0 (o + 1) (p + 1, st, false)).1, (prd u n bb k 0 (o + 1) (p + 1, st, false)).2.1, true)) else (p, st, true) := rfl
      have hU : f_X4_readUnit (K' + 1) μ 88 (nI o) = if 48 ≤ pat n bb p ∧ pat n bb p ≤ 57 then (f_X4_readNumber μ 88).bind fun μ20 => some μ20 else if pname u (pat n bb p) = 0 then (if ¬ hv n bb p = 33 then F_X4_readUnit_j93 (f_X4_readLevel K') (f_X4_readUnit K') μ 88 (nI o) (hv n bb p) else if (5 : Int32) ≤ nI o then F_X4_readUnit_j93 (f_X4_readLevel K') (f_X4_readUnit K') μ 88 (nI o) (hv n bb p) else (f_X4_readUnit K' (wr μ 88 4 (nI (p + 1))) 88 (nI (o + 1))).bind fun μ81 => (f_X4_add μ81 88 (-hv n bb p)).bind fun μ87 => some μ87) else (f_X4_add (wr μ 88 4 (nI (p + 1))) 88 (-nI (pname u (pat n bb p)))).bind fun μ50 => some μ50 := by
        show F_X4_readUnit (f_X4_readLevel K') (f_X4_readUnit K') μ 88 (nI o) = _
        unfold F_X4_readUnit
        have hw : f_X4_nameOf (wr μ 88 4 (nI (p + 1))) 88 (hv n bb p) = some (-nI (pname u (pat n bb p))) := e_nameC hu (CSc_K (CSt_place (p' := p + 1) S).2 C) p
        rw [C.2.1, isT32, if_pos rfl, S.1, show f_X7_at μ (nI 32).toNatClampNeg (nI (p, st, false).1) = some (hv n bb p) from e_at hn C hp, bd_s, e_digC C p, bd_s, e_nameC hu C p, bd_s, bd_s, bd_s, nI_1, nI_1]
        have pl := pname_le u (pat n bb p)
        by_cases z : 48 ≤ pat n bb p ∧ pat n bb p ≤ 57
        · rw [decide_eq_true z, if_neg (by decide), if_pos z]
        · rw [decide_eq_false z, if_pos (by decide), if_neg z]
          by_cases y : pname u (pat n bb p) = 0
          · rw [y, if_pos (by decide), if_pos rfl]
          · have hneg : ¬ (0 : Int32) ≤ -nI (pname u (pat n bb p)) := by
              have : pname u (pat n bb p) = 1 ∨ pname u (pat n bb p) = 2 ∨ pname u (pat n bb p) = 3 := by omega
              rcases this with e | e | e <;> rw [e] <;> decide
            rw [if_neg hneg, if_neg y]
            show (f_X4_nameOf (wr μ 88 4 (nI (p + 1))) 88 (hv n bb p)).bind _ = _
            rw [hw, bd_s]
      have hpn : pat n bb p < 256 → p < n := fun h => by
        by_cases y : p < n
        · exact y
        · unfold pat at h; rw [if_neg y] at h; omega
      have hj93 : F_X4_readUnit_j93 (f_X4_readLevel K') (f_X4_readUnit K') μ 88 (nI o) (hv n bb p) = if ¬ (pat n bb p = 40 ∧ o < 5) then some (wr μ 88 5 1) else (f_X4_readLevel K' (wr μ 88 4 (nI (p + 1))) 88 0 (nI (o + 1))).bind fun μ119 => (f_X4_readEnd μ119 88).bind fun μ123 => some μ123 := by
        unfold F_X4_readUnit_j93 F_X4_readUnit_j129
        by_cases c40 : pat n bb p = 40
        · rw [if_neg (not_not_intro (q40.mpr c40))]
          by_cases o5 : o < 5
          · rw [if_neg (show ¬ (5 : Int32) ≤ nI o from nI_ge (b := 5) o5 (by omega)), if_neg (not_not_intro ⟨c40, o5⟩), bd_s, S.1, nI_1, nI_1]
          · rw [if_pos (show (5 : Int32) ≤ nI o from nI_le (a := 5) (by omega) (by omega)), if_pos (fun h => o5 h.2), bd_s]
        · rw [if_pos (fun h => c40 (q40.mp h)), if_pos (fun h => c40 h.1), bd_s]
      obtain ⟨T1, T2⟩ := CSt_place (p' := p + 1) S
      obtain ⟨E1, E2⟩ := CSt_fail S
      rw [hP, hU]
      by_cases cd : 48 ≤ pat n bb p ∧ pat n bb p ≤ 57
      · rw [if_pos cd, if_pos cd]
        have lt := hpn (by omega)
        obtain ⟨μ1, i1, i2, i3, i4, i5⟩ := digC hn 4 0 p 0 FU μ (by omega) (by unfold FU; omega) (by decide) hp C S
        have i1 : lp (fun s => f_X4_readNumber_l4 88 s.1 s.2.1 s.2.2) FU ((0 : Int32), (0 : Int32), μ) = some (nI (pnum n bb 4 0 p).1, μ1) := i1
        obtain ⟨μ2, a1, a2, a3⟩ := e_add4 i5 (by show st.length < 50; omega) (nI (pnum n bb 4 0 p).1)
        have gt := pnum_gt cd
        refine ⟨μ2, ?_, a2, CK_tr i4 a3, i2, i3, ?_, fun _ => gt⟩
        · unfold f_X4_readNumber f_X4_readNumber_j62
          rw [i1, bd_s, bd_i, bd_i]
          exact a1
        · show (st ++ [_]).length + p ≤ st.length + (pnum n bb 4 0 p).2
          rw [List.length_append]
          simp only [List.length_cons, List.length_nil]
          omega
      · rw [if_neg cd, if_neg cd]
        by_cases cn : pname u (pat n bb p) = 0
        · rw [if_neg (not_not_intro cn), if_pos cn]
          have rest : ∀ (hne : ¬ (pat n bb p = 33 ∧ o < 5)), RSC n p st (if pat n bb p = 33 ∧ o < 5 then padd (-33) (prd u n bb k 5 (o + 1) (p + 1, st, false)) else if pat n bb p = 40 ∧ o < 5 then (if (prd u n bb k 0 (o + 1) (p + 1, st, false)).2.2 = false ∧ pat n bb (prd u n bb k 0 (o + 1) (p + 1, st, false)).1 = 41 then ((prd u n bb k 0 (o + 1) (p + 1, st, false)).1 + 1, (prd u n bb k 0 (o + 1) (p + 1, st, false)).2) else ((prd u n bb k 0 (o + 1) (p + 1, st, false)).1, (prd u n bb k 0 (o + 1) (p + 1, st, false)).2.1, true)) else (p, st, true)) (F_X4_readUnit_j93 (f_X4_readLevel K') (f_X4_readUnit K') μ 88 (nI o) (hv n bb p)) μ := by
            intro hne
            rw [if_neg hne, hj93]
            by_cases c40 : pat n bb p = 40 ∧ o < 5
            · rw [if_pos c40, if_neg (not_not_intro c40)]
              have lt := hpn (by omega)
              obtain ⟨μ1, g1, g2, g3, g4, g5, g6, g7⟩ := (ih 0 (o + 1) K' (by omega) (by omega) (by omega)).1 (by omega) (p + 1) st _ (by omega) (by omega) (CSc_K T2 C) T1
              have g1 : f_X4_readLevel K' (wr μ 88 4 (nI (p + 1))) 88 0 (nI (o + 1)) = some μ1 := g1
              rw [g1, bd_s, bd_i]
              revert g2 g4 g5 g6 g7
              generalize prd u n bb k 0 (o + 1) (p + 1, st, false) = s'
              intro g2 g4 g5 g6 g7
              have C1 := CSc_K g3 (CSc_K T2 C)
              obtain ⟨F1, F2⟩ := CSt_fail (μ := μ1) (p := s'.1) (st := s'.2.1) (fl := s'.2.2) g2
              unfold f_X4_readEnd f_X4_readEnd_j23
              rw [g2.2.2.1]
              by_cases z : s'.2.2 = false
              · rw [z, if_neg (show ¬ ¬ b2 false = 0 from not_not_intro rfl), C1.2.1, isT32, if_pos rfl, g2.1, show f_X7_at μ1 (nI 32).toNatClampNeg (nI s'.1) = some (hv n bb s'.1) from e_at hn C1 g5, bd_s, bd_s, bd_s]
                have q41 : (hv n bb s'.1 = 41) = (pat n bb s'.1 = 41) := hvc C1 s'.1 41 (by omega)
                by_cases y : pat n bb s'.1 = 41
                · have lt1 : s'.1 < n := by
                    by_cases w : s'.1 < n
                    · exact w
                    · unfold pat at y; rw [if_neg w] at y; omega
                  rw [if_pos (q41.mpr y), if_pos ⟨rfl, y⟩, nI_1]
                  obtain ⟨G1, G2⟩ := CSt_place (μ := μ1) (p := s'.1) (p' := s'.1 + 1) (st := s'.2.1) (fl := s'.2.2) g2
                  exact ⟨_, rfl, G1, CK_tr (CK_tr T2 g3) G2, by show p ≤ s'.1 + 1; omega, by show s'.1 + 1 ≤ n; omega, by show s'.2.1.length + p ≤ st.length + (s'.1 + 1); omega, fun _ => by show p < s'.1 + 1; omega⟩
                · rw [if_neg (fun w => y (q41.mp w)), if_neg (fun w => y w.2)]
                  exact ⟨_, rfl, F1, CK_tr (CK_tr T2 g3) F2, by show p ≤ s'.1; omega, g5, by show s'.2.1.length + p ≤ st.length + s'.1; omega, fun h => by cases h⟩
              · have hz : s'.2.2 = true := by simpa using z
                rw [hz, if_pos (show ¬ b2 true = 0 by decide), bd_s, if_neg (show ¬ (true = false ∧ pat n bb s'.1 = 41) from fun w => by cases w.1)]
                exact ⟨_, rfl, F1, CK_tr (CK_tr T2 g3) F2, by show p ≤ s'.1; omega, g5, by show s'.2.1.length + p ≤ st.length + s'.1; omega, fun h => by cases h⟩
            · rw [if_neg c40, if_pos c40]
              exact ⟨_, rfl, E1, E2, Nat.le_refl _, hp, Nat.le_refl _, fun h => by cases h⟩
          by_cases c33 : pat n bb p = 33 ∧ o < 5
          · rw [if_neg (not_not_intro (q33.mpr c33.1)), if_neg (show ¬ (5 : Int32) ≤ nI o from nI_ge (b := 5) c33.2 (by omega)), if_pos c33]
            have lt := hpn (by omega)
            obtain ⟨μ1, g1, g2, g3, g4, g5, g6, g7⟩ := (ih 5 (o + 1) K' (by omega) (by omega) (by omega)).2 rfl (by omega) (p + 1) st _ (by omega) (by omega) (CSc_K T2 C) T1
            rw [g1, bd_s]
            revert g2 g4 g5 g6 g7
            generalize prd u n bb k 5 (o + 1) (p + 1, st, false) = s'
            intro g2 g4 g5 g6 g7
            obtain ⟨μ2, a1, a2, a3⟩ := e_add4 g2 (by omega) (-33)
            have hlen : (padd (-33) s').2.1.length = s'.2.1.length + 1 := by
              show (s'.2.1 ++ [_]).length = _
              rw [List.length_append]; rfl
            refine ⟨μ2, ?_, a2, CK_tr (CK_tr T2 g3) a3, by show p ≤ s'.1; omega, g5, by rw [hlen]; show _ ≤ _ + s'.1; omega, fun h => by have : p + 1 < s'.1 := g7 h; show p < s'.1; omega⟩
            rw [show hv n bb p = 33 from q33.mpr c33.1, a1, bd_s]
          · have R := rest c33
            by_cases e33 : pat n bb p = 33
            · rw [if_neg (not_not_intro (q33.mpr e33)), if_pos (show (5 : Int32) ≤ nI o from nI_le (a := 5) (by omega) (by omega))]
              exact R
            · rw [if_pos (fun h => e33 (q33.mp h))]
              exact R
        · rw [if_pos cn, if_neg cn, bd_i]
          obtain ⟨s1, s2, s3, s4⟩ := pname_sg cn
          have lt := hpn s4
          obtain ⟨μ2, a1, a2, a3⟩ := e_add4 T1 (by show st.length < 50; omega) (-nI (pname u (pat n bb p)))
          refine ⟨μ2, a1, a2, CK_tr T2 a3, by show p ≤ p + 1; omega, by show p + 1 ≤ n; omega, ?_, fun _ => by show p < p + 1; omega⟩
          show (st ++ [_]).length + p ≤ st.length + (p + 1)
          rw [List.length_append]
          simp only [List.length_cons, List.length_nil]
          omega
    refine ⟨fun hK p st μ hp hst C S => ?_, fun l5 hK => unit l5 K hK⟩
    obtain ⟨K', rfl⟩ : ∃ K', K = K' + 1 := ⟨K - 1, by omega⟩
    by_cases l5 : l = 5
    · subst l5
      obtain ⟨μ2, g1, g2⟩ := unit rfl K' (by omega) p st μ hp hst C S
      refine ⟨μ2, ?_, g2⟩
      show F_X4_readLevel (f_X4_readLevel K') (f_X4_readUnit K') μ 88 (nI 5) (nI o) = _
      unfold F_X4_readLevel
      rw [if_neg (by decide), g1, bd_s]
    · have hl4 : l ≤ 4 := by omega
      have R := levC hn hl4 (prd u n bb k (l + 1) o) (fun p st μ a b c d => (ih (l + 1) o K' (by omega) ho (by omega)).1 (by omega) p st μ a b c d) hp hst C S
      have hP : prd u n bb (k + 1) l o (p, st, false) = plp n bb (prd u n bb k (l + 1) o) l 50 (prd u n bb k (l + 1) o (p, st, false)) := by
        rw [prd, if_neg l5]
      rw [hP]
      exact R
end
/-- the class's reading of the tape -/
theorem e_readAll {μ : Mem} {u n : Nat} {bb : Nat → Nat} (hu : u < 2) (hn : n ≤ 50) (h1 : rd μ 32 1 = nI n) (hb : ∀ i, i < n → rd μ 33 i = nI (bb i) ∧ bb i < 256) : ∃ μ2, f_X4_readAll μ 88 32 (nI u) = some (if (ptx u n bb).1 = n ∧ (ptx u n bb).2.2 = false then -1 else nI (ptx u n bb).1, μ2) ∧ rd μ2 88 1 = nI (ptx u n bb).2.1.length ∧ (∀ i v, (ptx u n bb).2.1[i]? = some v → rd μ2 89 i = v) ∧ (ptx u n bb).1 ≤ n ∧ (ptx u n bb).2.1.length ≤ n ∧ ∀ k j, k ≠ 88 → k ≠ 89 → rd μ2 k j = rd μ k j := by
  have hA : f_X4_readAll μ 88 32 (nI u) = (f_X4_readLevel 100 (wr (wr (wr (wr (wr μ 88 2 (nI 32)) 88 3 (nI u)) 88 1 0) 88 4 0) 88 5 0) 88 0 0).bind fun μ28 => if ¬ rd μ28 88 5 = 0 then f_X4_readAll_j52 μ28 88 32 (nI u) else if isT 7 (rd μ28 88 2).toNatClampNeg then (if rd μ28 (rd μ28 88 2).toNatClampNeg 1 ≤ rd μ28 88 4 then some (-1, μ28) else f_X4_readAll_j52 μ28 88 32 (nI u)) else none := rfl
  generalize hμ : wr (wr (wr (wr (wr μ 88 2 (nI 32)) 88 3 (nI u)) 88 1 0) 88 4 0) 88 5 0 = μ0' at hA
  have K0 : ∀ k j, k ≠ 88 → rd μ0' k j = rd μ k j := by
    intro k j h
    rw [← hμ]
    simp (discharger := omega) only [rd_wr_n]
  have C : CSc μ0' u n bb := by
    refine ⟨?_, ?_, by rw [K0 _ _ (by omega)]; exact h1, fun i hi => by rw [K0 _ _ (by omega)]; exact hb i hi⟩ <;> rw [← hμ] <;> simp (discharger := omega) only [rd_wr_n, rd_wr_s]
  have S : CSt μ0' (0, [], false) := by
    refine ⟨?_, ?_, ?_, fun i v hv => by simp at hv⟩ <;> rw [← hμ] <;> simp (discharger := omega) only [rd_wr_n, rd_wr_s] <;> rfl
  obtain ⟨μ1, g1, g2, g3, g4, g5, g6, g7⟩ := (readC hu hn 100 0 0 100 (by omega) (by omega) (by omega)).1 (by omega) 0 [] μ0' (by omega) (by simp) C S
  have g1 : f_X4_readLevel 100 μ0' 88 0 0 = some μ1 := g1
  have hp : prd u n bb 100 0 0 (0, [], false) = ptx u n bb := rfl
  rw [hp] at g2 g4 g5 g6 g7
  rw [g1, bd_s] at hA
  obtain ⟨S1, S2, S3, S4⟩ := g2
  have C1 := CSc_K g3 C
  have K1 : ∀ k j, k ≠ 88 → k ≠ 89 → rd μ1 k j = rd μ k j := fun k j a b => by rw [g3 k j (fun z => a z.1) b, K0 k j a]
  refine ⟨μ1, ?_, S2, S4, g5, by simp only [List.length_nil] at g6; omega, K1⟩
  rw [hA, S3]
  unfold f_X4_readAll_j52
  by_cases z : (ptx u n bb).2.2 = false
  · rw [z, if_neg (show ¬ ¬ b2 false = 0 from not_not_intro rfl), C1.2.1, isT32, if_pos rfl, show (nI 32).toNatClampNeg = 32 from rfl, C1.2.2.1, S1]
    by_cases y : (ptx u n bb).1 = n
    · rw [if_pos (nI_le (by omega) (by omega)), if_pos ⟨y, rfl⟩]
    · rw [if_neg (nI_ge (by omega) (by omega)), if_neg (fun h => y h.1)]
  · have hz : (ptx u n bb).2.2 = true := by simpa using z
    rw [hz, if_pos (show ¬ b2 true = 0 by decide), if_neg (show ¬ ((ptx u n bb).1 = n ∧ true = false) from fun h => by cases h.2), S1]
