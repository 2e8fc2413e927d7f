/-! PURE: knows, common -/
theorem rel_M {μ : Mem} (h : Rel μ) : ∃ l : List Mt, l.length ≤ 12 ∧ (∀ x ∈ l, x.1 ≤ 999 ∧ x.2.1 < 5 ∧ x.2.2 < 5 ∧ x.2.1 ≠ x.2.2) ∧ MX μ 28 (msrt l.reverse) ∧ MM μ 106 l := h.1.2.1
theorem srt_ok {l : List Mt} (l12 : l.length ≤ 12) (lw : ∀ x ∈ l, x.1 ≤ 999 ∧ x.2.1 < 5 ∧ x.2.2 < 5 ∧ x.2.1 ≠ x.2.2) : (msrt l.reverse).length ≤ 12 ∧ ∀ x ∈ msrt l.reverse, x.1 ≤ 999 ∧ x.2.1 < 5 ∧ x.2.2 < 5 ∧ x.2.1 ≠ x.2.2 :=
  ⟨by rw [msrt_len, List.length_reverse]; exact l12, fun x hx => lw x (by rw [msrt_mem] at hx; simpa using hx)⟩
theorem MM_cg {μ μ' : Mem} {D : Nat} {l : List Mt} (h : ∀ j, rd μ' D j = rd μ D j) (M : MM μ D l) : MM μ' D l := ⟨by rw [h]; exact M.1, fun i x hx => by rw [h, h, h]; exact M.2 i x hx⟩
/-- what a figure knows by a week -/
def kn (S : List Mt) (s : Nat → Nat → Nat) (g k : Nat) : Nat := kf S s (cw k S) g ||| s g k
theorem kf_256 {S : List Mt} {s : Nat → Nat → Nat} (h : ∀ a b, s a b < 256) : ∀ i g, kf S s i g < 256 := by
  intro i
  induction i with
  | zero => intro g; exact (by decide : (0 : Nat) < 256)
  | succ i ih =>
    intro g
    rw [kf, met]
    have v : kf S s i (S.getD i z3).2.1 ||| kf S s i (S.getD i z3).2.2 ||| s (S.getD i z3).2.1 (S.getD i z3).1 ||| s (S.getD i z3).2.2 (S.getD i z3).1 < 256 := or_256 (or_256 (or_256 (ih _) (ih _)) (h _ _)) (h _ _)
    by_cases a : g = (S.getD i z3).2.2
    · rw [a, up_s]; exact v
    · rw [up_n a]
      by_cases b : g = (S.getD i z3).2.1
      · rw [b, up_s]; exact v
      · rw [up_n b]; exact ih g
theorem kn_256 {S : List Mt} {s : Nat → Nat → Nat} (h : ∀ a b, s a b < 256) (g k : Nat) : kn S s g k < 256 := or_256 (kf_256 h _ _) (h _ _)
theorem sh_knows : SH_knows Rel := by
  intro μ h a b
  show OKS (f_X11_knows μ 0 a b) (fun m => f_X12_knows m 105 a b)
  obtain ⟨n, nd, cl, wi, wt, bi, N, w, T, gv, ⟨F, F1, V⟩, H, M, W, w9, L1, L2⟩ := rel_T h
  obtain ⟨l, l12, lw, lX, lM⟩ := rel_M h
  obtain ⟨s12, sw'⟩ := srt_ok l12 lw
  by_cases g : ((0 : Int32) ≤ a ∧ a ≤ 4) ∧ ((0 : Int32) ≤ b ∧ b ≤ 999)
  · obtain ⟨g1, g2⟩ := g
    obtain ⟨p, hp, rfl⟩ := upto (n := 4) (by omega) g1
    obtain ⟨k, hk, rfl⟩ := upto (n := 999) (by omega) g2
    have p5 : p < 5 := by omega
    obtain ⟨μ1, a1, a2, a3⟩ := e_gatherX F V w9 H W s12 sw' lX hk
    have KM : ∀ j, rd μ1 106 j = rd μ 106 j := fun j => a3 106 j (by omega)
    obtain ⟨μ2, b1, b2⟩ := e_kbM (FM_cg V.1 (fun j _ => KM j) F1) V w9 (TMt_cg W.1 (TW_s W) (fun j _ => KM j) M) W l12 lw (MM_cg KM lM) p5 hk
    refine oks_go (μ1 := μ1) (μ2 := μ2) (r := nI (kn (msrt l.reverse) (sw n wt T N) p k)) ?_ ?_ ?_
    · unfold f_X11_knows
      simp only [rfs]
      rw [e_isFigX, bd_s, if_pos g1, if_neg (by decide), e_among, bd_s, if_pos g2, if_pos (by decide), a1, bd_s, ib_nI p5 (by omega), if_pos rfl, tn_nI (by omega), a2 p p5]
      rfl
    · show f_X12_knows μ1 105 _ _ = _
      unfold f_X12_knows
      rw [show f_X12_in (nI p).toInt64 0 4 = _ from e_in (nI p) 0 4, bd_s, if_pos g1, if_neg (by decide), show f_X12_in (nI k).toInt64 0 999 = _ from e_in (nI k) 0 999, bd_s, if_pos g2, if_neg (by decide), bd_p]
      exact b1
    · exact R2_no h (fun k j c d => by rw [b2 k j (by omega), a3 k j (by omega)])
  · refine oks_ref (k := 1) h (by omega) ?_ ?_
    · unfold f_X11_knows f_X11_knows_j18
      rw [e_isFigX, bd_s, bd_p]
      by_cases g1 : (0 : Int32) ≤ a ∧ a ≤ 4
      · rw [if_pos g1, if_neg (by decide), e_among, bd_s, if_neg (fun q => g ⟨g1, q⟩), if_neg (by decide)]
        rfl
      · rw [if_neg g1, if_pos rfl]
        rfl
    · intro μ1 hR
      show f_X12_knows μ1 105 _ _ = _
      unfold f_X12_knows f_X12_knows_j33
      rw [show f_X12_in a.toInt64 0 4 = _ from e_in a 0 4, bd_s, bd_p]
      by_cases g1 : (0 : Int32) ≤ a ∧ a ≤ 4
      · rw [if_pos g1, if_neg (by decide), show f_X12_in b.toInt64 0 999 = _ from e_in b 0 999, bd_s, if_neg (fun q => g ⟨g1, q⟩), if_pos rfl]
        rfl
      · rw [if_neg g1, if_pos rfl]
        rfl
def com (a : Nat) (K : Nat → Nat) : Nat → Nat
  | 0 => 255
  | i + 1 => if a.testBit i = true then com a K i &&& K i else com a K i
theorem com_256 (a : Nat) (K : Nat → Nat) : ∀ i, com a K i < 256 := by
  intro i
  induction i with
  | zero => exact (by decide : (255 : Nat) < 256)
  | succ i ih =>
    rw [com]
    split
    · exact and_256 ih
    · exact ih
theorem and_255 : ∀ x, x < 256 → x &&& 255 = x := by decide +kernel
theorem sh_common : SH_common Rel := by
  intro μ h a b
  show OKS (f_X11_common μ 0 a b) (fun m => f_X12_common m 105 a b)
  obtain ⟨n, nd, cl, wi, wt, bi, N, w, T, gv, ⟨F, F1, V⟩, H, M, W, w9, L1, L2⟩ := rel_T h
  obtain ⟨l, l12, lw, lX, lM⟩ := rel_M h
  obtain ⟨s12, sw'⟩ := srt_ok l12 lw
  by_cases g : ((1 : Int32) ≤ a ∧ a ≤ 31) ∧ ((0 : Int32) ≤ b ∧ b ≤ 999)
  · obtain ⟨g1, g2⟩ := g
    obtain ⟨p, hp, hp', rfl⟩ := upto1 (n := 31) (by omega) g1
    obtain ⟨k, hk, rfl⟩ := upto (n := 999) (by omega) g2
    obtain ⟨μ1, a1, a2, a3⟩ := e_gatherX F V w9 H W s12 sw' lX hk
    have KM : ∀ j, rd μ1 106 j = rd μ 106 j := fun j => a3 106 j (by omega)
    have hX : ∃ r, lp (fun s => f_X11_common_l46 μ1 0 (nI p) (nI k) s.1 s.2) FU ((255 : Int32), (0 : Int32)) = some r ∧ r = nI (com p (fun g => kn (msrt l.reverse) (sw n wt T N) g k) 5) := by
      refine lp_I (fun j q => q.1 = nI (com p (fun g => kn (msrt l.reverse) (sw n wt T N) g k) j) ∧ q.2 = nI j) 5 _ (by omega) ⟨rfl, rfl⟩ ?_ ?_
      · rintro j ⟨v, v'⟩ hj ⟨e1, e2⟩
        simp only at e1 e2
        subst e1 e2
        refine ⟨(nI (com p (fun g => kn (msrt l.reverse) (sw n wt T N) g k) (j + 1)), nI (j + 1)), ?_, rfl, rfl⟩
        show f_X11_common_l46 μ1 0 (nI p) (nI k) _ (nI j) = _
        unfold f_X11_common_l46
        simp only [rfs]
        rw [if_neg (show ¬ (5 : Int32) ≤ nI j from nI_ge (b := 5) hj (by omega)), shr_b (show p < 256 by omega) (show j < 8 by omega), nI_1, com, ib_nI hj (by omega), if_pos rfl, tn_nI (by omega), a2 j hj]
        by_cases z : p.testBit j = true
        · rw [if_neg (by rw [z]; decide), if_pos z, nI_and]
          rfl
        · rw [if_pos (by rw [Bool.eq_false_iff.mpr z]; decide), if_neg z]
      · rintro ⟨v, v'⟩ ⟨e1, e2⟩
        simp only at e1 e2
        subst e1 e2
        refine ⟨_, ?_, rfl⟩
        show f_X11_common_l46 μ1 0 (nI p) (nI k) _ (nI 5) = _
        unfold f_X11_common_l46
        rw [if_pos (by decide)]
    have hM : ∃ r, lp (fun s => f_X12_common_l37 105 (nI p) (nI k) s.1 s.2.1 s.2.2) FU ((255 : Int32), (0 : Int32), μ1) = some r ∧ r.1 = nI (com p (fun g => kn (msrt l.reverse) (sw n wt T N) g k) 5) ∧ ∀ k' j, k' ≠ 114 → rd r.2 k' j = rd μ1 k' j := by
      refine lp_I (fun j q => q.1 = nI (com p (fun g => kn (msrt l.reverse) (sw n wt T N) g k) j) ∧ q.2.1 = nI j ∧ ∀ k' j, k' ≠ 114 → rd q.2.2 k' j = rd μ1 k' j) 5 _ (by omega) ⟨rfl, rfl, fun _ _ _ => rfl⟩ ?_ ?_
      · rintro j ⟨v, v', m⟩ hj ⟨e1, e2, e3⟩
        simp only at e1 e2 e3
        subst e1 e2
        by_cases z : p.testBit j = true
        · have KM' : ∀ j, rd m 106 j = rd μ 106 j := fun j => by rw [e3 106 j (by omega), KM]
          obtain ⟨μ2, b1, b2⟩ := e_kbM (FM_cg V.1 (fun j _ => KM' j) F1) V w9 (TMt_cg W.1 (TW_s W) (fun j _ => KM' j) M) W l12 lw (MM_cg KM' lM) hj hk
          refine ⟨(nI (com p (fun g => kn (msrt l.reverse) (sw n wt T N) g k) (j + 1)), nI (j + 1), μ2), ?_, rfl, rfl, fun k' i hk' => by rw [b2 k' i hk', e3 k' i hk']⟩
          show f_X12_common_l37 105 (nI p) (nI k) _ (nI j) m = _
          unfold f_X12_common_l37
          rw [if_neg (show ¬ (5 : Int32) ≤ nI j from nI_ge (b := 5) hj (by omega)), shr_b (show p < 256 by omega) (show j < 8 by omega), if_neg (by rw [z]; decide), b1, bd_s, nI_1, com, if_pos z]
          simp only
          rw [nI_and]
          rfl
        · refine ⟨(nI (com p (fun g => kn (msrt l.reverse) (sw n wt T N) g k) (j + 1)), nI (j + 1), m), ?_, rfl, rfl, e3⟩
          show f_X12_common_l37 105 (nI p) (nI k) _ (nI j) m = _
          unfold f_X12_common_l37
          rw [if_neg (show ¬ (5 : Int32) ≤ nI j from nI_ge (b := 5) hj (by omega)), shr_b (show p < 256 by omega) (show j < 8 by omega), if_pos (by rw [Bool.eq_false_iff.mpr z]; decide), nI_1, com, if_neg z, show (255 : Int32) = nI 255 from rfl, nI_and, and_255 _ (com_256 _ _ _)]
      · rintro ⟨v, v', m⟩ ⟨e1, e2, e3⟩
        simp only at e1 e2 e3
        subst e1 e2
        refine ⟨(nI (com p (fun g => kn (msrt l.reverse) (sw n wt T N) g k) 5), m), ?_, rfl, e3⟩
        show f_X12_common_l37 105 (nI p) (nI k) _ (nI 5) m = _
        unfold f_X12_common_l37
        rw [if_pos (by decide)]
    obtain ⟨r, x1, rfl⟩ := hX
    obtain ⟨⟨r, μ2⟩, y1, rfl, y3⟩ := hM
    refine oks_go (μ1 := μ1) (μ2 := μ2) (r := nI (com p (fun g => kn (msrt l.reverse) (sw n wt T N) g k) 5)) ?_ ?_ ?_
    · unfold f_X11_common
      simp only [rfs]
      rw [e_among, bd_s, if_pos g1, if_neg (by decide), e_among, bd_s, if_pos g2, if_pos (by decide), a1, bd_s, x1, bd_s]
    · show f_X12_common μ1 105 _ _ = _
      unfold f_X12_common
      rw [show f_X12_in (nI p).toInt64 1 31 = _ from e_in (nI p) 1 31, bd_s, if_pos g1, if_neg (by decide), show f_X12_in (nI k).toInt64 0 999 = _ from e_in (nI k) 0 999, bd_s, if_pos g2, if_pos (by decide), y1, bd_s]
    · exact R2_no h (fun k j c d => by rw [y3 k j (by omega), a3 k j (by omega)])
  · refine oks_ref (k := 1) h (by omega) ?_ ?_
    · unfold f_X11_common f_X11_common_j21
      rw [e_among, bd_s, bd_p]
      by_cases g1 : (1 : Int32) ≤ a ∧ a ≤ 31
      · rw [if_pos g1, if_neg (by decide), e_among, bd_s, if_neg (fun q => g ⟨g1, q⟩), if_neg (by decide)]
        rfl
      · rw [if_neg g1, if_pos rfl]
        rfl
    · intro μ1 hR
      show f_X12_common μ1 105 _ _ = _
      unfold f_X12_common f_X12_common_j24
      rw [show f_X12_in a.toInt64 1 31 = _ from e_in a 1 31, bd_s, bd_p]
      by_cases g1 : (1 : Int32) ≤ a ∧ a ≤ 31
      · rw [if_pos g1, if_neg (by decide), show f_X12_in b.toInt64 0 999 = _ from e_in b 0 999, bd_s, if_neg (fun q => g ⟨g1, q⟩), if_neg (by decide)]
        rfl
      · rw [if_neg g1, if_pos rfl]
        rfl
