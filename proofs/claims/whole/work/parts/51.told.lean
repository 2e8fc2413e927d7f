/-! PURE: ofDebtor, tells, weeks -/
theorem rel_T {μ : Mem} (h : Rel μ) : ∃ (n : Nat) (nd cl wi wt : Nat → Nat) (bi : Nat → Int32) (N w : Nat) (T : Nat → Dt) (gv : Nat → Nat → Nat → Nat), (FX μ 2 n nd cl wi wt bi ∧ FM μ 106 n nd cl wi wt bi ∧ FW n nd cl wi wt bi) ∧ TXt μ 14 N w T ∧ TMt μ 106 N w T ∧ TWt n N w T ∧ w ≤ 999 ∧ LwX μ gv ∧ LwM μ gv := by
  obtain ⟨n, nd, cl, wi, wt, bi, N, w, T, h1, h2, h3, h4, h5, h6, h7⟩ := RFT_T (by omega) h.1.1
  obtain ⟨gv, g1, g2⟩ := rel_gv h
  exact ⟨n, nd, cl, wi, wt, bi, N, w, T, gv, ⟨h1, h2, h3⟩, h4, h5, h6, h7, g1, g2⟩
/-- what 2 .. 5, 7 -/
def stv (wi : Nat → Nat) (bi : Nat → Int32) (y : Nat) (d : Dt) : Nat := if y = 2 then dd d else if y = 3 then ds d else if y = 4 then dB d else if y = 5 then dr d else sm (fun i => b2n (op0 wi bi (dB d) (dbk d i))) (ds d)
theorem e_stX {μ : Mem} {t p n N w y : Nat} {nd cl wi wt : Nat → Nat} {bi : Nat → Int32} {T : Nat → Dt} (ht : t = 14 ∨ t = 69) (F : FX μ 2 n nd cl wi wt bi) (V : FW n nd cl wi wt bi) (hp : p < N) (H : TXt μ t N w T) (W : TWt n N w T) (hy : y = 2 ∨ y = 3 ∨ y = 4 ∨ y = 5 ∨ y = 7) : f_X11_stateOf μ t (nI p) (nI y) = some (nI (stv wi bi y (T p))) := by
  have p4 : p < 4 := Nat.lt_of_lt_of_le hp W.1
  obtain ⟨p1, p2, p3, p4', p5, p6, p7⟩ := H.2.2 p hp
  obtain ⟨d1, d2, d3, d4, d5, d6, d7⟩ := W.2.2 p hp
  unfold f_X11_stateOf
  rw [ib_nI p4 (by omega), if_pos rfl]
  simp only [rf_tw ht, tn_nI (show p < 2 ^ 31 by omega), rf_d ht p4]
  rcases hy with rfl | rfl | rfl | rfl | rfl
  · rw [if_pos (by decide), p5]; rfl
  · rw [if_neg (by decide), if_pos (by decide), p2]; rfl
  · rw [if_neg (by decide), if_neg (by decide), if_pos (by decide), p1]; rfl
  · rw [if_neg (by decide), if_neg (by decide), if_neg (by decide), if_pos (by decide), p6]
    show _ = some (nI (dr (T p)))
    by_cases z : dr (T p) = 0
    · rw [z, if_pos (by decide)]; rfl
    · rw [show dr (T p) = 1 by omega, if_neg (by decide)]; rfl
  · rw [if_neg (by decide), if_neg (by decide), if_neg (by decide), if_neg (by decide), e_openX ht F V W.1 (TX_T n H) hp (fun i hi => (d6 i hi).1) d7, bd_s]
    rfl
theorem e_bookT {μ : Mem} {p n N w : Nat} {T : Nat → Dt} (n8 : n ≤ 8) (hp : p < N) (H : TMt μ 106 N w T) (W : TWt n N w T) : f_X12_bookOf μ 105 (nI p) = some (nI (dB (T p))) := by
  obtain ⟨q1, q2, q3, q4, q5, q6⟩ := H.2.2 p hp
  obtain ⟨d1, d2, d3, d4, d5, d6, d7⟩ := W.2.2 p hp
  exact e_bookOf (Nat.lt_of_lt_of_le hp W.1) d5 q5 (fun i hi => ⟨(q6 i hi).1, Nat.lt_of_lt_of_le (d6 i hi).1 n8⟩)
theorem e_openTM {μ : Mem} {p n N w : Nat} {nd cl wi wt : Nat → Nat} {bi : Nat → Int32} {T : Nat → Dt} (F : FM μ 106 n nd cl wi wt bi) (V : FW n nd cl wi wt bi) (hp : p < N) (H : TMt μ 106 N w T) (W : TWt n N w T) : f_X12_openOf μ 105 (nI p) = some (nI (sm (fun i => b2n (op0 wi bi (dB (T p)) (dbk (T p) i))) (ds (T p)))) := e_openM F V W.1 (TM_T n H) hp (TW_s W p hp) (fun i hi => ((W.2.2 p hp).2.2.2.2.2.1 i hi).1)
theorem e_stM {μ : Mem} {p n N w y : Nat} {nd cl wi wt : Nat → Nat} {bi : Nat → Int32} {T : Nat → Dt} (F : FM μ 106 n nd cl wi wt bi) (V : FW n nd cl wi wt bi) (hp : p < N) (H : TMt μ 106 N w T) (W : TWt n N w T) (hy : y = 2 ∨ y = 3 ∨ y = 4 ∨ y = 5 ∨ y = 7) : f_X12_toldOf μ 105 (nI p) (nI y) = some (nI (stv wi bi y (T p)), μ) := by
  have p4 : p < 4 := Nat.lt_of_lt_of_le hp W.1
  obtain ⟨q1, q2, q3, q4, q5, q6⟩ := H.2.2 p hp
  unfold f_X12_toldOf
  rcases hy with rfl | rfl | rfl | rfl | rfl
  · rw [if_neg (by decide), if_neg (by decide), if_pos (by decide), (e_ofs p4 μ).2.2.1, bd_s, q3]; rfl
  · rw [if_neg (by decide), if_neg (by decide), if_neg (by decide), if_pos (by decide), (e_ofs p4 μ).2.2.2.2, bd_s, q5]; rfl
  · rw [if_neg (by decide), if_neg (by decide), if_neg (by decide), if_neg (by decide), if_pos (by decide), e_bookT V.1 hp H W, bd_s]; rfl
  · rw [if_neg (by decide), if_neg (by decide), if_neg (by decide), if_neg (by decide), if_neg (by decide), if_pos (by decide), (e_ofs p4 μ).2.2.2.1, bd_s, q4]; rfl
  · rw [if_neg (by decide), if_neg (by decide), if_neg (by decide), if_neg (by decide), if_neg (by decide), if_neg (by decide), if_neg (by decide), if_pos (by decide), e_openTM F V hp H W, bd_s]; rfl
theorem TXt_cg {μ μ' : Mem} {t N w : Nat} {T : Nat → Dt} (hN : N ≤ 4) (h : ∀ k j, t ≤ k → k ≤ t + 13 → rd μ' k j = rd μ k j) (H : TXt μ t N w T) : TXt μ' t N w T := ⟨by rw [h _ _ (by omega) (by omega)]; exact H.1, by rw [h _ _ (by omega) (by omega)]; exact H.2.1, fun p hp => DX_cg (fun k j a b => h k j (by omega) (by omega)) (H.2.2 p hp)⟩
theorem sm_le8 {G : Nat → Bool} {s : Nat} (hs : s ≤ 8) : sm (fun i => b2n (G i)) s ≤ 8 := by
  have := sm_le (F := fun i => b2n (G i)) (c := 1) (fun q => by show b2n (G q) ≤ 1; unfold b2n; split <;> omega) s
  omega
theorem sh_ofDebtor : SH_ofDebtor Rel := by
  intro μ h a x
  show OKS (f_X11_ofDebtor μ 0 a x) (fun m => f_X12_ofDebtor m 105 a x)
  obtain ⟨n, nd, cl, wi, wt, bi, N, w, T, gv, ⟨F, FM1, V⟩, H, M, W, w9, L1, L2⟩ := rel_T h
  have N4 := W.1
  have c1 : rd μ 14 3 = nI N := H.1
  have c2 : rd μ 106 1 = nI N := M.1
  by_cases g : ((0 : Int32) ≤ a ∧ a ≤ nI N - 1) ∧ ((0 : Int32) ≤ x ∧ x ≤ 9)
  · obtain ⟨g1, g2⟩ := g
    obtain ⟨p, hp, rfl⟩ := (isF_iff (by omega)).mp g1
    obtain ⟨y, hy, rfl⟩ := upto (n := 9) (by omega) g2
    have p4 : p < 4 := by omega
    obtain ⟨p1, p2, p3, p4', p5, p6, p7⟩ := H.2.2 p hp
    obtain ⟨q1, q2, q3, q4, q5, q6⟩ := M.2.2 p hp
    obtain ⟨d1, d2, d3, d4, d5, d6, d7⟩ := W.2.2 p hp
    have X : f_X11_ofDebtor μ 0 (nI p) (nI y) = if y = 0 then some (nI (dk (T p)), μ) else if y = 1 then some (nI (dm (T p)), μ) else if y = 6 then some (nI (dueD (T p)), μ) else if y = 8 then some (nI (bts (mayD nd cl (oth (fun q => dB (T q)) p N) (T p)) n), μ) else if y = 9 then (f_X2_gives μ 11 (nI (dd (T p))) (nI (sm (fun i => b2n (op0 wi bi (dB (T p)) (dbk (T p) i))) (ds (T p)))) (nI (ds (T p)))).bind fun p145 => some (p145.1, p145.2) else some (nI (stv wi bi y (T p)), μ) := by
      unfold f_X11_ofDebtor
      rw [e_isDebX c1, bd_s, if_pos g1, if_neg (by decide), e_among, bd_s, if_pos g2, if_pos (by decide), ib_nI p4 (by omega), if_pos rfl]
      simp only [rfs, tn_nI (show p < 2 ^ 31 by omega), rf_15 p4]
      have e3 : rd μ (16 + 3 * p) 4 = nI (dk (T p)) := p3
      have e4 : rd μ (16 + 3 * p) 5 = nI (dm (T p)) := p4'
      have e5 : rd μ (16 + 3 * p) 6 = nI (dd (T p)) := p5
      have e2 : rd μ (16 + 3 * p) 3 = nI (ds (T p)) := p2
      have eo : f_X8_openOf μ 14 (nI p) = some (nI (sm (fun i => b2n (op0 wi bi (dB (T p)) (dbk (T p) i))) (ds (T p)))) := e_openX (Or.inl rfl) F V W.1 (TX_T n H) hp (fun i hi => (d6 i hi).1) d7
      have ed : f_X0_due μ (16 + 3 * p) = some (nI (dueD (T p))) := (e_dueX (H.2.2 p hp) (W.2.2 p hp)).1
      rw [e3, e4, e5, e2, eo, ed, e_mayT (Or.inl rfl) F V hp H W]
      have : y = 0 ∨ y = 1 ∨ y = 2 ∨ y = 3 ∨ y = 4 ∨ y = 5 ∨ y = 6 ∨ y = 7 ∨ y = 8 ∨ y = 9 := by omega
      rcases this with rfl | rfl | rfl | rfl | rfl | rfl | rfl | rfl | rfl | rfl
      · rfl
      · rfl
      · rw [e_stX (Or.inl rfl) F V hp H W (by omega)]; rfl
      · rw [e_stX (Or.inl rfl) F V hp H W (by omega)]; rfl
      · rw [e_stX (Or.inl rfl) F V hp H W (by omega)]; rfl
      · rw [e_stX (Or.inl rfl) F V hp H W (by omega)]; rfl
      · rfl
      · rw [e_stX (Or.inl rfl) F V hp H W (by omega)]; rfl
      · rfl
      · rfl
    have Mo : ∀ μ', RX μ μ' → f_X12_ofDebtor μ' 105 (nI p) (nI y) = if y = 0 then some (nI (dk (T p)), μ') else if y = 1 then some (nI (dm (T p)), μ') else if y = 6 then some (nI (dueD (T p)), μ') else if y = 8 then some (nI (bts (mayD nd cl (oth (fun q => dB (T q)) p N) (T p)) n), μ') else if y = 9 then (f_X12_textGives μ' 105 1 (nI (dd (T p))) (nI (sm (fun i => b2n (op0 wi bi (dB (T p)) (dbk (T p) i))) (ds (T p)))) (nI (ds (T p)))).bind fun p130 => some (p130.1, p130.2) else some (nI (stv wi bi y (T p)), μ') := by
      intro μ' hR
      have F' := FM_cg V.1 (fun j _ => hR 106 j (by omega)) FM1
      have M' := TMt_cg N4 (TW_s W) (fun j _ => hR 106 j (by omega)) M
      obtain ⟨q1, q2, q3, q4, q5, q6⟩ := M'.2.2 p hp
      have D := e_dueM (r := 0) hp M' W ((hR 105 12 (by omega)).trans h.2.2.2.2.2.1) (m1_no p p4) (fun z => by omega)
      rw [if_neg (by omega)] at D
      have hs8 : ∀ q, q < N → ds (T q) ≤ 8 ∧ ∀ i, i < ds (T q) → dbk (T q) i < 8 := fun q hq => ⟨TW_s W q hq, fun i hi => Nat.lt_of_lt_of_le ((W.2.2 q hq).2.2.2.2.2.1 i hi).1 V.1⟩
      have A : f_X12_allMay μ' 105 (nI p) = some (nI (bts (mayD nd cl (oth (fun q => dB (T q)) p N) (T p)) n)) := e_allM F' V W.1 (TM_T n M') hs8 hp d1 d2 (fun f _ => oth_tb N)
      unfold f_X12_ofDebtor
      rw [e_isDebM M'.1, bd_s, if_pos g1, if_neg (by decide), (e_ins (nI y)).2.2.2.2.2.2.2.2.2.2.1, bd_s, if_pos g2, if_neg (by decide), bd_p]
      have : y = 0 ∨ y = 1 ∨ y = 2 ∨ y = 3 ∨ y = 4 ∨ y = 5 ∨ y = 6 ∨ y = 7 ∨ y = 8 ∨ y = 9 := by omega
      rcases this with rfl | rfl | rfl | rfl | rfl | rfl | rfl | rfl | rfl | rfl
      · unfold f_X12_toldOf
        rw [if_pos (by decide), (e_ofs p4 μ').1, bd_s, q1]; rfl
      · unfold f_X12_toldOf
        rw [if_neg (by decide), if_pos (by decide), (e_ofs p4 μ').2.1, bd_s, q2]; rfl
      · rw [e_stM F' V hp M' W (by omega)]; rfl
      · rw [e_stM F' V hp M' W (by omega)]; rfl
      · rw [e_stM F' V hp M' W (by omega)]; rfl
      · rw [e_stM F' V hp M' W (by omega)]; rfl
      · unfold f_X12_toldOf
        rw [if_neg (by decide), if_neg (by decide), if_neg (by decide), if_neg (by decide), if_neg (by decide), if_neg (by decide), if_pos (by decide), D, bd_s]; rfl
      · rw [e_stM F' V hp M' W (by omega)]; rfl
      · unfold f_X12_toldOf
        rw [if_neg (by decide), if_neg (by decide), if_neg (by decide), if_neg (by decide), if_neg (by decide), if_neg (by decide), if_neg (by decide), if_neg (by decide), if_pos (by decide), A, bd_s]; rfl
      · unfold f_X12_toldOf
        rw [if_neg (by decide), if_neg (by decide), if_neg (by decide), if_neg (by decide), if_neg (by decide), if_neg (by decide), if_neg (by decide), if_neg (by decide), if_neg (by decide), (e_ofs p4 μ').2.2.1, bd_s, e_openTM F' V hp M' W, bd_s, (e_ofs p4 μ').2.2.2.2, bd_s, q3, q5]; rfl
    by_cases y9 : y = 9
    · subst y9
      obtain ⟨_, gg, G3, G4⟩ := rel_g h
      obtain ⟨μ1, u1, u2⟩ := G3 μ (fun _ => rfl) (fun _ => rfl) (nI (dd (T p))) (nI (sm (fun i => b2n (op0 wi bi (dB (T p)) (dbk (T p) i))) (ds (T p)))) (nI (ds (T p)))
      have hR : RX μ μ1 := fun k j hk => u2 k j (by omega)
      obtain ⟨μ2, v1, v2⟩ := G4 μ1 (fun j _ => u2 _ _ (by omega)) (nI (dd (T p))) (nI (sm (fun i => b2n (op0 wi bi (dB (T p)) (dbk (T p) i))) (ds (T p)))) (nI (ds (T p)))
      have Mo := Mo μ1 hR
      have v1 : f_X12_textGives μ1 105 1 _ _ _ = _ := v1
      rw [if_neg (by omega), if_neg (by omega), if_neg (by omega), if_neg (by omega), if_pos rfl, u1, bd_s] at X
      rw [if_neg (by omega), if_neg (by omega), if_neg (by omega), if_neg (by omega), if_pos rfl, v1, bd_s] at Mo
      exact oks_go X Mo (R2_no h (fun k j c d => by rw [v2 k j (by omega) (by omega), u2 k j (by omega)]))
    · have Mo := Mo μ (fun _ _ _ => rfl)
      rw [if_neg y9] at X Mo
      obtain ⟨r, x1, x2⟩ : ∃ r, f_X11_ofDebtor μ 0 (nI p) (nI y) = some (r, μ) ∧ f_X12_ofDebtor μ 105 (nI p) (nI y) = some (r, μ) := by
        rw [X, Mo]
        by_cases y0 : y = 0
        · rw [if_pos y0]; exact ⟨_, rfl, rfl⟩
        · rw [if_neg y0]
          by_cases y1 : y = 1
          · rw [if_pos y1]; exact ⟨_, rfl, rfl⟩
          · rw [if_neg y1]
            by_cases y6 : y = 6
            · rw [if_pos y6]; exact ⟨_, rfl, rfl⟩
            · rw [if_neg y6]
              by_cases y8 : y = 8
              · rw [if_pos y8]; exact ⟨_, rfl, rfl⟩
              · rw [if_neg y8]; exact ⟨_, rfl, rfl⟩
      exact oks_go x1 x2 h
  · refine oks_ref (k := 1) h (by omega) ?_ ?_
    · unfold f_X11_ofDebtor f_X11_ofDebtor_j18
      simp only [e_isDebX c1, e_among, bd_s, if10, bd_p, i00, i10]
      by_cases g1 : (0 : Int32) ≤ a ∧ a ≤ nI N - 1
      · have g2 : ¬ ((0 : Int32) ≤ x ∧ x ≤ 9) := fun q => g ⟨g1, q⟩
        simp only [g1, g2, and_self, not_true, if_false, not_false_eq_true, if_true]
        rfl
      · simp only [g1, not_false_eq_true, if_true]
        rfl
    · intro μ1 hR
      show f_X12_ofDebtor μ1 105 _ _ = _
      unfold f_X12_ofDebtor f_X12_ofDebtor_j29
      have c3 : rd μ1 106 1 = nI N := by rw [hR _ _ (by omega), c2]
      simp only [e_isDebM c3, e_ins, bd_s, if10, bd_p, i00, i10]
      by_cases g1 : (0 : Int32) ≤ a ∧ a ≤ nI N - 1
      · have g2 : ¬ ((0 : Int32) ≤ x ∧ x ≤ 9) := fun q => g ⟨g1, q⟩
        simp only [g1, g2, and_self, not_true, if_false, not_false_eq_true, if_true]
        rfl
      · simp only [g1, not_false_eq_true, if_true]
        rfl
