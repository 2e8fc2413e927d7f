/-! PURE: the class's search, as a whole -/
section
variable {n s kd m O w B0 : Nat} {nd cl wi wt τ0 : Nat → Nat} {bi : Nat → Int32} {c : Bool}
theorem op0_anti : ∀ B g f, op0 wi bi (B ||| 2 ^ g) f = true → op0 wi bi B f = true := by
  intro B g f h
  unfold op0 at h ⊢
  rw [Bool.and_eq_true] at h ⊢
  refine ⟨h.1, ?_⟩
  have := h.2
  rw [Bool.not_eq_true', Nat.testBit_or, Bool.or_eq_false_iff] at this
  rw [Bool.not_eq_true', this.1]
theorem mtE_nb {B f : Nat} (h : mtE nd cl kd m B O f = true) : B.testBit f = false := by
  unfold mtE at h
  rw [Bool.and_eq_true, Bool.not_eq_true'] at h
  exact h.1
theorem vsN_bup {may opn : Nat → Nat → Bool} : ∀ r ν β, vsN n w may opn wi c r ν (bup n opn c β ν) = vsN n w may opn wi c r ν β := by
  intro r ν β
  cases r with
  | zero => rw [vsN, vsN, bup_f (bet_self β ν)]
  | succ r => rw [vsN, vsN, bup_f (bet_self β ν)]
/-- one row, for whatever remains -/
def vsG (n w : Nat) (may opn : Nat → Nat → Bool) (wi : Nat → Nat) (c : Bool) (r : Nat) (ν : Nd) (f : Nat) (β : Bt) : Bt := if okN n w may opn wi ν f = true then vsN n w may opn wi c (r - 1) (chd w ν f) β else β
theorem vsN_G {r : Nat} {ν : Nd} {β : Bt} (h : nOK n s w B0 τ0 ν r) : vsN n w (fun B f => mtE nd cl kd m B O f) (op0 wi bi) wi c r ν β = vsL (vsG n w (fun B f => mtE nd cl kd m B O f) (op0 wi bi) wi c r ν) n (bup n (op0 wi bi) c β ν) := by
  cases r with
  | succ r => rfl
  | zero =>
    rw [vsN]
    have : ∀ k, k ≤ n → vsL (vsG n w (fun B f => mtE nd cl kd m B O f) (op0 wi bi) wi c 0 ν) k (bup n (op0 wi bi) c β ν) = bup n (op0 wi bi) c β ν := by
      intro k
      induction k with
      | zero => intro _; rfl
      | succ k ih =>
        intro hk
        rw [vsL, ih (by omega), vsG, if_neg]
        intro q
        unfold okN at q
        rw [Bool.and_eq_true] at q
        have := mtE_nb q.1
        rw [cnt_full (by have := h.2.1; omega) (show k < n by omega)] at this
        cases this
    exact (this n (Nat.le_refl _)).symm
theorem SeC_cg {μ μ' : Mem} {ν : Nd} {β : Bt} (h1 : ∀ k j, ¬ (83 ≤ k ∧ k ≤ 86) → rd μ' k j = rd μ k j) (h2 : ∀ j, rd μ' 83 j = rd μ 83 j) (h3 : ∀ j, rd μ' 84 j = rd μ 84 j) (h4 : ∀ i, i < ν.1 → rd μ' 85 i = rd μ 85 i) (h5 : ∀ f, ν.2.1.testBit f = true → rd μ' 86 f = rd μ 86 f) (H : SeC n s kd m O w nd cl wi wt bi c μ ν β) : SeC n s kd m O w nd cl wi wt bi c μ' ν β := by
  obtain ⟨a0, a1, a2, a3, a4, a5⟩ := H
  exact ⟨SeX_cg h1 (fun j _ => h2 j) a0, by rw [h2]; exact a1, fun i hi => by rw [h3]; exact a2 i hi, fun i hi => by rw [h4 i hi]; exact a3 i hi, fun f hf => by rw [h5 f hf]; exact a4 f hf, a5⟩
theorem goX (V : FW n nd cl wi wt bi) (w9 : w ≤ 999) (hkd : kd ≤ 6) (hm : m ≤ 9) (hO : O < 256) : ∀ k r ν β μ, r < k → nOK n s w B0 τ0 ν r → sup ν.2.1 B0 → SeC n s kd m O w nd cl wi wt bi c μ ν β → (∀ B', B' < 256 → sup B' ν.2.1 → Good n s w B0 τ0 (fun B f => mtE nd cl kd m B O f) (op0 wi bi) wi c β (rl μ 87) B') → ∃ μ', f_X5_goOn k μ 83 (nI ν.1) (nI ν.2.1) = some μ' ∧ SeC n s kd m O w nd cl wi wt bi c μ' ν (vsN n w (fun B f => mtE nd cl kd m B O f) (op0 wi bi) wi c r ν β) ∧ (∀ B', Good n s w B0 τ0 (fun B f => mtE nd cl kd m B O f) (op0 wi bi) wi c β (rl μ 87) B' → Good n s w B0 τ0 (fun B f => mtE nd cl kd m B O f) (op0 wi bi) wi c (vsN n w (fun B f => mtE nd cl kd m B O f) (op0 wi bi) wi c r ν β) (rl μ' 87) B') ∧ (∀ B', ¬ sup B' ν.2.1 → rl μ' 87 B' = rl μ 87 B') ∧ ∀ k j, ¬ (83 ≤ k ∧ k ≤ 86) → rd μ' k j = rd μ k j := by
  have n8 := V.1
  intro k
  induction k with
  | zero => intro r ν β μ hr; exact absurd hr (Nat.not_lt_zero _)
  | succ k ih =>
    intro r ν β μ hr hN hsup H hG
    have d8 : ν.1 ≤ 8 := by have := hN.1; omega
    have B8 := hN.2.2.1
    -- the row itself
    obtain ⟨μ1, y1, y2, y3, y4⟩ : ∃ μ1, f_X5_goOn (k + 1) μ 83 (nI ν.1) (nI ν.2.1) = F_X5_goOn_j29 (f_X5_goOn k) μ1 83 (nI ν.1) (nI ν.2.1) ∧ SeC n s kd m O w nd cl wi wt bi c μ1 ν (bup n (op0 wi bi) c β ν) ∧ (∀ j, rl μ1 87 j = rl μ 87 j) ∧ ∀ k j, ¬ (83 ≤ k ∧ k ≤ 86) → rd μ1 k j = rd μ k j := by
      have e := e_bet (d := ν.1) (B := ν.2.1) V H d8 B8
      by_cases z : bet n (op0 wi bi) c β ν.1 ν.2.1 = true
      · have hcb : cb (0 : Int32) (0 : Int32) (8 : Int32) 8 8 = true := by decide
        have C : ∀ i, i < 8 → rd (cpy μ 85 0 84 0 8) 84 i = rd μ 85 i := fun i hi => rd_cp_in hi
        have Cn : ∀ k j, k ≠ 84 → rd (cpy μ 85 0 84 0 8) k j = rd μ k j := fun k j h => rd_cp_n h
        have Cl : ∀ j, rl (cpy μ 85 0 84 0 8) 87 j = rl μ 87 j := fun j => rfl
        refine ⟨wr (cpy μ 85 0 84 0 8) 83 1 (nI ν.1), ?_, ?_, fun j => by rw [rl_wr, Cl], fun k j h => by rw [rd_wr_n (by omega), Cn _ _ (by omega)]⟩
        · show F_X5_goOn (grp_X5_goOn k) μ 83 (nI ν.1) (nI ν.2.1) = _
          unfold F_X5_goOn
          simp only [rfs]
          rw [e, bd_s, z, if_neg (by decide), show ln 85 = 8 from rfl, show ln 84 = 8 from rfl, hcb, if_pos rfl, bd_s, bd_s]
          rfl
        · obtain ⟨a0, a1, a2, a3, a4, a5⟩ := H
          unfold bup
          rw [if_pos z]
          refine ⟨SeX_cg (fun k j h => by rw [rd_wr_n (by omega), Cn _ _ (by omega)]) (fun j h => by rw [rd_wr_n (by omega), Cn _ _ (by omega)]) a0, ?_, fun i hi => ?_, fun i hi => ?_, fun f hf => ?_, ?_⟩
          · rw [rd_wr_s]
            show nI ν.1 = nI (ν.1 + 1) - 1
            rw [← nI_1]
            exact (Int32.add_sub_cancel _ _).symm
          · have hi : i + 1 < ν.1 + 1 := hi
            rw [rd_wr_n (by omega), C i (by omega)]
            exact a3 i (by omega)
          · rw [rd_wr_n (by omega), Cn _ _ (by omega)]; exact a3 i hi
          · rw [rd_wr_n (by omega), Cn _ _ (by omega)]; exact a4 f hf
          · show ν.1 + 1 ≤ 9
            omega
      · refine ⟨μ, ?_, by rw [bup_f (Bool.eq_false_iff.mpr z)]; exact H, fun _ => rfl, fun _ _ _ => rfl⟩
        show F_X5_goOn (grp_X5_goOn k) μ 83 (nI ν.1) (nI ν.2.1) = _
        unfold F_X5_goOn
        rw [e, bd_s, Bool.eq_false_iff.mpr z, if_pos b2_f]
        rfl
    have σ1 : rl μ1 87 = rl μ 87 := funext y3
    have hG1 : ∀ B', Good n s w B0 τ0 (fun B f => mtE nd cl kd m B O f) (op0 wi bi) wi c β (rl μ 87) B' → Good n s w B0 τ0 (fun B f => mtE nd cl kd m B O f) (op0 wi bi) wi c (bup n (op0 wi bi) c β ν) (rl μ1 87) B' := by
      intro B' h
      rw [σ1]
      exact Good_V (fun β => bup n (op0 wi bi) c β ν) (fun r ν' h => AbT_upd _ _ _ _ h) h
    -- nothing behind it changes what was found
    have stop : AbT n w (fun B f => mtE nd cl kd m B O f) (op0 wi bi) wi c r ν (bup n (op0 wi bi) c β ν) → F_X5_goOn_j29 (f_X5_goOn k) μ1 83 (nI ν.1) (nI ν.2.1) = some μ1 → ∃ μ', f_X5_goOn (k + 1) μ 83 (nI ν.1) (nI ν.2.1) = some μ' ∧ SeC n s kd m O w nd cl wi wt bi c μ' ν (vsN n w (fun B f => mtE nd cl kd m B O f) (op0 wi bi) wi c r ν β) ∧ (∀ B', Good n s w B0 τ0 (fun B f => mtE nd cl kd m B O f) (op0 wi bi) wi c β (rl μ 87) B' → Good n s w B0 τ0 (fun B f => mtE nd cl kd m B O f) (op0 wi bi) wi c (vsN n w (fun B f => mtE nd cl kd m B O f) (op0 wi bi) wi c r ν β) (rl μ' 87) B') ∧ (∀ B', ¬ sup B' ν.2.1 → rl μ' 87 B' = rl μ 87 B') ∧ ∀ k j, ¬ (83 ≤ k ∧ k ≤ 86) → rd μ' k j = rd μ k j := by
      intro hA hj
      have e : vsN n w (fun B f => mtE nd cl kd m B O f) (op0 wi bi) wi c r ν β = bup n (op0 wi bi) c β ν := by
        rw [← vsN_bup, V_ab _ _ _ hA]
      refine ⟨μ1, by rw [y1]; exact hj, by rw [e]; exact y2, fun B' h => by rw [e]; exact hG1 B' h, fun B' _ => by rw [σ1], y4⟩
    by_cases z8 : 8 ≤ ν.1
    · have r0 : r = 0 := by have := hN.1; omega
      subst r0
      refine stop (bet_self β ν) ?_
      unfold F_X5_goOn_j29
      rw [if_pos (show (8 : Int32) ≤ nI ν.1 from nI_le (a := 8) z8 (by omega))]
    · have j8 : ¬ (8 : Int32) ≤ nI ν.1 := nI_ge (b := 8) (by omega) (by omega)
      by_cases zg : agd (n - s) c (bup n (op0 wi bi) c β ν) ν.1 = true
      · refine stop ?_ ?_
        · cases r with
          | zero => exact bet_self β ν
          | succ r =>
            refine ⟨bet_self β ν, fun f hf ho => AbT_deep r _ _ (fun d' B' h1 h2 => ?_)⟩
            have e : (chd w ν f).1 = ν.1 + 1 := rfl
            rw [e] at h1 h2
            have := hN.1
            unfold agd at zg
            unfold bet
            cases c
            · rw [if_neg (show ¬ (false = true) by decide), decide_eq_true_eq] at zg
              rw [if_neg (show ¬ (false = true) by decide), decide_eq_false_iff_not]
              omega
            · rw [if_pos rfl, Bool.and_eq_true, decide_eq_true_eq, decide_eq_true_eq] at zg
              rw [if_pos rfl, Bool.and_eq_false_iff, Bool.or_eq_false_iff, decide_eq_false_iff_not, decide_eq_false_iff_not]
              exact Or.inl ⟨zg.1, by omega⟩
        · unfold F_X5_goOn_j29
          rw [if_neg j8, e_agd n8 y2 d8, bd_s, zg, if_pos (by decide)]
      · have zg' : agd (n - s) c (bup n (op0 wi bi) c β ν) ν.1 = false := Bool.eq_false_iff.mpr zg
        have hGB := hG1 _ (hG _ B8 (fun _ q => q))
        rcases e_seen V w9 y2 hN hGB with ⟨s1, s2⟩ | s1
        · refine stop s2 ?_
          unfold F_X5_goOn_j29
          rw [if_neg j8, e_agd n8 y2 d8, bd_s, zg', if_neg (not_not_intro b2_f), s1, bd_s, if_neg (show ¬ (1 : Int32) = 0 by decide)]
        · -- go on from here
          generalize hμ2 : wl μ1 87 ν.2.1 (nL (la (lx n w (op0 wi bi) ν) 8)) = μ2 at s1
          have W2 : ∀ k j, rd μ2 k j = rd μ1 k j := fun k j => by rw [← hμ2]; rfl
          have L2 : ∀ B', B' ≠ ν.2.1 → rl μ2 87 B' = rl μ 87 B' := fun B' h => by rw [← hμ2, rl_wl, if_neg (fun q => h q.2), y3]
          have L2' : rl μ2 87 ν.2.1 = nL (la (lx n w (op0 wi bi) ν) 8) := by rw [← hμ2, rl_wl, if_pos ⟨rfl, rfl⟩]
          have H2 := SeC_cg (μ' := μ2) (fun k j _ => W2 k j) (fun j => W2 _ j) (fun j => W2 _ j) (fun i _ => W2 _ i) (fun f _ => W2 _ f) y2
          clear hμ2
          obtain ⟨⟨F2, c6, c7, c8, c9, c10, c11⟩, -⟩ := id H2
          have may := e_mayX F2 V (kd := kd) (m := m) (B := ν.2.1) (O := O) hkd hm B8 hO
          generalize hg : vsG n w (fun B f => mtE nd cl kd m B O f) (op0 wi bi) wi c r ν = g
          have gm : ∀ (P : Bt → Prop), (∀ β ν, P β → P (bup n (op0 wi bi) c β ν)) → ∀ f β, P β → P (g f β) := by
            intro P hP f β hβ
            rw [← hg]
            unfold vsG
            split
            · exact V_mono P hP _ _ _ hβ
            · exact hβ
          obtain ⟨μ3, l1, l2, l3, l4, l5, l6⟩ : ∃ μ3, lp (fun p => F_X5_goOn_l76 (f_X5_goOn k) 83 (nI ν.1) (nI ν.2.1) (nI (bts (mtE nd cl kd m ν.2.1 O) n)) p.1 p.2) FU ((0 : Int32), μ2) = some μ3 ∧ SeC n s kd m O w nd cl wi wt bi c μ3 ν (vsL g n (bup n (op0 wi bi) c β ν)) ∧ (∀ B', B' ≠ ν.2.1 → Good n s w B0 τ0 (fun B f => mtE nd cl kd m B O f) (op0 wi bi) wi c β (rl μ 87) B' → Good n s w B0 τ0 (fun B f => mtE nd cl kd m B O f) (op0 wi bi) wi c (vsL g n (bup n (op0 wi bi) c β ν)) (rl μ3 87) B') ∧ (∀ B', ¬ sup B' ν.2.1 → rl μ3 87 B' = rl μ 87 B') ∧ rl μ3 87 ν.2.1 = nL (la (lx n w (op0 wi bi) ν) 8) ∧ ∀ k j, ¬ (83 ≤ k ∧ k ≤ 86) → rd μ3 k j = rd μ k j := by
            refine lp_I (fun f p => p.1 = nI f ∧ SeC n s kd m O w nd cl wi wt bi c p.2 ν (vsL g (min f n) (bup n (op0 wi bi) c β ν)) ∧ (∀ B', B' ≠ ν.2.1 → Good n s w B0 τ0 (fun B f => mtE nd cl kd m B O f) (op0 wi bi) wi c β (rl μ 87) B' → Good n s w B0 τ0 (fun B f => mtE nd cl kd m B O f) (op0 wi bi) wi c (vsL g (min f n) (bup n (op0 wi bi) c β ν)) (rl p.2 87) B') ∧ (∀ B', ¬ sup B' ν.2.1 → rl p.2 87 B' = rl μ 87 B') ∧ rl p.2 87 ν.2.1 = nL (la (lx n w (op0 wi bi) ν) 8) ∧ ∀ k j, ¬ (83 ≤ k ∧ k ≤ 86) → rd p.2 k j = rd μ k j) 8 _ (by omega) ⟨rfl, by rw [Nat.zero_min]; exact H2, fun B' h1 h2 => ?_, fun B' h => L2 B' (fun q => h (by rw [q]; exact fun _ q => q)), L2', fun k j h => by rw [W2, y4 k j h]⟩ ?_ ?_
            · rw [Nat.zero_min]
              have := hG1 B' h2
              rw [σ1] at this
              have e : rl μ2 87 B' = rl μ 87 B' := L2 B' h1
              unfold Good at this ⊢
              rw [e]
              exact this
            · rintro f ⟨v, mm⟩ hf ⟨e1, e2, e3, e4, e5, e6⟩
              simp only at e1 e2 e3 e4 e5 e6
              subst e1
              have bit : jshr (nI (bts (mtE nd cl kd m ν.2.1 O) n)) (nI f) &&& 1 = b2 (decide (f < n) && mtE nd cl kd m ν.2.1 O f) := by
                rw [shr_b (bts_lt _ n n8) hf, bts_tb]
              by_cases zb : (decide (f < n) && mtE nd cl kd m ν.2.1 O f) = true
              · rw [zb] at bit
                rw [Bool.and_eq_true, decide_eq_true_eq] at zb
                obtain ⟨fn, fm⟩ := zb
                have nb := mtE_nb fm
                obtain ⟨r1, hNc, hsc⟩ := nOK_chd n8 hN hsup fn nb
                rw [Nat.min_eq_left (show f ≤ n by omega)] at e2 e3
                rw [Nat.min_eq_left (show f + 1 ≤ n by omega)]
                obtain ⟨a0, a1, a2, a3, a4, a5⟩ := e2
                obtain ⟨F3, c6', c7', c8', c9', c10', c11'⟩ := id a0
                -- the memory with the fact told
                have Wn : ∀ k j, ¬ (k = 85 ∧ j = ν.1) → ¬ (k = 86 ∧ j = f) → rd (wr (wr mm 85 ν.1 (nI f)) 86 f (nI (w + ν.1))) k j = rd mm k j := fun k j x y => by rw [rd_wr_n y, rd_wr_n x]
                have W85 : rd (wr (wr mm 85 ν.1 (nI f)) 86 f (nI (w + ν.1))) 85 ν.1 = nI f := by rw [rd_wr_n (by omega), rd_wr_s]
                have W86 : rd (wr (wr mm 85 ν.1 (nI f)) 86 f (nI (w + ν.1))) 86 f = nI (w + ν.1) := rd_wr_s _ _ _ _
                have Wl : rl (wr (wr mm 85 ν.1 (nI f)) 86 f (nI (w + ν.1))) 87 = rl mm 87 := rfl
                have W10 : nI w + nI ν.1 = nI (w + ν.1) := nI_add _ _
                have wE : wr (wr mm 85 ν.1 (nI f)) 86 f (rd (wr mm 85 ν.1 (nI f)) 83 10 + nI ν.1) = wr (wr mm 85 ν.1 (nI f)) 86 f (nI (w + ν.1)) := by rw [rd_wr_n (by omega), c10', W10]
                generalize hm4 : wr (wr mm 85 ν.1 (nI f)) 86 f (nI (w + ν.1)) = m4 at Wn W85 W86 Wl wE
                have bf : ∀ g, ν.2.1.testBit g = true → g ≠ f := fun g hg q => by rw [q, nb] at hg; cases hg
                have X4 : SeX n s kd m O w nd cl wi wt bi c m4 := SeX_cg (fun k j h => Wn k j (by omega) (by omega)) (fun j h => Wn 83 j (by omega) (by omega)) a0
                have B1 : rd m4 83 1 = nI (vsL g f (bup n (op0 wi bi) c β ν)).1 - 1 := by rw [Wn 83 1 (by omega) (by omega)]; exact a1
                have B2 : ∀ i, i + 1 < (vsL g f (bup n (op0 wi bi) c β ν)).1 → rd m4 84 i = nI ((vsL g f (bup n (op0 wi bi) c β ν)).2 i) := fun i hi => by rw [Wn 84 i (by omega) (by omega)]; exact a2 i hi
                have Cν : SeC n s kd m O w nd cl wi wt bi c m4 ν (vsL g f (bup n (op0 wi bi) c β ν)) := ⟨X4, B1, B2, fun i hi => by rw [Wn 85 i (by omega) (by omega)]; exact a3 i hi, fun h hh => by rw [Wn 86 h (by omega) (fun q => bf h hh q.2)]; exact a4 h hh, a5⟩
                have Cc : SeC n s kd m O w nd cl wi wt bi c m4 (chd w ν f) (vsL g f (bup n (op0 wi bi) c β ν)) := by
                  refine ⟨X4, B1, B2, fun i hi => ?_, fun h hh => ?_, a5⟩
                  · show rd m4 85 i = nI (up ν.2.2.2 ν.1 f i)
                    have hi : i < ν.1 + 1 := hi
                    by_cases y : i = ν.1
                    · rw [y, up_s]; exact W85
                    · rw [up_n y, Wn 85 i (by omega) (by omega)]; exact a3 i (by omega)
                  · show rd m4 86 h = nI (up ν.2.2.1 f (w + ν.1) h)
                    by_cases y : h = f
                    · rw [y, up_s]; exact W86
                    · rw [up_n y, Wn 86 h (by omega) (by omega)]; exact a4 h ((tb_pow.mp hh).resolve_right y)
                have od : f_X1_anyOverdue m4 2 (nI (ν.2.1 ||| 2 ^ f)) 86 (nI (w + ν.1)) = some (b2 (odN n (op0 wi bi) wi (ν.2.1 ||| 2 ^ f) (up ν.2.2.1 f (w + ν.1)) (w + ν.1))) := by
                  refine e_odX X4.1 V hNc.2.2.1 rfl (by omega) (fun h hn hh => ⟨Cc.2.2.2.2.1 h hh, ?_⟩)
                  have := (hNc.2.2.2 h hh).2.1
                  have e : (chd w ν f).1 = ν.1 + 1 := rfl
                  have e' : (chd w ν f).2.2.1 h = up ν.2.2.1 f (w + ν.1) h := rfl
                  rw [e, e'] at this
                  omega
                have run : ∀ y : Option ((Int32 × Mem) ⊕ Mem), (if odN n (op0 wi bi) wi (ν.2.1 ||| 2 ^ f) (up ν.2.2.1 f (w + ν.1)) (w + ν.1) = true then some (.inl (nI (f + 1), m4)) else (f_X5_goOn k m4 83 (nI (ν.1 + 1)) (nI (ν.2.1 ||| 2 ^ f))).bind fun μ150 => some (.inl (nI (f + 1), μ150))) = y → F_X5_goOn_l76 (f_X5_goOn k) 83 (nI ν.1) (nI ν.2.1) (nI (bts (mtE nd cl kd m ν.2.1 O) n)) (nI f) mm = y := by
                  intro y hy
                  unfold F_X5_goOn_l76
                  simp only [rfs]
                  rw [if_neg (show ¬ (8 : Int32) ≤ nI f from nI_ge (b := 8) hf (by omega)), bit, if_neg (by decide), ib_nI (show ν.1 < 8 by omega) (by omega), if_pos rfl, bd_s, ib_nI hf (by omega), if_pos rfl, tn_nI (show ν.1 < 2 ^ 31 by omega), tn_nI (show f < 2 ^ 31 by omega), wE, bd_s, shl_1 f hf, nI_or, X4.2.2.2.2.2.1, W10, od, bd_s, nI_1, nI_1]
                  cases zo : odN n (op0 wi bi) wi (ν.2.1 ||| 2 ^ f) (up ν.2.2.1 f (w + ν.1)) (w + ν.1)
                  · rw [zo, if_neg (show ¬ (false = true) by decide)] at hy
                    rw [if_neg (not_not_intro b2_f)]
                    exact hy
                  · rw [zo, if_pos rfl] at hy
                    rw [if_pos (by decide)]
                    exact hy
                by_cases zo : odN n (op0 wi bi) wi (ν.2.1 ||| 2 ^ f) (up ν.2.2.1 f (w + ν.1)) (w + ν.1) = true
                · have ok : okN n w (fun B f => mtE nd cl kd m B O f) (op0 wi bi) wi ν f = false := by unfold okN; rw [zo]; exact Bool.and_false _
                  have ge : vsL g (f + 1) (bup n (op0 wi bi) c β ν) = vsL g f (bup n (op0 wi bi) c β ν) := by rw [vsL, ← hg, vsG, if_neg (by rw [ok]; decide)]
                  rw [ge]
                  refine ⟨(nI (f + 1), m4), run _ (by rw [if_pos zo]), rfl, Cν, ?_, ?_, ?_, fun k j h => ?_⟩
                  · simp only
                    rw [Wl]
                    exact e3
                  · simp only
                    rw [Wl]
                    exact e4
                  · simp only
                    rw [Wl]
                    exact e5
                  · simp only
                    rw [Wn k j (by omega) (by omega)]
                    exact e6 k j h
                · have ok : okN n w (fun B f => mtE nd cl kd m B O f) (op0 wi bi) wi ν f = true := by unfold okN; rw [Bool.eq_false_iff.mpr zo]; show (mtE nd cl kd m ν.2.1 O f && !false) = true; rw [fm]; rfl
                  have ge : vsL g (f + 1) (bup n (op0 wi bi) c β ν) = vsN n w (fun B f => mtE nd cl kd m B O f) (op0 wi bi) wi c (r - 1) (chd w ν f) (vsL g f (bup n (op0 wi bi) c β ν)) := by rw [vsL, ← hg, vsG, if_pos ok]
                  have supc : ∀ B', sup B' (chd w ν f).2.1 → sup B' ν.2.1 ∧ B' ≠ ν.2.1 := fun B' h => ⟨fun g hg => h g (tb_pow.mpr (Or.inl hg)), fun q => by
                    have := h f (tb_pow.mpr (Or.inr rfl))
                    rw [q, nb] at this
                    cases this⟩
                  obtain ⟨μ', i1, i2, i3, i4, i5⟩ := ih (r - 1) (chd w ν f) (vsL g f (bup n (op0 wi bi) c β ν)) m4 (by omega) hNc hsc Cc (fun B' h1 h2 => by
                    obtain ⟨s1, s2⟩ := supc B' h2
                    rw [Wl]
                    exact e3 B' s2 (hG B' h1 s1))
                  rw [← ge] at i2 i3
                  refine ⟨(nI (f + 1), μ'), run _ ?_, rfl, ?_, ?_, ?_, ?_, fun k j h => ?_⟩
                  · rw [if_neg zo]
                    have i1 : f_X5_goOn k m4 83 (nI (ν.1 + 1)) (nI (ν.2.1 ||| 2 ^ f)) = some μ' := i1
                    rw [i1, bd_s]
                  · obtain ⟨x0, x1, x2, x3, x4, x5⟩ := i2
                    refine ⟨x0, x1, x2, fun i hi => ?_, fun h hh => ?_, x5⟩
                    · have := x3 i (by show i < ν.1 + 1; omega)
                      rw [this]
                      show nI (up ν.2.2.2 ν.1 f i) = _
                      rw [up_n (by omega)]
                    · have := x4 h (tb_pow.mpr (Or.inl hh))
                      rw [this]
                      show nI (up ν.2.2.1 f (w + ν.1) h) = _
                      rw [up_n (bf h hh)]
                  · intro B' h1 h2
                    refine i3 B' ?_
                    rw [Wl]
                    exact e3 B' h1 h2
                  · intro B' h1
                    simp only
                    rw [i4 B' (fun q => h1 (supc B' q).1), Wl]
                    exact e4 B' h1
                  · simp only
                    rw [i4 ν.2.1 (fun q => (supc _ q).2 rfl), Wl]
                    exact e5
                  · simp only
                    rw [i5 k j h, Wn k j (by omega) (by omega)]
                    exact e6 k j h
              · have zb' := Bool.eq_false_iff.mpr zb
                rw [zb'] at bit
                have ge : vsL g (min (f + 1) n) (bup n (op0 wi bi) c β ν) = vsL g (min f n) (bup n (op0 wi bi) c β ν) := by
                  by_cases y : f < n
                  · rw [Nat.min_eq_left (show f + 1 ≤ n by omega), Nat.min_eq_left (show f ≤ n by omega), vsL, ← hg, vsG, if_neg]
                    intro q
                    unfold okN at q
                    rw [Bool.and_eq_true] at q
                    apply zb
                    rw [Bool.and_eq_true, decide_eq_true_eq]
                    exact ⟨y, q.1⟩
                  · rw [Nat.min_eq_right (by omega), Nat.min_eq_right (by omega)]
                rw [ge]
                refine ⟨(nI (f + 1), mm), ?_, rfl, e2, e3, e4, e5, e6⟩
                show F_X5_goOn_l76 (f_X5_goOn k) 83 (nI ν.1) (nI ν.2.1) (nI (bts (mtE nd cl kd m ν.2.1 O) n)) (nI f) mm = _
                unfold F_X5_goOn_l76
                rw [if_neg (show ¬ (8 : Int32) ≤ nI f from nI_ge (b := 8) hf (by omega)), bit, if_pos (by decide), nI_1]
            · rintro ⟨v, mm⟩ ⟨e1, e2, e3, e4, e5, e6⟩
              simp only at e1 e2 e3 e4 e5 e6
              subst e1
              rw [Nat.min_eq_right n8] at e2 e3
              refine ⟨mm, ?_, e2, e3, e4, e5, e6⟩
              show F_X5_goOn_l76 (f_X5_goOn k) 83 (nI ν.1) (nI ν.2.1) (nI (bts (mtE nd cl kd m ν.2.1 O) n)) (nI 8) mm = _
              unfold F_X5_goOn_l76
              rw [if_pos (by decide)]
          have ve : vsN n w (fun B f => mtE nd cl kd m B O f) (op0 wi bi) wi c r ν β = vsL g n (bup n (op0 wi bi) c β ν) := by rw [vsN_G hN, hg]
          have vA : AbT n w (fun B f => mtE nd cl kd m B O f) (op0 wi bi) wi c r ν (vsL g n (bup n (op0 wi bi) c β ν)) := by rw [← ve]; exact V_self r ν β
          rw [ve]
          refine ⟨μ3, ?_, l2, fun B' h => ?_, l4, l6⟩
          · rw [y1]
            unfold F_X5_goOn_j29
            simp only [rfs]
            rw [if_neg j8, e_agd n8 y2 d8, bd_s, zg', if_neg (not_not_intro b2_f), s1, bd_s, if_pos rfl]
            simp only
            rw [c7, c8, c9, may, bd_s, l1, bd_s]
          · by_cases e : B' = ν.2.1
            · subst e
              refine Or.inr ⟨lx n w (op0 wi bi) ν, lx_16 n8 hN, l5, fun ν' r' h1 h2 h3 => ?_⟩
              obtain ⟨q1, rfl⟩ := Le_of n8 h1 hN h2 h3
              exact AbT_le op0_anti _ _ _ _ q1 vA
            · exact l3 B' e h
end
