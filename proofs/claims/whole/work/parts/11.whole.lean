def μz : Mem := (fun _ _ => 0, fun _ _ => 0)
def μ0 : Mem := i_X12_105 (i_X11_0 μz)
theorem zr_z : Zr 0 μz := fun k _ => ⟨fun _ => rfl, fun _ => rfl⟩
/-- every reference is set -/
def FlagOK (μ : Mem) : Prop := ∀ k, k < 120 → ∀ j, j < 30 → (sh k < 13 → fk (sh k) j ≠ 0 → ¬ μ.1 k j = 0) ∧ (15 ≤ sh k → j < 4 → ¬ μ.1 k j = 0)
theorem flag_all : (List.range 120).all (fun k => (List.range 30).all (fun j => (!decide (sh k < 13) || decide (fk (sh k) j = 0) || !decide (μ0.1 k j = 0)) && (!decide (15 ≤ sh k) || !decide (j < 4) || !decide (μ0.1 k j = 0)))) = true := by decide +kernel
theorem flag_start : FlagOK μ0 := by
  intro k hk j hj
  have h1 := List.all_eq_true.mp flag_all k (List.mem_range.mpr hk)
  have h2 := List.all_eq_true.mp h1 j (List.mem_range.mpr hj)
  simp only [Bool.and_eq_true, Bool.or_eq_true, Bool.not_eq_true', decide_eq_true_eq, decide_eq_false_iff_not] at h2
  refine ⟨fun a b c => ?_, fun a b c => ?_⟩
  · rcases h2.1 with (q | q) | q
    · exact q a
    · exact b q
    · exact q c
  · rcases h2.2 with (q | q) | q
    · exact q a
    · exact q b
    · exact q c
theorem nf_30 : ∀ c, c < 13 → nf c ≤ 30 := by decide +kernel
theorem ln_4 : ∀ k, k < 120 → 15 ≤ sh k → ln k = 4 ∧ (sh k = 15 ∨ sh k = 16) := by decide +kernel
theorem wld_of_wldI {G : GG} {μ : Mem} {H : Heap} (hf : FlagOK μ) (hP : va_P (gD G) vwCl (wldI G μ 120) H) : va_P (gD G) vwCl (wld G μ) H := by
  intro k q hq
  obtain ⟨hk, rfl⟩ := wld_inv hq
  have h := hP k _ (wldI_at G μ hk)
  by_cases c1 : sh k < 13
  · have e : fvIs G μ k (nf (sh k)) = fvs G μ k (nf (sh k)) := by
      apply List.map_congr_left
      intro j hj
      have hj : j < nf (sh k) := List.mem_range.mp hj
      have h3 := nf_30 _ c1
      by_cases z : fk (sh k) j = 0
      · simp only [fvI, fv, z, if_true]
      · have hne := (hf k hk j (by omega)).1 c1 z
        simp only [fvI, fv, z, if_false, hne]
    rw [celI_obj rfl c1, e] at h
    rw [cel_obj rfl c1]
    exact h
  · by_cases c2 : sh k = 13
    · rw [celI_int c2] at h; rw [cel_int c2]; exact h
    · by_cases c3 : sh k = 14
      · rw [celI_long c3] at h; rw [cel_long c3]; exact h
      · have c4 : 15 ≤ sh k := by omega
        obtain ⟨hl4, -⟩ := ln_4 k hk c4
        rw [celI_ref rfl c4] at h
        rw [cel_ref rfl c4]
        have h : H[gad G k]? = some (vp_cell (gcy G (sh k)) (ln k, .inr (.inr (.inr (.inr (raI G μ k)))))) := h
        show H[gad G k]? = some (vp_cell (gcy G (sh k)) (ln k, .inr (.inr (.inr (.inr (fun j => some (gad G (rf k j))))))))
        rw [h, hl4, vp_cell_q, vp_cell_q]
        congr 1
        unfold arrV
        congr 2
        funext j
        have hne := (hf k hk j.val (by have := j.isLt; omega)).2 c4 j.isLt
        simp only [raI, hne, if_false]
set_option maxHeartbeats 4000000 in
set_option maxRecDepth 100000 in
theorem law_head {C : Cx} {d : Nat} (hd : 20 ≤ d) (hC : CxI C cL_law 4 RL d 0 120 2876) {b : Nat} {μ : Mem} (hZ : Zr 0 μ) (hend : UI C 4 120 120 2876 (i_X12_105 (i_X11_0 μ)) 18 [(3, .int (0 : Int32)), (2, .ref (gad (cG C) 105)), (1, .ref (gad (cG C) 0)), (0, .ref b)] []) : UI C 4 0 0 0 μ 0 [(0, .ref b)] [] := by
  refine vn_RL_7 (n := 0) (pc := 0) hC rfl rfl hZ (by decide) dL_law_0 ?_
  show UI C 4 1 1 10 μ 3 [(0, .ref b)] [.ref (gad (cG C) 0)]
  refine v_dup (pc := 3) hC rfl dL_law_3 ?_
  refine vc_RL_9 (n := 1) (pc := 4) hC (av := []) (rest := [.ref (gad (cG C) 0)]) (ci_X11_0 (d := d - 1) (by omega) (zs (n := 0) (m := 1) hZ (by decide))) rfl (by omega) (Nat.le_of_ble_eq_true rfl) rfl (by decide) rfl dL_law_4 ?_
  show UI C 4 105 105 1707 (i_X11_0 μ) 7 [(0, .ref b)] [.ref (gad (cG C) 0)]
  refine v_astore_n (pc := 7) hC dL_law_7 rfl [(1, .ref (gad (cG C) 0)), (0, .ref b)] (by decide) rfl ?_
  refine vn_RL_10 (n := 105) (pc := 8) hC rfl rfl (zi_X11_0 (n := 105) (zs (n := 1) (m := 105) (zs (n := 0) (m := 1) hZ (by decide)) (by decide)) (by decide)) (by decide) dL_law_8 ?_
  show UI C 4 106 106 1733 (i_X11_0 μ) 11 [(1, .ref (gad (cG C) 0)), (0, .ref b)] [.ref (gad (cG C) 105)]
  refine v_dup (pc := 11) hC rfl dL_law_11 ?_
  refine vc_RL_12 (n := 106) (pc := 12) hC (av := []) (rest := [.ref (gad (cG C) 105)]) (ci_X12_105 (d := d - 1) (by omega) (zs (n := 105) (m := 106) (zi_X11_0 (n := 105) (zs (n := 1) (m := 105) (zs (n := 0) (m := 1) hZ (by decide)) (by decide)) (by decide)) (by decide))) rfl (by omega) (Nat.le_of_ble_eq_true rfl) rfl (by decide) rfl dL_law_12 ?_
  show UI C 4 120 120 2876 (i_X12_105 (i_X11_0 μ)) 15 [(1, .ref (gad (cG C) 0)), (0, .ref b)] [.ref (gad (cG C) 105)]
  refine v_astore_n (pc := 15) hC dL_law_15 rfl [(2, .ref (gad (cG C) 105)), (1, .ref (gad (cG C) 0)), (0, .ref b)] (by decide) rfl ?_
  refine v_iconst (pc := 16) hC (v := (0 : Int32)) (by decide) dL_law_16 ?_
  refine v_istore_n (pc := 17) hC dL_law_17 rfl [(3, .int (0 : Int32)), (2, .ref (gad (cG C) 105)), (1, .ref (gad (cG C) 0)), (0, .ref b)] (by decide) rfl ?_
  exact hend
set_option maxHeartbeats 8000000 in
set_option maxRecDepth 100000 in
theorem whole_open {Rel : Mem → Prop} (h09 : Rel μ0) (hs9 : SH_all Rel) {p : Program} {e : Env} {s : State} {m : MethodId} {below : List Frame} {meth : Method} {c : Code} (l : Launch) {b L : Nat} {xs : Nat → Int32} (hL : L ≤ 3072) (C0 : lw_At p s m meth c b L xs) : W p l e room_1 s m #[Value.ref b] below meth c s.heap [] 0 0 (lw_Z below #[Value.ref b] s) (entryFrame m ([Value.ref b] : List Value).toArray 4) := by
  obtain ⟨hx, hb, hr, hml, hown, hts, hX, hbl, hlocks, hgv⟩ := id C0
  have htA : ∀ w ∈ AL, w.before #[Value.ref b] s = true := fun w h => hts w (al_tbl h)
  obtain ⟨c0, i0, hK0⟩ := u_known htA inAL_X0 (htA _ mT_RX0)
  obtain ⟨c1, i1, hK1⟩ := u_known htA inAL_X1 (htA _ mT_RX1)
  obtain ⟨c2, i2, hK2⟩ := u_known htA inAL_X2 (htA _ mT_RX2)
  obtain ⟨c3, i3, hK3⟩ := u_known htA inAL_X3 (htA _ mT_RX3)
  obtain ⟨c4, i4, hK4⟩ := u_known htA inAL_X4 (htA _ mT_RX4)
  obtain ⟨c5, i5, hK5⟩ := u_known htA inAL_X5 (htA _ mT_RX5)
  obtain ⟨c6, i6, hK6⟩ := u_known htA inAL_X6 (htA _ mT_RX6)
  obtain ⟨c7, i7, hK7⟩ := u_known htA inAL_X7 (htA _ mT_RX7)
  obtain ⟨c8, i8, hK8⟩ := u_known htA inAL_X8 (htA _ mT_RX8)
  obtain ⟨c9, i9, hK9⟩ := u_known htA inAL_X9 (htA _ mT_RX9)
  obtain ⟨c10, i10, hK10⟩ := u_known htA inAL_X10 (htA _ mT_RX10)
  obtain ⟨c11, i11, hK11⟩ := u_known htA inAL_X11 (htA _ mT_RX11)
  obtain ⟨c12, i12, hK12⟩ := u_known htA inAL_X12 (htA _ mT_RX12)
  obtain ⟨cyI, kyI, cmI, hyI1, hyI2, hyI3⟩ := Cond.arrayClass_spec (htA _ mA_int)
  obtain ⟨cyJ, kyJ, cmJ, hyJ1, hyJ2, hyJ3⟩ := Cond.arrayClass_spec (htA _ mA_long)
  have haoD : (Cond.arrayOver (.object "ChapterLoan$Debtor")).before #[Value.ref b] s = true := hts _ (List.mem_of_getElem? (i := 180) (by decide +kernel))
  obtain ⟨cmD, cyD, kyD, hyD1, -, hyD2, hyD3, hyD4⟩ := Cond.arrayOver_spec haoD
  have haoS : (Cond.arrayOver (.object "ChapterLoan$Sheet")).before #[Value.ref b] s = true := hts _ (List.mem_of_getElem? (i := 430) (by decide +kernel))
  obtain ⟨cmS, cyS, kyS, hyS1, -, hyS2, hyS3, hyS4⟩ := Cond.arrayOver_spec haoS
  have hs := flat_of_before _ hgv
  have hA : ∀ a : Nat, a < s.heap.size → ¬ (fun q : Nat => s.heap.size ≤ q) a := fun a h => Nat.not_le.mpr h
  obtain ⟨t0, ht0, hT0⟩ := va_Tof (tm := (.static "ChapterLoan" "ABOVE" "[I")) (ty := .int) (N := 7) (f := fun j => .int (st 0 j)) (A := fun q : Nat => s.heap.size ≤ q) (by decide) (hs _ (by decide +kernel)) (va_eqt (z := Int32.ofNat 7) (hs _ (by decide +kernel))) (by
    intro j hj
    match j, hj with
    | 0, _ => exact va_eqt (t := .elem (.static "ChapterLoan" "ABOVE" "[I") (.int (Int32.ofNat 0))) (z := (-1)) (hs _ (by decide +kernel))
    | 1, _ => exact va_eqt (t := .elem (.static "ChapterLoan" "ABOVE" "[I") (.int (Int32.ofNat 1))) (z := 0) (hs _ (by decide +kernel))
    | 2, _ => exact va_eqt (t := .elem (.static "ChapterLoan" "ABOVE" "[I") (.int (Int32.ofNat 2))) (z := 0) (hs _ (by decide +kernel))
    | 3, _ => exact va_eqt (t := .elem (.static "ChapterLoan" "ABOVE" "[I") (.int (Int32.ofNat 3))) (z := 0) (hs _ (by decide +kernel))
    | 4, _ => exact va_eqt (t := .elem (.static "ChapterLoan" "ABOVE" "[I") (.int (Int32.ofNat 4))) (z := 1) (hs _ (by decide +kernel))
    | 5, _ => exact va_eqt (t := .elem (.static "ChapterLoan" "ABOVE" "[I") (.int (Int32.ofNat 5))) (z := 2) (hs _ (by decide +kernel))
    | 6, _ => exact va_eqt (t := .elem (.static "ChapterLoan" "ABOVE" "[I") (.int (Int32.ofNat 6))) (z := 3) (hs _ (by decide +kernel))
    | j + 7, h => exact absurd h (by omega)) hA
  have hZ0 := va_Zof (A := fun q : Nat => s.heap.size ≤ q) (hts (.laysStatic "ChapterLoan" "ABOVE" "[I") (List.mem_of_getElem? (i := 616) (by decide +kernel))) (htA _ mI_RX11) ht0 hA
  obtain ⟨t1, ht1, hT1⟩ := va_Tof (tm := (.static "ChapterLoan" "BODIES" "[I")) (ty := .int) (N := 28) (f := fun j => .int (st 1 j)) (A := fun q : Nat => s.heap.size ≤ q) (by decide) (hs _ (by decide +kernel)) (va_eqt (z := Int32.ofNat 28) (hs _ (by decide +kernel))) (by
    intro j hj
    match j, hj with
    | 0, _ => exact va_eqt (t := .elem (.static "ChapterLoan" "BODIES" "[I") (.int (Int32.ofNat 0))) (z := 10) (hs _ (by decide +kernel))
    | 1, _ => exact va_eqt (t := .elem (.static "ChapterLoan" "BODIES" "[I") (.int (Int32.ofNat 1))) (z := 11) (hs _ (by decide +kernel))
    | 2, _ => exact va_eqt (t := .elem (.static "ChapterLoan" "BODIES" "[I") (.int (Int32.ofNat 2))) (z := 12) (hs _ (by decide +kernel))
    | 3, _ => exact va_eqt (t := .elem (.static "ChapterLoan" "BODIES" "[I") (.int (Int32.ofNat 3))) (z := 13) (hs _ (by decide +kernel))
    | 4, _ => exact va_eqt (t := .elem (.static "ChapterLoan" "BODIES" "[I") (.int (Int32.ofNat 4))) (z := 0) (hs _ (by decide +kernel))
    | 5, _ => exact va_eqt (t := .elem (.static "ChapterLoan" "BODIES" "[I") (.int (Int32.ofNat 5))) (z := 20) (hs _ (by decide +kernel))
    | 6, _ => exact va_eqt (t := .elem (.static "ChapterLoan" "BODIES" "[I") (.int (Int32.ofNat 6))) (z := 0) (hs _ (by decide +kernel))
    | 7, _ => exact va_eqt (t := .elem (.static "ChapterLoan" "BODIES" "[I") (.int (Int32.ofNat 7))) (z := 0) (hs _ (by decide +kernel))
    | 8, _ => exact va_eqt (t := .elem (.static "ChapterLoan" "BODIES" "[I") (.int (Int32.ofNat 8))) (z := 30) (hs _ (by decide +kernel))
    | 9, _ => exact va_eqt (t := .elem (.static "ChapterLoan" "BODIES" "[I") (.int (Int32.ofNat 9))) (z := 0) (hs _ (by decide +kernel))
    | 10, _ => exact va_eqt (t := .elem (.static "ChapterLoan" "BODIES" "[I") (.int (Int32.ofNat 10))) (z := 0) (hs _ (by decide +kernel))
    | 11, _ => exact va_eqt (t := .elem (.static "ChapterLoan" "BODIES" "[I") (.int (Int32.ofNat 11))) (z := 0) (hs _ (by decide +kernel))
    | 12, _ => exact va_eqt (t := .elem (.static "ChapterLoan" "BODIES" "[I") (.int (Int32.ofNat 12))) (z := 0) (hs _ (by decide +kernel))
    | 13, _ => exact va_eqt (t := .elem (.static "ChapterLoan" "BODIES" "[I") (.int (Int32.ofNat 13))) (z := 0) (hs _ (by decide +kernel))
    | 14, _ => exact va_eqt (t := .elem (.static "ChapterLoan" "BODIES" "[I") (.int (Int32.ofNat 14))) (z := 40) (hs _ (by decide +kernel))
    | 15, _ => exact va_eqt (t := .elem (.static "ChapterLoan" "BODIES" "[I") (.int (Int32.ofNat 15))) (z := 0) (hs _ (by decide +kernel))
    | 16, _ => exact va_eqt (t := .elem (.static "ChapterLoan" "BODIES" "[I") (.int (Int32.ofNat 16))) (z := 0) (hs _ (by decide +kernel))
    | 17, _ => exact va_eqt (t := .elem (.static "ChapterLoan" "BODIES" "[I") (.int (Int32.ofNat 17))) (z := 50) (hs _ (by decide +kernel))
    | 18, _ => exact va_eqt (t := .elem (.static "ChapterLoan" "BODIES" "[I") (.int (Int32.ofNat 18))) (z := 0) (hs _ (by decide +kernel))
    | 19, _ => exact va_eqt (t := .elem (.static "ChapterLoan" "BODIES" "[I") (.int (Int32.ofNat 19))) (z := 0) (hs _ (by decide +kernel))
    | 20, _ => exact va_eqt (t := .elem (.static "ChapterLoan" "BODIES" "[I") (.int (Int32.ofNat 20))) (z := 0) (hs _ (by decide +kernel))
    | 21, _ => exact va_eqt (t := .elem (.static "ChapterLoan" "BODIES" "[I") (.int (Int32.ofNat 21))) (z := 0) (hs _ (by decide +kernel))
    | 22, _ => exact va_eqt (t := .elem (.static "ChapterLoan" "BODIES" "[I") (.int (Int32.ofNat 22))) (z := 0) (hs _ (by decide +kernel))
    | 23, _ => exact va_eqt (t := .elem (.static "ChapterLoan" "BODIES" "[I") (.int (Int32.ofNat 23))) (z := 60) (hs _ (by decide +kernel))
    | 24, _ => exact va_eqt (t := .elem (.static "ChapterLoan" "BODIES" "[I") (.int (Int32.ofNat 24))) (z := 0) (hs _ (by decide +kernel))
    | 25, _ => exact va_eqt (t := .elem (.static "ChapterLoan" "BODIES" "[I") (.int (Int32.ofNat 25))) (z := 0) (hs _ (by decide +kernel))
    | 26, _ => exact va_eqt (t := .elem (.static "ChapterLoan" "BODIES" "[I") (.int (Int32.ofNat 26))) (z := 70) (hs _ (by decide +kernel))
    | 27, _ => exact va_eqt (t := .elem (.static "ChapterLoan" "BODIES" "[I") (.int (Int32.ofNat 27))) (z := 71) (hs _ (by decide +kernel))
    | j + 28, h => exact absurd h (by omega)) hA
  have hZ1 := va_Zof (A := fun q : Nat => s.heap.size ≤ q) (hts (.laysStatic "ChapterLoan" "BODIES" "[I") (List.mem_of_getElem? (i := 934) (by decide +kernel))) (htA _ mI_RX11) ht1 hA
  obtain ⟨t2, ht2, hT2⟩ := va_Tof (tm := (.static "ChapterLoan" "USUAL_PAY" "[I")) (ty := .int) (N := 1) (f := fun j => .int (su 2 j)) (A := fun q : Nat => s.heap.size ≤ q) (by decide) (hs _ (by decide +kernel)) (va_eqt (z := Int32.ofNat 1) (hs _ (by decide +kernel))) (by
    intro j hj
    match j, hj with
    | 0, _ => exact va_eqt (t := .elem (.static "ChapterLoan" "USUAL_PAY" "[I") (.int (Int32.ofNat 0))) (z := 10) (hs _ (by decide +kernel))
    | j + 1, h => exact absurd h (by omega)) hA
  have hZ2 := va_Zof (A := fun q : Nat => s.heap.size ≤ q) (hts (.laysStatic "ChapterLoan" "USUAL_PAY" "[I") (List.mem_of_getElem? (i := 152) (by decide +kernel))) (htA _ mI_RX11) ht2 hA
  obtain ⟨t3, ht3, hT3⟩ := va_Tof (tm := (.static "ChapterLoan" "USUAL_TRUST" "[I")) (ty := .int) (N := 9) (f := fun j => .int (su 3 j)) (A := fun q : Nat => s.heap.size ≤ q) (by decide) (hs _ (by decide +kernel)) (va_eqt (z := Int32.ofNat 9) (hs _ (by decide +kernel))) (by
    intro j hj
    match j, hj with
    | 0, _ => exact va_eqt (t := .elem (.static "ChapterLoan" "USUAL_TRUST" "[I") (.int (Int32.ofNat 0))) (z := 10) (hs _ (by decide +kernel))
    | 1, _ => exact va_eqt (t := .elem (.static "ChapterLoan" "USUAL_TRUST" "[I") (.int (Int32.ofNat 1))) (z := (-3)) (hs _ (by decide +kernel))
    | 2, _ => exact va_eqt (t := .elem (.static "ChapterLoan" "USUAL_TRUST" "[I") (.int (Int32.ofNat 2))) (z := (-42)) (hs _ (by decide +kernel))
    | 3, _ => exact va_eqt (t := .elem (.static "ChapterLoan" "USUAL_TRUST" "[I") (.int (Int32.ofNat 3))) (z := 5) (hs _ (by decide +kernel))
    | 4, _ => exact va_eqt (t := .elem (.static "ChapterLoan" "USUAL_TRUST" "[I") (.int (Int32.ofNat 4))) (z := (-2)) (hs _ (by decide +kernel))
    | 5, _ => exact va_eqt (t := .elem (.static "ChapterLoan" "USUAL_TRUST" "[I") (.int (Int32.ofNat 5))) (z := (-42)) (hs _ (by decide +kernel))
    | 6, _ => exact va_eqt (t := .elem (.static "ChapterLoan" "USUAL_TRUST" "[I") (.int (Int32.ofNat 6))) (z := (-45)) (hs _ (by decide +kernel))
    | 7, _ => exact va_eqt (t := .elem (.static "ChapterLoan" "USUAL_TRUST" "[I") (.int (Int32.ofNat 7))) (z := (-1)) (hs _ (by decide +kernel))
    | 8, _ => exact va_eqt (t := .elem (.static "ChapterLoan" "USUAL_TRUST" "[I") (.int (Int32.ofNat 8))) (z := (-45)) (hs _ (by decide +kernel))
    | j + 9, h => exact absurd h (by omega)) hA
  have hZ3 := va_Zof (A := fun q : Nat => s.heap.size ≤ q) (hts (.laysStatic "ChapterLoan" "USUAL_TRUST" "[I") (List.mem_of_getElem? (i := 154) (by decide +kernel))) (htA _ mI_RX11) ht3 hA
  obtain ⟨G, hG⟩ : ∃ G : GG, G = ((fun k => ([c0, c1, c2, c3, c4, c5, c6, c7, c8, c9, c10, c11, c12] : List ClassId).getD k 0, fun k => ([i0, i1, i2, i3, i4, i5, i6, i7, i8, i9, i10, i11, i12] : List (Nat → Nat)).getD k (fun _ => 0)), (fun k => s.heap.size + k), (fun k => if k = 13 then cyI else if k = 14 then cyJ else if k = 15 then cyD else cyS), s.heap.size, (fun i => ([t0, t1, t2, t3] : List Nat).getD i 0)) := ⟨_, rfl⟩
  have hgs : gs0 G = s.heap.size := by rw [hG]; rfl
  have hgA : gA G = fun q : Nat => s.heap.size ≤ q := by funext q; show (gs0 G ≤ q) = _; rw [hgs]
  have hLin : gLin G := fun k => by rw [hG]; rfl
  have hOK : gOK G := ⟨fun i j hi hj e => by rw [hLin, hLin] at e; omega, fun k hk => by rw [hLin]; omega⟩
  have hK : va_K (gD G) vwCl (gTys G) s := by
    refine ⟨fun k q hq => ?_, fun k q hq => ?_⟩
    · subst hG
      match k, hq with
      | 0, hq => cases hq; exact hK0
      | 1, hq => cases hq; exact hK1
      | 2, hq => cases hq; exact hK2
      | 3, hq => cases hq; exact hK3
      | 4, hq => cases hq; exact hK4
      | 5, hq => cases hq; exact hK5
      | 6, hq => cases hq; exact hK6
      | 7, hq => cases hq; exact hK7
      | 8, hq => cases hq; exact hK8
      | 9, hq => cases hq; exact hK9
      | 10, hq => cases hq; exact hK10
      | 11, hq => cases hq; exact hK11
      | 12, hq => cases hq; exact hK12
      | k + 13, hq => simp [vwCl] at hq
    · subst hG
      match k, hq with
      | 0, hq => cases hq; exact ⟨fun n z => ⟨(fun k h => by cases h), kyI, hyI2, cmI, hyI3⟩, hyI1⟩
      | 1, hq => cases hq; exact ⟨fun n z => ⟨(fun k h => by cases h), kyJ, hyJ2, cmJ, hyJ3⟩, hyJ1⟩
      | 2, hq => cases hq; exact ⟨fun n z => ⟨(fun k h => by cases h), kyD, hyD2, cmD, hyD3⟩, kyD, cmD, hyD2, hyD3, hyD1, hyD4⟩
      | 3, hq => cases hq; exact ⟨fun n z => ⟨(fun k h => by cases h), kyS, hyS2, cmS, hyS3⟩, kyS, cmS, hyS2, hyS3, hyS1, hyS4⟩
      | k + 4, hq => simp [gTys] at hq
  have hg0 : gsa G 0 = t0 := by rw [hG]; rfl
  have hg1 : gsa G 1 = t1 := by rw [hG]; rfl
  have hg2 : gsa G 2 = t2 := by rw [hG]; rfl
  have hg3 : gsa G 3 = t3 := by rw [hG]; rfl
  have hSt : gStat G s s.heap := by
    unfold gStat
    rw [hgA, hg0, hg1]
    exact ⟨⟨hZ0, hT0⟩, ⟨hZ1, hT1⟩⟩
  have hSU : gSU G s s.heap := by
    unfold gSU
    rw [hgA, hg2, hg3]
    exact ⟨⟨hZ2, hT2⟩, ⟨hZ3, hT3⟩⟩
  have hNs : gNest s := ⟨va_Nw.of rfl (hts _ (List.mem_of_getElem? (i := 615) (by decide +kernel))), va_Nw.of rfl (hts _ (List.mem_of_getElem? (i := 933) (by decide +kernel))), va_Nw.of rfl (hts _ (List.mem_of_getElem? (i := 935) (by decide +kernel)))⟩
  have hNI : gNI s := by
    refine ⟨?_, va_Nw.of rfl (hts _ (List.mem_of_getElem? (i := 151) (by decide +kernel))), va_Nw.of rfl (hts _ (List.mem_of_getElem? (i := 153) (by decide +kernel)))⟩
    unfold NIm
    exact List.forall_mem_cons.mpr ⟨va_Nw.of rfl (hts _ (List.mem_of_getElem? (i := 106) (by decide +kernel))), List.forall_mem_cons.mpr ⟨va_Nw.of rfl (hts _ (List.mem_of_getElem? (i := 112) (by decide +kernel))), List.forall_mem_cons.mpr ⟨va_Nw.of rfl (hts _ (List.mem_of_getElem? (i := 182) (by decide +kernel))), List.forall_mem_cons.mpr ⟨va_Nw.of rfl (hts _ (List.mem_of_getElem? (i := 254) (by decide +kernel))), List.forall_mem_cons.mpr ⟨va_Nw.of rfl (hts _ (List.mem_of_getElem? (i := 278) (by decide +kernel))), List.forall_mem_cons.mpr ⟨va_Nw.of rfl (hts _ (List.mem_of_getElem? (i := 378) (by decide +kernel))), List.forall_mem_cons.mpr ⟨va_Nw.of rfl (hts _ (List.mem_of_getElem? (i := 383) (by decide +kernel))), List.forall_mem_cons.mpr ⟨va_Nw.of rfl (hts _ (List.mem_of_getElem? (i := 407) (by decide +kernel))), List.forall_mem_cons.mpr ⟨va_Nw.of rfl (hts _ (List.mem_of_getElem? (i := 432) (by decide +kernel))), fun _ h => absurd h List.not_mem_nil⟩⟩⟩⟩⟩⟩⟩⟩⟩
  have hAO : gAO s := ⟨va_AO.of haoD, va_AO.of haoS⟩
  have hl := lv_entry ([.ref b]) (n := 4) (Nat.le_of_ble_eq_true rfl)
  rw [lg_entry_eq]
  generalize (lg_sl ([.ref b]) ++ List.replicate (4 - (lg_sl ([.ref b])).length) Slot.unset).toArray = ls at hl ⊢
  have hl : lv_has ls 4 [(0, .ref b)] := hl
  have hown : s.vm.findClass RL = some m.cls := hown
  have hCI : CxI (p, l, e, room_1, s, m, #[Value.ref b], below, meth, c, G, lw_Z below #[Value.ref b] s, 0, 0) cL_law 4 RL 1000 0 120 2876 := ⟨⟨hx, hb, hml, hown, htA⟩, hlocks, hLin, hgs.symm, hK, hSt, hNs, hSU, hNI, hAO, ⟨by decide, by decide⟩, ⟨by decide, by decide⟩⟩
  have hCK : CxOK (p, l, e, room_1, s, m, #[Value.ref b], below, meth, c, G, lw_Z below #[Value.ref b] s, 600000, 7302250) cL_law 4 RL 1000 := ⟨⟨hx, hb, hml, hown, htA⟩, hlocks, hOK, Nat.le_of_eq hgs, hK, hSt, hNs, ⟨by decide, by decide⟩, ⟨Nat.le_refl _, Nat.le_refl _⟩⟩
  have hloop := law_loop hs9 (by decide) hCK (b := b) (L := L) (xs := xs) ⟨hX, hbl, hgs⟩ ⟨rfl, rfl, rfl, rfl, rfl, hr⟩ hL (L + 7) 0 0 μ0 rfl (by omega) (by omega) h09
  refine law_head (d := 1000) (by decide) hCI zr_z ?_ s.heap [] ls (fun k q h => by simp [wldI] at h) va_S.rf hl
  intro H locs ls hP hS hl
  refine W.widen (k := 600000) (n := 7302250) (by decide) (by decide) ?_
  exact hloop H locs ls (wld_of_wldI flag_start hP) hS (lv_sub hl [3, 2, 1, 0] rfl)
