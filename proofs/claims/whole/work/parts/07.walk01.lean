set_option maxHeartbeats 4000000 in
set_option maxRecDepth 100000 in
theorem c_X8_booksWith {l : Launch} {G : GG} {d : Nat} (hd : 0 ≤ d) {μ : Mem} {k0 : Nat} (hk0 : isC 8 k0) {a1 : Int32} {r : Int32} (h : f_X8_booksWith μ k0 a1 = some r) : CT l yX8_booksWith cX8_booksWith 4 (some .int) d G [.ref (gad G k0), .int a1] μ (RK (some (.int r)) μ) := by
  refine ct_start (by decide) (Nat.le_of_ble_eq_true rfl) (fun C hl1 hG1 hC hQ hr => ?_)
  subst hl1; subst hG1
  have hC : CxOK C cX8_booksWith 4 RX8 d := hC
  show UW C 4 μ 0 [(0, .ref (gad (cG C) k0)), (1, .int a1)] []
  have lw4 : ∀ (e : (Int32)) (s : Int32 × Int32), lp (fun s => f_X8_booksWith_l4 μ k0 a1 s.1 s.2) FU s = some e → (fun (e : (Int32)) => UW C 4 μ 34 [(2, .int e)] []) e → UW C 4 μ 4 [(0, .ref (gad (cG C) k0)), (1, .int a1), (2, .int s.1), (3, .int s.2)] [] := by
    intro e s hl hE0
    refine @lp_walk (Int32 × Int32) (Int32) (fun s => f_X8_booksWith_l4 μ k0 a1 s.1 s.2) (fun s => UW C 4 μ 4 [(0, .ref (gad (cG C) k0)), (1, .int a1), (2, .int s.1), (3, .int s.2)] []) (fun (e : (Int32)) => UW C 4 μ 34 [(2, .int e)] []) (fun s y4 h hP4 hE4 => ?_) FU s e hl hE0
    obtain ⟨v2_4, v3_4⟩ := s
    replace h : f_X8_booksWith_l4 μ k0 a1 v2_4 v3_4 = some y4 := h
    show UW C 4 μ 4 [(0, .ref (gad (cG C) k0)), (1, .int a1), (2, .int v2_4), (3, .int v3_4)] []
    unfold f_X8_booksWith_l4 at h
    refine u_iload_n (pc := 4) hC dX8_booksWith_4 rfl 3 rfl ?_
    refine u_aload_n (pc := 5) hC dX8_booksWith_5 rfl 0 rfl ?_
    refine g_RX8_26 (pc := 6) hC hk0 dX8_booksWith_6 ?_
    refine u_icmp_ge (pc := 9) hC (tgt := 34) dX8_booksWith_9 (by decide) (fun c9 => ?_) (fun c9 => ?_)
    · replace h := of_t c9 h
      obtain rfl := Option.some.inj h
      refine u_sub [2] rfl ?_
      exact hE4 v2_4 rfl
    · replace h := of_f c9 h
      refine u_iload_n (pc := 12) hC dX8_booksWith_12 rfl 2 rfl ?_
      refine u_aload_n (pc := 13) hC dX8_booksWith_13 rfl 0 rfl ?_
      refine g_RX8_11 (pc := 14) hC hk0 dX8_booksWith_14 ?_
      refine u_iload_n (pc := 17) hC dX8_booksWith_17 rfl 3 rfl ?_
      obtain ⟨b18, h⟩ := of_gd h
      refine u_aaldD (pc := 18) hC (rs_8_0 hk0) b18 (rn_8_0 hk0) dX8_booksWith_18 ?_
      refine g_RX8_49 (pc := 19) hC (rs_15 (rs_8_0 hk0) b18) dX8_booksWith_19 ?_
      refine u_iload_n (pc := 22) hC dX8_booksWith_22 rfl 1 rfl ?_
      refine u_ishr (pc := 23) hC dX8_booksWith_23 ?_
      refine u_iconst (pc := 24) hC ic_1 dX8_booksWith_24 ?_
      refine u_iand (pc := 25) hC dX8_booksWith_25 ?_
      refine u_iadd (pc := 26) hC dX8_booksWith_26 ?_
      refine u_istore_n (pc := 27) hC dX8_booksWith_27 rfl [(2, .int (v2_4 + ((jshr (rd μ (rf (rf k0 0) v3_4.toNatClampNeg) 2) a1) &&& (1 : Int32)))), (0, .ref (gad (cG C) k0)), (1, .int a1), (3, .int v3_4)] (by decide) rfl ?_
      refine u_iinc (pc := 28) hC dX8_booksWith_28 3 rfl (v3_4 + 1) rfl [(3, .int (v3_4 + 1)), (2, .int (v2_4 + ((jshr (rd μ (rf (rf k0 0) v3_4.toNatClampNeg) 2) a1) &&& (1 : Int32)))), (0, .ref (gad (cG C) k0)), (1, .int a1)] (by decide) rfl ?_
      refine u_goto (pc := 31) hC 4 dX8_booksWith_31 (by decide) ?_
      obtain rfl := Option.some.inj h
      refine u_sub [2, 3, 1, 0] rfl ?_
      exact hP4 (v2_4 + ((jshr (rd μ (rf (rf k0 0) v3_4.toNatClampNeg) 2) a1) &&& (1 : Int32)), v3_4 + 1) rfl
  unfold f_X8_booksWith at h
  refine u_iconst (pc := 0) hC ic_0 dX8_booksWith_0 ?_
  refine u_istore_n (pc := 1) hC dX8_booksWith_1 rfl [(2, .int (0 : Int32)), (0, .ref (gad (cG C) k0)), (1, .int a1)] (by decide) rfl ?_
  refine u_iconst (pc := 2) hC ic_0 dX8_booksWith_2 ?_
  refine u_istore_n (pc := 3) hC dX8_booksWith_3 rfl [(3, .int (0 : Int32)), (2, .int (0 : Int32)), (0, .ref (gad (cG C) k0)), (1, .int a1)] (by decide) rfl ?_
  obtain ⟨e4, l4, h⟩ := of_bd h
  refine u_sub [2, 3, 1, 0] rfl ?_
  refine lw4  e4 ((0 : Int32), (0 : Int32)) l4 ?_
  show UW C 4 μ 34 [(2, .int e4)] []
  refine u_iload_n (pc := 34) hC dX8_booksWith_34 rfl 0 rfl ?_
  obtain rfl := Option.some.inj h
  exact u_iret (pc := 35) hC hQ hr ⟨rfl, rfl⟩ dX8_booksWith_35
set_option maxHeartbeats 4000000 in
set_option maxRecDepth 100000 in
theorem c_X8_firstWeekOf {l : Launch} {G : GG} {d : Nat} (hd : 0 ≤ d) {μ : Mem} {k0 : Nat} (hk0 : isC 8 k0) {a1 : Int32} {r : Int32} (h : f_X8_firstWeekOf μ k0 a1 = some r) : CT l yX8_firstWeekOf cX8_firstWeekOf 5 (some .int) d G [.ref (gad G k0), .int a1] μ (RK (some (.int r)) μ) := by
  refine ct_start (by decide) (Nat.le_of_ble_eq_true rfl) (fun C hl1 hG1 hC hQ hr => ?_)
  subst hl1; subst hG1
  have hC : CxOK C cX8_firstWeekOf 5 RX8 d := hC
  show UW C 5 μ 0 [(0, .ref (gad (cG C) k0)), (1, .int a1)] []
  have lw4 : ∀ (e : (Int32)) (s : Int32 × Int32), lp (fun s => f_X8_firstWeekOf_l4 μ k0 a1 s.1 s.2) FU s = some e → (fun (e : (Int32)) => UW C 5 μ 62 [(2, .int e)] []) e → UW C 5 μ 4 [(0, .ref (gad (cG C) k0)), (1, .int a1), (2, .int s.1), (3, .int s.2)] [] := by
    intro e s hl hE0
    refine @lp_walk (Int32 × Int32) (Int32) (fun s => f_X8_firstWeekOf_l4 μ k0 a1 s.1 s.2) (fun s => UW C 5 μ 4 [(0, .ref (gad (cG C) k0)), (1, .int a1), (2, .int s.1), (3, .int s.2)] []) (fun (e : (Int32)) => UW C 5 μ 62 [(2, .int e)] []) (fun s y4 h hP4 hE4 => ?_) FU s e hl hE0
    have jb48 : ∀ (v3_48 : Int32) (k4_48 : Nat) (hk4_48 : isC 0 k4_48), f_X8_firstWeekOf_j48 μ k0 a1 v3_48 k4_48 = some y4 → UW C 5 μ 48 [(0, .ref (gad (cG C) k0)), (1, .int a1), (3, .int v3_48), (4, .ref (gad (cG C) k4_48))] [] := by
      intro v3_48 k4_48 hk4_48 h
      unfold f_X8_firstWeekOf_j48 at h
      refine u_aload (pc := 48) hC dX8_firstWeekOf_48 3 rfl ?_
      refine g_RX8_52 (pc := 50) hC hk4_48 dX8_firstWeekOf_50 ?_
      refine u_iload_n (pc := 53) hC dX8_firstWeekOf_53 rfl 1 rfl ?_
      obtain ⟨b54, h⟩ := of_gd h
      refine u_iald (pc := 54) hC (rs_0_1 hk4_48) 8 (rn_0_1 hk4_48) b54 dX8_firstWeekOf_54 ?_
      refine u_istore_n (pc := 55) hC dX8_firstWeekOf_55 rfl [(2, .int (rd μ (rf k4_48 1) a1.toNatClampNeg)), (0, .ref (gad (cG C) k0)), (1, .int a1), (3, .int v3_48), (4, .ref (gad (cG C) k4_48))] (by decide) rfl ?_
      refine u_iinc (pc := 56) hC dX8_firstWeekOf_56 3 rfl (v3_48 + 1) rfl [(3, .int (v3_48 + 1)), (2, .int (rd μ (rf k4_48 1) a1.toNatClampNeg)), (0, .ref (gad (cG C) k0)), (1, .int a1), (4, .ref (gad (cG C) k4_48))] (by decide) rfl ?_
      refine u_goto (pc := 59) hC 4 dX8_firstWeekOf_59 (by decide) ?_
      obtain rfl := Option.some.inj h
      refine u_sub [2, 3, 1, 0] rfl ?_
      exact hP4 (rd μ (rf k4_48 1) a1.toNatClampNeg, v3_48 + 1) rfl
    obtain ⟨v2_4, v3_4⟩ := s
    replace h : f_X8_firstWeekOf_l4 μ k0 a1 v2_4 v3_4 = some y4 := h
    show UW C 5 μ 4 [(0, .ref (gad (cG C) k0)), (1, .int a1), (2, .int v2_4), (3, .int v3_4)] []
    unfold f_X8_firstWeekOf_l4 at h
    refine u_iload_n (pc := 4) hC dX8_firstWeekOf_4 rfl 3 rfl ?_
    refine u_aload_n (pc := 5) hC dX8_firstWeekOf_5 rfl 0 rfl ?_
    refine g_RX8_26 (pc := 6) hC hk0 dX8_firstWeekOf_6 ?_
    refine u_icmp_ge (pc := 9) hC (tgt := 62) dX8_firstWeekOf_9 (by decide) (fun c9 => ?_) (fun c9 => ?_)
    · replace h := of_t c9 h
      obtain rfl := Option.some.inj h
      refine u_sub [2] rfl ?_
      exact hE4 v2_4 rfl
    · replace h := of_f c9 h
      refine u_aload_n (pc := 12) hC dX8_firstWeekOf_12 rfl 0 rfl ?_
      refine g_RX8_11 (pc := 13) hC hk0 dX8_firstWeekOf_13 ?_
      refine u_iload_n (pc := 16) hC dX8_firstWeekOf_16 rfl 3 rfl ?_
      obtain ⟨b17, h⟩ := of_gd h
      refine u_aaldD (pc := 17) hC (rs_8_0 hk0) b17 (rn_8_0 hk0) dX8_firstWeekOf_17 ?_
      refine u_astore (pc := 18) hC dX8_firstWeekOf_18 [(4, .ref (gad (cG C) (rf (rf k0 0) v3_4.toNatClampNeg))), (0, .ref (gad (cG C) k0)), (1, .int a1), (2, .int v2_4), (3, .int v3_4)] (by decide) rfl ?_
      refine u_aload (pc := 20) hC dX8_firstWeekOf_20 0 rfl ?_
      refine g_RX8_49 (pc := 22) hC (rs_15 (rs_8_0 hk0) b17) dX8_firstWeekOf_22 ?_
      refine u_iload_n (pc := 25) hC dX8_firstWeekOf_25 rfl 2 rfl ?_
      refine u_ishr (pc := 26) hC dX8_firstWeekOf_26 ?_
      refine u_iconst (pc := 27) hC ic_1 dX8_firstWeekOf_27 ?_
      refine u_iand (pc := 28) hC dX8_firstWeekOf_28 ?_
      refine u_iconst (pc := 29) hC ic_1 dX8_firstWeekOf_29 ?_
      refine u_icmp_ne (pc := 30) hC (tgt := 56) dX8_firstWeekOf_30 (by decide) (fun c30 => ?_) (fun c30 => ?_)
      · replace h := of_t c30 h
        refine u_iinc (pc := 56) hC dX8_firstWeekOf_56 4 rfl (v3_4 + 1) rfl [(3, .int (v3_4 + 1)), (4, .ref (gad (cG C) (rf (rf k0 0) v3_4.toNatClampNeg))), (0, .ref (gad (cG C) k0)), (1, .int a1), (2, .int v2_4)] (by decide) rfl ?_
        refine u_goto (pc := 59) hC 4 dX8_firstWeekOf_59 (by decide) ?_
        obtain rfl := Option.some.inj h
        refine u_sub [2, 3, 4, 0] rfl ?_
        exact hP4 (v2_4, v3_4 + 1) rfl
      · replace h := of_f (fun q => q c30) h
        refine u_iload_n (pc := 33) hC dX8_firstWeekOf_33 rfl 3 rfl ?_
        refine u_if_lt (pc := 34) hC (tgt := 48) dX8_firstWeekOf_34 (by decide) (fun c34 => ?_) (fun c34 => ?_)
        · replace h := of_t c34 h
          refine u_sub [1, 2, 4, 0] rfl ?_
          exact jb48 v3_4 (rf (rf k0 0) v3_4.toNatClampNeg) (rs_15 (rs_8_0 hk0) b17) h
        · replace h := of_f c34 h
          refine u_aload (pc := 37) hC dX8_firstWeekOf_37 0 rfl ?_
          refine g_RX8_52 (pc := 39) hC (rs_15 (rs_8_0 hk0) b17) dX8_firstWeekOf_39 ?_
          refine u_iload_n (pc := 42) hC dX8_firstWeekOf_42 rfl 2 rfl ?_
          obtain ⟨b43, h⟩ := of_gd h
          refine u_iald (pc := 43) hC (rs_0_1 (rs_15 (rs_8_0 hk0) b17)) 8 (rn_0_1 (rs_15 (rs_8_0 hk0) b17)) b43 dX8_firstWeekOf_43 ?_
          refine u_iload_n (pc := 44) hC dX8_firstWeekOf_44 rfl 3 rfl ?_
          refine u_icmp_ge (pc := 45) hC (tgt := 56) dX8_firstWeekOf_45 (by decide) (fun c45 => ?_) (fun c45 => ?_)
          · replace h := of_t c45 h
            refine u_iinc (pc := 56) hC dX8_firstWeekOf_56 4 rfl (v3_4 + 1) rfl [(3, .int (v3_4 + 1)), (4, .ref (gad (cG C) (rf (rf k0 0) v3_4.toNatClampNeg))), (0, .ref (gad (cG C) k0)), (1, .int a1), (2, .int v2_4)] (by decide) rfl ?_
            refine u_goto (pc := 59) hC 4 dX8_firstWeekOf_59 (by decide) ?_
            obtain rfl := Option.some.inj h
            refine u_sub [2, 3, 4, 0] rfl ?_
            exact hP4 (v2_4, v3_4 + 1) rfl
          · replace h := of_f c45 h
            refine u_sub [1, 2, 4, 0] rfl ?_
            exact jb48 v3_4 (rf (rf k0 0) v3_4.toNatClampNeg) (rs_15 (rs_8_0 hk0) b17) h
  unfold f_X8_firstWeekOf at h
  refine u_iconst (pc := 0) hC ic_m1 dX8_firstWeekOf_0 ?_
  refine u_istore_n (pc := 1) hC dX8_firstWeekOf_1 rfl [(2, .int (-1 : Int32)), (0, .ref (gad (cG C) k0)), (1, .int a1)] (by decide) rfl ?_
  refine u_iconst (pc := 2) hC ic_0 dX8_firstWeekOf_2 ?_
  refine u_istore_n (pc := 3) hC dX8_firstWeekOf_3 rfl [(3, .int (0 : Int32)), (2, .int (-1 : Int32)), (0, .ref (gad (cG C) k0)), (1, .int a1)] (by decide) rfl ?_
  obtain ⟨e4, l4, h⟩ := of_bd h
  refine u_sub [2, 3, 1, 0] rfl ?_
  refine lw4  e4 ((-1 : Int32), (0 : Int32)) l4 ?_
  show UW C 5 μ 62 [(2, .int e4)] []
  refine u_iload_n (pc := 62) hC dX8_firstWeekOf_62 rfl 0 rfl ?_
  obtain rfl := Option.some.inj h
  exact u_iret (pc := 63) hC hQ hr ⟨rfl, rfl⟩ dX8_firstWeekOf_63
set_option maxHeartbeats 4000000 in
set_option maxRecDepth 100000 in
theorem c_X8_othersOf {l : Launch} {G : GG} {d : Nat} (hd : 0 ≤ d) {μ : Mem} {k0 : Nat} (hk0 : isC 8 k0) {a1 : Int32} {r : Int32} (h : f_X8_othersOf μ k0 a1 = some r) : CT l yX8_othersOf cX8_othersOf 4 (some .int) d G [.ref (gad G k0), .int a1] μ (RK (some (.int r)) μ) := by
  refine ct_start (by decide) (Nat.le_of_ble_eq_true rfl) (fun C hl1 hG1 hC hQ hr => ?_)
  subst hl1; subst hG1
  have hC : CxOK C cX8_othersOf 4 RX8 d := hC
  show UW C 4 μ 0 [(0, .ref (gad (cG C) k0)), (1, .int a1)] []
  have lw4 : ∀ (e : (Int32)) (s : Int32 × Int32), lp (fun s => f_X8_othersOf_l4 μ k0 a1 s.1 s.2) FU s = some e → (fun (e : (Int32)) => UW C 4 μ 35 [(2, .int e)] []) e → UW C 4 μ 4 [(0, .ref (gad (cG C) k0)), (1, .int a1), (2, .int s.1), (3, .int s.2)] [] := by
    intro e s hl hE0
    refine @lp_walk (Int32 × Int32) (Int32) (fun s => f_X8_othersOf_l4 μ k0 a1 s.1 s.2) (fun s => UW C 4 μ 4 [(0, .ref (gad (cG C) k0)), (1, .int a1), (2, .int s.1), (3, .int s.2)] []) (fun (e : (Int32)) => UW C 4 μ 35 [(2, .int e)] []) (fun s y4 h hP4 hE4 => ?_) FU s e hl hE0
    obtain ⟨v2_4, v3_4⟩ := s
    replace h : f_X8_othersOf_l4 μ k0 a1 v2_4 v3_4 = some y4 := h
    show UW C 4 μ 4 [(0, .ref (gad (cG C) k0)), (1, .int a1), (2, .int v2_4), (3, .int v3_4)] []
    unfold f_X8_othersOf_l4 at h
    refine u_iload_n (pc := 4) hC dX8_othersOf_4 rfl 3 rfl ?_
    refine u_aload_n (pc := 5) hC dX8_othersOf_5 rfl 0 rfl ?_
    refine g_RX8_26 (pc := 6) hC hk0 dX8_othersOf_6 ?_
    refine u_icmp_ge (pc := 9) hC (tgt := 35) dX8_othersOf_9 (by decide) (fun c9 => ?_) (fun c9 => ?_)
    · replace h := of_t c9 h
      obtain rfl := Option.some.inj h
      refine u_sub [2] rfl ?_
      exact hE4 v2_4 rfl
    · replace h := of_f c9 h
      refine u_iload_n (pc := 12) hC dX8_othersOf_12 rfl 3 rfl ?_
      refine u_iload_n (pc := 13) hC dX8_othersOf_13 rfl 1 rfl ?_
      refine u_icmp_eq (pc := 14) hC (tgt := 29) dX8_othersOf_14 (by decide) (fun c14 => ?_) (fun c14 => ?_)
      · replace h := of_t c14 h
        refine u_iinc (pc := 29) hC dX8_othersOf_29 3 rfl (v3_4 + 1) rfl [(3, .int (v3_4 + 1)), (0, .ref (gad (cG C) k0)), (1, .int a1), (2, .int v2_4)] (by decide) rfl ?_
        refine u_goto (pc := 32) hC 4 dX8_othersOf_32 (by decide) ?_
        obtain rfl := Option.some.inj h
        refine u_sub [1, 2, 3, 0] rfl ?_
        exact hP4 (v2_4, v3_4 + 1) rfl
      · replace h := of_f c14 h
        refine u_iload_n (pc := 17) hC dX8_othersOf_17 rfl 2 rfl ?_
        refine u_aload_n (pc := 18) hC dX8_othersOf_18 rfl 0 rfl ?_
        refine g_RX8_11 (pc := 19) hC hk0 dX8_othersOf_19 ?_
        refine u_iload_n (pc := 22) hC dX8_othersOf_22 rfl 3 rfl ?_
        obtain ⟨b23, h⟩ := of_gd h
        refine u_aaldD (pc := 23) hC (rs_8_0 hk0) b23 (rn_8_0 hk0) dX8_othersOf_23 ?_
        refine g_RX8_49 (pc := 24) hC (rs_15 (rs_8_0 hk0) b23) dX8_othersOf_24 ?_
        refine u_ior (pc := 27) hC dX8_othersOf_27 ?_
        refine u_istore_n (pc := 28) hC dX8_othersOf_28 rfl [(2, .int (v2_4 ||| (rd μ (rf (rf k0 0) v3_4.toNatClampNeg) 2))), (0, .ref (gad (cG C) k0)), (1, .int a1), (3, .int v3_4)] (by decide) rfl ?_
        refine u_iinc (pc := 29) hC dX8_othersOf_29 3 rfl (v3_4 + 1) rfl [(3, .int (v3_4 + 1)), (2, .int (v2_4 ||| (rd μ (rf (rf k0 0) v3_4.toNatClampNeg) 2))), (0, .ref (gad (cG C) k0)), (1, .int a1)] (by decide) rfl ?_
        refine u_goto (pc := 32) hC 4 dX8_othersOf_32 (by decide) ?_
        obtain rfl := Option.some.inj h
        refine u_sub [2, 3, 1, 0] rfl ?_
        exact hP4 (v2_4 ||| (rd μ (rf (rf k0 0) v3_4.toNatClampNeg) 2), v3_4 + 1) rfl
  unfold f_X8_othersOf at h
  refine u_iconst (pc := 0) hC ic_0 dX8_othersOf_0 ?_
  refine u_istore_n (pc := 1) hC dX8_othersOf_1 rfl [(2, .int (0 : Int32)), (0, .ref (gad (cG C) k0)), (1, .int a1)] (by decide) rfl ?_
  refine u_iconst (pc := 2) hC ic_0 dX8_othersOf_2 ?_
  refine u_istore_n (pc := 3) hC dX8_othersOf_3 rfl [(3, .int (0 : Int32)), (2, .int (0 : Int32)), (0, .ref (gad (cG C) k0)), (1, .int a1)] (by decide) rfl ?_
  obtain ⟨e4, l4, h⟩ := of_bd h
  refine u_sub [2, 3, 1, 0] rfl ?_
  refine lw4  e4 ((0 : Int32), (0 : Int32)) l4 ?_
  show UW C 4 μ 35 [(2, .int e4)] []
  refine u_iload_n (pc := 35) hC dX8_othersOf_35 rfl 0 rfl ?_
  obtain rfl := Option.some.inj h
  exact u_iret (pc := 36) hC hQ hr ⟨rfl, rfl⟩ dX8_othersOf_36
set_option maxHeartbeats 4000000 in
set_option maxRecDepth 100000 in
theorem c_X8_debts {l : Launch} {G : GG} {d : Nat} (hd : 0 ≤ d) {μ : Mem} {k0 : Nat} (hk0 : isC 8 k0) {r : Int32} (h : f_X8_debts μ k0 = some r) : CT l yX8_debts cX8_debts 3 (some .int) d G [.ref (gad G k0)] μ (RK (some (.int r)) μ) := by
  refine ct_start (by decide) (Nat.le_of_ble_eq_true rfl) (fun C hl1 hG1 hC hQ hr => ?_)
  subst hl1; subst hG1
  have hC : CxOK C cX8_debts 3 RX8 d := hC
  show UW C 3 μ 0 [(0, .ref (gad (cG C) k0))] []
  have lw4 : ∀ (e : (Int32)) (s : Int32 × Int32), lp (fun s => f_X8_debts_l4 μ k0 s.1 s.2) FU s = some e → (fun (e : (Int32)) => UW C 3 μ 30 [(1, .int e)] []) e → UW C 3 μ 4 [(0, .ref (gad (cG C) k0)), (1, .int s.1), (2, .int s.2)] [] := by
    intro e s hl hE0
    refine @lp_walk (Int32 × Int32) (Int32) (fun s => f_X8_debts_l4 μ k0 s.1 s.2) (fun s => UW C 3 μ 4 [(0, .ref (gad (cG C) k0)), (1, .int s.1), (2, .int s.2)] []) (fun (e : (Int32)) => UW C 3 μ 30 [(1, .int e)] []) (fun s y4 h hP4 hE4 => ?_) FU s e hl hE0
    obtain ⟨v1_4, v2_4⟩ := s
    replace h : f_X8_debts_l4 μ k0 v1_4 v2_4 = some y4 := h
    show UW C 3 μ 4 [(0, .ref (gad (cG C) k0)), (1, .int v1_4), (2, .int v2_4)] []
    unfold f_X8_debts_l4 at h
    refine u_iload_n (pc := 4) hC dX8_debts_4 rfl 2 rfl ?_
    refine u_aload_n (pc := 5) hC dX8_debts_5 rfl 0 rfl ?_
    refine g_RX8_26 (pc := 6) hC hk0 dX8_debts_6 ?_
    refine u_icmp_ge (pc := 9) hC (tgt := 30) dX8_debts_9 (by decide) (fun c9 => ?_) (fun c9 => ?_)
    · replace h := of_t c9 h
      obtain rfl := Option.some.inj h
      refine u_sub [1] rfl ?_
      exact hE4 v1_4 rfl
    · replace h := of_f c9 h
      refine u_iload_n (pc := 12) hC dX8_debts_12 rfl 1 rfl ?_
      refine u_aload_n (pc := 13) hC dX8_debts_13 rfl 0 rfl ?_
      refine g_RX8_11 (pc := 14) hC hk0 dX8_debts_14 ?_
      refine u_iload_n (pc := 17) hC dX8_debts_17 rfl 2 rfl ?_
      obtain ⟨b18, h⟩ := of_gd h
      refine u_aaldD (pc := 18) hC (rs_8_0 hk0) b18 (rn_8_0 hk0) dX8_debts_18 ?_
      refine g_RX8_39 (pc := 19) hC (rs_15 (rs_8_0 hk0) b18) dX8_debts_19 ?_
      refine u_iadd (pc := 22) hC dX8_debts_22 ?_
      refine u_istore_n (pc := 23) hC dX8_debts_23 rfl [(1, .int (v1_4 + (rd μ (rf (rf k0 0) v2_4.toNatClampNeg) 6))), (0, .ref (gad (cG C) k0)), (2, .int v2_4)] (by decide) rfl ?_
      refine u_iinc (pc := 24) hC dX8_debts_24 2 rfl (v2_4 + 1) rfl [(2, .int (v2_4 + 1)), (1, .int (v1_4 + (rd μ (rf (rf k0 0) v2_4.toNatClampNeg) 6))), (0, .ref (gad (cG C) k0))] (by decide) rfl ?_
      refine u_goto (pc := 27) hC 4 dX8_debts_27 (by decide) ?_
      obtain rfl := Option.some.inj h
      refine u_sub [2, 1, 0] rfl ?_
      exact hP4 (v1_4 + (rd μ (rf (rf k0 0) v2_4.toNatClampNeg) 6), v2_4 + 1) rfl
  unfold f_X8_debts at h
  refine u_iconst (pc := 0) hC ic_0 dX8_debts_0 ?_
  refine u_istore_n (pc := 1) hC dX8_debts_1 rfl [(1, .int (0 : Int32)), (0, .ref (gad (cG C) k0))] (by decide) rfl ?_
  refine u_iconst (pc := 2) hC ic_0 dX8_debts_2 ?_
  refine u_istore_n (pc := 3) hC dX8_debts_3 rfl [(2, .int (0 : Int32)), (1, .int (0 : Int32)), (0, .ref (gad (cG C) k0))] (by decide) rfl ?_
  obtain ⟨e4, l4, h⟩ := of_bd h
  refine u_sub [2, 1, 0] rfl ?_
  refine lw4  e4 ((0 : Int32), (0 : Int32)) l4 ?_
  show UW C 3 μ 30 [(1, .int e4)] []
  refine u_iload_n (pc := 30) hC dX8_debts_30 rfl 0 rfl ?_
  obtain rfl := Option.some.inj h
  exact u_iret (pc := 31) hC hQ hr ⟨rfl, rfl⟩ dX8_debts_31
set_option maxHeartbeats 4000000 in
set_option maxRecDepth 100000 in
theorem c_X8_broken {l : Launch} {G : GG} {d : Nat} (hd : 0 ≤ d) {μ : Mem} {k0 : Nat} (hk0 : isC 8 k0) {r : Int32} (h : f_X8_broken μ k0 = some r) : CT l yX8_broken cX8_broken 3 (some .int) d G [.ref (gad G k0)] μ (RK (some (.int r)) μ) := by
  refine ct_start (by decide) (Nat.le_of_ble_eq_true rfl) (fun C hl1 hG1 hC hQ hr => ?_)
  subst hl1; subst hG1
  have hC : CxOK C cX8_broken 3 RX8 d := hC
  show UW C 3 μ 0 [(0, .ref (gad (cG C) k0))] []
  have lw4 : ∀ (e : (Int32)) (s : Int32 × Int32), lp (fun s => f_X8_broken_l4 μ k0 s.1 s.2) FU s = some e → (fun (e : (Int32)) => UW C 3 μ 38 [(1, .int e)] []) e → UW C 3 μ 4 [(0, .ref (gad (cG C) k0)), (1, .int s.1), (2, .int s.2)] [] := by
    intro e s hl hE0
    refine @lp_walk (Int32 × Int32) (Int32) (fun s => f_X8_broken_l4 μ k0 s.1 s.2) (fun s => UW C 3 μ 4 [(0, .ref (gad (cG C) k0)), (1, .int s.1), (2, .int s.2)] []) (fun (e : (Int32)) => UW C 3 μ 38 [(1, .int e)] []) (fun s y4 h hP4 hE4 => ?_) FU s e hl hE0
    obtain ⟨v1_4, v2_4⟩ := s
    replace h : f_X8_broken_l4 μ k0 v1_4 v2_4 = some y4 := h
    show UW C 3 μ 4 [(0, .ref (gad (cG C) k0)), (1, .int v1_4), (2, .int v2_4)] []
    unfold f_X8_broken_l4 at h
    refine u_iload_n (pc := 4) hC dX8_broken_4 rfl 2 rfl ?_
    refine u_aload_n (pc := 5) hC dX8_broken_5 rfl 0 rfl ?_
    refine g_RX8_26 (pc := 6) hC hk0 dX8_broken_6 ?_
    refine u_icmp_ge (pc := 9) hC (tgt := 38) dX8_broken_9 (by decide) (fun c9 => ?_) (fun c9 => ?_)
    · replace h := of_t c9 h
      obtain rfl := Option.some.inj h
      refine u_sub [1] rfl ?_
      exact hE4 v1_4 rfl
    · replace h := of_f c9 h
      refine u_iload_n (pc := 12) hC dX8_broken_12 rfl 1 rfl ?_
      refine u_aload_n (pc := 13) hC dX8_broken_13 rfl 0 rfl ?_
      refine g_RX8_11 (pc := 14) hC hk0 dX8_broken_14 ?_
      refine u_iload_n (pc := 17) hC dX8_broken_17 rfl 2 rfl ?_
      obtain ⟨b18, h⟩ := of_gd h
      refine u_aaldD (pc := 18) hC (rs_8_0 hk0) b18 (rn_8_0 hk0) dX8_broken_18 ?_
      refine g_RX8_56 (pc := 19) hC (rs_15 (rs_8_0 hk0) b18) dX8_broken_19 ?_
      refine u_if_eq (pc := 22) hC (tgt := 29) dX8_broken_22 (by decide) (fun c22 => ?_) (fun c22 => ?_)
      · replace h := of_t c22 h
        refine u_iconst (pc := 29) hC ic_0 dX8_broken_29 ?_
        refine u_iadd (pc := 30) hC dX8_broken_30 ?_
        refine u_istore_n (pc := 31) hC dX8_broken_31 rfl [(1, .int (v1_4 + (0 : Int32))), (0, .ref (gad (cG C) k0)), (2, .int v2_4)] (by decide) rfl ?_
        refine u_iinc (pc := 32) hC dX8_broken_32 2 rfl (v2_4 + 1) rfl [(2, .int (v2_4 + 1)), (1, .int (v1_4 + (0 : Int32))), (0, .ref (gad (cG C) k0))] (by decide) rfl ?_
        refine u_goto (pc := 35) hC 4 dX8_broken_35 (by decide) ?_
        obtain rfl := Option.some.inj h
        refine u_sub [2, 1, 0] rfl ?_
        exact hP4 (v1_4 + (0 : Int32), v2_4 + 1) rfl
      · replace h := of_f c22 h
        refine u_iconst (pc := 25) hC ic_1 dX8_broken_25 ?_
        refine u_goto (pc := 26) hC 30 dX8_broken_26 (by decide) ?_
        refine u_iadd (pc := 30) hC dX8_broken_30 ?_
        refine u_istore_n (pc := 31) hC dX8_broken_31 rfl [(1, .int (v1_4 + (1 : Int32))), (0, .ref (gad (cG C) k0)), (2, .int v2_4)] (by decide) rfl ?_
        refine u_iinc (pc := 32) hC dX8_broken_32 2 rfl (v2_4 + 1) rfl [(2, .int (v2_4 + 1)), (1, .int (v1_4 + (1 : Int32))), (0, .ref (gad (cG C) k0))] (by decide) rfl ?_
        refine u_goto (pc := 35) hC 4 dX8_broken_35 (by decide) ?_
        obtain rfl := Option.some.inj h
        refine u_sub [2, 1, 0] rfl ?_
        exact hP4 (v1_4 + (1 : Int32), v2_4 + 1) rfl
  unfold f_X8_broken at h
  refine u_iconst (pc := 0) hC ic_0 dX8_broken_0 ?_
  refine u_istore_n (pc := 1) hC dX8_broken_1 rfl [(1, .int (0 : Int32)), (0, .ref (gad (cG C) k0))] (by decide) rfl ?_
  refine u_iconst (pc := 2) hC ic_0 dX8_broken_2 ?_
  refine u_istore_n (pc := 3) hC dX8_broken_3 rfl [(2, .int (0 : Int32)), (1, .int (0 : Int32)), (0, .ref (gad (cG C) k0))] (by decide) rfl ?_
  obtain ⟨e4, l4, h⟩ := of_bd h
  refine u_sub [2, 1, 0] rfl ?_
  refine lw4  e4 ((0 : Int32), (0 : Int32)) l4 ?_
  show UW C 3 μ 38 [(1, .int e4)] []
  refine u_iload_n (pc := 38) hC dX8_broken_38 rfl 0 rfl ?_
  obtain rfl := Option.some.inj h
  exact u_iret (pc := 39) hC hQ hr ⟨rfl, rfl⟩ dX8_broken_39
set_option maxHeartbeats 4000000 in
set_option maxRecDepth 100000 in
theorem c_X8_openOf {l : Launch} {G : GG} {d : Nat} (hd : 2 ≤ d) {μ : Mem} {k0 : Nat} (hk0 : isC 8 k0) {a1 : Int32} {r : Int32} (h : f_X8_openOf μ k0 a1 = some r) : CT l yX8_openOf cX8_openOf 2 (some .int) d G [.ref (gad G k0), .int a1] μ (RK (some (.int r)) μ) := by
  refine ct_start (by decide) (Nat.le_of_ble_eq_true rfl) (fun C hl1 hG1 hC hQ hr => ?_)
  subst hl1; subst hG1
  have hC : CxOK C cX8_openOf 2 RX8 d := hC
  show UW C 2 μ 0 [(0, .ref (gad (cG C) k0)), (1, .int a1)] []
  unfold f_X8_openOf at h
  refine u_aload_n (pc := 0) hC dX8_openOf_0 rfl 0 rfl ?_
  refine g_RX8_17 (pc := 1) hC hk0 dX8_openOf_1 ?_
  refine u_aload_n (pc := 4) hC dX8_openOf_4 rfl 0 rfl ?_
  refine g_RX8_11 (pc := 5) hC hk0 dX8_openOf_5 ?_
  refine u_iload_n (pc := 8) hC dX8_openOf_8 rfl 1 rfl ?_
  obtain ⟨b9, h⟩ := of_gd h
  refine u_aaldD (pc := 9) hC (rs_8_0 hk0) b9 (rn_8_0 hk0) dX8_openOf_9 ?_
  refine g_RX8_49 (pc := 10) hC (rs_15 (rs_8_0 hk0) b9) dX8_openOf_10 ?_
  obtain ⟨r13, q13, h⟩ := of_bd h
  refine k_RX8_60 (pc := 13) hC (av := [.int (rd μ (rf (rf k0 0) a1.toNatClampNeg) 2)]) (rest := []) (c_X1_openIn (d := d - 1) (by omega) (rs_8_1 hk0) q13) (by omega) (Nat.le_of_ble_eq_true rfl) (rs_8_1 hk0) rfl rfl dX8_openOf_13 ?_
  obtain ⟨r16, q16, h⟩ := of_bd h
  refine k_RX8_66 (pc := 16) hC (av := [.int r13]) (rest := []) (c_J6_bitCount_0f7a4 (d := d - 1) (by omega)  q16) (by omega) (Nat.le_of_ble_eq_true rfl) rfl rfl dX8_openOf_16 ?_
  obtain rfl := Option.some.inj h
  exact u_iret (pc := 19) hC hQ hr ⟨rfl, rfl⟩ dX8_openOf_19
set_option maxHeartbeats 4000000 in
set_option maxRecDepth 100000 in
theorem c_X8_mayTell {l : Launch} {G : GG} {d : Nat} (hd : 2 ≤ d) {μ : Mem} {k0 : Nat} (hk0 : isC 8 k0) {a1 : Int32} {r : Int32} (h : f_X8_mayTell μ k0 a1 = some r) : CT l yX8_mayTell cX8_mayTell 3 (some .int) d G [.ref (gad G k0), .int a1] μ (RK (some (.int r)) μ) := by
  refine ct_start (by decide) (Nat.le_of_ble_eq_true rfl) (fun C hl1 hG1 hC hQ hr => ?_)
  subst hl1; subst hG1
  have hC : CxOK C cX8_mayTell 3 RX8 d := hC
  show UW C 3 μ 0 [(0, .ref (gad (cG C) k0)), (1, .int a1)] []
  unfold f_X8_mayTell at h
  refine u_aload_n (pc := 0) hC dX8_mayTell_0 rfl 0 rfl ?_
  refine g_RX8_11 (pc := 1) hC hk0 dX8_mayTell_1 ?_
  refine u_iload_n (pc := 4) hC dX8_mayTell_4 rfl 1 rfl ?_
  obtain ⟨b5, h⟩ := of_gd h
  refine u_aaldD (pc := 5) hC (rs_8_0 hk0) b5 (rn_8_0 hk0) dX8_mayTell_5 ?_
  refine u_astore_n (pc := 6) hC dX8_mayTell_6 rfl [(2, .ref (gad (cG C) (rf (rf k0 0) a1.toNatClampNeg))), (0, .ref (gad (cG C) k0)), (1, .int a1)] (by decide) rfl ?_
  refine u_aload_n (pc := 7) hC dX8_mayTell_7 rfl 1 rfl ?_
  refine g_RX8_17 (pc := 8) hC hk0 dX8_mayTell_8 ?_
  refine u_aload_n (pc := 11) hC dX8_mayTell_11 rfl 0 rfl ?_
  refine g_RX8_33 (pc := 12) hC (rs_15 (rs_8_0 hk0) b5) dX8_mayTell_12 ?_
  refine u_aload_n (pc := 15) hC dX8_mayTell_15 rfl 0 rfl ?_
  refine g_RX8_36 (pc := 16) hC (rs_15 (rs_8_0 hk0) b5) dX8_mayTell_16 ?_
  refine u_aload_n (pc := 19) hC dX8_mayTell_19 rfl 0 rfl ?_
  refine g_RX8_49 (pc := 20) hC (rs_15 (rs_8_0 hk0) b5) dX8_mayTell_20 ?_
  refine u_aload_n (pc := 23) hC dX8_mayTell_23 rfl 1 rfl ?_
  refine u_iload_n (pc := 24) hC dX8_mayTell_24 rfl 2 rfl ?_
  obtain ⟨r25, q25, h⟩ := of_bd h
  refine k_RX8_71 (pc := 25) hC (av := [.int a1]) (rest := [.int (rd μ (rf (rf k0 0) a1.toNatClampNeg) 2), .int (rd μ (rf (rf k0 0) a1.toNatClampNeg) 5), .int (rd μ (rf (rf k0 0) a1.toNatClampNeg) 4), .ref (gad (cG C) (rf k0 1))]) (c_X8_othersOf (d := d - 1) (by omega) hk0 q25) (by omega) (Nat.le_of_ble_eq_true rfl) hk0 rfl rfl dX8_mayTell_25 ?_
  obtain ⟨r28, q28, h⟩ := of_bd h
  refine k_RX8_74 (pc := 28) hC (av := [.int (rd μ (rf (rf k0 0) a1.toNatClampNeg) 4), .int (rd μ (rf (rf k0 0) a1.toNatClampNeg) 5), .int (rd μ (rf (rf k0 0) a1.toNatClampNeg) 2), .int r25]) (rest := []) (c_X1_mayTell (d := d - 1) (by omega) (rs_8_1 hk0) q28) (by omega) (Nat.le_of_ble_eq_true rfl) (rs_8_1 hk0) rfl rfl dX8_mayTell_28 ?_
  obtain rfl := Option.some.inj h
  exact u_iret (pc := 31) hC hQ hr ⟨rfl, rfl⟩ dX8_mayTell_31
set_option maxHeartbeats 4000000 in
set_option maxRecDepth 100000 in
theorem c_X8_write {l : Launch} {G : GG} {d : Nat} (hd : 2 ≤ d) {μ : Mem} {k0 : Nat} (hk0 : isC 8 k0) {a1 : Int32} {a2 : Int32} {r : Mem} (h : f_X8_write μ k0 a1 a2 = some r) : CT l yX8_write cX8_write 5 none d G [.ref (gad G k0), .int a1, .int a2] μ (RK none r) := by
  refine ct_start (by decide) (Nat.le_of_ble_eq_true rfl) (fun C hl1 hG1 hC hQ hr => ?_)
  subst hl1; subst hG1
  have hC : CxOK C cX8_write 5 RX8 d := hC
  show UW C 5 μ 0 [(0, .ref (gad (cG C) k0)), (1, .int a1), (2, .int a2)] []
  have jb64 : ∀ (μ_64 : Mem) (k3_64 : Nat) (hk3_64 : isC 0 k3_64) (v4_64 : Int32), f_X8_write_j64 μ_64 k0 a1 a2 k3_64 v4_64 = some r → UW C 5 μ_64 64 [(0, .ref (gad (cG C) k0)), (2, .int a2), (3, .ref (gad (cG C) k3_64)), (4, .int v4_64)] [] := by
    intro μ_64 k3_64 hk3_64 v4_64 h
    unfold f_X8_write_j64 at h
    refine u_aload_n (pc := 64) hC dX8_write_64 rfl 2 rfl ?_
    refine u_iconst (pc := 65) hC ic_0 dX8_write_65 ?_
    refine u_aload_n (pc := 66) hC dX8_write_66 rfl 2 rfl ?_
    refine g_RX8_39 (pc := 67) hC hk3_64 dX8_write_67 ?_
    refine u_iload (pc := 70) hC dX8_write_70 3 rfl ?_
    refine u_isub (pc := 72) hC dX8_write_72 ?_
    refine u_mmax (pc := 73) hC mL_RX8_84 mK_max mI_RJ9 mB_max (Nat.le_of_ble_eq_true rfl) dX8_write_73 ?_
    obtain ⟨m76, q76, h⟩ := of_bd h
    refine p_RX8_39 (pc := 76) hC hk3_64 dX8_write_76 (Option.some.inj q76) ?_
    refine u_aload_n (pc := 79) hC dX8_write_79 rfl 2 rfl ?_
    refine u_iload_n (pc := 80) hC dX8_write_80 rfl 1 rfl ?_
    refine u_aload_n (pc := 81) hC dX8_write_81 rfl 0 rfl ?_
    refine g_RX8_46 (pc := 82) hC hk0 dX8_write_82 ?_
    obtain ⟨μ85, q85, h⟩ := of_bd h
    refine k_RX8_90 (pc := 85) hC (av := [.int a2, .int (rd m76 k0 4)]) (rest := []) (c_X0_keep (d := d - 1) (by omega) hk3_64 q85) (by omega) (Nat.le_of_ble_eq_true rfl) hk3_64 rfl rfl dX8_write_85 ?_
    obtain rfl := Option.some.inj h
    exact u_vret (pc := 88) hC hQ hr ⟨rfl, rfl⟩ dX8_write_88
  have jb41 : ∀ (μ_41 : Mem) (k3_41 : Nat) (hk3_41 : isC 0 k3_41) (v4_41 : Int32), f_X8_write_j41 μ_41 k0 a1 a2 k3_41 v4_41 = some r → UW C 5 μ_41 41 [(0, .ref (gad (cG C) k0)), (2, .int a2), (3, .ref (gad (cG C) k3_41)), (4, .int v4_41)] [] := by
    intro μ_41 k3_41 hk3_41 v4_41 h
    unfold f_X8_write_j41 at h
    refine u_iload (pc := 41) hC dX8_write_41 3 rfl ?_
    refine u_iconst (pc := 43) hC ic_2 dX8_write_43 ?_
    refine u_idiv (pc := 44) hC (by decide) dX8_write_44 ?_
    refine u_istore (pc := 45) hC dX8_write_45 [(4, .int (v4_41 / (2 : Int32))), (0, .ref (gad (cG C) k0)), (2, .int a2), (3, .ref (gad (cG C) k3_41))] (by decide) rfl ?_
    refine u_goto (pc := 47) hC 64 dX8_write_47 (by decide) ?_
    refine u_sub [1, 2, 3, 0] rfl ?_
    exact jb64 μ_41 k3_41 hk3_41 (v4_41 / (2 : Int32)) h
  unfold f_X8_write at h
  refine u_aload_n (pc := 0) hC dX8_write_0 rfl 0 rfl ?_
  refine g_RX8_11 (pc := 1) hC hk0 dX8_write_1 ?_
  refine u_iload_n (pc := 4) hC dX8_write_4 rfl 1 rfl ?_
  obtain ⟨b5, h⟩ := of_gd h
  refine u_aaldD (pc := 5) hC (rs_8_0 hk0) b5 (rn_8_0 hk0) dX8_write_5 ?_
  refine u_astore_n (pc := 6) hC dX8_write_6 rfl [(3, .ref (gad (cG C) (rf (rf k0 0) a1.toNatClampNeg))), (0, .ref (gad (cG C) k0)), (1, .int a1), (2, .int a2)] (by decide) rfl ?_
  refine u_aload_n (pc := 7) hC dX8_write_7 rfl 1 rfl ?_
  refine g_RX8_21 (pc := 8) hC hk0 dX8_write_8 ?_
  refine u_iload_n (pc := 11) hC dX8_write_11 rfl 3 rfl ?_
  refine u_aload_n (pc := 12) hC dX8_write_12 rfl 1 rfl ?_
  refine g_RX8_46 (pc := 13) hC hk0 dX8_write_13 ?_
  refine u_aload_n (pc := 16) hC dX8_write_16 rfl 0 rfl ?_
  refine g_RX8_39 (pc := 17) hC (rs_15 (rs_8_0 hk0) b5) dX8_write_17 ?_
  obtain ⟨p20, q20, h⟩ := of_bd h
  refine k_RX8_78 (pc := 20) hC (av := [.int a2, .int (rd μ k0 4), .int (rd μ (rf (rf k0 0) a1.toNatClampNeg) 6)]) (rest := []) (c_X2_gives (d := d - 1) (by omega) (rs_8_2 hk0) q20) (by omega) (Nat.le_of_ble_eq_true rfl) (rs_8_2 hk0) rfl rfl dX8_write_20 ?_
  refine u_istore (pc := 23) hC dX8_write_23 [(4, .int p20.1), (3, .ref (gad (cG C) (rf (rf k0 0) a1.toNatClampNeg))), (0, .ref (gad (cG C) k0)), (1, .int a1), (2, .int a2)] (by decide) rfl ?_
  refine u_aload_n (pc := 25) hC dX8_write_25 rfl 1 rfl ?_
  refine g_RX8_33 (pc := 26) hC (rs_15 (rs_8_0 hk0) b5) dX8_write_26 ?_
  refine u_iconst (pc := 29) hC ic_1 dX8_write_29 ?_
  refine u_icmp_eq (pc := 30) hC (tgt := 41) dX8_write_30 (by decide) (fun c30 => ?_) (fun c30 => ?_)
  · replace h := of_t c30 h
    refine u_sub [2, 4, 1, 0] rfl ?_
    exact jb41 p20.2 (rf (rf k0 0) a1.toNatClampNeg) (rs_15 (rs_8_0 hk0) b5) p20.1 h
  · replace h := of_f c30 h
    refine u_aload_n (pc := 33) hC dX8_write_33 rfl 1 rfl ?_
    refine g_RX8_33 (pc := 34) hC (rs_15 (rs_8_0 hk0) b5) dX8_write_34 ?_
    refine u_iconst (pc := 37) hC ic_4 dX8_write_37 ?_
    refine u_icmp_ne (pc := 38) hC (tgt := 50) dX8_write_38 (by decide) (fun c38 => ?_) (fun c38 => ?_)
    · replace h := of_t c38 h
      refine u_aload_n (pc := 50) hC dX8_write_50 rfl 1 rfl ?_
      refine g_RX8_33 (pc := 51) hC (rs_15 (rs_8_0 hk0) b5) dX8_write_51 ?_
      refine u_iconst (pc := 54) hC ic_5 dX8_write_54 ?_
      refine u_icmp_ne (pc := 55) hC (tgt := 64) dX8_write_55 (by decide) (fun c55 => ?_) (fun c55 => ?_)
      · replace h := of_t c55 h
        refine u_sub [2, 4, 1, 0] rfl ?_
        exact jb64 p20.2 (rf (rf k0 0) a1.toNatClampNeg) (rs_15 (rs_8_0 hk0) b5) p20.1 h
      · replace h := of_f (fun q => q c55) h
        refine u_iload (pc := 58) hC dX8_write_58 0 rfl ?_
        refine u_iconst (pc := 60) hC ic_2 dX8_write_60 ?_
        refine u_imul (pc := 61) hC dX8_write_61 ?_
        refine u_istore (pc := 62) hC dX8_write_62 [(4, .int (p20.1 * (2 : Int32))), (3, .ref (gad (cG C) (rf (rf k0 0) a1.toNatClampNeg))), (0, .ref (gad (cG C) k0)), (1, .int a1), (2, .int a2)] (by decide) rfl ?_
        refine u_sub [2, 4, 1, 0] rfl ?_
        exact jb64 p20.2 (rf (rf k0 0) a1.toNatClampNeg) (rs_15 (rs_8_0 hk0) b5) (p20.1 * (2 : Int32)) h
    · replace h := of_f (fun q => q c38) h
      refine u_sub [2, 4, 1, 0] rfl ?_
      exact jb41 p20.2 (rf (rf k0 0) a1.toNatClampNeg) (rs_15 (rs_8_0 hk0) b5) p20.1 h
set_option maxHeartbeats 4000000 in
set_option maxRecDepth 100000 in
theorem c_X8_serve {l : Launch} {G : GG} {d : Nat} (hd : 3 ≤ d) {μ : Mem} {k0 : Nat} (hk0 : isC 8 k0) {a1 : Int32} {a2 : Int32} {r : Mem} (h : f_X8_serve μ k0 a1 a2 = some r) : CT l yX8_serve cX8_serve 6 none d G [.ref (gad G k0), .int a1, .int a2] μ (RK none r) := by
  refine ct_start (by decide) (Nat.le_of_ble_eq_true rfl) (fun C hl1 hG1 hC hQ hr => ?_)
  subst hl1; subst hG1
  have hC : CxOK C cX8_serve 6 RX8 d := hC
  show UW C 6 μ 0 [(0, .ref (gad (cG C) k0)), (1, .int a1), (2, .int a2)] []
  have jb66 : ∀ (μ_66 : Mem) (k3_66 : Nat) (hk3_66 : isC 0 k3_66), f_X8_serve_j66 μ_66 k0 a1 a2 k3_66 = some r → UW C 6 μ_66 66 [(0, .ref (gad (cG C) k0)), (3, .ref (gad (cG C) k3_66))] [] := by
    intro μ_66 k3_66 hk3_66 h
    unfold f_X8_serve_j66 at h
    refine u_aload_n (pc := 66) hC dX8_serve_66 rfl 0 rfl ?_
    refine g_RX8_17 (pc := 67) hC hk0 dX8_serve_67 ?_
    refine u_aload_n (pc := 70) hC dX8_serve_70 rfl 1 rfl ?_
    refine g_RX8_49 (pc := 71) hC hk3_66 dX8_serve_71 ?_
    refine u_aload_n (pc := 74) hC dX8_serve_74 rfl 1 rfl ?_
    refine g_RX8_52 (pc := 75) hC hk3_66 dX8_serve_75 ?_
    refine u_aload_n (pc := 78) hC dX8_serve_78 rfl 0 rfl ?_
    refine g_RX8_46 (pc := 79) hC hk0 dX8_serve_79 ?_
    obtain ⟨r82, q82, h⟩ := of_bd h
    refine k_RX8_112 (pc := 82) hC (av := [.int (rd μ_66 k3_66 2), .ref (gad (cG C) (rf k3_66 1)), .int (rd μ_66 k0 4)]) (rest := []) (c_X1_anyOverdue (d := d - 1) (by omega) (rs_8_1 hk0) (rs_0_1 hk3_66) q82) (by omega) (Nat.le_of_ble_eq_true rfl) (rs_8_1 hk0) rfl rfl dX8_serve_82 ?_
    refine u_if_eq (pc := 85) hC (tgt := 93) dX8_serve_85 (by decide) (fun c85 => ?_) (fun c85 => ?_)
    · replace h := of_t c85 h
      obtain rfl := Option.some.inj h
      exact u_vret (pc := 93) hC hQ hr ⟨rfl, rfl⟩ dX8_serve_93
    · replace h := of_f c85 h
      refine u_aload_n (pc := 88) hC dX8_serve_88 rfl 1 rfl ?_
      refine u_iconst (pc := 89) hC ic_1 dX8_serve_89 ?_
      obtain ⟨m90, q90, h⟩ := of_bd h
      refine p_RX8_56 (pc := 90) hC hk3_66 (by decide) dX8_serve_90 (Option.some.inj q90) ?_
      obtain rfl := Option.some.inj h
      exact u_vret (pc := 93) hC hQ hr ⟨rfl, rfl⟩ dX8_serve_93
  have lw10 : ∀ (k3_10 : Nat) (hk3_10 : isC 0 k3_10) (e : (Mem)) (s : Int32 × Mem), lp (fun s => f_X8_serve_l10 k0 a1 a2 k3_10 s.1 s.2) FU s = some e → (fun (e : (Mem)) => UW C 6 e 66 [(0, .ref (gad (cG C) k0)), (3, .ref (gad (cG C) k3_10))] []) e → UW C 6 s.2 10 [(0, .ref (gad (cG C) k0)), (1, .int a1), (2, .int a2), (3, .ref (gad (cG C) k3_10)), (4, .int s.1)] [] := by
    intro k3_10 hk3_10 e s hl hE0
    refine @lp_walk (Int32 × Mem) (Mem) (fun s => f_X8_serve_l10 k0 a1 a2 k3_10 s.1 s.2) (fun s => UW C 6 s.2 10 [(0, .ref (gad (cG C) k0)), (1, .int a1), (2, .int a2), (3, .ref (gad (cG C) k3_10)), (4, .int s.1)] []) (fun (e : (Mem)) => UW C 6 e 66 [(0, .ref (gad (cG C) k0)), (3, .ref (gad (cG C) k3_10))] []) (fun s y10 h hP10 hE10 => ?_) FU s e hl hE0
    obtain ⟨v4_10, μ_10⟩ := s
    replace h : f_X8_serve_l10 k0 a1 a2 k3_10 v4_10 μ_10 = some y10 := h
    show UW C 6 μ_10 10 [(0, .ref (gad (cG C) k0)), (1, .int a1), (2, .int a2), (3, .ref (gad (cG C) k3_10)), (4, .int v4_10)] []
    unfold f_X8_serve_l10 at h
    refine u_iload (pc := 10) hC dX8_serve_10 4 rfl ?_
    refine u_iload_n (pc := 12) hC dX8_serve_12 rfl 2 rfl ?_
    refine u_icmp_ge (pc := 13) hC (tgt := 66) dX8_serve_13 (by decide) (fun c13 => ?_) (fun c13 => ?_)
    · replace h := of_t c13 h
      obtain rfl := Option.some.inj h
      refine u_sub [0, 3] rfl ?_
      exact hE10 μ_10 rfl
    · replace h := of_f c13 h
      refine u_aload_n (pc := 16) hC dX8_serve_16 rfl 3 rfl ?_
      refine g_RX8_39 (pc := 17) hC hk3_10 dX8_serve_17 ?_
      refine u_if_le (pc := 20) hC (tgt := 66) dX8_serve_20 (by decide) (fun c20 => ?_) (fun c20 => ?_)
      · replace h := of_t c20 h
        obtain rfl := Option.some.inj h
        refine u_sub [0, 3] rfl ?_
        exact hE10 μ_10 rfl
      · replace h := of_f c20 h
        refine u_aload_n (pc := 23) hC dX8_serve_23 rfl 3 rfl ?_
        refine g_RX8_56 (pc := 24) hC hk3_10 dX8_serve_24 ?_
        refine u_if_ne (pc := 27) hC (tgt := 66) dX8_serve_27 (by decide) (fun c27 => ?_) (fun c27 => ?_)
        · replace h := of_t c27 h
          obtain rfl := Option.some.inj h
          refine u_sub [0, 3] rfl ?_
          exact hE10 μ_10 rfl
        · replace h := of_f (fun q => q c27) h
          refine u_aload_n (pc := 30) hC dX8_serve_30 rfl 0 rfl ?_
          refine u_iload_n (pc := 31) hC dX8_serve_31 rfl 1 rfl ?_
          obtain ⟨r32, q32, h⟩ := of_bd h
          refine k_RX8_104 (pc := 32) hC (av := [.int a1]) (rest := []) (c_X8_mayTell (d := d - 1) (by omega) hk0 q32) (by omega) (Nat.le_of_ble_eq_true rfl) hk0 rfl rfl dX8_serve_32 ?_
          refine u_istore (pc := 35) hC dX8_serve_35 [(5, .int r32), (0, .ref (gad (cG C) k0)), (1, .int a1), (2, .int a2), (3, .ref (gad (cG C) k3_10)), (4, .int v4_10)] (by decide) rfl ?_
          refine u_iload (pc := 37) hC dX8_serve_37 0 rfl ?_
          refine u_if_ne (pc := 39) hC (tgt := 50) dX8_serve_39 (by decide) (fun c39 => ?_) (fun c39 => ?_)
          · replace h := of_t c39 h
            refine u_aload_n (pc := 50) hC dX8_serve_50 rfl 1 rfl ?_
            refine u_iload_n (pc := 51) hC dX8_serve_51 rfl 2 rfl ?_
            refine u_iload (pc := 52) hC dX8_serve_52 0 rfl ?_
            obtain ⟨r54, q54, h⟩ := of_bd h
            refine k_RX8_106 (pc := 54) hC (av := [.int r32]) (rest := [.int a1, .ref (gad (cG C) k0)]) (c_J6_numberOfTrailingZeros_0f7a4 (d := d - 1) (by omega)  q54) (by omega) (Nat.le_of_ble_eq_true rfl) rfl rfl dX8_serve_54 ?_
            obtain ⟨μ57, q57, h⟩ := of_bd h
            refine k_RX8_109 (pc := 57) hC (av := [.int a1, .int r54]) (rest := []) (c_X8_write (d := d - 1) (by omega) hk0 q57) (by omega) (Nat.le_of_ble_eq_true rfl) hk0 rfl rfl dX8_serve_57 ?_
            refine u_iinc (pc := 60) hC dX8_serve_60 5 rfl (v4_10 + 1) rfl [(4, .int (v4_10 + 1)), (5, .int r32), (0, .ref (gad (cG C) k0)), (1, .int a1), (2, .int a2), (3, .ref (gad (cG C) k3_10))] (by decide) rfl ?_
            refine u_goto (pc := 63) hC 10 dX8_serve_63 (by decide) ?_
            obtain rfl := Option.some.inj h
            refine u_sub [2, 3, 4, 5, 0] rfl ?_
            exact hP10 (v4_10 + 1, μ57) rfl
          · replace h := of_f (fun q => q c39) h
            refine u_aload_n (pc := 42) hC dX8_serve_42 rfl 4 rfl ?_
            refine u_iconst (pc := 43) hC ic_1 dX8_serve_43 ?_
            obtain ⟨m44, q44, h⟩ := of_bd h
            refine p_RX8_56 (pc := 44) hC hk3_10 (by decide) dX8_serve_44 (Option.some.inj q44) ?_
            refine u_goto (pc := 47) hC 60 dX8_serve_47 (by decide) ?_
            refine u_iinc (pc := 60) hC dX8_serve_60 5 rfl (v4_10 + 1) rfl [(4, .int (v4_10 + 1)), (5, .int r32), (0, .ref (gad (cG C) k0)), (1, .int a1), (2, .int a2), (3, .ref (gad (cG C) k3_10))] (by decide) rfl ?_
            refine u_goto (pc := 63) hC 10 dX8_serve_63 (by decide) ?_
            obtain rfl := Option.some.inj h
            refine u_sub [2, 3, 4, 5, 0] rfl ?_
            exact hP10 (v4_10 + 1, m44) rfl
  unfold f_X8_serve at h
  refine u_aload_n (pc := 0) hC dX8_serve_0 rfl 0 rfl ?_
  refine g_RX8_11 (pc := 1) hC hk0 dX8_serve_1 ?_
  refine u_iload_n (pc := 4) hC dX8_serve_4 rfl 1 rfl ?_
  obtain ⟨b5, h⟩ := of_gd h
  refine u_aaldD (pc := 5) hC (rs_8_0 hk0) b5 (rn_8_0 hk0) dX8_serve_5 ?_
  refine u_astore_n (pc := 6) hC dX8_serve_6 rfl [(3, .ref (gad (cG C) (rf (rf k0 0) a1.toNatClampNeg))), (0, .ref (gad (cG C) k0)), (1, .int a1), (2, .int a2)] (by decide) rfl ?_
  refine u_iconst (pc := 7) hC ic_0 dX8_serve_7 ?_
  refine u_istore (pc := 8) hC dX8_serve_8 [(4, .int (0 : Int32)), (3, .ref (gad (cG C) (rf (rf k0 0) a1.toNatClampNeg))), (0, .ref (gad (cG C) k0)), (1, .int a1), (2, .int a2)] (by decide) rfl ?_
  obtain ⟨e10, l10, h⟩ := of_bd h
  refine u_sub [2, 3, 4, 1, 0] rfl ?_
  refine lw10 (rf (rf k0 0) a1.toNatClampNeg) (rs_15 (rs_8_0 hk0) b5) e10 ((0 : Int32), μ) l10 ?_
  show UW C 6 e10 66 [(0, .ref (gad (cG C) k0)), (3, .ref (gad (cG C) (rf (rf k0 0) a1.toNatClampNeg)))] []
  exact jb66 e10 (rf (rf k0 0) a1.toNatClampNeg) (rs_15 (rs_8_0 hk0) b5) h
set_option maxHeartbeats 4000000 in
set_option maxRecDepth 100000 in
theorem c_X8_passWeek {l : Launch} {G : GG} {d : Nat} (hd : 4 ≤ d) {μ : Mem} {k0 : Nat} (hk0 : isC 8 k0) {a1 : Int32} {a2 : Int32} {r : Mem} (h : f_X8_passWeek μ k0 a1 a2 = some r) : CT l yX8_passWeek cX8_passWeek 4 none d G [.ref (gad G k0), .int a1, .int a2] μ (RK none r) := by
  refine ct_start (by decide) (Nat.le_of_ble_eq_true rfl) (fun C hl1 hG1 hC hQ hr => ?_)
  subst hl1; subst hG1
  have hC : CxOK C cX8_passWeek 4 RX8 d := hC
  show UW C 4 μ 0 [(0, .ref (gad (cG C) k0)), (1, .int a1), (2, .int a2)] []
  have lw2 : ∀ (e : (Mem)) (s : Int32 × Mem), lp (fun s => f_X8_passWeek_l2 k0 a1 a2 s.1 s.2) FU s = some e → (fun (e : (Mem)) => UW C 4 e 63 [(0, .ref (gad (cG C) k0))] []) e → UW C 4 s.2 2 [(0, .ref (gad (cG C) k0)), (1, .int a1), (2, .int a2), (3, .int s.1)] [] := by
    intro e s hl hE0
    refine @lp_walk (Int32 × Mem) (Mem) (fun s => f_X8_passWeek_l2 k0 a1 a2 s.1 s.2) (fun s => UW C 4 s.2 2 [(0, .ref (gad (cG C) k0)), (1, .int a1), (2, .int a2), (3, .int s.1)] []) (fun (e : (Mem)) => UW C 4 e 63 [(0, .ref (gad (cG C) k0))] []) (fun s y2 h hP2 hE2 => ?_) FU s e hl hE0
    have jb54 : ∀ (μ_54 : Mem) (v3_54 : Int32) (kt0_54 : Nat) (hkt0_54 : isC 8 kt0_54) (vt1_54 : Int32) (vt2_54 : Int32), f_X8_passWeek_j54 μ_54 k0 a1 a2 v3_54 kt0_54 vt1_54 vt2_54 = some y2 → UW C 4 μ_54 54 [(0, .ref (gad (cG C) k0)), (1, .int a1), (2, .int a2), (3, .int v3_54)] [.int vt2_54, .int vt1_54, .ref (gad (cG C) kt0_54)] := by
      intro μ_54 v3_54 kt0_54 hkt0_54 vt1_54 vt2_54 h
      unfold f_X8_passWeek_j54 at h
      obtain ⟨μ54, q54, h⟩ := of_bd h
      refine k_RX8_101 (pc := 54) hC (av := [.int vt1_54, .int vt2_54]) (rest := []) (c_X8_serve (d := d - 1) (by omega) hkt0_54 q54) (by omega) (Nat.le_of_ble_eq_true rfl) hkt0_54 rfl rfl dX8_passWeek_54 ?_
      refine u_iinc (pc := 57) hC dX8_passWeek_57 3 rfl (v3_54 + 1) rfl [(3, .int (v3_54 + 1)), (0, .ref (gad (cG C) k0)), (1, .int a1), (2, .int a2)] (by decide) rfl ?_
      refine u_goto (pc := 60) hC 2 dX8_passWeek_60 (by decide) ?_
      obtain rfl := Option.some.inj h
      refine u_sub [1, 2, 3, 0] rfl ?_
      exact hP2 (v3_54 + 1, μ54) rfl
    obtain ⟨v3_2, μ_2⟩ := s
    replace h : f_X8_passWeek_l2 k0 a1 a2 v3_2 μ_2 = some y2 := h
    show UW C 4 μ_2 2 [(0, .ref (gad (cG C) k0)), (1, .int a1), (2, .int a2), (3, .int v3_2)] []
    unfold f_X8_passWeek_l2 at h
    refine u_iload_n (pc := 2) hC dX8_passWeek_2 rfl 3 rfl ?_
    refine u_aload_n (pc := 3) hC dX8_passWeek_3 rfl 0 rfl ?_
    refine g_RX8_26 (pc := 4) hC hk0 dX8_passWeek_4 ?_
    refine u_icmp_ge (pc := 7) hC (tgt := 63) dX8_passWeek_7 (by decide) (fun c7 => ?_) (fun c7 => ?_)
    · replace h := of_t c7 h
      obtain rfl := Option.some.inj h
      refine u_sub [0] rfl ?_
      exact hE2 μ_2 rfl
    · replace h := of_f c7 h
      refine u_aload_n (pc := 10) hC dX8_passWeek_10 rfl 0 rfl ?_
      refine g_RX8_11 (pc := 11) hC hk0 dX8_passWeek_11 ?_
      refine u_iload_n (pc := 14) hC dX8_passWeek_14 rfl 3 rfl ?_
      obtain ⟨b15, h⟩ := of_gd h
      refine u_aaldD (pc := 15) hC (rs_8_0 hk0) b15 (rn_8_0 hk0) dX8_passWeek_15 ?_
      refine g_RX8_56 (pc := 16) hC (rs_15 (rs_8_0 hk0) b15) dX8_passWeek_16 ?_
      refine u_if_ne (pc := 19) hC (tgt := 57) dX8_passWeek_19 (by decide) (fun c19 => ?_) (fun c19 => ?_)
      · replace h := of_t c19 h
        refine u_iinc (pc := 57) hC dX8_passWeek_57 3 rfl (v3_2 + 1) rfl [(3, .int (v3_2 + 1)), (0, .ref (gad (cG C) k0)), (1, .int a1), (2, .int a2)] (by decide) rfl ?_
        refine u_goto (pc := 60) hC 2 dX8_passWeek_60 (by decide) ?_
        obtain rfl := Option.some.inj h
        refine u_sub [1, 2, 3, 0] rfl ?_
        exact hP2 (v3_2 + 1, μ_2) rfl
      · replace h := of_f (fun q => q c19) h
        refine u_aload_n (pc := 22) hC dX8_passWeek_22 rfl 0 rfl ?_
        refine g_RX8_11 (pc := 23) hC hk0 dX8_passWeek_23 ?_
        refine u_iload_n (pc := 26) hC dX8_passWeek_26 rfl 3 rfl ?_
        obtain ⟨b27, h⟩ := of_gd h
        refine u_aaldD (pc := 27) hC (rs_8_0 hk0) b27 (rn_8_0 hk0) dX8_passWeek_27 ?_
        refine g_RX8_39 (pc := 28) hC (rs_15 (rs_8_0 hk0) b27) dX8_passWeek_28 ?_
        refine u_if_le (pc := 31) hC (tgt := 57) dX8_passWeek_31 (by decide) (fun c31 => ?_) (fun c31 => ?_)
        · replace h := of_t c31 h
          refine u_iinc (pc := 57) hC dX8_passWeek_57 3 rfl (v3_2 + 1) rfl [(3, .int (v3_2 + 1)), (0, .ref (gad (cG C) k0)), (1, .int a1), (2, .int a2)] (by decide) rfl ?_
          refine u_goto (pc := 60) hC 2 dX8_passWeek_60 (by decide) ?_
          obtain rfl := Option.some.inj h
          refine u_sub [1, 2, 3, 0] rfl ?_
          exact hP2 (v3_2 + 1, μ_2) rfl
        · replace h := of_f c31 h
          refine u_aload_n (pc := 34) hC dX8_passWeek_34 rfl 0 rfl ?_
          refine u_iload_n (pc := 35) hC dX8_passWeek_35 rfl 3 rfl ?_
          refine u_iload_n (pc := 36) hC dX8_passWeek_36 rfl 3 rfl ?_
          refine u_iload_n (pc := 37) hC dX8_passWeek_37 rfl 1 rfl ?_
          refine u_icmp_ne (pc := 38) hC (tgt := 45) dX8_passWeek_38 (by decide) (fun c38 => ?_) (fun c38 => ?_)
          · replace h := of_t c38 h
            refine u_aload_n (pc := 45) hC dX8_passWeek_45 rfl 0 rfl ?_
            refine g_RX8_11 (pc := 46) hC hk0 dX8_passWeek_46 ?_
            refine u_iload_n (pc := 49) hC dX8_passWeek_49 rfl 3 rfl ?_
            obtain ⟨b50, h⟩ := of_gd h
            refine u_aaldD (pc := 50) hC (rs_8_0 hk0) b50 (rn_8_0 hk0) dX8_passWeek_50 ?_
            obtain ⟨r51, q51, h⟩ := of_bd h
            refine k_RX8_97 (pc := 51) hC (av := []) (rest := [.int v3_2, .ref (gad (cG C) k0)]) (c_X0_due (d := d - 1) (by omega) (rs_15 (rs_8_0 hk0) b50) q51) (by omega) (Nat.le_of_ble_eq_true rfl) (rs_15 (rs_8_0 hk0) b50) rfl rfl dX8_passWeek_51 ?_
            exact jb54 μ_2 v3_2 k0 hk0 v3_2 r51 h
          · replace h := of_f (fun q => q c38) h
            refine u_iload_n (pc := 41) hC dX8_passWeek_41 rfl 2 rfl ?_
            refine u_goto (pc := 42) hC 54 dX8_passWeek_42 (by decide) ?_
            exact jb54 μ_2 v3_2 k0 hk0 v3_2 a2 h
  unfold f_X8_passWeek at h
  refine u_iconst (pc := 0) hC ic_0 dX8_passWeek_0 ?_
  refine u_istore_n (pc := 1) hC dX8_passWeek_1 rfl [(3, .int (0 : Int32)), (0, .ref (gad (cG C) k0)), (1, .int a1), (2, .int a2)] (by decide) rfl ?_
  obtain ⟨e2, l2, h⟩ := of_bd h
  refine u_sub [1, 2, 3, 0] rfl ?_
  refine lw2  e2 ((0 : Int32), μ) l2 ?_
  show UW C 4 e2 63 [(0, .ref (gad (cG C) k0))] []
  refine u_aload_n (pc := 63) hC dX8_passWeek_63 rfl 0 rfl ?_
  refine u_dup (pc := 64) hC rfl dX8_passWeek_64 ?_
  refine g_RX8_46 (pc := 65) hC hk0 dX8_passWeek_65 ?_
  refine u_iconst (pc := 68) hC ic_1 dX8_passWeek_68 ?_
  refine u_iadd (pc := 69) hC dX8_passWeek_69 ?_
  obtain ⟨m70, q70, h⟩ := of_bd h
  refine p_RX8_46 (pc := 70) hC hk0 dX8_passWeek_70 (Option.some.inj q70) ?_
  obtain rfl := Option.some.inj h
  exact u_vret (pc := 73) hC hQ hr ⟨rfl, rfl⟩ dX8_passWeek_73
set_option maxHeartbeats 4000000 in
set_option maxRecDepth 100000 in
theorem c_X8_passWeeks {l : Launch} {G : GG} {d : Nat} (hd : 5 ≤ d) {μ : Mem} {k0 : Nat} (hk0 : isC 8 k0) {a1 : Int32} {r : Mem} (h : f_X8_passWeeks μ k0 a1 = some r) : CT l yX8_passWeeks cX8_passWeeks 3 none d G [.ref (gad G k0), .int a1] μ (RK none r) := by
  refine ct_start (by decide) (Nat.le_of_ble_eq_true rfl) (fun C hl1 hG1 hC hQ hr => ?_)
  subst hl1; subst hG1
  have hC : CxOK C cX8_passWeeks 3 RX8 d := hC
  show UW C 3 μ 0 [(0, .ref (gad (cG C) k0)), (1, .int a1)] []
  have lw2 : ∀ (e : (Mem)) (s : Int32 × Mem), lp (fun s => f_X8_passWeeks_l2 k0 a1 s.1 s.2) FU s = some e → (fun (e : (Mem)) => UW C 3 e 19 [] []) e → UW C 3 s.2 2 [(0, .ref (gad (cG C) k0)), (1, .int a1), (2, .int s.1)] [] := by
    intro e s hl hE0
    refine @lp_walk (Int32 × Mem) (Mem) (fun s => f_X8_passWeeks_l2 k0 a1 s.1 s.2) (fun s => UW C 3 s.2 2 [(0, .ref (gad (cG C) k0)), (1, .int a1), (2, .int s.1)] []) (fun (e : (Mem)) => UW C 3 e 19 [] []) (fun s y2 h hP2 hE2 => ?_) FU s e hl hE0
    obtain ⟨v2_2, μ_2⟩ := s
    replace h : f_X8_passWeeks_l2 k0 a1 v2_2 μ_2 = some y2 := h
    show UW C 3 μ_2 2 [(0, .ref (gad (cG C) k0)), (1, .int a1), (2, .int v2_2)] []
    unfold f_X8_passWeeks_l2 at h
    refine u_iload_n (pc := 2) hC dX8_passWeeks_2 rfl 2 rfl ?_
    refine u_iload_n (pc := 3) hC dX8_passWeeks_3 rfl 1 rfl ?_
    refine u_icmp_ge (pc := 4) hC (tgt := 19) dX8_passWeeks_4 (by decide) (fun c4 => ?_) (fun c4 => ?_)
    · replace h := of_t c4 h
      obtain rfl := Option.some.inj h
      refine u_sub [] rfl ?_
      exact hE2 μ_2 rfl
    · replace h := of_f c4 h
      refine u_aload_n (pc := 7) hC dX8_passWeeks_7 rfl 0 rfl ?_
      refine u_iconst (pc := 8) hC ic_m1 dX8_passWeeks_8 ?_
      refine u_iconst (pc := 9) hC ic_0 dX8_passWeeks_9 ?_
      obtain ⟨μ10, q10, h⟩ := of_bd h
      refine k_RX8_94 (pc := 10) hC (av := [.int (-1 : Int32), .int (0 : Int32)]) (rest := []) (c_X8_passWeek (d := d - 1) (by omega) hk0 q10) (by omega) (Nat.le_of_ble_eq_true rfl) hk0 rfl rfl dX8_passWeeks_10 ?_
      refine u_iinc (pc := 13) hC dX8_passWeeks_13 2 rfl (v2_2 + 1) rfl [(2, .int (v2_2 + 1)), (0, .ref (gad (cG C) k0)), (1, .int a1)] (by decide) rfl ?_
      refine u_goto (pc := 16) hC 2 dX8_passWeeks_16 (by decide) ?_
      obtain rfl := Option.some.inj h
      refine u_sub [1, 2, 0] rfl ?_
      exact hP2 (v2_2 + 1, μ10) rfl
  unfold f_X8_passWeeks at h
  refine u_iconst (pc := 0) hC ic_0 dX8_passWeeks_0 ?_
  refine u_istore_n (pc := 1) hC dX8_passWeeks_1 rfl [(2, .int (0 : Int32)), (0, .ref (gad (cG C) k0)), (1, .int a1)] (by decide) rfl ?_
  obtain ⟨e2, l2, h⟩ := of_bd h
  refine u_sub [1, 2, 0] rfl ?_
  refine lw2  e2 ((0 : Int32), μ) l2 ?_
  show UW C 3 e2 19 [] []
  obtain rfl := Option.some.inj h
  exact u_vret (pc := 19) hC hQ hr ⟨rfl, rfl⟩ dX8_passWeeks_19
set_option maxHeartbeats 4000000 in
set_option maxRecDepth 100000 in
theorem c_X9_kindWithBody {l : Launch} {G : GG} {d : Nat} (hd : 0 ≤ d) {μ : Mem} {a0 : Int32} {a1 : Int32} {r : Int32} (h : f_X9_kindWithBody a0 a1 = some r) : CT l yX9_kindWithBody cX9_kindWithBody 4 (some .int) d G [.int a0, .int a1] μ (RK (some (.int r)) μ) := by
  refine ct_start (by decide) (Nat.le_of_ble_eq_true rfl) (fun C hl1 hG1 hC hQ hr => ?_)
  subst hl1; subst hG1
  have hC : CxOK C cX9_kindWithBody 4 RX9 d := hC
  show UW C 4 μ 0 [(0, .int a0), (1, .int a1)] []
  have lw4 : ∀ (e : ((Int32) ⊕ Unit)) (s : Int32 × Int32), lp (fun s => f_X9_kindWithBody_l4 a0 a1 s.1 s.2) FU s = some e → (Sum.elim (fun (e : (Int32)) => UW C 4 μ 32 [(2, .int e)] []) (fun (e : Unit) => UW C 4 μ 46 [] [])) e → UW C 4 μ 4 [(1, .int a1), (2, .int s.1), (3, .int s.2)] [] := by
    intro e s hl hE0
    refine @lp_walk (Int32 × Int32) ((Int32) ⊕ Unit) (fun s => f_X9_kindWithBody_l4 a0 a1 s.1 s.2) (fun s => UW C 4 μ 4 [(1, .int a1), (2, .int s.1), (3, .int s.2)] []) (Sum.elim (fun (e : (Int32)) => UW C 4 μ 32 [(2, .int e)] []) (fun (e : Unit) => UW C 4 μ 46 [] [])) (fun s y4 h hP4 hE4 => ?_) FU s e hl hE0
    obtain ⟨v2_4, v3_4⟩ := s
    replace h : f_X9_kindWithBody_l4 a0 a1 v2_4 v3_4 = some y4 := h
    show UW C 4 μ 4 [(1, .int a1), (2, .int v2_4), (3, .int v3_4)] []
    unfold f_X9_kindWithBody_l4 at h
    refine u_iload_n (pc := 4) hC dX9_kindWithBody_4 rfl 2 rfl ?_
    refine u_bipush (pc := 5) hC bc_7 dX9_kindWithBody_5 ?_
    refine u_icmp_ge (pc := 7) hC (tgt := 46) dX9_kindWithBody_7 (by decide) (fun c7 => ?_) (fun c7 => ?_)
    · replace h := of_t c7 h
      obtain rfl := Option.some.inj h
      refine u_sub [] rfl ?_
      exact hE4 (.inr ()) rfl
    · replace h := of_f c7 h
      refine u_iload_n (pc := 10) hC dX9_kindWithBody_10 rfl 1 rfl ?_
      refine u_if_lt (pc := 11) hC (tgt := 46) dX9_kindWithBody_11 (by decide) (fun c11 => ?_) (fun c11 => ?_)
      · replace h := of_t c11 h
        obtain rfl := Option.some.inj h
        refine u_sub [] rfl ?_
        exact hE4 (.inr ()) rfl
      · replace h := of_f c11 h
        refine u_iload_n (pc := 14) hC dX9_kindWithBody_14 rfl 1 rfl ?_
        refine u_bipush (pc := 15) hC bc_7 dX9_kindWithBody_15 ?_
        refine u_icmp_ge (pc := 17) hC (tgt := 46) dX9_kindWithBody_17 (by decide) (fun c17 => ?_) (fun c17 => ?_)
        · replace h := of_t c17 h
          obtain rfl := Option.some.inj h
          refine u_sub [] rfl ?_
          exact hE4 (.inr ()) rfl
        · replace h := of_f c17 h
          refine u_getsN1 (pc := 20) hC (fun q => q.2.1) dX9_kindWithBody_20 ?_
          refine u_iload_n (pc := 23) hC dX9_kindWithBody_23 rfl 1 rfl ?_
          refine u_iconst (pc := 24) hC ic_4 dX9_kindWithBody_24 ?_
          refine u_imul (pc := 25) hC dX9_kindWithBody_25 ?_
          refine u_iload_n (pc := 26) hC dX9_kindWithBody_26 rfl 0 rfl ?_
          refine u_iadd (pc := 27) hC dX9_kindWithBody_27 ?_
          obtain ⟨b28, h⟩ := of_gd h
          refine u_tld1 (pc := 28) hC b28 dX9_kindWithBody_28 ?_
          refine u_if_eq (pc := 29) hC (tgt := 34) dX9_kindWithBody_29 (by decide) (fun c29 => ?_) (fun c29 => ?_)
          · replace h := of_t c29 h
            refine u_getsN0 (pc := 34) hC (fun q => q.2.2) dX9_kindWithBody_34 ?_
            refine u_iload_n (pc := 37) hC dX9_kindWithBody_37 rfl 1 rfl ?_
            obtain ⟨b38, h⟩ := of_gd h
            refine u_tld0 (pc := 38) hC b38 dX9_kindWithBody_38 ?_
            refine u_istore_n (pc := 39) hC dX9_kindWithBody_39 rfl [(2, .int (st 0 v2_4.toNatClampNeg)), (1, .int a1), (3, .int v3_4)] (by decide) rfl ?_
            refine u_iinc (pc := 40) hC dX9_kindWithBody_40 2 rfl (v3_4 + 1) rfl [(3, .int (v3_4 + 1)), (2, .int (st 0 v2_4.toNatClampNeg)), (1, .int a1)] (by decide) rfl ?_
            refine u_goto (pc := 43) hC 4 dX9_kindWithBody_43 (by decide) ?_
            obtain rfl := Option.some.inj h
            refine u_sub [2, 1, 0] rfl ?_
            exact hP4 (st 0 v2_4.toNatClampNeg, v3_4 + 1) rfl
          · replace h := of_f c29 h
            obtain rfl := Option.some.inj h
            refine u_sub [1] rfl ?_
            exact hE4 (.inl v2_4) rfl
  unfold f_X9_kindWithBody at h
  refine u_iload_n (pc := 0) hC dX9_kindWithBody_0 rfl 0 rfl ?_
  refine u_istore_n (pc := 1) hC dX9_kindWithBody_1 rfl [(2, .int a0), (0, .int a0), (1, .int a1)] (by decide) rfl ?_
  refine u_iconst (pc := 2) hC ic_0 dX9_kindWithBody_2 ?_
  refine u_istore_n (pc := 3) hC dX9_kindWithBody_3 rfl [(3, .int (0 : Int32)), (2, .int a0), (0, .int a0), (1, .int a1)] (by decide) rfl ?_
  obtain ⟨e4, l4, h⟩ := of_bd h
  refine u_sub [3, 1, 0] rfl ?_
  refine lw4  e4 (a0, (0 : Int32)) l4 ?_
  rcases e4 with e4 | e4
  · replace h := of_el h
    show UW C 4 μ 32 [(2, .int e4)] []
    refine u_iload_n (pc := 32) hC dX9_kindWithBody_32 rfl 0 rfl ?_
    obtain rfl := Option.some.inj h
    exact u_iret (pc := 33) hC hQ hr ⟨rfl, rfl⟩ dX9_kindWithBody_33
  · replace h := of_er h
    show UW C 4 μ 46 [] []
    refine u_iconst (pc := 46) hC ic_m1 dX9_kindWithBody_46 ?_
    obtain rfl := Option.some.inj h
    exact u_iret (pc := 47) hC hQ hr ⟨rfl, rfl⟩ dX9_kindWithBody_47
set_option maxHeartbeats 4000000 in
set_option maxRecDepth 100000 in
theorem c_X9_add {l : Launch} {G : GG} {d : Nat} (hd : 0 ≤ d) {μ : Mem} {k0 : Nat} (hk0 : isC 9 k0) {a1 : Int32} {r : Mem} (h : f_X9_add μ k0 a1 = some r) : CT l yX9_add cX9_add 2 none d G [.ref (gad G k0), .int a1] μ (RK none r) := by
  refine ct_start (by decide) (Nat.le_of_ble_eq_true rfl) (fun C hl1 hG1 hC hQ hr => ?_)
  subst hl1; subst hG1
  have hC : CxOK C cX9_add 2 RX9 d := hC
  show UW C 2 μ 0 [(0, .ref (gad (cG C) k0)), (1, .int a1)] []
  unfold f_X9_add at h
  refine u_aload_n (pc := 0) hC dX9_add_0 rfl 0 rfl ?_
  refine g_RX9_25 (pc := 1) hC hk0 dX9_add_1 ?_
  refine u_bipush (pc := 4) hC bc_40 dX9_add_4 ?_
  refine u_icmp_ge (pc := 6) hC (tgt := 29) dX9_add_6 (by decide) (fun c6 => ?_) (fun c6 => ?_)
  · replace h := of_t c6 h
    obtain rfl := Option.some.inj h
    exact u_vret (pc := 29) hC hQ hr ⟨rfl, rfl⟩ dX9_add_29
  · replace h := of_f c6 h
    refine u_aload_n (pc := 9) hC dX9_add_9 rfl 0 rfl ?_
    refine g_RX9_9 (pc := 10) hC hk0 dX9_add_10 ?_
    refine u_aload_n (pc := 13) hC dX9_add_13 rfl 0 rfl ?_
    refine g_RX9_25 (pc := 14) hC hk0 dX9_add_14 ?_
    refine u_iload_n (pc := 17) hC dX9_add_17 rfl 1 rfl ?_
    obtain ⟨b18, h⟩ := of_gd h
    obtain ⟨m18, q18, h⟩ := of_bd h
    refine u_iast (pc := 18) hC (rs_9_0 hk0) 40 (rn_9_0 hk0) b18 dX9_add_18 (Option.some.inj q18) ?_
    refine u_aload_n (pc := 19) hC dX9_add_19 rfl 0 rfl ?_
    refine u_dup (pc := 20) hC rfl dX9_add_20 ?_
    refine g_RX9_25 (pc := 21) hC hk0 dX9_add_21 ?_
    refine u_iconst (pc := 24) hC ic_1 dX9_add_24 ?_
    refine u_iadd (pc := 25) hC dX9_add_25 ?_
    obtain ⟨m26, q26, h⟩ := of_bd h
    refine p_RX9_25 (pc := 26) hC hk0 dX9_add_26 (Option.some.inj q26) ?_
    obtain rfl := Option.some.inj h
    exact u_vret (pc := 29) hC hQ hr ⟨rfl, rfl⟩ dX9_add_29
set_option maxHeartbeats 4000000 in
set_option maxRecDepth 100000 in
theorem w_X9_says (g_X9_says : Mem → Nat → Int32 → Int32 → Int32 → Int32 → Option (Int32 × Mem)) {n : Nat} (ih_X9_says : ∀ {l : Launch} {G : GG} {d : Nat} (hd : n + 1 ≤ d) {μ : Mem} {k0 : Nat} (hk0 : isC 9 k0) {a1 : Int32} {a2 : Int32} {a3 : Int32} {a4 : Int32} {r : Int32 × Mem} (h : g_X9_says μ k0 a1 a2 a3 a4 = some r), CT l yX9_says cX9_says 9 (some .int) d G [.ref (gad G k0), .int a1, .int a2, .int a3, .int a4] μ (RK (some (.int r.1)) r.2)) {l : Launch} {G : GG} {d : Nat} (hd : n + 1 + 1 ≤ d) {μ : Mem} {k0 : Nat} (hk0 : isC 9 k0) {a1 : Int32} {a2 : Int32} {a3 : Int32} {a4 : Int32} {r : Int32 × Mem} (h : F_X9_says g_X9_says μ k0 a1 a2 a3 a4 = some r) : CT l yX9_says cX9_says 9 (some .int) d G [.ref (gad G k0), .int a1, .int a2, .int a3, .int a4] μ (RK (some (.int r.1)) r.2) := by
  refine ct_start (by decide) (Nat.le_of_ble_eq_true rfl) (fun C hl1 hG1 hC hQ hr => ?_)
  subst hl1; subst hG1
  have hC : CxOK C cX9_says 9 RX9 d := hC
  show UW C 9 μ 0 [(0, .ref (gad (cG C) k0)), (1, .int a1), (2, .int a2), (3, .int a3), (4, .int a4)] []
  unfold F_X9_says at h
  refine u_iload_n (pc := 0) hC dX9_says_0 rfl 1 rfl ?_
  refine u_iload_n (pc := 1) hC dX9_says_1 rfl 2 rfl ?_
  obtain ⟨r2, q2, h⟩ := of_bd h
  refine k_RX9_32 (pc := 2) hC (av := [.int a1, .int a2]) (rest := []) (c_X9_kindWithBody (d := d - 1) (by omega)  q2) (by omega) (Nat.le_of_ble_eq_true rfl) rfl rfl dX9_says_2 ?_
  refine u_istore (pc := 5) hC dX9_says_5 [(5, .int r2), (0, .ref (gad (cG C) k0)), (1, .int a1), (2, .int a2), (3, .int a3), (4, .int a4)] (by decide) rfl ?_
  refine u_iload (pc := 7) hC dX9_says_7 0 rfl ?_
  refine u_if_lt (pc := 9) hC (tgt := 19) dX9_says_9 (by decide) (fun c9 => ?_) (fun c9 => ?_)
  · replace h := of_t c9 h
    refine u_iconst (pc := 19) hC ic_0 dX9_says_19 ?_
    obtain rfl := Option.some.inj h
    exact u_iret (pc := 20) hC hQ hr ⟨rfl, rfl⟩ dX9_says_20
  · replace h := of_f c9 h
    refine u_iload (pc := 12) hC dX9_says_12 5 rfl ?_
    refine u_bipush (pc := 14) hC bc_20 dX9_says_14 ?_
    refine u_icmp_le (pc := 16) hC (tgt := 21) dX9_says_16 (by decide) (fun c16 => ?_) (fun c16 => ?_)
    · replace h := of_t c16 h
      refine u_getsN1 (pc := 21) hC (fun q => q.2.1) dX9_says_21 ?_
      refine u_iload (pc := 24) hC dX9_says_24 0 rfl ?_
      refine u_iconst (pc := 26) hC ic_4 dX9_says_26 ?_
      refine u_imul (pc := 27) hC dX9_says_27 ?_
      refine u_iload_n (pc := 28) hC dX9_says_28 rfl 3 rfl ?_
      refine u_iadd (pc := 29) hC dX9_says_29 ?_
      obtain ⟨b30, h⟩ := of_gd h
      refine u_tld1 (pc := 30) hC b30 dX9_says_30 ?_
      refine u_istore (pc := 31) hC dX9_says_31 [(6, .int (st 1 ((r2 * (4 : Int32)) + a2).toNatClampNeg)), (5, .int r2), (0, .ref (gad (cG C) k0)), (1, .int a1), (2, .int a2), (3, .int a3), (4, .int a4)] (by decide) rfl ?_
      refine u_getsN0 (pc := 33) hC (fun q => q.2.2) dX9_says_33 ?_
      refine u_iload (pc := 36) hC dX9_says_36 1 rfl ?_
      obtain ⟨b38, h⟩ := of_gd h
      refine u_tld0 (pc := 38) hC b38 dX9_says_38 ?_
      refine u_istore (pc := 39) hC dX9_says_39 [(7, .int (st 0 r2.toNatClampNeg)), (6, .int (st 1 ((r2 * (4 : Int32)) + a2).toNatClampNeg)), (5, .int r2), (0, .ref (gad (cG C) k0)), (1, .int a1), (2, .int a2), (3, .int a3), (4, .int a4)] (by decide) rfl ?_
      refine u_iload (pc := 41) hC dX9_says_41 7 rfl ?_
      refine u_iconst (pc := 43) hC ic_1 dX9_says_43 ?_
      refine u_iadd (pc := 44) hC dX9_says_44 ?_
      refine u_istore (pc := 45) hC dX9_says_45 [(8, .int (a4 + (1 : Int32))), (7, .int (st 0 r2.toNatClampNeg)), (6, .int (st 1 ((r2 * (4 : Int32)) + a2).toNatClampNeg)), (5, .int r2), (0, .ref (gad (cG C) k0)), (1, .int a1), (2, .int a2), (3, .int a3), (4, .int a4)] (by decide) rfl ?_
      refine u_aload_n (pc := 47) hC dX9_says_47 rfl 4 rfl ?_
      refine u_iload (pc := 48) hC dX9_says_48 2 rfl ?_
      obtain ⟨μ50, q50, h⟩ := of_bd h
      refine k_RX9_42 (pc := 50) hC (av := [.int (st 1 ((r2 * (4 : Int32)) + a2).toNatClampNeg)]) (rest := []) (c_X9_add (d := d - 1) (by omega) hk0 q50) (by omega) (Nat.le_of_ble_eq_true rfl) hk0 rfl rfl dX9_says_50 ?_
      refine u_iload (pc := 53) hC dX9_says_53 2 rfl ?_
      by_cases c55_0 : (st 1 ((r2 * (4 : Int32)) + a2).toNatClampNeg) = 10
      · replace h := of_t c55_0 h
        refine u_lookEq (pc := 55) hC dX9_says_55 (10 : Int32) c55_0 (off := 97) 152 (by decide) (by decide) (by decide) ?_
        refine u_iload_n (pc := 152) hC dX9_says_152 rfl 7 rfl ?_
        refine u_aload_n (pc := 153) hC dX9_says_153 rfl 4 rfl ?_
        refine g_RX9_19 (pc := 154) hC hk0 dX9_says_154 ?_
        refine u_iadd (pc := 157) hC dX9_says_157 ?_
        obtain rfl := Option.some.inj h
        exact u_iret (pc := 158) hC hQ hr ⟨rfl, rfl⟩ dX9_says_158
      replace h := of_f c55_0 h
      by_cases c55_1 : (st 1 ((r2 * (4 : Int32)) + a2).toNatClampNeg) = 11
      · replace h := of_t c55_1 h
        refine u_lookEq (pc := 55) hC dX9_says_55 (11 : Int32) c55_1 (off := 104) 159 (by decide) (by decide) (by decide) ?_
        refine u_aload_n (pc := 159) hC dX9_says_159 rfl 4 rfl ?_
        refine u_aload_n (pc := 160) hC dX9_says_160 rfl 4 rfl ?_
        refine g_RX9_15 (pc := 161) hC hk0 dX9_says_161 ?_
        refine u_iconst (pc := 164) hC ic_0 dX9_says_164 ?_
        refine u_iload_n (pc := 165) hC dX9_says_165 rfl 7 rfl ?_
        refine u_iload (pc := 166) hC dX9_says_166 0 rfl ?_
        obtain ⟨p168, q168, h⟩ := of_bd h
        refine k_RX9_28 (pc := 168) hC (av := [.int (rd μ50 k0 2), .int (0 : Int32), .int a3, .int (a4 + (1 : Int32))]) (rest := []) (ih_X9_says (d := d - 1) (by omega) hk0 q168) (by omega) (Nat.le_of_ble_eq_true rfl) hk0 rfl rfl dX9_says_168 ?_
        refine u_iconst (pc := 171) hC ic_2 dX9_says_171 ?_
        refine u_imul (pc := 172) hC dX9_says_172 ?_
        obtain rfl := Option.some.inj h
        exact u_iret (pc := 173) hC hQ hr ⟨rfl, rfl⟩ dX9_says_173
      replace h := of_f c55_1 h
      by_cases c55_2 : (st 1 ((r2 * (4 : Int32)) + a2).toNatClampNeg) = 12
      · replace h := of_t c55_2 h
        refine u_lookEq (pc := 55) hC dX9_says_55 (12 : Int32) c55_2 (off := 119) 174 (by decide) (by decide) (by decide) ?_
        refine u_iload_n (pc := 174) hC dX9_says_174 rfl 7 rfl ?_
        refine u_aload_n (pc := 175) hC dX9_says_175 rfl 4 rfl ?_
        refine g_RX9_22 (pc := 176) hC hk0 dX9_says_176 ?_
        refine u_isub (pc := 179) hC dX9_says_179 ?_
        obtain rfl := Option.some.inj h
        exact u_iret (pc := 180) hC hQ hr ⟨rfl, rfl⟩ dX9_says_180
      replace h := of_f c55_2 h
      by_cases c55_3 : (st 1 ((r2 * (4 : Int32)) + a2).toNatClampNeg) = 13
      · replace h := of_t c55_3 h
        refine u_lookEq (pc := 55) hC dX9_says_55 (13 : Int32) c55_3 (off := 126) 181 (by decide) (by decide) (by decide) ?_
        refine u_aload_n (pc := 181) hC dX9_says_181 rfl 4 rfl ?_
        refine u_aload_n (pc := 182) hC dX9_says_182 rfl 4 rfl ?_
        refine g_RX9_15 (pc := 183) hC hk0 dX9_says_183 ?_
        refine u_iconst (pc := 186) hC ic_1 dX9_says_186 ?_
        refine u_iload_n (pc := 187) hC dX9_says_187 rfl 7 rfl ?_
        refine u_iload (pc := 188) hC dX9_says_188 0 rfl ?_
        obtain ⟨p190, q190, h⟩ := of_bd h
        refine k_RX9_28 (pc := 190) hC (av := [.int (rd μ50 k0 2), .int (1 : Int32), .int a3, .int (a4 + (1 : Int32))]) (rest := []) (ih_X9_says (d := d - 1) (by omega) hk0 q190) (by omega) (Nat.le_of_ble_eq_true rfl) hk0 rfl rfl dX9_says_190 ?_
        refine u_aload_n (pc := 193) hC dX9_says_193 rfl 4 rfl ?_
        refine u_aload_n (pc := 194) hC dX9_says_194 rfl 4 rfl ?_
        refine g_RX9_15 (pc := 195) hC hk0 dX9_says_195 ?_
        refine u_iconst (pc := 198) hC ic_2 dX9_says_198 ?_
        refine u_iload_n (pc := 199) hC dX9_says_199 rfl 7 rfl ?_
        refine u_iload (pc := 200) hC dX9_says_200 0 rfl ?_
        obtain ⟨p202, q202, h⟩ := of_bd h
        refine k_RX9_28 (pc := 202) hC (av := [.int (rd p190.2 k0 2), .int (2 : Int32), .int a3, .int (a4 + (1 : Int32))]) (rest := [.int p190.1]) (ih_X9_says (d := d - 1) (by omega) hk0 q202) (by omega) (Nat.le_of_ble_eq_true rfl) hk0 rfl rfl dX9_says_202 ?_
        refine u_ixor (pc := 205) hC dX9_says_205 ?_
        obtain rfl := Option.some.inj h
        exact u_iret (pc := 206) hC hQ hr ⟨rfl, rfl⟩ dX9_says_206
      replace h := of_f c55_3 h
      by_cases c55_4 : (st 1 ((r2 * (4 : Int32)) + a2).toNatClampNeg) = 20
      · replace h := of_t c55_4 h
        refine u_lookEq (pc := 55) hC dX9_says_55 (20 : Int32) c55_4 (off := 152) 207 (by decide) (by decide) (by decide) ?_
        refine u_aload_n (pc := 207) hC dX9_says_207 rfl 4 rfl ?_
        refine u_iload (pc := 208) hC dX9_says_208 1 rfl ?_
        refine u_iconst (pc := 210) hC ic_1 dX9_says_210 ?_
        refine u_iload_n (pc := 211) hC dX9_says_211 rfl 7 rfl ?_
        refine u_iload (pc := 212) hC dX9_says_212 0 rfl ?_
        obtain ⟨p214, q214, h⟩ := of_bd h
        refine k_RX9_28 (pc := 214) hC (av := [.int (st 0 r2.toNatClampNeg), .int (1 : Int32), .int a3, .int (a4 + (1 : Int32))]) (rest := []) (ih_X9_says (d := d - 1) (by omega) hk0 q214) (by omega) (Nat.le_of_ble_eq_true rfl) hk0 rfl rfl dX9_says_214 ?_
        refine u_aload_n (pc := 217) hC dX9_says_217 rfl 4 rfl ?_
        refine u_aload_n (pc := 218) hC dX9_says_218 rfl 4 rfl ?_
        refine g_RX9_15 (pc := 219) hC hk0 dX9_says_219 ?_
        refine u_iconst (pc := 222) hC ic_2 dX9_says_222 ?_
        refine u_iconst (pc := 223) hC ic_1 dX9_says_223 ?_
        refine u_iload (pc := 224) hC dX9_says_224 0 rfl ?_
        obtain ⟨p226, q226, h⟩ := of_bd h
        refine k_RX9_28 (pc := 226) hC (av := [.int (rd p214.2 k0 2), .int (2 : Int32), .int (1 : Int32), .int (a4 + (1 : Int32))]) (rest := [.int p214.1]) (ih_X9_says (d := d - 1) (by omega) hk0 q226) (by omega) (Nat.le_of_ble_eq_true rfl) hk0 rfl rfl dX9_says_226 ?_
        refine u_isub (pc := 229) hC dX9_says_229 ?_
        obtain rfl := Option.some.inj h
        exact u_iret (pc := 230) hC hQ hr ⟨rfl, rfl⟩ dX9_says_230
      replace h := of_f c55_4 h
      by_cases c55_5 : (st 1 ((r2 * (4 : Int32)) + a2).toNatClampNeg) = 30
      · replace h := of_t c55_5 h
        refine u_lookEq (pc := 55) hC dX9_says_55 (30 : Int32) c55_5 (off := 176) 231 (by decide) (by decide) (by decide) ?_
        refine u_aload_n (pc := 231) hC dX9_says_231 rfl 4 rfl ?_
        refine u_iload (pc := 232) hC dX9_says_232 1 rfl ?_
        refine u_iconst (pc := 234) hC ic_0 dX9_says_234 ?_
        refine u_iload_n (pc := 235) hC dX9_says_235 rfl 7 rfl ?_
        refine u_iload (pc := 236) hC dX9_says_236 0 rfl ?_
        obtain ⟨p238, q238, h⟩ := of_bd h
        refine k_RX9_28 (pc := 238) hC (av := [.int (st 0 r2.toNatClampNeg), .int (0 : Int32), .int a3, .int (a4 + (1 : Int32))]) (rest := []) (ih_X9_says (d := d - 1) (by omega) hk0 q238) (by omega) (Nat.le_of_ble_eq_true rfl) hk0 rfl rfl dX9_says_238 ?_
        refine u_iconst (pc := 241) hC ic_3 dX9_says_241 ?_
        refine u_imul (pc := 242) hC dX9_says_242 ?_
        obtain rfl := Option.some.inj h
        exact u_iret (pc := 243) hC hQ hr ⟨rfl, rfl⟩ dX9_says_243
      replace h := of_f c55_5 h
      by_cases c55_6 : (st 1 ((r2 * (4 : Int32)) + a2).toNatClampNeg) = 40
      · replace h := of_t c55_6 h
        refine u_lookEq (pc := 55) hC dX9_says_55 (40 : Int32) c55_6 (off := 189) 244 (by decide) (by decide) (by decide) ?_
        refine u_aload_n (pc := 244) hC dX9_says_244 rfl 4 rfl ?_
        refine u_iload (pc := 245) hC dX9_says_245 1 rfl ?_
        refine u_iconst (pc := 247) hC ic_2 dX9_says_247 ?_
        refine u_iload_n (pc := 248) hC dX9_says_248 rfl 7 rfl ?_
        refine u_iload (pc := 249) hC dX9_says_249 0 rfl ?_
        obtain ⟨p251, q251, h⟩ := of_bd h
        refine k_RX9_28 (pc := 251) hC (av := [.int (st 0 r2.toNatClampNeg), .int (2 : Int32), .int a3, .int (a4 + (1 : Int32))]) (rest := []) (ih_X9_says (d := d - 1) (by omega) hk0 q251) (by omega) (Nat.le_of_ble_eq_true rfl) hk0 rfl rfl dX9_says_251 ?_
        refine u_ineg (pc := 254) hC dX9_says_254 ?_
        obtain rfl := Option.some.inj h
        exact u_iret (pc := 255) hC hQ hr ⟨rfl, rfl⟩ dX9_says_255
      replace h := of_f c55_6 h
      by_cases c55_7 : (st 1 ((r2 * (4 : Int32)) + a2).toNatClampNeg) = 50
      · replace h := of_t c55_7 h
        refine u_lookEq (pc := 55) hC dX9_says_55 (50 : Int32) c55_7 (off := 201) 256 (by decide) (by decide) (by decide) ?_
        refine u_aload_n (pc := 256) hC dX9_says_256 rfl 4 rfl ?_
        refine u_iload (pc := 257) hC dX9_says_257 1 rfl ?_
        refine u_iconst (pc := 259) hC ic_1 dX9_says_259 ?_
        refine u_iload_n (pc := 260) hC dX9_says_260 rfl 7 rfl ?_
        refine u_iconst (pc := 261) hC ic_1 dX9_says_261 ?_
        refine u_iadd (pc := 262) hC dX9_says_262 ?_
        refine u_iload (pc := 263) hC dX9_says_263 0 rfl ?_
        obtain ⟨p265, q265, h⟩ := of_bd h
        refine k_RX9_28 (pc := 265) hC (av := [.int (st 0 r2.toNatClampNeg), .int (1 : Int32), .int (a3 + (1 : Int32)), .int (a4 + (1 : Int32))]) (rest := []) (ih_X9_says (d := d - 1) (by omega) hk0 q265) (by omega) (Nat.le_of_ble_eq_true rfl) hk0 rfl rfl dX9_says_265 ?_
        obtain rfl := Option.some.inj h
        exact u_iret (pc := 268) hC hQ hr ⟨rfl, rfl⟩ dX9_says_268
      replace h := of_f c55_7 h
      by_cases c55_8 : (st 1 ((r2 * (4 : Int32)) + a2).toNatClampNeg) = 60
      · replace h := of_t c55_8 h
        refine u_lookEq (pc := 55) hC dX9_says_55 (60 : Int32) c55_8 (off := 214) 269 (by decide) (by decide) (by decide) ?_
        refine u_aload_n (pc := 269) hC dX9_says_269 rfl 4 rfl ?_
        refine u_iload (pc := 270) hC dX9_says_270 1 rfl ?_
        refine u_iconst (pc := 272) hC ic_3 dX9_says_272 ?_
        refine u_iload_n (pc := 273) hC dX9_says_273 rfl 7 rfl ?_
        refine u_iload (pc := 274) hC dX9_says_274 0 rfl ?_
        obtain ⟨p276, q276, h⟩ := of_bd h
        refine k_RX9_28 (pc := 276) hC (av := [.int (st 0 r2.toNatClampNeg), .int (3 : Int32), .int a3, .int (a4 + (1 : Int32))]) (rest := []) (ih_X9_says (d := d - 1) (by omega) hk0 q276) (by omega) (Nat.le_of_ble_eq_true rfl) hk0 rfl rfl dX9_says_276 ?_
        refine u_aload_n (pc := 279) hC dX9_says_279 rfl 4 rfl ?_
        refine u_aload_n (pc := 280) hC dX9_says_280 rfl 4 rfl ?_
        refine g_RX9_15 (pc := 281) hC hk0 dX9_says_281 ?_
        refine u_iconst (pc := 284) hC ic_0 dX9_says_284 ?_
        refine u_iconst (pc := 285) hC ic_2 dX9_says_285 ?_
        refine u_iload (pc := 286) hC dX9_says_286 0 rfl ?_
        obtain ⟨p288, q288, h⟩ := of_bd h
        refine k_RX9_28 (pc := 288) hC (av := [.int (rd p276.2 k0 2), .int (0 : Int32), .int (2 : Int32), .int (a4 + (1 : Int32))]) (rest := [.int p276.1]) (ih_X9_says (d := d - 1) (by omega) hk0 q288) (by omega) (Nat.le_of_ble_eq_true rfl) hk0 rfl rfl dX9_says_288 ?_
        refine u_isub (pc := 291) hC dX9_says_291 ?_
        obtain rfl := Option.some.inj h
        exact u_iret (pc := 292) hC hQ hr ⟨rfl, rfl⟩ dX9_says_292
      replace h := of_f c55_8 h
      by_cases c55_9 : (st 1 ((r2 * (4 : Int32)) + a2).toNatClampNeg) = 70
      · replace h := of_t c55_9 h
        refine u_lookEq (pc := 55) hC dX9_says_55 (70 : Int32) c55_9 (off := 238) 293 (by decide) (by decide) (by decide) ?_
        refine u_aload_n (pc := 293) hC dX9_says_293 rfl 4 rfl ?_
        refine u_iload (pc := 294) hC dX9_says_294 1 rfl ?_
        refine u_iconst (pc := 296) hC ic_2 dX9_says_296 ?_
        refine u_iload_n (pc := 297) hC dX9_says_297 rfl 7 rfl ?_
        refine u_iload (pc := 298) hC dX9_says_298 0 rfl ?_
        obtain ⟨p300, q300, h⟩ := of_bd h
        refine k_RX9_28 (pc := 300) hC (av := [.int (st 0 r2.toNatClampNeg), .int (2 : Int32), .int a3, .int (a4 + (1 : Int32))]) (rest := []) (ih_X9_says (d := d - 1) (by omega) hk0 q300) (by omega) (Nat.le_of_ble_eq_true rfl) hk0 rfl rfl dX9_says_300 ?_
        refine u_aload_n (pc := 303) hC dX9_says_303 rfl 4 rfl ?_
        refine g_RX9_19 (pc := 304) hC hk0 dX9_says_304 ?_
        refine u_ixor (pc := 307) hC dX9_says_307 ?_
        obtain rfl := Option.some.inj h
        exact u_iret (pc := 308) hC hQ hr ⟨rfl, rfl⟩ dX9_says_308
      replace h := of_f c55_9 h
      by_cases c55_10 : (st 1 ((r2 * (4 : Int32)) + a2).toNatClampNeg) = 71
      · replace h := of_t c55_10 h
        refine u_lookEq (pc := 55) hC dX9_says_55 (71 : Int32) c55_10 (off := 254) 309 (by decide) (by decide) (by decide) ?_
        refine u_aload_n (pc := 309) hC dX9_says_309 rfl 4 rfl ?_
        refine u_aload_n (pc := 310) hC dX9_says_310 rfl 4 rfl ?_
        refine g_RX9_15 (pc := 311) hC hk0 dX9_says_311 ?_
        refine u_iconst (pc := 314) hC ic_1 dX9_says_314 ?_
        refine u_iload_n (pc := 315) hC dX9_says_315 rfl 7 rfl ?_
        refine u_iload (pc := 316) hC dX9_says_316 0 rfl ?_
        obtain ⟨p318, q318, h⟩ := of_bd h
        refine k_RX9_28 (pc := 318) hC (av := [.int (rd μ50 k0 2), .int (1 : Int32), .int a3, .int (a4 + (1 : Int32))]) (rest := []) (ih_X9_says (d := d - 1) (by omega) hk0 q318) (by omega) (Nat.le_of_ble_eq_true rfl) hk0 rfl rfl dX9_says_318 ?_
        refine u_aload_n (pc := 321) hC dX9_says_321 rfl 4 rfl ?_
        refine u_iload (pc := 322) hC dX9_says_322 1 rfl ?_
        refine u_iconst (pc := 324) hC ic_3 dX9_says_324 ?_
        refine u_iload_n (pc := 325) hC dX9_says_325 rfl 7 rfl ?_
        refine u_iload (pc := 326) hC dX9_says_326 0 rfl ?_
        obtain ⟨p328, q328, h⟩ := of_bd h
        refine k_RX9_28 (pc := 328) hC (av := [.int (st 0 r2.toNatClampNeg), .int (3 : Int32), .int a3, .int (a4 + (1 : Int32))]) (rest := [.int p318.1]) (ih_X9_says (d := d - 1) (by omega) hk0 q328) (by omega) (Nat.le_of_ble_eq_true rfl) hk0 rfl rfl dX9_says_328 ?_
        refine u_isub (pc := 331) hC dX9_says_331 ?_
        obtain rfl := Option.some.inj h
        exact u_iret (pc := 332) hC hQ hr ⟨rfl, rfl⟩ dX9_says_332
      replace h := of_f c55_10 h
      refine u_lookDf (pc := 55) hC dX9_says_55 [(10 : Int32), (11 : Int32), (12 : Int32), (13 : Int32), (20 : Int32), (30 : Int32), (40 : Int32), (50 : Int32), (60 : Int32), (70 : Int32), (71 : Int32)] (List.forall_mem_cons.mpr ⟨c55_0, List.forall_mem_cons.mpr ⟨c55_1, List.forall_mem_cons.mpr ⟨c55_2, List.forall_mem_cons.mpr ⟨c55_3, List.forall_mem_cons.mpr ⟨c55_4, List.forall_mem_cons.mpr ⟨c55_5, List.forall_mem_cons.mpr ⟨c55_6, List.forall_mem_cons.mpr ⟨c55_7, List.forall_mem_cons.mpr ⟨c55_8, List.forall_mem_cons.mpr ⟨c55_9, List.forall_mem_cons.mpr ⟨c55_10, (fun _ q => absurd q List.not_mem_nil)⟩⟩⟩⟩⟩⟩⟩⟩⟩⟩⟩) (by decide) 333 (by decide) (by decide) ?_
      refine u_iconst (pc := 333) hC ic_0 dX9_says_333 ?_
      obtain rfl := Option.some.inj h
      exact u_iret (pc := 334) hC hQ hr ⟨rfl, rfl⟩ dX9_says_334
    · replace h := of_f c16 h
      refine u_iconst (pc := 19) hC ic_0 dX9_says_19 ?_
      obtain rfl := Option.some.inj h
      exact u_iret (pc := 20) hC hQ hr ⟨rfl, rfl⟩ dX9_says_20
set_option maxHeartbeats 4000000 in
set_option maxRecDepth 100000 in
theorem c_grp_X9_says (n : Nat) : (∀ {l : Launch} {G : GG} {d : Nat} (hd : n + 1 ≤ d) {μ : Mem} {k0 : Nat} (hk0 : isC 9 k0) {a1 : Int32} {a2 : Int32} {a3 : Int32} {a4 : Int32} {r : Int32 × Mem} (h : f_X9_says n μ k0 a1 a2 a3 a4 = some r), CT l yX9_says cX9_says 9 (some .int) d G [.ref (gad G k0), .int a1, .int a2, .int a3, .int a4] μ (RK (some (.int r.1)) r.2)) := by
  induction n with
  | zero => exact (by intro l G d hd μ k0 hk0 a1 a2 a3 a4 r h; exact absurd (show (none : Option (Int32 × Mem)) = some r from h) (by simp))
  | succ n ih => exact (by intro l G d hd μ k0 hk0 a1 a2 a3 a4 r h; exact w_X9_says (f_X9_says n) ih (by omega) hk0 h)
theorem c_X9_says {n : Nat} {l : Launch} {G : GG} {d : Nat} (hd : n + 1 ≤ d) {μ : Mem} {k0 : Nat} (hk0 : isC 9 k0) {a1 : Int32} {a2 : Int32} {a3 : Int32} {a4 : Int32} {r : Int32 × Mem} (h : f_X9_says n μ k0 a1 a2 a3 a4 = some r) : CT l yX9_says cX9_says 9 (some .int) d G [.ref (gad G k0), .int a1, .int a2, .int a3, .int a4] μ (RK (some (.int r.1)) r.2) := (c_grp_X9_says n) hd hk0 h
set_option maxHeartbeats 4000000 in
set_option maxRecDepth 100000 in
theorem c_X9_begin {l : Launch} {G : GG} {d : Nat} (hd : 102 ≤ d) {μ : Mem} {k0 : Nat} (hk0 : isC 9 k0) {a1 : Int32} {a2 : Int32} {a3 : Int32} {a4 : Int32} {a5 : Int32} {r : Int32 × Mem} (h : f_X9_begin μ k0 a1 a2 a3 a4 a5 = some r) : CT l yX9_begin cX9_begin 6 (some .int) d G [.ref (gad G k0), .int a1, .int a2, .int a3, .int a4, .int a5] μ (RK (some (.int r.1)) r.2) := by
  refine ct_start (by decide) (Nat.le_of_ble_eq_true rfl) (fun C hl1 hG1 hC hQ hr => ?_)
  subst hl1; subst hG1
  have hC : CxOK C cX9_begin 6 RX9 d := hC
  show UW C 6 μ 0 [(0, .ref (gad (cG C) k0)), (1, .int a1), (2, .int a2), (3, .int a3), (4, .int a4), (5, .int a5)] []
  unfold f_X9_begin at h
  refine u_aload_n (pc := 0) hC dX9_begin_0 rfl 0 rfl ?_
  refine u_iload_n (pc := 1) hC dX9_begin_1 rfl 1 rfl ?_
  obtain ⟨m2, q2, h⟩ := of_bd h
  refine p_RX9_15 (pc := 2) hC hk0 dX9_begin_2 (Option.some.inj q2) ?_
  refine u_aload_n (pc := 5) hC dX9_begin_5 rfl 0 rfl ?_
  refine u_iload_n (pc := 6) hC dX9_begin_6 rfl 2 rfl ?_
  obtain ⟨m7, q7, h⟩ := of_bd h
  refine p_RX9_19 (pc := 7) hC hk0 dX9_begin_7 (Option.some.inj q7) ?_
  refine u_aload_n (pc := 10) hC dX9_begin_10 rfl 0 rfl ?_
  refine u_iload_n (pc := 11) hC dX9_begin_11 rfl 3 rfl ?_
  obtain ⟨m12, q12, h⟩ := of_bd h
  refine p_RX9_22 (pc := 12) hC hk0 dX9_begin_12 (Option.some.inj q12) ?_
  refine u_aload_n (pc := 15) hC dX9_begin_15 rfl 0 rfl ?_
  refine u_iconst (pc := 16) hC ic_0 dX9_begin_16 ?_
  obtain ⟨m17, q17, h⟩ := of_bd h
  refine p_RX9_25 (pc := 17) hC hk0 dX9_begin_17 (Option.some.inj q17) ?_
  refine u_aload_n (pc := 20) hC dX9_begin_20 rfl 0 rfl ?_
  refine u_iload_n (pc := 21) hC dX9_begin_21 rfl 1 rfl ?_
  refine u_iload (pc := 22) hC dX9_begin_22 4 rfl ?_
  refine u_iload (pc := 24) hC dX9_begin_24 5 rfl ?_
  refine u_iconst (pc := 26) hC ic_0 dX9_begin_26 ?_
  obtain ⟨p27, q27, h⟩ := of_bd h
  refine k_RX9_28 (pc := 27) hC (av := [.int a1, .int a4, .int a5, .int (0 : Int32)]) (rest := []) (c_X9_says (d := d - 1) (by omega) hk0 q27) (by omega) (Nat.le_of_ble_eq_true rfl) hk0 rfl rfl dX9_begin_27 ?_
  obtain rfl := Option.some.inj h
  exact u_iret (pc := 30) hC hQ hr ⟨rfl, rfl⟩ dX9_begin_30
set_option maxHeartbeats 4000000 in
set_option maxRecDepth 100000 in
theorem c_X10_copyFrom {l : Launch} {G : GG} {d : Nat} (hd : 2 ≤ d) {μ : Mem} {k0 : Nat} (hk0 : isC 10 k0) {k1 : Nat} (hk1 : isC 10 k1) {r : Mem} (h : f_X10_copyFrom μ k0 k1 = some r) : CT l yX10_copyFrom cX10_copyFrom 2 none d G [.ref (gad G k0), .ref (gad G k1)] μ (RK none r) := by
  refine ct_start (by decide) (Nat.le_of_ble_eq_true rfl) (fun C hl1 hG1 hC hQ hr => ?_)
  subst hl1; subst hG1
  have hC : CxOK C cX10_copyFrom 2 RX10 d := hC
  show UW C 2 μ 0 [(0, .ref (gad (cG C) k0)), (1, .ref (gad (cG C) k1))] []
  unfold f_X10_copyFrom at h
  refine u_aload_n (pc := 0) hC dX10_copyFrom_0 rfl 0 rfl ?_
  refine g_RX10_12 (pc := 1) hC hk0 dX10_copyFrom_1 ?_
  refine u_aload_n (pc := 4) hC dX10_copyFrom_4 rfl 1 rfl ?_
  refine g_RX10_12 (pc := 5) hC hk1 dX10_copyFrom_5 ?_
  obtain ⟨μ8, q8, h⟩ := of_bd h
  refine k_RX10_61 (pc := 8) hC (av := [.ref (gad (cG C) (rf k1 0))]) (rest := []) (c_X1_copyFrom (d := d - 1) (by omega) (rs_10_0 hk0) (rs_10_0 hk1) q8) (by omega) (Nat.le_of_ble_eq_true rfl) (rs_10_0 hk0) rfl rfl dX10_copyFrom_8 ?_
  refine u_aload_n (pc := 11) hC dX10_copyFrom_11 rfl 0 rfl ?_
  refine g_RX10_23 (pc := 12) hC hk0 dX10_copyFrom_12 ?_
  refine u_aload_n (pc := 15) hC dX10_copyFrom_15 rfl 1 rfl ?_
  refine g_RX10_23 (pc := 16) hC hk1 dX10_copyFrom_16 ?_
  refine g_RX10_65 (pc := 19) hC (rs_10_1 hk1) dX10_copyFrom_19 ?_
  refine u_aload_n (pc := 22) hC dX10_copyFrom_22 rfl 1 rfl ?_
  refine g_RX10_23 (pc := 23) hC hk1 dX10_copyFrom_23 ?_
  refine g_RX10_68 (pc := 26) hC (rs_10_1 hk1) dX10_copyFrom_26 ?_
  obtain ⟨μ29, q29, h⟩ := of_bd h
  refine k_RX10_71 (pc := 29) hC (av := [.ref (gad (cG C) (rf (rf k1 1) 0)), .int (rd μ8 (rf k1 1) 3)]) (rest := []) (c_X2_take (d := d - 1) (by omega) (rs_10_1 hk0) (rs_2_0 (rs_10_1 hk1)) q29) (by omega) (Nat.le_of_ble_eq_true rfl) (rs_10_1 hk0) rfl rfl dX10_copyFrom_29 ?_
  refine u_aload_n (pc := 32) hC dX10_copyFrom_32 rfl 0 rfl ?_
  refine g_RX10_27 (pc := 33) hC hk0 dX10_copyFrom_33 ?_
  refine u_aload_n (pc := 36) hC dX10_copyFrom_36 rfl 1 rfl ?_
  refine g_RX10_27 (pc := 37) hC hk1 dX10_copyFrom_37 ?_
  refine g_RX10_65 (pc := 40) hC (rs_10_2 hk1) dX10_copyFrom_40 ?_
  refine u_aload_n (pc := 43) hC dX10_copyFrom_43 rfl 1 rfl ?_
  refine g_RX10_27 (pc := 44) hC hk1 dX10_copyFrom_44 ?_
  refine g_RX10_68 (pc := 47) hC (rs_10_2 hk1) dX10_copyFrom_47 ?_
  obtain ⟨μ50, q50, h⟩ := of_bd h
  refine k_RX10_71 (pc := 50) hC (av := [.ref (gad (cG C) (rf (rf k1 2) 0)), .int (rd μ29 (rf k1 2) 3)]) (rest := []) (c_X2_take (d := d - 1) (by omega) (rs_10_2 hk0) (rs_2_0 (rs_10_2 hk1)) q50) (by omega) (Nat.le_of_ble_eq_true rfl) (rs_10_2 hk0) rfl rfl dX10_copyFrom_50 ?_
  refine u_aload_n (pc := 53) hC dX10_copyFrom_53 rfl 0 rfl ?_
  refine g_RX10_35 (pc := 54) hC hk0 dX10_copyFrom_54 ?_
  refine u_aload_n (pc := 57) hC dX10_copyFrom_57 rfl 1 rfl ?_
  refine g_RX10_35 (pc := 58) hC hk1 dX10_copyFrom_58 ?_
  obtain ⟨μ61, q61, h⟩ := of_bd h
  refine k_RX10_75 (pc := 61) hC (av := [.ref (gad (cG C) (rf k1 3))]) (rest := []) (c_X8_copyFrom (d := d - 1) (by omega) (rs_10_3 hk0) (rs_10_3 hk1) q61) (by omega) (Nat.le_of_ble_eq_true rfl) (rs_10_3 hk0) rfl rfl dX10_copyFrom_61 ?_
  refine u_aload_n (pc := 64) hC dX10_copyFrom_64 rfl 0 rfl ?_
  refine g_RX10_42 (pc := 65) hC hk0 dX10_copyFrom_65 ?_
  refine u_aload_n (pc := 68) hC dX10_copyFrom_68 rfl 1 rfl ?_
  refine g_RX10_42 (pc := 69) hC hk1 dX10_copyFrom_69 ?_
  obtain ⟨μ72, q72, h⟩ := of_bd h
  refine k_RX10_78 (pc := 72) hC (av := [.ref (gad (cG C) (rf k1 4))]) (rest := []) (c_X3_copyFrom (d := d - 1) (by omega) (rs_10_4 hk0) (rs_10_4 hk1) q72) (by omega) (Nat.le_of_ble_eq_true rfl) (rs_10_4 hk0) rfl rfl dX10_copyFrom_72 ?_
  refine u_aload_n (pc := 75) hC dX10_copyFrom_75 rfl 0 rfl ?_
  refine g_RX10_49 (pc := 76) hC hk0 dX10_copyFrom_76 ?_
  refine u_aload_n (pc := 79) hC dX10_copyFrom_79 rfl 1 rfl ?_
  refine g_RX10_49 (pc := 80) hC hk1 dX10_copyFrom_80 ?_
  obtain ⟨μ83, q83, h⟩ := of_bd h
  refine k_RX10_81 (pc := 83) hC (av := [.ref (gad (cG C) (rf k1 5))]) (rest := []) (c_X7_copyFrom (d := d - 1) (by omega) (rs_10_5 hk0) (rs_10_5 hk1) q83) (by omega) (Nat.le_of_ble_eq_true rfl) (rs_10_5 hk0) rfl rfl dX10_copyFrom_83 ?_
  refine u_aload_n (pc := 86) hC dX10_copyFrom_86 rfl 1 rfl ?_
  refine g_RX10_53 (pc := 87) hC hk1 dX10_copyFrom_87 ?_
  refine u_iconst (pc := 90) hC ic_0 dX10_copyFrom_90 ?_
  refine u_aload_n (pc := 91) hC dX10_copyFrom_91 rfl 0 rfl ?_
  refine g_RX10_53 (pc := 92) hC hk0 dX10_copyFrom_92 ?_
  refine u_iconst (pc := 95) hC ic_0 dX10_copyFrom_95 ?_
  refine u_bipush (pc := 96) hC bc_20 dX10_copyFrom_96 ?_
  obtain ⟨b98, h⟩ := of_gd h
  obtain ⟨m98, q98, h⟩ := of_bd h
  refine u_acopy (pc := 98) hC mL_RX10_84 mN_O_arraycopy mK_O_arraycopy mI_RJ10 (rs_10_6 hk1) (rs_10_6 hk0) b98 (Nat.le_of_ble_eq_true rfl) dX10_copyFrom_98 (Option.some.inj q98) ?_
  refine u_aload_n (pc := 101) hC dX10_copyFrom_101 rfl 0 rfl ?_
  refine u_aload_n (pc := 102) hC dX10_copyFrom_102 rfl 1 rfl ?_
  refine g_RX10_90 (pc := 103) hC hk1 dX10_copyFrom_103 ?_
  obtain ⟨m106, q106, h⟩ := of_bd h
  refine p_RX10_90 (pc := 106) hC hk0 dX10_copyFrom_106 (Option.some.inj q106) ?_
  refine u_aload_n (pc := 109) hC dX10_copyFrom_109 rfl 0 rfl ?_
  refine u_aload_n (pc := 110) hC dX10_copyFrom_110 rfl 1 rfl ?_
  refine g_RX10_57 (pc := 111) hC hk1 dX10_copyFrom_111 ?_
  obtain ⟨m114, q114, h⟩ := of_bd h
  refine p_RX10_57 (pc := 114) hC hk0 dX10_copyFrom_114 (Option.some.inj q114) ?_
  obtain rfl := Option.some.inj h
  exact u_vret (pc := 117) hC hQ hr ⟨rfl, rfl⟩ dX10_copyFrom_117
set_option maxHeartbeats 4000000 in
set_option maxRecDepth 100000 in
theorem c_X10_draw {l : Launch} {G : GG} {d : Nat} (hd : 0 ≤ d) {μ : Mem} {k0 : Nat} (hk0 : isC 10 k0) {r : Int32 × Mem} (h : f_X10_draw μ k0 = some r) : CT l yX10_draw cX10_draw 1 (some .int) d G [.ref (gad G k0)] μ (RK (some (.int r.1)) r.2) := by
  refine ct_start (by decide) (Nat.le_of_ble_eq_true rfl) (fun C hl1 hG1 hC hQ hr => ?_)
  subst hl1; subst hG1
  have hC : CxOK C cX10_draw 1 RX10 d := hC
  show UW C 1 μ 0 [(0, .ref (gad (cG C) k0))] []
  unfold f_X10_draw at h
  refine u_aload_n (pc := 0) hC dX10_draw_0 rfl 0 rfl ?_
  refine u_aload_n (pc := 1) hC dX10_draw_1 rfl 0 rfl ?_
  refine g_RX10_57 (pc := 2) hC hk0 dX10_draw_2 ?_
  refine u_ldc (pc := 5) hC (v := (1103515245 : Int32)) mQ_RX10_93 dX10_draw_5 ?_
  refine u_imul (pc := 7) hC dX10_draw_7 ?_
  refine u_sipush (pc := 8) hC sc_12345 dX10_draw_8 ?_
  refine u_iadd (pc := 11) hC dX10_draw_11 ?_
  obtain ⟨m12, q12, h⟩ := of_bd h
  refine p_RX10_57 (pc := 12) hC hk0 dX10_draw_12 (Option.some.inj q12) ?_
  refine u_aload_n (pc := 15) hC dX10_draw_15 rfl 0 rfl ?_
  refine g_RX10_57 (pc := 16) hC hk0 dX10_draw_16 ?_
  refine u_bipush (pc := 19) hC bc_8 dX10_draw_19 ?_
  refine u_iushr (pc := 21) hC dX10_draw_21 ?_
  obtain rfl := Option.some.inj h
  exact u_iret (pc := 22) hC hQ hr ⟨rfl, rfl⟩ dX10_draw_22
set_option maxHeartbeats 4000000 in
set_option maxRecDepth 100000 in
theorem c_X10_lendByDraws {l : Launch} {G : GG} {d : Nat} (hd : 1 ≤ d) {μ : Mem} {k0 : Nat} (hk0 : isC 10 k0) {r : Mem} (h : f_X10_lendByDraws μ k0 = some r) : CT l yX10_lendByDraws cX10_lendByDraws 3 none d G [.ref (gad G k0)] μ (RK none r) := by
  refine ct_start (by decide) (Nat.le_of_ble_eq_true rfl) (fun C hl1 hG1 hC hQ hr => ?_)
  subst hl1; subst hG1
  have hC : CxOK C cX10_lendByDraws 3 RX10 d := hC
  show UW C 3 μ 0 [(0, .ref (gad (cG C) k0))] []
  unfold f_X10_lendByDraws at h
  refine u_aload_n (pc := 0) hC dX10_lendByDraws_0 rfl 0 rfl ?_
  obtain ⟨p1, q1, h⟩ := of_bd h
  refine k_RX10_94 (pc := 1) hC (av := []) (rest := []) (c_X10_draw (d := d - 1) (by omega) hk0 q1) (by omega) (Nat.le_of_ble_eq_true rfl) hk0 rfl rfl dX10_lendByDraws_1 ?_
  refine u_iconst (pc := 4) hC ic_4 dX10_lendByDraws_4 ?_
  refine u_irem (pc := 5) hC (by decide) dX10_lendByDraws_5 ?_
  refine u_istore_n (pc := 6) hC dX10_lendByDraws_6 rfl [(1, .int (jrem p1.1 (4 : Int32))), (0, .ref (gad (cG C) k0))] (by decide) rfl ?_
  refine u_aload_n (pc := 7) hC dX10_lendByDraws_7 rfl 1 rfl ?_
  obtain ⟨p8, q8, h⟩ := of_bd h
  refine k_RX10_94 (pc := 8) hC (av := []) (rest := []) (c_X10_draw (d := d - 1) (by omega) hk0 q8) (by omega) (Nat.le_of_ble_eq_true rfl) hk0 rfl rfl dX10_lendByDraws_8 ?_
  refine u_bipush (pc := 11) hC bc_50 dX10_lendByDraws_11 ?_
  refine u_irem (pc := 13) hC (by decide) dX10_lendByDraws_13 ?_
  refine u_istore_n (pc := 14) hC dX10_lendByDraws_14 rfl [(2, .int (jrem p8.1 (50 : Int32))), (1, .int (jrem p1.1 (4 : Int32))), (0, .ref (gad (cG C) k0))] (by decide) rfl ?_
  refine u_iload_n (pc := 15) hC dX10_lendByDraws_15 rfl 1 rfl ?_
  refine u_aload_n (pc := 16) hC dX10_lendByDraws_16 rfl 2 rfl ?_
  refine g_RX10_35 (pc := 17) hC hk0 dX10_lendByDraws_17 ?_
  refine g_RX10_98 (pc := 20) hC (rs_10_3 hk0) dX10_lendByDraws_20 ?_
  refine u_icmp_ge (pc := 23) hC (tgt := 54) dX10_lendByDraws_23 (by decide) (fun c23 => ?_) (fun c23 => ?_)
  · replace h := of_t c23 h
    obtain rfl := Option.some.inj h
    exact u_vret (pc := 54) hC hQ hr ⟨rfl, rfl⟩ dX10_lendByDraws_54
  · replace h := of_f c23 h
    refine u_aload_n (pc := 26) hC dX10_lendByDraws_26 rfl 2 rfl ?_
    refine g_RX10_35 (pc := 27) hC hk0 dX10_lendByDraws_27 ?_
    refine g_RX10_99 (pc := 30) hC (rs_10_3 hk0) dX10_lendByDraws_30 ?_
    refine u_iload_n (pc := 33) hC dX10_lendByDraws_33 rfl 1 rfl ?_
    obtain ⟨b34, h⟩ := of_gd h
    refine u_aaldD (pc := 34) hC (rs_8_0 (rs_10_3 hk0)) b34 (rn_8_0 (rs_10_3 hk0)) dX10_lendByDraws_34 ?_
    refine g_RX10_103 (pc := 35) hC (rs_15 (rs_8_0 (rs_10_3 hk0)) b34) dX10_lendByDraws_35 ?_
    refine u_if_ne (pc := 38) hC (tgt := 54) dX10_lendByDraws_38 (by decide) (fun c38 => ?_) (fun c38 => ?_)
    · replace h := of_t c38 h
      obtain rfl := Option.some.inj h
      exact u_vret (pc := 54) hC hQ hr ⟨rfl, rfl⟩ dX10_lendByDraws_54
    · replace h := of_f (fun q => q c38) h
      refine u_aload_n (pc := 41) hC dX10_lendByDraws_41 rfl 2 rfl ?_
      refine g_RX10_35 (pc := 42) hC hk0 dX10_lendByDraws_42 ?_
      refine g_RX10_99 (pc := 45) hC (rs_10_3 hk0) dX10_lendByDraws_45 ?_
      refine u_iload_n (pc := 48) hC dX10_lendByDraws_48 rfl 1 rfl ?_
      obtain ⟨b49, h⟩ := of_gd h
      refine u_aaldD (pc := 49) hC (rs_8_0 (rs_10_3 hk0)) b49 (rn_8_0 (rs_10_3 hk0)) dX10_lendByDraws_49 ?_
      refine u_iload_n (pc := 50) hC dX10_lendByDraws_50 rfl 0 rfl ?_
      obtain ⟨μ51, q51, h⟩ := of_bd h
      refine k_RX10_109 (pc := 51) hC (av := [.int (jrem p8.1 (50 : Int32))]) (rest := []) (c_X0_owe (d := d - 1) (by omega) (rs_15 (rs_8_0 (rs_10_3 hk0)) b49) q51) (by omega) (Nat.le_of_ble_eq_true rfl) (rs_15 (rs_8_0 (rs_10_3 hk0)) b49) rfl rfl dX10_lendByDraws_51 ?_
      obtain rfl := Option.some.inj h
      exact u_vret (pc := 54) hC hQ hr ⟨rfl, rfl⟩ dX10_lendByDraws_54
set_option maxHeartbeats 4000000 in
set_option maxRecDepth 100000 in
theorem c_X10_witnessed {l : Launch} {G : GG} {d : Nat} (hd : 1 ≤ d) {μ : Mem} {k0 : Nat} (hk0 : isC 10 k0) {a1 : Int32} {a2 : Int32} {r : Int32} (h : f_X10_witnessed μ k0 a1 a2 = some r) : CT l yX10_witnessed cX10_witnessed 6 (some .int) d G [.ref (gad G k0), .int a1, .int a2] μ (RK (some (.int r)) μ) := by
  refine ct_start (by decide) (Nat.le_of_ble_eq_true rfl) (fun C hl1 hG1 hC hQ hr => ?_)
  subst hl1; subst hG1
  have hC : CxOK C cX10_witnessed 6 RX10 d := hC
  show UW C 6 μ 0 [(0, .ref (gad (cG C) k0)), (1, .int a1), (2, .int a2)] []
  have lw5 : ∀ (e : (Int32)) (s : Int32 × Int32), lp (fun s => f_X10_witnessed_l5 μ k0 a1 a2 s.1 s.2) FU s = some e → (fun (e : (Int32)) => UW C 6 μ 70 [(3, .int e)] []) e → UW C 6 μ 5 [(0, .ref (gad (cG C) k0)), (1, .int a1), (2, .int a2), (3, .int s.1), (4, .int s.2)] [] := by
    intro e s hl hE0
    refine @lp_walk (Int32 × Int32) (Int32) (fun s => f_X10_witnessed_l5 μ k0 a1 a2 s.1 s.2) (fun s => UW C 6 μ 5 [(0, .ref (gad (cG C) k0)), (1, .int a1), (2, .int a2), (3, .int s.1), (4, .int s.2)] []) (fun (e : (Int32)) => UW C 6 μ 70 [(3, .int e)] []) (fun s y5 h hP5 hE5 => ?_) FU s e hl hE0
    obtain ⟨v3_5, v4_5⟩ := s
    replace h : f_X10_witnessed_l5 μ k0 a1 a2 v3_5 v4_5 = some y5 := h
    show UW C 6 μ 5 [(0, .ref (gad (cG C) k0)), (1, .int a1), (2, .int a2), (3, .int v3_5), (4, .int v4_5)] []
    unfold f_X10_witnessed_l5 at h
    refine u_iload (pc := 5) hC dX10_witnessed_5 4 rfl ?_
    refine u_aload_n (pc := 7) hC dX10_witnessed_7 rfl 0 rfl ?_
    refine g_RX10_12 (pc := 8) hC hk0 dX10_witnessed_8 ?_
    refine g_RX10_112 (pc := 11) hC (rs_10_0 hk0) dX10_witnessed_11 ?_
    refine u_icmp_ge (pc := 14) hC (tgt := 70) dX10_witnessed_14 (by decide) (fun c14 => ?_) (fun c14 => ?_)
    · replace h := of_t c14 h
      obtain rfl := Option.some.inj h
      refine u_sub [3] rfl ?_
      exact hE5 v3_5 rfl
    · replace h := of_f c14 h
      refine u_aload_n (pc := 17) hC dX10_witnessed_17 rfl 0 rfl ?_
      refine g_RX10_35 (pc := 18) hC hk0 dX10_witnessed_18 ?_
      refine u_iload (pc := 21) hC dX10_witnessed_21 4 rfl ?_
      obtain ⟨r23, q23, h⟩ := of_bd h
      refine k_RX10_113 (pc := 23) hC (av := [.int v4_5]) (rest := []) (c_X8_firstWeekOf (d := d - 1) (by omega) (rs_10_3 hk0) q23) (by omega) (Nat.le_of_ble_eq_true rfl) (rs_10_3 hk0) rfl rfl dX10_witnessed_23 ?_
      refine u_istore (pc := 26) hC dX10_witnessed_26 [(5, .int r23), (0, .ref (gad (cG C) k0)), (1, .int a1), (2, .int a2), (3, .int v3_5), (4, .int v4_5)] (by decide) rfl ?_
      refine u_aload_n (pc := 28) hC dX10_witnessed_28 rfl 1 rfl ?_
      refine g_RX10_12 (pc := 29) hC hk0 dX10_witnessed_29 ?_
      refine g_RX10_117 (pc := 32) hC (rs_10_0 hk0) dX10_witnessed_32 ?_
      refine u_iload (pc := 35) hC dX10_witnessed_35 5 rfl ?_
      obtain ⟨b37, h⟩ := of_gd h
      refine u_iald (pc := 37) hC (rs_1_4 (rs_10_0 hk0)) 8 (rn_1_4 (rs_10_0 hk0)) b37 dX10_witnessed_37 ?_
      refine u_iload_n (pc := 38) hC dX10_witnessed_38 rfl 2 rfl ?_
      refine u_ishr (pc := 39) hC dX10_witnessed_39 ?_
      refine u_iconst (pc := 40) hC ic_1 dX10_witnessed_40 ?_
      refine u_iand (pc := 41) hC dX10_witnessed_41 ?_
      refine u_iconst (pc := 42) hC ic_1 dX10_witnessed_42 ?_
      refine u_icmp_ne (pc := 43) hC (tgt := 64) dX10_witnessed_43 (by decide) (fun c43 => ?_) (fun c43 => ?_)
      · replace h := of_t c43 h
        refine u_iinc (pc := 64) hC dX10_witnessed_64 5 rfl (v4_5 + 1) rfl [(4, .int (v4_5 + 1)), (5, .int r23), (0, .ref (gad (cG C) k0)), (1, .int a1), (2, .int a2), (3, .int v3_5)] (by decide) rfl ?_
        refine u_goto (pc := 67) hC 5 dX10_witnessed_67 (by decide) ?_
        obtain rfl := Option.some.inj h
        refine u_sub [2, 3, 4, 5, 0] rfl ?_
        exact hP5 (v3_5, v4_5 + 1) rfl
      · replace h := of_f (fun q => q c43) h
        refine u_iload (pc := 46) hC dX10_witnessed_46 0 rfl ?_
        refine u_if_lt (pc := 48) hC (tgt := 64) dX10_witnessed_48 (by decide) (fun c48 => ?_) (fun c48 => ?_)
        · replace h := of_t c48 h
          refine u_iinc (pc := 64) hC dX10_witnessed_64 5 rfl (v4_5 + 1) rfl [(4, .int (v4_5 + 1)), (5, .int r23), (0, .ref (gad (cG C) k0)), (1, .int a1), (2, .int a2), (3, .int v3_5)] (by decide) rfl ?_
          refine u_goto (pc := 67) hC 5 dX10_witnessed_67 (by decide) ?_
          obtain rfl := Option.some.inj h
          refine u_sub [2, 3, 4, 5, 0] rfl ?_
          exact hP5 (v3_5, v4_5 + 1) rfl
        · replace h := of_f c48 h
          refine u_iload (pc := 51) hC dX10_witnessed_51 0 rfl ?_
          refine u_iload_n (pc := 53) hC dX10_witnessed_53 rfl 3 rfl ?_
          refine u_icmp_gt (pc := 54) hC (tgt := 64) dX10_witnessed_54 (by decide) (fun c54 => ?_) (fun c54 => ?_)
          · replace h := of_t c54 h
            refine u_iinc (pc := 64) hC dX10_witnessed_64 5 rfl (v4_5 + 1) rfl [(4, .int (v4_5 + 1)), (5, .int r23), (0, .ref (gad (cG C) k0)), (1, .int a1), (2, .int a2), (3, .int v3_5)] (by decide) rfl ?_
            refine u_goto (pc := 67) hC 5 dX10_witnessed_67 (by decide) ?_
            obtain rfl := Option.some.inj h
            refine u_sub [2, 3, 4, 5, 0] rfl ?_
            exact hP5 (v3_5, v4_5 + 1) rfl
          · replace h := of_f c54 h
            refine u_iload_n (pc := 57) hC dX10_witnessed_57 rfl 4 rfl ?_
            refine u_iconst (pc := 58) hC ic_1 dX10_witnessed_58 ?_
            refine u_iload (pc := 59) hC dX10_witnessed_59 5 rfl ?_
            refine u_ishl (pc := 61) hC dX10_witnessed_61 ?_
            refine u_ior (pc := 62) hC dX10_witnessed_62 ?_
            refine u_istore_n (pc := 63) hC dX10_witnessed_63 rfl [(3, .int (v3_5 ||| (jshl (1 : Int32) v4_5))), (5, .int r23), (0, .ref (gad (cG C) k0)), (1, .int a1), (2, .int a2), (4, .int v4_5)] (by decide) rfl ?_
            refine u_iinc (pc := 64) hC dX10_witnessed_64 5 rfl (v4_5 + 1) rfl [(4, .int (v4_5 + 1)), (3, .int (v3_5 ||| (jshl (1 : Int32) v4_5))), (5, .int r23), (0, .ref (gad (cG C) k0)), (1, .int a1), (2, .int a2)] (by decide) rfl ?_
            refine u_goto (pc := 67) hC 5 dX10_witnessed_67 (by decide) ?_
            obtain rfl := Option.some.inj h
            refine u_sub [3, 4, 5, 1, 0] rfl ?_
            exact hP5 (v3_5 ||| (jshl (1 : Int32) v4_5), v4_5 + 1) rfl
  unfold f_X10_witnessed at h
  refine u_iconst (pc := 0) hC ic_0 dX10_witnessed_0 ?_
  refine u_istore_n (pc := 1) hC dX10_witnessed_1 rfl [(3, .int (0 : Int32)), (0, .ref (gad (cG C) k0)), (1, .int a1), (2, .int a2)] (by decide) rfl ?_
  refine u_iconst (pc := 2) hC ic_0 dX10_witnessed_2 ?_
  refine u_istore (pc := 3) hC dX10_witnessed_3 [(4, .int (0 : Int32)), (3, .int (0 : Int32)), (0, .ref (gad (cG C) k0)), (1, .int a1), (2, .int a2)] (by decide) rfl ?_
  obtain ⟨e5, l5, h⟩ := of_bd h
  refine u_sub [2, 3, 4, 1, 0] rfl ?_
  refine lw5  e5 ((0 : Int32), (0 : Int32)) l5 ?_
  show UW C 6 μ 70 [(3, .int e5)] []
  refine u_iload_n (pc := 70) hC dX10_witnessed_70 rfl 0 rfl ?_
  obtain rfl := Option.some.inj h
  exact u_iret (pc := 71) hC hQ hr ⟨rfl, rfl⟩ dX10_witnessed_71
set_option maxHeartbeats 4000000 in
set_option maxRecDepth 100000 in
theorem c_X10_gatherKnown {l : Launch} {G : GG} {d : Nat} (hd : 2 ≤ d) {μ : Mem} {k0 : Nat} (hk0 : isC 10 k0) {a1 : Int32} {k2 : Nat} (hk2 : isC 13 k2) {r : Mem} (h : f_X10_gatherKnown μ k0 a1 k2 = some r) : CT l yX10_gatherKnown cX10_gatherKnown 8 none d G [.ref (gad G k0), .int a1, .ref (gad G k2)] μ (RK none r) := by
  refine ct_start (by decide) (Nat.le_of_ble_eq_true rfl) (fun C hl1 hG1 hC hQ hr => ?_)
  subst hl1; subst hG1
  have hC : CxOK C cX10_gatherKnown 8 RX10 d := hC
  show UW C 8 μ 0 [(0, .ref (gad (cG C) k0)), (1, .int a1), (2, .ref (gad (cG C) k2))] []
  have lw113 : ∀ (e : (Mem)) (s : Int32 × Mem), lp (fun s => f_X10_gatherKnown_l113 k0 a1 k2 s.1 s.2) FU s = some e → (fun (e : (Mem)) => UW C 8 e 136 [] []) e → UW C 8 s.2 113 [(0, .ref (gad (cG C) k0)), (1, .int a1), (2, .ref (gad (cG C) k2)), (3, .int s.1)] [] := by
    intro e s hl hE0
    refine @lp_walk (Int32 × Mem) (Mem) (fun s => f_X10_gatherKnown_l113 k0 a1 k2 s.1 s.2) (fun s => UW C 8 s.2 113 [(0, .ref (gad (cG C) k0)), (1, .int a1), (2, .ref (gad (cG C) k2)), (3, .int s.1)] []) (fun (e : (Mem)) => UW C 8 e 136 [] []) (fun s y113 h hP113 hE113 => ?_) FU s e hl hE0
    obtain ⟨v3_113, μ_113⟩ := s
    replace h : f_X10_gatherKnown_l113 k0 a1 k2 v3_113 μ_113 = some y113 := h
    show UW C 8 μ_113 113 [(0, .ref (gad (cG C) k0)), (1, .int a1), (2, .ref (gad (cG C) k2)), (3, .int v3_113)] []
    unfold f_X10_gatherKnown_l113 at h
    refine u_iload_n (pc := 113) hC dX10_gatherKnown_113 rfl 3 rfl ?_
    refine u_iconst (pc := 114) hC ic_5 dX10_gatherKnown_114 ?_
    refine u_icmp_ge (pc := 115) hC (tgt := 136) dX10_gatherKnown_115 (by decide) (fun c115 => ?_) (fun c115 => ?_)
    · replace h := of_t c115 h
      obtain rfl := Option.some.inj h
      refine u_sub [] rfl ?_
      exact hE113 μ_113 rfl
    · replace h := of_f c115 h
      refine u_aload_n (pc := 118) hC dX10_gatherKnown_118 rfl 2 rfl ?_
      refine u_iload_n (pc := 119) hC dX10_gatherKnown_119 rfl 3 rfl ?_
      refine u_dup2 (pc := 120) hC rfl rfl dX10_gatherKnown_120 ?_
      obtain ⟨b121, h⟩ := of_gd h
      refine u_iald (pc := 121) hC hk2 (ln k2) rfl b121 dX10_gatherKnown_121 ?_
      refine u_aload_n (pc := 122) hC dX10_gatherKnown_122 rfl 0 rfl ?_
      refine u_iload_n (pc := 123) hC dX10_gatherKnown_123 rfl 3 rfl ?_
      refine u_iload_n (pc := 124) hC dX10_gatherKnown_124 rfl 1 rfl ?_
      obtain ⟨r125, q125, h⟩ := of_bd h
      refine k_RX10_135 (pc := 125) hC (av := [.int v3_113, .int a1]) (rest := [.int (rd μ_113 k2 v3_113.toNatClampNeg), .int v3_113, .ref (gad (cG C) k2)]) (c_X10_witnessed (d := d - 1) (by omega) hk0 q125) (by omega) (Nat.le_of_ble_eq_true rfl) hk0 rfl rfl dX10_gatherKnown_125 ?_
      refine u_ior (pc := 128) hC dX10_gatherKnown_128 ?_
      obtain ⟨b129, h⟩ := of_gd h
      obtain ⟨m129, q129, h⟩ := of_bd h
      refine u_iast (pc := 129) hC hk2 (ln k2) rfl b129 dX10_gatherKnown_129 (Option.some.inj q129) ?_
      refine u_iinc (pc := 130) hC dX10_gatherKnown_130 3 rfl (v3_113 + 1) rfl [(3, .int (v3_113 + 1)), (0, .ref (gad (cG C) k0)), (1, .int a1), (2, .ref (gad (cG C) k2))] (by decide) rfl ?_
      refine u_goto (pc := 133) hC 113 dX10_gatherKnown_133 (by decide) ?_
      obtain rfl := Option.some.inj h
      refine u_sub [1, 2, 3, 0] rfl ?_
      exact hP113 (v3_113 + 1, m129) rfl
  have jb111 : ∀ (μ_111 : Mem), f_X10_gatherKnown_j111 μ_111 k0 a1 k2 = some r → UW C 8 μ_111 111 [(0, .ref (gad (cG C) k0)), (1, .int a1), (2, .ref (gad (cG C) k2))] [] := by
    intro μ_111 h
    unfold f_X10_gatherKnown_j111 at h
    refine u_iconst (pc := 111) hC ic_0 dX10_gatherKnown_111 ?_
    refine u_istore_n (pc := 112) hC dX10_gatherKnown_112 rfl [(3, .int (0 : Int32)), (0, .ref (gad (cG C) k0)), (1, .int a1), (2, .ref (gad (cG C) k2))] (by decide) rfl ?_
    obtain ⟨e113, l113, h⟩ := of_bd h
    refine u_sub [1, 2, 3, 0] rfl ?_
    refine lw113  e113 ((0 : Int32), μ_111) l113 ?_
    show UW C 8 e113 136 [] []
    obtain rfl := Option.some.inj h
    exact u_vret (pc := 136) hC hQ hr ⟨rfl, rfl⟩ dX10_gatherKnown_136
  have lw7 : ∀ (e : (Mem)) (s : Int32 × Mem), lp (fun s => f_X10_gatherKnown_l7 k0 a1 k2 s.1 s.2) FU s = some e → (fun (e : (Mem)) => UW C 8 e 111 [(0, .ref (gad (cG C) k0)), (1, .int a1), (2, .ref (gad (cG C) k2))] []) e → UW C 8 s.2 7 [(0, .ref (gad (cG C) k0)), (1, .int a1), (2, .ref (gad (cG C) k2)), (3, .int s.1)] [] := by
    intro e s hl hE0
    refine @lp_walk (Int32 × Mem) (Mem) (fun s => f_X10_gatherKnown_l7 k0 a1 k2 s.1 s.2) (fun s => UW C 8 s.2 7 [(0, .ref (gad (cG C) k0)), (1, .int a1), (2, .ref (gad (cG C) k2)), (3, .int s.1)] []) (fun (e : (Mem)) => UW C 8 e 111 [(0, .ref (gad (cG C) k0)), (1, .int a1), (2, .ref (gad (cG C) k2))] []) (fun s y7 h hP7 hE7 => ?_) FU s e hl hE0
    obtain ⟨v3_7, μ_7⟩ := s
    replace h : f_X10_gatherKnown_l7 k0 a1 k2 v3_7 μ_7 = some y7 := h
    show UW C 8 μ_7 7 [(0, .ref (gad (cG C) k0)), (1, .int a1), (2, .ref (gad (cG C) k2)), (3, .int v3_7)] []
    unfold f_X10_gatherKnown_l7 at h
    refine u_iload_n (pc := 7) hC dX10_gatherKnown_7 rfl 3 rfl ?_
    refine u_aload_n (pc := 8) hC dX10_gatherKnown_8 rfl 0 rfl ?_
    refine g_RX10_42 (pc := 9) hC hk0 dX10_gatherKnown_9 ?_
    refine g_RX10_125 (pc := 12) hC (rs_10_4 hk0) dX10_gatherKnown_12 ?_
    refine u_icmp_ge (pc := 15) hC (tgt := 111) dX10_gatherKnown_15 (by decide) (fun c15 => ?_) (fun c15 => ?_)
    · replace h := of_t c15 h
      obtain rfl := Option.some.inj h
      refine u_sub [0, 1, 2] rfl ?_
      exact hE7 μ_7 rfl
    · replace h := of_f c15 h
      refine u_aload_n (pc := 18) hC dX10_gatherKnown_18 rfl 0 rfl ?_
      refine g_RX10_42 (pc := 19) hC hk0 dX10_gatherKnown_19 ?_
      refine g_RX10_126 (pc := 22) hC (rs_10_4 hk0) dX10_gatherKnown_22 ?_
      refine u_iload_n (pc := 25) hC dX10_gatherKnown_25 rfl 3 rfl ?_
      obtain ⟨b26, h⟩ := of_gd h
      refine u_iald (pc := 26) hC (rs_3_0 (rs_10_4 hk0)) 12 (rn_3_0 (rs_10_4 hk0)) b26 dX10_gatherKnown_26 ?_
      refine u_iload_n (pc := 27) hC dX10_gatherKnown_27 rfl 1 rfl ?_
      refine u_icmp_gt (pc := 28) hC (tgt := 111) dX10_gatherKnown_28 (by decide) (fun c28 => ?_) (fun c28 => ?_)
      · replace h := of_t c28 h
        obtain rfl := Option.some.inj h
        refine u_sub [0, 1, 2] rfl ?_
        exact hE7 μ_7 rfl
      · replace h := of_f c28 h
        refine u_aload_n (pc := 31) hC dX10_gatherKnown_31 rfl 0 rfl ?_
        refine g_RX10_42 (pc := 32) hC hk0 dX10_gatherKnown_32 ?_
        refine g_RX10_129 (pc := 35) hC (rs_10_4 hk0) dX10_gatherKnown_35 ?_
        refine u_iload_n (pc := 38) hC dX10_gatherKnown_38 rfl 3 rfl ?_
        obtain ⟨b39, h⟩ := of_gd h
        refine u_iald (pc := 39) hC (rs_3_1 (rs_10_4 hk0)) 12 (rn_3_1 (rs_10_4 hk0)) b39 dX10_gatherKnown_39 ?_
        refine u_istore (pc := 40) hC dX10_gatherKnown_40 [(4, .int (rd μ_7 (rf (rf k0 4) 1) v3_7.toNatClampNeg)), (0, .ref (gad (cG C) k0)), (1, .int a1), (2, .ref (gad (cG C) k2)), (3, .int v3_7)] (by decide) rfl ?_
        refine u_aload_n (pc := 42) hC dX10_gatherKnown_42 rfl 1 rfl ?_
        refine g_RX10_42 (pc := 43) hC hk0 dX10_gatherKnown_43 ?_
        refine g_RX10_132 (pc := 46) hC (rs_10_4 hk0) dX10_gatherKnown_46 ?_
        refine u_iload_n (pc := 49) hC dX10_gatherKnown_49 rfl 4 rfl ?_
        obtain ⟨b50, h⟩ := of_gd h
        refine u_iald (pc := 50) hC (rs_3_2 (rs_10_4 hk0)) 12 (rn_3_2 (rs_10_4 hk0)) b50 dX10_gatherKnown_50 ?_
        refine u_istore (pc := 51) hC dX10_gatherKnown_51 [(5, .int (rd μ_7 (rf (rf k0 4) 2) v3_7.toNatClampNeg)), (4, .int (rd μ_7 (rf (rf k0 4) 1) v3_7.toNatClampNeg)), (0, .ref (gad (cG C) k0)), (1, .int a1), (2, .ref (gad (cG C) k2)), (3, .int v3_7)] (by decide) rfl ?_
        refine u_aload_n (pc := 53) hC dX10_gatherKnown_53 rfl 2 rfl ?_
        refine g_RX10_42 (pc := 54) hC hk0 dX10_gatherKnown_54 ?_
        refine g_RX10_126 (pc := 57) hC (rs_10_4 hk0) dX10_gatherKnown_57 ?_
        refine u_iload_n (pc := 60) hC dX10_gatherKnown_60 rfl 5 rfl ?_
        obtain ⟨b61, h⟩ := of_gd h
        refine u_iald (pc := 61) hC (rs_3_0 (rs_10_4 hk0)) 12 (rn_3_0 (rs_10_4 hk0)) b61 dX10_gatherKnown_61 ?_
        refine u_istore (pc := 62) hC dX10_gatherKnown_62 [(6, .int (rd μ_7 (rf (rf k0 4) 0) v3_7.toNatClampNeg)), (5, .int (rd μ_7 (rf (rf k0 4) 2) v3_7.toNatClampNeg)), (4, .int (rd μ_7 (rf (rf k0 4) 1) v3_7.toNatClampNeg)), (0, .ref (gad (cG C) k0)), (1, .int a1), (2, .ref (gad (cG C) k2)), (3, .int v3_7)] (by decide) rfl ?_
        refine u_aload_n (pc := 64) hC dX10_gatherKnown_64 rfl 5 rfl ?_
        refine u_iload (pc := 65) hC dX10_gatherKnown_65 2 rfl ?_
        obtain ⟨b67, h⟩ := of_gd h
        refine u_iald (pc := 67) hC hk2 (ln k2) rfl b67 dX10_gatherKnown_67 ?_
        refine u_aload_n (pc := 68) hC dX10_gatherKnown_68 rfl 5 rfl ?_
        refine u_iload (pc := 69) hC dX10_gatherKnown_69 1 rfl ?_
        obtain ⟨b71, h⟩ := of_gd h
        refine u_iald (pc := 71) hC hk2 (ln k2) rfl b71 dX10_gatherKnown_71 ?_
        refine u_ior (pc := 72) hC dX10_gatherKnown_72 ?_
        refine u_aload_n (pc := 73) hC dX10_gatherKnown_73 rfl 3 rfl ?_
        refine u_iload (pc := 74) hC dX10_gatherKnown_74 2 rfl ?_
        refine u_iload (pc := 76) hC dX10_gatherKnown_76 0 rfl ?_
        obtain ⟨r78, q78, h⟩ := of_bd h
        refine k_RX10_135 (pc := 78) hC (av := [.int (rd μ_7 (rf (rf k0 4) 1) v3_7.toNatClampNeg), .int (rd μ_7 (rf (rf k0 4) 0) v3_7.toNatClampNeg)]) (rest := [.int ((rd μ_7 k2 (rd μ_7 (rf (rf k0 4) 1) v3_7.toNatClampNeg).toNatClampNeg) ||| (rd μ_7 k2 (rd μ_7 (rf (rf k0 4) 2) v3_7.toNatClampNeg).toNatClampNeg))]) (c_X10_witnessed (d := d - 1) (by omega) hk0 q78) (by omega) (Nat.le_of_ble_eq_true rfl) hk0 rfl rfl dX10_gatherKnown_78 ?_
        refine u_ior (pc := 81) hC dX10_gatherKnown_81 ?_
        refine u_aload_n (pc := 82) hC dX10_gatherKnown_82 rfl 3 rfl ?_
        refine u_iload (pc := 83) hC dX10_gatherKnown_83 1 rfl ?_
        refine u_iload (pc := 85) hC dX10_gatherKnown_85 0 rfl ?_
        obtain ⟨r87, q87, h⟩ := of_bd h
        refine k_RX10_135 (pc := 87) hC (av := [.int (rd μ_7 (rf (rf k0 4) 2) v3_7.toNatClampNeg), .int (rd μ_7 (rf (rf k0 4) 0) v3_7.toNatClampNeg)]) (rest := [.int (((rd μ_7 k2 (rd μ_7 (rf (rf k0 4) 1) v3_7.toNatClampNeg).toNatClampNeg) ||| (rd μ_7 k2 (rd μ_7 (rf (rf k0 4) 2) v3_7.toNatClampNeg).toNatClampNeg)) ||| r78)]) (c_X10_witnessed (d := d - 1) (by omega) hk0 q87) (by omega) (Nat.le_of_ble_eq_true rfl) hk0 rfl rfl dX10_gatherKnown_87 ?_
        refine u_ior (pc := 90) hC dX10_gatherKnown_90 ?_
        refine u_istore (pc := 91) hC dX10_gatherKnown_91 [(7, .int ((((rd μ_7 k2 (rd μ_7 (rf (rf k0 4) 1) v3_7.toNatClampNeg).toNatClampNeg) ||| (rd μ_7 k2 (rd μ_7 (rf (rf k0 4) 2) v3_7.toNatClampNeg).toNatClampNeg)) ||| r78) ||| r87)), (6, .int (rd μ_7 (rf (rf k0 4) 0) v3_7.toNatClampNeg)), (5, .int (rd μ_7 (rf (rf k0 4) 2) v3_7.toNatClampNeg)), (4, .int (rd μ_7 (rf (rf k0 4) 1) v3_7.toNatClampNeg)), (0, .ref (gad (cG C) k0)), (1, .int a1), (2, .ref (gad (cG C) k2)), (3, .int v3_7)] (by decide) rfl ?_
        refine u_aload_n (pc := 93) hC dX10_gatherKnown_93 rfl 6 rfl ?_
        refine u_iload (pc := 94) hC dX10_gatherKnown_94 3 rfl ?_
        refine u_iload (pc := 96) hC dX10_gatherKnown_96 0 rfl ?_
        obtain ⟨b98, h⟩ := of_gd h
        obtain ⟨m98, q98, h⟩ := of_bd h
        refine u_iast (pc := 98) hC hk2 (ln k2) rfl b98 dX10_gatherKnown_98 (Option.some.inj q98) ?_
        refine u_aload_n (pc := 99) hC dX10_gatherKnown_99 rfl 6 rfl ?_
        refine u_iload (pc := 100) hC dX10_gatherKnown_100 2 rfl ?_
        refine u_iload (pc := 102) hC dX10_gatherKnown_102 0 rfl ?_
        obtain ⟨b104, h⟩ := of_gd h
        obtain ⟨m104, q104, h⟩ := of_bd h
        refine u_iast (pc := 104) hC hk2 (ln k2) rfl b104 dX10_gatherKnown_104 (Option.some.inj q104) ?_
        refine u_iinc (pc := 105) hC dX10_gatherKnown_105 7 rfl (v3_7 + 1) rfl [(3, .int (v3_7 + 1)), (7, .int ((((rd μ_7 k2 (rd μ_7 (rf (rf k0 4) 1) v3_7.toNatClampNeg).toNatClampNeg) ||| (rd μ_7 k2 (rd μ_7 (rf (rf k0 4) 2) v3_7.toNatClampNeg).toNatClampNeg)) ||| r78) ||| r87)), (6, .int (rd μ_7 (rf (rf k0 4) 0) v3_7.toNatClampNeg)), (5, .int (rd μ_7 (rf (rf k0 4) 2) v3_7.toNatClampNeg)), (4, .int (rd μ_7 (rf (rf k0 4) 1) v3_7.toNatClampNeg)), (0, .ref (gad (cG C) k0)), (1, .int a1), (2, .ref (gad (cG C) k2))] (by decide) rfl ?_
        refine u_goto (pc := 108) hC 7 dX10_gatherKnown_108 (by decide) ?_
        obtain rfl := Option.some.inj h
        refine u_sub [5, 6, 7, 0] rfl ?_
        exact hP7 (v3_7 + 1, m104) rfl
  unfold f_X10_gatherKnown at h
  refine u_aload_n (pc := 0) hC dX10_gatherKnown_0 rfl 2 rfl ?_
  refine u_iconst (pc := 1) hC ic_0 dX10_gatherKnown_1 ?_
  obtain ⟨μ2, q2, h⟩ := of_bd h
  refine k_RX10_120 (pc := 2) hC (av := [.ref (gad (cG C) k2), .int (0 : Int32)]) (rest := []) (c_J7_fill_53178 (d := d - 1) (by omega) hk2 q2) (by omega) (Nat.le_of_ble_eq_true rfl) rfl rfl dX10_gatherKnown_2 ?_
  refine u_iconst (pc := 5) hC ic_0 dX10_gatherKnown_5 ?_
  refine u_istore_n (pc := 6) hC dX10_gatherKnown_6 rfl [(3, .int (0 : Int32)), (0, .ref (gad (cG C) k0)), (1, .int a1), (2, .ref (gad (cG C) k2))] (by decide) rfl ?_
  obtain ⟨e7, l7, h⟩ := of_bd h
  refine u_sub [1, 2, 3, 0] rfl ?_
  refine lw7  e7 ((0 : Int32), μ2) l7 ?_
  show UW C 8 e7 111 [(0, .ref (gad (cG C) k0)), (1, .int a1), (2, .ref (gad (cG C) k2))] []
  exact jb111 e7 h
set_option maxHeartbeats 4000000 in
set_option maxRecDepth 100000 in
theorem c_X10_gatherFirstWeeks {l : Launch} {G : GG} {d : Nat} (hd : 1 ≤ d) {μ : Mem} {k0 : Nat} (hk0 : isC 10 k0) {a1 : Int32} {k2 : Nat} (hk2 : isC 13 k2) {r : Mem} (h : f_X10_gatherFirstWeeks μ k0 a1 k2 = some r) : CT l yX10_gatherFirstWeeks cX10_gatherFirstWeeks 8 none d G [.ref (gad G k0), .int a1, .ref (gad G k2)] μ (RK none r) := by
  refine ct_start (by decide) (Nat.le_of_ble_eq_true rfl) (fun C hl1 hG1 hC hQ hr => ?_)
  subst hl1; subst hG1
  have hC : CxOK C cX10_gatherFirstWeeks 8 RX10 d := hC
  show UW C 8 μ 0 [(0, .ref (gad (cG C) k0)), (1, .int a1), (2, .ref (gad (cG C) k2))] []
  have lw72 : ∀ (e : (Mem)) (s : Int32 × Mem), lp (fun s => f_X10_gatherFirstWeeks_l72 k0 a1 k2 s.1 s.2) FU s = some e → (fun (e : (Mem)) => UW C 8 e 170 [] []) e → UW C 8 s.2 72 [(0, .ref (gad (cG C) k0)), (2, .ref (gad (cG C) k2)), (4, .int s.1)] [] := by
    intro e s hl hE0
    refine @lp_walk (Int32 × Mem) (Mem) (fun s => f_X10_gatherFirstWeeks_l72 k0 a1 k2 s.1 s.2) (fun s => UW C 8 s.2 72 [(0, .ref (gad (cG C) k0)), (2, .ref (gad (cG C) k2)), (4, .int s.1)] []) (fun (e : (Mem)) => UW C 8 e 170 [] []) (fun s y72 h hP72 hE72 => ?_) FU s e hl hE0
    have jb138 : ∀ (μ_138 : Mem) (v4_138 : Int32) (v5_138 : Int32) (v6_138 : Int32) (v7_138 : Int32), f_X10_gatherFirstWeeks_j138 μ_138 k0 a1 k2 v4_138 v5_138 v6_138 v7_138 = some y72 → UW C 8 μ_138 138 [(0, .ref (gad (cG C) k0)), (2, .ref (gad (cG C) k2)), (4, .int v4_138), (5, .int v5_138), (6, .int v6_138), (7, .int v7_138)] [] := by
      intro μ_138 v4_138 v5_138 v6_138 v7_138 h
      unfold f_X10_gatherFirstWeeks_j138 at h
      refine u_aload_n (pc := 138) hC dX10_gatherFirstWeeks_138 rfl 1 rfl ?_
      refine u_iload (pc := 139) hC dX10_gatherFirstWeeks_139 3 rfl ?_
      refine u_aload_n (pc := 141) hC dX10_gatherFirstWeeks_141 rfl 1 rfl ?_
      refine u_iload (pc := 142) hC dX10_gatherFirstWeeks_142 3 rfl ?_
      obtain ⟨b144, h⟩ := of_gd h
      refine u_iald (pc := 144) hC hk2 (ln k2) rfl b144 dX10_gatherFirstWeeks_144 ?_
      refine u_iload (pc := 145) hC dX10_gatherFirstWeeks_145 5 rfl ?_
      refine u_mmin (pc := 147) hC mL_RX10_139 mK_min mI_RJ9 mB_min (Nat.le_of_ble_eq_true rfl) dX10_gatherFirstWeeks_147 ?_
      obtain ⟨b150, h⟩ := of_gd h
      obtain ⟨m150, q150, h⟩ := of_bd h
      refine u_iast (pc := 150) hC hk2 (ln k2) rfl b150 dX10_gatherFirstWeeks_150 (Option.some.inj q150) ?_
      refine u_aload_n (pc := 151) hC dX10_gatherFirstWeeks_151 rfl 1 rfl ?_
      refine u_iload (pc := 152) hC dX10_gatherFirstWeeks_152 4 rfl ?_
      refine u_aload_n (pc := 154) hC dX10_gatherFirstWeeks_154 rfl 1 rfl ?_
      refine u_iload (pc := 155) hC dX10_gatherFirstWeeks_155 4 rfl ?_
      obtain ⟨b157, h⟩ := of_gd h
      refine u_iald (pc := 157) hC hk2 (ln k2) rfl b157 dX10_gatherFirstWeeks_157 ?_
      refine u_iload (pc := 158) hC dX10_gatherFirstWeeks_158 5 rfl ?_
      refine u_mmin (pc := 160) hC mL_RX10_139 mK_min mI_RJ9 mB_min (Nat.le_of_ble_eq_true rfl) dX10_gatherFirstWeeks_160 ?_
      obtain ⟨b163, h⟩ := of_gd h
      obtain ⟨m163, q163, h⟩ := of_bd h
      refine u_iast (pc := 163) hC hk2 (ln k2) rfl b163 dX10_gatherFirstWeeks_163 (Option.some.inj q163) ?_
      refine u_iinc (pc := 164) hC dX10_gatherFirstWeeks_164 2 rfl (v4_138 + 1) rfl [(4, .int (v4_138 + 1)), (0, .ref (gad (cG C) k0)), (2, .ref (gad (cG C) k2)), (5, .int v5_138), (6, .int v6_138), (7, .int v7_138)] (by decide) rfl ?_
      refine u_goto (pc := 167) hC 72 dX10_gatherFirstWeeks_167 (by decide) ?_
      obtain rfl := Option.some.inj h
      refine u_sub [1, 2, 0] rfl ?_
      exact hP72 (v4_138 + 1, m163) rfl
    obtain ⟨v4_72, μ_72⟩ := s
    replace h : f_X10_gatherFirstWeeks_l72 k0 a1 k2 v4_72 μ_72 = some y72 := h
    show UW C 8 μ_72 72 [(0, .ref (gad (cG C) k0)), (2, .ref (gad (cG C) k2)), (4, .int v4_72)] []
    unfold f_X10_gatherFirstWeeks_l72 at h
    refine u_iload (pc := 72) hC dX10_gatherFirstWeeks_72 2 rfl ?_
    refine u_aload_n (pc := 74) hC dX10_gatherFirstWeeks_74 rfl 0 rfl ?_
    refine g_RX10_42 (pc := 75) hC hk0 dX10_gatherFirstWeeks_75 ?_
    refine g_RX10_125 (pc := 78) hC (rs_10_4 hk0) dX10_gatherFirstWeeks_78 ?_
    refine u_icmp_ge (pc := 81) hC (tgt := 170) dX10_gatherFirstWeeks_81 (by decide) (fun c81 => ?_) (fun c81 => ?_)
    · replace h := of_t c81 h
      obtain rfl := Option.some.inj h
      refine u_sub [] rfl ?_
      exact hE72 μ_72 rfl
    · replace h := of_f c81 h
      refine u_aload_n (pc := 84) hC dX10_gatherFirstWeeks_84 rfl 0 rfl ?_
      refine g_RX10_42 (pc := 85) hC hk0 dX10_gatherFirstWeeks_85 ?_
      refine g_RX10_129 (pc := 88) hC (rs_10_4 hk0) dX10_gatherFirstWeeks_88 ?_
      refine u_iload (pc := 91) hC dX10_gatherFirstWeeks_91 2 rfl ?_
      obtain ⟨b93, h⟩ := of_gd h
      refine u_iald (pc := 93) hC (rs_3_1 (rs_10_4 hk0)) 12 (rn_3_1 (rs_10_4 hk0)) b93 dX10_gatherFirstWeeks_93 ?_
      refine u_istore (pc := 94) hC dX10_gatherFirstWeeks_94 [(5, .int (rd μ_72 (rf (rf k0 4) 1) v4_72.toNatClampNeg)), (0, .ref (gad (cG C) k0)), (2, .ref (gad (cG C) k2)), (4, .int v4_72)] (by decide) rfl ?_
      refine u_aload_n (pc := 96) hC dX10_gatherFirstWeeks_96 rfl 1 rfl ?_
      refine g_RX10_42 (pc := 97) hC hk0 dX10_gatherFirstWeeks_97 ?_
      refine g_RX10_132 (pc := 100) hC (rs_10_4 hk0) dX10_gatherFirstWeeks_100 ?_
      refine u_iload (pc := 103) hC dX10_gatherFirstWeeks_103 3 rfl ?_
      obtain ⟨b105, h⟩ := of_gd h
      refine u_iald (pc := 105) hC (rs_3_2 (rs_10_4 hk0)) 12 (rn_3_2 (rs_10_4 hk0)) b105 dX10_gatherFirstWeeks_105 ?_
      refine u_istore (pc := 106) hC dX10_gatherFirstWeeks_106 [(6, .int (rd μ_72 (rf (rf k0 4) 2) v4_72.toNatClampNeg)), (5, .int (rd μ_72 (rf (rf k0 4) 1) v4_72.toNatClampNeg)), (0, .ref (gad (cG C) k0)), (2, .ref (gad (cG C) k2)), (4, .int v4_72)] (by decide) rfl ?_
      refine u_aload_n (pc := 108) hC dX10_gatherFirstWeeks_108 rfl 2 rfl ?_
      refine g_RX10_42 (pc := 109) hC hk0 dX10_gatherFirstWeeks_109 ?_
      refine g_RX10_126 (pc := 112) hC (rs_10_4 hk0) dX10_gatherFirstWeeks_112 ?_
      refine u_iload (pc := 115) hC dX10_gatherFirstWeeks_115 4 rfl ?_
      obtain ⟨b117, h⟩ := of_gd h
      refine u_iald (pc := 117) hC (rs_3_0 (rs_10_4 hk0)) 12 (rn_3_0 (rs_10_4 hk0)) b117 dX10_gatherFirstWeeks_117 ?_
      refine u_istore (pc := 118) hC dX10_gatherFirstWeeks_118 [(7, .int (rd μ_72 (rf (rf k0 4) 0) v4_72.toNatClampNeg)), (6, .int (rd μ_72 (rf (rf k0 4) 2) v4_72.toNatClampNeg)), (5, .int (rd μ_72 (rf (rf k0 4) 1) v4_72.toNatClampNeg)), (0, .ref (gad (cG C) k0)), (2, .ref (gad (cG C) k2)), (4, .int v4_72)] (by decide) rfl ?_
      refine u_aload_n (pc := 120) hC dX10_gatherFirstWeeks_120 rfl 4 rfl ?_
      refine u_iload (pc := 121) hC dX10_gatherFirstWeeks_121 2 rfl ?_
      obtain ⟨b123, h⟩ := of_gd h
      refine u_iald (pc := 123) hC hk2 (ln k2) rfl b123 dX10_gatherFirstWeeks_123 ?_
      refine u_iload (pc := 124) hC dX10_gatherFirstWeeks_124 0 rfl ?_
      refine u_icmp_le (pc := 126) hC (tgt := 138) dX10_gatherFirstWeeks_126 (by decide) (fun c126 => ?_) (fun c126 => ?_)
      · replace h := of_t c126 h
        refine u_sub [3, 4, 5, 2, 1, 0] rfl ?_
        exact jb138 μ_72 v4_72 (rd μ_72 (rf (rf k0 4) 1) v4_72.toNatClampNeg) (rd μ_72 (rf (rf k0 4) 2) v4_72.toNatClampNeg) (rd μ_72 (rf (rf k0 4) 0) v4_72.toNatClampNeg) h
      · replace h := of_f c126 h
        refine u_aload_n (pc := 129) hC dX10_gatherFirstWeeks_129 rfl 4 rfl ?_
        refine u_iload (pc := 130) hC dX10_gatherFirstWeeks_130 1 rfl ?_
        obtain ⟨b132, h⟩ := of_gd h
        refine u_iald (pc := 132) hC hk2 (ln k2) rfl b132 dX10_gatherFirstWeeks_132 ?_
        refine u_iload (pc := 133) hC dX10_gatherFirstWeeks_133 0 rfl ?_
        refine u_icmp_gt (pc := 135) hC (tgt := 164) dX10_gatherFirstWeeks_135 (by decide) (fun c135 => ?_) (fun c135 => ?_)
        · replace h := of_t c135 h
          refine u_iinc (pc := 164) hC dX10_gatherFirstWeeks_164 5 rfl (v4_72 + 1) rfl [(4, .int (v4_72 + 1)), (7, .int (rd μ_72 (rf (rf k0 4) 0) v4_72.toNatClampNeg)), (6, .int (rd μ_72 (rf (rf k0 4) 2) v4_72.toNatClampNeg)), (5, .int (rd μ_72 (rf (rf k0 4) 1) v4_72.toNatClampNeg)), (0, .ref (gad (cG C) k0)), (2, .ref (gad (cG C) k2))] (by decide) rfl ?_
          refine u_goto (pc := 167) hC 72 dX10_gatherFirstWeeks_167 (by decide) ?_
          obtain rfl := Option.some.inj h
          refine u_sub [4, 5, 0] rfl ?_
          exact hP72 (v4_72 + 1, μ_72) rfl
        · replace h := of_f c135 h
          refine u_sub [3, 4, 5, 2, 1, 0] rfl ?_
          exact jb138 μ_72 v4_72 (rd μ_72 (rf (rf k0 4) 1) v4_72.toNatClampNeg) (rd μ_72 (rf (rf k0 4) 2) v4_72.toNatClampNeg) (rd μ_72 (rf (rf k0 4) 0) v4_72.toNatClampNeg) h
  have lw12 : ∀ (v3_12 : Int32) (e : (Mem)) (s : Int32 × Mem), lp (fun s => f_X10_gatherFirstWeeks_l12 k0 a1 k2 v3_12 s.1 s.2) FU s = some e → (fun (e : (Mem)) => UW C 8 e 69 [(0, .ref (gad (cG C) k0)), (2, .ref (gad (cG C) k2))] []) e → UW C 8 s.2 12 [(0, .ref (gad (cG C) k0)), (1, .int a1), (2, .ref (gad (cG C) k2)), (3, .int v3_12), (4, .int s.1)] [] := by
    intro v3_12 e s hl hE0
    refine @lp_walk (Int32 × Mem) (Mem) (fun s => f_X10_gatherFirstWeeks_l12 k0 a1 k2 v3_12 s.1 s.2) (fun s => UW C 8 s.2 12 [(0, .ref (gad (cG C) k0)), (1, .int a1), (2, .ref (gad (cG C) k2)), (3, .int v3_12), (4, .int s.1)] []) (fun (e : (Mem)) => UW C 8 e 69 [(0, .ref (gad (cG C) k0)), (2, .ref (gad (cG C) k2))] []) (fun s y12 h hP12 hE12 => ?_) FU s e hl hE0
    have jb62 : ∀ (μ_62 : Mem) (v4_62 : Int32) (kt0_62 : Nat) (hkt0_62 : isC 13 kt0_62) (vt1_62 : Int32) (vt2_62 : Int32), f_X10_gatherFirstWeeks_j62 μ_62 k0 a1 k2 v3_12 v4_62 kt0_62 vt1_62 vt2_62 = some y12 → UW C 8 μ_62 62 [(0, .ref (gad (cG C) k0)), (1, .int a1), (2, .ref (gad (cG C) k2)), (3, .int v3_12), (4, .int v4_62)] [.int vt2_62, .int vt1_62, .ref (gad (cG C) kt0_62)] := by
      intro μ_62 v4_62 kt0_62 hkt0_62 vt1_62 vt2_62 h
      unfold f_X10_gatherFirstWeeks_j62 at h
      obtain ⟨b62, h⟩ := of_gd h
      obtain ⟨m62, q62, h⟩ := of_bd h
      refine u_iast (pc := 62) hC hkt0_62 (ln kt0_62) rfl b62 dX10_gatherFirstWeeks_62 (Option.some.inj q62) ?_
      refine u_iinc (pc := 63) hC dX10_gatherFirstWeeks_63 4 rfl (v4_62 + 1) rfl [(4, .int (v4_62 + 1)), (0, .ref (gad (cG C) k0)), (1, .int a1), (2, .ref (gad (cG C) k2)), (3, .int v3_12)] (by decide) rfl ?_
      refine u_goto (pc := 66) hC 12 dX10_gatherFirstWeeks_66 (by decide) ?_
      obtain rfl := Option.some.inj h
      refine u_sub [1, 2, 3, 4, 0] rfl ?_
      exact hP12 (v4_62 + 1, m62) rfl
    have jb59 : ∀ (μ_59 : Mem) (v4_59 : Int32) (kt0_59 : Nat) (hkt0_59 : isC 13 kt0_59) (vt1_59 : Int32), f_X10_gatherFirstWeeks_j59 μ_59 k0 a1 k2 v3_12 v4_59 kt0_59 vt1_59 = some y12 → UW C 8 μ_59 59 [(0, .ref (gad (cG C) k0)), (1, .int a1), (2, .ref (gad (cG C) k2)), (3, .int v3_12), (4, .int v4_59)] [.int vt1_59, .ref (gad (cG C) kt0_59)] := by
      intro μ_59 v4_59 kt0_59 hkt0_59 vt1_59 h
      unfold f_X10_gatherFirstWeeks_j59 at h
      refine u_sipush (pc := 59) hC sc_1000 dX10_gatherFirstWeeks_59 ?_
      exact jb62 μ_59 v4_59 kt0_59 hkt0_59 vt1_59 (1000 : Int32) h
    have jb41 : ∀ (μ_41 : Mem) (v4_41 : Int32) (vt0_41 : Int32), f_X10_gatherFirstWeeks_j41 μ_41 k0 a1 k2 v3_12 v4_41 vt0_41 = some y12 → UW C 8 μ_41 41 [(0, .ref (gad (cG C) k0)), (1, .int a1), (2, .ref (gad (cG C) k2)), (3, .int v3_12), (4, .int v4_41)] [.int vt0_41] := by
      intro μ_41 v4_41 vt0_41 h
      unfold f_X10_gatherFirstWeeks_j41 at h
      refine u_istore (pc := 41) hC dX10_gatherFirstWeeks_41 [(5, .int vt0_41), (0, .ref (gad (cG C) k0)), (1, .int a1), (2, .ref (gad (cG C) k2)), (3, .int v3_12), (4, .int v4_41)] (by decide) rfl ?_
      refine u_aload_n (pc := 43) hC dX10_gatherFirstWeeks_43 rfl 3 rfl ?_
      refine u_iload (pc := 44) hC dX10_gatherFirstWeeks_44 5 rfl ?_
      refine u_iload (pc := 46) hC dX10_gatherFirstWeeks_46 0 rfl ?_
      refine u_if_eq (pc := 48) hC (tgt := 59) dX10_gatherFirstWeeks_48 (by decide) (fun c48 => ?_) (fun c48 => ?_)
      · replace h := of_t c48 h
        refine u_sub [1, 2, 3, 4, 5] rfl ?_
        exact jb59 μ_41 v4_41 k2 hk2 v4_41 h
      · replace h := of_f c48 h
        refine u_iload_n (pc := 51) hC dX10_gatherFirstWeeks_51 rfl 4 rfl ?_
        refine u_if_lt (pc := 52) hC (tgt := 59) dX10_gatherFirstWeeks_52 (by decide) (fun c52 => ?_) (fun c52 => ?_)
        · replace h := of_t c52 h
          refine u_sub [1, 2, 3, 4, 5] rfl ?_
          exact jb59 μ_41 v4_41 k2 hk2 v4_41 h
        · replace h := of_f c52 h
          refine u_iload_n (pc := 55) hC dX10_gatherFirstWeeks_55 rfl 4 rfl ?_
          refine u_goto (pc := 56) hC 62 dX10_gatherFirstWeeks_56 (by decide) ?_
          refine u_sub [1, 2, 3, 4, 5] rfl ?_
          exact jb62 μ_41 v4_41 k2 hk2 v4_41 v3_12 h
    obtain ⟨v4_12, μ_12⟩ := s
    replace h : f_X10_gatherFirstWeeks_l12 k0 a1 k2 v3_12 v4_12 μ_12 = some y12 := h
    show UW C 8 μ_12 12 [(0, .ref (gad (cG C) k0)), (1, .int a1), (2, .ref (gad (cG C) k2)), (3, .int v3_12), (4, .int v4_12)] []
    unfold f_X10_gatherFirstWeeks_l12 at h
    refine u_iload (pc := 12) hC dX10_gatherFirstWeeks_12 4 rfl ?_
    refine u_iconst (pc := 14) hC ic_5 dX10_gatherFirstWeeks_14 ?_
    refine u_icmp_ge (pc := 15) hC (tgt := 69) dX10_gatherFirstWeeks_15 (by decide) (fun c15 => ?_) (fun c15 => ?_)
    · replace h := of_t c15 h
      obtain rfl := Option.some.inj h
      refine u_sub [0, 2] rfl ?_
      exact hE12 μ_12 rfl
    · replace h := of_f c15 h
      refine u_aload_n (pc := 18) hC dX10_gatherFirstWeeks_18 rfl 0 rfl ?_
      refine g_RX10_12 (pc := 19) hC hk0 dX10_gatherFirstWeeks_19 ?_
      refine g_RX10_117 (pc := 22) hC (rs_10_0 hk0) dX10_gatherFirstWeeks_22 ?_
      refine u_iload_n (pc := 25) hC dX10_gatherFirstWeeks_25 rfl 1 rfl ?_
      obtain ⟨b26, h⟩ := of_gd h
      refine u_iald (pc := 26) hC (rs_1_4 (rs_10_0 hk0)) 8 (rn_1_4 (rs_10_0 hk0)) b26 dX10_gatherFirstWeeks_26 ?_
      refine u_iload (pc := 27) hC dX10_gatherFirstWeeks_27 4 rfl ?_
      refine u_ishr (pc := 29) hC dX10_gatherFirstWeeks_29 ?_
      refine u_iconst (pc := 30) hC ic_1 dX10_gatherFirstWeeks_30 ?_
      refine u_iand (pc := 31) hC dX10_gatherFirstWeeks_31 ?_
      refine u_iconst (pc := 32) hC ic_1 dX10_gatherFirstWeeks_32 ?_
      refine u_icmp_ne (pc := 33) hC (tgt := 40) dX10_gatherFirstWeeks_33 (by decide) (fun c33 => ?_) (fun c33 => ?_)
      · replace h := of_t c33 h
        refine u_iconst (pc := 40) hC ic_0 dX10_gatherFirstWeeks_40 ?_
        exact jb41 μ_12 v4_12 (0 : Int32) h
      · replace h := of_f (fun q => q c33) h
        refine u_iconst (pc := 36) hC ic_1 dX10_gatherFirstWeeks_36 ?_
        refine u_goto (pc := 37) hC 41 dX10_gatherFirstWeeks_37 (by decide) ?_
        exact jb41 μ_12 v4_12 (1 : Int32) h
  unfold f_X10_gatherFirstWeeks at h
  refine u_aload_n (pc := 0) hC dX10_gatherFirstWeeks_0 rfl 0 rfl ?_
  refine g_RX10_35 (pc := 1) hC hk0 dX10_gatherFirstWeeks_1 ?_
  refine u_iload_n (pc := 4) hC dX10_gatherFirstWeeks_4 rfl 1 rfl ?_
  obtain ⟨r5, q5, h⟩ := of_bd h
  refine k_RX10_113 (pc := 5) hC (av := [.int a1]) (rest := []) (c_X8_firstWeekOf (d := d - 1) (by omega) (rs_10_3 hk0) q5) (by omega) (Nat.le_of_ble_eq_true rfl) (rs_10_3 hk0) rfl rfl dX10_gatherFirstWeeks_5 ?_
  refine u_istore_n (pc := 8) hC dX10_gatherFirstWeeks_8 rfl [(3, .int r5), (0, .ref (gad (cG C) k0)), (1, .int a1), (2, .ref (gad (cG C) k2))] (by decide) rfl ?_
  refine u_iconst (pc := 9) hC ic_0 dX10_gatherFirstWeeks_9 ?_
  refine u_istore (pc := 10) hC dX10_gatherFirstWeeks_10 [(4, .int (0 : Int32)), (3, .int r5), (0, .ref (gad (cG C) k0)), (1, .int a1), (2, .ref (gad (cG C) k2))] (by decide) rfl ?_
  obtain ⟨e12, l12, h⟩ := of_bd h
  refine u_sub [2, 3, 4, 1, 0] rfl ?_
  refine lw12 r5 e12 ((0 : Int32), μ) l12 ?_
  show UW C 8 e12 69 [(0, .ref (gad (cG C) k0)), (2, .ref (gad (cG C) k2))] []
  refine u_iconst (pc := 69) hC ic_0 dX10_gatherFirstWeeks_69 ?_
  refine u_istore (pc := 70) hC dX10_gatherFirstWeeks_70 [(4, .int (0 : Int32)), (0, .ref (gad (cG C) k0)), (2, .ref (gad (cG C) k2))] (by decide) rfl ?_
  obtain ⟨e72, l72, h⟩ := of_bd h
  refine u_sub [1, 2, 0] rfl ?_
  refine lw72  e72 ((0 : Int32), e12) l72 ?_
  show UW C 8 e72 170 [] []
  obtain rfl := Option.some.inj h
  exact u_vret (pc := 170) hC hQ hr ⟨rfl, rfl⟩ dX10_gatherFirstWeeks_170
set_option maxHeartbeats 4000000 in
set_option maxRecDepth 100000 in
theorem c_X11_among {l : Launch} {G : GG} {d : Nat} (hd : 0 ≤ d) {μ : Mem} {a0 : Int32} {a1 : Int32} {a2 : Int32} {r : Int32} (h : f_X11_among a0 a1 a2 = some r) : CT l yX11_among cX11_among 3 (some .boolean) d G [.int a0, .int a1, .int a2] μ (RK (some (.int r)) μ) := by
  refine ct_start (by decide) (Nat.le_of_ble_eq_true rfl) (fun C hl1 hG1 hC hQ hr => ?_)
  subst hl1; subst hG1
  have hC : CxOK C cX11_among 3 RX11 d := hC
  show UW C 3 μ 0 [(0, .int a0), (1, .int a1), (2, .int a2)] []
  unfold f_X11_among at h
  refine u_iload_n (pc := 0) hC dX11_among_0 rfl 0 rfl ?_
  refine u_iload_n (pc := 1) hC dX11_among_1 rfl 1 rfl ?_
  refine u_icmp_lt (pc := 2) hC (tgt := 14) dX11_among_2 (by decide) (fun c2 => ?_) (fun c2 => ?_)
  · replace h := of_t c2 h
    refine u_iconst (pc := 14) hC ic_0 dX11_among_14 ?_
    obtain rfl := Option.some.inj h
    exact u_zret (pc := 15) hC hQ hr (by decide) ⟨rfl, rfl⟩ dX11_among_15
  · replace h := of_f c2 h
    refine u_iload_n (pc := 5) hC dX11_among_5 rfl 0 rfl ?_
    refine u_iload_n (pc := 6) hC dX11_among_6 rfl 2 rfl ?_
    refine u_icmp_gt (pc := 7) hC (tgt := 14) dX11_among_7 (by decide) (fun c7 => ?_) (fun c7 => ?_)
    · replace h := of_t c7 h
      refine u_iconst (pc := 14) hC ic_0 dX11_among_14 ?_
      obtain rfl := Option.some.inj h
      exact u_zret (pc := 15) hC hQ hr (by decide) ⟨rfl, rfl⟩ dX11_among_15
    · replace h := of_f c7 h
      refine u_iconst (pc := 10) hC ic_1 dX11_among_10 ?_
      refine u_goto (pc := 11) hC 15 dX11_among_11 (by decide) ?_
      obtain rfl := Option.some.inj h
      exact u_zret (pc := 15) hC hQ hr (by decide) ⟨rfl, rfl⟩ dX11_among_15
set_option maxHeartbeats 4000000 in
set_option maxRecDepth 100000 in
theorem c_X11_refuse {l : Launch} {G : GG} {d : Nat} (hd : 0 ≤ d) {μ : Mem} {k0 : Nat} (hk0 : isC 11 k0) {a1 : Int32} {r : Int32 × Mem} (h : f_X11_refuse μ k0 a1 = some r) : CT l yX11_refuse cX11_refuse 2 (some .int) d G [.ref (gad G k0), .int a1] μ (RK (some (.int r.1)) r.2) := by
  refine ct_start (by decide) (Nat.le_of_ble_eq_true rfl) (fun C hl1 hG1 hC hQ hr => ?_)
  subst hl1; subst hG1
  have hC : CxOK C cX11_refuse 2 RX11 d := hC
  show UW C 2 μ 0 [(0, .ref (gad (cG C) k0)), (1, .int a1)] []
  unfold f_X11_refuse at h
  refine u_aload_n (pc := 0) hC dX11_refuse_0 rfl 0 rfl ?_
  refine g_RX11_69 (pc := 1) hC hk0 dX11_refuse_1 ?_
  refine u_iload_n (pc := 4) hC dX11_refuse_4 rfl 1 rfl ?_
  refine u_dup2 (pc := 5) hC rfl rfl dX11_refuse_5 ?_
  obtain ⟨b6, h⟩ := of_gd h
  refine u_iald (pc := 6) hC (rs_11_8 hk0) 6 (rn_11_8 hk0) b6 dX11_refuse_6 ?_
  refine u_iconst (pc := 7) hC ic_1 dX11_refuse_7 ?_
  refine u_iadd (pc := 8) hC dX11_refuse_8 ?_
  obtain ⟨b9, h⟩ := of_gd h
  obtain ⟨m9, q9, h⟩ := of_bd h
  refine u_iast (pc := 9) hC (rs_11_8 hk0) 6 (rn_11_8 hk0) b9 dX11_refuse_9 (Option.some.inj q9) ?_
  refine u_ldcw (pc := 10) hC (v := (-1000000000 : Int32)) mQ_RX11_338 dX11_refuse_10 ?_
  refine u_iload_n (pc := 13) hC dX11_refuse_13 rfl 1 rfl ?_
  refine u_isub (pc := 14) hC dX11_refuse_14 ?_
  obtain rfl := Option.some.inj h
  exact u_iret (pc := 15) hC hQ hr ⟨rfl, rfl⟩ dX11_refuse_15
set_option maxHeartbeats 4000000 in
set_option maxRecDepth 100000 in
theorem c_X11_fact {l : Launch} {G : GG} {d : Nat} (hd : 1 ≤ d) {μ : Mem} {k0 : Nat} (hk0 : isC 11 k0) {a1 : Int32} {a2 : Int32} {r : Int32 × Mem} (h : f_X11_fact μ k0 a1 a2 = some r) : CT l yX11_fact cX11_fact 5 (some .int) d G [.ref (gad G k0), .int a1, .int a2] μ (RK (some (.int r.1)) r.2) := by
  refine ct_start (by decide) (Nat.le_of_ble_eq_true rfl) (fun C hl1 hG1 hC hQ hr => ?_)
  subst hl1; subst hG1
  have hC : CxOK C cX11_fact 5 RX11 d := hC
  show UW C 5 μ 0 [(0, .ref (gad (cG C) k0)), (1, .int a1), (2, .int a2)] []
  have jb53 : ∀ (μ_53 : Mem), f_X11_fact_j53 μ_53 k0 a1 a2 = some r → UW C 5 μ_53 53 [(0, .ref (gad (cG C) k0))] [] := by
    intro μ_53 h
    unfold f_X11_fact_j53 at h
    refine u_aload_n (pc := 53) hC dX11_fact_53 rfl 0 rfl ?_
    refine u_iconst (pc := 54) hC ic_1 dX11_fact_54 ?_
    obtain ⟨p55, q55, h⟩ := of_bd h
    refine k_RX11_83 (pc := 55) hC (av := [.int (1 : Int32)]) (rest := []) (c_X11_refuse (d := d - 1) (by omega) hk0 q55) (by omega) (Nat.le_of_ble_eq_true rfl) hk0 rfl rfl dX11_fact_55 ?_
    obtain rfl := Option.some.inj h
    exact u_iret (pc := 58) hC hQ hr ⟨rfl, rfl⟩ dX11_fact_58
  have jb25 : ∀ (μ_25 : Mem) (k3_25 : Nat) (hk3_25 : isC 1 k3_25) (vt0_25 : Int32), f_X11_fact_j25 μ_25 k0 a1 a2 k3_25 vt0_25 = some r → UW C 5 μ_25 25 [(0, .ref (gad (cG C) k0)), (1, .int a1), (2, .int a2), (3, .ref (gad (cG C) k3_25))] [.int vt0_25] := by
    intro μ_25 k3_25 hk3_25 vt0_25 h
    unfold f_X11_fact_j25 at h
    refine u_istore (pc := 25) hC dX11_fact_25 [(4, .int vt0_25), (0, .ref (gad (cG C) k0)), (1, .int a1), (2, .int a2), (3, .ref (gad (cG C) k3_25))] (by decide) rfl ?_
    refine u_iload_n (pc := 27) hC dX11_fact_27 rfl 2 rfl ?_
    refine u_iconst (pc := 28) hC ic_0 dX11_fact_28 ?_
    refine u_sipush (pc := 29) hC sc_255 dX11_fact_29 ?_
    obtain ⟨r32, q32, h⟩ := of_bd h
    refine k_RX11_79 (pc := 32) hC (av := [.int a1, .int (0 : Int32), .int (255 : Int32)]) (rest := []) (c_X11_among (d := d - 1) (by omega)  q32) (by omega) (Nat.le_of_ble_eq_true rfl) rfl rfl dX11_fact_32 ?_
    refine u_if_eq (pc := 35) hC (tgt := 53) dX11_fact_35 (by decide) (fun c35 => ?_) (fun c35 => ?_)
    · replace h := of_t c35 h
      refine u_sub [1] rfl ?_
      exact jb53 μ_25 h
    · replace h := of_f c35 h
      refine u_iload (pc := 38) hC dX11_fact_38 0 rfl ?_
      refine u_if_ne (pc := 40) hC (tgt := 53) dX11_fact_40 (by decide) (fun c40 => ?_) (fun c40 => ?_)
      · replace h := of_t c40 h
        refine u_sub [1] rfl ?_
        exact jb53 μ_25 h
      · replace h := of_f (fun q => q c40) h
        refine u_iload_n (pc := 43) hC dX11_fact_43 rfl 3 rfl ?_
        refine u_iconst (pc := 44) hC ic_0 dX11_fact_44 ?_
        refine u_bipush (pc := 45) hC bc_31 dX11_fact_45 ?_
        obtain ⟨r47, q47, h⟩ := of_bd h
        refine k_RX11_79 (pc := 47) hC (av := [.int a2, .int (0 : Int32), .int (31 : Int32)]) (rest := []) (c_X11_among (d := d - 1) (by omega)  q47) (by omega) (Nat.le_of_ble_eq_true rfl) rfl rfl dX11_fact_47 ?_
        refine u_if_ne (pc := 50) hC (tgt := 59) dX11_fact_50 (by decide) (fun c50 => ?_) (fun c50 => ?_)
        · replace h := of_t c50 h
          refine u_aload_n (pc := 59) hC dX11_fact_59 rfl 4 rfl ?_
          refine g_RX11_73 (pc := 60) hC hk3_25 dX11_fact_60 ?_
          refine u_bipush (pc := 63) hC bc_8 dX11_fact_63 ?_
          refine u_icmp_lt (pc := 65) hC (tgt := 74) dX11_fact_65 (by decide) (fun c65 => ?_) (fun c65 => ?_)
          · replace h := of_t c65 h
            refine u_aload_n (pc := 74) hC dX11_fact_74 rfl 4 rfl ?_
            refine u_iload_n (pc := 75) hC dX11_fact_75 rfl 2 rfl ?_
            refine u_iload_n (pc := 76) hC dX11_fact_76 rfl 3 rfl ?_
            obtain ⟨p77, q77, h⟩ := of_bd h
            refine k_RX11_87 (pc := 77) hC (av := [.int a1, .int a2]) (rest := []) (c_X1_add (d := d - 1) (by omega) hk3_25 q77) (by omega) (Nat.le_of_ble_eq_true rfl) hk3_25 rfl rfl dX11_fact_77 ?_
            obtain rfl := Option.some.inj h
            exact u_iret (pc := 80) hC hQ hr ⟨rfl, rfl⟩ dX11_fact_80
          · replace h := of_f c65 h
            refine u_aload_n (pc := 68) hC dX11_fact_68 rfl 1 rfl ?_
            refine u_iconst (pc := 69) hC ic_4 dX11_fact_69 ?_
            obtain ⟨p70, q70, h⟩ := of_bd h
            refine k_RX11_83 (pc := 70) hC (av := [.int (4 : Int32)]) (rest := []) (c_X11_refuse (d := d - 1) (by omega) hk0 q70) (by omega) (Nat.le_of_ble_eq_true rfl) hk0 rfl rfl dX11_fact_70 ?_
            obtain rfl := Option.some.inj h
            exact u_iret (pc := 73) hC hQ hr ⟨rfl, rfl⟩ dX11_fact_73
        · replace h := of_f (fun q => q c50) h
          refine u_sub [1] rfl ?_
          exact jb53 μ_25 h
  unfold f_X11_fact at h
  refine u_aload_n (pc := 0) hC dX11_fact_0 rfl 0 rfl ?_
  refine g_RX11_10 (pc := 1) hC hk0 dX11_fact_1 ?_
  refine g_RX11_21 (pc := 4) hC (rs_11_0 hk0) dX11_fact_4 ?_
  refine u_astore_n (pc := 7) hC dX11_fact_7 rfl [(3, .ref (gad (cG C) (rf (rf k0 0) 0))), (0, .ref (gad (cG C) k0)), (1, .int a1), (2, .int a2)] (by decide) rfl ?_
  refine u_iload_n (pc := 8) hC dX11_fact_8 rfl 2 rfl ?_
  refine u_aload_n (pc := 9) hC dX11_fact_9 rfl 0 rfl ?_
  refine g_RX11_73 (pc := 10) hC (rs_10_0 (rs_11_0 hk0)) dX11_fact_10 ?_
  refine u_ishr (pc := 13) hC dX11_fact_13 ?_
  refine u_iconst (pc := 14) hC ic_1 dX11_fact_14 ?_
  refine u_iand (pc := 15) hC dX11_fact_15 ?_
  refine u_iconst (pc := 16) hC ic_1 dX11_fact_16 ?_
  refine u_icmp_ne (pc := 17) hC (tgt := 24) dX11_fact_17 (by decide) (fun c17 => ?_) (fun c17 => ?_)
  · replace h := of_t c17 h
    refine u_iconst (pc := 24) hC ic_0 dX11_fact_24 ?_
    refine u_sub [1, 2, 3, 0] rfl ?_
    exact jb25 μ (rf (rf k0 0) 0) (rs_10_0 (rs_11_0 hk0)) (0 : Int32) h
  · replace h := of_f (fun q => q c17) h
    refine u_iconst (pc := 20) hC ic_1 dX11_fact_20 ?_
    refine u_goto (pc := 21) hC 25 dX11_fact_21 (by decide) ?_
    refine u_sub [1, 2, 3, 0] rfl ?_
    exact jb25 μ (rf (rf k0 0) 0) (rs_10_0 (rs_11_0 hk0)) (1 : Int32) h
set_option maxHeartbeats 4000000 in
set_option maxRecDepth 100000 in
theorem c_X11_isFact {l : Launch} {G : GG} {d : Nat} (hd : 1 ≤ d) {μ : Mem} {k0 : Nat} (hk0 : isC 11 k0) {a1 : Int32} {r : Int32} (h : f_X11_isFact μ k0 a1 = some r) : CT l yX11_isFact cX11_isFact 2 (some .boolean) d G [.ref (gad G k0), .int a1] μ (RK (some (.int r)) μ) := by
  refine ct_start (by decide) (Nat.le_of_ble_eq_true rfl) (fun C hl1 hG1 hC hQ hr => ?_)
  subst hl1; subst hG1
  have hC : CxOK C cX11_isFact 2 RX11 d := hC
  show UW C 2 μ 0 [(0, .ref (gad (cG C) k0)), (1, .int a1)] []
  unfold f_X11_isFact at h
  refine u_iload_n (pc := 0) hC dX11_isFact_0 rfl 1 rfl ?_
  refine u_iconst (pc := 1) hC ic_0 dX11_isFact_1 ?_
  refine u_aload_n (pc := 2) hC dX11_isFact_2 rfl 0 rfl ?_
  refine g_RX11_10 (pc := 3) hC hk0 dX11_isFact_3 ?_
  refine g_RX11_21 (pc := 6) hC (rs_11_0 hk0) dX11_isFact_6 ?_
  refine g_RX11_73 (pc := 9) hC (rs_10_0 (rs_11_0 hk0)) dX11_isFact_9 ?_
  refine u_iconst (pc := 12) hC ic_1 dX11_isFact_12 ?_
  refine u_isub (pc := 13) hC dX11_isFact_13 ?_
  obtain ⟨r14, q14, h⟩ := of_bd h
  refine k_RX11_79 (pc := 14) hC (av := [.int a1, .int (0 : Int32), .int ((rd μ (rf (rf k0 0) 0) 5) - (1 : Int32))]) (rest := []) (c_X11_among (d := d - 1) (by omega)  q14) (by omega) (Nat.le_of_ble_eq_true rfl) rfl rfl dX11_isFact_14 ?_
  obtain ⟨b17, h⟩ := of_gd h
  obtain rfl := Option.some.inj h
  exact u_zret (pc := 17) hC hQ hr b17 ⟨rfl, rfl⟩ dX11_isFact_17
set_option maxHeartbeats 4000000 in
set_option maxRecDepth 100000 in
theorem c_X11_clash {l : Launch} {G : GG} {d : Nat} (hd : 2 ≤ d) {μ : Mem} {k0 : Nat} (hk0 : isC 11 k0) {a1 : Int32} {a2 : Int32} {a3 : Int32} {r : Int32 × Mem} (h : f_X11_clash μ k0 a1 a2 a3 = some r) : CT l yX11_clash cX11_clash 5 (some .int) d G [.ref (gad G k0), .int a1, .int a2, .int a3] μ (RK (some (.int r.1)) r.2) := by
  refine ct_start (by decide) (Nat.le_of_ble_eq_true rfl) (fun C hl1 hG1 hC hQ hr => ?_)
  subst hl1; subst hG1
  have hC : CxOK C cX11_clash 5 RX11 d := hC
  show UW C 5 μ 0 [(0, .ref (gad (cG C) k0)), (1, .int a1), (2, .int a2), (3, .int a3)] []
  have jb30 : ∀ (μ_30 : Mem), f_X11_clash_j30 μ_30 k0 a1 a2 a3 = some r → UW C 5 μ_30 30 [(0, .ref (gad (cG C) k0))] [] := by
    intro μ_30 h
    unfold f_X11_clash_j30 at h
    refine u_aload_n (pc := 30) hC dX11_clash_30 rfl 0 rfl ?_
    refine u_iconst (pc := 31) hC ic_1 dX11_clash_31 ?_
    obtain ⟨p32, q32, h⟩ := of_bd h
    refine k_RX11_83 (pc := 32) hC (av := [.int (1 : Int32)]) (rest := []) (c_X11_refuse (d := d - 1) (by omega) hk0 q32) (by omega) (Nat.le_of_ble_eq_true rfl) hk0 rfl rfl dX11_clash_32 ?_
    obtain rfl := Option.some.inj h
    exact u_iret (pc := 35) hC hQ hr ⟨rfl, rfl⟩ dX11_clash_35
  unfold f_X11_clash at h
  refine u_aload_n (pc := 0) hC dX11_clash_0 rfl 0 rfl ?_
  refine u_iload_n (pc := 1) hC dX11_clash_1 rfl 1 rfl ?_
  obtain ⟨r2, q2, h⟩ := of_bd h
  refine k_RX11_91 (pc := 2) hC (av := [.int a1]) (rest := []) (c_X11_isFact (d := d - 1) (by omega) hk0 q2) (by omega) (Nat.le_of_ble_eq_true rfl) hk0 rfl rfl dX11_clash_2 ?_
  refine u_if_eq (pc := 5) hC (tgt := 30) dX11_clash_5 (by decide) (fun c5 => ?_) (fun c5 => ?_)
  · replace h := of_t c5 h
    refine u_sub [0] rfl ?_
    exact jb30 μ h
  · replace h := of_f c5 h
    refine u_aload_n (pc := 8) hC dX11_clash_8 rfl 0 rfl ?_
    refine u_iload_n (pc := 9) hC dX11_clash_9 rfl 2 rfl ?_
    obtain ⟨r10, q10, h⟩ := of_bd h
    refine k_RX11_91 (pc := 10) hC (av := [.int a2]) (rest := []) (c_X11_isFact (d := d - 1) (by omega) hk0 q10) (by omega) (Nat.le_of_ble_eq_true rfl) hk0 rfl rfl dX11_clash_10 ?_
    refine u_if_eq (pc := 13) hC (tgt := 30) dX11_clash_13 (by decide) (fun c13 => ?_) (fun c13 => ?_)
    · replace h := of_t c13 h
      refine u_sub [0] rfl ?_
      exact jb30 μ h
    · replace h := of_f c13 h
      refine u_iload_n (pc := 16) hC dX11_clash_16 rfl 1 rfl ?_
      refine u_iload_n (pc := 17) hC dX11_clash_17 rfl 2 rfl ?_
      refine u_icmp_eq (pc := 18) hC (tgt := 30) dX11_clash_18 (by decide) (fun c18 => ?_) (fun c18 => ?_)
      · replace h := of_t c18 h
        refine u_sub [0] rfl ?_
        exact jb30 μ h
      · replace h := of_f c18 h
        refine u_iload_n (pc := 21) hC dX11_clash_21 rfl 3 rfl ?_
        refine u_iconst (pc := 22) hC ic_0 dX11_clash_22 ?_
        refine u_iconst (pc := 23) hC ic_1 dX11_clash_23 ?_
        obtain ⟨r24, q24, h⟩ := of_bd h
        refine k_RX11_79 (pc := 24) hC (av := [.int a3, .int (0 : Int32), .int (1 : Int32)]) (rest := []) (c_X11_among (d := d - 1) (by omega)  q24) (by omega) (Nat.le_of_ble_eq_true rfl) rfl rfl dX11_clash_24 ?_
        refine u_if_ne (pc := 27) hC (tgt := 36) dX11_clash_27 (by decide) (fun c27 => ?_) (fun c27 => ?_)
        · replace h := of_t c27 h
          refine u_aload_n (pc := 36) hC dX11_clash_36 rfl 0 rfl ?_
          refine g_RX11_10 (pc := 37) hC hk0 dX11_clash_37 ?_
          refine g_RX11_21 (pc := 40) hC (rs_11_0 hk0) dX11_clash_40 ?_
          refine g_RX11_95 (pc := 43) hC (rs_10_0 (rs_11_0 hk0)) dX11_clash_43 ?_
          refine u_iload_n (pc := 46) hC dX11_clash_46 rfl 1 rfl ?_
          obtain ⟨b47, h⟩ := of_gd h
          refine u_iald (pc := 47) hC (rs_1_1 (rs_10_0 (rs_11_0 hk0))) 8 (rn_1_1 (rs_10_0 (rs_11_0 hk0))) b47 dX11_clash_47 ?_
          refine u_iload_n (pc := 48) hC dX11_clash_48 rfl 2 rfl ?_
          refine u_ishr (pc := 49) hC dX11_clash_49 ?_
          refine u_iconst (pc := 50) hC ic_1 dX11_clash_50 ?_
          refine u_iand (pc := 51) hC dX11_clash_51 ?_
          refine u_istore (pc := 52) hC dX11_clash_52 [(4, .int ((jshr (rd μ (rf (rf (rf k0 0) 0) 1) a1.toNatClampNeg) a2) &&& (1 : Int32))), (0, .ref (gad (cG C) k0)), (1, .int a1), (2, .int a2), (3, .int a3)] (by decide) rfl ?_
          refine u_aload_n (pc := 54) hC dX11_clash_54 rfl 1 rfl ?_
          refine g_RX11_10 (pc := 55) hC hk0 dX11_clash_55 ?_
          refine g_RX11_21 (pc := 58) hC (rs_11_0 hk0) dX11_clash_58 ?_
          refine u_iload_n (pc := 61) hC dX11_clash_61 rfl 2 rfl ?_
          refine u_iload_n (pc := 62) hC dX11_clash_62 rfl 3 rfl ?_
          refine u_iload_n (pc := 63) hC dX11_clash_63 rfl 4 rfl ?_
          obtain ⟨μ64, q64, h⟩ := of_bd h
          refine k_RX11_98 (pc := 64) hC (av := [.int a1, .int a2, .int a3]) (rest := []) (c_X1_setClash (d := d - 1) (by omega) (rs_10_0 (rs_11_0 hk0)) q64) (by omega) (Nat.le_of_ble_eq_true rfl) (rs_10_0 (rs_11_0 hk0)) rfl rfl dX11_clash_64 ?_
          refine u_iload (pc := 67) hC dX11_clash_67 0 rfl ?_
          obtain rfl := Option.some.inj h
          exact u_iret (pc := 69) hC hQ hr ⟨rfl, rfl⟩ dX11_clash_69
        · replace h := of_f (fun q => q c27) h
          refine u_sub [0] rfl ?_
          exact jb30 μ h
set_option maxHeartbeats 4000000 in
set_option maxRecDepth 100000 in
theorem c_X11_explain {l : Launch} {G : GG} {d : Nat} (hd : 2 ≤ d) {μ : Mem} {k0 : Nat} (hk0 : isC 11 k0) {a1 : Int32} {a2 : Int32} {a3 : Int32} {r : Int32 × Mem} (h : f_X11_explain μ k0 a1 a2 a3 = some r) : CT l yX11_explain cX11_explain 5 (some .int) d G [.ref (gad G k0), .int a1, .int a2, .int a3] μ (RK (some (.int r.1)) r.2) := by
  refine ct_start (by decide) (Nat.le_of_ble_eq_true rfl) (fun C hl1 hG1 hC hQ hr => ?_)
  subst hl1; subst hG1
  have hC : CxOK C cX11_explain 5 RX11 d := hC
  show UW C 5 μ 0 [(0, .ref (gad (cG C) k0)), (1, .int a1), (2, .int a2), (3, .int a3)] []
  have jb94 : ∀ (μ_94 : Mem) (v4_94 : Int32) (kt0_94 : Nat) (hkt0_94 : isC 13 kt0_94) (vt1_94 : Int32) (vt2_94 : Int32), f_X11_explain_j94 μ_94 k0 a1 a2 a3 v4_94 kt0_94 vt1_94 vt2_94 = some r → UW C 5 μ_94 94 [(4, .int v4_94)] [.int vt2_94, .int vt1_94, .ref (gad (cG C) kt0_94)] := by
    intro μ_94 v4_94 kt0_94 hkt0_94 vt1_94 vt2_94 h
    unfold f_X11_explain_j94 at h
    obtain ⟨b94, h⟩ := of_gd h
    obtain ⟨m94, q94, h⟩ := of_bd h
    refine u_iast (pc := 94) hC hkt0_94 (ln kt0_94) rfl b94 dX11_explain_94 (Option.some.inj q94) ?_
    refine u_iload (pc := 95) hC dX11_explain_95 0 rfl ?_
    obtain rfl := Option.some.inj h
    exact u_iret (pc := 97) hC hQ hr ⟨rfl, rfl⟩ dX11_explain_97
  have jb47 : ∀ (μ_47 : Mem), f_X11_explain_j47 μ_47 k0 a1 a2 a3 = some r → UW C 5 μ_47 47 [(0, .ref (gad (cG C) k0)), (1, .int a1), (2, .int a2), (3, .int a3)] [] := by
    intro μ_47 h
    unfold f_X11_explain_j47 at h
    refine u_aload_n (pc := 47) hC dX11_explain_47 rfl 0 rfl ?_
    refine g_RX11_10 (pc := 48) hC hk0 dX11_explain_48 ?_
    refine g_RX11_21 (pc := 51) hC (rs_11_0 hk0) dX11_explain_51 ?_
    refine g_RX11_102 (pc := 54) hC (rs_10_0 (rs_11_0 hk0)) dX11_explain_54 ?_
    refine u_iload_n (pc := 57) hC dX11_explain_57 rfl 1 rfl ?_
    obtain ⟨b58, h⟩ := of_gd h
    refine u_iald (pc := 58) hC (rs_1_2 (rs_10_0 (rs_11_0 hk0))) 8 (rn_1_2 (rs_10_0 (rs_11_0 hk0))) b58 dX11_explain_58 ?_
    refine u_istore (pc := 59) hC dX11_explain_59 [(4, .int (rd μ_47 (rf (rf (rf k0 0) 0) 2) a1.toNatClampNeg)), (0, .ref (gad (cG C) k0)), (1, .int a1), (2, .int a2), (3, .int a3)] (by decide) rfl ?_
    refine u_aload_n (pc := 61) hC dX11_explain_61 rfl 1 rfl ?_
    refine g_RX11_10 (pc := 62) hC hk0 dX11_explain_62 ?_
    refine g_RX11_21 (pc := 65) hC (rs_11_0 hk0) dX11_explain_65 ?_
    refine g_RX11_102 (pc := 68) hC (rs_10_0 (rs_11_0 hk0)) dX11_explain_68 ?_
    refine u_iload_n (pc := 71) hC dX11_explain_71 rfl 2 rfl ?_
    refine u_iload_n (pc := 72) hC dX11_explain_72 rfl 3 rfl ?_
    obtain ⟨b73, h⟩ := of_gd h
    obtain ⟨m73, q73, h⟩ := of_bd h
    refine u_iast (pc := 73) hC (rs_1_2 (rs_10_0 (rs_11_0 hk0))) 8 (rn_1_2 (rs_10_0 (rs_11_0 hk0))) b73 dX11_explain_73 (Option.some.inj q73) ?_
    refine u_aload_n (pc := 74) hC dX11_explain_74 rfl 1 rfl ?_
    refine g_RX11_10 (pc := 75) hC hk0 dX11_explain_75 ?_
    refine g_RX11_21 (pc := 78) hC (rs_11_0 hk0) dX11_explain_78 ?_
    refine g_RX11_105 (pc := 81) hC (rs_10_0 (rs_11_0 hk0)) dX11_explain_81 ?_
    refine u_iload_n (pc := 84) hC dX11_explain_84 rfl 2 rfl ?_
    refine u_iload_n (pc := 85) hC dX11_explain_85 rfl 3 rfl ?_
    refine u_if_le (pc := 86) hC (tgt := 93) dX11_explain_86 (by decide) (fun c86 => ?_) (fun c86 => ?_)
    · replace h := of_t c86 h
      refine u_iconst (pc := 93) hC ic_m1 dX11_explain_93 ?_
      refine u_sub [0] rfl ?_
      exact jb94 m73 (rd μ_47 (rf (rf (rf k0 0) 0) 2) a1.toNatClampNeg) (rf (rf (rf k0 0) 0) 3) (rs_1_3 (rs_10_0 (rs_11_0 hk0))) a1 (-1 : Int32) h
    · replace h := of_f c86 h
      refine u_iload_n (pc := 89) hC dX11_explain_89 rfl 4 rfl ?_
      refine u_goto (pc := 90) hC 94 dX11_explain_90 (by decide) ?_
      refine u_sub [0] rfl ?_
      exact jb94 m73 (rd μ_47 (rf (rf (rf k0 0) 0) 2) a1.toNatClampNeg) (rf (rf (rf k0 0) 0) 3) (rs_1_3 (rs_10_0 (rs_11_0 hk0))) a1 a3 h
  have jb41 : ∀ (μ_41 : Mem), f_X11_explain_j41 μ_41 k0 a1 a2 a3 = some r → UW C 5 μ_41 41 [(0, .ref (gad (cG C) k0))] [] := by
    intro μ_41 h
    unfold f_X11_explain_j41 at h
    refine u_aload_n (pc := 41) hC dX11_explain_41 rfl 0 rfl ?_
    refine u_iconst (pc := 42) hC ic_1 dX11_explain_42 ?_
    obtain ⟨p43, q43, h⟩ := of_bd h
    refine k_RX11_83 (pc := 43) hC (av := [.int (1 : Int32)]) (rest := []) (c_X11_refuse (d := d - 1) (by omega) hk0 q43) (by omega) (Nat.le_of_ble_eq_true rfl) hk0 rfl rfl dX11_explain_43 ?_
    obtain rfl := Option.some.inj h
    exact u_iret (pc := 46) hC hQ hr ⟨rfl, rfl⟩ dX11_explain_46
  have jb18 : ∀ (μ_18 : Mem), f_X11_explain_j18 μ_18 k0 a1 a2 a3 = some r → UW C 5 μ_18 18 [(0, .ref (gad (cG C) k0))] [] := by
    intro μ_18 h
    unfold f_X11_explain_j18 at h
    refine u_aload_n (pc := 18) hC dX11_explain_18 rfl 0 rfl ?_
    refine u_iconst (pc := 19) hC ic_1 dX11_explain_19 ?_
    obtain ⟨p20, q20, h⟩ := of_bd h
    refine k_RX11_83 (pc := 20) hC (av := [.int (1 : Int32)]) (rest := []) (c_X11_refuse (d := d - 1) (by omega) hk0 q20) (by omega) (Nat.le_of_ble_eq_true rfl) hk0 rfl rfl dX11_explain_20 ?_
    obtain rfl := Option.some.inj h
    exact u_iret (pc := 23) hC hQ hr ⟨rfl, rfl⟩ dX11_explain_23
  unfold f_X11_explain at h
  refine u_aload_n (pc := 0) hC dX11_explain_0 rfl 0 rfl ?_
  refine u_iload_n (pc := 1) hC dX11_explain_1 rfl 1 rfl ?_
  obtain ⟨r2, q2, h⟩ := of_bd h
  refine k_RX11_91 (pc := 2) hC (av := [.int a1]) (rest := []) (c_X11_isFact (d := d - 1) (by omega) hk0 q2) (by omega) (Nat.le_of_ble_eq_true rfl) hk0 rfl rfl dX11_explain_2 ?_
  refine u_if_eq (pc := 5) hC (tgt := 18) dX11_explain_5 (by decide) (fun c5 => ?_) (fun c5 => ?_)
  · replace h := of_t c5 h
    refine u_sub [0] rfl ?_
    exact jb18 μ h
  · replace h := of_f c5 h
    refine u_iload_n (pc := 8) hC dX11_explain_8 rfl 2 rfl ?_
    refine u_iconst (pc := 9) hC ic_0 dX11_explain_9 ?_
    refine u_bipush (pc := 10) hC bc_9 dX11_explain_10 ?_
    obtain ⟨r12, q12, h⟩ := of_bd h
    refine k_RX11_79 (pc := 12) hC (av := [.int a2, .int (0 : Int32), .int (9 : Int32)]) (rest := []) (c_X11_among (d := d - 1) (by omega)  q12) (by omega) (Nat.le_of_ble_eq_true rfl) rfl rfl dX11_explain_12 ?_
    refine u_if_ne (pc := 15) hC (tgt := 24) dX11_explain_15 (by decide) (fun c15 => ?_) (fun c15 => ?_)
    · replace h := of_t c15 h
      refine u_iload_n (pc := 24) hC dX11_explain_24 rfl 2 rfl ?_
      refine u_if_le (pc := 25) hC (tgt := 47) dX11_explain_25 (by decide) (fun c25 => ?_) (fun c25 => ?_)
      · replace h := of_t c25 h
        exact jb47 μ h
      · replace h := of_f c25 h
        refine u_aload_n (pc := 28) hC dX11_explain_28 rfl 0 rfl ?_
        refine u_iload_n (pc := 29) hC dX11_explain_29 rfl 3 rfl ?_
        obtain ⟨r30, q30, h⟩ := of_bd h
        refine k_RX11_91 (pc := 30) hC (av := [.int a3]) (rest := []) (c_X11_isFact (d := d - 1) (by omega) hk0 q30) (by omega) (Nat.le_of_ble_eq_true rfl) hk0 rfl rfl dX11_explain_30 ?_
        refine u_if_eq (pc := 33) hC (tgt := 41) dX11_explain_33 (by decide) (fun c33 => ?_) (fun c33 => ?_)
        · replace h := of_t c33 h
          refine u_sub [0] rfl ?_
          exact jb41 μ h
        · replace h := of_f c33 h
          refine u_iload_n (pc := 36) hC dX11_explain_36 rfl 3 rfl ?_
          refine u_iload_n (pc := 37) hC dX11_explain_37 rfl 1 rfl ?_
          refine u_icmp_ne (pc := 38) hC (tgt := 47) dX11_explain_38 (by decide) (fun c38 => ?_) (fun c38 => ?_)
          · replace h := of_t c38 h
            exact jb47 μ h
          · replace h := of_f (fun q => q c38) h
            refine u_sub [0] rfl ?_
            exact jb41 μ h
    · replace h := of_f (fun q => q c15) h
      refine u_sub [0] rfl ?_
      exact jb18 μ h
set_option maxHeartbeats 4000000 in
set_option maxRecDepth 100000 in
theorem c_X11_ofFact {l : Launch} {G : GG} {d : Nat} (hd : 2 ≤ d) {μ : Mem} {k0 : Nat} (hk0 : isC 11 k0) {a1 : Int32} {a2 : Int32} {r : Int32 × Mem} (h : f_X11_ofFact μ k0 a1 a2 = some r) : CT l yX11_ofFact cX11_ofFact 3 (some .int) d G [.ref (gad G k0), .int a1, .int a2] μ (RK (some (.int r.1)) r.2) := by
  refine ct_start (by decide) (Nat.le_of_ble_eq_true rfl) (fun C hl1 hG1 hC hQ hr => ?_)
  subst hl1; subst hG1
  have hC : CxOK C cX11_ofFact 3 RX11 d := hC
  show UW C 3 μ 0 [(0, .ref (gad (cG C) k0)), (1, .int a1), (2, .int a2)] []
  unfold f_X11_ofFact at h
  refine u_aload_n (pc := 0) hC dX11_ofFact_0 rfl 0 rfl ?_
  refine u_iload_n (pc := 1) hC dX11_ofFact_1 rfl 1 rfl ?_
  obtain ⟨r2, q2, h⟩ := of_bd h
  refine k_RX11_91 (pc := 2) hC (av := [.int a1]) (rest := []) (c_X11_isFact (d := d - 1) (by omega) hk0 q2) (by omega) (Nat.le_of_ble_eq_true rfl) hk0 rfl rfl dX11_ofFact_2 ?_
  refine u_if_ne (pc := 5) hC (tgt := 14) dX11_ofFact_5 (by decide) (fun c5 => ?_) (fun c5 => ?_)
  · replace h := of_t c5 h
    refine u_iload_n (pc := 14) hC dX11_ofFact_14 rfl 2 rfl ?_
    by_cases c15_0 : a2 = 0
    · replace h := of_t c15_0 h
      refine u_tabEq (pc := 15) hC dX11_ofFact_15 (0 : Int32) c15_0 (off := 37) 52 (by decide) (by decide) ?_
      refine u_aload_n (pc := 52) hC dX11_ofFact_52 rfl 0 rfl ?_
      refine g_RX11_10 (pc := 53) hC hk0 dX11_ofFact_53 ?_
      refine g_RX11_21 (pc := 56) hC (rs_11_0 hk0) dX11_ofFact_56 ?_
      refine g_RX11_108 (pc := 59) hC (rs_10_0 (rs_11_0 hk0)) dX11_ofFact_59 ?_
      refine u_iload_n (pc := 62) hC dX11_ofFact_62 rfl 1 rfl ?_
      obtain ⟨b63, h⟩ := of_gd h
      refine u_iald (pc := 63) hC (rs_1_0 (rs_10_0 (rs_11_0 hk0))) 8 (rn_1_0 (rs_10_0 (rs_11_0 hk0))) b63 dX11_ofFact_63 ?_
      obtain rfl := Option.some.inj h
      exact u_iret (pc := 64) hC hQ hr ⟨rfl, rfl⟩ dX11_ofFact_64
    replace h := of_f c15_0 h
    by_cases c15_1 : a2 = 1
    · replace h := of_t c15_1 h
      refine u_tabEq (pc := 15) hC dX11_ofFact_15 (1 : Int32) c15_1 (off := 50) 65 (by decide) (by decide) ?_
      refine u_aload_n (pc := 65) hC dX11_ofFact_65 rfl 0 rfl ?_
      refine g_RX11_10 (pc := 66) hC hk0 dX11_ofFact_66 ?_
      refine g_RX11_21 (pc := 69) hC (rs_11_0 hk0) dX11_ofFact_69 ?_
      refine g_RX11_95 (pc := 72) hC (rs_10_0 (rs_11_0 hk0)) dX11_ofFact_72 ?_
      refine u_iload_n (pc := 75) hC dX11_ofFact_75 rfl 1 rfl ?_
      obtain ⟨b76, h⟩ := of_gd h
      refine u_iald (pc := 76) hC (rs_1_1 (rs_10_0 (rs_11_0 hk0))) 8 (rn_1_1 (rs_10_0 (rs_11_0 hk0))) b76 dX11_ofFact_76 ?_
      obtain rfl := Option.some.inj h
      exact u_iret (pc := 77) hC hQ hr ⟨rfl, rfl⟩ dX11_ofFact_77
    replace h := of_f c15_1 h
    by_cases c15_2 : a2 = 2
    · replace h := of_t c15_2 h
      refine u_tabEq (pc := 15) hC dX11_ofFact_15 (2 : Int32) c15_2 (off := 63) 78 (by decide) (by decide) ?_
      refine u_aload_n (pc := 78) hC dX11_ofFact_78 rfl 0 rfl ?_
      refine g_RX11_10 (pc := 79) hC hk0 dX11_ofFact_79 ?_
      refine g_RX11_21 (pc := 82) hC (rs_11_0 hk0) dX11_ofFact_82 ?_
      refine g_RX11_102 (pc := 85) hC (rs_10_0 (rs_11_0 hk0)) dX11_ofFact_85 ?_
      refine u_iload_n (pc := 88) hC dX11_ofFact_88 rfl 1 rfl ?_
      obtain ⟨b89, h⟩ := of_gd h
      refine u_iald (pc := 89) hC (rs_1_2 (rs_10_0 (rs_11_0 hk0))) 8 (rn_1_2 (rs_10_0 (rs_11_0 hk0))) b89 dX11_ofFact_89 ?_
      obtain rfl := Option.some.inj h
      exact u_iret (pc := 90) hC hQ hr ⟨rfl, rfl⟩ dX11_ofFact_90
    replace h := of_f c15_2 h
    by_cases c15_3 : a2 = 3
    · replace h := of_t c15_3 h
      refine u_tabEq (pc := 15) hC dX11_ofFact_15 (3 : Int32) c15_3 (off := 76) 91 (by decide) (by decide) ?_
      refine u_aload_n (pc := 91) hC dX11_ofFact_91 rfl 0 rfl ?_
      refine g_RX11_10 (pc := 92) hC hk0 dX11_ofFact_92 ?_
      refine g_RX11_21 (pc := 95) hC (rs_11_0 hk0) dX11_ofFact_95 ?_
      refine g_RX11_105 (pc := 98) hC (rs_10_0 (rs_11_0 hk0)) dX11_ofFact_98 ?_
      refine u_iload_n (pc := 101) hC dX11_ofFact_101 rfl 1 rfl ?_
      obtain ⟨b102, h⟩ := of_gd h
      refine u_iald (pc := 102) hC (rs_1_3 (rs_10_0 (rs_11_0 hk0))) 8 (rn_1_3 (rs_10_0 (rs_11_0 hk0))) b102 dX11_ofFact_102 ?_
      obtain rfl := Option.some.inj h
      exact u_iret (pc := 103) hC hQ hr ⟨rfl, rfl⟩ dX11_ofFact_103
    replace h := of_f c15_3 h
    by_cases c15_4 : a2 = 4
    · replace h := of_t c15_4 h
      refine u_tabEq (pc := 15) hC dX11_ofFact_15 (4 : Int32) c15_4 (off := 89) 104 (by decide) (by decide) ?_
      refine u_aload_n (pc := 104) hC dX11_ofFact_104 rfl 0 rfl ?_
      refine g_RX11_10 (pc := 105) hC hk0 dX11_ofFact_105 ?_
      refine g_RX11_21 (pc := 108) hC (rs_11_0 hk0) dX11_ofFact_108 ?_
      refine g_RX11_111 (pc := 111) hC (rs_10_0 (rs_11_0 hk0)) dX11_ofFact_111 ?_
      refine u_iload_n (pc := 114) hC dX11_ofFact_114 rfl 1 rfl ?_
      obtain ⟨b115, h⟩ := of_gd h
      refine u_iald (pc := 115) hC (rs_1_4 (rs_10_0 (rs_11_0 hk0))) 8 (rn_1_4 (rs_10_0 (rs_11_0 hk0))) b115 dX11_ofFact_115 ?_
      obtain rfl := Option.some.inj h
      exact u_iret (pc := 116) hC hQ hr ⟨rfl, rfl⟩ dX11_ofFact_116
    replace h := of_f c15_4 h
    by_cases c15_5 : a2 = 5
    · replace h := of_t c15_5 h
      refine u_tabEq (pc := 15) hC dX11_ofFact_15 (5 : Int32) c15_5 (off := 102) 117 (by decide) (by decide) ?_
      refine u_aload_n (pc := 117) hC dX11_ofFact_117 rfl 0 rfl ?_
      refine g_RX11_10 (pc := 118) hC hk0 dX11_ofFact_118 ?_
      refine g_RX11_114 (pc := 121) hC (rs_11_0 hk0) dX11_ofFact_121 ?_
      refine u_iload_n (pc := 124) hC dX11_ofFact_124 rfl 1 rfl ?_
      obtain ⟨r125, q125, h⟩ := of_bd h
      refine k_RX11_117 (pc := 125) hC (av := [.int a1]) (rest := []) (c_X8_booksWith (d := d - 1) (by omega) (rs_10_3 (rs_11_0 hk0)) q125) (by omega) (Nat.le_of_ble_eq_true rfl) (rs_10_3 (rs_11_0 hk0)) rfl rfl dX11_ofFact_125 ?_
      obtain rfl := Option.some.inj h
      exact u_iret (pc := 128) hC hQ hr ⟨rfl, rfl⟩ dX11_ofFact_128
    replace h := of_f c15_5 h
    refine u_tabDf (pc := 15) hC dX11_ofFact_15 [(0 : Int32), (1 : Int32), (2 : Int32), (3 : Int32), (4 : Int32), (5 : Int32)] (List.forall_mem_cons.mpr ⟨c15_0, List.forall_mem_cons.mpr ⟨c15_1, List.forall_mem_cons.mpr ⟨c15_2, List.forall_mem_cons.mpr ⟨c15_3, List.forall_mem_cons.mpr ⟨c15_4, List.forall_mem_cons.mpr ⟨c15_5, (fun _ q => absurd q List.not_mem_nil)⟩⟩⟩⟩⟩⟩) (by decide) 129 (by decide) ?_
    refine u_aload_n (pc := 129) hC dX11_ofFact_129 rfl 0 rfl ?_
    refine u_iconst (pc := 130) hC ic_1 dX11_ofFact_130 ?_
    obtain ⟨p131, q131, h⟩ := of_bd h
    refine k_RX11_83 (pc := 131) hC (av := [.int (1 : Int32)]) (rest := []) (c_X11_refuse (d := d - 1) (by omega) hk0 q131) (by omega) (Nat.le_of_ble_eq_true rfl) hk0 rfl rfl dX11_ofFact_131 ?_
    obtain rfl := Option.some.inj h
    exact u_iret (pc := 134) hC hQ hr ⟨rfl, rfl⟩ dX11_ofFact_134
  · replace h := of_f (fun q => q c5) h
    refine u_aload_n (pc := 8) hC dX11_ofFact_8 rfl 0 rfl ?_
    refine u_iconst (pc := 9) hC ic_1 dX11_ofFact_9 ?_
    obtain ⟨p10, q10, h⟩ := of_bd h
    refine k_RX11_83 (pc := 10) hC (av := [.int (1 : Int32)]) (rest := []) (c_X11_refuse (d := d - 1) (by omega) hk0 q10) (by omega) (Nat.le_of_ble_eq_true rfl) hk0 rfl rfl dX11_ofFact_10 ?_
    obtain rfl := Option.some.inj h
    exact u_iret (pc := 13) hC hQ hr ⟨rfl, rfl⟩ dX11_ofFact_13
set_option maxHeartbeats 4000000 in
set_option maxRecDepth 100000 in
theorem c_X11_debtor {l : Launch} {G : GG} {d : Nat} (hd : 2 ≤ d) {μ : Mem} {k0 : Nat} (hk0 : isC 11 k0) {a1 : Int32} {a2 : Int32} {r : Int32 × Mem} (h : f_X11_debtor μ k0 a1 a2 = some r) : CT l yX11_debtor cX11_debtor 3 (some .int) d G [.ref (gad G k0), .int a1, .int a2] μ (RK (some (.int r.1)) r.2) := by
  refine ct_start (by decide) (Nat.le_of_ble_eq_true rfl) (fun C hl1 hG1 hC hQ hr => ?_)
  subst hl1; subst hG1
  have hC : CxOK C cX11_debtor 3 RX11 d := hC
  show UW C 3 μ 0 [(0, .ref (gad (cG C) k0)), (1, .int a1), (2, .int a2)] []
  have jb21 : ∀ (μ_21 : Mem), f_X11_debtor_j21 μ_21 k0 a1 a2 = some r → UW C 3 μ_21 21 [(0, .ref (gad (cG C) k0))] [] := by
    intro μ_21 h
    unfold f_X11_debtor_j21 at h
    refine u_aload_n (pc := 21) hC dX11_debtor_21 rfl 0 rfl ?_
    refine u_iconst (pc := 22) hC ic_1 dX11_debtor_22 ?_
    obtain ⟨p23, q23, h⟩ := of_bd h
    refine k_RX11_83 (pc := 23) hC (av := [.int (1 : Int32)]) (rest := []) (c_X11_refuse (d := d - 1) (by omega) hk0 q23) (by omega) (Nat.le_of_ble_eq_true rfl) hk0 rfl rfl dX11_debtor_23 ?_
    obtain rfl := Option.some.inj h
    exact u_iret (pc := 26) hC hQ hr ⟨rfl, rfl⟩ dX11_debtor_26
  unfold f_X11_debtor at h
  refine u_iload_n (pc := 0) hC dX11_debtor_0 rfl 1 rfl ?_
  refine u_iconst (pc := 1) hC ic_0 dX11_debtor_1 ?_
  refine u_bipush (pc := 2) hC bc_69 dX11_debtor_2 ?_
  obtain ⟨r4, q4, h⟩ := of_bd h
  refine k_RX11_79 (pc := 4) hC (av := [.int a1, .int (0 : Int32), .int (69 : Int32)]) (rest := []) (c_X11_among (d := d - 1) (by omega)  q4) (by omega) (Nat.le_of_ble_eq_true rfl) rfl rfl dX11_debtor_4 ?_
  refine u_if_eq (pc := 7) hC (tgt := 21) dX11_debtor_7 (by decide) (fun c7 => ?_) (fun c7 => ?_)
  · replace h := of_t c7 h
    refine u_sub [0] rfl ?_
    exact jb21 μ h
  · replace h := of_f c7 h
    refine u_iload_n (pc := 10) hC dX11_debtor_10 rfl 2 rfl ?_
    refine u_iconst (pc := 11) hC ic_0 dX11_debtor_11 ?_
    refine u_sipush (pc := 12) hC sc_9999 dX11_debtor_12 ?_
    obtain ⟨r15, q15, h⟩ := of_bd h
    refine k_RX11_79 (pc := 15) hC (av := [.int a2, .int (0 : Int32), .int (9999 : Int32)]) (rest := []) (c_X11_among (d := d - 1) (by omega)  q15) (by omega) (Nat.le_of_ble_eq_true rfl) rfl rfl dX11_debtor_15 ?_
    refine u_if_ne (pc := 18) hC (tgt := 27) dX11_debtor_18 (by decide) (fun c18 => ?_) (fun c18 => ?_)
    · replace h := of_t c18 h
      refine u_aload_n (pc := 27) hC dX11_debtor_27 rfl 0 rfl ?_
      refine g_RX11_10 (pc := 28) hC hk0 dX11_debtor_28 ?_
      refine g_RX11_114 (pc := 31) hC (rs_11_0 hk0) dX11_debtor_31 ?_
      refine g_RX11_120 (pc := 34) hC (rs_10_3 (rs_11_0 hk0)) dX11_debtor_34 ?_
      refine u_iconst (pc := 37) hC ic_4 dX11_debtor_37 ?_
      refine u_icmp_lt (pc := 38) hC (tgt := 47) dX11_debtor_38 (by decide) (fun c38 => ?_) (fun c38 => ?_)
      · replace h := of_t c38 h
        refine u_aload_n (pc := 47) hC dX11_debtor_47 rfl 0 rfl ?_
        refine g_RX11_10 (pc := 48) hC hk0 dX11_debtor_48 ?_
        refine g_RX11_114 (pc := 51) hC (rs_11_0 hk0) dX11_debtor_51 ?_
        refine u_iload_n (pc := 54) hC dX11_debtor_54 rfl 1 rfl ?_
        refine u_iload_n (pc := 55) hC dX11_debtor_55 rfl 2 rfl ?_
        obtain ⟨p56, q56, h⟩ := of_bd h
        refine k_RX11_121 (pc := 56) hC (av := [.int a1, .int a2]) (rest := []) (c_X8_add (d := d - 1) (by omega) (rs_10_3 (rs_11_0 hk0)) q56) (by omega) (Nat.le_of_ble_eq_true rfl) (rs_10_3 (rs_11_0 hk0)) rfl rfl dX11_debtor_56 ?_
        obtain rfl := Option.some.inj h
        exact u_iret (pc := 59) hC hQ hr ⟨rfl, rfl⟩ dX11_debtor_59
      · replace h := of_f c38 h
        refine u_aload_n (pc := 41) hC dX11_debtor_41 rfl 0 rfl ?_
        refine u_iconst (pc := 42) hC ic_4 dX11_debtor_42 ?_
        obtain ⟨p43, q43, h⟩ := of_bd h
        refine k_RX11_83 (pc := 43) hC (av := [.int (4 : Int32)]) (rest := []) (c_X11_refuse (d := d - 1) (by omega) hk0 q43) (by omega) (Nat.le_of_ble_eq_true rfl) hk0 rfl rfl dX11_debtor_43 ?_
        obtain rfl := Option.some.inj h
        exact u_iret (pc := 46) hC hQ hr ⟨rfl, rfl⟩ dX11_debtor_46
    · replace h := of_f (fun q => q c18) h
      refine u_sub [0] rfl ?_
      exact jb21 μ h
set_option maxHeartbeats 4000000 in
set_option maxRecDepth 100000 in
theorem c_X11_isDebtor {l : Launch} {G : GG} {d : Nat} (hd : 1 ≤ d) {μ : Mem} {k0 : Nat} (hk0 : isC 11 k0) {a1 : Int32} {r : Int32} (h : f_X11_isDebtor μ k0 a1 = some r) : CT l yX11_isDebtor cX11_isDebtor 2 (some .boolean) d G [.ref (gad G k0), .int a1] μ (RK (some (.int r)) μ) := by
  refine ct_start (by decide) (Nat.le_of_ble_eq_true rfl) (fun C hl1 hG1 hC hQ hr => ?_)
  subst hl1; subst hG1
  have hC : CxOK C cX11_isDebtor 2 RX11 d := hC
  show UW C 2 μ 0 [(0, .ref (gad (cG C) k0)), (1, .int a1)] []
  unfold f_X11_isDebtor at h
  refine u_iload_n (pc := 0) hC dX11_isDebtor_0 rfl 1 rfl ?_
  refine u_iconst (pc := 1) hC ic_0 dX11_isDebtor_1 ?_
  refine u_aload_n (pc := 2) hC dX11_isDebtor_2 rfl 0 rfl ?_
  refine g_RX11_10 (pc := 3) hC hk0 dX11_isDebtor_3 ?_
  refine g_RX11_114 (pc := 6) hC (rs_11_0 hk0) dX11_isDebtor_6 ?_
  refine g_RX11_120 (pc := 9) hC (rs_10_3 (rs_11_0 hk0)) dX11_isDebtor_9 ?_
  refine u_iconst (pc := 12) hC ic_1 dX11_isDebtor_12 ?_
  refine u_isub (pc := 13) hC dX11_isDebtor_13 ?_
  obtain ⟨r14, q14, h⟩ := of_bd h
  refine k_RX11_79 (pc := 14) hC (av := [.int a1, .int (0 : Int32), .int ((rd μ (rf (rf k0 0) 3) 3) - (1 : Int32))]) (rest := []) (c_X11_among (d := d - 1) (by omega)  q14) (by omega) (Nat.le_of_ble_eq_true rfl) rfl rfl dX11_isDebtor_14 ?_
  obtain ⟨b17, h⟩ := of_gd h
  obtain rfl := Option.some.inj h
  exact u_zret (pc := 17) hC hQ hr b17 ⟨rfl, rfl⟩ dX11_isDebtor_17
set_option maxHeartbeats 4000000 in
set_option maxRecDepth 100000 in
theorem c_X11_stateOf {l : Launch} {G : GG} {d : Nat} (hd : 3 ≤ d) {μ : Mem} {k0 : Nat} (hk0 : isC 8 k0) {a1 : Int32} {a2 : Int32} {r : Int32} (h : f_X11_stateOf μ k0 a1 a2 = some r) : CT l yX11_stateOf cX11_stateOf 4 (some .int) d G [.ref (gad G k0), .int a1, .int a2] μ (RK (some (.int r)) μ) := by
  refine ct_start (by decide) (Nat.le_of_ble_eq_true rfl) (fun C hl1 hG1 hC hQ hr => ?_)
  subst hl1; subst hG1
  have hC : CxOK C cX11_stateOf 4 RX11 d := hC
  show UW C 4 μ 0 [(0, .ref (gad (cG C) k0)), (1, .int a1), (2, .int a2)] []
  unfold f_X11_stateOf at h
  refine u_aload_n (pc := 0) hC dX11_stateOf_0 rfl 0 rfl ?_
  refine g_RX11_125 (pc := 1) hC hk0 dX11_stateOf_1 ?_
  refine u_iload_n (pc := 4) hC dX11_stateOf_4 rfl 1 rfl ?_
  obtain ⟨b5, h⟩ := of_gd h
  refine u_aaldD (pc := 5) hC (rs_8_0 hk0) b5 (rn_8_0 hk0) dX11_stateOf_5 ?_
  refine u_astore_n (pc := 6) hC dX11_stateOf_6 rfl [(3, .ref (gad (cG C) (rf (rf k0 0) a1.toNatClampNeg))), (0, .ref (gad (cG C) k0)), (1, .int a1), (2, .int a2)] (by decide) rfl ?_
  refine u_iload_n (pc := 7) hC dX11_stateOf_7 rfl 3 rfl ?_
  by_cases c8_0 : a2 = 2
  · replace h := of_t c8_0 h
    refine u_tabEq (pc := 8) hC dX11_stateOf_8 (2 : Int32) c8_0 (off := 32) 40 (by decide) (by decide) ?_
    refine u_aload_n (pc := 40) hC dX11_stateOf_40 rfl 0 rfl ?_
    refine g_RX11_147 (pc := 41) hC (rs_15 (rs_8_0 hk0) b5) dX11_stateOf_41 ?_
    obtain rfl := Option.some.inj h
    exact u_iret (pc := 44) hC hQ hr ⟨rfl, rfl⟩ dX11_stateOf_44
  replace h := of_f c8_0 h
  by_cases c8_1 : a2 = 3
  · replace h := of_t c8_1 h
    refine u_tabEq (pc := 8) hC dX11_stateOf_8 (3 : Int32) c8_1 (off := 37) 45 (by decide) (by decide) ?_
    refine u_aload_n (pc := 45) hC dX11_stateOf_45 rfl 0 rfl ?_
    refine g_RX11_153 (pc := 46) hC (rs_15 (rs_8_0 hk0) b5) dX11_stateOf_46 ?_
    obtain rfl := Option.some.inj h
    exact u_iret (pc := 49) hC hQ hr ⟨rfl, rfl⟩ dX11_stateOf_49
  replace h := of_f c8_1 h
  by_cases c8_2 : a2 = 4
  · replace h := of_t c8_2 h
    refine u_tabEq (pc := 8) hC dX11_stateOf_8 (4 : Int32) c8_2 (off := 42) 50 (by decide) (by decide) ?_
    refine u_aload_n (pc := 50) hC dX11_stateOf_50 rfl 0 rfl ?_
    refine g_RX11_245 (pc := 51) hC (rs_15 (rs_8_0 hk0) b5) dX11_stateOf_51 ?_
    obtain rfl := Option.some.inj h
    exact u_iret (pc := 54) hC hQ hr ⟨rfl, rfl⟩ dX11_stateOf_54
  replace h := of_f c8_2 h
  by_cases c8_3 : a2 = 5
  · replace h := of_t c8_3 h
    refine u_tabEq (pc := 8) hC dX11_stateOf_8 (5 : Int32) c8_3 (off := 47) 55 (by decide) (by decide) ?_
    refine u_aload_n (pc := 55) hC dX11_stateOf_55 rfl 0 rfl ?_
    refine g_RX11_176 (pc := 56) hC (rs_15 (rs_8_0 hk0) b5) dX11_stateOf_56 ?_
    refine u_if_eq (pc := 59) hC (tgt := 66) dX11_stateOf_59 (by decide) (fun c59 => ?_) (fun c59 => ?_)
    · replace h := of_t c59 h
      refine u_iconst (pc := 66) hC ic_0 dX11_stateOf_66 ?_
      obtain rfl := Option.some.inj h
      exact u_iret (pc := 67) hC hQ hr ⟨rfl, rfl⟩ dX11_stateOf_67
    · replace h := of_f c59 h
      refine u_iconst (pc := 62) hC ic_1 dX11_stateOf_62 ?_
      refine u_goto (pc := 63) hC 67 dX11_stateOf_63 (by decide) ?_
      obtain rfl := Option.some.inj h
      exact u_iret (pc := 67) hC hQ hr ⟨rfl, rfl⟩ dX11_stateOf_67
  replace h := of_f c8_3 h
  refine u_tabDf (pc := 8) hC dX11_stateOf_8 [(2 : Int32), (3 : Int32), (4 : Int32), (5 : Int32)] (List.forall_mem_cons.mpr ⟨c8_0, List.forall_mem_cons.mpr ⟨c8_1, List.forall_mem_cons.mpr ⟨c8_2, List.forall_mem_cons.mpr ⟨c8_3, (fun _ q => absurd q List.not_mem_nil)⟩⟩⟩⟩) (by decide) 68 (by decide) ?_
  refine u_aload_n (pc := 68) hC dX11_stateOf_68 rfl 1 rfl ?_
  refine u_iload_n (pc := 69) hC dX11_stateOf_69 rfl 2 rfl ?_
  obtain ⟨r70, q70, h⟩ := of_bd h
  refine k_RX11_150 (pc := 70) hC (av := [.int a1]) (rest := []) (c_X8_openOf (d := d - 1) (by omega) hk0 q70) (by omega) (Nat.le_of_ble_eq_true rfl) hk0 rfl rfl dX11_stateOf_70 ?_
  obtain rfl := Option.some.inj h
  exact u_iret (pc := 73) hC hQ hr ⟨rfl, rfl⟩ dX11_stateOf_73
set_option maxHeartbeats 4000000 in
set_option maxRecDepth 100000 in
theorem c_X11_ofDebtor {l : Launch} {G : GG} {d : Nat} (hd : 4 ≤ d) {μ : Mem} {k0 : Nat} (hk0 : isC 11 k0) {a1 : Int32} {a2 : Int32} {r : Int32 × Mem} (h : f_X11_ofDebtor μ k0 a1 a2 = some r) : CT l yX11_ofDebtor cX11_ofDebtor 4 (some .int) d G [.ref (gad G k0), .int a1, .int a2] μ (RK (some (.int r.1)) r.2) := by
  refine ct_start (by decide) (Nat.le_of_ble_eq_true rfl) (fun C hl1 hG1 hC hQ hr => ?_)
  subst hl1; subst hG1
  have hC : CxOK C cX11_ofDebtor 4 RX11 d := hC
  show UW C 4 μ 0 [(0, .ref (gad (cG C) k0)), (1, .int a1), (2, .int a2)] []
  have jb18 : ∀ (μ_18 : Mem), f_X11_ofDebtor_j18 μ_18 k0 a1 a2 = some r → UW C 4 μ_18 18 [(0, .ref (gad (cG C) k0))] [] := by
    intro μ_18 h
    unfold f_X11_ofDebtor_j18 at h
    refine u_aload_n (pc := 18) hC dX11_ofDebtor_18 rfl 0 rfl ?_
    refine u_iconst (pc := 19) hC ic_1 dX11_ofDebtor_19 ?_
    obtain ⟨p20, q20, h⟩ := of_bd h
    refine k_RX11_83 (pc := 20) hC (av := [.int (1 : Int32)]) (rest := []) (c_X11_refuse (d := d - 1) (by omega) hk0 q20) (by omega) (Nat.le_of_ble_eq_true rfl) hk0 rfl rfl dX11_ofDebtor_20 ?_
    obtain rfl := Option.some.inj h
    exact u_iret (pc := 23) hC hQ hr ⟨rfl, rfl⟩ dX11_ofDebtor_23
  unfold f_X11_ofDebtor at h
  refine u_aload_n (pc := 0) hC dX11_ofDebtor_0 rfl 0 rfl ?_
  refine u_iload_n (pc := 1) hC dX11_ofDebtor_1 rfl 1 rfl ?_
  obtain ⟨r2, q2, h⟩ := of_bd h
  refine k_RX11_122 (pc := 2) hC (av := [.int a1]) (rest := []) (c_X11_isDebtor (d := d - 1) (by omega) hk0 q2) (by omega) (Nat.le_of_ble_eq_true rfl) hk0 rfl rfl dX11_ofDebtor_2 ?_
  refine u_if_eq (pc := 5) hC (tgt := 18) dX11_ofDebtor_5 (by decide) (fun c5 => ?_) (fun c5 => ?_)
  · replace h := of_t c5 h
    refine u_sub [0] rfl ?_
    exact jb18 μ h
  · replace h := of_f c5 h
    refine u_iload_n (pc := 8) hC dX11_ofDebtor_8 rfl 2 rfl ?_
    refine u_iconst (pc := 9) hC ic_0 dX11_ofDebtor_9 ?_
    refine u_bipush (pc := 10) hC bc_9 dX11_ofDebtor_10 ?_
    obtain ⟨r12, q12, h⟩ := of_bd h
    refine k_RX11_79 (pc := 12) hC (av := [.int a2, .int (0 : Int32), .int (9 : Int32)]) (rest := []) (c_X11_among (d := d - 1) (by omega)  q12) (by omega) (Nat.le_of_ble_eq_true rfl) rfl rfl dX11_ofDebtor_12 ?_
    refine u_if_ne (pc := 15) hC (tgt := 24) dX11_ofDebtor_15 (by decide) (fun c15 => ?_) (fun c15 => ?_)
    · replace h := of_t c15 h
      refine u_aload_n (pc := 24) hC dX11_ofDebtor_24 rfl 0 rfl ?_
      refine g_RX11_10 (pc := 25) hC hk0 dX11_ofDebtor_25 ?_
      refine g_RX11_114 (pc := 28) hC (rs_11_0 hk0) dX11_ofDebtor_28 ?_
      refine g_RX11_125 (pc := 31) hC (rs_10_3 (rs_11_0 hk0)) dX11_ofDebtor_31 ?_
      refine u_iload_n (pc := 34) hC dX11_ofDebtor_34 rfl 1 rfl ?_
      obtain ⟨b35, h⟩ := of_gd h
      refine u_aaldD (pc := 35) hC (rs_8_0 (rs_10_3 (rs_11_0 hk0))) b35 (rn_8_0 (rs_10_3 (rs_11_0 hk0))) dX11_ofDebtor_35 ?_
      refine u_astore_n (pc := 36) hC dX11_ofDebtor_36 rfl [(3, .ref (gad (cG C) (rf (rf (rf (rf k0 0) 3) 0) a1.toNatClampNeg))), (0, .ref (gad (cG C) k0)), (1, .int a1), (2, .int a2)] (by decide) rfl ?_
      refine u_iload_n (pc := 37) hC dX11_ofDebtor_37 rfl 3 rfl ?_
      by_cases c38_0 : a2 = 0
      · replace h := of_t c38_0 h
        refine u_tabEq (pc := 38) hC dX11_ofDebtor_38 (0 : Int32) c38_0 (off := 54) 92 (by decide) (by decide) ?_
        refine u_aload_n (pc := 92) hC dX11_ofDebtor_92 rfl 0 rfl ?_
        refine g_RX11_129 (pc := 93) hC (rs_15 (rs_8_0 (rs_10_3 (rs_11_0 hk0))) b35) dX11_ofDebtor_93 ?_
        obtain rfl := Option.some.inj h
        exact u_iret (pc := 96) hC hQ hr ⟨rfl, rfl⟩ dX11_ofDebtor_96
      replace h := of_f c38_0 h
      by_cases c38_1 : a2 = 1
      · replace h := of_t c38_1 h
        refine u_tabEq (pc := 38) hC dX11_ofDebtor_38 (1 : Int32) c38_1 (off := 59) 97 (by decide) (by decide) ?_
        refine u_aload_n (pc := 97) hC dX11_ofDebtor_97 rfl 0 rfl ?_
        refine g_RX11_134 (pc := 98) hC (rs_15 (rs_8_0 (rs_10_3 (rs_11_0 hk0))) b35) dX11_ofDebtor_98 ?_
        obtain rfl := Option.some.inj h
        exact u_iret (pc := 101) hC hQ hr ⟨rfl, rfl⟩ dX11_ofDebtor_101
      replace h := of_f c38_1 h
      by_cases c38_2 : a2 = 2
      · replace h := of_t c38_2 h
        refine u_tabEq (pc := 38) hC dX11_ofDebtor_38 (2 : Int32) c38_2 (off := 111) 149 (by decide) (by decide) ?_
        refine u_aload_n (pc := 149) hC dX11_ofDebtor_149 rfl 1 rfl ?_
        refine g_RX11_10 (pc := 150) hC hk0 dX11_ofDebtor_150 ?_
        refine g_RX11_114 (pc := 153) hC (rs_11_0 hk0) dX11_ofDebtor_153 ?_
        refine u_iload_n (pc := 156) hC dX11_ofDebtor_156 rfl 2 rfl ?_
        refine u_iload_n (pc := 157) hC dX11_ofDebtor_157 rfl 3 rfl ?_
        obtain ⟨r158, q158, h⟩ := of_bd h
        refine k_RX11_160 (pc := 158) hC (av := [.ref (gad (cG C) (rf (rf k0 0) 3)), .int a1, .int a2]) (rest := []) (c_X11_stateOf (d := d - 1) (by omega) (rs_10_3 (rs_11_0 hk0)) q158) (by omega) (Nat.le_of_ble_eq_true rfl) rfl rfl dX11_ofDebtor_158 ?_
        obtain rfl := Option.some.inj h
        exact u_iret (pc := 161) hC hQ hr ⟨rfl, rfl⟩ dX11_ofDebtor_161
      replace h := of_f c38_2 h
      by_cases c38_3 : a2 = 3
      · replace h := of_t c38_3 h
        refine u_tabEq (pc := 38) hC dX11_ofDebtor_38 (3 : Int32) c38_3 (off := 111) 149 (by decide) (by decide) ?_
        refine u_aload_n (pc := 149) hC dX11_ofDebtor_149 rfl 1 rfl ?_
        refine g_RX11_10 (pc := 150) hC hk0 dX11_ofDebtor_150 ?_
        refine g_RX11_114 (pc := 153) hC (rs_11_0 hk0) dX11_ofDebtor_153 ?_
        refine u_iload_n (pc := 156) hC dX11_ofDebtor_156 rfl 2 rfl ?_
        refine u_iload_n (pc := 157) hC dX11_ofDebtor_157 rfl 3 rfl ?_
        obtain ⟨r158, q158, h⟩ := of_bd h
        refine k_RX11_160 (pc := 158) hC (av := [.ref (gad (cG C) (rf (rf k0 0) 3)), .int a1, .int a2]) (rest := []) (c_X11_stateOf (d := d - 1) (by omega) (rs_10_3 (rs_11_0 hk0)) q158) (by omega) (Nat.le_of_ble_eq_true rfl) rfl rfl dX11_ofDebtor_158 ?_
        obtain rfl := Option.some.inj h
        exact u_iret (pc := 161) hC hQ hr ⟨rfl, rfl⟩ dX11_ofDebtor_161
      replace h := of_f c38_3 h
      by_cases c38_4 : a2 = 4
      · replace h := of_t c38_4 h
        refine u_tabEq (pc := 38) hC dX11_ofDebtor_38 (4 : Int32) c38_4 (off := 111) 149 (by decide) (by decide) ?_
        refine u_aload_n (pc := 149) hC dX11_ofDebtor_149 rfl 1 rfl ?_
        refine g_RX11_10 (pc := 150) hC hk0 dX11_ofDebtor_150 ?_
        refine g_RX11_114 (pc := 153) hC (rs_11_0 hk0) dX11_ofDebtor_153 ?_
        refine u_iload_n (pc := 156) hC dX11_ofDebtor_156 rfl 2 rfl ?_
        refine u_iload_n (pc := 157) hC dX11_ofDebtor_157 rfl 3 rfl ?_
        obtain ⟨r158, q158, h⟩ := of_bd h
        refine k_RX11_160 (pc := 158) hC (av := [.ref (gad (cG C) (rf (rf k0 0) 3)), .int a1, .int a2]) (rest := []) (c_X11_stateOf (d := d - 1) (by omega) (rs_10_3 (rs_11_0 hk0)) q158) (by omega) (Nat.le_of_ble_eq_true rfl) rfl rfl dX11_ofDebtor_158 ?_
        obtain rfl := Option.some.inj h
        exact u_iret (pc := 161) hC hQ hr ⟨rfl, rfl⟩ dX11_ofDebtor_161
      replace h := of_f c38_4 h
      by_cases c38_5 : a2 = 5
      · replace h := of_t c38_5 h
        refine u_tabEq (pc := 38) hC dX11_ofDebtor_38 (5 : Int32) c38_5 (off := 111) 149 (by decide) (by decide) ?_
        refine u_aload_n (pc := 149) hC dX11_ofDebtor_149 rfl 1 rfl ?_
        refine g_RX11_10 (pc := 150) hC hk0 dX11_ofDebtor_150 ?_
        refine g_RX11_114 (pc := 153) hC (rs_11_0 hk0) dX11_ofDebtor_153 ?_
        refine u_iload_n (pc := 156) hC dX11_ofDebtor_156 rfl 2 rfl ?_
        refine u_iload_n (pc := 157) hC dX11_ofDebtor_157 rfl 3 rfl ?_
        obtain ⟨r158, q158, h⟩ := of_bd h
        refine k_RX11_160 (pc := 158) hC (av := [.ref (gad (cG C) (rf (rf k0 0) 3)), .int a1, .int a2]) (rest := []) (c_X11_stateOf (d := d - 1) (by omega) (rs_10_3 (rs_11_0 hk0)) q158) (by omega) (Nat.le_of_ble_eq_true rfl) rfl rfl dX11_ofDebtor_158 ?_
        obtain rfl := Option.some.inj h
        exact u_iret (pc := 161) hC hQ hr ⟨rfl, rfl⟩ dX11_ofDebtor_161
      replace h := of_f c38_5 h
      by_cases c38_6 : a2 = 6
      · replace h := of_t c38_6 h
        refine u_tabEq (pc := 38) hC dX11_ofDebtor_38 (6 : Int32) c38_6 (off := 64) 102 (by decide) (by decide) ?_
        refine u_aload_n (pc := 102) hC dX11_ofDebtor_102 rfl 0 rfl ?_
        obtain ⟨r103, q103, h⟩ := of_bd h
        refine k_RX11_137 (pc := 103) hC (av := []) (rest := []) (c_X0_due (d := d - 1) (by omega) (rs_15 (rs_8_0 (rs_10_3 (rs_11_0 hk0))) b35) q103) (by omega) (Nat.le_of_ble_eq_true rfl) (rs_15 (rs_8_0 (rs_10_3 (rs_11_0 hk0))) b35) rfl rfl dX11_ofDebtor_103 ?_
        obtain rfl := Option.some.inj h
        exact u_iret (pc := 106) hC hQ hr ⟨rfl, rfl⟩ dX11_ofDebtor_106
      replace h := of_f c38_6 h
      by_cases c38_7 : a2 = 7
      · replace h := of_t c38_7 h
        refine u_tabEq (pc := 38) hC dX11_ofDebtor_38 (7 : Int32) c38_7 (off := 111) 149 (by decide) (by decide) ?_
        refine u_aload_n (pc := 149) hC dX11_ofDebtor_149 rfl 1 rfl ?_
        refine g_RX11_10 (pc := 150) hC hk0 dX11_ofDebtor_150 ?_
        refine g_RX11_114 (pc := 153) hC (rs_11_0 hk0) dX11_ofDebtor_153 ?_
        refine u_iload_n (pc := 156) hC dX11_ofDebtor_156 rfl 2 rfl ?_
        refine u_iload_n (pc := 157) hC dX11_ofDebtor_157 rfl 3 rfl ?_
        obtain ⟨r158, q158, h⟩ := of_bd h
        refine k_RX11_160 (pc := 158) hC (av := [.ref (gad (cG C) (rf (rf k0 0) 3)), .int a1, .int a2]) (rest := []) (c_X11_stateOf (d := d - 1) (by omega) (rs_10_3 (rs_11_0 hk0)) q158) (by omega) (Nat.le_of_ble_eq_true rfl) rfl rfl dX11_ofDebtor_158 ?_
        obtain rfl := Option.some.inj h
        exact u_iret (pc := 161) hC hQ hr ⟨rfl, rfl⟩ dX11_ofDebtor_161
      replace h := of_f c38_7 h
      by_cases c38_8 : a2 = 8
      · replace h := of_t c38_8 h
        refine u_tabEq (pc := 38) hC dX11_ofDebtor_38 (8 : Int32) c38_8 (off := 69) 107 (by decide) (by decide) ?_
        refine u_aload_n (pc := 107) hC dX11_ofDebtor_107 rfl 1 rfl ?_
        refine g_RX11_10 (pc := 108) hC hk0 dX11_ofDebtor_108 ?_
        refine g_RX11_114 (pc := 111) hC (rs_11_0 hk0) dX11_ofDebtor_111 ?_
        refine u_iload_n (pc := 114) hC dX11_ofDebtor_114 rfl 2 rfl ?_
        obtain ⟨r115, q115, h⟩ := of_bd h
        refine k_RX11_141 (pc := 115) hC (av := [.int a1]) (rest := []) (c_X8_mayTell (d := d - 1) (by omega) (rs_10_3 (rs_11_0 hk0)) q115) (by omega) (Nat.le_of_ble_eq_true rfl) (rs_10_3 (rs_11_0 hk0)) rfl rfl dX11_ofDebtor_115 ?_
        obtain rfl := Option.some.inj h
        exact u_iret (pc := 118) hC hQ hr ⟨rfl, rfl⟩ dX11_ofDebtor_118
      replace h := of_f c38_8 h
      by_cases c38_9 : a2 = 9
      · replace h := of_t c38_9 h
        refine u_tabEq (pc := 38) hC dX11_ofDebtor_38 (9 : Int32) c38_9 (off := 81) 119 (by decide) (by decide) ?_
        refine u_aload_n (pc := 119) hC dX11_ofDebtor_119 rfl 1 rfl ?_
        refine g_RX11_10 (pc := 120) hC hk0 dX11_ofDebtor_120 ?_
        refine g_RX11_144 (pc := 123) hC (rs_11_0 hk0) dX11_ofDebtor_123 ?_
        refine u_aload_n (pc := 126) hC dX11_ofDebtor_126 rfl 0 rfl ?_
        refine g_RX11_147 (pc := 127) hC (rs_15 (rs_8_0 (rs_10_3 (rs_11_0 hk0))) b35) dX11_ofDebtor_127 ?_
        refine u_aload_n (pc := 130) hC dX11_ofDebtor_130 rfl 1 rfl ?_
        refine g_RX11_10 (pc := 131) hC hk0 dX11_ofDebtor_131 ?_
        refine g_RX11_114 (pc := 134) hC (rs_11_0 hk0) dX11_ofDebtor_134 ?_
        refine u_iload_n (pc := 137) hC dX11_ofDebtor_137 rfl 2 rfl ?_
        obtain ⟨r138, q138, h⟩ := of_bd h
        refine k_RX11_150 (pc := 138) hC (av := [.int a1]) (rest := [.int (rd μ (rf (rf (rf (rf k0 0) 3) 0) a1.toNatClampNeg) 6), .ref (gad (cG C) (rf (rf k0 0) 2))]) (c_X8_openOf (d := d - 1) (by omega) (rs_10_3 (rs_11_0 hk0)) q138) (by omega) (Nat.le_of_ble_eq_true rfl) (rs_10_3 (rs_11_0 hk0)) rfl rfl dX11_ofDebtor_138 ?_
        refine u_aload_n (pc := 141) hC dX11_ofDebtor_141 rfl 0 rfl ?_
        refine g_RX11_153 (pc := 142) hC (rs_15 (rs_8_0 (rs_10_3 (rs_11_0 hk0))) b35) dX11_ofDebtor_142 ?_
        obtain ⟨p145, q145, h⟩ := of_bd h
        refine k_RX11_154 (pc := 145) hC (av := [.int (rd μ (rf (rf (rf (rf k0 0) 3) 0) a1.toNatClampNeg) 6), .int r138, .int (rd μ (rf (rf (rf (rf k0 0) 3) 0) a1.toNatClampNeg) 3)]) (rest := []) (c_X2_gives (d := d - 1) (by omega) (rs_10_2 (rs_11_0 hk0)) q145) (by omega) (Nat.le_of_ble_eq_true rfl) (rs_10_2 (rs_11_0 hk0)) rfl rfl dX11_ofDebtor_145 ?_
        obtain rfl := Option.some.inj h
        exact u_iret (pc := 148) hC hQ hr ⟨rfl, rfl⟩ dX11_ofDebtor_148
      replace h := of_f c38_9 h
      refine u_tabDf (pc := 38) hC dX11_ofDebtor_38 [(0 : Int32), (1 : Int32), (2 : Int32), (3 : Int32), (4 : Int32), (5 : Int32), (6 : Int32), (7 : Int32), (8 : Int32), (9 : Int32)] (List.forall_mem_cons.mpr ⟨c38_0, List.forall_mem_cons.mpr ⟨c38_1, List.forall_mem_cons.mpr ⟨c38_2, List.forall_mem_cons.mpr ⟨c38_3, List.forall_mem_cons.mpr ⟨c38_4, List.forall_mem_cons.mpr ⟨c38_5, List.forall_mem_cons.mpr ⟨c38_6, List.forall_mem_cons.mpr ⟨c38_7, List.forall_mem_cons.mpr ⟨c38_8, List.forall_mem_cons.mpr ⟨c38_9, (fun _ q => absurd q List.not_mem_nil)⟩⟩⟩⟩⟩⟩⟩⟩⟩⟩) (by decide) 149 (by decide) ?_
      refine u_aload_n (pc := 149) hC dX11_ofDebtor_149 rfl 1 rfl ?_
      refine g_RX11_10 (pc := 150) hC hk0 dX11_ofDebtor_150 ?_
      refine g_RX11_114 (pc := 153) hC (rs_11_0 hk0) dX11_ofDebtor_153 ?_
      refine u_iload_n (pc := 156) hC dX11_ofDebtor_156 rfl 2 rfl ?_
      refine u_iload_n (pc := 157) hC dX11_ofDebtor_157 rfl 3 rfl ?_
      obtain ⟨r158, q158, h⟩ := of_bd h
      refine k_RX11_160 (pc := 158) hC (av := [.ref (gad (cG C) (rf (rf k0 0) 3)), .int a1, .int a2]) (rest := []) (c_X11_stateOf (d := d - 1) (by omega) (rs_10_3 (rs_11_0 hk0)) q158) (by omega) (Nat.le_of_ble_eq_true rfl) rfl rfl dX11_ofDebtor_158 ?_
      obtain rfl := Option.some.inj h
      exact u_iret (pc := 161) hC hQ hr ⟨rfl, rfl⟩ dX11_ofDebtor_161
    · replace h := of_f (fun q => q c15) h
      refine u_sub [0] rfl ?_
      exact jb18 μ h
set_option maxHeartbeats 4000000 in
set_option maxRecDepth 100000 in
theorem c_X11_book {l : Launch} {G : GG} {d : Nat} (hd : 2 ≤ d) {μ : Mem} {k0 : Nat} (hk0 : isC 11 k0) {a1 : Int32} {a2 : Int32} {a3 : Int32} {r : Int32 × Mem} (h : f_X11_book μ k0 a1 a2 a3 = some r) : CT l yX11_book cX11_book 6 (some .int) d G [.ref (gad G k0), .int a1, .int a2, .int a3] μ (RK (some (.int r.1)) r.2) := by
  refine ct_start (by decide) (Nat.le_of_ble_eq_true rfl) (fun C hl1 hG1 hC hQ hr => ?_)
  subst hl1; subst hG1
  have hC : CxOK C cX11_book 6 RX11 d := hC
  show UW C 6 μ 0 [(0, .ref (gad (cG C) k0)), (1, .int a1), (2, .int a2), (3, .int a3)] []
  have jb17 : ∀ (μ_17 : Mem), f_X11_book_j17 μ_17 k0 a1 a2 a3 = some r → UW C 6 μ_17 17 [(0, .ref (gad (cG C) k0))] [] := by
    intro μ_17 h
    unfold f_X11_book_j17 at h
    refine u_aload_n (pc := 17) hC dX11_book_17 rfl 0 rfl ?_
    refine u_iconst (pc := 18) hC ic_1 dX11_book_18 ?_
    obtain ⟨p19, q19, h⟩ := of_bd h
    refine k_RX11_83 (pc := 19) hC (av := [.int (1 : Int32)]) (rest := []) (c_X11_refuse (d := d - 1) (by omega) hk0 q19) (by omega) (Nat.le_of_ble_eq_true rfl) hk0 rfl rfl dX11_book_19 ?_
    obtain rfl := Option.some.inj h
    exact u_iret (pc := 22) hC hQ hr ⟨rfl, rfl⟩ dX11_book_22
  unfold f_X11_book at h
  refine u_aload_n (pc := 0) hC dX11_book_0 rfl 0 rfl ?_
  refine u_iload_n (pc := 1) hC dX11_book_1 rfl 1 rfl ?_
  obtain ⟨r2, q2, h⟩ := of_bd h
  refine k_RX11_122 (pc := 2) hC (av := [.int a1]) (rest := []) (c_X11_isDebtor (d := d - 1) (by omega) hk0 q2) (by omega) (Nat.le_of_ble_eq_true rfl) hk0 rfl rfl dX11_book_2 ?_
  refine u_if_eq (pc := 5) hC (tgt := 17) dX11_book_5 (by decide) (fun c5 => ?_) (fun c5 => ?_)
  · replace h := of_t c5 h
    refine u_sub [0] rfl ?_
    exact jb17 μ h
  · replace h := of_f c5 h
    refine u_iload_n (pc := 8) hC dX11_book_8 rfl 3 rfl ?_
    refine u_iconst (pc := 9) hC ic_0 dX11_book_9 ?_
    refine u_iconst (pc := 10) hC ic_1 dX11_book_10 ?_
    obtain ⟨r11, q11, h⟩ := of_bd h
    refine k_RX11_79 (pc := 11) hC (av := [.int a3, .int (0 : Int32), .int (1 : Int32)]) (rest := []) (c_X11_among (d := d - 1) (by omega)  q11) (by omega) (Nat.le_of_ble_eq_true rfl) rfl rfl dX11_book_11 ?_
    refine u_if_ne (pc := 14) hC (tgt := 23) dX11_book_14 (by decide) (fun c14 => ?_) (fun c14 => ?_)
    · replace h := of_t c14 h
      refine u_aload_n (pc := 23) hC dX11_book_23 rfl 0 rfl ?_
      refine g_RX11_10 (pc := 24) hC hk0 dX11_book_24 ?_
      refine g_RX11_114 (pc := 27) hC (rs_11_0 hk0) dX11_book_27 ?_
      refine g_RX11_125 (pc := 30) hC (rs_10_3 (rs_11_0 hk0)) dX11_book_30 ?_
      refine u_iload_n (pc := 33) hC dX11_book_33 rfl 1 rfl ?_
      obtain ⟨b34, h⟩ := of_gd h
      refine u_aaldD (pc := 34) hC (rs_8_0 (rs_10_3 (rs_11_0 hk0))) b34 (rn_8_0 (rs_10_3 (rs_11_0 hk0))) dX11_book_34 ?_
      refine u_astore (pc := 35) hC dX11_book_35 [(4, .ref (gad (cG C) (rf (rf (rf (rf k0 0) 3) 0) a1.toNatClampNeg))), (0, .ref (gad (cG C) k0)), (1, .int a1), (2, .int a2), (3, .int a3)] (by decide) rfl ?_
      refine u_iload_n (pc := 37) hC dX11_book_37 rfl 3 rfl ?_
      refine u_iconst (pc := 38) hC ic_0 dX11_book_38 ?_
      refine u_aload (pc := 39) hC dX11_book_39 0 rfl ?_
      refine g_RX11_153 (pc := 41) hC (rs_15 (rs_8_0 (rs_10_3 (rs_11_0 hk0))) b34) dX11_book_41 ?_
      refine u_iconst (pc := 44) hC ic_1 dX11_book_44 ?_
      refine u_isub (pc := 45) hC dX11_book_45 ?_
      obtain ⟨r46, q46, h⟩ := of_bd h
      refine k_RX11_79 (pc := 46) hC (av := [.int a2, .int (0 : Int32), .int ((rd μ (rf (rf (rf (rf k0 0) 3) 0) a1.toNatClampNeg) 3) - (1 : Int32))]) (rest := []) (c_X11_among (d := d - 1) (by omega)  q46) (by omega) (Nat.le_of_ble_eq_true rfl) rfl rfl dX11_book_46 ?_
      refine u_if_ne (pc := 49) hC (tgt := 58) dX11_book_49 (by decide) (fun c49 => ?_) (fun c49 => ?_)
      · replace h := of_t c49 h
        refine u_aload (pc := 58) hC dX11_book_58 0 rfl ?_
        refine g_RX11_164 (pc := 60) hC (rs_15 (rs_8_0 (rs_10_3 (rs_11_0 hk0))) b34) dX11_book_60 ?_
        refine u_iload_n (pc := 63) hC dX11_book_63 rfl 3 rfl ?_
        obtain ⟨b64, h⟩ := of_gd h
        refine u_iald (pc := 64) hC (rs_0_0 (rs_15 (rs_8_0 (rs_10_3 (rs_11_0 hk0))) b34)) 8 (rn_0_0 (rs_15 (rs_8_0 (rs_10_3 (rs_11_0 hk0))) b34)) b64 dX11_book_64 ?_
        refine u_istore (pc := 65) hC dX11_book_65 [(5, .int (rd μ (rf (rf (rf (rf (rf k0 0) 3) 0) a1.toNatClampNeg) 0) a2.toNatClampNeg)), (4, .ref (gad (cG C) (rf (rf (rf (rf k0 0) 3) 0) a1.toNatClampNeg))), (0, .ref (gad (cG C) k0)), (1, .int a1), (2, .int a2), (3, .int a3)] (by decide) rfl ?_
        refine u_iload_n (pc := 67) hC dX11_book_67 rfl 5 rfl ?_
        refine u_if_ne (pc := 68) hC (tgt := 76) dX11_book_68 (by decide) (fun c68 => ?_) (fun c68 => ?_)
        · replace h := of_t c68 h
          refine u_aload (pc := 76) hC dX11_book_76 1 rfl ?_
          refine g_RX11_167 (pc := 78) hC (rs_15 (rs_8_0 (rs_10_3 (rs_11_0 hk0))) b34) dX11_book_78 ?_
          refine u_iload (pc := 81) hC dX11_book_81 0 rfl ?_
          obtain ⟨b83, h⟩ := of_gd h
          refine u_iald (pc := 83) hC (rs_0_1 (rs_15 (rs_8_0 (rs_10_3 (rs_11_0 hk0))) b34)) 8 (rn_0_1 (rs_15 (rs_8_0 (rs_10_3 (rs_11_0 hk0))) b34)) b83 dX11_book_83 ?_
          obtain rfl := Option.some.inj h
          exact u_iret (pc := 84) hC hQ hr ⟨rfl, rfl⟩ dX11_book_84
        · replace h := of_f (fun q => q c68) h
          refine u_iload (pc := 71) hC dX11_book_71 0 rfl ?_
          refine u_goto (pc := 73) hC 84 dX11_book_73 (by decide) ?_
          obtain rfl := Option.some.inj h
          exact u_iret (pc := 84) hC hQ hr ⟨rfl, rfl⟩ dX11_book_84
      · replace h := of_f (fun q => q c49) h
        refine u_aload_n (pc := 52) hC dX11_book_52 rfl 1 rfl ?_
        refine u_iconst (pc := 53) hC ic_2 dX11_book_53 ?_
        obtain ⟨p54, q54, h⟩ := of_bd h
        refine k_RX11_83 (pc := 54) hC (av := [.int (2 : Int32)]) (rest := []) (c_X11_refuse (d := d - 1) (by omega) hk0 q54) (by omega) (Nat.le_of_ble_eq_true rfl) hk0 rfl rfl dX11_book_54 ?_
        obtain rfl := Option.some.inj h
        exact u_iret (pc := 57) hC hQ hr ⟨rfl, rfl⟩ dX11_book_57
    · replace h := of_f (fun q => q c14) h
      refine u_sub [0] rfl ?_
      exact jb17 μ h
set_option maxHeartbeats 4000000 in
set_option maxRecDepth 100000 in
theorem c_X11_become {l : Launch} {G : GG} {d : Nat} (hd : 2 ≤ d) {μ : Mem} {k0 : Nat} (hk0 : isC 11 k0) {a1 : Int32} {a2 : Int32} {r : Int32 × Mem} (h : f_X11_become μ k0 a1 a2 = some r) : CT l yX11_become cX11_become 5 (some .int) d G [.ref (gad G k0), .int a1, .int a2] μ (RK (some (.int r.1)) r.2) := by
  refine ct_start (by decide) (Nat.le_of_ble_eq_true rfl) (fun C hl1 hG1 hC hQ hr => ?_)
  subst hl1; subst hG1
  have hC : CxOK C cX11_become 5 RX11 d := hC
  show UW C 5 μ 0 [(0, .ref (gad (cG C) k0)), (1, .int a1), (2, .int a2)] []
  have jb18 : ∀ (μ_18 : Mem), f_X11_become_j18 μ_18 k0 a1 a2 = some r → UW C 5 μ_18 18 [(0, .ref (gad (cG C) k0))] [] := by
    intro μ_18 h
    unfold f_X11_become_j18 at h
    refine u_aload_n (pc := 18) hC dX11_become_18 rfl 0 rfl ?_
    refine u_iconst (pc := 19) hC ic_1 dX11_become_19 ?_
    obtain ⟨p20, q20, h⟩ := of_bd h
    refine k_RX11_83 (pc := 20) hC (av := [.int (1 : Int32)]) (rest := []) (c_X11_refuse (d := d - 1) (by omega) hk0 q20) (by omega) (Nat.le_of_ble_eq_true rfl) hk0 rfl rfl dX11_become_20 ?_
    obtain rfl := Option.some.inj h
    exact u_iret (pc := 23) hC hQ hr ⟨rfl, rfl⟩ dX11_become_23
  unfold f_X11_become at h
  refine u_aload_n (pc := 0) hC dX11_become_0 rfl 0 rfl ?_
  refine u_iload_n (pc := 1) hC dX11_become_1 rfl 1 rfl ?_
  obtain ⟨r2, q2, h⟩ := of_bd h
  refine k_RX11_122 (pc := 2) hC (av := [.int a1]) (rest := []) (c_X11_isDebtor (d := d - 1) (by omega) hk0 q2) (by omega) (Nat.le_of_ble_eq_true rfl) hk0 rfl rfl dX11_become_2 ?_
  refine u_if_eq (pc := 5) hC (tgt := 18) dX11_become_5 (by decide) (fun c5 => ?_) (fun c5 => ?_)
  · replace h := of_t c5 h
    refine u_sub [0] rfl ?_
    exact jb18 μ h
  · replace h := of_f c5 h
    refine u_iload_n (pc := 8) hC dX11_become_8 rfl 2 rfl ?_
    refine u_iconst (pc := 9) hC ic_0 dX11_become_9 ?_
    refine u_bipush (pc := 10) hC bc_69 dX11_become_10 ?_
    obtain ⟨r12, q12, h⟩ := of_bd h
    refine k_RX11_79 (pc := 12) hC (av := [.int a2, .int (0 : Int32), .int (69 : Int32)]) (rest := []) (c_X11_among (d := d - 1) (by omega)  q12) (by omega) (Nat.le_of_ble_eq_true rfl) rfl rfl dX11_become_12 ?_
    refine u_if_ne (pc := 15) hC (tgt := 24) dX11_become_15 (by decide) (fun c15 => ?_) (fun c15 => ?_)
    · replace h := of_t c15 h
      refine u_aload_n (pc := 24) hC dX11_become_24 rfl 0 rfl ?_
      refine g_RX11_10 (pc := 25) hC hk0 dX11_become_25 ?_
      refine g_RX11_114 (pc := 28) hC (rs_11_0 hk0) dX11_become_28 ?_
      refine g_RX11_125 (pc := 31) hC (rs_10_3 (rs_11_0 hk0)) dX11_become_31 ?_
      refine u_iload_n (pc := 34) hC dX11_become_34 rfl 1 rfl ?_
      obtain ⟨b35, h⟩ := of_gd h
      refine u_aaldD (pc := 35) hC (rs_8_0 (rs_10_3 (rs_11_0 hk0))) b35 (rn_8_0 (rs_10_3 (rs_11_0 hk0))) dX11_become_35 ?_
      refine u_astore_n (pc := 36) hC dX11_become_36 rfl [(3, .ref (gad (cG C) (rf (rf (rf (rf k0 0) 3) 0) a1.toNatClampNeg))), (0, .ref (gad (cG C) k0)), (1, .int a1), (2, .int a2)] (by decide) rfl ?_
      refine u_aload_n (pc := 37) hC dX11_become_37 rfl 0 rfl ?_
      refine g_RX11_129 (pc := 38) hC (rs_15 (rs_8_0 (rs_10_3 (rs_11_0 hk0))) b35) dX11_become_38 ?_
      refine u_istore (pc := 41) hC dX11_become_41 [(4, .int (rd μ (rf (rf (rf (rf k0 0) 3) 0) a1.toNatClampNeg) 4)), (3, .ref (gad (cG C) (rf (rf (rf (rf k0 0) 3) 0) a1.toNatClampNeg))), (0, .ref (gad (cG C) k0)), (1, .int a1), (2, .int a2)] (by decide) rfl ?_
      refine u_aload_n (pc := 43) hC dX11_become_43 rfl 1 rfl ?_
      refine u_iload_n (pc := 44) hC dX11_become_44 rfl 4 rfl ?_
      refine u_bipush (pc := 45) hC bc_10 dX11_become_45 ?_
      refine u_idiv (pc := 47) hC (by decide) dX11_become_47 ?_
      obtain ⟨m48, q48, h⟩ := of_bd h
      refine p_RX11_129 (pc := 48) hC (rs_15 (rs_8_0 (rs_10_3 (rs_11_0 hk0))) b35) dX11_become_48 (Option.some.inj q48) ?_
      refine u_aload_n (pc := 51) hC dX11_become_51 rfl 1 rfl ?_
      refine u_iload_n (pc := 52) hC dX11_become_52 rfl 4 rfl ?_
      refine u_bipush (pc := 53) hC bc_10 dX11_become_53 ?_
      refine u_irem (pc := 55) hC (by decide) dX11_become_55 ?_
      obtain ⟨m56, q56, h⟩ := of_bd h
      refine p_RX11_134 (pc := 56) hC (rs_15 (rs_8_0 (rs_10_3 (rs_11_0 hk0))) b35) dX11_become_56 (Option.some.inj q56) ?_
      refine u_iload (pc := 59) hC dX11_become_59 0 rfl ?_
      obtain rfl := Option.some.inj h
      exact u_iret (pc := 61) hC hQ hr ⟨rfl, rfl⟩ dX11_become_61
    · replace h := of_f (fun q => q c15) h
      refine u_sub [0] rfl ?_
      exact jb18 μ h
set_option maxHeartbeats 4000000 in
set_option maxRecDepth 100000 in
theorem c_X11_isKind {l : Launch} {G : GG} {d : Nat} (hd : 1 ≤ d) {μ : Mem} {a0 : Int32} {r : Int32} (h : f_X11_isKind a0 = some r) : CT l yX11_isKind cX11_isKind 1 (some .boolean) d G [.int a0] μ (RK (some (.int r)) μ) := by
  refine ct_start (by decide) (Nat.le_of_ble_eq_true rfl) (fun C hl1 hG1 hC hQ hr => ?_)
  subst hl1; subst hG1
  have hC : CxOK C cX11_isKind 1 RX11 d := hC
  show UW C 1 μ 0 [(0, .int a0)] []
  unfold f_X11_isKind at h
  refine u_iload_n (pc := 0) hC dX11_isKind_0 rfl 0 rfl ?_
  refine u_iconst (pc := 1) hC ic_0 dX11_isKind_1 ?_
  refine u_bipush (pc := 2) hC bc_6 dX11_isKind_2 ?_
  obtain ⟨r4, q4, h⟩ := of_bd h
  refine k_RX11_79 (pc := 4) hC (av := [.int a0, .int (0 : Int32), .int (6 : Int32)]) (rest := []) (c_X11_among (d := d - 1) (by omega)  q4) (by omega) (Nat.le_of_ble_eq_true rfl) rfl rfl dX11_isKind_4 ?_
  obtain ⟨b7, h⟩ := of_gd h
  obtain rfl := Option.some.inj h
  exact u_zret (pc := 7) hC hQ hr b7 ⟨rfl, rfl⟩ dX11_isKind_7
set_option maxHeartbeats 4000000 in
set_option maxRecDepth 100000 in
theorem c_X11_as {l : Launch} {G : GG} {d : Nat} (hd : 2 ≤ d) {μ : Mem} {k0 : Nat} (hk0 : isC 11 k0) {a1 : Int32} {a2 : Int32} {r : Int32 × Mem} (h : f_X11_as μ k0 a1 a2 = some r) : CT l yX11_as cX11_as 4 (some .int) d G [.ref (gad G k0), .int a1, .int a2] μ (RK (some (.int r.1)) r.2) := by
  refine ct_start (by decide) (Nat.le_of_ble_eq_true rfl) (fun C hl1 hG1 hC hQ hr => ?_)
  subst hl1; subst hG1
  have hC : CxOK C cX11_as 4 RX11 d := hC
  show UW C 4 μ 0 [(0, .ref (gad (cG C) k0)), (1, .int a1), (2, .int a2)] []
  have jb15 : ∀ (μ_15 : Mem), f_X11_as_j15 μ_15 k0 a1 a2 = some r → UW C 4 μ_15 15 [(0, .ref (gad (cG C) k0))] [] := by
    intro μ_15 h
    unfold f_X11_as_j15 at h
    refine u_aload_n (pc := 15) hC dX11_as_15 rfl 0 rfl ?_
    refine u_iconst (pc := 16) hC ic_1 dX11_as_16 ?_
    obtain ⟨p17, q17, h⟩ := of_bd h
    refine k_RX11_83 (pc := 17) hC (av := [.int (1 : Int32)]) (rest := []) (c_X11_refuse (d := d - 1) (by omega) hk0 q17) (by omega) (Nat.le_of_ble_eq_true rfl) hk0 rfl rfl dX11_as_17 ?_
    obtain rfl := Option.some.inj h
    exact u_iret (pc := 20) hC hQ hr ⟨rfl, rfl⟩ dX11_as_20
  unfold f_X11_as at h
  refine u_aload_n (pc := 0) hC dX11_as_0 rfl 0 rfl ?_
  refine u_iload_n (pc := 1) hC dX11_as_1 rfl 1 rfl ?_
  obtain ⟨r2, q2, h⟩ := of_bd h
  refine k_RX11_122 (pc := 2) hC (av := [.int a1]) (rest := []) (c_X11_isDebtor (d := d - 1) (by omega) hk0 q2) (by omega) (Nat.le_of_ble_eq_true rfl) hk0 rfl rfl dX11_as_2 ?_
  refine u_if_eq (pc := 5) hC (tgt := 15) dX11_as_5 (by decide) (fun c5 => ?_) (fun c5 => ?_)
  · replace h := of_t c5 h
    refine u_sub [0] rfl ?_
    exact jb15 μ h
  · replace h := of_f c5 h
    refine u_iload_n (pc := 8) hC dX11_as_8 rfl 2 rfl ?_
    obtain ⟨r9, q9, h⟩ := of_bd h
    refine k_RX11_170 (pc := 9) hC (av := [.int a2]) (rest := []) (c_X11_isKind (d := d - 1) (by omega)  q9) (by omega) (Nat.le_of_ble_eq_true rfl) rfl rfl dX11_as_9 ?_
    refine u_if_ne (pc := 12) hC (tgt := 21) dX11_as_12 (by decide) (fun c12 => ?_) (fun c12 => ?_)
    · replace h := of_t c12 h
      refine u_aload_n (pc := 21) hC dX11_as_21 rfl 0 rfl ?_
      refine g_RX11_10 (pc := 22) hC hk0 dX11_as_22 ?_
      refine g_RX11_114 (pc := 25) hC (rs_11_0 hk0) dX11_as_25 ?_
      refine g_RX11_125 (pc := 28) hC (rs_10_3 (rs_11_0 hk0)) dX11_as_28 ?_
      refine u_iload_n (pc := 31) hC dX11_as_31 rfl 1 rfl ?_
      obtain ⟨b32, h⟩ := of_gd h
      refine u_aaldD (pc := 32) hC (rs_8_0 (rs_10_3 (rs_11_0 hk0))) b32 (rn_8_0 (rs_10_3 (rs_11_0 hk0))) dX11_as_32 ?_
      refine u_astore_n (pc := 33) hC dX11_as_33 rfl [(3, .ref (gad (cG C) (rf (rf (rf (rf k0 0) 3) 0) a1.toNatClampNeg))), (0, .ref (gad (cG C) k0)), (1, .int a1), (2, .int a2)] (by decide) rfl ?_
      refine u_aload_n (pc := 34) hC dX11_as_34 rfl 0 rfl ?_
      refine u_iload_n (pc := 35) hC dX11_as_35 rfl 3 rfl ?_
      obtain ⟨r36, q36, h⟩ := of_bd h
      refine k_RX11_173 (pc := 36) hC (av := [.int a2]) (rest := []) (c_X0_is (d := d - 1) (by omega) (rs_15 (rs_8_0 (rs_10_3 (rs_11_0 hk0))) b32) q36) (by omega) (Nat.le_of_ble_eq_true rfl) (rs_15 (rs_8_0 (rs_10_3 (rs_11_0 hk0))) b32) rfl rfl dX11_as_36 ?_
      refine u_if_eq (pc := 39) hC (tgt := 49) dX11_as_39 (by decide) (fun c39 => ?_) (fun c39 => ?_)
      · replace h := of_t c39 h
        refine u_aload_n (pc := 49) hC dX11_as_49 rfl 1 rfl ?_
        refine u_iconst (pc := 50) hC ic_5 dX11_as_50 ?_
        obtain ⟨p51, q51, h⟩ := of_bd h
        refine k_RX11_83 (pc := 51) hC (av := [.int (5 : Int32)]) (rest := []) (c_X11_refuse (d := d - 1) (by omega) hk0 q51) (by omega) (Nat.le_of_ble_eq_true rfl) hk0 rfl rfl dX11_as_51 ?_
        obtain rfl := Option.some.inj h
        exact u_iret (pc := 54) hC hQ hr ⟨rfl, rfl⟩ dX11_as_54
      · replace h := of_f c39 h
        refine u_aload_n (pc := 42) hC dX11_as_42 rfl 0 rfl ?_
        refine g_RX11_134 (pc := 43) hC (rs_15 (rs_8_0 (rs_10_3 (rs_11_0 hk0))) b32) dX11_as_43 ?_
        refine u_goto (pc := 46) hC 54 dX11_as_46 (by decide) ?_
        obtain rfl := Option.some.inj h
        exact u_iret (pc := 54) hC hQ hr ⟨rfl, rfl⟩ dX11_as_54
    · replace h := of_f (fun q => q c12) h
      refine u_sub [0] rfl ?_
      exact jb15 μ h
set_option maxHeartbeats 4000000 in
set_option maxRecDepth 100000 in
theorem c_X11_lend {l : Launch} {G : GG} {d : Nat} (hd : 2 ≤ d) {μ : Mem} {k0 : Nat} (hk0 : isC 11 k0) {a1 : Int32} {a2 : Int32} {r : Int32 × Mem} (h : f_X11_lend μ k0 a1 a2 = some r) : CT l yX11_lend cX11_lend 4 (some .int) d G [.ref (gad G k0), .int a1, .int a2] μ (RK (some (.int r.1)) r.2) := by
  refine ct_start (by decide) (Nat.le_of_ble_eq_true rfl) (fun C hl1 hG1 hC hQ hr => ?_)
  subst hl1; subst hG1
  have hC : CxOK C cX11_lend 4 RX11 d := hC
  show UW C 4 μ 0 [(0, .ref (gad (cG C) k0)), (1, .int a1), (2, .int a2)] []
  have jb19 : ∀ (μ_19 : Mem), f_X11_lend_j19 μ_19 k0 a1 a2 = some r → UW C 4 μ_19 19 [(0, .ref (gad (cG C) k0))] [] := by
    intro μ_19 h
    unfold f_X11_lend_j19 at h
    refine u_aload_n (pc := 19) hC dX11_lend_19 rfl 0 rfl ?_
    refine u_iconst (pc := 20) hC ic_1 dX11_lend_20 ?_
    obtain ⟨p21, q21, h⟩ := of_bd h
    refine k_RX11_83 (pc := 21) hC (av := [.int (1 : Int32)]) (rest := []) (c_X11_refuse (d := d - 1) (by omega) hk0 q21) (by omega) (Nat.le_of_ble_eq_true rfl) hk0 rfl rfl dX11_lend_21 ?_
    obtain rfl := Option.some.inj h
    exact u_iret (pc := 24) hC hQ hr ⟨rfl, rfl⟩ dX11_lend_24
  unfold f_X11_lend at h
  refine u_aload_n (pc := 0) hC dX11_lend_0 rfl 0 rfl ?_
  refine u_iload_n (pc := 1) hC dX11_lend_1 rfl 1 rfl ?_
  obtain ⟨r2, q2, h⟩ := of_bd h
  refine k_RX11_122 (pc := 2) hC (av := [.int a1]) (rest := []) (c_X11_isDebtor (d := d - 1) (by omega) hk0 q2) (by omega) (Nat.le_of_ble_eq_true rfl) hk0 rfl rfl dX11_lend_2 ?_
  refine u_if_eq (pc := 5) hC (tgt := 19) dX11_lend_5 (by decide) (fun c5 => ?_) (fun c5 => ?_)
  · replace h := of_t c5 h
    refine u_sub [0] rfl ?_
    exact jb19 μ h
  · replace h := of_f c5 h
    refine u_iload_n (pc := 8) hC dX11_lend_8 rfl 2 rfl ?_
    refine u_iconst (pc := 9) hC ic_1 dX11_lend_9 ?_
    refine u_sipush (pc := 10) hC sc_999 dX11_lend_10 ?_
    obtain ⟨r13, q13, h⟩ := of_bd h
    refine k_RX11_79 (pc := 13) hC (av := [.int a2, .int (1 : Int32), .int (999 : Int32)]) (rest := []) (c_X11_among (d := d - 1) (by omega)  q13) (by omega) (Nat.le_of_ble_eq_true rfl) rfl rfl dX11_lend_13 ?_
    refine u_if_ne (pc := 16) hC (tgt := 25) dX11_lend_16 (by decide) (fun c16 => ?_) (fun c16 => ?_)
    · replace h := of_t c16 h
      refine u_aload_n (pc := 25) hC dX11_lend_25 rfl 0 rfl ?_
      refine g_RX11_10 (pc := 26) hC hk0 dX11_lend_26 ?_
      refine g_RX11_114 (pc := 29) hC (rs_11_0 hk0) dX11_lend_29 ?_
      refine g_RX11_125 (pc := 32) hC (rs_10_3 (rs_11_0 hk0)) dX11_lend_32 ?_
      refine u_iload_n (pc := 35) hC dX11_lend_35 rfl 1 rfl ?_
      obtain ⟨b36, h⟩ := of_gd h
      refine u_aaldD (pc := 36) hC (rs_8_0 (rs_10_3 (rs_11_0 hk0))) b36 (rn_8_0 (rs_10_3 (rs_11_0 hk0))) dX11_lend_36 ?_
      refine u_astore_n (pc := 37) hC dX11_lend_37 rfl [(3, .ref (gad (cG C) (rf (rf (rf (rf k0 0) 3) 0) a1.toNatClampNeg))), (0, .ref (gad (cG C) k0)), (1, .int a1), (2, .int a2)] (by decide) rfl ?_
      refine u_aload_n (pc := 38) hC dX11_lend_38 rfl 0 rfl ?_
      refine g_RX11_176 (pc := 39) hC (rs_15 (rs_8_0 (rs_10_3 (rs_11_0 hk0))) b36) dX11_lend_39 ?_
      refine u_if_eq (pc := 42) hC (tgt := 51) dX11_lend_42 (by decide) (fun c42 => ?_) (fun c42 => ?_)
      · replace h := of_t c42 h
        refine u_aload_n (pc := 51) hC dX11_lend_51 rfl 0 rfl ?_
        refine u_iload_n (pc := 52) hC dX11_lend_52 rfl 3 rfl ?_
        obtain ⟨μ53, q53, h⟩ := of_bd h
        refine k_RX11_180 (pc := 53) hC (av := [.int a2]) (rest := []) (c_X0_owe (d := d - 1) (by omega) (rs_15 (rs_8_0 (rs_10_3 (rs_11_0 hk0))) b36) q53) (by omega) (Nat.le_of_ble_eq_true rfl) (rs_15 (rs_8_0 (rs_10_3 (rs_11_0 hk0))) b36) rfl rfl dX11_lend_53 ?_
        refine u_aload_n (pc := 56) hC dX11_lend_56 rfl 0 rfl ?_
        refine g_RX11_147 (pc := 57) hC (rs_15 (rs_8_0 (rs_10_3 (rs_11_0 hk0))) b36) dX11_lend_57 ?_
        obtain rfl := Option.some.inj h
        exact u_iret (pc := 60) hC hQ hr ⟨rfl, rfl⟩ dX11_lend_60
      · replace h := of_f c42 h
        refine u_aload_n (pc := 45) hC dX11_lend_45 rfl 1 rfl ?_
        refine u_iconst (pc := 46) hC ic_3 dX11_lend_46 ?_
        obtain ⟨p47, q47, h⟩ := of_bd h
        refine k_RX11_83 (pc := 47) hC (av := [.int (3 : Int32)]) (rest := []) (c_X11_refuse (d := d - 1) (by omega) hk0 q47) (by omega) (Nat.le_of_ble_eq_true rfl) hk0 rfl rfl dX11_lend_47 ?_
        obtain rfl := Option.some.inj h
        exact u_iret (pc := 50) hC hQ hr ⟨rfl, rfl⟩ dX11_lend_50
    · replace h := of_f (fun q => q c16) h
      refine u_sub [0] rfl ?_
      exact jb19 μ h
set_option maxHeartbeats 4000000 in
set_option maxRecDepth 100000 in
theorem c_X11_canTell {l : Launch} {G : GG} {d : Nat} (hd : 3 ≤ d) {μ : Mem} {k0 : Nat} (hk0 : isC 11 k0) {a1 : Int32} {a2 : Int32} {r : Int32} (h : f_X11_canTell μ k0 a1 a2 = some r) : CT l yX11_canTell cX11_canTell 3 (some .boolean) d G [.ref (gad G k0), .int a1, .int a2] μ (RK (some (.int r)) μ) := by
  refine ct_start (by decide) (Nat.le_of_ble_eq_true rfl) (fun C hl1 hG1 hC hQ hr => ?_)
  subst hl1; subst hG1
  have hC : CxOK C cX11_canTell 3 RX11 d := hC
  show UW C 3 μ 0 [(0, .ref (gad (cG C) k0)), (1, .int a1), (2, .int a2)] []
  unfold f_X11_canTell at h
  refine u_aload_n (pc := 0) hC dX11_canTell_0 rfl 0 rfl ?_
  refine u_iload_n (pc := 1) hC dX11_canTell_1 rfl 1 rfl ?_
  obtain ⟨r2, q2, h⟩ := of_bd h
  refine k_RX11_122 (pc := 2) hC (av := [.int a1]) (rest := []) (c_X11_isDebtor (d := d - 1) (by omega) hk0 q2) (by omega) (Nat.le_of_ble_eq_true rfl) hk0 rfl rfl dX11_canTell_2 ?_
  refine u_if_eq (pc := 5) hC (tgt := 57) dX11_canTell_5 (by decide) (fun c5 => ?_) (fun c5 => ?_)
  · replace h := of_t c5 h
    refine u_iconst (pc := 57) hC ic_0 dX11_canTell_57 ?_
    obtain rfl := Option.some.inj h
    exact u_zret (pc := 58) hC hQ hr (by decide) ⟨rfl, rfl⟩ dX11_canTell_58
  · replace h := of_f c5 h
    refine u_aload_n (pc := 8) hC dX11_canTell_8 rfl 0 rfl ?_
    refine u_iload_n (pc := 9) hC dX11_canTell_9 rfl 2 rfl ?_
    obtain ⟨r10, q10, h⟩ := of_bd h
    refine k_RX11_91 (pc := 10) hC (av := [.int a2]) (rest := []) (c_X11_isFact (d := d - 1) (by omega) hk0 q10) (by omega) (Nat.le_of_ble_eq_true rfl) hk0 rfl rfl dX11_canTell_10 ?_
    refine u_if_eq (pc := 13) hC (tgt := 57) dX11_canTell_13 (by decide) (fun c13 => ?_) (fun c13 => ?_)
    · replace h := of_t c13 h
      refine u_iconst (pc := 57) hC ic_0 dX11_canTell_57 ?_
      obtain rfl := Option.some.inj h
      exact u_zret (pc := 58) hC hQ hr (by decide) ⟨rfl, rfl⟩ dX11_canTell_58
    · replace h := of_f c13 h
      refine u_aload_n (pc := 16) hC dX11_canTell_16 rfl 0 rfl ?_
      refine g_RX11_10 (pc := 17) hC hk0 dX11_canTell_17 ?_
      refine g_RX11_114 (pc := 20) hC (rs_11_0 hk0) dX11_canTell_20 ?_
      refine g_RX11_125 (pc := 23) hC (rs_10_3 (rs_11_0 hk0)) dX11_canTell_23 ?_
      refine u_iload_n (pc := 26) hC dX11_canTell_26 rfl 1 rfl ?_
      obtain ⟨b27, h⟩ := of_gd h
      refine u_aaldD (pc := 27) hC (rs_8_0 (rs_10_3 (rs_11_0 hk0))) b27 (rn_8_0 (rs_10_3 (rs_11_0 hk0))) dX11_canTell_27 ?_
      refine g_RX11_176 (pc := 28) hC (rs_15 (rs_8_0 (rs_10_3 (rs_11_0 hk0))) b27) dX11_canTell_28 ?_
      refine u_if_ne (pc := 31) hC (tgt := 57) dX11_canTell_31 (by decide) (fun c31 => ?_) (fun c31 => ?_)
      · replace h := of_t c31 h
        refine u_iconst (pc := 57) hC ic_0 dX11_canTell_57 ?_
        obtain rfl := Option.some.inj h
        exact u_zret (pc := 58) hC hQ hr (by decide) ⟨rfl, rfl⟩ dX11_canTell_58
      · replace h := of_f (fun q => q c31) h
        refine u_aload_n (pc := 34) hC dX11_canTell_34 rfl 0 rfl ?_
        refine g_RX11_10 (pc := 35) hC hk0 dX11_canTell_35 ?_
        refine g_RX11_114 (pc := 38) hC (rs_11_0 hk0) dX11_canTell_38 ?_
        refine u_iload_n (pc := 41) hC dX11_canTell_41 rfl 1 rfl ?_
        obtain ⟨r42, q42, h⟩ := of_bd h
        refine k_RX11_141 (pc := 42) hC (av := [.int a1]) (rest := []) (c_X8_mayTell (d := d - 1) (by omega) (rs_10_3 (rs_11_0 hk0)) q42) (by omega) (Nat.le_of_ble_eq_true rfl) (rs_10_3 (rs_11_0 hk0)) rfl rfl dX11_canTell_42 ?_
        refine u_iload_n (pc := 45) hC dX11_canTell_45 rfl 2 rfl ?_
        refine u_ishr (pc := 46) hC dX11_canTell_46 ?_
        refine u_iconst (pc := 47) hC ic_1 dX11_canTell_47 ?_
        refine u_iand (pc := 48) hC dX11_canTell_48 ?_
        refine u_iconst (pc := 49) hC ic_1 dX11_canTell_49 ?_
        refine u_icmp_ne (pc := 50) hC (tgt := 57) dX11_canTell_50 (by decide) (fun c50 => ?_) (fun c50 => ?_)
        · replace h := of_t c50 h
          refine u_iconst (pc := 57) hC ic_0 dX11_canTell_57 ?_
          obtain rfl := Option.some.inj h
          exact u_zret (pc := 58) hC hQ hr (by decide) ⟨rfl, rfl⟩ dX11_canTell_58
        · replace h := of_f (fun q => q c50) h
          refine u_iconst (pc := 53) hC ic_1 dX11_canTell_53 ?_
          refine u_goto (pc := 54) hC 58 dX11_canTell_54 (by decide) ?_
          obtain rfl := Option.some.inj h
          exact u_zret (pc := 58) hC hQ hr (by decide) ⟨rfl, rfl⟩ dX11_canTell_58
set_option maxHeartbeats 4000000 in
set_option maxRecDepth 100000 in
theorem c_X11_tells {l : Launch} {G : GG} {d : Nat} (hd : 4 ≤ d) {μ : Mem} {k0 : Nat} (hk0 : isC 11 k0) {a1 : Int32} {a2 : Int32} {r : Int32 × Mem} (h : f_X11_tells μ k0 a1 a2 = some r) : CT l yX11_tells cX11_tells 3 (some .int) d G [.ref (gad G k0), .int a1, .int a2] μ (RK (some (.int r.1)) r.2) := by
  refine ct_start (by decide) (Nat.le_of_ble_eq_true rfl) (fun C hl1 hG1 hC hQ hr => ?_)
  subst hl1; subst hG1
  have hC : CxOK C cX11_tells 3 RX11 d := hC
  show UW C 3 μ 0 [(0, .ref (gad (cG C) k0)), (1, .int a1), (2, .int a2)] []
  have jb16 : ∀ (μ_16 : Mem), f_X11_tells_j16 μ_16 k0 a1 a2 = some r → UW C 3 μ_16 16 [(0, .ref (gad (cG C) k0))] [] := by
    intro μ_16 h
    unfold f_X11_tells_j16 at h
    refine u_aload_n (pc := 16) hC dX11_tells_16 rfl 0 rfl ?_
    refine u_iconst (pc := 17) hC ic_1 dX11_tells_17 ?_
    obtain ⟨p18, q18, h⟩ := of_bd h
    refine k_RX11_83 (pc := 18) hC (av := [.int (1 : Int32)]) (rest := []) (c_X11_refuse (d := d - 1) (by omega) hk0 q18) (by omega) (Nat.le_of_ble_eq_true rfl) hk0 rfl rfl dX11_tells_18 ?_
    obtain rfl := Option.some.inj h
    exact u_iret (pc := 21) hC hQ hr ⟨rfl, rfl⟩ dX11_tells_21
  unfold f_X11_tells at h
  refine u_aload_n (pc := 0) hC dX11_tells_0 rfl 0 rfl ?_
  refine u_iload_n (pc := 1) hC dX11_tells_1 rfl 1 rfl ?_
  obtain ⟨r2, q2, h⟩ := of_bd h
  refine k_RX11_122 (pc := 2) hC (av := [.int a1]) (rest := []) (c_X11_isDebtor (d := d - 1) (by omega) hk0 q2) (by omega) (Nat.le_of_ble_eq_true rfl) hk0 rfl rfl dX11_tells_2 ?_
  refine u_if_eq (pc := 5) hC (tgt := 16) dX11_tells_5 (by decide) (fun c5 => ?_) (fun c5 => ?_)
  · replace h := of_t c5 h
    refine u_sub [0] rfl ?_
    exact jb16 μ h
  · replace h := of_f c5 h
    refine u_aload_n (pc := 8) hC dX11_tells_8 rfl 0 rfl ?_
    refine u_iload_n (pc := 9) hC dX11_tells_9 rfl 2 rfl ?_
    obtain ⟨r10, q10, h⟩ := of_bd h
    refine k_RX11_91 (pc := 10) hC (av := [.int a2]) (rest := []) (c_X11_isFact (d := d - 1) (by omega) hk0 q10) (by omega) (Nat.le_of_ble_eq_true rfl) hk0 rfl rfl dX11_tells_10 ?_
    refine u_if_ne (pc := 13) hC (tgt := 22) dX11_tells_13 (by decide) (fun c13 => ?_) (fun c13 => ?_)
    · replace h := of_t c13 h
      refine u_aload_n (pc := 22) hC dX11_tells_22 rfl 0 rfl ?_
      refine u_iload_n (pc := 23) hC dX11_tells_23 rfl 1 rfl ?_
      refine u_iload_n (pc := 24) hC dX11_tells_24 rfl 2 rfl ?_
      obtain ⟨r25, q25, h⟩ := of_bd h
      refine k_RX11_184 (pc := 25) hC (av := [.int a1, .int a2]) (rest := []) (c_X11_canTell (d := d - 1) (by omega) hk0 q25) (by omega) (Nat.le_of_ble_eq_true rfl) hk0 rfl rfl dX11_tells_25 ?_
      refine u_if_ne (pc := 28) hC (tgt := 37) dX11_tells_28 (by decide) (fun c28 => ?_) (fun c28 => ?_)
      · replace h := of_t c28 h
        refine u_aload_n (pc := 37) hC dX11_tells_37 rfl 0 rfl ?_
        refine g_RX11_10 (pc := 38) hC hk0 dX11_tells_38 ?_
        refine g_RX11_114 (pc := 41) hC (rs_11_0 hk0) dX11_tells_41 ?_
        refine u_iload_n (pc := 44) hC dX11_tells_44 rfl 1 rfl ?_
        refine u_iload_n (pc := 45) hC dX11_tells_45 rfl 2 rfl ?_
        obtain ⟨μ46, q46, h⟩ := of_bd h
        refine k_RX11_188 (pc := 46) hC (av := [.int a1, .int a2]) (rest := []) (c_X8_write (d := d - 1) (by omega) (rs_10_3 (rs_11_0 hk0)) q46) (by omega) (Nat.le_of_ble_eq_true rfl) (rs_10_3 (rs_11_0 hk0)) rfl rfl dX11_tells_46 ?_
        refine u_aload_n (pc := 49) hC dX11_tells_49 rfl 0 rfl ?_
        refine g_RX11_10 (pc := 50) hC hk0 dX11_tells_50 ?_
        refine g_RX11_114 (pc := 53) hC (rs_11_0 hk0) dX11_tells_53 ?_
        refine g_RX11_125 (pc := 56) hC (rs_10_3 (rs_11_0 hk0)) dX11_tells_56 ?_
        refine u_iload_n (pc := 59) hC dX11_tells_59 rfl 1 rfl ?_
        obtain ⟨b60, h⟩ := of_gd h
        refine u_aaldD (pc := 60) hC (rs_8_0 (rs_10_3 (rs_11_0 hk0))) b60 (rn_8_0 (rs_10_3 (rs_11_0 hk0))) dX11_tells_60 ?_
        refine g_RX11_147 (pc := 61) hC (rs_15 (rs_8_0 (rs_10_3 (rs_11_0 hk0))) b60) dX11_tells_61 ?_
        obtain rfl := Option.some.inj h
        exact u_iret (pc := 64) hC hQ hr ⟨rfl, rfl⟩ dX11_tells_64
      · replace h := of_f (fun q => q c28) h
        refine u_aload_n (pc := 31) hC dX11_tells_31 rfl 0 rfl ?_
        refine u_iconst (pc := 32) hC ic_3 dX11_tells_32 ?_
        obtain ⟨p33, q33, h⟩ := of_bd h
        refine k_RX11_83 (pc := 33) hC (av := [.int (3 : Int32)]) (rest := []) (c_X11_refuse (d := d - 1) (by omega) hk0 q33) (by omega) (Nat.le_of_ble_eq_true rfl) hk0 rfl rfl dX11_tells_33 ?_
        obtain rfl := Option.some.inj h
        exact u_iret (pc := 36) hC hQ hr ⟨rfl, rfl⟩ dX11_tells_36
    · replace h := of_f (fun q => q c13) h
      refine u_sub [0] rfl ?_
      exact jb16 μ h
set_option maxHeartbeats 4000000 in
set_option maxRecDepth 100000 in
theorem c_X11_pardon {l : Launch} {G : GG} {d : Nat} (hd : 2 ≤ d) {μ : Mem} {k0 : Nat} (hk0 : isC 11 k0) {a1 : Int32} {r : Int32 × Mem} (h : f_X11_pardon μ k0 a1 = some r) : CT l yX11_pardon cX11_pardon 4 (some .int) d G [.ref (gad G k0), .int a1] μ (RK (some (.int r.1)) r.2) := by
  refine ct_start (by decide) (Nat.le_of_ble_eq_true rfl) (fun C hl1 hG1 hC hQ hr => ?_)
  subst hl1; subst hG1
  have hC : CxOK C cX11_pardon 4 RX11 d := hC
  show UW C 4 μ 0 [(0, .ref (gad (cG C) k0)), (1, .int a1)] []
  unfold f_X11_pardon at h
  refine u_aload_n (pc := 0) hC dX11_pardon_0 rfl 0 rfl ?_
  refine u_iload_n (pc := 1) hC dX11_pardon_1 rfl 1 rfl ?_
  obtain ⟨r2, q2, h⟩ := of_bd h
  refine k_RX11_122 (pc := 2) hC (av := [.int a1]) (rest := []) (c_X11_isDebtor (d := d - 1) (by omega) hk0 q2) (by omega) (Nat.le_of_ble_eq_true rfl) hk0 rfl rfl dX11_pardon_2 ?_
  refine u_if_ne (pc := 5) hC (tgt := 14) dX11_pardon_5 (by decide) (fun c5 => ?_) (fun c5 => ?_)
  · replace h := of_t c5 h
    refine u_aload_n (pc := 14) hC dX11_pardon_14 rfl 0 rfl ?_
    refine g_RX11_10 (pc := 15) hC hk0 dX11_pardon_15 ?_
    refine g_RX11_114 (pc := 18) hC (rs_11_0 hk0) dX11_pardon_18 ?_
    refine g_RX11_125 (pc := 21) hC (rs_10_3 (rs_11_0 hk0)) dX11_pardon_21 ?_
    refine u_iload_n (pc := 24) hC dX11_pardon_24 rfl 1 rfl ?_
    obtain ⟨b25, h⟩ := of_gd h
    refine u_aaldD (pc := 25) hC (rs_8_0 (rs_10_3 (rs_11_0 hk0))) b25 (rn_8_0 (rs_10_3 (rs_11_0 hk0))) dX11_pardon_25 ?_
    refine u_astore_n (pc := 26) hC dX11_pardon_26 rfl [(2, .ref (gad (cG C) (rf (rf (rf (rf k0 0) 3) 0) a1.toNatClampNeg))), (0, .ref (gad (cG C) k0)), (1, .int a1)] (by decide) rfl ?_
    refine u_aload_n (pc := 27) hC dX11_pardon_27 rfl 0 rfl ?_
    refine g_RX11_176 (pc := 28) hC (rs_15 (rs_8_0 (rs_10_3 (rs_11_0 hk0))) b25) dX11_pardon_28 ?_
    refine u_if_ne (pc := 31) hC (tgt := 40) dX11_pardon_31 (by decide) (fun c31 => ?_) (fun c31 => ?_)
    · replace h := of_t c31 h
      refine u_aload_n (pc := 40) hC dX11_pardon_40 rfl 0 rfl ?_
      refine g_RX11_153 (pc := 41) hC (rs_15 (rs_8_0 (rs_10_3 (rs_11_0 hk0))) b25) dX11_pardon_41 ?_
      refine u_istore_n (pc := 44) hC dX11_pardon_44 rfl [(3, .int (rd μ (rf (rf (rf (rf k0 0) 3) 0) a1.toNatClampNeg) 3)), (2, .ref (gad (cG C) (rf (rf (rf (rf k0 0) 3) 0) a1.toNatClampNeg))), (0, .ref (gad (cG C) k0)), (1, .int a1)] (by decide) rfl ?_
      refine u_aload_n (pc := 45) hC dX11_pardon_45 rfl 1 rfl ?_
      obtain ⟨μ46, q46, h⟩ := of_bd h
      refine k_RX11_192 (pc := 46) hC (av := []) (rest := []) (c_X0_letOff (d := d - 1) (by omega) (rs_15 (rs_8_0 (rs_10_3 (rs_11_0 hk0))) b25) q46) (by omega) (Nat.le_of_ble_eq_true rfl) (rs_15 (rs_8_0 (rs_10_3 (rs_11_0 hk0))) b25) rfl rfl dX11_pardon_46 ?_
      refine u_iload_n (pc := 49) hC dX11_pardon_49 rfl 0 rfl ?_
      obtain rfl := Option.some.inj h
      exact u_iret (pc := 50) hC hQ hr ⟨rfl, rfl⟩ dX11_pardon_50
    · replace h := of_f (fun q => q c31) h
      refine u_aload_n (pc := 34) hC dX11_pardon_34 rfl 1 rfl ?_
      refine u_iconst (pc := 35) hC ic_3 dX11_pardon_35 ?_
      obtain ⟨p36, q36, h⟩ := of_bd h
      refine k_RX11_83 (pc := 36) hC (av := [.int (3 : Int32)]) (rest := []) (c_X11_refuse (d := d - 1) (by omega) hk0 q36) (by omega) (Nat.le_of_ble_eq_true rfl) hk0 rfl rfl dX11_pardon_36 ?_
      obtain rfl := Option.some.inj h
      exact u_iret (pc := 39) hC hQ hr ⟨rfl, rfl⟩ dX11_pardon_39
  · replace h := of_f (fun q => q c5) h
    refine u_aload_n (pc := 8) hC dX11_pardon_8 rfl 0 rfl ?_
    refine u_iconst (pc := 9) hC ic_1 dX11_pardon_9 ?_
    obtain ⟨p10, q10, h⟩ := of_bd h
    refine k_RX11_83 (pc := 10) hC (av := [.int (1 : Int32)]) (rest := []) (c_X11_refuse (d := d - 1) (by omega) hk0 q10) (by omega) (Nat.le_of_ble_eq_true rfl) hk0 rfl rfl dX11_pardon_10 ?_
    obtain rfl := Option.some.inj h
    exact u_iret (pc := 13) hC hQ hr ⟨rfl, rfl⟩ dX11_pardon_13
set_option maxHeartbeats 4000000 in
set_option maxRecDepth 100000 in
theorem c_X11_weeks {l : Launch} {G : GG} {d : Nat} (hd : 6 ≤ d) {μ : Mem} {k0 : Nat} (hk0 : isC 11 k0) {a1 : Int32} {r : Int32 × Mem} (h : f_X11_weeks μ k0 a1 = some r) : CT l yX11_weeks cX11_weeks 2 (some .int) d G [.ref (gad G k0), .int a1] μ (RK (some (.int r.1)) r.2) := by
  refine ct_start (by decide) (Nat.le_of_ble_eq_true rfl) (fun C hl1 hG1 hC hQ hr => ?_)
  subst hl1; subst hG1
  have hC : CxOK C cX11_weeks 2 RX11 d := hC
  show UW C 2 μ 0 [(0, .ref (gad (cG C) k0)), (1, .int a1)] []
  unfold f_X11_weeks at h
  refine u_iload_n (pc := 0) hC dX11_weeks_0 rfl 1 rfl ?_
  refine u_iconst (pc := 1) hC ic_1 dX11_weeks_1 ?_
  refine u_bipush (pc := 2) hC bc_60 dX11_weeks_2 ?_
  obtain ⟨r4, q4, h⟩ := of_bd h
  refine k_RX11_79 (pc := 4) hC (av := [.int a1, .int (1 : Int32), .int (60 : Int32)]) (rest := []) (c_X11_among (d := d - 1) (by omega)  q4) (by omega) (Nat.le_of_ble_eq_true rfl) rfl rfl dX11_weeks_4 ?_
  refine u_if_ne (pc := 7) hC (tgt := 16) dX11_weeks_7 (by decide) (fun c7 => ?_) (fun c7 => ?_)
  · replace h := of_t c7 h
    refine u_aload_n (pc := 16) hC dX11_weeks_16 rfl 0 rfl ?_
    refine g_RX11_10 (pc := 17) hC hk0 dX11_weeks_17 ?_
    refine g_RX11_114 (pc := 20) hC (rs_11_0 hk0) dX11_weeks_20 ?_
    refine g_RX11_195 (pc := 23) hC (rs_10_3 (rs_11_0 hk0)) dX11_weeks_23 ?_
    refine u_iload_n (pc := 26) hC dX11_weeks_26 rfl 1 rfl ?_
    refine u_iadd (pc := 27) hC dX11_weeks_27 ?_
    refine u_sipush (pc := 28) hC sc_999 dX11_weeks_28 ?_
    refine u_icmp_le (pc := 31) hC (tgt := 40) dX11_weeks_31 (by decide) (fun c31 => ?_) (fun c31 => ?_)
    · replace h := of_t c31 h
      refine u_aload_n (pc := 40) hC dX11_weeks_40 rfl 0 rfl ?_
      refine g_RX11_10 (pc := 41) hC hk0 dX11_weeks_41 ?_
      refine g_RX11_114 (pc := 44) hC (rs_11_0 hk0) dX11_weeks_44 ?_
      refine u_iload_n (pc := 47) hC dX11_weeks_47 rfl 1 rfl ?_
      obtain ⟨μ48, q48, h⟩ := of_bd h
      refine k_RX11_198 (pc := 48) hC (av := [.int a1]) (rest := []) (c_X8_passWeeks (d := d - 1) (by omega) (rs_10_3 (rs_11_0 hk0)) q48) (by omega) (Nat.le_of_ble_eq_true rfl) (rs_10_3 (rs_11_0 hk0)) rfl rfl dX11_weeks_48 ?_
      refine u_aload_n (pc := 51) hC dX11_weeks_51 rfl 0 rfl ?_
      refine g_RX11_10 (pc := 52) hC hk0 dX11_weeks_52 ?_
      refine g_RX11_114 (pc := 55) hC (rs_11_0 hk0) dX11_weeks_55 ?_
      obtain ⟨r58, q58, h⟩ := of_bd h
      refine k_RX11_201 (pc := 58) hC (av := []) (rest := []) (c_X8_broken (d := d - 1) (by omega) (rs_10_3 (rs_11_0 hk0)) q58) (by omega) (Nat.le_of_ble_eq_true rfl) (rs_10_3 (rs_11_0 hk0)) rfl rfl dX11_weeks_58 ?_
      obtain rfl := Option.some.inj h
      exact u_iret (pc := 61) hC hQ hr ⟨rfl, rfl⟩ dX11_weeks_61
    · replace h := of_f c31 h
      refine u_aload_n (pc := 34) hC dX11_weeks_34 rfl 0 rfl ?_
      refine u_iconst (pc := 35) hC ic_3 dX11_weeks_35 ?_
      obtain ⟨p36, q36, h⟩ := of_bd h
      refine k_RX11_83 (pc := 36) hC (av := [.int (3 : Int32)]) (rest := []) (c_X11_refuse (d := d - 1) (by omega) hk0 q36) (by omega) (Nat.le_of_ble_eq_true rfl) hk0 rfl rfl dX11_weeks_36 ?_
      obtain rfl := Option.some.inj h
      exact u_iret (pc := 39) hC hQ hr ⟨rfl, rfl⟩ dX11_weeks_39
  · replace h := of_f (fun q => q c7) h
    refine u_aload_n (pc := 10) hC dX11_weeks_10 rfl 0 rfl ?_
    refine u_iconst (pc := 11) hC ic_1 dX11_weeks_11 ?_
    obtain ⟨p12, q12, h⟩ := of_bd h
    refine k_RX11_83 (pc := 12) hC (av := [.int (1 : Int32)]) (rest := []) (c_X11_refuse (d := d - 1) (by omega) hk0 q12) (by omega) (Nat.le_of_ble_eq_true rfl) hk0 rfl rfl dX11_weeks_12 ?_
    obtain rfl := Option.some.inj h
    exact u_iret (pc := 15) hC hQ hr ⟨rfl, rfl⟩ dX11_weeks_15
set_option maxHeartbeats 4000000 in
set_option maxRecDepth 100000 in
theorem c_X11_loose {l : Launch} {G : GG} {d : Nat} (hd : 6 ≤ d) {μ : Mem} {k0 : Nat} (hk0 : isC 11 k0) {a1 : Int32} {r : Int32 × Mem} (h : f_X11_loose μ k0 a1 = some r) : CT l yX11_loose cX11_loose 3 (some .int) d G [.ref (gad G k0), .int a1] μ (RK (some (.int r.1)) r.2) := by
  refine ct_start (by decide) (Nat.le_of_ble_eq_true rfl) (fun C hl1 hG1 hC hQ hr => ?_)
  subst hl1; subst hG1
  have hC : CxOK C cX11_loose 3 RX11 d := hC
  show UW C 3 μ 0 [(0, .ref (gad (cG C) k0)), (1, .int a1)] []
  have lw42 : ∀ (e : (Mem)) (s : Int32 × Mem), lp (fun s => f_X11_loose_l42 k0 a1 s.1 s.2) FU s = some e → (fun (e : (Mem)) => UW C 3 e 71 [(0, .ref (gad (cG C) k0))] []) e → UW C 3 s.2 42 [(0, .ref (gad (cG C) k0)), (1, .int a1), (2, .int s.1)] [] := by
    intro e s hl hE0
    refine @lp_walk (Int32 × Mem) (Mem) (fun s => f_X11_loose_l42 k0 a1 s.1 s.2) (fun s => UW C 3 s.2 42 [(0, .ref (gad (cG C) k0)), (1, .int a1), (2, .int s.1)] []) (fun (e : (Mem)) => UW C 3 e 71 [(0, .ref (gad (cG C) k0))] []) (fun s y42 h hP42 hE42 => ?_) FU s e hl hE0
    obtain ⟨v2_42, μ_42⟩ := s
    replace h : f_X11_loose_l42 k0 a1 v2_42 μ_42 = some y42 := h
    show UW C 3 μ_42 42 [(0, .ref (gad (cG C) k0)), (1, .int a1), (2, .int v2_42)] []
    unfold f_X11_loose_l42 at h
    refine u_iload_n (pc := 42) hC dX11_loose_42 rfl 2 rfl ?_
    refine u_iload_n (pc := 43) hC dX11_loose_43 rfl 1 rfl ?_
    refine u_icmp_ge (pc := 44) hC (tgt := 71) dX11_loose_44 (by decide) (fun c44 => ?_) (fun c44 => ?_)
    · replace h := of_t c44 h
      obtain rfl := Option.some.inj h
      refine u_sub [0] rfl ?_
      exact hE42 μ_42 rfl
    · replace h := of_f c44 h
      refine u_aload_n (pc := 47) hC dX11_loose_47 rfl 0 rfl ?_
      refine g_RX11_10 (pc := 48) hC hk0 dX11_loose_48 ?_
      obtain ⟨μ51, q51, h⟩ := of_bd h
      refine k_RX11_203 (pc := 51) hC (av := []) (rest := []) (c_X10_lendByDraws (d := d - 1) (by omega) (rs_11_0 hk0) q51) (by omega) (Nat.le_of_ble_eq_true rfl) (rs_11_0 hk0) rfl rfl dX11_loose_51 ?_
      refine u_aload_n (pc := 54) hC dX11_loose_54 rfl 0 rfl ?_
      refine g_RX11_10 (pc := 55) hC hk0 dX11_loose_55 ?_
      refine g_RX11_114 (pc := 58) hC (rs_11_0 hk0) dX11_loose_58 ?_
      refine u_iconst (pc := 61) hC ic_1 dX11_loose_61 ?_
      obtain ⟨μ62, q62, h⟩ := of_bd h
      refine k_RX11_198 (pc := 62) hC (av := [.int (1 : Int32)]) (rest := []) (c_X8_passWeeks (d := d - 1) (by omega) (rs_10_3 (rs_11_0 hk0)) q62) (by omega) (Nat.le_of_ble_eq_true rfl) (rs_10_3 (rs_11_0 hk0)) rfl rfl dX11_loose_62 ?_
      refine u_iinc (pc := 65) hC dX11_loose_65 2 rfl (v2_42 + 1) rfl [(2, .int (v2_42 + 1)), (0, .ref (gad (cG C) k0)), (1, .int a1)] (by decide) rfl ?_
      refine u_goto (pc := 68) hC 42 dX11_loose_68 (by decide) ?_
      obtain rfl := Option.some.inj h
      refine u_sub [1, 2, 0] rfl ?_
      exact hP42 (v2_42 + 1, μ62) rfl
  unfold f_X11_loose at h
  refine u_iload_n (pc := 0) hC dX11_loose_0 rfl 1 rfl ?_
  refine u_iconst (pc := 1) hC ic_1 dX11_loose_1 ?_
  refine u_bipush (pc := 2) hC bc_60 dX11_loose_2 ?_
  obtain ⟨r4, q4, h⟩ := of_bd h
  refine k_RX11_79 (pc := 4) hC (av := [.int a1, .int (1 : Int32), .int (60 : Int32)]) (rest := []) (c_X11_among (d := d - 1) (by omega)  q4) (by omega) (Nat.le_of_ble_eq_true rfl) rfl rfl dX11_loose_4 ?_
  refine u_if_ne (pc := 7) hC (tgt := 16) dX11_loose_7 (by decide) (fun c7 => ?_) (fun c7 => ?_)
  · replace h := of_t c7 h
    refine u_aload_n (pc := 16) hC dX11_loose_16 rfl 0 rfl ?_
    refine g_RX11_10 (pc := 17) hC hk0 dX11_loose_17 ?_
    refine g_RX11_114 (pc := 20) hC (rs_11_0 hk0) dX11_loose_20 ?_
    refine g_RX11_195 (pc := 23) hC (rs_10_3 (rs_11_0 hk0)) dX11_loose_23 ?_
    refine u_iload_n (pc := 26) hC dX11_loose_26 rfl 1 rfl ?_
    refine u_iadd (pc := 27) hC dX11_loose_27 ?_
    refine u_sipush (pc := 28) hC sc_999 dX11_loose_28 ?_
    refine u_icmp_le (pc := 31) hC (tgt := 40) dX11_loose_31 (by decide) (fun c31 => ?_) (fun c31 => ?_)
    · replace h := of_t c31 h
      refine u_iconst (pc := 40) hC ic_0 dX11_loose_40 ?_
      refine u_istore_n (pc := 41) hC dX11_loose_41 rfl [(2, .int (0 : Int32)), (0, .ref (gad (cG C) k0)), (1, .int a1)] (by decide) rfl ?_
      obtain ⟨e42, l42, h⟩ := of_bd h
      refine u_sub [1, 2, 0] rfl ?_
      refine lw42  e42 ((0 : Int32), μ) l42 ?_
      show UW C 3 e42 71 [(0, .ref (gad (cG C) k0))] []
      refine u_aload_n (pc := 71) hC dX11_loose_71 rfl 0 rfl ?_
      refine g_RX11_10 (pc := 72) hC hk0 dX11_loose_72 ?_
      refine g_RX11_114 (pc := 75) hC (rs_11_0 hk0) dX11_loose_75 ?_
      obtain ⟨r78, q78, h⟩ := of_bd h
      refine k_RX11_201 (pc := 78) hC (av := []) (rest := []) (c_X8_broken (d := d - 1) (by omega) (rs_10_3 (rs_11_0 hk0)) q78) (by omega) (Nat.le_of_ble_eq_true rfl) (rs_10_3 (rs_11_0 hk0)) rfl rfl dX11_loose_78 ?_
      obtain rfl := Option.some.inj h
      exact u_iret (pc := 81) hC hQ hr ⟨rfl, rfl⟩ dX11_loose_81
    · replace h := of_f c31 h
      refine u_aload_n (pc := 34) hC dX11_loose_34 rfl 0 rfl ?_
      refine u_iconst (pc := 35) hC ic_3 dX11_loose_35 ?_
      obtain ⟨p36, q36, h⟩ := of_bd h
      refine k_RX11_83 (pc := 36) hC (av := [.int (3 : Int32)]) (rest := []) (c_X11_refuse (d := d - 1) (by omega) hk0 q36) (by omega) (Nat.le_of_ble_eq_true rfl) hk0 rfl rfl dX11_loose_36 ?_
      obtain rfl := Option.some.inj h
      exact u_iret (pc := 39) hC hQ hr ⟨rfl, rfl⟩ dX11_loose_39
  · replace h := of_f (fun q => q c7) h
    refine u_aload_n (pc := 10) hC dX11_loose_10 rfl 0 rfl ?_
    refine u_iconst (pc := 11) hC ic_1 dX11_loose_11 ?_
    obtain ⟨p12, q12, h⟩ := of_bd h
    refine k_RX11_83 (pc := 12) hC (av := [.int (1 : Int32)]) (rest := []) (c_X11_refuse (d := d - 1) (by omega) hk0 q12) (by omega) (Nat.le_of_ble_eq_true rfl) hk0 rfl rfl dX11_loose_12 ?_
    obtain rfl := Option.some.inj h
    exact u_iret (pc := 15) hC hQ hr ⟨rfl, rfl⟩ dX11_loose_15
set_option maxHeartbeats 4000000 in
set_option maxRecDepth 100000 in
theorem c_X11_then {l : Launch} {G : GG} {d : Nat} (hd : 6 ≤ d) {μ : Mem} {k0 : Nat} (hk0 : isC 11 k0) {a1 : Int32} {a2 : Int32} {a3 : Int32} {r : Int32 × Mem} (h : f_X11_then μ k0 a1 a2 a3 = some r) : CT l yX11_then cX11_then 4 (some .int) d G [.ref (gad G k0), .int a1, .int a2, .int a3] μ (RK (some (.int r.1)) r.2) := by
  refine ct_start (by decide) (Nat.le_of_ble_eq_true rfl) (fun C hl1 hG1 hC hQ hr => ?_)
  subst hl1; subst hG1
  have hC : CxOK C cX11_then 4 RX11 d := hC
  show UW C 4 μ 0 [(0, .ref (gad (cG C) k0)), (1, .int a1), (2, .int a2), (3, .int a3)] []
  have jb34 : ∀ (μ_34 : Mem), f_X11_then_j34 μ_34 k0 a1 a2 a3 = some r → UW C 4 μ_34 34 [(0, .ref (gad (cG C) k0))] [] := by
    intro μ_34 h
    unfold f_X11_then_j34 at h
    refine u_aload_n (pc := 34) hC dX11_then_34 rfl 0 rfl ?_
    refine u_iconst (pc := 35) hC ic_1 dX11_then_35 ?_
    obtain ⟨p36, q36, h⟩ := of_bd h
    refine k_RX11_83 (pc := 36) hC (av := [.int (1 : Int32)]) (rest := []) (c_X11_refuse (d := d - 1) (by omega) hk0 q36) (by omega) (Nat.le_of_ble_eq_true rfl) hk0 rfl rfl dX11_then_36 ?_
    obtain rfl := Option.some.inj h
    exact u_iret (pc := 39) hC hQ hr ⟨rfl, rfl⟩ dX11_then_39
  unfold f_X11_then at h
  refine u_iload_n (pc := 0) hC dX11_then_0 rfl 1 rfl ?_
  refine u_iconst (pc := 1) hC ic_0 dX11_then_1 ?_
  refine u_bipush (pc := 2) hC bc_60 dX11_then_2 ?_
  obtain ⟨r4, q4, h⟩ := of_bd h
  refine k_RX11_79 (pc := 4) hC (av := [.int a1, .int (0 : Int32), .int (60 : Int32)]) (rest := []) (c_X11_among (d := d - 1) (by omega)  q4) (by omega) (Nat.le_of_ble_eq_true rfl) rfl rfl dX11_then_4 ?_
  refine u_if_eq (pc := 7) hC (tgt := 34) dX11_then_7 (by decide) (fun c7 => ?_) (fun c7 => ?_)
  · replace h := of_t c7 h
    refine u_sub [0] rfl ?_
    exact jb34 μ h
  · replace h := of_f c7 h
    refine u_aload_n (pc := 10) hC dX11_then_10 rfl 0 rfl ?_
    refine u_iload_n (pc := 11) hC dX11_then_11 rfl 2 rfl ?_
    obtain ⟨r12, q12, h⟩ := of_bd h
    refine k_RX11_122 (pc := 12) hC (av := [.int a2]) (rest := []) (c_X11_isDebtor (d := d - 1) (by omega) hk0 q12) (by omega) (Nat.le_of_ble_eq_true rfl) hk0 rfl rfl dX11_then_12 ?_
    refine u_if_eq (pc := 15) hC (tgt := 34) dX11_then_15 (by decide) (fun c15 => ?_) (fun c15 => ?_)
    · replace h := of_t c15 h
      refine u_sub [0] rfl ?_
      exact jb34 μ h
    · replace h := of_f c15 h
      refine u_iload_n (pc := 18) hC dX11_then_18 rfl 3 rfl ?_
      refine u_iconst (pc := 19) hC ic_2 dX11_then_19 ?_
      refine u_bipush (pc := 20) hC bc_7 dX11_then_20 ?_
      obtain ⟨r22, q22, h⟩ := of_bd h
      refine k_RX11_79 (pc := 22) hC (av := [.int a3, .int (2 : Int32), .int (7 : Int32)]) (rest := []) (c_X11_among (d := d - 1) (by omega)  q22) (by omega) (Nat.le_of_ble_eq_true rfl) rfl rfl dX11_then_22 ?_
      refine u_if_eq (pc := 25) hC (tgt := 34) dX11_then_25 (by decide) (fun c25 => ?_) (fun c25 => ?_)
      · replace h := of_t c25 h
        refine u_sub [0] rfl ?_
        exact jb34 μ h
      · replace h := of_f c25 h
        refine u_iload_n (pc := 28) hC dX11_then_28 rfl 3 rfl ?_
        refine u_bipush (pc := 29) hC bc_6 dX11_then_29 ?_
        refine u_icmp_ne (pc := 31) hC (tgt := 40) dX11_then_31 (by decide) (fun c31 => ?_) (fun c31 => ?_)
        · replace h := of_t c31 h
          refine u_aload_n (pc := 40) hC dX11_then_40 rfl 0 rfl ?_
          refine g_RX11_32 (pc := 41) hC hk0 dX11_then_41 ?_
          refine u_aload_n (pc := 44) hC dX11_then_44 rfl 0 rfl ?_
          refine g_RX11_10 (pc := 45) hC hk0 dX11_then_45 ?_
          refine g_RX11_114 (pc := 48) hC (rs_11_0 hk0) dX11_then_48 ?_
          obtain ⟨μ51, q51, h⟩ := of_bd h
          refine k_RX11_206 (pc := 51) hC (av := [.ref (gad (cG C) (rf (rf k0 0) 3))]) (rest := []) (c_X8_copyFrom (d := d - 1) (by omega) (rs_11_2 hk0) (rs_10_3 (rs_11_0 hk0)) q51) (by omega) (Nat.le_of_ble_eq_true rfl) (rs_11_2 hk0) rfl rfl dX11_then_51 ?_
          refine u_aload_n (pc := 54) hC dX11_then_54 rfl 0 rfl ?_
          refine g_RX11_32 (pc := 55) hC hk0 dX11_then_55 ?_
          refine u_iload_n (pc := 58) hC dX11_then_58 rfl 1 rfl ?_
          obtain ⟨μ59, q59, h⟩ := of_bd h
          refine k_RX11_198 (pc := 59) hC (av := [.int a1]) (rest := []) (c_X8_passWeeks (d := d - 1) (by omega) (rs_11_2 hk0) q59) (by omega) (Nat.le_of_ble_eq_true rfl) (rs_11_2 hk0) rfl rfl dX11_then_59 ?_
          refine u_aload_n (pc := 62) hC dX11_then_62 rfl 0 rfl ?_
          refine g_RX11_32 (pc := 63) hC hk0 dX11_then_63 ?_
          refine u_iload_n (pc := 66) hC dX11_then_66 rfl 2 rfl ?_
          refine u_iload_n (pc := 67) hC dX11_then_67 rfl 3 rfl ?_
          obtain ⟨r68, q68, h⟩ := of_bd h
          refine k_RX11_160 (pc := 68) hC (av := [.ref (gad (cG C) (rf k0 2)), .int a2, .int a3]) (rest := []) (c_X11_stateOf (d := d - 1) (by omega) (rs_11_2 hk0) q68) (by omega) (Nat.le_of_ble_eq_true rfl) rfl rfl dX11_then_68 ?_
          obtain rfl := Option.some.inj h
          exact u_iret (pc := 71) hC hQ hr ⟨rfl, rfl⟩ dX11_then_71
        · replace h := of_f (fun q => q c31) h
          refine u_sub [0] rfl ?_
          exact jb34 μ h
set_option maxHeartbeats 4000000 in
set_option maxRecDepth 100000 in
theorem c_X11_feed {l : Launch} {G : GG} {d : Nat} (hd : 1 ≤ d) {μ : Mem} {k0 : Nat} (hk0 : isC 11 k0) {a1 : Int64} {a3 : Int32} {r : Int32 × Mem} (h : f_X11_feed μ k0 a1 a3 = some r) : CT l yX11_feed cX11_feed 6 (some .int) d G [.ref (gad G k0), .long a1, .int a3] μ (RK (some (.int r.1)) r.2) := by
  refine ct_start (by decide) (Nat.le_of_ble_eq_true rfl) (fun C hl1 hG1 hC hQ hr => ?_)
  subst hl1; subst hG1
  have hC : CxOK C cX11_feed 6 RX11 d := hC
  show UW C 6 μ 0 [(0, .ref (gad (cG C) k0)), (1, .long a1), (3, .int a3)] []
  have lw46 : ∀ (k4_46 : Nat) (hk4_46 : isC 7 k4_46) (e : (Mem)) (s : Int32 × Mem), lp (fun s => f_X11_feed_l46 k0 a1 a3 k4_46 s.1 s.2) FU s = some e → (fun (e : (Mem)) => UW C 6 e 75 [(4, .ref (gad (cG C) k4_46))] []) e → UW C 6 s.2 46 [(1, .long a1), (3, .int a3), (4, .ref (gad (cG C) k4_46)), (5, .int s.1)] [] := by
    intro k4_46 hk4_46 e s hl hE0
    refine @lp_walk (Int32 × Mem) (Mem) (fun s => f_X11_feed_l46 k0 a1 a3 k4_46 s.1 s.2) (fun s => UW C 6 s.2 46 [(1, .long a1), (3, .int a3), (4, .ref (gad (cG C) k4_46)), (5, .int s.1)] []) (fun (e : (Mem)) => UW C 6 e 75 [(4, .ref (gad (cG C) k4_46))] []) (fun s y46 h hP46 hE46 => ?_) FU s e hl hE0
    obtain ⟨v5_46, μ_46⟩ := s
    replace h : f_X11_feed_l46 k0 a1 a3 k4_46 v5_46 μ_46 = some y46 := h
    show UW C 6 μ_46 46 [(1, .long a1), (3, .int a3), (4, .ref (gad (cG C) k4_46)), (5, .int v5_46)] []
    unfold f_X11_feed_l46 at h
    refine u_iload (pc := 46) hC dX11_feed_46 3 rfl ?_
    refine u_iload_n (pc := 48) hC dX11_feed_48 rfl 1 rfl ?_
    refine u_icmp_ge (pc := 49) hC (tgt := 75) dX11_feed_49 (by decide) (fun c49 => ?_) (fun c49 => ?_)
    · replace h := of_t c49 h
      obtain rfl := Option.some.inj h
      refine u_sub [2] rfl ?_
      exact hE46 μ_46 rfl
    · replace h := of_f c49 h
      refine u_aload (pc := 52) hC dX11_feed_52 2 rfl ?_
      refine u_lload_n (pc := 54) hC dX11_feed_54 rfl 0 rfl ?_
      refine u_bipush (pc := 55) hC bc_8 dX11_feed_55 ?_
      refine u_iload (pc := 57) hC dX11_feed_57 3 rfl ?_
      refine u_imul (pc := 59) hC dX11_feed_59 ?_
      refine u_lushr (pc := 60) hC dX11_feed_60 ?_
      refine u_l2i (pc := 61) hC dX11_feed_61 ?_
      refine u_sipush (pc := 62) hC sc_255 dX11_feed_62 ?_
      refine u_iand (pc := 65) hC dX11_feed_65 ?_
      obtain ⟨μ66, q66, h⟩ := of_bd h
      refine k_RX11_217 (pc := 66) hC (av := [.int (((jlushr a1 ((8 : Int32) * v5_46)).toInt32) &&& (255 : Int32))]) (rest := []) (c_X7_add (d := d - 1) (by omega) hk4_46 q66) (by omega) (Nat.le_of_ble_eq_true rfl) hk4_46 rfl rfl dX11_feed_66 ?_
      refine u_iinc (pc := 69) hC dX11_feed_69 3 rfl (v5_46 + 1) rfl [(5, .int (v5_46 + 1)), (1, .long a1), (3, .int a3), (4, .ref (gad (cG C) k4_46))] (by decide) rfl ?_
      refine u_goto (pc := 72) hC 46 dX11_feed_72 (by decide) ?_
      obtain rfl := Option.some.inj h
      refine u_sub [1, 2, 3, 0] rfl ?_
      exact hP46 (v5_46 + 1, μ66) rfl
  unfold f_X11_feed at h
  refine u_iload_n (pc := 0) hC dX11_feed_0 rfl 2 rfl ?_
  refine u_iconst (pc := 1) hC ic_1 dX11_feed_1 ?_
  refine u_bipush (pc := 2) hC bc_8 dX11_feed_2 ?_
  obtain ⟨r4, q4, h⟩ := of_bd h
  refine k_RX11_79 (pc := 4) hC (av := [.int a3, .int (1 : Int32), .int (8 : Int32)]) (rest := []) (c_X11_among (d := d - 1) (by omega)  q4) (by omega) (Nat.le_of_ble_eq_true rfl) rfl rfl dX11_feed_4 ?_
  refine u_if_ne (pc := 7) hC (tgt := 16) dX11_feed_7 (by decide) (fun c7 => ?_) (fun c7 => ?_)
  · replace h := of_t c7 h
    refine u_aload_n (pc := 16) hC dX11_feed_16 rfl 0 rfl ?_
    refine g_RX11_10 (pc := 17) hC hk0 dX11_feed_17 ?_
    refine g_RX11_210 (pc := 20) hC (rs_11_0 hk0) dX11_feed_20 ?_
    refine u_astore (pc := 23) hC dX11_feed_23 [(4, .ref (gad (cG C) (rf (rf k0 0) 5))), (0, .ref (gad (cG C) k0)), (1, .long a1), (3, .int a3)] (by decide) rfl ?_
    refine u_aload (pc := 25) hC dX11_feed_25 0 rfl ?_
    refine g_RX11_214 (pc := 27) hC (rs_10_5 (rs_11_0 hk0)) dX11_feed_27 ?_
    refine u_iload_n (pc := 30) hC dX11_feed_30 rfl 3 rfl ?_
    refine u_iadd (pc := 31) hC dX11_feed_31 ?_
    refine u_bipush (pc := 32) hC bc_50 dX11_feed_32 ?_
    refine u_icmp_le (pc := 34) hC (tgt := 43) dX11_feed_34 (by decide) (fun c34 => ?_) (fun c34 => ?_)
    · replace h := of_t c34 h
      refine u_iconst (pc := 43) hC ic_0 dX11_feed_43 ?_
      refine u_istore (pc := 44) hC dX11_feed_44 [(5, .int (0 : Int32)), (4, .ref (gad (cG C) (rf (rf k0 0) 5))), (0, .ref (gad (cG C) k0)), (1, .long a1), (3, .int a3)] (by decide) rfl ?_
      obtain ⟨e46, l46, h⟩ := of_bd h
      refine u_sub [3, 4, 1, 0] rfl ?_
      refine lw46 (rf (rf k0 0) 5) (rs_10_5 (rs_11_0 hk0)) e46 ((0 : Int32), μ) l46 ?_
      show UW C 6 e46 75 [(4, .ref (gad (cG C) (rf (rf k0 0) 5)))] []
      refine u_aload (pc := 75) hC dX11_feed_75 0 rfl ?_
      refine g_RX11_214 (pc := 77) hC (rs_10_5 (rs_11_0 hk0)) dX11_feed_77 ?_
      obtain rfl := Option.some.inj h
      exact u_iret (pc := 80) hC hQ hr ⟨rfl, rfl⟩ dX11_feed_80
    · replace h := of_f c34 h
      refine u_aload_n (pc := 37) hC dX11_feed_37 rfl 1 rfl ?_
      refine u_iconst (pc := 38) hC ic_4 dX11_feed_38 ?_
      obtain ⟨p39, q39, h⟩ := of_bd h
      refine k_RX11_83 (pc := 39) hC (av := [.int (4 : Int32)]) (rest := []) (c_X11_refuse (d := d - 1) (by omega) hk0 q39) (by omega) (Nat.le_of_ble_eq_true rfl) hk0 rfl rfl dX11_feed_39 ?_
      obtain rfl := Option.some.inj h
      exact u_iret (pc := 42) hC hQ hr ⟨rfl, rfl⟩ dX11_feed_42
  · replace h := of_f (fun q => q c7) h
    refine u_aload_n (pc := 10) hC dX11_feed_10 rfl 0 rfl ?_
    refine u_iconst (pc := 11) hC ic_1 dX11_feed_11 ?_
    obtain ⟨p12, q12, h⟩ := of_bd h
    refine k_RX11_83 (pc := 12) hC (av := [.int (1 : Int32)]) (rest := []) (c_X11_refuse (d := d - 1) (by omega) hk0 q12) (by omega) (Nat.le_of_ble_eq_true rfl) hk0 rfl rfl dX11_feed_12 ?_
    obtain rfl := Option.some.inj h
    exact u_iret (pc := 15) hC hQ hr ⟨rfl, rfl⟩ dX11_feed_15
set_option maxHeartbeats 4000000 in
set_option maxRecDepth 100000 in
theorem c_X11_isUse {l : Launch} {G : GG} {d : Nat} (hd : 0 ≤ d) {μ : Mem} {a0 : Int32} {r : Int32} (h : f_X11_isUse a0 = some r) : CT l yX11_isUse cX11_isUse 1 (some .boolean) d G [.int a0] μ (RK (some (.int r)) μ) := by
  refine ct_start (by decide) (Nat.le_of_ble_eq_true rfl) (fun C hl1 hG1 hC hQ hr => ?_)
  subst hl1; subst hG1
  have hC : CxOK C cX11_isUse 1 RX11 d := hC
  show UW C 1 μ 0 [(0, .int a0)] []
  unfold f_X11_isUse at h
  refine u_iload_n (pc := 0) hC dX11_isUse_0 rfl 0 rfl ?_
  refine u_if_eq (pc := 1) hC (tgt := 9) dX11_isUse_1 (by decide) (fun c1 => ?_) (fun c1 => ?_)
  · replace h := of_t c1 h
    refine u_iconst (pc := 9) hC ic_1 dX11_isUse_9 ?_
    refine u_goto (pc := 10) hC 14 dX11_isUse_10 (by decide) ?_
    obtain rfl := Option.some.inj h
    exact u_zret (pc := 14) hC hQ hr (by decide) ⟨rfl, rfl⟩ dX11_isUse_14
  · replace h := of_f c1 h
    refine u_iload_n (pc := 4) hC dX11_isUse_4 rfl 0 rfl ?_
    refine u_iconst (pc := 5) hC ic_1 dX11_isUse_5 ?_
    refine u_icmp_ne (pc := 6) hC (tgt := 13) dX11_isUse_6 (by decide) (fun c6 => ?_) (fun c6 => ?_)
    · replace h := of_t c6 h
      refine u_iconst (pc := 13) hC ic_0 dX11_isUse_13 ?_
      obtain rfl := Option.some.inj h
      exact u_zret (pc := 14) hC hQ hr (by decide) ⟨rfl, rfl⟩ dX11_isUse_14
    · replace h := of_f (fun q => q c6) h
      refine u_iconst (pc := 9) hC ic_1 dX11_isUse_9 ?_
      refine u_goto (pc := 10) hC 14 dX11_isUse_10 (by decide) ?_
      obtain rfl := Option.some.inj h
      exact u_zret (pc := 14) hC hQ hr (by decide) ⟨rfl, rfl⟩ dX11_isUse_14
set_option maxHeartbeats 4000000 in
set_option maxRecDepth 100000 in
theorem c_X11_lawOf {l : Launch} {G : GG} {d : Nat} (hd : 0 ≤ d) {μ : Mem} {k0 : Nat} (hk0 : isC 11 k0) {a1 : Int32} {r : Nat} (h : f_X11_lawOf μ k0 a1 = some r) : CT l yX11_lawOf cX11_lawOf 2 (some (.object "ChapterLoan$Law")) d G [.ref (gad G k0), .int a1] μ (RK (some (.ref (gad G r))) μ) := by
  refine ct_start (by decide) (Nat.le_of_ble_eq_true rfl) (fun C hl1 hG1 hC hQ hr => ?_)
  subst hl1; subst hG1
  have hC : CxOK C cX11_lawOf 2 RX11 d := hC
  show UW C 2 μ 0 [(0, .ref (gad (cG C) k0)), (1, .int a1)] []
  unfold f_X11_lawOf at h
  refine u_iload_n (pc := 0) hC dX11_lawOf_0 rfl 1 rfl ?_
  refine u_if_ne (pc := 1) hC (tgt := 14) dX11_lawOf_1 (by decide) (fun c1 => ?_) (fun c1 => ?_)
  · replace h := of_t c1 h
    refine u_aload_n (pc := 14) hC dX11_lawOf_14 rfl 0 rfl ?_
    refine g_RX11_10 (pc := 15) hC hk0 dX11_lawOf_15 ?_
    refine g_RX11_144 (pc := 18) hC (rs_11_0 hk0) dX11_lawOf_18 ?_
    obtain rfl := Option.some.inj h
    exact u_aret (pc := 21) hC hQ hr (Or.inl ⟨_, rfl⟩) ⟨rfl, rfl⟩ dX11_lawOf_21
  · replace h := of_f (fun q => q c1) h
    refine u_aload_n (pc := 4) hC dX11_lawOf_4 rfl 0 rfl ?_
    refine g_RX11_10 (pc := 5) hC hk0 dX11_lawOf_5 ?_
    refine g_RX11_25 (pc := 8) hC (rs_11_0 hk0) dX11_lawOf_8 ?_
    refine u_goto (pc := 11) hC 21 dX11_lawOf_11 (by decide) ?_
    obtain rfl := Option.some.inj h
    exact u_aret (pc := 21) hC hQ hr (Or.inl ⟨_, rfl⟩) ⟨rfl, rfl⟩ dX11_lawOf_21
set_option maxHeartbeats 4000000 in
set_option maxRecDepth 100000 in
theorem c_X11_text {l : Launch} {G : GG} {d : Nat} (hd : 104 ≤ d) {μ : Mem} {k0 : Nat} (hk0 : isC 11 k0) {a1 : Int32} {r : Int32 × Mem} (h : f_X11_text μ k0 a1 = some r) : CT l yX11_text cX11_text 3 (some .int) d G [.ref (gad G k0), .int a1] μ (RK (some (.int r.1)) r.2) := by
  refine ct_start (by decide) (Nat.le_of_ble_eq_true rfl) (fun C hl1 hG1 hC hQ hr => ?_)
  subst hl1; subst hG1
  have hC : CxOK C cX11_text 3 RX11 d := hC
  show UW C 3 μ 0 [(0, .ref (gad (cG C) k0)), (1, .int a1)] []
  unfold f_X11_text at h
  refine u_iload_n (pc := 0) hC dX11_text_0 rfl 1 rfl ?_
  obtain ⟨r1, q1, h⟩ := of_bd h
  refine k_RX11_219 (pc := 1) hC (av := [.int a1]) (rest := []) (c_X11_isUse (d := d - 1) (by omega)  q1) (by omega) (Nat.le_of_ble_eq_true rfl) rfl rfl dX11_text_1 ?_
  refine u_if_ne (pc := 4) hC (tgt := 13) dX11_text_4 (by decide) (fun c4 => ?_) (fun c4 => ?_)
  · replace h := of_t c4 h
    refine u_aload_n (pc := 13) hC dX11_text_13 rfl 0 rfl ?_
    refine g_RX11_48 (pc := 14) hC hk0 dX11_text_14 ?_
    refine u_aload_n (pc := 17) hC dX11_text_17 rfl 0 rfl ?_
    refine g_RX11_10 (pc := 18) hC hk0 dX11_text_18 ?_
    refine g_RX11_210 (pc := 21) hC (rs_11_0 hk0) dX11_text_21 ?_
    refine u_iload_n (pc := 24) hC dX11_text_24 rfl 1 rfl ?_
    obtain ⟨p25, q25, h⟩ := of_bd h
    refine k_RX11_222 (pc := 25) hC (av := [.ref (gad (cG C) (rf (rf k0 0) 5)), .int a1]) (rest := []) (c_X4_readAll (d := d - 1) (by omega) (rs_11_4 hk0) (rs_10_5 (rs_11_0 hk0)) q25) (by omega) (Nat.le_of_ble_eq_true rfl) (rs_11_4 hk0) rfl rfl dX11_text_25 ?_
    refine u_istore_n (pc := 28) hC dX11_text_28 rfl [(2, .int p25.1), (0, .ref (gad (cG C) k0)), (1, .int a1)] (by decide) rfl ?_
    refine u_aload_n (pc := 29) hC dX11_text_29 rfl 1 rfl ?_
    refine g_RX11_10 (pc := 30) hC hk0 dX11_text_30 ?_
    refine g_RX11_210 (pc := 33) hC (rs_11_0 hk0) dX11_text_33 ?_
    refine u_iconst (pc := 36) hC ic_0 dX11_text_36 ?_
    obtain ⟨m37, q37, h⟩ := of_bd h
    refine p_RX11_214 (pc := 37) hC (rs_10_5 (rs_11_0 hk0)) dX11_text_37 (Option.some.inj q37) ?_
    refine u_iload_n (pc := 40) hC dX11_text_40 rfl 0 rfl ?_
    refine u_if_lt (pc := 41) hC (tgt := 49) dX11_text_41 (by decide) (fun c41 => ?_) (fun c41 => ?_)
    · replace h := of_t c41 h
      refine u_aload_n (pc := 49) hC dX11_text_49 rfl 1 rfl ?_
      refine u_iload_n (pc := 50) hC dX11_text_50 rfl 2 rfl ?_
      obtain ⟨r51, q51, h⟩ := of_bd h
      refine k_RX11_226 (pc := 51) hC (av := [.int a1]) (rest := []) (c_X11_lawOf (d := d - 1) (by omega) hk0 q51) (by omega) (Nat.le_of_ble_eq_true rfl) hk0 rfl rfl dX11_text_51 ?_
      obtain ⟨b51, h⟩ := of_gd h
      refine u_aload_n (pc := 54) hC dX11_text_54 rfl 1 rfl ?_
      refine g_RX11_48 (pc := 55) hC hk0 dX11_text_55 ?_
      refine g_RX11_230 (pc := 58) hC (rs_11_4 hk0) dX11_text_58 ?_
      refine u_aload_n (pc := 61) hC dX11_text_61 rfl 1 rfl ?_
      refine g_RX11_48 (pc := 62) hC hk0 dX11_text_62 ?_
      refine g_RX11_233 (pc := 65) hC (rs_11_4 hk0) dX11_text_65 ?_
      obtain ⟨μ68, q68, h⟩ := of_bd h
      refine k_RX11_234 (pc := 68) hC (av := [.ref (gad (cG C) (rf (rf k0 4) 0)), .int (rd m37 (rf k0 4) 1)]) (rest := []) (c_X2_take (d := d - 1) (by omega) (isT_C b51) (rs_4_0 (rs_11_4 hk0)) q68) (by omega) (Nat.le_of_ble_eq_true rfl) (isT_C b51) rfl rfl dX11_text_68 ?_
      refine u_iconst (pc := 71) hC ic_1 dX11_text_71 ?_
      obtain rfl := Option.some.inj h
      exact u_iret (pc := 72) hC hQ hr ⟨rfl, rfl⟩ dX11_text_72
    · replace h := of_f c41 h
      refine u_bipush (pc := 44) hC bc_m10 dX11_text_44 ?_
      refine u_iload_n (pc := 46) hC dX11_text_46 rfl 0 rfl ?_
      refine u_isub (pc := 47) hC dX11_text_47 ?_
      obtain rfl := Option.some.inj h
      exact u_iret (pc := 48) hC hQ hr ⟨rfl, rfl⟩ dX11_text_48
  · replace h := of_f (fun q => q c4) h
    refine u_aload_n (pc := 7) hC dX11_text_7 rfl 0 rfl ?_
    refine u_iconst (pc := 8) hC ic_1 dX11_text_8 ?_
    obtain ⟨p9, q9, h⟩ := of_bd h
    refine k_RX11_83 (pc := 9) hC (av := [.int (1 : Int32)]) (rest := []) (c_X11_refuse (d := d - 1) (by omega) hk0 q9) (by omega) (Nat.le_of_ble_eq_true rfl) hk0 rfl rfl dX11_text_9 ?_
    obtain rfl := Option.some.inj h
    exact u_iret (pc := 12) hC hQ hr ⟨rfl, rfl⟩ dX11_text_12
set_option maxHeartbeats 4000000 in
set_option maxRecDepth 100000 in
theorem c_X11_law {l : Launch} {G : GG} {d : Nat} (hd : 2 ≤ d) {μ : Mem} {k0 : Nat} (hk0 : isC 11 k0) {a1 : Int32} {a2 : Int32} {a3 : Int32} {a4 : Int32} {r : Int32 × Mem} (h : f_X11_law μ k0 a1 a2 a3 a4 = some r) : CT l yX11_law cX11_law 5 (some .int) d G [.ref (gad G k0), .int a1, .int a2, .int a3, .int a4] μ (RK (some (.int r.1)) r.2) := by
  refine ct_start (by decide) (Nat.le_of_ble_eq_true rfl) (fun C hl1 hG1 hC hQ hr => ?_)
  subst hl1; subst hG1
  have hC : CxOK C cX11_law 5 RX11 d := hC
  show UW C 5 μ 0 [(0, .ref (gad (cG C) k0)), (1, .int a1), (2, .int a2), (3, .int a3), (4, .int a4)] []
  unfold f_X11_law at h
  refine u_iload_n (pc := 0) hC dX11_law_0 rfl 1 rfl ?_
  obtain ⟨r1, q1, h⟩ := of_bd h
  refine k_RX11_219 (pc := 1) hC (av := [.int a1]) (rest := []) (c_X11_isUse (d := d - 1) (by omega)  q1) (by omega) (Nat.le_of_ble_eq_true rfl) rfl rfl dX11_law_1 ?_
  refine u_if_eq (pc := 4) hC (tgt := 22) dX11_law_4 (by decide) (fun c4 => ?_) (fun c4 => ?_)
  · replace h := of_t c4 h
    refine u_aload_n (pc := 22) hC dX11_law_22 rfl 0 rfl ?_
    refine u_iconst (pc := 23) hC ic_1 dX11_law_23 ?_
    obtain ⟨p24, q24, h⟩ := of_bd h
    refine k_RX11_83 (pc := 24) hC (av := [.int (1 : Int32)]) (rest := []) (c_X11_refuse (d := d - 1) (by omega) hk0 q24) (by omega) (Nat.le_of_ble_eq_true rfl) hk0 rfl rfl dX11_law_24 ?_
    obtain rfl := Option.some.inj h
    exact u_iret (pc := 27) hC hQ hr ⟨rfl, rfl⟩ dX11_law_27
  · replace h := of_f c4 h
    refine u_aload_n (pc := 7) hC dX11_law_7 rfl 0 rfl ?_
    refine u_iload_n (pc := 8) hC dX11_law_8 rfl 1 rfl ?_
    obtain ⟨r9, q9, h⟩ := of_bd h
    refine k_RX11_226 (pc := 9) hC (av := [.int a1]) (rest := []) (c_X11_lawOf (d := d - 1) (by omega) hk0 q9) (by omega) (Nat.le_of_ble_eq_true rfl) hk0 rfl rfl dX11_law_9 ?_
    obtain ⟨b9, h⟩ := of_gd h
    refine u_iload_n (pc := 12) hC dX11_law_12 rfl 2 rfl ?_
    refine u_iload_n (pc := 13) hC dX11_law_13 rfl 3 rfl ?_
    refine u_iload (pc := 14) hC dX11_law_14 4 rfl ?_
    obtain ⟨p16, q16, h⟩ := of_bd h
    refine k_RX11_154 (pc := 16) hC (av := [.int a2, .int a3, .int a4]) (rest := []) (c_X2_gives (d := d - 1) (by omega) (isT_C b9) q16) (by omega) (Nat.le_of_ble_eq_true rfl) (isT_C b9) rfl rfl dX11_law_16 ?_
    refine u_goto (pc := 19) hC 27 dX11_law_19 (by decide) ?_
    obtain rfl := Option.some.inj h
    exact u_iret (pc := 27) hC hQ hr ⟨rfl, rfl⟩ dX11_law_27
