set_option maxHeartbeats 4000000 in
set_option maxRecDepth 100000 in
theorem c_X12_count {l : Launch} {G : GG} {d : Nat} (hd : 2 ≤ d) {μ : Mem} {k0 : Nat} (hk0 : isC 12 k0) {a1 : Int32} {r : Int32 × Mem} (h : f_X12_count μ k0 a1 = some r) : CT l yX12_count cX12_count 2 (some .int) d G [.ref (gad G k0), .int a1] μ (RK (some (.int r.1)) r.2) := by
  refine ct_start (by decide) (Nat.le_of_ble_eq_true rfl) (fun C hl1 hG1 hC hQ hr => ?_)
  subst hl1; subst hG1
  have hC : CxOK C cX12_count 2 RX12 d := hC
  show UW C 2 μ 0 [(0, .ref (gad (cG C) k0)), (1, .int a1)] []
  unfold f_X12_count at h
  refine u_iload_n (pc := 0) hC dX12_count_0 rfl 1 rfl ?_
  by_cases c1_0 : a1 = 0
  · replace h := of_t c1_0 h
    refine u_tabEq (pc := 1) hC dX12_count_1 (0 : Int32) c1_0 (off := 55) 56 (by decide) (by decide) ?_
    refine u_aload_n (pc := 56) hC dX12_count_56 rfl 0 rfl ?_
    refine g_RX12_7 (pc := 57) hC hk0 dX12_count_57 ?_
    refine u_iconst (pc := 60) hC ic_0 dX12_count_60 ?_
    refine u_iald (pc := 61) hC (rs_12_0 hk0) 342 (rn_12_0 hk0) (by decide) dX12_count_61 ?_
    obtain rfl := Option.some.inj h
    exact u_iret (pc := 62) hC hQ hr ⟨rfl, rfl⟩ dX12_count_62
  replace h := of_f c1_0 h
  by_cases c1_1 : a1 = 1
  · replace h := of_t c1_1 h
    refine u_tabEq (pc := 1) hC dX12_count_1 (1 : Int32) c1_1 (off := 62) 63 (by decide) (by decide) ?_
    refine u_aload_n (pc := 63) hC dX12_count_63 rfl 0 rfl ?_
    refine g_RX12_7 (pc := 64) hC hk0 dX12_count_64 ?_
    refine u_iconst (pc := 67) hC ic_1 dX12_count_67 ?_
    refine u_iald (pc := 68) hC (rs_12_0 hk0) 342 (rn_12_0 hk0) (by decide) dX12_count_68 ?_
    obtain rfl := Option.some.inj h
    exact u_iret (pc := 69) hC hQ hr ⟨rfl, rfl⟩ dX12_count_69
  replace h := of_f c1_1 h
  by_cases c1_2 : a1 = 2
  · replace h := of_t c1_2 h
    refine u_tabEq (pc := 1) hC dX12_count_1 (2 : Int32) c1_2 (off := 69) 70 (by decide) (by decide) ?_
    refine u_aload_n (pc := 70) hC dX12_count_70 rfl 0 rfl ?_
    refine g_RX12_7 (pc := 71) hC hk0 dX12_count_71 ?_
    refine u_iconst (pc := 74) hC ic_3 dX12_count_74 ?_
    refine u_iald (pc := 75) hC (rs_12_0 hk0) 342 (rn_12_0 hk0) (by decide) dX12_count_75 ?_
    obtain rfl := Option.some.inj h
    exact u_iret (pc := 76) hC hQ hr ⟨rfl, rfl⟩ dX12_count_76
  replace h := of_f c1_2 h
  by_cases c1_3 : a1 = 3
  · replace h := of_t c1_3 h
    refine u_tabEq (pc := 1) hC dX12_count_1 (3 : Int32) c1_3 (off := 76) 77 (by decide) (by decide) ?_
    refine u_aload_n (pc := 77) hC dX12_count_77 rfl 0 rfl ?_
    refine g_RX12_7 (pc := 78) hC hk0 dX12_count_78 ?_
    refine u_iconst (pc := 81) hC ic_2 dX12_count_81 ?_
    refine u_iald (pc := 82) hC (rs_12_0 hk0) 342 (rn_12_0 hk0) (by decide) dX12_count_82 ?_
    obtain rfl := Option.some.inj h
    exact u_iret (pc := 83) hC hQ hr ⟨rfl, rfl⟩ dX12_count_83
  replace h := of_f c1_3 h
  by_cases c1_4 : a1 = 4
  · replace h := of_t c1_4 h
    refine u_tabEq (pc := 1) hC dX12_count_1 (4 : Int32) c1_4 (off := 83) 84 (by decide) (by decide) ?_
    refine u_aload_n (pc := 84) hC dX12_count_84 rfl 0 rfl ?_
    obtain ⟨r85, q85, h⟩ := of_bd h
    refine k_RX12_314 (pc := 85) hC (av := []) (rest := []) (c_X12_debts (d := d - 1) (by omega) hk0 q85) (by omega) (Nat.le_of_ble_eq_true rfl) hk0 rfl rfl dX12_count_85 ?_
    obtain rfl := Option.some.inj h
    exact u_iret (pc := 88) hC hQ hr ⟨rfl, rfl⟩ dX12_count_88
  replace h := of_f c1_4 h
  by_cases c1_5 : a1 = 5
  · replace h := of_t c1_5 h
    refine u_tabEq (pc := 1) hC dX12_count_1 (5 : Int32) c1_5 (off := 88) 89 (by decide) (by decide) ?_
    refine u_aload_n (pc := 89) hC dX12_count_89 rfl 0 rfl ?_
    obtain ⟨r90, q90, h⟩ := of_bd h
    refine k_RX12_232 (pc := 90) hC (av := []) (rest := []) (c_X12_brokenMany (d := d - 1) (by omega) hk0 q90) (by omega) (Nat.le_of_ble_eq_true rfl) hk0 rfl rfl dX12_count_90 ?_
    obtain rfl := Option.some.inj h
    exact u_iret (pc := 93) hC hQ hr ⟨rfl, rfl⟩ dX12_count_93
  replace h := of_f c1_5 h
  by_cases c1_6 : a1 = 6
  · replace h := of_t c1_6 h
    refine u_tabEq (pc := 1) hC dX12_count_1 (6 : Int32) c1_6 (off := 93) 94 (by decide) (by decide) ?_
    refine u_aload_n (pc := 94) hC dX12_count_94 rfl 0 rfl ?_
    refine g_RX12_7 (pc := 95) hC hk0 dX12_count_95 ?_
    refine u_iconst (pc := 98) hC ic_5 dX12_count_98 ?_
    refine u_iald (pc := 99) hC (rs_12_0 hk0) 342 (rn_12_0 hk0) (by decide) dX12_count_99 ?_
    obtain rfl := Option.some.inj h
    exact u_iret (pc := 100) hC hQ hr ⟨rfl, rfl⟩ dX12_count_100
  replace h := of_f c1_6 h
  by_cases c1_7 : a1 = 7
  · replace h := of_t c1_7 h
    refine u_tabEq (pc := 1) hC dX12_count_1 (7 : Int32) c1_7 (off := 100) 101 (by decide) (by decide) ?_
    refine u_aload_n (pc := 101) hC dX12_count_101 rfl 0 rfl ?_
    refine g_RX12_7 (pc := 102) hC hk0 dX12_count_102 ?_
    refine u_bipush (pc := 105) hC bc_6 dX12_count_105 ?_
    refine u_iald (pc := 107) hC (rs_12_0 hk0) 342 (rn_12_0 hk0) (by decide) dX12_count_107 ?_
    obtain rfl := Option.some.inj h
    exact u_iret (pc := 108) hC hQ hr ⟨rfl, rfl⟩ dX12_count_108
  replace h := of_f c1_7 h
  by_cases c1_8 : a1 = 8
  · replace h := of_t c1_8 h
    refine u_tabEq (pc := 1) hC dX12_count_1 (8 : Int32) c1_8 (off := 108) 109 (by decide) (by decide) ?_
    refine u_aload_n (pc := 109) hC dX12_count_109 rfl 0 rfl ?_
    refine g_RX12_285 (pc := 110) hC hk0 dX12_count_110 ?_
    obtain rfl := Option.some.inj h
    exact u_iret (pc := 113) hC hQ hr ⟨rfl, rfl⟩ dX12_count_113
  replace h := of_f c1_8 h
  by_cases c1_9 : a1 = 9
  · replace h := of_t c1_9 h
    refine u_tabEq (pc := 1) hC dX12_count_1 (9 : Int32) c1_9 (off := 113) 114 (by decide) (by decide) ?_
    refine u_aload_n (pc := 114) hC dX12_count_114 rfl 0 rfl ?_
    refine g_RX12_7 (pc := 115) hC hk0 dX12_count_115 ?_
    refine u_iconst (pc := 118) hC ic_4 dX12_count_118 ?_
    refine u_iald (pc := 119) hC (rs_12_0 hk0) 342 (rn_12_0 hk0) (by decide) dX12_count_119 ?_
    obtain rfl := Option.some.inj h
    exact u_iret (pc := 120) hC hQ hr ⟨rfl, rfl⟩ dX12_count_120
  replace h := of_f c1_9 h
  refine u_tabDf (pc := 1) hC dX12_count_1 [(0 : Int32), (1 : Int32), (2 : Int32), (3 : Int32), (4 : Int32), (5 : Int32), (6 : Int32), (7 : Int32), (8 : Int32), (9 : Int32)] (List.forall_mem_cons.mpr ⟨c1_0, List.forall_mem_cons.mpr ⟨c1_1, List.forall_mem_cons.mpr ⟨c1_2, List.forall_mem_cons.mpr ⟨c1_3, List.forall_mem_cons.mpr ⟨c1_4, List.forall_mem_cons.mpr ⟨c1_5, List.forall_mem_cons.mpr ⟨c1_6, List.forall_mem_cons.mpr ⟨c1_7, List.forall_mem_cons.mpr ⟨c1_8, List.forall_mem_cons.mpr ⟨c1_9, (fun _ q => absurd q List.not_mem_nil)⟩⟩⟩⟩⟩⟩⟩⟩⟩⟩) (by decide) 121 (by decide) ?_
  refine u_aload_n (pc := 121) hC dX12_count_121 rfl 0 rfl ?_
  refine u_iconst (pc := 122) hC ic_1 dX12_count_122 ?_
  obtain ⟨p123, q123, h⟩ := of_bd h
  refine k_RX12_119 (pc := 123) hC (av := [.int (1 : Int32)]) (rest := []) (c_X12_finds (d := d - 1) (by omega) hk0 q123) (by omega) (Nat.le_of_ble_eq_true rfl) hk0 rfl rfl dX12_count_123 ?_
  obtain rfl := Option.some.inj h
  exact u_iret (pc := 126) hC hQ hr ⟨rfl, rfl⟩ dX12_count_126
set_option maxHeartbeats 4000000 in
set_option maxRecDepth 100000 in
theorem c_X12_told {l : Launch} {G : GG} {d : Nat} (hd : 1 ≤ d) {μ : Mem} {k0 : Nat} (hk0 : isC 12 k0) {a1 : Int32} {r : Int32 × Mem} (h : f_X12_told μ k0 a1 = some r) : CT l yX12_told cX12_told 2 (some .int) d G [.ref (gad G k0), .int a1] μ (RK (some (.int r.1)) r.2) := by
  refine ct_start (by decide) (Nat.le_of_ble_eq_true rfl) (fun C hl1 hG1 hC hQ hr => ?_)
  subst hl1; subst hG1
  have hC : CxOK C cX12_told 2 RX12 d := hC
  show UW C 2 μ 0 [(0, .ref (gad (cG C) k0)), (1, .int a1)] []
  unfold f_X12_told at h
  refine u_iload_n (pc := 0) hC dX12_told_0 rfl 1 rfl ?_
  refine u_i2l (pc := 1) hC dX12_told_1 ?_
  refine u_lconst (pc := 2) hC (v := (1 : Int64)) rfl dX12_told_2 ?_
  refine u_ldc2 (pc := 3) hC (v := (5 : Int64)) mQ_RX12_156 dX12_told_3 ?_
  obtain ⟨r6, q6, h⟩ := of_bd h
  refine k_RX12_57 (pc := 6) hC (av := [.long a1.toInt64, .long (1 : Int64), .long (5 : Int64)]) (rest := []) (c_X12_in (d := d - 1) (by omega)  q6) (by omega) (Nat.le_of_ble_eq_true rfl) rfl rfl dX12_told_6 ?_
  refine u_if_eq (pc := 9) hC (tgt := 21) dX12_told_9 (by decide) (fun c9 => ?_) (fun c9 => ?_)
  · replace h := of_t c9 h
    refine u_aload_n (pc := 21) hC dX12_told_21 rfl 0 rfl ?_
    refine u_iconst (pc := 22) hC ic_1 dX12_told_22 ?_
    obtain ⟨p23, q23, h⟩ := of_bd h
    refine k_RX12_119 (pc := 23) hC (av := [.int (1 : Int32)]) (rest := []) (c_X12_finds (d := d - 1) (by omega) hk0 q23) (by omega) (Nat.le_of_ble_eq_true rfl) hk0 rfl rfl dX12_told_23 ?_
    obtain rfl := Option.some.inj h
    exact u_iret (pc := 26) hC hQ hr ⟨rfl, rfl⟩ dX12_told_26
  · replace h := of_f c9 h
    refine u_aload_n (pc := 12) hC dX12_told_12 rfl 0 rfl ?_
    refine g_RX12_19 (pc := 13) hC hk0 dX12_told_13 ?_
    refine u_iload_n (pc := 16) hC dX12_told_16 rfl 1 rfl ?_
    obtain ⟨b17, h⟩ := of_gd h
    refine u_iald (pc := 17) hC (rs_12_4 hk0) 6 (rn_12_4 hk0) b17 dX12_told_17 ?_
    refine u_goto (pc := 18) hC 26 dX12_told_18 (by decide) ?_
    obtain rfl := Option.some.inj h
    exact u_iret (pc := 26) hC hQ hr ⟨rfl, rfl⟩ dX12_told_26
