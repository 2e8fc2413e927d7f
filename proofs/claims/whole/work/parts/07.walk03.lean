set_option maxHeartbeats 4000000 in
set_option maxRecDepth 100000 in
theorem c_X12_text {l : Launch} {G : GG} {d : Nat} (hd : 104 ≤ d) {μ : Mem} {k0 : Nat} (hk0 : isC 12 k0) {a1 : Int32} {r : Int32 × Mem} (h : f_X12_text μ k0 a1 = some r) : CT l yX12_text cX12_text 5 (some .int) d G [.ref (gad G k0), .int a1] μ (RK (some (.int r.1)) r.2) := by
  refine ct_start (by decide) (Nat.le_of_ble_eq_true rfl) (fun C hl1 hG1 hC hQ hr => ?_)
  subst hl1; subst hG1
  have hC : CxOK C cX12_text 5 RX12 d := hC
  show UW C 5 μ 0 [(0, .ref (gad (cG C) k0)), (1, .int a1)] []
  have lw69 : ∀ (v2_69 : Int32) (e : (Mem)) (s : Int32 × Mem), lp (fun s => f_X12_text_l69 k0 a1 v2_69 s.1 s.2) FU s = some e → (fun (e : (Mem)) => UW C 5 e 108 [] []) e → UW C 5 s.2 69 [(0, .ref (gad (cG C) k0)), (1, .int a1), (2, .int v2_69), (4, .int s.1)] [] := by
    intro v2_69 e s hl hE0
    refine @lp_walk (Int32 × Mem) (Mem) (fun s => f_X12_text_l69 k0 a1 v2_69 s.1 s.2) (fun s => UW C 5 s.2 69 [(0, .ref (gad (cG C) k0)), (1, .int a1), (2, .int v2_69), (4, .int s.1)] []) (fun (e : (Mem)) => UW C 5 e 108 [] []) (fun s y69 h hP69 hE69 => ?_) FU s e hl hE0
    obtain ⟨v4_69, μ_69⟩ := s
    replace h : f_X12_text_l69 k0 a1 v2_69 v4_69 μ_69 = some y69 := h
    show UW C 5 μ_69 69 [(0, .ref (gad (cG C) k0)), (1, .int a1), (2, .int v2_69), (4, .int v4_69)] []
    unfold f_X12_text_l69 at h
    refine u_iload (pc := 69) hC dX12_text_69 3 rfl ?_
    refine u_iload_n (pc := 71) hC dX12_text_71 rfl 2 rfl ?_
    refine u_icmp_ge (pc := 72) hC (tgt := 108) dX12_text_72 (by decide) (fun c72 => ?_) (fun c72 => ?_)
    · replace h := of_t c72 h
      obtain rfl := Option.some.inj h
      refine u_sub [] rfl ?_
      exact hE69 μ_69 rfl
    · replace h := of_f c72 h
      refine u_aload_n (pc := 75) hC dX12_text_75 rfl 0 rfl ?_
      refine g_RX12_7 (pc := 76) hC hk0 dX12_text_76 ?_
      refine u_sipush (pc := 79) hC sc_192 dX12_text_79 ?_
      refine u_bipush (pc := 82) hC bc_50 dX12_text_82 ?_
      refine u_iload_n (pc := 84) hC dX12_text_84 rfl 1 rfl ?_
      refine u_imul (pc := 85) hC dX12_text_85 ?_
      refine u_iadd (pc := 86) hC dX12_text_86 ?_
      refine u_iload (pc := 87) hC dX12_text_87 3 rfl ?_
      refine u_iadd (pc := 89) hC dX12_text_89 ?_
      refine u_aload_n (pc := 90) hC dX12_text_90 rfl 0 rfl ?_
      refine g_RX12_7 (pc := 91) hC hk0 dX12_text_91 ?_
      refine u_sipush (pc := 94) hC sc_292 dX12_text_94 ?_
      refine u_iload (pc := 97) hC dX12_text_97 3 rfl ?_
      refine u_iadd (pc := 99) hC dX12_text_99 ?_
      obtain ⟨b100, h⟩ := of_gd h
      refine u_iald (pc := 100) hC (rs_12_0 hk0) 342 (rn_12_0 hk0) b100 dX12_text_100 ?_
      obtain ⟨b101, h⟩ := of_gd h
      obtain ⟨m101, q101, h⟩ := of_bd h
      refine u_iast (pc := 101) hC (rs_12_0 hk0) 342 (rn_12_0 hk0) b101 dX12_text_101 (Option.some.inj q101) ?_
      refine u_iinc (pc := 102) hC dX12_text_102 3 rfl (v4_69 + 1) rfl [(4, .int (v4_69 + 1)), (0, .ref (gad (cG C) k0)), (1, .int a1), (2, .int v2_69)] (by decide) rfl ?_
      refine u_goto (pc := 105) hC 69 dX12_text_105 (by decide) ?_
      obtain rfl := Option.some.inj h
      refine u_sub [1, 2, 3, 0] rfl ?_
      exact hP69 (v4_69 + 1, m101) rfl
  unfold f_X12_text at h
  refine u_iload_n (pc := 0) hC dX12_text_0 rfl 1 rfl ?_
  refine u_i2l (pc := 1) hC dX12_text_1 ?_
  refine u_lconst (pc := 2) hC (v := (0 : Int64)) rfl dX12_text_2 ?_
  refine u_lconst (pc := 3) hC (v := (1 : Int64)) rfl dX12_text_3 ?_
  obtain ⟨r4, q4, h⟩ := of_bd h
  refine k_RX12_57 (pc := 4) hC (av := [.long a1.toInt64, .long (0 : Int64), .long (1 : Int64)]) (rest := []) (c_X12_in (d := d - 1) (by omega)  q4) (by omega) (Nat.le_of_ble_eq_true rfl) rfl rfl dX12_text_4 ?_
  refine u_if_ne (pc := 7) hC (tgt := 16) dX12_text_7 (by decide) (fun c7 => ?_) (fun c7 => ?_)
  · replace h := of_t c7 h
    refine u_aload_n (pc := 16) hC dX12_text_16 rfl 0 rfl ?_
    refine g_RX12_7 (pc := 17) hC hk0 dX12_text_17 ?_
    refine u_iconst (pc := 20) hC ic_5 dX12_text_20 ?_
    refine u_iald (pc := 21) hC (rs_12_0 hk0) 342 (rn_12_0 hk0) (by decide) dX12_text_21 ?_
    refine u_istore_n (pc := 22) hC dX12_text_22 rfl [(2, .int (rd μ (rf k0 0) (5 : Int32).toNatClampNeg)), (0, .ref (gad (cG C) k0)), (1, .int a1)] (by decide) rfl ?_
    refine u_aload_n (pc := 23) hC dX12_text_23 rfl 1 rfl ?_
    refine g_RX12_7 (pc := 24) hC hk0 dX12_text_24 ?_
    refine u_iconst (pc := 27) hC ic_5 dX12_text_27 ?_
    refine u_iconst (pc := 28) hC ic_0 dX12_text_28 ?_
    obtain ⟨m29, q29, h⟩ := of_bd h
    refine u_iast (pc := 29) hC (rs_12_0 hk0) 342 (rn_12_0 hk0) (by decide) dX12_text_29 (Option.some.inj q29) ?_
    refine u_aload_n (pc := 30) hC dX12_text_30 rfl 1 rfl ?_
    refine u_sipush (pc := 31) hC sc_292 dX12_text_31 ?_
    refine u_iload_n (pc := 34) hC dX12_text_34 rfl 0 rfl ?_
    refine u_iload_n (pc := 35) hC dX12_text_35 rfl 2 rfl ?_
    obtain ⟨p36, q36, h⟩ := of_bd h
    refine k_RX12_124 (pc := 36) hC (av := [.int (292 : Int32), .int (rd μ (rf k0 0) (5 : Int32).toNatClampNeg), .int a1]) (rest := []) (c_X12_worked (d := d - 1) (by omega) hk0 q36) (by omega) (Nat.le_of_ble_eq_true rfl) hk0 rfl rfl dX12_text_36 ?_
    refine u_istore_n (pc := 39) hC dX12_text_39 rfl [(3, .int p36.1), (2, .int (rd μ (rf k0 0) (5 : Int32).toNatClampNeg)), (0, .ref (gad (cG C) k0)), (1, .int a1)] (by decide) rfl ?_
    refine u_aload_n (pc := 40) hC dX12_text_40 rfl 2 rfl ?_
    refine g_RX12_67 (pc := 41) hC hk0 dX12_text_41 ?_
    refine u_if_lt (pc := 44) hC (tgt := 55) dX12_text_44 (by decide) (fun c44 => ?_) (fun c44 => ?_)
    · replace h := of_t c44 h
      refine u_aload_n (pc := 55) hC dX12_text_55 rfl 2 rfl ?_
      refine g_RX12_7 (pc := 56) hC hk0 dX12_text_56 ?_
      refine u_sipush (pc := 59) hC sc_170 dX12_text_59 ?_
      refine u_iload_n (pc := 62) hC dX12_text_62 rfl 3 rfl ?_
      refine u_iadd (pc := 63) hC dX12_text_63 ?_
      refine u_iload_n (pc := 64) hC dX12_text_64 rfl 1 rfl ?_
      obtain ⟨b65, h⟩ := of_gd h
      obtain ⟨m65, q65, h⟩ := of_bd h
      refine u_iast (pc := 65) hC (rs_12_0 hk0) 342 (rn_12_0 hk0) b65 dX12_text_65 (Option.some.inj q65) ?_
      refine u_iconst (pc := 66) hC ic_0 dX12_text_66 ?_
      refine u_istore (pc := 67) hC dX12_text_67 [(4, .int (0 : Int32)), (3, .int p36.1), (2, .int (rd μ (rf k0 0) (5 : Int32).toNatClampNeg)), (0, .ref (gad (cG C) k0)), (1, .int a1)] (by decide) rfl ?_
      obtain ⟨e69, l69, h⟩ := of_bd h
      refine u_sub [3, 4, 2, 0] rfl ?_
      refine lw69 (rd μ (rf k0 0) (5 : Int32).toNatClampNeg) e69 ((0 : Int32), m65) l69 ?_
      show UW C 5 e69 108 [] []
      refine u_iconst (pc := 108) hC ic_1 dX12_text_108 ?_
      obtain rfl := Option.some.inj h
      exact u_iret (pc := 109) hC hQ hr ⟨rfl, rfl⟩ dX12_text_109
    · replace h := of_f c44 h
      refine u_bipush (pc := 47) hC bc_m10 dX12_text_47 ?_
      refine u_aload_n (pc := 49) hC dX12_text_49 rfl 2 rfl ?_
      refine g_RX12_67 (pc := 50) hC hk0 dX12_text_50 ?_
      refine u_isub (pc := 53) hC dX12_text_53 ?_
      obtain rfl := Option.some.inj h
      exact u_iret (pc := 54) hC hQ hr ⟨rfl, rfl⟩ dX12_text_54
  · replace h := of_f (fun q => q c7) h
    refine u_aload_n (pc := 10) hC dX12_text_10 rfl 0 rfl ?_
    refine u_iconst (pc := 11) hC ic_1 dX12_text_11 ?_
    obtain ⟨p12, q12, h⟩ := of_bd h
    refine k_RX12_119 (pc := 12) hC (av := [.int (1 : Int32)]) (rest := []) (c_X12_finds (d := d - 1) (by omega) hk0 q12) (by omega) (Nat.le_of_ble_eq_true rfl) hk0 rfl rfl dX12_text_12 ?_
    obtain rfl := Option.some.inj h
    exact u_iret (pc := 15) hC hQ hr ⟨rfl, rfl⟩ dX12_text_15
set_option maxHeartbeats 4000000 in
set_option maxRecDepth 100000 in
theorem c_X12_textGives {l : Launch} {G : GG} {d : Nat} (hd : 104 ≤ d) {μ : Mem} {k0 : Nat} (hk0 : isC 12 k0) {a1 : Int32} {a2 : Int32} {a3 : Int32} {a4 : Int32} {r : Int32 × Mem} (h : f_X12_textGives μ k0 a1 a2 a3 a4 = some r) : CT l yX12_textGives cX12_textGives 6 (some .int) d G [.ref (gad G k0), .int a1, .int a2, .int a3, .int a4] μ (RK (some (.int r.1)) r.2) := by
  refine ct_start (by decide) (Nat.le_of_ble_eq_true rfl) (fun C hl1 hG1 hC hQ hr => ?_)
  subst hl1; subst hG1
  have hC : CxOK C cX12_textGives 6 RX12 d := hC
  show UW C 6 μ 0 [(0, .ref (gad (cG C) k0)), (1, .int a1), (2, .int a2), (3, .int a3), (4, .int a4)] []
  have jb82 : ∀ (μ_82 : Mem) (v5_82 : Int32), f_X12_textGives_j82 μ_82 k0 a1 a2 a3 a4 v5_82 = some r → UW C 6 μ_82 82 [(1, .int a1), (5, .int v5_82)] [] := by
    intro μ_82 v5_82 h
    unfold f_X12_textGives_j82 at h
    refine u_iload_n (pc := 82) hC dX12_textGives_82 rfl 0 rfl ?_
    refine u_if_ne (pc := 83) hC (tgt := 98) dX12_textGives_83 (by decide) (fun c83 => ?_) (fun c83 => ?_)
    · replace h := of_t c83 h
      refine u_iload (pc := 98) hC dX12_textGives_98 1 rfl ?_
      refine u_sipush (pc := 100) hC sc_m999 dX12_textGives_100 ?_
      refine u_sipush (pc := 103) hC sc_999 dX12_textGives_103 ?_
      obtain ⟨r106, q106, h⟩ := of_bd h
      refine k_RX12_128 (pc := 106) hC (av := [.int v5_82, .int (-999 : Int32), .int (999 : Int32)]) (rest := []) (c_X12_held (d := d - 1) (by omega)  q106) (by omega) (Nat.le_of_ble_eq_true rfl) rfl rfl dX12_textGives_106 ?_
      obtain rfl := Option.some.inj h
      exact u_iret (pc := 109) hC hQ hr ⟨rfl, rfl⟩ dX12_textGives_109
    · replace h := of_f (fun q => q c83) h
      refine u_iload (pc := 86) hC dX12_textGives_86 1 rfl ?_
      refine u_iconst (pc := 88) hC ic_0 dX12_textGives_88 ?_
      refine u_sipush (pc := 89) hC sc_999 dX12_textGives_89 ?_
      obtain ⟨r92, q92, h⟩ := of_bd h
      refine k_RX12_128 (pc := 92) hC (av := [.int v5_82, .int (0 : Int32), .int (999 : Int32)]) (rest := []) (c_X12_held (d := d - 1) (by omega)  q92) (by omega) (Nat.le_of_ble_eq_true rfl) rfl rfl dX12_textGives_92 ?_
      refine u_goto (pc := 95) hC 109 dX12_textGives_95 (by decide) ?_
      obtain rfl := Option.some.inj h
      exact u_iret (pc := 109) hC hQ hr ⟨rfl, rfl⟩ dX12_textGives_109
  have jb20 : ∀ (μ_20 : Mem) (vt0_20 : Int32), f_X12_textGives_j20 μ_20 k0 a1 a2 a3 a4 vt0_20 = some r → UW C 6 μ_20 20 [(0, .ref (gad (cG C) k0)), (1, .int a1), (2, .int a2), (3, .int a3), (4, .int a4)] [.int vt0_20] := by
    intro μ_20 vt0_20 h
    unfold f_X12_textGives_j20 at h
    refine u_istore (pc := 20) hC dX12_textGives_20 [(5, .int vt0_20), (0, .ref (gad (cG C) k0)), (1, .int a1), (2, .int a2), (3, .int a3), (4, .int a4)] (by decide) rfl ?_
    refine u_aload_n (pc := 22) hC dX12_textGives_22 rfl 1 rfl ?_
    refine g_RX12_7 (pc := 23) hC hk0 dX12_textGives_23 ?_
    refine u_sipush (pc := 26) hC sc_170 dX12_textGives_26 ?_
    refine u_iload_n (pc := 29) hC dX12_textGives_29 rfl 2 rfl ?_
    refine u_iadd (pc := 30) hC dX12_textGives_30 ?_
    obtain ⟨b31, h⟩ := of_gd h
    refine u_iald (pc := 31) hC (rs_12_0 hk0) 342 (rn_12_0 hk0) b31 dX12_textGives_31 ?_
    refine u_if_le (pc := 32) hC (tgt := 82) dX12_textGives_32 (by decide) (fun c32 => ?_) (fun c32 => ?_)
    · replace h := of_t c32 h
      refine u_sub [2, 0] rfl ?_
      exact jb82 μ_20 vt0_20 h
    · replace h := of_f c32 h
      refine u_aload_n (pc := 35) hC dX12_textGives_35 rfl 1 rfl ?_
      refine g_RX12_22 (pc := 36) hC hk0 dX12_textGives_36 ?_
      refine u_iconst (pc := 39) hC ic_0 dX12_textGives_39 ?_
      refine u_iload_n (pc := 40) hC dX12_textGives_40 rfl 3 rfl ?_
      obtain ⟨m41, q41, h⟩ := of_bd h
      refine u_iast (pc := 41) hC (rs_12_11 hk0) 3 (rn_12_11 hk0) (by decide) dX12_textGives_41 (Option.some.inj q41) ?_
      refine u_aload_n (pc := 42) hC dX12_textGives_42 rfl 1 rfl ?_
      refine g_RX12_22 (pc := 43) hC hk0 dX12_textGives_43 ?_
      refine u_iconst (pc := 46) hC ic_1 dX12_textGives_46 ?_
      refine u_iload_n (pc := 47) hC dX12_textGives_47 rfl 4 rfl ?_
      obtain ⟨m48, q48, h⟩ := of_bd h
      refine u_iast (pc := 48) hC (rs_12_11 hk0) 3 (rn_12_11 hk0) (by decide) dX12_textGives_48 (Option.some.inj q48) ?_
      refine u_aload_n (pc := 49) hC dX12_textGives_49 rfl 1 rfl ?_
      refine g_RX12_22 (pc := 50) hC hk0 dX12_textGives_50 ?_
      refine u_iconst (pc := 53) hC ic_2 dX12_textGives_53 ?_
      refine u_iload (pc := 54) hC dX12_textGives_54 5 rfl ?_
      obtain ⟨m56, q56, h⟩ := of_bd h
      refine u_iast (pc := 56) hC (rs_12_11 hk0) 3 (rn_12_11 hk0) (by decide) dX12_textGives_56 (Option.some.inj q56) ?_
      refine u_aload_n (pc := 57) hC dX12_textGives_57 rfl 1 rfl ?_
      refine u_sipush (pc := 58) hC sc_192 dX12_textGives_58 ?_
      refine u_bipush (pc := 61) hC bc_50 dX12_textGives_61 ?_
      refine u_iload_n (pc := 63) hC dX12_textGives_63 rfl 2 rfl ?_
      refine u_imul (pc := 64) hC dX12_textGives_64 ?_
      refine u_iadd (pc := 65) hC dX12_textGives_65 ?_
      refine u_aload_n (pc := 66) hC dX12_textGives_66 rfl 1 rfl ?_
      refine g_RX12_7 (pc := 67) hC hk0 dX12_textGives_67 ?_
      refine u_sipush (pc := 70) hC sc_170 dX12_textGives_70 ?_
      refine u_iload_n (pc := 73) hC dX12_textGives_73 rfl 2 rfl ?_
      refine u_iadd (pc := 74) hC dX12_textGives_74 ?_
      obtain ⟨b75, h⟩ := of_gd h
      refine u_iald (pc := 75) hC (rs_12_0 hk0) 342 (rn_12_0 hk0) b75 dX12_textGives_75 ?_
      refine u_iload_n (pc := 76) hC dX12_textGives_76 rfl 2 rfl ?_
      obtain ⟨p77, q77, h⟩ := of_bd h
      refine k_RX12_124 (pc := 77) hC (av := [.int ((192 : Int32) + ((50 : Int32) * a1)), .int (rd m56 (rf k0 0) ((170 : Int32) + a1).toNatClampNeg), .int a1]) (rest := []) (c_X12_worked (d := d - 1) (by omega) hk0 q77) (by omega) (Nat.le_of_ble_eq_true rfl) hk0 rfl rfl dX12_textGives_77 ?_
      refine u_istore (pc := 80) hC dX12_textGives_80 [(5, .int p77.1), (0, .ref (gad (cG C) k0)), (1, .int a1), (2, .int a2), (3, .int a3), (4, .int a4)] (by decide) rfl ?_
      refine u_sub [2, 0] rfl ?_
      exact jb82 p77.2 p77.1 h
  unfold f_X12_textGives at h
  refine u_iload_n (pc := 0) hC dX12_textGives_0 rfl 1 rfl ?_
  refine u_if_ne (pc := 1) hC (tgt := 9) dX12_textGives_1 (by decide) (fun c1 => ?_) (fun c1 => ?_)
  · replace h := of_t c1 h
    refine u_bipush (pc := 9) hC bc_10 dX12_textGives_9 ?_
    refine u_iload (pc := 11) hC dX12_textGives_11 4 rfl ?_
    refine u_imul (pc := 13) hC dX12_textGives_13 ?_
    refine u_iconst (pc := 14) hC ic_5 dX12_textGives_14 ?_
    refine u_iload_n (pc := 15) hC dX12_textGives_15 rfl 3 rfl ?_
    refine u_imul (pc := 16) hC dX12_textGives_16 ?_
    refine u_isub (pc := 17) hC dX12_textGives_17 ?_
    refine u_iload_n (pc := 18) hC dX12_textGives_18 rfl 2 rfl ?_
    refine u_isub (pc := 19) hC dX12_textGives_19 ?_
    exact jb20 μ ((((10 : Int32) * a4) - ((5 : Int32) * a3)) - a2) h
  · replace h := of_f (fun q => q c1) h
    refine u_bipush (pc := 4) hC bc_10 dX12_textGives_4 ?_
    refine u_goto (pc := 6) hC 20 dX12_textGives_6 (by decide) ?_
    exact jb20 μ (10 : Int32) h
set_option maxHeartbeats 4000000 in
set_option maxRecDepth 100000 in
theorem c_X12_law {l : Launch} {G : GG} {d : Nat} (hd : 105 ≤ d) {μ : Mem} {k0 : Nat} (hk0 : isC 12 k0) {a1 : Int32} {a2 : Int32} {a3 : Int32} {a4 : Int32} {r : Int32 × Mem} (h : f_X12_law μ k0 a1 a2 a3 a4 = some r) : CT l yX12_law cX12_law 5 (some .int) d G [.ref (gad G k0), .int a1, .int a2, .int a3, .int a4] μ (RK (some (.int r.1)) r.2) := by
  refine ct_start (by decide) (Nat.le_of_ble_eq_true rfl) (fun C hl1 hG1 hC hQ hr => ?_)
  subst hl1; subst hG1
  have hC : CxOK C cX12_law 5 RX12 d := hC
  show UW C 5 μ 0 [(0, .ref (gad (cG C) k0)), (1, .int a1), (2, .int a2), (3, .int a3), (4, .int a4)] []
  unfold f_X12_law at h
  refine u_iload_n (pc := 0) hC dX12_law_0 rfl 1 rfl ?_
  refine u_i2l (pc := 1) hC dX12_law_1 ?_
  refine u_lconst (pc := 2) hC (v := (0 : Int64)) rfl dX12_law_2 ?_
  refine u_lconst (pc := 3) hC (v := (1 : Int64)) rfl dX12_law_3 ?_
  obtain ⟨r4, q4, h⟩ := of_bd h
  refine k_RX12_57 (pc := 4) hC (av := [.long a1.toInt64, .long (0 : Int64), .long (1 : Int64)]) (rest := []) (c_X12_in (d := d - 1) (by omega)  q4) (by omega) (Nat.le_of_ble_eq_true rfl) rfl rfl dX12_law_4 ?_
  refine u_if_eq (pc := 7) hC (tgt := 22) dX12_law_7 (by decide) (fun c7 => ?_) (fun c7 => ?_)
  · replace h := of_t c7 h
    refine u_aload_n (pc := 22) hC dX12_law_22 rfl 0 rfl ?_
    refine u_iconst (pc := 23) hC ic_1 dX12_law_23 ?_
    obtain ⟨p24, q24, h⟩ := of_bd h
    refine k_RX12_119 (pc := 24) hC (av := [.int (1 : Int32)]) (rest := []) (c_X12_finds (d := d - 1) (by omega) hk0 q24) (by omega) (Nat.le_of_ble_eq_true rfl) hk0 rfl rfl dX12_law_24 ?_
    obtain rfl := Option.some.inj h
    exact u_iret (pc := 27) hC hQ hr ⟨rfl, rfl⟩ dX12_law_27
  · replace h := of_f c7 h
    refine u_aload_n (pc := 10) hC dX12_law_10 rfl 0 rfl ?_
    refine u_iload_n (pc := 11) hC dX12_law_11 rfl 1 rfl ?_
    refine u_iload_n (pc := 12) hC dX12_law_12 rfl 2 rfl ?_
    refine u_iload_n (pc := 13) hC dX12_law_13 rfl 3 rfl ?_
    refine u_iload (pc := 14) hC dX12_law_14 4 rfl ?_
    obtain ⟨p16, q16, h⟩ := of_bd h
    refine k_RX12_131 (pc := 16) hC (av := [.int a1, .int a2, .int a3, .int a4]) (rest := []) (c_X12_textGives (d := d - 1) (by omega) hk0 q16) (by omega) (Nat.le_of_ble_eq_true rfl) hk0 rfl rfl dX12_law_16 ?_
    refine u_goto (pc := 19) hC 27 dX12_law_19 (by decide) ?_
    obtain rfl := Option.some.inj h
    exact u_iret (pc := 27) hC hQ hr ⟨rfl, rfl⟩ dX12_law_27
set_option maxHeartbeats 4000000 in
set_option maxRecDepth 100000 in
theorem c_X12_fact {l : Launch} {G : GG} {d : Nat} (hd : 1 ≤ d) {μ : Mem} {k0 : Nat} (hk0 : isC 12 k0) {a1 : Int32} {a2 : Int32} {r : Int32 × Mem} (h : f_X12_fact μ k0 a1 a2 = some r) : CT l yX12_fact cX12_fact 4 (some .int) d G [.ref (gad G k0), .int a1, .int a2] μ (RK (some (.int r.1)) r.2) := by
  refine ct_start (by decide) (Nat.le_of_ble_eq_true rfl) (fun C hl1 hG1 hC hQ hr => ?_)
  subst hl1; subst hG1
  have hC : CxOK C cX12_fact 4 RX12 d := hC
  show UW C 4 μ 0 [(0, .ref (gad (cG C) k0)), (1, .int a1), (2, .int a2)] []
  have jb38 : ∀ (μ_38 : Mem), f_X12_fact_j38 μ_38 k0 a1 a2 = some r → UW C 4 μ_38 38 [(0, .ref (gad (cG C) k0))] [] := by
    intro μ_38 h
    unfold f_X12_fact_j38 at h
    refine u_aload_n (pc := 38) hC dX12_fact_38 rfl 0 rfl ?_
    refine u_iconst (pc := 39) hC ic_1 dX12_fact_39 ?_
    obtain ⟨p40, q40, h⟩ := of_bd h
    refine k_RX12_119 (pc := 40) hC (av := [.int (1 : Int32)]) (rest := []) (c_X12_finds (d := d - 1) (by omega) hk0 q40) (by omega) (Nat.le_of_ble_eq_true rfl) hk0 rfl rfl dX12_fact_40 ?_
    obtain rfl := Option.some.inj h
    exact u_iret (pc := 43) hC hQ hr ⟨rfl, rfl⟩ dX12_fact_43
  unfold f_X12_fact at h
  refine u_iload_n (pc := 0) hC dX12_fact_0 rfl 1 rfl ?_
  refine u_i2l (pc := 1) hC dX12_fact_1 ?_
  refine u_lconst (pc := 2) hC (v := (0 : Int64)) rfl dX12_fact_2 ?_
  refine u_ldc2 (pc := 3) hC (v := (255 : Int64)) mQ_RX12_122 dX12_fact_3 ?_
  obtain ⟨r6, q6, h⟩ := of_bd h
  refine k_RX12_57 (pc := 6) hC (av := [.long a1.toInt64, .long (0 : Int64), .long (255 : Int64)]) (rest := []) (c_X12_in (d := d - 1) (by omega)  q6) (by omega) (Nat.le_of_ble_eq_true rfl) rfl rfl dX12_fact_6 ?_
  refine u_if_eq (pc := 9) hC (tgt := 38) dX12_fact_9 (by decide) (fun c9 => ?_) (fun c9 => ?_)
  · replace h := of_t c9 h
    refine u_sub [0] rfl ?_
    exact jb38 μ h
  · replace h := of_f c9 h
    refine u_iload_n (pc := 12) hC dX12_fact_12 rfl 1 rfl ?_
    refine u_aload_n (pc := 13) hC dX12_fact_13 rfl 0 rfl ?_
    refine g_RX12_7 (pc := 14) hC hk0 dX12_fact_14 ?_
    refine u_iconst (pc := 17) hC ic_0 dX12_fact_17 ?_
    refine u_iald (pc := 18) hC (rs_12_0 hk0) 342 (rn_12_0 hk0) (by decide) dX12_fact_18 ?_
    refine u_ishr (pc := 19) hC dX12_fact_19 ?_
    refine u_iconst (pc := 20) hC ic_1 dX12_fact_20 ?_
    refine u_iand (pc := 21) hC dX12_fact_21 ?_
    refine u_iconst (pc := 22) hC ic_1 dX12_fact_22 ?_
    refine u_icmp_eq (pc := 23) hC (tgt := 38) dX12_fact_23 (by decide) (fun c23 => ?_) (fun c23 => ?_)
    · replace h := of_t c23 h
      refine u_sub [0] rfl ?_
      exact jb38 μ h
    · replace h := of_f c23 h
      refine u_iload_n (pc := 26) hC dX12_fact_26 rfl 2 rfl ?_
      refine u_i2l (pc := 27) hC dX12_fact_27 ?_
      refine u_lconst (pc := 28) hC (v := (0 : Int64)) rfl dX12_fact_28 ?_
      refine u_ldc2 (pc := 29) hC (v := (31 : Int64)) mQ_RX12_135 dX12_fact_29 ?_
      obtain ⟨r32, q32, h⟩ := of_bd h
      refine k_RX12_57 (pc := 32) hC (av := [.long a2.toInt64, .long (0 : Int64), .long (31 : Int64)]) (rest := []) (c_X12_in (d := d - 1) (by omega)  q32) (by omega) (Nat.le_of_ble_eq_true rfl) rfl rfl dX12_fact_32 ?_
      refine u_if_ne (pc := 35) hC (tgt := 44) dX12_fact_35 (by decide) (fun c35 => ?_) (fun c35 => ?_)
      · replace h := of_t c35 h
        refine u_aload_n (pc := 44) hC dX12_fact_44 rfl 0 rfl ?_
        refine g_RX12_7 (pc := 45) hC hk0 dX12_fact_45 ?_
        refine u_iconst (pc := 48) hC ic_0 dX12_fact_48 ?_
        refine u_iald (pc := 49) hC (rs_12_0 hk0) 342 (rn_12_0 hk0) (by decide) dX12_fact_49 ?_
        refine u_bipush (pc := 50) hC bc_8 dX12_fact_50 ?_
        refine u_icmp_ne (pc := 52) hC (tgt := 61) dX12_fact_52 (by decide) (fun c52 => ?_) (fun c52 => ?_)
        · replace h := of_t c52 h
          refine u_aload_n (pc := 61) hC dX12_fact_61 rfl 0 rfl ?_
          refine g_RX12_7 (pc := 62) hC hk0 dX12_fact_62 ?_
          refine u_iconst (pc := 65) hC ic_0 dX12_fact_65 ?_
          refine u_iald (pc := 66) hC (rs_12_0 hk0) 342 (rn_12_0 hk0) (by decide) dX12_fact_66 ?_
          refine u_istore_n (pc := 67) hC dX12_fact_67 rfl [(3, .int (rd μ (rf k0 0) (0 : Int32).toNatClampNeg)), (0, .ref (gad (cG C) k0)), (1, .int a1), (2, .int a2)] (by decide) rfl ?_
          refine u_aload_n (pc := 68) hC dX12_fact_68 rfl 1 rfl ?_
          refine g_RX12_7 (pc := 69) hC hk0 dX12_fact_69 ?_
          refine u_iconst (pc := 72) hC ic_0 dX12_fact_72 ?_
          refine u_dup2 (pc := 73) hC rfl rfl dX12_fact_73 ?_
          refine u_iald (pc := 74) hC (rs_12_0 hk0) 342 (rn_12_0 hk0) (by decide) dX12_fact_74 ?_
          refine u_iconst (pc := 75) hC ic_1 dX12_fact_75 ?_
          refine u_iadd (pc := 76) hC dX12_fact_76 ?_
          obtain ⟨m77, q77, h⟩ := of_bd h
          refine u_iast (pc := 77) hC (rs_12_0 hk0) 342 (rn_12_0 hk0) (by decide) dX12_fact_77 (Option.some.inj q77) ?_
          refine u_aload_n (pc := 78) hC dX12_fact_78 rfl 1 rfl ?_
          refine u_iload_n (pc := 79) hC dX12_fact_79 rfl 0 rfl ?_
          refine u_iconst (pc := 80) hC ic_0 dX12_fact_80 ?_
          refine u_iload_n (pc := 81) hC dX12_fact_81 rfl 2 rfl ?_
          obtain ⟨μ82, q82, h⟩ := of_bd h
          refine k_RX12_137 (pc := 82) hC (av := [.int (rd μ (rf k0 0) (0 : Int32).toNatClampNeg), .int (0 : Int32), .int a1]) (rest := []) (c_X12_puts (d := d - 1) (by omega) hk0 q82) (by omega) (Nat.le_of_ble_eq_true rfl) hk0 rfl rfl dX12_fact_82 ?_
          refine u_aload_n (pc := 85) hC dX12_fact_85 rfl 1 rfl ?_
          refine u_iload_n (pc := 86) hC dX12_fact_86 rfl 0 rfl ?_
          refine u_iconst (pc := 87) hC ic_1 dX12_fact_87 ?_
          refine u_iconst (pc := 88) hC ic_0 dX12_fact_88 ?_
          obtain ⟨μ89, q89, h⟩ := of_bd h
          refine k_RX12_137 (pc := 89) hC (av := [.int (rd μ (rf k0 0) (0 : Int32).toNatClampNeg), .int (1 : Int32), .int (0 : Int32)]) (rest := []) (c_X12_puts (d := d - 1) (by omega) hk0 q89) (by omega) (Nat.le_of_ble_eq_true rfl) hk0 rfl rfl dX12_fact_89 ?_
          refine u_aload_n (pc := 92) hC dX12_fact_92 rfl 1 rfl ?_
          refine u_iload_n (pc := 93) hC dX12_fact_93 rfl 0 rfl ?_
          refine u_iconst (pc := 94) hC ic_2 dX12_fact_94 ?_
          refine u_iconst (pc := 95) hC ic_0 dX12_fact_95 ?_
          obtain ⟨μ96, q96, h⟩ := of_bd h
          refine k_RX12_137 (pc := 96) hC (av := [.int (rd μ (rf k0 0) (0 : Int32).toNatClampNeg), .int (2 : Int32), .int (0 : Int32)]) (rest := []) (c_X12_puts (d := d - 1) (by omega) hk0 q96) (by omega) (Nat.le_of_ble_eq_true rfl) hk0 rfl rfl dX12_fact_96 ?_
          refine u_aload_n (pc := 99) hC dX12_fact_99 rfl 1 rfl ?_
          refine u_iload_n (pc := 100) hC dX12_fact_100 rfl 0 rfl ?_
          refine u_iconst (pc := 101) hC ic_3 dX12_fact_101 ?_
          refine u_iconst (pc := 102) hC ic_m1 dX12_fact_102 ?_
          obtain ⟨μ103, q103, h⟩ := of_bd h
          refine k_RX12_137 (pc := 103) hC (av := [.int (rd μ (rf k0 0) (0 : Int32).toNatClampNeg), .int (3 : Int32), .int (-1 : Int32)]) (rest := []) (c_X12_puts (d := d - 1) (by omega) hk0 q103) (by omega) (Nat.le_of_ble_eq_true rfl) hk0 rfl rfl dX12_fact_103 ?_
          refine u_aload_n (pc := 106) hC dX12_fact_106 rfl 1 rfl ?_
          refine u_iload_n (pc := 107) hC dX12_fact_107 rfl 0 rfl ?_
          refine u_iconst (pc := 108) hC ic_4 dX12_fact_108 ?_
          refine u_iload_n (pc := 109) hC dX12_fact_109 rfl 3 rfl ?_
          obtain ⟨μ110, q110, h⟩ := of_bd h
          refine k_RX12_137 (pc := 110) hC (av := [.int (rd μ (rf k0 0) (0 : Int32).toNatClampNeg), .int (4 : Int32), .int a2]) (rest := []) (c_X12_puts (d := d - 1) (by omega) hk0 q110) (by omega) (Nat.le_of_ble_eq_true rfl) hk0 rfl rfl dX12_fact_110 ?_
          refine u_iload_n (pc := 113) hC dX12_fact_113 rfl 0 rfl ?_
          obtain rfl := Option.some.inj h
          exact u_iret (pc := 114) hC hQ hr ⟨rfl, rfl⟩ dX12_fact_114
        · replace h := of_f (fun q => q c52) h
          refine u_aload_n (pc := 55) hC dX12_fact_55 rfl 0 rfl ?_
          refine u_iconst (pc := 56) hC ic_4 dX12_fact_56 ?_
          obtain ⟨p57, q57, h⟩ := of_bd h
          refine k_RX12_119 (pc := 57) hC (av := [.int (4 : Int32)]) (rest := []) (c_X12_finds (d := d - 1) (by omega) hk0 q57) (by omega) (Nat.le_of_ble_eq_true rfl) hk0 rfl rfl dX12_fact_57 ?_
          obtain rfl := Option.some.inj h
          exact u_iret (pc := 60) hC hQ hr ⟨rfl, rfl⟩ dX12_fact_60
      · replace h := of_f (fun q => q c35) h
        refine u_sub [0] rfl ?_
        exact jb38 μ h
set_option maxHeartbeats 4000000 in
set_option maxRecDepth 100000 in
theorem c_X12_clash {l : Launch} {G : GG} {d : Nat} (hd : 2 ≤ d) {μ : Mem} {k0 : Nat} (hk0 : isC 12 k0) {a1 : Int32} {a2 : Int32} {a3 : Int32} {r : Int32 × Mem} (h : f_X12_clash μ k0 a1 a2 a3 = some r) : CT l yX12_clash cX12_clash 5 (some .int) d G [.ref (gad G k0), .int a1, .int a2, .int a3] μ (RK (some (.int r.1)) r.2) := by
  refine ct_start (by decide) (Nat.le_of_ble_eq_true rfl) (fun C hl1 hG1 hC hQ hr => ?_)
  subst hl1; subst hG1
  have hC : CxOK C cX12_clash 5 RX12 d := hC
  show UW C 5 μ 0 [(0, .ref (gad (cG C) k0)), (1, .int a1), (2, .int a2), (3, .int a3)] []
  have jb31 : ∀ (μ_31 : Mem), f_X12_clash_j31 μ_31 k0 a1 a2 a3 = some r → UW C 5 μ_31 31 [(0, .ref (gad (cG C) k0))] [] := by
    intro μ_31 h
    unfold f_X12_clash_j31 at h
    refine u_aload_n (pc := 31) hC dX12_clash_31 rfl 0 rfl ?_
    refine u_iconst (pc := 32) hC ic_1 dX12_clash_32 ?_
    obtain ⟨p33, q33, h⟩ := of_bd h
    refine k_RX12_119 (pc := 33) hC (av := [.int (1 : Int32)]) (rest := []) (c_X12_finds (d := d - 1) (by omega) hk0 q33) (by omega) (Nat.le_of_ble_eq_true rfl) hk0 rfl rfl dX12_clash_33 ?_
    obtain rfl := Option.some.inj h
    exact u_iret (pc := 36) hC hQ hr ⟨rfl, rfl⟩ dX12_clash_36
  unfold f_X12_clash at h
  refine u_aload_n (pc := 0) hC dX12_clash_0 rfl 0 rfl ?_
  refine u_iload_n (pc := 1) hC dX12_clash_1 rfl 1 rfl ?_
  obtain ⟨r2, q2, h⟩ := of_bd h
  refine k_RX12_141 (pc := 2) hC (av := [.int a1]) (rest := []) (c_X12_isFact (d := d - 1) (by omega) hk0 q2) (by omega) (Nat.le_of_ble_eq_true rfl) hk0 rfl rfl dX12_clash_2 ?_
  refine u_if_eq (pc := 5) hC (tgt := 31) dX12_clash_5 (by decide) (fun c5 => ?_) (fun c5 => ?_)
  · replace h := of_t c5 h
    refine u_sub [0] rfl ?_
    exact jb31 μ h
  · replace h := of_f c5 h
    refine u_aload_n (pc := 8) hC dX12_clash_8 rfl 0 rfl ?_
    refine u_iload_n (pc := 9) hC dX12_clash_9 rfl 2 rfl ?_
    obtain ⟨r10, q10, h⟩ := of_bd h
    refine k_RX12_141 (pc := 10) hC (av := [.int a2]) (rest := []) (c_X12_isFact (d := d - 1) (by omega) hk0 q10) (by omega) (Nat.le_of_ble_eq_true rfl) hk0 rfl rfl dX12_clash_10 ?_
    refine u_if_eq (pc := 13) hC (tgt := 31) dX12_clash_13 (by decide) (fun c13 => ?_) (fun c13 => ?_)
    · replace h := of_t c13 h
      refine u_sub [0] rfl ?_
      exact jb31 μ h
    · replace h := of_f c13 h
      refine u_iload_n (pc := 16) hC dX12_clash_16 rfl 1 rfl ?_
      refine u_iload_n (pc := 17) hC dX12_clash_17 rfl 2 rfl ?_
      refine u_icmp_eq (pc := 18) hC (tgt := 31) dX12_clash_18 (by decide) (fun c18 => ?_) (fun c18 => ?_)
      · replace h := of_t c18 h
        refine u_sub [0] rfl ?_
        exact jb31 μ h
      · replace h := of_f c18 h
        refine u_iload_n (pc := 21) hC dX12_clash_21 rfl 3 rfl ?_
        refine u_i2l (pc := 22) hC dX12_clash_22 ?_
        refine u_lconst (pc := 23) hC (v := (0 : Int64)) rfl dX12_clash_23 ?_
        refine u_lconst (pc := 24) hC (v := (1 : Int64)) rfl dX12_clash_24 ?_
        obtain ⟨r25, q25, h⟩ := of_bd h
        refine k_RX12_57 (pc := 25) hC (av := [.long a3.toInt64, .long (0 : Int64), .long (1 : Int64)]) (rest := []) (c_X12_in (d := d - 1) (by omega)  q25) (by omega) (Nat.le_of_ble_eq_true rfl) rfl rfl dX12_clash_25 ?_
        refine u_if_ne (pc := 28) hC (tgt := 37) dX12_clash_28 (by decide) (fun c28 => ?_) (fun c28 => ?_)
        · replace h := of_t c28 h
          refine u_aload_n (pc := 37) hC dX12_clash_37 rfl 0 rfl ?_
          refine u_iload_n (pc := 38) hC dX12_clash_38 rfl 1 rfl ?_
          refine u_iconst (pc := 39) hC ic_1 dX12_clash_39 ?_
          obtain ⟨r40, q40, h⟩ := of_bd h
          refine k_RX12_144 (pc := 40) hC (av := [.int a1, .int (1 : Int32)]) (rest := []) (c_X12_its (d := d - 1) (by omega) hk0 q40) (by omega) (Nat.le_of_ble_eq_true rfl) hk0 rfl rfl dX12_clash_40 ?_
          refine u_iload_n (pc := 43) hC dX12_clash_43 rfl 2 rfl ?_
          refine u_ishr (pc := 44) hC dX12_clash_44 ?_
          refine u_iconst (pc := 45) hC ic_1 dX12_clash_45 ?_
          refine u_iand (pc := 46) hC dX12_clash_46 ?_
          refine u_istore (pc := 47) hC dX12_clash_47 [(4, .int ((jshr r40 a2) &&& (1 : Int32))), (0, .ref (gad (cG C) k0)), (1, .int a1), (2, .int a2), (3, .int a3)] (by decide) rfl ?_
          refine u_aload_n (pc := 49) hC dX12_clash_49 rfl 1 rfl ?_
          refine u_iload_n (pc := 50) hC dX12_clash_50 rfl 2 rfl ?_
          refine u_iconst (pc := 51) hC ic_1 dX12_clash_51 ?_
          refine u_aload_n (pc := 52) hC dX12_clash_52 rfl 1 rfl ?_
          refine u_iload_n (pc := 53) hC dX12_clash_53 rfl 2 rfl ?_
          refine u_iconst (pc := 54) hC ic_1 dX12_clash_54 ?_
          obtain ⟨r55, q55, h⟩ := of_bd h
          refine k_RX12_144 (pc := 55) hC (av := [.int a1, .int (1 : Int32)]) (rest := [.int (1 : Int32), .int a1, .ref (gad (cG C) k0)]) (c_X12_its (d := d - 1) (by omega) hk0 q55) (by omega) (Nat.le_of_ble_eq_true rfl) hk0 rfl rfl dX12_clash_55 ?_
          refine u_iconst (pc := 58) hC ic_1 dX12_clash_58 ?_
          refine u_iload_n (pc := 59) hC dX12_clash_59 rfl 3 rfl ?_
          refine u_ishl (pc := 60) hC dX12_clash_60 ?_
          refine u_iconst (pc := 61) hC ic_m1 dX12_clash_61 ?_
          refine u_ixor (pc := 62) hC dX12_clash_62 ?_
          refine u_iand (pc := 63) hC dX12_clash_63 ?_
          refine u_iload_n (pc := 64) hC dX12_clash_64 rfl 4 rfl ?_
          refine u_iload_n (pc := 65) hC dX12_clash_65 rfl 3 rfl ?_
          refine u_ishl (pc := 66) hC dX12_clash_66 ?_
          refine u_ior (pc := 67) hC dX12_clash_67 ?_
          obtain ⟨μ68, q68, h⟩ := of_bd h
          refine k_RX12_137 (pc := 68) hC (av := [.int a1, .int (1 : Int32), .int ((r55 &&& ((jshl (1 : Int32) a2) ^^^ (-1 : Int32))) ||| (jshl a3 a2))]) (rest := []) (c_X12_puts (d := d - 1) (by omega) hk0 q68) (by omega) (Nat.le_of_ble_eq_true rfl) hk0 rfl rfl dX12_clash_68 ?_
          refine u_aload_n (pc := 71) hC dX12_clash_71 rfl 1 rfl ?_
          refine u_iload_n (pc := 72) hC dX12_clash_72 rfl 3 rfl ?_
          refine u_iconst (pc := 73) hC ic_1 dX12_clash_73 ?_
          refine u_aload_n (pc := 74) hC dX12_clash_74 rfl 1 rfl ?_
          refine u_iload_n (pc := 75) hC dX12_clash_75 rfl 3 rfl ?_
          refine u_iconst (pc := 76) hC ic_1 dX12_clash_76 ?_
          obtain ⟨r77, q77, h⟩ := of_bd h
          refine k_RX12_144 (pc := 77) hC (av := [.int a2, .int (1 : Int32)]) (rest := [.int (1 : Int32), .int a2, .ref (gad (cG C) k0)]) (c_X12_its (d := d - 1) (by omega) hk0 q77) (by omega) (Nat.le_of_ble_eq_true rfl) hk0 rfl rfl dX12_clash_77 ?_
          refine u_iconst (pc := 80) hC ic_1 dX12_clash_80 ?_
          refine u_iload_n (pc := 81) hC dX12_clash_81 rfl 2 rfl ?_
          refine u_ishl (pc := 82) hC dX12_clash_82 ?_
          refine u_iconst (pc := 83) hC ic_m1 dX12_clash_83 ?_
          refine u_ixor (pc := 84) hC dX12_clash_84 ?_
          refine u_iand (pc := 85) hC dX12_clash_85 ?_
          refine u_iload_n (pc := 86) hC dX12_clash_86 rfl 4 rfl ?_
          refine u_iload_n (pc := 87) hC dX12_clash_87 rfl 2 rfl ?_
          refine u_ishl (pc := 88) hC dX12_clash_88 ?_
          refine u_ior (pc := 89) hC dX12_clash_89 ?_
          obtain ⟨μ90, q90, h⟩ := of_bd h
          refine k_RX12_137 (pc := 90) hC (av := [.int a2, .int (1 : Int32), .int ((r77 &&& ((jshl (1 : Int32) a1) ^^^ (-1 : Int32))) ||| (jshl a3 a1))]) (rest := []) (c_X12_puts (d := d - 1) (by omega) hk0 q90) (by omega) (Nat.le_of_ble_eq_true rfl) hk0 rfl rfl dX12_clash_90 ?_
          refine u_iload (pc := 93) hC dX12_clash_93 0 rfl ?_
          obtain rfl := Option.some.inj h
          exact u_iret (pc := 95) hC hQ hr ⟨rfl, rfl⟩ dX12_clash_95
        · replace h := of_f (fun q => q c28) h
          refine u_sub [0] rfl ?_
          exact jb31 μ h
set_option maxHeartbeats 4000000 in
set_option maxRecDepth 100000 in
theorem c_X12_explain {l : Launch} {G : GG} {d : Nat} (hd : 2 ≤ d) {μ : Mem} {k0 : Nat} (hk0 : isC 12 k0) {a1 : Int32} {a2 : Int32} {a3 : Int32} {r : Int32 × Mem} (h : f_X12_explain μ k0 a1 a2 a3 = some r) : CT l yX12_explain cX12_explain 5 (some .int) d G [.ref (gad G k0), .int a1, .int a2, .int a3] μ (RK (some (.int r.1)) r.2) := by
  refine ct_start (by decide) (Nat.le_of_ble_eq_true rfl) (fun C hl1 hG1 hC hQ hr => ?_)
  subst hl1; subst hG1
  have hC : CxOK C cX12_explain 5 RX12 d := hC
  show UW C 5 μ 0 [(0, .ref (gad (cG C) k0)), (1, .int a1), (2, .int a2), (3, .int a3)] []
  have jb70 : ∀ (μ_70 : Mem) (v4_70 : Int32) (kt0_70 : Nat) (hkt0_70 : isC 12 kt0_70) (vt1_70 : Int32) (vt2_70 : Int32) (vt3_70 : Int32), f_X12_explain_j70 μ_70 k0 a1 a2 a3 v4_70 kt0_70 vt1_70 vt2_70 vt3_70 = some r → UW C 5 μ_70 70 [(4, .int v4_70)] [.int vt3_70, .int vt2_70, .int vt1_70, .ref (gad (cG C) kt0_70)] := by
    intro μ_70 v4_70 kt0_70 hkt0_70 vt1_70 vt2_70 vt3_70 h
    unfold f_X12_explain_j70 at h
    obtain ⟨μ70, q70, h⟩ := of_bd h
    refine k_RX12_137 (pc := 70) hC (av := [.int vt1_70, .int vt2_70, .int vt3_70]) (rest := []) (c_X12_puts (d := d - 1) (by omega) hkt0_70 q70) (by omega) (Nat.le_of_ble_eq_true rfl) hkt0_70 rfl rfl dX12_explain_70 ?_
    refine u_iload (pc := 73) hC dX12_explain_73 0 rfl ?_
    obtain rfl := Option.some.inj h
    exact u_iret (pc := 75) hC hQ hr ⟨rfl, rfl⟩ dX12_explain_75
  have jb43 : ∀ (μ_43 : Mem), f_X12_explain_j43 μ_43 k0 a1 a2 a3 = some r → UW C 5 μ_43 43 [(0, .ref (gad (cG C) k0)), (1, .int a1), (2, .int a2), (3, .int a3)] [] := by
    intro μ_43 h
    unfold f_X12_explain_j43 at h
    refine u_aload_n (pc := 43) hC dX12_explain_43 rfl 0 rfl ?_
    refine u_iload_n (pc := 44) hC dX12_explain_44 rfl 1 rfl ?_
    refine u_iconst (pc := 45) hC ic_2 dX12_explain_45 ?_
    obtain ⟨r46, q46, h⟩ := of_bd h
    refine k_RX12_144 (pc := 46) hC (av := [.int a1, .int (2 : Int32)]) (rest := []) (c_X12_its (d := d - 1) (by omega) hk0 q46) (by omega) (Nat.le_of_ble_eq_true rfl) hk0 rfl rfl dX12_explain_46 ?_
    refine u_istore (pc := 49) hC dX12_explain_49 [(4, .int r46), (0, .ref (gad (cG C) k0)), (1, .int a1), (2, .int a2), (3, .int a3)] (by decide) rfl ?_
    refine u_aload_n (pc := 51) hC dX12_explain_51 rfl 1 rfl ?_
    refine u_iload_n (pc := 52) hC dX12_explain_52 rfl 2 rfl ?_
    refine u_iconst (pc := 53) hC ic_2 dX12_explain_53 ?_
    refine u_iload_n (pc := 54) hC dX12_explain_54 rfl 3 rfl ?_
    obtain ⟨μ55, q55, h⟩ := of_bd h
    refine k_RX12_137 (pc := 55) hC (av := [.int a1, .int (2 : Int32), .int a2]) (rest := []) (c_X12_puts (d := d - 1) (by omega) hk0 q55) (by omega) (Nat.le_of_ble_eq_true rfl) hk0 rfl rfl dX12_explain_55 ?_
    refine u_aload_n (pc := 58) hC dX12_explain_58 rfl 1 rfl ?_
    refine u_iload_n (pc := 59) hC dX12_explain_59 rfl 2 rfl ?_
    refine u_iconst (pc := 60) hC ic_3 dX12_explain_60 ?_
    refine u_iload_n (pc := 61) hC dX12_explain_61 rfl 3 rfl ?_
    refine u_if_le (pc := 62) hC (tgt := 69) dX12_explain_62 (by decide) (fun c62 => ?_) (fun c62 => ?_)
    · replace h := of_t c62 h
      refine u_iconst (pc := 69) hC ic_m1 dX12_explain_69 ?_
      refine u_sub [0] rfl ?_
      exact jb70 μ55 r46 k0 hk0 a1 (3 : Int32) (-1 : Int32) h
    · replace h := of_f c62 h
      refine u_iload_n (pc := 65) hC dX12_explain_65 rfl 4 rfl ?_
      refine u_goto (pc := 66) hC 70 dX12_explain_66 (by decide) ?_
      refine u_sub [0] rfl ?_
      exact jb70 μ55 r46 k0 hk0 a1 (3 : Int32) a3 h
  have jb37 : ∀ (μ_37 : Mem), f_X12_explain_j37 μ_37 k0 a1 a2 a3 = some r → UW C 5 μ_37 37 [(0, .ref (gad (cG C) k0))] [] := by
    intro μ_37 h
    unfold f_X12_explain_j37 at h
    refine u_aload_n (pc := 37) hC dX12_explain_37 rfl 0 rfl ?_
    refine u_iconst (pc := 38) hC ic_1 dX12_explain_38 ?_
    obtain ⟨p39, q39, h⟩ := of_bd h
    refine k_RX12_119 (pc := 39) hC (av := [.int (1 : Int32)]) (rest := []) (c_X12_finds (d := d - 1) (by omega) hk0 q39) (by omega) (Nat.le_of_ble_eq_true rfl) hk0 rfl rfl dX12_explain_39 ?_
    obtain rfl := Option.some.inj h
    exact u_iret (pc := 42) hC hQ hr ⟨rfl, rfl⟩ dX12_explain_42
  unfold f_X12_explain at h
  refine u_aload_n (pc := 0) hC dX12_explain_0 rfl 0 rfl ?_
  refine u_iload_n (pc := 1) hC dX12_explain_1 rfl 1 rfl ?_
  obtain ⟨r2, q2, h⟩ := of_bd h
  refine k_RX12_141 (pc := 2) hC (av := [.int a1]) (rest := []) (c_X12_isFact (d := d - 1) (by omega) hk0 q2) (by omega) (Nat.le_of_ble_eq_true rfl) hk0 rfl rfl dX12_explain_2 ?_
  refine u_if_eq (pc := 5) hC (tgt := 37) dX12_explain_5 (by decide) (fun c5 => ?_) (fun c5 => ?_)
  · replace h := of_t c5 h
    refine u_sub [0] rfl ?_
    exact jb37 μ h
  · replace h := of_f c5 h
    refine u_iload_n (pc := 8) hC dX12_explain_8 rfl 2 rfl ?_
    refine u_i2l (pc := 9) hC dX12_explain_9 ?_
    refine u_lconst (pc := 10) hC (v := (0 : Int64)) rfl dX12_explain_10 ?_
    refine u_ldc2 (pc := 11) hC (v := (9 : Int64)) mQ_RX12_148 dX12_explain_11 ?_
    obtain ⟨r14, q14, h⟩ := of_bd h
    refine k_RX12_57 (pc := 14) hC (av := [.long a2.toInt64, .long (0 : Int64), .long (9 : Int64)]) (rest := []) (c_X12_in (d := d - 1) (by omega)  q14) (by omega) (Nat.le_of_ble_eq_true rfl) rfl rfl dX12_explain_14 ?_
    refine u_if_eq (pc := 17) hC (tgt := 37) dX12_explain_17 (by decide) (fun c17 => ?_) (fun c17 => ?_)
    · replace h := of_t c17 h
      refine u_sub [0] rfl ?_
      exact jb37 μ h
    · replace h := of_f c17 h
      refine u_iload_n (pc := 20) hC dX12_explain_20 rfl 2 rfl ?_
      refine u_if_le (pc := 21) hC (tgt := 43) dX12_explain_21 (by decide) (fun c21 => ?_) (fun c21 => ?_)
      · replace h := of_t c21 h
        exact jb43 μ h
      · replace h := of_f c21 h
        refine u_aload_n (pc := 24) hC dX12_explain_24 rfl 0 rfl ?_
        refine u_iload_n (pc := 25) hC dX12_explain_25 rfl 3 rfl ?_
        obtain ⟨r26, q26, h⟩ := of_bd h
        refine k_RX12_141 (pc := 26) hC (av := [.int a3]) (rest := []) (c_X12_isFact (d := d - 1) (by omega) hk0 q26) (by omega) (Nat.le_of_ble_eq_true rfl) hk0 rfl rfl dX12_explain_26 ?_
        refine u_if_eq (pc := 29) hC (tgt := 37) dX12_explain_29 (by decide) (fun c29 => ?_) (fun c29 => ?_)
        · replace h := of_t c29 h
          refine u_sub [0] rfl ?_
          exact jb37 μ h
        · replace h := of_f c29 h
          refine u_iload_n (pc := 32) hC dX12_explain_32 rfl 3 rfl ?_
          refine u_iload_n (pc := 33) hC dX12_explain_33 rfl 1 rfl ?_
          refine u_icmp_ne (pc := 34) hC (tgt := 43) dX12_explain_34 (by decide) (fun c34 => ?_) (fun c34 => ?_)
          · replace h := of_t c34 h
            exact jb43 μ h
          · replace h := of_f (fun q => q c34) h
            refine u_sub [0] rfl ?_
            exact jb37 μ h
set_option maxHeartbeats 4000000 in
set_option maxRecDepth 100000 in
theorem c_X12_bookOf {l : Launch} {G : GG} {d : Nat} (hd : 1 ≤ d) {μ : Mem} {k0 : Nat} (hk0 : isC 12 k0) {a1 : Int32} {r : Int32} (h : f_X12_bookOf μ k0 a1 = some r) : CT l yX12_bookOf cX12_bookOf 4 (some .int) d G [.ref (gad G k0), .int a1] μ (RK (some (.int r)) μ) := by
  refine ct_start (by decide) (Nat.le_of_ble_eq_true rfl) (fun C hl1 hG1 hC hQ hr => ?_)
  subst hl1; subst hG1
  have hC : CxOK C cX12_bookOf 4 RX12 d := hC
  show UW C 4 μ 0 [(0, .ref (gad (cG C) k0)), (1, .int a1)] []
  have lw4 : ∀ (e : (Int32)) (s : Int32 × Int32), lp (fun s => f_X12_bookOf_l4 μ k0 a1 s.1 s.2) FU s = some e → (fun (e : (Int32)) => UW C 4 μ 33 [(2, .int e)] []) e → UW C 4 μ 4 [(0, .ref (gad (cG C) k0)), (1, .int a1), (2, .int s.1), (3, .int s.2)] [] := by
    intro e s hl hE0
    refine @lp_walk (Int32 × Int32) (Int32) (fun s => f_X12_bookOf_l4 μ k0 a1 s.1 s.2) (fun s => UW C 4 μ 4 [(0, .ref (gad (cG C) k0)), (1, .int a1), (2, .int s.1), (3, .int s.2)] []) (fun (e : (Int32)) => UW C 4 μ 33 [(2, .int e)] []) (fun s y4 h hP4 hE4 => ?_) FU s e hl hE0
    obtain ⟨v2_4, v3_4⟩ := s
    replace h : f_X12_bookOf_l4 μ k0 a1 v2_4 v3_4 = some y4 := h
    show UW C 4 μ 4 [(0, .ref (gad (cG C) k0)), (1, .int a1), (2, .int v2_4), (3, .int v3_4)] []
    unfold f_X12_bookOf_l4 at h
    refine u_iload_n (pc := 4) hC dX12_bookOf_4 rfl 3 rfl ?_
    refine u_aload_n (pc := 5) hC dX12_bookOf_5 rfl 0 rfl ?_
    refine u_iload_n (pc := 6) hC dX12_bookOf_6 rfl 1 rfl ?_
    refine u_iconst (pc := 7) hC ic_4 dX12_bookOf_7 ?_
    obtain ⟨r8, q8, h⟩ := of_bd h
    refine k_RX12_150 (pc := 8) hC (av := [.int a1, .int (4 : Int32)]) (rest := [.int v3_4]) (c_X12_of (d := d - 1) (by omega) hk0 q8) (by omega) (Nat.le_of_ble_eq_true rfl) hk0 rfl rfl dX12_bookOf_8 ?_
    refine u_icmp_ge (pc := 11) hC (tgt := 33) dX12_bookOf_11 (by decide) (fun c11 => ?_) (fun c11 => ?_)
    · replace h := of_t c11 h
      obtain rfl := Option.some.inj h
      refine u_sub [2] rfl ?_
      exact hE4 v2_4 rfl
    · replace h := of_f c11 h
      refine u_iload_n (pc := 14) hC dX12_bookOf_14 rfl 2 rfl ?_
      refine u_iconst (pc := 15) hC ic_1 dX12_bookOf_15 ?_
      refine u_aload_n (pc := 16) hC dX12_bookOf_16 rfl 0 rfl ?_
      refine u_iload_n (pc := 17) hC dX12_bookOf_17 rfl 1 rfl ?_
      refine u_iconst (pc := 18) hC ic_5 dX12_bookOf_18 ?_
      refine u_iload_n (pc := 19) hC dX12_bookOf_19 rfl 3 rfl ?_
      refine u_iadd (pc := 20) hC dX12_bookOf_20 ?_
      obtain ⟨r21, q21, h⟩ := of_bd h
      refine k_RX12_150 (pc := 21) hC (av := [.int a1, .int ((5 : Int32) + v3_4)]) (rest := [.int (1 : Int32), .int v2_4]) (c_X12_of (d := d - 1) (by omega) hk0 q21) (by omega) (Nat.le_of_ble_eq_true rfl) hk0 rfl rfl dX12_bookOf_21 ?_
      refine u_ishl (pc := 24) hC dX12_bookOf_24 ?_
      refine u_ior (pc := 25) hC dX12_bookOf_25 ?_
      refine u_istore_n (pc := 26) hC dX12_bookOf_26 rfl [(2, .int (v2_4 ||| (jshl (1 : Int32) r21))), (0, .ref (gad (cG C) k0)), (1, .int a1), (3, .int v3_4)] (by decide) rfl ?_
      refine u_iinc (pc := 27) hC dX12_bookOf_27 3 rfl (v3_4 + 1) rfl [(3, .int (v3_4 + 1)), (2, .int (v2_4 ||| (jshl (1 : Int32) r21))), (0, .ref (gad (cG C) k0)), (1, .int a1)] (by decide) rfl ?_
      refine u_goto (pc := 30) hC 4 dX12_bookOf_30 (by decide) ?_
      obtain rfl := Option.some.inj h
      refine u_sub [2, 3, 1, 0] rfl ?_
      exact hP4 (v2_4 ||| (jshl (1 : Int32) r21), v3_4 + 1) rfl
  unfold f_X12_bookOf at h
  refine u_iconst (pc := 0) hC ic_0 dX12_bookOf_0 ?_
  refine u_istore_n (pc := 1) hC dX12_bookOf_1 rfl [(2, .int (0 : Int32)), (0, .ref (gad (cG C) k0)), (1, .int a1)] (by decide) rfl ?_
  refine u_iconst (pc := 2) hC ic_0 dX12_bookOf_2 ?_
  refine u_istore_n (pc := 3) hC dX12_bookOf_3 rfl [(3, .int (0 : Int32)), (2, .int (0 : Int32)), (0, .ref (gad (cG C) k0)), (1, .int a1)] (by decide) rfl ?_
  obtain ⟨e4, l4, h⟩ := of_bd h
  refine u_sub [2, 3, 1, 0] rfl ?_
  refine lw4  e4 ((0 : Int32), (0 : Int32)) l4 ?_
  show UW C 4 μ 33 [(2, .int e4)] []
  refine u_iload_n (pc := 33) hC dX12_bookOf_33 rfl 0 rfl ?_
  obtain rfl := Option.some.inj h
  exact u_iret (pc := 34) hC hQ hr ⟨rfl, rfl⟩ dX12_bookOf_34
set_option maxHeartbeats 4000000 in
set_option maxRecDepth 100000 in
theorem c_X12_booksWith {l : Launch} {G : GG} {d : Nat} (hd : 2 ≤ d) {μ : Mem} {k0 : Nat} (hk0 : isC 12 k0) {a1 : Int32} {r : Int32} (h : f_X12_booksWith μ k0 a1 = some r) : CT l yX12_booksWith cX12_booksWith 4 (some .int) d G [.ref (gad G k0), .int a1] μ (RK (some (.int r)) μ) := by
  refine ct_start (by decide) (Nat.le_of_ble_eq_true rfl) (fun C hl1 hG1 hC hQ hr => ?_)
  subst hl1; subst hG1
  have hC : CxOK C cX12_booksWith 4 RX12 d := hC
  show UW C 4 μ 0 [(0, .ref (gad (cG C) k0)), (1, .int a1)] []
  have lw4 : ∀ (e : (Int32)) (s : Int32 × Int32), lp (fun s => f_X12_booksWith_l4 μ k0 a1 s.1 s.2) FU s = some e → (fun (e : (Int32)) => UW C 4 μ 32 [(2, .int e)] []) e → UW C 4 μ 4 [(0, .ref (gad (cG C) k0)), (1, .int a1), (2, .int s.1), (3, .int s.2)] [] := by
    intro e s hl hE0
    refine @lp_walk (Int32 × Int32) (Int32) (fun s => f_X12_booksWith_l4 μ k0 a1 s.1 s.2) (fun s => UW C 4 μ 4 [(0, .ref (gad (cG C) k0)), (1, .int a1), (2, .int s.1), (3, .int s.2)] []) (fun (e : (Int32)) => UW C 4 μ 32 [(2, .int e)] []) (fun s y4 h hP4 hE4 => ?_) FU s e hl hE0
    obtain ⟨v2_4, v3_4⟩ := s
    replace h : f_X12_booksWith_l4 μ k0 a1 v2_4 v3_4 = some y4 := h
    show UW C 4 μ 4 [(0, .ref (gad (cG C) k0)), (1, .int a1), (2, .int v2_4), (3, .int v3_4)] []
    unfold f_X12_booksWith_l4 at h
    refine u_iload_n (pc := 4) hC dX12_booksWith_4 rfl 3 rfl ?_
    refine u_aload_n (pc := 5) hC dX12_booksWith_5 rfl 0 rfl ?_
    refine g_RX12_7 (pc := 6) hC hk0 dX12_booksWith_6 ?_
    refine u_iconst (pc := 9) hC ic_1 dX12_booksWith_9 ?_
    refine u_iald (pc := 10) hC (rs_12_0 hk0) 342 (rn_12_0 hk0) (by decide) dX12_booksWith_10 ?_
    refine u_icmp_ge (pc := 11) hC (tgt := 32) dX12_booksWith_11 (by decide) (fun c11 => ?_) (fun c11 => ?_)
    · replace h := of_t c11 h
      obtain rfl := Option.some.inj h
      refine u_sub [2] rfl ?_
      exact hE4 v2_4 rfl
    · replace h := of_f c11 h
      refine u_iload_n (pc := 14) hC dX12_booksWith_14 rfl 2 rfl ?_
      refine u_aload_n (pc := 15) hC dX12_booksWith_15 rfl 0 rfl ?_
      refine u_iload_n (pc := 16) hC dX12_booksWith_16 rfl 3 rfl ?_
      obtain ⟨r17, q17, h⟩ := of_bd h
      refine k_RX12_153 (pc := 17) hC (av := [.int v3_4]) (rest := [.int v2_4]) (c_X12_bookOf (d := d - 1) (by omega) hk0 q17) (by omega) (Nat.le_of_ble_eq_true rfl) hk0 rfl rfl dX12_booksWith_17 ?_
      refine u_iload_n (pc := 20) hC dX12_booksWith_20 rfl 1 rfl ?_
      refine u_ishr (pc := 21) hC dX12_booksWith_21 ?_
      refine u_iconst (pc := 22) hC ic_1 dX12_booksWith_22 ?_
      refine u_iand (pc := 23) hC dX12_booksWith_23 ?_
      refine u_iadd (pc := 24) hC dX12_booksWith_24 ?_
      refine u_istore_n (pc := 25) hC dX12_booksWith_25 rfl [(2, .int (v2_4 + ((jshr r17 a1) &&& (1 : Int32)))), (0, .ref (gad (cG C) k0)), (1, .int a1), (3, .int v3_4)] (by decide) rfl ?_
      refine u_iinc (pc := 26) hC dX12_booksWith_26 3 rfl (v3_4 + 1) rfl [(3, .int (v3_4 + 1)), (2, .int (v2_4 + ((jshr r17 a1) &&& (1 : Int32)))), (0, .ref (gad (cG C) k0)), (1, .int a1)] (by decide) rfl ?_
      refine u_goto (pc := 29) hC 4 dX12_booksWith_29 (by decide) ?_
      obtain rfl := Option.some.inj h
      refine u_sub [2, 3, 1, 0] rfl ?_
      exact hP4 (v2_4 + ((jshr r17 a1) &&& (1 : Int32)), v3_4 + 1) rfl
  unfold f_X12_booksWith at h
  refine u_iconst (pc := 0) hC ic_0 dX12_booksWith_0 ?_
  refine u_istore_n (pc := 1) hC dX12_booksWith_1 rfl [(2, .int (0 : Int32)), (0, .ref (gad (cG C) k0)), (1, .int a1)] (by decide) rfl ?_
  refine u_iconst (pc := 2) hC ic_0 dX12_booksWith_2 ?_
  refine u_istore_n (pc := 3) hC dX12_booksWith_3 rfl [(3, .int (0 : Int32)), (2, .int (0 : Int32)), (0, .ref (gad (cG C) k0)), (1, .int a1)] (by decide) rfl ?_
  obtain ⟨e4, l4, h⟩ := of_bd h
  refine u_sub [2, 3, 1, 0] rfl ?_
  refine lw4  e4 ((0 : Int32), (0 : Int32)) l4 ?_
  show UW C 4 μ 32 [(2, .int e4)] []
  refine u_iload_n (pc := 32) hC dX12_booksWith_32 rfl 0 rfl ?_
  obtain rfl := Option.some.inj h
  exact u_iret (pc := 33) hC hQ hr ⟨rfl, rfl⟩ dX12_booksWith_33
set_option maxHeartbeats 4000000 in
set_option maxRecDepth 100000 in
theorem c_X12_ofFact {l : Launch} {G : GG} {d : Nat} (hd : 3 ≤ d) {μ : Mem} {k0 : Nat} (hk0 : isC 12 k0) {a1 : Int32} {a2 : Int32} {r : Int32 × Mem} (h : f_X12_ofFact μ k0 a1 a2 = some r) : CT l yX12_ofFact cX12_ofFact 3 (some .int) d G [.ref (gad G k0), .int a1, .int a2] μ (RK (some (.int r.1)) r.2) := by
  refine ct_start (by decide) (Nat.le_of_ble_eq_true rfl) (fun C hl1 hG1 hC hQ hr => ?_)
  subst hl1; subst hG1
  have hC : CxOK C cX12_ofFact 3 RX12 d := hC
  show UW C 3 μ 0 [(0, .ref (gad (cG C) k0)), (1, .int a1), (2, .int a2)] []
  have jb20 : ∀ (μ_20 : Mem), f_X12_ofFact_j20 μ_20 k0 a1 a2 = some r → UW C 3 μ_20 20 [(0, .ref (gad (cG C) k0))] [] := by
    intro μ_20 h
    unfold f_X12_ofFact_j20 at h
    refine u_aload_n (pc := 20) hC dX12_ofFact_20 rfl 0 rfl ?_
    refine u_iconst (pc := 21) hC ic_1 dX12_ofFact_21 ?_
    obtain ⟨p22, q22, h⟩ := of_bd h
    refine k_RX12_119 (pc := 22) hC (av := [.int (1 : Int32)]) (rest := []) (c_X12_finds (d := d - 1) (by omega) hk0 q22) (by omega) (Nat.le_of_ble_eq_true rfl) hk0 rfl rfl dX12_ofFact_22 ?_
    obtain rfl := Option.some.inj h
    exact u_iret (pc := 25) hC hQ hr ⟨rfl, rfl⟩ dX12_ofFact_25
  unfold f_X12_ofFact at h
  refine u_aload_n (pc := 0) hC dX12_ofFact_0 rfl 0 rfl ?_
  refine u_iload_n (pc := 1) hC dX12_ofFact_1 rfl 1 rfl ?_
  obtain ⟨r2, q2, h⟩ := of_bd h
  refine k_RX12_141 (pc := 2) hC (av := [.int a1]) (rest := []) (c_X12_isFact (d := d - 1) (by omega) hk0 q2) (by omega) (Nat.le_of_ble_eq_true rfl) hk0 rfl rfl dX12_ofFact_2 ?_
  refine u_if_eq (pc := 5) hC (tgt := 20) dX12_ofFact_5 (by decide) (fun c5 => ?_) (fun c5 => ?_)
  · replace h := of_t c5 h
    refine u_sub [0] rfl ?_
    exact jb20 μ h
  · replace h := of_f c5 h
    refine u_iload_n (pc := 8) hC dX12_ofFact_8 rfl 2 rfl ?_
    refine u_i2l (pc := 9) hC dX12_ofFact_9 ?_
    refine u_lconst (pc := 10) hC (v := (0 : Int64)) rfl dX12_ofFact_10 ?_
    refine u_ldc2 (pc := 11) hC (v := (5 : Int64)) mQ_RX12_156 dX12_ofFact_11 ?_
    obtain ⟨r14, q14, h⟩ := of_bd h
    refine k_RX12_57 (pc := 14) hC (av := [.long a2.toInt64, .long (0 : Int64), .long (5 : Int64)]) (rest := []) (c_X12_in (d := d - 1) (by omega)  q14) (by omega) (Nat.le_of_ble_eq_true rfl) rfl rfl dX12_ofFact_14 ?_
    refine u_if_ne (pc := 17) hC (tgt := 26) dX12_ofFact_17 (by decide) (fun c17 => ?_) (fun c17 => ?_)
    · replace h := of_t c17 h
      refine u_iload_n (pc := 26) hC dX12_ofFact_26 rfl 2 rfl ?_
      refine u_iconst (pc := 27) hC ic_5 dX12_ofFact_27 ?_
      refine u_icmp_ge (pc := 28) hC (tgt := 40) dX12_ofFact_28 (by decide) (fun c28 => ?_) (fun c28 => ?_)
      · replace h := of_t c28 h
        refine u_aload_n (pc := 40) hC dX12_ofFact_40 rfl 0 rfl ?_
        refine u_iload_n (pc := 41) hC dX12_ofFact_41 rfl 1 rfl ?_
        obtain ⟨r42, q42, h⟩ := of_bd h
        refine k_RX12_158 (pc := 42) hC (av := [.int a1]) (rest := []) (c_X12_booksWith (d := d - 1) (by omega) hk0 q42) (by omega) (Nat.le_of_ble_eq_true rfl) hk0 rfl rfl dX12_ofFact_42 ?_
        obtain rfl := Option.some.inj h
        exact u_iret (pc := 45) hC hQ hr ⟨rfl, rfl⟩ dX12_ofFact_45
      · replace h := of_f c28 h
        refine u_aload_n (pc := 31) hC dX12_ofFact_31 rfl 0 rfl ?_
        refine u_iload_n (pc := 32) hC dX12_ofFact_32 rfl 1 rfl ?_
        refine u_iload_n (pc := 33) hC dX12_ofFact_33 rfl 2 rfl ?_
        obtain ⟨r34, q34, h⟩ := of_bd h
        refine k_RX12_144 (pc := 34) hC (av := [.int a1, .int a2]) (rest := []) (c_X12_its (d := d - 1) (by omega) hk0 q34) (by omega) (Nat.le_of_ble_eq_true rfl) hk0 rfl rfl dX12_ofFact_34 ?_
        refine u_goto (pc := 37) hC 45 dX12_ofFact_37 (by decide) ?_
        obtain rfl := Option.some.inj h
        exact u_iret (pc := 45) hC hQ hr ⟨rfl, rfl⟩ dX12_ofFact_45
    · replace h := of_f (fun q => q c17) h
      refine u_sub [0] rfl ?_
      exact jb20 μ h
set_option maxHeartbeats 4000000 in
set_option maxRecDepth 100000 in
theorem c_X12_mayTell {l : Launch} {G : GG} {d : Nat} (hd : 3 ≤ d) {μ : Mem} {k0 : Nat} (hk0 : isC 12 k0) {a1 : Int32} {a2 : Int32} {r : Int32} (h : f_X12_mayTell μ k0 a1 a2 = some r) : CT l yX12_mayTell cX12_mayTell 7 (some .boolean) d G [.ref (gad G k0), .int a1, .int a2] μ (RK (some (.int r)) μ) := by
  refine ct_start (by decide) (Nat.le_of_ble_eq_true rfl) (fun C hl1 hG1 hC hQ hr => ?_)
  subst hl1; subst hG1
  have hC : CxOK C cX12_mayTell 7 RX12 d := hC
  show UW C 7 μ 0 [(0, .ref (gad (cG C) k0)), (1, .int a1), (2, .int a2)] []
  have jb48 : ∀ (v4_48 : Int32) (vt0_48 : Int32), f_X12_mayTell_j48 μ k0 a1 a2 v4_48 vt0_48 = some r → UW C 7 μ 48 [(0, .ref (gad (cG C) k0)), (1, .int a1), (2, .int a2), (4, .int v4_48)] [.int vt0_48] := by
    intro v4_48 vt0_48 h
    unfold f_X12_mayTell_j48 at h
    refine u_istore (pc := 48) hC dX12_mayTell_48 [(5, .int vt0_48), (0, .ref (gad (cG C) k0)), (1, .int a1), (2, .int a2), (4, .int v4_48)] (by decide) rfl ?_
    refine u_aload_n (pc := 50) hC dX12_mayTell_50 rfl 1 rfl ?_
    refine u_iload_n (pc := 51) hC dX12_mayTell_51 rfl 2 rfl ?_
    refine u_iconst (pc := 52) hC ic_1 dX12_mayTell_52 ?_
    obtain ⟨r53, q53, h⟩ := of_bd h
    refine k_RX12_150 (pc := 53) hC (av := [.int a1, .int (1 : Int32)]) (rest := []) (c_X12_of (d := d - 1) (by omega) hk0 q53) (by omega) (Nat.le_of_ble_eq_true rfl) hk0 rfl rfl dX12_mayTell_53 ?_
    refine u_istore (pc := 56) hC dX12_mayTell_56 [(6, .int r53), (5, .int vt0_48), (0, .ref (gad (cG C) k0)), (1, .int a1), (2, .int a2), (4, .int v4_48)] (by decide) rfl ?_
    refine u_aload_n (pc := 58) hC dX12_mayTell_58 rfl 2 rfl ?_
    refine u_iload_n (pc := 59) hC dX12_mayTell_59 rfl 3 rfl ?_
    refine u_iconst (pc := 60) hC ic_0 dX12_mayTell_60 ?_
    obtain ⟨r61, q61, h⟩ := of_bd h
    refine k_RX12_150 (pc := 61) hC (av := [.int a1, .int (0 : Int32)]) (rest := []) (c_X12_of (d := d - 1) (by omega) hk0 q61) (by omega) (Nat.le_of_ble_eq_true rfl) hk0 rfl rfl dX12_mayTell_61 ?_
    by_cases c64_0 : r61 = 1
    · replace h := of_t c64_0 h
      refine u_tabEq (pc := 64) hC dX12_mayTell_64 (1 : Int32) c64_0 (off := 40) 104 (by decide) (by decide) ?_
      refine u_iload (pc := 104) hC dX12_mayTell_104 1 rfl ?_
      refine u_if_eq (pc := 106) hC (tgt := 126) dX12_mayTell_106 (by decide) (fun c106 => ?_) (fun c106 => ?_)
      · replace h := of_t c106 h
        refine u_iconst (pc := 126) hC ic_0 dX12_mayTell_126 ?_
        obtain rfl := Option.some.inj h
        exact u_zret (pc := 127) hC hQ hr (by decide) ⟨rfl, rfl⟩ dX12_mayTell_127
      · replace h := of_f c106 h
        refine u_iload (pc := 109) hC dX12_mayTell_109 5 rfl ?_
        refine u_if_eq (pc := 111) hC (tgt := 122) dX12_mayTell_111 (by decide) (fun c111 => ?_) (fun c111 => ?_)
        · replace h := of_t c111 h
          refine u_iconst (pc := 122) hC ic_1 dX12_mayTell_122 ?_
          refine u_goto (pc := 123) hC 127 dX12_mayTell_123 (by decide) ?_
          obtain rfl := Option.some.inj h
          exact u_zret (pc := 127) hC hQ hr (by decide) ⟨rfl, rfl⟩ dX12_mayTell_127
        · replace h := of_f c111 h
          refine u_aload_n (pc := 114) hC dX12_mayTell_114 rfl 2 rfl ?_
          refine u_iload_n (pc := 115) hC dX12_mayTell_115 rfl 4 rfl ?_
          obtain ⟨r116, q116, h⟩ := of_bd h
          refine k_RX12_158 (pc := 116) hC (av := [.int a2]) (rest := []) (c_X12_booksWith (d := d - 1) (by omega) hk0 q116) (by omega) (Nat.le_of_ble_eq_true rfl) hk0 rfl rfl dX12_mayTell_116 ?_
          refine u_if_le (pc := 119) hC (tgt := 126) dX12_mayTell_119 (by decide) (fun c119 => ?_) (fun c119 => ?_)
          · replace h := of_t c119 h
            refine u_iconst (pc := 126) hC ic_0 dX12_mayTell_126 ?_
            obtain rfl := Option.some.inj h
            exact u_zret (pc := 127) hC hQ hr (by decide) ⟨rfl, rfl⟩ dX12_mayTell_127
          · replace h := of_f c119 h
            refine u_iconst (pc := 122) hC ic_1 dX12_mayTell_122 ?_
            refine u_goto (pc := 123) hC 127 dX12_mayTell_123 (by decide) ?_
            obtain rfl := Option.some.inj h
            exact u_zret (pc := 127) hC hQ hr (by decide) ⟨rfl, rfl⟩ dX12_mayTell_127
    replace h := of_f c64_0 h
    by_cases c64_1 : r61 = 2
    · replace h := of_t c64_1 h
      refine u_tabEq (pc := 64) hC dX12_mayTell_64 (2 : Int32) c64_1 (off := 64) 128 (by decide) (by decide) ?_
      refine u_iload (pc := 128) hC dX12_mayTell_128 1 rfl ?_
      refine u_if_eq (pc := 130) hC (tgt := 146) dX12_mayTell_130 (by decide) (fun c130 => ?_) (fun c130 => ?_)
      · replace h := of_t c130 h
        refine u_iconst (pc := 146) hC ic_0 dX12_mayTell_146 ?_
        obtain rfl := Option.some.inj h
        exact u_zret (pc := 147) hC hQ hr (by decide) ⟨rfl, rfl⟩ dX12_mayTell_147
      · replace h := of_f c130 h
        refine u_iload (pc := 133) hC dX12_mayTell_133 5 rfl ?_
        refine u_iload (pc := 135) hC dX12_mayTell_135 0 rfl ?_
        refine u_iconst (pc := 137) hC ic_3 dX12_mayTell_137 ?_
        refine u_irem (pc := 138) hC (by decide) dX12_mayTell_138 ?_
        refine u_icmp_gt (pc := 139) hC (tgt := 146) dX12_mayTell_139 (by decide) (fun c139 => ?_) (fun c139 => ?_)
        · replace h := of_t c139 h
          refine u_iconst (pc := 146) hC ic_0 dX12_mayTell_146 ?_
          obtain rfl := Option.some.inj h
          exact u_zret (pc := 147) hC hQ hr (by decide) ⟨rfl, rfl⟩ dX12_mayTell_147
        · replace h := of_f c139 h
          refine u_iconst (pc := 142) hC ic_1 dX12_mayTell_142 ?_
          refine u_goto (pc := 143) hC 147 dX12_mayTell_143 (by decide) ?_
          obtain rfl := Option.some.inj h
          exact u_zret (pc := 147) hC hQ hr (by decide) ⟨rfl, rfl⟩ dX12_mayTell_147
    replace h := of_f c64_1 h
    by_cases c64_2 : r61 = 3
    · replace h := of_t c64_2 h
      refine u_tabEq (pc := 64) hC dX12_mayTell_64 (3 : Int32) c64_2 (off := 110) 174 (by decide) (by decide) ?_
      refine u_iload (pc := 174) hC dX12_mayTell_174 5 rfl ?_
      refine u_if_ne (pc := 176) hC (tgt := 183) dX12_mayTell_176 (by decide) (fun c176 => ?_) (fun c176 => ?_)
      · replace h := of_t c176 h
        refine u_iconst (pc := 183) hC ic_0 dX12_mayTell_183 ?_
        obtain rfl := Option.some.inj h
        exact u_zret (pc := 184) hC hQ hr (by decide) ⟨rfl, rfl⟩ dX12_mayTell_184
      · replace h := of_f (fun q => q c176) h
        refine u_iconst (pc := 179) hC ic_1 dX12_mayTell_179 ?_
        refine u_goto (pc := 180) hC 184 dX12_mayTell_180 (by decide) ?_
        obtain rfl := Option.some.inj h
        exact u_zret (pc := 184) hC hQ hr (by decide) ⟨rfl, rfl⟩ dX12_mayTell_184
    replace h := of_f c64_2 h
    by_cases c64_3 : r61 = 4
    · replace h := of_t c64_3 h
      refine u_tabEq (pc := 64) hC dX12_mayTell_64 (4 : Int32) c64_3 (off := 40) 104 (by decide) (by decide) ?_
      refine u_iload (pc := 104) hC dX12_mayTell_104 1 rfl ?_
      refine u_if_eq (pc := 106) hC (tgt := 126) dX12_mayTell_106 (by decide) (fun c106 => ?_) (fun c106 => ?_)
      · replace h := of_t c106 h
        refine u_iconst (pc := 126) hC ic_0 dX12_mayTell_126 ?_
        obtain rfl := Option.some.inj h
        exact u_zret (pc := 127) hC hQ hr (by decide) ⟨rfl, rfl⟩ dX12_mayTell_127
      · replace h := of_f c106 h
        refine u_iload (pc := 109) hC dX12_mayTell_109 5 rfl ?_
        refine u_if_eq (pc := 111) hC (tgt := 122) dX12_mayTell_111 (by decide) (fun c111 => ?_) (fun c111 => ?_)
        · replace h := of_t c111 h
          refine u_iconst (pc := 122) hC ic_1 dX12_mayTell_122 ?_
          refine u_goto (pc := 123) hC 127 dX12_mayTell_123 (by decide) ?_
          obtain rfl := Option.some.inj h
          exact u_zret (pc := 127) hC hQ hr (by decide) ⟨rfl, rfl⟩ dX12_mayTell_127
        · replace h := of_f c111 h
          refine u_aload_n (pc := 114) hC dX12_mayTell_114 rfl 2 rfl ?_
          refine u_iload_n (pc := 115) hC dX12_mayTell_115 rfl 4 rfl ?_
          obtain ⟨r116, q116, h⟩ := of_bd h
          refine k_RX12_158 (pc := 116) hC (av := [.int a2]) (rest := []) (c_X12_booksWith (d := d - 1) (by omega) hk0 q116) (by omega) (Nat.le_of_ble_eq_true rfl) hk0 rfl rfl dX12_mayTell_116 ?_
          refine u_if_le (pc := 119) hC (tgt := 126) dX12_mayTell_119 (by decide) (fun c119 => ?_) (fun c119 => ?_)
          · replace h := of_t c119 h
            refine u_iconst (pc := 126) hC ic_0 dX12_mayTell_126 ?_
            obtain rfl := Option.some.inj h
            exact u_zret (pc := 127) hC hQ hr (by decide) ⟨rfl, rfl⟩ dX12_mayTell_127
          · replace h := of_f c119 h
            refine u_iconst (pc := 122) hC ic_1 dX12_mayTell_122 ?_
            refine u_goto (pc := 123) hC 127 dX12_mayTell_123 (by decide) ?_
            obtain rfl := Option.some.inj h
            exact u_zret (pc := 127) hC hQ hr (by decide) ⟨rfl, rfl⟩ dX12_mayTell_127
    replace h := of_f c64_3 h
    by_cases c64_4 : r61 = 5
    · replace h := of_t c64_4 h
      refine u_tabEq (pc := 64) hC dX12_mayTell_64 (5 : Int32) c64_4 (off := 84) 148 (by decide) (by decide) ?_
      refine u_iload (pc := 148) hC dX12_mayTell_148 1 rfl ?_
      refine u_if_eq (pc := 150) hC (tgt := 172) dX12_mayTell_150 (by decide) (fun c150 => ?_) (fun c150 => ?_)
      · replace h := of_t c150 h
        refine u_iconst (pc := 172) hC ic_0 dX12_mayTell_172 ?_
        obtain rfl := Option.some.inj h
        exact u_zret (pc := 173) hC hQ hr (by decide) ⟨rfl, rfl⟩ dX12_mayTell_173
      · replace h := of_f c150 h
        refine u_iload (pc := 153) hC dX12_mayTell_153 5 rfl ?_
        refine u_iload (pc := 155) hC dX12_mayTell_155 0 rfl ?_
        refine u_iconst (pc := 157) hC ic_3 dX12_mayTell_157 ?_
        refine u_irem (pc := 158) hC (by decide) dX12_mayTell_158 ?_
        refine u_icmp_gt (pc := 159) hC (tgt := 172) dX12_mayTell_159 (by decide) (fun c159 => ?_) (fun c159 => ?_)
        · replace h := of_t c159 h
          refine u_iconst (pc := 172) hC ic_0 dX12_mayTell_172 ?_
          obtain rfl := Option.some.inj h
          exact u_zret (pc := 173) hC hQ hr (by decide) ⟨rfl, rfl⟩ dX12_mayTell_173
        · replace h := of_f c159 h
          refine u_iload_n (pc := 162) hC dX12_mayTell_162 rfl 4 rfl ?_
          refine u_iload (pc := 163) hC dX12_mayTell_163 0 rfl ?_
          refine u_icmp_eq (pc := 165) hC (tgt := 172) dX12_mayTell_165 (by decide) (fun c165 => ?_) (fun c165 => ?_)
          · replace h := of_t c165 h
            refine u_iconst (pc := 172) hC ic_0 dX12_mayTell_172 ?_
            obtain rfl := Option.some.inj h
            exact u_zret (pc := 173) hC hQ hr (by decide) ⟨rfl, rfl⟩ dX12_mayTell_173
          · replace h := of_f c165 h
            refine u_iconst (pc := 168) hC ic_1 dX12_mayTell_168 ?_
            refine u_goto (pc := 169) hC 173 dX12_mayTell_169 (by decide) ?_
            obtain rfl := Option.some.inj h
            exact u_zret (pc := 173) hC hQ hr (by decide) ⟨rfl, rfl⟩ dX12_mayTell_173
    replace h := of_f c64_4 h
    by_cases c64_5 : r61 = 6
    · replace h := of_t c64_5 h
      refine u_tabEq (pc := 64) hC dX12_mayTell_64 (6 : Int32) c64_5 (off := 121) 185 (by decide) (by decide) ?_
      refine u_iload (pc := 185) hC dX12_mayTell_185 5 rfl ?_
      refine u_if_ne (pc := 187) hC (tgt := 207) dX12_mayTell_187 (by decide) (fun c187 => ?_) (fun c187 => ?_)
      · replace h := of_t c187 h
        refine u_iconst (pc := 207) hC ic_0 dX12_mayTell_207 ?_
        obtain rfl := Option.some.inj h
        exact u_zret (pc := 208) hC hQ hr (by decide) ⟨rfl, rfl⟩ dX12_mayTell_208
      · replace h := of_f (fun q => q c187) h
        refine u_iload (pc := 190) hC dX12_mayTell_190 1 rfl ?_
        refine u_if_ne (pc := 192) hC (tgt := 203) dX12_mayTell_192 (by decide) (fun c192 => ?_) (fun c192 => ?_)
        · replace h := of_t c192 h
          refine u_iconst (pc := 203) hC ic_1 dX12_mayTell_203 ?_
          refine u_goto (pc := 204) hC 208 dX12_mayTell_204 (by decide) ?_
          obtain rfl := Option.some.inj h
          exact u_zret (pc := 208) hC hQ hr (by decide) ⟨rfl, rfl⟩ dX12_mayTell_208
        · replace h := of_f (fun q => q c192) h
          refine u_iload (pc := 195) hC dX12_mayTell_195 0 rfl ?_
          refine u_iconst (pc := 197) hC ic_2 dX12_mayTell_197 ?_
          refine u_irem (pc := 198) hC (by decide) dX12_mayTell_198 ?_
          refine u_iconst (pc := 199) hC ic_1 dX12_mayTell_199 ?_
          refine u_icmp_ne (pc := 200) hC (tgt := 207) dX12_mayTell_200 (by decide) (fun c200 => ?_) (fun c200 => ?_)
          · replace h := of_t c200 h
            refine u_iconst (pc := 207) hC ic_0 dX12_mayTell_207 ?_
            obtain rfl := Option.some.inj h
            exact u_zret (pc := 208) hC hQ hr (by decide) ⟨rfl, rfl⟩ dX12_mayTell_208
          · replace h := of_f (fun q => q c200) h
            refine u_iconst (pc := 203) hC ic_1 dX12_mayTell_203 ?_
            refine u_goto (pc := 204) hC 208 dX12_mayTell_204 (by decide) ?_
            obtain rfl := Option.some.inj h
            exact u_zret (pc := 208) hC hQ hr (by decide) ⟨rfl, rfl⟩ dX12_mayTell_208
    replace h := of_f c64_5 h
    refine u_tabDf (pc := 64) hC dX12_mayTell_64 [(1 : Int32), (2 : Int32), (3 : Int32), (4 : Int32), (5 : Int32), (6 : Int32)] (List.forall_mem_cons.mpr ⟨c64_0, List.forall_mem_cons.mpr ⟨c64_1, List.forall_mem_cons.mpr ⟨c64_2, List.forall_mem_cons.mpr ⟨c64_3, List.forall_mem_cons.mpr ⟨c64_4, List.forall_mem_cons.mpr ⟨c64_5, (fun _ q => absurd q List.not_mem_nil)⟩⟩⟩⟩⟩⟩) (by decide) 209 (by decide) ?_
    refine u_iload (pc := 209) hC dX12_mayTell_209 1 rfl ?_
    refine u_if_eq (pc := 211) hC (tgt := 223) dX12_mayTell_211 (by decide) (fun c211 => ?_) (fun c211 => ?_)
    · replace h := of_t c211 h
      refine u_iconst (pc := 223) hC ic_0 dX12_mayTell_223 ?_
      obtain rfl := Option.some.inj h
      exact u_zret (pc := 224) hC hQ hr (by decide) ⟨rfl, rfl⟩ dX12_mayTell_224
    · replace h := of_f c211 h
      refine u_iload (pc := 214) hC dX12_mayTell_214 5 rfl ?_
      refine u_if_ne (pc := 216) hC (tgt := 223) dX12_mayTell_216 (by decide) (fun c216 => ?_) (fun c216 => ?_)
      · replace h := of_t c216 h
        refine u_iconst (pc := 223) hC ic_0 dX12_mayTell_223 ?_
        obtain rfl := Option.some.inj h
        exact u_zret (pc := 224) hC hQ hr (by decide) ⟨rfl, rfl⟩ dX12_mayTell_224
      · replace h := of_f (fun q => q c216) h
        refine u_iconst (pc := 219) hC ic_1 dX12_mayTell_219 ?_
        refine u_goto (pc := 220) hC 224 dX12_mayTell_220 (by decide) ?_
        obtain rfl := Option.some.inj h
        exact u_zret (pc := 224) hC hQ hr (by decide) ⟨rfl, rfl⟩ dX12_mayTell_224
  unfold f_X12_mayTell at h
  refine u_aload_n (pc := 0) hC dX12_mayTell_0 rfl 0 rfl ?_
  refine u_iload_n (pc := 1) hC dX12_mayTell_1 rfl 1 rfl ?_
  obtain ⟨r2, q2, h⟩ := of_bd h
  refine k_RX12_153 (pc := 2) hC (av := [.int a1]) (rest := []) (c_X12_bookOf (d := d - 1) (by omega) hk0 q2) (by omega) (Nat.le_of_ble_eq_true rfl) hk0 rfl rfl dX12_mayTell_2 ?_
  refine u_istore_n (pc := 5) hC dX12_mayTell_5 rfl [(3, .int r2), (0, .ref (gad (cG C) k0)), (1, .int a1), (2, .int a2)] (by decide) rfl ?_
  refine u_iload_n (pc := 6) hC dX12_mayTell_6 rfl 0 rfl ?_
  refine u_iload_n (pc := 7) hC dX12_mayTell_7 rfl 3 rfl ?_
  refine u_ishr (pc := 8) hC dX12_mayTell_8 ?_
  refine u_iconst (pc := 9) hC ic_1 dX12_mayTell_9 ?_
  refine u_iand (pc := 10) hC dX12_mayTell_10 ?_
  refine u_iconst (pc := 11) hC ic_1 dX12_mayTell_11 ?_
  refine u_icmp_ne (pc := 12) hC (tgt := 17) dX12_mayTell_12 (by decide) (fun c12 => ?_) (fun c12 => ?_)
  · replace h := of_t c12 h
    refine u_aload_n (pc := 17) hC dX12_mayTell_17 rfl 1 rfl ?_
    refine u_iload_n (pc := 18) hC dX12_mayTell_18 rfl 3 rfl ?_
    refine u_iconst (pc := 19) hC ic_0 dX12_mayTell_19 ?_
    obtain ⟨r20, q20, h⟩ := of_bd h
    refine k_RX12_144 (pc := 20) hC (av := [.int a2, .int (0 : Int32)]) (rest := []) (c_X12_its (d := d - 1) (by omega) hk0 q20) (by omega) (Nat.le_of_ble_eq_true rfl) hk0 rfl rfl dX12_mayTell_20 ?_
    refine u_iload_n (pc := 23) hC dX12_mayTell_23 rfl 0 rfl ?_
    refine u_iconst (pc := 24) hC ic_m1 dX12_mayTell_24 ?_
    refine u_ixor (pc := 25) hC dX12_mayTell_25 ?_
    refine u_iand (pc := 26) hC dX12_mayTell_26 ?_
    obtain ⟨r27, q27, h⟩ := of_bd h
    refine k_RX12_161 (pc := 27) hC (av := [.int (r20 &&& (r2 ^^^ (-1 : Int32)))]) (rest := []) (c_X12_ones (d := d - 1) (by omega)  q27) (by omega) (Nat.le_of_ble_eq_true rfl) rfl rfl dX12_mayTell_27 ?_
    refine u_istore (pc := 30) hC dX12_mayTell_30 [(4, .int r27), (3, .int r2), (0, .ref (gad (cG C) k0)), (1, .int a1), (2, .int a2)] (by decide) rfl ?_
    refine u_aload_n (pc := 32) hC dX12_mayTell_32 rfl 2 rfl ?_
    refine u_iload_n (pc := 33) hC dX12_mayTell_33 rfl 4 rfl ?_
    refine u_iconst (pc := 34) hC ic_1 dX12_mayTell_34 ?_
    obtain ⟨r35, q35, h⟩ := of_bd h
    refine k_RX12_144 (pc := 35) hC (av := [.int a2, .int (1 : Int32)]) (rest := []) (c_X12_its (d := d - 1) (by omega) hk0 q35) (by omega) (Nat.le_of_ble_eq_true rfl) hk0 rfl rfl dX12_mayTell_35 ?_
    refine u_iload_n (pc := 38) hC dX12_mayTell_38 rfl 1 rfl ?_
    refine u_iand (pc := 39) hC dX12_mayTell_39 ?_
    refine u_if_ne (pc := 40) hC (tgt := 47) dX12_mayTell_40 (by decide) (fun c40 => ?_) (fun c40 => ?_)
    · replace h := of_t c40 h
      refine u_iconst (pc := 47) hC ic_0 dX12_mayTell_47 ?_
      refine u_sub [2, 3, 4, 0] rfl ?_
      exact jb48 r27 (0 : Int32) h
    · replace h := of_f (fun q => q c40) h
      refine u_iconst (pc := 43) hC ic_1 dX12_mayTell_43 ?_
      refine u_goto (pc := 44) hC 48 dX12_mayTell_44 (by decide) ?_
      refine u_sub [2, 3, 4, 0] rfl ?_
      exact jb48 r27 (1 : Int32) h
  · replace h := of_f (fun q => q c12) h
    refine u_iconst (pc := 15) hC ic_0 dX12_mayTell_15 ?_
    obtain rfl := Option.some.inj h
    exact u_zret (pc := 16) hC hQ hr (by decide) ⟨rfl, rfl⟩ dX12_mayTell_16
set_option maxHeartbeats 4000000 in
set_option maxRecDepth 100000 in
theorem c_X12_allMay {l : Launch} {G : GG} {d : Nat} (hd : 4 ≤ d) {μ : Mem} {k0 : Nat} (hk0 : isC 12 k0) {a1 : Int32} {r : Int32} (h : f_X12_allMay μ k0 a1 = some r) : CT l yX12_allMay cX12_allMay 4 (some .int) d G [.ref (gad G k0), .int a1] μ (RK (some (.int r)) μ) := by
  refine ct_start (by decide) (Nat.le_of_ble_eq_true rfl) (fun C hl1 hG1 hC hQ hr => ?_)
  subst hl1; subst hG1
  have hC : CxOK C cX12_allMay 4 RX12 d := hC
  show UW C 4 μ 0 [(0, .ref (gad (cG C) k0)), (1, .int a1)] []
  have lw4 : ∀ (e : (Int32)) (s : Int32 × Int32), lp (fun s => f_X12_allMay_l4 μ k0 a1 s.1 s.2) FU s = some e → (fun (e : (Int32)) => UW C 4 μ 39 [(2, .int e)] []) e → UW C 4 μ 4 [(0, .ref (gad (cG C) k0)), (1, .int a1), (2, .int s.1), (3, .int s.2)] [] := by
    intro e s hl hE0
    refine @lp_walk (Int32 × Int32) (Int32) (fun s => f_X12_allMay_l4 μ k0 a1 s.1 s.2) (fun s => UW C 4 μ 4 [(0, .ref (gad (cG C) k0)), (1, .int a1), (2, .int s.1), (3, .int s.2)] []) (fun (e : (Int32)) => UW C 4 μ 39 [(2, .int e)] []) (fun s y4 h hP4 hE4 => ?_) FU s e hl hE0
    obtain ⟨v2_4, v3_4⟩ := s
    replace h : f_X12_allMay_l4 μ k0 a1 v2_4 v3_4 = some y4 := h
    show UW C 4 μ 4 [(0, .ref (gad (cG C) k0)), (1, .int a1), (2, .int v2_4), (3, .int v3_4)] []
    unfold f_X12_allMay_l4 at h
    refine u_iload_n (pc := 4) hC dX12_allMay_4 rfl 3 rfl ?_
    refine u_aload_n (pc := 5) hC dX12_allMay_5 rfl 0 rfl ?_
    refine g_RX12_7 (pc := 6) hC hk0 dX12_allMay_6 ?_
    refine u_iconst (pc := 9) hC ic_0 dX12_allMay_9 ?_
    refine u_iald (pc := 10) hC (rs_12_0 hk0) 342 (rn_12_0 hk0) (by decide) dX12_allMay_10 ?_
    refine u_icmp_ge (pc := 11) hC (tgt := 39) dX12_allMay_11 (by decide) (fun c11 => ?_) (fun c11 => ?_)
    · replace h := of_t c11 h
      obtain rfl := Option.some.inj h
      refine u_sub [2] rfl ?_
      exact hE4 v2_4 rfl
    · replace h := of_f c11 h
      refine u_iload_n (pc := 14) hC dX12_allMay_14 rfl 2 rfl ?_
      refine u_aload_n (pc := 15) hC dX12_allMay_15 rfl 0 rfl ?_
      refine u_iload_n (pc := 16) hC dX12_allMay_16 rfl 1 rfl ?_
      refine u_iload_n (pc := 17) hC dX12_allMay_17 rfl 3 rfl ?_
      obtain ⟨r18, q18, h⟩ := of_bd h
      refine k_RX12_164 (pc := 18) hC (av := [.int a1, .int v3_4]) (rest := [.int v2_4]) (c_X12_mayTell (d := d - 1) (by omega) hk0 q18) (by omega) (Nat.le_of_ble_eq_true rfl) hk0 rfl rfl dX12_allMay_18 ?_
      refine u_if_eq (pc := 21) hC (tgt := 30) dX12_allMay_21 (by decide) (fun c21 => ?_) (fun c21 => ?_)
      · replace h := of_t c21 h
        refine u_iconst (pc := 30) hC ic_0 dX12_allMay_30 ?_
        refine u_ior (pc := 31) hC dX12_allMay_31 ?_
        refine u_istore_n (pc := 32) hC dX12_allMay_32 rfl [(2, .int (v2_4 ||| (0 : Int32))), (0, .ref (gad (cG C) k0)), (1, .int a1), (3, .int v3_4)] (by decide) rfl ?_
        refine u_iinc (pc := 33) hC dX12_allMay_33 3 rfl (v3_4 + 1) rfl [(3, .int (v3_4 + 1)), (2, .int (v2_4 ||| (0 : Int32))), (0, .ref (gad (cG C) k0)), (1, .int a1)] (by decide) rfl ?_
        refine u_goto (pc := 36) hC 4 dX12_allMay_36 (by decide) ?_
        obtain rfl := Option.some.inj h
        refine u_sub [2, 3, 1, 0] rfl ?_
        exact hP4 (v2_4 ||| (0 : Int32), v3_4 + 1) rfl
      · replace h := of_f c21 h
        refine u_iconst (pc := 24) hC ic_1 dX12_allMay_24 ?_
        refine u_iload_n (pc := 25) hC dX12_allMay_25 rfl 3 rfl ?_
        refine u_ishl (pc := 26) hC dX12_allMay_26 ?_
        refine u_goto (pc := 27) hC 31 dX12_allMay_27 (by decide) ?_
        refine u_ior (pc := 31) hC dX12_allMay_31 ?_
        refine u_istore_n (pc := 32) hC dX12_allMay_32 rfl [(2, .int (v2_4 ||| (jshl (1 : Int32) v3_4))), (0, .ref (gad (cG C) k0)), (1, .int a1), (3, .int v3_4)] (by decide) rfl ?_
        refine u_iinc (pc := 33) hC dX12_allMay_33 3 rfl (v3_4 + 1) rfl [(3, .int (v3_4 + 1)), (2, .int (v2_4 ||| (jshl (1 : Int32) v3_4))), (0, .ref (gad (cG C) k0)), (1, .int a1)] (by decide) rfl ?_
        refine u_goto (pc := 36) hC 4 dX12_allMay_36 (by decide) ?_
        obtain rfl := Option.some.inj h
        refine u_sub [2, 3, 1, 0] rfl ?_
        exact hP4 (v2_4 ||| (jshl (1 : Int32) v3_4), v3_4 + 1) rfl
  unfold f_X12_allMay at h
  refine u_iconst (pc := 0) hC ic_0 dX12_allMay_0 ?_
  refine u_istore_n (pc := 1) hC dX12_allMay_1 rfl [(2, .int (0 : Int32)), (0, .ref (gad (cG C) k0)), (1, .int a1)] (by decide) rfl ?_
  refine u_iconst (pc := 2) hC ic_0 dX12_allMay_2 ?_
  refine u_istore_n (pc := 3) hC dX12_allMay_3 rfl [(3, .int (0 : Int32)), (2, .int (0 : Int32)), (0, .ref (gad (cG C) k0)), (1, .int a1)] (by decide) rfl ?_
  obtain ⟨e4, l4, h⟩ := of_bd h
  refine u_sub [2, 3, 1, 0] rfl ?_
  refine lw4  e4 ((0 : Int32), (0 : Int32)) l4 ?_
  show UW C 4 μ 39 [(2, .int e4)] []
  refine u_iload_n (pc := 39) hC dX12_allMay_39 rfl 0 rfl ?_
  obtain rfl := Option.some.inj h
  exact u_iret (pc := 40) hC hQ hr ⟨rfl, rfl⟩ dX12_allMay_40
set_option maxHeartbeats 4000000 in
set_option maxRecDepth 100000 in
theorem c_X12_dueOf {l : Launch} {G : GG} {d : Nat} (hd : 1 ≤ d) {μ : Mem} {k0 : Nat} (hk0 : isC 12 k0) {a1 : Int32} {r : Int32} (h : f_X12_dueOf μ k0 a1 = some r) : CT l yX12_dueOf cX12_dueOf 4 (some .int) d G [.ref (gad G k0), .int a1] μ (RK (some (.int r)) μ) := by
  refine ct_start (by decide) (Nat.le_of_ble_eq_true rfl) (fun C hl1 hG1 hC hQ hr => ?_)
  subst hl1; subst hG1
  have hC : CxOK C cX12_dueOf 4 RX12 d := hC
  show UW C 4 μ 0 [(0, .ref (gad (cG C) k0)), (1, .int a1)] []
  unfold f_X12_dueOf at h
  refine u_iload_n (pc := 0) hC dX12_dueOf_0 rfl 1 rfl ?_
  refine u_aload_n (pc := 1) hC dX12_dueOf_1 rfl 0 rfl ?_
  refine g_RX12_25 (pc := 2) hC hk0 dX12_dueOf_2 ?_
  refine u_icmp_ne (pc := 5) hC (tgt := 13) dX12_dueOf_5 (by decide) (fun c5 => ?_) (fun c5 => ?_)
  · replace h := of_t c5 h
    refine u_aload_n (pc := 13) hC dX12_dueOf_13 rfl 0 rfl ?_
    refine u_iload_n (pc := 14) hC dX12_dueOf_14 rfl 1 rfl ?_
    refine u_iconst (pc := 15) hC ic_1 dX12_dueOf_15 ?_
    obtain ⟨r16, q16, h⟩ := of_bd h
    refine k_RX12_150 (pc := 16) hC (av := [.int a1, .int (1 : Int32)]) (rest := []) (c_X12_of (d := d - 1) (by omega) hk0 q16) (by omega) (Nat.le_of_ble_eq_true rfl) hk0 rfl rfl dX12_dueOf_16 ?_
    refine u_iconst (pc := 19) hC ic_2 dX12_dueOf_19 ?_
    refine u_irem (pc := 20) hC (by decide) dX12_dueOf_20 ?_
    refine u_istore_n (pc := 21) hC dX12_dueOf_21 rfl [(2, .int (jrem r16 (2 : Int32))), (0, .ref (gad (cG C) k0)), (1, .int a1)] (by decide) rfl ?_
    refine u_aload_n (pc := 22) hC dX12_dueOf_22 rfl 1 rfl ?_
    refine u_iload_n (pc := 23) hC dX12_dueOf_23 rfl 2 rfl ?_
    refine u_iconst (pc := 24) hC ic_0 dX12_dueOf_24 ?_
    obtain ⟨r25, q25, h⟩ := of_bd h
    refine k_RX12_150 (pc := 25) hC (av := [.int a1, .int (0 : Int32)]) (rest := []) (c_X12_of (d := d - 1) (by omega) hk0 q25) (by omega) (Nat.le_of_ble_eq_true rfl) hk0 rfl rfl dX12_dueOf_25 ?_
    refine u_istore_n (pc := 28) hC dX12_dueOf_28 rfl [(3, .int r25), (2, .int (jrem r16 (2 : Int32))), (0, .ref (gad (cG C) k0)), (1, .int a1)] (by decide) rfl ?_
    refine u_iload_n (pc := 29) hC dX12_dueOf_29 rfl 0 rfl ?_
    refine u_iconst (pc := 30) hC ic_3 dX12_dueOf_30 ?_
    refine u_icmp_ne (pc := 31) hC (tgt := 38) dX12_dueOf_31 (by decide) (fun c31 => ?_) (fun c31 => ?_)
    · replace h := of_t c31 h
      refine u_iload_n (pc := 38) hC dX12_dueOf_38 rfl 0 rfl ?_
      refine u_bipush (pc := 39) hC bc_6 dX12_dueOf_39 ?_
      refine u_icmp_ne (pc := 41) hC (tgt := 50) dX12_dueOf_41 (by decide) (fun c41 => ?_) (fun c41 => ?_)
      · replace h := of_t c41 h
        refine u_iload_n (pc := 50) hC dX12_dueOf_50 rfl 0 rfl ?_
        refine u_iconst (pc := 51) hC ic_4 dX12_dueOf_51 ?_
        refine u_icmp_ne (pc := 52) hC (tgt := 61) dX12_dueOf_52 (by decide) (fun c52 => ?_) (fun c52 => ?_)
        · replace h := of_t c52 h
          refine u_iconst (pc := 61) hC ic_1 dX12_dueOf_61 ?_
          obtain rfl := Option.some.inj h
          exact u_iret (pc := 62) hC hQ hr ⟨rfl, rfl⟩ dX12_dueOf_62
        · replace h := of_f (fun q => q c52) h
          refine u_iconst (pc := 55) hC ic_1 dX12_dueOf_55 ?_
          refine u_iload_n (pc := 56) hC dX12_dueOf_56 rfl 1 rfl ?_
          refine u_iadd (pc := 57) hC dX12_dueOf_57 ?_
          refine u_goto (pc := 58) hC 62 dX12_dueOf_58 (by decide) ?_
          obtain rfl := Option.some.inj h
          exact u_iret (pc := 62) hC hQ hr ⟨rfl, rfl⟩ dX12_dueOf_62
      · replace h := of_f (fun q => q c41) h
        refine u_iconst (pc := 44) hC ic_2 dX12_dueOf_44 ?_
        refine u_iload_n (pc := 45) hC dX12_dueOf_45 rfl 1 rfl ?_
        refine u_isub (pc := 46) hC dX12_dueOf_46 ?_
        refine u_goto (pc := 47) hC 62 dX12_dueOf_47 (by decide) ?_
        obtain rfl := Option.some.inj h
        exact u_iret (pc := 62) hC hQ hr ⟨rfl, rfl⟩ dX12_dueOf_62
    · replace h := of_f (fun q => q c31) h
      refine u_iconst (pc := 34) hC ic_2 dX12_dueOf_34 ?_
      refine u_goto (pc := 35) hC 62 dX12_dueOf_35 (by decide) ?_
      obtain rfl := Option.some.inj h
      exact u_iret (pc := 62) hC hQ hr ⟨rfl, rfl⟩ dX12_dueOf_62
  · replace h := of_f (fun q => q c5) h
    refine u_aload_n (pc := 8) hC dX12_dueOf_8 rfl 0 rfl ?_
    refine g_RX12_168 (pc := 9) hC hk0 dX12_dueOf_9 ?_
    obtain rfl := Option.some.inj h
    exact u_iret (pc := 12) hC hQ hr ⟨rfl, rfl⟩ dX12_dueOf_12
set_option maxHeartbeats 4000000 in
set_option maxRecDepth 100000 in
theorem c_X12_paysOf {l : Launch} {G : GG} {d : Nat} (hd : 105 ≤ d) {μ : Mem} {k0 : Nat} (hk0 : isC 12 k0) {a1 : Int32} {a2 : Int32} {r : Int32 × Mem} (h : f_X12_paysOf μ k0 a1 a2 = some r) : CT l yX12_paysOf cX12_paysOf 5 (some .int) d G [.ref (gad G k0), .int a1, .int a2] μ (RK (some (.int r.1)) r.2) := by
  refine ct_start (by decide) (Nat.le_of_ble_eq_true rfl) (fun C hl1 hG1 hC hQ hr => ?_)
  subst hl1; subst hG1
  have hC : CxOK C cX12_paysOf 5 RX12 d := hC
  show UW C 5 μ 0 [(0, .ref (gad (cG C) k0)), (1, .int a1), (2, .int a2)] []
  have jb51 : ∀ (μ_51 : Mem) (v3_51 : Int32), f_X12_paysOf_j51 μ_51 k0 a1 a2 v3_51 = some r → UW C 5 μ_51 51 [(3, .int v3_51)] [] := by
    intro μ_51 v3_51 h
    unfold f_X12_paysOf_j51 at h
    refine u_iload_n (pc := 51) hC dX12_paysOf_51 rfl 0 rfl ?_
    refine u_iconst (pc := 52) hC ic_2 dX12_paysOf_52 ?_
    refine u_idiv (pc := 53) hC (by decide) dX12_paysOf_53 ?_
    refine u_goto (pc := 54) hC 58 dX12_paysOf_54 (by decide) ?_
    obtain rfl := Option.some.inj h
    exact u_iret (pc := 58) hC hQ hr ⟨rfl, rfl⟩ dX12_paysOf_58
  unfold f_X12_paysOf at h
  refine u_aload_n (pc := 0) hC dX12_paysOf_0 rfl 0 rfl ?_
  refine u_iconst (pc := 1) hC ic_0 dX12_paysOf_1 ?_
  refine u_iload_n (pc := 2) hC dX12_paysOf_2 rfl 2 rfl ?_
  refine u_aload_n (pc := 3) hC dX12_paysOf_3 rfl 0 rfl ?_
  refine g_RX12_7 (pc := 4) hC hk0 dX12_paysOf_4 ?_
  refine u_iconst (pc := 7) hC ic_3 dX12_paysOf_7 ?_
  refine u_iald (pc := 8) hC (rs_12_0 hk0) 342 (rn_12_0 hk0) (by decide) dX12_paysOf_8 ?_
  refine u_aload_n (pc := 9) hC dX12_paysOf_9 rfl 0 rfl ?_
  refine u_iload_n (pc := 10) hC dX12_paysOf_10 rfl 1 rfl ?_
  refine u_iconst (pc := 11) hC ic_2 dX12_paysOf_11 ?_
  obtain ⟨r12, q12, h⟩ := of_bd h
  refine k_RX12_150 (pc := 12) hC (av := [.int a1, .int (2 : Int32)]) (rest := [.int (rd μ (rf k0 0) (3 : Int32).toNatClampNeg), .int a2, .int (0 : Int32), .ref (gad (cG C) k0)]) (c_X12_of (d := d - 1) (by omega) hk0 q12) (by omega) (Nat.le_of_ble_eq_true rfl) hk0 rfl rfl dX12_paysOf_12 ?_
  obtain ⟨p15, q15, h⟩ := of_bd h
  refine k_RX12_131 (pc := 15) hC (av := [.int (0 : Int32), .int a2, .int (rd μ (rf k0 0) (3 : Int32).toNatClampNeg), .int r12]) (rest := []) (c_X12_textGives (d := d - 1) (by omega) hk0 q15) (by omega) (Nat.le_of_ble_eq_true rfl) hk0 rfl rfl dX12_paysOf_15 ?_
  refine u_istore_n (pc := 18) hC dX12_paysOf_18 rfl [(3, .int p15.1), (0, .ref (gad (cG C) k0)), (1, .int a1), (2, .int a2)] (by decide) rfl ?_
  refine u_aload_n (pc := 19) hC dX12_paysOf_19 rfl 1 rfl ?_
  refine u_iload_n (pc := 20) hC dX12_paysOf_20 rfl 2 rfl ?_
  refine u_iconst (pc := 21) hC ic_0 dX12_paysOf_21 ?_
  obtain ⟨r22, q22, h⟩ := of_bd h
  refine k_RX12_150 (pc := 22) hC (av := [.int a1, .int (0 : Int32)]) (rest := []) (c_X12_of (d := d - 1) (by omega) hk0 q22) (by omega) (Nat.le_of_ble_eq_true rfl) hk0 rfl rfl dX12_paysOf_22 ?_
  refine u_istore (pc := 25) hC dX12_paysOf_25 [(4, .int r22), (3, .int p15.1), (0, .ref (gad (cG C) k0)), (1, .int a1), (2, .int a2)] (by decide) rfl ?_
  refine u_iload (pc := 27) hC dX12_paysOf_27 0 rfl ?_
  refine u_iconst (pc := 29) hC ic_5 dX12_paysOf_29 ?_
  refine u_icmp_ne (pc := 30) hC (tgt := 39) dX12_paysOf_30 (by decide) (fun c30 => ?_) (fun c30 => ?_)
  · replace h := of_t c30 h
    refine u_iload (pc := 39) hC dX12_paysOf_39 0 rfl ?_
    refine u_iconst (pc := 41) hC ic_1 dX12_paysOf_41 ?_
    refine u_icmp_eq (pc := 42) hC (tgt := 51) dX12_paysOf_42 (by decide) (fun c42 => ?_) (fun c42 => ?_)
    · replace h := of_t c42 h
      refine u_sub [1] rfl ?_
      exact jb51 p15.2 p15.1 h
    · replace h := of_f c42 h
      refine u_iload (pc := 45) hC dX12_paysOf_45 0 rfl ?_
      refine u_iconst (pc := 47) hC ic_4 dX12_paysOf_47 ?_
      refine u_icmp_ne (pc := 48) hC (tgt := 57) dX12_paysOf_48 (by decide) (fun c48 => ?_) (fun c48 => ?_)
      · replace h := of_t c48 h
        refine u_iload_n (pc := 57) hC dX12_paysOf_57 rfl 1 rfl ?_
        obtain rfl := Option.some.inj h
        exact u_iret (pc := 58) hC hQ hr ⟨rfl, rfl⟩ dX12_paysOf_58
      · replace h := of_f (fun q => q c48) h
        refine u_sub [1] rfl ?_
        exact jb51 p15.2 p15.1 h
  · replace h := of_f (fun q => q c30) h
    refine u_iconst (pc := 33) hC ic_2 dX12_paysOf_33 ?_
    refine u_iload_n (pc := 34) hC dX12_paysOf_34 rfl 1 rfl ?_
    refine u_imul (pc := 35) hC dX12_paysOf_35 ?_
    refine u_goto (pc := 36) hC 58 dX12_paysOf_36 (by decide) ?_
    obtain rfl := Option.some.inj h
    exact u_iret (pc := 58) hC hQ hr ⟨rfl, rfl⟩ dX12_paysOf_58
set_option maxHeartbeats 4000000 in
set_option maxRecDepth 100000 in
theorem c_X12_isOpen {l : Launch} {G : GG} {d : Nat} (hd : 1 ≤ d) {μ : Mem} {k0 : Nat} (hk0 : isC 12 k0) {a1 : Int32} {a2 : Int32} {r : Int32} (h : f_X12_isOpen μ k0 a1 a2 = some r) : CT l yX12_isOpen cX12_isOpen 3 (some .boolean) d G [.ref (gad G k0), .int a1, .int a2] μ (RK (some (.int r)) μ) := by
  refine ct_start (by decide) (Nat.le_of_ble_eq_true rfl) (fun C hl1 hG1 hC hQ hr => ?_)
  subst hl1; subst hG1
  have hC : CxOK C cX12_isOpen 3 RX12 d := hC
  show UW C 3 μ 0 [(0, .ref (gad (cG C) k0)), (1, .int a1), (2, .int a2)] []
  unfold f_X12_isOpen at h
  refine u_aload_n (pc := 0) hC dX12_isOpen_0 rfl 0 rfl ?_
  refine u_iload_n (pc := 1) hC dX12_isOpen_1 rfl 1 rfl ?_
  refine u_iconst (pc := 2) hC ic_2 dX12_isOpen_2 ?_
  obtain ⟨r3, q3, h⟩ := of_bd h
  refine k_RX12_144 (pc := 3) hC (av := [.int a1, .int (2 : Int32)]) (rest := []) (c_X12_its (d := d - 1) (by omega) hk0 q3) (by omega) (Nat.le_of_ble_eq_true rfl) hk0 rfl rfl dX12_isOpen_3 ?_
  refine u_if_le (pc := 6) hC (tgt := 26) dX12_isOpen_6 (by decide) (fun c6 => ?_) (fun c6 => ?_)
  · replace h := of_t c6 h
    refine u_iconst (pc := 26) hC ic_0 dX12_isOpen_26 ?_
    obtain rfl := Option.some.inj h
    exact u_zret (pc := 27) hC hQ hr (by decide) ⟨rfl, rfl⟩ dX12_isOpen_27
  · replace h := of_f c6 h
    refine u_iload_n (pc := 9) hC dX12_isOpen_9 rfl 2 rfl ?_
    refine u_aload_n (pc := 10) hC dX12_isOpen_10 rfl 0 rfl ?_
    refine u_iload_n (pc := 11) hC dX12_isOpen_11 rfl 1 rfl ?_
    refine u_iconst (pc := 12) hC ic_3 dX12_isOpen_12 ?_
    obtain ⟨r13, q13, h⟩ := of_bd h
    refine k_RX12_144 (pc := 13) hC (av := [.int a1, .int (3 : Int32)]) (rest := [.int a2]) (c_X12_its (d := d - 1) (by omega) hk0 q13) (by omega) (Nat.le_of_ble_eq_true rfl) hk0 rfl rfl dX12_isOpen_13 ?_
    refine u_ishr (pc := 16) hC dX12_isOpen_16 ?_
    refine u_iconst (pc := 17) hC ic_1 dX12_isOpen_17 ?_
    refine u_iand (pc := 18) hC dX12_isOpen_18 ?_
    refine u_if_ne (pc := 19) hC (tgt := 26) dX12_isOpen_19 (by decide) (fun c19 => ?_) (fun c19 => ?_)
    · replace h := of_t c19 h
      refine u_iconst (pc := 26) hC ic_0 dX12_isOpen_26 ?_
      obtain rfl := Option.some.inj h
      exact u_zret (pc := 27) hC hQ hr (by decide) ⟨rfl, rfl⟩ dX12_isOpen_27
    · replace h := of_f (fun q => q c19) h
      refine u_iconst (pc := 22) hC ic_1 dX12_isOpen_22 ?_
      refine u_goto (pc := 23) hC 27 dX12_isOpen_23 (by decide) ?_
      obtain rfl := Option.some.inj h
      exact u_zret (pc := 27) hC hQ hr (by decide) ⟨rfl, rfl⟩ dX12_isOpen_27
set_option maxHeartbeats 4000000 in
set_option maxRecDepth 100000 in
theorem c_X12_openOf {l : Launch} {G : GG} {d : Nat} (hd : 2 ≤ d) {μ : Mem} {k0 : Nat} (hk0 : isC 12 k0) {a1 : Int32} {r : Int32} (h : f_X12_openOf μ k0 a1 = some r) : CT l yX12_openOf cX12_openOf 5 (some .int) d G [.ref (gad G k0), .int a1] μ (RK (some (.int r)) μ) := by
  refine ct_start (by decide) (Nat.le_of_ble_eq_true rfl) (fun C hl1 hG1 hC hQ hr => ?_)
  subst hl1; subst hG1
  have hC : CxOK C cX12_openOf 5 RX12 d := hC
  show UW C 5 μ 0 [(0, .ref (gad (cG C) k0)), (1, .int a1)] []
  have lw11 : ∀ (v2_11 : Int32) (e : (Int32)) (s : Int32 × Int32), lp (fun s => f_X12_openOf_l11 μ k0 a1 v2_11 s.1 s.2) FU s = some e → (fun (e : (Int32)) => UW C 5 μ 53 [(3, .int e)] []) e → UW C 5 μ 11 [(0, .ref (gad (cG C) k0)), (1, .int a1), (2, .int v2_11), (3, .int s.1), (4, .int s.2)] [] := by
    intro v2_11 e s hl hE0
    refine @lp_walk (Int32 × Int32) (Int32) (fun s => f_X12_openOf_l11 μ k0 a1 v2_11 s.1 s.2) (fun s => UW C 5 μ 11 [(0, .ref (gad (cG C) k0)), (1, .int a1), (2, .int v2_11), (3, .int s.1), (4, .int s.2)] []) (fun (e : (Int32)) => UW C 5 μ 53 [(3, .int e)] []) (fun s y11 h hP11 hE11 => ?_) FU s e hl hE0
    obtain ⟨v3_11, v4_11⟩ := s
    replace h : f_X12_openOf_l11 μ k0 a1 v2_11 v3_11 v4_11 = some y11 := h
    show UW C 5 μ 11 [(0, .ref (gad (cG C) k0)), (1, .int a1), (2, .int v2_11), (3, .int v3_11), (4, .int v4_11)] []
    unfold f_X12_openOf_l11 at h
    refine u_iload (pc := 11) hC dX12_openOf_11 4 rfl ?_
    refine u_aload_n (pc := 13) hC dX12_openOf_13 rfl 0 rfl ?_
    refine u_iload_n (pc := 14) hC dX12_openOf_14 rfl 1 rfl ?_
    refine u_iconst (pc := 15) hC ic_4 dX12_openOf_15 ?_
    obtain ⟨r16, q16, h⟩ := of_bd h
    refine k_RX12_150 (pc := 16) hC (av := [.int a1, .int (4 : Int32)]) (rest := [.int v4_11]) (c_X12_of (d := d - 1) (by omega) hk0 q16) (by omega) (Nat.le_of_ble_eq_true rfl) hk0 rfl rfl dX12_openOf_16 ?_
    refine u_icmp_ge (pc := 19) hC (tgt := 53) dX12_openOf_19 (by decide) (fun c19 => ?_) (fun c19 => ?_)
    · replace h := of_t c19 h
      obtain rfl := Option.some.inj h
      refine u_sub [3] rfl ?_
      exact hE11 v3_11 rfl
    · replace h := of_f c19 h
      refine u_iload_n (pc := 22) hC dX12_openOf_22 rfl 3 rfl ?_
      refine u_aload_n (pc := 23) hC dX12_openOf_23 rfl 0 rfl ?_
      refine u_aload_n (pc := 24) hC dX12_openOf_24 rfl 0 rfl ?_
      refine u_iload_n (pc := 25) hC dX12_openOf_25 rfl 1 rfl ?_
      refine u_iconst (pc := 26) hC ic_5 dX12_openOf_26 ?_
      refine u_iload (pc := 27) hC dX12_openOf_27 4 rfl ?_
      refine u_iadd (pc := 29) hC dX12_openOf_29 ?_
      obtain ⟨r30, q30, h⟩ := of_bd h
      refine k_RX12_150 (pc := 30) hC (av := [.int a1, .int ((5 : Int32) + v4_11)]) (rest := [.ref (gad (cG C) k0), .int v3_11]) (c_X12_of (d := d - 1) (by omega) hk0 q30) (by omega) (Nat.le_of_ble_eq_true rfl) hk0 rfl rfl dX12_openOf_30 ?_
      refine u_iload_n (pc := 33) hC dX12_openOf_33 rfl 2 rfl ?_
      obtain ⟨r34, q34, h⟩ := of_bd h
      refine k_RX12_171 (pc := 34) hC (av := [.int r30, .int v2_11]) (rest := [.int v3_11]) (c_X12_isOpen (d := d - 1) (by omega) hk0 q34) (by omega) (Nat.le_of_ble_eq_true rfl) hk0 rfl rfl dX12_openOf_34 ?_
      refine u_if_eq (pc := 37) hC (tgt := 44) dX12_openOf_37 (by decide) (fun c37 => ?_) (fun c37 => ?_)
      · replace h := of_t c37 h
        refine u_iconst (pc := 44) hC ic_0 dX12_openOf_44 ?_
        refine u_iadd (pc := 45) hC dX12_openOf_45 ?_
        refine u_istore_n (pc := 46) hC dX12_openOf_46 rfl [(3, .int (v3_11 + (0 : Int32))), (0, .ref (gad (cG C) k0)), (1, .int a1), (2, .int v2_11), (4, .int v4_11)] (by decide) rfl ?_
        refine u_iinc (pc := 47) hC dX12_openOf_47 4 rfl (v4_11 + 1) rfl [(4, .int (v4_11 + 1)), (3, .int (v3_11 + (0 : Int32))), (0, .ref (gad (cG C) k0)), (1, .int a1), (2, .int v2_11)] (by decide) rfl ?_
        refine u_goto (pc := 50) hC 11 dX12_openOf_50 (by decide) ?_
        obtain rfl := Option.some.inj h
        refine u_sub [2, 3, 4, 1, 0] rfl ?_
        exact hP11 (v3_11 + (0 : Int32), v4_11 + 1) rfl
      · replace h := of_f c37 h
        refine u_iconst (pc := 40) hC ic_1 dX12_openOf_40 ?_
        refine u_goto (pc := 41) hC 45 dX12_openOf_41 (by decide) ?_
        refine u_iadd (pc := 45) hC dX12_openOf_45 ?_
        refine u_istore_n (pc := 46) hC dX12_openOf_46 rfl [(3, .int (v3_11 + (1 : Int32))), (0, .ref (gad (cG C) k0)), (1, .int a1), (2, .int v2_11), (4, .int v4_11)] (by decide) rfl ?_
        refine u_iinc (pc := 47) hC dX12_openOf_47 4 rfl (v4_11 + 1) rfl [(4, .int (v4_11 + 1)), (3, .int (v3_11 + (1 : Int32))), (0, .ref (gad (cG C) k0)), (1, .int a1), (2, .int v2_11)] (by decide) rfl ?_
        refine u_goto (pc := 50) hC 11 dX12_openOf_50 (by decide) ?_
        obtain rfl := Option.some.inj h
        refine u_sub [2, 3, 4, 1, 0] rfl ?_
        exact hP11 (v3_11 + (1 : Int32), v4_11 + 1) rfl
  unfold f_X12_openOf at h
  refine u_aload_n (pc := 0) hC dX12_openOf_0 rfl 0 rfl ?_
  refine u_iload_n (pc := 1) hC dX12_openOf_1 rfl 1 rfl ?_
  obtain ⟨r2, q2, h⟩ := of_bd h
  refine k_RX12_153 (pc := 2) hC (av := [.int a1]) (rest := []) (c_X12_bookOf (d := d - 1) (by omega) hk0 q2) (by omega) (Nat.le_of_ble_eq_true rfl) hk0 rfl rfl dX12_openOf_2 ?_
  refine u_istore_n (pc := 5) hC dX12_openOf_5 rfl [(2, .int r2), (0, .ref (gad (cG C) k0)), (1, .int a1)] (by decide) rfl ?_
  refine u_iconst (pc := 6) hC ic_0 dX12_openOf_6 ?_
  refine u_istore_n (pc := 7) hC dX12_openOf_7 rfl [(3, .int (0 : Int32)), (2, .int r2), (0, .ref (gad (cG C) k0)), (1, .int a1)] (by decide) rfl ?_
  refine u_iconst (pc := 8) hC ic_0 dX12_openOf_8 ?_
  refine u_istore (pc := 9) hC dX12_openOf_9 [(4, .int (0 : Int32)), (3, .int (0 : Int32)), (2, .int r2), (0, .ref (gad (cG C) k0)), (1, .int a1)] (by decide) rfl ?_
  obtain ⟨e11, l11, h⟩ := of_bd h
  refine u_sub [3, 4, 2, 1, 0] rfl ?_
  refine lw11 r2 e11 ((0 : Int32), (0 : Int32)) l11 ?_
  show UW C 5 μ 53 [(3, .int e11)] []
  refine u_iload_n (pc := 53) hC dX12_openOf_53 rfl 0 rfl ?_
  obtain rfl := Option.some.inj h
  exact u_iret (pc := 54) hC hQ hr ⟨rfl, rfl⟩ dX12_openOf_54
set_option maxHeartbeats 4000000 in
set_option maxRecDepth 100000 in
theorem c_X12_isOverdue {l : Launch} {G : GG} {d : Nat} (hd : 2 ≤ d) {μ : Mem} {k0 : Nat} (hk0 : isC 12 k0) {a1 : Int32} {r : Int32} (h : f_X12_isOverdue μ k0 a1 = some r) : CT l yX12_isOverdue cX12_isOverdue 6 (some .boolean) d G [.ref (gad G k0), .int a1] μ (RK (some (.int r)) μ) := by
  refine ct_start (by decide) (Nat.le_of_ble_eq_true rfl) (fun C hl1 hG1 hC hQ hr => ?_)
  subst hl1; subst hG1
  have hC : CxOK C cX12_isOverdue 6 RX12 d := hC
  show UW C 6 μ 0 [(0, .ref (gad (cG C) k0)), (1, .int a1)] []
  have lw11 : ∀ (v2_11 : Int32) (e : (Int32)) (s : Int32 × Int32), lp (fun s => f_X12_isOverdue_l11 μ k0 a1 v2_11 s.1 s.2) FU s = some e → (fun (e : (Int32)) => UW C 6 μ 86 [(3, .int e)] []) e → UW C 6 μ 11 [(0, .ref (gad (cG C) k0)), (1, .int a1), (2, .int v2_11), (3, .int s.1), (4, .int s.2)] [] := by
    intro v2_11 e s hl hE0
    refine @lp_walk (Int32 × Int32) (Int32) (fun s => f_X12_isOverdue_l11 μ k0 a1 v2_11 s.1 s.2) (fun s => UW C 6 μ 11 [(0, .ref (gad (cG C) k0)), (1, .int a1), (2, .int v2_11), (3, .int s.1), (4, .int s.2)] []) (fun (e : (Int32)) => UW C 6 μ 86 [(3, .int e)] []) (fun s y11 h hP11 hE11 => ?_) FU s e hl hE0
    have jb74 : ∀ (v4_74 : Int32), f_X12_isOverdue_j74 μ k0 a1 v2_11 v4_74 = some y11 → UW C 6 μ 74 [(0, .ref (gad (cG C) k0)), (1, .int a1), (2, .int v2_11), (4, .int v4_74)] [] := by
      intro v4_74 h
      unfold f_X12_isOverdue_j74 at h
      refine u_iconst (pc := 74) hC ic_1 dX12_isOverdue_74 ?_
      refine u_goto (pc := 75) hC 79 dX12_isOverdue_75 (by decide) ?_
      refine u_istore_n (pc := 79) hC dX12_isOverdue_79 rfl [(3, .int (1 : Int32)), (0, .ref (gad (cG C) k0)), (1, .int a1), (2, .int v2_11), (4, .int v4_74)] (by decide) rfl ?_
      refine u_iinc (pc := 80) hC dX12_isOverdue_80 4 rfl (v4_74 + 1) rfl [(4, .int (v4_74 + 1)), (3, .int (1 : Int32)), (0, .ref (gad (cG C) k0)), (1, .int a1), (2, .int v2_11)] (by decide) rfl ?_
      refine u_goto (pc := 83) hC 11 dX12_isOverdue_83 (by decide) ?_
      obtain rfl := Option.some.inj h
      refine u_sub [2, 3, 4, 1, 0] rfl ?_
      exact hP11 ((1 : Int32), v4_74 + 1) rfl
    obtain ⟨v3_11, v4_11⟩ := s
    replace h : f_X12_isOverdue_l11 μ k0 a1 v2_11 v3_11 v4_11 = some y11 := h
    show UW C 6 μ 11 [(0, .ref (gad (cG C) k0)), (1, .int a1), (2, .int v2_11), (3, .int v3_11), (4, .int v4_11)] []
    unfold f_X12_isOverdue_l11 at h
    refine u_iload (pc := 11) hC dX12_isOverdue_11 4 rfl ?_
    refine u_aload_n (pc := 13) hC dX12_isOverdue_13 rfl 0 rfl ?_
    refine u_iload_n (pc := 14) hC dX12_isOverdue_14 rfl 1 rfl ?_
    refine u_iconst (pc := 15) hC ic_4 dX12_isOverdue_15 ?_
    obtain ⟨r16, q16, h⟩ := of_bd h
    refine k_RX12_150 (pc := 16) hC (av := [.int a1, .int (4 : Int32)]) (rest := [.int v4_11]) (c_X12_of (d := d - 1) (by omega) hk0 q16) (by omega) (Nat.le_of_ble_eq_true rfl) hk0 rfl rfl dX12_isOverdue_16 ?_
    refine u_icmp_ge (pc := 19) hC (tgt := 86) dX12_isOverdue_19 (by decide) (fun c19 => ?_) (fun c19 => ?_)
    · replace h := of_t c19 h
      obtain rfl := Option.some.inj h
      refine u_sub [3] rfl ?_
      exact hE11 v3_11 rfl
    · replace h := of_f c19 h
      refine u_aload_n (pc := 22) hC dX12_isOverdue_22 rfl 0 rfl ?_
      refine u_iload_n (pc := 23) hC dX12_isOverdue_23 rfl 1 rfl ?_
      refine u_iconst (pc := 24) hC ic_5 dX12_isOverdue_24 ?_
      refine u_iload (pc := 25) hC dX12_isOverdue_25 4 rfl ?_
      refine u_iadd (pc := 27) hC dX12_isOverdue_27 ?_
      obtain ⟨r28, q28, h⟩ := of_bd h
      refine k_RX12_150 (pc := 28) hC (av := [.int a1, .int ((5 : Int32) + v4_11)]) (rest := []) (c_X12_of (d := d - 1) (by omega) hk0 q28) (by omega) (Nat.le_of_ble_eq_true rfl) hk0 rfl rfl dX12_isOverdue_28 ?_
      refine u_istore (pc := 31) hC dX12_isOverdue_31 [(5, .int r28), (0, .ref (gad (cG C) k0)), (1, .int a1), (2, .int v2_11), (3, .int v3_11), (4, .int v4_11)] (by decide) rfl ?_
      refine u_iload_n (pc := 33) hC dX12_isOverdue_33 rfl 4 rfl ?_
      refine u_if_ne (pc := 34) hC (tgt := 74) dX12_isOverdue_34 (by decide) (fun c34 => ?_) (fun c34 => ?_)
      · replace h := of_t c34 h
        refine u_sub [1, 2, 3, 5] rfl ?_
        exact jb74 v4_11 h
      · replace h := of_f (fun q => q c34) h
        refine u_aload_n (pc := 37) hC dX12_isOverdue_37 rfl 1 rfl ?_
        refine u_iload (pc := 38) hC dX12_isOverdue_38 0 rfl ?_
        refine u_iload_n (pc := 40) hC dX12_isOverdue_40 rfl 3 rfl ?_
        obtain ⟨r41, q41, h⟩ := of_bd h
        refine k_RX12_171 (pc := 41) hC (av := [.int r28, .int v2_11]) (rest := []) (c_X12_isOpen (d := d - 1) (by omega) hk0 q41) (by omega) (Nat.le_of_ble_eq_true rfl) hk0 rfl rfl dX12_isOverdue_41 ?_
        refine u_if_eq (pc := 44) hC (tgt := 78) dX12_isOverdue_44 (by decide) (fun c44 => ?_) (fun c44 => ?_)
        · replace h := of_t c44 h
          refine u_iconst (pc := 78) hC ic_0 dX12_isOverdue_78 ?_
          refine u_istore_n (pc := 79) hC dX12_isOverdue_79 rfl [(3, .int (0 : Int32)), (5, .int r28), (0, .ref (gad (cG C) k0)), (1, .int a1), (2, .int v2_11), (4, .int v4_11)] (by decide) rfl ?_
          refine u_iinc (pc := 80) hC dX12_isOverdue_80 5 rfl (v4_11 + 1) rfl [(4, .int (v4_11 + 1)), (3, .int (0 : Int32)), (5, .int r28), (0, .ref (gad (cG C) k0)), (1, .int a1), (2, .int v2_11)] (by decide) rfl ?_
          refine u_goto (pc := 83) hC 11 dX12_isOverdue_83 (by decide) ?_
          obtain rfl := Option.some.inj h
          refine u_sub [3, 4, 5, 1, 0] rfl ?_
          exact hP11 ((0 : Int32), v4_11 + 1) rfl
        · replace h := of_f c44 h
          refine u_aload_n (pc := 47) hC dX12_isOverdue_47 rfl 1 rfl ?_
          refine g_RX12_7 (pc := 48) hC hk0 dX12_isOverdue_48 ?_
          refine u_iconst (pc := 51) hC ic_3 dX12_isOverdue_51 ?_
          refine u_iald (pc := 52) hC (rs_12_0 hk0) 342 (rn_12_0 hk0) (by decide) dX12_isOverdue_52 ?_
          refine u_aload_n (pc := 53) hC dX12_isOverdue_53 rfl 1 rfl ?_
          refine u_iload_n (pc := 54) hC dX12_isOverdue_54 rfl 2 rfl ?_
          refine u_bipush (pc := 55) hC bc_13 dX12_isOverdue_55 ?_
          refine u_iload (pc := 57) hC dX12_isOverdue_57 5 rfl ?_
          refine u_iadd (pc := 59) hC dX12_isOverdue_59 ?_
          obtain ⟨r60, q60, h⟩ := of_bd h
          refine k_RX12_150 (pc := 60) hC (av := [.int a1, .int ((13 : Int32) + v4_11)]) (rest := [.int (rd μ (rf k0 0) (3 : Int32).toNatClampNeg)]) (c_X12_of (d := d - 1) (by omega) hk0 q60) (by omega) (Nat.le_of_ble_eq_true rfl) hk0 rfl rfl dX12_isOverdue_60 ?_
          refine u_aload_n (pc := 63) hC dX12_isOverdue_63 rfl 1 rfl ?_
          refine u_iload (pc := 64) hC dX12_isOverdue_64 0 rfl ?_
          refine u_iconst (pc := 66) hC ic_2 dX12_isOverdue_66 ?_
          obtain ⟨r67, q67, h⟩ := of_bd h
          refine k_RX12_144 (pc := 67) hC (av := [.int r28, .int (2 : Int32)]) (rest := [.int r60, .int (rd μ (rf k0 0) (3 : Int32).toNatClampNeg)]) (c_X12_its (d := d - 1) (by omega) hk0 q67) (by omega) (Nat.le_of_ble_eq_true rfl) hk0 rfl rfl dX12_isOverdue_67 ?_
          refine u_iadd (pc := 70) hC dX12_isOverdue_70 ?_
          refine u_icmp_lt (pc := 71) hC (tgt := 78) dX12_isOverdue_71 (by decide) (fun c71 => ?_) (fun c71 => ?_)
          · replace h := of_t c71 h
            refine u_iconst (pc := 78) hC ic_0 dX12_isOverdue_78 ?_
            refine u_istore_n (pc := 79) hC dX12_isOverdue_79 rfl [(3, .int (0 : Int32)), (5, .int r28), (0, .ref (gad (cG C) k0)), (1, .int a1), (2, .int v2_11), (4, .int v4_11)] (by decide) rfl ?_
            refine u_iinc (pc := 80) hC dX12_isOverdue_80 5 rfl (v4_11 + 1) rfl [(4, .int (v4_11 + 1)), (3, .int (0 : Int32)), (5, .int r28), (0, .ref (gad (cG C) k0)), (1, .int a1), (2, .int v2_11)] (by decide) rfl ?_
            refine u_goto (pc := 83) hC 11 dX12_isOverdue_83 (by decide) ?_
            obtain rfl := Option.some.inj h
            refine u_sub [3, 4, 5, 1, 0] rfl ?_
            exact hP11 ((0 : Int32), v4_11 + 1) rfl
          · replace h := of_f c71 h
            refine u_sub [1, 2, 3, 5] rfl ?_
            exact jb74 v4_11 h
  unfold f_X12_isOverdue at h
  refine u_aload_n (pc := 0) hC dX12_isOverdue_0 rfl 0 rfl ?_
  refine u_iload_n (pc := 1) hC dX12_isOverdue_1 rfl 1 rfl ?_
  obtain ⟨r2, q2, h⟩ := of_bd h
  refine k_RX12_153 (pc := 2) hC (av := [.int a1]) (rest := []) (c_X12_bookOf (d := d - 1) (by omega) hk0 q2) (by omega) (Nat.le_of_ble_eq_true rfl) hk0 rfl rfl dX12_isOverdue_2 ?_
  refine u_istore_n (pc := 5) hC dX12_isOverdue_5 rfl [(2, .int r2), (0, .ref (gad (cG C) k0)), (1, .int a1)] (by decide) rfl ?_
  refine u_iconst (pc := 6) hC ic_0 dX12_isOverdue_6 ?_
  refine u_istore_n (pc := 7) hC dX12_isOverdue_7 rfl [(3, .int (0 : Int32)), (2, .int r2), (0, .ref (gad (cG C) k0)), (1, .int a1)] (by decide) rfl ?_
  refine u_iconst (pc := 8) hC ic_0 dX12_isOverdue_8 ?_
  refine u_istore (pc := 9) hC dX12_isOverdue_9 [(4, .int (0 : Int32)), (3, .int (0 : Int32)), (2, .int r2), (0, .ref (gad (cG C) k0)), (1, .int a1)] (by decide) rfl ?_
  obtain ⟨e11, l11, h⟩ := of_bd h
  refine u_sub [3, 4, 2, 1, 0] rfl ?_
  refine lw11 r2 e11 ((0 : Int32), (0 : Int32)) l11 ?_
  show UW C 6 μ 86 [(3, .int e11)] []
  refine u_iload_n (pc := 86) hC dX12_isOverdue_86 rfl 0 rfl ?_
  obtain ⟨b87, h⟩ := of_gd h
  obtain rfl := Option.some.inj h
  exact u_zret (pc := 87) hC hQ hr b87 ⟨rfl, rfl⟩ dX12_isOverdue_87
set_option maxHeartbeats 4000000 in
set_option maxRecDepth 100000 in
theorem c_X12_writes {l : Launch} {G : GG} {d : Nat} (hd : 1 ≤ d) {μ : Mem} {k0 : Nat} (hk0 : isC 12 k0) {a1 : Int32} {a2 : Int32} {r : Mem} (h : f_X12_writes μ k0 a1 a2 = some r) : CT l yX12_writes cX12_writes 3 none d G [.ref (gad G k0), .int a1, .int a2] μ (RK none r) := by
  refine ct_start (by decide) (Nat.le_of_ble_eq_true rfl) (fun C hl1 hG1 hC hQ hr => ?_)
  subst hl1; subst hG1
  have hC : CxOK C cX12_writes 3 RX12 d := hC
  show UW C 3 μ 0 [(0, .ref (gad (cG C) k0)), (1, .int a1), (2, .int a2)] []
  unfold f_X12_writes at h
  refine u_aload_n (pc := 0) hC dX12_writes_0 rfl 0 rfl ?_
  refine u_iload_n (pc := 1) hC dX12_writes_1 rfl 1 rfl ?_
  refine u_iconst (pc := 2) hC ic_5 dX12_writes_2 ?_
  refine u_aload_n (pc := 3) hC dX12_writes_3 rfl 0 rfl ?_
  refine u_iload_n (pc := 4) hC dX12_writes_4 rfl 1 rfl ?_
  refine u_iconst (pc := 5) hC ic_4 dX12_writes_5 ?_
  obtain ⟨r6, q6, h⟩ := of_bd h
  refine k_RX12_150 (pc := 6) hC (av := [.int a1, .int (4 : Int32)]) (rest := [.int (5 : Int32), .int a1, .ref (gad (cG C) k0)]) (c_X12_of (d := d - 1) (by omega) hk0 q6) (by omega) (Nat.le_of_ble_eq_true rfl) hk0 rfl rfl dX12_writes_6 ?_
  refine u_iadd (pc := 9) hC dX12_writes_9 ?_
  refine u_iload_n (pc := 10) hC dX12_writes_10 rfl 2 rfl ?_
  obtain ⟨μ11, q11, h⟩ := of_bd h
  refine k_RX12_174 (pc := 11) hC (av := [.int a1, .int ((5 : Int32) + r6), .int a2]) (rest := []) (c_X12_sets (d := d - 1) (by omega) hk0 q11) (by omega) (Nat.le_of_ble_eq_true rfl) hk0 rfl rfl dX12_writes_11 ?_
  refine u_aload_n (pc := 14) hC dX12_writes_14 rfl 0 rfl ?_
  refine u_iload_n (pc := 15) hC dX12_writes_15 rfl 1 rfl ?_
  refine u_bipush (pc := 16) hC bc_13 dX12_writes_16 ?_
  refine u_aload_n (pc := 18) hC dX12_writes_18 rfl 0 rfl ?_
  refine u_iload_n (pc := 19) hC dX12_writes_19 rfl 1 rfl ?_
  refine u_iconst (pc := 20) hC ic_4 dX12_writes_20 ?_
  obtain ⟨r21, q21, h⟩ := of_bd h
  refine k_RX12_150 (pc := 21) hC (av := [.int a1, .int (4 : Int32)]) (rest := [.int (13 : Int32), .int a1, .ref (gad (cG C) k0)]) (c_X12_of (d := d - 1) (by omega) hk0 q21) (by omega) (Nat.le_of_ble_eq_true rfl) hk0 rfl rfl dX12_writes_21 ?_
  refine u_iadd (pc := 24) hC dX12_writes_24 ?_
  refine u_aload_n (pc := 25) hC dX12_writes_25 rfl 0 rfl ?_
  refine g_RX12_7 (pc := 26) hC hk0 dX12_writes_26 ?_
  refine u_iconst (pc := 29) hC ic_3 dX12_writes_29 ?_
  refine u_iald (pc := 30) hC (rs_12_0 hk0) 342 (rn_12_0 hk0) (by decide) dX12_writes_30 ?_
  obtain ⟨μ31, q31, h⟩ := of_bd h
  refine k_RX12_174 (pc := 31) hC (av := [.int a1, .int ((13 : Int32) + r21), .int (rd μ11 (rf k0 0) (3 : Int32).toNatClampNeg)]) (rest := []) (c_X12_sets (d := d - 1) (by omega) hk0 q31) (by omega) (Nat.le_of_ble_eq_true rfl) hk0 rfl rfl dX12_writes_31 ?_
  refine u_aload_n (pc := 34) hC dX12_writes_34 rfl 0 rfl ?_
  refine u_iload_n (pc := 35) hC dX12_writes_35 rfl 1 rfl ?_
  refine u_iconst (pc := 36) hC ic_4 dX12_writes_36 ?_
  refine u_aload_n (pc := 37) hC dX12_writes_37 rfl 0 rfl ?_
  refine u_iload_n (pc := 38) hC dX12_writes_38 rfl 1 rfl ?_
  refine u_iconst (pc := 39) hC ic_4 dX12_writes_39 ?_
  obtain ⟨r40, q40, h⟩ := of_bd h
  refine k_RX12_150 (pc := 40) hC (av := [.int a1, .int (4 : Int32)]) (rest := [.int (4 : Int32), .int a1, .ref (gad (cG C) k0)]) (c_X12_of (d := d - 1) (by omega) hk0 q40) (by omega) (Nat.le_of_ble_eq_true rfl) hk0 rfl rfl dX12_writes_40 ?_
  refine u_iconst (pc := 43) hC ic_1 dX12_writes_43 ?_
  refine u_iadd (pc := 44) hC dX12_writes_44 ?_
  obtain ⟨μ45, q45, h⟩ := of_bd h
  refine k_RX12_174 (pc := 45) hC (av := [.int a1, .int (4 : Int32), .int (r40 + (1 : Int32))]) (rest := []) (c_X12_sets (d := d - 1) (by omega) hk0 q45) (by omega) (Nat.le_of_ble_eq_true rfl) hk0 rfl rfl dX12_writes_45 ?_
  obtain rfl := Option.some.inj h
  exact u_vret (pc := 48) hC hQ hr ⟨rfl, rfl⟩ dX12_writes_48
set_option maxHeartbeats 4000000 in
set_option maxRecDepth 100000 in
theorem c_X12_tellsNow {l : Launch} {G : GG} {d : Nat} (hd : 106 ≤ d) {μ : Mem} {k0 : Nat} (hk0 : isC 12 k0) {a1 : Int32} {a2 : Int32} {r : Mem} (h : f_X12_tellsNow μ k0 a1 a2 = some r) : CT l yX12_tellsNow cX12_tellsNow 4 none d G [.ref (gad G k0), .int a1, .int a2] μ (RK none r) := by
  refine ct_start (by decide) (Nat.le_of_ble_eq_true rfl) (fun C hl1 hG1 hC hQ hr => ?_)
  subst hl1; subst hG1
  have hC : CxOK C cX12_tellsNow 4 RX12 d := hC
  show UW C 4 μ 0 [(0, .ref (gad (cG C) k0)), (1, .int a1), (2, .int a2)] []
  have jb38 : ∀ (μ_38 : Mem) (kt0_38 : Nat) (hkt0_38 : isC 12 kt0_38) (vt1_38 : Int32) (vt2_38 : Int32) (vt3_38 : Int32), f_X12_tellsNow_j38 μ_38 k0 a1 a2 kt0_38 vt1_38 vt2_38 vt3_38 = some r → UW C 4 μ_38 38 [] [.int vt3_38, .int vt2_38, .int vt1_38, .ref (gad (cG C) kt0_38)] := by
    intro μ_38 kt0_38 hkt0_38 vt1_38 vt2_38 vt3_38 h
    unfold f_X12_tellsNow_j38 at h
    obtain ⟨μ38, q38, h⟩ := of_bd h
    refine k_RX12_174 (pc := 38) hC (av := [.int vt1_38, .int vt2_38, .int vt3_38]) (rest := []) (c_X12_sets (d := d - 1) (by omega) hkt0_38 q38) (by omega) (Nat.le_of_ble_eq_true rfl) hkt0_38 rfl rfl dX12_tellsNow_38 ?_
    obtain rfl := Option.some.inj h
    exact u_vret (pc := 41) hC hQ hr ⟨rfl, rfl⟩ dX12_tellsNow_41
  unfold f_X12_tellsNow at h
  refine u_aload_n (pc := 0) hC dX12_tellsNow_0 rfl 0 rfl ?_
  refine u_iload_n (pc := 1) hC dX12_tellsNow_1 rfl 1 rfl ?_
  refine u_iload_n (pc := 2) hC dX12_tellsNow_2 rfl 2 rfl ?_
  obtain ⟨p3, q3, h⟩ := of_bd h
  refine k_RX12_177 (pc := 3) hC (av := [.int a1, .int a2]) (rest := []) (c_X12_paysOf (d := d - 1) (by omega) hk0 q3) (by omega) (Nat.le_of_ble_eq_true rfl) hk0 rfl rfl dX12_tellsNow_3 ?_
  refine u_istore_n (pc := 6) hC dX12_tellsNow_6 rfl [(3, .int p3.1), (0, .ref (gad (cG C) k0)), (1, .int a1), (2, .int a2)] (by decide) rfl ?_
  refine u_aload_n (pc := 7) hC dX12_tellsNow_7 rfl 1 rfl ?_
  refine u_iload_n (pc := 8) hC dX12_tellsNow_8 rfl 2 rfl ?_
  refine u_iload_n (pc := 9) hC dX12_tellsNow_9 rfl 3 rfl ?_
  obtain ⟨μ10, q10, h⟩ := of_bd h
  refine k_RX12_180 (pc := 10) hC (av := [.int a1, .int a2]) (rest := []) (c_X12_writes (d := d - 1) (by omega) hk0 q10) (by omega) (Nat.le_of_ble_eq_true rfl) hk0 rfl rfl dX12_tellsNow_10 ?_
  refine u_aload_n (pc := 13) hC dX12_tellsNow_13 rfl 1 rfl ?_
  refine u_iload_n (pc := 14) hC dX12_tellsNow_14 rfl 2 rfl ?_
  refine u_iconst (pc := 15) hC ic_2 dX12_tellsNow_15 ?_
  refine u_iload_n (pc := 16) hC dX12_tellsNow_16 rfl 0 rfl ?_
  refine u_aload_n (pc := 17) hC dX12_tellsNow_17 rfl 1 rfl ?_
  refine u_iload_n (pc := 18) hC dX12_tellsNow_18 rfl 2 rfl ?_
  refine u_iconst (pc := 19) hC ic_2 dX12_tellsNow_19 ?_
  obtain ⟨r20, q20, h⟩ := of_bd h
  refine k_RX12_150 (pc := 20) hC (av := [.int a1, .int (2 : Int32)]) (rest := [.int p3.1, .int (2 : Int32), .int a1, .ref (gad (cG C) k0)]) (c_X12_of (d := d - 1) (by omega) hk0 q20) (by omega) (Nat.le_of_ble_eq_true rfl) hk0 rfl rfl dX12_tellsNow_20 ?_
  refine u_icmp_ge (pc := 23) hC (tgt := 37) dX12_tellsNow_23 (by decide) (fun c23 => ?_) (fun c23 => ?_)
  · replace h := of_t c23 h
    refine u_iconst (pc := 37) hC ic_0 dX12_tellsNow_37 ?_
    refine u_sub [] rfl ?_
    exact jb38 μ10 k0 hk0 a1 (2 : Int32) (0 : Int32) h
  · replace h := of_f c23 h
    refine u_aload_n (pc := 26) hC dX12_tellsNow_26 rfl 1 rfl ?_
    refine u_iload_n (pc := 27) hC dX12_tellsNow_27 rfl 2 rfl ?_
    refine u_iconst (pc := 28) hC ic_2 dX12_tellsNow_28 ?_
    obtain ⟨r29, q29, h⟩ := of_bd h
    refine k_RX12_150 (pc := 29) hC (av := [.int a1, .int (2 : Int32)]) (rest := [.int (2 : Int32), .int a1, .ref (gad (cG C) k0)]) (c_X12_of (d := d - 1) (by omega) hk0 q29) (by omega) (Nat.le_of_ble_eq_true rfl) hk0 rfl rfl dX12_tellsNow_29 ?_
    refine u_iload_n (pc := 32) hC dX12_tellsNow_32 rfl 0 rfl ?_
    refine u_isub (pc := 33) hC dX12_tellsNow_33 ?_
    refine u_goto (pc := 34) hC 38 dX12_tellsNow_34 (by decide) ?_
    refine u_sub [] rfl ?_
    exact jb38 μ10 k0 hk0 a1 (2 : Int32) (r29 - p3.1) h
set_option maxHeartbeats 4000000 in
set_option maxRecDepth 100000 in
theorem c_X12_debtor {l : Launch} {G : GG} {d : Nat} (hd : 1 ≤ d) {μ : Mem} {k0 : Nat} (hk0 : isC 12 k0) {a1 : Int32} {a2 : Int32} {r : Int32 × Mem} (h : f_X12_debtor μ k0 a1 a2 = some r) : CT l yX12_debtor cX12_debtor 4 (some .int) d G [.ref (gad G k0), .int a1, .int a2] μ (RK (some (.int r.1)) r.2) := by
  refine ct_start (by decide) (Nat.le_of_ble_eq_true rfl) (fun C hl1 hG1 hC hQ hr => ?_)
  subst hl1; subst hG1
  have hC : CxOK C cX12_debtor 4 RX12 d := hC
  show UW C 4 μ 0 [(0, .ref (gad (cG C) k0)), (1, .int a1), (2, .int a2)] []
  have jb24 : ∀ (μ_24 : Mem), f_X12_debtor_j24 μ_24 k0 a1 a2 = some r → UW C 4 μ_24 24 [(0, .ref (gad (cG C) k0))] [] := by
    intro μ_24 h
    unfold f_X12_debtor_j24 at h
    refine u_aload_n (pc := 24) hC dX12_debtor_24 rfl 0 rfl ?_
    refine u_iconst (pc := 25) hC ic_1 dX12_debtor_25 ?_
    obtain ⟨p26, q26, h⟩ := of_bd h
    refine k_RX12_119 (pc := 26) hC (av := [.int (1 : Int32)]) (rest := []) (c_X12_finds (d := d - 1) (by omega) hk0 q26) (by omega) (Nat.le_of_ble_eq_true rfl) hk0 rfl rfl dX12_debtor_26 ?_
    obtain rfl := Option.some.inj h
    exact u_iret (pc := 29) hC hQ hr ⟨rfl, rfl⟩ dX12_debtor_29
  unfold f_X12_debtor at h
  refine u_iload_n (pc := 0) hC dX12_debtor_0 rfl 1 rfl ?_
  refine u_i2l (pc := 1) hC dX12_debtor_1 ?_
  refine u_lconst (pc := 2) hC (v := (0 : Int64)) rfl dX12_debtor_2 ?_
  refine u_ldc2 (pc := 3) hC (v := (69 : Int64)) mQ_RX12_184 dX12_debtor_3 ?_
  obtain ⟨r6, q6, h⟩ := of_bd h
  refine k_RX12_57 (pc := 6) hC (av := [.long a1.toInt64, .long (0 : Int64), .long (69 : Int64)]) (rest := []) (c_X12_in (d := d - 1) (by omega)  q6) (by omega) (Nat.le_of_ble_eq_true rfl) rfl rfl dX12_debtor_6 ?_
  refine u_if_eq (pc := 9) hC (tgt := 24) dX12_debtor_9 (by decide) (fun c9 => ?_) (fun c9 => ?_)
  · replace h := of_t c9 h
    refine u_sub [0] rfl ?_
    exact jb24 μ h
  · replace h := of_f c9 h
    refine u_iload_n (pc := 12) hC dX12_debtor_12 rfl 2 rfl ?_
    refine u_i2l (pc := 13) hC dX12_debtor_13 ?_
    refine u_lconst (pc := 14) hC (v := (0 : Int64)) rfl dX12_debtor_14 ?_
    refine u_ldc2 (pc := 15) hC (v := (9999 : Int64)) mQ_RX12_186 dX12_debtor_15 ?_
    obtain ⟨r18, q18, h⟩ := of_bd h
    refine k_RX12_57 (pc := 18) hC (av := [.long a2.toInt64, .long (0 : Int64), .long (9999 : Int64)]) (rest := []) (c_X12_in (d := d - 1) (by omega)  q18) (by omega) (Nat.le_of_ble_eq_true rfl) rfl rfl dX12_debtor_18 ?_
    refine u_if_ne (pc := 21) hC (tgt := 30) dX12_debtor_21 (by decide) (fun c21 => ?_) (fun c21 => ?_)
    · replace h := of_t c21 h
      refine u_aload_n (pc := 30) hC dX12_debtor_30 rfl 0 rfl ?_
      refine g_RX12_7 (pc := 31) hC hk0 dX12_debtor_31 ?_
      refine u_iconst (pc := 34) hC ic_1 dX12_debtor_34 ?_
      refine u_iald (pc := 35) hC (rs_12_0 hk0) 342 (rn_12_0 hk0) (by decide) dX12_debtor_35 ?_
      refine u_iconst (pc := 36) hC ic_4 dX12_debtor_36 ?_
      refine u_icmp_ne (pc := 37) hC (tgt := 46) dX12_debtor_37 (by decide) (fun c37 => ?_) (fun c37 => ?_)
      · replace h := of_t c37 h
        refine u_aload_n (pc := 46) hC dX12_debtor_46 rfl 0 rfl ?_
        refine g_RX12_7 (pc := 47) hC hk0 dX12_debtor_47 ?_
        refine u_iconst (pc := 50) hC ic_1 dX12_debtor_50 ?_
        refine u_iald (pc := 51) hC (rs_12_0 hk0) 342 (rn_12_0 hk0) (by decide) dX12_debtor_51 ?_
        refine u_istore_n (pc := 52) hC dX12_debtor_52 rfl [(3, .int (rd μ (rf k0 0) (1 : Int32).toNatClampNeg)), (0, .ref (gad (cG C) k0)), (1, .int a1), (2, .int a2)] (by decide) rfl ?_
        refine u_aload_n (pc := 53) hC dX12_debtor_53 rfl 1 rfl ?_
        refine g_RX12_7 (pc := 54) hC hk0 dX12_debtor_54 ?_
        refine u_iconst (pc := 57) hC ic_1 dX12_debtor_57 ?_
        refine u_dup2 (pc := 58) hC rfl rfl dX12_debtor_58 ?_
        refine u_iald (pc := 59) hC (rs_12_0 hk0) 342 (rn_12_0 hk0) (by decide) dX12_debtor_59 ?_
        refine u_iconst (pc := 60) hC ic_1 dX12_debtor_60 ?_
        refine u_iadd (pc := 61) hC dX12_debtor_61 ?_
        obtain ⟨m62, q62, h⟩ := of_bd h
        refine u_iast (pc := 62) hC (rs_12_0 hk0) 342 (rn_12_0 hk0) (by decide) dX12_debtor_62 (Option.some.inj q62) ?_
        refine u_aload_n (pc := 63) hC dX12_debtor_63 rfl 1 rfl ?_
        refine u_iload_n (pc := 64) hC dX12_debtor_64 rfl 0 rfl ?_
        refine u_iconst (pc := 65) hC ic_0 dX12_debtor_65 ?_
        refine u_iload_n (pc := 66) hC dX12_debtor_66 rfl 2 rfl ?_
        refine u_bipush (pc := 67) hC bc_10 dX12_debtor_67 ?_
        refine u_idiv (pc := 69) hC (by decide) dX12_debtor_69 ?_
        obtain ⟨μ70, q70, h⟩ := of_bd h
        refine k_RX12_174 (pc := 70) hC (av := [.int (rd μ (rf k0 0) (1 : Int32).toNatClampNeg), .int (0 : Int32), .int (a1 / (10 : Int32))]) (rest := []) (c_X12_sets (d := d - 1) (by omega) hk0 q70) (by omega) (Nat.le_of_ble_eq_true rfl) hk0 rfl rfl dX12_debtor_70 ?_
        refine u_aload_n (pc := 73) hC dX12_debtor_73 rfl 1 rfl ?_
        refine u_iload_n (pc := 74) hC dX12_debtor_74 rfl 0 rfl ?_
        refine u_iconst (pc := 75) hC ic_1 dX12_debtor_75 ?_
        refine u_iload_n (pc := 76) hC dX12_debtor_76 rfl 2 rfl ?_
        refine u_bipush (pc := 77) hC bc_10 dX12_debtor_77 ?_
        refine u_irem (pc := 79) hC (by decide) dX12_debtor_79 ?_
        obtain ⟨μ80, q80, h⟩ := of_bd h
        refine k_RX12_174 (pc := 80) hC (av := [.int (rd μ (rf k0 0) (1 : Int32).toNatClampNeg), .int (1 : Int32), .int (jrem a1 (10 : Int32))]) (rest := []) (c_X12_sets (d := d - 1) (by omega) hk0 q80) (by omega) (Nat.le_of_ble_eq_true rfl) hk0 rfl rfl dX12_debtor_80 ?_
        refine u_aload_n (pc := 83) hC dX12_debtor_83 rfl 1 rfl ?_
        refine u_iload_n (pc := 84) hC dX12_debtor_84 rfl 0 rfl ?_
        refine u_iconst (pc := 85) hC ic_2 dX12_debtor_85 ?_
        refine u_iload_n (pc := 86) hC dX12_debtor_86 rfl 3 rfl ?_
        obtain ⟨μ87, q87, h⟩ := of_bd h
        refine k_RX12_174 (pc := 87) hC (av := [.int (rd μ (rf k0 0) (1 : Int32).toNatClampNeg), .int (2 : Int32), .int a2]) (rest := []) (c_X12_sets (d := d - 1) (by omega) hk0 q87) (by omega) (Nat.le_of_ble_eq_true rfl) hk0 rfl rfl dX12_debtor_87 ?_
        refine u_aload_n (pc := 90) hC dX12_debtor_90 rfl 1 rfl ?_
        refine u_iload_n (pc := 91) hC dX12_debtor_91 rfl 0 rfl ?_
        refine u_iconst (pc := 92) hC ic_3 dX12_debtor_92 ?_
        refine u_iconst (pc := 93) hC ic_0 dX12_debtor_93 ?_
        obtain ⟨μ94, q94, h⟩ := of_bd h
        refine k_RX12_174 (pc := 94) hC (av := [.int (rd μ (rf k0 0) (1 : Int32).toNatClampNeg), .int (3 : Int32), .int (0 : Int32)]) (rest := []) (c_X12_sets (d := d - 1) (by omega) hk0 q94) (by omega) (Nat.le_of_ble_eq_true rfl) hk0 rfl rfl dX12_debtor_94 ?_
        refine u_aload_n (pc := 97) hC dX12_debtor_97 rfl 1 rfl ?_
        refine u_iload_n (pc := 98) hC dX12_debtor_98 rfl 0 rfl ?_
        refine u_iconst (pc := 99) hC ic_4 dX12_debtor_99 ?_
        refine u_iconst (pc := 100) hC ic_0 dX12_debtor_100 ?_
        obtain ⟨μ101, q101, h⟩ := of_bd h
        refine k_RX12_174 (pc := 101) hC (av := [.int (rd μ (rf k0 0) (1 : Int32).toNatClampNeg), .int (4 : Int32), .int (0 : Int32)]) (rest := []) (c_X12_sets (d := d - 1) (by omega) hk0 q101) (by omega) (Nat.le_of_ble_eq_true rfl) hk0 rfl rfl dX12_debtor_101 ?_
        refine u_iload_n (pc := 104) hC dX12_debtor_104 rfl 0 rfl ?_
        obtain rfl := Option.some.inj h
        exact u_iret (pc := 105) hC hQ hr ⟨rfl, rfl⟩ dX12_debtor_105
      · replace h := of_f (fun q => q c37) h
        refine u_aload_n (pc := 40) hC dX12_debtor_40 rfl 0 rfl ?_
        refine u_iconst (pc := 41) hC ic_4 dX12_debtor_41 ?_
        obtain ⟨p42, q42, h⟩ := of_bd h
        refine k_RX12_119 (pc := 42) hC (av := [.int (4 : Int32)]) (rest := []) (c_X12_finds (d := d - 1) (by omega) hk0 q42) (by omega) (Nat.le_of_ble_eq_true rfl) hk0 rfl rfl dX12_debtor_42 ?_
        obtain rfl := Option.some.inj h
        exact u_iret (pc := 45) hC hQ hr ⟨rfl, rfl⟩ dX12_debtor_45
    · replace h := of_f (fun q => q c21) h
      refine u_sub [0] rfl ?_
      exact jb24 μ h
set_option maxHeartbeats 4000000 in
set_option maxRecDepth 100000 in
theorem c_X12_toldOf {l : Launch} {G : GG} {d : Nat} (hd : 105 ≤ d) {μ : Mem} {k0 : Nat} (hk0 : isC 12 k0) {a1 : Int32} {a2 : Int32} {r : Int32 × Mem} (h : f_X12_toldOf μ k0 a1 a2 = some r) : CT l yX12_toldOf cX12_toldOf 3 (some .int) d G [.ref (gad G k0), .int a1, .int a2] μ (RK (some (.int r.1)) r.2) := by
  refine ct_start (by decide) (Nat.le_of_ble_eq_true rfl) (fun C hl1 hG1 hC hQ hr => ?_)
  subst hl1; subst hG1
  have hC : CxOK C cX12_toldOf 3 RX12 d := hC
  show UW C 3 μ 0 [(0, .ref (gad (cG C) k0)), (1, .int a1), (2, .int a2)] []
  unfold f_X12_toldOf at h
  refine u_iload_n (pc := 0) hC dX12_toldOf_0 rfl 2 rfl ?_
  by_cases c1_0 : a2 = 0
  · replace h := of_t c1_0 h
    refine u_tabEq (pc := 1) hC dX12_toldOf_1 (0 : Int32) c1_0 (off := 51) 52 (by decide) (by decide) ?_
    refine u_aload_n (pc := 52) hC dX12_toldOf_52 rfl 0 rfl ?_
    refine u_iload_n (pc := 53) hC dX12_toldOf_53 rfl 1 rfl ?_
    refine u_iconst (pc := 54) hC ic_0 dX12_toldOf_54 ?_
    obtain ⟨r55, q55, h⟩ := of_bd h
    refine k_RX12_150 (pc := 55) hC (av := [.int a1, .int (0 : Int32)]) (rest := []) (c_X12_of (d := d - 1) (by omega) hk0 q55) (by omega) (Nat.le_of_ble_eq_true rfl) hk0 rfl rfl dX12_toldOf_55 ?_
    obtain rfl := Option.some.inj h
    exact u_iret (pc := 58) hC hQ hr ⟨rfl, rfl⟩ dX12_toldOf_58
  replace h := of_f c1_0 h
  by_cases c1_1 : a2 = 1
  · replace h := of_t c1_1 h
    refine u_tabEq (pc := 1) hC dX12_toldOf_1 (1 : Int32) c1_1 (off := 58) 59 (by decide) (by decide) ?_
    refine u_aload_n (pc := 59) hC dX12_toldOf_59 rfl 0 rfl ?_
    refine u_iload_n (pc := 60) hC dX12_toldOf_60 rfl 1 rfl ?_
    refine u_iconst (pc := 61) hC ic_1 dX12_toldOf_61 ?_
    obtain ⟨r62, q62, h⟩ := of_bd h
    refine k_RX12_150 (pc := 62) hC (av := [.int a1, .int (1 : Int32)]) (rest := []) (c_X12_of (d := d - 1) (by omega) hk0 q62) (by omega) (Nat.le_of_ble_eq_true rfl) hk0 rfl rfl dX12_toldOf_62 ?_
    obtain rfl := Option.some.inj h
    exact u_iret (pc := 65) hC hQ hr ⟨rfl, rfl⟩ dX12_toldOf_65
  replace h := of_f c1_1 h
  by_cases c1_2 : a2 = 2
  · replace h := of_t c1_2 h
    refine u_tabEq (pc := 1) hC dX12_toldOf_1 (2 : Int32) c1_2 (off := 65) 66 (by decide) (by decide) ?_
    refine u_aload_n (pc := 66) hC dX12_toldOf_66 rfl 0 rfl ?_
    refine u_iload_n (pc := 67) hC dX12_toldOf_67 rfl 1 rfl ?_
    refine u_iconst (pc := 68) hC ic_2 dX12_toldOf_68 ?_
    obtain ⟨r69, q69, h⟩ := of_bd h
    refine k_RX12_150 (pc := 69) hC (av := [.int a1, .int (2 : Int32)]) (rest := []) (c_X12_of (d := d - 1) (by omega) hk0 q69) (by omega) (Nat.le_of_ble_eq_true rfl) hk0 rfl rfl dX12_toldOf_69 ?_
    obtain rfl := Option.some.inj h
    exact u_iret (pc := 72) hC hQ hr ⟨rfl, rfl⟩ dX12_toldOf_72
  replace h := of_f c1_2 h
  by_cases c1_3 : a2 = 3
  · replace h := of_t c1_3 h
    refine u_tabEq (pc := 1) hC dX12_toldOf_1 (3 : Int32) c1_3 (off := 72) 73 (by decide) (by decide) ?_
    refine u_aload_n (pc := 73) hC dX12_toldOf_73 rfl 0 rfl ?_
    refine u_iload_n (pc := 74) hC dX12_toldOf_74 rfl 1 rfl ?_
    refine u_iconst (pc := 75) hC ic_4 dX12_toldOf_75 ?_
    obtain ⟨r76, q76, h⟩ := of_bd h
    refine k_RX12_150 (pc := 76) hC (av := [.int a1, .int (4 : Int32)]) (rest := []) (c_X12_of (d := d - 1) (by omega) hk0 q76) (by omega) (Nat.le_of_ble_eq_true rfl) hk0 rfl rfl dX12_toldOf_76 ?_
    obtain rfl := Option.some.inj h
    exact u_iret (pc := 79) hC hQ hr ⟨rfl, rfl⟩ dX12_toldOf_79
  replace h := of_f c1_3 h
  by_cases c1_4 : a2 = 4
  · replace h := of_t c1_4 h
    refine u_tabEq (pc := 1) hC dX12_toldOf_1 (4 : Int32) c1_4 (off := 79) 80 (by decide) (by decide) ?_
    refine u_aload_n (pc := 80) hC dX12_toldOf_80 rfl 0 rfl ?_
    refine u_iload_n (pc := 81) hC dX12_toldOf_81 rfl 1 rfl ?_
    obtain ⟨r82, q82, h⟩ := of_bd h
    refine k_RX12_153 (pc := 82) hC (av := [.int a1]) (rest := []) (c_X12_bookOf (d := d - 1) (by omega) hk0 q82) (by omega) (Nat.le_of_ble_eq_true rfl) hk0 rfl rfl dX12_toldOf_82 ?_
    obtain rfl := Option.some.inj h
    exact u_iret (pc := 85) hC hQ hr ⟨rfl, rfl⟩ dX12_toldOf_85
  replace h := of_f c1_4 h
  by_cases c1_5 : a2 = 5
  · replace h := of_t c1_5 h
    refine u_tabEq (pc := 1) hC dX12_toldOf_1 (5 : Int32) c1_5 (off := 85) 86 (by decide) (by decide) ?_
    refine u_aload_n (pc := 86) hC dX12_toldOf_86 rfl 0 rfl ?_
    refine u_iload_n (pc := 87) hC dX12_toldOf_87 rfl 1 rfl ?_
    refine u_iconst (pc := 88) hC ic_3 dX12_toldOf_88 ?_
    obtain ⟨r89, q89, h⟩ := of_bd h
    refine k_RX12_150 (pc := 89) hC (av := [.int a1, .int (3 : Int32)]) (rest := []) (c_X12_of (d := d - 1) (by omega) hk0 q89) (by omega) (Nat.le_of_ble_eq_true rfl) hk0 rfl rfl dX12_toldOf_89 ?_
    obtain rfl := Option.some.inj h
    exact u_iret (pc := 92) hC hQ hr ⟨rfl, rfl⟩ dX12_toldOf_92
  replace h := of_f c1_5 h
  by_cases c1_6 : a2 = 6
  · replace h := of_t c1_6 h
    refine u_tabEq (pc := 1) hC dX12_toldOf_1 (6 : Int32) c1_6 (off := 92) 93 (by decide) (by decide) ?_
    refine u_aload_n (pc := 93) hC dX12_toldOf_93 rfl 0 rfl ?_
    refine u_iload_n (pc := 94) hC dX12_toldOf_94 rfl 1 rfl ?_
    obtain ⟨r95, q95, h⟩ := of_bd h
    refine k_RX12_188 (pc := 95) hC (av := [.int a1]) (rest := []) (c_X12_dueOf (d := d - 1) (by omega) hk0 q95) (by omega) (Nat.le_of_ble_eq_true rfl) hk0 rfl rfl dX12_toldOf_95 ?_
    obtain rfl := Option.some.inj h
    exact u_iret (pc := 98) hC hQ hr ⟨rfl, rfl⟩ dX12_toldOf_98
  replace h := of_f c1_6 h
  by_cases c1_7 : a2 = 7
  · replace h := of_t c1_7 h
    refine u_tabEq (pc := 1) hC dX12_toldOf_1 (7 : Int32) c1_7 (off := 98) 99 (by decide) (by decide) ?_
    refine u_aload_n (pc := 99) hC dX12_toldOf_99 rfl 0 rfl ?_
    refine u_iload_n (pc := 100) hC dX12_toldOf_100 rfl 1 rfl ?_
    obtain ⟨r101, q101, h⟩ := of_bd h
    refine k_RX12_191 (pc := 101) hC (av := [.int a1]) (rest := []) (c_X12_openOf (d := d - 1) (by omega) hk0 q101) (by omega) (Nat.le_of_ble_eq_true rfl) hk0 rfl rfl dX12_toldOf_101 ?_
    obtain rfl := Option.some.inj h
    exact u_iret (pc := 104) hC hQ hr ⟨rfl, rfl⟩ dX12_toldOf_104
  replace h := of_f c1_7 h
  by_cases c1_8 : a2 = 8
  · replace h := of_t c1_8 h
    refine u_tabEq (pc := 1) hC dX12_toldOf_1 (8 : Int32) c1_8 (off := 104) 105 (by decide) (by decide) ?_
    refine u_aload_n (pc := 105) hC dX12_toldOf_105 rfl 0 rfl ?_
    refine u_iload_n (pc := 106) hC dX12_toldOf_106 rfl 1 rfl ?_
    obtain ⟨r107, q107, h⟩ := of_bd h
    refine k_RX12_194 (pc := 107) hC (av := [.int a1]) (rest := []) (c_X12_allMay (d := d - 1) (by omega) hk0 q107) (by omega) (Nat.le_of_ble_eq_true rfl) hk0 rfl rfl dX12_toldOf_107 ?_
    obtain rfl := Option.some.inj h
    exact u_iret (pc := 110) hC hQ hr ⟨rfl, rfl⟩ dX12_toldOf_110
  replace h := of_f c1_8 h
  refine u_tabDf (pc := 1) hC dX12_toldOf_1 [(0 : Int32), (1 : Int32), (2 : Int32), (3 : Int32), (4 : Int32), (5 : Int32), (6 : Int32), (7 : Int32), (8 : Int32)] (List.forall_mem_cons.mpr ⟨c1_0, List.forall_mem_cons.mpr ⟨c1_1, List.forall_mem_cons.mpr ⟨c1_2, List.forall_mem_cons.mpr ⟨c1_3, List.forall_mem_cons.mpr ⟨c1_4, List.forall_mem_cons.mpr ⟨c1_5, List.forall_mem_cons.mpr ⟨c1_6, List.forall_mem_cons.mpr ⟨c1_7, List.forall_mem_cons.mpr ⟨c1_8, (fun _ q => absurd q List.not_mem_nil)⟩⟩⟩⟩⟩⟩⟩⟩⟩) (by decide) 111 (by decide) ?_
  refine u_aload_n (pc := 111) hC dX12_toldOf_111 rfl 0 rfl ?_
  refine u_iconst (pc := 112) hC ic_1 dX12_toldOf_112 ?_
  refine u_aload_n (pc := 113) hC dX12_toldOf_113 rfl 0 rfl ?_
  refine u_iload_n (pc := 114) hC dX12_toldOf_114 rfl 1 rfl ?_
  refine u_iconst (pc := 115) hC ic_2 dX12_toldOf_115 ?_
  obtain ⟨r116, q116, h⟩ := of_bd h
  refine k_RX12_150 (pc := 116) hC (av := [.int a1, .int (2 : Int32)]) (rest := [.int (1 : Int32), .ref (gad (cG C) k0)]) (c_X12_of (d := d - 1) (by omega) hk0 q116) (by omega) (Nat.le_of_ble_eq_true rfl) hk0 rfl rfl dX12_toldOf_116 ?_
  refine u_aload_n (pc := 119) hC dX12_toldOf_119 rfl 0 rfl ?_
  refine u_iload_n (pc := 120) hC dX12_toldOf_120 rfl 1 rfl ?_
  obtain ⟨r121, q121, h⟩ := of_bd h
  refine k_RX12_191 (pc := 121) hC (av := [.int a1]) (rest := [.int r116, .int (1 : Int32), .ref (gad (cG C) k0)]) (c_X12_openOf (d := d - 1) (by omega) hk0 q121) (by omega) (Nat.le_of_ble_eq_true rfl) hk0 rfl rfl dX12_toldOf_121 ?_
  refine u_aload_n (pc := 124) hC dX12_toldOf_124 rfl 0 rfl ?_
  refine u_iload_n (pc := 125) hC dX12_toldOf_125 rfl 1 rfl ?_
  refine u_iconst (pc := 126) hC ic_4 dX12_toldOf_126 ?_
  obtain ⟨r127, q127, h⟩ := of_bd h
  refine k_RX12_150 (pc := 127) hC (av := [.int a1, .int (4 : Int32)]) (rest := [.int r121, .int r116, .int (1 : Int32), .ref (gad (cG C) k0)]) (c_X12_of (d := d - 1) (by omega) hk0 q127) (by omega) (Nat.le_of_ble_eq_true rfl) hk0 rfl rfl dX12_toldOf_127 ?_
  obtain ⟨p130, q130, h⟩ := of_bd h
  refine k_RX12_131 (pc := 130) hC (av := [.int (1 : Int32), .int r116, .int r121, .int r127]) (rest := []) (c_X12_textGives (d := d - 1) (by omega) hk0 q130) (by omega) (Nat.le_of_ble_eq_true rfl) hk0 rfl rfl dX12_toldOf_130 ?_
  obtain rfl := Option.some.inj h
  exact u_iret (pc := 133) hC hQ hr ⟨rfl, rfl⟩ dX12_toldOf_133
set_option maxHeartbeats 4000000 in
set_option maxRecDepth 100000 in
theorem c_X12_ofDebtor {l : Launch} {G : GG} {d : Nat} (hd : 106 ≤ d) {μ : Mem} {k0 : Nat} (hk0 : isC 12 k0) {a1 : Int32} {a2 : Int32} {r : Int32 × Mem} (h : f_X12_ofDebtor μ k0 a1 a2 = some r) : CT l yX12_ofDebtor cX12_ofDebtor 3 (some .int) d G [.ref (gad G k0), .int a1, .int a2] μ (RK (some (.int r.1)) r.2) := by
  refine ct_start (by decide) (Nat.le_of_ble_eq_true rfl) (fun C hl1 hG1 hC hQ hr => ?_)
  subst hl1; subst hG1
  have hC : CxOK C cX12_ofDebtor 3 RX12 d := hC
  show UW C 3 μ 0 [(0, .ref (gad (cG C) k0)), (1, .int a1), (2, .int a2)] []
  have jb29 : ∀ (μ_29 : Mem), f_X12_ofDebtor_j29 μ_29 k0 a1 a2 = some r → UW C 3 μ_29 29 [(0, .ref (gad (cG C) k0))] [] := by
    intro μ_29 h
    unfold f_X12_ofDebtor_j29 at h
    refine u_aload_n (pc := 29) hC dX12_ofDebtor_29 rfl 0 rfl ?_
    refine u_iconst (pc := 30) hC ic_1 dX12_ofDebtor_30 ?_
    obtain ⟨p31, q31, h⟩ := of_bd h
    refine k_RX12_119 (pc := 31) hC (av := [.int (1 : Int32)]) (rest := []) (c_X12_finds (d := d - 1) (by omega) hk0 q31) (by omega) (Nat.le_of_ble_eq_true rfl) hk0 rfl rfl dX12_ofDebtor_31 ?_
    obtain rfl := Option.some.inj h
    exact u_iret (pc := 34) hC hQ hr ⟨rfl, rfl⟩ dX12_ofDebtor_34
  unfold f_X12_ofDebtor at h
  refine u_aload_n (pc := 0) hC dX12_ofDebtor_0 rfl 0 rfl ?_
  refine u_iload_n (pc := 1) hC dX12_ofDebtor_1 rfl 1 rfl ?_
  obtain ⟨r2, q2, h⟩ := of_bd h
  refine k_RX12_197 (pc := 2) hC (av := [.int a1]) (rest := []) (c_X12_isDebtor (d := d - 1) (by omega) hk0 q2) (by omega) (Nat.le_of_ble_eq_true rfl) hk0 rfl rfl dX12_ofDebtor_2 ?_
  refine u_if_eq (pc := 5) hC (tgt := 29) dX12_ofDebtor_5 (by decide) (fun c5 => ?_) (fun c5 => ?_)
  · replace h := of_t c5 h
    refine u_sub [0] rfl ?_
    exact jb29 μ h
  · replace h := of_f c5 h
    refine u_iload_n (pc := 8) hC dX12_ofDebtor_8 rfl 2 rfl ?_
    refine u_i2l (pc := 9) hC dX12_ofDebtor_9 ?_
    refine u_lconst (pc := 10) hC (v := (0 : Int64)) rfl dX12_ofDebtor_10 ?_
    refine u_ldc2 (pc := 11) hC (v := (9 : Int64)) mQ_RX12_148 dX12_ofDebtor_11 ?_
    obtain ⟨r14, q14, h⟩ := of_bd h
    refine k_RX12_57 (pc := 14) hC (av := [.long a2.toInt64, .long (0 : Int64), .long (9 : Int64)]) (rest := []) (c_X12_in (d := d - 1) (by omega)  q14) (by omega) (Nat.le_of_ble_eq_true rfl) rfl rfl dX12_ofDebtor_14 ?_
    refine u_if_eq (pc := 17) hC (tgt := 29) dX12_ofDebtor_17 (by decide) (fun c17 => ?_) (fun c17 => ?_)
    · replace h := of_t c17 h
      refine u_sub [0] rfl ?_
      exact jb29 μ h
    · replace h := of_f c17 h
      refine u_aload_n (pc := 20) hC dX12_ofDebtor_20 rfl 0 rfl ?_
      refine u_iload_n (pc := 21) hC dX12_ofDebtor_21 rfl 1 rfl ?_
      refine u_iload_n (pc := 22) hC dX12_ofDebtor_22 rfl 2 rfl ?_
      obtain ⟨p23, q23, h⟩ := of_bd h
      refine k_RX12_200 (pc := 23) hC (av := [.int a1, .int a2]) (rest := []) (c_X12_toldOf (d := d - 1) (by omega) hk0 q23) (by omega) (Nat.le_of_ble_eq_true rfl) hk0 rfl rfl dX12_ofDebtor_23 ?_
      refine u_goto (pc := 26) hC 34 dX12_ofDebtor_26 (by decide) ?_
      obtain rfl := Option.some.inj h
      exact u_iret (pc := 34) hC hQ hr ⟨rfl, rfl⟩ dX12_ofDebtor_34
set_option maxHeartbeats 4000000 in
set_option maxRecDepth 100000 in
theorem c_X12_book {l : Launch} {G : GG} {d : Nat} (hd : 2 ≤ d) {μ : Mem} {k0 : Nat} (hk0 : isC 12 k0) {a1 : Int32} {a2 : Int32} {a3 : Int32} {r : Int32 × Mem} (h : f_X12_book μ k0 a1 a2 a3 = some r) : CT l yX12_book cX12_book 4 (some .int) d G [.ref (gad G k0), .int a1, .int a2, .int a3] μ (RK (some (.int r.1)) r.2) := by
  refine ct_start (by decide) (Nat.le_of_ble_eq_true rfl) (fun C hl1 hG1 hC hQ hr => ?_)
  subst hl1; subst hG1
  have hC : CxOK C cX12_book 4 RX12 d := hC
  show UW C 4 μ 0 [(0, .ref (gad (cG C) k0)), (1, .int a1), (2, .int a2), (3, .int a3)] []
  have jb64 : ∀ (μ_64 : Mem) (kt0_64 : Nat) (hkt0_64 : isC 12 kt0_64) (vt1_64 : Int32) (vt2_64 : Int32), f_X12_book_j64 μ_64 k0 a1 a2 a3 kt0_64 vt1_64 vt2_64 = some r → UW C 4 μ_64 64 [] [.int vt2_64, .int vt1_64, .ref (gad (cG C) kt0_64)] := by
    intro μ_64 kt0_64 hkt0_64 vt1_64 vt2_64 h
    unfold f_X12_book_j64 at h
    obtain ⟨r64, q64, h⟩ := of_bd h
    refine k_RX12_150 (pc := 64) hC (av := [.int vt1_64, .int vt2_64]) (rest := []) (c_X12_of (d := d - 1) (by omega) hkt0_64 q64) (by omega) (Nat.le_of_ble_eq_true rfl) hkt0_64 rfl rfl dX12_book_64 ?_
    obtain rfl := Option.some.inj h
    exact u_iret (pc := 67) hC hQ hr ⟨rfl, rfl⟩ dX12_book_67
  have jb18 : ∀ (μ_18 : Mem), f_X12_book_j18 μ_18 k0 a1 a2 a3 = some r → UW C 4 μ_18 18 [(0, .ref (gad (cG C) k0))] [] := by
    intro μ_18 h
    unfold f_X12_book_j18 at h
    refine u_aload_n (pc := 18) hC dX12_book_18 rfl 0 rfl ?_
    refine u_iconst (pc := 19) hC ic_1 dX12_book_19 ?_
    obtain ⟨p20, q20, h⟩ := of_bd h
    refine k_RX12_119 (pc := 20) hC (av := [.int (1 : Int32)]) (rest := []) (c_X12_finds (d := d - 1) (by omega) hk0 q20) (by omega) (Nat.le_of_ble_eq_true rfl) hk0 rfl rfl dX12_book_20 ?_
    obtain rfl := Option.some.inj h
    exact u_iret (pc := 23) hC hQ hr ⟨rfl, rfl⟩ dX12_book_23
  unfold f_X12_book at h
  refine u_aload_n (pc := 0) hC dX12_book_0 rfl 0 rfl ?_
  refine u_iload_n (pc := 1) hC dX12_book_1 rfl 1 rfl ?_
  obtain ⟨r2, q2, h⟩ := of_bd h
  refine k_RX12_197 (pc := 2) hC (av := [.int a1]) (rest := []) (c_X12_isDebtor (d := d - 1) (by omega) hk0 q2) (by omega) (Nat.le_of_ble_eq_true rfl) hk0 rfl rfl dX12_book_2 ?_
  refine u_if_eq (pc := 5) hC (tgt := 18) dX12_book_5 (by decide) (fun c5 => ?_) (fun c5 => ?_)
  · replace h := of_t c5 h
    refine u_sub [0] rfl ?_
    exact jb18 μ h
  · replace h := of_f c5 h
    refine u_iload_n (pc := 8) hC dX12_book_8 rfl 3 rfl ?_
    refine u_i2l (pc := 9) hC dX12_book_9 ?_
    refine u_lconst (pc := 10) hC (v := (0 : Int64)) rfl dX12_book_10 ?_
    refine u_lconst (pc := 11) hC (v := (1 : Int64)) rfl dX12_book_11 ?_
    obtain ⟨r12, q12, h⟩ := of_bd h
    refine k_RX12_57 (pc := 12) hC (av := [.long a3.toInt64, .long (0 : Int64), .long (1 : Int64)]) (rest := []) (c_X12_in (d := d - 1) (by omega)  q12) (by omega) (Nat.le_of_ble_eq_true rfl) rfl rfl dX12_book_12 ?_
    refine u_if_ne (pc := 15) hC (tgt := 24) dX12_book_15 (by decide) (fun c15 => ?_) (fun c15 => ?_)
    · replace h := of_t c15 h
      refine u_iload_n (pc := 24) hC dX12_book_24 rfl 2 rfl ?_
      refine u_i2l (pc := 25) hC dX12_book_25 ?_
      refine u_lconst (pc := 26) hC (v := (0 : Int64)) rfl dX12_book_26 ?_
      refine u_aload_n (pc := 27) hC dX12_book_27 rfl 0 rfl ?_
      refine u_iload_n (pc := 28) hC dX12_book_28 rfl 1 rfl ?_
      refine u_iconst (pc := 29) hC ic_4 dX12_book_29 ?_
      obtain ⟨r30, q30, h⟩ := of_bd h
      refine k_RX12_150 (pc := 30) hC (av := [.int a1, .int (4 : Int32)]) (rest := [.long (0 : Int64), .long a2.toInt64]) (c_X12_of (d := d - 1) (by omega) hk0 q30) (by omega) (Nat.le_of_ble_eq_true rfl) hk0 rfl rfl dX12_book_30 ?_
      refine u_iconst (pc := 33) hC ic_1 dX12_book_33 ?_
      refine u_isub (pc := 34) hC dX12_book_34 ?_
      refine u_i2l (pc := 35) hC dX12_book_35 ?_
      obtain ⟨r36, q36, h⟩ := of_bd h
      refine k_RX12_57 (pc := 36) hC (av := [.long a2.toInt64, .long (0 : Int64), .long ((r30 - (1 : Int32)).toInt64)]) (rest := []) (c_X12_in (d := d - 1) (by omega)  q36) (by omega) (Nat.le_of_ble_eq_true rfl) rfl rfl dX12_book_36 ?_
      refine u_if_ne (pc := 39) hC (tgt := 48) dX12_book_39 (by decide) (fun c39 => ?_) (fun c39 => ?_)
      · replace h := of_t c39 h
        refine u_aload_n (pc := 48) hC dX12_book_48 rfl 0 rfl ?_
        refine u_iload_n (pc := 49) hC dX12_book_49 rfl 1 rfl ?_
        refine u_iload_n (pc := 50) hC dX12_book_50 rfl 3 rfl ?_
        refine u_if_ne (pc := 51) hC (tgt := 60) dX12_book_51 (by decide) (fun c51 => ?_) (fun c51 => ?_)
        · replace h := of_t c51 h
          refine u_bipush (pc := 60) hC bc_13 dX12_book_60 ?_
          refine u_iload_n (pc := 62) hC dX12_book_62 rfl 2 rfl ?_
          refine u_iadd (pc := 63) hC dX12_book_63 ?_
          refine u_sub [] rfl ?_
          exact jb64 μ k0 hk0 a1 ((13 : Int32) + a2) h
        · replace h := of_f (fun q => q c51) h
          refine u_iconst (pc := 54) hC ic_5 dX12_book_54 ?_
          refine u_iload_n (pc := 55) hC dX12_book_55 rfl 2 rfl ?_
          refine u_iadd (pc := 56) hC dX12_book_56 ?_
          refine u_goto (pc := 57) hC 64 dX12_book_57 (by decide) ?_
          refine u_sub [] rfl ?_
          exact jb64 μ k0 hk0 a1 ((5 : Int32) + a2) h
      · replace h := of_f (fun q => q c39) h
        refine u_aload_n (pc := 42) hC dX12_book_42 rfl 0 rfl ?_
        refine u_iconst (pc := 43) hC ic_2 dX12_book_43 ?_
        obtain ⟨p44, q44, h⟩ := of_bd h
        refine k_RX12_119 (pc := 44) hC (av := [.int (2 : Int32)]) (rest := []) (c_X12_finds (d := d - 1) (by omega) hk0 q44) (by omega) (Nat.le_of_ble_eq_true rfl) hk0 rfl rfl dX12_book_44 ?_
        obtain rfl := Option.some.inj h
        exact u_iret (pc := 47) hC hQ hr ⟨rfl, rfl⟩ dX12_book_47
    · replace h := of_f (fun q => q c15) h
      refine u_sub [0] rfl ?_
      exact jb18 μ h
set_option maxHeartbeats 4000000 in
set_option maxRecDepth 100000 in
theorem c_X12_become {l : Launch} {G : GG} {d : Nat} (hd : 2 ≤ d) {μ : Mem} {k0 : Nat} (hk0 : isC 12 k0) {a1 : Int32} {a2 : Int32} {r : Int32 × Mem} (h : f_X12_become μ k0 a1 a2 = some r) : CT l yX12_become cX12_become 4 (some .int) d G [.ref (gad G k0), .int a1, .int a2] μ (RK (some (.int r.1)) r.2) := by
  refine ct_start (by decide) (Nat.le_of_ble_eq_true rfl) (fun C hl1 hG1 hC hQ hr => ?_)
  subst hl1; subst hG1
  have hC : CxOK C cX12_become 4 RX12 d := hC
  show UW C 4 μ 0 [(0, .ref (gad (cG C) k0)), (1, .int a1), (2, .int a2)] []
  have jb20 : ∀ (μ_20 : Mem), f_X12_become_j20 μ_20 k0 a1 a2 = some r → UW C 4 μ_20 20 [(0, .ref (gad (cG C) k0))] [] := by
    intro μ_20 h
    unfold f_X12_become_j20 at h
    refine u_aload_n (pc := 20) hC dX12_become_20 rfl 0 rfl ?_
    refine u_iconst (pc := 21) hC ic_1 dX12_become_21 ?_
    obtain ⟨p22, q22, h⟩ := of_bd h
    refine k_RX12_119 (pc := 22) hC (av := [.int (1 : Int32)]) (rest := []) (c_X12_finds (d := d - 1) (by omega) hk0 q22) (by omega) (Nat.le_of_ble_eq_true rfl) hk0 rfl rfl dX12_become_22 ?_
    obtain rfl := Option.some.inj h
    exact u_iret (pc := 25) hC hQ hr ⟨rfl, rfl⟩ dX12_become_25
  unfold f_X12_become at h
  refine u_aload_n (pc := 0) hC dX12_become_0 rfl 0 rfl ?_
  refine u_iload_n (pc := 1) hC dX12_become_1 rfl 1 rfl ?_
  obtain ⟨r2, q2, h⟩ := of_bd h
  refine k_RX12_197 (pc := 2) hC (av := [.int a1]) (rest := []) (c_X12_isDebtor (d := d - 1) (by omega) hk0 q2) (by omega) (Nat.le_of_ble_eq_true rfl) hk0 rfl rfl dX12_become_2 ?_
  refine u_if_eq (pc := 5) hC (tgt := 20) dX12_become_5 (by decide) (fun c5 => ?_) (fun c5 => ?_)
  · replace h := of_t c5 h
    refine u_sub [0] rfl ?_
    exact jb20 μ h
  · replace h := of_f c5 h
    refine u_iload_n (pc := 8) hC dX12_become_8 rfl 2 rfl ?_
    refine u_i2l (pc := 9) hC dX12_become_9 ?_
    refine u_lconst (pc := 10) hC (v := (0 : Int64)) rfl dX12_become_10 ?_
    refine u_ldc2 (pc := 11) hC (v := (69 : Int64)) mQ_RX12_184 dX12_become_11 ?_
    obtain ⟨r14, q14, h⟩ := of_bd h
    refine k_RX12_57 (pc := 14) hC (av := [.long a2.toInt64, .long (0 : Int64), .long (69 : Int64)]) (rest := []) (c_X12_in (d := d - 1) (by omega)  q14) (by omega) (Nat.le_of_ble_eq_true rfl) rfl rfl dX12_become_14 ?_
    refine u_if_ne (pc := 17) hC (tgt := 26) dX12_become_17 (by decide) (fun c17 => ?_) (fun c17 => ?_)
    · replace h := of_t c17 h
      refine u_aload_n (pc := 26) hC dX12_become_26 rfl 0 rfl ?_
      refine u_iload_n (pc := 27) hC dX12_become_27 rfl 1 rfl ?_
      refine u_iconst (pc := 28) hC ic_0 dX12_become_28 ?_
      obtain ⟨r29, q29, h⟩ := of_bd h
      refine k_RX12_150 (pc := 29) hC (av := [.int a1, .int (0 : Int32)]) (rest := []) (c_X12_of (d := d - 1) (by omega) hk0 q29) (by omega) (Nat.le_of_ble_eq_true rfl) hk0 rfl rfl dX12_become_29 ?_
      refine u_istore_n (pc := 32) hC dX12_become_32 rfl [(3, .int r29), (0, .ref (gad (cG C) k0)), (1, .int a1), (2, .int a2)] (by decide) rfl ?_
      refine u_aload_n (pc := 33) hC dX12_become_33 rfl 1 rfl ?_
      refine u_iload_n (pc := 34) hC dX12_become_34 rfl 2 rfl ?_
      refine u_iconst (pc := 35) hC ic_0 dX12_become_35 ?_
      refine u_iload_n (pc := 36) hC dX12_become_36 rfl 3 rfl ?_
      refine u_bipush (pc := 37) hC bc_10 dX12_become_37 ?_
      refine u_idiv (pc := 39) hC (by decide) dX12_become_39 ?_
      obtain ⟨μ40, q40, h⟩ := of_bd h
      refine k_RX12_174 (pc := 40) hC (av := [.int a1, .int (0 : Int32), .int (a2 / (10 : Int32))]) (rest := []) (c_X12_sets (d := d - 1) (by omega) hk0 q40) (by omega) (Nat.le_of_ble_eq_true rfl) hk0 rfl rfl dX12_become_40 ?_
      refine u_aload_n (pc := 43) hC dX12_become_43 rfl 1 rfl ?_
      refine u_iload_n (pc := 44) hC dX12_become_44 rfl 2 rfl ?_
      refine u_iconst (pc := 45) hC ic_1 dX12_become_45 ?_
      refine u_iload_n (pc := 46) hC dX12_become_46 rfl 3 rfl ?_
      refine u_bipush (pc := 47) hC bc_10 dX12_become_47 ?_
      refine u_irem (pc := 49) hC (by decide) dX12_become_49 ?_
      obtain ⟨μ50, q50, h⟩ := of_bd h
      refine k_RX12_174 (pc := 50) hC (av := [.int a1, .int (1 : Int32), .int (jrem a2 (10 : Int32))]) (rest := []) (c_X12_sets (d := d - 1) (by omega) hk0 q50) (by omega) (Nat.le_of_ble_eq_true rfl) hk0 rfl rfl dX12_become_50 ?_
      refine u_iload_n (pc := 53) hC dX12_become_53 rfl 0 rfl ?_
      obtain rfl := Option.some.inj h
      exact u_iret (pc := 54) hC hQ hr ⟨rfl, rfl⟩ dX12_become_54
    · replace h := of_f (fun q => q c17) h
      refine u_sub [0] rfl ?_
      exact jb20 μ h
set_option maxHeartbeats 4000000 in
set_option maxRecDepth 100000 in
theorem c_X12_above {l : Launch} {G : GG} {d : Nat} (hd : 0 ≤ d) {μ : Mem} {a0 : Int32} {r : Int32} (h : f_X12_above a0 = some r) : CT l yX12_above cX12_above 1 (some .int) d G [.int a0] μ (RK (some (.int r)) μ) := by
  refine ct_start (by decide) (Nat.le_of_ble_eq_true rfl) (fun C hl1 hG1 hC hQ hr => ?_)
  subst hl1; subst hG1
  have hC : CxOK C cX12_above 1 RX12 d := hC
  show UW C 1 μ 0 [(0, .int a0)] []
  unfold f_X12_above at h
  refine u_iload_n (pc := 0) hC dX12_above_0 rfl 0 rfl ?_
  refine u_iconst (pc := 1) hC ic_4 dX12_above_1 ?_
  refine u_icmp_ge (pc := 2) hC (tgt := 9) dX12_above_2 (by decide) (fun c2 => ?_) (fun c2 => ?_)
  · replace h := of_t c2 h
    refine u_iload_n (pc := 9) hC dX12_above_9 rfl 0 rfl ?_
    refine u_iconst (pc := 10) hC ic_3 dX12_above_10 ?_
    refine u_isub (pc := 11) hC dX12_above_11 ?_
    obtain rfl := Option.some.inj h
    exact u_iret (pc := 12) hC hQ hr ⟨rfl, rfl⟩ dX12_above_12
  · replace h := of_f c2 h
    refine u_iconst (pc := 5) hC ic_0 dX12_above_5 ?_
    refine u_goto (pc := 6) hC 12 dX12_above_6 (by decide) ?_
    obtain rfl := Option.some.inj h
    exact u_iret (pc := 12) hC hQ hr ⟨rfl, rfl⟩ dX12_above_12
set_option maxHeartbeats 4000000 in
set_option maxRecDepth 100000 in
theorem c_X12_as {l : Launch} {G : GG} {d : Nat} (hd : 2 ≤ d) {μ : Mem} {k0 : Nat} (hk0 : isC 12 k0) {a1 : Int32} {a2 : Int32} {r : Int32 × Mem} (h : f_X12_as μ k0 a1 a2 = some r) : CT l yX12_as cX12_as 4 (some .int) d G [.ref (gad G k0), .int a1, .int a2] μ (RK (some (.int r.1)) r.2) := by
  refine ct_start (by decide) (Nat.le_of_ble_eq_true rfl) (fun C hl1 hG1 hC hQ hr => ?_)
  subst hl1; subst hG1
  have hC : CxOK C cX12_as 4 RX12 d := hC
  show UW C 4 μ 0 [(0, .ref (gad (cG C) k0)), (1, .int a1), (2, .int a2)] []
  have jb50 : ∀ (μ_50 : Mem), f_X12_as_j50 μ_50 k0 a1 a2 = some r → UW C 4 μ_50 50 [(0, .ref (gad (cG C) k0)), (1, .int a1)] [] := by
    intro μ_50 h
    unfold f_X12_as_j50 at h
    refine u_aload_n (pc := 50) hC dX12_as_50 rfl 0 rfl ?_
    refine u_iload_n (pc := 51) hC dX12_as_51 rfl 1 rfl ?_
    refine u_iconst (pc := 52) hC ic_1 dX12_as_52 ?_
    obtain ⟨r53, q53, h⟩ := of_bd h
    refine k_RX12_150 (pc := 53) hC (av := [.int a1, .int (1 : Int32)]) (rest := []) (c_X12_of (d := d - 1) (by omega) hk0 q53) (by omega) (Nat.le_of_ble_eq_true rfl) hk0 rfl rfl dX12_as_53 ?_
    refine u_goto (pc := 56) hC 64 dX12_as_56 (by decide) ?_
    obtain rfl := Option.some.inj h
    exact u_iret (pc := 64) hC hQ hr ⟨rfl, rfl⟩ dX12_as_64
  have jb20 : ∀ (μ_20 : Mem), f_X12_as_j20 μ_20 k0 a1 a2 = some r → UW C 4 μ_20 20 [(0, .ref (gad (cG C) k0))] [] := by
    intro μ_20 h
    unfold f_X12_as_j20 at h
    refine u_aload_n (pc := 20) hC dX12_as_20 rfl 0 rfl ?_
    refine u_iconst (pc := 21) hC ic_1 dX12_as_21 ?_
    obtain ⟨p22, q22, h⟩ := of_bd h
    refine k_RX12_119 (pc := 22) hC (av := [.int (1 : Int32)]) (rest := []) (c_X12_finds (d := d - 1) (by omega) hk0 q22) (by omega) (Nat.le_of_ble_eq_true rfl) hk0 rfl rfl dX12_as_22 ?_
    obtain rfl := Option.some.inj h
    exact u_iret (pc := 25) hC hQ hr ⟨rfl, rfl⟩ dX12_as_25
  unfold f_X12_as at h
  refine u_aload_n (pc := 0) hC dX12_as_0 rfl 0 rfl ?_
  refine u_iload_n (pc := 1) hC dX12_as_1 rfl 1 rfl ?_
  obtain ⟨r2, q2, h⟩ := of_bd h
  refine k_RX12_197 (pc := 2) hC (av := [.int a1]) (rest := []) (c_X12_isDebtor (d := d - 1) (by omega) hk0 q2) (by omega) (Nat.le_of_ble_eq_true rfl) hk0 rfl rfl dX12_as_2 ?_
  refine u_if_eq (pc := 5) hC (tgt := 20) dX12_as_5 (by decide) (fun c5 => ?_) (fun c5 => ?_)
  · replace h := of_t c5 h
    refine u_sub [0] rfl ?_
    exact jb20 μ h
  · replace h := of_f c5 h
    refine u_iload_n (pc := 8) hC dX12_as_8 rfl 2 rfl ?_
    refine u_i2l (pc := 9) hC dX12_as_9 ?_
    refine u_lconst (pc := 10) hC (v := (0 : Int64)) rfl dX12_as_10 ?_
    refine u_ldc2 (pc := 11) hC (v := (6 : Int64)) mQ_RX12_203 dX12_as_11 ?_
    obtain ⟨r14, q14, h⟩ := of_bd h
    refine k_RX12_57 (pc := 14) hC (av := [.long a2.toInt64, .long (0 : Int64), .long (6 : Int64)]) (rest := []) (c_X12_in (d := d - 1) (by omega)  q14) (by omega) (Nat.le_of_ble_eq_true rfl) rfl rfl dX12_as_14 ?_
    refine u_if_ne (pc := 17) hC (tgt := 26) dX12_as_17 (by decide) (fun c17 => ?_) (fun c17 => ?_)
    · replace h := of_t c17 h
      refine u_aload_n (pc := 26) hC dX12_as_26 rfl 0 rfl ?_
      refine u_iload_n (pc := 27) hC dX12_as_27 rfl 1 rfl ?_
      refine u_iconst (pc := 28) hC ic_0 dX12_as_28 ?_
      obtain ⟨r29, q29, h⟩ := of_bd h
      refine k_RX12_150 (pc := 29) hC (av := [.int a1, .int (0 : Int32)]) (rest := []) (c_X12_of (d := d - 1) (by omega) hk0 q29) (by omega) (Nat.le_of_ble_eq_true rfl) hk0 rfl rfl dX12_as_29 ?_
      refine u_istore_n (pc := 32) hC dX12_as_32 rfl [(3, .int r29), (0, .ref (gad (cG C) k0)), (1, .int a1), (2, .int a2)] (by decide) rfl ?_
      refine u_iload_n (pc := 33) hC dX12_as_33 rfl 3 rfl ?_
      refine u_if_eq (pc := 34) hC (tgt := 50) dX12_as_34 (by decide) (fun c34 => ?_) (fun c34 => ?_)
      · replace h := of_t c34 h
        refine u_sub [1, 2] rfl ?_
        exact jb50 μ h
      · replace h := of_f c34 h
        refine u_iload_n (pc := 37) hC dX12_as_37 rfl 3 rfl ?_
        refine u_iload_n (pc := 38) hC dX12_as_38 rfl 0 rfl ?_
        refine u_icmp_eq (pc := 39) hC (tgt := 50) dX12_as_39 (by decide) (fun c39 => ?_) (fun c39 => ?_)
        · replace h := of_t c39 h
          refine u_sub [1, 2] rfl ?_
          exact jb50 μ h
        · replace h := of_f c39 h
          refine u_iload_n (pc := 42) hC dX12_as_42 rfl 3 rfl ?_
          refine u_iload_n (pc := 43) hC dX12_as_43 rfl 0 rfl ?_
          obtain ⟨r44, q44, h⟩ := of_bd h
          refine k_RX12_205 (pc := 44) hC (av := [.int r29]) (rest := [.int a2]) (c_X12_above (d := d - 1) (by omega)  q44) (by omega) (Nat.le_of_ble_eq_true rfl) rfl rfl dX12_as_44 ?_
          refine u_icmp_ne (pc := 47) hC (tgt := 59) dX12_as_47 (by decide) (fun c47 => ?_) (fun c47 => ?_)
          · replace h := of_t c47 h
            refine u_aload_n (pc := 59) hC dX12_as_59 rfl 1 rfl ?_
            refine u_iconst (pc := 60) hC ic_5 dX12_as_60 ?_
            obtain ⟨p61, q61, h⟩ := of_bd h
            refine k_RX12_119 (pc := 61) hC (av := [.int (5 : Int32)]) (rest := []) (c_X12_finds (d := d - 1) (by omega) hk0 q61) (by omega) (Nat.le_of_ble_eq_true rfl) hk0 rfl rfl dX12_as_61 ?_
            obtain rfl := Option.some.inj h
            exact u_iret (pc := 64) hC hQ hr ⟨rfl, rfl⟩ dX12_as_64
          · replace h := of_f (fun q => q c47) h
            refine u_sub [1, 2] rfl ?_
            exact jb50 μ h
    · replace h := of_f (fun q => q c17) h
      refine u_sub [0] rfl ?_
      exact jb20 μ h
set_option maxHeartbeats 4000000 in
set_option maxRecDepth 100000 in
theorem c_X12_lends {l : Launch} {G : GG} {d : Nat} (hd : 1 ≤ d) {μ : Mem} {k0 : Nat} (hk0 : isC 12 k0) {a1 : Int32} {a2 : Int32} {r : Mem} (h : f_X12_lends μ k0 a1 a2 = some r) : CT l yX12_lends cX12_lends 3 none d G [.ref (gad G k0), .int a1, .int a2] μ (RK none r) := by
  refine ct_start (by decide) (Nat.le_of_ble_eq_true rfl) (fun C hl1 hG1 hC hQ hr => ?_)
  subst hl1; subst hG1
  have hC : CxOK C cX12_lends 3 RX12 d := hC
  show UW C 3 μ 0 [(0, .ref (gad (cG C) k0)), (1, .int a1), (2, .int a2)] []
  unfold f_X12_lends at h
  refine u_aload_n (pc := 0) hC dX12_lends_0 rfl 0 rfl ?_
  refine u_iload_n (pc := 1) hC dX12_lends_1 rfl 1 rfl ?_
  refine u_iconst (pc := 2) hC ic_2 dX12_lends_2 ?_
  refine u_aload_n (pc := 3) hC dX12_lends_3 rfl 0 rfl ?_
  refine u_iload_n (pc := 4) hC dX12_lends_4 rfl 1 rfl ?_
  refine u_iconst (pc := 5) hC ic_2 dX12_lends_5 ?_
  obtain ⟨r6, q6, h⟩ := of_bd h
  refine k_RX12_150 (pc := 6) hC (av := [.int a1, .int (2 : Int32)]) (rest := [.int (2 : Int32), .int a1, .ref (gad (cG C) k0)]) (c_X12_of (d := d - 1) (by omega) hk0 q6) (by omega) (Nat.le_of_ble_eq_true rfl) hk0 rfl rfl dX12_lends_6 ?_
  refine u_iload_n (pc := 9) hC dX12_lends_9 rfl 2 rfl ?_
  refine u_iadd (pc := 10) hC dX12_lends_10 ?_
  refine u_iconst (pc := 11) hC ic_0 dX12_lends_11 ?_
  refine u_sipush (pc := 12) hC sc_9999 dX12_lends_12 ?_
  obtain ⟨r15, q15, h⟩ := of_bd h
  refine k_RX12_128 (pc := 15) hC (av := [.int (r6 + a2), .int (0 : Int32), .int (9999 : Int32)]) (rest := [.int (2 : Int32), .int a1, .ref (gad (cG C) k0)]) (c_X12_held (d := d - 1) (by omega)  q15) (by omega) (Nat.le_of_ble_eq_true rfl) rfl rfl dX12_lends_15 ?_
  obtain ⟨μ18, q18, h⟩ := of_bd h
  refine k_RX12_174 (pc := 18) hC (av := [.int a1, .int (2 : Int32), .int r15]) (rest := []) (c_X12_sets (d := d - 1) (by omega) hk0 q18) (by omega) (Nat.le_of_ble_eq_true rfl) hk0 rfl rfl dX12_lends_18 ?_
  obtain rfl := Option.some.inj h
  exact u_vret (pc := 21) hC hQ hr ⟨rfl, rfl⟩ dX12_lends_21
set_option maxHeartbeats 4000000 in
set_option maxRecDepth 100000 in
theorem c_X12_lend {l : Launch} {G : GG} {d : Nat} (hd : 2 ≤ d) {μ : Mem} {k0 : Nat} (hk0 : isC 12 k0) {a1 : Int32} {a2 : Int32} {r : Int32 × Mem} (h : f_X12_lend μ k0 a1 a2 = some r) : CT l yX12_lend cX12_lend 3 (some .int) d G [.ref (gad G k0), .int a1, .int a2] μ (RK (some (.int r.1)) r.2) := by
  refine ct_start (by decide) (Nat.le_of_ble_eq_true rfl) (fun C hl1 hG1 hC hQ hr => ?_)
  subst hl1; subst hG1
  have hC : CxOK C cX12_lend 3 RX12 d := hC
  show UW C 3 μ 0 [(0, .ref (gad (cG C) k0)), (1, .int a1), (2, .int a2)] []
  have jb20 : ∀ (μ_20 : Mem), f_X12_lend_j20 μ_20 k0 a1 a2 = some r → UW C 3 μ_20 20 [(0, .ref (gad (cG C) k0))] [] := by
    intro μ_20 h
    unfold f_X12_lend_j20 at h
    refine u_aload_n (pc := 20) hC dX12_lend_20 rfl 0 rfl ?_
    refine u_iconst (pc := 21) hC ic_1 dX12_lend_21 ?_
    obtain ⟨p22, q22, h⟩ := of_bd h
    refine k_RX12_119 (pc := 22) hC (av := [.int (1 : Int32)]) (rest := []) (c_X12_finds (d := d - 1) (by omega) hk0 q22) (by omega) (Nat.le_of_ble_eq_true rfl) hk0 rfl rfl dX12_lend_22 ?_
    obtain rfl := Option.some.inj h
    exact u_iret (pc := 25) hC hQ hr ⟨rfl, rfl⟩ dX12_lend_25
  unfold f_X12_lend at h
  refine u_aload_n (pc := 0) hC dX12_lend_0 rfl 0 rfl ?_
  refine u_iload_n (pc := 1) hC dX12_lend_1 rfl 1 rfl ?_
  obtain ⟨r2, q2, h⟩ := of_bd h
  refine k_RX12_197 (pc := 2) hC (av := [.int a1]) (rest := []) (c_X12_isDebtor (d := d - 1) (by omega) hk0 q2) (by omega) (Nat.le_of_ble_eq_true rfl) hk0 rfl rfl dX12_lend_2 ?_
  refine u_if_eq (pc := 5) hC (tgt := 20) dX12_lend_5 (by decide) (fun c5 => ?_) (fun c5 => ?_)
  · replace h := of_t c5 h
    refine u_sub [0] rfl ?_
    exact jb20 μ h
  · replace h := of_f c5 h
    refine u_iload_n (pc := 8) hC dX12_lend_8 rfl 2 rfl ?_
    refine u_i2l (pc := 9) hC dX12_lend_9 ?_
    refine u_lconst (pc := 10) hC (v := (1 : Int64)) rfl dX12_lend_10 ?_
    refine u_ldc2 (pc := 11) hC (v := (999 : Int64)) mQ_RX12_208 dX12_lend_11 ?_
    obtain ⟨r14, q14, h⟩ := of_bd h
    refine k_RX12_57 (pc := 14) hC (av := [.long a2.toInt64, .long (1 : Int64), .long (999 : Int64)]) (rest := []) (c_X12_in (d := d - 1) (by omega)  q14) (by omega) (Nat.le_of_ble_eq_true rfl) rfl rfl dX12_lend_14 ?_
    refine u_if_ne (pc := 17) hC (tgt := 26) dX12_lend_17 (by decide) (fun c17 => ?_) (fun c17 => ?_)
    · replace h := of_t c17 h
      refine u_aload_n (pc := 26) hC dX12_lend_26 rfl 0 rfl ?_
      refine u_iload_n (pc := 27) hC dX12_lend_27 rfl 1 rfl ?_
      refine u_iconst (pc := 28) hC ic_3 dX12_lend_28 ?_
      obtain ⟨r29, q29, h⟩ := of_bd h
      refine k_RX12_150 (pc := 29) hC (av := [.int a1, .int (3 : Int32)]) (rest := []) (c_X12_of (d := d - 1) (by omega) hk0 q29) (by omega) (Nat.le_of_ble_eq_true rfl) hk0 rfl rfl dX12_lend_29 ?_
      refine u_iconst (pc := 32) hC ic_1 dX12_lend_32 ?_
      refine u_icmp_ne (pc := 33) hC (tgt := 42) dX12_lend_33 (by decide) (fun c33 => ?_) (fun c33 => ?_)
      · replace h := of_t c33 h
        refine u_aload_n (pc := 42) hC dX12_lend_42 rfl 0 rfl ?_
        refine u_iload_n (pc := 43) hC dX12_lend_43 rfl 1 rfl ?_
        refine u_iload_n (pc := 44) hC dX12_lend_44 rfl 2 rfl ?_
        obtain ⟨μ45, q45, h⟩ := of_bd h
        refine k_RX12_210 (pc := 45) hC (av := [.int a1, .int a2]) (rest := []) (c_X12_lends (d := d - 1) (by omega) hk0 q45) (by omega) (Nat.le_of_ble_eq_true rfl) hk0 rfl rfl dX12_lend_45 ?_
        refine u_aload_n (pc := 48) hC dX12_lend_48 rfl 0 rfl ?_
        refine u_iload_n (pc := 49) hC dX12_lend_49 rfl 1 rfl ?_
        refine u_iconst (pc := 50) hC ic_2 dX12_lend_50 ?_
        obtain ⟨r51, q51, h⟩ := of_bd h
        refine k_RX12_150 (pc := 51) hC (av := [.int a1, .int (2 : Int32)]) (rest := []) (c_X12_of (d := d - 1) (by omega) hk0 q51) (by omega) (Nat.le_of_ble_eq_true rfl) hk0 rfl rfl dX12_lend_51 ?_
        obtain rfl := Option.some.inj h
        exact u_iret (pc := 54) hC hQ hr ⟨rfl, rfl⟩ dX12_lend_54
      · replace h := of_f (fun q => q c33) h
        refine u_aload_n (pc := 36) hC dX12_lend_36 rfl 0 rfl ?_
        refine u_iconst (pc := 37) hC ic_3 dX12_lend_37 ?_
        obtain ⟨p38, q38, h⟩ := of_bd h
        refine k_RX12_119 (pc := 38) hC (av := [.int (3 : Int32)]) (rest := []) (c_X12_finds (d := d - 1) (by omega) hk0 q38) (by omega) (Nat.le_of_ble_eq_true rfl) hk0 rfl rfl dX12_lend_38 ?_
        obtain rfl := Option.some.inj h
        exact u_iret (pc := 41) hC hQ hr ⟨rfl, rfl⟩ dX12_lend_41
    · replace h := of_f (fun q => q c17) h
      refine u_sub [0] rfl ?_
      exact jb20 μ h
set_option maxHeartbeats 4000000 in
set_option maxRecDepth 100000 in
theorem c_X12_tells {l : Launch} {G : GG} {d : Nat} (hd : 107 ≤ d) {μ : Mem} {k0 : Nat} (hk0 : isC 12 k0) {a1 : Int32} {a2 : Int32} {r : Int32 × Mem} (h : f_X12_tells μ k0 a1 a2 = some r) : CT l yX12_tells cX12_tells 3 (some .int) d G [.ref (gad G k0), .int a1, .int a2] μ (RK (some (.int r.1)) r.2) := by
  refine ct_start (by decide) (Nat.le_of_ble_eq_true rfl) (fun C hl1 hG1 hC hQ hr => ?_)
  subst hl1; subst hG1
  have hC : CxOK C cX12_tells 3 RX12 d := hC
  show UW C 3 μ 0 [(0, .ref (gad (cG C) k0)), (1, .int a1), (2, .int a2)] []
  have jb41 : ∀ (μ_41 : Mem), f_X12_tells_j41 μ_41 k0 a1 a2 = some r → UW C 3 μ_41 41 [(0, .ref (gad (cG C) k0))] [] := by
    intro μ_41 h
    unfold f_X12_tells_j41 at h
    refine u_aload_n (pc := 41) hC dX12_tells_41 rfl 0 rfl ?_
    refine u_iconst (pc := 42) hC ic_3 dX12_tells_42 ?_
    obtain ⟨p43, q43, h⟩ := of_bd h
    refine k_RX12_119 (pc := 43) hC (av := [.int (3 : Int32)]) (rest := []) (c_X12_finds (d := d - 1) (by omega) hk0 q43) (by omega) (Nat.le_of_ble_eq_true rfl) hk0 rfl rfl dX12_tells_43 ?_
    obtain rfl := Option.some.inj h
    exact u_iret (pc := 46) hC hQ hr ⟨rfl, rfl⟩ dX12_tells_46
  have jb16 : ∀ (μ_16 : Mem), f_X12_tells_j16 μ_16 k0 a1 a2 = some r → UW C 3 μ_16 16 [(0, .ref (gad (cG C) k0))] [] := by
    intro μ_16 h
    unfold f_X12_tells_j16 at h
    refine u_aload_n (pc := 16) hC dX12_tells_16 rfl 0 rfl ?_
    refine u_iconst (pc := 17) hC ic_1 dX12_tells_17 ?_
    obtain ⟨p18, q18, h⟩ := of_bd h
    refine k_RX12_119 (pc := 18) hC (av := [.int (1 : Int32)]) (rest := []) (c_X12_finds (d := d - 1) (by omega) hk0 q18) (by omega) (Nat.le_of_ble_eq_true rfl) hk0 rfl rfl dX12_tells_18 ?_
    obtain rfl := Option.some.inj h
    exact u_iret (pc := 21) hC hQ hr ⟨rfl, rfl⟩ dX12_tells_21
  unfold f_X12_tells at h
  refine u_aload_n (pc := 0) hC dX12_tells_0 rfl 0 rfl ?_
  refine u_iload_n (pc := 1) hC dX12_tells_1 rfl 1 rfl ?_
  obtain ⟨r2, q2, h⟩ := of_bd h
  refine k_RX12_197 (pc := 2) hC (av := [.int a1]) (rest := []) (c_X12_isDebtor (d := d - 1) (by omega) hk0 q2) (by omega) (Nat.le_of_ble_eq_true rfl) hk0 rfl rfl dX12_tells_2 ?_
  refine u_if_eq (pc := 5) hC (tgt := 16) dX12_tells_5 (by decide) (fun c5 => ?_) (fun c5 => ?_)
  · replace h := of_t c5 h
    refine u_sub [0] rfl ?_
    exact jb16 μ h
  · replace h := of_f c5 h
    refine u_aload_n (pc := 8) hC dX12_tells_8 rfl 0 rfl ?_
    refine u_iload_n (pc := 9) hC dX12_tells_9 rfl 2 rfl ?_
    obtain ⟨r10, q10, h⟩ := of_bd h
    refine k_RX12_141 (pc := 10) hC (av := [.int a2]) (rest := []) (c_X12_isFact (d := d - 1) (by omega) hk0 q10) (by omega) (Nat.le_of_ble_eq_true rfl) hk0 rfl rfl dX12_tells_10 ?_
    refine u_if_ne (pc := 13) hC (tgt := 22) dX12_tells_13 (by decide) (fun c13 => ?_) (fun c13 => ?_)
    · replace h := of_t c13 h
      refine u_aload_n (pc := 22) hC dX12_tells_22 rfl 0 rfl ?_
      refine u_iload_n (pc := 23) hC dX12_tells_23 rfl 1 rfl ?_
      refine u_iconst (pc := 24) hC ic_3 dX12_tells_24 ?_
      obtain ⟨r25, q25, h⟩ := of_bd h
      refine k_RX12_150 (pc := 25) hC (av := [.int a1, .int (3 : Int32)]) (rest := []) (c_X12_of (d := d - 1) (by omega) hk0 q25) (by omega) (Nat.le_of_ble_eq_true rfl) hk0 rfl rfl dX12_tells_25 ?_
      refine u_iconst (pc := 28) hC ic_1 dX12_tells_28 ?_
      refine u_icmp_eq (pc := 29) hC (tgt := 41) dX12_tells_29 (by decide) (fun c29 => ?_) (fun c29 => ?_)
      · replace h := of_t c29 h
        refine u_sub [0] rfl ?_
        exact jb41 μ h
      · replace h := of_f c29 h
        refine u_aload_n (pc := 32) hC dX12_tells_32 rfl 0 rfl ?_
        refine u_iload_n (pc := 33) hC dX12_tells_33 rfl 1 rfl ?_
        refine u_iload_n (pc := 34) hC dX12_tells_34 rfl 2 rfl ?_
        obtain ⟨r35, q35, h⟩ := of_bd h
        refine k_RX12_164 (pc := 35) hC (av := [.int a1, .int a2]) (rest := []) (c_X12_mayTell (d := d - 1) (by omega) hk0 q35) (by omega) (Nat.le_of_ble_eq_true rfl) hk0 rfl rfl dX12_tells_35 ?_
        refine u_if_ne (pc := 38) hC (tgt := 47) dX12_tells_38 (by decide) (fun c38 => ?_) (fun c38 => ?_)
        · replace h := of_t c38 h
          refine u_aload_n (pc := 47) hC dX12_tells_47 rfl 0 rfl ?_
          refine u_iload_n (pc := 48) hC dX12_tells_48 rfl 1 rfl ?_
          refine u_iload_n (pc := 49) hC dX12_tells_49 rfl 2 rfl ?_
          obtain ⟨μ50, q50, h⟩ := of_bd h
          refine k_RX12_213 (pc := 50) hC (av := [.int a1, .int a2]) (rest := []) (c_X12_tellsNow (d := d - 1) (by omega) hk0 q50) (by omega) (Nat.le_of_ble_eq_true rfl) hk0 rfl rfl dX12_tells_50 ?_
          refine u_aload_n (pc := 53) hC dX12_tells_53 rfl 0 rfl ?_
          refine u_iload_n (pc := 54) hC dX12_tells_54 rfl 1 rfl ?_
          refine u_iconst (pc := 55) hC ic_2 dX12_tells_55 ?_
          obtain ⟨r56, q56, h⟩ := of_bd h
          refine k_RX12_150 (pc := 56) hC (av := [.int a1, .int (2 : Int32)]) (rest := []) (c_X12_of (d := d - 1) (by omega) hk0 q56) (by omega) (Nat.le_of_ble_eq_true rfl) hk0 rfl rfl dX12_tells_56 ?_
          obtain rfl := Option.some.inj h
          exact u_iret (pc := 59) hC hQ hr ⟨rfl, rfl⟩ dX12_tells_59
        · replace h := of_f (fun q => q c38) h
          refine u_sub [0] rfl ?_
          exact jb41 μ h
    · replace h := of_f (fun q => q c13) h
      refine u_sub [0] rfl ?_
      exact jb16 μ h
set_option maxHeartbeats 4000000 in
set_option maxRecDepth 100000 in
theorem c_X12_pardon {l : Launch} {G : GG} {d : Nat} (hd : 2 ≤ d) {μ : Mem} {k0 : Nat} (hk0 : isC 12 k0) {a1 : Int32} {r : Int32 × Mem} (h : f_X12_pardon μ k0 a1 = some r) : CT l yX12_pardon cX12_pardon 3 (some .int) d G [.ref (gad G k0), .int a1] μ (RK (some (.int r.1)) r.2) := by
  refine ct_start (by decide) (Nat.le_of_ble_eq_true rfl) (fun C hl1 hG1 hC hQ hr => ?_)
  subst hl1; subst hG1
  have hC : CxOK C cX12_pardon 3 RX12 d := hC
  show UW C 3 μ 0 [(0, .ref (gad (cG C) k0)), (1, .int a1)] []
  unfold f_X12_pardon at h
  refine u_aload_n (pc := 0) hC dX12_pardon_0 rfl 0 rfl ?_
  refine u_iload_n (pc := 1) hC dX12_pardon_1 rfl 1 rfl ?_
  obtain ⟨r2, q2, h⟩ := of_bd h
  refine k_RX12_197 (pc := 2) hC (av := [.int a1]) (rest := []) (c_X12_isDebtor (d := d - 1) (by omega) hk0 q2) (by omega) (Nat.le_of_ble_eq_true rfl) hk0 rfl rfl dX12_pardon_2 ?_
  refine u_if_ne (pc := 5) hC (tgt := 14) dX12_pardon_5 (by decide) (fun c5 => ?_) (fun c5 => ?_)
  · replace h := of_t c5 h
    refine u_aload_n (pc := 14) hC dX12_pardon_14 rfl 0 rfl ?_
    refine u_iload_n (pc := 15) hC dX12_pardon_15 rfl 1 rfl ?_
    refine u_iconst (pc := 16) hC ic_3 dX12_pardon_16 ?_
    obtain ⟨r17, q17, h⟩ := of_bd h
    refine k_RX12_150 (pc := 17) hC (av := [.int a1, .int (3 : Int32)]) (rest := []) (c_X12_of (d := d - 1) (by omega) hk0 q17) (by omega) (Nat.le_of_ble_eq_true rfl) hk0 rfl rfl dX12_pardon_17 ?_
    refine u_if_ne (pc := 20) hC (tgt := 29) dX12_pardon_20 (by decide) (fun c20 => ?_) (fun c20 => ?_)
    · replace h := of_t c20 h
      refine u_aload_n (pc := 29) hC dX12_pardon_29 rfl 0 rfl ?_
      refine u_iload_n (pc := 30) hC dX12_pardon_30 rfl 1 rfl ?_
      refine u_iconst (pc := 31) hC ic_4 dX12_pardon_31 ?_
      obtain ⟨r32, q32, h⟩ := of_bd h
      refine k_RX12_150 (pc := 32) hC (av := [.int a1, .int (4 : Int32)]) (rest := []) (c_X12_of (d := d - 1) (by omega) hk0 q32) (by omega) (Nat.le_of_ble_eq_true rfl) hk0 rfl rfl dX12_pardon_32 ?_
      refine u_istore_n (pc := 35) hC dX12_pardon_35 rfl [(2, .int r32), (0, .ref (gad (cG C) k0)), (1, .int a1)] (by decide) rfl ?_
      refine u_aload_n (pc := 36) hC dX12_pardon_36 rfl 1 rfl ?_
      refine u_iload_n (pc := 37) hC dX12_pardon_37 rfl 2 rfl ?_
      refine u_iconst (pc := 38) hC ic_2 dX12_pardon_38 ?_
      refine u_iconst (pc := 39) hC ic_0 dX12_pardon_39 ?_
      obtain ⟨μ40, q40, h⟩ := of_bd h
      refine k_RX12_174 (pc := 40) hC (av := [.int a1, .int (2 : Int32), .int (0 : Int32)]) (rest := []) (c_X12_sets (d := d - 1) (by omega) hk0 q40) (by omega) (Nat.le_of_ble_eq_true rfl) hk0 rfl rfl dX12_pardon_40 ?_
      refine u_aload_n (pc := 43) hC dX12_pardon_43 rfl 1 rfl ?_
      refine u_iload_n (pc := 44) hC dX12_pardon_44 rfl 2 rfl ?_
      refine u_iconst (pc := 45) hC ic_3 dX12_pardon_45 ?_
      refine u_iconst (pc := 46) hC ic_0 dX12_pardon_46 ?_
      obtain ⟨μ47, q47, h⟩ := of_bd h
      refine k_RX12_174 (pc := 47) hC (av := [.int a1, .int (3 : Int32), .int (0 : Int32)]) (rest := []) (c_X12_sets (d := d - 1) (by omega) hk0 q47) (by omega) (Nat.le_of_ble_eq_true rfl) hk0 rfl rfl dX12_pardon_47 ?_
      refine u_aload_n (pc := 50) hC dX12_pardon_50 rfl 1 rfl ?_
      refine u_iload_n (pc := 51) hC dX12_pardon_51 rfl 2 rfl ?_
      refine u_iconst (pc := 52) hC ic_4 dX12_pardon_52 ?_
      refine u_iconst (pc := 53) hC ic_0 dX12_pardon_53 ?_
      obtain ⟨μ54, q54, h⟩ := of_bd h
      refine k_RX12_174 (pc := 54) hC (av := [.int a1, .int (4 : Int32), .int (0 : Int32)]) (rest := []) (c_X12_sets (d := d - 1) (by omega) hk0 q54) (by omega) (Nat.le_of_ble_eq_true rfl) hk0 rfl rfl dX12_pardon_54 ?_
      refine u_iload_n (pc := 57) hC dX12_pardon_57 rfl 0 rfl ?_
      obtain rfl := Option.some.inj h
      exact u_iret (pc := 58) hC hQ hr ⟨rfl, rfl⟩ dX12_pardon_58
    · replace h := of_f (fun q => q c20) h
      refine u_aload_n (pc := 23) hC dX12_pardon_23 rfl 0 rfl ?_
      refine u_iconst (pc := 24) hC ic_3 dX12_pardon_24 ?_
      obtain ⟨p25, q25, h⟩ := of_bd h
      refine k_RX12_119 (pc := 25) hC (av := [.int (3 : Int32)]) (rest := []) (c_X12_finds (d := d - 1) (by omega) hk0 q25) (by omega) (Nat.le_of_ble_eq_true rfl) hk0 rfl rfl dX12_pardon_25 ?_
      obtain rfl := Option.some.inj h
      exact u_iret (pc := 28) hC hQ hr ⟨rfl, rfl⟩ dX12_pardon_28
  · replace h := of_f (fun q => q c5) h
    refine u_aload_n (pc := 8) hC dX12_pardon_8 rfl 0 rfl ?_
    refine u_iconst (pc := 9) hC ic_1 dX12_pardon_9 ?_
    obtain ⟨p10, q10, h⟩ := of_bd h
    refine k_RX12_119 (pc := 10) hC (av := [.int (1 : Int32)]) (rest := []) (c_X12_finds (d := d - 1) (by omega) hk0 q10) (by omega) (Nat.le_of_ble_eq_true rfl) hk0 rfl rfl dX12_pardon_10 ?_
    obtain rfl := Option.some.inj h
    exact u_iret (pc := 13) hC hQ hr ⟨rfl, rfl⟩ dX12_pardon_13
set_option maxHeartbeats 4000000 in
set_option maxRecDepth 100000 in
theorem c_X12_serves {l : Launch} {G : GG} {d : Nat} (hd : 107 ≤ d) {μ : Mem} {k0 : Nat} (hk0 : isC 12 k0) {a1 : Int32} {r : Mem} (h : f_X12_serves μ k0 a1 = some r) : CT l yX12_serves cX12_serves 5 none d G [.ref (gad G k0), .int a1] μ (RK none r) := by
  refine ct_start (by decide) (Nat.le_of_ble_eq_true rfl) (fun C hl1 hG1 hC hQ hr => ?_)
  subst hl1; subst hG1
  have hC : CxOK C cX12_serves 5 RX12 d := hC
  show UW C 5 μ 0 [(0, .ref (gad (cG C) k0)), (1, .int a1)] []
  have jb95 : ∀ (μ_95 : Mem), f_X12_serves_j95 μ_95 k0 a1 = some r → UW C 5 μ_95 95 [(0, .ref (gad (cG C) k0)), (1, .int a1)] [] := by
    intro μ_95 h
    unfold f_X12_serves_j95 at h
    refine u_aload_n (pc := 95) hC dX12_serves_95 rfl 0 rfl ?_
    refine u_iload_n (pc := 96) hC dX12_serves_96 rfl 1 rfl ?_
    obtain ⟨r97, q97, h⟩ := of_bd h
    refine k_RX12_216 (pc := 97) hC (av := [.int a1]) (rest := []) (c_X12_isOverdue (d := d - 1) (by omega) hk0 q97) (by omega) (Nat.le_of_ble_eq_true rfl) hk0 rfl rfl dX12_serves_97 ?_
    refine u_if_eq (pc := 100) hC (tgt := 110) dX12_serves_100 (by decide) (fun c100 => ?_) (fun c100 => ?_)
    · replace h := of_t c100 h
      obtain rfl := Option.some.inj h
      exact u_vret (pc := 110) hC hQ hr ⟨rfl, rfl⟩ dX12_serves_110
    · replace h := of_f c100 h
      refine u_aload_n (pc := 103) hC dX12_serves_103 rfl 0 rfl ?_
      refine u_iload_n (pc := 104) hC dX12_serves_104 rfl 1 rfl ?_
      refine u_iconst (pc := 105) hC ic_3 dX12_serves_105 ?_
      refine u_iconst (pc := 106) hC ic_1 dX12_serves_106 ?_
      obtain ⟨μ107, q107, h⟩ := of_bd h
      refine k_RX12_174 (pc := 107) hC (av := [.int a1, .int (3 : Int32), .int (1 : Int32)]) (rest := []) (c_X12_sets (d := d - 1) (by omega) hk0 q107) (by omega) (Nat.le_of_ble_eq_true rfl) hk0 rfl rfl dX12_serves_107 ?_
      obtain rfl := Option.some.inj h
      exact u_vret (pc := 110) hC hQ hr ⟨rfl, rfl⟩ dX12_serves_110
  have lw8 : ∀ (v2_8 : Int32) (e : (Mem)) (s : Int32 × Mem), lp (fun s => f_X12_serves_l8 k0 a1 v2_8 s.1 s.2) FU s = some e → (fun (e : (Mem)) => UW C 5 e 95 [(0, .ref (gad (cG C) k0)), (1, .int a1)] []) e → UW C 5 s.2 8 [(0, .ref (gad (cG C) k0)), (1, .int a1), (2, .int v2_8), (3, .int s.1)] [] := by
    intro v2_8 e s hl hE0
    refine @lp_walk (Int32 × Mem) (Mem) (fun s => f_X12_serves_l8 k0 a1 v2_8 s.1 s.2) (fun s => UW C 5 s.2 8 [(0, .ref (gad (cG C) k0)), (1, .int a1), (2, .int v2_8), (3, .int s.1)] []) (fun (e : (Mem)) => UW C 5 e 95 [(0, .ref (gad (cG C) k0)), (1, .int a1)] []) (fun s y8 h hP8 hE8 => ?_) FU s e hl hE0
    have jb61 : ∀ (μ_61 : Mem) (v3_61 : Int32) (v4_61 : Int32), f_X12_serves_j61 μ_61 k0 a1 v2_8 v3_61 v4_61 = some y8 → UW C 5 μ_61 61 [(0, .ref (gad (cG C) k0)), (1, .int a1), (2, .int v2_8), (3, .int v3_61), (4, .int v4_61)] [] := by
      intro μ_61 v3_61 v4_61 h
      unfold f_X12_serves_j61 at h
      refine u_iload (pc := 61) hC dX12_serves_61 4 rfl ?_
      refine u_aload_n (pc := 63) hC dX12_serves_63 rfl 0 rfl ?_
      refine g_RX12_7 (pc := 64) hC hk0 dX12_serves_64 ?_
      refine u_iconst (pc := 67) hC ic_0 dX12_serves_67 ?_
      refine u_iald (pc := 68) hC (rs_12_0 hk0) 342 (rn_12_0 hk0) (by decide) dX12_serves_68 ?_
      refine u_icmp_ge (pc := 69) hC (tgt := 82) dX12_serves_69 (by decide) (fun c69 => ?_) (fun c69 => ?_)
      · replace h := of_t c69 h
        refine u_aload_n (pc := 82) hC dX12_serves_82 rfl 0 rfl ?_
        refine u_iload_n (pc := 83) hC dX12_serves_83 rfl 1 rfl ?_
        refine u_iconst (pc := 84) hC ic_3 dX12_serves_84 ?_
        refine u_iconst (pc := 85) hC ic_1 dX12_serves_85 ?_
        obtain ⟨μ86, q86, h⟩ := of_bd h
        refine k_RX12_174 (pc := 86) hC (av := [.int a1, .int (3 : Int32), .int (1 : Int32)]) (rest := []) (c_X12_sets (d := d - 1) (by omega) hk0 q86) (by omega) (Nat.le_of_ble_eq_true rfl) hk0 rfl rfl dX12_serves_86 ?_
        refine u_iinc (pc := 89) hC dX12_serves_89 3 rfl (v3_61 + 1) rfl [(3, .int (v3_61 + 1)), (0, .ref (gad (cG C) k0)), (1, .int a1), (2, .int v2_8), (4, .int v4_61)] (by decide) rfl ?_
        refine u_goto (pc := 92) hC 8 dX12_serves_92 (by decide) ?_
        obtain rfl := Option.some.inj h
        refine u_sub [1, 2, 3, 0] rfl ?_
        exact hP8 (v3_61 + 1, μ86) rfl
      · replace h := of_f c69 h
        refine u_aload_n (pc := 72) hC dX12_serves_72 rfl 0 rfl ?_
        refine u_iload_n (pc := 73) hC dX12_serves_73 rfl 1 rfl ?_
        refine u_iload (pc := 74) hC dX12_serves_74 4 rfl ?_
        obtain ⟨μ76, q76, h⟩ := of_bd h
        refine k_RX12_213 (pc := 76) hC (av := [.int a1, .int v4_61]) (rest := []) (c_X12_tellsNow (d := d - 1) (by omega) hk0 q76) (by omega) (Nat.le_of_ble_eq_true rfl) hk0 rfl rfl dX12_serves_76 ?_
        refine u_goto (pc := 79) hC 89 dX12_serves_79 (by decide) ?_
        refine u_iinc (pc := 89) hC dX12_serves_89 3 rfl (v3_61 + 1) rfl [(3, .int (v3_61 + 1)), (0, .ref (gad (cG C) k0)), (1, .int a1), (2, .int v2_8), (4, .int v4_61)] (by decide) rfl ?_
        refine u_goto (pc := 92) hC 8 dX12_serves_92 (by decide) ?_
        obtain rfl := Option.some.inj h
        refine u_sub [1, 2, 3, 0] rfl ?_
        exact hP8 (v3_61 + 1, μ76) rfl
    have lw34 : ∀ (μ_34 : Mem) (v2_34 : Int32) (v3_34 : Int32) (e : (Int32)) (s : Int32), lp (fun s => f_X12_serves_l34 μ_34 k0 a1 v2_34 v3_34 s) FU s = some e → (fun (e : (Int32)) => UW C 5 μ_34 61 [(0, .ref (gad (cG C) k0)), (1, .int a1), (2, .int v2_34), (3, .int v3_34), (4, .int e)] []) e → UW C 5 μ_34 34 [(0, .ref (gad (cG C) k0)), (1, .int a1), (2, .int v2_34), (3, .int v3_34), (4, .int s)] [] := by
      intro μ_34 v2_34 v3_34 e s hl hE0
      refine @lp_walk (Int32) (Int32) (fun s => f_X12_serves_l34 μ_34 k0 a1 v2_34 v3_34 s) (fun s => UW C 5 μ_34 34 [(0, .ref (gad (cG C) k0)), (1, .int a1), (2, .int v2_34), (3, .int v3_34), (4, .int s)] []) (fun (e : (Int32)) => UW C 5 μ_34 61 [(0, .ref (gad (cG C) k0)), (1, .int a1), (2, .int v2_34), (3, .int v3_34), (4, .int e)] []) (fun v4_34 y34 h hP34 hE34 => ?_) FU s e hl hE0
      replace h : f_X12_serves_l34 μ_34 k0 a1 v2_34 v3_34 v4_34 = some y34 := h
      show UW C 5 μ_34 34 [(0, .ref (gad (cG C) k0)), (1, .int a1), (2, .int v2_34), (3, .int v3_34), (4, .int v4_34)] []
      unfold f_X12_serves_l34 at h
      refine u_iload (pc := 34) hC dX12_serves_34 4 rfl ?_
      refine u_aload_n (pc := 36) hC dX12_serves_36 rfl 0 rfl ?_
      refine g_RX12_7 (pc := 37) hC hk0 dX12_serves_37 ?_
      refine u_iconst (pc := 40) hC ic_0 dX12_serves_40 ?_
      refine u_iald (pc := 41) hC (rs_12_0 hk0) 342 (rn_12_0 hk0) (by decide) dX12_serves_41 ?_
      refine u_icmp_ge (pc := 42) hC (tgt := 61) dX12_serves_42 (by decide) (fun c42 => ?_) (fun c42 => ?_)
      · replace h := of_t c42 h
        obtain rfl := Option.some.inj h
        exact hE34 v4_34 rfl
      · replace h := of_f c42 h
        refine u_aload_n (pc := 45) hC dX12_serves_45 rfl 0 rfl ?_
        refine u_iload_n (pc := 46) hC dX12_serves_46 rfl 1 rfl ?_
        refine u_iload (pc := 47) hC dX12_serves_47 4 rfl ?_
        obtain ⟨r49, q49, h⟩ := of_bd h
        refine k_RX12_164 (pc := 49) hC (av := [.int a1, .int v4_34]) (rest := []) (c_X12_mayTell (d := d - 1) (by omega) hk0 q49) (by omega) (Nat.le_of_ble_eq_true rfl) hk0 rfl rfl dX12_serves_49 ?_
        refine u_if_ne (pc := 52) hC (tgt := 61) dX12_serves_52 (by decide) (fun c52 => ?_) (fun c52 => ?_)
        · replace h := of_t c52 h
          obtain rfl := Option.some.inj h
          exact hE34 v4_34 rfl
        · replace h := of_f (fun q => q c52) h
          refine u_iinc (pc := 55) hC dX12_serves_55 4 rfl (v4_34 + 1) rfl [(4, .int (v4_34 + 1)), (0, .ref (gad (cG C) k0)), (1, .int a1), (2, .int v2_34), (3, .int v3_34)] (by decide) rfl ?_
          refine u_goto (pc := 58) hC 34 dX12_serves_58 (by decide) ?_
          obtain rfl := Option.some.inj h
          refine u_sub [1, 2, 3, 4, 0] rfl ?_
          exact hP34 (v4_34 + 1) rfl
    obtain ⟨v3_8, μ_8⟩ := s
    replace h : f_X12_serves_l8 k0 a1 v2_8 v3_8 μ_8 = some y8 := h
    show UW C 5 μ_8 8 [(0, .ref (gad (cG C) k0)), (1, .int a1), (2, .int v2_8), (3, .int v3_8)] []
    unfold f_X12_serves_l8 at h
    refine u_iload_n (pc := 8) hC dX12_serves_8 rfl 3 rfl ?_
    refine u_iload_n (pc := 9) hC dX12_serves_9 rfl 2 rfl ?_
    refine u_icmp_ge (pc := 10) hC (tgt := 95) dX12_serves_10 (by decide) (fun c10 => ?_) (fun c10 => ?_)
    · replace h := of_t c10 h
      obtain rfl := Option.some.inj h
      refine u_sub [0, 1] rfl ?_
      exact hE8 μ_8 rfl
    · replace h := of_f c10 h
      refine u_aload_n (pc := 13) hC dX12_serves_13 rfl 0 rfl ?_
      refine u_iload_n (pc := 14) hC dX12_serves_14 rfl 1 rfl ?_
      refine u_iconst (pc := 15) hC ic_2 dX12_serves_15 ?_
      obtain ⟨r16, q16, h⟩ := of_bd h
      refine k_RX12_150 (pc := 16) hC (av := [.int a1, .int (2 : Int32)]) (rest := []) (c_X12_of (d := d - 1) (by omega) hk0 q16) (by omega) (Nat.le_of_ble_eq_true rfl) hk0 rfl rfl dX12_serves_16 ?_
      refine u_if_le (pc := 19) hC (tgt := 95) dX12_serves_19 (by decide) (fun c19 => ?_) (fun c19 => ?_)
      · replace h := of_t c19 h
        obtain rfl := Option.some.inj h
        refine u_sub [0, 1] rfl ?_
        exact hE8 μ_8 rfl
      · replace h := of_f c19 h
        refine u_aload_n (pc := 22) hC dX12_serves_22 rfl 0 rfl ?_
        refine u_iload_n (pc := 23) hC dX12_serves_23 rfl 1 rfl ?_
        refine u_iconst (pc := 24) hC ic_3 dX12_serves_24 ?_
        obtain ⟨r25, q25, h⟩ := of_bd h
        refine k_RX12_150 (pc := 25) hC (av := [.int a1, .int (3 : Int32)]) (rest := []) (c_X12_of (d := d - 1) (by omega) hk0 q25) (by omega) (Nat.le_of_ble_eq_true rfl) hk0 rfl rfl dX12_serves_25 ?_
        refine u_if_ne (pc := 28) hC (tgt := 95) dX12_serves_28 (by decide) (fun c28 => ?_) (fun c28 => ?_)
        · replace h := of_t c28 h
          obtain rfl := Option.some.inj h
          refine u_sub [0, 1] rfl ?_
          exact hE8 μ_8 rfl
        · replace h := of_f (fun q => q c28) h
          refine u_iconst (pc := 31) hC ic_0 dX12_serves_31 ?_
          refine u_istore (pc := 32) hC dX12_serves_32 [(4, .int (0 : Int32)), (0, .ref (gad (cG C) k0)), (1, .int a1), (2, .int v2_8), (3, .int v3_8)] (by decide) rfl ?_
          obtain ⟨e34, l34, h⟩ := of_bd h
          refine u_sub [1, 2, 3, 4, 0] rfl ?_
          refine lw34 μ_8 v2_8 v3_8 e34 (0 : Int32) l34 ?_
          show UW C 5 μ_8 61 [(0, .ref (gad (cG C) k0)), (1, .int a1), (2, .int v2_8), (3, .int v3_8), (4, .int e34)] []
          exact jb61 μ_8 v3_8 e34 h
  unfold f_X12_serves at h
  refine u_aload_n (pc := 0) hC dX12_serves_0 rfl 0 rfl ?_
  refine u_iload_n (pc := 1) hC dX12_serves_1 rfl 1 rfl ?_
  obtain ⟨r2, q2, h⟩ := of_bd h
  refine k_RX12_188 (pc := 2) hC (av := [.int a1]) (rest := []) (c_X12_dueOf (d := d - 1) (by omega) hk0 q2) (by omega) (Nat.le_of_ble_eq_true rfl) hk0 rfl rfl dX12_serves_2 ?_
  refine u_istore_n (pc := 5) hC dX12_serves_5 rfl [(2, .int r2), (0, .ref (gad (cG C) k0)), (1, .int a1)] (by decide) rfl ?_
  refine u_iconst (pc := 6) hC ic_0 dX12_serves_6 ?_
  refine u_istore_n (pc := 7) hC dX12_serves_7 rfl [(3, .int (0 : Int32)), (2, .int r2), (0, .ref (gad (cG C) k0)), (1, .int a1)] (by decide) rfl ?_
  obtain ⟨e8, l8, h⟩ := of_bd h
  refine u_sub [2, 3, 1, 0] rfl ?_
  refine lw8 r2 e8 ((0 : Int32), μ) l8 ?_
  show UW C 5 e8 95 [(0, .ref (gad (cG C) k0)), (1, .int a1)] []
  exact jb95 e8 h
set_option maxHeartbeats 4000000 in
set_option maxRecDepth 100000 in
theorem c_X12_aWeek {l : Launch} {G : GG} {d : Nat} (hd : 108 ≤ d) {μ : Mem} {k0 : Nat} (hk0 : isC 12 k0) {r : Mem} (h : f_X12_aWeek μ k0 = some r) : CT l yX12_aWeek cX12_aWeek 2 none d G [.ref (gad G k0)] μ (RK none r) := by
  refine ct_start (by decide) (Nat.le_of_ble_eq_true rfl) (fun C hl1 hG1 hC hQ hr => ?_)
  subst hl1; subst hG1
  have hC : CxOK C cX12_aWeek 2 RX12 d := hC
  show UW C 2 μ 0 [(0, .ref (gad (cG C) k0))] []
  have lw2 : ∀ (e : (Mem)) (s : Int32 × Mem), lp (fun s => f_X12_aWeek_l2 k0 s.1 s.2) FU s = some e → (fun (e : (Mem)) => UW C 2 e 41 [(0, .ref (gad (cG C) k0))] []) e → UW C 2 s.2 2 [(0, .ref (gad (cG C) k0)), (1, .int s.1)] [] := by
    intro e s hl hE0
    refine @lp_walk (Int32 × Mem) (Mem) (fun s => f_X12_aWeek_l2 k0 s.1 s.2) (fun s => UW C 2 s.2 2 [(0, .ref (gad (cG C) k0)), (1, .int s.1)] []) (fun (e : (Mem)) => UW C 2 e 41 [(0, .ref (gad (cG C) k0))] []) (fun s y2 h hP2 hE2 => ?_) FU s e hl hE0
    obtain ⟨v1_2, μ_2⟩ := s
    replace h : f_X12_aWeek_l2 k0 v1_2 μ_2 = some y2 := h
    show UW C 2 μ_2 2 [(0, .ref (gad (cG C) k0)), (1, .int v1_2)] []
    unfold f_X12_aWeek_l2 at h
    refine u_iload_n (pc := 2) hC dX12_aWeek_2 rfl 1 rfl ?_
    refine u_aload_n (pc := 3) hC dX12_aWeek_3 rfl 0 rfl ?_
    refine g_RX12_7 (pc := 4) hC hk0 dX12_aWeek_4 ?_
    refine u_iconst (pc := 7) hC ic_1 dX12_aWeek_7 ?_
    refine u_iald (pc := 8) hC (rs_12_0 hk0) 342 (rn_12_0 hk0) (by decide) dX12_aWeek_8 ?_
    refine u_icmp_ge (pc := 9) hC (tgt := 41) dX12_aWeek_9 (by decide) (fun c9 => ?_) (fun c9 => ?_)
    · replace h := of_t c9 h
      obtain rfl := Option.some.inj h
      refine u_sub [0] rfl ?_
      exact hE2 μ_2 rfl
    · replace h := of_f c9 h
      refine u_aload_n (pc := 12) hC dX12_aWeek_12 rfl 0 rfl ?_
      refine u_iload_n (pc := 13) hC dX12_aWeek_13 rfl 1 rfl ?_
      refine u_iconst (pc := 14) hC ic_3 dX12_aWeek_14 ?_
      obtain ⟨r15, q15, h⟩ := of_bd h
      refine k_RX12_150 (pc := 15) hC (av := [.int v1_2, .int (3 : Int32)]) (rest := []) (c_X12_of (d := d - 1) (by omega) hk0 q15) (by omega) (Nat.le_of_ble_eq_true rfl) hk0 rfl rfl dX12_aWeek_15 ?_
      refine u_if_ne (pc := 18) hC (tgt := 35) dX12_aWeek_18 (by decide) (fun c18 => ?_) (fun c18 => ?_)
      · replace h := of_t c18 h
        refine u_iinc (pc := 35) hC dX12_aWeek_35 1 rfl (v1_2 + 1) rfl [(1, .int (v1_2 + 1)), (0, .ref (gad (cG C) k0))] (by decide) rfl ?_
        refine u_goto (pc := 38) hC 2 dX12_aWeek_38 (by decide) ?_
        obtain rfl := Option.some.inj h
        refine u_sub [1, 0] rfl ?_
        exact hP2 (v1_2 + 1, μ_2) rfl
      · replace h := of_f (fun q => q c18) h
        refine u_aload_n (pc := 21) hC dX12_aWeek_21 rfl 0 rfl ?_
        refine u_iload_n (pc := 22) hC dX12_aWeek_22 rfl 1 rfl ?_
        refine u_iconst (pc := 23) hC ic_2 dX12_aWeek_23 ?_
        obtain ⟨r24, q24, h⟩ := of_bd h
        refine k_RX12_150 (pc := 24) hC (av := [.int v1_2, .int (2 : Int32)]) (rest := []) (c_X12_of (d := d - 1) (by omega) hk0 q24) (by omega) (Nat.le_of_ble_eq_true rfl) hk0 rfl rfl dX12_aWeek_24 ?_
        refine u_if_le (pc := 27) hC (tgt := 35) dX12_aWeek_27 (by decide) (fun c27 => ?_) (fun c27 => ?_)
        · replace h := of_t c27 h
          refine u_iinc (pc := 35) hC dX12_aWeek_35 1 rfl (v1_2 + 1) rfl [(1, .int (v1_2 + 1)), (0, .ref (gad (cG C) k0))] (by decide) rfl ?_
          refine u_goto (pc := 38) hC 2 dX12_aWeek_38 (by decide) ?_
          obtain rfl := Option.some.inj h
          refine u_sub [1, 0] rfl ?_
          exact hP2 (v1_2 + 1, μ_2) rfl
        · replace h := of_f c27 h
          refine u_aload_n (pc := 30) hC dX12_aWeek_30 rfl 0 rfl ?_
          refine u_iload_n (pc := 31) hC dX12_aWeek_31 rfl 1 rfl ?_
          obtain ⟨μ32, q32, h⟩ := of_bd h
          refine k_RX12_219 (pc := 32) hC (av := [.int v1_2]) (rest := []) (c_X12_serves (d := d - 1) (by omega) hk0 q32) (by omega) (Nat.le_of_ble_eq_true rfl) hk0 rfl rfl dX12_aWeek_32 ?_
          refine u_iinc (pc := 35) hC dX12_aWeek_35 1 rfl (v1_2 + 1) rfl [(1, .int (v1_2 + 1)), (0, .ref (gad (cG C) k0))] (by decide) rfl ?_
          refine u_goto (pc := 38) hC 2 dX12_aWeek_38 (by decide) ?_
          obtain rfl := Option.some.inj h
          refine u_sub [1, 0] rfl ?_
          exact hP2 (v1_2 + 1, μ32) rfl
  unfold f_X12_aWeek at h
  refine u_iconst (pc := 0) hC ic_0 dX12_aWeek_0 ?_
  refine u_istore_n (pc := 1) hC dX12_aWeek_1 rfl [(1, .int (0 : Int32)), (0, .ref (gad (cG C) k0))] (by decide) rfl ?_
  obtain ⟨e2, l2, h⟩ := of_bd h
  refine u_sub [1, 0] rfl ?_
  refine lw2  e2 ((0 : Int32), μ) l2 ?_
  show UW C 2 e2 41 [(0, .ref (gad (cG C) k0))] []
  refine u_aload_n (pc := 41) hC dX12_aWeek_41 rfl 0 rfl ?_
  refine g_RX12_7 (pc := 42) hC hk0 dX12_aWeek_42 ?_
  refine u_iconst (pc := 45) hC ic_3 dX12_aWeek_45 ?_
  refine u_dup2 (pc := 46) hC rfl rfl dX12_aWeek_46 ?_
  refine u_iald (pc := 47) hC (rs_12_0 hk0) 342 (rn_12_0 hk0) (by decide) dX12_aWeek_47 ?_
  refine u_iconst (pc := 48) hC ic_1 dX12_aWeek_48 ?_
  refine u_iadd (pc := 49) hC dX12_aWeek_49 ?_
  obtain ⟨m50, q50, h⟩ := of_bd h
  refine u_iast (pc := 50) hC (rs_12_0 hk0) 342 (rn_12_0 hk0) (by decide) dX12_aWeek_50 (Option.some.inj q50) ?_
  obtain rfl := Option.some.inj h
  exact u_vret (pc := 51) hC hQ hr ⟨rfl, rfl⟩ dX12_aWeek_51
set_option maxHeartbeats 4000000 in
set_option maxRecDepth 100000 in
theorem c_X12_brokenMany {l : Launch} {G : GG} {d : Nat} (hd : 1 ≤ d) {μ : Mem} {k0 : Nat} (hk0 : isC 12 k0) {r : Int32} (h : f_X12_brokenMany μ k0 = some r) : CT l yX12_brokenMany cX12_brokenMany 3 (some .int) d G [.ref (gad G k0)] μ (RK (some (.int r)) μ) := by
  refine ct_start (by decide) (Nat.le_of_ble_eq_true rfl) (fun C hl1 hG1 hC hQ hr => ?_)
  subst hl1; subst hG1
  have hC : CxOK C cX12_brokenMany 3 RX12 d := hC
  show UW C 3 μ 0 [(0, .ref (gad (cG C) k0))] []
  have lw4 : ∀ (e : (Int32)) (s : Int32 × Int32), lp (fun s => f_X12_brokenMany_l4 μ k0 s.1 s.2) FU s = some e → (fun (e : (Int32)) => UW C 3 μ 29 [(1, .int e)] []) e → UW C 3 μ 4 [(0, .ref (gad (cG C) k0)), (1, .int s.1), (2, .int s.2)] [] := by
    intro e s hl hE0
    refine @lp_walk (Int32 × Int32) (Int32) (fun s => f_X12_brokenMany_l4 μ k0 s.1 s.2) (fun s => UW C 3 μ 4 [(0, .ref (gad (cG C) k0)), (1, .int s.1), (2, .int s.2)] []) (fun (e : (Int32)) => UW C 3 μ 29 [(1, .int e)] []) (fun s y4 h hP4 hE4 => ?_) FU s e hl hE0
    obtain ⟨v1_4, v2_4⟩ := s
    replace h : f_X12_brokenMany_l4 μ k0 v1_4 v2_4 = some y4 := h
    show UW C 3 μ 4 [(0, .ref (gad (cG C) k0)), (1, .int v1_4), (2, .int v2_4)] []
    unfold f_X12_brokenMany_l4 at h
    refine u_iload_n (pc := 4) hC dX12_brokenMany_4 rfl 2 rfl ?_
    refine u_aload_n (pc := 5) hC dX12_brokenMany_5 rfl 0 rfl ?_
    refine g_RX12_7 (pc := 6) hC hk0 dX12_brokenMany_6 ?_
    refine u_iconst (pc := 9) hC ic_1 dX12_brokenMany_9 ?_
    refine u_iald (pc := 10) hC (rs_12_0 hk0) 342 (rn_12_0 hk0) (by decide) dX12_brokenMany_10 ?_
    refine u_icmp_ge (pc := 11) hC (tgt := 29) dX12_brokenMany_11 (by decide) (fun c11 => ?_) (fun c11 => ?_)
    · replace h := of_t c11 h
      obtain rfl := Option.some.inj h
      refine u_sub [1] rfl ?_
      exact hE4 v1_4 rfl
    · replace h := of_f c11 h
      refine u_iload_n (pc := 14) hC dX12_brokenMany_14 rfl 1 rfl ?_
      refine u_aload_n (pc := 15) hC dX12_brokenMany_15 rfl 0 rfl ?_
      refine u_iload_n (pc := 16) hC dX12_brokenMany_16 rfl 2 rfl ?_
      refine u_iconst (pc := 17) hC ic_3 dX12_brokenMany_17 ?_
      obtain ⟨r18, q18, h⟩ := of_bd h
      refine k_RX12_150 (pc := 18) hC (av := [.int v2_4, .int (3 : Int32)]) (rest := [.int v1_4]) (c_X12_of (d := d - 1) (by omega) hk0 q18) (by omega) (Nat.le_of_ble_eq_true rfl) hk0 rfl rfl dX12_brokenMany_18 ?_
      refine u_iadd (pc := 21) hC dX12_brokenMany_21 ?_
      refine u_istore_n (pc := 22) hC dX12_brokenMany_22 rfl [(1, .int (v1_4 + r18)), (0, .ref (gad (cG C) k0)), (2, .int v2_4)] (by decide) rfl ?_
      refine u_iinc (pc := 23) hC dX12_brokenMany_23 2 rfl (v2_4 + 1) rfl [(2, .int (v2_4 + 1)), (1, .int (v1_4 + r18)), (0, .ref (gad (cG C) k0))] (by decide) rfl ?_
      refine u_goto (pc := 26) hC 4 dX12_brokenMany_26 (by decide) ?_
      obtain rfl := Option.some.inj h
      refine u_sub [2, 1, 0] rfl ?_
      exact hP4 (v1_4 + r18, v2_4 + 1) rfl
  unfold f_X12_brokenMany at h
  refine u_iconst (pc := 0) hC ic_0 dX12_brokenMany_0 ?_
  refine u_istore_n (pc := 1) hC dX12_brokenMany_1 rfl [(1, .int (0 : Int32)), (0, .ref (gad (cG C) k0))] (by decide) rfl ?_
  refine u_iconst (pc := 2) hC ic_0 dX12_brokenMany_2 ?_
  refine u_istore_n (pc := 3) hC dX12_brokenMany_3 rfl [(2, .int (0 : Int32)), (1, .int (0 : Int32)), (0, .ref (gad (cG C) k0))] (by decide) rfl ?_
  obtain ⟨e4, l4, h⟩ := of_bd h
  refine u_sub [2, 1, 0] rfl ?_
  refine lw4  e4 ((0 : Int32), (0 : Int32)) l4 ?_
  show UW C 3 μ 29 [(1, .int e4)] []
  refine u_iload_n (pc := 29) hC dX12_brokenMany_29 rfl 0 rfl ?_
  obtain rfl := Option.some.inj h
  exact u_iret (pc := 30) hC hQ hr ⟨rfl, rfl⟩ dX12_brokenMany_30
set_option maxHeartbeats 4000000 in
set_option maxRecDepth 100000 in
theorem c_X12_drawn {l : Launch} {G : GG} {d : Nat} (hd : 0 ≤ d) {μ : Mem} {k0 : Nat} (hk0 : isC 12 k0) {r : Int32 × Mem} (h : f_X12_drawn μ k0 = some r) : CT l yX12_drawn cX12_drawn 1 (some .int) d G [.ref (gad G k0)] μ (RK (some (.int r.1)) r.2) := by
  refine ct_start (by decide) (Nat.le_of_ble_eq_true rfl) (fun C hl1 hG1 hC hQ hr => ?_)
  subst hl1; subst hG1
  have hC : CxOK C cX12_drawn 1 RX12 d := hC
  show UW C 1 μ 0 [(0, .ref (gad (cG C) k0))] []
  unfold f_X12_drawn at h
  refine u_aload_n (pc := 0) hC dX12_drawn_0 rfl 0 rfl ?_
  refine g_RX12_7 (pc := 1) hC hk0 dX12_drawn_1 ?_
  refine u_iconst (pc := 4) hC ic_4 dX12_drawn_4 ?_
  refine u_aload_n (pc := 5) hC dX12_drawn_5 rfl 0 rfl ?_
  refine g_RX12_7 (pc := 6) hC hk0 dX12_drawn_6 ?_
  refine u_iconst (pc := 9) hC ic_4 dX12_drawn_9 ?_
  refine u_iald (pc := 10) hC (rs_12_0 hk0) 342 (rn_12_0 hk0) (by decide) dX12_drawn_10 ?_
  refine u_ldc (pc := 11) hC (v := (1103515245 : Int32)) mQ_RX12_223 dX12_drawn_11 ?_
  refine u_imul (pc := 13) hC dX12_drawn_13 ?_
  refine u_sipush (pc := 14) hC sc_12345 dX12_drawn_14 ?_
  refine u_iadd (pc := 17) hC dX12_drawn_17 ?_
  obtain ⟨m18, q18, h⟩ := of_bd h
  refine u_iast (pc := 18) hC (rs_12_0 hk0) 342 (rn_12_0 hk0) (by decide) dX12_drawn_18 (Option.some.inj q18) ?_
  refine u_aload_n (pc := 19) hC dX12_drawn_19 rfl 0 rfl ?_
  refine g_RX12_7 (pc := 20) hC hk0 dX12_drawn_20 ?_
  refine u_iconst (pc := 23) hC ic_4 dX12_drawn_23 ?_
  refine u_iald (pc := 24) hC (rs_12_0 hk0) 342 (rn_12_0 hk0) (by decide) dX12_drawn_24 ?_
  refine u_bipush (pc := 25) hC bc_8 dX12_drawn_25 ?_
  refine u_iushr (pc := 27) hC dX12_drawn_27 ?_
  obtain rfl := Option.some.inj h
  exact u_iret (pc := 28) hC hQ hr ⟨rfl, rfl⟩ dX12_drawn_28
set_option maxHeartbeats 4000000 in
set_option maxRecDepth 100000 in
theorem c_X12_passes {l : Launch} {G : GG} {d : Nat} (hd : 109 ≤ d) {μ : Mem} {k0 : Nat} (hk0 : isC 12 k0) {a1 : Int32} {a2 : Int32} {r : Int32 × Mem} (h : f_X12_passes μ k0 a1 a2 = some r) : CT l yX12_passes cX12_passes 6 (some .int) d G [.ref (gad G k0), .int a1, .int a2] μ (RK (some (.int r.1)) r.2) := by
  refine ct_start (by decide) (Nat.le_of_ble_eq_true rfl) (fun C hl1 hG1 hC hQ hr => ?_)
  subst hl1; subst hG1
  have hC : CxOK C cX12_passes 6 RX12 d := hC
  show UW C 6 μ 0 [(0, .ref (gad (cG C) k0)), (1, .int a1), (2, .int a2)] []
  have lw40 : ∀ (e : (Mem)) (s : Int32 × Mem), lp (fun s => f_X12_passes_l40 k0 a1 a2 s.1 s.2) FU s = some e → (fun (e : (Mem)) => UW C 6 e 115 [(0, .ref (gad (cG C) k0))] []) e → UW C 6 s.2 40 [(0, .ref (gad (cG C) k0)), (1, .int a1), (2, .int a2), (3, .int s.1)] [] := by
    intro e s hl hE0
    refine @lp_walk (Int32 × Mem) (Mem) (fun s => f_X12_passes_l40 k0 a1 a2 s.1 s.2) (fun s => UW C 6 s.2 40 [(0, .ref (gad (cG C) k0)), (1, .int a1), (2, .int a2), (3, .int s.1)] []) (fun (e : (Mem)) => UW C 6 e 115 [(0, .ref (gad (cG C) k0))] []) (fun s y40 h hP40 hE40 => ?_) FU s e hl hE0
    have jb105 : ∀ (μ_105 : Mem) (v3_105 : Int32), f_X12_passes_j105 μ_105 k0 a1 a2 v3_105 = some y40 → UW C 6 μ_105 105 [(0, .ref (gad (cG C) k0)), (1, .int a1), (2, .int a2), (3, .int v3_105)] [] := by
      intro μ_105 v3_105 h
      unfold f_X12_passes_j105 at h
      refine u_aload_n (pc := 105) hC dX12_passes_105 rfl 0 rfl ?_
      obtain ⟨μ106, q106, h⟩ := of_bd h
      refine k_RX12_229 (pc := 106) hC (av := []) (rest := []) (c_X12_aWeek (d := d - 1) (by omega) hk0 q106) (by omega) (Nat.le_of_ble_eq_true rfl) hk0 rfl rfl dX12_passes_106 ?_
      refine u_iinc (pc := 109) hC dX12_passes_109 3 rfl (v3_105 + 1) rfl [(3, .int (v3_105 + 1)), (0, .ref (gad (cG C) k0)), (1, .int a1), (2, .int a2)] (by decide) rfl ?_
      refine u_goto (pc := 112) hC 40 dX12_passes_112 (by decide) ?_
      obtain rfl := Option.some.inj h
      refine u_sub [1, 2, 3, 0] rfl ?_
      exact hP40 (v3_105 + 1, μ106) rfl
    have jb76 : ∀ (μ_76 : Mem) (v3_76 : Int32) (v4_76 : Int32) (vt0_76 : Int32), f_X12_passes_j76 μ_76 k0 a1 a2 v3_76 v4_76 vt0_76 = some y40 → UW C 6 μ_76 76 [(0, .ref (gad (cG C) k0)), (1, .int a1), (2, .int a2), (3, .int v3_76), (4, .int v4_76)] [.int vt0_76] := by
      intro μ_76 v3_76 v4_76 vt0_76 h
      unfold f_X12_passes_j76 at h
      refine u_istore (pc := 76) hC dX12_passes_76 [(5, .int vt0_76), (0, .ref (gad (cG C) k0)), (1, .int a1), (2, .int a2), (3, .int v3_76), (4, .int v4_76)] (by decide) rfl ?_
      refine u_aload_n (pc := 78) hC dX12_passes_78 rfl 1 rfl ?_
      refine u_iload (pc := 79) hC dX12_passes_79 5 rfl ?_
      obtain ⟨r81, q81, h⟩ := of_bd h
      refine k_RX12_197 (pc := 81) hC (av := [.int v4_76]) (rest := []) (c_X12_isDebtor (d := d - 1) (by omega) hk0 q81) (by omega) (Nat.le_of_ble_eq_true rfl) hk0 rfl rfl dX12_passes_81 ?_
      refine u_if_eq (pc := 84) hC (tgt := 105) dX12_passes_84 (by decide) (fun c84 => ?_) (fun c84 => ?_)
      · replace h := of_t c84 h
        refine u_sub [1, 2, 3, 4] rfl ?_
        exact jb105 μ_76 v3_76 h
      · replace h := of_f c84 h
        refine u_aload_n (pc := 87) hC dX12_passes_87 rfl 1 rfl ?_
        refine u_iload (pc := 88) hC dX12_passes_88 5 rfl ?_
        refine u_iconst (pc := 90) hC ic_3 dX12_passes_90 ?_
        obtain ⟨r91, q91, h⟩ := of_bd h
        refine k_RX12_150 (pc := 91) hC (av := [.int v4_76, .int (3 : Int32)]) (rest := []) (c_X12_of (d := d - 1) (by omega) hk0 q91) (by omega) (Nat.le_of_ble_eq_true rfl) hk0 rfl rfl dX12_passes_91 ?_
        refine u_if_ne (pc := 94) hC (tgt := 105) dX12_passes_94 (by decide) (fun c94 => ?_) (fun c94 => ?_)
        · replace h := of_t c94 h
          refine u_sub [1, 2, 3, 4] rfl ?_
          exact jb105 μ_76 v3_76 h
        · replace h := of_f (fun q => q c94) h
          refine u_aload_n (pc := 97) hC dX12_passes_97 rfl 1 rfl ?_
          refine u_iload (pc := 98) hC dX12_passes_98 5 rfl ?_
          refine u_iload (pc := 100) hC dX12_passes_100 0 rfl ?_
          obtain ⟨μ102, q102, h⟩ := of_bd h
          refine k_RX12_210 (pc := 102) hC (av := [.int v4_76, .int vt0_76]) (rest := []) (c_X12_lends (d := d - 1) (by omega) hk0 q102) (by omega) (Nat.le_of_ble_eq_true rfl) hk0 rfl rfl dX12_passes_102 ?_
          refine u_sub [1, 2, 3, 4] rfl ?_
          exact jb105 μ102 v3_76 h
    have jb59 : ∀ (μ_59 : Mem) (v3_59 : Int32) (vt0_59 : Int32), f_X12_passes_j59 μ_59 k0 a1 a2 v3_59 vt0_59 = some y40 → UW C 6 μ_59 59 [(0, .ref (gad (cG C) k0)), (1, .int a1), (2, .int a2), (3, .int v3_59)] [.int vt0_59] := by
      intro μ_59 v3_59 vt0_59 h
      unfold f_X12_passes_j59 at h
      refine u_istore (pc := 59) hC dX12_passes_59 [(4, .int vt0_59), (0, .ref (gad (cG C) k0)), (1, .int a1), (2, .int a2), (3, .int v3_59)] (by decide) rfl ?_
      refine u_iload_n (pc := 61) hC dX12_passes_61 rfl 3 rfl ?_
      refine u_if_eq (pc := 62) hC (tgt := 75) dX12_passes_62 (by decide) (fun c62 => ?_) (fun c62 => ?_)
      · replace h := of_t c62 h
        refine u_iconst (pc := 75) hC ic_0 dX12_passes_75 ?_
        refine u_sub [1, 2, 3, 4, 0] rfl ?_
        exact jb76 μ_59 v3_59 vt0_59 (0 : Int32) h
      · replace h := of_f c62 h
        refine u_aload_n (pc := 65) hC dX12_passes_65 rfl 1 rfl ?_
        obtain ⟨p66, q66, h⟩ := of_bd h
        refine k_RX12_226 (pc := 66) hC (av := []) (rest := []) (c_X12_drawn (d := d - 1) (by omega) hk0 q66) (by omega) (Nat.le_of_ble_eq_true rfl) hk0 rfl rfl dX12_passes_66 ?_
        refine u_bipush (pc := 69) hC bc_50 dX12_passes_69 ?_
        refine u_irem (pc := 71) hC (by decide) dX12_passes_71 ?_
        refine u_goto (pc := 72) hC 76 dX12_passes_72 (by decide) ?_
        refine u_sub [1, 2, 3, 4, 0] rfl ?_
        exact jb76 p66.2 v3_59 vt0_59 (jrem p66.1 (50 : Int32)) h
    obtain ⟨v3_40, μ_40⟩ := s
    replace h : f_X12_passes_l40 k0 a1 a2 v3_40 μ_40 = some y40 := h
    show UW C 6 μ_40 40 [(0, .ref (gad (cG C) k0)), (1, .int a1), (2, .int a2), (3, .int v3_40)] []
    unfold f_X12_passes_l40 at h
    refine u_iload_n (pc := 40) hC dX12_passes_40 rfl 3 rfl ?_
    refine u_iload_n (pc := 41) hC dX12_passes_41 rfl 1 rfl ?_
    refine u_icmp_ge (pc := 42) hC (tgt := 115) dX12_passes_42 (by decide) (fun c42 => ?_) (fun c42 => ?_)
    · replace h := of_t c42 h
      obtain rfl := Option.some.inj h
      refine u_sub [0] rfl ?_
      exact hE40 μ_40 rfl
    · replace h := of_f c42 h
      refine u_iload_n (pc := 45) hC dX12_passes_45 rfl 2 rfl ?_
      refine u_if_eq (pc := 46) hC (tgt := 58) dX12_passes_46 (by decide) (fun c46 => ?_) (fun c46 => ?_)
      · replace h := of_t c46 h
        refine u_iconst (pc := 58) hC ic_0 dX12_passes_58 ?_
        exact jb59 μ_40 v3_40 (0 : Int32) h
      · replace h := of_f c46 h
        refine u_aload_n (pc := 49) hC dX12_passes_49 rfl 0 rfl ?_
        obtain ⟨p50, q50, h⟩ := of_bd h
        refine k_RX12_226 (pc := 50) hC (av := []) (rest := []) (c_X12_drawn (d := d - 1) (by omega) hk0 q50) (by omega) (Nat.le_of_ble_eq_true rfl) hk0 rfl rfl dX12_passes_50 ?_
        refine u_iconst (pc := 53) hC ic_4 dX12_passes_53 ?_
        refine u_irem (pc := 54) hC (by decide) dX12_passes_54 ?_
        refine u_goto (pc := 55) hC 59 dX12_passes_55 (by decide) ?_
        exact jb59 p50.2 v3_40 (jrem p50.1 (4 : Int32)) h
  unfold f_X12_passes at h
  refine u_iload_n (pc := 0) hC dX12_passes_0 rfl 1 rfl ?_
  refine u_i2l (pc := 1) hC dX12_passes_1 ?_
  refine u_lconst (pc := 2) hC (v := (1 : Int64)) rfl dX12_passes_2 ?_
  refine u_ldc2 (pc := 3) hC (v := (60 : Int64)) mQ_RX12_224 dX12_passes_3 ?_
  obtain ⟨r6, q6, h⟩ := of_bd h
  refine k_RX12_57 (pc := 6) hC (av := [.long a1.toInt64, .long (1 : Int64), .long (60 : Int64)]) (rest := []) (c_X12_in (d := d - 1) (by omega)  q6) (by omega) (Nat.le_of_ble_eq_true rfl) rfl rfl dX12_passes_6 ?_
  refine u_if_ne (pc := 9) hC (tgt := 18) dX12_passes_9 (by decide) (fun c9 => ?_) (fun c9 => ?_)
  · replace h := of_t c9 h
    refine u_aload_n (pc := 18) hC dX12_passes_18 rfl 0 rfl ?_
    refine g_RX12_7 (pc := 19) hC hk0 dX12_passes_19 ?_
    refine u_iconst (pc := 22) hC ic_3 dX12_passes_22 ?_
    refine u_iald (pc := 23) hC (rs_12_0 hk0) 342 (rn_12_0 hk0) (by decide) dX12_passes_23 ?_
    refine u_iload_n (pc := 24) hC dX12_passes_24 rfl 1 rfl ?_
    refine u_iadd (pc := 25) hC dX12_passes_25 ?_
    refine u_sipush (pc := 26) hC sc_999 dX12_passes_26 ?_
    refine u_icmp_le (pc := 29) hC (tgt := 38) dX12_passes_29 (by decide) (fun c29 => ?_) (fun c29 => ?_)
    · replace h := of_t c29 h
      refine u_iconst (pc := 38) hC ic_0 dX12_passes_38 ?_
      refine u_istore_n (pc := 39) hC dX12_passes_39 rfl [(3, .int (0 : Int32)), (0, .ref (gad (cG C) k0)), (1, .int a1), (2, .int a2)] (by decide) rfl ?_
      obtain ⟨e40, l40, h⟩ := of_bd h
      refine u_sub [1, 2, 3, 0] rfl ?_
      refine lw40  e40 ((0 : Int32), μ) l40 ?_
      show UW C 6 e40 115 [(0, .ref (gad (cG C) k0))] []
      refine u_aload_n (pc := 115) hC dX12_passes_115 rfl 0 rfl ?_
      obtain ⟨r116, q116, h⟩ := of_bd h
      refine k_RX12_232 (pc := 116) hC (av := []) (rest := []) (c_X12_brokenMany (d := d - 1) (by omega) hk0 q116) (by omega) (Nat.le_of_ble_eq_true rfl) hk0 rfl rfl dX12_passes_116 ?_
      obtain rfl := Option.some.inj h
      exact u_iret (pc := 119) hC hQ hr ⟨rfl, rfl⟩ dX12_passes_119
    · replace h := of_f c29 h
      refine u_aload_n (pc := 32) hC dX12_passes_32 rfl 0 rfl ?_
      refine u_iconst (pc := 33) hC ic_3 dX12_passes_33 ?_
      obtain ⟨p34, q34, h⟩ := of_bd h
      refine k_RX12_119 (pc := 34) hC (av := [.int (3 : Int32)]) (rest := []) (c_X12_finds (d := d - 1) (by omega) hk0 q34) (by omega) (Nat.le_of_ble_eq_true rfl) hk0 rfl rfl dX12_passes_34 ?_
      obtain rfl := Option.some.inj h
      exact u_iret (pc := 37) hC hQ hr ⟨rfl, rfl⟩ dX12_passes_37
  · replace h := of_f (fun q => q c9) h
    refine u_aload_n (pc := 12) hC dX12_passes_12 rfl 0 rfl ?_
    refine u_iconst (pc := 13) hC ic_1 dX12_passes_13 ?_
    obtain ⟨p14, q14, h⟩ := of_bd h
    refine k_RX12_119 (pc := 14) hC (av := [.int (1 : Int32)]) (rest := []) (c_X12_finds (d := d - 1) (by omega) hk0 q14) (by omega) (Nat.le_of_ble_eq_true rfl) hk0 rfl rfl dX12_passes_14 ?_
    obtain rfl := Option.some.inj h
    exact u_iret (pc := 17) hC hQ hr ⟨rfl, rfl⟩ dX12_passes_17
set_option maxHeartbeats 4000000 in
set_option maxRecDepth 100000 in
theorem c_X12_weeks {l : Launch} {G : GG} {d : Nat} (hd : 110 ≤ d) {μ : Mem} {k0 : Nat} (hk0 : isC 12 k0) {a1 : Int32} {r : Int32 × Mem} (h : f_X12_weeks μ k0 a1 = some r) : CT l yX12_weeks cX12_weeks 2 (some .int) d G [.ref (gad G k0), .int a1] μ (RK (some (.int r.1)) r.2) := by
  refine ct_start (by decide) (Nat.le_of_ble_eq_true rfl) (fun C hl1 hG1 hC hQ hr => ?_)
  subst hl1; subst hG1
  have hC : CxOK C cX12_weeks 2 RX12 d := hC
  show UW C 2 μ 0 [(0, .ref (gad (cG C) k0)), (1, .int a1)] []
  unfold f_X12_weeks at h
  refine u_aload_n (pc := 0) hC dX12_weeks_0 rfl 0 rfl ?_
  refine u_iload_n (pc := 1) hC dX12_weeks_1 rfl 1 rfl ?_
  refine u_iconst (pc := 2) hC ic_0 dX12_weeks_2 ?_
  obtain ⟨p3, q3, h⟩ := of_bd h
  refine k_RX12_235 (pc := 3) hC (av := [.int a1, .int (0 : Int32)]) (rest := []) (c_X12_passes (d := d - 1) (by omega) hk0 q3) (by omega) (Nat.le_of_ble_eq_true rfl) hk0 rfl rfl dX12_weeks_3 ?_
  obtain rfl := Option.some.inj h
  exact u_iret (pc := 6) hC hQ hr ⟨rfl, rfl⟩ dX12_weeks_6
set_option maxHeartbeats 4000000 in
set_option maxRecDepth 100000 in
theorem c_X12_loose {l : Launch} {G : GG} {d : Nat} (hd : 110 ≤ d) {μ : Mem} {k0 : Nat} (hk0 : isC 12 k0) {a1 : Int32} {r : Int32 × Mem} (h : f_X12_loose μ k0 a1 = some r) : CT l yX12_loose cX12_loose 2 (some .int) d G [.ref (gad G k0), .int a1] μ (RK (some (.int r.1)) r.2) := by
  refine ct_start (by decide) (Nat.le_of_ble_eq_true rfl) (fun C hl1 hG1 hC hQ hr => ?_)
  subst hl1; subst hG1
  have hC : CxOK C cX12_loose 2 RX12 d := hC
  show UW C 2 μ 0 [(0, .ref (gad (cG C) k0)), (1, .int a1)] []
  unfold f_X12_loose at h
  refine u_aload_n (pc := 0) hC dX12_loose_0 rfl 0 rfl ?_
  refine u_iload_n (pc := 1) hC dX12_loose_1 rfl 1 rfl ?_
  refine u_iconst (pc := 2) hC ic_1 dX12_loose_2 ?_
  obtain ⟨p3, q3, h⟩ := of_bd h
  refine k_RX12_235 (pc := 3) hC (av := [.int a1, .int (1 : Int32)]) (rest := []) (c_X12_passes (d := d - 1) (by omega) hk0 q3) (by omega) (Nat.le_of_ble_eq_true rfl) hk0 rfl rfl dX12_loose_3 ?_
  obtain rfl := Option.some.inj h
  exact u_iret (pc := 6) hC hQ hr ⟨rfl, rfl⟩ dX12_loose_6
set_option maxHeartbeats 4000000 in
set_option maxRecDepth 100000 in
theorem c_X12_then {l : Launch} {G : GG} {d : Nat} (hd : 109 ≤ d) {μ : Mem} {k0 : Nat} (hk0 : isC 12 k0) {a1 : Int32} {a2 : Int32} {a3 : Int32} {r : Int32 × Mem} (h : f_X12_then μ k0 a1 a2 a3 = some r) : CT l yX12_then cX12_then 5 (some .int) d G [.ref (gad G k0), .int a1, .int a2, .int a3] μ (RK (some (.int r.1)) r.2) := by
  refine ct_start (by decide) (Nat.le_of_ble_eq_true rfl) (fun C hl1 hG1 hC hQ hr => ?_)
  subst hl1; subst hG1
  have hC : CxOK C cX12_then 5 RX12 d := hC
  show UW C 5 μ 0 [(0, .ref (gad (cG C) k0)), (1, .int a1), (2, .int a2), (3, .int a3)] []
  have lw53 : ∀ (e : (Mem)) (s : Int32 × Mem), lp (fun s => f_X12_then_l53 k0 a1 a2 a3 s.1 s.2) FU s = some e → (fun (e : (Mem)) => UW C 5 e 69 [(0, .ref (gad (cG C) k0)), (2, .int a2), (3, .int a3)] []) e → UW C 5 s.2 53 [(0, .ref (gad (cG C) k0)), (1, .int a1), (2, .int a2), (3, .int a3), (4, .int s.1)] [] := by
    intro e s hl hE0
    refine @lp_walk (Int32 × Mem) (Mem) (fun s => f_X12_then_l53 k0 a1 a2 a3 s.1 s.2) (fun s => UW C 5 s.2 53 [(0, .ref (gad (cG C) k0)), (1, .int a1), (2, .int a2), (3, .int a3), (4, .int s.1)] []) (fun (e : (Mem)) => UW C 5 e 69 [(0, .ref (gad (cG C) k0)), (2, .int a2), (3, .int a3)] []) (fun s y53 h hP53 hE53 => ?_) FU s e hl hE0
    obtain ⟨v4_53, μ_53⟩ := s
    replace h : f_X12_then_l53 k0 a1 a2 a3 v4_53 μ_53 = some y53 := h
    show UW C 5 μ_53 53 [(0, .ref (gad (cG C) k0)), (1, .int a1), (2, .int a2), (3, .int a3), (4, .int v4_53)] []
    unfold f_X12_then_l53 at h
    refine u_iload (pc := 53) hC dX12_then_53 4 rfl ?_
    refine u_iload_n (pc := 55) hC dX12_then_55 rfl 1 rfl ?_
    refine u_icmp_ge (pc := 56) hC (tgt := 69) dX12_then_56 (by decide) (fun c56 => ?_) (fun c56 => ?_)
    · replace h := of_t c56 h
      obtain rfl := Option.some.inj h
      refine u_sub [0, 2, 3] rfl ?_
      exact hE53 μ_53 rfl
    · replace h := of_f c56 h
      refine u_aload_n (pc := 59) hC dX12_then_59 rfl 0 rfl ?_
      obtain ⟨μ60, q60, h⟩ := of_bd h
      refine k_RX12_229 (pc := 60) hC (av := []) (rest := []) (c_X12_aWeek (d := d - 1) (by omega) hk0 q60) (by omega) (Nat.le_of_ble_eq_true rfl) hk0 rfl rfl dX12_then_60 ?_
      refine u_iinc (pc := 63) hC dX12_then_63 4 rfl (v4_53 + 1) rfl [(4, .int (v4_53 + 1)), (0, .ref (gad (cG C) k0)), (1, .int a1), (2, .int a2), (3, .int a3)] (by decide) rfl ?_
      refine u_goto (pc := 66) hC 53 dX12_then_66 (by decide) ?_
      obtain rfl := Option.some.inj h
      refine u_sub [1, 2, 3, 4, 0] rfl ?_
      exact hP53 (v4_53 + 1, μ60) rfl
  have jb40 : ∀ (μ_40 : Mem), f_X12_then_j40 μ_40 k0 a1 a2 a3 = some r → UW C 5 μ_40 40 [(0, .ref (gad (cG C) k0))] [] := by
    intro μ_40 h
    unfold f_X12_then_j40 at h
    refine u_aload_n (pc := 40) hC dX12_then_40 rfl 0 rfl ?_
    refine u_iconst (pc := 41) hC ic_1 dX12_then_41 ?_
    obtain ⟨p42, q42, h⟩ := of_bd h
    refine k_RX12_119 (pc := 42) hC (av := [.int (1 : Int32)]) (rest := []) (c_X12_finds (d := d - 1) (by omega) hk0 q42) (by omega) (Nat.le_of_ble_eq_true rfl) hk0 rfl rfl dX12_then_42 ?_
    obtain rfl := Option.some.inj h
    exact u_iret (pc := 45) hC hQ hr ⟨rfl, rfl⟩ dX12_then_45
  unfold f_X12_then at h
  refine u_iload_n (pc := 0) hC dX12_then_0 rfl 1 rfl ?_
  refine u_i2l (pc := 1) hC dX12_then_1 ?_
  refine u_lconst (pc := 2) hC (v := (0 : Int64)) rfl dX12_then_2 ?_
  refine u_ldc2 (pc := 3) hC (v := (60 : Int64)) mQ_RX12_224 dX12_then_3 ?_
  obtain ⟨r6, q6, h⟩ := of_bd h
  refine k_RX12_57 (pc := 6) hC (av := [.long a1.toInt64, .long (0 : Int64), .long (60 : Int64)]) (rest := []) (c_X12_in (d := d - 1) (by omega)  q6) (by omega) (Nat.le_of_ble_eq_true rfl) rfl rfl dX12_then_6 ?_
  refine u_if_eq (pc := 9) hC (tgt := 40) dX12_then_9 (by decide) (fun c9 => ?_) (fun c9 => ?_)
  · replace h := of_t c9 h
    refine u_sub [0] rfl ?_
    exact jb40 μ h
  · replace h := of_f c9 h
    refine u_aload_n (pc := 12) hC dX12_then_12 rfl 0 rfl ?_
    refine u_iload_n (pc := 13) hC dX12_then_13 rfl 2 rfl ?_
    obtain ⟨r14, q14, h⟩ := of_bd h
    refine k_RX12_197 (pc := 14) hC (av := [.int a2]) (rest := []) (c_X12_isDebtor (d := d - 1) (by omega) hk0 q14) (by omega) (Nat.le_of_ble_eq_true rfl) hk0 rfl rfl dX12_then_14 ?_
    refine u_if_eq (pc := 17) hC (tgt := 40) dX12_then_17 (by decide) (fun c17 => ?_) (fun c17 => ?_)
    · replace h := of_t c17 h
      refine u_sub [0] rfl ?_
      exact jb40 μ h
    · replace h := of_f c17 h
      refine u_iload_n (pc := 20) hC dX12_then_20 rfl 3 rfl ?_
      refine u_i2l (pc := 21) hC dX12_then_21 ?_
      refine u_ldc2 (pc := 22) hC (v := (2 : Int64)) mQ_RX12_239 dX12_then_22 ?_
      refine u_ldc2 (pc := 25) hC (v := (7 : Int64)) mQ_RX12_241 dX12_then_25 ?_
      obtain ⟨r28, q28, h⟩ := of_bd h
      refine k_RX12_57 (pc := 28) hC (av := [.long a3.toInt64, .long (2 : Int64), .long (7 : Int64)]) (rest := []) (c_X12_in (d := d - 1) (by omega)  q28) (by omega) (Nat.le_of_ble_eq_true rfl) rfl rfl dX12_then_28 ?_
      refine u_if_eq (pc := 31) hC (tgt := 40) dX12_then_31 (by decide) (fun c31 => ?_) (fun c31 => ?_)
      · replace h := of_t c31 h
        refine u_sub [0] rfl ?_
        exact jb40 μ h
      · replace h := of_f c31 h
        refine u_iload_n (pc := 34) hC dX12_then_34 rfl 3 rfl ?_
        refine u_bipush (pc := 35) hC bc_6 dX12_then_35 ?_
        refine u_icmp_ne (pc := 37) hC (tgt := 46) dX12_then_37 (by decide) (fun c37 => ?_) (fun c37 => ?_)
        · replace h := of_t c37 h
          refine u_aload_n (pc := 46) hC dX12_then_46 rfl 0 rfl ?_
          obtain ⟨μ47, q47, h⟩ := of_bd h
          refine k_RX12_243 (pc := 47) hC (av := []) (rest := []) (c_X12_keepAside (d := d - 1) (by omega) hk0 q47) (by omega) (Nat.le_of_ble_eq_true rfl) hk0 rfl rfl dX12_then_47 ?_
          refine u_iconst (pc := 50) hC ic_0 dX12_then_50 ?_
          refine u_istore (pc := 51) hC dX12_then_51 [(4, .int (0 : Int32)), (0, .ref (gad (cG C) k0)), (1, .int a1), (2, .int a2), (3, .int a3)] (by decide) rfl ?_
          obtain ⟨e53, l53, h⟩ := of_bd h
          refine u_sub [1, 2, 3, 4, 0] rfl ?_
          refine lw53  e53 ((0 : Int32), μ47) l53 ?_
          show UW C 5 e53 69 [(0, .ref (gad (cG C) k0)), (2, .int a2), (3, .int a3)] []
          refine u_aload_n (pc := 69) hC dX12_then_69 rfl 0 rfl ?_
          refine u_iload_n (pc := 70) hC dX12_then_70 rfl 1 rfl ?_
          refine u_iload_n (pc := 71) hC dX12_then_71 rfl 2 rfl ?_
          obtain ⟨p72, q72, h⟩ := of_bd h
          refine k_RX12_200 (pc := 72) hC (av := [.int a2, .int a3]) (rest := []) (c_X12_toldOf (d := d - 1) (by omega) hk0 q72) (by omega) (Nat.le_of_ble_eq_true rfl) hk0 rfl rfl dX12_then_72 ?_
          refine u_istore (pc := 75) hC dX12_then_75 [(4, .int p72.1), (0, .ref (gad (cG C) k0)), (2, .int a2), (3, .int a3)] (by decide) rfl ?_
          refine u_aload_n (pc := 77) hC dX12_then_77 rfl 1 rfl ?_
          obtain ⟨μ78, q78, h⟩ := of_bd h
          refine k_RX12_246 (pc := 78) hC (av := []) (rest := []) (c_X12_putBack (d := d - 1) (by omega) hk0 q78) (by omega) (Nat.le_of_ble_eq_true rfl) hk0 rfl rfl dX12_then_78 ?_
          refine u_iload (pc := 81) hC dX12_then_81 0 rfl ?_
          obtain rfl := Option.some.inj h
          exact u_iret (pc := 83) hC hQ hr ⟨rfl, rfl⟩ dX12_then_83
        · replace h := of_f (fun q => q c37) h
          refine u_sub [0] rfl ?_
          exact jb40 μ h
set_option maxHeartbeats 4000000 in
set_option maxRecDepth 100000 in
theorem c_X12_takes_ {l : Launch} {G : GG} {d : Nat} (hd : 4 ≤ d) {μ : Mem} {k0 : Nat} (hk0 : isC 12 k0) {a1 : Int32} {a2 : Int32} {r : Int32 × Mem} (h : f_X12_takes_ μ k0 a1 a2 = some r) : CT l yX12_takes_ cX12_takes_ 3 (some .boolean) d G [.ref (gad G k0), .int a1, .int a2] μ (RK (some (.int r.1)) r.2) := by
  refine ct_start (by decide) (Nat.le_of_ble_eq_true rfl) (fun C hl1 hG1 hC hQ hr => ?_)
  subst hl1; subst hG1
  have hC : CxOK C cX12_takes_ 3 RX12 d := hC
  show UW C 3 μ 0 [(0, .ref (gad (cG C) k0)), (1, .int a1), (2, .int a2)] []
  unfold f_X12_takes_ at h
  refine u_aload_n (pc := 0) hC dX12_takes__0 rfl 0 rfl ?_
  refine u_iload_n (pc := 1) hC dX12_takes__1 rfl 1 rfl ?_
  refine u_iload_n (pc := 2) hC dX12_takes__2 rfl 2 rfl ?_
  obtain ⟨r3, q3, h⟩ := of_bd h
  refine k_RX12_164 (pc := 3) hC (av := [.int a1, .int a2]) (rest := []) (c_X12_mayTell (d := d - 1) (by omega) hk0 q3) (by omega) (Nat.le_of_ble_eq_true rfl) hk0 rfl rfl dX12_takes__3 ?_
  refine u_if_ne (pc := 6) hC (tgt := 11) dX12_takes__6 (by decide) (fun c6 => ?_) (fun c6 => ?_)
  · replace h := of_t c6 h
    refine u_aload_n (pc := 11) hC dX12_takes__11 rfl 0 rfl ?_
    refine u_iload_n (pc := 12) hC dX12_takes__12 rfl 1 rfl ?_
    refine u_iload_n (pc := 13) hC dX12_takes__13 rfl 2 rfl ?_
    obtain ⟨μ14, q14, h⟩ := of_bd h
    refine k_RX12_180 (pc := 14) hC (av := [.int a1, .int a2]) (rest := []) (c_X12_writes (d := d - 1) (by omega) hk0 q14) (by omega) (Nat.le_of_ble_eq_true rfl) hk0 rfl rfl dX12_takes__14 ?_
    refine u_aload_n (pc := 17) hC dX12_takes__17 rfl 0 rfl ?_
    refine u_iload_n (pc := 18) hC dX12_takes__18 rfl 1 rfl ?_
    obtain ⟨r19, q19, h⟩ := of_bd h
    refine k_RX12_216 (pc := 19) hC (av := [.int a1]) (rest := []) (c_X12_isOverdue (d := d - 1) (by omega) hk0 q19) (by omega) (Nat.le_of_ble_eq_true rfl) hk0 rfl rfl dX12_takes__19 ?_
    refine u_if_eq (pc := 22) hC (tgt := 41) dX12_takes__22 (by decide) (fun c22 => ?_) (fun c22 => ?_)
    · replace h := of_t c22 h
      refine u_iconst (pc := 41) hC ic_1 dX12_takes__41 ?_
      obtain rfl := Option.some.inj h
      exact u_zret (pc := 42) hC hQ hr (by decide) ⟨rfl, rfl⟩ dX12_takes__42
    · replace h := of_f c22 h
      refine u_aload_n (pc := 25) hC dX12_takes__25 rfl 0 rfl ?_
      refine u_iload_n (pc := 26) hC dX12_takes__26 rfl 1 rfl ?_
      refine u_iconst (pc := 27) hC ic_4 dX12_takes__27 ?_
      refine u_aload_n (pc := 28) hC dX12_takes__28 rfl 0 rfl ?_
      refine u_iload_n (pc := 29) hC dX12_takes__29 rfl 1 rfl ?_
      refine u_iconst (pc := 30) hC ic_4 dX12_takes__30 ?_
      obtain ⟨r31, q31, h⟩ := of_bd h
      refine k_RX12_150 (pc := 31) hC (av := [.int a1, .int (4 : Int32)]) (rest := [.int (4 : Int32), .int a1, .ref (gad (cG C) k0)]) (c_X12_of (d := d - 1) (by omega) hk0 q31) (by omega) (Nat.le_of_ble_eq_true rfl) hk0 rfl rfl dX12_takes__31 ?_
      refine u_iconst (pc := 34) hC ic_1 dX12_takes__34 ?_
      refine u_isub (pc := 35) hC dX12_takes__35 ?_
      obtain ⟨μ36, q36, h⟩ := of_bd h
      refine k_RX12_174 (pc := 36) hC (av := [.int a1, .int (4 : Int32), .int (r31 - (1 : Int32))]) (rest := []) (c_X12_sets (d := d - 1) (by omega) hk0 q36) (by omega) (Nat.le_of_ble_eq_true rfl) hk0 rfl rfl dX12_takes__36 ?_
      refine u_iconst (pc := 39) hC ic_0 dX12_takes__39 ?_
      obtain rfl := Option.some.inj h
      exact u_zret (pc := 40) hC hQ hr (by decide) ⟨rfl, rfl⟩ dX12_takes__40
  · replace h := of_f (fun q => q c6) h
    refine u_iconst (pc := 9) hC ic_0 dX12_takes__9 ?_
    obtain rfl := Option.some.inj h
    exact u_zret (pc := 10) hC hQ hr (by decide) ⟨rfl, rfl⟩ dX12_takes__10
set_option maxHeartbeats 4000000 in
set_option maxRecDepth 100000 in
theorem c_X12_looksAt {l : Launch} {G : GG} {d : Nat} (hd : 3 ≤ d) {μ : Mem} {k0 : Nat} (hk0 : isC 12 k0) {a1 : Int32} {a2 : Int32} {a3 : Int32} {r : Mem} (h : f_X12_looksAt μ k0 a1 a2 a3 = some r) : CT l yX12_looksAt cX12_looksAt 6 none d G [.ref (gad G k0), .int a1, .int a2, .int a3] μ (RK none r) := by
  refine ct_start (by decide) (Nat.le_of_ble_eq_true rfl) (fun C hl1 hG1 hC hQ hr => ?_)
  subst hl1; subst hG1
  have hC : CxOK C cX12_looksAt 6 RX12 d := hC
  show UW C 6 μ 0 [(0, .ref (gad (cG C) k0)), (1, .int a1), (2, .int a2), (3, .int a3)] []
  have lw63 : ∀ (e : (Mem)) (s : Int32 × Mem), lp (fun s => f_X12_looksAt_l63 k0 a1 a2 a3 s.1 s.2) FU s = some e → (fun (e : (Mem)) => UW C 6 e 89 [] []) e → UW C 6 s.2 63 [(0, .ref (gad (cG C) k0)), (2, .int a2), (5, .int s.1)] [] := by
    intro e s hl hE0
    refine @lp_walk (Int32 × Mem) (Mem) (fun s => f_X12_looksAt_l63 k0 a1 a2 a3 s.1 s.2) (fun s => UW C 6 s.2 63 [(0, .ref (gad (cG C) k0)), (2, .int a2), (5, .int s.1)] []) (fun (e : (Mem)) => UW C 6 e 89 [] []) (fun s y63 h hP63 hE63 => ?_) FU s e hl hE0
    obtain ⟨v5_63, μ_63⟩ := s
    replace h : f_X12_looksAt_l63 k0 a1 a2 a3 v5_63 μ_63 = some y63 := h
    show UW C 6 μ_63 63 [(0, .ref (gad (cG C) k0)), (2, .int a2), (5, .int v5_63)] []
    unfold f_X12_looksAt_l63 at h
    refine u_iload (pc := 63) hC dX12_looksAt_63 2 rfl ?_
    refine u_iload_n (pc := 65) hC dX12_looksAt_65 rfl 1 rfl ?_
    refine u_icmp_ge (pc := 66) hC (tgt := 89) dX12_looksAt_66 (by decide) (fun c66 => ?_) (fun c66 => ?_)
    · replace h := of_t c66 h
      obtain rfl := Option.some.inj h
      refine u_sub [] rfl ?_
      exact hE63 μ_63 rfl
    · replace h := of_f c66 h
      refine u_aload_n (pc := 69) hC dX12_looksAt_69 rfl 0 rfl ?_
      refine g_RX12_35 (pc := 70) hC hk0 dX12_looksAt_70 ?_
      refine u_iload (pc := 73) hC dX12_looksAt_73 2 rfl ?_
      refine u_aload_n (pc := 75) hC dX12_looksAt_75 rfl 0 rfl ?_
      refine g_RX12_32 (pc := 76) hC hk0 dX12_looksAt_76 ?_
      refine u_iload (pc := 79) hC dX12_looksAt_79 2 rfl ?_
      obtain ⟨b81, h⟩ := of_gd h
      refine u_iald (pc := 81) hC (rs_12_15 hk0) 9 (rn_12_15 hk0) b81 dX12_looksAt_81 ?_
      obtain ⟨b82, h⟩ := of_gd h
      obtain ⟨m82, q82, h⟩ := of_bd h
      refine u_iast (pc := 82) hC (rs_12_16 hk0) 9 (rn_12_16 hk0) b82 dX12_looksAt_82 (Option.some.inj q82) ?_
      refine u_iinc (pc := 83) hC dX12_looksAt_83 2 rfl (v5_63 + 1) rfl [(5, .int (v5_63 + 1)), (0, .ref (gad (cG C) k0)), (2, .int a2)] (by decide) rfl ?_
      refine u_goto (pc := 86) hC 63 dX12_looksAt_86 (by decide) ?_
      obtain rfl := Option.some.inj h
      refine u_sub [1, 2, 0] rfl ?_
      exact hP63 (v5_63 + 1, m82) rfl
  have jb48 : ∀ (μ_48 : Mem) (vt0_48 : Int32), f_X12_looksAt_j48 μ_48 k0 a1 a2 a3 vt0_48 = some r → UW C 6 μ_48 48 [(0, .ref (gad (cG C) k0)), (2, .int a2)] [.int vt0_48] := by
    intro μ_48 vt0_48 h
    unfold f_X12_looksAt_j48 at h
    refine u_istore (pc := 48) hC dX12_looksAt_48 [(4, .int vt0_48), (0, .ref (gad (cG C) k0)), (2, .int a2)] (by decide) rfl ?_
    refine u_iload (pc := 50) hC dX12_looksAt_50 0 rfl ?_
    refine u_if_eq (pc := 52) hC (tgt := 89) dX12_looksAt_52 (by decide) (fun c52 => ?_) (fun c52 => ?_)
    · replace h := of_t c52 h
      obtain rfl := Option.some.inj h
      exact u_vret (pc := 89) hC hQ hr ⟨rfl, rfl⟩ dX12_looksAt_89
    · replace h := of_f c52 h
      refine u_aload_n (pc := 55) hC dX12_looksAt_55 rfl 1 rfl ?_
      refine u_iload_n (pc := 56) hC dX12_looksAt_56 rfl 2 rfl ?_
      obtain ⟨m57, q57, h⟩ := of_bd h
      refine p_RX12_249 (pc := 57) hC hk0 dX12_looksAt_57 (Option.some.inj q57) ?_
      refine u_iconst (pc := 60) hC ic_0 dX12_looksAt_60 ?_
      refine u_istore (pc := 61) hC dX12_looksAt_61 [(5, .int (0 : Int32)), (4, .int vt0_48), (0, .ref (gad (cG C) k0)), (2, .int a2)] (by decide) rfl ?_
      obtain ⟨e63, l63, h⟩ := of_bd h
      refine u_sub [2, 3, 0] rfl ?_
      refine lw63  e63 ((0 : Int32), m57) l63 ?_
      show UW C 6 e63 89 [] []
      obtain rfl := Option.some.inj h
      exact u_vret (pc := 89) hC hQ hr ⟨rfl, rfl⟩ dX12_looksAt_89
  have jb31 : ∀ (μ_31 : Mem), f_X12_looksAt_j31 μ_31 k0 a1 a2 a3 = some r → UW C 6 μ_31 31 [(0, .ref (gad (cG C) k0)), (2, .int a2)] [] := by
    intro μ_31 h
    unfold f_X12_looksAt_j31 at h
    refine u_iconst (pc := 31) hC ic_0 dX12_looksAt_31 ?_
    refine u_goto (pc := 32) hC 48 dX12_looksAt_32 (by decide) ?_
    exact jb48 μ_31 (0 : Int32) h
  have jb27 : ∀ (μ_27 : Mem), f_X12_looksAt_j27 μ_27 k0 a1 a2 a3 = some r → UW C 6 μ_27 27 [(0, .ref (gad (cG C) k0)), (2, .int a2)] [] := by
    intro μ_27 h
    unfold f_X12_looksAt_j27 at h
    refine u_iconst (pc := 27) hC ic_1 dX12_looksAt_27 ?_
    refine u_goto (pc := 28) hC 48 dX12_looksAt_28 (by decide) ?_
    exact jb48 μ_27 (1 : Int32) h
  unfold f_X12_looksAt at h
  refine u_iload_n (pc := 0) hC dX12_looksAt_0 rfl 3 rfl ?_
  refine u_if_eq (pc := 1) hC (tgt := 35) dX12_looksAt_1 (by decide) (fun c1 => ?_) (fun c1 => ?_)
  · replace h := of_t c1 h
    refine u_iload_n (pc := 35) hC dX12_looksAt_35 rfl 2 rfl ?_
    refine u_aload_n (pc := 36) hC dX12_looksAt_36 rfl 0 rfl ?_
    refine g_RX12_249 (pc := 37) hC hk0 dX12_looksAt_37 ?_
    refine u_icmp_le (pc := 40) hC (tgt := 47) dX12_looksAt_40 (by decide) (fun c40 => ?_) (fun c40 => ?_)
    · replace h := of_t c40 h
      refine u_iconst (pc := 47) hC ic_0 dX12_looksAt_47 ?_
      refine u_sub [0, 2] rfl ?_
      exact jb48 μ (0 : Int32) h
    · replace h := of_f c40 h
      refine u_iconst (pc := 43) hC ic_1 dX12_looksAt_43 ?_
      refine u_goto (pc := 44) hC 48 dX12_looksAt_44 (by decide) ?_
      refine u_sub [0, 2] rfl ?_
      exact jb48 μ (1 : Int32) h
  · replace h := of_f c1 h
    refine u_aload_n (pc := 4) hC dX12_looksAt_4 rfl 0 rfl ?_
    refine u_iload_n (pc := 5) hC dX12_looksAt_5 rfl 1 rfl ?_
    obtain ⟨r6, q6, h⟩ := of_bd h
    refine k_RX12_191 (pc := 6) hC (av := [.int a1]) (rest := []) (c_X12_openOf (d := d - 1) (by omega) hk0 q6) (by omega) (Nat.le_of_ble_eq_true rfl) hk0 rfl rfl dX12_looksAt_6 ?_
    refine u_if_ne (pc := 9) hC (tgt := 31) dX12_looksAt_9 (by decide) (fun c9 => ?_) (fun c9 => ?_)
    · replace h := of_t c9 h
      refine u_sub [0, 2] rfl ?_
      exact jb31 μ h
    · replace h := of_f (fun q => q c9) h
      refine u_aload_n (pc := 12) hC dX12_looksAt_12 rfl 0 rfl ?_
      refine g_RX12_249 (pc := 13) hC hk0 dX12_looksAt_13 ?_
      refine u_if_lt (pc := 16) hC (tgt := 27) dX12_looksAt_16 (by decide) (fun c16 => ?_) (fun c16 => ?_)
      · replace h := of_t c16 h
        refine u_sub [0, 2] rfl ?_
        exact jb27 μ h
      · replace h := of_f c16 h
        refine u_iload_n (pc := 19) hC dX12_looksAt_19 rfl 2 rfl ?_
        refine u_aload_n (pc := 20) hC dX12_looksAt_20 rfl 0 rfl ?_
        refine g_RX12_249 (pc := 21) hC hk0 dX12_looksAt_21 ?_
        refine u_icmp_ge (pc := 24) hC (tgt := 31) dX12_looksAt_24 (by decide) (fun c24 => ?_) (fun c24 => ?_)
        · replace h := of_t c24 h
          refine u_sub [0, 2] rfl ?_
          exact jb31 μ h
        · replace h := of_f c24 h
          refine u_sub [0, 2] rfl ?_
          exact jb27 μ h
set_option maxHeartbeats 4000000 in
set_option maxRecDepth 100000 in
theorem c_X12_findRow {l : Launch} {G : GG} {d : Nat} (hd : 5 ≤ d) {μ : Mem} {k0 : Nat} (hk0 : isC 12 k0) {a1 : Int32} {a2 : Int32} {r : Mem} (h : f_X12_findRow μ k0 a1 a2 = some r) : CT l yX12_findRow cX12_findRow 5 none d G [.ref (gad G k0), .int a1, .int a2] μ (RK none r) := by
  refine ct_start (by decide) (Nat.le_of_ble_eq_true rfl) (fun C hl1 hG1 hC hQ hr => ?_)
  subst hl1; subst hG1
  have hC : CxOK C cX12_findRow 5 RX12 d := hC
  show UW C 5 μ 0 [(0, .ref (gad (cG C) k0)), (1, .int a1), (2, .int a2)] []
  have lw25 : ∀ (e : (Mem)) (s : Int32 × Mem), lp (fun s => f_X12_findRow_l25 k0 a1 a2 s.1 s.2) FU s = some e → (fun (e : (Mem)) => UW C 5 e 157 [(0, .ref (gad (cG C) k0))] []) e → UW C 5 s.2 25 [(0, .ref (gad (cG C) k0)), (1, .int a1), (2, .int a2), (3, .int s.1)] [] := by
    intro e s hl hE0
    refine @lp_walk (Int32 × Mem) (Mem) (fun s => f_X12_findRow_l25 k0 a1 a2 s.1 s.2) (fun s => UW C 5 s.2 25 [(0, .ref (gad (cG C) k0)), (1, .int a1), (2, .int a2), (3, .int s.1)] []) (fun (e : (Mem)) => UW C 5 e 157 [(0, .ref (gad (cG C) k0))] []) (fun s y25 h hP25 hE25 => ?_) FU s e hl hE0
    have jb66 : ∀ (μ_66 : Mem) (v3_66 : Int32) (v4_66 : Int32), f_X12_findRow_j66 μ_66 k0 a1 a2 v3_66 v4_66 = some y25 → UW C 5 μ_66 66 [(0, .ref (gad (cG C) k0)), (1, .int a1), (2, .int a2), (3, .int v3_66), (4, .int v4_66)] [] := by
      intro μ_66 v3_66 v4_66 h
      unfold f_X12_findRow_j66 at h
      refine u_aload_n (pc := 66) hC dX12_findRow_66 rfl 0 rfl ?_
      refine g_RX12_29 (pc := 67) hC hk0 dX12_findRow_67 ?_
      refine u_iload_n (pc := 70) hC dX12_findRow_70 rfl 3 rfl ?_
      refine u_iload (pc := 71) hC dX12_findRow_71 4 rfl ?_
      obtain ⟨b73, h⟩ := of_gd h
      obtain ⟨m73, q73, h⟩ := of_bd h
      refine u_iast (pc := 73) hC (rs_12_14 hk0) 9 (rn_12_14 hk0) b73 dX12_findRow_73 (Option.some.inj q73) ?_
      refine u_iload (pc := 74) hC dX12_findRow_74 4 rfl ?_
      refine u_aload_n (pc := 76) hC dX12_findRow_76 rfl 0 rfl ?_
      refine g_RX12_7 (pc := 77) hC hk0 dX12_findRow_77 ?_
      refine u_iconst (pc := 80) hC ic_0 dX12_findRow_80 ?_
      refine u_iald (pc := 81) hC (rs_12_0 hk0) 342 (rn_12_0 hk0) (by decide) dX12_findRow_81 ?_
      refine u_icmp_ge (pc := 82) hC (tgt := 123) dX12_findRow_82 (by decide) (fun c82 => ?_) (fun c82 => ?_)
      · replace h := of_t c82 h
        refine u_iinc (pc := 123) hC dX12_findRow_123 3 rfl (v3_66 + (-1 : Int32)) rfl [(3, .int (v3_66 + (-1 : Int32))), (0, .ref (gad (cG C) k0)), (1, .int a1), (2, .int a2), (4, .int v4_66)] (by decide) rfl ?_
        refine u_iload_n (pc := 126) hC dX12_findRow_126 rfl 0 rfl ?_
        refine u_if_lt (pc := 127) hC (tgt := 154) dX12_findRow_127 (by decide) (fun c127 => ?_) (fun c127 => ?_)
        · replace h := of_t c127 h
          refine u_goto (pc := 154) hC 25 dX12_findRow_154 (by decide) ?_
          obtain rfl := Option.some.inj h
          refine u_sub [1, 2, 3, 0] rfl ?_
          exact hP25 (v3_66 + (-1 : Int32), m73) rfl
        · replace h := of_f c127 h
          refine u_aload_n (pc := 130) hC dX12_findRow_130 rfl 1 rfl ?_
          refine u_iload_n (pc := 131) hC dX12_findRow_131 rfl 2 rfl ?_
          refine u_iconst (pc := 132) hC ic_4 dX12_findRow_132 ?_
          refine u_aload_n (pc := 133) hC dX12_findRow_133 rfl 1 rfl ?_
          refine u_iload_n (pc := 134) hC dX12_findRow_134 rfl 2 rfl ?_
          refine u_iconst (pc := 135) hC ic_4 dX12_findRow_135 ?_
          obtain ⟨r136, q136, h⟩ := of_bd h
          refine k_RX12_150 (pc := 136) hC (av := [.int a1, .int (4 : Int32)]) (rest := [.int (4 : Int32), .int a1, .ref (gad (cG C) k0)]) (c_X12_of (d := d - 1) (by omega) hk0 q136) (by omega) (Nat.le_of_ble_eq_true rfl) hk0 rfl rfl dX12_findRow_136 ?_
          refine u_iconst (pc := 139) hC ic_1 dX12_findRow_139 ?_
          refine u_isub (pc := 140) hC dX12_findRow_140 ?_
          obtain ⟨μ141, q141, h⟩ := of_bd h
          refine k_RX12_174 (pc := 141) hC (av := [.int a1, .int (4 : Int32), .int (r136 - (1 : Int32))]) (rest := []) (c_X12_sets (d := d - 1) (by omega) hk0 q141) (by omega) (Nat.le_of_ble_eq_true rfl) hk0 rfl rfl dX12_findRow_141 ?_
          refine u_aload_n (pc := 144) hC dX12_findRow_144 rfl 1 rfl ?_
          refine g_RX12_7 (pc := 145) hC hk0 dX12_findRow_145 ?_
          refine u_iconst (pc := 148) hC ic_3 dX12_findRow_148 ?_
          refine u_dup2 (pc := 149) hC rfl rfl dX12_findRow_149 ?_
          refine u_iald (pc := 150) hC (rs_12_0 hk0) 342 (rn_12_0 hk0) (by decide) dX12_findRow_150 ?_
          refine u_iconst (pc := 151) hC ic_1 dX12_findRow_151 ?_
          refine u_isub (pc := 152) hC dX12_findRow_152 ?_
          obtain ⟨m153, q153, h⟩ := of_bd h
          refine u_iast (pc := 153) hC (rs_12_0 hk0) 342 (rn_12_0 hk0) (by decide) dX12_findRow_153 (Option.some.inj q153) ?_
          refine u_goto (pc := 154) hC 25 dX12_findRow_154 (by decide) ?_
          obtain rfl := Option.some.inj h
          refine u_sub [1, 2, 3, 0] rfl ?_
          exact hP25 (v3_66 + (-1 : Int32), m153) rfl
      · replace h := of_f c82 h
        refine u_aload_n (pc := 85) hC dX12_findRow_85 rfl 0 rfl ?_
        refine g_RX12_32 (pc := 86) hC hk0 dX12_findRow_86 ?_
        refine u_iload_n (pc := 89) hC dX12_findRow_89 rfl 3 rfl ?_
        refine u_iload (pc := 90) hC dX12_findRow_90 4 rfl ?_
        obtain ⟨b92, h⟩ := of_gd h
        obtain ⟨m92, q92, h⟩ := of_bd h
        refine u_iast (pc := 92) hC (rs_12_15 hk0) 9 (rn_12_15 hk0) b92 dX12_findRow_92 (Option.some.inj q92) ?_
        refine u_iinc (pc := 93) hC dX12_findRow_93 3 rfl (v3_66 + 1) rfl [(3, .int (v3_66 + 1)), (0, .ref (gad (cG C) k0)), (1, .int a1), (2, .int a2), (4, .int v4_66)] (by decide) rfl ?_
        refine u_aload_n (pc := 96) hC dX12_findRow_96 rfl 1 rfl ?_
        refine g_RX12_7 (pc := 97) hC hk0 dX12_findRow_97 ?_
        refine u_iconst (pc := 100) hC ic_3 dX12_findRow_100 ?_
        refine u_dup2 (pc := 101) hC rfl rfl dX12_findRow_101 ?_
        refine u_iald (pc := 102) hC (rs_12_0 hk0) 342 (rn_12_0 hk0) (by decide) dX12_findRow_102 ?_
        refine u_iconst (pc := 103) hC ic_1 dX12_findRow_103 ?_
        refine u_iadd (pc := 104) hC dX12_findRow_104 ?_
        obtain ⟨m105, q105, h⟩ := of_bd h
        refine u_iast (pc := 105) hC (rs_12_0 hk0) 342 (rn_12_0 hk0) (by decide) dX12_findRow_105 (Option.some.inj q105) ?_
        refine u_aload_n (pc := 106) hC dX12_findRow_106 rfl 1 rfl ?_
        refine g_RX12_29 (pc := 107) hC hk0 dX12_findRow_107 ?_
        refine u_iload_n (pc := 110) hC dX12_findRow_110 rfl 0 rfl ?_
        refine u_iconst (pc := 111) hC ic_m1 dX12_findRow_111 ?_
        obtain ⟨b112, h⟩ := of_gd h
        obtain ⟨m112, q112, h⟩ := of_bd h
        refine u_iast (pc := 112) hC (rs_12_14 hk0) 9 (rn_12_14 hk0) b112 dX12_findRow_112 (Option.some.inj q112) ?_
        refine u_aload_n (pc := 113) hC dX12_findRow_113 rfl 1 rfl ?_
        refine u_iload_n (pc := 114) hC dX12_findRow_114 rfl 2 rfl ?_
        refine u_iload_n (pc := 115) hC dX12_findRow_115 rfl 0 rfl ?_
        refine u_iload_n (pc := 116) hC dX12_findRow_116 rfl 3 rfl ?_
        obtain ⟨μ117, q117, h⟩ := of_bd h
        refine k_RX12_252 (pc := 117) hC (av := [.int a1, .int (v3_66 + 1), .int a2]) (rest := []) (c_X12_looksAt (d := d - 1) (by omega) hk0 q117) (by omega) (Nat.le_of_ble_eq_true rfl) hk0 rfl rfl dX12_findRow_117 ?_
        refine u_goto (pc := 120) hC 154 dX12_findRow_120 (by decide) ?_
        refine u_goto (pc := 154) hC 25 dX12_findRow_154 (by decide) ?_
        obtain rfl := Option.some.inj h
        refine u_sub [1, 2, 3, 0] rfl ?_
        exact hP25 (v3_66 + 1, μ117) rfl
    have lw39 : ∀ (v3_39 : Int32) (e : (Int32 × Mem)) (s : Int32 × Mem), lp (fun s => f_X12_findRow_l39 k0 a1 a2 v3_39 s.1 s.2) FU s = some e → (fun (e : (Int32 × Mem)) => UW C 5 e.2 66 [(0, .ref (gad (cG C) k0)), (1, .int a1), (2, .int a2), (3, .int v3_39), (4, .int e.1)] []) e → UW C 5 s.2 39 [(0, .ref (gad (cG C) k0)), (1, .int a1), (2, .int a2), (3, .int v3_39), (4, .int s.1)] [] := by
      intro v3_39 e s hl hE0
      refine @lp_walk (Int32 × Mem) (Int32 × Mem) (fun s => f_X12_findRow_l39 k0 a1 a2 v3_39 s.1 s.2) (fun s => UW C 5 s.2 39 [(0, .ref (gad (cG C) k0)), (1, .int a1), (2, .int a2), (3, .int v3_39), (4, .int s.1)] []) (fun (e : (Int32 × Mem)) => UW C 5 e.2 66 [(0, .ref (gad (cG C) k0)), (1, .int a1), (2, .int a2), (3, .int v3_39), (4, .int e.1)] []) (fun s y39 h hP39 hE39 => ?_) FU s e hl hE0
      obtain ⟨v4_39, μ_39⟩ := s
      replace h : f_X12_findRow_l39 k0 a1 a2 v3_39 v4_39 μ_39 = some y39 := h
      show UW C 5 μ_39 39 [(0, .ref (gad (cG C) k0)), (1, .int a1), (2, .int a2), (3, .int v3_39), (4, .int v4_39)] []
      unfold f_X12_findRow_l39 at h
      refine u_iload (pc := 39) hC dX12_findRow_39 4 rfl ?_
      refine u_aload_n (pc := 41) hC dX12_findRow_41 rfl 0 rfl ?_
      refine g_RX12_7 (pc := 42) hC hk0 dX12_findRow_42 ?_
      refine u_iconst (pc := 45) hC ic_0 dX12_findRow_45 ?_
      refine u_iald (pc := 46) hC (rs_12_0 hk0) 342 (rn_12_0 hk0) (by decide) dX12_findRow_46 ?_
      refine u_icmp_ge (pc := 47) hC (tgt := 66) dX12_findRow_47 (by decide) (fun c47 => ?_) (fun c47 => ?_)
      · replace h := of_t c47 h
        obtain rfl := Option.some.inj h
        exact hE39 (v4_39, μ_39) rfl
      · replace h := of_f c47 h
        refine u_aload_n (pc := 50) hC dX12_findRow_50 rfl 0 rfl ?_
        refine u_iload_n (pc := 51) hC dX12_findRow_51 rfl 1 rfl ?_
        refine u_iload (pc := 52) hC dX12_findRow_52 4 rfl ?_
        obtain ⟨p54, q54, h⟩ := of_bd h
        refine k_RX12_256 (pc := 54) hC (av := [.int a1, .int v4_39]) (rest := []) (c_X12_takes_ (d := d - 1) (by omega) hk0 q54) (by omega) (Nat.le_of_ble_eq_true rfl) hk0 rfl rfl dX12_findRow_54 ?_
        refine u_if_ne (pc := 57) hC (tgt := 66) dX12_findRow_57 (by decide) (fun c57 => ?_) (fun c57 => ?_)
        · replace h := of_t c57 h
          obtain rfl := Option.some.inj h
          exact hE39 (v4_39, p54.2) rfl
        · replace h := of_f (fun q => q c57) h
          refine u_iinc (pc := 60) hC dX12_findRow_60 4 rfl (v4_39 + 1) rfl [(4, .int (v4_39 + 1)), (0, .ref (gad (cG C) k0)), (1, .int a1), (2, .int a2), (3, .int v3_39)] (by decide) rfl ?_
          refine u_goto (pc := 63) hC 39 dX12_findRow_63 (by decide) ?_
          obtain rfl := Option.some.inj h
          refine u_sub [1, 2, 3, 4, 0] rfl ?_
          exact hP39 (v4_39 + 1, p54.2) rfl
    obtain ⟨v3_25, μ_25⟩ := s
    replace h : f_X12_findRow_l25 k0 a1 a2 v3_25 μ_25 = some y25 := h
    show UW C 5 μ_25 25 [(0, .ref (gad (cG C) k0)), (1, .int a1), (2, .int a2), (3, .int v3_25)] []
    unfold f_X12_findRow_l25 at h
    refine u_iload_n (pc := 25) hC dX12_findRow_25 rfl 3 rfl ?_
    refine u_if_lt (pc := 26) hC (tgt := 157) dX12_findRow_26 (by decide) (fun c26 => ?_) (fun c26 => ?_)
    · replace h := of_t c26 h
      obtain rfl := Option.some.inj h
      refine u_sub [0] rfl ?_
      exact hE25 μ_25 rfl
    · replace h := of_f c26 h
      refine u_aload_n (pc := 29) hC dX12_findRow_29 rfl 0 rfl ?_
      refine g_RX12_29 (pc := 30) hC hk0 dX12_findRow_30 ?_
      refine u_iload_n (pc := 33) hC dX12_findRow_33 rfl 3 rfl ?_
      obtain ⟨b34, h⟩ := of_gd h
      refine u_iald (pc := 34) hC (rs_12_14 hk0) 9 (rn_12_14 hk0) b34 dX12_findRow_34 ?_
      refine u_iconst (pc := 35) hC ic_1 dX12_findRow_35 ?_
      refine u_iadd (pc := 36) hC dX12_findRow_36 ?_
      refine u_istore (pc := 37) hC dX12_findRow_37 [(4, .int ((rd μ_25 (rf k0 14) v3_25.toNatClampNeg) + (1 : Int32))), (0, .ref (gad (cG C) k0)), (1, .int a1), (2, .int a2), (3, .int v3_25)] (by decide) rfl ?_
      obtain ⟨e39, l39, h⟩ := of_bd h
      refine u_sub [1, 2, 3, 4, 0] rfl ?_
      refine lw39 v3_25 e39 ((rd μ_25 (rf k0 14) v3_25.toNatClampNeg) + (1 : Int32), μ_25) l39 ?_
      show UW C 5 e39.2 66 [(0, .ref (gad (cG C) k0)), (1, .int a1), (2, .int a2), (3, .int v3_25), (4, .int e39.1)] []
      exact jb66 e39.2 v3_25 e39.1 h
  unfold f_X12_findRow at h
  refine u_aload_n (pc := 0) hC dX12_findRow_0 rfl 0 rfl ?_
  obtain ⟨μ1, q1, h⟩ := of_bd h
  refine k_RX12_243 (pc := 1) hC (av := []) (rest := []) (c_X12_keepAside (d := d - 1) (by omega) hk0 q1) (by omega) (Nat.le_of_ble_eq_true rfl) hk0 rfl rfl dX12_findRow_1 ?_
  refine u_aload_n (pc := 4) hC dX12_findRow_4 rfl 0 rfl ?_
  refine u_iconst (pc := 5) hC ic_m1 dX12_findRow_5 ?_
  obtain ⟨m6, q6, h⟩ := of_bd h
  refine p_RX12_249 (pc := 6) hC hk0 dX12_findRow_6 (Option.some.inj q6) ?_
  refine u_iconst (pc := 9) hC ic_0 dX12_findRow_9 ?_
  refine u_istore_n (pc := 10) hC dX12_findRow_10 rfl [(3, .int (0 : Int32)), (0, .ref (gad (cG C) k0)), (1, .int a1), (2, .int a2)] (by decide) rfl ?_
  refine u_aload_n (pc := 11) hC dX12_findRow_11 rfl 1 rfl ?_
  refine g_RX12_29 (pc := 12) hC hk0 dX12_findRow_12 ?_
  refine u_iconst (pc := 15) hC ic_0 dX12_findRow_15 ?_
  refine u_iconst (pc := 16) hC ic_m1 dX12_findRow_16 ?_
  obtain ⟨m17, q17, h⟩ := of_bd h
  refine u_iast (pc := 17) hC (rs_12_14 hk0) 9 (rn_12_14 hk0) (by decide) dX12_findRow_17 (Option.some.inj q17) ?_
  refine u_aload_n (pc := 18) hC dX12_findRow_18 rfl 1 rfl ?_
  refine u_iload_n (pc := 19) hC dX12_findRow_19 rfl 2 rfl ?_
  refine u_iconst (pc := 20) hC ic_0 dX12_findRow_20 ?_
  refine u_iload_n (pc := 21) hC dX12_findRow_21 rfl 3 rfl ?_
  obtain ⟨μ22, q22, h⟩ := of_bd h
  refine k_RX12_252 (pc := 22) hC (av := [.int a1, .int (0 : Int32), .int a2]) (rest := []) (c_X12_looksAt (d := d - 1) (by omega) hk0 q22) (by omega) (Nat.le_of_ble_eq_true rfl) hk0 rfl rfl dX12_findRow_22 ?_
  obtain ⟨e25, l25, h⟩ := of_bd h
  refine u_sub [1, 2, 3, 0] rfl ?_
  refine lw25  e25 ((0 : Int32), μ22) l25 ?_
  show UW C 5 e25 157 [(0, .ref (gad (cG C) k0))] []
  refine u_aload_n (pc := 157) hC dX12_findRow_157 rfl 0 rfl ?_
  obtain ⟨μ158, q158, h⟩ := of_bd h
  refine k_RX12_246 (pc := 158) hC (av := []) (rest := []) (c_X12_putBack (d := d - 1) (by omega) hk0 q158) (by omega) (Nat.le_of_ble_eq_true rfl) hk0 rfl rfl dX12_findRow_158 ?_
  obtain rfl := Option.some.inj h
  exact u_vret (pc := 161) hC hQ hr ⟨rfl, rfl⟩ dX12_findRow_161
set_option maxHeartbeats 4000000 in
set_option maxRecDepth 100000 in
theorem c_X12_rowTold {l : Launch} {G : GG} {d : Nat} (hd : 6 ≤ d) {μ : Mem} {k0 : Nat} (hk0 : isC 12 k0) {a1 : Int32} {a2 : Int32} {a3 : Int32} {r : Int32 × Mem} (h : f_X12_rowTold μ k0 a1 a2 a3 = some r) : CT l yX12_rowTold cX12_rowTold 4 (some .int) d G [.ref (gad G k0), .int a1, .int a2, .int a3] μ (RK (some (.int r.1)) r.2) := by
  refine ct_start (by decide) (Nat.le_of_ble_eq_true rfl) (fun C hl1 hG1 hC hQ hr => ?_)
  subst hl1; subst hG1
  have hC : CxOK C cX12_rowTold 4 RX12 d := hC
  show UW C 4 μ 0 [(0, .ref (gad (cG C) k0)), (1, .int a1), (2, .int a2), (3, .int a3)] []
  have jb65 : ∀ (μ_65 : Mem), f_X12_rowTold_j65 μ_65 k0 a1 a2 a3 = some r → UW C 4 μ_65 65 [(0, .ref (gad (cG C) k0))] [] := by
    intro μ_65 h
    unfold f_X12_rowTold_j65 at h
    refine u_aload_n (pc := 65) hC dX12_rowTold_65 rfl 0 rfl ?_
    refine u_iconst (pc := 66) hC ic_2 dX12_rowTold_66 ?_
    obtain ⟨p67, q67, h⟩ := of_bd h
    refine k_RX12_119 (pc := 67) hC (av := [.int (2 : Int32)]) (rest := []) (c_X12_finds (d := d - 1) (by omega) hk0 q67) (by omega) (Nat.le_of_ble_eq_true rfl) hk0 rfl rfl dX12_rowTold_67 ?_
    obtain rfl := Option.some.inj h
    exact u_iret (pc := 70) hC hQ hr ⟨rfl, rfl⟩ dX12_rowTold_70
  have jb22 : ∀ (μ_22 : Mem), f_X12_rowTold_j22 μ_22 k0 a1 a2 a3 = some r → UW C 4 μ_22 22 [(0, .ref (gad (cG C) k0))] [] := by
    intro μ_22 h
    unfold f_X12_rowTold_j22 at h
    refine u_aload_n (pc := 22) hC dX12_rowTold_22 rfl 0 rfl ?_
    refine u_iconst (pc := 23) hC ic_1 dX12_rowTold_23 ?_
    obtain ⟨p24, q24, h⟩ := of_bd h
    refine k_RX12_119 (pc := 24) hC (av := [.int (1 : Int32)]) (rest := []) (c_X12_finds (d := d - 1) (by omega) hk0 q24) (by omega) (Nat.le_of_ble_eq_true rfl) hk0 rfl rfl dX12_rowTold_24 ?_
    obtain rfl := Option.some.inj h
    exact u_iret (pc := 27) hC hQ hr ⟨rfl, rfl⟩ dX12_rowTold_27
  unfold f_X12_rowTold at h
  refine u_aload_n (pc := 0) hC dX12_rowTold_0 rfl 0 rfl ?_
  refine u_iload_n (pc := 1) hC dX12_rowTold_1 rfl 1 rfl ?_
  obtain ⟨r2, q2, h⟩ := of_bd h
  refine k_RX12_197 (pc := 2) hC (av := [.int a1]) (rest := []) (c_X12_isDebtor (d := d - 1) (by omega) hk0 q2) (by omega) (Nat.le_of_ble_eq_true rfl) hk0 rfl rfl dX12_rowTold_2 ?_
  refine u_if_eq (pc := 5) hC (tgt := 22) dX12_rowTold_5 (by decide) (fun c5 => ?_) (fun c5 => ?_)
  · replace h := of_t c5 h
    refine u_sub [0] rfl ?_
    exact jb22 μ h
  · replace h := of_f c5 h
    refine u_iload_n (pc := 8) hC dX12_rowTold_8 rfl 2 rfl ?_
    refine u_i2l (pc := 9) hC dX12_rowTold_9 ?_
    refine u_ldc2 (pc := 10) hC (v := (-1 : Int64)) mQ_RX12_258 dX12_rowTold_10 ?_
    refine u_ldc2 (pc := 13) hC (v := (7 : Int64)) mQ_RX12_241 dX12_rowTold_13 ?_
    obtain ⟨r16, q16, h⟩ := of_bd h
    refine k_RX12_57 (pc := 16) hC (av := [.long a2.toInt64, .long (-1 : Int64), .long (7 : Int64)]) (rest := []) (c_X12_in (d := d - 1) (by omega)  q16) (by omega) (Nat.le_of_ble_eq_true rfl) rfl rfl dX12_rowTold_16 ?_
    refine u_if_ne (pc := 19) hC (tgt := 28) dX12_rowTold_19 (by decide) (fun c19 => ?_) (fun c19 => ?_)
    · replace h := of_t c19 h
      refine u_aload_n (pc := 28) hC dX12_rowTold_28 rfl 0 rfl ?_
      refine u_iload_n (pc := 29) hC dX12_rowTold_29 rfl 1 rfl ?_
      refine u_iconst (pc := 30) hC ic_3 dX12_rowTold_30 ?_
      obtain ⟨r31, q31, h⟩ := of_bd h
      refine k_RX12_150 (pc := 31) hC (av := [.int a1, .int (3 : Int32)]) (rest := []) (c_X12_of (d := d - 1) (by omega) hk0 q31) (by omega) (Nat.le_of_ble_eq_true rfl) hk0 rfl rfl dX12_rowTold_31 ?_
      refine u_iconst (pc := 34) hC ic_1 dX12_rowTold_34 ?_
      refine u_icmp_ne (pc := 35) hC (tgt := 44) dX12_rowTold_35 (by decide) (fun c35 => ?_) (fun c35 => ?_)
      · replace h := of_t c35 h
        refine u_aload_n (pc := 44) hC dX12_rowTold_44 rfl 0 rfl ?_
        refine u_iload_n (pc := 45) hC dX12_rowTold_45 rfl 1 rfl ?_
        refine u_iload_n (pc := 46) hC dX12_rowTold_46 rfl 3 rfl ?_
        obtain ⟨μ47, q47, h⟩ := of_bd h
        refine k_RX12_260 (pc := 47) hC (av := [.int a1, .int a3]) (rest := []) (c_X12_findRow (d := d - 1) (by omega) hk0 q47) (by omega) (Nat.le_of_ble_eq_true rfl) hk0 rfl rfl dX12_rowTold_47 ?_
        refine u_aload_n (pc := 50) hC dX12_rowTold_50 rfl 0 rfl ?_
        refine g_RX12_249 (pc := 51) hC hk0 dX12_rowTold_51 ?_
        refine u_if_lt (pc := 54) hC (tgt := 65) dX12_rowTold_54 (by decide) (fun c54 => ?_) (fun c54 => ?_)
        · replace h := of_t c54 h
          refine u_sub [0] rfl ?_
          exact jb65 μ47 h
        · replace h := of_f c54 h
          refine u_iload_n (pc := 57) hC dX12_rowTold_57 rfl 2 rfl ?_
          refine u_aload_n (pc := 58) hC dX12_rowTold_58 rfl 0 rfl ?_
          refine g_RX12_249 (pc := 59) hC hk0 dX12_rowTold_59 ?_
          refine u_icmp_lt (pc := 62) hC (tgt := 71) dX12_rowTold_62 (by decide) (fun c62 => ?_) (fun c62 => ?_)
          · replace h := of_t c62 h
            refine u_iload_n (pc := 71) hC dX12_rowTold_71 rfl 2 rfl ?_
            refine u_if_ge (pc := 72) hC (tgt := 82) dX12_rowTold_72 (by decide) (fun c72 => ?_) (fun c72 => ?_)
            · replace h := of_t c72 h
              refine u_aload_n (pc := 82) hC dX12_rowTold_82 rfl 0 rfl ?_
              refine g_RX12_35 (pc := 83) hC hk0 dX12_rowTold_83 ?_
              refine u_iload_n (pc := 86) hC dX12_rowTold_86 rfl 2 rfl ?_
              obtain ⟨b87, h⟩ := of_gd h
              refine u_iald (pc := 87) hC (rs_12_16 hk0) 9 (rn_12_16 hk0) b87 dX12_rowTold_87 ?_
              obtain rfl := Option.some.inj h
              exact u_iret (pc := 88) hC hQ hr ⟨rfl, rfl⟩ dX12_rowTold_88
            · replace h := of_f c72 h
              refine u_aload_n (pc := 75) hC dX12_rowTold_75 rfl 0 rfl ?_
              refine g_RX12_249 (pc := 76) hC hk0 dX12_rowTold_76 ?_
              refine u_goto (pc := 79) hC 88 dX12_rowTold_79 (by decide) ?_
              obtain rfl := Option.some.inj h
              exact u_iret (pc := 88) hC hQ hr ⟨rfl, rfl⟩ dX12_rowTold_88
          · replace h := of_f c62 h
            refine u_sub [0] rfl ?_
            exact jb65 μ47 h
      · replace h := of_f (fun q => q c35) h
        refine u_aload_n (pc := 38) hC dX12_rowTold_38 rfl 0 rfl ?_
        refine u_iconst (pc := 39) hC ic_3 dX12_rowTold_39 ?_
        obtain ⟨p40, q40, h⟩ := of_bd h
        refine k_RX12_119 (pc := 40) hC (av := [.int (3 : Int32)]) (rest := []) (c_X12_finds (d := d - 1) (by omega) hk0 q40) (by omega) (Nat.le_of_ble_eq_true rfl) hk0 rfl rfl dX12_rowTold_40 ?_
        obtain rfl := Option.some.inj h
        exact u_iret (pc := 43) hC hQ hr ⟨rfl, rfl⟩ dX12_rowTold_43
    · replace h := of_f (fun q => q c19) h
      refine u_sub [0] rfl ?_
      exact jb22 μ h
set_option maxHeartbeats 4000000 in
set_option maxRecDepth 100000 in
theorem c_X12_served {l : Launch} {G : GG} {d : Nat} (hd : 7 ≤ d) {μ : Mem} {k0 : Nat} (hk0 : isC 12 k0) {a1 : Int32} {a2 : Int32} {r : Int32 × Mem} (h : f_X12_served μ k0 a1 a2 = some r) : CT l yX12_served cX12_served 3 (some .int) d G [.ref (gad G k0), .int a1, .int a2] μ (RK (some (.int r.1)) r.2) := by
  refine ct_start (by decide) (Nat.le_of_ble_eq_true rfl) (fun C hl1 hG1 hC hQ hr => ?_)
  subst hl1; subst hG1
  have hC : CxOK C cX12_served 3 RX12 d := hC
  show UW C 3 μ 0 [(0, .ref (gad (cG C) k0)), (1, .int a1), (2, .int a2)] []
  unfold f_X12_served at h
  refine u_aload_n (pc := 0) hC dX12_served_0 rfl 0 rfl ?_
  refine u_iload_n (pc := 1) hC dX12_served_1 rfl 1 rfl ?_
  refine u_iload_n (pc := 2) hC dX12_served_2 rfl 2 rfl ?_
  refine u_iconst (pc := 3) hC ic_0 dX12_served_3 ?_
  obtain ⟨p4, q4, h⟩ := of_bd h
  refine k_RX12_264 (pc := 4) hC (av := [.int a1, .int a2, .int (0 : Int32)]) (rest := []) (c_X12_rowTold (d := d - 1) (by omega) hk0 q4) (by omega) (Nat.le_of_ble_eq_true rfl) hk0 rfl rfl dX12_served_4 ?_
  obtain rfl := Option.some.inj h
  exact u_iret (pc := 7) hC hQ hr ⟨rfl, rfl⟩ dX12_served_7
set_option maxHeartbeats 4000000 in
set_option maxRecDepth 100000 in
theorem c_X12_closed {l : Launch} {G : GG} {d : Nat} (hd : 7 ≤ d) {μ : Mem} {k0 : Nat} (hk0 : isC 12 k0) {a1 : Int32} {a2 : Int32} {r : Int32 × Mem} (h : f_X12_closed μ k0 a1 a2 = some r) : CT l yX12_closed cX12_closed 3 (some .int) d G [.ref (gad G k0), .int a1, .int a2] μ (RK (some (.int r.1)) r.2) := by
  refine ct_start (by decide) (Nat.le_of_ble_eq_true rfl) (fun C hl1 hG1 hC hQ hr => ?_)
  subst hl1; subst hG1
  have hC : CxOK C cX12_closed 3 RX12 d := hC
  show UW C 3 μ 0 [(0, .ref (gad (cG C) k0)), (1, .int a1), (2, .int a2)] []
  unfold f_X12_closed at h
  refine u_aload_n (pc := 0) hC dX12_closed_0 rfl 0 rfl ?_
  refine u_iload_n (pc := 1) hC dX12_closed_1 rfl 1 rfl ?_
  refine u_iload_n (pc := 2) hC dX12_closed_2 rfl 2 rfl ?_
  refine u_iconst (pc := 3) hC ic_1 dX12_closed_3 ?_
  obtain ⟨p4, q4, h⟩ := of_bd h
  refine k_RX12_264 (pc := 4) hC (av := [.int a1, .int a2, .int (1 : Int32)]) (rest := []) (c_X12_rowTold (d := d - 1) (by omega) hk0 q4) (by omega) (Nat.le_of_ble_eq_true rfl) hk0 rfl rfl dX12_closed_4 ?_
  obtain rfl := Option.some.inj h
  exact u_iret (pc := 7) hC hQ hr ⟨rfl, rfl⟩ dX12_closed_7
