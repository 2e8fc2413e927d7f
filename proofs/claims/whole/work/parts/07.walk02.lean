set_option maxHeartbeats 4000000 in
set_option maxRecDepth 100000 in
theorem c_X11_searched {l : Launch} {G : GG} {d : Nat} (hd : 106 ≤ d) {μ : Mem} {k0 : Nat} (hk0 : isC 11 k0) {a1 : Int32} {a2 : Int32} {a3 : Int32} {r : Int32 × Mem} (h : f_X11_searched μ k0 a1 a2 a3 = some r) : CT l yX11_searched cX11_searched 5 (some .int) d G [.ref (gad G k0), .int a1, .int a2, .int a3] μ (RK (some (.int r.1)) r.2) := by
  refine ct_start (by decide) (Nat.le_of_ble_eq_true rfl) (fun C hl1 hG1 hC hQ hr => ?_)
  subst hl1; subst hG1
  have hC : CxOK C cX11_searched 5 RX11 d := hC
  show UW C 5 μ 0 [(0, .ref (gad (cG C) k0)), (1, .int a1), (2, .int a2), (3, .int a3)] []
  have jb104 : ∀ (μ_104 : Mem), f_X11_searched_j104 μ_104 k0 a1 a2 a3 = some r → UW C 5 μ_104 104 [(0, .ref (gad (cG C) k0))] [] := by
    intro μ_104 h
    unfold f_X11_searched_j104 at h
    refine u_aload_n (pc := 104) hC dX11_searched_104 rfl 0 rfl ?_
    refine u_iconst (pc := 105) hC ic_2 dX11_searched_105 ?_
    obtain ⟨p106, q106, h⟩ := of_bd h
    refine k_RX11_83 (pc := 106) hC (av := [.int (2 : Int32)]) (rest := []) (c_X11_refuse (d := d - 1) (by omega) hk0 q106) (by omega) (Nat.le_of_ble_eq_true rfl) hk0 rfl rfl dX11_searched_106 ?_
    obtain rfl := Option.some.inj h
    exact u_iret (pc := 109) hC hQ hr ⟨rfl, rfl⟩ dX11_searched_109
  have jb18 : ∀ (μ_18 : Mem), f_X11_searched_j18 μ_18 k0 a1 a2 a3 = some r → UW C 5 μ_18 18 [(0, .ref (gad (cG C) k0))] [] := by
    intro μ_18 h
    unfold f_X11_searched_j18 at h
    refine u_aload_n (pc := 18) hC dX11_searched_18 rfl 0 rfl ?_
    refine u_iconst (pc := 19) hC ic_1 dX11_searched_19 ?_
    obtain ⟨p20, q20, h⟩ := of_bd h
    refine k_RX11_83 (pc := 20) hC (av := [.int (1 : Int32)]) (rest := []) (c_X11_refuse (d := d - 1) (by omega) hk0 q20) (by omega) (Nat.le_of_ble_eq_true rfl) hk0 rfl rfl dX11_searched_20 ?_
    obtain rfl := Option.some.inj h
    exact u_iret (pc := 23) hC hQ hr ⟨rfl, rfl⟩ dX11_searched_23
  unfold f_X11_searched at h
  refine u_aload_n (pc := 0) hC dX11_searched_0 rfl 0 rfl ?_
  refine u_iload_n (pc := 1) hC dX11_searched_1 rfl 1 rfl ?_
  obtain ⟨r2, q2, h⟩ := of_bd h
  refine k_RX11_122 (pc := 2) hC (av := [.int a1]) (rest := []) (c_X11_isDebtor (d := d - 1) (by omega) hk0 q2) (by omega) (Nat.le_of_ble_eq_true rfl) hk0 rfl rfl dX11_searched_2 ?_
  refine u_if_eq (pc := 5) hC (tgt := 18) dX11_searched_5 (by decide) (fun c5 => ?_) (fun c5 => ?_)
  · replace h := of_t c5 h
    refine u_sub [0] rfl ?_
    exact jb18 μ h
  · replace h := of_f c5 h
    refine u_iload_n (pc := 8) hC dX11_searched_8 rfl 2 rfl ?_
    refine u_iconst (pc := 9) hC ic_m1 dX11_searched_9 ?_
    refine u_bipush (pc := 10) hC bc_7 dX11_searched_10 ?_
    obtain ⟨r12, q12, h⟩ := of_bd h
    refine k_RX11_79 (pc := 12) hC (av := [.int a2, .int (-1 : Int32), .int (7 : Int32)]) (rest := []) (c_X11_among (d := d - 1) (by omega)  q12) (by omega) (Nat.le_of_ble_eq_true rfl) rfl rfl dX11_searched_12 ?_
    refine u_if_ne (pc := 15) hC (tgt := 24) dX11_searched_15 (by decide) (fun c15 => ?_) (fun c15 => ?_)
    · replace h := of_t c15 h
      refine u_aload_n (pc := 24) hC dX11_searched_24 rfl 0 rfl ?_
      refine g_RX11_10 (pc := 25) hC hk0 dX11_searched_25 ?_
      refine g_RX11_114 (pc := 28) hC (rs_11_0 hk0) dX11_searched_28 ?_
      refine g_RX11_125 (pc := 31) hC (rs_10_3 (rs_11_0 hk0)) dX11_searched_31 ?_
      refine u_iload_n (pc := 34) hC dX11_searched_34 rfl 1 rfl ?_
      obtain ⟨b35, h⟩ := of_gd h
      refine u_aaldD (pc := 35) hC (rs_8_0 (rs_10_3 (rs_11_0 hk0))) b35 (rn_8_0 (rs_10_3 (rs_11_0 hk0))) dX11_searched_35 ?_
      refine u_astore (pc := 36) hC dX11_searched_36 [(4, .ref (gad (cG C) (rf (rf (rf (rf k0 0) 3) 0) a1.toNatClampNeg))), (0, .ref (gad (cG C) k0)), (1, .int a1), (2, .int a2), (3, .int a3)] (by decide) rfl ?_
      refine u_aload (pc := 38) hC dX11_searched_38 0 rfl ?_
      refine g_RX11_176 (pc := 40) hC (rs_15 (rs_8_0 (rs_10_3 (rs_11_0 hk0))) b35) dX11_searched_40 ?_
      refine u_if_eq (pc := 43) hC (tgt := 52) dX11_searched_43 (by decide) (fun c43 => ?_) (fun c43 => ?_)
      · replace h := of_t c43 h
        refine u_aload_n (pc := 52) hC dX11_searched_52 rfl 1 rfl ?_
        refine g_RX11_41 (pc := 53) hC hk0 dX11_searched_53 ?_
        refine u_aload (pc := 56) hC dX11_searched_56 0 rfl ?_
        refine u_aload_n (pc := 58) hC dX11_searched_58 rfl 1 rfl ?_
        refine g_RX11_10 (pc := 59) hC hk0 dX11_searched_59 ?_
        refine g_RX11_114 (pc := 62) hC (rs_11_0 hk0) dX11_searched_62 ?_
        refine u_iload_n (pc := 65) hC dX11_searched_65 rfl 2 rfl ?_
        obtain ⟨r66, q66, h⟩ := of_bd h
        refine k_RX11_339 (pc := 66) hC (av := [.int a1]) (rest := [.ref (gad (cG C) (rf (rf (rf (rf k0 0) 3) 0) a1.toNatClampNeg)), .ref (gad (cG C) (rf k0 3))]) (c_X8_othersOf (d := d - 1) (by omega) (rs_10_3 (rs_11_0 hk0)) q66) (by omega) (Nat.le_of_ble_eq_true rfl) (rs_10_3 (rs_11_0 hk0)) rfl rfl dX11_searched_66 ?_
        refine u_aload_n (pc := 69) hC dX11_searched_69 rfl 1 rfl ?_
        refine g_RX11_10 (pc := 70) hC hk0 dX11_searched_70 ?_
        refine g_RX11_114 (pc := 73) hC (rs_11_0 hk0) dX11_searched_73 ?_
        refine g_RX11_195 (pc := 76) hC (rs_10_3 (rs_11_0 hk0)) dX11_searched_76 ?_
        refine u_iload_n (pc := 79) hC dX11_searched_79 rfl 4 rfl ?_
        obtain ⟨μ80, q80, h⟩ := of_bd h
        refine k_RX11_342 (pc := 80) hC (av := [.ref (gad (cG C) (rf (rf (rf (rf k0 0) 3) 0) a1.toNatClampNeg)), .int r66, .int (rd μ (rf (rf k0 0) 3) 4), .int a3]) (rest := []) (c_X5_begin (d := d - 1) (by omega) (rs_11_3 hk0) (rs_15 (rs_8_0 (rs_10_3 (rs_11_0 hk0))) b35) q80) (by omega) (Nat.le_of_ble_eq_true rfl) (rs_11_3 hk0) rfl rfl dX11_searched_80 ?_
        refine u_aload_n (pc := 83) hC dX11_searched_83 rfl 1 rfl ?_
        refine g_RX11_41 (pc := 84) hC hk0 dX11_searched_84 ?_
        refine g_RX11_345 (pc := 87) hC (rs_11_3 hk0) dX11_searched_87 ?_
        refine u_if_lt (pc := 90) hC (tgt := 104) dX11_searched_90 (by decide) (fun c90 => ?_) (fun c90 => ?_)
        · replace h := of_t c90 h
          refine u_sub [1] rfl ?_
          exact jb104 μ80 h
        · replace h := of_f c90 h
          refine u_iload_n (pc := 93) hC dX11_searched_93 rfl 3 rfl ?_
          refine u_aload_n (pc := 94) hC dX11_searched_94 rfl 1 rfl ?_
          refine g_RX11_41 (pc := 95) hC hk0 dX11_searched_95 ?_
          refine g_RX11_345 (pc := 98) hC (rs_11_3 hk0) dX11_searched_98 ?_
          refine u_icmp_lt (pc := 101) hC (tgt := 110) dX11_searched_101 (by decide) (fun c101 => ?_) (fun c101 => ?_)
          · replace h := of_t c101 h
            refine u_iload_n (pc := 110) hC dX11_searched_110 rfl 3 rfl ?_
            refine u_if_ge (pc := 111) hC (tgt := 124) dX11_searched_111 (by decide) (fun c111 => ?_) (fun c111 => ?_)
            · replace h := of_t c111 h
              refine u_aload_n (pc := 124) hC dX11_searched_124 rfl 1 rfl ?_
              refine g_RX11_41 (pc := 125) hC hk0 dX11_searched_125 ?_
              refine g_RX11_348 (pc := 128) hC (rs_11_3 hk0) dX11_searched_128 ?_
              refine u_iload_n (pc := 131) hC dX11_searched_131 rfl 3 rfl ?_
              obtain ⟨b132, h⟩ := of_gd h
              refine u_iald (pc := 132) hC (rs_5_0 (rs_11_3 hk0)) 8 (rn_5_0 (rs_11_3 hk0)) b132 dX11_searched_132 ?_
              obtain rfl := Option.some.inj h
              exact u_iret (pc := 133) hC hQ hr ⟨rfl, rfl⟩ dX11_searched_133
            · replace h := of_f c111 h
              refine u_aload_n (pc := 114) hC dX11_searched_114 rfl 1 rfl ?_
              refine g_RX11_41 (pc := 115) hC hk0 dX11_searched_115 ?_
              refine g_RX11_345 (pc := 118) hC (rs_11_3 hk0) dX11_searched_118 ?_
              refine u_goto (pc := 121) hC 133 dX11_searched_121 (by decide) ?_
              obtain rfl := Option.some.inj h
              exact u_iret (pc := 133) hC hQ hr ⟨rfl, rfl⟩ dX11_searched_133
          · replace h := of_f c101 h
            refine u_sub [1] rfl ?_
            exact jb104 μ80 h
      · replace h := of_f c43 h
        refine u_aload_n (pc := 46) hC dX11_searched_46 rfl 1 rfl ?_
        refine u_iconst (pc := 47) hC ic_3 dX11_searched_47 ?_
        obtain ⟨p48, q48, h⟩ := of_bd h
        refine k_RX11_83 (pc := 48) hC (av := [.int (3 : Int32)]) (rest := []) (c_X11_refuse (d := d - 1) (by omega) hk0 q48) (by omega) (Nat.le_of_ble_eq_true rfl) hk0 rfl rfl dX11_searched_48 ?_
        obtain rfl := Option.some.inj h
        exact u_iret (pc := 51) hC hQ hr ⟨rfl, rfl⟩ dX11_searched_51
    · replace h := of_f (fun q => q c15) h
      refine u_sub [0] rfl ?_
      exact jb18 μ h
set_option maxHeartbeats 4000000 in
set_option maxRecDepth 100000 in
theorem c_X11_served {l : Launch} {G : GG} {d : Nat} (hd : 107 ≤ d) {μ : Mem} {k0 : Nat} (hk0 : isC 11 k0) {a1 : Int32} {a2 : Int32} {r : Int32 × Mem} (h : f_X11_served μ k0 a1 a2 = some r) : CT l yX11_served cX11_served 3 (some .int) d G [.ref (gad G k0), .int a1, .int a2] μ (RK (some (.int r.1)) r.2) := by
  refine ct_start (by decide) (Nat.le_of_ble_eq_true rfl) (fun C hl1 hG1 hC hQ hr => ?_)
  subst hl1; subst hG1
  have hC : CxOK C cX11_served 3 RX11 d := hC
  show UW C 3 μ 0 [(0, .ref (gad (cG C) k0)), (1, .int a1), (2, .int a2)] []
  unfold f_X11_served at h
  refine u_aload_n (pc := 0) hC dX11_served_0 rfl 0 rfl ?_
  refine u_iload_n (pc := 1) hC dX11_served_1 rfl 1 rfl ?_
  refine u_iload_n (pc := 2) hC dX11_served_2 rfl 2 rfl ?_
  refine u_iconst (pc := 3) hC ic_0 dX11_served_3 ?_
  obtain ⟨p4, q4, h⟩ := of_bd h
  refine k_RX11_238 (pc := 4) hC (av := [.int a1, .int a2, .int (0 : Int32)]) (rest := []) (c_X11_searched (d := d - 1) (by omega) hk0 q4) (by omega) (Nat.le_of_ble_eq_true rfl) hk0 rfl rfl dX11_served_4 ?_
  obtain rfl := Option.some.inj h
  exact u_iret (pc := 7) hC hQ hr ⟨rfl, rfl⟩ dX11_served_7
set_option maxHeartbeats 4000000 in
set_option maxRecDepth 100000 in
theorem c_X11_closed {l : Launch} {G : GG} {d : Nat} (hd : 107 ≤ d) {μ : Mem} {k0 : Nat} (hk0 : isC 11 k0) {a1 : Int32} {a2 : Int32} {r : Int32 × Mem} (h : f_X11_closed μ k0 a1 a2 = some r) : CT l yX11_closed cX11_closed 3 (some .int) d G [.ref (gad G k0), .int a1, .int a2] μ (RK (some (.int r.1)) r.2) := by
  refine ct_start (by decide) (Nat.le_of_ble_eq_true rfl) (fun C hl1 hG1 hC hQ hr => ?_)
  subst hl1; subst hG1
  have hC : CxOK C cX11_closed 3 RX11 d := hC
  show UW C 3 μ 0 [(0, .ref (gad (cG C) k0)), (1, .int a1), (2, .int a2)] []
  unfold f_X11_closed at h
  refine u_aload_n (pc := 0) hC dX11_closed_0 rfl 0 rfl ?_
  refine u_iload_n (pc := 1) hC dX11_closed_1 rfl 1 rfl ?_
  refine u_iload_n (pc := 2) hC dX11_closed_2 rfl 2 rfl ?_
  refine u_iconst (pc := 3) hC ic_1 dX11_closed_3 ?_
  obtain ⟨p4, q4, h⟩ := of_bd h
  refine k_RX11_238 (pc := 4) hC (av := [.int a1, .int a2, .int (1 : Int32)]) (rest := []) (c_X11_searched (d := d - 1) (by omega) hk0 q4) (by omega) (Nat.le_of_ble_eq_true rfl) hk0 rfl rfl dX11_closed_4 ?_
  obtain rfl := Option.some.inj h
  exact u_iret (pc := 7) hC hQ hr ⟨rfl, rfl⟩ dX11_closed_7
set_option maxHeartbeats 4000000 in
set_option maxRecDepth 100000 in
theorem c_X11_clashOf {l : Launch} {G : GG} {d : Nat} (hd : 2 ≤ d) {μ : Mem} {k0 : Nat} (hk0 : isC 11 k0) {a1 : Int32} {r : Int32 × Mem} (h : f_X11_clashOf μ k0 a1 = some r) : CT l yX11_clashOf cX11_clashOf 3 (some .int) d G [.ref (gad G k0), .int a1] μ (RK (some (.int r.1)) r.2) := by
  refine ct_start (by decide) (Nat.le_of_ble_eq_true rfl) (fun C hl1 hG1 hC hQ hr => ?_)
  subst hl1; subst hG1
  have hC : CxOK C cX11_clashOf 3 RX11 d := hC
  show UW C 3 μ 0 [(0, .ref (gad (cG C) k0)), (1, .int a1)] []
  unfold f_X11_clashOf at h
  refine u_iload_n (pc := 0) hC dX11_clashOf_0 rfl 1 rfl ?_
  refine u_iconst (pc := 1) hC ic_0 dX11_clashOf_1 ?_
  refine u_iconst (pc := 2) hC ic_1 dX11_clashOf_2 ?_
  refine u_aload_n (pc := 3) hC dX11_clashOf_3 rfl 0 rfl ?_
  refine g_RX11_10 (pc := 4) hC hk0 dX11_clashOf_4 ?_
  refine g_RX11_21 (pc := 7) hC (rs_11_0 hk0) dX11_clashOf_7 ?_
  refine g_RX11_73 (pc := 10) hC (rs_10_0 (rs_11_0 hk0)) dX11_clashOf_10 ?_
  refine u_ishl (pc := 13) hC dX11_clashOf_13 ?_
  refine u_iconst (pc := 14) hC ic_1 dX11_clashOf_14 ?_
  refine u_isub (pc := 15) hC dX11_clashOf_15 ?_
  obtain ⟨r16, q16, h⟩ := of_bd h
  refine k_RX11_79 (pc := 16) hC (av := [.int a1, .int (0 : Int32), .int ((jshl (1 : Int32) (rd μ (rf (rf k0 0) 0) 5)) - (1 : Int32))]) (rest := []) (c_X11_among (d := d - 1) (by omega)  q16) (by omega) (Nat.le_of_ble_eq_true rfl) rfl rfl dX11_clashOf_16 ?_
  refine u_if_ne (pc := 19) hC (tgt := 28) dX11_clashOf_19 (by decide) (fun c19 => ?_) (fun c19 => ?_)
  · replace h := of_t c19 h
    refine u_aload_n (pc := 28) hC dX11_clashOf_28 rfl 0 rfl ?_
    refine g_RX11_10 (pc := 29) hC hk0 dX11_clashOf_29 ?_
    refine g_RX11_21 (pc := 32) hC (rs_11_0 hk0) dX11_clashOf_32 ?_
    refine u_iload_n (pc := 35) hC dX11_clashOf_35 rfl 1 rfl ?_
    obtain ⟨r36, q36, h⟩ := of_bd h
    refine k_RX11_242 (pc := 36) hC (av := [.int a1]) (rest := []) (c_X1_firstClash (d := d - 1) (by omega) (rs_10_0 (rs_11_0 hk0)) q36) (by omega) (Nat.le_of_ble_eq_true rfl) (rs_10_0 (rs_11_0 hk0)) rfl rfl dX11_clashOf_36 ?_
    refine u_istore_n (pc := 39) hC dX11_clashOf_39 rfl [(2, .int r36), (0, .ref (gad (cG C) k0)), (1, .int a1)] (by decide) rfl ?_
    refine u_iload_n (pc := 40) hC dX11_clashOf_40 rfl 0 rfl ?_
    refine u_if_ge (pc := 41) hC (tgt := 52) dX11_clashOf_41 (by decide) (fun c41 => ?_) (fun c41 => ?_)
    · replace h := of_t c41 h
      refine u_iload_n (pc := 52) hC dX11_clashOf_52 rfl 0 rfl ?_
      obtain rfl := Option.some.inj h
      exact u_iret (pc := 53) hC hQ hr ⟨rfl, rfl⟩ dX11_clashOf_53
    · replace h := of_f c41 h
      refine u_aload_n (pc := 44) hC dX11_clashOf_44 rfl 1 rfl ?_
      refine u_iconst (pc := 45) hC ic_2 dX11_clashOf_45 ?_
      obtain ⟨p46, q46, h⟩ := of_bd h
      refine k_RX11_83 (pc := 46) hC (av := [.int (2 : Int32)]) (rest := []) (c_X11_refuse (d := d - 1) (by omega) hk0 q46) (by omega) (Nat.le_of_ble_eq_true rfl) hk0 rfl rfl dX11_clashOf_46 ?_
      refine u_goto (pc := 49) hC 53 dX11_clashOf_49 (by decide) ?_
      obtain rfl := Option.some.inj h
      exact u_iret (pc := 53) hC hQ hr ⟨rfl, rfl⟩ dX11_clashOf_53
  · replace h := of_f (fun q => q c19) h
    refine u_aload_n (pc := 22) hC dX11_clashOf_22 rfl 0 rfl ?_
    refine u_iconst (pc := 23) hC ic_1 dX11_clashOf_23 ?_
    obtain ⟨p24, q24, h⟩ := of_bd h
    refine k_RX11_83 (pc := 24) hC (av := [.int (1 : Int32)]) (rest := []) (c_X11_refuse (d := d - 1) (by omega) hk0 q24) (by omega) (Nat.le_of_ble_eq_true rfl) hk0 rfl rfl dX11_clashOf_24 ?_
    obtain rfl := Option.some.inj h
    exact u_iret (pc := 27) hC hQ hr ⟨rfl, rfl⟩ dX11_clashOf_27
set_option maxHeartbeats 4000000 in
set_option maxRecDepth 100000 in
theorem c_X11_joined {l : Launch} {G : GG} {d : Nat} (hd : 2 ≤ d) {μ : Mem} {k0 : Nat} (hk0 : isC 11 k0) {a1 : Int32} {a2 : Int32} {r : Int32 × Mem} (h : f_X11_joined μ k0 a1 a2 = some r) : CT l yX11_joined cX11_joined 5 (some .int) d G [.ref (gad G k0), .int a1, .int a2] μ (RK (some (.int r.1)) r.2) := by
  refine ct_start (by decide) (Nat.le_of_ble_eq_true rfl) (fun C hl1 hG1 hC hQ hr => ?_)
  subst hl1; subst hG1
  have hC : CxOK C cX11_joined 5 RX11 d := hC
  show UW C 5 μ 0 [(0, .ref (gad (cG C) k0)), (1, .int a1), (2, .int a2)] []
  have jb21 : ∀ (μ_21 : Mem), f_X11_joined_j21 μ_21 k0 a1 a2 = some r → UW C 5 μ_21 21 [(0, .ref (gad (cG C) k0))] [] := by
    intro μ_21 h
    unfold f_X11_joined_j21 at h
    refine u_aload_n (pc := 21) hC dX11_joined_21 rfl 0 rfl ?_
    refine u_iconst (pc := 22) hC ic_1 dX11_joined_22 ?_
    obtain ⟨p23, q23, h⟩ := of_bd h
    refine k_RX11_83 (pc := 23) hC (av := [.int (1 : Int32)]) (rest := []) (c_X11_refuse (d := d - 1) (by omega) hk0 q23) (by omega) (Nat.le_of_ble_eq_true rfl) hk0 rfl rfl dX11_joined_23 ?_
    obtain rfl := Option.some.inj h
    exact u_iret (pc := 26) hC hQ hr ⟨rfl, rfl⟩ dX11_joined_26
  unfold f_X11_joined at h
  refine u_aload_n (pc := 0) hC dX11_joined_0 rfl 0 rfl ?_
  refine u_iload_n (pc := 1) hC dX11_joined_1 rfl 1 rfl ?_
  obtain ⟨r2, q2, h⟩ := of_bd h
  refine k_RX11_122 (pc := 2) hC (av := [.int a1]) (rest := []) (c_X11_isDebtor (d := d - 1) (by omega) hk0 q2) (by omega) (Nat.le_of_ble_eq_true rfl) hk0 rfl rfl dX11_joined_2 ?_
  refine u_if_eq (pc := 5) hC (tgt := 21) dX11_joined_5 (by decide) (fun c5 => ?_) (fun c5 => ?_)
  · replace h := of_t c5 h
    refine u_sub [0] rfl ?_
    exact jb21 μ h
  · replace h := of_f c5 h
    refine u_aload_n (pc := 8) hC dX11_joined_8 rfl 0 rfl ?_
    refine u_iload_n (pc := 9) hC dX11_joined_9 rfl 2 rfl ?_
    obtain ⟨r10, q10, h⟩ := of_bd h
    refine k_RX11_122 (pc := 10) hC (av := [.int a2]) (rest := []) (c_X11_isDebtor (d := d - 1) (by omega) hk0 q10) (by omega) (Nat.le_of_ble_eq_true rfl) hk0 rfl rfl dX11_joined_10 ?_
    refine u_if_eq (pc := 13) hC (tgt := 21) dX11_joined_13 (by decide) (fun c13 => ?_) (fun c13 => ?_)
    · replace h := of_t c13 h
      refine u_sub [0] rfl ?_
      exact jb21 μ h
    · replace h := of_f c13 h
      refine u_iload_n (pc := 16) hC dX11_joined_16 rfl 1 rfl ?_
      refine u_iload_n (pc := 17) hC dX11_joined_17 rfl 2 rfl ?_
      refine u_icmp_ne (pc := 18) hC (tgt := 27) dX11_joined_18 (by decide) (fun c18 => ?_) (fun c18 => ?_)
      · replace h := of_t c18 h
        refine u_aload_n (pc := 27) hC dX11_joined_27 rfl 0 rfl ?_
        refine g_RX11_10 (pc := 28) hC hk0 dX11_joined_28 ?_
        refine g_RX11_114 (pc := 31) hC (rs_11_0 hk0) dX11_joined_31 ?_
        refine g_RX11_125 (pc := 34) hC (rs_10_3 (rs_11_0 hk0)) dX11_joined_34 ?_
        refine u_iload_n (pc := 37) hC dX11_joined_37 rfl 1 rfl ?_
        obtain ⟨b38, h⟩ := of_gd h
        refine u_aaldD (pc := 38) hC (rs_8_0 (rs_10_3 (rs_11_0 hk0))) b38 (rn_8_0 (rs_10_3 (rs_11_0 hk0))) dX11_joined_38 ?_
        refine g_RX11_245 (pc := 39) hC (rs_15 (rs_8_0 (rs_10_3 (rs_11_0 hk0))) b38) dX11_joined_39 ?_
        refine u_istore_n (pc := 42) hC dX11_joined_42 rfl [(3, .int (rd μ (rf (rf (rf (rf k0 0) 3) 0) a1.toNatClampNeg) 2)), (0, .ref (gad (cG C) k0)), (1, .int a1), (2, .int a2)] (by decide) rfl ?_
        refine u_aload_n (pc := 43) hC dX11_joined_43 rfl 1 rfl ?_
        refine g_RX11_10 (pc := 44) hC hk0 dX11_joined_44 ?_
        refine g_RX11_114 (pc := 47) hC (rs_11_0 hk0) dX11_joined_47 ?_
        refine g_RX11_125 (pc := 50) hC (rs_10_3 (rs_11_0 hk0)) dX11_joined_50 ?_
        refine u_iload_n (pc := 53) hC dX11_joined_53 rfl 3 rfl ?_
        obtain ⟨b54, h⟩ := of_gd h
        refine u_aaldD (pc := 54) hC (rs_8_0 (rs_10_3 (rs_11_0 hk0))) b54 (rn_8_0 (rs_10_3 (rs_11_0 hk0))) dX11_joined_54 ?_
        refine g_RX11_245 (pc := 55) hC (rs_15 (rs_8_0 (rs_10_3 (rs_11_0 hk0))) b54) dX11_joined_55 ?_
        refine u_istore (pc := 58) hC dX11_joined_58 [(4, .int (rd μ (rf (rf (rf (rf k0 0) 3) 0) a2.toNatClampNeg) 2)), (3, .int (rd μ (rf (rf (rf (rf k0 0) 3) 0) a1.toNatClampNeg) 2)), (0, .ref (gad (cG C) k0)), (1, .int a1), (2, .int a2)] (by decide) rfl ?_
        refine u_aload_n (pc := 60) hC dX11_joined_60 rfl 2 rfl ?_
        refine g_RX11_10 (pc := 61) hC hk0 dX11_joined_61 ?_
        refine g_RX11_21 (pc := 64) hC (rs_11_0 hk0) dX11_joined_64 ?_
        refine u_iload_n (pc := 67) hC dX11_joined_67 rfl 1 rfl ?_
        refine u_iload (pc := 68) hC dX11_joined_68 0 rfl ?_
        obtain ⟨r70, q70, h⟩ := of_bd h
        refine k_RX11_248 (pc := 70) hC (av := [.int (rd μ (rf (rf (rf (rf k0 0) 3) 0) a1.toNatClampNeg) 2), .int (rd μ (rf (rf (rf (rf k0 0) 3) 0) a2.toNatClampNeg) 2)]) (rest := []) (c_X1_clashBetween (d := d - 1) (by omega) (rs_10_0 (rs_11_0 hk0)) q70) (by omega) (Nat.le_of_ble_eq_true rfl) (rs_10_0 (rs_11_0 hk0)) rfl rfl dX11_joined_70 ?_
        refine u_if_eq (pc := 73) hC (tgt := 84) dX11_joined_73 (by decide) (fun c73 => ?_) (fun c73 => ?_)
        · replace h := of_t c73 h
          refine u_iload_n (pc := 84) hC dX11_joined_84 rfl 1 rfl ?_
          refine u_iload (pc := 85) hC dX11_joined_85 0 rfl ?_
          refine u_ior (pc := 87) hC dX11_joined_87 ?_
          obtain rfl := Option.some.inj h
          exact u_iret (pc := 88) hC hQ hr ⟨rfl, rfl⟩ dX11_joined_88
        · replace h := of_f c73 h
          refine u_aload_n (pc := 76) hC dX11_joined_76 rfl 2 rfl ?_
          refine u_iconst (pc := 77) hC ic_2 dX11_joined_77 ?_
          obtain ⟨p78, q78, h⟩ := of_bd h
          refine k_RX11_83 (pc := 78) hC (av := [.int (2 : Int32)]) (rest := []) (c_X11_refuse (d := d - 1) (by omega) hk0 q78) (by omega) (Nat.le_of_ble_eq_true rfl) hk0 rfl rfl dX11_joined_78 ?_
          refine u_goto (pc := 81) hC 88 dX11_joined_81 (by decide) ?_
          obtain rfl := Option.some.inj h
          exact u_iret (pc := 88) hC hQ hr ⟨rfl, rfl⟩ dX11_joined_88
      · replace h := of_f (fun q => q c18) h
        refine u_sub [0] rfl ?_
        exact jb21 μ h
set_option maxHeartbeats 4000000 in
set_option maxRecDepth 100000 in
theorem c_X11_weeksUntilFree {l : Launch} {G : GG} {d : Nat} (hd : 5 ≤ d) {μ : Mem} {k0 : Nat} (hk0 : isC 11 k0) {a1 : Int32} {a2 : Int32} {r : Int32 × Mem} (h : f_X11_weeksUntilFree μ k0 a1 a2 = some r) : CT l yX11_weeksUntilFree cX11_weeksUntilFree 4 (some .int) d G [.ref (gad G k0), .int a1, .int a2] μ (RK (some (.int r.1)) r.2) := by
  refine ct_start (by decide) (Nat.le_of_ble_eq_true rfl) (fun C hl1 hG1 hC hQ hr => ?_)
  subst hl1; subst hG1
  have hC : CxOK C cX11_weeksUntilFree 4 RX11 d := hC
  show UW C 4 μ 0 [(0, .ref (gad (cG C) k0)), (1, .int a1), (2, .int a2)] []
  have lw16 : ∀ (e : ((Int32 × Mem) ⊕ (Mem))) (s : Int32 × Mem), lp (fun s => f_X11_weeksUntilFree_l16 k0 a1 a2 s.1 s.2) FU s = some e → (Sum.elim (fun (e : (Int32 × Mem)) => UW C 4 e.2 37 [(3, .int e.1)] []) (fun (e : (Mem)) => UW C 4 e 54 [] [])) e → UW C 4 s.2 16 [(0, .ref (gad (cG C) k0)), (1, .int a1), (2, .int a2), (3, .int s.1)] [] := by
    intro e s hl hE0
    refine @lp_walk (Int32 × Mem) ((Int32 × Mem) ⊕ (Mem)) (fun s => f_X11_weeksUntilFree_l16 k0 a1 a2 s.1 s.2) (fun s => UW C 4 s.2 16 [(0, .ref (gad (cG C) k0)), (1, .int a1), (2, .int a2), (3, .int s.1)] []) (Sum.elim (fun (e : (Int32 × Mem)) => UW C 4 e.2 37 [(3, .int e.1)] []) (fun (e : (Mem)) => UW C 4 e 54 [] [])) (fun s y16 h hP16 hE16 => ?_) FU s e hl hE0
    obtain ⟨v3_16, μ_16⟩ := s
    replace h : f_X11_weeksUntilFree_l16 k0 a1 a2 v3_16 μ_16 = some y16 := h
    show UW C 4 μ_16 16 [(0, .ref (gad (cG C) k0)), (1, .int a1), (2, .int a2), (3, .int v3_16)] []
    unfold f_X11_weeksUntilFree_l16 at h
    refine u_iload_n (pc := 16) hC dX11_weeksUntilFree_16 rfl 3 rfl ?_
    refine u_bipush (pc := 17) hC bc_60 dX11_weeksUntilFree_17 ?_
    refine u_icmp_gt (pc := 19) hC (tgt := 54) dX11_weeksUntilFree_19 (by decide) (fun c19 => ?_) (fun c19 => ?_)
    · replace h := of_t c19 h
      obtain rfl := Option.some.inj h
      refine u_sub [] rfl ?_
      exact hE16 (.inr μ_16) rfl
    · replace h := of_f c19 h
      refine u_aload_n (pc := 22) hC dX11_weeksUntilFree_22 rfl 0 rfl ?_
      refine g_RX11_32 (pc := 23) hC hk0 dX11_weeksUntilFree_23 ?_
      refine g_RX11_125 (pc := 26) hC (rs_11_2 hk0) dX11_weeksUntilFree_26 ?_
      refine u_iload_n (pc := 29) hC dX11_weeksUntilFree_29 rfl 1 rfl ?_
      obtain ⟨b30, h⟩ := of_gd h
      refine u_aaldD (pc := 30) hC (rs_8_0 (rs_11_2 hk0)) b30 (rn_8_0 (rs_11_2 hk0)) dX11_weeksUntilFree_30 ?_
      refine g_RX11_147 (pc := 31) hC (rs_15 (rs_8_0 (rs_11_2 hk0)) b30) dX11_weeksUntilFree_31 ?_
      refine u_if_ne (pc := 34) hC (tgt := 39) dX11_weeksUntilFree_34 (by decide) (fun c34 => ?_) (fun c34 => ?_)
      · replace h := of_t c34 h
        refine u_aload_n (pc := 39) hC dX11_weeksUntilFree_39 rfl 0 rfl ?_
        refine g_RX11_32 (pc := 40) hC hk0 dX11_weeksUntilFree_40 ?_
        refine u_iload_n (pc := 43) hC dX11_weeksUntilFree_43 rfl 1 rfl ?_
        refine u_iload_n (pc := 44) hC dX11_weeksUntilFree_44 rfl 2 rfl ?_
        obtain ⟨μ45, q45, h⟩ := of_bd h
        refine k_RX11_351 (pc := 45) hC (av := [.int a1, .int a2]) (rest := []) (c_X8_passWeek (d := d - 1) (by omega) (rs_11_2 hk0) q45) (by omega) (Nat.le_of_ble_eq_true rfl) (rs_11_2 hk0) rfl rfl dX11_weeksUntilFree_45 ?_
        refine u_iinc (pc := 48) hC dX11_weeksUntilFree_48 3 rfl (v3_16 + 1) rfl [(3, .int (v3_16 + 1)), (0, .ref (gad (cG C) k0)), (1, .int a1), (2, .int a2)] (by decide) rfl ?_
        refine u_goto (pc := 51) hC 16 dX11_weeksUntilFree_51 (by decide) ?_
        obtain rfl := Option.some.inj h
        refine u_sub [1, 2, 3, 0] rfl ?_
        exact hP16 (v3_16 + 1, μ45) rfl
      · replace h := of_f (fun q => q c34) h
        obtain rfl := Option.some.inj h
        refine u_sub [3] rfl ?_
        exact hE16 (.inl (v3_16, μ_16)) rfl
  unfold f_X11_weeksUntilFree at h
  refine u_aload_n (pc := 0) hC dX11_weeksUntilFree_0 rfl 0 rfl ?_
  refine g_RX11_32 (pc := 1) hC hk0 dX11_weeksUntilFree_1 ?_
  refine u_aload_n (pc := 4) hC dX11_weeksUntilFree_4 rfl 0 rfl ?_
  refine g_RX11_10 (pc := 5) hC hk0 dX11_weeksUntilFree_5 ?_
  refine g_RX11_114 (pc := 8) hC (rs_11_0 hk0) dX11_weeksUntilFree_8 ?_
  obtain ⟨μ11, q11, h⟩ := of_bd h
  refine k_RX11_206 (pc := 11) hC (av := [.ref (gad (cG C) (rf (rf k0 0) 3))]) (rest := []) (c_X8_copyFrom (d := d - 1) (by omega) (rs_11_2 hk0) (rs_10_3 (rs_11_0 hk0)) q11) (by omega) (Nat.le_of_ble_eq_true rfl) (rs_11_2 hk0) rfl rfl dX11_weeksUntilFree_11 ?_
  refine u_iconst (pc := 14) hC ic_0 dX11_weeksUntilFree_14 ?_
  refine u_istore_n (pc := 15) hC dX11_weeksUntilFree_15 rfl [(3, .int (0 : Int32)), (0, .ref (gad (cG C) k0)), (1, .int a1), (2, .int a2)] (by decide) rfl ?_
  obtain ⟨e16, l16, h⟩ := of_bd h
  refine u_sub [1, 2, 3, 0] rfl ?_
  refine lw16  e16 ((0 : Int32), μ11) l16 ?_
  rcases e16 with e16 | e16
  · replace h := of_el h
    show UW C 4 e16.2 37 [(3, .int e16.1)] []
    refine u_iload_n (pc := 37) hC dX11_weeksUntilFree_37 rfl 0 rfl ?_
    obtain rfl := Option.some.inj h
    exact u_iret (pc := 38) hC hQ hr ⟨rfl, rfl⟩ dX11_weeksUntilFree_38
  · replace h := of_er h
    show UW C 4 e16 54 [] []
    refine u_iconst (pc := 54) hC ic_m1 dX11_weeksUntilFree_54 ?_
    obtain rfl := Option.some.inj h
    exact u_iret (pc := 55) hC hQ hr ⟨rfl, rfl⟩ dX11_weeksUntilFree_55
set_option maxHeartbeats 4000000 in
set_option maxRecDepth 100000 in
theorem c_X11_bestRate {l : Launch} {G : GG} {d : Nat} (hd : 6 ≤ d) {μ : Mem} {k0 : Nat} (hk0 : isC 11 k0) {a1 : Int32} {r : Int32 × Mem} (h : f_X11_bestRate μ k0 a1 = some r) : CT l yX11_bestRate cX11_bestRate 6 (some .int) d G [.ref (gad G k0), .int a1] μ (RK (some (.int r.1)) r.2) := by
  refine ct_start (by decide) (Nat.le_of_ble_eq_true rfl) (fun C hl1 hG1 hC hQ hr => ?_)
  subst hl1; subst hG1
  have hC : CxOK C cX11_bestRate 6 RX11 d := hC
  show UW C 6 μ 0 [(0, .ref (gad (cG C) k0)), (1, .int a1)] []
  have lw8 : ∀ (e : (Int32 × Mem)) (s : Int32 × Int32 × Int32 × Mem), lp (fun s => f_X11_bestRate_l8 k0 a1 s.1 s.2.1 s.2.2.1 s.2.2.2) FU s = some e → (fun (e : (Int32 × Mem)) => UW C 6 e.2 46 [(2, .int e.1)] []) e → UW C 6 s.2.2.2 8 [(0, .ref (gad (cG C) k0)), (1, .int a1), (2, .int s.1), (3, .int s.2.1), (4, .int s.2.2.1)] [] := by
    intro e s hl hE0
    refine @lp_walk (Int32 × Int32 × Int32 × Mem) (Int32 × Mem) (fun s => f_X11_bestRate_l8 k0 a1 s.1 s.2.1 s.2.2.1 s.2.2.2) (fun s => UW C 6 s.2.2.2 8 [(0, .ref (gad (cG C) k0)), (1, .int a1), (2, .int s.1), (3, .int s.2.1), (4, .int s.2.2.1)] []) (fun (e : (Int32 × Mem)) => UW C 6 e.2 46 [(2, .int e.1)] []) (fun s y8 h hP8 hE8 => ?_) FU s e hl hE0
    obtain ⟨v2_8, v3_8, v4_8, μ_8⟩ := s
    replace h : f_X11_bestRate_l8 k0 a1 v2_8 v3_8 v4_8 μ_8 = some y8 := h
    show UW C 6 μ_8 8 [(0, .ref (gad (cG C) k0)), (1, .int a1), (2, .int v2_8), (3, .int v3_8), (4, .int v4_8)] []
    unfold f_X11_bestRate_l8 at h
    refine u_iload (pc := 8) hC dX11_bestRate_8 4 rfl ?_
    refine u_iconst (pc := 10) hC ic_4 dX11_bestRate_10 ?_
    refine u_icmp_gt (pc := 11) hC (tgt := 46) dX11_bestRate_11 (by decide) (fun c11 => ?_) (fun c11 => ?_)
    · replace h := of_t c11 h
      obtain rfl := Option.some.inj h
      refine u_sub [2] rfl ?_
      exact hE8 (v2_8, μ_8) rfl
    · replace h := of_f c11 h
      refine u_aload_n (pc := 14) hC dX11_bestRate_14 rfl 0 rfl ?_
      refine u_iload_n (pc := 15) hC dX11_bestRate_15 rfl 1 rfl ?_
      refine u_iload (pc := 16) hC dX11_bestRate_16 4 rfl ?_
      obtain ⟨p18, q18, h⟩ := of_bd h
      refine k_RX11_251 (pc := 18) hC (av := [.int a1, .int v4_8]) (rest := []) (c_X11_weeksUntilFree (d := d - 1) (by omega) hk0 q18) (by omega) (Nat.le_of_ble_eq_true rfl) hk0 rfl rfl dX11_bestRate_18 ?_
      refine u_istore (pc := 21) hC dX11_bestRate_21 [(5, .int p18.1), (0, .ref (gad (cG C) k0)), (1, .int a1), (2, .int v2_8), (3, .int v3_8), (4, .int v4_8)] (by decide) rfl ?_
      refine u_iload (pc := 23) hC dX11_bestRate_23 0 rfl ?_
      refine u_if_lt (pc := 25) hC (tgt := 40) dX11_bestRate_25 (by decide) (fun c25 => ?_) (fun c25 => ?_)
      · replace h := of_t c25 h
        refine u_iinc (pc := 40) hC dX11_bestRate_40 5 rfl (v4_8 + 1) rfl [(4, .int (v4_8 + 1)), (5, .int p18.1), (0, .ref (gad (cG C) k0)), (1, .int a1), (2, .int v2_8), (3, .int v3_8)] (by decide) rfl ?_
        refine u_goto (pc := 43) hC 8 dX11_bestRate_43 (by decide) ?_
        obtain rfl := Option.some.inj h
        refine u_sub [2, 3, 4, 5, 0] rfl ?_
        exact hP8 (v2_8, v3_8, v4_8 + 1, p18.2) rfl
      · replace h := of_f c25 h
        refine u_iload (pc := 28) hC dX11_bestRate_28 0 rfl ?_
        refine u_iload_n (pc := 30) hC dX11_bestRate_30 rfl 4 rfl ?_
        refine u_icmp_ge (pc := 31) hC (tgt := 40) dX11_bestRate_31 (by decide) (fun c31 => ?_) (fun c31 => ?_)
        · replace h := of_t c31 h
          refine u_iinc (pc := 40) hC dX11_bestRate_40 5 rfl (v4_8 + 1) rfl [(4, .int (v4_8 + 1)), (5, .int p18.1), (0, .ref (gad (cG C) k0)), (1, .int a1), (2, .int v2_8), (3, .int v3_8)] (by decide) rfl ?_
          refine u_goto (pc := 43) hC 8 dX11_bestRate_43 (by decide) ?_
          obtain rfl := Option.some.inj h
          refine u_sub [2, 3, 4, 5, 0] rfl ?_
          exact hP8 (v2_8, v3_8, v4_8 + 1, p18.2) rfl
        · replace h := of_f c31 h
          refine u_iload (pc := 34) hC dX11_bestRate_34 0 rfl ?_
          refine u_istore_n (pc := 36) hC dX11_bestRate_36 rfl [(3, .int p18.1), (5, .int p18.1), (0, .ref (gad (cG C) k0)), (1, .int a1), (2, .int v2_8), (4, .int v4_8)] (by decide) rfl ?_
          refine u_iload (pc := 37) hC dX11_bestRate_37 5 rfl ?_
          refine u_istore_n (pc := 39) hC dX11_bestRate_39 rfl [(2, .int v4_8), (3, .int p18.1), (5, .int p18.1), (0, .ref (gad (cG C) k0)), (1, .int a1), (4, .int v4_8)] (by decide) rfl ?_
          refine u_iinc (pc := 40) hC dX11_bestRate_40 5 rfl (v4_8 + 1) rfl [(4, .int (v4_8 + 1)), (2, .int v4_8), (3, .int p18.1), (5, .int p18.1), (0, .ref (gad (cG C) k0)), (1, .int a1)] (by decide) rfl ?_
          refine u_goto (pc := 43) hC 8 dX11_bestRate_43 (by decide) ?_
          obtain rfl := Option.some.inj h
          refine u_sub [4, 5, 1, 2, 0] rfl ?_
          exact hP8 (v4_8, p18.1, v4_8 + 1, p18.2) rfl
  unfold f_X11_bestRate at h
  refine u_iconst (pc := 0) hC ic_m1 dX11_bestRate_0 ?_
  refine u_istore_n (pc := 1) hC dX11_bestRate_1 rfl [(2, .int (-1 : Int32)), (0, .ref (gad (cG C) k0)), (1, .int a1)] (by decide) rfl ?_
  refine u_bipush (pc := 2) hC bc_61 dX11_bestRate_2 ?_
  refine u_istore_n (pc := 4) hC dX11_bestRate_4 rfl [(3, .int (61 : Int32)), (2, .int (-1 : Int32)), (0, .ref (gad (cG C) k0)), (1, .int a1)] (by decide) rfl ?_
  refine u_iconst (pc := 5) hC ic_1 dX11_bestRate_5 ?_
  refine u_istore (pc := 6) hC dX11_bestRate_6 [(4, .int (1 : Int32)), (3, .int (61 : Int32)), (2, .int (-1 : Int32)), (0, .ref (gad (cG C) k0)), (1, .int a1)] (by decide) rfl ?_
  obtain ⟨e8, l8, h⟩ := of_bd h
  refine u_sub [3, 4, 2, 1, 0] rfl ?_
  refine lw8  e8 ((-1 : Int32), (61 : Int32), (1 : Int32), μ) l8 ?_
  show UW C 6 e8.2 46 [(2, .int e8.1)] []
  refine u_iload_n (pc := 46) hC dX11_bestRate_46 rfl 0 rfl ?_
  obtain rfl := Option.some.inj h
  exact u_iret (pc := 47) hC hQ hr ⟨rfl, rfl⟩ dX11_bestRate_47
set_option maxHeartbeats 4000000 in
set_option maxRecDepth 100000 in
theorem c_X11_rated {l : Launch} {G : GG} {d : Nat} (hd : 7 ≤ d) {μ : Mem} {k0 : Nat} (hk0 : isC 11 k0) {a1 : Int32} {a2 : Int32} {a3 : Int32} {r : Int32 × Mem} (h : f_X11_rated μ k0 a1 a2 a3 = some r) : CT l yX11_rated cX11_rated 5 (some .int) d G [.ref (gad G k0), .int a1, .int a2, .int a3] μ (RK (some (.int r.1)) r.2) := by
  refine ct_start (by decide) (Nat.le_of_ble_eq_true rfl) (fun C hl1 hG1 hC hQ hr => ?_)
  subst hl1; subst hG1
  have hC : CxOK C cX11_rated 5 RX11 d := hC
  show UW C 5 μ 0 [(0, .ref (gad (cG C) k0)), (1, .int a1), (2, .int a2), (3, .int a3)] []
  have jb50 : ∀ (μ_50 : Mem) (vt0_50 : Int32), f_X11_rated_j50 μ_50 k0 a1 a2 a3 vt0_50 = some r → UW C 5 μ_50 50 [(0, .ref (gad (cG C) k0))] [.int vt0_50] := by
    intro μ_50 vt0_50 h
    unfold f_X11_rated_j50 at h
    refine u_istore (pc := 50) hC dX11_rated_50 [(4, .int vt0_50), (0, .ref (gad (cG C) k0))] (by decide) rfl ?_
    refine u_iload (pc := 52) hC dX11_rated_52 0 rfl ?_
    refine u_if_ge (pc := 54) hC (tgt := 65) dX11_rated_54 (by decide) (fun c54 => ?_) (fun c54 => ?_)
    · replace h := of_t c54 h
      refine u_iload (pc := 65) hC dX11_rated_65 0 rfl ?_
      obtain rfl := Option.some.inj h
      exact u_iret (pc := 67) hC hQ hr ⟨rfl, rfl⟩ dX11_rated_67
    · replace h := of_f c54 h
      refine u_aload_n (pc := 57) hC dX11_rated_57 rfl 1 rfl ?_
      refine u_iconst (pc := 58) hC ic_2 dX11_rated_58 ?_
      obtain ⟨p59, q59, h⟩ := of_bd h
      refine k_RX11_83 (pc := 59) hC (av := [.int (2 : Int32)]) (rest := []) (c_X11_refuse (d := d - 1) (by omega) hk0 q59) (by omega) (Nat.le_of_ble_eq_true rfl) hk0 rfl rfl dX11_rated_59 ?_
      refine u_goto (pc := 62) hC 67 dX11_rated_62 (by decide) ?_
      obtain rfl := Option.some.inj h
      exact u_iret (pc := 67) hC hQ hr ⟨rfl, rfl⟩ dX11_rated_67
  have jb26 : ∀ (μ_26 : Mem), f_X11_rated_j26 μ_26 k0 a1 a2 a3 = some r → UW C 5 μ_26 26 [(0, .ref (gad (cG C) k0))] [] := by
    intro μ_26 h
    unfold f_X11_rated_j26 at h
    refine u_aload_n (pc := 26) hC dX11_rated_26 rfl 0 rfl ?_
    refine u_iconst (pc := 27) hC ic_1 dX11_rated_27 ?_
    obtain ⟨p28, q28, h⟩ := of_bd h
    refine k_RX11_83 (pc := 28) hC (av := [.int (1 : Int32)]) (rest := []) (c_X11_refuse (d := d - 1) (by omega) hk0 q28) (by omega) (Nat.le_of_ble_eq_true rfl) hk0 rfl rfl dX11_rated_28 ?_
    obtain rfl := Option.some.inj h
    exact u_iret (pc := 31) hC hQ hr ⟨rfl, rfl⟩ dX11_rated_31
  unfold f_X11_rated at h
  refine u_aload_n (pc := 0) hC dX11_rated_0 rfl 0 rfl ?_
  refine u_iload_n (pc := 1) hC dX11_rated_1 rfl 1 rfl ?_
  obtain ⟨r2, q2, h⟩ := of_bd h
  refine k_RX11_122 (pc := 2) hC (av := [.int a1]) (rest := []) (c_X11_isDebtor (d := d - 1) (by omega) hk0 q2) (by omega) (Nat.le_of_ble_eq_true rfl) hk0 rfl rfl dX11_rated_2 ?_
  refine u_if_eq (pc := 5) hC (tgt := 26) dX11_rated_5 (by decide) (fun c5 => ?_) (fun c5 => ?_)
  · replace h := of_t c5 h
    refine u_sub [0] rfl ?_
    exact jb26 μ h
  · replace h := of_f c5 h
    refine u_iload_n (pc := 8) hC dX11_rated_8 rfl 2 rfl ?_
    refine u_iconst (pc := 9) hC ic_1 dX11_rated_9 ?_
    refine u_iconst (pc := 10) hC ic_4 dX11_rated_10 ?_
    obtain ⟨r11, q11, h⟩ := of_bd h
    refine k_RX11_79 (pc := 11) hC (av := [.int a2, .int (1 : Int32), .int (4 : Int32)]) (rest := []) (c_X11_among (d := d - 1) (by omega)  q11) (by omega) (Nat.le_of_ble_eq_true rfl) rfl rfl dX11_rated_11 ?_
    refine u_if_eq (pc := 14) hC (tgt := 26) dX11_rated_14 (by decide) (fun c14 => ?_) (fun c14 => ?_)
    · replace h := of_t c14 h
      refine u_sub [0] rfl ?_
      exact jb26 μ h
    · replace h := of_f c14 h
      refine u_iload_n (pc := 17) hC dX11_rated_17 rfl 3 rfl ?_
      refine u_iconst (pc := 18) hC ic_0 dX11_rated_18 ?_
      refine u_iconst (pc := 19) hC ic_1 dX11_rated_19 ?_
      obtain ⟨r20, q20, h⟩ := of_bd h
      refine k_RX11_79 (pc := 20) hC (av := [.int a3, .int (0 : Int32), .int (1 : Int32)]) (rest := []) (c_X11_among (d := d - 1) (by omega)  q20) (by omega) (Nat.le_of_ble_eq_true rfl) rfl rfl dX11_rated_20 ?_
      refine u_if_ne (pc := 23) hC (tgt := 32) dX11_rated_23 (by decide) (fun c23 => ?_) (fun c23 => ?_)
      · replace h := of_t c23 h
        refine u_iload_n (pc := 32) hC dX11_rated_32 rfl 3 rfl ?_
        refine u_if_ne (pc := 33) hC (tgt := 45) dX11_rated_33 (by decide) (fun c33 => ?_) (fun c33 => ?_)
        · replace h := of_t c33 h
          refine u_aload_n (pc := 45) hC dX11_rated_45 rfl 0 rfl ?_
          refine u_iload_n (pc := 46) hC dX11_rated_46 rfl 1 rfl ?_
          obtain ⟨p47, q47, h⟩ := of_bd h
          refine k_RX11_254 (pc := 47) hC (av := [.int a1]) (rest := []) (c_X11_bestRate (d := d - 1) (by omega) hk0 q47) (by omega) (Nat.le_of_ble_eq_true rfl) hk0 rfl rfl dX11_rated_47 ?_
          refine u_sub [0] rfl ?_
          exact jb50 p47.2 p47.1 h
        · replace h := of_f (fun q => q c33) h
          refine u_aload_n (pc := 36) hC dX11_rated_36 rfl 0 rfl ?_
          refine u_iload_n (pc := 37) hC dX11_rated_37 rfl 1 rfl ?_
          refine u_iload_n (pc := 38) hC dX11_rated_38 rfl 2 rfl ?_
          obtain ⟨p39, q39, h⟩ := of_bd h
          refine k_RX11_251 (pc := 39) hC (av := [.int a1, .int a2]) (rest := []) (c_X11_weeksUntilFree (d := d - 1) (by omega) hk0 q39) (by omega) (Nat.le_of_ble_eq_true rfl) hk0 rfl rfl dX11_rated_39 ?_
          refine u_goto (pc := 42) hC 50 dX11_rated_42 (by decide) ?_
          refine u_sub [0] rfl ?_
          exact jb50 p39.2 p39.1 h
      · replace h := of_f (fun q => q c23) h
        refine u_sub [0] rfl ?_
        exact jb26 μ h
set_option maxHeartbeats 4000000 in
set_option maxRecDepth 100000 in
theorem c_X11_isSheet {l : Launch} {G : GG} {d : Nat} (hd : 1 ≤ d) {μ : Mem} {a0 : Int32} {r : Int32} (h : f_X11_isSheet a0 = some r) : CT l yX11_isSheet cX11_isSheet 1 (some .boolean) d G [.int a0] μ (RK (some (.int r)) μ) := by
  refine ct_start (by decide) (Nat.le_of_ble_eq_true rfl) (fun C hl1 hG1 hC hQ hr => ?_)
  subst hl1; subst hG1
  have hC : CxOK C cX11_isSheet 1 RX11 d := hC
  show UW C 1 μ 0 [(0, .int a0)] []
  unfold f_X11_isSheet at h
  refine u_iload_n (pc := 0) hC dX11_isSheet_0 rfl 0 rfl ?_
  refine u_iconst (pc := 1) hC ic_0 dX11_isSheet_1 ?_
  refine u_iconst (pc := 2) hC ic_3 dX11_isSheet_2 ?_
  obtain ⟨r3, q3, h⟩ := of_bd h
  refine k_RX11_79 (pc := 3) hC (av := [.int a0, .int (0 : Int32), .int (3 : Int32)]) (rest := []) (c_X11_among (d := d - 1) (by omega)  q3) (by omega) (Nat.le_of_ble_eq_true rfl) rfl rfl dX11_isSheet_3 ?_
  obtain ⟨b6, h⟩ := of_gd h
  obtain rfl := Option.some.inj h
  exact u_zret (pc := 6) hC hQ hr b6 ⟨rfl, rfl⟩ dX11_isSheet_6
set_option maxHeartbeats 4000000 in
set_option maxRecDepth 100000 in
theorem c_X11_wouldTell {l : Launch} {G : GG} {d : Nat} (hd : 6 ≤ d) {μ : Mem} {k0 : Nat} (hk0 : isC 11 k0) {a1 : Int32} {a2 : Int32} {k3 : Nat} (hk3 : isC 6 k3) {r : Int32 × Mem} (h : f_X11_wouldTell μ k0 a1 a2 k3 = some r) : CT l yX11_wouldTell cX11_wouldTell 6 (some .boolean) d G [.ref (gad G k0), .int a1, .int a2, .ref (gad G k3)] μ (RK (some (.int r.1)) r.2) := by
  refine ct_start (by decide) (Nat.le_of_ble_eq_true rfl) (fun C hl1 hG1 hC hQ hr => ?_)
  subst hl1; subst hG1
  have hC : CxOK C cX11_wouldTell 6 RX11 d := hC
  show UW C 6 μ 0 [(0, .ref (gad (cG C) k0)), (1, .int a1), (2, .int a2), (3, .ref (gad (cG C) k3))] []
  unfold f_X11_wouldTell at h
  refine u_aload_n (pc := 0) hC dX11_wouldTell_0 rfl 0 rfl ?_
  refine g_RX11_32 (pc := 1) hC hk0 dX11_wouldTell_1 ?_
  refine u_aload_n (pc := 4) hC dX11_wouldTell_4 rfl 0 rfl ?_
  refine g_RX11_10 (pc := 5) hC hk0 dX11_wouldTell_5 ?_
  refine g_RX11_114 (pc := 8) hC (rs_11_0 hk0) dX11_wouldTell_8 ?_
  obtain ⟨μ11, q11, h⟩ := of_bd h
  refine k_RX11_206 (pc := 11) hC (av := [.ref (gad (cG C) (rf (rf k0 0) 3))]) (rest := []) (c_X8_copyFrom (d := d - 1) (by omega) (rs_11_2 hk0) (rs_10_3 (rs_11_0 hk0)) q11) (by omega) (Nat.le_of_ble_eq_true rfl) (rs_11_2 hk0) rfl rfl dX11_wouldTell_11 ?_
  refine u_aload_n (pc := 14) hC dX11_wouldTell_14 rfl 0 rfl ?_
  refine g_RX11_32 (pc := 15) hC hk0 dX11_wouldTell_15 ?_
  refine g_RX11_125 (pc := 18) hC (rs_11_2 hk0) dX11_wouldTell_18 ?_
  refine u_iload_n (pc := 21) hC dX11_wouldTell_21 rfl 1 rfl ?_
  obtain ⟨b22, h⟩ := of_gd h
  refine u_aaldD (pc := 22) hC (rs_8_0 (rs_11_2 hk0)) b22 (rn_8_0 (rs_11_2 hk0)) dX11_wouldTell_22 ?_
  refine u_astore (pc := 23) hC dX11_wouldTell_23 [(4, .ref (gad (cG C) (rf (rf (rf k0 2) 0) a1.toNatClampNeg))), (0, .ref (gad (cG C) k0)), (1, .int a1), (2, .int a2), (3, .ref (gad (cG C) k3))] (by decide) rfl ?_
  refine u_aload (pc := 25) hC dX11_wouldTell_25 0 rfl ?_
  refine g_RX11_153 (pc := 27) hC (rs_15 (rs_8_0 (rs_11_2 hk0)) b22) dX11_wouldTell_27 ?_
  refine u_istore (pc := 30) hC dX11_wouldTell_30 [(5, .int (rd μ11 (rf (rf (rf k0 2) 0) a1.toNatClampNeg) 3)), (4, .ref (gad (cG C) (rf (rf (rf k0 2) 0) a1.toNatClampNeg))), (0, .ref (gad (cG C) k0)), (1, .int a1), (2, .int a2), (3, .ref (gad (cG C) k3))] (by decide) rfl ?_
  refine u_aload (pc := 32) hC dX11_wouldTell_32 1 rfl ?_
  refine u_iload_n (pc := 34) hC dX11_wouldTell_34 rfl 4 rfl ?_
  obtain ⟨m35, q35, h⟩ := of_bd h
  refine p_RX11_129 (pc := 35) hC (rs_15 (rs_8_0 (rs_11_2 hk0)) b22) dX11_wouldTell_35 (Option.some.inj q35) ?_
  refine u_aload_n (pc := 38) hC dX11_wouldTell_38 rfl 2 rfl ?_
  refine g_RX11_32 (pc := 39) hC hk0 dX11_wouldTell_39 ?_
  refine u_bipush (pc := 42) hC bc_60 dX11_wouldTell_42 ?_
  obtain ⟨μ44, q44, h⟩ := of_bd h
  refine k_RX11_198 (pc := 44) hC (av := [.int (60 : Int32)]) (rest := []) (c_X8_passWeeks (d := d - 1) (by omega) (rs_11_2 hk0) q44) (by omega) (Nat.le_of_ble_eq_true rfl) (rs_11_2 hk0) rfl rfl dX11_wouldTell_44 ?_
  refine u_aload (pc := 47) hC dX11_wouldTell_47 1 rfl ?_
  refine u_iload (pc := 49) hC dX11_wouldTell_49 0 rfl ?_
  refine u_aload_n (pc := 51) hC dX11_wouldTell_51 rfl 5 rfl ?_
  obtain ⟨r52, q52, h⟩ := of_bd h
  refine k_RX11_319 (pc := 52) hC (av := [.int (rd μ11 (rf (rf (rf k0 2) 0) a1.toNatClampNeg) 3), .ref (gad (cG C) k3)]) (rest := []) (c_X0_alikeFrom (d := d - 1) (by omega) (rs_15 (rs_8_0 (rs_11_2 hk0)) b22) hk3 q52) (by omega) (Nat.le_of_ble_eq_true rfl) (rs_15 (rs_8_0 (rs_11_2 hk0)) b22) rfl rfl dX11_wouldTell_52 ?_
  refine u_aload_n (pc := 55) hC dX11_wouldTell_55 rfl 5 rfl ?_
  refine g_RX11_300 (pc := 56) hC hk3 dX11_wouldTell_56 ?_
  refine u_icmp_ne (pc := 59) hC (tgt := 66) dX11_wouldTell_59 (by decide) (fun c59 => ?_) (fun c59 => ?_)
  · replace h := of_t c59 h
    refine u_iconst (pc := 66) hC ic_0 dX11_wouldTell_66 ?_
    obtain rfl := Option.some.inj h
    exact u_zret (pc := 67) hC hQ hr (by decide) ⟨rfl, rfl⟩ dX11_wouldTell_67
  · replace h := of_f (fun q => q c59) h
    refine u_iconst (pc := 62) hC ic_1 dX11_wouldTell_62 ?_
    refine u_goto (pc := 63) hC 67 dX11_wouldTell_63 (by decide) ?_
    obtain rfl := Option.some.inj h
    exact u_zret (pc := 67) hC hQ hr (by decide) ⟨rfl, rfl⟩ dX11_wouldTell_67
set_option maxHeartbeats 4000000 in
set_option maxRecDepth 100000 in
theorem c_X11_explained {l : Launch} {G : GG} {d : Nat} (hd : 7 ≤ d) {μ : Mem} {k0 : Nat} (hk0 : isC 11 k0) {a1 : Int32} {a2 : Int32} {r : Int32 × Mem} (h : f_X11_explained μ k0 a1 a2 = some r) : CT l yX11_explained cX11_explained 4 (some .int) d G [.ref (gad G k0), .int a1, .int a2] μ (RK (some (.int r.1)) r.2) := by
  refine ct_start (by decide) (Nat.le_of_ble_eq_true rfl) (fun C hl1 hG1 hC hQ hr => ?_)
  subst hl1; subst hG1
  have hC : CxOK C cX11_explained 4 RX11 d := hC
  show UW C 4 μ 0 [(0, .ref (gad (cG C) k0)), (1, .int a1), (2, .int a2)] []
  have lw41 : ∀ (e : ((Int32 × Mem) ⊕ (Mem))) (s : Int32 × Mem), lp (fun s => f_X11_explained_l41 k0 a1 a2 s.1 s.2) FU s = some e → (Sum.elim (fun (e : (Int32 × Mem)) => UW C 4 e.2 62 [(3, .int e.1)] []) (fun (e : (Mem)) => UW C 4 e 70 [(0, .ref (gad (cG C) k0))] [])) e → UW C 4 s.2 41 [(0, .ref (gad (cG C) k0)), (1, .int a1), (2, .int a2), (3, .int s.1)] [] := by
    intro e s hl hE0
    refine @lp_walk (Int32 × Mem) ((Int32 × Mem) ⊕ (Mem)) (fun s => f_X11_explained_l41 k0 a1 a2 s.1 s.2) (fun s => UW C 4 s.2 41 [(0, .ref (gad (cG C) k0)), (1, .int a1), (2, .int a2), (3, .int s.1)] []) (Sum.elim (fun (e : (Int32 × Mem)) => UW C 4 e.2 62 [(3, .int e.1)] []) (fun (e : (Mem)) => UW C 4 e 70 [(0, .ref (gad (cG C) k0))] [])) (fun s y41 h hP41 hE41 => ?_) FU s e hl hE0
    obtain ⟨v3_41, μ_41⟩ := s
    replace h : f_X11_explained_l41 k0 a1 a2 v3_41 μ_41 = some y41 := h
    show UW C 4 μ_41 41 [(0, .ref (gad (cG C) k0)), (1, .int a1), (2, .int a2), (3, .int v3_41)] []
    unfold f_X11_explained_l41 at h
    refine u_iload_n (pc := 41) hC dX11_explained_41 rfl 3 rfl ?_
    refine u_bipush (pc := 42) hC bc_7 dX11_explained_42 ?_
    refine u_icmp_ge (pc := 44) hC (tgt := 70) dX11_explained_44 (by decide) (fun c44 => ?_) (fun c44 => ?_)
    · replace h := of_t c44 h
      obtain rfl := Option.some.inj h
      refine u_sub [0] rfl ?_
      exact hE41 (.inr μ_41) rfl
    · replace h := of_f c44 h
      refine u_aload_n (pc := 47) hC dX11_explained_47 rfl 0 rfl ?_
      refine u_iload_n (pc := 48) hC dX11_explained_48 rfl 1 rfl ?_
      refine u_iload_n (pc := 49) hC dX11_explained_49 rfl 3 rfl ?_
      refine u_aload_n (pc := 50) hC dX11_explained_50 rfl 0 rfl ?_
      refine g_RX11_61 (pc := 51) hC hk0 dX11_explained_51 ?_
      refine u_iload_n (pc := 54) hC dX11_explained_54 rfl 2 rfl ?_
      obtain ⟨b55, h⟩ := of_gd h
      refine u_aaldS (pc := 55) hC (rs_11_6 hk0) b55 (rn_11_6 hk0) dX11_explained_55 ?_
      obtain ⟨p56, q56, h⟩ := of_bd h
      refine k_RX11_264 (pc := 56) hC (av := [.int a1, .int v3_41, .ref (gad (cG C) (rf (rf k0 6) a2.toNatClampNeg))]) (rest := []) (c_X11_wouldTell (d := d - 1) (by omega) hk0 (rs_16 (rs_11_6 hk0) b55) q56) (by omega) (Nat.le_of_ble_eq_true rfl) hk0 rfl rfl dX11_explained_56 ?_
      refine u_if_eq (pc := 59) hC (tgt := 64) dX11_explained_59 (by decide) (fun c59 => ?_) (fun c59 => ?_)
      · replace h := of_t c59 h
        refine u_iinc (pc := 64) hC dX11_explained_64 3 rfl (v3_41 + 1) rfl [(3, .int (v3_41 + 1)), (0, .ref (gad (cG C) k0)), (1, .int a1), (2, .int a2)] (by decide) rfl ?_
        refine u_goto (pc := 67) hC 41 dX11_explained_67 (by decide) ?_
        obtain rfl := Option.some.inj h
        refine u_sub [1, 2, 3, 0] rfl ?_
        exact hP41 (v3_41 + 1, p56.2) rfl
      · replace h := of_f c59 h
        obtain rfl := Option.some.inj h
        refine u_sub [3] rfl ?_
        exact hE41 (.inl (v3_41, p56.2)) rfl
  have jb15 : ∀ (μ_15 : Mem), f_X11_explained_j15 μ_15 k0 a1 a2 = some r → UW C 4 μ_15 15 [(0, .ref (gad (cG C) k0))] [] := by
    intro μ_15 h
    unfold f_X11_explained_j15 at h
    refine u_aload_n (pc := 15) hC dX11_explained_15 rfl 0 rfl ?_
    refine u_iconst (pc := 16) hC ic_1 dX11_explained_16 ?_
    obtain ⟨p17, q17, h⟩ := of_bd h
    refine k_RX11_83 (pc := 17) hC (av := [.int (1 : Int32)]) (rest := []) (c_X11_refuse (d := d - 1) (by omega) hk0 q17) (by omega) (Nat.le_of_ble_eq_true rfl) hk0 rfl rfl dX11_explained_17 ?_
    obtain rfl := Option.some.inj h
    exact u_iret (pc := 20) hC hQ hr ⟨rfl, rfl⟩ dX11_explained_20
  unfold f_X11_explained at h
  refine u_aload_n (pc := 0) hC dX11_explained_0 rfl 0 rfl ?_
  refine u_iload_n (pc := 1) hC dX11_explained_1 rfl 1 rfl ?_
  obtain ⟨r2, q2, h⟩ := of_bd h
  refine k_RX11_122 (pc := 2) hC (av := [.int a1]) (rest := []) (c_X11_isDebtor (d := d - 1) (by omega) hk0 q2) (by omega) (Nat.le_of_ble_eq_true rfl) hk0 rfl rfl dX11_explained_2 ?_
  refine u_if_eq (pc := 5) hC (tgt := 15) dX11_explained_5 (by decide) (fun c5 => ?_) (fun c5 => ?_)
  · replace h := of_t c5 h
    refine u_sub [0] rfl ?_
    exact jb15 μ h
  · replace h := of_f c5 h
    refine u_iload_n (pc := 8) hC dX11_explained_8 rfl 2 rfl ?_
    obtain ⟨r9, q9, h⟩ := of_bd h
    refine k_RX11_257 (pc := 9) hC (av := [.int a2]) (rest := []) (c_X11_isSheet (d := d - 1) (by omega)  q9) (by omega) (Nat.le_of_ble_eq_true rfl) rfl rfl dX11_explained_9 ?_
    refine u_if_ne (pc := 12) hC (tgt := 21) dX11_explained_12 (by decide) (fun c12 => ?_) (fun c12 => ?_)
    · replace h := of_t c12 h
      refine u_aload_n (pc := 21) hC dX11_explained_21 rfl 0 rfl ?_
      refine g_RX11_61 (pc := 22) hC hk0 dX11_explained_22 ?_
      refine u_iload_n (pc := 25) hC dX11_explained_25 rfl 2 rfl ?_
      obtain ⟨b26, h⟩ := of_gd h
      refine u_aaldS (pc := 26) hC (rs_11_6 hk0) b26 (rn_11_6 hk0) dX11_explained_26 ?_
      obtain ⟨r27, q27, h⟩ := of_bd h
      refine k_RX11_260 (pc := 27) hC (av := []) (rest := []) (c_X6_isMissing (d := d - 1) (by omega) (rs_16 (rs_11_6 hk0) b26) q27) (by omega) (Nat.le_of_ble_eq_true rfl) (rs_16 (rs_11_6 hk0) b26) rfl rfl dX11_explained_27 ?_
      refine u_if_eq (pc := 30) hC (tgt := 39) dX11_explained_30 (by decide) (fun c30 => ?_) (fun c30 => ?_)
      · replace h := of_t c30 h
        refine u_iconst (pc := 39) hC ic_0 dX11_explained_39 ?_
        refine u_istore_n (pc := 40) hC dX11_explained_40 rfl [(3, .int (0 : Int32)), (0, .ref (gad (cG C) k0)), (1, .int a1), (2, .int a2)] (by decide) rfl ?_
        obtain ⟨e41, l41, h⟩ := of_bd h
        refine u_sub [1, 2, 3, 0] rfl ?_
        refine lw41  e41 ((0 : Int32), μ) l41 ?_
        rcases e41 with e41 | e41
        · replace h := of_el h
          show UW C 4 e41.2 62 [(3, .int e41.1)] []
          refine u_iload_n (pc := 62) hC dX11_explained_62 rfl 0 rfl ?_
          obtain rfl := Option.some.inj h
          exact u_iret (pc := 63) hC hQ hr ⟨rfl, rfl⟩ dX11_explained_63
        · replace h := of_er h
          show UW C 4 e41 70 [(0, .ref (gad (cG C) k0))] []
          refine u_aload_n (pc := 70) hC dX11_explained_70 rfl 0 rfl ?_
          refine u_iconst (pc := 71) hC ic_2 dX11_explained_71 ?_
          obtain ⟨p72, q72, h⟩ := of_bd h
          refine k_RX11_83 (pc := 72) hC (av := [.int (2 : Int32)]) (rest := []) (c_X11_refuse (d := d - 1) (by omega) hk0 q72) (by omega) (Nat.le_of_ble_eq_true rfl) hk0 rfl rfl dX11_explained_72 ?_
          obtain rfl := Option.some.inj h
          exact u_iret (pc := 75) hC hQ hr ⟨rfl, rfl⟩ dX11_explained_75
      · replace h := of_f c30 h
        refine u_aload_n (pc := 33) hC dX11_explained_33 rfl 0 rfl ?_
        refine u_iconst (pc := 34) hC ic_2 dX11_explained_34 ?_
        obtain ⟨p35, q35, h⟩ := of_bd h
        refine k_RX11_83 (pc := 35) hC (av := [.int (2 : Int32)]) (rest := []) (c_X11_refuse (d := d - 1) (by omega) hk0 q35) (by omega) (Nat.le_of_ble_eq_true rfl) hk0 rfl rfl dX11_explained_35 ?_
        obtain rfl := Option.some.inj h
        exact u_iret (pc := 38) hC hQ hr ⟨rfl, rfl⟩ dX11_explained_38
    · replace h := of_f (fun q => q c12) h
      refine u_sub [0] rfl ?_
      exact jb15 μ h
set_option maxHeartbeats 4000000 in
set_option maxRecDepth 100000 in
theorem c_X11_isFigure {l : Launch} {G : GG} {d : Nat} (hd : 1 ≤ d) {μ : Mem} {a0 : Int32} {r : Int32} (h : f_X11_isFigure a0 = some r) : CT l yX11_isFigure cX11_isFigure 1 (some .boolean) d G [.int a0] μ (RK (some (.int r)) μ) := by
  refine ct_start (by decide) (Nat.le_of_ble_eq_true rfl) (fun C hl1 hG1 hC hQ hr => ?_)
  subst hl1; subst hG1
  have hC : CxOK C cX11_isFigure 1 RX11 d := hC
  show UW C 1 μ 0 [(0, .int a0)] []
  unfold f_X11_isFigure at h
  refine u_iload_n (pc := 0) hC dX11_isFigure_0 rfl 0 rfl ?_
  refine u_iconst (pc := 1) hC ic_0 dX11_isFigure_1 ?_
  refine u_iconst (pc := 2) hC ic_4 dX11_isFigure_2 ?_
  obtain ⟨r3, q3, h⟩ := of_bd h
  refine k_RX11_79 (pc := 3) hC (av := [.int a0, .int (0 : Int32), .int (4 : Int32)]) (rest := []) (c_X11_among (d := d - 1) (by omega)  q3) (by omega) (Nat.le_of_ble_eq_true rfl) rfl rfl dX11_isFigure_3 ?_
  obtain ⟨b6, h⟩ := of_gd h
  obtain rfl := Option.some.inj h
  exact u_zret (pc := 6) hC hQ hr b6 ⟨rfl, rfl⟩ dX11_isFigure_6
set_option maxHeartbeats 4000000 in
set_option maxRecDepth 100000 in
theorem c_X11_meeting {l : Launch} {G : GG} {d : Nat} (hd : 2 ≤ d) {μ : Mem} {k0 : Nat} (hk0 : isC 11 k0) {a1 : Int32} {a2 : Int32} {a3 : Int32} {r : Int32 × Mem} (h : f_X11_meeting μ k0 a1 a2 a3 = some r) : CT l yX11_meeting cX11_meeting 4 (some .int) d G [.ref (gad G k0), .int a1, .int a2, .int a3] μ (RK (some (.int r.1)) r.2) := by
  refine ct_start (by decide) (Nat.le_of_ble_eq_true rfl) (fun C hl1 hG1 hC hQ hr => ?_)
  subst hl1; subst hG1
  have hC : CxOK C cX11_meeting 4 RX11 d := hC
  show UW C 4 μ 0 [(0, .ref (gad (cG C) k0)), (1, .int a1), (2, .int a2), (3, .int a3)] []
  have jb30 : ∀ (μ_30 : Mem), f_X11_meeting_j30 μ_30 k0 a1 a2 a3 = some r → UW C 4 μ_30 30 [(0, .ref (gad (cG C) k0))] [] := by
    intro μ_30 h
    unfold f_X11_meeting_j30 at h
    refine u_aload_n (pc := 30) hC dX11_meeting_30 rfl 0 rfl ?_
    refine u_iconst (pc := 31) hC ic_1 dX11_meeting_31 ?_
    obtain ⟨p32, q32, h⟩ := of_bd h
    refine k_RX11_83 (pc := 32) hC (av := [.int (1 : Int32)]) (rest := []) (c_X11_refuse (d := d - 1) (by omega) hk0 q32) (by omega) (Nat.le_of_ble_eq_true rfl) hk0 rfl rfl dX11_meeting_32 ?_
    obtain rfl := Option.some.inj h
    exact u_iret (pc := 35) hC hQ hr ⟨rfl, rfl⟩ dX11_meeting_35
  unfold f_X11_meeting at h
  refine u_iload_n (pc := 0) hC dX11_meeting_0 rfl 1 rfl ?_
  refine u_iconst (pc := 1) hC ic_0 dX11_meeting_1 ?_
  refine u_sipush (pc := 2) hC sc_999 dX11_meeting_2 ?_
  obtain ⟨r5, q5, h⟩ := of_bd h
  refine k_RX11_79 (pc := 5) hC (av := [.int a1, .int (0 : Int32), .int (999 : Int32)]) (rest := []) (c_X11_among (d := d - 1) (by omega)  q5) (by omega) (Nat.le_of_ble_eq_true rfl) rfl rfl dX11_meeting_5 ?_
  refine u_if_eq (pc := 8) hC (tgt := 30) dX11_meeting_8 (by decide) (fun c8 => ?_) (fun c8 => ?_)
  · replace h := of_t c8 h
    refine u_sub [0] rfl ?_
    exact jb30 μ h
  · replace h := of_f c8 h
    refine u_iload_n (pc := 11) hC dX11_meeting_11 rfl 2 rfl ?_
    obtain ⟨r12, q12, h⟩ := of_bd h
    refine k_RX11_268 (pc := 12) hC (av := [.int a2]) (rest := []) (c_X11_isFigure (d := d - 1) (by omega)  q12) (by omega) (Nat.le_of_ble_eq_true rfl) rfl rfl dX11_meeting_12 ?_
    refine u_if_eq (pc := 15) hC (tgt := 30) dX11_meeting_15 (by decide) (fun c15 => ?_) (fun c15 => ?_)
    · replace h := of_t c15 h
      refine u_sub [0] rfl ?_
      exact jb30 μ h
    · replace h := of_f c15 h
      refine u_iload_n (pc := 18) hC dX11_meeting_18 rfl 3 rfl ?_
      obtain ⟨r19, q19, h⟩ := of_bd h
      refine k_RX11_268 (pc := 19) hC (av := [.int a3]) (rest := []) (c_X11_isFigure (d := d - 1) (by omega)  q19) (by omega) (Nat.le_of_ble_eq_true rfl) rfl rfl dX11_meeting_19 ?_
      refine u_if_eq (pc := 22) hC (tgt := 30) dX11_meeting_22 (by decide) (fun c22 => ?_) (fun c22 => ?_)
      · replace h := of_t c22 h
        refine u_sub [0] rfl ?_
        exact jb30 μ h
      · replace h := of_f c22 h
        refine u_iload_n (pc := 25) hC dX11_meeting_25 rfl 2 rfl ?_
        refine u_iload_n (pc := 26) hC dX11_meeting_26 rfl 3 rfl ?_
        refine u_icmp_ne (pc := 27) hC (tgt := 36) dX11_meeting_27 (by decide) (fun c27 => ?_) (fun c27 => ?_)
        · replace h := of_t c27 h
          refine u_aload_n (pc := 36) hC dX11_meeting_36 rfl 0 rfl ?_
          refine g_RX11_10 (pc := 37) hC hk0 dX11_meeting_37 ?_
          refine g_RX11_271 (pc := 40) hC (rs_11_0 hk0) dX11_meeting_40 ?_
          refine g_RX11_275 (pc := 43) hC (rs_10_4 (rs_11_0 hk0)) dX11_meeting_43 ?_
          refine u_bipush (pc := 46) hC bc_12 dX11_meeting_46 ?_
          refine u_icmp_lt (pc := 48) hC (tgt := 57) dX11_meeting_48 (by decide) (fun c48 => ?_) (fun c48 => ?_)
          · replace h := of_t c48 h
            refine u_aload_n (pc := 57) hC dX11_meeting_57 rfl 0 rfl ?_
            refine g_RX11_10 (pc := 58) hC hk0 dX11_meeting_58 ?_
            refine g_RX11_271 (pc := 61) hC (rs_11_0 hk0) dX11_meeting_61 ?_
            refine u_iload_n (pc := 64) hC dX11_meeting_64 rfl 1 rfl ?_
            refine u_iload_n (pc := 65) hC dX11_meeting_65 rfl 2 rfl ?_
            refine u_iload_n (pc := 66) hC dX11_meeting_66 rfl 3 rfl ?_
            obtain ⟨p67, q67, h⟩ := of_bd h
            refine k_RX11_278 (pc := 67) hC (av := [.int a1, .int a2, .int a3]) (rest := []) (c_X3_add (d := d - 1) (by omega) (rs_10_4 (rs_11_0 hk0)) q67) (by omega) (Nat.le_of_ble_eq_true rfl) (rs_10_4 (rs_11_0 hk0)) rfl rfl dX11_meeting_67 ?_
            obtain rfl := Option.some.inj h
            exact u_iret (pc := 70) hC hQ hr ⟨rfl, rfl⟩ dX11_meeting_70
          · replace h := of_f c48 h
            refine u_aload_n (pc := 51) hC dX11_meeting_51 rfl 0 rfl ?_
            refine u_iconst (pc := 52) hC ic_4 dX11_meeting_52 ?_
            obtain ⟨p53, q53, h⟩ := of_bd h
            refine k_RX11_83 (pc := 53) hC (av := [.int (4 : Int32)]) (rest := []) (c_X11_refuse (d := d - 1) (by omega) hk0 q53) (by omega) (Nat.le_of_ble_eq_true rfl) hk0 rfl rfl dX11_meeting_53 ?_
            obtain rfl := Option.some.inj h
            exact u_iret (pc := 56) hC hQ hr ⟨rfl, rfl⟩ dX11_meeting_56
        · replace h := of_f (fun q => q c27) h
          refine u_sub [0] rfl ?_
          exact jb30 μ h
set_option maxHeartbeats 4000000 in
set_option maxRecDepth 100000 in
theorem c_X11_knows {l : Launch} {G : GG} {d : Nat} (hd : 3 ≤ d) {μ : Mem} {k0 : Nat} (hk0 : isC 11 k0) {a1 : Int32} {a2 : Int32} {r : Int32 × Mem} (h : f_X11_knows μ k0 a1 a2 = some r) : CT l yX11_knows cX11_knows 3 (some .int) d G [.ref (gad G k0), .int a1, .int a2] μ (RK (some (.int r.1)) r.2) := by
  refine ct_start (by decide) (Nat.le_of_ble_eq_true rfl) (fun C hl1 hG1 hC hQ hr => ?_)
  subst hl1; subst hG1
  have hC : CxOK C cX11_knows 3 RX11 d := hC
  show UW C 3 μ 0 [(0, .ref (gad (cG C) k0)), (1, .int a1), (2, .int a2)] []
  have jb18 : ∀ (μ_18 : Mem), f_X11_knows_j18 μ_18 k0 a1 a2 = some r → UW C 3 μ_18 18 [(0, .ref (gad (cG C) k0))] [] := by
    intro μ_18 h
    unfold f_X11_knows_j18 at h
    refine u_aload_n (pc := 18) hC dX11_knows_18 rfl 0 rfl ?_
    refine u_iconst (pc := 19) hC ic_1 dX11_knows_19 ?_
    obtain ⟨p20, q20, h⟩ := of_bd h
    refine k_RX11_83 (pc := 20) hC (av := [.int (1 : Int32)]) (rest := []) (c_X11_refuse (d := d - 1) (by omega) hk0 q20) (by omega) (Nat.le_of_ble_eq_true rfl) hk0 rfl rfl dX11_knows_20 ?_
    obtain rfl := Option.some.inj h
    exact u_iret (pc := 23) hC hQ hr ⟨rfl, rfl⟩ dX11_knows_23
  unfold f_X11_knows at h
  refine u_iload_n (pc := 0) hC dX11_knows_0 rfl 1 rfl ?_
  obtain ⟨r1, q1, h⟩ := of_bd h
  refine k_RX11_268 (pc := 1) hC (av := [.int a1]) (rest := []) (c_X11_isFigure (d := d - 1) (by omega)  q1) (by omega) (Nat.le_of_ble_eq_true rfl) rfl rfl dX11_knows_1 ?_
  refine u_if_eq (pc := 4) hC (tgt := 18) dX11_knows_4 (by decide) (fun c4 => ?_) (fun c4 => ?_)
  · replace h := of_t c4 h
    refine u_sub [0] rfl ?_
    exact jb18 μ h
  · replace h := of_f c4 h
    refine u_iload_n (pc := 7) hC dX11_knows_7 rfl 2 rfl ?_
    refine u_iconst (pc := 8) hC ic_0 dX11_knows_8 ?_
    refine u_sipush (pc := 9) hC sc_999 dX11_knows_9 ?_
    obtain ⟨r12, q12, h⟩ := of_bd h
    refine k_RX11_79 (pc := 12) hC (av := [.int a2, .int (0 : Int32), .int (999 : Int32)]) (rest := []) (c_X11_among (d := d - 1) (by omega)  q12) (by omega) (Nat.le_of_ble_eq_true rfl) rfl rfl dX11_knows_12 ?_
    refine u_if_ne (pc := 15) hC (tgt := 24) dX11_knows_15 (by decide) (fun c15 => ?_) (fun c15 => ?_)
    · replace h := of_t c15 h
      refine u_aload_n (pc := 24) hC dX11_knows_24 rfl 0 rfl ?_
      refine g_RX11_10 (pc := 25) hC hk0 dX11_knows_25 ?_
      refine u_iload_n (pc := 28) hC dX11_knows_28 rfl 2 rfl ?_
      refine u_aload_n (pc := 29) hC dX11_knows_29 rfl 0 rfl ?_
      refine g_RX11_65 (pc := 30) hC hk0 dX11_knows_30 ?_
      obtain ⟨μ33, q33, h⟩ := of_bd h
      refine k_RX11_280 (pc := 33) hC (av := [.int a2, .ref (gad (cG C) (rf k0 7))]) (rest := []) (c_X10_gatherKnown (d := d - 1) (by omega) (rs_11_0 hk0) (rs_11_7 hk0) q33) (by omega) (Nat.le_of_ble_eq_true rfl) (rs_11_0 hk0) rfl rfl dX11_knows_33 ?_
      refine u_aload_n (pc := 36) hC dX11_knows_36 rfl 0 rfl ?_
      refine g_RX11_65 (pc := 37) hC hk0 dX11_knows_37 ?_
      refine u_iload_n (pc := 40) hC dX11_knows_40 rfl 1 rfl ?_
      obtain ⟨b41, h⟩ := of_gd h
      refine u_iald (pc := 41) hC (rs_11_7 hk0) 5 (rn_11_7 hk0) b41 dX11_knows_41 ?_
      obtain rfl := Option.some.inj h
      exact u_iret (pc := 42) hC hQ hr ⟨rfl, rfl⟩ dX11_knows_42
    · replace h := of_f (fun q => q c15) h
      refine u_sub [0] rfl ?_
      exact jb18 μ h
set_option maxHeartbeats 4000000 in
set_option maxRecDepth 100000 in
theorem c_X11_common {l : Launch} {G : GG} {d : Nat} (hd : 3 ≤ d) {μ : Mem} {k0 : Nat} (hk0 : isC 11 k0) {a1 : Int32} {a2 : Int32} {r : Int32 × Mem} (h : f_X11_common μ k0 a1 a2 = some r) : CT l yX11_common cX11_common 5 (some .int) d G [.ref (gad G k0), .int a1, .int a2] μ (RK (some (.int r.1)) r.2) := by
  refine ct_start (by decide) (Nat.le_of_ble_eq_true rfl) (fun C hl1 hG1 hC hQ hr => ?_)
  subst hl1; subst hG1
  have hC : CxOK C cX11_common 5 RX11 d := hC
  show UW C 5 μ 0 [(0, .ref (gad (cG C) k0)), (1, .int a1), (2, .int a2)] []
  have lw46 : ∀ (μ_46 : Mem) (e : (Int32)) (s : Int32 × Int32), lp (fun s => f_X11_common_l46 μ_46 k0 a1 a2 s.1 s.2) FU s = some e → (fun (e : (Int32)) => UW C 5 μ_46 78 [(3, .int e)] []) e → UW C 5 μ_46 46 [(0, .ref (gad (cG C) k0)), (1, .int a1), (3, .int s.1), (4, .int s.2)] [] := by
    intro μ_46 e s hl hE0
    refine @lp_walk (Int32 × Int32) (Int32) (fun s => f_X11_common_l46 μ_46 k0 a1 a2 s.1 s.2) (fun s => UW C 5 μ_46 46 [(0, .ref (gad (cG C) k0)), (1, .int a1), (3, .int s.1), (4, .int s.2)] []) (fun (e : (Int32)) => UW C 5 μ_46 78 [(3, .int e)] []) (fun s y46 h hP46 hE46 => ?_) FU s e hl hE0
    obtain ⟨v3_46, v4_46⟩ := s
    replace h : f_X11_common_l46 μ_46 k0 a1 a2 v3_46 v4_46 = some y46 := h
    show UW C 5 μ_46 46 [(0, .ref (gad (cG C) k0)), (1, .int a1), (3, .int v3_46), (4, .int v4_46)] []
    unfold f_X11_common_l46 at h
    refine u_iload (pc := 46) hC dX11_common_46 3 rfl ?_
    refine u_iconst (pc := 48) hC ic_5 dX11_common_48 ?_
    refine u_icmp_ge (pc := 49) hC (tgt := 78) dX11_common_49 (by decide) (fun c49 => ?_) (fun c49 => ?_)
    · replace h := of_t c49 h
      obtain rfl := Option.some.inj h
      refine u_sub [2] rfl ?_
      exact hE46 v3_46 rfl
    · replace h := of_f c49 h
      refine u_iload_n (pc := 52) hC dX11_common_52 rfl 1 rfl ?_
      refine u_iload (pc := 53) hC dX11_common_53 3 rfl ?_
      refine u_ishr (pc := 55) hC dX11_common_55 ?_
      refine u_iconst (pc := 56) hC ic_1 dX11_common_56 ?_
      refine u_iand (pc := 57) hC dX11_common_57 ?_
      refine u_iconst (pc := 58) hC ic_1 dX11_common_58 ?_
      refine u_icmp_ne (pc := 59) hC (tgt := 72) dX11_common_59 (by decide) (fun c59 => ?_) (fun c59 => ?_)
      · replace h := of_t c59 h
        refine u_iinc (pc := 72) hC dX11_common_72 3 rfl (v4_46 + 1) rfl [(4, .int (v4_46 + 1)), (0, .ref (gad (cG C) k0)), (1, .int a1), (3, .int v3_46)] (by decide) rfl ?_
        refine u_goto (pc := 75) hC 46 dX11_common_75 (by decide) ?_
        obtain rfl := Option.some.inj h
        refine u_sub [1, 2, 3, 0] rfl ?_
        exact hP46 (v3_46, v4_46 + 1) rfl
      · replace h := of_f (fun q => q c59) h
        refine u_iload_n (pc := 62) hC dX11_common_62 rfl 2 rfl ?_
        refine u_aload_n (pc := 63) hC dX11_common_63 rfl 0 rfl ?_
        refine g_RX11_65 (pc := 64) hC hk0 dX11_common_64 ?_
        refine u_iload (pc := 67) hC dX11_common_67 3 rfl ?_
        obtain ⟨b69, h⟩ := of_gd h
        refine u_iald (pc := 69) hC (rs_11_7 hk0) 5 (rn_11_7 hk0) b69 dX11_common_69 ?_
        refine u_iand (pc := 70) hC dX11_common_70 ?_
        refine u_istore_n (pc := 71) hC dX11_common_71 rfl [(3, .int (v3_46 &&& (rd μ_46 (rf k0 7) v4_46.toNatClampNeg))), (0, .ref (gad (cG C) k0)), (1, .int a1), (4, .int v4_46)] (by decide) rfl ?_
        refine u_iinc (pc := 72) hC dX11_common_72 3 rfl (v4_46 + 1) rfl [(4, .int (v4_46 + 1)), (3, .int (v3_46 &&& (rd μ_46 (rf k0 7) v4_46.toNatClampNeg))), (0, .ref (gad (cG C) k0)), (1, .int a1)] (by decide) rfl ?_
        refine u_goto (pc := 75) hC 46 dX11_common_75 (by decide) ?_
        obtain rfl := Option.some.inj h
        refine u_sub [2, 3, 1, 0] rfl ?_
        exact hP46 (v3_46 &&& (rd μ_46 (rf k0 7) v4_46.toNatClampNeg), v4_46 + 1) rfl
  have jb21 : ∀ (μ_21 : Mem), f_X11_common_j21 μ_21 k0 a1 a2 = some r → UW C 5 μ_21 21 [(0, .ref (gad (cG C) k0))] [] := by
    intro μ_21 h
    unfold f_X11_common_j21 at h
    refine u_aload_n (pc := 21) hC dX11_common_21 rfl 0 rfl ?_
    refine u_iconst (pc := 22) hC ic_1 dX11_common_22 ?_
    obtain ⟨p23, q23, h⟩ := of_bd h
    refine k_RX11_83 (pc := 23) hC (av := [.int (1 : Int32)]) (rest := []) (c_X11_refuse (d := d - 1) (by omega) hk0 q23) (by omega) (Nat.le_of_ble_eq_true rfl) hk0 rfl rfl dX11_common_23 ?_
    obtain rfl := Option.some.inj h
    exact u_iret (pc := 26) hC hQ hr ⟨rfl, rfl⟩ dX11_common_26
  unfold f_X11_common at h
  refine u_iload_n (pc := 0) hC dX11_common_0 rfl 1 rfl ?_
  refine u_iconst (pc := 1) hC ic_1 dX11_common_1 ?_
  refine u_bipush (pc := 2) hC bc_31 dX11_common_2 ?_
  obtain ⟨r4, q4, h⟩ := of_bd h
  refine k_RX11_79 (pc := 4) hC (av := [.int a1, .int (1 : Int32), .int (31 : Int32)]) (rest := []) (c_X11_among (d := d - 1) (by omega)  q4) (by omega) (Nat.le_of_ble_eq_true rfl) rfl rfl dX11_common_4 ?_
  refine u_if_eq (pc := 7) hC (tgt := 21) dX11_common_7 (by decide) (fun c7 => ?_) (fun c7 => ?_)
  · replace h := of_t c7 h
    refine u_sub [0] rfl ?_
    exact jb21 μ h
  · replace h := of_f c7 h
    refine u_iload_n (pc := 10) hC dX11_common_10 rfl 2 rfl ?_
    refine u_iconst (pc := 11) hC ic_0 dX11_common_11 ?_
    refine u_sipush (pc := 12) hC sc_999 dX11_common_12 ?_
    obtain ⟨r15, q15, h⟩ := of_bd h
    refine k_RX11_79 (pc := 15) hC (av := [.int a2, .int (0 : Int32), .int (999 : Int32)]) (rest := []) (c_X11_among (d := d - 1) (by omega)  q15) (by omega) (Nat.le_of_ble_eq_true rfl) rfl rfl dX11_common_15 ?_
    refine u_if_ne (pc := 18) hC (tgt := 27) dX11_common_18 (by decide) (fun c18 => ?_) (fun c18 => ?_)
    · replace h := of_t c18 h
      refine u_aload_n (pc := 27) hC dX11_common_27 rfl 0 rfl ?_
      refine g_RX11_10 (pc := 28) hC hk0 dX11_common_28 ?_
      refine u_iload_n (pc := 31) hC dX11_common_31 rfl 2 rfl ?_
      refine u_aload_n (pc := 32) hC dX11_common_32 rfl 0 rfl ?_
      refine g_RX11_65 (pc := 33) hC hk0 dX11_common_33 ?_
      obtain ⟨μ36, q36, h⟩ := of_bd h
      refine k_RX11_280 (pc := 36) hC (av := [.int a2, .ref (gad (cG C) (rf k0 7))]) (rest := []) (c_X10_gatherKnown (d := d - 1) (by omega) (rs_11_0 hk0) (rs_11_7 hk0) q36) (by omega) (Nat.le_of_ble_eq_true rfl) (rs_11_0 hk0) rfl rfl dX11_common_36 ?_
      refine u_sipush (pc := 39) hC sc_255 dX11_common_39 ?_
      refine u_istore_n (pc := 42) hC dX11_common_42 rfl [(3, .int (255 : Int32)), (0, .ref (gad (cG C) k0)), (1, .int a1), (2, .int a2)] (by decide) rfl ?_
      refine u_iconst (pc := 43) hC ic_0 dX11_common_43 ?_
      refine u_istore (pc := 44) hC dX11_common_44 [(4, .int (0 : Int32)), (3, .int (255 : Int32)), (0, .ref (gad (cG C) k0)), (1, .int a1), (2, .int a2)] (by decide) rfl ?_
      obtain ⟨e46, l46, h⟩ := of_bd h
      refine u_sub [2, 3, 1, 0] rfl ?_
      refine lw46 μ36 e46 ((255 : Int32), (0 : Int32)) l46 ?_
      show UW C 5 μ36 78 [(3, .int e46)] []
      refine u_iload_n (pc := 78) hC dX11_common_78 rfl 0 rfl ?_
      obtain rfl := Option.some.inj h
      exact u_iret (pc := 79) hC hQ hr ⟨rfl, rfl⟩ dX11_common_79
    · replace h := of_f (fun q => q c18) h
      refine u_sub [0] rfl ?_
      exact jb21 μ h
set_option maxHeartbeats 4000000 in
set_option maxRecDepth 100000 in
theorem c_X11_since {l : Launch} {G : GG} {d : Nat} (hd : 2 ≤ d) {μ : Mem} {k0 : Nat} (hk0 : isC 11 k0) {a1 : Int32} {a2 : Int32} {r : Int32 × Mem} (h : f_X11_since μ k0 a1 a2 = some r) : CT l yX11_since cX11_since 3 (some .int) d G [.ref (gad G k0), .int a1, .int a2] μ (RK (some (.int r.1)) r.2) := by
  refine ct_start (by decide) (Nat.le_of_ble_eq_true rfl) (fun C hl1 hG1 hC hQ hr => ?_)
  subst hl1; subst hG1
  have hC : CxOK C cX11_since 3 RX11 d := hC
  show UW C 3 μ 0 [(0, .ref (gad (cG C) k0)), (1, .int a1), (2, .int a2)] []
  have jb15 : ∀ (μ_15 : Mem), f_X11_since_j15 μ_15 k0 a1 a2 = some r → UW C 3 μ_15 15 [(0, .ref (gad (cG C) k0))] [] := by
    intro μ_15 h
    unfold f_X11_since_j15 at h
    refine u_aload_n (pc := 15) hC dX11_since_15 rfl 0 rfl ?_
    refine u_iconst (pc := 16) hC ic_1 dX11_since_16 ?_
    obtain ⟨p17, q17, h⟩ := of_bd h
    refine k_RX11_83 (pc := 17) hC (av := [.int (1 : Int32)]) (rest := []) (c_X11_refuse (d := d - 1) (by omega) hk0 q17) (by omega) (Nat.le_of_ble_eq_true rfl) hk0 rfl rfl dX11_since_17 ?_
    obtain rfl := Option.some.inj h
    exact u_iret (pc := 20) hC hQ hr ⟨rfl, rfl⟩ dX11_since_20
  unfold f_X11_since at h
  refine u_iload_n (pc := 0) hC dX11_since_0 rfl 1 rfl ?_
  obtain ⟨r1, q1, h⟩ := of_bd h
  refine k_RX11_268 (pc := 1) hC (av := [.int a1]) (rest := []) (c_X11_isFigure (d := d - 1) (by omega)  q1) (by omega) (Nat.le_of_ble_eq_true rfl) rfl rfl dX11_since_1 ?_
  refine u_if_eq (pc := 4) hC (tgt := 15) dX11_since_4 (by decide) (fun c4 => ?_) (fun c4 => ?_)
  · replace h := of_t c4 h
    refine u_sub [0] rfl ?_
    exact jb15 μ h
  · replace h := of_f c4 h
    refine u_aload_n (pc := 7) hC dX11_since_7 rfl 0 rfl ?_
    refine u_iload_n (pc := 8) hC dX11_since_8 rfl 2 rfl ?_
    obtain ⟨r9, q9, h⟩ := of_bd h
    refine k_RX11_91 (pc := 9) hC (av := [.int a2]) (rest := []) (c_X11_isFact (d := d - 1) (by omega) hk0 q9) (by omega) (Nat.le_of_ble_eq_true rfl) hk0 rfl rfl dX11_since_9 ?_
    refine u_if_ne (pc := 12) hC (tgt := 21) dX11_since_12 (by decide) (fun c12 => ?_) (fun c12 => ?_)
    · replace h := of_t c12 h
      refine u_aload_n (pc := 21) hC dX11_since_21 rfl 0 rfl ?_
      refine g_RX11_10 (pc := 22) hC hk0 dX11_since_22 ?_
      refine u_iload_n (pc := 25) hC dX11_since_25 rfl 2 rfl ?_
      refine u_aload_n (pc := 26) hC dX11_since_26 rfl 0 rfl ?_
      refine g_RX11_65 (pc := 27) hC hk0 dX11_since_27 ?_
      obtain ⟨μ30, q30, h⟩ := of_bd h
      refine k_RX11_284 (pc := 30) hC (av := [.int a2, .ref (gad (cG C) (rf k0 7))]) (rest := []) (c_X10_gatherFirstWeeks (d := d - 1) (by omega) (rs_11_0 hk0) (rs_11_7 hk0) q30) (by omega) (Nat.le_of_ble_eq_true rfl) (rs_11_0 hk0) rfl rfl dX11_since_30 ?_
      refine u_aload_n (pc := 33) hC dX11_since_33 rfl 0 rfl ?_
      refine g_RX11_65 (pc := 34) hC hk0 dX11_since_34 ?_
      refine u_iload_n (pc := 37) hC dX11_since_37 rfl 1 rfl ?_
      obtain ⟨b38, h⟩ := of_gd h
      refine u_iald (pc := 38) hC (rs_11_7 hk0) 5 (rn_11_7 hk0) b38 dX11_since_38 ?_
      refine u_sipush (pc := 39) hC sc_999 dX11_since_39 ?_
      refine u_icmp_le (pc := 42) hC (tgt := 53) dX11_since_42 (by decide) (fun c42 => ?_) (fun c42 => ?_)
      · replace h := of_t c42 h
        refine u_aload_n (pc := 53) hC dX11_since_53 rfl 0 rfl ?_
        refine g_RX11_65 (pc := 54) hC hk0 dX11_since_54 ?_
        refine u_iload_n (pc := 57) hC dX11_since_57 rfl 1 rfl ?_
        obtain ⟨b58, h⟩ := of_gd h
        refine u_iald (pc := 58) hC (rs_11_7 hk0) 5 (rn_11_7 hk0) b58 dX11_since_58 ?_
        obtain rfl := Option.some.inj h
        exact u_iret (pc := 59) hC hQ hr ⟨rfl, rfl⟩ dX11_since_59
      · replace h := of_f c42 h
        refine u_aload_n (pc := 45) hC dX11_since_45 rfl 0 rfl ?_
        refine u_iconst (pc := 46) hC ic_2 dX11_since_46 ?_
        obtain ⟨p47, q47, h⟩ := of_bd h
        refine k_RX11_83 (pc := 47) hC (av := [.int (2 : Int32)]) (rest := []) (c_X11_refuse (d := d - 1) (by omega) hk0 q47) (by omega) (Nat.le_of_ble_eq_true rfl) hk0 rfl rfl dX11_since_47 ?_
        refine u_goto (pc := 50) hC 59 dX11_since_50 (by decide) ?_
        obtain rfl := Option.some.inj h
        exact u_iret (pc := 59) hC hQ hr ⟨rfl, rfl⟩ dX11_since_59
    · replace h := of_f (fun q => q c12) h
      refine u_sub [0] rfl ?_
      exact jb15 μ h
set_option maxHeartbeats 4000000 in
set_option maxRecDepth 100000 in
theorem c_X11_seed {l : Launch} {G : GG} {d : Nat} (hd : 0 ≤ d) {μ : Mem} {k0 : Nat} (hk0 : isC 11 k0) {a1 : Int32} {r : Int32 × Mem} (h : f_X11_seed μ k0 a1 = some r) : CT l yX11_seed cX11_seed 3 (some .int) d G [.ref (gad G k0), .int a1] μ (RK (some (.int r.1)) r.2) := by
  refine ct_start (by decide) (Nat.le_of_ble_eq_true rfl) (fun C hl1 hG1 hC hQ hr => ?_)
  subst hl1; subst hG1
  have hC : CxOK C cX11_seed 3 RX11 d := hC
  show UW C 3 μ 0 [(0, .ref (gad (cG C) k0)), (1, .int a1)] []
  unfold f_X11_seed at h
  refine u_aload_n (pc := 0) hC dX11_seed_0 rfl 0 rfl ?_
  refine g_RX11_10 (pc := 1) hC hk0 dX11_seed_1 ?_
  refine g_RX11_287 (pc := 4) hC (rs_11_0 hk0) dX11_seed_4 ?_
  refine u_istore_n (pc := 7) hC dX11_seed_7 rfl [(2, .int (rd μ (rf k0 0) 8)), (0, .ref (gad (cG C) k0)), (1, .int a1)] (by decide) rfl ?_
  refine u_aload_n (pc := 8) hC dX11_seed_8 rfl 1 rfl ?_
  refine g_RX11_10 (pc := 9) hC hk0 dX11_seed_9 ?_
  refine u_iload_n (pc := 12) hC dX11_seed_12 rfl 2 rfl ?_
  obtain ⟨m13, q13, h⟩ := of_bd h
  refine p_RX11_287 (pc := 13) hC (rs_11_0 hk0) dX11_seed_13 (Option.some.inj q13) ?_
  refine u_iload_n (pc := 16) hC dX11_seed_16 rfl 0 rfl ?_
  obtain rfl := Option.some.inj h
  exact u_iret (pc := 17) hC hQ hr ⟨rfl, rfl⟩ dX11_seed_17
set_option maxHeartbeats 4000000 in
set_option maxRecDepth 100000 in
theorem c_X11_voice {l : Launch} {G : GG} {d : Nat} (hd : 103 ≤ d) {μ : Mem} {k0 : Nat} (hk0 : isC 11 k0) {a1 : Int32} {a2 : Int32} {a3 : Int32} {r : Int32 × Mem} (h : f_X11_voice μ k0 a1 a2 a3 = some r) : CT l yX11_voice cX11_voice 5 (some .int) d G [.ref (gad G k0), .int a1, .int a2, .int a3] μ (RK (some (.int r.1)) r.2) := by
  refine ct_start (by decide) (Nat.le_of_ble_eq_true rfl) (fun C hl1 hG1 hC hQ hr => ?_)
  subst hl1; subst hG1
  have hC : CxOK C cX11_voice 5 RX11 d := hC
  show UW C 5 μ 0 [(0, .ref (gad (cG C) k0)), (1, .int a1), (2, .int a2), (3, .int a3)] []
  have jb17 : ∀ (μ_17 : Mem), f_X11_voice_j17 μ_17 k0 a1 a2 a3 = some r → UW C 5 μ_17 17 [(0, .ref (gad (cG C) k0))] [] := by
    intro μ_17 h
    unfold f_X11_voice_j17 at h
    refine u_aload_n (pc := 17) hC dX11_voice_17 rfl 0 rfl ?_
    refine u_iconst (pc := 18) hC ic_1 dX11_voice_18 ?_
    obtain ⟨p19, q19, h⟩ := of_bd h
    refine k_RX11_83 (pc := 19) hC (av := [.int (1 : Int32)]) (rest := []) (c_X11_refuse (d := d - 1) (by omega) hk0 q19) (by omega) (Nat.le_of_ble_eq_true rfl) hk0 rfl rfl dX11_voice_19 ?_
    obtain rfl := Option.some.inj h
    exact u_iret (pc := 22) hC hQ hr ⟨rfl, rfl⟩ dX11_voice_22
  unfold f_X11_voice at h
  refine u_aload_n (pc := 0) hC dX11_voice_0 rfl 0 rfl ?_
  refine u_iload_n (pc := 1) hC dX11_voice_1 rfl 1 rfl ?_
  obtain ⟨r2, q2, h⟩ := of_bd h
  refine k_RX11_122 (pc := 2) hC (av := [.int a1]) (rest := []) (c_X11_isDebtor (d := d - 1) (by omega) hk0 q2) (by omega) (Nat.le_of_ble_eq_true rfl) hk0 rfl rfl dX11_voice_2 ?_
  refine u_if_eq (pc := 5) hC (tgt := 17) dX11_voice_5 (by decide) (fun c5 => ?_) (fun c5 => ?_)
  · replace h := of_t c5 h
    refine u_sub [0] rfl ?_
    exact jb17 μ h
  · replace h := of_f c5 h
    refine u_iload_n (pc := 8) hC dX11_voice_8 rfl 2 rfl ?_
    refine u_iconst (pc := 9) hC ic_0 dX11_voice_9 ?_
    refine u_iconst (pc := 10) hC ic_3 dX11_voice_10 ?_
    obtain ⟨r11, q11, h⟩ := of_bd h
    refine k_RX11_79 (pc := 11) hC (av := [.int a2, .int (0 : Int32), .int (3 : Int32)]) (rest := []) (c_X11_among (d := d - 1) (by omega)  q11) (by omega) (Nat.le_of_ble_eq_true rfl) rfl rfl dX11_voice_11 ?_
    refine u_if_ne (pc := 14) hC (tgt := 23) dX11_voice_14 (by decide) (fun c14 => ?_) (fun c14 => ?_)
    · replace h := of_t c14 h
      refine u_aload_n (pc := 23) hC dX11_voice_23 rfl 0 rfl ?_
      refine g_RX11_10 (pc := 24) hC hk0 dX11_voice_24 ?_
      refine g_RX11_114 (pc := 27) hC (rs_11_0 hk0) dX11_voice_27 ?_
      refine g_RX11_125 (pc := 30) hC (rs_10_3 (rs_11_0 hk0)) dX11_voice_30 ?_
      refine u_iload_n (pc := 33) hC dX11_voice_33 rfl 1 rfl ?_
      obtain ⟨b34, h⟩ := of_gd h
      refine u_aaldD (pc := 34) hC (rs_8_0 (rs_10_3 (rs_11_0 hk0))) b34 (rn_8_0 (rs_10_3 (rs_11_0 hk0))) dX11_voice_34 ?_
      refine u_astore (pc := 35) hC dX11_voice_35 [(4, .ref (gad (cG C) (rf (rf (rf (rf k0 0) 3) 0) a1.toNatClampNeg))), (0, .ref (gad (cG C) k0)), (1, .int a1), (2, .int a2), (3, .int a3)] (by decide) rfl ?_
      refine u_aload_n (pc := 37) hC dX11_voice_37 rfl 1 rfl ?_
      refine g_RX11_55 (pc := 38) hC hk0 dX11_voice_38 ?_
      refine u_aload (pc := 41) hC dX11_voice_41 0 rfl ?_
      refine g_RX11_129 (pc := 43) hC (rs_15 (rs_8_0 (rs_10_3 (rs_11_0 hk0))) b34) dX11_voice_43 ?_
      refine u_iload_n (pc := 46) hC dX11_voice_46 rfl 2 rfl ?_
      refine u_aload (pc := 47) hC dX11_voice_47 0 rfl ?_
      refine g_RX11_134 (pc := 49) hC (rs_15 (rs_8_0 (rs_10_3 (rs_11_0 hk0))) b34) dX11_voice_49 ?_
      refine u_iload_n (pc := 52) hC dX11_voice_52 rfl 3 rfl ?_
      refine u_iload_n (pc := 53) hC dX11_voice_53 rfl 4 rfl ?_
      obtain ⟨p54, q54, h⟩ := of_bd h
      refine k_RX11_290 (pc := 54) hC (av := [.int (rd μ (rf (rf (rf (rf k0 0) 3) 0) a1.toNatClampNeg) 4), .int a1, .int (rd μ (rf (rf (rf (rf k0 0) 3) 0) a1.toNatClampNeg) 5), .int a2, .int a3]) (rest := []) (c_X9_begin (d := d - 1) (by omega) (rs_11_5 hk0) q54) (by omega) (Nat.le_of_ble_eq_true rfl) (rs_11_5 hk0) rfl rfl dX11_voice_54 ?_
      obtain rfl := Option.some.inj h
      exact u_iret (pc := 57) hC hQ hr ⟨rfl, rfl⟩ dX11_voice_57
    · replace h := of_f (fun q => q c14) h
      refine u_sub [0] rfl ?_
      exact jb17 μ h
set_option maxHeartbeats 4000000 in
set_option maxRecDepth 100000 in
theorem c_X11_trace {l : Launch} {G : GG} {d : Nat} (hd : 1 ≤ d) {μ : Mem} {k0 : Nat} (hk0 : isC 11 k0) {a1 : Int32} {r : Int32 × Mem} (h : f_X11_trace μ k0 a1 = some r) : CT l yX11_trace cX11_trace 2 (some .int) d G [.ref (gad G k0), .int a1] μ (RK (some (.int r.1)) r.2) := by
  refine ct_start (by decide) (Nat.le_of_ble_eq_true rfl) (fun C hl1 hG1 hC hQ hr => ?_)
  subst hl1; subst hG1
  have hC : CxOK C cX11_trace 2 RX11 d := hC
  show UW C 2 μ 0 [(0, .ref (gad (cG C) k0)), (1, .int a1)] []
  unfold f_X11_trace at h
  refine u_iload_n (pc := 0) hC dX11_trace_0 rfl 1 rfl ?_
  refine u_iconst (pc := 1) hC ic_0 dX11_trace_1 ?_
  refine u_aload_n (pc := 2) hC dX11_trace_2 rfl 0 rfl ?_
  refine g_RX11_55 (pc := 3) hC hk0 dX11_trace_3 ?_
  refine g_RX11_294 (pc := 6) hC (rs_11_5 hk0) dX11_trace_6 ?_
  refine u_iconst (pc := 9) hC ic_1 dX11_trace_9 ?_
  refine u_isub (pc := 10) hC dX11_trace_10 ?_
  obtain ⟨r11, q11, h⟩ := of_bd h
  refine k_RX11_79 (pc := 11) hC (av := [.int a1, .int (0 : Int32), .int ((rd μ (rf k0 5) 1) - (1 : Int32))]) (rest := []) (c_X11_among (d := d - 1) (by omega)  q11) (by omega) (Nat.le_of_ble_eq_true rfl) rfl rfl dX11_trace_11 ?_
  refine u_if_eq (pc := 14) hC (tgt := 29) dX11_trace_14 (by decide) (fun c14 => ?_) (fun c14 => ?_)
  · replace h := of_t c14 h
    refine u_aload_n (pc := 29) hC dX11_trace_29 rfl 0 rfl ?_
    refine u_iconst (pc := 30) hC ic_2 dX11_trace_30 ?_
    obtain ⟨p31, q31, h⟩ := of_bd h
    refine k_RX11_83 (pc := 31) hC (av := [.int (2 : Int32)]) (rest := []) (c_X11_refuse (d := d - 1) (by omega) hk0 q31) (by omega) (Nat.le_of_ble_eq_true rfl) hk0 rfl rfl dX11_trace_31 ?_
    obtain rfl := Option.some.inj h
    exact u_iret (pc := 34) hC hQ hr ⟨rfl, rfl⟩ dX11_trace_34
  · replace h := of_f c14 h
    refine u_aload_n (pc := 17) hC dX11_trace_17 rfl 0 rfl ?_
    refine g_RX11_55 (pc := 18) hC hk0 dX11_trace_18 ?_
    refine g_RX11_295 (pc := 21) hC (rs_11_5 hk0) dX11_trace_21 ?_
    refine u_iload_n (pc := 24) hC dX11_trace_24 rfl 1 rfl ?_
    obtain ⟨b25, h⟩ := of_gd h
    refine u_iald (pc := 25) hC (rs_9_0 (rs_11_5 hk0)) 40 (rn_9_0 (rs_11_5 hk0)) b25 dX11_trace_25 ?_
    refine u_goto (pc := 26) hC 34 dX11_trace_26 (by decide) ?_
    obtain rfl := Option.some.inj h
    exact u_iret (pc := 34) hC hQ hr ⟨rfl, rfl⟩ dX11_trace_34
set_option maxHeartbeats 4000000 in
set_option maxRecDepth 100000 in
theorem c_X11_sheet {l : Launch} {G : GG} {d : Nat} (hd : 2 ≤ d) {μ : Mem} {k0 : Nat} (hk0 : isC 11 k0) {a1 : Int32} {a2 : Int32} {a3 : Int32} {r : Int32 × Mem} (h : f_X11_sheet μ k0 a1 a2 a3 = some r) : CT l yX11_sheet cX11_sheet 4 (some .int) d G [.ref (gad G k0), .int a1, .int a2, .int a3] μ (RK (some (.int r.1)) r.2) := by
  refine ct_start (by decide) (Nat.le_of_ble_eq_true rfl) (fun C hl1 hG1 hC hQ hr => ?_)
  subst hl1; subst hG1
  have hC : CxOK C cX11_sheet 4 RX11 d := hC
  show UW C 4 μ 0 [(0, .ref (gad (cG C) k0)), (1, .int a1), (2, .int a2), (3, .int a3)] []
  have jb81 : ∀ (μ_81 : Mem) (kt0_81 : Nat) (hkt0_81 : isC 6 kt0_81) (vt1_81 : Int32) (vt2_81 : Int32), f_X11_sheet_j81 μ_81 k0 a1 a2 a3 kt0_81 vt1_81 vt2_81 = some r → UW C 4 μ_81 81 [] [.int vt2_81, .int vt1_81, .ref (gad (cG C) kt0_81)] := by
    intro μ_81 kt0_81 hkt0_81 vt1_81 vt2_81 h
    unfold f_X11_sheet_j81 at h
    obtain ⟨μ81, q81, h⟩ := of_bd h
    refine k_RX11_298 (pc := 81) hC (av := [.int vt1_81, .int vt2_81]) (rest := []) (c_X6_begin (d := d - 1) (by omega) hkt0_81 q81) (by omega) (Nat.le_of_ble_eq_true rfl) hkt0_81 rfl rfl dX11_sheet_81 ?_
    refine u_iconst (pc := 84) hC ic_1 dX11_sheet_84 ?_
    obtain rfl := Option.some.inj h
    exact u_iret (pc := 85) hC hQ hr ⟨rfl, rfl⟩ dX11_sheet_85
  have jb65 : ∀ (μ_65 : Mem), f_X11_sheet_j65 μ_65 k0 a1 a2 a3 = some r → UW C 4 μ_65 65 [(0, .ref (gad (cG C) k0)), (1, .int a1), (2, .int a2), (3, .int a3)] [] := by
    intro μ_65 h
    unfold f_X11_sheet_j65 at h
    refine u_aload_n (pc := 65) hC dX11_sheet_65 rfl 0 rfl ?_
    refine g_RX11_61 (pc := 66) hC hk0 dX11_sheet_66 ?_
    refine u_iload_n (pc := 69) hC dX11_sheet_69 rfl 1 rfl ?_
    obtain ⟨b70, h⟩ := of_gd h
    refine u_aaldS (pc := 70) hC (rs_11_6 hk0) b70 (rn_11_6 hk0) dX11_sheet_70 ?_
    refine u_iload_n (pc := 71) hC dX11_sheet_71 rfl 2 rfl ?_
    refine u_iload_n (pc := 72) hC dX11_sheet_72 rfl 2 rfl ?_
    refine u_if_ne (pc := 73) hC (tgt := 80) dX11_sheet_73 (by decide) (fun c73 => ?_) (fun c73 => ?_)
    · replace h := of_t c73 h
      refine u_iload_n (pc := 80) hC dX11_sheet_80 rfl 3 rfl ?_
      refine u_sub [] rfl ?_
      exact jb81 μ_65 (rf (rf k0 6) a1.toNatClampNeg) (rs_16 (rs_11_6 hk0) b70) a2 a3 h
    · replace h := of_f (fun q => q c73) h
      refine u_iconst (pc := 76) hC ic_0 dX11_sheet_76 ?_
      refine u_goto (pc := 77) hC 81 dX11_sheet_77 (by decide) ?_
      refine u_sub [] rfl ?_
      exact jb81 μ_65 (rf (rf k0 6) a1.toNatClampNeg) (rs_16 (rs_11_6 hk0) b70) a2 (0 : Int32) h
  have jb49 : ∀ (μ_49 : Mem), f_X11_sheet_j49 μ_49 k0 a1 a2 a3 = some r → UW C 4 μ_49 49 [(0, .ref (gad (cG C) k0)), (1, .int a1), (2, .int a2), (3, .int a3)] [] := by
    intro μ_49 h
    unfold f_X11_sheet_j49 at h
    refine u_iload_n (pc := 49) hC dX11_sheet_49 rfl 2 rfl ?_
    refine u_if_eq (pc := 50) hC (tgt := 65) dX11_sheet_50 (by decide) (fun c50 => ?_) (fun c50 => ?_)
    · replace h := of_t c50 h
      exact jb65 μ_49 h
    · replace h := of_f c50 h
      refine u_iload_n (pc := 53) hC dX11_sheet_53 rfl 3 rfl ?_
      refine u_bipush (pc := 54) hC bc_40 dX11_sheet_54 ?_
      refine u_icmp_le (pc := 56) hC (tgt := 65) dX11_sheet_56 (by decide) (fun c56 => ?_) (fun c56 => ?_)
      · replace h := of_t c56 h
        exact jb65 μ_49 h
      · replace h := of_f c56 h
        refine u_aload_n (pc := 59) hC dX11_sheet_59 rfl 0 rfl ?_
        refine u_iconst (pc := 60) hC ic_1 dX11_sheet_60 ?_
        obtain ⟨p61, q61, h⟩ := of_bd h
        refine k_RX11_83 (pc := 61) hC (av := [.int (1 : Int32)]) (rest := []) (c_X11_refuse (d := d - 1) (by omega) hk0 q61) (by omega) (Nat.le_of_ble_eq_true rfl) hk0 rfl rfl dX11_sheet_61 ?_
        obtain rfl := Option.some.inj h
        exact u_iret (pc := 64) hC hQ hr ⟨rfl, rfl⟩ dX11_sheet_64
  have jb35 : ∀ (μ_35 : Mem), f_X11_sheet_j35 μ_35 k0 a1 a2 a3 = some r → UW C 4 μ_35 35 [(0, .ref (gad (cG C) k0)), (1, .int a1), (2, .int a2), (3, .int a3)] [] := by
    intro μ_35 h
    unfold f_X11_sheet_j35 at h
    refine u_iload_n (pc := 35) hC dX11_sheet_35 rfl 2 rfl ?_
    refine u_if_eq (pc := 36) hC (tgt := 49) dX11_sheet_36 (by decide) (fun c36 => ?_) (fun c36 => ?_)
    · replace h := of_t c36 h
      exact jb49 μ_35 h
    · replace h := of_f c36 h
      refine u_iload_n (pc := 39) hC dX11_sheet_39 rfl 3 rfl ?_
      refine u_if_ge (pc := 40) hC (tgt := 49) dX11_sheet_40 (by decide) (fun c40 => ?_) (fun c40 => ?_)
      · replace h := of_t c40 h
        exact jb49 μ_35 h
      · replace h := of_f c40 h
        refine u_aload_n (pc := 43) hC dX11_sheet_43 rfl 0 rfl ?_
        refine u_iconst (pc := 44) hC ic_3 dX11_sheet_44 ?_
        obtain ⟨p45, q45, h⟩ := of_bd h
        refine k_RX11_83 (pc := 45) hC (av := [.int (3 : Int32)]) (rest := []) (c_X11_refuse (d := d - 1) (by omega) hk0 q45) (by omega) (Nat.le_of_ble_eq_true rfl) hk0 rfl rfl dX11_sheet_45 ?_
        obtain rfl := Option.some.inj h
        exact u_iret (pc := 48) hC hQ hr ⟨rfl, rfl⟩ dX11_sheet_48
  have jb29 : ∀ (μ_29 : Mem), f_X11_sheet_j29 μ_29 k0 a1 a2 a3 = some r → UW C 4 μ_29 29 [(0, .ref (gad (cG C) k0))] [] := by
    intro μ_29 h
    unfold f_X11_sheet_j29 at h
    refine u_aload_n (pc := 29) hC dX11_sheet_29 rfl 0 rfl ?_
    refine u_iconst (pc := 30) hC ic_1 dX11_sheet_30 ?_
    obtain ⟨p31, q31, h⟩ := of_bd h
    refine k_RX11_83 (pc := 31) hC (av := [.int (1 : Int32)]) (rest := []) (c_X11_refuse (d := d - 1) (by omega) hk0 q31) (by omega) (Nat.le_of_ble_eq_true rfl) hk0 rfl rfl dX11_sheet_31 ?_
    obtain rfl := Option.some.inj h
    exact u_iret (pc := 34) hC hQ hr ⟨rfl, rfl⟩ dX11_sheet_34
  unfold f_X11_sheet at h
  refine u_iload_n (pc := 0) hC dX11_sheet_0 rfl 1 rfl ?_
  obtain ⟨r1, q1, h⟩ := of_bd h
  refine k_RX11_257 (pc := 1) hC (av := [.int a1]) (rest := []) (c_X11_isSheet (d := d - 1) (by omega)  q1) (by omega) (Nat.le_of_ble_eq_true rfl) rfl rfl dX11_sheet_1 ?_
  refine u_if_eq (pc := 4) hC (tgt := 29) dX11_sheet_4 (by decide) (fun c4 => ?_) (fun c4 => ?_)
  · replace h := of_t c4 h
    refine u_sub [0] rfl ?_
    exact jb29 μ h
  · replace h := of_f c4 h
    refine u_iload_n (pc := 7) hC dX11_sheet_7 rfl 2 rfl ?_
    refine u_if_eq (pc := 8) hC (tgt := 35) dX11_sheet_8 (by decide) (fun c8 => ?_) (fun c8 => ?_)
    · replace h := of_t c8 h
      exact jb35 μ h
    · replace h := of_f c8 h
      refine u_iload_n (pc := 11) hC dX11_sheet_11 rfl 2 rfl ?_
      refine u_bipush (pc := 12) hC bc_8 dX11_sheet_12 ?_
      refine u_icmp_eq (pc := 14) hC (tgt := 35) dX11_sheet_14 (by decide) (fun c14 => ?_) (fun c14 => ?_)
      · replace h := of_t c14 h
        exact jb35 μ h
      · replace h := of_f c14 h
        refine u_iload_n (pc := 17) hC dX11_sheet_17 rfl 2 rfl ?_
        refine u_bipush (pc := 18) hC bc_16 dX11_sheet_18 ?_
        refine u_icmp_eq (pc := 20) hC (tgt := 35) dX11_sheet_20 (by decide) (fun c20 => ?_) (fun c20 => ?_)
        · replace h := of_t c20 h
          exact jb35 μ h
        · replace h := of_f c20 h
          refine u_iload_n (pc := 23) hC dX11_sheet_23 rfl 2 rfl ?_
          refine u_bipush (pc := 24) hC bc_32 dX11_sheet_24 ?_
          refine u_icmp_eq (pc := 26) hC (tgt := 35) dX11_sheet_26 (by decide) (fun c26 => ?_) (fun c26 => ?_)
          · replace h := of_t c26 h
            exact jb35 μ h
          · replace h := of_f c26 h
            refine u_sub [0] rfl ?_
            exact jb29 μ h
set_option maxHeartbeats 4000000 in
set_option maxRecDepth 100000 in
theorem c_X11_put {l : Launch} {G : GG} {d : Nat} (hd : 2 ≤ d) {μ : Mem} {k0 : Nat} (hk0 : isC 11 k0) {a1 : Int32} {a2 : Int32} {a3 : Int32} {r : Int32 × Mem} (h : f_X11_put μ k0 a1 a2 a3 = some r) : CT l yX11_put cX11_put 5 (some .int) d G [.ref (gad G k0), .int a1, .int a2, .int a3] μ (RK (some (.int r.1)) r.2) := by
  refine ct_start (by decide) (Nat.le_of_ble_eq_true rfl) (fun C hl1 hG1 hC hQ hr => ?_)
  subst hl1; subst hG1
  have hC : CxOK C cX11_put 5 RX11 d := hC
  show UW C 5 μ 0 [(0, .ref (gad (cG C) k0)), (1, .int a1), (2, .int a2), (3, .int a3)] []
  unfold f_X11_put at h
  refine u_iload_n (pc := 0) hC dX11_put_0 rfl 1 rfl ?_
  obtain ⟨r1, q1, h⟩ := of_bd h
  refine k_RX11_257 (pc := 1) hC (av := [.int a1]) (rest := []) (c_X11_isSheet (d := d - 1) (by omega)  q1) (by omega) (Nat.le_of_ble_eq_true rfl) rfl rfl dX11_put_1 ?_
  refine u_if_ne (pc := 4) hC (tgt := 13) dX11_put_4 (by decide) (fun c4 => ?_) (fun c4 => ?_)
  · replace h := of_t c4 h
    refine u_aload_n (pc := 13) hC dX11_put_13 rfl 0 rfl ?_
    refine g_RX11_61 (pc := 14) hC hk0 dX11_put_14 ?_
    refine u_iload_n (pc := 17) hC dX11_put_17 rfl 1 rfl ?_
    obtain ⟨b18, h⟩ := of_gd h
    refine u_aaldS (pc := 18) hC (rs_11_6 hk0) b18 (rn_11_6 hk0) dX11_put_18 ?_
    refine u_astore (pc := 19) hC dX11_put_19 [(4, .ref (gad (cG C) (rf (rf k0 6) a1.toNatClampNeg))), (0, .ref (gad (cG C) k0)), (1, .int a1), (2, .int a2), (3, .int a3)] (by decide) rfl ?_
    refine u_aload (pc := 21) hC dX11_put_21 0 rfl ?_
    obtain ⟨r23, q23, h⟩ := of_bd h
    refine k_RX11_260 (pc := 23) hC (av := []) (rest := []) (c_X6_isMissing (d := d - 1) (by omega) (rs_16 (rs_11_6 hk0) b18) q23) (by omega) (Nat.le_of_ble_eq_true rfl) (rs_16 (rs_11_6 hk0) b18) rfl rfl dX11_put_23 ?_
    refine u_if_eq (pc := 26) hC (tgt := 35) dX11_put_26 (by decide) (fun c26 => ?_) (fun c26 => ?_)
    · replace h := of_t c26 h
      refine u_iload_n (pc := 35) hC dX11_put_35 rfl 3 rfl ?_
      refine u_iconst (pc := 36) hC ic_0 dX11_put_36 ?_
      refine u_aload (pc := 37) hC dX11_put_37 0 rfl ?_
      refine g_RX11_300 (pc := 39) hC (rs_16 (rs_11_6 hk0) b18) dX11_put_39 ?_
      refine u_iconst (pc := 42) hC ic_1 dX11_put_42 ?_
      refine u_isub (pc := 43) hC dX11_put_43 ?_
      obtain ⟨r44, q44, h⟩ := of_bd h
      refine k_RX11_79 (pc := 44) hC (av := [.int a2, .int (0 : Int32), .int ((rd μ (rf (rf k0 6) a1.toNatClampNeg) 2) - (1 : Int32))]) (rest := []) (c_X11_among (d := d - 1) (by omega)  q44) (by omega) (Nat.le_of_ble_eq_true rfl) rfl rfl dX11_put_44 ?_
      refine u_if_ne (pc := 47) hC (tgt := 56) dX11_put_47 (by decide) (fun c47 => ?_) (fun c47 => ?_)
      · replace h := of_t c47 h
        refine u_aload (pc := 56) hC dX11_put_56 0 rfl ?_
        refine g_RX11_301 (pc := 58) hC (rs_16 (rs_11_6 hk0) b18) dX11_put_58 ?_
        refine u_iload_n (pc := 61) hC dX11_put_61 rfl 3 rfl ?_
        refine u_aload (pc := 62) hC dX11_put_62 0 rfl ?_
        refine u_iload_n (pc := 64) hC dX11_put_64 rfl 4 rfl ?_
        obtain ⟨r65, q65, h⟩ := of_bd h
        refine k_RX11_304 (pc := 65) hC (av := [.int a3]) (rest := [.int a2, .ref (gad (cG C) (rf (rf (rf k0 6) a1.toNatClampNeg) 0))]) (c_X6_lowest (d := d - 1) (by omega) (rs_16 (rs_11_6 hk0) b18) q65) (by omega) (Nat.le_of_ble_eq_true rfl) (rs_16 (rs_11_6 hk0) b18) rfl rfl dX11_put_65 ?_
        obtain ⟨b68, h⟩ := of_gd h
        obtain ⟨m68, q68, h⟩ := of_bd h
        refine u_iast (pc := 68) hC (rs_6_0 (rs_16 (rs_11_6 hk0) b18)) 40 (rn_6_0 (rs_16 (rs_11_6 hk0) b18)) b68 dX11_put_68 (Option.some.inj q68) ?_
        refine u_iconst (pc := 69) hC ic_1 dX11_put_69 ?_
        obtain rfl := Option.some.inj h
        exact u_iret (pc := 70) hC hQ hr ⟨rfl, rfl⟩ dX11_put_70
      · replace h := of_f (fun q => q c47) h
        refine u_aload_n (pc := 50) hC dX11_put_50 rfl 1 rfl ?_
        refine u_iconst (pc := 51) hC ic_1 dX11_put_51 ?_
        obtain ⟨p52, q52, h⟩ := of_bd h
        refine k_RX11_83 (pc := 52) hC (av := [.int (1 : Int32)]) (rest := []) (c_X11_refuse (d := d - 1) (by omega) hk0 q52) (by omega) (Nat.le_of_ble_eq_true rfl) hk0 rfl rfl dX11_put_52 ?_
        obtain rfl := Option.some.inj h
        exact u_iret (pc := 55) hC hQ hr ⟨rfl, rfl⟩ dX11_put_55
    · replace h := of_f c26 h
      refine u_aload_n (pc := 29) hC dX11_put_29 rfl 1 rfl ?_
      refine u_iconst (pc := 30) hC ic_2 dX11_put_30 ?_
      obtain ⟨p31, q31, h⟩ := of_bd h
      refine k_RX11_83 (pc := 31) hC (av := [.int (2 : Int32)]) (rest := []) (c_X11_refuse (d := d - 1) (by omega) hk0 q31) (by omega) (Nat.le_of_ble_eq_true rfl) hk0 rfl rfl dX11_put_31 ?_
      obtain rfl := Option.some.inj h
      exact u_iret (pc := 34) hC hQ hr ⟨rfl, rfl⟩ dX11_put_34
  · replace h := of_f (fun q => q c4) h
    refine u_aload_n (pc := 7) hC dX11_put_7 rfl 0 rfl ?_
    refine u_iconst (pc := 8) hC ic_1 dX11_put_8 ?_
    obtain ⟨p9, q9, h⟩ := of_bd h
    refine k_RX11_83 (pc := 9) hC (av := [.int (1 : Int32)]) (rest := []) (c_X11_refuse (d := d - 1) (by omega) hk0 q9) (by omega) (Nat.le_of_ble_eq_true rfl) hk0 rfl rfl dX11_put_9 ?_
    obtain rfl := Option.some.inj h
    exact u_iret (pc := 12) hC hQ hr ⟨rfl, rfl⟩ dX11_put_12
set_option maxHeartbeats 4000000 in
set_option maxRecDepth 100000 in
theorem c_X11_move {l : Launch} {G : GG} {d : Nat} (hd : 2 ≤ d) {μ : Mem} {k0 : Nat} (hk0 : isC 11 k0) {a1 : Int32} {a2 : Int32} {a3 : Int32} {a4 : Int32} {a5 : Int32} {r : Int32 × Mem} (h : f_X11_move μ k0 a1 a2 a3 a4 a5 = some r) : CT l yX11_move cX11_move 8 (some .int) d G [.ref (gad G k0), .int a1, .int a2, .int a3, .int a4, .int a5] μ (RK (some (.int r.1)) r.2) := by
  refine ct_start (by decide) (Nat.le_of_ble_eq_true rfl) (fun C hl1 hG1 hC hQ hr => ?_)
  subst hl1; subst hG1
  have hC : CxOK C cX11_move 8 RX11 d := hC
  show UW C 8 μ 0 [(0, .ref (gad (cG C) k0)), (1, .int a1), (2, .int a2), (3, .int a3), (4, .int a4), (5, .int a5)] []
  have jb100 : ∀ (μ_100 : Mem), f_X11_move_j100 μ_100 k0 a1 a2 a3 a4 a5 = some r → UW C 8 μ_100 100 [(0, .ref (gad (cG C) k0))] [] := by
    intro μ_100 h
    unfold f_X11_move_j100 at h
    refine u_aload_n (pc := 100) hC dX11_move_100 rfl 0 rfl ?_
    refine u_iconst (pc := 101) hC ic_1 dX11_move_101 ?_
    obtain ⟨p102, q102, h⟩ := of_bd h
    refine k_RX11_83 (pc := 102) hC (av := [.int (1 : Int32)]) (rest := []) (c_X11_refuse (d := d - 1) (by omega) hk0 q102) (by omega) (Nat.le_of_ble_eq_true rfl) hk0 rfl rfl dX11_move_102 ?_
    obtain rfl := Option.some.inj h
    exact u_iret (pc := 105) hC hQ hr ⟨rfl, rfl⟩ dX11_move_105
  have jb52 : ∀ (μ_52 : Mem), f_X11_move_j52 μ_52 k0 a1 a2 a3 a4 a5 = some r → UW C 8 μ_52 52 [(0, .ref (gad (cG C) k0))] [] := by
    intro μ_52 h
    unfold f_X11_move_j52 at h
    refine u_aload_n (pc := 52) hC dX11_move_52 rfl 0 rfl ?_
    refine u_iconst (pc := 53) hC ic_2 dX11_move_53 ?_
    obtain ⟨p54, q54, h⟩ := of_bd h
    refine k_RX11_83 (pc := 54) hC (av := [.int (2 : Int32)]) (rest := []) (c_X11_refuse (d := d - 1) (by omega) hk0 q54) (by omega) (Nat.le_of_ble_eq_true rfl) hk0 rfl rfl dX11_move_54 ?_
    obtain rfl := Option.some.inj h
    exact u_iret (pc := 57) hC hQ hr ⟨rfl, rfl⟩ dX11_move_57
  have jb14 : ∀ (μ_14 : Mem), f_X11_move_j14 μ_14 k0 a1 a2 a3 a4 a5 = some r → UW C 8 μ_14 14 [(0, .ref (gad (cG C) k0))] [] := by
    intro μ_14 h
    unfold f_X11_move_j14 at h
    refine u_aload_n (pc := 14) hC dX11_move_14 rfl 0 rfl ?_
    refine u_iconst (pc := 15) hC ic_1 dX11_move_15 ?_
    obtain ⟨p16, q16, h⟩ := of_bd h
    refine k_RX11_83 (pc := 16) hC (av := [.int (1 : Int32)]) (rest := []) (c_X11_refuse (d := d - 1) (by omega) hk0 q16) (by omega) (Nat.le_of_ble_eq_true rfl) hk0 rfl rfl dX11_move_16 ?_
    obtain rfl := Option.some.inj h
    exact u_iret (pc := 19) hC hQ hr ⟨rfl, rfl⟩ dX11_move_19
  unfold f_X11_move at h
  refine u_iload_n (pc := 0) hC dX11_move_0 rfl 1 rfl ?_
  obtain ⟨r1, q1, h⟩ := of_bd h
  refine k_RX11_257 (pc := 1) hC (av := [.int a1]) (rest := []) (c_X11_isSheet (d := d - 1) (by omega)  q1) (by omega) (Nat.le_of_ble_eq_true rfl) rfl rfl dX11_move_1 ?_
  refine u_if_eq (pc := 4) hC (tgt := 14) dX11_move_4 (by decide) (fun c4 => ?_) (fun c4 => ?_)
  · replace h := of_t c4 h
    refine u_sub [0] rfl ?_
    exact jb14 μ h
  · replace h := of_f c4 h
    refine u_iload_n (pc := 7) hC dX11_move_7 rfl 3 rfl ?_
    obtain ⟨r8, q8, h⟩ := of_bd h
    refine k_RX11_257 (pc := 8) hC (av := [.int a3]) (rest := []) (c_X11_isSheet (d := d - 1) (by omega)  q8) (by omega) (Nat.le_of_ble_eq_true rfl) rfl rfl dX11_move_8 ?_
    refine u_if_ne (pc := 11) hC (tgt := 20) dX11_move_11 (by decide) (fun c11 => ?_) (fun c11 => ?_)
    · replace h := of_t c11 h
      refine u_aload_n (pc := 20) hC dX11_move_20 rfl 0 rfl ?_
      refine g_RX11_61 (pc := 21) hC hk0 dX11_move_21 ?_
      refine u_iload_n (pc := 24) hC dX11_move_24 rfl 1 rfl ?_
      obtain ⟨b25, h⟩ := of_gd h
      refine u_aaldS (pc := 25) hC (rs_11_6 hk0) b25 (rn_11_6 hk0) dX11_move_25 ?_
      refine u_astore (pc := 26) hC dX11_move_26 [(6, .ref (gad (cG C) (rf (rf k0 6) a1.toNatClampNeg))), (0, .ref (gad (cG C) k0)), (1, .int a1), (2, .int a2), (3, .int a3), (4, .int a4), (5, .int a5)] (by decide) rfl ?_
      refine u_aload_n (pc := 28) hC dX11_move_28 rfl 1 rfl ?_
      refine g_RX11_61 (pc := 29) hC hk0 dX11_move_29 ?_
      refine u_iload_n (pc := 32) hC dX11_move_32 rfl 4 rfl ?_
      obtain ⟨b33, h⟩ := of_gd h
      refine u_aaldS (pc := 33) hC (rs_11_6 hk0) b33 (rn_11_6 hk0) dX11_move_33 ?_
      refine u_astore (pc := 34) hC dX11_move_34 [(7, .ref (gad (cG C) (rf (rf k0 6) a3.toNatClampNeg))), (6, .ref (gad (cG C) (rf (rf k0 6) a1.toNatClampNeg))), (0, .ref (gad (cG C) k0)), (1, .int a1), (2, .int a2), (3, .int a3), (4, .int a4), (5, .int a5)] (by decide) rfl ?_
      refine u_aload (pc := 36) hC dX11_move_36 1 rfl ?_
      obtain ⟨r38, q38, h⟩ := of_bd h
      refine k_RX11_260 (pc := 38) hC (av := []) (rest := []) (c_X6_isMissing (d := d - 1) (by omega) (rs_16 (rs_11_6 hk0) b25) q38) (by omega) (Nat.le_of_ble_eq_true rfl) (rs_16 (rs_11_6 hk0) b25) rfl rfl dX11_move_38 ?_
      refine u_if_ne (pc := 41) hC (tgt := 52) dX11_move_41 (by decide) (fun c41 => ?_) (fun c41 => ?_)
      · replace h := of_t c41 h
        refine u_sub [2] rfl ?_
        exact jb52 μ h
      · replace h := of_f (fun q => q c41) h
        refine u_aload (pc := 44) hC dX11_move_44 0 rfl ?_
        obtain ⟨r46, q46, h⟩ := of_bd h
        refine k_RX11_260 (pc := 46) hC (av := []) (rest := []) (c_X6_isMissing (d := d - 1) (by omega) (rs_16 (rs_11_6 hk0) b33) q46) (by omega) (Nat.le_of_ble_eq_true rfl) (rs_16 (rs_11_6 hk0) b33) rfl rfl dX11_move_46 ?_
        refine u_if_eq (pc := 49) hC (tgt := 58) dX11_move_49 (by decide) (fun c49 => ?_) (fun c49 => ?_)
        · replace h := of_t c49 h
          refine u_aload (pc := 58) hC dX11_move_58 1 rfl ?_
          refine g_RX11_307 (pc := 60) hC (rs_16 (rs_11_6 hk0) b25) dX11_move_60 ?_
          refine u_aload (pc := 63) hC dX11_move_63 0 rfl ?_
          refine g_RX11_307 (pc := 65) hC (rs_16 (rs_11_6 hk0) b33) dX11_move_65 ?_
          refine u_icmp_eq (pc := 68) hC (tgt := 77) dX11_move_68 (by decide) (fun c68 => ?_) (fun c68 => ?_)
          · replace h := of_t c68 h
            refine u_aload (pc := 77) hC dX11_move_77 1 rfl ?_
            refine u_iload_n (pc := 79) hC dX11_move_79 rfl 4 rfl ?_
            refine u_iload (pc := 80) hC dX11_move_80 7 rfl ?_
            obtain ⟨r82, q82, h⟩ := of_bd h
            refine k_RX11_310 (pc := 82) hC (av := [.int a2, .int a5]) (rest := []) (c_X6_holds (d := d - 1) (by omega) (rs_16 (rs_11_6 hk0) b25) q82) (by omega) (Nat.le_of_ble_eq_true rfl) (rs_16 (rs_11_6 hk0) b25) rfl rfl dX11_move_82 ?_
            refine u_if_eq (pc := 85) hC (tgt := 100) dX11_move_85 (by decide) (fun c85 => ?_) (fun c85 => ?_)
            · replace h := of_t c85 h
              refine u_sub [2] rfl ?_
              exact jb100 μ h
            · replace h := of_f c85 h
              refine u_aload (pc := 88) hC dX11_move_88 0 rfl ?_
              refine u_iload (pc := 90) hC dX11_move_90 6 rfl ?_
              refine u_iload (pc := 92) hC dX11_move_92 7 rfl ?_
              obtain ⟨r94, q94, h⟩ := of_bd h
              refine k_RX11_310 (pc := 94) hC (av := [.int a4, .int a5]) (rest := []) (c_X6_holds (d := d - 1) (by omega) (rs_16 (rs_11_6 hk0) b33) q94) (by omega) (Nat.le_of_ble_eq_true rfl) (rs_16 (rs_11_6 hk0) b33) rfl rfl dX11_move_94 ?_
              refine u_if_ne (pc := 97) hC (tgt := 106) dX11_move_97 (by decide) (fun c97 => ?_) (fun c97 => ?_)
              · replace h := of_t c97 h
                refine u_aload (pc := 106) hC dX11_move_106 1 rfl ?_
                refine g_RX11_301 (pc := 108) hC (rs_16 (rs_11_6 hk0) b25) dX11_move_108 ?_
                refine u_iload_n (pc := 111) hC dX11_move_111 rfl 4 rfl ?_
                refine u_aload (pc := 112) hC dX11_move_112 0 rfl ?_
                refine g_RX11_301 (pc := 114) hC (rs_16 (rs_11_6 hk0) b33) dX11_move_114 ?_
                refine u_iload (pc := 117) hC dX11_move_117 6 rfl ?_
                refine u_iload (pc := 119) hC dX11_move_119 7 rfl ?_
                obtain ⟨b121, h⟩ := of_gd h
                obtain ⟨m121, q121, h⟩ := of_bd h
                refine u_acopy (pc := 121) hC mL_RX11_313 mN_O_arraycopy mK_O_arraycopy mI_RJ10 (rs_6_0 (rs_16 (rs_11_6 hk0) b25)) (rs_6_0 (rs_16 (rs_11_6 hk0) b33)) b121 (Nat.le_of_ble_eq_true rfl) dX11_move_121 (Option.some.inj q121) ?_
                refine u_iload (pc := 124) hC dX11_move_124 7 rfl ?_
                obtain rfl := Option.some.inj h
                exact u_iret (pc := 126) hC hQ hr ⟨rfl, rfl⟩ dX11_move_126
              · replace h := of_f (fun q => q c97) h
                refine u_sub [2] rfl ?_
                exact jb100 μ h
          · replace h := of_f c68 h
            refine u_aload_n (pc := 71) hC dX11_move_71 rfl 2 rfl ?_
            refine u_iconst (pc := 72) hC ic_5 dX11_move_72 ?_
            obtain ⟨p73, q73, h⟩ := of_bd h
            refine k_RX11_83 (pc := 73) hC (av := [.int (5 : Int32)]) (rest := []) (c_X11_refuse (d := d - 1) (by omega) hk0 q73) (by omega) (Nat.le_of_ble_eq_true rfl) hk0 rfl rfl dX11_move_73 ?_
            obtain rfl := Option.some.inj h
            exact u_iret (pc := 76) hC hQ hr ⟨rfl, rfl⟩ dX11_move_76
        · replace h := of_f c49 h
          refine u_sub [2] rfl ?_
          exact jb52 μ h
    · replace h := of_f (fun q => q c11) h
      refine u_sub [0] rfl ?_
      exact jb14 μ h
set_option maxHeartbeats 4000000 in
set_option maxRecDepth 100000 in
theorem c_X11_reads {l : Launch} {G : GG} {d : Nat} (hd : 4 ≤ d) {μ : Mem} {k0 : Nat} (hk0 : isC 11 k0) {a1 : Int32} {r : Int32 × Mem} (h : f_X11_reads μ k0 a1 = some r) : CT l yX11_reads cX11_reads 4 (some .int) d G [.ref (gad G k0), .int a1] μ (RK (some (.int r.1)) r.2) := by
  refine ct_start (by decide) (Nat.le_of_ble_eq_true rfl) (fun C hl1 hG1 hC hQ hr => ?_)
  subst hl1; subst hG1
  have hC : CxOK C cX11_reads 4 RX11 d := hC
  show UW C 4 μ 0 [(0, .ref (gad (cG C) k0)), (1, .int a1)] []
  have lw35 : ∀ (k2_35 : Nat) (hk2_35 : isC 6 k2_35) (e : (Int32 × Mem)) (s : Int32 × Mem), lp (fun s => f_X11_reads_l35 k0 a1 k2_35 s.1 s.2) FU s = some e → (fun (e : (Int32 × Mem)) => UW C 4 e.2 80 [(3, .int e.1)] []) e → UW C 4 s.2 35 [(0, .ref (gad (cG C) k0)), (2, .ref (gad (cG C) k2_35)), (3, .int s.1)] [] := by
    intro k2_35 hk2_35 e s hl hE0
    refine @lp_walk (Int32 × Mem) (Int32 × Mem) (fun s => f_X11_reads_l35 k0 a1 k2_35 s.1 s.2) (fun s => UW C 4 s.2 35 [(0, .ref (gad (cG C) k0)), (2, .ref (gad (cG C) k2_35)), (3, .int s.1)] []) (fun (e : (Int32 × Mem)) => UW C 4 e.2 80 [(3, .int e.1)] []) (fun s y35 h hP35 hE35 => ?_) FU s e hl hE0
    obtain ⟨v3_35, μ_35⟩ := s
    replace h : f_X11_reads_l35 k0 a1 k2_35 v3_35 μ_35 = some y35 := h
    show UW C 4 μ_35 35 [(0, .ref (gad (cG C) k0)), (2, .ref (gad (cG C) k2_35)), (3, .int v3_35)] []
    unfold f_X11_reads_l35 at h
    refine u_iload_n (pc := 35) hC dX11_reads_35 rfl 2 rfl ?_
    refine u_aload_n (pc := 36) hC dX11_reads_36 rfl 1 rfl ?_
    refine g_RX11_300 (pc := 37) hC hk2_35 dX11_reads_37 ?_
    refine u_icmp_ge (pc := 40) hC (tgt := 80) dX11_reads_40 (by decide) (fun c40 => ?_) (fun c40 => ?_)
    · replace h := of_t c40 h
      obtain rfl := Option.some.inj h
      refine u_sub [2] rfl ?_
      exact hE35 (v3_35, μ_35) rfl
    · replace h := of_f c40 h
      refine u_aload_n (pc := 43) hC dX11_reads_43 rfl 0 rfl ?_
      refine u_iconst (pc := 44) hC ic_0 dX11_reads_44 ?_
      refine u_aload_n (pc := 45) hC dX11_reads_45 rfl 1 rfl ?_
      refine g_RX11_301 (pc := 46) hC hk2_35 dX11_reads_46 ?_
      refine u_iload_n (pc := 49) hC dX11_reads_49 rfl 2 rfl ?_
      obtain ⟨b50, h⟩ := of_gd h
      refine u_iald (pc := 50) hC (rs_6_0 hk2_35) 40 (rn_6_0 hk2_35) b50 dX11_reads_50 ?_
      obtain ⟨r51, q51, h⟩ := of_bd h
      refine k_RX11_184 (pc := 51) hC (av := [.int (0 : Int32), .int (rd μ_35 (rf k2_35 0) v3_35.toNatClampNeg)]) (rest := []) (c_X11_canTell (d := d - 1) (by omega) hk0 q51) (by omega) (Nat.le_of_ble_eq_true rfl) hk0 rfl rfl dX11_reads_51 ?_
      refine u_if_eq (pc := 54) hC (tgt := 80) dX11_reads_54 (by decide) (fun c54 => ?_) (fun c54 => ?_)
      · replace h := of_t c54 h
        obtain rfl := Option.some.inj h
        refine u_sub [2] rfl ?_
        exact hE35 (v3_35, μ_35) rfl
      · replace h := of_f c54 h
        refine u_aload_n (pc := 57) hC dX11_reads_57 rfl 0 rfl ?_
        refine g_RX11_10 (pc := 58) hC hk0 dX11_reads_58 ?_
        refine g_RX11_114 (pc := 61) hC (rs_11_0 hk0) dX11_reads_61 ?_
        refine u_iconst (pc := 64) hC ic_0 dX11_reads_64 ?_
        refine u_aload_n (pc := 65) hC dX11_reads_65 rfl 1 rfl ?_
        refine g_RX11_301 (pc := 66) hC hk2_35 dX11_reads_66 ?_
        refine u_iload_n (pc := 69) hC dX11_reads_69 rfl 2 rfl ?_
        obtain ⟨b70, h⟩ := of_gd h
        refine u_iald (pc := 70) hC (rs_6_0 hk2_35) 40 (rn_6_0 hk2_35) b70 dX11_reads_70 ?_
        obtain ⟨μ71, q71, h⟩ := of_bd h
        refine k_RX11_188 (pc := 71) hC (av := [.int (0 : Int32), .int (rd μ_35 (rf k2_35 0) v3_35.toNatClampNeg)]) (rest := []) (c_X8_write (d := d - 1) (by omega) (rs_10_3 (rs_11_0 hk0)) q71) (by omega) (Nat.le_of_ble_eq_true rfl) (rs_10_3 (rs_11_0 hk0)) rfl rfl dX11_reads_71 ?_
        refine u_iinc (pc := 74) hC dX11_reads_74 2 rfl (v3_35 + 1) rfl [(3, .int (v3_35 + 1)), (0, .ref (gad (cG C) k0)), (2, .ref (gad (cG C) k2_35))] (by decide) rfl ?_
        refine u_goto (pc := 77) hC 35 dX11_reads_77 (by decide) ?_
        obtain rfl := Option.some.inj h
        refine u_sub [1, 2, 0] rfl ?_
        exact hP35 (v3_35 + 1, μ71) rfl
  unfold f_X11_reads at h
  refine u_iload_n (pc := 0) hC dX11_reads_0 rfl 1 rfl ?_
  obtain ⟨r1, q1, h⟩ := of_bd h
  refine k_RX11_257 (pc := 1) hC (av := [.int a1]) (rest := []) (c_X11_isSheet (d := d - 1) (by omega)  q1) (by omega) (Nat.le_of_ble_eq_true rfl) rfl rfl dX11_reads_1 ?_
  refine u_if_ne (pc := 4) hC (tgt := 13) dX11_reads_4 (by decide) (fun c4 => ?_) (fun c4 => ?_)
  · replace h := of_t c4 h
    refine u_aload_n (pc := 13) hC dX11_reads_13 rfl 0 rfl ?_
    refine g_RX11_61 (pc := 14) hC hk0 dX11_reads_14 ?_
    refine u_iload_n (pc := 17) hC dX11_reads_17 rfl 1 rfl ?_
    obtain ⟨b18, h⟩ := of_gd h
    refine u_aaldS (pc := 18) hC (rs_11_6 hk0) b18 (rn_11_6 hk0) dX11_reads_18 ?_
    refine u_astore_n (pc := 19) hC dX11_reads_19 rfl [(2, .ref (gad (cG C) (rf (rf k0 6) a1.toNatClampNeg))), (0, .ref (gad (cG C) k0)), (1, .int a1)] (by decide) rfl ?_
    refine u_aload_n (pc := 20) hC dX11_reads_20 rfl 0 rfl ?_
    obtain ⟨r21, q21, h⟩ := of_bd h
    refine k_RX11_260 (pc := 21) hC (av := []) (rest := []) (c_X6_isMissing (d := d - 1) (by omega) (rs_16 (rs_11_6 hk0) b18) q21) (by omega) (Nat.le_of_ble_eq_true rfl) (rs_16 (rs_11_6 hk0) b18) rfl rfl dX11_reads_21 ?_
    refine u_if_eq (pc := 24) hC (tgt := 33) dX11_reads_24 (by decide) (fun c24 => ?_) (fun c24 => ?_)
    · replace h := of_t c24 h
      refine u_iconst (pc := 33) hC ic_0 dX11_reads_33 ?_
      refine u_istore_n (pc := 34) hC dX11_reads_34 rfl [(3, .int (0 : Int32)), (2, .ref (gad (cG C) (rf (rf k0 6) a1.toNatClampNeg))), (0, .ref (gad (cG C) k0)), (1, .int a1)] (by decide) rfl ?_
      obtain ⟨e35, l35, h⟩ := of_bd h
      refine u_sub [2, 1, 0] rfl ?_
      refine lw35 (rf (rf k0 6) a1.toNatClampNeg) (rs_16 (rs_11_6 hk0) b18) e35 ((0 : Int32), μ) l35 ?_
      show UW C 4 e35.2 80 [(3, .int e35.1)] []
      refine u_iload_n (pc := 80) hC dX11_reads_80 rfl 0 rfl ?_
      obtain rfl := Option.some.inj h
      exact u_iret (pc := 81) hC hQ hr ⟨rfl, rfl⟩ dX11_reads_81
    · replace h := of_f c24 h
      refine u_aload_n (pc := 27) hC dX11_reads_27 rfl 1 rfl ?_
      refine u_iconst (pc := 28) hC ic_2 dX11_reads_28 ?_
      obtain ⟨p29, q29, h⟩ := of_bd h
      refine k_RX11_83 (pc := 29) hC (av := [.int (2 : Int32)]) (rest := []) (c_X11_refuse (d := d - 1) (by omega) hk0 q29) (by omega) (Nat.le_of_ble_eq_true rfl) hk0 rfl rfl dX11_reads_29 ?_
      obtain rfl := Option.some.inj h
      exact u_iret (pc := 32) hC hQ hr ⟨rfl, rfl⟩ dX11_reads_32
  · replace h := of_f (fun q => q c4) h
    refine u_aload_n (pc := 7) hC dX11_reads_7 rfl 0 rfl ?_
    refine u_iconst (pc := 8) hC ic_1 dX11_reads_8 ?_
    obtain ⟨p9, q9, h⟩ := of_bd h
    refine k_RX11_83 (pc := 9) hC (av := [.int (1 : Int32)]) (rest := []) (c_X11_refuse (d := d - 1) (by omega) hk0 q9) (by omega) (Nat.le_of_ble_eq_true rfl) hk0 rfl rfl dX11_reads_9 ?_
    obtain rfl := Option.some.inj h
    exact u_iret (pc := 12) hC hQ hr ⟨rfl, rfl⟩ dX11_reads_12
set_option maxHeartbeats 4000000 in
set_option maxRecDepth 100000 in
theorem c_X11_judge {l : Launch} {G : GG} {d : Nat} (hd : 2 ≤ d) {μ : Mem} {k0 : Nat} (hk0 : isC 11 k0) {a1 : Int32} {a2 : Int32} {r : Int32 × Mem} (h : f_X11_judge μ k0 a1 a2 = some r) : CT l yX11_judge cX11_judge 6 (some .int) d G [.ref (gad G k0), .int a1, .int a2] μ (RK (some (.int r.1)) r.2) := by
  refine ct_start (by decide) (Nat.le_of_ble_eq_true rfl) (fun C hl1 hG1 hC hQ hr => ?_)
  subst hl1; subst hG1
  have hC : CxOK C cX11_judge 6 RX11 d := hC
  show UW C 6 μ 0 [(0, .ref (gad (cG C) k0)), (1, .int a1), (2, .int a2)] []
  have jb15 : ∀ (μ_15 : Mem), f_X11_judge_j15 μ_15 k0 a1 a2 = some r → UW C 6 μ_15 15 [(0, .ref (gad (cG C) k0))] [] := by
    intro μ_15 h
    unfold f_X11_judge_j15 at h
    refine u_aload_n (pc := 15) hC dX11_judge_15 rfl 0 rfl ?_
    refine u_iconst (pc := 16) hC ic_1 dX11_judge_16 ?_
    obtain ⟨p17, q17, h⟩ := of_bd h
    refine k_RX11_83 (pc := 17) hC (av := [.int (1 : Int32)]) (rest := []) (c_X11_refuse (d := d - 1) (by omega) hk0 q17) (by omega) (Nat.le_of_ble_eq_true rfl) hk0 rfl rfl dX11_judge_17 ?_
    obtain rfl := Option.some.inj h
    exact u_iret (pc := 20) hC hQ hr ⟨rfl, rfl⟩ dX11_judge_20
  unfold f_X11_judge at h
  refine u_iload_n (pc := 0) hC dX11_judge_0 rfl 1 rfl ?_
  obtain ⟨r1, q1, h⟩ := of_bd h
  refine k_RX11_257 (pc := 1) hC (av := [.int a1]) (rest := []) (c_X11_isSheet (d := d - 1) (by omega)  q1) (by omega) (Nat.le_of_ble_eq_true rfl) rfl rfl dX11_judge_1 ?_
  refine u_if_eq (pc := 4) hC (tgt := 15) dX11_judge_4 (by decide) (fun c4 => ?_) (fun c4 => ?_)
  · replace h := of_t c4 h
    refine u_sub [0] rfl ?_
    exact jb15 μ h
  · replace h := of_f c4 h
    refine u_aload_n (pc := 7) hC dX11_judge_7 rfl 0 rfl ?_
    refine u_iload_n (pc := 8) hC dX11_judge_8 rfl 2 rfl ?_
    obtain ⟨r9, q9, h⟩ := of_bd h
    refine k_RX11_122 (pc := 9) hC (av := [.int a2]) (rest := []) (c_X11_isDebtor (d := d - 1) (by omega) hk0 q9) (by omega) (Nat.le_of_ble_eq_true rfl) hk0 rfl rfl dX11_judge_9 ?_
    refine u_if_ne (pc := 12) hC (tgt := 21) dX11_judge_12 (by decide) (fun c12 => ?_) (fun c12 => ?_)
    · replace h := of_t c12 h
      refine u_aload_n (pc := 21) hC dX11_judge_21 rfl 0 rfl ?_
      refine g_RX11_61 (pc := 22) hC hk0 dX11_judge_22 ?_
      refine u_iload_n (pc := 25) hC dX11_judge_25 rfl 1 rfl ?_
      obtain ⟨b26, h⟩ := of_gd h
      refine u_aaldS (pc := 26) hC (rs_11_6 hk0) b26 (rn_11_6 hk0) dX11_judge_26 ?_
      refine u_astore_n (pc := 27) hC dX11_judge_27 rfl [(3, .ref (gad (cG C) (rf (rf k0 6) a1.toNatClampNeg))), (0, .ref (gad (cG C) k0)), (1, .int a1), (2, .int a2)] (by decide) rfl ?_
      refine u_aload_n (pc := 28) hC dX11_judge_28 rfl 0 rfl ?_
      obtain ⟨r29, q29, h⟩ := of_bd h
      refine k_RX11_260 (pc := 29) hC (av := []) (rest := []) (c_X6_isMissing (d := d - 1) (by omega) (rs_16 (rs_11_6 hk0) b26) q29) (by omega) (Nat.le_of_ble_eq_true rfl) (rs_16 (rs_11_6 hk0) b26) rfl rfl dX11_judge_29 ?_
      refine u_if_eq (pc := 32) hC (tgt := 41) dX11_judge_32 (by decide) (fun c32 => ?_) (fun c32 => ?_)
      · replace h := of_t c32 h
        refine u_aload_n (pc := 41) hC dX11_judge_41 rfl 1 rfl ?_
        refine g_RX11_10 (pc := 42) hC hk0 dX11_judge_42 ?_
        refine g_RX11_114 (pc := 45) hC (rs_11_0 hk0) dX11_judge_45 ?_
        refine g_RX11_125 (pc := 48) hC (rs_10_3 (rs_11_0 hk0)) dX11_judge_48 ?_
        refine u_iload_n (pc := 51) hC dX11_judge_51 rfl 3 rfl ?_
        obtain ⟨b52, h⟩ := of_gd h
        refine u_aaldD (pc := 52) hC (rs_8_0 (rs_10_3 (rs_11_0 hk0))) b52 (rn_8_0 (rs_10_3 (rs_11_0 hk0))) dX11_judge_52 ?_
        refine u_astore (pc := 53) hC dX11_judge_53 [(4, .ref (gad (cG C) (rf (rf (rf (rf k0 0) 3) 0) a2.toNatClampNeg))), (3, .ref (gad (cG C) (rf (rf k0 6) a1.toNatClampNeg))), (0, .ref (gad (cG C) k0)), (1, .int a1), (2, .int a2)] (by decide) rfl ?_
        refine u_aload (pc := 55) hC dX11_judge_55 0 rfl ?_
        refine u_iconst (pc := 57) hC ic_0 dX11_judge_57 ?_
        refine u_aload_n (pc := 58) hC dX11_judge_58 rfl 1 rfl ?_
        obtain ⟨r59, q59, h⟩ := of_bd h
        refine k_RX11_319 (pc := 59) hC (av := [.int (0 : Int32), .ref (gad (cG C) (rf (rf k0 6) a1.toNatClampNeg))]) (rest := []) (c_X0_alikeFrom (d := d - 1) (by omega) (rs_15 (rs_8_0 (rs_10_3 (rs_11_0 hk0))) b52) (rs_16 (rs_11_6 hk0) b26) q59) (by omega) (Nat.le_of_ble_eq_true rfl) (rs_15 (rs_8_0 (rs_10_3 (rs_11_0 hk0))) b52) rfl rfl dX11_judge_59 ?_
        refine u_istore (pc := 62) hC dX11_judge_62 [(5, .int r59), (4, .ref (gad (cG C) (rf (rf (rf (rf k0 0) 3) 0) a2.toNatClampNeg))), (3, .ref (gad (cG C) (rf (rf k0 6) a1.toNatClampNeg))), (0, .ref (gad (cG C) k0)), (1, .int a1), (2, .int a2)] (by decide) rfl ?_
        refine u_iload (pc := 64) hC dX11_judge_64 0 rfl ?_
        refine u_aload_n (pc := 66) hC dX11_judge_66 rfl 2 rfl ?_
        refine g_RX11_300 (pc := 67) hC (rs_16 (rs_11_6 hk0) b26) dX11_judge_67 ?_
        refine u_icmp_ne (pc := 70) hC (tgt := 87) dX11_judge_70 (by decide) (fun c70 => ?_) (fun c70 => ?_)
        · replace h := of_t c70 h
          refine u_iload (pc := 87) hC dX11_judge_87 0 rfl ?_
          obtain rfl := Option.some.inj h
          exact u_iret (pc := 89) hC hQ hr ⟨rfl, rfl⟩ dX11_judge_89
        · replace h := of_f (fun q => q c70) h
          refine u_iload (pc := 73) hC dX11_judge_73 0 rfl ?_
          refine u_aload (pc := 75) hC dX11_judge_75 1 rfl ?_
          refine g_RX11_153 (pc := 77) hC (rs_15 (rs_8_0 (rs_10_3 (rs_11_0 hk0))) b52) dX11_judge_77 ?_
          refine u_icmp_ne (pc := 80) hC (tgt := 87) dX11_judge_80 (by decide) (fun c80 => ?_) (fun c80 => ?_)
          · replace h := of_t c80 h
            refine u_iload (pc := 87) hC dX11_judge_87 0 rfl ?_
            obtain rfl := Option.some.inj h
            exact u_iret (pc := 89) hC hQ hr ⟨rfl, rfl⟩ dX11_judge_89
          · replace h := of_f (fun q => q c80) h
            refine u_iconst (pc := 83) hC ic_m1 dX11_judge_83 ?_
            refine u_goto (pc := 84) hC 89 dX11_judge_84 (by decide) ?_
            obtain rfl := Option.some.inj h
            exact u_iret (pc := 89) hC hQ hr ⟨rfl, rfl⟩ dX11_judge_89
      · replace h := of_f c32 h
        refine u_aload_n (pc := 35) hC dX11_judge_35 rfl 1 rfl ?_
        refine u_iconst (pc := 36) hC ic_2 dX11_judge_36 ?_
        obtain ⟨p37, q37, h⟩ := of_bd h
        refine k_RX11_83 (pc := 37) hC (av := [.int (2 : Int32)]) (rest := []) (c_X11_refuse (d := d - 1) (by omega) hk0 q37) (by omega) (Nat.le_of_ble_eq_true rfl) hk0 rfl rfl dX11_judge_37 ?_
        obtain rfl := Option.some.inj h
        exact u_iret (pc := 40) hC hQ hr ⟨rfl, rfl⟩ dX11_judge_40
    · replace h := of_f (fun q => q c12) h
      refine u_sub [0] rfl ?_
      exact jb15 μ h
set_option maxHeartbeats 4000000 in
set_option maxRecDepth 100000 in
theorem c_X11_image {l : Launch} {G : GG} {d : Nat} (hd : 3 ≤ d) {μ : Mem} {k0 : Nat} (hk0 : isC 11 k0) {r : Int32 × Mem} (h : f_X11_image μ k0 = some r) : CT l yX11_image cX11_image 1 (some .int) d G [.ref (gad G k0)] μ (RK (some (.int r.1)) r.2) := by
  refine ct_start (by decide) (Nat.le_of_ble_eq_true rfl) (fun C hl1 hG1 hC hQ hr => ?_)
  subst hl1; subst hG1
  have hC : CxOK C cX11_image 1 RX11 d := hC
  show UW C 1 μ 0 [(0, .ref (gad (cG C) k0))] []
  unfold f_X11_image at h
  refine u_aload_n (pc := 0) hC dX11_image_0 rfl 0 rfl ?_
  refine g_RX11_16 (pc := 1) hC hk0 dX11_image_1 ?_
  refine u_aload_n (pc := 4) hC dX11_image_4 rfl 0 rfl ?_
  refine g_RX11_10 (pc := 5) hC hk0 dX11_image_5 ?_
  obtain ⟨μ8, q8, h⟩ := of_bd h
  refine k_RX11_323 (pc := 8) hC (av := [.ref (gad (cG C) (rf k0 0))]) (rest := []) (c_X10_copyFrom (d := d - 1) (by omega) (rs_11_1 hk0) (rs_11_0 hk0) q8) (by omega) (Nat.le_of_ble_eq_true rfl) (rs_11_1 hk0) rfl rfl dX11_image_8 ?_
  refine u_aload_n (pc := 11) hC dX11_image_11 rfl 0 rfl ?_
  refine u_dup (pc := 12) hC rfl dX11_image_12 ?_
  refine g_RX11_326 (pc := 13) hC hk0 dX11_image_13 ?_
  refine u_iconst (pc := 16) hC ic_1 dX11_image_16 ?_
  refine u_iadd (pc := 17) hC dX11_image_17 ?_
  obtain ⟨m18, q18, h⟩ := of_bd h
  refine p_RX11_326 (pc := 18) hC hk0 dX11_image_18 (Option.some.inj q18) ?_
  refine u_aload_n (pc := 21) hC dX11_image_21 rfl 0 rfl ?_
  refine g_RX11_326 (pc := 22) hC hk0 dX11_image_22 ?_
  obtain rfl := Option.some.inj h
  exact u_iret (pc := 25) hC hQ hr ⟨rfl, rfl⟩ dX11_image_25
set_option maxHeartbeats 4000000 in
set_option maxRecDepth 100000 in
theorem c_X11_restore {l : Launch} {G : GG} {d : Nat} (hd : 3 ≤ d) {μ : Mem} {k0 : Nat} (hk0 : isC 11 k0) {r : Int32 × Mem} (h : f_X11_restore μ k0 = some r) : CT l yX11_restore cX11_restore 1 (some .int) d G [.ref (gad G k0)] μ (RK (some (.int r.1)) r.2) := by
  refine ct_start (by decide) (Nat.le_of_ble_eq_true rfl) (fun C hl1 hG1 hC hQ hr => ?_)
  subst hl1; subst hG1
  have hC : CxOK C cX11_restore 1 RX11 d := hC
  show UW C 1 μ 0 [(0, .ref (gad (cG C) k0))] []
  unfold f_X11_restore at h
  refine u_aload_n (pc := 0) hC dX11_restore_0 rfl 0 rfl ?_
  refine g_RX11_326 (pc := 1) hC hk0 dX11_restore_1 ?_
  refine u_if_ne (pc := 4) hC (tgt := 13) dX11_restore_4 (by decide) (fun c4 => ?_) (fun c4 => ?_)
  · replace h := of_t c4 h
    refine u_aload_n (pc := 13) hC dX11_restore_13 rfl 0 rfl ?_
    refine g_RX11_10 (pc := 14) hC hk0 dX11_restore_14 ?_
    refine u_aload_n (pc := 17) hC dX11_restore_17 rfl 0 rfl ?_
    refine g_RX11_16 (pc := 18) hC hk0 dX11_restore_18 ?_
    obtain ⟨μ21, q21, h⟩ := of_bd h
    refine k_RX11_323 (pc := 21) hC (av := [.ref (gad (cG C) (rf k0 1))]) (rest := []) (c_X10_copyFrom (d := d - 1) (by omega) (rs_11_0 hk0) (rs_11_1 hk0) q21) (by omega) (Nat.le_of_ble_eq_true rfl) (rs_11_0 hk0) rfl rfl dX11_restore_21 ?_
    refine u_aload_n (pc := 24) hC dX11_restore_24 rfl 0 rfl ?_
    refine g_RX11_10 (pc := 25) hC hk0 dX11_restore_25 ?_
    refine g_RX11_114 (pc := 28) hC (rs_11_0 hk0) dX11_restore_28 ?_
    refine g_RX11_195 (pc := 31) hC (rs_10_3 (rs_11_0 hk0)) dX11_restore_31 ?_
    obtain rfl := Option.some.inj h
    exact u_iret (pc := 34) hC hQ hr ⟨rfl, rfl⟩ dX11_restore_34
  · replace h := of_f (fun q => q c4) h
    refine u_aload_n (pc := 7) hC dX11_restore_7 rfl 0 rfl ?_
    refine u_iconst (pc := 8) hC ic_2 dX11_restore_8 ?_
    obtain ⟨p9, q9, h⟩ := of_bd h
    refine k_RX11_83 (pc := 9) hC (av := [.int (2 : Int32)]) (rest := []) (c_X11_refuse (d := d - 1) (by omega) hk0 q9) (by omega) (Nat.le_of_ble_eq_true rfl) hk0 rfl rfl dX11_restore_9 ?_
    obtain rfl := Option.some.inj h
    exact u_iret (pc := 12) hC hQ hr ⟨rfl, rfl⟩ dX11_restore_12
set_option maxHeartbeats 4000000 in
set_option maxRecDepth 100000 in
theorem c_X11_tell {l : Launch} {G : GG} {d : Nat} (hd : 1 ≤ d) {μ : Mem} {k0 : Nat} (hk0 : isC 11 k0) {a1 : Int32} {r : Int32 × Mem} (h : f_X11_tell μ k0 a1 = some r) : CT l yX11_tell cX11_tell 2 (some .int) d G [.ref (gad G k0), .int a1] μ (RK (some (.int r.1)) r.2) := by
  refine ct_start (by decide) (Nat.le_of_ble_eq_true rfl) (fun C hl1 hG1 hC hQ hr => ?_)
  subst hl1; subst hG1
  have hC : CxOK C cX11_tell 2 RX11 d := hC
  show UW C 2 μ 0 [(0, .ref (gad (cG C) k0)), (1, .int a1)] []
  unfold f_X11_tell at h
  refine u_aload_n (pc := 0) hC dX11_tell_0 rfl 0 rfl ?_
  refine g_RX11_10 (pc := 1) hC hk0 dX11_tell_1 ?_
  refine g_RX11_329 (pc := 4) hC (rs_11_0 hk0) dX11_tell_4 ?_
  refine u_bipush (pc := 7) hC bc_20 dX11_tell_7 ?_
  refine u_icmp_lt (pc := 9) hC (tgt := 18) dX11_tell_9 (by decide) (fun c9 => ?_) (fun c9 => ?_)
  · replace h := of_t c9 h
    refine u_aload_n (pc := 18) hC dX11_tell_18 rfl 0 rfl ?_
    refine g_RX11_10 (pc := 19) hC hk0 dX11_tell_19 ?_
    refine g_RX11_332 (pc := 22) hC (rs_11_0 hk0) dX11_tell_22 ?_
    refine u_aload_n (pc := 25) hC dX11_tell_25 rfl 0 rfl ?_
    refine g_RX11_10 (pc := 26) hC hk0 dX11_tell_26 ?_
    refine g_RX11_329 (pc := 29) hC (rs_11_0 hk0) dX11_tell_29 ?_
    refine u_iload_n (pc := 32) hC dX11_tell_32 rfl 1 rfl ?_
    obtain ⟨b33, h⟩ := of_gd h
    obtain ⟨m33, q33, h⟩ := of_bd h
    refine u_iast (pc := 33) hC (rs_10_6 (rs_11_0 hk0)) 20 (rn_10_6 (rs_11_0 hk0)) b33 dX11_tell_33 (Option.some.inj q33) ?_
    refine u_aload_n (pc := 34) hC dX11_tell_34 rfl 0 rfl ?_
    refine g_RX11_10 (pc := 35) hC hk0 dX11_tell_35 ?_
    refine u_dup (pc := 38) hC rfl dX11_tell_38 ?_
    refine g_RX11_329 (pc := 39) hC (rs_11_0 hk0) dX11_tell_39 ?_
    refine u_iconst (pc := 42) hC ic_1 dX11_tell_42 ?_
    refine u_iadd (pc := 43) hC dX11_tell_43 ?_
    obtain ⟨m44, q44, h⟩ := of_bd h
    refine p_RX11_329 (pc := 44) hC (rs_11_0 hk0) dX11_tell_44 (Option.some.inj q44) ?_
    refine u_aload_n (pc := 47) hC dX11_tell_47 rfl 0 rfl ?_
    refine g_RX11_10 (pc := 48) hC hk0 dX11_tell_48 ?_
    refine g_RX11_329 (pc := 51) hC (rs_11_0 hk0) dX11_tell_51 ?_
    obtain rfl := Option.some.inj h
    exact u_iret (pc := 54) hC hQ hr ⟨rfl, rfl⟩ dX11_tell_54
  · replace h := of_f c9 h
    refine u_aload_n (pc := 12) hC dX11_tell_12 rfl 0 rfl ?_
    refine u_iconst (pc := 13) hC ic_4 dX11_tell_13 ?_
    obtain ⟨p14, q14, h⟩ := of_bd h
    refine k_RX11_83 (pc := 14) hC (av := [.int (4 : Int32)]) (rest := []) (c_X11_refuse (d := d - 1) (by omega) hk0 q14) (by omega) (Nat.le_of_ble_eq_true rfl) hk0 rfl rfl dX11_tell_14 ?_
    obtain rfl := Option.some.inj h
    exact u_iret (pc := 17) hC hQ hr ⟨rfl, rfl⟩ dX11_tell_17
set_option maxHeartbeats 4000000 in
set_option maxRecDepth 100000 in
theorem c_X11_check {l : Launch} {G : GG} {d : Nat} (hd : 6 ≤ d) {μ : Mem} {k0 : Nat} (hk0 : isC 11 k0) {r : Int32 × Mem} (h : f_X11_check μ k0 = some r) : CT l yX11_check cX11_check 3 (some .int) d G [.ref (gad G k0)] μ (RK (some (.int r.1)) r.2) := by
  refine ct_start (by decide) (Nat.le_of_ble_eq_true rfl) (fun C hl1 hG1 hC hQ hr => ?_)
  subst hl1; subst hG1
  have hC : CxOK C cX11_check 3 RX11 d := hC
  show UW C 3 μ 0 [(0, .ref (gad (cG C) k0))] []
  have lw32 : ∀ (v1_32 : Int32) (e : ((Int32 × Mem) ⊕ (Mem))) (s : Int32 × Mem), lp (fun s => f_X11_check_l32 k0 v1_32 s.1 s.2) FU s = some e → (Sum.elim (fun (e : (Int32 × Mem)) => UW C 3 e.2 70 [(2, .int e.1)] []) (fun (e : (Mem)) => UW C 3 e 80 [] [])) e → UW C 3 s.2 32 [(0, .ref (gad (cG C) k0)), (1, .int v1_32), (2, .int s.1)] [] := by
    intro v1_32 e s hl hE0
    refine @lp_walk (Int32 × Mem) ((Int32 × Mem) ⊕ (Mem)) (fun s => f_X11_check_l32 k0 v1_32 s.1 s.2) (fun s => UW C 3 s.2 32 [(0, .ref (gad (cG C) k0)), (1, .int v1_32), (2, .int s.1)] []) (Sum.elim (fun (e : (Int32 × Mem)) => UW C 3 e.2 70 [(2, .int e.1)] []) (fun (e : (Mem)) => UW C 3 e 80 [] [])) (fun s y32 h hP32 hE32 => ?_) FU s e hl hE0
    obtain ⟨v2_32, μ_32⟩ := s
    replace h : f_X11_check_l32 k0 v1_32 v2_32 μ_32 = some y32 := h
    show UW C 3 μ_32 32 [(0, .ref (gad (cG C) k0)), (1, .int v1_32), (2, .int v2_32)] []
    unfold f_X11_check_l32 at h
    refine u_iload_n (pc := 32) hC dX11_check_32 rfl 2 rfl ?_
    refine u_iload_n (pc := 33) hC dX11_check_33 rfl 1 rfl ?_
    refine u_icmp_ge (pc := 34) hC (tgt := 80) dX11_check_34 (by decide) (fun c34 => ?_) (fun c34 => ?_)
    · replace h := of_t c34 h
      obtain rfl := Option.some.inj h
      refine u_sub [] rfl ?_
      exact hE32 (.inr μ_32) rfl
    · replace h := of_f c34 h
      refine u_iload_n (pc := 37) hC dX11_check_37 rfl 2 rfl ?_
      refine u_bipush (pc := 38) hC bc_20 dX11_check_38 ?_
      refine u_icmp_ge (pc := 40) hC (tgt := 80) dX11_check_40 (by decide) (fun c40 => ?_) (fun c40 => ?_)
      · replace h := of_t c40 h
        obtain rfl := Option.some.inj h
        refine u_sub [] rfl ?_
        exact hE32 (.inr μ_32) rfl
      · replace h := of_f c40 h
        refine u_aload_n (pc := 43) hC dX11_check_43 rfl 0 rfl ?_
        refine g_RX11_32 (pc := 44) hC hk0 dX11_check_44 ?_
        refine u_iconst (pc := 47) hC ic_1 dX11_check_47 ?_
        obtain ⟨μ48, q48, h⟩ := of_bd h
        refine k_RX11_198 (pc := 48) hC (av := [.int (1 : Int32)]) (rest := []) (c_X8_passWeeks (d := d - 1) (by omega) (rs_11_2 hk0) q48) (by omega) (Nat.le_of_ble_eq_true rfl) (rs_11_2 hk0) rfl rfl dX11_check_48 ?_
        refine u_aload_n (pc := 51) hC dX11_check_51 rfl 0 rfl ?_
        refine g_RX11_32 (pc := 52) hC hk0 dX11_check_52 ?_
        obtain ⟨r55, q55, h⟩ := of_bd h
        refine k_RX11_335 (pc := 55) hC (av := []) (rest := []) (c_X8_debts (d := d - 1) (by omega) (rs_11_2 hk0) q55) (by omega) (Nat.le_of_ble_eq_true rfl) (rs_11_2 hk0) rfl rfl dX11_check_55 ?_
        refine u_aload_n (pc := 58) hC dX11_check_58 rfl 0 rfl ?_
        refine g_RX11_10 (pc := 59) hC hk0 dX11_check_59 ?_
        refine g_RX11_332 (pc := 62) hC (rs_11_0 hk0) dX11_check_62 ?_
        refine u_iload_n (pc := 65) hC dX11_check_65 rfl 2 rfl ?_
        obtain ⟨b66, h⟩ := of_gd h
        refine u_iald (pc := 66) hC (rs_10_6 (rs_11_0 hk0)) 20 (rn_10_6 (rs_11_0 hk0)) b66 dX11_check_66 ?_
        refine u_icmp_eq (pc := 67) hC (tgt := 74) dX11_check_67 (by decide) (fun c67 => ?_) (fun c67 => ?_)
        · replace h := of_t c67 h
          refine u_iinc (pc := 74) hC dX11_check_74 2 rfl (v2_32 + 1) rfl [(2, .int (v2_32 + 1)), (0, .ref (gad (cG C) k0)), (1, .int v1_32)] (by decide) rfl ?_
          refine u_goto (pc := 77) hC 32 dX11_check_77 (by decide) ?_
          obtain rfl := Option.some.inj h
          refine u_sub [1, 2, 0] rfl ?_
          exact hP32 (v2_32 + 1, μ48) rfl
        · replace h := of_f c67 h
          obtain rfl := Option.some.inj h
          refine u_sub [2] rfl ?_
          exact hE32 (.inl (v2_32, μ48)) rfl
  unfold f_X11_check at h
  refine u_aload_n (pc := 0) hC dX11_check_0 rfl 0 rfl ?_
  refine g_RX11_10 (pc := 1) hC hk0 dX11_check_1 ?_
  refine g_RX11_329 (pc := 4) hC (rs_11_0 hk0) dX11_check_4 ?_
  refine u_istore_n (pc := 7) hC dX11_check_7 rfl [(1, .int (rd μ (rf k0 0) 7)), (0, .ref (gad (cG C) k0))] (by decide) rfl ?_
  refine u_aload_n (pc := 8) hC dX11_check_8 rfl 1 rfl ?_
  refine g_RX11_10 (pc := 9) hC hk0 dX11_check_9 ?_
  refine u_iconst (pc := 12) hC ic_0 dX11_check_12 ?_
  obtain ⟨m13, q13, h⟩ := of_bd h
  refine p_RX11_329 (pc := 13) hC (rs_11_0 hk0) dX11_check_13 (Option.some.inj q13) ?_
  refine u_aload_n (pc := 16) hC dX11_check_16 rfl 1 rfl ?_
  refine g_RX11_32 (pc := 17) hC hk0 dX11_check_17 ?_
  refine u_aload_n (pc := 20) hC dX11_check_20 rfl 1 rfl ?_
  refine g_RX11_10 (pc := 21) hC hk0 dX11_check_21 ?_
  refine g_RX11_114 (pc := 24) hC (rs_11_0 hk0) dX11_check_24 ?_
  obtain ⟨μ27, q27, h⟩ := of_bd h
  refine k_RX11_206 (pc := 27) hC (av := [.ref (gad (cG C) (rf (rf k0 0) 3))]) (rest := []) (c_X8_copyFrom (d := d - 1) (by omega) (rs_11_2 hk0) (rs_10_3 (rs_11_0 hk0)) q27) (by omega) (Nat.le_of_ble_eq_true rfl) (rs_11_2 hk0) rfl rfl dX11_check_27 ?_
  refine u_iconst (pc := 30) hC ic_0 dX11_check_30 ?_
  refine u_istore_n (pc := 31) hC dX11_check_31 rfl [(2, .int (0 : Int32)), (1, .int (rd μ (rf k0 0) 7)), (0, .ref (gad (cG C) k0))] (by decide) rfl ?_
  obtain ⟨e32, l32, h⟩ := of_bd h
  refine u_sub [2, 1, 0] rfl ?_
  refine lw32 (rd μ (rf k0 0) 7) e32 ((0 : Int32), μ27) l32 ?_
  rcases e32 with e32 | e32
  · replace h := of_el h
    show UW C 3 e32.2 70 [(2, .int e32.1)] []
    refine u_iconst (pc := 70) hC ic_1 dX11_check_70 ?_
    refine u_iload_n (pc := 71) hC dX11_check_71 rfl 0 rfl ?_
    refine u_iadd (pc := 72) hC dX11_check_72 ?_
    obtain rfl := Option.some.inj h
    exact u_iret (pc := 73) hC hQ hr ⟨rfl, rfl⟩ dX11_check_73
  · replace h := of_er h
    show UW C 3 e32 80 [] []
    refine u_iconst (pc := 80) hC ic_0 dX11_check_80 ?_
    obtain rfl := Option.some.inj h
    exact u_iret (pc := 81) hC hQ hr ⟨rfl, rfl⟩ dX11_check_81
set_option maxHeartbeats 4000000 in
set_option maxRecDepth 100000 in
theorem c_X11_count {l : Launch} {G : GG} {d : Nat} (hd : 1 ≤ d) {μ : Mem} {k0 : Nat} (hk0 : isC 11 k0) {a1 : Int32} {r : Int32 × Mem} (h : f_X11_count μ k0 a1 = some r) : CT l yX11_count cX11_count 2 (some .int) d G [.ref (gad G k0), .int a1] μ (RK (some (.int r.1)) r.2) := by
  refine ct_start (by decide) (Nat.le_of_ble_eq_true rfl) (fun C hl1 hG1 hC hQ hr => ?_)
  subst hl1; subst hG1
  have hC : CxOK C cX11_count 2 RX11 d := hC
  show UW C 2 μ 0 [(0, .ref (gad (cG C) k0)), (1, .int a1)] []
  unfold f_X11_count at h
  refine u_iload_n (pc := 0) hC dX11_count_0 rfl 1 rfl ?_
  by_cases c1_0 : a1 = 0
  · replace h := of_t c1_0 h
    refine u_tabEq (pc := 1) hC dX11_count_1 (0 : Int32) c1_0 (off := 55) 56 (by decide) (by decide) ?_
    refine u_aload_n (pc := 56) hC dX11_count_56 rfl 0 rfl ?_
    refine g_RX11_10 (pc := 57) hC hk0 dX11_count_57 ?_
    refine g_RX11_21 (pc := 60) hC (rs_11_0 hk0) dX11_count_60 ?_
    refine g_RX11_73 (pc := 63) hC (rs_10_0 (rs_11_0 hk0)) dX11_count_63 ?_
    obtain rfl := Option.some.inj h
    exact u_iret (pc := 66) hC hQ hr ⟨rfl, rfl⟩ dX11_count_66
  replace h := of_f c1_0 h
  by_cases c1_1 : a1 = 1
  · replace h := of_t c1_1 h
    refine u_tabEq (pc := 1) hC dX11_count_1 (1 : Int32) c1_1 (off := 66) 67 (by decide) (by decide) ?_
    refine u_aload_n (pc := 67) hC dX11_count_67 rfl 0 rfl ?_
    refine g_RX11_10 (pc := 68) hC hk0 dX11_count_68 ?_
    refine g_RX11_114 (pc := 71) hC (rs_11_0 hk0) dX11_count_71 ?_
    refine g_RX11_120 (pc := 74) hC (rs_10_3 (rs_11_0 hk0)) dX11_count_74 ?_
    obtain rfl := Option.some.inj h
    exact u_iret (pc := 77) hC hQ hr ⟨rfl, rfl⟩ dX11_count_77
  replace h := of_f c1_1 h
  by_cases c1_2 : a1 = 2
  · replace h := of_t c1_2 h
    refine u_tabEq (pc := 1) hC dX11_count_1 (2 : Int32) c1_2 (off := 77) 78 (by decide) (by decide) ?_
    refine u_aload_n (pc := 78) hC dX11_count_78 rfl 0 rfl ?_
    refine g_RX11_10 (pc := 79) hC hk0 dX11_count_79 ?_
    refine g_RX11_114 (pc := 82) hC (rs_11_0 hk0) dX11_count_82 ?_
    refine g_RX11_195 (pc := 85) hC (rs_10_3 (rs_11_0 hk0)) dX11_count_85 ?_
    obtain rfl := Option.some.inj h
    exact u_iret (pc := 88) hC hQ hr ⟨rfl, rfl⟩ dX11_count_88
  replace h := of_f c1_2 h
  by_cases c1_3 : a1 = 3
  · replace h := of_t c1_3 h
    refine u_tabEq (pc := 1) hC dX11_count_1 (3 : Int32) c1_3 (off := 88) 89 (by decide) (by decide) ?_
    refine u_aload_n (pc := 89) hC dX11_count_89 rfl 0 rfl ?_
    refine g_RX11_10 (pc := 90) hC hk0 dX11_count_90 ?_
    refine g_RX11_271 (pc := 93) hC (rs_11_0 hk0) dX11_count_93 ?_
    refine g_RX11_275 (pc := 96) hC (rs_10_4 (rs_11_0 hk0)) dX11_count_96 ?_
    obtain rfl := Option.some.inj h
    exact u_iret (pc := 99) hC hQ hr ⟨rfl, rfl⟩ dX11_count_99
  replace h := of_f c1_3 h
  by_cases c1_4 : a1 = 4
  · replace h := of_t c1_4 h
    refine u_tabEq (pc := 1) hC dX11_count_1 (4 : Int32) c1_4 (off := 99) 100 (by decide) (by decide) ?_
    refine u_aload_n (pc := 100) hC dX11_count_100 rfl 0 rfl ?_
    refine g_RX11_10 (pc := 101) hC hk0 dX11_count_101 ?_
    refine g_RX11_114 (pc := 104) hC (rs_11_0 hk0) dX11_count_104 ?_
    obtain ⟨r107, q107, h⟩ := of_bd h
    refine k_RX11_335 (pc := 107) hC (av := []) (rest := []) (c_X8_debts (d := d - 1) (by omega) (rs_10_3 (rs_11_0 hk0)) q107) (by omega) (Nat.le_of_ble_eq_true rfl) (rs_10_3 (rs_11_0 hk0)) rfl rfl dX11_count_107 ?_
    obtain rfl := Option.some.inj h
    exact u_iret (pc := 110) hC hQ hr ⟨rfl, rfl⟩ dX11_count_110
  replace h := of_f c1_4 h
  by_cases c1_5 : a1 = 5
  · replace h := of_t c1_5 h
    refine u_tabEq (pc := 1) hC dX11_count_1 (5 : Int32) c1_5 (off := 110) 111 (by decide) (by decide) ?_
    refine u_aload_n (pc := 111) hC dX11_count_111 rfl 0 rfl ?_
    refine g_RX11_10 (pc := 112) hC hk0 dX11_count_112 ?_
    refine g_RX11_114 (pc := 115) hC (rs_11_0 hk0) dX11_count_115 ?_
    obtain ⟨r118, q118, h⟩ := of_bd h
    refine k_RX11_201 (pc := 118) hC (av := []) (rest := []) (c_X8_broken (d := d - 1) (by omega) (rs_10_3 (rs_11_0 hk0)) q118) (by omega) (Nat.le_of_ble_eq_true rfl) (rs_10_3 (rs_11_0 hk0)) rfl rfl dX11_count_118 ?_
    obtain rfl := Option.some.inj h
    exact u_iret (pc := 121) hC hQ hr ⟨rfl, rfl⟩ dX11_count_121
  replace h := of_f c1_5 h
  by_cases c1_6 : a1 = 6
  · replace h := of_t c1_6 h
    refine u_tabEq (pc := 1) hC dX11_count_1 (6 : Int32) c1_6 (off := 121) 122 (by decide) (by decide) ?_
    refine u_aload_n (pc := 122) hC dX11_count_122 rfl 0 rfl ?_
    refine g_RX11_10 (pc := 123) hC hk0 dX11_count_123 ?_
    refine g_RX11_210 (pc := 126) hC (rs_11_0 hk0) dX11_count_126 ?_
    refine g_RX11_214 (pc := 129) hC (rs_10_5 (rs_11_0 hk0)) dX11_count_129 ?_
    obtain rfl := Option.some.inj h
    exact u_iret (pc := 132) hC hQ hr ⟨rfl, rfl⟩ dX11_count_132
  replace h := of_f c1_6 h
  by_cases c1_7 : a1 = 7
  · replace h := of_t c1_7 h
    refine u_tabEq (pc := 1) hC dX11_count_1 (7 : Int32) c1_7 (off := 132) 133 (by decide) (by decide) ?_
    refine u_aload_n (pc := 133) hC dX11_count_133 rfl 0 rfl ?_
    refine g_RX11_10 (pc := 134) hC hk0 dX11_count_134 ?_
    refine g_RX11_329 (pc := 137) hC (rs_11_0 hk0) dX11_count_137 ?_
    obtain rfl := Option.some.inj h
    exact u_iret (pc := 140) hC hQ hr ⟨rfl, rfl⟩ dX11_count_140
  replace h := of_f c1_7 h
  by_cases c1_8 : a1 = 8
  · replace h := of_t c1_8 h
    refine u_tabEq (pc := 1) hC dX11_count_1 (8 : Int32) c1_8 (off := 140) 141 (by decide) (by decide) ?_
    refine u_aload_n (pc := 141) hC dX11_count_141 rfl 0 rfl ?_
    refine g_RX11_55 (pc := 142) hC hk0 dX11_count_142 ?_
    refine g_RX11_294 (pc := 145) hC (rs_11_5 hk0) dX11_count_145 ?_
    obtain rfl := Option.some.inj h
    exact u_iret (pc := 148) hC hQ hr ⟨rfl, rfl⟩ dX11_count_148
  replace h := of_f c1_8 h
  by_cases c1_9 : a1 = 9
  · replace h := of_t c1_9 h
    refine u_tabEq (pc := 1) hC dX11_count_1 (9 : Int32) c1_9 (off := 148) 149 (by decide) (by decide) ?_
    refine u_aload_n (pc := 149) hC dX11_count_149 rfl 0 rfl ?_
    refine g_RX11_10 (pc := 150) hC hk0 dX11_count_150 ?_
    refine g_RX11_287 (pc := 153) hC (rs_11_0 hk0) dX11_count_153 ?_
    obtain rfl := Option.some.inj h
    exact u_iret (pc := 156) hC hQ hr ⟨rfl, rfl⟩ dX11_count_156
  replace h := of_f c1_9 h
  refine u_tabDf (pc := 1) hC dX11_count_1 [(0 : Int32), (1 : Int32), (2 : Int32), (3 : Int32), (4 : Int32), (5 : Int32), (6 : Int32), (7 : Int32), (8 : Int32), (9 : Int32)] (List.forall_mem_cons.mpr ⟨c1_0, List.forall_mem_cons.mpr ⟨c1_1, List.forall_mem_cons.mpr ⟨c1_2, List.forall_mem_cons.mpr ⟨c1_3, List.forall_mem_cons.mpr ⟨c1_4, List.forall_mem_cons.mpr ⟨c1_5, List.forall_mem_cons.mpr ⟨c1_6, List.forall_mem_cons.mpr ⟨c1_7, List.forall_mem_cons.mpr ⟨c1_8, List.forall_mem_cons.mpr ⟨c1_9, (fun _ q => absurd q List.not_mem_nil)⟩⟩⟩⟩⟩⟩⟩⟩⟩⟩) (by decide) 157 (by decide) ?_
  refine u_aload_n (pc := 157) hC dX11_count_157 rfl 0 rfl ?_
  refine u_iconst (pc := 158) hC ic_1 dX11_count_158 ?_
  obtain ⟨p159, q159, h⟩ := of_bd h
  refine k_RX11_83 (pc := 159) hC (av := [.int (1 : Int32)]) (rest := []) (c_X11_refuse (d := d - 1) (by omega) hk0 q159) (by omega) (Nat.le_of_ble_eq_true rfl) hk0 rfl rfl dX11_count_159 ?_
  obtain rfl := Option.some.inj h
  exact u_iret (pc := 162) hC hQ hr ⟨rfl, rfl⟩ dX11_count_162
set_option maxHeartbeats 4000000 in
set_option maxRecDepth 100000 in
theorem c_X11_told {l : Launch} {G : GG} {d : Nat} (hd : 1 ≤ d) {μ : Mem} {k0 : Nat} (hk0 : isC 11 k0) {a1 : Int32} {r : Int32 × Mem} (h : f_X11_told μ k0 a1 = some r) : CT l yX11_told cX11_told 2 (some .int) d G [.ref (gad G k0), .int a1] μ (RK (some (.int r.1)) r.2) := by
  refine ct_start (by decide) (Nat.le_of_ble_eq_true rfl) (fun C hl1 hG1 hC hQ hr => ?_)
  subst hl1; subst hG1
  have hC : CxOK C cX11_told 2 RX11 d := hC
  show UW C 2 μ 0 [(0, .ref (gad (cG C) k0)), (1, .int a1)] []
  unfold f_X11_told at h
  refine u_iload_n (pc := 0) hC dX11_told_0 rfl 1 rfl ?_
  refine u_iconst (pc := 1) hC ic_1 dX11_told_1 ?_
  refine u_iconst (pc := 2) hC ic_5 dX11_told_2 ?_
  obtain ⟨r3, q3, h⟩ := of_bd h
  refine k_RX11_79 (pc := 3) hC (av := [.int a1, .int (1 : Int32), .int (5 : Int32)]) (rest := []) (c_X11_among (d := d - 1) (by omega)  q3) (by omega) (Nat.le_of_ble_eq_true rfl) rfl rfl dX11_told_3 ?_
  refine u_if_eq (pc := 6) hC (tgt := 18) dX11_told_6 (by decide) (fun c6 => ?_) (fun c6 => ?_)
  · replace h := of_t c6 h
    refine u_aload_n (pc := 18) hC dX11_told_18 rfl 0 rfl ?_
    refine u_iconst (pc := 19) hC ic_1 dX11_told_19 ?_
    obtain ⟨p20, q20, h⟩ := of_bd h
    refine k_RX11_83 (pc := 20) hC (av := [.int (1 : Int32)]) (rest := []) (c_X11_refuse (d := d - 1) (by omega) hk0 q20) (by omega) (Nat.le_of_ble_eq_true rfl) hk0 rfl rfl dX11_told_20 ?_
    obtain rfl := Option.some.inj h
    exact u_iret (pc := 23) hC hQ hr ⟨rfl, rfl⟩ dX11_told_23
  · replace h := of_f c6 h
    refine u_aload_n (pc := 9) hC dX11_told_9 rfl 0 rfl ?_
    refine g_RX11_69 (pc := 10) hC hk0 dX11_told_10 ?_
    refine u_iload_n (pc := 13) hC dX11_told_13 rfl 1 rfl ?_
    obtain ⟨b14, h⟩ := of_gd h
    refine u_iald (pc := 14) hC (rs_11_8 hk0) 6 (rn_11_8 hk0) b14 dX11_told_14 ?_
    refine u_goto (pc := 15) hC 23 dX11_told_15 (by decide) ?_
    obtain rfl := Option.some.inj h
    exact u_iret (pc := 23) hC hQ hr ⟨rfl, rfl⟩ dX11_told_23
set_option maxHeartbeats 4000000 in
set_option maxRecDepth 100000 in
theorem c_X12_finds {l : Launch} {G : GG} {d : Nat} (hd : 0 ≤ d) {μ : Mem} {k0 : Nat} (hk0 : isC 12 k0) {a1 : Int32} {r : Int32 × Mem} (h : f_X12_finds μ k0 a1 = some r) : CT l yX12_finds cX12_finds 2 (some .int) d G [.ref (gad G k0), .int a1] μ (RK (some (.int r.1)) r.2) := by
  refine ct_start (by decide) (Nat.le_of_ble_eq_true rfl) (fun C hl1 hG1 hC hQ hr => ?_)
  subst hl1; subst hG1
  have hC : CxOK C cX12_finds 2 RX12 d := hC
  show UW C 2 μ 0 [(0, .ref (gad (cG C) k0)), (1, .int a1)] []
  unfold f_X12_finds at h
  refine u_aload_n (pc := 0) hC dX12_finds_0 rfl 0 rfl ?_
  refine g_RX12_19 (pc := 1) hC hk0 dX12_finds_1 ?_
  refine u_iload_n (pc := 4) hC dX12_finds_4 rfl 1 rfl ?_
  refine u_dup2 (pc := 5) hC rfl rfl dX12_finds_5 ?_
  obtain ⟨b6, h⟩ := of_gd h
  refine u_iald (pc := 6) hC (rs_12_4 hk0) 6 (rn_12_4 hk0) b6 dX12_finds_6 ?_
  refine u_iconst (pc := 7) hC ic_1 dX12_finds_7 ?_
  refine u_iadd (pc := 8) hC dX12_finds_8 ?_
  obtain ⟨b9, h⟩ := of_gd h
  obtain ⟨m9, q9, h⟩ := of_bd h
  refine u_iast (pc := 9) hC (rs_12_4 hk0) 6 (rn_12_4 hk0) b9 dX12_finds_9 (Option.some.inj q9) ?_
  refine u_ldc (pc := 10) hC (v := (-1000000000 : Int32)) mQ_RX12_56 dX12_finds_10 ?_
  refine u_iload_n (pc := 12) hC dX12_finds_12 rfl 1 rfl ?_
  refine u_isub (pc := 13) hC dX12_finds_13 ?_
  obtain rfl := Option.some.inj h
  exact u_iret (pc := 14) hC hQ hr ⟨rfl, rfl⟩ dX12_finds_14
set_option maxHeartbeats 4000000 in
set_option maxRecDepth 100000 in
theorem c_X12_in {l : Launch} {G : GG} {d : Nat} (hd : 0 ≤ d) {μ : Mem} {a0 : Int64} {a2 : Int64} {a4 : Int64} {r : Int32} (h : f_X12_in a0 a2 a4 = some r) : CT l yX12_in cX12_in 6 (some .boolean) d G [.long a0, .long a2, .long a4] μ (RK (some (.int r)) μ) := by
  refine ct_start (by decide) (Nat.le_of_ble_eq_true rfl) (fun C hl1 hG1 hC hQ hr => ?_)
  subst hl1; subst hG1
  have hC : CxOK C cX12_in 6 RX12 d := hC
  show UW C 6 μ 0 [(0, .long a0), (2, .long a2), (4, .long a4)] []
  unfold f_X12_in at h
  refine u_lload_n (pc := 0) hC dX12_in_0 rfl 0 rfl ?_
  refine u_lload_n (pc := 1) hC dX12_in_1 rfl 1 rfl ?_
  refine u_lcmp (pc := 2) hC dX12_in_2 ?_
  refine u_if_lt (pc := 3) hC (tgt := 17) dX12_in_3 (by decide) (fun c3 => ?_) (fun c3 => ?_)
  · replace h := of_t c3 h
    refine u_iconst (pc := 17) hC ic_0 dX12_in_17 ?_
    obtain rfl := Option.some.inj h
    exact u_zret (pc := 18) hC hQ hr (by decide) ⟨rfl, rfl⟩ dX12_in_18
  · replace h := of_f c3 h
    refine u_lload_n (pc := 6) hC dX12_in_6 rfl 0 rfl ?_
    refine u_lload (pc := 7) hC dX12_in_7 2 rfl ?_
    refine u_lcmp (pc := 9) hC dX12_in_9 ?_
    refine u_if_gt (pc := 10) hC (tgt := 17) dX12_in_10 (by decide) (fun c10 => ?_) (fun c10 => ?_)
    · replace h := of_t c10 h
      refine u_iconst (pc := 17) hC ic_0 dX12_in_17 ?_
      obtain rfl := Option.some.inj h
      exact u_zret (pc := 18) hC hQ hr (by decide) ⟨rfl, rfl⟩ dX12_in_18
    · replace h := of_f c10 h
      refine u_iconst (pc := 13) hC ic_1 dX12_in_13 ?_
      refine u_goto (pc := 14) hC 18 dX12_in_14 (by decide) ?_
      obtain rfl := Option.some.inj h
      exact u_zret (pc := 18) hC hQ hr (by decide) ⟨rfl, rfl⟩ dX12_in_18
set_option maxHeartbeats 4000000 in
set_option maxRecDepth 100000 in
theorem c_X12_held {l : Launch} {G : GG} {d : Nat} (hd : 0 ≤ d) {μ : Mem} {a0 : Int32} {a1 : Int32} {a2 : Int32} {r : Int32} (h : f_X12_held a0 a1 a2 = some r) : CT l yX12_held cX12_held 3 (some .int) d G [.int a0, .int a1, .int a2] μ (RK (some (.int r)) μ) := by
  refine ct_start (by decide) (Nat.le_of_ble_eq_true rfl) (fun C hl1 hG1 hC hQ hr => ?_)
  subst hl1; subst hG1
  have hC : CxOK C cX12_held 3 RX12 d := hC
  show UW C 3 μ 0 [(0, .int a0), (1, .int a1), (2, .int a2)] []
  unfold f_X12_held at h
  refine u_iload_n (pc := 0) hC dX12_held_0 rfl 0 rfl ?_
  refine u_iload_n (pc := 1) hC dX12_held_1 rfl 1 rfl ?_
  refine u_icmp_ge (pc := 2) hC (tgt := 9) dX12_held_2 (by decide) (fun c2 => ?_) (fun c2 => ?_)
  · replace h := of_t c2 h
    refine u_iload_n (pc := 9) hC dX12_held_9 rfl 0 rfl ?_
    refine u_iload_n (pc := 10) hC dX12_held_10 rfl 2 rfl ?_
    refine u_icmp_le (pc := 11) hC (tgt := 18) dX12_held_11 (by decide) (fun c11 => ?_) (fun c11 => ?_)
    · replace h := of_t c11 h
      refine u_iload_n (pc := 18) hC dX12_held_18 rfl 0 rfl ?_
      obtain rfl := Option.some.inj h
      exact u_iret (pc := 19) hC hQ hr ⟨rfl, rfl⟩ dX12_held_19
    · replace h := of_f c11 h
      refine u_iload_n (pc := 14) hC dX12_held_14 rfl 2 rfl ?_
      refine u_goto (pc := 15) hC 19 dX12_held_15 (by decide) ?_
      obtain rfl := Option.some.inj h
      exact u_iret (pc := 19) hC hQ hr ⟨rfl, rfl⟩ dX12_held_19
  · replace h := of_f c2 h
    refine u_iload_n (pc := 5) hC dX12_held_5 rfl 1 rfl ?_
    refine u_goto (pc := 6) hC 19 dX12_held_6 (by decide) ?_
    obtain rfl := Option.some.inj h
    exact u_iret (pc := 19) hC hQ hr ⟨rfl, rfl⟩ dX12_held_19
set_option maxHeartbeats 4000000 in
set_option maxRecDepth 100000 in
theorem c_X12_isFact {l : Launch} {G : GG} {d : Nat} (hd : 1 ≤ d) {μ : Mem} {k0 : Nat} (hk0 : isC 12 k0) {a1 : Int32} {r : Int32} (h : f_X12_isFact μ k0 a1 = some r) : CT l yX12_isFact cX12_isFact 2 (some .boolean) d G [.ref (gad G k0), .int a1] μ (RK (some (.int r)) μ) := by
  refine ct_start (by decide) (Nat.le_of_ble_eq_true rfl) (fun C hl1 hG1 hC hQ hr => ?_)
  subst hl1; subst hG1
  have hC : CxOK C cX12_isFact 2 RX12 d := hC
  show UW C 2 μ 0 [(0, .ref (gad (cG C) k0)), (1, .int a1)] []
  unfold f_X12_isFact at h
  refine u_iload_n (pc := 0) hC dX12_isFact_0 rfl 1 rfl ?_
  refine u_i2l (pc := 1) hC dX12_isFact_1 ?_
  refine u_lconst (pc := 2) hC (v := (0 : Int64)) rfl dX12_isFact_2 ?_
  refine u_aload_n (pc := 3) hC dX12_isFact_3 rfl 0 rfl ?_
  refine g_RX12_7 (pc := 4) hC hk0 dX12_isFact_4 ?_
  refine u_iconst (pc := 7) hC ic_0 dX12_isFact_7 ?_
  refine u_iald (pc := 8) hC (rs_12_0 hk0) 342 (rn_12_0 hk0) (by decide) dX12_isFact_8 ?_
  refine u_iconst (pc := 9) hC ic_1 dX12_isFact_9 ?_
  refine u_isub (pc := 10) hC dX12_isFact_10 ?_
  refine u_i2l (pc := 11) hC dX12_isFact_11 ?_
  obtain ⟨r12, q12, h⟩ := of_bd h
  refine k_RX12_57 (pc := 12) hC (av := [.long a1.toInt64, .long (0 : Int64), .long (((rd μ (rf k0 0) (0 : Int32).toNatClampNeg) - (1 : Int32)).toInt64)]) (rest := []) (c_X12_in (d := d - 1) (by omega)  q12) (by omega) (Nat.le_of_ble_eq_true rfl) rfl rfl dX12_isFact_12 ?_
  obtain ⟨b15, h⟩ := of_gd h
  obtain rfl := Option.some.inj h
  exact u_zret (pc := 15) hC hQ hr b15 ⟨rfl, rfl⟩ dX12_isFact_15
set_option maxHeartbeats 4000000 in
set_option maxRecDepth 100000 in
theorem c_X12_isDebtor {l : Launch} {G : GG} {d : Nat} (hd : 1 ≤ d) {μ : Mem} {k0 : Nat} (hk0 : isC 12 k0) {a1 : Int32} {r : Int32} (h : f_X12_isDebtor μ k0 a1 = some r) : CT l yX12_isDebtor cX12_isDebtor 2 (some .boolean) d G [.ref (gad G k0), .int a1] μ (RK (some (.int r)) μ) := by
  refine ct_start (by decide) (Nat.le_of_ble_eq_true rfl) (fun C hl1 hG1 hC hQ hr => ?_)
  subst hl1; subst hG1
  have hC : CxOK C cX12_isDebtor 2 RX12 d := hC
  show UW C 2 μ 0 [(0, .ref (gad (cG C) k0)), (1, .int a1)] []
  unfold f_X12_isDebtor at h
  refine u_iload_n (pc := 0) hC dX12_isDebtor_0 rfl 1 rfl ?_
  refine u_i2l (pc := 1) hC dX12_isDebtor_1 ?_
  refine u_lconst (pc := 2) hC (v := (0 : Int64)) rfl dX12_isDebtor_2 ?_
  refine u_aload_n (pc := 3) hC dX12_isDebtor_3 rfl 0 rfl ?_
  refine g_RX12_7 (pc := 4) hC hk0 dX12_isDebtor_4 ?_
  refine u_iconst (pc := 7) hC ic_1 dX12_isDebtor_7 ?_
  refine u_iald (pc := 8) hC (rs_12_0 hk0) 342 (rn_12_0 hk0) (by decide) dX12_isDebtor_8 ?_
  refine u_iconst (pc := 9) hC ic_1 dX12_isDebtor_9 ?_
  refine u_isub (pc := 10) hC dX12_isDebtor_10 ?_
  refine u_i2l (pc := 11) hC dX12_isDebtor_11 ?_
  obtain ⟨r12, q12, h⟩ := of_bd h
  refine k_RX12_57 (pc := 12) hC (av := [.long a1.toInt64, .long (0 : Int64), .long (((rd μ (rf k0 0) (1 : Int32).toNatClampNeg) - (1 : Int32)).toInt64)]) (rest := []) (c_X12_in (d := d - 1) (by omega)  q12) (by omega) (Nat.le_of_ble_eq_true rfl) rfl rfl dX12_isDebtor_12 ?_
  obtain ⟨b15, h⟩ := of_gd h
  obtain rfl := Option.some.inj h
  exact u_zret (pc := 15) hC hQ hr b15 ⟨rfl, rfl⟩ dX12_isDebtor_15
set_option maxHeartbeats 4000000 in
set_option maxRecDepth 100000 in
theorem c_X12_its {l : Launch} {G : GG} {d : Nat} (hd : 0 ≤ d) {μ : Mem} {k0 : Nat} (hk0 : isC 12 k0) {a1 : Int32} {a2 : Int32} {r : Int32} (h : f_X12_its μ k0 a1 a2 = some r) : CT l yX12_its cX12_its 3 (some .int) d G [.ref (gad G k0), .int a1, .int a2] μ (RK (some (.int r)) μ) := by
  refine ct_start (by decide) (Nat.le_of_ble_eq_true rfl) (fun C hl1 hG1 hC hQ hr => ?_)
  subst hl1; subst hG1
  have hC : CxOK C cX12_its 3 RX12 d := hC
  show UW C 3 μ 0 [(0, .ref (gad (cG C) k0)), (1, .int a1), (2, .int a2)] []
  unfold f_X12_its at h
  refine u_aload_n (pc := 0) hC dX12_its_0 rfl 0 rfl ?_
  refine g_RX12_7 (pc := 1) hC hk0 dX12_its_1 ?_
  refine u_bipush (pc := 4) hC bc_10 dX12_its_4 ?_
  refine u_iconst (pc := 6) hC ic_5 dX12_its_6 ?_
  refine u_iload_n (pc := 7) hC dX12_its_7 rfl 1 rfl ?_
  refine u_imul (pc := 8) hC dX12_its_8 ?_
  refine u_iadd (pc := 9) hC dX12_its_9 ?_
  refine u_iload_n (pc := 10) hC dX12_its_10 rfl 2 rfl ?_
  refine u_iadd (pc := 11) hC dX12_its_11 ?_
  obtain ⟨b12, h⟩ := of_gd h
  refine u_iald (pc := 12) hC (rs_12_0 hk0) 342 (rn_12_0 hk0) b12 dX12_its_12 ?_
  obtain rfl := Option.some.inj h
  exact u_iret (pc := 13) hC hQ hr ⟨rfl, rfl⟩ dX12_its_13
set_option maxHeartbeats 4000000 in
set_option maxRecDepth 100000 in
theorem c_X12_puts {l : Launch} {G : GG} {d : Nat} (hd : 0 ≤ d) {μ : Mem} {k0 : Nat} (hk0 : isC 12 k0) {a1 : Int32} {a2 : Int32} {a3 : Int32} {r : Mem} (h : f_X12_puts μ k0 a1 a2 a3 = some r) : CT l yX12_puts cX12_puts 4 none d G [.ref (gad G k0), .int a1, .int a2, .int a3] μ (RK none r) := by
  refine ct_start (by decide) (Nat.le_of_ble_eq_true rfl) (fun C hl1 hG1 hC hQ hr => ?_)
  subst hl1; subst hG1
  have hC : CxOK C cX12_puts 4 RX12 d := hC
  show UW C 4 μ 0 [(0, .ref (gad (cG C) k0)), (1, .int a1), (2, .int a2), (3, .int a3)] []
  unfold f_X12_puts at h
  refine u_aload_n (pc := 0) hC dX12_puts_0 rfl 0 rfl ?_
  refine g_RX12_7 (pc := 1) hC hk0 dX12_puts_1 ?_
  refine u_bipush (pc := 4) hC bc_10 dX12_puts_4 ?_
  refine u_iconst (pc := 6) hC ic_5 dX12_puts_6 ?_
  refine u_iload_n (pc := 7) hC dX12_puts_7 rfl 1 rfl ?_
  refine u_imul (pc := 8) hC dX12_puts_8 ?_
  refine u_iadd (pc := 9) hC dX12_puts_9 ?_
  refine u_iload_n (pc := 10) hC dX12_puts_10 rfl 2 rfl ?_
  refine u_iadd (pc := 11) hC dX12_puts_11 ?_
  refine u_iload_n (pc := 12) hC dX12_puts_12 rfl 3 rfl ?_
  obtain ⟨b13, h⟩ := of_gd h
  obtain ⟨m13, q13, h⟩ := of_bd h
  refine u_iast (pc := 13) hC (rs_12_0 hk0) 342 (rn_12_0 hk0) b13 dX12_puts_13 (Option.some.inj q13) ?_
  obtain rfl := Option.some.inj h
  exact u_vret (pc := 14) hC hQ hr ⟨rfl, rfl⟩ dX12_puts_14
set_option maxHeartbeats 4000000 in
set_option maxRecDepth 100000 in
theorem c_X12_of {l : Launch} {G : GG} {d : Nat} (hd : 0 ≤ d) {μ : Mem} {k0 : Nat} (hk0 : isC 12 k0) {a1 : Int32} {a2 : Int32} {r : Int32} (h : f_X12_of μ k0 a1 a2 = some r) : CT l yX12_of cX12_of 3 (some .int) d G [.ref (gad G k0), .int a1, .int a2] μ (RK (some (.int r)) μ) := by
  refine ct_start (by decide) (Nat.le_of_ble_eq_true rfl) (fun C hl1 hG1 hC hQ hr => ?_)
  subst hl1; subst hG1
  have hC : CxOK C cX12_of 3 RX12 d := hC
  show UW C 3 μ 0 [(0, .ref (gad (cG C) k0)), (1, .int a1), (2, .int a2)] []
  unfold f_X12_of at h
  refine u_aload_n (pc := 0) hC dX12_of_0 rfl 0 rfl ?_
  refine g_RX12_7 (pc := 1) hC hk0 dX12_of_1 ?_
  refine u_bipush (pc := 4) hC bc_50 dX12_of_4 ?_
  refine u_bipush (pc := 6) hC bc_21 dX12_of_6 ?_
  refine u_iload_n (pc := 8) hC dX12_of_8 rfl 1 rfl ?_
  refine u_imul (pc := 9) hC dX12_of_9 ?_
  refine u_iadd (pc := 10) hC dX12_of_10 ?_
  refine u_iload_n (pc := 11) hC dX12_of_11 rfl 2 rfl ?_
  refine u_iadd (pc := 12) hC dX12_of_12 ?_
  obtain ⟨b13, h⟩ := of_gd h
  refine u_iald (pc := 13) hC (rs_12_0 hk0) 342 (rn_12_0 hk0) b13 dX12_of_13 ?_
  obtain rfl := Option.some.inj h
  exact u_iret (pc := 14) hC hQ hr ⟨rfl, rfl⟩ dX12_of_14
set_option maxHeartbeats 4000000 in
set_option maxRecDepth 100000 in
theorem c_X12_sets {l : Launch} {G : GG} {d : Nat} (hd : 0 ≤ d) {μ : Mem} {k0 : Nat} (hk0 : isC 12 k0) {a1 : Int32} {a2 : Int32} {a3 : Int32} {r : Mem} (h : f_X12_sets μ k0 a1 a2 a3 = some r) : CT l yX12_sets cX12_sets 4 none d G [.ref (gad G k0), .int a1, .int a2, .int a3] μ (RK none r) := by
  refine ct_start (by decide) (Nat.le_of_ble_eq_true rfl) (fun C hl1 hG1 hC hQ hr => ?_)
  subst hl1; subst hG1
  have hC : CxOK C cX12_sets 4 RX12 d := hC
  show UW C 4 μ 0 [(0, .ref (gad (cG C) k0)), (1, .int a1), (2, .int a2), (3, .int a3)] []
  unfold f_X12_sets at h
  refine u_aload_n (pc := 0) hC dX12_sets_0 rfl 0 rfl ?_
  refine g_RX12_7 (pc := 1) hC hk0 dX12_sets_1 ?_
  refine u_bipush (pc := 4) hC bc_50 dX12_sets_4 ?_
  refine u_bipush (pc := 6) hC bc_21 dX12_sets_6 ?_
  refine u_iload_n (pc := 8) hC dX12_sets_8 rfl 1 rfl ?_
  refine u_imul (pc := 9) hC dX12_sets_9 ?_
  refine u_iadd (pc := 10) hC dX12_sets_10 ?_
  refine u_iload_n (pc := 11) hC dX12_sets_11 rfl 2 rfl ?_
  refine u_iadd (pc := 12) hC dX12_sets_12 ?_
  refine u_iload_n (pc := 13) hC dX12_sets_13 rfl 3 rfl ?_
  obtain ⟨b14, h⟩ := of_gd h
  obtain ⟨m14, q14, h⟩ := of_bd h
  refine u_iast (pc := 14) hC (rs_12_0 hk0) 342 (rn_12_0 hk0) b14 dX12_sets_14 (Option.some.inj q14) ?_
  obtain rfl := Option.some.inj h
  exact u_vret (pc := 15) hC hQ hr ⟨rfl, rfl⟩ dX12_sets_15
set_option maxHeartbeats 4000000 in
set_option maxRecDepth 100000 in
theorem c_X12_ones {l : Launch} {G : GG} {d : Nat} (hd : 0 ≤ d) {μ : Mem} {a0 : Int32} {r : Int32} (h : f_X12_ones a0 = some r) : CT l yX12_ones cX12_ones 3 (some .int) d G [.int a0] μ (RK (some (.int r)) μ) := by
  refine ct_start (by decide) (Nat.le_of_ble_eq_true rfl) (fun C hl1 hG1 hC hQ hr => ?_)
  subst hl1; subst hG1
  have hC : CxOK C cX12_ones 3 RX12 d := hC
  show UW C 3 μ 0 [(0, .int a0)] []
  have lw4 : ∀ (e : (Int32)) (s : Int32 × Int32), lp (fun s => f_X12_ones_l4 a0 s.1 s.2) FU s = some e → (fun (e : (Int32)) => UW C 3 μ 24 [(1, .int e)] []) e → UW C 3 μ 4 [(0, .int a0), (1, .int s.1), (2, .int s.2)] [] := by
    intro e s hl hE0
    refine @lp_walk (Int32 × Int32) (Int32) (fun s => f_X12_ones_l4 a0 s.1 s.2) (fun s => UW C 3 μ 4 [(0, .int a0), (1, .int s.1), (2, .int s.2)] []) (fun (e : (Int32)) => UW C 3 μ 24 [(1, .int e)] []) (fun s y4 h hP4 hE4 => ?_) FU s e hl hE0
    obtain ⟨v1_4, v2_4⟩ := s
    replace h : f_X12_ones_l4 a0 v1_4 v2_4 = some y4 := h
    show UW C 3 μ 4 [(0, .int a0), (1, .int v1_4), (2, .int v2_4)] []
    unfold f_X12_ones_l4 at h
    refine u_iload_n (pc := 4) hC dX12_ones_4 rfl 2 rfl ?_
    refine u_bipush (pc := 5) hC bc_8 dX12_ones_5 ?_
    refine u_icmp_ge (pc := 7) hC (tgt := 24) dX12_ones_7 (by decide) (fun c7 => ?_) (fun c7 => ?_)
    · replace h := of_t c7 h
      obtain rfl := Option.some.inj h
      refine u_sub [1] rfl ?_
      exact hE4 v1_4 rfl
    · replace h := of_f c7 h
      refine u_iload_n (pc := 10) hC dX12_ones_10 rfl 1 rfl ?_
      refine u_iload_n (pc := 11) hC dX12_ones_11 rfl 0 rfl ?_
      refine u_iload_n (pc := 12) hC dX12_ones_12 rfl 2 rfl ?_
      refine u_ishr (pc := 13) hC dX12_ones_13 ?_
      refine u_iconst (pc := 14) hC ic_1 dX12_ones_14 ?_
      refine u_iand (pc := 15) hC dX12_ones_15 ?_
      refine u_iadd (pc := 16) hC dX12_ones_16 ?_
      refine u_istore_n (pc := 17) hC dX12_ones_17 rfl [(1, .int (v1_4 + ((jshr a0 v2_4) &&& (1 : Int32)))), (0, .int a0), (2, .int v2_4)] (by decide) rfl ?_
      refine u_iinc (pc := 18) hC dX12_ones_18 2 rfl (v2_4 + 1) rfl [(2, .int (v2_4 + 1)), (1, .int (v1_4 + ((jshr a0 v2_4) &&& (1 : Int32)))), (0, .int a0)] (by decide) rfl ?_
      refine u_goto (pc := 21) hC 4 dX12_ones_21 (by decide) ?_
      obtain rfl := Option.some.inj h
      refine u_sub [2, 1, 0] rfl ?_
      exact hP4 (v1_4 + ((jshr a0 v2_4) &&& (1 : Int32)), v2_4 + 1) rfl
  unfold f_X12_ones at h
  refine u_iconst (pc := 0) hC ic_0 dX12_ones_0 ?_
  refine u_istore_n (pc := 1) hC dX12_ones_1 rfl [(1, .int (0 : Int32)), (0, .int a0)] (by decide) rfl ?_
  refine u_iconst (pc := 2) hC ic_0 dX12_ones_2 ?_
  refine u_istore_n (pc := 3) hC dX12_ones_3 rfl [(2, .int (0 : Int32)), (1, .int (0 : Int32)), (0, .int a0)] (by decide) rfl ?_
  obtain ⟨e4, l4, h⟩ := of_bd h
  refine u_sub [2, 1, 0] rfl ?_
  refine lw4  e4 ((0 : Int32), (0 : Int32)) l4 ?_
  show UW C 3 μ 24 [(1, .int e4)] []
  refine u_iload_n (pc := 24) hC dX12_ones_24 rfl 0 rfl ?_
  obtain rfl := Option.some.inj h
  exact u_iret (pc := 25) hC hQ hr ⟨rfl, rfl⟩ dX12_ones_25
set_option maxHeartbeats 4000000 in
set_option maxRecDepth 100000 in
theorem c_X12_keepAside {l : Launch} {G : GG} {d : Nat} (hd : 0 ≤ d) {μ : Mem} {k0 : Nat} (hk0 : isC 12 k0) {r : Mem} (h : f_X12_keepAside μ k0 = some r) : CT l yX12_keepAside cX12_keepAside 2 none d G [.ref (gad G k0)] μ (RK none r) := by
  refine ct_start (by decide) (Nat.le_of_ble_eq_true rfl) (fun C hl1 hG1 hC hQ hr => ?_)
  subst hl1; subst hG1
  have hC : CxOK C cX12_keepAside 2 RX12 d := hC
  show UW C 2 μ 0 [(0, .ref (gad (cG C) k0))] []
  have lw2 : ∀ (e : (Mem)) (s : Int32 × Mem), lp (fun s => f_X12_keepAside_l2 k0 s.1 s.2) FU s = some e → (fun (e : (Mem)) => UW C 2 e 27 [] []) e → UW C 2 s.2 2 [(0, .ref (gad (cG C) k0)), (1, .int s.1)] [] := by
    intro e s hl hE0
    refine @lp_walk (Int32 × Mem) (Mem) (fun s => f_X12_keepAside_l2 k0 s.1 s.2) (fun s => UW C 2 s.2 2 [(0, .ref (gad (cG C) k0)), (1, .int s.1)] []) (fun (e : (Mem)) => UW C 2 e 27 [] []) (fun s y2 h hP2 hE2 => ?_) FU s e hl hE0
    obtain ⟨v1_2, μ_2⟩ := s
    replace h : f_X12_keepAside_l2 k0 v1_2 μ_2 = some y2 := h
    show UW C 2 μ_2 2 [(0, .ref (gad (cG C) k0)), (1, .int v1_2)] []
    unfold f_X12_keepAside_l2 at h
    refine u_iload_n (pc := 2) hC dX12_keepAside_2 rfl 1 rfl ?_
    refine u_sipush (pc := 3) hC sc_170 dX12_keepAside_3 ?_
    refine u_icmp_ge (pc := 6) hC (tgt := 27) dX12_keepAside_6 (by decide) (fun c6 => ?_) (fun c6 => ?_)
    · replace h := of_t c6 h
      obtain rfl := Option.some.inj h
      refine u_sub [] rfl ?_
      exact hE2 μ_2 rfl
    · replace h := of_f c6 h
      refine u_aload_n (pc := 9) hC dX12_keepAside_9 rfl 0 rfl ?_
      refine g_RX12_16 (pc := 10) hC hk0 dX12_keepAside_10 ?_
      refine u_iload_n (pc := 13) hC dX12_keepAside_13 rfl 1 rfl ?_
      refine u_aload_n (pc := 14) hC dX12_keepAside_14 rfl 0 rfl ?_
      refine g_RX12_7 (pc := 15) hC hk0 dX12_keepAside_15 ?_
      refine u_iload_n (pc := 18) hC dX12_keepAside_18 rfl 1 rfl ?_
      obtain ⟨b19, h⟩ := of_gd h
      refine u_iald (pc := 19) hC (rs_12_0 hk0) 342 (rn_12_0 hk0) b19 dX12_keepAside_19 ?_
      obtain ⟨b20, h⟩ := of_gd h
      obtain ⟨m20, q20, h⟩ := of_bd h
      refine u_iast (pc := 20) hC (rs_12_2 hk0) 170 (rn_12_2 hk0) b20 dX12_keepAside_20 (Option.some.inj q20) ?_
      refine u_iinc (pc := 21) hC dX12_keepAside_21 1 rfl (v1_2 + 1) rfl [(1, .int (v1_2 + 1)), (0, .ref (gad (cG C) k0))] (by decide) rfl ?_
      refine u_goto (pc := 24) hC 2 dX12_keepAside_24 (by decide) ?_
      obtain rfl := Option.some.inj h
      refine u_sub [1, 0] rfl ?_
      exact hP2 (v1_2 + 1, m20) rfl
  unfold f_X12_keepAside at h
  refine u_iconst (pc := 0) hC ic_0 dX12_keepAside_0 ?_
  refine u_istore_n (pc := 1) hC dX12_keepAside_1 rfl [(1, .int (0 : Int32)), (0, .ref (gad (cG C) k0))] (by decide) rfl ?_
  obtain ⟨e2, l2, h⟩ := of_bd h
  refine u_sub [1, 0] rfl ?_
  refine lw2  e2 ((0 : Int32), μ) l2 ?_
  show UW C 2 e2 27 [] []
  obtain rfl := Option.some.inj h
  exact u_vret (pc := 27) hC hQ hr ⟨rfl, rfl⟩ dX12_keepAside_27
set_option maxHeartbeats 4000000 in
set_option maxRecDepth 100000 in
theorem c_X12_putBack {l : Launch} {G : GG} {d : Nat} (hd : 0 ≤ d) {μ : Mem} {k0 : Nat} (hk0 : isC 12 k0) {r : Mem} (h : f_X12_putBack μ k0 = some r) : CT l yX12_putBack cX12_putBack 2 none d G [.ref (gad G k0)] μ (RK none r) := by
  refine ct_start (by decide) (Nat.le_of_ble_eq_true rfl) (fun C hl1 hG1 hC hQ hr => ?_)
  subst hl1; subst hG1
  have hC : CxOK C cX12_putBack 2 RX12 d := hC
  show UW C 2 μ 0 [(0, .ref (gad (cG C) k0))] []
  have lw2 : ∀ (e : (Mem)) (s : Int32 × Mem), lp (fun s => f_X12_putBack_l2 k0 s.1 s.2) FU s = some e → (fun (e : (Mem)) => UW C 2 e 27 [] []) e → UW C 2 s.2 2 [(0, .ref (gad (cG C) k0)), (1, .int s.1)] [] := by
    intro e s hl hE0
    refine @lp_walk (Int32 × Mem) (Mem) (fun s => f_X12_putBack_l2 k0 s.1 s.2) (fun s => UW C 2 s.2 2 [(0, .ref (gad (cG C) k0)), (1, .int s.1)] []) (fun (e : (Mem)) => UW C 2 e 27 [] []) (fun s y2 h hP2 hE2 => ?_) FU s e hl hE0
    obtain ⟨v1_2, μ_2⟩ := s
    replace h : f_X12_putBack_l2 k0 v1_2 μ_2 = some y2 := h
    show UW C 2 μ_2 2 [(0, .ref (gad (cG C) k0)), (1, .int v1_2)] []
    unfold f_X12_putBack_l2 at h
    refine u_iload_n (pc := 2) hC dX12_putBack_2 rfl 1 rfl ?_
    refine u_sipush (pc := 3) hC sc_170 dX12_putBack_3 ?_
    refine u_icmp_ge (pc := 6) hC (tgt := 27) dX12_putBack_6 (by decide) (fun c6 => ?_) (fun c6 => ?_)
    · replace h := of_t c6 h
      obtain rfl := Option.some.inj h
      refine u_sub [] rfl ?_
      exact hE2 μ_2 rfl
    · replace h := of_f c6 h
      refine u_aload_n (pc := 9) hC dX12_putBack_9 rfl 0 rfl ?_
      refine g_RX12_7 (pc := 10) hC hk0 dX12_putBack_10 ?_
      refine u_iload_n (pc := 13) hC dX12_putBack_13 rfl 1 rfl ?_
      refine u_aload_n (pc := 14) hC dX12_putBack_14 rfl 0 rfl ?_
      refine g_RX12_16 (pc := 15) hC hk0 dX12_putBack_15 ?_
      refine u_iload_n (pc := 18) hC dX12_putBack_18 rfl 1 rfl ?_
      obtain ⟨b19, h⟩ := of_gd h
      refine u_iald (pc := 19) hC (rs_12_2 hk0) 170 (rn_12_2 hk0) b19 dX12_putBack_19 ?_
      obtain ⟨b20, h⟩ := of_gd h
      obtain ⟨m20, q20, h⟩ := of_bd h
      refine u_iast (pc := 20) hC (rs_12_0 hk0) 342 (rn_12_0 hk0) b20 dX12_putBack_20 (Option.some.inj q20) ?_
      refine u_iinc (pc := 21) hC dX12_putBack_21 1 rfl (v1_2 + 1) rfl [(1, .int (v1_2 + 1)), (0, .ref (gad (cG C) k0))] (by decide) rfl ?_
      refine u_goto (pc := 24) hC 2 dX12_putBack_24 (by decide) ?_
      obtain rfl := Option.some.inj h
      refine u_sub [1, 0] rfl ?_
      exact hP2 (v1_2 + 1, m20) rfl
  unfold f_X12_putBack at h
  refine u_iconst (pc := 0) hC ic_0 dX12_putBack_0 ?_
  refine u_istore_n (pc := 1) hC dX12_putBack_1 rfl [(1, .int (0 : Int32)), (0, .ref (gad (cG C) k0))] (by decide) rfl ?_
  obtain ⟨e2, l2, h⟩ := of_bd h
  refine u_sub [1, 0] rfl ?_
  refine lw2  e2 ((0 : Int32), μ) l2 ?_
  show UW C 2 e2 27 [] []
  obtain rfl := Option.some.inj h
  exact u_vret (pc := 27) hC hQ hr ⟨rfl, rfl⟩ dX12_putBack_27
set_option maxHeartbeats 4000000 in
set_option maxRecDepth 100000 in
theorem c_X12_here {l : Launch} {G : GG} {d : Nat} (hd : 0 ≤ d) {μ : Mem} {k0 : Nat} (hk0 : isC 12 k0) {r : Int32} (h : f_X12_here μ k0 = some r) : CT l yX12_here cX12_here 1 (some .int) d G [.ref (gad G k0)] μ (RK (some (.int r)) μ) := by
  refine ct_start (by decide) (Nat.le_of_ble_eq_true rfl) (fun C hl1 hG1 hC hQ hr => ?_)
  subst hl1; subst hG1
  have hC : CxOK C cX12_here 1 RX12 d := hC
  show UW C 1 μ 0 [(0, .ref (gad (cG C) k0))] []
  unfold f_X12_here at h
  refine u_aload_n (pc := 0) hC dX12_here_0 rfl 0 rfl ?_
  refine g_RX12_61 (pc := 1) hC hk0 dX12_here_1 ?_
  refine u_aload_n (pc := 4) hC dX12_here_4 rfl 0 rfl ?_
  refine g_RX12_64 (pc := 5) hC hk0 dX12_here_5 ?_
  refine u_icmp_ge (pc := 8) hC (tgt := 35) dX12_here_8 (by decide) (fun c8 => ?_) (fun c8 => ?_)
  · replace h := of_t c8 h
    refine u_iconst (pc := 35) hC ic_m1 dX12_here_35 ?_
    obtain rfl := Option.some.inj h
    exact u_iret (pc := 36) hC hQ hr ⟨rfl, rfl⟩ dX12_here_36
  · replace h := of_f c8 h
    refine u_aload_n (pc := 11) hC dX12_here_11 rfl 0 rfl ?_
    refine g_RX12_67 (pc := 12) hC hk0 dX12_here_12 ?_
    refine u_if_ge (pc := 15) hC (tgt := 35) dX12_here_15 (by decide) (fun c15 => ?_) (fun c15 => ?_)
    · replace h := of_t c15 h
      refine u_iconst (pc := 35) hC ic_m1 dX12_here_35 ?_
      obtain rfl := Option.some.inj h
      exact u_iret (pc := 36) hC hQ hr ⟨rfl, rfl⟩ dX12_here_36
    · replace h := of_f c15 h
      refine u_aload_n (pc := 18) hC dX12_here_18 rfl 0 rfl ?_
      refine g_RX12_7 (pc := 19) hC hk0 dX12_here_19 ?_
      refine u_aload_n (pc := 22) hC dX12_here_22 rfl 0 rfl ?_
      refine g_RX12_70 (pc := 23) hC hk0 dX12_here_23 ?_
      refine u_aload_n (pc := 26) hC dX12_here_26 rfl 0 rfl ?_
      refine g_RX12_61 (pc := 27) hC hk0 dX12_here_27 ?_
      refine u_iadd (pc := 30) hC dX12_here_30 ?_
      obtain ⟨b31, h⟩ := of_gd h
      refine u_iald (pc := 31) hC (rs_12_0 hk0) 342 (rn_12_0 hk0) b31 dX12_here_31 ?_
      refine u_goto (pc := 32) hC 36 dX12_here_32 (by decide) ?_
      obtain rfl := Option.some.inj h
      exact u_iret (pc := 36) hC hQ hr ⟨rfl, rfl⟩ dX12_here_36
set_option maxHeartbeats 4000000 in
set_option maxRecDepth 100000 in
theorem c_X12_wrong {l : Launch} {G : GG} {d : Nat} (hd : 0 ≤ d) {μ : Mem} {k0 : Nat} (hk0 : isC 12 k0) {r : Int32 × Mem} (h : f_X12_wrong μ k0 = some r) : CT l yX12_wrong cX12_wrong 1 (some .int) d G [.ref (gad G k0)] μ (RK (some (.int r.1)) r.2) := by
  refine ct_start (by decide) (Nat.le_of_ble_eq_true rfl) (fun C hl1 hG1 hC hQ hr => ?_)
  subst hl1; subst hG1
  have hC : CxOK C cX12_wrong 1 RX12 d := hC
  show UW C 1 μ 0 [(0, .ref (gad (cG C) k0))] []
  have jb19 : ∀ (μ_19 : Mem) (kt0_19 : Nat) (hkt0_19 : isC 12 kt0_19) (vt1_19 : Int32), f_X12_wrong_j19 μ_19 k0 kt0_19 vt1_19 = some r → UW C 1 μ_19 19 [] [.int vt1_19, .ref (gad (cG C) kt0_19)] := by
    intro μ_19 kt0_19 hkt0_19 vt1_19 h
    unfold f_X12_wrong_j19 at h
    obtain ⟨m19, q19, h⟩ := of_bd h
    refine p_RX12_67 (pc := 19) hC hkt0_19 dX12_wrong_19 (Option.some.inj q19) ?_
    refine u_iconst (pc := 22) hC ic_0 dX12_wrong_22 ?_
    obtain rfl := Option.some.inj h
    exact u_iret (pc := 23) hC hQ hr ⟨rfl, rfl⟩ dX12_wrong_23
  unfold f_X12_wrong at h
  refine u_aload_n (pc := 0) hC dX12_wrong_0 rfl 0 rfl ?_
  refine u_aload_n (pc := 1) hC dX12_wrong_1 rfl 0 rfl ?_
  refine g_RX12_67 (pc := 2) hC hk0 dX12_wrong_2 ?_
  refine u_if_ge (pc := 5) hC (tgt := 15) dX12_wrong_5 (by decide) (fun c5 => ?_) (fun c5 => ?_)
  · replace h := of_t c5 h
    refine u_aload_n (pc := 15) hC dX12_wrong_15 rfl 0 rfl ?_
    refine g_RX12_67 (pc := 16) hC hk0 dX12_wrong_16 ?_
    refine u_sub [] rfl ?_
    exact jb19 μ k0 hk0 (rd μ k0 8) h
  · replace h := of_f c5 h
    refine u_aload_n (pc := 8) hC dX12_wrong_8 rfl 0 rfl ?_
    refine g_RX12_61 (pc := 9) hC hk0 dX12_wrong_9 ?_
    refine u_goto (pc := 12) hC 19 dX12_wrong_12 (by decide) ?_
    refine u_sub [] rfl ?_
    exact jb19 μ k0 hk0 (rd μ k0 6) h
set_option maxHeartbeats 4000000 in
set_option maxRecDepth 100000 in
theorem c_X12_takes {l : Launch} {G : GG} {d : Nat} (hd : 1 ≤ d) {μ : Mem} {k0 : Nat} (hk0 : isC 12 k0) {a1 : Int32} {r : Int32 × Mem} (h : f_X12_takes μ k0 a1 = some r) : CT l yX12_takes cX12_takes 2 (some .boolean) d G [.ref (gad G k0), .int a1] μ (RK (some (.int r.1)) r.2) := by
  refine ct_start (by decide) (Nat.le_of_ble_eq_true rfl) (fun C hl1 hG1 hC hQ hr => ?_)
  subst hl1; subst hG1
  have hC : CxOK C cX12_takes 2 RX12 d := hC
  show UW C 2 μ 0 [(0, .ref (gad (cG C) k0)), (1, .int a1)] []
  unfold f_X12_takes at h
  refine u_aload_n (pc := 0) hC dX12_takes_0 rfl 0 rfl ?_
  obtain ⟨r1, q1, h⟩ := of_bd h
  refine k_RX12_73 (pc := 1) hC (av := []) (rest := []) (c_X12_here (d := d - 1) (by omega) hk0 q1) (by omega) (Nat.le_of_ble_eq_true rfl) hk0 rfl rfl dX12_takes_1 ?_
  refine u_iload_n (pc := 4) hC dX12_takes_4 rfl 1 rfl ?_
  refine u_icmp_eq (pc := 5) hC (tgt := 10) dX12_takes_5 (by decide) (fun c5 => ?_) (fun c5 => ?_)
  · replace h := of_t c5 h
    refine u_aload_n (pc := 10) hC dX12_takes_10 rfl 0 rfl ?_
    refine u_dup (pc := 11) hC rfl dX12_takes_11 ?_
    refine g_RX12_61 (pc := 12) hC hk0 dX12_takes_12 ?_
    refine u_iconst (pc := 15) hC ic_1 dX12_takes_15 ?_
    refine u_iadd (pc := 16) hC dX12_takes_16 ?_
    obtain ⟨m17, q17, h⟩ := of_bd h
    refine p_RX12_61 (pc := 17) hC hk0 dX12_takes_17 (Option.some.inj q17) ?_
    refine u_iconst (pc := 20) hC ic_1 dX12_takes_20 ?_
    obtain rfl := Option.some.inj h
    exact u_zret (pc := 21) hC hQ hr (by decide) ⟨rfl, rfl⟩ dX12_takes_21
  · replace h := of_f c5 h
    refine u_iconst (pc := 8) hC ic_0 dX12_takes_8 ?_
    obtain rfl := Option.some.inj h
    exact u_zret (pc := 9) hC hQ hr (by decide) ⟨rfl, rfl⟩ dX12_takes_9
set_option maxHeartbeats 4000000 in
set_option maxRecDepth 100000 in
theorem c_X12_nameOf {l : Launch} {G : GG} {d : Nat} (hd : 0 ≤ d) {μ : Mem} {k0 : Nat} (hk0 : isC 12 k0) {a1 : Int32} {r : Int32} (h : f_X12_nameOf μ k0 a1 = some r) : CT l yX12_nameOf cX12_nameOf 2 (some .int) d G [.ref (gad G k0), .int a1] μ (RK (some (.int r)) μ) := by
  refine ct_start (by decide) (Nat.le_of_ble_eq_true rfl) (fun C hl1 hG1 hC hQ hr => ?_)
  subst hl1; subst hG1
  have hC : CxOK C cX12_nameOf 2 RX12 d := hC
  show UW C 2 μ 0 [(0, .ref (gad (cG C) k0)), (1, .int a1)] []
  unfold f_X12_nameOf at h
  refine u_aload_n (pc := 0) hC dX12_nameOf_0 rfl 0 rfl ?_
  refine g_RX12_77 (pc := 1) hC hk0 dX12_nameOf_1 ?_
  refine u_if_eq (pc := 4) hC (tgt := 39) dX12_nameOf_4 (by decide) (fun c4 => ?_) (fun c4 => ?_)
  · replace h := of_t c4 h
    refine u_iload_n (pc := 39) hC dX12_nameOf_39 rfl 1 rfl ?_
    refine u_bipush (pc := 40) hC bc_102 dX12_nameOf_40 ?_
    refine u_icmp_ne (pc := 42) hC (tgt := 49) dX12_nameOf_42 (by decide) (fun c42 => ?_) (fun c42 => ?_)
    · replace h := of_t c42 h
      refine u_iload_n (pc := 49) hC dX12_nameOf_49 rfl 1 rfl ?_
      refine u_bipush (pc := 50) hC bc_119 dX12_nameOf_50 ?_
      refine u_icmp_ne (pc := 52) hC (tgt := 59) dX12_nameOf_52 (by decide) (fun c52 => ?_) (fun c52 => ?_)
      · replace h := of_t c52 h
        refine u_iload_n (pc := 59) hC dX12_nameOf_59 rfl 1 rfl ?_
        refine u_bipush (pc := 60) hC bc_100 dX12_nameOf_60 ?_
        refine u_icmp_ne (pc := 62) hC (tgt := 69) dX12_nameOf_62 (by decide) (fun c62 => ?_) (fun c62 => ?_)
        · replace h := of_t c62 h
          refine u_iconst (pc := 69) hC ic_m1 dX12_nameOf_69 ?_
          obtain rfl := Option.some.inj h
          exact u_iret (pc := 70) hC hQ hr ⟨rfl, rfl⟩ dX12_nameOf_70
        · replace h := of_f (fun q => q c62) h
          refine u_iconst (pc := 65) hC ic_2 dX12_nameOf_65 ?_
          refine u_goto (pc := 66) hC 70 dX12_nameOf_66 (by decide) ?_
          obtain rfl := Option.some.inj h
          exact u_iret (pc := 70) hC hQ hr ⟨rfl, rfl⟩ dX12_nameOf_70
      · replace h := of_f (fun q => q c52) h
        refine u_iconst (pc := 55) hC ic_1 dX12_nameOf_55 ?_
        refine u_goto (pc := 56) hC 70 dX12_nameOf_56 (by decide) ?_
        obtain rfl := Option.some.inj h
        exact u_iret (pc := 70) hC hQ hr ⟨rfl, rfl⟩ dX12_nameOf_70
    · replace h := of_f (fun q => q c42) h
      refine u_iconst (pc := 45) hC ic_0 dX12_nameOf_45 ?_
      refine u_goto (pc := 46) hC 70 dX12_nameOf_46 (by decide) ?_
      obtain rfl := Option.some.inj h
      exact u_iret (pc := 70) hC hQ hr ⟨rfl, rfl⟩ dX12_nameOf_70
  · replace h := of_f c4 h
    refine u_iload_n (pc := 7) hC dX12_nameOf_7 rfl 1 rfl ?_
    refine u_bipush (pc := 8) hC bc_100 dX12_nameOf_8 ?_
    refine u_icmp_ne (pc := 10) hC (tgt := 17) dX12_nameOf_10 (by decide) (fun c10 => ?_) (fun c10 => ?_)
    · replace h := of_t c10 h
      refine u_iload_n (pc := 17) hC dX12_nameOf_17 rfl 1 rfl ?_
      refine u_bipush (pc := 18) hC bc_111 dX12_nameOf_18 ?_
      refine u_icmp_ne (pc := 20) hC (tgt := 27) dX12_nameOf_20 (by decide) (fun c20 => ?_) (fun c20 => ?_)
      · replace h := of_t c20 h
        refine u_iload_n (pc := 27) hC dX12_nameOf_27 rfl 1 rfl ?_
        refine u_bipush (pc := 28) hC bc_110 dX12_nameOf_28 ?_
        refine u_icmp_ne (pc := 30) hC (tgt := 37) dX12_nameOf_30 (by decide) (fun c30 => ?_) (fun c30 => ?_)
        · replace h := of_t c30 h
          refine u_iconst (pc := 37) hC ic_m1 dX12_nameOf_37 ?_
          obtain rfl := Option.some.inj h
          exact u_iret (pc := 38) hC hQ hr ⟨rfl, rfl⟩ dX12_nameOf_38
        · replace h := of_f (fun q => q c30) h
          refine u_iconst (pc := 33) hC ic_2 dX12_nameOf_33 ?_
          refine u_goto (pc := 34) hC 38 dX12_nameOf_34 (by decide) ?_
          obtain rfl := Option.some.inj h
          exact u_iret (pc := 38) hC hQ hr ⟨rfl, rfl⟩ dX12_nameOf_38
      · replace h := of_f (fun q => q c20) h
        refine u_iconst (pc := 23) hC ic_1 dX12_nameOf_23 ?_
        refine u_goto (pc := 24) hC 38 dX12_nameOf_24 (by decide) ?_
        obtain rfl := Option.some.inj h
        exact u_iret (pc := 38) hC hQ hr ⟨rfl, rfl⟩ dX12_nameOf_38
    · replace h := of_f (fun q => q c10) h
      refine u_iconst (pc := 13) hC ic_0 dX12_nameOf_13 ?_
      refine u_goto (pc := 14) hC 38 dX12_nameOf_14 (by decide) ?_
      obtain rfl := Option.some.inj h
      exact u_iret (pc := 38) hC hQ hr ⟨rfl, rfl⟩ dX12_nameOf_38
set_option maxHeartbeats 4000000 in
set_option maxRecDepth 100000 in
theorem w_X12_both (g_X12_both : Mem → Nat → Option (Int32 × Mem)) (g_X12_compared : Mem → Nat → Option (Int32 × Mem)) (g_X12_either : Mem → Nat → Option (Int32 × Mem)) (g_X12_product : Mem → Nat → Option (Int32 × Mem)) (g_X12_sum : Mem → Nat → Option (Int32 × Mem)) (g_X12_unit : Mem → Nat → Option (Int32 × Mem)) {n : Nat} (ih_X12_both : ∀ {l : Launch} {G : GG} {d : Nat} (hd : n + 2 ≤ d) {μ : Mem} {k0 : Nat} (hk0 : isC 12 k0) {r : Int32 × Mem} (h : g_X12_both μ k0 = some r), CT l yX12_both cX12_both 3 (some .int) d G [.ref (gad G k0)] μ (RK (some (.int r.1)) r.2)) (ih_X12_compared : ∀ {l : Launch} {G : GG} {d : Nat} (hd : n + 2 ≤ d) {μ : Mem} {k0 : Nat} (hk0 : isC 12 k0) {r : Int32 × Mem} (h : g_X12_compared μ k0 = some r), CT l yX12_compared cX12_compared 4 (some .int) d G [.ref (gad G k0)] μ (RK (some (.int r.1)) r.2)) (ih_X12_either : ∀ {l : Launch} {G : GG} {d : Nat} (hd : n + 2 ≤ d) {μ : Mem} {k0 : Nat} (hk0 : isC 12 k0) {r : Int32 × Mem} (h : g_X12_either μ k0 = some r), CT l yX12_either cX12_either 3 (some .int) d G [.ref (gad G k0)] μ (RK (some (.int r.1)) r.2)) (ih_X12_product : ∀ {l : Launch} {G : GG} {d : Nat} (hd : n + 2 ≤ d) {μ : Mem} {k0 : Nat} (hk0 : isC 12 k0) {r : Int32 × Mem} (h : g_X12_product μ k0 = some r), CT l yX12_product cX12_product 4 (some .int) d G [.ref (gad G k0)] μ (RK (some (.int r.1)) r.2)) (ih_X12_sum : ∀ {l : Launch} {G : GG} {d : Nat} (hd : n + 2 ≤ d) {μ : Mem} {k0 : Nat} (hk0 : isC 12 k0) {r : Int32 × Mem} (h : g_X12_sum μ k0 = some r), CT l yX12_sum cX12_sum 4 (some .int) d G [.ref (gad G k0)] μ (RK (some (.int r.1)) r.2)) (ih_X12_unit : ∀ {l : Launch} {G : GG} {d : Nat} (hd : n + 2 ≤ d) {μ : Mem} {k0 : Nat} (hk0 : isC 12 k0) {r : Int32 × Mem} (h : g_X12_unit μ k0 = some r), CT l yX12_unit cX12_unit 5 (some .int) d G [.ref (gad G k0)] μ (RK (some (.int r.1)) r.2)) {l : Launch} {G : GG} {d : Nat} (hd : n + 1 + 2 ≤ d) {μ : Mem} {k0 : Nat} (hk0 : isC 12 k0) {r : Int32 × Mem} (h : F_X12_both g_X12_both g_X12_compared g_X12_either g_X12_product g_X12_sum g_X12_unit μ k0 = some r) : CT l yX12_both cX12_both 3 (some .int) d G [.ref (gad G k0)] μ (RK (some (.int r.1)) r.2) := by
  refine ct_start (by decide) (Nat.le_of_ble_eq_true rfl) (fun C hl1 hG1 hC hQ hr => ?_)
  subst hl1; subst hG1
  have hC : CxOK C cX12_both 3 RX12 d := hC
  show UW C 3 μ 0 [(0, .ref (gad (cG C) k0))] []
  have lw5 : ∀ (e : (Int32 × Mem)) (s : Int32 × Mem), lp (fun s => F_X12_both_l5 g_X12_both g_X12_compared g_X12_either g_X12_product g_X12_sum g_X12_unit k0 s.1 s.2) FU s = some e → (fun (e : (Int32 × Mem)) => UW C 3 e.2 36 [(1, .int e.1)] []) e → UW C 3 s.2 5 [(0, .ref (gad (cG C) k0)), (1, .int s.1)] [] := by
    intro e s hl hE0
    refine @lp_walk (Int32 × Mem) (Int32 × Mem) (fun s => F_X12_both_l5 g_X12_both g_X12_compared g_X12_either g_X12_product g_X12_sum g_X12_unit k0 s.1 s.2) (fun s => UW C 3 s.2 5 [(0, .ref (gad (cG C) k0)), (1, .int s.1)] []) (fun (e : (Int32 × Mem)) => UW C 3 e.2 36 [(1, .int e.1)] []) (fun s y5 h hP5 hE5 => ?_) FU s e hl hE0
    obtain ⟨v1_5, μ_5⟩ := s
    replace h : F_X12_both_l5 g_X12_both g_X12_compared g_X12_either g_X12_product g_X12_sum g_X12_unit k0 v1_5 μ_5 = some y5 := h
    show UW C 3 μ_5 5 [(0, .ref (gad (cG C) k0)), (1, .int v1_5)] []
    unfold F_X12_both_l5 at h
    refine u_aload_n (pc := 5) hC dX12_both_5 rfl 0 rfl ?_
    refine u_bipush (pc := 6) hC bc_38 dX12_both_6 ?_
    obtain ⟨p8, q8, h⟩ := of_bd h
    refine k_RX12_84 (pc := 8) hC (av := [.int (38 : Int32)]) (rest := []) (c_X12_takes (d := d - 1) (by omega) hk0 q8) (by omega) (Nat.le_of_ble_eq_true rfl) hk0 rfl rfl dX12_both_8 ?_
    refine u_if_eq (pc := 11) hC (tgt := 36) dX12_both_11 (by decide) (fun c11 => ?_) (fun c11 => ?_)
    · replace h := of_t c11 h
      obtain rfl := Option.some.inj h
      refine u_sub [1] rfl ?_
      exact hE5 (v1_5, p8.2) rfl
    · replace h := of_f c11 h
      refine u_aload_n (pc := 14) hC dX12_both_14 rfl 0 rfl ?_
      obtain ⟨p15, q15, h⟩ := of_bd h
      refine k_RX12_88 (pc := 15) hC (av := []) (rest := []) (ih_X12_compared (d := d - 1) (by omega) hk0 q15) (by omega) (Nat.le_of_ble_eq_true rfl) hk0 rfl rfl dX12_both_15 ?_
      refine u_istore_n (pc := 18) hC dX12_both_18 rfl [(2, .int p15.1), (0, .ref (gad (cG C) k0)), (1, .int v1_5)] (by decide) rfl ?_
      refine u_iload_n (pc := 19) hC dX12_both_19 rfl 2 rfl ?_
      refine u_if_eq (pc := 20) hC (tgt := 31) dX12_both_20 (by decide) (fun c20 => ?_) (fun c20 => ?_)
      · replace h := of_t c20 h
        refine u_iconst (pc := 31) hC ic_0 dX12_both_31 ?_
        refine u_istore_n (pc := 32) hC dX12_both_32 rfl [(1, .int (0 : Int32)), (2, .int p15.1), (0, .ref (gad (cG C) k0))] (by decide) rfl ?_
        refine u_goto (pc := 33) hC 5 dX12_both_33 (by decide) ?_
        obtain rfl := Option.some.inj h
        refine u_sub [2, 0] rfl ?_
        exact hP5 ((0 : Int32), p15.2) rfl
      · replace h := of_f c20 h
        refine u_iload_n (pc := 23) hC dX12_both_23 rfl 0 rfl ?_
        refine u_if_eq (pc := 24) hC (tgt := 31) dX12_both_24 (by decide) (fun c24 => ?_) (fun c24 => ?_)
        · replace h := of_t c24 h
          refine u_iconst (pc := 31) hC ic_0 dX12_both_31 ?_
          refine u_istore_n (pc := 32) hC dX12_both_32 rfl [(1, .int (0 : Int32)), (2, .int p15.1), (0, .ref (gad (cG C) k0))] (by decide) rfl ?_
          refine u_goto (pc := 33) hC 5 dX12_both_33 (by decide) ?_
          obtain rfl := Option.some.inj h
          refine u_sub [2, 0] rfl ?_
          exact hP5 ((0 : Int32), p15.2) rfl
        · replace h := of_f c24 h
          refine u_iconst (pc := 27) hC ic_1 dX12_both_27 ?_
          refine u_goto (pc := 28) hC 32 dX12_both_28 (by decide) ?_
          refine u_istore_n (pc := 32) hC dX12_both_32 rfl [(1, .int (1 : Int32)), (2, .int p15.1), (0, .ref (gad (cG C) k0))] (by decide) rfl ?_
          refine u_goto (pc := 33) hC 5 dX12_both_33 (by decide) ?_
          obtain rfl := Option.some.inj h
          refine u_sub [2, 0] rfl ?_
          exact hP5 ((1 : Int32), p15.2) rfl
  unfold F_X12_both at h
  refine u_aload_n (pc := 0) hC dX12_both_0 rfl 0 rfl ?_
  obtain ⟨p1, q1, h⟩ := of_bd h
  refine k_RX12_88 (pc := 1) hC (av := []) (rest := []) (ih_X12_compared (d := d - 1) (by omega) hk0 q1) (by omega) (Nat.le_of_ble_eq_true rfl) hk0 rfl rfl dX12_both_1 ?_
  refine u_istore_n (pc := 4) hC dX12_both_4 rfl [(1, .int p1.1), (0, .ref (gad (cG C) k0))] (by decide) rfl ?_
  obtain ⟨e5, l5, h⟩ := of_bd h
  refine u_sub [1, 0] rfl ?_
  refine lw5  e5 (p1.1, p1.2) l5 ?_
  show UW C 3 e5.2 36 [(1, .int e5.1)] []
  refine u_iload_n (pc := 36) hC dX12_both_36 rfl 0 rfl ?_
  obtain rfl := Option.some.inj h
  exact u_iret (pc := 37) hC hQ hr ⟨rfl, rfl⟩ dX12_both_37
set_option maxHeartbeats 4000000 in
set_option maxRecDepth 100000 in
theorem w_X12_compared (g_X12_both : Mem → Nat → Option (Int32 × Mem)) (g_X12_compared : Mem → Nat → Option (Int32 × Mem)) (g_X12_either : Mem → Nat → Option (Int32 × Mem)) (g_X12_product : Mem → Nat → Option (Int32 × Mem)) (g_X12_sum : Mem → Nat → Option (Int32 × Mem)) (g_X12_unit : Mem → Nat → Option (Int32 × Mem)) {n : Nat} (ih_X12_both : ∀ {l : Launch} {G : GG} {d : Nat} (hd : n + 2 ≤ d) {μ : Mem} {k0 : Nat} (hk0 : isC 12 k0) {r : Int32 × Mem} (h : g_X12_both μ k0 = some r), CT l yX12_both cX12_both 3 (some .int) d G [.ref (gad G k0)] μ (RK (some (.int r.1)) r.2)) (ih_X12_compared : ∀ {l : Launch} {G : GG} {d : Nat} (hd : n + 2 ≤ d) {μ : Mem} {k0 : Nat} (hk0 : isC 12 k0) {r : Int32 × Mem} (h : g_X12_compared μ k0 = some r), CT l yX12_compared cX12_compared 4 (some .int) d G [.ref (gad G k0)] μ (RK (some (.int r.1)) r.2)) (ih_X12_either : ∀ {l : Launch} {G : GG} {d : Nat} (hd : n + 2 ≤ d) {μ : Mem} {k0 : Nat} (hk0 : isC 12 k0) {r : Int32 × Mem} (h : g_X12_either μ k0 = some r), CT l yX12_either cX12_either 3 (some .int) d G [.ref (gad G k0)] μ (RK (some (.int r.1)) r.2)) (ih_X12_product : ∀ {l : Launch} {G : GG} {d : Nat} (hd : n + 2 ≤ d) {μ : Mem} {k0 : Nat} (hk0 : isC 12 k0) {r : Int32 × Mem} (h : g_X12_product μ k0 = some r), CT l yX12_product cX12_product 4 (some .int) d G [.ref (gad G k0)] μ (RK (some (.int r.1)) r.2)) (ih_X12_sum : ∀ {l : Launch} {G : GG} {d : Nat} (hd : n + 2 ≤ d) {μ : Mem} {k0 : Nat} (hk0 : isC 12 k0) {r : Int32 × Mem} (h : g_X12_sum μ k0 = some r), CT l yX12_sum cX12_sum 4 (some .int) d G [.ref (gad G k0)] μ (RK (some (.int r.1)) r.2)) (ih_X12_unit : ∀ {l : Launch} {G : GG} {d : Nat} (hd : n + 2 ≤ d) {μ : Mem} {k0 : Nat} (hk0 : isC 12 k0) {r : Int32 × Mem} (h : g_X12_unit μ k0 = some r), CT l yX12_unit cX12_unit 5 (some .int) d G [.ref (gad G k0)] μ (RK (some (.int r.1)) r.2)) {l : Launch} {G : GG} {d : Nat} (hd : n + 1 + 2 ≤ d) {μ : Mem} {k0 : Nat} (hk0 : isC 12 k0) {r : Int32 × Mem} (h : F_X12_compared g_X12_both g_X12_compared g_X12_either g_X12_product g_X12_sum g_X12_unit μ k0 = some r) : CT l yX12_compared cX12_compared 4 (some .int) d G [.ref (gad G k0)] μ (RK (some (.int r.1)) r.2) := by
  refine ct_start (by decide) (Nat.le_of_ble_eq_true rfl) (fun C hl1 hG1 hC hQ hr => ?_)
  subst hl1; subst hG1
  have hC : CxOK C cX12_compared 4 RX12 d := hC
  show UW C 4 μ 0 [(0, .ref (gad (cG C) k0))] []
  have jb30 : ∀ (μ_30 : Mem) (v1_30 : Int32) (v2_30 : Int32), F_X12_compared_j30 g_X12_both g_X12_compared g_X12_either g_X12_product g_X12_sum g_X12_unit μ_30 k0 v1_30 v2_30 = some r → UW C 4 μ_30 30 [(0, .ref (gad (cG C) k0)), (1, .int v1_30), (2, .int v2_30)] [] := by
    intro μ_30 v1_30 v2_30 h
    unfold F_X12_compared_j30 at h
    refine u_aload_n (pc := 30) hC dX12_compared_30 rfl 0 rfl ?_
    refine u_dup (pc := 31) hC rfl dX12_compared_31 ?_
    refine g_RX12_61 (pc := 32) hC hk0 dX12_compared_32 ?_
    refine u_iconst (pc := 35) hC ic_1 dX12_compared_35 ?_
    refine u_iadd (pc := 36) hC dX12_compared_36 ?_
    obtain ⟨m37, q37, h⟩ := of_bd h
    refine p_RX12_61 (pc := 37) hC hk0 dX12_compared_37 (Option.some.inj q37) ?_
    refine u_aload_n (pc := 40) hC dX12_compared_40 rfl 0 rfl ?_
    obtain ⟨p41, q41, h⟩ := of_bd h
    refine k_RX12_91 (pc := 41) hC (av := []) (rest := []) (ih_X12_sum (d := d - 1) (by omega) hk0 q41) (by omega) (Nat.le_of_ble_eq_true rfl) hk0 rfl rfl dX12_compared_41 ?_
    refine u_istore_n (pc := 44) hC dX12_compared_44 rfl [(3, .int p41.1), (0, .ref (gad (cG C) k0)), (1, .int v1_30), (2, .int v2_30)] (by decide) rfl ?_
    refine u_iload_n (pc := 45) hC dX12_compared_45 rfl 3 rfl ?_
    refine u_bipush (pc := 46) hC bc_60 dX12_compared_46 ?_
    refine u_icmp_ne (pc := 48) hC (tgt := 59) dX12_compared_48 (by decide) (fun c48 => ?_) (fun c48 => ?_)
    · replace h := of_t c48 h
      refine u_iload_n (pc := 59) hC dX12_compared_59 rfl 3 rfl ?_
      refine u_bipush (pc := 60) hC bc_61 dX12_compared_60 ?_
      refine u_icmp_ne (pc := 62) hC (tgt := 73) dX12_compared_62 (by decide) (fun c62 => ?_) (fun c62 => ?_)
      · replace h := of_t c62 h
        refine u_iload_n (pc := 73) hC dX12_compared_73 rfl 2 rfl ?_
        refine u_iload_n (pc := 74) hC dX12_compared_74 rfl 0 rfl ?_
        refine u_icmp_le (pc := 75) hC (tgt := 82) dX12_compared_75 (by decide) (fun c75 => ?_) (fun c75 => ?_)
        · replace h := of_t c75 h
          refine u_iconst (pc := 82) hC ic_0 dX12_compared_82 ?_
          obtain rfl := Option.some.inj h
          exact u_iret (pc := 83) hC hQ hr ⟨rfl, rfl⟩ dX12_compared_83
        · replace h := of_f c75 h
          refine u_iconst (pc := 78) hC ic_1 dX12_compared_78 ?_
          refine u_goto (pc := 79) hC 83 dX12_compared_79 (by decide) ?_
          obtain rfl := Option.some.inj h
          exact u_iret (pc := 83) hC hQ hr ⟨rfl, rfl⟩ dX12_compared_83
      · replace h := of_f (fun q => q c62) h
        refine u_iload_n (pc := 65) hC dX12_compared_65 rfl 2 rfl ?_
        refine u_iload_n (pc := 66) hC dX12_compared_66 rfl 0 rfl ?_
        refine u_icmp_ne (pc := 67) hC (tgt := 82) dX12_compared_67 (by decide) (fun c67 => ?_) (fun c67 => ?_)
        · replace h := of_t c67 h
          refine u_iconst (pc := 82) hC ic_0 dX12_compared_82 ?_
          obtain rfl := Option.some.inj h
          exact u_iret (pc := 83) hC hQ hr ⟨rfl, rfl⟩ dX12_compared_83
        · replace h := of_f (fun q => q c67) h
          refine u_goto (pc := 70) hC 78 dX12_compared_70 (by decide) ?_
          refine u_iconst (pc := 78) hC ic_1 dX12_compared_78 ?_
          refine u_goto (pc := 79) hC 83 dX12_compared_79 (by decide) ?_
          obtain rfl := Option.some.inj h
          exact u_iret (pc := 83) hC hQ hr ⟨rfl, rfl⟩ dX12_compared_83
    · replace h := of_f (fun q => q c48) h
      refine u_iload_n (pc := 51) hC dX12_compared_51 rfl 2 rfl ?_
      refine u_iload_n (pc := 52) hC dX12_compared_52 rfl 0 rfl ?_
      refine u_icmp_ge (pc := 53) hC (tgt := 82) dX12_compared_53 (by decide) (fun c53 => ?_) (fun c53 => ?_)
      · replace h := of_t c53 h
        refine u_iconst (pc := 82) hC ic_0 dX12_compared_82 ?_
        obtain rfl := Option.some.inj h
        exact u_iret (pc := 83) hC hQ hr ⟨rfl, rfl⟩ dX12_compared_83
      · replace h := of_f c53 h
        refine u_goto (pc := 56) hC 78 dX12_compared_56 (by decide) ?_
        refine u_iconst (pc := 78) hC ic_1 dX12_compared_78 ?_
        refine u_goto (pc := 79) hC 83 dX12_compared_79 (by decide) ?_
        obtain rfl := Option.some.inj h
        exact u_iret (pc := 83) hC hQ hr ⟨rfl, rfl⟩ dX12_compared_83
  unfold F_X12_compared at h
  refine u_aload_n (pc := 0) hC dX12_compared_0 rfl 0 rfl ?_
  obtain ⟨p1, q1, h⟩ := of_bd h
  refine k_RX12_91 (pc := 1) hC (av := []) (rest := []) (ih_X12_sum (d := d - 1) (by omega) hk0 q1) (by omega) (Nat.le_of_ble_eq_true rfl) hk0 rfl rfl dX12_compared_1 ?_
  refine u_istore_n (pc := 4) hC dX12_compared_4 rfl [(1, .int p1.1), (0, .ref (gad (cG C) k0))] (by decide) rfl ?_
  refine u_aload_n (pc := 5) hC dX12_compared_5 rfl 1 rfl ?_
  obtain ⟨r6, q6, h⟩ := of_bd h
  refine k_RX12_73 (pc := 6) hC (av := []) (rest := []) (c_X12_here (d := d - 1) (by omega) hk0 q6) (by omega) (Nat.le_of_ble_eq_true rfl) hk0 rfl rfl dX12_compared_6 ?_
  refine u_istore_n (pc := 9) hC dX12_compared_9 rfl [(2, .int r6), (1, .int p1.1), (0, .ref (gad (cG C) k0))] (by decide) rfl ?_
  refine u_iload_n (pc := 10) hC dX12_compared_10 rfl 0 rfl ?_
  refine u_bipush (pc := 11) hC bc_60 dX12_compared_11 ?_
  refine u_icmp_eq (pc := 13) hC (tgt := 30) dX12_compared_13 (by decide) (fun c13 => ?_) (fun c13 => ?_)
  · replace h := of_t c13 h
    refine u_sub [2, 1, 0] rfl ?_
    exact jb30 p1.2 p1.1 r6 h
  · replace h := of_f c13 h
    refine u_iload_n (pc := 16) hC dX12_compared_16 rfl 0 rfl ?_
    refine u_bipush (pc := 17) hC bc_61 dX12_compared_17 ?_
    refine u_icmp_eq (pc := 19) hC (tgt := 30) dX12_compared_19 (by decide) (fun c19 => ?_) (fun c19 => ?_)
    · replace h := of_t c19 h
      refine u_sub [2, 1, 0] rfl ?_
      exact jb30 p1.2 p1.1 r6 h
    · replace h := of_f c19 h
      refine u_iload_n (pc := 22) hC dX12_compared_22 rfl 0 rfl ?_
      refine u_bipush (pc := 23) hC bc_62 dX12_compared_23 ?_
      refine u_icmp_eq (pc := 25) hC (tgt := 30) dX12_compared_25 (by decide) (fun c25 => ?_) (fun c25 => ?_)
      · replace h := of_t c25 h
        refine u_sub [2, 1, 0] rfl ?_
        exact jb30 p1.2 p1.1 r6 h
      · replace h := of_f c25 h
        refine u_iload_n (pc := 28) hC dX12_compared_28 rfl 1 rfl ?_
        obtain rfl := Option.some.inj h
        exact u_iret (pc := 29) hC hQ hr ⟨rfl, rfl⟩ dX12_compared_29
set_option maxHeartbeats 4000000 in
set_option maxRecDepth 100000 in
theorem w_X12_either (g_X12_both : Mem → Nat → Option (Int32 × Mem)) (g_X12_compared : Mem → Nat → Option (Int32 × Mem)) (g_X12_either : Mem → Nat → Option (Int32 × Mem)) (g_X12_product : Mem → Nat → Option (Int32 × Mem)) (g_X12_sum : Mem → Nat → Option (Int32 × Mem)) (g_X12_unit : Mem → Nat → Option (Int32 × Mem)) {n : Nat} (ih_X12_both : ∀ {l : Launch} {G : GG} {d : Nat} (hd : n + 2 ≤ d) {μ : Mem} {k0 : Nat} (hk0 : isC 12 k0) {r : Int32 × Mem} (h : g_X12_both μ k0 = some r), CT l yX12_both cX12_both 3 (some .int) d G [.ref (gad G k0)] μ (RK (some (.int r.1)) r.2)) (ih_X12_compared : ∀ {l : Launch} {G : GG} {d : Nat} (hd : n + 2 ≤ d) {μ : Mem} {k0 : Nat} (hk0 : isC 12 k0) {r : Int32 × Mem} (h : g_X12_compared μ k0 = some r), CT l yX12_compared cX12_compared 4 (some .int) d G [.ref (gad G k0)] μ (RK (some (.int r.1)) r.2)) (ih_X12_either : ∀ {l : Launch} {G : GG} {d : Nat} (hd : n + 2 ≤ d) {μ : Mem} {k0 : Nat} (hk0 : isC 12 k0) {r : Int32 × Mem} (h : g_X12_either μ k0 = some r), CT l yX12_either cX12_either 3 (some .int) d G [.ref (gad G k0)] μ (RK (some (.int r.1)) r.2)) (ih_X12_product : ∀ {l : Launch} {G : GG} {d : Nat} (hd : n + 2 ≤ d) {μ : Mem} {k0 : Nat} (hk0 : isC 12 k0) {r : Int32 × Mem} (h : g_X12_product μ k0 = some r), CT l yX12_product cX12_product 4 (some .int) d G [.ref (gad G k0)] μ (RK (some (.int r.1)) r.2)) (ih_X12_sum : ∀ {l : Launch} {G : GG} {d : Nat} (hd : n + 2 ≤ d) {μ : Mem} {k0 : Nat} (hk0 : isC 12 k0) {r : Int32 × Mem} (h : g_X12_sum μ k0 = some r), CT l yX12_sum cX12_sum 4 (some .int) d G [.ref (gad G k0)] μ (RK (some (.int r.1)) r.2)) (ih_X12_unit : ∀ {l : Launch} {G : GG} {d : Nat} (hd : n + 2 ≤ d) {μ : Mem} {k0 : Nat} (hk0 : isC 12 k0) {r : Int32 × Mem} (h : g_X12_unit μ k0 = some r), CT l yX12_unit cX12_unit 5 (some .int) d G [.ref (gad G k0)] μ (RK (some (.int r.1)) r.2)) {l : Launch} {G : GG} {d : Nat} (hd : n + 1 + 2 ≤ d) {μ : Mem} {k0 : Nat} (hk0 : isC 12 k0) {r : Int32 × Mem} (h : F_X12_either g_X12_both g_X12_compared g_X12_either g_X12_product g_X12_sum g_X12_unit μ k0 = some r) : CT l yX12_either cX12_either 3 (some .int) d G [.ref (gad G k0)] μ (RK (some (.int r.1)) r.2) := by
  refine ct_start (by decide) (Nat.le_of_ble_eq_true rfl) (fun C hl1 hG1 hC hQ hr => ?_)
  subst hl1; subst hG1
  have hC : CxOK C cX12_either 3 RX12 d := hC
  show UW C 3 μ 0 [(0, .ref (gad (cG C) k0))] []
  have lw5 : ∀ (e : (Int32 × Mem)) (s : Int32 × Mem), lp (fun s => F_X12_either_l5 g_X12_both g_X12_compared g_X12_either g_X12_product g_X12_sum g_X12_unit k0 s.1 s.2) FU s = some e → (fun (e : (Int32 × Mem)) => UW C 3 e.2 36 [(1, .int e.1)] []) e → UW C 3 s.2 5 [(0, .ref (gad (cG C) k0)), (1, .int s.1)] [] := by
    intro e s hl hE0
    refine @lp_walk (Int32 × Mem) (Int32 × Mem) (fun s => F_X12_either_l5 g_X12_both g_X12_compared g_X12_either g_X12_product g_X12_sum g_X12_unit k0 s.1 s.2) (fun s => UW C 3 s.2 5 [(0, .ref (gad (cG C) k0)), (1, .int s.1)] []) (fun (e : (Int32 × Mem)) => UW C 3 e.2 36 [(1, .int e.1)] []) (fun s y5 h hP5 hE5 => ?_) FU s e hl hE0
    obtain ⟨v1_5, μ_5⟩ := s
    replace h : F_X12_either_l5 g_X12_both g_X12_compared g_X12_either g_X12_product g_X12_sum g_X12_unit k0 v1_5 μ_5 = some y5 := h
    show UW C 3 μ_5 5 [(0, .ref (gad (cG C) k0)), (1, .int v1_5)] []
    unfold F_X12_either_l5 at h
    refine u_aload_n (pc := 5) hC dX12_either_5 rfl 0 rfl ?_
    refine u_bipush (pc := 6) hC bc_124 dX12_either_6 ?_
    obtain ⟨p8, q8, h⟩ := of_bd h
    refine k_RX12_84 (pc := 8) hC (av := [.int (124 : Int32)]) (rest := []) (c_X12_takes (d := d - 1) (by omega) hk0 q8) (by omega) (Nat.le_of_ble_eq_true rfl) hk0 rfl rfl dX12_either_8 ?_
    refine u_if_eq (pc := 11) hC (tgt := 36) dX12_either_11 (by decide) (fun c11 => ?_) (fun c11 => ?_)
    · replace h := of_t c11 h
      obtain rfl := Option.some.inj h
      refine u_sub [1] rfl ?_
      exact hE5 (v1_5, p8.2) rfl
    · replace h := of_f c11 h
      refine u_aload_n (pc := 14) hC dX12_either_14 rfl 0 rfl ?_
      obtain ⟨p15, q15, h⟩ := of_bd h
      refine k_RX12_81 (pc := 15) hC (av := []) (rest := []) (ih_X12_both (d := d - 1) (by omega) hk0 q15) (by omega) (Nat.le_of_ble_eq_true rfl) hk0 rfl rfl dX12_either_15 ?_
      refine u_istore_n (pc := 18) hC dX12_either_18 rfl [(2, .int p15.1), (0, .ref (gad (cG C) k0)), (1, .int v1_5)] (by decide) rfl ?_
      refine u_iload_n (pc := 19) hC dX12_either_19 rfl 2 rfl ?_
      refine u_if_ne (pc := 20) hC (tgt := 27) dX12_either_20 (by decide) (fun c20 => ?_) (fun c20 => ?_)
      · replace h := of_t c20 h
        refine u_iconst (pc := 27) hC ic_1 dX12_either_27 ?_
        refine u_goto (pc := 28) hC 32 dX12_either_28 (by decide) ?_
        refine u_istore_n (pc := 32) hC dX12_either_32 rfl [(1, .int (1 : Int32)), (2, .int p15.1), (0, .ref (gad (cG C) k0))] (by decide) rfl ?_
        refine u_goto (pc := 33) hC 5 dX12_either_33 (by decide) ?_
        obtain rfl := Option.some.inj h
        refine u_sub [2, 0] rfl ?_
        exact hP5 ((1 : Int32), p15.2) rfl
      · replace h := of_f (fun q => q c20) h
        refine u_iload_n (pc := 23) hC dX12_either_23 rfl 0 rfl ?_
        refine u_if_eq (pc := 24) hC (tgt := 31) dX12_either_24 (by decide) (fun c24 => ?_) (fun c24 => ?_)
        · replace h := of_t c24 h
          refine u_iconst (pc := 31) hC ic_0 dX12_either_31 ?_
          refine u_istore_n (pc := 32) hC dX12_either_32 rfl [(1, .int (0 : Int32)), (2, .int p15.1), (0, .ref (gad (cG C) k0))] (by decide) rfl ?_
          refine u_goto (pc := 33) hC 5 dX12_either_33 (by decide) ?_
          obtain rfl := Option.some.inj h
          refine u_sub [2, 0] rfl ?_
          exact hP5 ((0 : Int32), p15.2) rfl
        · replace h := of_f c24 h
          refine u_iconst (pc := 27) hC ic_1 dX12_either_27 ?_
          refine u_goto (pc := 28) hC 32 dX12_either_28 (by decide) ?_
          refine u_istore_n (pc := 32) hC dX12_either_32 rfl [(1, .int (1 : Int32)), (2, .int p15.1), (0, .ref (gad (cG C) k0))] (by decide) rfl ?_
          refine u_goto (pc := 33) hC 5 dX12_either_33 (by decide) ?_
          obtain rfl := Option.some.inj h
          refine u_sub [2, 0] rfl ?_
          exact hP5 ((1 : Int32), p15.2) rfl
  unfold F_X12_either at h
  refine u_aload_n (pc := 0) hC dX12_either_0 rfl 0 rfl ?_
  obtain ⟨p1, q1, h⟩ := of_bd h
  refine k_RX12_81 (pc := 1) hC (av := []) (rest := []) (ih_X12_both (d := d - 1) (by omega) hk0 q1) (by omega) (Nat.le_of_ble_eq_true rfl) hk0 rfl rfl dX12_either_1 ?_
  refine u_istore_n (pc := 4) hC dX12_either_4 rfl [(1, .int p1.1), (0, .ref (gad (cG C) k0))] (by decide) rfl ?_
  obtain ⟨e5, l5, h⟩ := of_bd h
  refine u_sub [1, 0] rfl ?_
  refine lw5  e5 (p1.1, p1.2) l5 ?_
  show UW C 3 e5.2 36 [(1, .int e5.1)] []
  refine u_iload_n (pc := 36) hC dX12_either_36 rfl 0 rfl ?_
  obtain rfl := Option.some.inj h
  exact u_iret (pc := 37) hC hQ hr ⟨rfl, rfl⟩ dX12_either_37
set_option maxHeartbeats 4000000 in
set_option maxRecDepth 100000 in
theorem w_X12_product (g_X12_both : Mem → Nat → Option (Int32 × Mem)) (g_X12_compared : Mem → Nat → Option (Int32 × Mem)) (g_X12_either : Mem → Nat → Option (Int32 × Mem)) (g_X12_product : Mem → Nat → Option (Int32 × Mem)) (g_X12_sum : Mem → Nat → Option (Int32 × Mem)) (g_X12_unit : Mem → Nat → Option (Int32 × Mem)) {n : Nat} (ih_X12_both : ∀ {l : Launch} {G : GG} {d : Nat} (hd : n + 2 ≤ d) {μ : Mem} {k0 : Nat} (hk0 : isC 12 k0) {r : Int32 × Mem} (h : g_X12_both μ k0 = some r), CT l yX12_both cX12_both 3 (some .int) d G [.ref (gad G k0)] μ (RK (some (.int r.1)) r.2)) (ih_X12_compared : ∀ {l : Launch} {G : GG} {d : Nat} (hd : n + 2 ≤ d) {μ : Mem} {k0 : Nat} (hk0 : isC 12 k0) {r : Int32 × Mem} (h : g_X12_compared μ k0 = some r), CT l yX12_compared cX12_compared 4 (some .int) d G [.ref (gad G k0)] μ (RK (some (.int r.1)) r.2)) (ih_X12_either : ∀ {l : Launch} {G : GG} {d : Nat} (hd : n + 2 ≤ d) {μ : Mem} {k0 : Nat} (hk0 : isC 12 k0) {r : Int32 × Mem} (h : g_X12_either μ k0 = some r), CT l yX12_either cX12_either 3 (some .int) d G [.ref (gad G k0)] μ (RK (some (.int r.1)) r.2)) (ih_X12_product : ∀ {l : Launch} {G : GG} {d : Nat} (hd : n + 2 ≤ d) {μ : Mem} {k0 : Nat} (hk0 : isC 12 k0) {r : Int32 × Mem} (h : g_X12_product μ k0 = some r), CT l yX12_product cX12_product 4 (some .int) d G [.ref (gad G k0)] μ (RK (some (.int r.1)) r.2)) (ih_X12_sum : ∀ {l : Launch} {G : GG} {d : Nat} (hd : n + 2 ≤ d) {μ : Mem} {k0 : Nat} (hk0 : isC 12 k0) {r : Int32 × Mem} (h : g_X12_sum μ k0 = some r), CT l yX12_sum cX12_sum 4 (some .int) d G [.ref (gad G k0)] μ (RK (some (.int r.1)) r.2)) (ih_X12_unit : ∀ {l : Launch} {G : GG} {d : Nat} (hd : n + 2 ≤ d) {μ : Mem} {k0 : Nat} (hk0 : isC 12 k0) {r : Int32 × Mem} (h : g_X12_unit μ k0 = some r), CT l yX12_unit cX12_unit 5 (some .int) d G [.ref (gad G k0)] μ (RK (some (.int r.1)) r.2)) {l : Launch} {G : GG} {d : Nat} (hd : n + 1 + 2 ≤ d) {μ : Mem} {k0 : Nat} (hk0 : isC 12 k0) {r : Int32 × Mem} (h : F_X12_product g_X12_both g_X12_compared g_X12_either g_X12_product g_X12_sum g_X12_unit μ k0 = some r) : CT l yX12_product cX12_product 4 (some .int) d G [.ref (gad G k0)] μ (RK (some (.int r.1)) r.2) := by
  refine ct_start (by decide) (Nat.le_of_ble_eq_true rfl) (fun C hl1 hG1 hC hQ hr => ?_)
  subst hl1; subst hG1
  have hC : CxOK C cX12_product 4 RX12 d := hC
  show UW C 4 μ 0 [(0, .ref (gad (cG C) k0))] []
  have lw5 : ∀ (e : (Int32 × Mem)) (s : Int32 × Mem), lp (fun s => F_X12_product_l5 g_X12_both g_X12_compared g_X12_either g_X12_product g_X12_sum g_X12_unit k0 s.1 s.2) FU s = some e → (fun (e : (Int32 × Mem)) => UW C 4 e.2 91 [(1, .int e.1)] []) e → UW C 4 s.2 5 [(0, .ref (gad (cG C) k0)), (1, .int s.1)] [] := by
    intro e s hl hE0
    refine @lp_walk (Int32 × Mem) (Int32 × Mem) (fun s => F_X12_product_l5 g_X12_both g_X12_compared g_X12_either g_X12_product g_X12_sum g_X12_unit k0 s.1 s.2) (fun s => UW C 4 s.2 5 [(0, .ref (gad (cG C) k0)), (1, .int s.1)] []) (fun (e : (Int32 × Mem)) => UW C 4 e.2 91 [(1, .int e.1)] []) (fun s y5 h hP5 hE5 => ?_) FU s e hl hE0
    have jb32 : ∀ (μ_32 : Mem) (v1_32 : Int32), F_X12_product_j32 g_X12_both g_X12_compared g_X12_either g_X12_product g_X12_sum g_X12_unit μ_32 k0 v1_32 = some y5 → UW C 4 μ_32 32 [(0, .ref (gad (cG C) k0)), (1, .int v1_32)] [] := by
      intro μ_32 v1_32 h
      unfold F_X12_product_j32 at h
      refine u_aload_n (pc := 32) hC dX12_product_32 rfl 0 rfl ?_
      obtain ⟨r33, q33, h⟩ := of_bd h
      refine k_RX12_73 (pc := 33) hC (av := []) (rest := []) (c_X12_here (d := d - 1) (by omega) hk0 q33) (by omega) (Nat.le_of_ble_eq_true rfl) hk0 rfl rfl dX12_product_33 ?_
      refine u_istore_n (pc := 36) hC dX12_product_36 rfl [(2, .int r33), (0, .ref (gad (cG C) k0)), (1, .int v1_32)] (by decide) rfl ?_
      refine u_aload_n (pc := 37) hC dX12_product_37 rfl 1 rfl ?_
      refine u_dup (pc := 38) hC rfl dX12_product_38 ?_
      refine g_RX12_61 (pc := 39) hC hk0 dX12_product_39 ?_
      refine u_iconst (pc := 42) hC ic_1 dX12_product_42 ?_
      refine u_iadd (pc := 43) hC dX12_product_43 ?_
      obtain ⟨m44, q44, h⟩ := of_bd h
      refine p_RX12_61 (pc := 44) hC hk0 dX12_product_44 (Option.some.inj q44) ?_
      refine u_aload_n (pc := 47) hC dX12_product_47 rfl 1 rfl ?_
      obtain ⟨p48, q48, h⟩ := of_bd h
      refine k_RX12_97 (pc := 48) hC (av := []) (rest := []) (ih_X12_unit (d := d - 1) (by omega) hk0 q48) (by omega) (Nat.le_of_ble_eq_true rfl) hk0 rfl rfl dX12_product_48 ?_
      refine u_istore_n (pc := 51) hC dX12_product_51 rfl [(3, .int p48.1), (2, .int r33), (0, .ref (gad (cG C) k0)), (1, .int v1_32)] (by decide) rfl ?_
      refine u_iload_n (pc := 52) hC dX12_product_52 rfl 1 rfl ?_
      refine u_bipush (pc := 53) hC bc_42 dX12_product_53 ?_
      refine u_icmp_ne (pc := 55) hC (tgt := 64) dX12_product_55 (by decide) (fun c55 => ?_) (fun c55 => ?_)
      · replace h := of_t c55 h
        refine u_iload_n (pc := 64) hC dX12_product_64 rfl 0 rfl ?_
        refine u_if_ne (pc := 65) hC (tgt := 72) dX12_product_65 (by decide) (fun c65 => ?_) (fun c65 => ?_)
        · replace h := of_t c65 h
          refine u_iload_n (pc := 72) hC dX12_product_72 rfl 1 rfl ?_
          refine u_bipush (pc := 73) hC bc_47 dX12_product_73 ?_
          refine u_icmp_ne (pc := 75) hC (tgt := 84) dX12_product_75 (by decide) (fun c75 => ?_) (fun c75 => ?_)
          · replace h := of_t c75 h
            refine u_iload_n (pc := 84) hC dX12_product_84 rfl 3 rfl ?_
            refine u_iload_n (pc := 85) hC dX12_product_85 rfl 0 rfl ?_
            obtain ⟨b86, h⟩ := of_gd h
            refine u_irem (pc := 86) hC b86 dX12_product_86 ?_
            refine u_istore_n (pc := 87) hC dX12_product_87 rfl [(1, .int (jrem v1_32 p48.1)), (3, .int p48.1), (2, .int r33), (0, .ref (gad (cG C) k0))] (by decide) rfl ?_
            refine u_goto (pc := 88) hC 5 dX12_product_88 (by decide) ?_
            obtain rfl := Option.some.inj h
            refine u_sub [3, 0] rfl ?_
            exact hP5 (jrem v1_32 p48.1, p48.2) rfl
          · replace h := of_f (fun q => q c75) h
            refine u_iload_n (pc := 78) hC dX12_product_78 rfl 3 rfl ?_
            refine u_iload_n (pc := 79) hC dX12_product_79 rfl 0 rfl ?_
            obtain ⟨b80, h⟩ := of_gd h
            refine u_idiv (pc := 80) hC b80 dX12_product_80 ?_
            refine u_goto (pc := 81) hC 87 dX12_product_81 (by decide) ?_
            refine u_istore_n (pc := 87) hC dX12_product_87 rfl [(1, .int (v1_32 / p48.1)), (3, .int p48.1), (2, .int r33), (0, .ref (gad (cG C) k0))] (by decide) rfl ?_
            refine u_goto (pc := 88) hC 5 dX12_product_88 (by decide) ?_
            obtain rfl := Option.some.inj h
            refine u_sub [3, 0] rfl ?_
            exact hP5 (v1_32 / p48.1, p48.2) rfl
        · replace h := of_f (fun q => q c65) h
          refine u_iconst (pc := 68) hC ic_0 dX12_product_68 ?_
          refine u_goto (pc := 69) hC 87 dX12_product_69 (by decide) ?_
          refine u_istore_n (pc := 87) hC dX12_product_87 rfl [(1, .int (0 : Int32)), (3, .int p48.1), (2, .int r33), (0, .ref (gad (cG C) k0))] (by decide) rfl ?_
          refine u_goto (pc := 88) hC 5 dX12_product_88 (by decide) ?_
          obtain rfl := Option.some.inj h
          refine u_sub [3, 0] rfl ?_
          exact hP5 ((0 : Int32), p48.2) rfl
      · replace h := of_f (fun q => q c55) h
        refine u_iload_n (pc := 58) hC dX12_product_58 rfl 3 rfl ?_
        refine u_iload_n (pc := 59) hC dX12_product_59 rfl 0 rfl ?_
        refine u_imul (pc := 60) hC dX12_product_60 ?_
        refine u_goto (pc := 61) hC 87 dX12_product_61 (by decide) ?_
        refine u_istore_n (pc := 87) hC dX12_product_87 rfl [(1, .int (v1_32 * p48.1)), (3, .int p48.1), (2, .int r33), (0, .ref (gad (cG C) k0))] (by decide) rfl ?_
        refine u_goto (pc := 88) hC 5 dX12_product_88 (by decide) ?_
        obtain rfl := Option.some.inj h
        refine u_sub [3, 0] rfl ?_
        exact hP5 (v1_32 * p48.1, p48.2) rfl
    obtain ⟨v1_5, μ_5⟩ := s
    replace h : F_X12_product_l5 g_X12_both g_X12_compared g_X12_either g_X12_product g_X12_sum g_X12_unit k0 v1_5 μ_5 = some y5 := h
    show UW C 4 μ_5 5 [(0, .ref (gad (cG C) k0)), (1, .int v1_5)] []
    unfold F_X12_product_l5 at h
    refine u_aload_n (pc := 5) hC dX12_product_5 rfl 0 rfl ?_
    obtain ⟨r6, q6, h⟩ := of_bd h
    refine k_RX12_73 (pc := 6) hC (av := []) (rest := []) (c_X12_here (d := d - 1) (by omega) hk0 q6) (by omega) (Nat.le_of_ble_eq_true rfl) hk0 rfl rfl dX12_product_6 ?_
    refine u_bipush (pc := 9) hC bc_42 dX12_product_9 ?_
    refine u_icmp_eq (pc := 11) hC (tgt := 32) dX12_product_11 (by decide) (fun c11 => ?_) (fun c11 => ?_)
    · replace h := of_t c11 h
      exact jb32 μ_5 v1_5 h
    · replace h := of_f c11 h
      refine u_aload_n (pc := 14) hC dX12_product_14 rfl 0 rfl ?_
      obtain ⟨r15, q15, h⟩ := of_bd h
      refine k_RX12_73 (pc := 15) hC (av := []) (rest := []) (c_X12_here (d := d - 1) (by omega) hk0 q15) (by omega) (Nat.le_of_ble_eq_true rfl) hk0 rfl rfl dX12_product_15 ?_
      refine u_bipush (pc := 18) hC bc_47 dX12_product_18 ?_
      refine u_icmp_eq (pc := 20) hC (tgt := 32) dX12_product_20 (by decide) (fun c20 => ?_) (fun c20 => ?_)
      · replace h := of_t c20 h
        exact jb32 μ_5 v1_5 h
      · replace h := of_f c20 h
        refine u_aload_n (pc := 23) hC dX12_product_23 rfl 0 rfl ?_
        obtain ⟨r24, q24, h⟩ := of_bd h
        refine k_RX12_73 (pc := 24) hC (av := []) (rest := []) (c_X12_here (d := d - 1) (by omega) hk0 q24) (by omega) (Nat.le_of_ble_eq_true rfl) hk0 rfl rfl dX12_product_24 ?_
        refine u_bipush (pc := 27) hC bc_37 dX12_product_27 ?_
        refine u_icmp_ne (pc := 29) hC (tgt := 91) dX12_product_29 (by decide) (fun c29 => ?_) (fun c29 => ?_)
        · replace h := of_t c29 h
          obtain rfl := Option.some.inj h
          refine u_sub [1] rfl ?_
          exact hE5 (v1_5, μ_5) rfl
        · replace h := of_f (fun q => q c29) h
          exact jb32 μ_5 v1_5 h
  unfold F_X12_product at h
  refine u_aload_n (pc := 0) hC dX12_product_0 rfl 0 rfl ?_
  obtain ⟨p1, q1, h⟩ := of_bd h
  refine k_RX12_97 (pc := 1) hC (av := []) (rest := []) (ih_X12_unit (d := d - 1) (by omega) hk0 q1) (by omega) (Nat.le_of_ble_eq_true rfl) hk0 rfl rfl dX12_product_1 ?_
  refine u_istore_n (pc := 4) hC dX12_product_4 rfl [(1, .int p1.1), (0, .ref (gad (cG C) k0))] (by decide) rfl ?_
  obtain ⟨e5, l5, h⟩ := of_bd h
  refine u_sub [1, 0] rfl ?_
  refine lw5  e5 (p1.1, p1.2) l5 ?_
  show UW C 4 e5.2 91 [(1, .int e5.1)] []
  refine u_iload_n (pc := 91) hC dX12_product_91 rfl 0 rfl ?_
  obtain rfl := Option.some.inj h
  exact u_iret (pc := 92) hC hQ hr ⟨rfl, rfl⟩ dX12_product_92
set_option maxHeartbeats 4000000 in
set_option maxRecDepth 100000 in
theorem w_X12_sum (g_X12_both : Mem → Nat → Option (Int32 × Mem)) (g_X12_compared : Mem → Nat → Option (Int32 × Mem)) (g_X12_either : Mem → Nat → Option (Int32 × Mem)) (g_X12_product : Mem → Nat → Option (Int32 × Mem)) (g_X12_sum : Mem → Nat → Option (Int32 × Mem)) (g_X12_unit : Mem → Nat → Option (Int32 × Mem)) {n : Nat} (ih_X12_both : ∀ {l : Launch} {G : GG} {d : Nat} (hd : n + 2 ≤ d) {μ : Mem} {k0 : Nat} (hk0 : isC 12 k0) {r : Int32 × Mem} (h : g_X12_both μ k0 = some r), CT l yX12_both cX12_both 3 (some .int) d G [.ref (gad G k0)] μ (RK (some (.int r.1)) r.2)) (ih_X12_compared : ∀ {l : Launch} {G : GG} {d : Nat} (hd : n + 2 ≤ d) {μ : Mem} {k0 : Nat} (hk0 : isC 12 k0) {r : Int32 × Mem} (h : g_X12_compared μ k0 = some r), CT l yX12_compared cX12_compared 4 (some .int) d G [.ref (gad G k0)] μ (RK (some (.int r.1)) r.2)) (ih_X12_either : ∀ {l : Launch} {G : GG} {d : Nat} (hd : n + 2 ≤ d) {μ : Mem} {k0 : Nat} (hk0 : isC 12 k0) {r : Int32 × Mem} (h : g_X12_either μ k0 = some r), CT l yX12_either cX12_either 3 (some .int) d G [.ref (gad G k0)] μ (RK (some (.int r.1)) r.2)) (ih_X12_product : ∀ {l : Launch} {G : GG} {d : Nat} (hd : n + 2 ≤ d) {μ : Mem} {k0 : Nat} (hk0 : isC 12 k0) {r : Int32 × Mem} (h : g_X12_product μ k0 = some r), CT l yX12_product cX12_product 4 (some .int) d G [.ref (gad G k0)] μ (RK (some (.int r.1)) r.2)) (ih_X12_sum : ∀ {l : Launch} {G : GG} {d : Nat} (hd : n + 2 ≤ d) {μ : Mem} {k0 : Nat} (hk0 : isC 12 k0) {r : Int32 × Mem} (h : g_X12_sum μ k0 = some r), CT l yX12_sum cX12_sum 4 (some .int) d G [.ref (gad G k0)] μ (RK (some (.int r.1)) r.2)) (ih_X12_unit : ∀ {l : Launch} {G : GG} {d : Nat} (hd : n + 2 ≤ d) {μ : Mem} {k0 : Nat} (hk0 : isC 12 k0) {r : Int32 × Mem} (h : g_X12_unit μ k0 = some r), CT l yX12_unit cX12_unit 5 (some .int) d G [.ref (gad G k0)] μ (RK (some (.int r.1)) r.2)) {l : Launch} {G : GG} {d : Nat} (hd : n + 1 + 2 ≤ d) {μ : Mem} {k0 : Nat} (hk0 : isC 12 k0) {r : Int32 × Mem} (h : F_X12_sum g_X12_both g_X12_compared g_X12_either g_X12_product g_X12_sum g_X12_unit μ k0 = some r) : CT l yX12_sum cX12_sum 4 (some .int) d G [.ref (gad G k0)] μ (RK (some (.int r.1)) r.2) := by
  refine ct_start (by decide) (Nat.le_of_ble_eq_true rfl) (fun C hl1 hG1 hC hQ hr => ?_)
  subst hl1; subst hG1
  have hC : CxOK C cX12_sum 4 RX12 d := hC
  show UW C 4 μ 0 [(0, .ref (gad (cG C) k0))] []
  have lw5 : ∀ (e : (Int32 × Mem)) (s : Int32 × Mem), lp (fun s => F_X12_sum_l5 g_X12_both g_X12_compared g_X12_either g_X12_product g_X12_sum g_X12_unit k0 s.1 s.2) FU s = some e → (fun (e : (Int32 × Mem)) => UW C 4 e.2 62 [(1, .int e.1)] []) e → UW C 4 s.2 5 [(0, .ref (gad (cG C) k0)), (1, .int s.1)] [] := by
    intro e s hl hE0
    refine @lp_walk (Int32 × Mem) (Int32 × Mem) (fun s => F_X12_sum_l5 g_X12_both g_X12_compared g_X12_either g_X12_product g_X12_sum g_X12_unit k0 s.1 s.2) (fun s => UW C 4 s.2 5 [(0, .ref (gad (cG C) k0)), (1, .int s.1)] []) (fun (e : (Int32 × Mem)) => UW C 4 e.2 62 [(1, .int e.1)] []) (fun s y5 h hP5 hE5 => ?_) FU s e hl hE0
    have jb23 : ∀ (μ_23 : Mem) (v1_23 : Int32), F_X12_sum_j23 g_X12_both g_X12_compared g_X12_either g_X12_product g_X12_sum g_X12_unit μ_23 k0 v1_23 = some y5 → UW C 4 μ_23 23 [(0, .ref (gad (cG C) k0)), (1, .int v1_23)] [] := by
      intro μ_23 v1_23 h
      unfold F_X12_sum_j23 at h
      refine u_aload_n (pc := 23) hC dX12_sum_23 rfl 0 rfl ?_
      obtain ⟨r24, q24, h⟩ := of_bd h
      refine k_RX12_73 (pc := 24) hC (av := []) (rest := []) (c_X12_here (d := d - 1) (by omega) hk0 q24) (by omega) (Nat.le_of_ble_eq_true rfl) hk0 rfl rfl dX12_sum_24 ?_
      refine u_istore_n (pc := 27) hC dX12_sum_27 rfl [(2, .int r24), (0, .ref (gad (cG C) k0)), (1, .int v1_23)] (by decide) rfl ?_
      refine u_aload_n (pc := 28) hC dX12_sum_28 rfl 1 rfl ?_
      refine u_dup (pc := 29) hC rfl dX12_sum_29 ?_
      refine g_RX12_61 (pc := 30) hC hk0 dX12_sum_30 ?_
      refine u_iconst (pc := 33) hC ic_1 dX12_sum_33 ?_
      refine u_iadd (pc := 34) hC dX12_sum_34 ?_
      obtain ⟨m35, q35, h⟩ := of_bd h
      refine p_RX12_61 (pc := 35) hC hk0 dX12_sum_35 (Option.some.inj q35) ?_
      refine u_aload_n (pc := 38) hC dX12_sum_38 rfl 1 rfl ?_
      obtain ⟨p39, q39, h⟩ := of_bd h
      refine k_RX12_94 (pc := 39) hC (av := []) (rest := []) (ih_X12_product (d := d - 1) (by omega) hk0 q39) (by omega) (Nat.le_of_ble_eq_true rfl) hk0 rfl rfl dX12_sum_39 ?_
      refine u_istore_n (pc := 42) hC dX12_sum_42 rfl [(3, .int p39.1), (2, .int r24), (0, .ref (gad (cG C) k0)), (1, .int v1_23)] (by decide) rfl ?_
      refine u_iload_n (pc := 43) hC dX12_sum_43 rfl 1 rfl ?_
      refine u_bipush (pc := 44) hC bc_43 dX12_sum_44 ?_
      refine u_icmp_ne (pc := 46) hC (tgt := 55) dX12_sum_46 (by decide) (fun c46 => ?_) (fun c46 => ?_)
      · replace h := of_t c46 h
        refine u_iload_n (pc := 55) hC dX12_sum_55 rfl 3 rfl ?_
        refine u_iload_n (pc := 56) hC dX12_sum_56 rfl 0 rfl ?_
        refine u_isub (pc := 57) hC dX12_sum_57 ?_
        refine u_istore_n (pc := 58) hC dX12_sum_58 rfl [(1, .int (v1_23 - p39.1)), (3, .int p39.1), (2, .int r24), (0, .ref (gad (cG C) k0))] (by decide) rfl ?_
        refine u_goto (pc := 59) hC 5 dX12_sum_59 (by decide) ?_
        obtain rfl := Option.some.inj h
        refine u_sub [3, 0] rfl ?_
        exact hP5 (v1_23 - p39.1, p39.2) rfl
      · replace h := of_f (fun q => q c46) h
        refine u_iload_n (pc := 49) hC dX12_sum_49 rfl 3 rfl ?_
        refine u_iload_n (pc := 50) hC dX12_sum_50 rfl 0 rfl ?_
        refine u_iadd (pc := 51) hC dX12_sum_51 ?_
        refine u_goto (pc := 52) hC 58 dX12_sum_52 (by decide) ?_
        refine u_istore_n (pc := 58) hC dX12_sum_58 rfl [(1, .int (v1_23 + p39.1)), (3, .int p39.1), (2, .int r24), (0, .ref (gad (cG C) k0))] (by decide) rfl ?_
        refine u_goto (pc := 59) hC 5 dX12_sum_59 (by decide) ?_
        obtain rfl := Option.some.inj h
        refine u_sub [3, 0] rfl ?_
        exact hP5 (v1_23 + p39.1, p39.2) rfl
    obtain ⟨v1_5, μ_5⟩ := s
    replace h : F_X12_sum_l5 g_X12_both g_X12_compared g_X12_either g_X12_product g_X12_sum g_X12_unit k0 v1_5 μ_5 = some y5 := h
    show UW C 4 μ_5 5 [(0, .ref (gad (cG C) k0)), (1, .int v1_5)] []
    unfold F_X12_sum_l5 at h
    refine u_aload_n (pc := 5) hC dX12_sum_5 rfl 0 rfl ?_
    obtain ⟨r6, q6, h⟩ := of_bd h
    refine k_RX12_73 (pc := 6) hC (av := []) (rest := []) (c_X12_here (d := d - 1) (by omega) hk0 q6) (by omega) (Nat.le_of_ble_eq_true rfl) hk0 rfl rfl dX12_sum_6 ?_
    refine u_bipush (pc := 9) hC bc_43 dX12_sum_9 ?_
    refine u_icmp_eq (pc := 11) hC (tgt := 23) dX12_sum_11 (by decide) (fun c11 => ?_) (fun c11 => ?_)
    · replace h := of_t c11 h
      exact jb23 μ_5 v1_5 h
    · replace h := of_f c11 h
      refine u_aload_n (pc := 14) hC dX12_sum_14 rfl 0 rfl ?_
      obtain ⟨r15, q15, h⟩ := of_bd h
      refine k_RX12_73 (pc := 15) hC (av := []) (rest := []) (c_X12_here (d := d - 1) (by omega) hk0 q15) (by omega) (Nat.le_of_ble_eq_true rfl) hk0 rfl rfl dX12_sum_15 ?_
      refine u_bipush (pc := 18) hC bc_45 dX12_sum_18 ?_
      refine u_icmp_ne (pc := 20) hC (tgt := 62) dX12_sum_20 (by decide) (fun c20 => ?_) (fun c20 => ?_)
      · replace h := of_t c20 h
        obtain rfl := Option.some.inj h
        refine u_sub [1] rfl ?_
        exact hE5 (v1_5, μ_5) rfl
      · replace h := of_f (fun q => q c20) h
        exact jb23 μ_5 v1_5 h
  unfold F_X12_sum at h
  refine u_aload_n (pc := 0) hC dX12_sum_0 rfl 0 rfl ?_
  obtain ⟨p1, q1, h⟩ := of_bd h
  refine k_RX12_94 (pc := 1) hC (av := []) (rest := []) (ih_X12_product (d := d - 1) (by omega) hk0 q1) (by omega) (Nat.le_of_ble_eq_true rfl) hk0 rfl rfl dX12_sum_1 ?_
  refine u_istore_n (pc := 4) hC dX12_sum_4 rfl [(1, .int p1.1), (0, .ref (gad (cG C) k0))] (by decide) rfl ?_
  obtain ⟨e5, l5, h⟩ := of_bd h
  refine u_sub [1, 0] rfl ?_
  refine lw5  e5 (p1.1, p1.2) l5 ?_
  show UW C 4 e5.2 62 [(1, .int e5.1)] []
  refine u_iload_n (pc := 62) hC dX12_sum_62 rfl 0 rfl ?_
  obtain rfl := Option.some.inj h
  exact u_iret (pc := 63) hC hQ hr ⟨rfl, rfl⟩ dX12_sum_63
set_option maxHeartbeats 4000000 in
set_option maxRecDepth 100000 in
theorem w_X12_unit (g_X12_both : Mem → Nat → Option (Int32 × Mem)) (g_X12_compared : Mem → Nat → Option (Int32 × Mem)) (g_X12_either : Mem → Nat → Option (Int32 × Mem)) (g_X12_product : Mem → Nat → Option (Int32 × Mem)) (g_X12_sum : Mem → Nat → Option (Int32 × Mem)) (g_X12_unit : Mem → Nat → Option (Int32 × Mem)) {n : Nat} (ih_X12_both : ∀ {l : Launch} {G : GG} {d : Nat} (hd : n + 2 ≤ d) {μ : Mem} {k0 : Nat} (hk0 : isC 12 k0) {r : Int32 × Mem} (h : g_X12_both μ k0 = some r), CT l yX12_both cX12_both 3 (some .int) d G [.ref (gad G k0)] μ (RK (some (.int r.1)) r.2)) (ih_X12_compared : ∀ {l : Launch} {G : GG} {d : Nat} (hd : n + 2 ≤ d) {μ : Mem} {k0 : Nat} (hk0 : isC 12 k0) {r : Int32 × Mem} (h : g_X12_compared μ k0 = some r), CT l yX12_compared cX12_compared 4 (some .int) d G [.ref (gad G k0)] μ (RK (some (.int r.1)) r.2)) (ih_X12_either : ∀ {l : Launch} {G : GG} {d : Nat} (hd : n + 2 ≤ d) {μ : Mem} {k0 : Nat} (hk0 : isC 12 k0) {r : Int32 × Mem} (h : g_X12_either μ k0 = some r), CT l yX12_either cX12_either 3 (some .int) d G [.ref (gad G k0)] μ (RK (some (.int r.1)) r.2)) (ih_X12_product : ∀ {l : Launch} {G : GG} {d : Nat} (hd : n + 2 ≤ d) {μ : Mem} {k0 : Nat} (hk0 : isC 12 k0) {r : Int32 × Mem} (h : g_X12_product μ k0 = some r), CT l yX12_product cX12_product 4 (some .int) d G [.ref (gad G k0)] μ (RK (some (.int r.1)) r.2)) (ih_X12_sum : ∀ {l : Launch} {G : GG} {d : Nat} (hd : n + 2 ≤ d) {μ : Mem} {k0 : Nat} (hk0 : isC 12 k0) {r : Int32 × Mem} (h : g_X12_sum μ k0 = some r), CT l yX12_sum cX12_sum 4 (some .int) d G [.ref (gad G k0)] μ (RK (some (.int r.1)) r.2)) (ih_X12_unit : ∀ {l : Launch} {G : GG} {d : Nat} (hd : n + 2 ≤ d) {μ : Mem} {k0 : Nat} (hk0 : isC 12 k0) {r : Int32 × Mem} (h : g_X12_unit μ k0 = some r), CT l yX12_unit cX12_unit 5 (some .int) d G [.ref (gad G k0)] μ (RK (some (.int r.1)) r.2)) {l : Launch} {G : GG} {d : Nat} (hd : n + 1 + 2 ≤ d) {μ : Mem} {k0 : Nat} (hk0 : isC 12 k0) {r : Int32 × Mem} (h : F_X12_unit g_X12_both g_X12_compared g_X12_either g_X12_product g_X12_sum g_X12_unit μ k0 = some r) : CT l yX12_unit cX12_unit 5 (some .int) d G [.ref (gad G k0)] μ (RK (some (.int r.1)) r.2) := by
  refine ct_start (by decide) (Nat.le_of_ble_eq_true rfl) (fun C hl1 hG1 hC hQ hr => ?_)
  subst hl1; subst hG1
  have hC : CxOK C cX12_unit 5 RX12 d := hC
  show UW C 5 μ 0 [(0, .ref (gad (cG C) k0))] []
  have jb202 : ∀ (μ_202 : Mem) (v3_202 : Int32) (v4_202 : Int32), F_X12_unit_j202 g_X12_both g_X12_compared g_X12_either g_X12_product g_X12_sum g_X12_unit μ_202 k0 v3_202 v4_202 = some r → UW C 5 μ_202 202 [(0, .ref (gad (cG C) k0)), (3, .int v3_202), (4, .int v4_202)] [] := by
    intro μ_202 v3_202 v4_202 h
    unfold F_X12_unit_j202 at h
    refine u_iload (pc := 202) hC dX12_unit_202 2 rfl ?_
    refine u_if_ne (pc := 204) hC (tgt := 214) dX12_unit_204 (by decide) (fun c204 => ?_) (fun c204 => ?_)
    · replace h := of_t c204 h
      refine u_iload_n (pc := 214) hC dX12_unit_214 rfl 1 rfl ?_
      obtain rfl := Option.some.inj h
      exact u_iret (pc := 215) hC hQ hr ⟨rfl, rfl⟩ dX12_unit_215
    · replace h := of_f (fun q => q c204) h
      refine u_aload_n (pc := 207) hC dX12_unit_207 rfl 0 rfl ?_
      obtain ⟨p208, q208, h⟩ := of_bd h
      refine k_RX12_103 (pc := 208) hC (av := []) (rest := []) (c_X12_wrong (d := d - 1) (by omega) hk0 q208) (by omega) (Nat.le_of_ble_eq_true rfl) hk0 rfl rfl dX12_unit_208 ?_
      refine u_goto (pc := 211) hC 215 dX12_unit_211 (by decide) ?_
      obtain rfl := Option.some.inj h
      exact u_iret (pc := 215) hC hQ hr ⟨rfl, rfl⟩ dX12_unit_215
  have lw150 : ∀ (e : (Int32 × Int32 × Mem)) (s : Int32 × Int32 × Mem), lp (fun s => F_X12_unit_l150 g_X12_both g_X12_compared g_X12_either g_X12_product g_X12_sum g_X12_unit k0 s.1 s.2.1 s.2.2) FU s = some e → (fun (e : (Int32 × Int32 × Mem)) => UW C 5 e.2.2 202 [(0, .ref (gad (cG C) k0)), (3, .int e.1), (4, .int e.2.1)] []) e → UW C 5 s.2.2 150 [(0, .ref (gad (cG C) k0)), (3, .int s.1), (4, .int s.2.1)] [] := by
    intro e s hl hE0
    refine @lp_walk (Int32 × Int32 × Mem) (Int32 × Int32 × Mem) (fun s => F_X12_unit_l150 g_X12_both g_X12_compared g_X12_either g_X12_product g_X12_sum g_X12_unit k0 s.1 s.2.1 s.2.2) (fun s => UW C 5 s.2.2 150 [(0, .ref (gad (cG C) k0)), (3, .int s.1), (4, .int s.2.1)] []) (fun (e : (Int32 × Int32 × Mem)) => UW C 5 e.2.2 202 [(0, .ref (gad (cG C) k0)), (3, .int e.1), (4, .int e.2.1)] []) (fun s y150 h hP150 hE150 => ?_) FU s e hl hE0
    obtain ⟨v3_150, v4_150, μ_150⟩ := s
    replace h : F_X12_unit_l150 g_X12_both g_X12_compared g_X12_either g_X12_product g_X12_sum g_X12_unit k0 v3_150 v4_150 μ_150 = some y150 := h
    show UW C 5 μ_150 150 [(0, .ref (gad (cG C) k0)), (3, .int v3_150), (4, .int v4_150)] []
    unfold F_X12_unit_l150 at h
    refine u_iload (pc := 150) hC dX12_unit_150 2 rfl ?_
    refine u_iconst (pc := 152) hC ic_4 dX12_unit_152 ?_
    refine u_icmp_ge (pc := 153) hC (tgt := 202) dX12_unit_153 (by decide) (fun c153 => ?_) (fun c153 => ?_)
    · replace h := of_t c153 h
      obtain rfl := Option.some.inj h
      exact hE150 (v3_150, v4_150, μ_150) rfl
    · replace h := of_f c153 h
      refine u_aload_n (pc := 156) hC dX12_unit_156 rfl 0 rfl ?_
      obtain ⟨r157, q157, h⟩ := of_bd h
      refine k_RX12_73 (pc := 157) hC (av := []) (rest := []) (c_X12_here (d := d - 1) (by omega) hk0 q157) (by omega) (Nat.le_of_ble_eq_true rfl) hk0 rfl rfl dX12_unit_157 ?_
      refine u_i2l (pc := 160) hC dX12_unit_160 ?_
      refine u_ldc2 (pc := 161) hC (v := (48 : Int64)) mQ_RX12_113 dX12_unit_161 ?_
      refine u_ldc2 (pc := 164) hC (v := (57 : Int64)) mQ_RX12_115 dX12_unit_164 ?_
      obtain ⟨r167, q167, h⟩ := of_bd h
      refine k_RX12_57 (pc := 167) hC (av := [.long r157.toInt64, .long (48 : Int64), .long (57 : Int64)]) (rest := []) (c_X12_in (d := d - 1) (by omega)  q167) (by omega) (Nat.le_of_ble_eq_true rfl) rfl rfl dX12_unit_167 ?_
      refine u_if_eq (pc := 170) hC (tgt := 202) dX12_unit_170 (by decide) (fun c170 => ?_) (fun c170 => ?_)
      · replace h := of_t c170 h
        obtain rfl := Option.some.inj h
        exact hE150 (v3_150, v4_150, μ_150) rfl
      · replace h := of_f c170 h
        refine u_bipush (pc := 173) hC bc_10 dX12_unit_173 ?_
        refine u_iload_n (pc := 175) hC dX12_unit_175 rfl 1 rfl ?_
        refine u_imul (pc := 176) hC dX12_unit_176 ?_
        refine u_aload_n (pc := 177) hC dX12_unit_177 rfl 0 rfl ?_
        obtain ⟨r178, q178, h⟩ := of_bd h
        refine k_RX12_73 (pc := 178) hC (av := []) (rest := [.int ((10 : Int32) * v3_150)]) (c_X12_here (d := d - 1) (by omega) hk0 q178) (by omega) (Nat.le_of_ble_eq_true rfl) hk0 rfl rfl dX12_unit_178 ?_
        refine u_iadd (pc := 181) hC dX12_unit_181 ?_
        refine u_bipush (pc := 182) hC bc_48 dX12_unit_182 ?_
        refine u_isub (pc := 184) hC dX12_unit_184 ?_
        refine u_istore_n (pc := 185) hC dX12_unit_185 rfl [(3, .int ((((10 : Int32) * v3_150) + r178) - (48 : Int32))), (0, .ref (gad (cG C) k0)), (4, .int v4_150)] (by decide) rfl ?_
        refine u_aload_n (pc := 186) hC dX12_unit_186 rfl 1 rfl ?_
        refine u_dup (pc := 187) hC rfl dX12_unit_187 ?_
        refine g_RX12_61 (pc := 188) hC hk0 dX12_unit_188 ?_
        refine u_iconst (pc := 191) hC ic_1 dX12_unit_191 ?_
        refine u_iadd (pc := 192) hC dX12_unit_192 ?_
        obtain ⟨m193, q193, h⟩ := of_bd h
        refine p_RX12_61 (pc := 193) hC hk0 dX12_unit_193 (Option.some.inj q193) ?_
        refine u_iinc (pc := 196) hC dX12_unit_196 2 rfl (v4_150 + 1) rfl [(4, .int (v4_150 + 1)), (3, .int ((((10 : Int32) * v3_150) + r178) - (48 : Int32))), (0, .ref (gad (cG C) k0))] (by decide) rfl ?_
        refine u_goto (pc := 199) hC 150 dX12_unit_199 (by decide) ?_
        obtain rfl := Option.some.inj h
        refine u_sub [2, 1, 0] rfl ?_
        exact hP150 ((((10 : Int32) * v3_150) + r178) - (48 : Int32), v4_150 + 1, m193) rfl
  have jb88 : ∀ (μ_88 : Mem) (v1_88 : Int32) (v2_88 : Int32), F_X12_unit_j88 g_X12_both g_X12_compared g_X12_either g_X12_product g_X12_sum g_X12_unit μ_88 k0 v1_88 v2_88 = some r → UW C 5 μ_88 88 [(0, .ref (gad (cG C) k0)), (1, .int v1_88), (2, .int v2_88)] [] := by
    intro μ_88 v1_88 v2_88 h
    unfold F_X12_unit_j88 at h
    refine u_aload_n (pc := 88) hC dX12_unit_88 rfl 0 rfl ?_
    refine u_dup (pc := 89) hC rfl dX12_unit_89 ?_
    refine g_RX12_100 (pc := 90) hC hk0 dX12_unit_90 ?_
    refine u_iconst (pc := 93) hC ic_1 dX12_unit_93 ?_
    refine u_isub (pc := 94) hC dX12_unit_94 ?_
    obtain ⟨m95, q95, h⟩ := of_bd h
    refine p_RX12_100 (pc := 95) hC hk0 dX12_unit_95 (Option.some.inj q95) ?_
    refine u_iload_n (pc := 98) hC dX12_unit_98 rfl 1 rfl ?_
    refine u_bipush (pc := 99) hC bc_40 dX12_unit_99 ?_
    refine u_icmp_ne (pc := 101) hC (tgt := 108) dX12_unit_101 (by decide) (fun c101 => ?_) (fun c101 => ?_)
    · replace h := of_t c101 h
      refine u_iload_n (pc := 108) hC dX12_unit_108 rfl 2 rfl ?_
      refine u_if_ne (pc := 109) hC (tgt := 116) dX12_unit_109 (by decide) (fun c109 => ?_) (fun c109 => ?_)
      · replace h := of_t c109 h
        refine u_iconst (pc := 116) hC ic_0 dX12_unit_116 ?_
        obtain rfl := Option.some.inj h
        exact u_iret (pc := 117) hC hQ hr ⟨rfl, rfl⟩ dX12_unit_117
      · replace h := of_f (fun q => q c109) h
        refine u_iconst (pc := 112) hC ic_1 dX12_unit_112 ?_
        refine u_goto (pc := 113) hC 117 dX12_unit_113 (by decide) ?_
        obtain rfl := Option.some.inj h
        exact u_iret (pc := 117) hC hQ hr ⟨rfl, rfl⟩ dX12_unit_117
    · replace h := of_f (fun q => q c101) h
      refine u_iload_n (pc := 104) hC dX12_unit_104 rfl 2 rfl ?_
      refine u_goto (pc := 105) hC 117 dX12_unit_105 (by decide) ?_
      obtain rfl := Option.some.inj h
      exact u_iret (pc := 117) hC hQ hr ⟨rfl, rfl⟩ dX12_unit_117
  have jb67 : ∀ (μ_67 : Mem) (v1_67 : Int32) (vt0_67 : Int32), F_X12_unit_j67 g_X12_both g_X12_compared g_X12_either g_X12_product g_X12_sum g_X12_unit μ_67 k0 v1_67 vt0_67 = some r → UW C 5 μ_67 67 [(0, .ref (gad (cG C) k0)), (1, .int v1_67)] [.int vt0_67] := by
    intro μ_67 v1_67 vt0_67 h
    unfold F_X12_unit_j67 at h
    refine u_istore_n (pc := 67) hC dX12_unit_67 rfl [(2, .int vt0_67), (0, .ref (gad (cG C) k0)), (1, .int v1_67)] (by decide) rfl ?_
    refine u_iload_n (pc := 68) hC dX12_unit_68 rfl 2 rfl ?_
    refine u_bipush (pc := 69) hC bc_40 dX12_unit_69 ?_
    refine u_icmp_ne (pc := 71) hC (tgt := 88) dX12_unit_71 (by decide) (fun c71 => ?_) (fun c71 => ?_)
    · replace h := of_t c71 h
      refine u_sub [1, 2, 0] rfl ?_
      exact jb88 μ_67 v1_67 vt0_67 h
    · replace h := of_f (fun q => q c71) h
      refine u_aload_n (pc := 74) hC dX12_unit_74 rfl 1 rfl ?_
      refine u_bipush (pc := 75) hC bc_41 dX12_unit_75 ?_
      obtain ⟨p77, q77, h⟩ := of_bd h
      refine k_RX12_84 (pc := 77) hC (av := [.int (41 : Int32)]) (rest := []) (c_X12_takes (d := d - 1) (by omega) hk0 q77) (by omega) (Nat.le_of_ble_eq_true rfl) hk0 rfl rfl dX12_unit_77 ?_
      refine u_if_ne (pc := 80) hC (tgt := 88) dX12_unit_80 (by decide) (fun c80 => ?_) (fun c80 => ?_)
      · replace h := of_t c80 h
        refine u_sub [1, 2, 0] rfl ?_
        exact jb88 p77.2 v1_67 vt0_67 h
      · replace h := of_f (fun q => q c80) h
        refine u_aload_n (pc := 83) hC dX12_unit_83 rfl 1 rfl ?_
        obtain ⟨p84, q84, h⟩ := of_bd h
        refine k_RX12_103 (pc := 84) hC (av := []) (rest := []) (c_X12_wrong (d := d - 1) (by omega) hk0 q84) (by omega) (Nat.le_of_ble_eq_true rfl) hk0 rfl rfl dX12_unit_84 ?_
        obtain rfl := Option.some.inj h
        exact u_iret (pc := 87) hC hQ hr ⟨rfl, rfl⟩ dX12_unit_87
  have jb17 : ∀ (μ_17 : Mem) (v1_17 : Int32), F_X12_unit_j17 g_X12_both g_X12_compared g_X12_either g_X12_product g_X12_sum g_X12_unit μ_17 k0 v1_17 = some r → UW C 5 μ_17 17 [(0, .ref (gad (cG C) k0)), (1, .int v1_17)] [] := by
    intro μ_17 v1_17 h
    unfold F_X12_unit_j17 at h
    refine u_aload_n (pc := 17) hC dX12_unit_17 rfl 0 rfl ?_
    refine g_RX12_100 (pc := 18) hC hk0 dX12_unit_18 ?_
    refine u_iconst (pc := 21) hC ic_5 dX12_unit_21 ?_
    refine u_icmp_ne (pc := 22) hC (tgt := 30) dX12_unit_22 (by decide) (fun c22 => ?_) (fun c22 => ?_)
    · replace h := of_t c22 h
      refine u_aload_n (pc := 30) hC dX12_unit_30 rfl 0 rfl ?_
      refine u_dup (pc := 31) hC rfl dX12_unit_31 ?_
      refine g_RX12_100 (pc := 32) hC hk0 dX12_unit_32 ?_
      refine u_iconst (pc := 35) hC ic_1 dX12_unit_35 ?_
      refine u_iadd (pc := 36) hC dX12_unit_36 ?_
      obtain ⟨m37, q37, h⟩ := of_bd h
      refine p_RX12_100 (pc := 37) hC hk0 dX12_unit_37 (Option.some.inj q37) ?_
      refine u_aload_n (pc := 40) hC dX12_unit_40 rfl 0 rfl ?_
      refine u_dup (pc := 41) hC rfl dX12_unit_41 ?_
      refine g_RX12_61 (pc := 42) hC hk0 dX12_unit_42 ?_
      refine u_iconst (pc := 45) hC ic_1 dX12_unit_45 ?_
      refine u_iadd (pc := 46) hC dX12_unit_46 ?_
      obtain ⟨m47, q47, h⟩ := of_bd h
      refine p_RX12_61 (pc := 47) hC hk0 dX12_unit_47 (Option.some.inj q47) ?_
      refine u_iload_n (pc := 50) hC dX12_unit_50 rfl 1 rfl ?_
      refine u_bipush (pc := 51) hC bc_40 dX12_unit_51 ?_
      refine u_icmp_ne (pc := 53) hC (tgt := 63) dX12_unit_53 (by decide) (fun c53 => ?_) (fun c53 => ?_)
      · replace h := of_t c53 h
        refine u_aload_n (pc := 63) hC dX12_unit_63 rfl 0 rfl ?_
        obtain ⟨p64, q64, h⟩ := of_bd h
        refine k_RX12_97 (pc := 64) hC (av := []) (rest := []) (ih_X12_unit (d := d - 1) (by omega) hk0 q64) (by omega) (Nat.le_of_ble_eq_true rfl) hk0 rfl rfl dX12_unit_64 ?_
        exact jb67 p64.2 v1_17 p64.1 h
      · replace h := of_f (fun q => q c53) h
        refine u_aload_n (pc := 56) hC dX12_unit_56 rfl 0 rfl ?_
        obtain ⟨p57, q57, h⟩ := of_bd h
        refine k_RX12_106 (pc := 57) hC (av := []) (rest := []) (ih_X12_either (d := d - 1) (by omega) hk0 q57) (by omega) (Nat.le_of_ble_eq_true rfl) hk0 rfl rfl dX12_unit_57 ?_
        refine u_goto (pc := 60) hC 67 dX12_unit_60 (by decide) ?_
        exact jb67 p57.2 v1_17 p57.1 h
    · replace h := of_f (fun q => q c22) h
      refine u_aload_n (pc := 25) hC dX12_unit_25 rfl 0 rfl ?_
      obtain ⟨p26, q26, h⟩ := of_bd h
      refine k_RX12_103 (pc := 26) hC (av := []) (rest := []) (c_X12_wrong (d := d - 1) (by omega) hk0 q26) (by omega) (Nat.le_of_ble_eq_true rfl) hk0 rfl rfl dX12_unit_26 ?_
      obtain rfl := Option.some.inj h
      exact u_iret (pc := 29) hC hQ hr ⟨rfl, rfl⟩ dX12_unit_29
  unfold F_X12_unit at h
  refine u_aload_n (pc := 0) hC dX12_unit_0 rfl 0 rfl ?_
  obtain ⟨r1, q1, h⟩ := of_bd h
  refine k_RX12_73 (pc := 1) hC (av := []) (rest := []) (c_X12_here (d := d - 1) (by omega) hk0 q1) (by omega) (Nat.le_of_ble_eq_true rfl) hk0 rfl rfl dX12_unit_1 ?_
  refine u_istore_n (pc := 4) hC dX12_unit_4 rfl [(1, .int r1), (0, .ref (gad (cG C) k0))] (by decide) rfl ?_
  refine u_iload_n (pc := 5) hC dX12_unit_5 rfl 0 rfl ?_
  refine u_bipush (pc := 6) hC bc_33 dX12_unit_6 ?_
  refine u_icmp_eq (pc := 8) hC (tgt := 17) dX12_unit_8 (by decide) (fun c8 => ?_) (fun c8 => ?_)
  · replace h := of_t c8 h
    refine u_sub [1, 0] rfl ?_
    exact jb17 μ r1 h
  · replace h := of_f c8 h
    refine u_iload_n (pc := 11) hC dX12_unit_11 rfl 0 rfl ?_
    refine u_bipush (pc := 12) hC bc_40 dX12_unit_12 ?_
    refine u_icmp_ne (pc := 14) hC (tgt := 118) dX12_unit_14 (by decide) (fun c14 => ?_) (fun c14 => ?_)
    · replace h := of_t c14 h
      refine u_aload_n (pc := 118) hC dX12_unit_118 rfl 1 rfl ?_
      refine u_iload_n (pc := 119) hC dX12_unit_119 rfl 0 rfl ?_
      obtain ⟨r120, q120, h⟩ := of_bd h
      refine k_RX12_109 (pc := 120) hC (av := [.int r1]) (rest := []) (c_X12_nameOf (d := d - 1) (by omega) hk0 q120) (by omega) (Nat.le_of_ble_eq_true rfl) hk0 rfl rfl dX12_unit_120 ?_
      refine u_istore_n (pc := 123) hC dX12_unit_123 rfl [(2, .int r120), (1, .int r1), (0, .ref (gad (cG C) k0))] (by decide) rfl ?_
      refine u_iload_n (pc := 124) hC dX12_unit_124 rfl 0 rfl ?_
      refine u_if_lt (pc := 125) hC (tgt := 145) dX12_unit_125 (by decide) (fun c125 => ?_) (fun c125 => ?_)
      · replace h := of_t c125 h
        refine u_iconst (pc := 145) hC ic_0 dX12_unit_145 ?_
        refine u_istore_n (pc := 146) hC dX12_unit_146 rfl [(3, .int (0 : Int32)), (2, .int r120), (1, .int r1), (0, .ref (gad (cG C) k0))] (by decide) rfl ?_
        refine u_iconst (pc := 147) hC ic_0 dX12_unit_147 ?_
        refine u_istore (pc := 148) hC dX12_unit_148 [(4, .int (0 : Int32)), (3, .int (0 : Int32)), (2, .int r120), (1, .int r1), (0, .ref (gad (cG C) k0))] (by decide) rfl ?_
        obtain ⟨e150, l150, h⟩ := of_bd h
        refine u_sub [4, 1, 0] rfl ?_
        refine lw150  e150 ((0 : Int32), (0 : Int32), μ) l150 ?_
        show UW C 5 e150.2.2 202 [(0, .ref (gad (cG C) k0)), (3, .int e150.1), (4, .int e150.2.1)] []
        exact jb202 e150.2.2 e150.1 e150.2.1 h
      · replace h := of_f c125 h
        refine u_aload_n (pc := 128) hC dX12_unit_128 rfl 2 rfl ?_
        refine u_dup (pc := 129) hC rfl dX12_unit_129 ?_
        refine g_RX12_61 (pc := 130) hC hk0 dX12_unit_130 ?_
        refine u_iconst (pc := 133) hC ic_1 dX12_unit_133 ?_
        refine u_iadd (pc := 134) hC dX12_unit_134 ?_
        obtain ⟨m135, q135, h⟩ := of_bd h
        refine p_RX12_61 (pc := 135) hC hk0 dX12_unit_135 (Option.some.inj q135) ?_
        refine u_aload_n (pc := 138) hC dX12_unit_138 rfl 2 rfl ?_
        refine g_RX12_22 (pc := 139) hC hk0 dX12_unit_139 ?_
        refine u_iload_n (pc := 142) hC dX12_unit_142 rfl 0 rfl ?_
        obtain ⟨b143, h⟩ := of_gd h
        refine u_iald (pc := 143) hC (rs_12_11 hk0) 3 (rn_12_11 hk0) b143 dX12_unit_143 ?_
        obtain rfl := Option.some.inj h
        exact u_iret (pc := 144) hC hQ hr ⟨rfl, rfl⟩ dX12_unit_144
    · replace h := of_f (fun q => q c14) h
      refine u_sub [1, 0] rfl ?_
      exact jb17 μ r1 h
set_option maxHeartbeats 4000000 in
set_option maxRecDepth 100000 in
theorem c_grp_X12_both (n : Nat) : (∀ {l : Launch} {G : GG} {d : Nat} (hd : n + 2 ≤ d) {μ : Mem} {k0 : Nat} (hk0 : isC 12 k0) {r : Int32 × Mem} (h : f_X12_both n μ k0 = some r), CT l yX12_both cX12_both 3 (some .int) d G [.ref (gad G k0)] μ (RK (some (.int r.1)) r.2)) ∧ (∀ {l : Launch} {G : GG} {d : Nat} (hd : n + 2 ≤ d) {μ : Mem} {k0 : Nat} (hk0 : isC 12 k0) {r : Int32 × Mem} (h : f_X12_compared n μ k0 = some r), CT l yX12_compared cX12_compared 4 (some .int) d G [.ref (gad G k0)] μ (RK (some (.int r.1)) r.2)) ∧ (∀ {l : Launch} {G : GG} {d : Nat} (hd : n + 2 ≤ d) {μ : Mem} {k0 : Nat} (hk0 : isC 12 k0) {r : Int32 × Mem} (h : f_X12_either n μ k0 = some r), CT l yX12_either cX12_either 3 (some .int) d G [.ref (gad G k0)] μ (RK (some (.int r.1)) r.2)) ∧ (∀ {l : Launch} {G : GG} {d : Nat} (hd : n + 2 ≤ d) {μ : Mem} {k0 : Nat} (hk0 : isC 12 k0) {r : Int32 × Mem} (h : f_X12_product n μ k0 = some r), CT l yX12_product cX12_product 4 (some .int) d G [.ref (gad G k0)] μ (RK (some (.int r.1)) r.2)) ∧ (∀ {l : Launch} {G : GG} {d : Nat} (hd : n + 2 ≤ d) {μ : Mem} {k0 : Nat} (hk0 : isC 12 k0) {r : Int32 × Mem} (h : f_X12_sum n μ k0 = some r), CT l yX12_sum cX12_sum 4 (some .int) d G [.ref (gad G k0)] μ (RK (some (.int r.1)) r.2)) ∧ (∀ {l : Launch} {G : GG} {d : Nat} (hd : n + 2 ≤ d) {μ : Mem} {k0 : Nat} (hk0 : isC 12 k0) {r : Int32 × Mem} (h : f_X12_unit n μ k0 = some r), CT l yX12_unit cX12_unit 5 (some .int) d G [.ref (gad G k0)] μ (RK (some (.int r.1)) r.2)) := by
  induction n with
  | zero => exact ⟨(by intro l G d hd μ k0 hk0 r h; exact absurd (show (none : Option (Int32 × Mem)) = some r from h) (by simp)), (by intro l G d hd μ k0 hk0 r h; exact absurd (show (none : Option (Int32 × Mem)) = some r from h) (by simp)), (by intro l G d hd μ k0 hk0 r h; exact absurd (show (none : Option (Int32 × Mem)) = some r from h) (by simp)), (by intro l G d hd μ k0 hk0 r h; exact absurd (show (none : Option (Int32 × Mem)) = some r from h) (by simp)), (by intro l G d hd μ k0 hk0 r h; exact absurd (show (none : Option (Int32 × Mem)) = some r from h) (by simp)), (by intro l G d hd μ k0 hk0 r h; exact absurd (show (none : Option (Int32 × Mem)) = some r from h) (by simp))⟩
  | succ n ih => exact ⟨(by intro l G d hd μ k0 hk0 r h; exact w_X12_both (f_X12_both n) (f_X12_compared n) (f_X12_either n) (f_X12_product n) (f_X12_sum n) (f_X12_unit n) ih.1 ih.2.1 ih.2.2.1 ih.2.2.2.1 ih.2.2.2.2.1 ih.2.2.2.2.2 (by omega) hk0 h), (by intro l G d hd μ k0 hk0 r h; exact w_X12_compared (f_X12_both n) (f_X12_compared n) (f_X12_either n) (f_X12_product n) (f_X12_sum n) (f_X12_unit n) ih.1 ih.2.1 ih.2.2.1 ih.2.2.2.1 ih.2.2.2.2.1 ih.2.2.2.2.2 (by omega) hk0 h), (by intro l G d hd μ k0 hk0 r h; exact w_X12_either (f_X12_both n) (f_X12_compared n) (f_X12_either n) (f_X12_product n) (f_X12_sum n) (f_X12_unit n) ih.1 ih.2.1 ih.2.2.1 ih.2.2.2.1 ih.2.2.2.2.1 ih.2.2.2.2.2 (by omega) hk0 h), (by intro l G d hd μ k0 hk0 r h; exact w_X12_product (f_X12_both n) (f_X12_compared n) (f_X12_either n) (f_X12_product n) (f_X12_sum n) (f_X12_unit n) ih.1 ih.2.1 ih.2.2.1 ih.2.2.2.1 ih.2.2.2.2.1 ih.2.2.2.2.2 (by omega) hk0 h), (by intro l G d hd μ k0 hk0 r h; exact w_X12_sum (f_X12_both n) (f_X12_compared n) (f_X12_either n) (f_X12_product n) (f_X12_sum n) (f_X12_unit n) ih.1 ih.2.1 ih.2.2.1 ih.2.2.2.1 ih.2.2.2.2.1 ih.2.2.2.2.2 (by omega) hk0 h), (by intro l G d hd μ k0 hk0 r h; exact w_X12_unit (f_X12_both n) (f_X12_compared n) (f_X12_either n) (f_X12_product n) (f_X12_sum n) (f_X12_unit n) ih.1 ih.2.1 ih.2.2.1 ih.2.2.2.1 ih.2.2.2.2.1 ih.2.2.2.2.2 (by omega) hk0 h)⟩
theorem c_X12_both {n : Nat} {l : Launch} {G : GG} {d : Nat} (hd : n + 2 ≤ d) {μ : Mem} {k0 : Nat} (hk0 : isC 12 k0) {r : Int32 × Mem} (h : f_X12_both n μ k0 = some r) : CT l yX12_both cX12_both 3 (some .int) d G [.ref (gad G k0)] μ (RK (some (.int r.1)) r.2) := (c_grp_X12_both n).1 hd hk0 h
theorem c_X12_compared {n : Nat} {l : Launch} {G : GG} {d : Nat} (hd : n + 2 ≤ d) {μ : Mem} {k0 : Nat} (hk0 : isC 12 k0) {r : Int32 × Mem} (h : f_X12_compared n μ k0 = some r) : CT l yX12_compared cX12_compared 4 (some .int) d G [.ref (gad G k0)] μ (RK (some (.int r.1)) r.2) := (c_grp_X12_both n).2.1 hd hk0 h
theorem c_X12_either {n : Nat} {l : Launch} {G : GG} {d : Nat} (hd : n + 2 ≤ d) {μ : Mem} {k0 : Nat} (hk0 : isC 12 k0) {r : Int32 × Mem} (h : f_X12_either n μ k0 = some r) : CT l yX12_either cX12_either 3 (some .int) d G [.ref (gad G k0)] μ (RK (some (.int r.1)) r.2) := (c_grp_X12_both n).2.2.1 hd hk0 h
theorem c_X12_product {n : Nat} {l : Launch} {G : GG} {d : Nat} (hd : n + 2 ≤ d) {μ : Mem} {k0 : Nat} (hk0 : isC 12 k0) {r : Int32 × Mem} (h : f_X12_product n μ k0 = some r) : CT l yX12_product cX12_product 4 (some .int) d G [.ref (gad G k0)] μ (RK (some (.int r.1)) r.2) := (c_grp_X12_both n).2.2.2.1 hd hk0 h
theorem c_X12_sum {n : Nat} {l : Launch} {G : GG} {d : Nat} (hd : n + 2 ≤ d) {μ : Mem} {k0 : Nat} (hk0 : isC 12 k0) {r : Int32 × Mem} (h : f_X12_sum n μ k0 = some r) : CT l yX12_sum cX12_sum 4 (some .int) d G [.ref (gad G k0)] μ (RK (some (.int r.1)) r.2) := (c_grp_X12_both n).2.2.2.2.1 hd hk0 h
theorem c_X12_unit {n : Nat} {l : Launch} {G : GG} {d : Nat} (hd : n + 2 ≤ d) {μ : Mem} {k0 : Nat} (hk0 : isC 12 k0) {r : Int32 × Mem} (h : f_X12_unit n μ k0 = some r) : CT l yX12_unit cX12_unit 5 (some .int) d G [.ref (gad G k0)] μ (RK (some (.int r.1)) r.2) := (c_grp_X12_both n).2.2.2.2.2 hd hk0 h
set_option maxHeartbeats 4000000 in
set_option maxRecDepth 100000 in
theorem c_X12_worked {l : Launch} {G : GG} {d : Nat} (hd : 103 ≤ d) {μ : Mem} {k0 : Nat} (hk0 : isC 12 k0) {a1 : Int32} {a2 : Int32} {a3 : Int32} {r : Int32 × Mem} (h : f_X12_worked μ k0 a1 a2 a3 = some r) : CT l yX12_worked cX12_worked 5 (some .int) d G [.ref (gad G k0), .int a1, .int a2, .int a3] μ (RK (some (.int r.1)) r.2) := by
  refine ct_start (by decide) (Nat.le_of_ble_eq_true rfl) (fun C hl1 hG1 hC hQ hr => ?_)
  subst hl1; subst hG1
  have hC : CxOK C cX12_worked 5 RX12 d := hC
  show UW C 5 μ 0 [(0, .ref (gad (cG C) k0)), (1, .int a1), (2, .int a2), (3, .int a3)] []
  have jb36 : ∀ (μ_36 : Mem) (kt0_36 : Nat) (hkt0_36 : isC 12 kt0_36) (vt1_36 : Int32), f_X12_worked_j36 μ_36 k0 a1 a2 a3 kt0_36 vt1_36 = some r → UW C 5 μ_36 36 [(0, .ref (gad (cG C) k0))] [.int vt1_36, .ref (gad (cG C) kt0_36)] := by
    intro μ_36 kt0_36 hkt0_36 vt1_36 h
    unfold f_X12_worked_j36 at h
    obtain ⟨b36, h⟩ := of_gd h
    obtain ⟨m36, q36, h⟩ := of_bd h
    refine p_RX12_77 (pc := 36) hC hkt0_36 b36 dX12_worked_36 (Option.some.inj q36) ?_
    refine u_aload_n (pc := 39) hC dX12_worked_39 rfl 0 rfl ?_
    obtain ⟨p40, q40, h⟩ := of_bd h
    refine k_RX12_106 (pc := 40) hC (av := []) (rest := []) (c_X12_either (d := d - 1) (by omega) hk0 q40) (by omega) (Nat.le_of_ble_eq_true rfl) hk0 rfl rfl dX12_worked_40 ?_
    refine u_istore (pc := 43) hC dX12_worked_43 [(4, .int p40.1), (0, .ref (gad (cG C) k0))] (by decide) rfl ?_
    refine u_aload_n (pc := 45) hC dX12_worked_45 rfl 1 rfl ?_
    refine g_RX12_67 (pc := 46) hC hk0 dX12_worked_46 ?_
    refine u_if_ge (pc := 49) hC (tgt := 68) dX12_worked_49 (by decide) (fun c49 => ?_) (fun c49 => ?_)
    · replace h := of_t c49 h
      refine u_iload (pc := 68) hC dX12_worked_68 0 rfl ?_
      obtain rfl := Option.some.inj h
      exact u_iret (pc := 70) hC hQ hr ⟨rfl, rfl⟩ dX12_worked_70
    · replace h := of_f c49 h
      refine u_aload_n (pc := 52) hC dX12_worked_52 rfl 1 rfl ?_
      refine g_RX12_61 (pc := 53) hC hk0 dX12_worked_53 ?_
      refine u_aload_n (pc := 56) hC dX12_worked_56 rfl 1 rfl ?_
      refine g_RX12_64 (pc := 57) hC hk0 dX12_worked_57 ?_
      refine u_icmp_ge (pc := 60) hC (tgt := 68) dX12_worked_60 (by decide) (fun c60 => ?_) (fun c60 => ?_)
      · replace h := of_t c60 h
        refine u_iload (pc := 68) hC dX12_worked_68 0 rfl ?_
        obtain rfl := Option.some.inj h
        exact u_iret (pc := 70) hC hQ hr ⟨rfl, rfl⟩ dX12_worked_70
      · replace h := of_f c60 h
        refine u_aload_n (pc := 63) hC dX12_worked_63 rfl 1 rfl ?_
        obtain ⟨p64, q64, h⟩ := of_bd h
        refine k_RX12_103 (pc := 64) hC (av := []) (rest := []) (c_X12_wrong (d := d - 1) (by omega) hk0 q64) (by omega) (Nat.le_of_ble_eq_true rfl) hk0 rfl rfl dX12_worked_64 ?_
        obtain rfl := Option.some.inj h
        exact u_iret (pc := 67) hC hQ hr ⟨rfl, rfl⟩ dX12_worked_67
  unfold f_X12_worked at h
  refine u_aload_n (pc := 0) hC dX12_worked_0 rfl 0 rfl ?_
  refine u_iload_n (pc := 1) hC dX12_worked_1 rfl 1 rfl ?_
  obtain ⟨m2, q2, h⟩ := of_bd h
  refine p_RX12_70 (pc := 2) hC hk0 dX12_worked_2 (Option.some.inj q2) ?_
  refine u_aload_n (pc := 5) hC dX12_worked_5 rfl 0 rfl ?_
  refine u_iconst (pc := 6) hC ic_0 dX12_worked_6 ?_
  obtain ⟨m7, q7, h⟩ := of_bd h
  refine p_RX12_61 (pc := 7) hC hk0 dX12_worked_7 (Option.some.inj q7) ?_
  refine u_aload_n (pc := 10) hC dX12_worked_10 rfl 0 rfl ?_
  refine u_iload_n (pc := 11) hC dX12_worked_11 rfl 2 rfl ?_
  obtain ⟨m12, q12, h⟩ := of_bd h
  refine p_RX12_64 (pc := 12) hC hk0 dX12_worked_12 (Option.some.inj q12) ?_
  refine u_aload_n (pc := 15) hC dX12_worked_15 rfl 0 rfl ?_
  refine u_iconst (pc := 16) hC ic_m1 dX12_worked_16 ?_
  obtain ⟨m17, q17, h⟩ := of_bd h
  refine p_RX12_67 (pc := 17) hC hk0 dX12_worked_17 (Option.some.inj q17) ?_
  refine u_aload_n (pc := 20) hC dX12_worked_20 rfl 0 rfl ?_
  refine u_iconst (pc := 21) hC ic_0 dX12_worked_21 ?_
  obtain ⟨m22, q22, h⟩ := of_bd h
  refine p_RX12_100 (pc := 22) hC hk0 dX12_worked_22 (Option.some.inj q22) ?_
  refine u_aload_n (pc := 25) hC dX12_worked_25 rfl 0 rfl ?_
  refine u_iload_n (pc := 26) hC dX12_worked_26 rfl 3 rfl ?_
  refine u_iconst (pc := 27) hC ic_1 dX12_worked_27 ?_
  refine u_icmp_ne (pc := 28) hC (tgt := 35) dX12_worked_28 (by decide) (fun c28 => ?_) (fun c28 => ?_)
  · replace h := of_t c28 h
    refine u_iconst (pc := 35) hC ic_0 dX12_worked_35 ?_
    refine u_sub [0] rfl ?_
    exact jb36 m22 k0 hk0 (0 : Int32) h
  · replace h := of_f (fun q => q c28) h
    refine u_iconst (pc := 31) hC ic_1 dX12_worked_31 ?_
    refine u_goto (pc := 32) hC 36 dX12_worked_32 (by decide) ?_
    refine u_sub [0] rfl ?_
    exact jb36 m22 k0 hk0 (1 : Int32) h
set_option maxHeartbeats 4000000 in
set_option maxRecDepth 100000 in
theorem c_X12_feed {l : Launch} {G : GG} {d : Nat} (hd : 1 ≤ d) {μ : Mem} {k0 : Nat} (hk0 : isC 12 k0) {a1 : Int64} {a3 : Int32} {r : Int32 × Mem} (h : f_X12_feed μ k0 a1 a3 = some r) : CT l yX12_feed cX12_feed 5 (some .int) d G [.ref (gad G k0), .long a1, .int a3] μ (RK (some (.int r.1)) r.2) := by
  refine ct_start (by decide) (Nat.le_of_ble_eq_true rfl) (fun C hl1 hG1 hC hQ hr => ?_)
  subst hl1; subst hG1
  have hC : CxOK C cX12_feed 5 RX12 d := hC
  show UW C 5 μ 0 [(0, .ref (gad (cG C) k0)), (1, .long a1), (3, .int a3)] []
  have lw40 : ∀ (e : (Mem)) (s : Int32 × Mem), lp (fun s => f_X12_feed_l40 k0 a1 a3 s.1 s.2) FU s = some e → (fun (e : (Mem)) => UW C 5 e 89 [(0, .ref (gad (cG C) k0))] []) e → UW C 5 s.2 40 [(0, .ref (gad (cG C) k0)), (1, .long a1), (3, .int a3), (4, .int s.1)] [] := by
    intro e s hl hE0
    refine @lp_walk (Int32 × Mem) (Mem) (fun s => f_X12_feed_l40 k0 a1 a3 s.1 s.2) (fun s => UW C 5 s.2 40 [(0, .ref (gad (cG C) k0)), (1, .long a1), (3, .int a3), (4, .int s.1)] []) (fun (e : (Mem)) => UW C 5 e 89 [(0, .ref (gad (cG C) k0))] []) (fun s y40 h hP40 hE40 => ?_) FU s e hl hE0
    obtain ⟨v4_40, μ_40⟩ := s
    replace h : f_X12_feed_l40 k0 a1 a3 v4_40 μ_40 = some y40 := h
    show UW C 5 μ_40 40 [(0, .ref (gad (cG C) k0)), (1, .long a1), (3, .int a3), (4, .int v4_40)] []
    unfold f_X12_feed_l40 at h
    refine u_iload (pc := 40) hC dX12_feed_40 3 rfl ?_
    refine u_iload_n (pc := 42) hC dX12_feed_42 rfl 2 rfl ?_
    refine u_icmp_ge (pc := 43) hC (tgt := 89) dX12_feed_43 (by decide) (fun c43 => ?_) (fun c43 => ?_)
    · replace h := of_t c43 h
      obtain rfl := Option.some.inj h
      refine u_sub [0] rfl ?_
      exact hE40 μ_40 rfl
    · replace h := of_f c43 h
      refine u_aload_n (pc := 46) hC dX12_feed_46 rfl 0 rfl ?_
      refine g_RX12_7 (pc := 47) hC hk0 dX12_feed_47 ?_
      refine u_sipush (pc := 50) hC sc_292 dX12_feed_50 ?_
      refine u_aload_n (pc := 53) hC dX12_feed_53 rfl 0 rfl ?_
      refine g_RX12_7 (pc := 54) hC hk0 dX12_feed_54 ?_
      refine u_iconst (pc := 57) hC ic_5 dX12_feed_57 ?_
      refine u_iald (pc := 58) hC (rs_12_0 hk0) 342 (rn_12_0 hk0) (by decide) dX12_feed_58 ?_
      refine u_iadd (pc := 59) hC dX12_feed_59 ?_
      refine u_lload_n (pc := 60) hC dX12_feed_60 rfl 1 rfl ?_
      refine u_bipush (pc := 61) hC bc_8 dX12_feed_61 ?_
      refine u_iload (pc := 63) hC dX12_feed_63 3 rfl ?_
      refine u_imul (pc := 65) hC dX12_feed_65 ?_
      refine u_lshr (pc := 66) hC dX12_feed_66 ?_
      refine u_ldc2 (pc := 67) hC (v := (255 : Int64)) mQ_RX12_122 dX12_feed_67 ?_
      refine u_land (pc := 70) hC dX12_feed_70 ?_
      refine u_l2i (pc := 71) hC dX12_feed_71 ?_
      obtain ⟨b72, h⟩ := of_gd h
      obtain ⟨m72, q72, h⟩ := of_bd h
      refine u_iast (pc := 72) hC (rs_12_0 hk0) 342 (rn_12_0 hk0) b72 dX12_feed_72 (Option.some.inj q72) ?_
      refine u_aload_n (pc := 73) hC dX12_feed_73 rfl 0 rfl ?_
      refine g_RX12_7 (pc := 74) hC hk0 dX12_feed_74 ?_
      refine u_iconst (pc := 77) hC ic_5 dX12_feed_77 ?_
      refine u_dup2 (pc := 78) hC rfl rfl dX12_feed_78 ?_
      refine u_iald (pc := 79) hC (rs_12_0 hk0) 342 (rn_12_0 hk0) (by decide) dX12_feed_79 ?_
      refine u_iconst (pc := 80) hC ic_1 dX12_feed_80 ?_
      refine u_iadd (pc := 81) hC dX12_feed_81 ?_
      obtain ⟨m82, q82, h⟩ := of_bd h
      refine u_iast (pc := 82) hC (rs_12_0 hk0) 342 (rn_12_0 hk0) (by decide) dX12_feed_82 (Option.some.inj q82) ?_
      refine u_iinc (pc := 83) hC dX12_feed_83 3 rfl (v4_40 + 1) rfl [(4, .int (v4_40 + 1)), (0, .ref (gad (cG C) k0)), (1, .long a1), (3, .int a3)] (by decide) rfl ?_
      refine u_goto (pc := 86) hC 40 dX12_feed_86 (by decide) ?_
      obtain rfl := Option.some.inj h
      refine u_sub [1, 2, 3, 0] rfl ?_
      exact hP40 (v4_40 + 1, m82) rfl
  unfold f_X12_feed at h
  refine u_iload_n (pc := 0) hC dX12_feed_0 rfl 2 rfl ?_
  refine u_i2l (pc := 1) hC dX12_feed_1 ?_
  refine u_lconst (pc := 2) hC (v := (1 : Int64)) rfl dX12_feed_2 ?_
  refine u_ldc2 (pc := 3) hC (v := (8 : Int64)) mQ_RX12_117 dX12_feed_3 ?_
  obtain ⟨r6, q6, h⟩ := of_bd h
  refine k_RX12_57 (pc := 6) hC (av := [.long a3.toInt64, .long (1 : Int64), .long (8 : Int64)]) (rest := []) (c_X12_in (d := d - 1) (by omega)  q6) (by omega) (Nat.le_of_ble_eq_true rfl) rfl rfl dX12_feed_6 ?_
  refine u_if_ne (pc := 9) hC (tgt := 18) dX12_feed_9 (by decide) (fun c9 => ?_) (fun c9 => ?_)
  · replace h := of_t c9 h
    refine u_aload_n (pc := 18) hC dX12_feed_18 rfl 0 rfl ?_
    refine g_RX12_7 (pc := 19) hC hk0 dX12_feed_19 ?_
    refine u_iconst (pc := 22) hC ic_5 dX12_feed_22 ?_
    refine u_iald (pc := 23) hC (rs_12_0 hk0) 342 (rn_12_0 hk0) (by decide) dX12_feed_23 ?_
    refine u_iload_n (pc := 24) hC dX12_feed_24 rfl 2 rfl ?_
    refine u_iadd (pc := 25) hC dX12_feed_25 ?_
    refine u_bipush (pc := 26) hC bc_50 dX12_feed_26 ?_
    refine u_icmp_le (pc := 28) hC (tgt := 37) dX12_feed_28 (by decide) (fun c28 => ?_) (fun c28 => ?_)
    · replace h := of_t c28 h
      refine u_iconst (pc := 37) hC ic_0 dX12_feed_37 ?_
      refine u_istore (pc := 38) hC dX12_feed_38 [(4, .int (0 : Int32)), (0, .ref (gad (cG C) k0)), (1, .long a1), (3, .int a3)] (by decide) rfl ?_
      obtain ⟨e40, l40, h⟩ := of_bd h
      refine u_sub [1, 2, 3, 0] rfl ?_
      refine lw40  e40 ((0 : Int32), μ) l40 ?_
      show UW C 5 e40 89 [(0, .ref (gad (cG C) k0))] []
      refine u_aload_n (pc := 89) hC dX12_feed_89 rfl 0 rfl ?_
      refine g_RX12_7 (pc := 90) hC hk0 dX12_feed_90 ?_
      refine u_iconst (pc := 93) hC ic_5 dX12_feed_93 ?_
      refine u_iald (pc := 94) hC (rs_12_0 hk0) 342 (rn_12_0 hk0) (by decide) dX12_feed_94 ?_
      obtain rfl := Option.some.inj h
      exact u_iret (pc := 95) hC hQ hr ⟨rfl, rfl⟩ dX12_feed_95
    · replace h := of_f c28 h
      refine u_aload_n (pc := 31) hC dX12_feed_31 rfl 0 rfl ?_
      refine u_iconst (pc := 32) hC ic_4 dX12_feed_32 ?_
      obtain ⟨p33, q33, h⟩ := of_bd h
      refine k_RX12_119 (pc := 33) hC (av := [.int (4 : Int32)]) (rest := []) (c_X12_finds (d := d - 1) (by omega) hk0 q33) (by omega) (Nat.le_of_ble_eq_true rfl) hk0 rfl rfl dX12_feed_33 ?_
      obtain rfl := Option.some.inj h
      exact u_iret (pc := 36) hC hQ hr ⟨rfl, rfl⟩ dX12_feed_36
  · replace h := of_f (fun q => q c9) h
    refine u_aload_n (pc := 12) hC dX12_feed_12 rfl 0 rfl ?_
    refine u_iconst (pc := 13) hC ic_1 dX12_feed_13 ?_
    obtain ⟨p14, q14, h⟩ := of_bd h
    refine k_RX12_119 (pc := 14) hC (av := [.int (1 : Int32)]) (rest := []) (c_X12_finds (d := d - 1) (by omega) hk0 q14) (by omega) (Nat.le_of_ble_eq_true rfl) hk0 rfl rfl dX12_feed_14 ?_
    obtain rfl := Option.some.inj h
    exact u_iret (pc := 17) hC hQ hr ⟨rfl, rfl⟩ dX12_feed_17
