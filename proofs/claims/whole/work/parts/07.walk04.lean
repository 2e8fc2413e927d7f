set_option maxHeartbeats 4000000 in
set_option maxRecDepth 100000 in
theorem c_X12_clashOf {l : Launch} {G : GG} {d : Nat} (hd : 1 ≤ d) {μ : Mem} {k0 : Nat} (hk0 : isC 12 k0) {a1 : Int32} {r : Int32 × Mem} (h : f_X12_clashOf μ k0 a1 = some r) : CT l yX12_clashOf cX12_clashOf 4 (some .int) d G [.ref (gad G k0), .int a1] μ (RK (some (.int r.1)) r.2) := by
  refine ct_start (by decide) (Nat.le_of_ble_eq_true rfl) (fun C hl1 hG1 hC hQ hr => ?_)
  subst hl1; subst hG1
  have hC : CxOK C cX12_clashOf 4 RX12 d := hC
  show UW C 4 μ 0 [(0, .ref (gad (cG C) k0)), (1, .int a1)] []
  have lw28 : ∀ (μ_28 : Mem) (e : ((Int32 × Int32) ⊕ Unit)) (s : Int32), lp (fun s => f_X12_clashOf_l28 μ_28 k0 a1 s) FU s = some e → (Sum.elim (fun (e : (Int32 × Int32)) => UW C 4 μ_28 84 [(2, .int e.1), (3, .int e.2)] []) (fun (e : Unit) => UW C 4 μ_28 103 [(0, .ref (gad (cG C) k0))] [])) e → UW C 4 μ_28 28 [(0, .ref (gad (cG C) k0)), (1, .int a1), (2, .int s)] [] := by
    intro μ_28 e s hl hE0
    refine @lp_walk (Int32) ((Int32 × Int32) ⊕ Unit) (fun s => f_X12_clashOf_l28 μ_28 k0 a1 s) (fun s => UW C 4 μ_28 28 [(0, .ref (gad (cG C) k0)), (1, .int a1), (2, .int s)] []) (Sum.elim (fun (e : (Int32 × Int32)) => UW C 4 μ_28 84 [(2, .int e.1), (3, .int e.2)] []) (fun (e : Unit) => UW C 4 μ_28 103 [(0, .ref (gad (cG C) k0))] [])) (fun v2_28 y28 h hP28 hE28 => ?_) FU s e hl hE0
    have lw42 : ∀ (μ_42 : Mem) (v2_42 : Int32) (e : ((Int32) ⊕ Unit)) (s : Int32), lp (fun s => f_X12_clashOf_l42 μ_42 k0 a1 v2_42 s) FU s = some e → (Sum.elim (fun (e : (Int32)) => UW C 4 μ_42 84 [(2, .int v2_42), (3, .int e)] []) (fun (e : Unit) => UW C 4 μ_42 97 [(0, .ref (gad (cG C) k0)), (1, .int a1), (2, .int v2_42)] [])) e → UW C 4 μ_42 42 [(0, .ref (gad (cG C) k0)), (1, .int a1), (2, .int v2_42), (3, .int s)] [] := by
      intro μ_42 v2_42 e s hl hE0
      refine @lp_walk (Int32) ((Int32) ⊕ Unit) (fun s => f_X12_clashOf_l42 μ_42 k0 a1 v2_42 s) (fun s => UW C 4 μ_42 42 [(0, .ref (gad (cG C) k0)), (1, .int a1), (2, .int v2_42), (3, .int s)] []) (Sum.elim (fun (e : (Int32)) => UW C 4 μ_42 84 [(2, .int v2_42), (3, .int e)] []) (fun (e : Unit) => UW C 4 μ_42 97 [(0, .ref (gad (cG C) k0)), (1, .int a1), (2, .int v2_42)] [])) (fun v3_42 y42 h hP42 hE42 => ?_) FU s e hl hE0
      replace h : f_X12_clashOf_l42 μ_42 k0 a1 v2_42 v3_42 = some y42 := h
      show UW C 4 μ_42 42 [(0, .ref (gad (cG C) k0)), (1, .int a1), (2, .int v2_42), (3, .int v3_42)] []
      unfold f_X12_clashOf_l42 at h
      refine u_iload_n (pc := 42) hC dX12_clashOf_42 rfl 3 rfl ?_
      refine u_aload_n (pc := 43) hC dX12_clashOf_43 rfl 0 rfl ?_
      refine g_RX12_7 (pc := 44) hC hk0 dX12_clashOf_44 ?_
      refine u_iconst (pc := 47) hC ic_0 dX12_clashOf_47 ?_
      refine u_iald (pc := 48) hC (rs_12_0 hk0) 342 (rn_12_0 hk0) (by decide) dX12_clashOf_48 ?_
      refine u_icmp_ge (pc := 49) hC (tgt := 97) dX12_clashOf_49 (by decide) (fun c49 => ?_) (fun c49 => ?_)
      · replace h := of_t c49 h
        obtain rfl := Option.some.inj h
        refine u_sub [0, 1, 2] rfl ?_
        exact hE42 (.inr ()) rfl
      · replace h := of_f c49 h
        refine u_iload_n (pc := 52) hC dX12_clashOf_52 rfl 1 rfl ?_
        refine u_iload_n (pc := 53) hC dX12_clashOf_53 rfl 2 rfl ?_
        refine u_ishr (pc := 54) hC dX12_clashOf_54 ?_
        refine u_iconst (pc := 55) hC ic_1 dX12_clashOf_55 ?_
        refine u_iand (pc := 56) hC dX12_clashOf_56 ?_
        refine u_iconst (pc := 57) hC ic_1 dX12_clashOf_57 ?_
        refine u_icmp_ne (pc := 58) hC (tgt := 91) dX12_clashOf_58 (by decide) (fun c58 => ?_) (fun c58 => ?_)
        · replace h := of_t c58 h
          refine u_iinc (pc := 91) hC dX12_clashOf_91 3 rfl (v3_42 + 1) rfl [(3, .int (v3_42 + 1)), (0, .ref (gad (cG C) k0)), (1, .int a1), (2, .int v2_42)] (by decide) rfl ?_
          refine u_goto (pc := 94) hC 42 dX12_clashOf_94 (by decide) ?_
          obtain rfl := Option.some.inj h
          refine u_sub [1, 2, 3, 0] rfl ?_
          exact hP42 (v3_42 + 1) rfl
        · replace h := of_f (fun q => q c58) h
          refine u_iload_n (pc := 61) hC dX12_clashOf_61 rfl 1 rfl ?_
          refine u_iload_n (pc := 62) hC dX12_clashOf_62 rfl 3 rfl ?_
          refine u_ishr (pc := 63) hC dX12_clashOf_63 ?_
          refine u_iconst (pc := 64) hC ic_1 dX12_clashOf_64 ?_
          refine u_iand (pc := 65) hC dX12_clashOf_65 ?_
          refine u_iconst (pc := 66) hC ic_1 dX12_clashOf_66 ?_
          refine u_icmp_ne (pc := 67) hC (tgt := 91) dX12_clashOf_67 (by decide) (fun c67 => ?_) (fun c67 => ?_)
          · replace h := of_t c67 h
            refine u_iinc (pc := 91) hC dX12_clashOf_91 3 rfl (v3_42 + 1) rfl [(3, .int (v3_42 + 1)), (0, .ref (gad (cG C) k0)), (1, .int a1), (2, .int v2_42)] (by decide) rfl ?_
            refine u_goto (pc := 94) hC 42 dX12_clashOf_94 (by decide) ?_
            obtain rfl := Option.some.inj h
            refine u_sub [1, 2, 3, 0] rfl ?_
            exact hP42 (v3_42 + 1) rfl
          · replace h := of_f (fun q => q c67) h
            refine u_aload_n (pc := 70) hC dX12_clashOf_70 rfl 0 rfl ?_
            refine u_iload_n (pc := 71) hC dX12_clashOf_71 rfl 2 rfl ?_
            refine u_iconst (pc := 72) hC ic_1 dX12_clashOf_72 ?_
            obtain ⟨r73, q73, h⟩ := of_bd h
            refine k_RX12_144 (pc := 73) hC (av := [.int v2_42, .int (1 : Int32)]) (rest := []) (c_X12_its (d := d - 1) (by omega) hk0 q73) (by omega) (Nat.le_of_ble_eq_true rfl) hk0 rfl rfl dX12_clashOf_73 ?_
            refine u_iload_n (pc := 76) hC dX12_clashOf_76 rfl 3 rfl ?_
            refine u_ishr (pc := 77) hC dX12_clashOf_77 ?_
            refine u_iconst (pc := 78) hC ic_1 dX12_clashOf_78 ?_
            refine u_iand (pc := 79) hC dX12_clashOf_79 ?_
            refine u_iconst (pc := 80) hC ic_1 dX12_clashOf_80 ?_
            refine u_icmp_ne (pc := 81) hC (tgt := 91) dX12_clashOf_81 (by decide) (fun c81 => ?_) (fun c81 => ?_)
            · replace h := of_t c81 h
              refine u_iinc (pc := 91) hC dX12_clashOf_91 3 rfl (v3_42 + 1) rfl [(3, .int (v3_42 + 1)), (0, .ref (gad (cG C) k0)), (1, .int a1), (2, .int v2_42)] (by decide) rfl ?_
              refine u_goto (pc := 94) hC 42 dX12_clashOf_94 (by decide) ?_
              obtain rfl := Option.some.inj h
              refine u_sub [1, 2, 3, 0] rfl ?_
              exact hP42 (v3_42 + 1) rfl
            · replace h := of_f (fun q => q c81) h
              obtain rfl := Option.some.inj h
              refine u_sub [2, 3] rfl ?_
              exact hE42 (.inl v3_42) rfl
    replace h : f_X12_clashOf_l28 μ_28 k0 a1 v2_28 = some y28 := h
    show UW C 4 μ_28 28 [(0, .ref (gad (cG C) k0)), (1, .int a1), (2, .int v2_28)] []
    unfold f_X12_clashOf_l28 at h
    refine u_iload_n (pc := 28) hC dX12_clashOf_28 rfl 2 rfl ?_
    refine u_aload_n (pc := 29) hC dX12_clashOf_29 rfl 0 rfl ?_
    refine g_RX12_7 (pc := 30) hC hk0 dX12_clashOf_30 ?_
    refine u_iconst (pc := 33) hC ic_0 dX12_clashOf_33 ?_
    refine u_iald (pc := 34) hC (rs_12_0 hk0) 342 (rn_12_0 hk0) (by decide) dX12_clashOf_34 ?_
    refine u_icmp_ge (pc := 35) hC (tgt := 103) dX12_clashOf_35 (by decide) (fun c35 => ?_) (fun c35 => ?_)
    · replace h := of_t c35 h
      obtain rfl := Option.some.inj h
      refine u_sub [0] rfl ?_
      exact hE28 (.inr ()) rfl
    · replace h := of_f c35 h
      refine u_iload_n (pc := 38) hC dX12_clashOf_38 rfl 2 rfl ?_
      refine u_iconst (pc := 39) hC ic_1 dX12_clashOf_39 ?_
      refine u_iadd (pc := 40) hC dX12_clashOf_40 ?_
      refine u_istore_n (pc := 41) hC dX12_clashOf_41 rfl [(3, .int (v2_28 + (1 : Int32))), (0, .ref (gad (cG C) k0)), (1, .int a1), (2, .int v2_28)] (by decide) rfl ?_
      obtain ⟨e42, l42, h⟩ := of_bd h
      refine u_sub [1, 2, 3, 0] rfl ?_
      refine lw42 μ_28 v2_28 e42 (v2_28 + (1 : Int32)) l42 ?_
      rcases e42 with e42 | e42
      · replace h := of_el h
        show UW C 4 μ_28 84 [(2, .int v2_28), (3, .int e42)] []
        obtain rfl := Option.some.inj h
        exact hE28 (.inl (v2_28, e42)) rfl
      · replace h := of_er h
        show UW C 4 μ_28 97 [(0, .ref (gad (cG C) k0)), (1, .int a1), (2, .int v2_28)] []
        refine u_iinc (pc := 97) hC dX12_clashOf_97 2 rfl (v2_28 + 1) rfl [(2, .int (v2_28 + 1)), (0, .ref (gad (cG C) k0)), (1, .int a1)] (by decide) rfl ?_
        refine u_goto (pc := 100) hC 28 dX12_clashOf_100 (by decide) ?_
        obtain rfl := Option.some.inj h
        refine u_sub [1, 2, 0] rfl ?_
        exact hP28 (v2_28 + 1) rfl
  unfold f_X12_clashOf at h
  refine u_iload_n (pc := 0) hC dX12_clashOf_0 rfl 1 rfl ?_
  refine u_i2l (pc := 1) hC dX12_clashOf_1 ?_
  refine u_lconst (pc := 2) hC (v := (0 : Int64)) rfl dX12_clashOf_2 ?_
  refine u_iconst (pc := 3) hC ic_1 dX12_clashOf_3 ?_
  refine u_aload_n (pc := 4) hC dX12_clashOf_4 rfl 0 rfl ?_
  refine g_RX12_7 (pc := 5) hC hk0 dX12_clashOf_5 ?_
  refine u_iconst (pc := 8) hC ic_0 dX12_clashOf_8 ?_
  refine u_iald (pc := 9) hC (rs_12_0 hk0) 342 (rn_12_0 hk0) (by decide) dX12_clashOf_9 ?_
  refine u_ishl (pc := 10) hC dX12_clashOf_10 ?_
  refine u_iconst (pc := 11) hC ic_1 dX12_clashOf_11 ?_
  refine u_isub (pc := 12) hC dX12_clashOf_12 ?_
  refine u_i2l (pc := 13) hC dX12_clashOf_13 ?_
  obtain ⟨r14, q14, h⟩ := of_bd h
  refine k_RX12_57 (pc := 14) hC (av := [.long a1.toInt64, .long (0 : Int64), .long (((jshl (1 : Int32) (rd μ (rf k0 0) (0 : Int32).toNatClampNeg)) - (1 : Int32)).toInt64)]) (rest := []) (c_X12_in (d := d - 1) (by omega)  q14) (by omega) (Nat.le_of_ble_eq_true rfl) rfl rfl dX12_clashOf_14 ?_
  refine u_if_ne (pc := 17) hC (tgt := 26) dX12_clashOf_17 (by decide) (fun c17 => ?_) (fun c17 => ?_)
  · replace h := of_t c17 h
    refine u_iconst (pc := 26) hC ic_0 dX12_clashOf_26 ?_
    refine u_istore_n (pc := 27) hC dX12_clashOf_27 rfl [(2, .int (0 : Int32)), (0, .ref (gad (cG C) k0)), (1, .int a1)] (by decide) rfl ?_
    obtain ⟨e28, l28, h⟩ := of_bd h
    refine u_sub [1, 2, 0] rfl ?_
    refine lw28 μ e28 (0 : Int32) l28 ?_
    rcases e28 with e28 | e28
    · replace h := of_el h
      show UW C 4 μ 84 [(2, .int e28.1), (3, .int e28.2)] []
      refine u_bipush (pc := 84) hC bc_10 dX12_clashOf_84 ?_
      refine u_iload_n (pc := 86) hC dX12_clashOf_86 rfl 0 rfl ?_
      refine u_imul (pc := 87) hC dX12_clashOf_87 ?_
      refine u_iload_n (pc := 88) hC dX12_clashOf_88 rfl 1 rfl ?_
      refine u_iadd (pc := 89) hC dX12_clashOf_89 ?_
      obtain rfl := Option.some.inj h
      exact u_iret (pc := 90) hC hQ hr ⟨rfl, rfl⟩ dX12_clashOf_90
    · replace h := of_er h
      show UW C 4 μ 103 [(0, .ref (gad (cG C) k0))] []
      refine u_aload_n (pc := 103) hC dX12_clashOf_103 rfl 0 rfl ?_
      refine u_iconst (pc := 104) hC ic_2 dX12_clashOf_104 ?_
      obtain ⟨p105, q105, h⟩ := of_bd h
      refine k_RX12_119 (pc := 105) hC (av := [.int (2 : Int32)]) (rest := []) (c_X12_finds (d := d - 1) (by omega) hk0 q105) (by omega) (Nat.le_of_ble_eq_true rfl) hk0 rfl rfl dX12_clashOf_105 ?_
      obtain rfl := Option.some.inj h
      exact u_iret (pc := 108) hC hQ hr ⟨rfl, rfl⟩ dX12_clashOf_108
  · replace h := of_f (fun q => q c17) h
    refine u_aload_n (pc := 20) hC dX12_clashOf_20 rfl 0 rfl ?_
    refine u_iconst (pc := 21) hC ic_1 dX12_clashOf_21 ?_
    obtain ⟨p22, q22, h⟩ := of_bd h
    refine k_RX12_119 (pc := 22) hC (av := [.int (1 : Int32)]) (rest := []) (c_X12_finds (d := d - 1) (by omega) hk0 q22) (by omega) (Nat.le_of_ble_eq_true rfl) hk0 rfl rfl dX12_clashOf_22 ?_
    obtain rfl := Option.some.inj h
    exact u_iret (pc := 25) hC hQ hr ⟨rfl, rfl⟩ dX12_clashOf_25
set_option maxHeartbeats 4000000 in
set_option maxRecDepth 100000 in
theorem c_X12_joined {l : Launch} {G : GG} {d : Nat} (hd : 2 ≤ d) {μ : Mem} {k0 : Nat} (hk0 : isC 12 k0) {a1 : Int32} {a2 : Int32} {r : Int32 × Mem} (h : f_X12_joined μ k0 a1 a2 = some r) : CT l yX12_joined cX12_joined 6 (some .int) d G [.ref (gad G k0), .int a1, .int a2] μ (RK (some (.int r.1)) r.2) := by
  refine ct_start (by decide) (Nat.le_of_ble_eq_true rfl) (fun C hl1 hG1 hC hQ hr => ?_)
  subst hl1; subst hG1
  have hC : CxOK C cX12_joined 6 RX12 d := hC
  show UW C 6 μ 0 [(0, .ref (gad (cG C) k0)), (1, .int a1), (2, .int a2)] []
  have lw43 : ∀ (μ_43 : Mem) (v3_43 : Int32) (v4_43 : Int32) (e : (Unit ⊕ Unit)) (s : Int32), lp (fun s => f_X12_joined_l43 μ_43 k0 a1 a2 v3_43 v4_43 s) FU s = some e → (Sum.elim (fun (e : Unit) => UW C 6 μ_43 77 [(0, .ref (gad (cG C) k0))] []) (fun (e : Unit) => UW C 6 μ_43 89 [(3, .int v3_43), (4, .int v4_43)] [])) e → UW C 6 μ_43 43 [(0, .ref (gad (cG C) k0)), (3, .int v3_43), (4, .int v4_43), (5, .int s)] [] := by
    intro μ_43 v3_43 v4_43 e s hl hE0
    refine @lp_walk (Int32) (Unit ⊕ Unit) (fun s => f_X12_joined_l43 μ_43 k0 a1 a2 v3_43 v4_43 s) (fun s => UW C 6 μ_43 43 [(0, .ref (gad (cG C) k0)), (3, .int v3_43), (4, .int v4_43), (5, .int s)] []) (Sum.elim (fun (e : Unit) => UW C 6 μ_43 77 [(0, .ref (gad (cG C) k0))] []) (fun (e : Unit) => UW C 6 μ_43 89 [(3, .int v3_43), (4, .int v4_43)] [])) (fun v5_43 y43 h hP43 hE43 => ?_) FU s e hl hE0
    replace h : f_X12_joined_l43 μ_43 k0 a1 a2 v3_43 v4_43 v5_43 = some y43 := h
    show UW C 6 μ_43 43 [(0, .ref (gad (cG C) k0)), (3, .int v3_43), (4, .int v4_43), (5, .int v5_43)] []
    unfold f_X12_joined_l43 at h
    refine u_iload (pc := 43) hC dX12_joined_43 3 rfl ?_
    refine u_aload_n (pc := 45) hC dX12_joined_45 rfl 0 rfl ?_
    refine g_RX12_7 (pc := 46) hC hk0 dX12_joined_46 ?_
    refine u_iconst (pc := 49) hC ic_0 dX12_joined_49 ?_
    refine u_iald (pc := 50) hC (rs_12_0 hk0) 342 (rn_12_0 hk0) (by decide) dX12_joined_50 ?_
    refine u_icmp_ge (pc := 51) hC (tgt := 89) dX12_joined_51 (by decide) (fun c51 => ?_) (fun c51 => ?_)
    · replace h := of_t c51 h
      obtain rfl := Option.some.inj h
      refine u_sub [1, 2] rfl ?_
      exact hE43 (.inr ()) rfl
    · replace h := of_f c51 h
      refine u_iload_n (pc := 54) hC dX12_joined_54 rfl 1 rfl ?_
      refine u_iload (pc := 55) hC dX12_joined_55 3 rfl ?_
      refine u_ishr (pc := 57) hC dX12_joined_57 ?_
      refine u_iconst (pc := 58) hC ic_1 dX12_joined_58 ?_
      refine u_iand (pc := 59) hC dX12_joined_59 ?_
      refine u_iconst (pc := 60) hC ic_1 dX12_joined_60 ?_
      refine u_icmp_ne (pc := 61) hC (tgt := 83) dX12_joined_61 (by decide) (fun c61 => ?_) (fun c61 => ?_)
      · replace h := of_t c61 h
        refine u_iinc (pc := 83) hC dX12_joined_83 3 rfl (v5_43 + 1) rfl [(5, .int (v5_43 + 1)), (0, .ref (gad (cG C) k0)), (3, .int v3_43), (4, .int v4_43)] (by decide) rfl ?_
        refine u_goto (pc := 86) hC 43 dX12_joined_86 (by decide) ?_
        obtain rfl := Option.some.inj h
        refine u_sub [1, 2, 3, 0] rfl ?_
        exact hP43 (v5_43 + 1) rfl
      · replace h := of_f (fun q => q c61) h
        refine u_aload_n (pc := 64) hC dX12_joined_64 rfl 0 rfl ?_
        refine u_iload (pc := 65) hC dX12_joined_65 3 rfl ?_
        refine u_iconst (pc := 67) hC ic_1 dX12_joined_67 ?_
        obtain ⟨r68, q68, h⟩ := of_bd h
        refine k_RX12_144 (pc := 68) hC (av := [.int v5_43, .int (1 : Int32)]) (rest := []) (c_X12_its (d := d - 1) (by omega) hk0 q68) (by omega) (Nat.le_of_ble_eq_true rfl) hk0 rfl rfl dX12_joined_68 ?_
        refine u_iload (pc := 71) hC dX12_joined_71 2 rfl ?_
        refine u_iand (pc := 73) hC dX12_joined_73 ?_
        refine u_if_eq (pc := 74) hC (tgt := 83) dX12_joined_74 (by decide) (fun c74 => ?_) (fun c74 => ?_)
        · replace h := of_t c74 h
          refine u_iinc (pc := 83) hC dX12_joined_83 3 rfl (v5_43 + 1) rfl [(5, .int (v5_43 + 1)), (0, .ref (gad (cG C) k0)), (3, .int v3_43), (4, .int v4_43)] (by decide) rfl ?_
          refine u_goto (pc := 86) hC 43 dX12_joined_86 (by decide) ?_
          obtain rfl := Option.some.inj h
          refine u_sub [1, 2, 3, 0] rfl ?_
          exact hP43 (v5_43 + 1) rfl
        · replace h := of_f c74 h
          obtain rfl := Option.some.inj h
          refine u_sub [0] rfl ?_
          exact hE43 (.inl ()) rfl
  have jb21 : ∀ (μ_21 : Mem), f_X12_joined_j21 μ_21 k0 a1 a2 = some r → UW C 6 μ_21 21 [(0, .ref (gad (cG C) k0))] [] := by
    intro μ_21 h
    unfold f_X12_joined_j21 at h
    refine u_aload_n (pc := 21) hC dX12_joined_21 rfl 0 rfl ?_
    refine u_iconst (pc := 22) hC ic_1 dX12_joined_22 ?_
    obtain ⟨p23, q23, h⟩ := of_bd h
    refine k_RX12_119 (pc := 23) hC (av := [.int (1 : Int32)]) (rest := []) (c_X12_finds (d := d - 1) (by omega) hk0 q23) (by omega) (Nat.le_of_ble_eq_true rfl) hk0 rfl rfl dX12_joined_23 ?_
    obtain rfl := Option.some.inj h
    exact u_iret (pc := 26) hC hQ hr ⟨rfl, rfl⟩ dX12_joined_26
  unfold f_X12_joined at h
  refine u_aload_n (pc := 0) hC dX12_joined_0 rfl 0 rfl ?_
  refine u_iload_n (pc := 1) hC dX12_joined_1 rfl 1 rfl ?_
  obtain ⟨r2, q2, h⟩ := of_bd h
  refine k_RX12_197 (pc := 2) hC (av := [.int a1]) (rest := []) (c_X12_isDebtor (d := d - 1) (by omega) hk0 q2) (by omega) (Nat.le_of_ble_eq_true rfl) hk0 rfl rfl dX12_joined_2 ?_
  refine u_if_eq (pc := 5) hC (tgt := 21) dX12_joined_5 (by decide) (fun c5 => ?_) (fun c5 => ?_)
  · replace h := of_t c5 h
    refine u_sub [0] rfl ?_
    exact jb21 μ h
  · replace h := of_f c5 h
    refine u_aload_n (pc := 8) hC dX12_joined_8 rfl 0 rfl ?_
    refine u_iload_n (pc := 9) hC dX12_joined_9 rfl 2 rfl ?_
    obtain ⟨r10, q10, h⟩ := of_bd h
    refine k_RX12_197 (pc := 10) hC (av := [.int a2]) (rest := []) (c_X12_isDebtor (d := d - 1) (by omega) hk0 q10) (by omega) (Nat.le_of_ble_eq_true rfl) hk0 rfl rfl dX12_joined_10 ?_
    refine u_if_eq (pc := 13) hC (tgt := 21) dX12_joined_13 (by decide) (fun c13 => ?_) (fun c13 => ?_)
    · replace h := of_t c13 h
      refine u_sub [0] rfl ?_
      exact jb21 μ h
    · replace h := of_f c13 h
      refine u_iload_n (pc := 16) hC dX12_joined_16 rfl 1 rfl ?_
      refine u_iload_n (pc := 17) hC dX12_joined_17 rfl 2 rfl ?_
      refine u_icmp_ne (pc := 18) hC (tgt := 27) dX12_joined_18 (by decide) (fun c18 => ?_) (fun c18 => ?_)
      · replace h := of_t c18 h
        refine u_aload_n (pc := 27) hC dX12_joined_27 rfl 0 rfl ?_
        refine u_iload_n (pc := 28) hC dX12_joined_28 rfl 1 rfl ?_
        obtain ⟨r29, q29, h⟩ := of_bd h
        refine k_RX12_153 (pc := 29) hC (av := [.int a1]) (rest := []) (c_X12_bookOf (d := d - 1) (by omega) hk0 q29) (by omega) (Nat.le_of_ble_eq_true rfl) hk0 rfl rfl dX12_joined_29 ?_
        refine u_istore_n (pc := 32) hC dX12_joined_32 rfl [(3, .int r29), (0, .ref (gad (cG C) k0)), (1, .int a1), (2, .int a2)] (by decide) rfl ?_
        refine u_aload_n (pc := 33) hC dX12_joined_33 rfl 1 rfl ?_
        refine u_iload_n (pc := 34) hC dX12_joined_34 rfl 3 rfl ?_
        obtain ⟨r35, q35, h⟩ := of_bd h
        refine k_RX12_153 (pc := 35) hC (av := [.int a2]) (rest := []) (c_X12_bookOf (d := d - 1) (by omega) hk0 q35) (by omega) (Nat.le_of_ble_eq_true rfl) hk0 rfl rfl dX12_joined_35 ?_
        refine u_istore (pc := 38) hC dX12_joined_38 [(4, .int r35), (3, .int r29), (0, .ref (gad (cG C) k0)), (1, .int a1), (2, .int a2)] (by decide) rfl ?_
        refine u_iconst (pc := 40) hC ic_0 dX12_joined_40 ?_
        refine u_istore (pc := 41) hC dX12_joined_41 [(5, .int (0 : Int32)), (4, .int r35), (3, .int r29), (0, .ref (gad (cG C) k0)), (1, .int a1), (2, .int a2)] (by decide) rfl ?_
        obtain ⟨e43, l43, h⟩ := of_bd h
        refine u_sub [3, 2, 1, 0] rfl ?_
        refine lw43 μ r29 r35 e43 (0 : Int32) l43 ?_
        rcases e43 with e43 | e43
        · replace h := of_el h
          show UW C 6 μ 77 [(0, .ref (gad (cG C) k0))] []
          refine u_aload_n (pc := 77) hC dX12_joined_77 rfl 0 rfl ?_
          refine u_iconst (pc := 78) hC ic_2 dX12_joined_78 ?_
          obtain ⟨p79, q79, h⟩ := of_bd h
          refine k_RX12_119 (pc := 79) hC (av := [.int (2 : Int32)]) (rest := []) (c_X12_finds (d := d - 1) (by omega) hk0 q79) (by omega) (Nat.le_of_ble_eq_true rfl) hk0 rfl rfl dX12_joined_79 ?_
          obtain rfl := Option.some.inj h
          exact u_iret (pc := 82) hC hQ hr ⟨rfl, rfl⟩ dX12_joined_82
        · replace h := of_er h
          show UW C 6 μ 89 [(3, .int r29), (4, .int r35)] []
          refine u_iload_n (pc := 89) hC dX12_joined_89 rfl 0 rfl ?_
          refine u_iload (pc := 90) hC dX12_joined_90 1 rfl ?_
          refine u_ior (pc := 92) hC dX12_joined_92 ?_
          obtain rfl := Option.some.inj h
          exact u_iret (pc := 93) hC hQ hr ⟨rfl, rfl⟩ dX12_joined_93
      · replace h := of_f (fun q => q c18) h
        refine u_sub [0] rfl ?_
        exact jb21 μ h
set_option maxHeartbeats 4000000 in
set_option maxRecDepth 100000 in
theorem c_X12_ratedBy {l : Launch} {G : GG} {d : Nat} (hd : 109 ≤ d) {μ : Mem} {k0 : Nat} (hk0 : isC 12 k0) {a1 : Int32} {a2 : Int32} {r : Int32 × Mem} (h : f_X12_ratedBy μ k0 a1 a2 = some r) : CT l yX12_ratedBy cX12_ratedBy 4 (some .int) d G [.ref (gad G k0), .int a1, .int a2] μ (RK (some (.int r.1)) r.2) := by
  refine ct_start (by decide) (Nat.le_of_ble_eq_true rfl) (fun C hl1 hG1 hC hQ hr => ?_)
  subst hl1; subst hG1
  have hC : CxOK C cX12_ratedBy 4 RX12 d := hC
  show UW C 4 μ 0 [(0, .ref (gad (cG C) k0)), (1, .int a1), (2, .int a2)] []
  have jb41 : ∀ (μ_41 : Mem) (v3_41 : Int32), f_X12_ratedBy_j41 μ_41 k0 a1 a2 v3_41 = some r → UW C 4 μ_41 41 [(0, .ref (gad (cG C) k0)), (3, .int v3_41)] [] := by
    intro μ_41 v3_41 h
    unfold f_X12_ratedBy_j41 at h
    refine u_aload_n (pc := 41) hC dX12_ratedBy_41 rfl 0 rfl ?_
    obtain ⟨μ42, q42, h⟩ := of_bd h
    refine k_RX12_246 (pc := 42) hC (av := []) (rest := []) (c_X12_putBack (d := d - 1) (by omega) hk0 q42) (by omega) (Nat.le_of_ble_eq_true rfl) hk0 rfl rfl dX12_ratedBy_42 ?_
    refine u_aload_n (pc := 45) hC dX12_ratedBy_45 rfl 0 rfl ?_
    refine u_iconst (pc := 46) hC ic_m1 dX12_ratedBy_46 ?_
    obtain ⟨m47, q47, h⟩ := of_bd h
    refine p_RX12_25 (pc := 47) hC hk0 dX12_ratedBy_47 (Option.some.inj q47) ?_
    refine u_iload_n (pc := 50) hC dX12_ratedBy_50 rfl 1 rfl ?_
    refine u_bipush (pc := 51) hC bc_60 dX12_ratedBy_51 ?_
    refine u_icmp_le (pc := 53) hC (tgt := 60) dX12_ratedBy_53 (by decide) (fun c53 => ?_) (fun c53 => ?_)
    · replace h := of_t c53 h
      refine u_iload_n (pc := 60) hC dX12_ratedBy_60 rfl 1 rfl ?_
      obtain rfl := Option.some.inj h
      exact u_iret (pc := 61) hC hQ hr ⟨rfl, rfl⟩ dX12_ratedBy_61
    · replace h := of_f c53 h
      refine u_iconst (pc := 56) hC ic_m1 dX12_ratedBy_56 ?_
      refine u_goto (pc := 57) hC 61 dX12_ratedBy_57 (by decide) ?_
      obtain rfl := Option.some.inj h
      exact u_iret (pc := 61) hC hQ hr ⟨rfl, rfl⟩ dX12_ratedBy_61
  have lw16 : ∀ (e : (Int32 × Mem)) (s : Int32 × Mem), lp (fun s => f_X12_ratedBy_l16 k0 a1 a2 s.1 s.2) FU s = some e → (fun (e : (Int32 × Mem)) => UW C 4 e.2 41 [(0, .ref (gad (cG C) k0)), (3, .int e.1)] []) e → UW C 4 s.2 16 [(0, .ref (gad (cG C) k0)), (1, .int a1), (3, .int s.1)] [] := by
    intro e s hl hE0
    refine @lp_walk (Int32 × Mem) (Int32 × Mem) (fun s => f_X12_ratedBy_l16 k0 a1 a2 s.1 s.2) (fun s => UW C 4 s.2 16 [(0, .ref (gad (cG C) k0)), (1, .int a1), (3, .int s.1)] []) (fun (e : (Int32 × Mem)) => UW C 4 e.2 41 [(0, .ref (gad (cG C) k0)), (3, .int e.1)] []) (fun s y16 h hP16 hE16 => ?_) FU s e hl hE0
    obtain ⟨v3_16, μ_16⟩ := s
    replace h : f_X12_ratedBy_l16 k0 a1 a2 v3_16 μ_16 = some y16 := h
    show UW C 4 μ_16 16 [(0, .ref (gad (cG C) k0)), (1, .int a1), (3, .int v3_16)] []
    unfold f_X12_ratedBy_l16 at h
    refine u_iload_n (pc := 16) hC dX12_ratedBy_16 rfl 2 rfl ?_
    refine u_bipush (pc := 17) hC bc_60 dX12_ratedBy_17 ?_
    refine u_icmp_gt (pc := 19) hC (tgt := 41) dX12_ratedBy_19 (by decide) (fun c19 => ?_) (fun c19 => ?_)
    · replace h := of_t c19 h
      obtain rfl := Option.some.inj h
      refine u_sub [0, 2] rfl ?_
      exact hE16 (v3_16, μ_16) rfl
    · replace h := of_f c19 h
      refine u_aload_n (pc := 22) hC dX12_ratedBy_22 rfl 0 rfl ?_
      refine u_iload_n (pc := 23) hC dX12_ratedBy_23 rfl 1 rfl ?_
      refine u_iconst (pc := 24) hC ic_2 dX12_ratedBy_24 ?_
      obtain ⟨r25, q25, h⟩ := of_bd h
      refine k_RX12_150 (pc := 25) hC (av := [.int a1, .int (2 : Int32)]) (rest := []) (c_X12_of (d := d - 1) (by omega) hk0 q25) (by omega) (Nat.le_of_ble_eq_true rfl) hk0 rfl rfl dX12_ratedBy_25 ?_
      refine u_if_le (pc := 28) hC (tgt := 41) dX12_ratedBy_28 (by decide) (fun c28 => ?_) (fun c28 => ?_)
      · replace h := of_t c28 h
        obtain rfl := Option.some.inj h
        refine u_sub [0, 2] rfl ?_
        exact hE16 (v3_16, μ_16) rfl
      · replace h := of_f c28 h
        refine u_aload_n (pc := 31) hC dX12_ratedBy_31 rfl 0 rfl ?_
        obtain ⟨μ32, q32, h⟩ := of_bd h
        refine k_RX12_229 (pc := 32) hC (av := []) (rest := []) (c_X12_aWeek (d := d - 1) (by omega) hk0 q32) (by omega) (Nat.le_of_ble_eq_true rfl) hk0 rfl rfl dX12_ratedBy_32 ?_
        refine u_iinc (pc := 35) hC dX12_ratedBy_35 2 rfl (v3_16 + 1) rfl [(3, .int (v3_16 + 1)), (0, .ref (gad (cG C) k0)), (1, .int a1)] (by decide) rfl ?_
        refine u_goto (pc := 38) hC 16 dX12_ratedBy_38 (by decide) ?_
        obtain rfl := Option.some.inj h
        refine u_sub [1, 2, 0] rfl ?_
        exact hP16 (v3_16 + 1, μ32) rfl
  unfold f_X12_ratedBy at h
  refine u_aload_n (pc := 0) hC dX12_ratedBy_0 rfl 0 rfl ?_
  refine u_iload_n (pc := 1) hC dX12_ratedBy_1 rfl 1 rfl ?_
  obtain ⟨m2, q2, h⟩ := of_bd h
  refine p_RX12_25 (pc := 2) hC hk0 dX12_ratedBy_2 (Option.some.inj q2) ?_
  refine u_aload_n (pc := 5) hC dX12_ratedBy_5 rfl 0 rfl ?_
  refine u_iload_n (pc := 6) hC dX12_ratedBy_6 rfl 2 rfl ?_
  obtain ⟨m7, q7, h⟩ := of_bd h
  refine p_RX12_168 (pc := 7) hC hk0 dX12_ratedBy_7 (Option.some.inj q7) ?_
  refine u_aload_n (pc := 10) hC dX12_ratedBy_10 rfl 0 rfl ?_
  obtain ⟨μ11, q11, h⟩ := of_bd h
  refine k_RX12_243 (pc := 11) hC (av := []) (rest := []) (c_X12_keepAside (d := d - 1) (by omega) hk0 q11) (by omega) (Nat.le_of_ble_eq_true rfl) hk0 rfl rfl dX12_ratedBy_11 ?_
  refine u_iconst (pc := 14) hC ic_0 dX12_ratedBy_14 ?_
  refine u_istore_n (pc := 15) hC dX12_ratedBy_15 rfl [(3, .int (0 : Int32)), (0, .ref (gad (cG C) k0)), (1, .int a1), (2, .int a2)] (by decide) rfl ?_
  obtain ⟨e16, l16, h⟩ := of_bd h
  refine u_sub [1, 2, 0] rfl ?_
  refine lw16  e16 ((0 : Int32), μ11) l16 ?_
  show UW C 4 e16.2 41 [(0, .ref (gad (cG C) k0)), (3, .int e16.1)] []
  exact jb41 e16.2 e16.1 h
set_option maxHeartbeats 4000000 in
set_option maxRecDepth 100000 in
theorem c_X12_rated {l : Launch} {G : GG} {d : Nat} (hd : 110 ≤ d) {μ : Mem} {k0 : Nat} (hk0 : isC 12 k0) {a1 : Int32} {a2 : Int32} {a3 : Int32} {r : Int32 × Mem} (h : f_X12_rated μ k0 a1 a2 a3 = some r) : CT l yX12_rated cX12_rated 8 (some .int) d G [.ref (gad G k0), .int a1, .int a2, .int a3] μ (RK (some (.int r.1)) r.2) := by
  refine ct_start (by decide) (Nat.le_of_ble_eq_true rfl) (fun C hl1 hG1 hC hQ hr => ?_)
  subst hl1; subst hG1
  have hC : CxOK C cX12_rated 8 RX12 d := hC
  show UW C 8 μ 0 [(0, .ref (gad (cG C) k0)), (1, .int a1), (2, .int a2), (3, .int a3)] []
  have lw73 : ∀ (e : (Int32 × Mem)) (s : Int32 × Int32 × Int32 × Mem), lp (fun s => f_X12_rated_l73 k0 a1 a2 a3 s.1 s.2.1 s.2.2.1 s.2.2.2) FU s = some e → (fun (e : (Int32 × Mem)) => UW C 8 e.2 119 [(0, .ref (gad (cG C) k0)), (4, .int e.1)] []) e → UW C 8 s.2.2.2 73 [(0, .ref (gad (cG C) k0)), (1, .int a1), (4, .int s.1), (5, .int s.2.1), (6, .int s.2.2.1)] [] := by
    intro e s hl hE0
    refine @lp_walk (Int32 × Int32 × Int32 × Mem) (Int32 × Mem) (fun s => f_X12_rated_l73 k0 a1 a2 a3 s.1 s.2.1 s.2.2.1 s.2.2.2) (fun s => UW C 8 s.2.2.2 73 [(0, .ref (gad (cG C) k0)), (1, .int a1), (4, .int s.1), (5, .int s.2.1), (6, .int s.2.2.1)] []) (fun (e : (Int32 × Mem)) => UW C 8 e.2 119 [(0, .ref (gad (cG C) k0)), (4, .int e.1)] []) (fun s y73 h hP73 hE73 => ?_) FU s e hl hE0
    have jb105 : ∀ (μ_105 : Mem) (v6_105 : Int32) (v7_105 : Int32), f_X12_rated_j105 μ_105 k0 a1 a2 a3 v6_105 v7_105 = some y73 → UW C 8 μ_105 105 [(0, .ref (gad (cG C) k0)), (1, .int a1), (6, .int v6_105), (7, .int v7_105)] [] := by
      intro μ_105 v6_105 v7_105 h
      unfold f_X12_rated_j105 at h
      refine u_iload (pc := 105) hC dX12_rated_105 2 rfl ?_
      refine u_istore (pc := 107) hC dX12_rated_107 [(4, .int v6_105), (0, .ref (gad (cG C) k0)), (1, .int a1), (6, .int v6_105), (7, .int v7_105)] (by decide) rfl ?_
      refine u_iload (pc := 109) hC dX12_rated_109 4 rfl ?_
      refine u_istore (pc := 111) hC dX12_rated_111 [(5, .int v7_105), (4, .int v6_105), (0, .ref (gad (cG C) k0)), (1, .int a1), (6, .int v6_105), (7, .int v7_105)] (by decide) rfl ?_
      refine u_iinc (pc := 113) hC dX12_rated_113 4 rfl (v6_105 + 1) rfl [(6, .int (v6_105 + 1)), (5, .int v7_105), (4, .int v6_105), (0, .ref (gad (cG C) k0)), (1, .int a1), (7, .int v7_105)] (by decide) rfl ?_
      refine u_goto (pc := 116) hC 73 dX12_rated_116 (by decide) ?_
      obtain rfl := Option.some.inj h
      refine u_sub [3, 4, 2, 1, 0] rfl ?_
      exact hP73 (v6_105, v7_105, v6_105 + 1, μ_105) rfl
    obtain ⟨v4_73, v5_73, v6_73, μ_73⟩ := s
    replace h : f_X12_rated_l73 k0 a1 a2 a3 v4_73 v5_73 v6_73 μ_73 = some y73 := h
    show UW C 8 μ_73 73 [(0, .ref (gad (cG C) k0)), (1, .int a1), (4, .int v4_73), (5, .int v5_73), (6, .int v6_73)] []
    unfold f_X12_rated_l73 at h
    refine u_iload (pc := 73) hC dX12_rated_73 4 rfl ?_
    refine u_iconst (pc := 75) hC ic_4 dX12_rated_75 ?_
    refine u_icmp_gt (pc := 76) hC (tgt := 119) dX12_rated_76 (by decide) (fun c76 => ?_) (fun c76 => ?_)
    · replace h := of_t c76 h
      obtain rfl := Option.some.inj h
      refine u_sub [0, 2] rfl ?_
      exact hE73 (v4_73, μ_73) rfl
    · replace h := of_f c76 h
      refine u_aload_n (pc := 79) hC dX12_rated_79 rfl 0 rfl ?_
      refine u_iload_n (pc := 80) hC dX12_rated_80 rfl 1 rfl ?_
      refine u_iload (pc := 81) hC dX12_rated_81 4 rfl ?_
      obtain ⟨p83, q83, h⟩ := of_bd h
      refine k_RX12_270 (pc := 83) hC (av := [.int a1, .int v6_73]) (rest := []) (c_X12_ratedBy (d := d - 1) (by omega) hk0 q83) (by omega) (Nat.le_of_ble_eq_true rfl) hk0 rfl rfl dX12_rated_83 ?_
      refine u_istore (pc := 86) hC dX12_rated_86 [(7, .int p83.1), (0, .ref (gad (cG C) k0)), (1, .int a1), (4, .int v4_73), (5, .int v5_73), (6, .int v6_73)] (by decide) rfl ?_
      refine u_iload (pc := 88) hC dX12_rated_88 0 rfl ?_
      refine u_if_lt (pc := 90) hC (tgt := 113) dX12_rated_90 (by decide) (fun c90 => ?_) (fun c90 => ?_)
      · replace h := of_t c90 h
        refine u_iinc (pc := 113) hC dX12_rated_113 5 rfl (v6_73 + 1) rfl [(6, .int (v6_73 + 1)), (7, .int p83.1), (0, .ref (gad (cG C) k0)), (1, .int a1), (4, .int v4_73), (5, .int v5_73)] (by decide) rfl ?_
        refine u_goto (pc := 116) hC 73 dX12_rated_116 (by decide) ?_
        obtain rfl := Option.some.inj h
        refine u_sub [2, 3, 4, 5, 0] rfl ?_
        exact hP73 (v4_73, v5_73, v6_73 + 1, p83.2) rfl
      · replace h := of_f c90 h
        refine u_iload (pc := 93) hC dX12_rated_93 3 rfl ?_
        refine u_if_lt (pc := 95) hC (tgt := 105) dX12_rated_95 (by decide) (fun c95 => ?_) (fun c95 => ?_)
        · replace h := of_t c95 h
          refine u_sub [1, 2, 5, 0] rfl ?_
          exact jb105 p83.2 v6_73 p83.1 h
        · replace h := of_f c95 h
          refine u_iload (pc := 98) hC dX12_rated_98 0 rfl ?_
          refine u_iload (pc := 100) hC dX12_rated_100 4 rfl ?_
          refine u_icmp_ge (pc := 102) hC (tgt := 113) dX12_rated_102 (by decide) (fun c102 => ?_) (fun c102 => ?_)
          · replace h := of_t c102 h
            refine u_iinc (pc := 113) hC dX12_rated_113 5 rfl (v6_73 + 1) rfl [(6, .int (v6_73 + 1)), (7, .int p83.1), (0, .ref (gad (cG C) k0)), (1, .int a1), (4, .int v4_73), (5, .int v5_73)] (by decide) rfl ?_
            refine u_goto (pc := 116) hC 73 dX12_rated_116 (by decide) ?_
            obtain rfl := Option.some.inj h
            refine u_sub [2, 3, 4, 5, 0] rfl ?_
            exact hP73 (v4_73, v5_73, v6_73 + 1, p83.2) rfl
          · replace h := of_f c102 h
            refine u_sub [1, 2, 5, 0] rfl ?_
            exact jb105 p83.2 v6_73 p83.1 h
  have jb30 : ∀ (μ_30 : Mem), f_X12_rated_j30 μ_30 k0 a1 a2 a3 = some r → UW C 8 μ_30 30 [(0, .ref (gad (cG C) k0))] [] := by
    intro μ_30 h
    unfold f_X12_rated_j30 at h
    refine u_aload_n (pc := 30) hC dX12_rated_30 rfl 0 rfl ?_
    refine u_iconst (pc := 31) hC ic_1 dX12_rated_31 ?_
    obtain ⟨p32, q32, h⟩ := of_bd h
    refine k_RX12_119 (pc := 32) hC (av := [.int (1 : Int32)]) (rest := []) (c_X12_finds (d := d - 1) (by omega) hk0 q32) (by omega) (Nat.le_of_ble_eq_true rfl) hk0 rfl rfl dX12_rated_32 ?_
    obtain rfl := Option.some.inj h
    exact u_iret (pc := 35) hC hQ hr ⟨rfl, rfl⟩ dX12_rated_35
  unfold f_X12_rated at h
  refine u_aload_n (pc := 0) hC dX12_rated_0 rfl 0 rfl ?_
  refine u_iload_n (pc := 1) hC dX12_rated_1 rfl 1 rfl ?_
  obtain ⟨r2, q2, h⟩ := of_bd h
  refine k_RX12_197 (pc := 2) hC (av := [.int a1]) (rest := []) (c_X12_isDebtor (d := d - 1) (by omega) hk0 q2) (by omega) (Nat.le_of_ble_eq_true rfl) hk0 rfl rfl dX12_rated_2 ?_
  refine u_if_eq (pc := 5) hC (tgt := 30) dX12_rated_5 (by decide) (fun c5 => ?_) (fun c5 => ?_)
  · replace h := of_t c5 h
    refine u_sub [0] rfl ?_
    exact jb30 μ h
  · replace h := of_f c5 h
    refine u_iload_n (pc := 8) hC dX12_rated_8 rfl 2 rfl ?_
    refine u_i2l (pc := 9) hC dX12_rated_9 ?_
    refine u_lconst (pc := 10) hC (v := (1 : Int64)) rfl dX12_rated_10 ?_
    refine u_ldc2 (pc := 11) hC (v := (4 : Int64)) mQ_RX12_268 dX12_rated_11 ?_
    obtain ⟨r14, q14, h⟩ := of_bd h
    refine k_RX12_57 (pc := 14) hC (av := [.long a2.toInt64, .long (1 : Int64), .long (4 : Int64)]) (rest := []) (c_X12_in (d := d - 1) (by omega)  q14) (by omega) (Nat.le_of_ble_eq_true rfl) rfl rfl dX12_rated_14 ?_
    refine u_if_eq (pc := 17) hC (tgt := 30) dX12_rated_17 (by decide) (fun c17 => ?_) (fun c17 => ?_)
    · replace h := of_t c17 h
      refine u_sub [0] rfl ?_
      exact jb30 μ h
    · replace h := of_f c17 h
      refine u_iload_n (pc := 20) hC dX12_rated_20 rfl 3 rfl ?_
      refine u_i2l (pc := 21) hC dX12_rated_21 ?_
      refine u_lconst (pc := 22) hC (v := (0 : Int64)) rfl dX12_rated_22 ?_
      refine u_lconst (pc := 23) hC (v := (1 : Int64)) rfl dX12_rated_23 ?_
      obtain ⟨r24, q24, h⟩ := of_bd h
      refine k_RX12_57 (pc := 24) hC (av := [.long a3.toInt64, .long (0 : Int64), .long (1 : Int64)]) (rest := []) (c_X12_in (d := d - 1) (by omega)  q24) (by omega) (Nat.le_of_ble_eq_true rfl) rfl rfl dX12_rated_24 ?_
      refine u_if_ne (pc := 27) hC (tgt := 36) dX12_rated_27 (by decide) (fun c27 => ?_) (fun c27 => ?_)
      · replace h := of_t c27 h
        refine u_iload_n (pc := 36) hC dX12_rated_36 rfl 3 rfl ?_
        refine u_if_ne (pc := 37) hC (tgt := 64) dX12_rated_37 (by decide) (fun c37 => ?_) (fun c37 => ?_)
        · replace h := of_t c37 h
          refine u_iconst (pc := 64) hC ic_m1 dX12_rated_64 ?_
          refine u_istore (pc := 65) hC dX12_rated_65 [(4, .int (-1 : Int32)), (0, .ref (gad (cG C) k0)), (1, .int a1), (2, .int a2), (3, .int a3)] (by decide) rfl ?_
          refine u_iconst (pc := 67) hC ic_0 dX12_rated_67 ?_
          refine u_istore (pc := 68) hC dX12_rated_68 [(5, .int (0 : Int32)), (4, .int (-1 : Int32)), (0, .ref (gad (cG C) k0)), (1, .int a1), (2, .int a2), (3, .int a3)] (by decide) rfl ?_
          refine u_iconst (pc := 70) hC ic_1 dX12_rated_70 ?_
          refine u_istore (pc := 71) hC dX12_rated_71 [(6, .int (1 : Int32)), (5, .int (0 : Int32)), (4, .int (-1 : Int32)), (0, .ref (gad (cG C) k0)), (1, .int a1), (2, .int a2), (3, .int a3)] (by decide) rfl ?_
          obtain ⟨e73, l73, h⟩ := of_bd h
          refine u_sub [3, 4, 2, 1, 0] rfl ?_
          refine lw73  e73 ((-1 : Int32), (0 : Int32), (1 : Int32), μ) l73 ?_
          show UW C 8 e73.2 119 [(0, .ref (gad (cG C) k0)), (4, .int e73.1)] []
          refine u_iload (pc := 119) hC dX12_rated_119 1 rfl ?_
          refine u_if_ge (pc := 121) hC (tgt := 132) dX12_rated_121 (by decide) (fun c121 => ?_) (fun c121 => ?_)
          · replace h := of_t c121 h
            refine u_iload (pc := 132) hC dX12_rated_132 1 rfl ?_
            obtain rfl := Option.some.inj h
            exact u_iret (pc := 134) hC hQ hr ⟨rfl, rfl⟩ dX12_rated_134
          · replace h := of_f c121 h
            refine u_aload_n (pc := 124) hC dX12_rated_124 rfl 0 rfl ?_
            refine u_iconst (pc := 125) hC ic_2 dX12_rated_125 ?_
            obtain ⟨p126, q126, h⟩ := of_bd h
            refine k_RX12_119 (pc := 126) hC (av := [.int (2 : Int32)]) (rest := []) (c_X12_finds (d := d - 1) (by omega) hk0 q126) (by omega) (Nat.le_of_ble_eq_true rfl) hk0 rfl rfl dX12_rated_126 ?_
            refine u_goto (pc := 129) hC 134 dX12_rated_129 (by decide) ?_
            obtain rfl := Option.some.inj h
            exact u_iret (pc := 134) hC hQ hr ⟨rfl, rfl⟩ dX12_rated_134
        · replace h := of_f (fun q => q c37) h
          refine u_aload_n (pc := 40) hC dX12_rated_40 rfl 0 rfl ?_
          refine u_iload_n (pc := 41) hC dX12_rated_41 rfl 1 rfl ?_
          refine u_iload_n (pc := 42) hC dX12_rated_42 rfl 2 rfl ?_
          obtain ⟨p43, q43, h⟩ := of_bd h
          refine k_RX12_270 (pc := 43) hC (av := [.int a1, .int a2]) (rest := []) (c_X12_ratedBy (d := d - 1) (by omega) hk0 q43) (by omega) (Nat.le_of_ble_eq_true rfl) hk0 rfl rfl dX12_rated_43 ?_
          refine u_istore (pc := 46) hC dX12_rated_46 [(4, .int p43.1), (0, .ref (gad (cG C) k0)), (1, .int a1), (2, .int a2), (3, .int a3)] (by decide) rfl ?_
          refine u_iload (pc := 48) hC dX12_rated_48 0 rfl ?_
          refine u_if_ge (pc := 50) hC (tgt := 61) dX12_rated_50 (by decide) (fun c50 => ?_) (fun c50 => ?_)
          · replace h := of_t c50 h
            refine u_iload (pc := 61) hC dX12_rated_61 0 rfl ?_
            obtain rfl := Option.some.inj h
            exact u_iret (pc := 63) hC hQ hr ⟨rfl, rfl⟩ dX12_rated_63
          · replace h := of_f c50 h
            refine u_aload_n (pc := 53) hC dX12_rated_53 rfl 1 rfl ?_
            refine u_iconst (pc := 54) hC ic_2 dX12_rated_54 ?_
            obtain ⟨p55, q55, h⟩ := of_bd h
            refine k_RX12_119 (pc := 55) hC (av := [.int (2 : Int32)]) (rest := []) (c_X12_finds (d := d - 1) (by omega) hk0 q55) (by omega) (Nat.le_of_ble_eq_true rfl) hk0 rfl rfl dX12_rated_55 ?_
            refine u_goto (pc := 58) hC 63 dX12_rated_58 (by decide) ?_
            obtain rfl := Option.some.inj h
            exact u_iret (pc := 63) hC hQ hr ⟨rfl, rfl⟩ dX12_rated_63
      · replace h := of_f (fun q => q c27) h
        refine u_sub [0] rfl ?_
        exact jb30 μ h
set_option maxHeartbeats 4000000 in
set_option maxRecDepth 100000 in
theorem c_X12_begins {l : Launch} {G : GG} {d : Nat} (hd : 109 ≤ d) {μ : Mem} {k0 : Nat} (hk0 : isC 12 k0) {a1 : Int32} {a2 : Int32} {r : Int32 × Mem} (h : f_X12_begins μ k0 a1 a2 = some r) : CT l yX12_begins cX12_begins 6 (some .boolean) d G [.ref (gad G k0), .int a1, .int a2] μ (RK (some (.int r.1)) r.2) := by
  refine ct_start (by decide) (Nat.le_of_ble_eq_true rfl) (fun C hl1 hG1 hC hQ hr => ?_)
  subst hl1; subst hG1
  have hC : CxOK C cX12_begins 6 RX12 d := hC
  show UW C 6 μ 0 [(0, .ref (gad (cG C) k0)), (1, .int a1), (2, .int a2)] []
  have jb113 : ∀ (μ_113 : Mem) (v4_113 : Int32), f_X12_begins_j113 μ_113 k0 a1 a2 v4_113 = some r → UW C 6 μ_113 113 [(0, .ref (gad (cG C) k0)), (4, .int v4_113)] [] := by
    intro μ_113 v4_113 h
    unfold f_X12_begins_j113 at h
    refine u_aload_n (pc := 113) hC dX12_begins_113 rfl 0 rfl ?_
    obtain ⟨μ114, q114, h⟩ := of_bd h
    refine k_RX12_246 (pc := 114) hC (av := []) (rest := []) (c_X12_putBack (d := d - 1) (by omega) hk0 q114) (by omega) (Nat.le_of_ble_eq_true rfl) hk0 rfl rfl dX12_begins_114 ?_
    refine u_iload (pc := 117) hC dX12_begins_117 1 rfl ?_
    obtain ⟨b119, h⟩ := of_gd h
    obtain rfl := Option.some.inj h
    exact u_zret (pc := 119) hC hQ hr b119 ⟨rfl, rfl⟩ dX12_begins_119
  have lw58 : ∀ (μ_58 : Mem) (v3_58 : Int32) (e : (Int32)) (s : Int32 × Int32), lp (fun s => f_X12_begins_l58 μ_58 k0 a1 a2 v3_58 s.1 s.2) FU s = some e → (fun (e : (Int32)) => UW C 6 μ_58 113 [(0, .ref (gad (cG C) k0)), (4, .int e)] []) e → UW C 6 μ_58 58 [(0, .ref (gad (cG C) k0)), (1, .int a1), (2, .int a2), (3, .int v3_58), (4, .int s.1), (5, .int s.2)] [] := by
    intro μ_58 v3_58 e s hl hE0
    refine @lp_walk (Int32 × Int32) (Int32) (fun s => f_X12_begins_l58 μ_58 k0 a1 a2 v3_58 s.1 s.2) (fun s => UW C 6 μ_58 58 [(0, .ref (gad (cG C) k0)), (1, .int a1), (2, .int a2), (3, .int v3_58), (4, .int s.1), (5, .int s.2)] []) (fun (e : (Int32)) => UW C 6 μ_58 113 [(0, .ref (gad (cG C) k0)), (4, .int e)] []) (fun s y58 h hP58 hE58 => ?_) FU s e hl hE0
    obtain ⟨v4_58, v5_58⟩ := s
    replace h : f_X12_begins_l58 μ_58 k0 a1 a2 v3_58 v4_58 v5_58 = some y58 := h
    show UW C 6 μ_58 58 [(0, .ref (gad (cG C) k0)), (1, .int a1), (2, .int a2), (3, .int v3_58), (4, .int v4_58), (5, .int v5_58)] []
    unfold f_X12_begins_l58 at h
    refine u_iload (pc := 58) hC dX12_begins_58 5 rfl ?_
    refine u_aload_n (pc := 60) hC dX12_begins_60 rfl 0 rfl ?_
    refine g_RX12_47 (pc := 61) hC hk0 dX12_begins_61 ?_
    refine u_iload_n (pc := 64) hC dX12_begins_64 rfl 2 rfl ?_
    obtain ⟨b65, h⟩ := of_gd h
    refine u_iald (pc := 65) hC (rs_12_23 hk0) 4 (rn_12_23 hk0) b65 dX12_begins_65 ?_
    refine u_icmp_ge (pc := 66) hC (tgt := 113) dX12_begins_66 (by decide) (fun c66 => ?_) (fun c66 => ?_)
    · replace h := of_t c66 h
      obtain rfl := Option.some.inj h
      refine u_sub [0, 4] rfl ?_
      exact hE58 v4_58 rfl
    · replace h := of_f c66 h
      refine u_iload (pc := 69) hC dX12_begins_69 4 rfl ?_
      refine u_if_eq (pc := 71) hC (tgt := 113) dX12_begins_71 (by decide) (fun c71 => ?_) (fun c71 => ?_)
      · replace h := of_t c71 h
        obtain rfl := Option.some.inj h
        refine u_sub [0, 4] rfl ?_
        exact hE58 v4_58 rfl
      · replace h := of_f c71 h
        refine u_aload_n (pc := 74) hC dX12_begins_74 rfl 0 rfl ?_
        refine u_iload_n (pc := 75) hC dX12_begins_75 rfl 1 rfl ?_
        refine u_iconst (pc := 76) hC ic_5 dX12_begins_76 ?_
        refine u_iload_n (pc := 77) hC dX12_begins_77 rfl 3 rfl ?_
        refine u_iadd (pc := 78) hC dX12_begins_78 ?_
        refine u_iload (pc := 79) hC dX12_begins_79 5 rfl ?_
        refine u_iadd (pc := 81) hC dX12_begins_81 ?_
        obtain ⟨r82, q82, h⟩ := of_bd h
        refine k_RX12_150 (pc := 82) hC (av := [.int a1, .int (((5 : Int32) + v3_58) + v5_58)]) (rest := []) (c_X12_of (d := d - 1) (by omega) hk0 q82) (by omega) (Nat.le_of_ble_eq_true rfl) hk0 rfl rfl dX12_begins_82 ?_
        refine u_aload_n (pc := 85) hC dX12_begins_85 rfl 0 rfl ?_
        refine g_RX12_50 (pc := 86) hC hk0 dX12_begins_86 ?_
        refine u_bipush (pc := 89) hC bc_40 dX12_begins_89 ?_
        refine u_iload_n (pc := 91) hC dX12_begins_91 rfl 2 rfl ?_
        refine u_imul (pc := 92) hC dX12_begins_92 ?_
        refine u_iload (pc := 93) hC dX12_begins_93 5 rfl ?_
        refine u_iadd (pc := 95) hC dX12_begins_95 ?_
        obtain ⟨b96, h⟩ := of_gd h
        refine u_iald (pc := 96) hC (rs_12_24 hk0) 160 (rn_12_24 hk0) b96 dX12_begins_96 ?_
        refine u_icmp_ne (pc := 97) hC (tgt := 104) dX12_begins_97 (by decide) (fun c97 => ?_) (fun c97 => ?_)
        · replace h := of_t c97 h
          refine u_iconst (pc := 104) hC ic_0 dX12_begins_104 ?_
          refine u_istore (pc := 105) hC dX12_begins_105 [(4, .int (0 : Int32)), (0, .ref (gad (cG C) k0)), (1, .int a1), (2, .int a2), (3, .int v3_58), (5, .int v5_58)] (by decide) rfl ?_
          refine u_iinc (pc := 107) hC dX12_begins_107 5 rfl (v5_58 + 1) rfl [(5, .int (v5_58 + 1)), (4, .int (0 : Int32)), (0, .ref (gad (cG C) k0)), (1, .int a1), (2, .int a2), (3, .int v3_58)] (by decide) rfl ?_
          refine u_goto (pc := 110) hC 58 dX12_begins_110 (by decide) ?_
          obtain rfl := Option.some.inj h
          refine u_sub [2, 3, 4, 5, 1, 0] rfl ?_
          exact hP58 ((0 : Int32), v5_58 + 1) rfl
        · replace h := of_f (fun q => q c97) h
          refine u_iconst (pc := 100) hC ic_1 dX12_begins_100 ?_
          refine u_goto (pc := 101) hC 105 dX12_begins_101 (by decide) ?_
          refine u_istore (pc := 105) hC dX12_begins_105 [(4, .int (1 : Int32)), (0, .ref (gad (cG C) k0)), (1, .int a1), (2, .int a2), (3, .int v3_58), (5, .int v5_58)] (by decide) rfl ?_
          refine u_iinc (pc := 107) hC dX12_begins_107 5 rfl (v5_58 + 1) rfl [(5, .int (v5_58 + 1)), (4, .int (1 : Int32)), (0, .ref (gad (cG C) k0)), (1, .int a1), (2, .int a2), (3, .int v3_58)] (by decide) rfl ?_
          refine u_goto (pc := 110) hC 58 dX12_begins_110 (by decide) ?_
          obtain rfl := Option.some.inj h
          refine u_sub [2, 3, 4, 5, 1, 0] rfl ?_
          exact hP58 ((1 : Int32), v5_58 + 1) rfl
  have jb53 : ∀ (μ_53 : Mem) (v3_53 : Int32) (vt0_53 : Int32), f_X12_begins_j53 μ_53 k0 a1 a2 v3_53 vt0_53 = some r → UW C 6 μ_53 53 [(0, .ref (gad (cG C) k0)), (1, .int a1), (2, .int a2), (3, .int v3_53)] [.int vt0_53] := by
    intro μ_53 v3_53 vt0_53 h
    unfold f_X12_begins_j53 at h
    refine u_istore (pc := 53) hC dX12_begins_53 [(4, .int vt0_53), (0, .ref (gad (cG C) k0)), (1, .int a1), (2, .int a2), (3, .int v3_53)] (by decide) rfl ?_
    refine u_iconst (pc := 55) hC ic_0 dX12_begins_55 ?_
    refine u_istore (pc := 56) hC dX12_begins_56 [(5, .int (0 : Int32)), (4, .int vt0_53), (0, .ref (gad (cG C) k0)), (1, .int a1), (2, .int a2), (3, .int v3_53)] (by decide) rfl ?_
    obtain ⟨e58, l58, h⟩ := of_bd h
    refine u_sub [2, 3, 4, 5, 1, 0] rfl ?_
    refine lw58 μ_53 v3_53 e58 (vt0_53, (0 : Int32)) l58 ?_
    show UW C 6 μ_53 113 [(0, .ref (gad (cG C) k0)), (4, .int e58)] []
    exact jb113 μ_53 e58 h
  have lw14 : ∀ (v3_14 : Int32) (e : (Mem)) (s : Int32 × Mem), lp (fun s => f_X12_begins_l14 k0 a1 a2 v3_14 s.1 s.2) FU s = some e → (fun (e : (Mem)) => UW C 6 e 31 [(0, .ref (gad (cG C) k0)), (1, .int a1), (2, .int a2), (3, .int v3_14)] []) e → UW C 6 s.2 14 [(0, .ref (gad (cG C) k0)), (1, .int a1), (2, .int a2), (3, .int v3_14), (4, .int s.1)] [] := by
    intro v3_14 e s hl hE0
    refine @lp_walk (Int32 × Mem) (Mem) (fun s => f_X12_begins_l14 k0 a1 a2 v3_14 s.1 s.2) (fun s => UW C 6 s.2 14 [(0, .ref (gad (cG C) k0)), (1, .int a1), (2, .int a2), (3, .int v3_14), (4, .int s.1)] []) (fun (e : (Mem)) => UW C 6 e 31 [(0, .ref (gad (cG C) k0)), (1, .int a1), (2, .int a2), (3, .int v3_14)] []) (fun s y14 h hP14 hE14 => ?_) FU s e hl hE0
    obtain ⟨v4_14, μ_14⟩ := s
    replace h : f_X12_begins_l14 k0 a1 a2 v3_14 v4_14 μ_14 = some y14 := h
    show UW C 6 μ_14 14 [(0, .ref (gad (cG C) k0)), (1, .int a1), (2, .int a2), (3, .int v3_14), (4, .int v4_14)] []
    unfold f_X12_begins_l14 at h
    refine u_iload (pc := 14) hC dX12_begins_14 4 rfl ?_
    refine u_bipush (pc := 16) hC bc_60 dX12_begins_16 ?_
    refine u_icmp_ge (pc := 18) hC (tgt := 31) dX12_begins_18 (by decide) (fun c18 => ?_) (fun c18 => ?_)
    · replace h := of_t c18 h
      obtain rfl := Option.some.inj h
      refine u_sub [0, 1, 2, 3] rfl ?_
      exact hE14 μ_14 rfl
    · replace h := of_f c18 h
      refine u_aload_n (pc := 21) hC dX12_begins_21 rfl 0 rfl ?_
      obtain ⟨μ22, q22, h⟩ := of_bd h
      refine k_RX12_229 (pc := 22) hC (av := []) (rest := []) (c_X12_aWeek (d := d - 1) (by omega) hk0 q22) (by omega) (Nat.le_of_ble_eq_true rfl) hk0 rfl rfl dX12_begins_22 ?_
      refine u_iinc (pc := 25) hC dX12_begins_25 4 rfl (v4_14 + 1) rfl [(4, .int (v4_14 + 1)), (0, .ref (gad (cG C) k0)), (1, .int a1), (2, .int a2), (3, .int v3_14)] (by decide) rfl ?_
      refine u_goto (pc := 28) hC 14 dX12_begins_28 (by decide) ?_
      obtain rfl := Option.some.inj h
      refine u_sub [1, 2, 3, 4, 0] rfl ?_
      exact hP14 (v4_14 + 1, μ22) rfl
  unfold f_X12_begins at h
  refine u_aload_n (pc := 0) hC dX12_begins_0 rfl 0 rfl ?_
  obtain ⟨μ1, q1, h⟩ := of_bd h
  refine k_RX12_243 (pc := 1) hC (av := []) (rest := []) (c_X12_keepAside (d := d - 1) (by omega) hk0 q1) (by omega) (Nat.le_of_ble_eq_true rfl) hk0 rfl rfl dX12_begins_1 ?_
  refine u_aload_n (pc := 4) hC dX12_begins_4 rfl 0 rfl ?_
  refine u_iload_n (pc := 5) hC dX12_begins_5 rfl 1 rfl ?_
  refine u_iconst (pc := 6) hC ic_4 dX12_begins_6 ?_
  obtain ⟨r7, q7, h⟩ := of_bd h
  refine k_RX12_150 (pc := 7) hC (av := [.int a1, .int (4 : Int32)]) (rest := []) (c_X12_of (d := d - 1) (by omega) hk0 q7) (by omega) (Nat.le_of_ble_eq_true rfl) hk0 rfl rfl dX12_begins_7 ?_
  refine u_istore_n (pc := 10) hC dX12_begins_10 rfl [(3, .int r7), (0, .ref (gad (cG C) k0)), (1, .int a1), (2, .int a2)] (by decide) rfl ?_
  refine u_iconst (pc := 11) hC ic_0 dX12_begins_11 ?_
  refine u_istore (pc := 12) hC dX12_begins_12 [(4, .int (0 : Int32)), (3, .int r7), (0, .ref (gad (cG C) k0)), (1, .int a1), (2, .int a2)] (by decide) rfl ?_
  obtain ⟨e14, l14, h⟩ := of_bd h
  refine u_sub [2, 3, 4, 1, 0] rfl ?_
  refine lw14 r7 e14 ((0 : Int32), μ1) l14 ?_
  show UW C 6 e14 31 [(0, .ref (gad (cG C) k0)), (1, .int a1), (2, .int a2), (3, .int r7)] []
  refine u_aload_n (pc := 31) hC dX12_begins_31 rfl 0 rfl ?_
  refine u_iload_n (pc := 32) hC dX12_begins_32 rfl 1 rfl ?_
  refine u_iconst (pc := 33) hC ic_4 dX12_begins_33 ?_
  obtain ⟨r34, q34, h⟩ := of_bd h
  refine k_RX12_150 (pc := 34) hC (av := [.int a1, .int (4 : Int32)]) (rest := []) (c_X12_of (d := d - 1) (by omega) hk0 q34) (by omega) (Nat.le_of_ble_eq_true rfl) hk0 rfl rfl dX12_begins_34 ?_
  refine u_iload_n (pc := 37) hC dX12_begins_37 rfl 3 rfl ?_
  refine u_isub (pc := 38) hC dX12_begins_38 ?_
  refine u_aload_n (pc := 39) hC dX12_begins_39 rfl 0 rfl ?_
  refine g_RX12_47 (pc := 40) hC hk0 dX12_begins_40 ?_
  refine u_iload_n (pc := 43) hC dX12_begins_43 rfl 2 rfl ?_
  obtain ⟨b44, h⟩ := of_gd h
  refine u_iald (pc := 44) hC (rs_12_23 hk0) 4 (rn_12_23 hk0) b44 dX12_begins_44 ?_
  refine u_icmp_lt (pc := 45) hC (tgt := 52) dX12_begins_45 (by decide) (fun c45 => ?_) (fun c45 => ?_)
  · replace h := of_t c45 h
    refine u_iconst (pc := 52) hC ic_0 dX12_begins_52 ?_
    exact jb53 e14 r7 (0 : Int32) h
  · replace h := of_f c45 h
    refine u_iconst (pc := 48) hC ic_1 dX12_begins_48 ?_
    refine u_goto (pc := 49) hC 53 dX12_begins_49 (by decide) ?_
    exact jb53 e14 r7 (1 : Int32) h
set_option maxHeartbeats 4000000 in
set_option maxRecDepth 100000 in
theorem c_X12_isSheet {l : Launch} {G : GG} {d : Nat} (hd : 1 ≤ d) {μ : Mem} {a0 : Int32} {r : Int32} (h : f_X12_isSheet a0 = some r) : CT l yX12_isSheet cX12_isSheet 1 (some .boolean) d G [.int a0] μ (RK (some (.int r)) μ) := by
  refine ct_start (by decide) (Nat.le_of_ble_eq_true rfl) (fun C hl1 hG1 hC hQ hr => ?_)
  subst hl1; subst hG1
  have hC : CxOK C cX12_isSheet 1 RX12 d := hC
  show UW C 1 μ 0 [(0, .int a0)] []
  unfold f_X12_isSheet at h
  refine u_iload_n (pc := 0) hC dX12_isSheet_0 rfl 0 rfl ?_
  refine u_i2l (pc := 1) hC dX12_isSheet_1 ?_
  refine u_lconst (pc := 2) hC (v := (0 : Int64)) rfl dX12_isSheet_2 ?_
  refine u_ldc2 (pc := 3) hC (v := (3 : Int64)) mQ_RX12_309 dX12_isSheet_3 ?_
  obtain ⟨r6, q6, h⟩ := of_bd h
  refine k_RX12_57 (pc := 6) hC (av := [.long a0.toInt64, .long (0 : Int64), .long (3 : Int64)]) (rest := []) (c_X12_in (d := d - 1) (by omega)  q6) (by omega) (Nat.le_of_ble_eq_true rfl) rfl rfl dX12_isSheet_6 ?_
  obtain ⟨b9, h⟩ := of_gd h
  obtain rfl := Option.some.inj h
  exact u_zret (pc := 9) hC hQ hr b9 ⟨rfl, rfl⟩ dX12_isSheet_9
set_option maxHeartbeats 4000000 in
set_option maxRecDepth 100000 in
theorem c_X12_explained {l : Launch} {G : GG} {d : Nat} (hd : 110 ≤ d) {μ : Mem} {k0 : Nat} (hk0 : isC 12 k0) {a1 : Int32} {a2 : Int32} {r : Int32 × Mem} (h : f_X12_explained μ k0 a1 a2 = some r) : CT l yX12_explained cX12_explained 6 (some .int) d G [.ref (gad G k0), .int a1, .int a2] μ (RK (some (.int r.1)) r.2) := by
  refine ct_start (by decide) (Nat.le_of_ble_eq_true rfl) (fun C hl1 hG1 hC hQ hr => ?_)
  subst hl1; subst hG1
  have hC : CxOK C cX12_explained 6 RX12 d := hC
  show UW C 6 μ 0 [(0, .ref (gad (cG C) k0)), (1, .int a1), (2, .int a2)] []
  have jb92 : ∀ (μ_92 : Mem) (v3_92 : Int32) (v4_92 : Int32), f_X12_explained_j92 μ_92 k0 a1 a2 v3_92 v4_92 = some r → UW C 6 μ_92 92 [(0, .ref (gad (cG C) k0)), (1, .int a1), (3, .int v3_92), (4, .int v4_92)] [] := by
    intro μ_92 v3_92 v4_92 h
    unfold f_X12_explained_j92 at h
    refine u_aload_n (pc := 92) hC dX12_explained_92 rfl 0 rfl ?_
    refine u_iload_n (pc := 93) hC dX12_explained_93 rfl 1 rfl ?_
    refine u_iconst (pc := 94) hC ic_0 dX12_explained_94 ?_
    refine u_iload_n (pc := 95) hC dX12_explained_95 rfl 2 rfl ?_
    obtain ⟨μ96, q96, h⟩ := of_bd h
    refine k_RX12_174 (pc := 96) hC (av := [.int a1, .int (0 : Int32), .int v3_92]) (rest := []) (c_X12_sets (d := d - 1) (by omega) hk0 q96) (by omega) (Nat.le_of_ble_eq_true rfl) hk0 rfl rfl dX12_explained_96 ?_
    refine u_iload (pc := 99) hC dX12_explained_99 3 rfl ?_
    refine u_if_ge (pc := 101) hC (tgt := 112) dX12_explained_101 (by decide) (fun c101 => ?_) (fun c101 => ?_)
    · replace h := of_t c101 h
      refine u_iload (pc := 112) hC dX12_explained_112 3 rfl ?_
      obtain rfl := Option.some.inj h
      exact u_iret (pc := 114) hC hQ hr ⟨rfl, rfl⟩ dX12_explained_114
    · replace h := of_f c101 h
      refine u_aload_n (pc := 104) hC dX12_explained_104 rfl 0 rfl ?_
      refine u_iconst (pc := 105) hC ic_2 dX12_explained_105 ?_
      obtain ⟨p106, q106, h⟩ := of_bd h
      refine k_RX12_119 (pc := 106) hC (av := [.int (2 : Int32)]) (rest := []) (c_X12_finds (d := d - 1) (by omega) hk0 q106) (by omega) (Nat.le_of_ble_eq_true rfl) hk0 rfl rfl dX12_explained_106 ?_
      refine u_goto (pc := 109) hC 114 dX12_explained_109 (by decide) ?_
      obtain rfl := Option.some.inj h
      exact u_iret (pc := 114) hC hQ hr ⟨rfl, rfl⟩ dX12_explained_114
  have lw49 : ∀ (v3_49 : Int32) (e : (Int32 × Mem)) (s : Int32 × Int32 × Mem), lp (fun s => f_X12_explained_l49 k0 a1 a2 v3_49 s.1 s.2.1 s.2.2) FU s = some e → (fun (e : (Int32 × Mem)) => UW C 6 e.2 92 [(0, .ref (gad (cG C) k0)), (1, .int a1), (3, .int v3_49), (4, .int e.1)] []) e → UW C 6 s.2.2 49 [(0, .ref (gad (cG C) k0)), (1, .int a1), (2, .int a2), (3, .int v3_49), (4, .int s.1), (5, .int s.2.1)] [] := by
    intro v3_49 e s hl hE0
    refine @lp_walk (Int32 × Int32 × Mem) (Int32 × Mem) (fun s => f_X12_explained_l49 k0 a1 a2 v3_49 s.1 s.2.1 s.2.2) (fun s => UW C 6 s.2.2 49 [(0, .ref (gad (cG C) k0)), (1, .int a1), (2, .int a2), (3, .int v3_49), (4, .int s.1), (5, .int s.2.1)] []) (fun (e : (Int32 × Mem)) => UW C 6 e.2 92 [(0, .ref (gad (cG C) k0)), (1, .int a1), (3, .int v3_49), (4, .int e.1)] []) (fun s y49 h hP49 hE49 => ?_) FU s e hl hE0
    obtain ⟨v4_49, v5_49, μ_49⟩ := s
    replace h : f_X12_explained_l49 k0 a1 a2 v3_49 v4_49 v5_49 μ_49 = some y49 := h
    show UW C 6 μ_49 49 [(0, .ref (gad (cG C) k0)), (1, .int a1), (2, .int a2), (3, .int v3_49), (4, .int v4_49), (5, .int v5_49)] []
    unfold f_X12_explained_l49 at h
    refine u_iload (pc := 49) hC dX12_explained_49 5 rfl ?_
    refine u_bipush (pc := 51) hC bc_6 dX12_explained_51 ?_
    refine u_icmp_gt (pc := 53) hC (tgt := 92) dX12_explained_53 (by decide) (fun c53 => ?_) (fun c53 => ?_)
    · replace h := of_t c53 h
      obtain rfl := Option.some.inj h
      refine u_sub [0, 1, 3, 4] rfl ?_
      exact hE49 (v4_49, μ_49) rfl
    · replace h := of_f c53 h
      refine u_iload (pc := 56) hC dX12_explained_56 4 rfl ?_
      refine u_if_ge (pc := 58) hC (tgt := 92) dX12_explained_58 (by decide) (fun c58 => ?_) (fun c58 => ?_)
      · replace h := of_t c58 h
        obtain rfl := Option.some.inj h
        refine u_sub [0, 1, 3, 4] rfl ?_
        exact hE49 (v4_49, μ_49) rfl
      · replace h := of_f c58 h
        refine u_aload_n (pc := 61) hC dX12_explained_61 rfl 0 rfl ?_
        refine u_iload_n (pc := 62) hC dX12_explained_62 rfl 1 rfl ?_
        refine u_iconst (pc := 63) hC ic_0 dX12_explained_63 ?_
        refine u_iload (pc := 64) hC dX12_explained_64 5 rfl ?_
        obtain ⟨μ66, q66, h⟩ := of_bd h
        refine k_RX12_174 (pc := 66) hC (av := [.int a1, .int (0 : Int32), .int v5_49]) (rest := []) (c_X12_sets (d := d - 1) (by omega) hk0 q66) (by omega) (Nat.le_of_ble_eq_true rfl) hk0 rfl rfl dX12_explained_66 ?_
        refine u_aload_n (pc := 69) hC dX12_explained_69 rfl 0 rfl ?_
        refine u_iload_n (pc := 70) hC dX12_explained_70 rfl 1 rfl ?_
        refine u_iload_n (pc := 71) hC dX12_explained_71 rfl 2 rfl ?_
        obtain ⟨p72, q72, h⟩ := of_bd h
        refine k_RX12_276 (pc := 72) hC (av := [.int a1, .int a2]) (rest := []) (c_X12_begins (d := d - 1) (by omega) hk0 q72) (by omega) (Nat.le_of_ble_eq_true rfl) hk0 rfl rfl dX12_explained_72 ?_
        refine u_if_eq (pc := 75) hC (tgt := 83) dX12_explained_75 (by decide) (fun c75 => ?_) (fun c75 => ?_)
        · replace h := of_t c75 h
          refine u_iconst (pc := 83) hC ic_m1 dX12_explained_83 ?_
          refine u_istore (pc := 84) hC dX12_explained_84 [(4, .int (-1 : Int32)), (0, .ref (gad (cG C) k0)), (1, .int a1), (2, .int a2), (3, .int v3_49), (5, .int v5_49)] (by decide) rfl ?_
          refine u_iinc (pc := 86) hC dX12_explained_86 5 rfl (v5_49 + 1) rfl [(5, .int (v5_49 + 1)), (4, .int (-1 : Int32)), (0, .ref (gad (cG C) k0)), (1, .int a1), (2, .int a2), (3, .int v3_49)] (by decide) rfl ?_
          refine u_goto (pc := 89) hC 49 dX12_explained_89 (by decide) ?_
          obtain rfl := Option.some.inj h
          refine u_sub [2, 3, 4, 5, 1, 0] rfl ?_
          exact hP49 ((-1 : Int32), v5_49 + 1, p72.2) rfl
        · replace h := of_f c75 h
          refine u_iload (pc := 78) hC dX12_explained_78 5 rfl ?_
          refine u_goto (pc := 80) hC 84 dX12_explained_80 (by decide) ?_
          refine u_istore (pc := 84) hC dX12_explained_84 [(4, .int v5_49), (0, .ref (gad (cG C) k0)), (1, .int a1), (2, .int a2), (3, .int v3_49), (5, .int v5_49)] (by decide) rfl ?_
          refine u_iinc (pc := 86) hC dX12_explained_86 5 rfl (v5_49 + 1) rfl [(5, .int (v5_49 + 1)), (4, .int v5_49), (0, .ref (gad (cG C) k0)), (1, .int a1), (2, .int a2), (3, .int v3_49)] (by decide) rfl ?_
          refine u_goto (pc := 89) hC 49 dX12_explained_89 (by decide) ?_
          obtain rfl := Option.some.inj h
          refine u_sub [2, 3, 4, 5, 1, 0] rfl ?_
          exact hP49 (v5_49, v5_49 + 1, p72.2) rfl
  have jb15 : ∀ (μ_15 : Mem), f_X12_explained_j15 μ_15 k0 a1 a2 = some r → UW C 6 μ_15 15 [(0, .ref (gad (cG C) k0))] [] := by
    intro μ_15 h
    unfold f_X12_explained_j15 at h
    refine u_aload_n (pc := 15) hC dX12_explained_15 rfl 0 rfl ?_
    refine u_iconst (pc := 16) hC ic_1 dX12_explained_16 ?_
    obtain ⟨p17, q17, h⟩ := of_bd h
    refine k_RX12_119 (pc := 17) hC (av := [.int (1 : Int32)]) (rest := []) (c_X12_finds (d := d - 1) (by omega) hk0 q17) (by omega) (Nat.le_of_ble_eq_true rfl) hk0 rfl rfl dX12_explained_17 ?_
    obtain rfl := Option.some.inj h
    exact u_iret (pc := 20) hC hQ hr ⟨rfl, rfl⟩ dX12_explained_20
  unfold f_X12_explained at h
  refine u_aload_n (pc := 0) hC dX12_explained_0 rfl 0 rfl ?_
  refine u_iload_n (pc := 1) hC dX12_explained_1 rfl 1 rfl ?_
  obtain ⟨r2, q2, h⟩ := of_bd h
  refine k_RX12_197 (pc := 2) hC (av := [.int a1]) (rest := []) (c_X12_isDebtor (d := d - 1) (by omega) hk0 q2) (by omega) (Nat.le_of_ble_eq_true rfl) hk0 rfl rfl dX12_explained_2 ?_
  refine u_if_eq (pc := 5) hC (tgt := 15) dX12_explained_5 (by decide) (fun c5 => ?_) (fun c5 => ?_)
  · replace h := of_t c5 h
    refine u_sub [0] rfl ?_
    exact jb15 μ h
  · replace h := of_f c5 h
    refine u_iload_n (pc := 8) hC dX12_explained_8 rfl 2 rfl ?_
    obtain ⟨r9, q9, h⟩ := of_bd h
    refine k_RX12_273 (pc := 9) hC (av := [.int a2]) (rest := []) (c_X12_isSheet (d := d - 1) (by omega)  q9) (by omega) (Nat.le_of_ble_eq_true rfl) rfl rfl dX12_explained_9 ?_
    refine u_if_ne (pc := 12) hC (tgt := 21) dX12_explained_12 (by decide) (fun c12 => ?_) (fun c12 => ?_)
    · replace h := of_t c12 h
      refine u_aload_n (pc := 21) hC dX12_explained_21 rfl 0 rfl ?_
      refine g_RX12_44 (pc := 22) hC hk0 dX12_explained_22 ?_
      refine u_iload_n (pc := 25) hC dX12_explained_25 rfl 2 rfl ?_
      obtain ⟨b26, h⟩ := of_gd h
      refine u_iald (pc := 26) hC (rs_12_22 hk0) 4 (rn_12_22 hk0) b26 dX12_explained_26 ?_
      refine u_if_ne (pc := 27) hC (tgt := 36) dX12_explained_27 (by decide) (fun c27 => ?_) (fun c27 => ?_)
      · replace h := of_t c27 h
        refine u_aload_n (pc := 36) hC dX12_explained_36 rfl 0 rfl ?_
        refine u_iload_n (pc := 37) hC dX12_explained_37 rfl 1 rfl ?_
        refine u_iconst (pc := 38) hC ic_0 dX12_explained_38 ?_
        obtain ⟨r39, q39, h⟩ := of_bd h
        refine k_RX12_150 (pc := 39) hC (av := [.int a1, .int (0 : Int32)]) (rest := []) (c_X12_of (d := d - 1) (by omega) hk0 q39) (by omega) (Nat.le_of_ble_eq_true rfl) hk0 rfl rfl dX12_explained_39 ?_
        refine u_istore_n (pc := 42) hC dX12_explained_42 rfl [(3, .int r39), (0, .ref (gad (cG C) k0)), (1, .int a1), (2, .int a2)] (by decide) rfl ?_
        refine u_iconst (pc := 43) hC ic_m1 dX12_explained_43 ?_
        refine u_istore (pc := 44) hC dX12_explained_44 [(4, .int (-1 : Int32)), (3, .int r39), (0, .ref (gad (cG C) k0)), (1, .int a1), (2, .int a2)] (by decide) rfl ?_
        refine u_iconst (pc := 46) hC ic_0 dX12_explained_46 ?_
        refine u_istore (pc := 47) hC dX12_explained_47 [(5, .int (0 : Int32)), (4, .int (-1 : Int32)), (3, .int r39), (0, .ref (gad (cG C) k0)), (1, .int a1), (2, .int a2)] (by decide) rfl ?_
        obtain ⟨e49, l49, h⟩ := of_bd h
        refine u_sub [3, 4, 5, 2, 1, 0] rfl ?_
        refine lw49 r39 e49 ((-1 : Int32), (0 : Int32), μ) l49 ?_
        show UW C 6 e49.2 92 [(0, .ref (gad (cG C) k0)), (1, .int a1), (3, .int r39), (4, .int e49.1)] []
        exact jb92 e49.2 r39 e49.1 h
      · replace h := of_f (fun q => q c27) h
        refine u_aload_n (pc := 30) hC dX12_explained_30 rfl 0 rfl ?_
        refine u_iconst (pc := 31) hC ic_2 dX12_explained_31 ?_
        obtain ⟨p32, q32, h⟩ := of_bd h
        refine k_RX12_119 (pc := 32) hC (av := [.int (2 : Int32)]) (rest := []) (c_X12_finds (d := d - 1) (by omega) hk0 q32) (by omega) (Nat.le_of_ble_eq_true rfl) hk0 rfl rfl dX12_explained_32 ?_
        obtain rfl := Option.some.inj h
        exact u_iret (pc := 35) hC hQ hr ⟨rfl, rfl⟩ dX12_explained_35
    · replace h := of_f (fun q => q c12) h
      refine u_sub [0] rfl ?_
      exact jb15 μ h
set_option maxHeartbeats 4000000 in
set_option maxRecDepth 100000 in
theorem c_X12_meeting {l : Launch} {G : GG} {d : Nat} (hd : 1 ≤ d) {μ : Mem} {k0 : Nat} (hk0 : isC 12 k0) {a1 : Int32} {a2 : Int32} {a3 : Int32} {r : Int32 × Mem} (h : f_X12_meeting μ k0 a1 a2 a3 = some r) : CT l yX12_meeting cX12_meeting 5 (some .int) d G [.ref (gad G k0), .int a1, .int a2, .int a3] μ (RK (some (.int r.1)) r.2) := by
  refine ct_start (by decide) (Nat.le_of_ble_eq_true rfl) (fun C hl1 hG1 hC hQ hr => ?_)
  subst hl1; subst hG1
  have hC : CxOK C cX12_meeting 5 RX12 d := hC
  show UW C 5 μ 0 [(0, .ref (gad (cG C) k0)), (1, .int a1), (2, .int a2), (3, .int a3)] []
  have jb41 : ∀ (μ_41 : Mem), f_X12_meeting_j41 μ_41 k0 a1 a2 a3 = some r → UW C 5 μ_41 41 [(0, .ref (gad (cG C) k0))] [] := by
    intro μ_41 h
    unfold f_X12_meeting_j41 at h
    refine u_aload_n (pc := 41) hC dX12_meeting_41 rfl 0 rfl ?_
    refine u_iconst (pc := 42) hC ic_1 dX12_meeting_42 ?_
    obtain ⟨p43, q43, h⟩ := of_bd h
    refine k_RX12_119 (pc := 43) hC (av := [.int (1 : Int32)]) (rest := []) (c_X12_finds (d := d - 1) (by omega) hk0 q43) (by omega) (Nat.le_of_ble_eq_true rfl) hk0 rfl rfl dX12_meeting_43 ?_
    obtain rfl := Option.some.inj h
    exact u_iret (pc := 46) hC hQ hr ⟨rfl, rfl⟩ dX12_meeting_46
  unfold f_X12_meeting at h
  refine u_iload_n (pc := 0) hC dX12_meeting_0 rfl 1 rfl ?_
  refine u_i2l (pc := 1) hC dX12_meeting_1 ?_
  refine u_lconst (pc := 2) hC (v := (0 : Int64)) rfl dX12_meeting_2 ?_
  refine u_ldc2 (pc := 3) hC (v := (999 : Int64)) mQ_RX12_208 dX12_meeting_3 ?_
  obtain ⟨r6, q6, h⟩ := of_bd h
  refine k_RX12_57 (pc := 6) hC (av := [.long a1.toInt64, .long (0 : Int64), .long (999 : Int64)]) (rest := []) (c_X12_in (d := d - 1) (by omega)  q6) (by omega) (Nat.le_of_ble_eq_true rfl) rfl rfl dX12_meeting_6 ?_
  refine u_if_eq (pc := 9) hC (tgt := 41) dX12_meeting_9 (by decide) (fun c9 => ?_) (fun c9 => ?_)
  · replace h := of_t c9 h
    refine u_sub [0] rfl ?_
    exact jb41 μ h
  · replace h := of_f c9 h
    refine u_iload_n (pc := 12) hC dX12_meeting_12 rfl 2 rfl ?_
    refine u_i2l (pc := 13) hC dX12_meeting_13 ?_
    refine u_lconst (pc := 14) hC (v := (0 : Int64)) rfl dX12_meeting_14 ?_
    refine u_ldc2 (pc := 15) hC (v := (4 : Int64)) mQ_RX12_268 dX12_meeting_15 ?_
    obtain ⟨r18, q18, h⟩ := of_bd h
    refine k_RX12_57 (pc := 18) hC (av := [.long a2.toInt64, .long (0 : Int64), .long (4 : Int64)]) (rest := []) (c_X12_in (d := d - 1) (by omega)  q18) (by omega) (Nat.le_of_ble_eq_true rfl) rfl rfl dX12_meeting_18 ?_
    refine u_if_eq (pc := 21) hC (tgt := 41) dX12_meeting_21 (by decide) (fun c21 => ?_) (fun c21 => ?_)
    · replace h := of_t c21 h
      refine u_sub [0] rfl ?_
      exact jb41 μ h
    · replace h := of_f c21 h
      refine u_iload_n (pc := 24) hC dX12_meeting_24 rfl 3 rfl ?_
      refine u_i2l (pc := 25) hC dX12_meeting_25 ?_
      refine u_lconst (pc := 26) hC (v := (0 : Int64)) rfl dX12_meeting_26 ?_
      refine u_ldc2 (pc := 27) hC (v := (4 : Int64)) mQ_RX12_268 dX12_meeting_27 ?_
      obtain ⟨r30, q30, h⟩ := of_bd h
      refine k_RX12_57 (pc := 30) hC (av := [.long a3.toInt64, .long (0 : Int64), .long (4 : Int64)]) (rest := []) (c_X12_in (d := d - 1) (by omega)  q30) (by omega) (Nat.le_of_ble_eq_true rfl) rfl rfl dX12_meeting_30 ?_
      refine u_if_eq (pc := 33) hC (tgt := 41) dX12_meeting_33 (by decide) (fun c33 => ?_) (fun c33 => ?_)
      · replace h := of_t c33 h
        refine u_sub [0] rfl ?_
        exact jb41 μ h
      · replace h := of_f c33 h
        refine u_iload_n (pc := 36) hC dX12_meeting_36 rfl 2 rfl ?_
        refine u_iload_n (pc := 37) hC dX12_meeting_37 rfl 3 rfl ?_
        refine u_icmp_ne (pc := 38) hC (tgt := 47) dX12_meeting_38 (by decide) (fun c38 => ?_) (fun c38 => ?_)
        · replace h := of_t c38 h
          refine u_aload_n (pc := 47) hC dX12_meeting_47 rfl 0 rfl ?_
          refine g_RX12_7 (pc := 48) hC hk0 dX12_meeting_48 ?_
          refine u_iconst (pc := 51) hC ic_2 dX12_meeting_51 ?_
          refine u_iald (pc := 52) hC (rs_12_0 hk0) 342 (rn_12_0 hk0) (by decide) dX12_meeting_52 ?_
          refine u_bipush (pc := 53) hC bc_12 dX12_meeting_53 ?_
          refine u_icmp_ne (pc := 55) hC (tgt := 64) dX12_meeting_55 (by decide) (fun c55 => ?_) (fun c55 => ?_)
          · replace h := of_t c55 h
            refine u_aload_n (pc := 64) hC dX12_meeting_64 rfl 0 rfl ?_
            refine g_RX12_7 (pc := 65) hC hk0 dX12_meeting_65 ?_
            refine u_iconst (pc := 68) hC ic_2 dX12_meeting_68 ?_
            refine u_iald (pc := 69) hC (rs_12_0 hk0) 342 (rn_12_0 hk0) (by decide) dX12_meeting_69 ?_
            refine u_istore (pc := 70) hC dX12_meeting_70 [(4, .int (rd μ (rf k0 0) (2 : Int32).toNatClampNeg)), (0, .ref (gad (cG C) k0)), (1, .int a1), (2, .int a2), (3, .int a3)] (by decide) rfl ?_
            refine u_aload_n (pc := 72) hC dX12_meeting_72 rfl 1 rfl ?_
            refine g_RX12_7 (pc := 73) hC hk0 dX12_meeting_73 ?_
            refine u_iconst (pc := 76) hC ic_2 dX12_meeting_76 ?_
            refine u_dup2 (pc := 77) hC rfl rfl dX12_meeting_77 ?_
            refine u_iald (pc := 78) hC (rs_12_0 hk0) 342 (rn_12_0 hk0) (by decide) dX12_meeting_78 ?_
            refine u_iconst (pc := 79) hC ic_1 dX12_meeting_79 ?_
            refine u_iadd (pc := 80) hC dX12_meeting_80 ?_
            obtain ⟨m81, q81, h⟩ := of_bd h
            refine u_iast (pc := 81) hC (rs_12_0 hk0) 342 (rn_12_0 hk0) (by decide) dX12_meeting_81 (Option.some.inj q81) ?_
            refine u_aload_n (pc := 82) hC dX12_meeting_82 rfl 1 rfl ?_
            refine g_RX12_7 (pc := 83) hC hk0 dX12_meeting_83 ?_
            refine u_sipush (pc := 86) hC sc_134 dX12_meeting_86 ?_
            refine u_iconst (pc := 89) hC ic_3 dX12_meeting_89 ?_
            refine u_iload (pc := 90) hC dX12_meeting_90 0 rfl ?_
            refine u_imul (pc := 92) hC dX12_meeting_92 ?_
            refine u_iadd (pc := 93) hC dX12_meeting_93 ?_
            refine u_iload_n (pc := 94) hC dX12_meeting_94 rfl 2 rfl ?_
            obtain ⟨b95, h⟩ := of_gd h
            obtain ⟨m95, q95, h⟩ := of_bd h
            refine u_iast (pc := 95) hC (rs_12_0 hk0) 342 (rn_12_0 hk0) b95 dX12_meeting_95 (Option.some.inj q95) ?_
            refine u_aload_n (pc := 96) hC dX12_meeting_96 rfl 1 rfl ?_
            refine g_RX12_7 (pc := 97) hC hk0 dX12_meeting_97 ?_
            refine u_sipush (pc := 100) hC sc_134 dX12_meeting_100 ?_
            refine u_iconst (pc := 103) hC ic_3 dX12_meeting_103 ?_
            refine u_iload (pc := 104) hC dX12_meeting_104 0 rfl ?_
            refine u_imul (pc := 106) hC dX12_meeting_106 ?_
            refine u_iadd (pc := 107) hC dX12_meeting_107 ?_
            refine u_iconst (pc := 108) hC ic_1 dX12_meeting_108 ?_
            refine u_iadd (pc := 109) hC dX12_meeting_109 ?_
            refine u_iload_n (pc := 110) hC dX12_meeting_110 rfl 3 rfl ?_
            obtain ⟨b111, h⟩ := of_gd h
            obtain ⟨m111, q111, h⟩ := of_bd h
            refine u_iast (pc := 111) hC (rs_12_0 hk0) 342 (rn_12_0 hk0) b111 dX12_meeting_111 (Option.some.inj q111) ?_
            refine u_aload_n (pc := 112) hC dX12_meeting_112 rfl 1 rfl ?_
            refine g_RX12_7 (pc := 113) hC hk0 dX12_meeting_113 ?_
            refine u_sipush (pc := 116) hC sc_134 dX12_meeting_116 ?_
            refine u_iconst (pc := 119) hC ic_3 dX12_meeting_119 ?_
            refine u_iload (pc := 120) hC dX12_meeting_120 0 rfl ?_
            refine u_imul (pc := 122) hC dX12_meeting_122 ?_
            refine u_iadd (pc := 123) hC dX12_meeting_123 ?_
            refine u_iconst (pc := 124) hC ic_2 dX12_meeting_124 ?_
            refine u_iadd (pc := 125) hC dX12_meeting_125 ?_
            refine u_iload_n (pc := 126) hC dX12_meeting_126 rfl 4 rfl ?_
            obtain ⟨b127, h⟩ := of_gd h
            obtain ⟨m127, q127, h⟩ := of_bd h
            refine u_iast (pc := 127) hC (rs_12_0 hk0) 342 (rn_12_0 hk0) b127 dX12_meeting_127 (Option.some.inj q127) ?_
            refine u_iload (pc := 128) hC dX12_meeting_128 0 rfl ?_
            obtain rfl := Option.some.inj h
            exact u_iret (pc := 130) hC hQ hr ⟨rfl, rfl⟩ dX12_meeting_130
          · replace h := of_f (fun q => q c55) h
            refine u_aload_n (pc := 58) hC dX12_meeting_58 rfl 0 rfl ?_
            refine u_iconst (pc := 59) hC ic_4 dX12_meeting_59 ?_
            obtain ⟨p60, q60, h⟩ := of_bd h
            refine k_RX12_119 (pc := 60) hC (av := [.int (4 : Int32)]) (rest := []) (c_X12_finds (d := d - 1) (by omega) hk0 q60) (by omega) (Nat.le_of_ble_eq_true rfl) hk0 rfl rfl dX12_meeting_60 ?_
            obtain rfl := Option.some.inj h
            exact u_iret (pc := 63) hC hQ hr ⟨rfl, rfl⟩ dX12_meeting_63
        · replace h := of_f (fun q => q c38) h
          refine u_sub [0] rfl ?_
          exact jb41 μ h
set_option maxHeartbeats 4000000 in
set_option maxRecDepth 100000 in
theorem c_X12_saw {l : Launch} {G : GG} {d : Nat} (hd : 1 ≤ d) {μ : Mem} {k0 : Nat} (hk0 : isC 12 k0) {a1 : Int32} {a2 : Int32} {r : Int32} (h : f_X12_saw μ k0 a1 a2 = some r) : CT l yX12_saw cX12_saw 7 (some .int) d G [.ref (gad G k0), .int a1, .int a2] μ (RK (some (.int r)) μ) := by
  refine ct_start (by decide) (Nat.le_of_ble_eq_true rfl) (fun C hl1 hG1 hC hQ hr => ?_)
  subst hl1; subst hG1
  have hC : CxOK C cX12_saw 7 RX12 d := hC
  show UW C 7 μ 0 [(0, .ref (gad (cG C) k0)), (1, .int a1), (2, .int a2)] []
  have lw5 : ∀ (e : (Int32)) (s : Int32 × Int32), lp (fun s => f_X12_saw_l5 μ k0 a1 a2 s.1 s.2) FU s = some e → (fun (e : (Int32)) => UW C 7 μ 96 [(3, .int e)] []) e → UW C 7 μ 5 [(0, .ref (gad (cG C) k0)), (1, .int a1), (2, .int a2), (3, .int s.1), (4, .int s.2)] [] := by
    intro e s hl hE0
    refine @lp_walk (Int32 × Int32) (Int32) (fun s => f_X12_saw_l5 μ k0 a1 a2 s.1 s.2) (fun s => UW C 7 μ 5 [(0, .ref (gad (cG C) k0)), (1, .int a1), (2, .int a2), (3, .int s.1), (4, .int s.2)] []) (fun (e : (Int32)) => UW C 7 μ 96 [(3, .int e)] []) (fun s y5 h hP5 hE5 => ?_) FU s e hl hE0
    have lw19 : ∀ (v4_19 : Int32) (e : (Int32)) (s : Int32 × Int32), lp (fun s => f_X12_saw_l19 μ k0 a1 a2 v4_19 s.1 s.2) FU s = some e → (fun (e : (Int32)) => UW C 7 μ 90 [(0, .ref (gad (cG C) k0)), (1, .int a1), (2, .int a2), (3, .int e), (4, .int v4_19)] []) e → UW C 7 μ 19 [(0, .ref (gad (cG C) k0)), (1, .int a1), (2, .int a2), (3, .int s.1), (4, .int v4_19), (5, .int s.2)] [] := by
      intro v4_19 e s hl hE0
      refine @lp_walk (Int32 × Int32) (Int32) (fun s => f_X12_saw_l19 μ k0 a1 a2 v4_19 s.1 s.2) (fun s => UW C 7 μ 19 [(0, .ref (gad (cG C) k0)), (1, .int a1), (2, .int a2), (3, .int s.1), (4, .int v4_19), (5, .int s.2)] []) (fun (e : (Int32)) => UW C 7 μ 90 [(0, .ref (gad (cG C) k0)), (1, .int a1), (2, .int a2), (3, .int e), (4, .int v4_19)] []) (fun s y19 h hP19 hE19 => ?_) FU s e hl hE0
      have jb81 : ∀ (v5_81 : Int32) (vt0_81 : Int32), f_X12_saw_j81 μ k0 a1 a2 v4_19 v5_81 vt0_81 = some y19 → UW C 7 μ 81 [(0, .ref (gad (cG C) k0)), (1, .int a1), (2, .int a2), (4, .int v4_19), (5, .int v5_81)] [.int vt0_81] := by
        intro v5_81 vt0_81 h
        unfold f_X12_saw_j81 at h
        refine u_iconst (pc := 81) hC ic_0 dX12_saw_81 ?_
        refine u_ior (pc := 82) hC dX12_saw_82 ?_
        refine u_istore_n (pc := 83) hC dX12_saw_83 rfl [(3, .int (vt0_81 ||| (0 : Int32))), (0, .ref (gad (cG C) k0)), (1, .int a1), (2, .int a2), (4, .int v4_19), (5, .int v5_81)] (by decide) rfl ?_
        refine u_iinc (pc := 84) hC dX12_saw_84 5 rfl (v5_81 + 1) rfl [(5, .int (v5_81 + 1)), (3, .int (vt0_81 ||| (0 : Int32))), (0, .ref (gad (cG C) k0)), (1, .int a1), (2, .int a2), (4, .int v4_19)] (by decide) rfl ?_
        refine u_goto (pc := 87) hC 19 dX12_saw_87 (by decide) ?_
        obtain rfl := Option.some.inj h
        refine u_sub [2, 3, 4, 1, 5, 0] rfl ?_
        exact hP19 (vt0_81 ||| (0 : Int32), v5_81 + 1) rfl
      obtain ⟨v3_19, v5_19⟩ := s
      replace h : f_X12_saw_l19 μ k0 a1 a2 v4_19 v3_19 v5_19 = some y19 := h
      show UW C 7 μ 19 [(0, .ref (gad (cG C) k0)), (1, .int a1), (2, .int a2), (3, .int v3_19), (4, .int v4_19), (5, .int v5_19)] []
      unfold f_X12_saw_l19 at h
      refine u_iload (pc := 19) hC dX12_saw_19 5 rfl ?_
      refine u_aload_n (pc := 21) hC dX12_saw_21 rfl 0 rfl ?_
      refine u_iload (pc := 22) hC dX12_saw_22 4 rfl ?_
      refine u_iconst (pc := 24) hC ic_4 dX12_saw_24 ?_
      obtain ⟨r25, q25, h⟩ := of_bd h
      refine k_RX12_150 (pc := 25) hC (av := [.int v4_19, .int (4 : Int32)]) (rest := [.int v5_19]) (c_X12_of (d := d - 1) (by omega) hk0 q25) (by omega) (Nat.le_of_ble_eq_true rfl) hk0 rfl rfl dX12_saw_25 ?_
      refine u_icmp_ge (pc := 28) hC (tgt := 90) dX12_saw_28 (by decide) (fun c28 => ?_) (fun c28 => ?_)
      · replace h := of_t c28 h
        obtain rfl := Option.some.inj h
        refine u_sub [0, 1, 2, 3, 4] rfl ?_
        exact hE19 v3_19 rfl
      · replace h := of_f c28 h
        refine u_aload_n (pc := 31) hC dX12_saw_31 rfl 0 rfl ?_
        refine u_iload (pc := 32) hC dX12_saw_32 4 rfl ?_
        refine u_iconst (pc := 34) hC ic_5 dX12_saw_34 ?_
        refine u_iload (pc := 35) hC dX12_saw_35 5 rfl ?_
        refine u_iadd (pc := 37) hC dX12_saw_37 ?_
        obtain ⟨r38, q38, h⟩ := of_bd h
        refine k_RX12_150 (pc := 38) hC (av := [.int v4_19, .int ((5 : Int32) + v5_19)]) (rest := []) (c_X12_of (d := d - 1) (by omega) hk0 q38) (by omega) (Nat.le_of_ble_eq_true rfl) hk0 rfl rfl dX12_saw_38 ?_
        refine u_istore (pc := 41) hC dX12_saw_41 [(6, .int r38), (0, .ref (gad (cG C) k0)), (1, .int a1), (2, .int a2), (3, .int v3_19), (4, .int v4_19), (5, .int v5_19)] (by decide) rfl ?_
        refine u_iload_n (pc := 43) hC dX12_saw_43 rfl 4 rfl ?_
        refine u_aload_n (pc := 44) hC dX12_saw_44 rfl 1 rfl ?_
        refine u_iload (pc := 45) hC dX12_saw_45 5 rfl ?_
        refine u_bipush (pc := 47) hC bc_13 dX12_saw_47 ?_
        refine u_iload (pc := 49) hC dX12_saw_49 6 rfl ?_
        refine u_iadd (pc := 51) hC dX12_saw_51 ?_
        obtain ⟨r52, q52, h⟩ := of_bd h
        refine k_RX12_150 (pc := 52) hC (av := [.int v4_19, .int ((13 : Int32) + v5_19)]) (rest := [.int v3_19]) (c_X12_of (d := d - 1) (by omega) hk0 q52) (by omega) (Nat.le_of_ble_eq_true rfl) hk0 rfl rfl dX12_saw_52 ?_
        refine u_iload_n (pc := 55) hC dX12_saw_55 rfl 3 rfl ?_
        refine u_icmp_gt (pc := 56) hC (tgt := 81) dX12_saw_56 (by decide) (fun c56 => ?_) (fun c56 => ?_)
        · replace h := of_t c56 h
          refine u_sub [1, 2, 3, 5, 6] rfl ?_
          exact jb81 v5_19 v3_19 h
        · replace h := of_f c56 h
          refine u_aload_n (pc := 59) hC dX12_saw_59 rfl 1 rfl ?_
          refine u_iload (pc := 60) hC dX12_saw_60 0 rfl ?_
          refine u_iconst (pc := 62) hC ic_4 dX12_saw_62 ?_
          obtain ⟨r63, q63, h⟩ := of_bd h
          refine k_RX12_144 (pc := 63) hC (av := [.int r38, .int (4 : Int32)]) (rest := [.int v3_19]) (c_X12_its (d := d - 1) (by omega) hk0 q63) (by omega) (Nat.le_of_ble_eq_true rfl) hk0 rfl rfl dX12_saw_63 ?_
          refine u_iload_n (pc := 66) hC dX12_saw_66 rfl 2 rfl ?_
          refine u_ishr (pc := 67) hC dX12_saw_67 ?_
          refine u_iconst (pc := 68) hC ic_1 dX12_saw_68 ?_
          refine u_iand (pc := 69) hC dX12_saw_69 ?_
          refine u_iconst (pc := 70) hC ic_1 dX12_saw_70 ?_
          refine u_icmp_ne (pc := 71) hC (tgt := 81) dX12_saw_71 (by decide) (fun c71 => ?_) (fun c71 => ?_)
          · replace h := of_t c71 h
            refine u_sub [1, 2, 3, 5, 6] rfl ?_
            exact jb81 v5_19 v3_19 h
          · replace h := of_f (fun q => q c71) h
            refine u_iconst (pc := 74) hC ic_1 dX12_saw_74 ?_
            refine u_iload (pc := 75) hC dX12_saw_75 0 rfl ?_
            refine u_ishl (pc := 77) hC dX12_saw_77 ?_
            refine u_goto (pc := 78) hC 82 dX12_saw_78 (by decide) ?_
            refine u_ior (pc := 82) hC dX12_saw_82 ?_
            refine u_istore_n (pc := 83) hC dX12_saw_83 rfl [(3, .int (v3_19 ||| (jshl (1 : Int32) r38))), (6, .int r38), (0, .ref (gad (cG C) k0)), (1, .int a1), (2, .int a2), (4, .int v4_19), (5, .int v5_19)] (by decide) rfl ?_
            refine u_iinc (pc := 84) hC dX12_saw_84 6 rfl (v5_19 + 1) rfl [(5, .int (v5_19 + 1)), (3, .int (v3_19 ||| (jshl (1 : Int32) r38))), (6, .int r38), (0, .ref (gad (cG C) k0)), (1, .int a1), (2, .int a2), (4, .int v4_19)] (by decide) rfl ?_
            refine u_goto (pc := 87) hC 19 dX12_saw_87 (by decide) ?_
            obtain rfl := Option.some.inj h
            refine u_sub [3, 4, 5, 1, 6, 0] rfl ?_
            exact hP19 (v3_19 ||| (jshl (1 : Int32) r38), v5_19 + 1) rfl
    obtain ⟨v3_5, v4_5⟩ := s
    replace h : f_X12_saw_l5 μ k0 a1 a2 v3_5 v4_5 = some y5 := h
    show UW C 7 μ 5 [(0, .ref (gad (cG C) k0)), (1, .int a1), (2, .int a2), (3, .int v3_5), (4, .int v4_5)] []
    unfold f_X12_saw_l5 at h
    refine u_iload (pc := 5) hC dX12_saw_5 4 rfl ?_
    refine u_aload_n (pc := 7) hC dX12_saw_7 rfl 0 rfl ?_
    refine g_RX12_7 (pc := 8) hC hk0 dX12_saw_8 ?_
    refine u_iconst (pc := 11) hC ic_1 dX12_saw_11 ?_
    refine u_iald (pc := 12) hC (rs_12_0 hk0) 342 (rn_12_0 hk0) (by decide) dX12_saw_12 ?_
    refine u_icmp_ge (pc := 13) hC (tgt := 96) dX12_saw_13 (by decide) (fun c13 => ?_) (fun c13 => ?_)
    · replace h := of_t c13 h
      obtain rfl := Option.some.inj h
      refine u_sub [3] rfl ?_
      exact hE5 v3_5 rfl
    · replace h := of_f c13 h
      refine u_iconst (pc := 16) hC ic_0 dX12_saw_16 ?_
      refine u_istore (pc := 17) hC dX12_saw_17 [(5, .int (0 : Int32)), (0, .ref (gad (cG C) k0)), (1, .int a1), (2, .int a2), (3, .int v3_5), (4, .int v4_5)] (by decide) rfl ?_
      obtain ⟨e19, l19, h⟩ := of_bd h
      refine u_sub [1, 2, 3, 4, 5, 0] rfl ?_
      refine lw19 v4_5 e19 (v3_5, (0 : Int32)) l19 ?_
      show UW C 7 μ 90 [(0, .ref (gad (cG C) k0)), (1, .int a1), (2, .int a2), (3, .int e19), (4, .int v4_5)] []
      refine u_iinc (pc := 90) hC dX12_saw_90 4 rfl (v4_5 + 1) rfl [(4, .int (v4_5 + 1)), (0, .ref (gad (cG C) k0)), (1, .int a1), (2, .int a2), (3, .int e19)] (by decide) rfl ?_
      refine u_goto (pc := 93) hC 5 dX12_saw_93 (by decide) ?_
      obtain rfl := Option.some.inj h
      refine u_sub [1, 2, 3, 4, 0] rfl ?_
      exact hP5 (e19, v4_5 + 1) rfl
  unfold f_X12_saw at h
  refine u_iconst (pc := 0) hC ic_0 dX12_saw_0 ?_
  refine u_istore_n (pc := 1) hC dX12_saw_1 rfl [(3, .int (0 : Int32)), (0, .ref (gad (cG C) k0)), (1, .int a1), (2, .int a2)] (by decide) rfl ?_
  refine u_iconst (pc := 2) hC ic_0 dX12_saw_2 ?_
  refine u_istore (pc := 3) hC dX12_saw_3 [(4, .int (0 : Int32)), (3, .int (0 : Int32)), (0, .ref (gad (cG C) k0)), (1, .int a1), (2, .int a2)] (by decide) rfl ?_
  obtain ⟨e5, l5, h⟩ := of_bd h
  refine u_sub [2, 3, 4, 1, 0] rfl ?_
  refine lw5  e5 ((0 : Int32), (0 : Int32)) l5 ?_
  show UW C 7 μ 96 [(3, .int e5)] []
  refine u_iload_n (pc := 96) hC dX12_saw_96 rfl 0 rfl ?_
  obtain rfl := Option.some.inj h
  exact u_iret (pc := 97) hC hQ hr ⟨rfl, rfl⟩ dX12_saw_97
set_option maxHeartbeats 4000000 in
set_option maxRecDepth 100000 in
theorem c_X12_knownBy {l : Launch} {G : GG} {d : Nat} (hd : 2 ≤ d) {μ : Mem} {k0 : Nat} (hk0 : isC 12 k0) {a1 : Int32} {a2 : Int32} {r : Int32 × Mem} (h : f_X12_knownBy μ k0 a1 a2 = some r) : CT l yX12_knownBy cX12_knownBy 10 (some .int) d G [.ref (gad G k0), .int a1, .int a2] μ (RK (some (.int r.1)) r.2) := by
  refine ct_start (by decide) (Nat.le_of_ble_eq_true rfl) (fun C hl1 hG1 hC hQ hr => ?_)
  subst hl1; subst hG1
  have hC : CxOK C cX12_knownBy 10 RX12 d := hC
  show UW C 10 μ 0 [(0, .ref (gad (cG C) k0)), (1, .int a1), (2, .int a2)] []
  have lw25 : ∀ (e : (Mem)) (s : Int32 × Int32 × Mem), lp (fun s => f_X12_knownBy_l25 k0 a1 a2 s.1 s.2.1 s.2.2) FU s = some e → (fun (e : (Mem)) => UW C 10 e 278 [(0, .ref (gad (cG C) k0)), (1, .int a1), (2, .int a2)] []) e → UW C 10 s.2.2 25 [(0, .ref (gad (cG C) k0)), (1, .int a1), (2, .int a2), (3, .int s.1), (4, .int s.2.1)] [] := by
    intro e s hl hE0
    refine @lp_walk (Int32 × Int32 × Mem) (Mem) (fun s => f_X12_knownBy_l25 k0 a1 a2 s.1 s.2.1 s.2.2) (fun s => UW C 10 s.2.2 25 [(0, .ref (gad (cG C) k0)), (1, .int a1), (2, .int a2), (3, .int s.1), (4, .int s.2.1)] []) (fun (e : (Mem)) => UW C 10 e 278 [(0, .ref (gad (cG C) k0)), (1, .int a1), (2, .int a2)] []) (fun s y25 h hP25 hE25 => ?_) FU s e hl hE0
    have jb157 : ∀ (μ_157 : Mem) (v3_157 : Int32) (v5_157 : Int32) (vt0_157 : Int32), f_X12_knownBy_j157 μ_157 k0 a1 a2 v3_157 v5_157 vt0_157 = some y25 → UW C 10 μ_157 157 [(0, .ref (gad (cG C) k0)), (1, .int a1), (2, .int a2), (3, .int v3_157), (5, .int v5_157)] [.int vt0_157] := by
      intro μ_157 v3_157 v5_157 vt0_157 h
      unfold f_X12_knownBy_j157 at h
      refine u_istore (pc := 157) hC dX12_knownBy_157 [(4, .int vt0_157), (0, .ref (gad (cG C) k0)), (1, .int a1), (2, .int a2), (3, .int v3_157), (5, .int v5_157)] (by decide) rfl ?_
      refine u_iload (pc := 159) hC dX12_knownBy_159 0 rfl ?_
      refine u_if_eq (pc := 161) hC (tgt := 275) dX12_knownBy_161 (by decide) (fun c161 => ?_) (fun c161 => ?_)
      · replace h := of_t c161 h
        refine u_goto (pc := 275) hC 25 dX12_knownBy_275 (by decide) ?_
        obtain rfl := Option.some.inj h
        refine u_sub [1, 2, 3, 4, 0] rfl ?_
        exact hP25 (v3_157, vt0_157, μ_157) rfl
      · replace h := of_f c161 h
        refine u_aload_n (pc := 164) hC dX12_knownBy_164 rfl 1 rfl ?_
        refine g_RX12_7 (pc := 165) hC hk0 dX12_knownBy_165 ?_
        refine u_sipush (pc := 168) hC sc_134 dX12_knownBy_168 ?_
        refine u_iconst (pc := 171) hC ic_3 dX12_knownBy_171 ?_
        refine u_iload (pc := 172) hC dX12_knownBy_172 5 rfl ?_
        refine u_imul (pc := 174) hC dX12_knownBy_174 ?_
        refine u_iadd (pc := 175) hC dX12_knownBy_175 ?_
        obtain ⟨b176, h⟩ := of_gd h
        refine u_iald (pc := 176) hC (rs_12_0 hk0) 342 (rn_12_0 hk0) b176 dX12_knownBy_176 ?_
        refine u_istore (pc := 177) hC dX12_knownBy_177 [(6, .int (rd μ_157 (rf k0 0) ((134 : Int32) + ((3 : Int32) * v5_157)).toNatClampNeg)), (4, .int vt0_157), (0, .ref (gad (cG C) k0)), (1, .int a1), (2, .int a2), (3, .int v3_157), (5, .int v5_157)] (by decide) rfl ?_
        refine u_aload_n (pc := 179) hC dX12_knownBy_179 rfl 2 rfl ?_
        refine g_RX12_7 (pc := 180) hC hk0 dX12_knownBy_180 ?_
        refine u_sipush (pc := 183) hC sc_134 dX12_knownBy_183 ?_
        refine u_iconst (pc := 186) hC ic_3 dX12_knownBy_186 ?_
        refine u_iload (pc := 187) hC dX12_knownBy_187 6 rfl ?_
        refine u_imul (pc := 189) hC dX12_knownBy_189 ?_
        refine u_iadd (pc := 190) hC dX12_knownBy_190 ?_
        refine u_iconst (pc := 191) hC ic_1 dX12_knownBy_191 ?_
        refine u_iadd (pc := 192) hC dX12_knownBy_192 ?_
        obtain ⟨b193, h⟩ := of_gd h
        refine u_iald (pc := 193) hC (rs_12_0 hk0) 342 (rn_12_0 hk0) b193 dX12_knownBy_193 ?_
        refine u_istore (pc := 194) hC dX12_knownBy_194 [(7, .int (rd μ_157 (rf k0 0) (((134 : Int32) + ((3 : Int32) * v5_157)) + (1 : Int32)).toNatClampNeg)), (6, .int (rd μ_157 (rf k0 0) ((134 : Int32) + ((3 : Int32) * v5_157)).toNatClampNeg)), (4, .int vt0_157), (0, .ref (gad (cG C) k0)), (1, .int a1), (2, .int a2), (3, .int v3_157), (5, .int v5_157)] (by decide) rfl ?_
        refine u_aload_n (pc := 196) hC dX12_knownBy_196 rfl 3 rfl ?_
        refine g_RX12_7 (pc := 197) hC hk0 dX12_knownBy_197 ?_
        refine u_sipush (pc := 200) hC sc_134 dX12_knownBy_200 ?_
        refine u_iconst (pc := 203) hC ic_3 dX12_knownBy_203 ?_
        refine u_iload (pc := 204) hC dX12_knownBy_204 7 rfl ?_
        refine u_imul (pc := 206) hC dX12_knownBy_206 ?_
        refine u_iadd (pc := 207) hC dX12_knownBy_207 ?_
        refine u_iconst (pc := 208) hC ic_2 dX12_knownBy_208 ?_
        refine u_iadd (pc := 209) hC dX12_knownBy_209 ?_
        obtain ⟨b210, h⟩ := of_gd h
        refine u_iald (pc := 210) hC (rs_12_0 hk0) 342 (rn_12_0 hk0) b210 dX12_knownBy_210 ?_
        refine u_istore (pc := 211) hC dX12_knownBy_211 [(8, .int (rd μ_157 (rf k0 0) (((134 : Int32) + ((3 : Int32) * v5_157)) + (2 : Int32)).toNatClampNeg)), (7, .int (rd μ_157 (rf k0 0) (((134 : Int32) + ((3 : Int32) * v5_157)) + (1 : Int32)).toNatClampNeg)), (6, .int (rd μ_157 (rf k0 0) ((134 : Int32) + ((3 : Int32) * v5_157)).toNatClampNeg)), (4, .int vt0_157), (0, .ref (gad (cG C) k0)), (1, .int a1), (2, .int a2), (3, .int v3_157), (5, .int v5_157)] (by decide) rfl ?_
        refine u_aload_n (pc := 213) hC dX12_knownBy_213 rfl 4 rfl ?_
        refine g_RX12_38 (pc := 214) hC hk0 dX12_knownBy_214 ?_
        refine u_iload (pc := 217) hC dX12_knownBy_217 1 rfl ?_
        obtain ⟨b219, h⟩ := of_gd h
        refine u_iald (pc := 219) hC (rs_12_18 hk0) 5 (rn_12_18 hk0) b219 dX12_knownBy_219 ?_
        refine u_aload_n (pc := 220) hC dX12_knownBy_220 rfl 4 rfl ?_
        refine g_RX12_38 (pc := 221) hC hk0 dX12_knownBy_221 ?_
        refine u_iload (pc := 224) hC dX12_knownBy_224 0 rfl ?_
        obtain ⟨b226, h⟩ := of_gd h
        refine u_iald (pc := 226) hC (rs_12_18 hk0) 5 (rn_12_18 hk0) b226 dX12_knownBy_226 ?_
        refine u_ior (pc := 227) hC dX12_knownBy_227 ?_
        refine u_aload_n (pc := 228) hC dX12_knownBy_228 rfl 4 rfl ?_
        refine u_iload (pc := 229) hC dX12_knownBy_229 1 rfl ?_
        refine u_iload (pc := 231) hC dX12_knownBy_231 2 rfl ?_
        obtain ⟨r233, q233, h⟩ := of_bd h
        refine k_RX12_279 (pc := 233) hC (av := [.int (rd μ_157 (rf k0 0) (((134 : Int32) + ((3 : Int32) * v5_157)) + (1 : Int32)).toNatClampNeg), .int (rd μ_157 (rf k0 0) ((134 : Int32) + ((3 : Int32) * v5_157)).toNatClampNeg)]) (rest := [.int ((rd μ_157 (rf k0 18) (rd μ_157 (rf k0 0) (((134 : Int32) + ((3 : Int32) * v5_157)) + (1 : Int32)).toNatClampNeg).toNatClampNeg) ||| (rd μ_157 (rf k0 18) (rd μ_157 (rf k0 0) (((134 : Int32) + ((3 : Int32) * v5_157)) + (2 : Int32)).toNatClampNeg).toNatClampNeg))]) (c_X12_saw (d := d - 1) (by omega) hk0 q233) (by omega) (Nat.le_of_ble_eq_true rfl) hk0 rfl rfl dX12_knownBy_233 ?_
        refine u_ior (pc := 236) hC dX12_knownBy_236 ?_
        refine u_aload_n (pc := 237) hC dX12_knownBy_237 rfl 4 rfl ?_
        refine u_iload (pc := 238) hC dX12_knownBy_238 0 rfl ?_
        refine u_iload (pc := 240) hC dX12_knownBy_240 2 rfl ?_
        obtain ⟨r242, q242, h⟩ := of_bd h
        refine k_RX12_279 (pc := 242) hC (av := [.int (rd μ_157 (rf k0 0) (((134 : Int32) + ((3 : Int32) * v5_157)) + (2 : Int32)).toNatClampNeg), .int (rd μ_157 (rf k0 0) ((134 : Int32) + ((3 : Int32) * v5_157)).toNatClampNeg)]) (rest := [.int (((rd μ_157 (rf k0 18) (rd μ_157 (rf k0 0) (((134 : Int32) + ((3 : Int32) * v5_157)) + (1 : Int32)).toNatClampNeg).toNatClampNeg) ||| (rd μ_157 (rf k0 18) (rd μ_157 (rf k0 0) (((134 : Int32) + ((3 : Int32) * v5_157)) + (2 : Int32)).toNatClampNeg).toNatClampNeg)) ||| r233)]) (c_X12_saw (d := d - 1) (by omega) hk0 q242) (by omega) (Nat.le_of_ble_eq_true rfl) hk0 rfl rfl dX12_knownBy_242 ?_
        refine u_ior (pc := 245) hC dX12_knownBy_245 ?_
        refine u_istore (pc := 246) hC dX12_knownBy_246 [(9, .int ((((rd μ_157 (rf k0 18) (rd μ_157 (rf k0 0) (((134 : Int32) + ((3 : Int32) * v5_157)) + (1 : Int32)).toNatClampNeg).toNatClampNeg) ||| (rd μ_157 (rf k0 18) (rd μ_157 (rf k0 0) (((134 : Int32) + ((3 : Int32) * v5_157)) + (2 : Int32)).toNatClampNeg).toNatClampNeg)) ||| r233) ||| r242)), (8, .int (rd μ_157 (rf k0 0) (((134 : Int32) + ((3 : Int32) * v5_157)) + (2 : Int32)).toNatClampNeg)), (7, .int (rd μ_157 (rf k0 0) (((134 : Int32) + ((3 : Int32) * v5_157)) + (1 : Int32)).toNatClampNeg)), (6, .int (rd μ_157 (rf k0 0) ((134 : Int32) + ((3 : Int32) * v5_157)).toNatClampNeg)), (4, .int vt0_157), (0, .ref (gad (cG C) k0)), (1, .int a1), (2, .int a2), (3, .int v3_157), (5, .int v5_157)] (by decide) rfl ?_
        refine u_aload_n (pc := 248) hC dX12_knownBy_248 rfl 5 rfl ?_
        refine g_RX12_38 (pc := 249) hC hk0 dX12_knownBy_249 ?_
        refine u_iload (pc := 252) hC dX12_knownBy_252 2 rfl ?_
        refine u_iload (pc := 254) hC dX12_knownBy_254 0 rfl ?_
        obtain ⟨b256, h⟩ := of_gd h
        obtain ⟨m256, q256, h⟩ := of_bd h
        refine u_iast (pc := 256) hC (rs_12_18 hk0) 5 (rn_12_18 hk0) b256 dX12_knownBy_256 (Option.some.inj q256) ?_
        refine u_aload_n (pc := 257) hC dX12_knownBy_257 rfl 5 rfl ?_
        refine g_RX12_38 (pc := 258) hC hk0 dX12_knownBy_258 ?_
        refine u_iload (pc := 261) hC dX12_knownBy_261 1 rfl ?_
        refine u_iload (pc := 263) hC dX12_knownBy_263 0 rfl ?_
        obtain ⟨b265, h⟩ := of_gd h
        obtain ⟨m265, q265, h⟩ := of_bd h
        refine u_iast (pc := 265) hC (rs_12_18 hk0) 5 (rn_12_18 hk0) b265 dX12_knownBy_265 (Option.some.inj q265) ?_
        refine u_bipush (pc := 266) hC bc_12 dX12_knownBy_266 ?_
        refine u_iload (pc := 268) hC dX12_knownBy_268 3 rfl ?_
        refine u_imul (pc := 270) hC dX12_knownBy_270 ?_
        refine u_iload (pc := 271) hC dX12_knownBy_271 9 rfl ?_
        refine u_iadd (pc := 273) hC dX12_knownBy_273 ?_
        refine u_istore_n (pc := 274) hC dX12_knownBy_274 rfl [(3, .int (((12 : Int32) * (rd μ_157 (rf k0 0) ((134 : Int32) + ((3 : Int32) * v5_157)).toNatClampNeg)) + v5_157)), (9, .int ((((rd μ_157 (rf k0 18) (rd μ_157 (rf k0 0) (((134 : Int32) + ((3 : Int32) * v5_157)) + (1 : Int32)).toNatClampNeg).toNatClampNeg) ||| (rd μ_157 (rf k0 18) (rd μ_157 (rf k0 0) (((134 : Int32) + ((3 : Int32) * v5_157)) + (2 : Int32)).toNatClampNeg).toNatClampNeg)) ||| r233) ||| r242)), (8, .int (rd μ_157 (rf k0 0) (((134 : Int32) + ((3 : Int32) * v5_157)) + (2 : Int32)).toNatClampNeg)), (7, .int (rd μ_157 (rf k0 0) (((134 : Int32) + ((3 : Int32) * v5_157)) + (1 : Int32)).toNatClampNeg)), (6, .int (rd μ_157 (rf k0 0) ((134 : Int32) + ((3 : Int32) * v5_157)).toNatClampNeg)), (4, .int vt0_157), (0, .ref (gad (cG C) k0)), (1, .int a1), (2, .int a2), (5, .int v5_157)] (by decide) rfl ?_
        refine u_goto (pc := 275) hC 25 dX12_knownBy_275 (by decide) ?_
        obtain rfl := Option.some.inj h
        refine u_sub [6, 7, 8, 0, 5] rfl ?_
        exact hP25 (((12 : Int32) * (rd μ_157 (rf k0 0) ((134 : Int32) + ((3 : Int32) * v5_157)).toNatClampNeg)) + v5_157, vt0_157, m265) rfl
    have lw36 : ∀ (μ_36 : Mem) (v3_36 : Int32) (e : (Int32)) (s : Int32 × Int32), lp (fun s => f_X12_knownBy_l36 μ_36 k0 a1 a2 v3_36 s.1 s.2) FU s = some e → (fun (e : (Int32)) => UW C 10 μ_36 147 [(0, .ref (gad (cG C) k0)), (1, .int a1), (2, .int a2), (3, .int v3_36), (5, .int e)] []) e → UW C 10 μ_36 36 [(0, .ref (gad (cG C) k0)), (1, .int a1), (2, .int a2), (3, .int v3_36), (5, .int s.1), (6, .int s.2)] [] := by
      intro μ_36 v3_36 e s hl hE0
      refine @lp_walk (Int32 × Int32) (Int32) (fun s => f_X12_knownBy_l36 μ_36 k0 a1 a2 v3_36 s.1 s.2) (fun s => UW C 10 μ_36 36 [(0, .ref (gad (cG C) k0)), (1, .int a1), (2, .int a2), (3, .int v3_36), (5, .int s.1), (6, .int s.2)] []) (fun (e : (Int32)) => UW C 10 μ_36 147 [(0, .ref (gad (cG C) k0)), (1, .int a1), (2, .int a2), (3, .int v3_36), (5, .int e)] []) (fun s y36 h hP36 hE36 => ?_) FU s e hl hE0
      have jb102 : ∀ (v5_102 : Int32) (v6_102 : Int32) (v7_102 : Int32) (vt0_102 : Int32), f_X12_knownBy_j102 μ_36 k0 a1 a2 v3_36 v5_102 v6_102 v7_102 vt0_102 = some y36 → UW C 10 μ_36 102 [(0, .ref (gad (cG C) k0)), (1, .int a1), (2, .int a2), (3, .int v3_36), (5, .int v5_102), (6, .int v6_102), (7, .int v7_102)] [.int vt0_102] := by
        intro v5_102 v6_102 v7_102 vt0_102 h
        unfold f_X12_knownBy_j102 at h
        refine u_istore (pc := 102) hC dX12_knownBy_102 [(8, .int vt0_102), (0, .ref (gad (cG C) k0)), (1, .int a1), (2, .int a2), (3, .int v3_36), (5, .int v5_102), (6, .int v6_102), (7, .int v7_102)] (by decide) rfl ?_
        refine u_iload (pc := 104) hC dX12_knownBy_104 7 rfl ?_
        refine u_iload_n (pc := 106) hC dX12_knownBy_106 rfl 4 rfl ?_
        refine u_icmp_le (pc := 107) hC (tgt := 137) dX12_knownBy_107 (by decide) (fun c107 => ?_) (fun c107 => ?_)
        · replace h := of_t c107 h
          refine u_iload (pc := 137) hC dX12_knownBy_137 5 rfl ?_
          refine u_istore (pc := 139) hC dX12_knownBy_139 [(5, .int v5_102), (8, .int vt0_102), (0, .ref (gad (cG C) k0)), (1, .int a1), (2, .int a2), (3, .int v3_36), (6, .int v6_102), (7, .int v7_102)] (by decide) rfl ?_
          refine u_iinc (pc := 141) hC dX12_knownBy_141 6 rfl (v6_102 + 1) rfl [(6, .int (v6_102 + 1)), (5, .int v5_102), (8, .int vt0_102), (0, .ref (gad (cG C) k0)), (1, .int a1), (2, .int a2), (3, .int v3_36), (7, .int v7_102)] (by decide) rfl ?_
          refine u_goto (pc := 144) hC 36 dX12_knownBy_144 (by decide) ?_
          obtain rfl := Option.some.inj h
          refine u_sub [3, 4, 5, 6, 1, 0] rfl ?_
          exact hP36 (v5_102, v6_102 + 1) rfl
        · replace h := of_f c107 h
          refine u_aload_n (pc := 110) hC dX12_knownBy_110 rfl 1 rfl ?_
          refine g_RX12_7 (pc := 111) hC hk0 dX12_knownBy_111 ?_
          refine u_sipush (pc := 114) hC sc_134 dX12_knownBy_114 ?_
          refine u_iconst (pc := 117) hC ic_3 dX12_knownBy_117 ?_
          refine u_iload (pc := 118) hC dX12_knownBy_118 6 rfl ?_
          refine u_imul (pc := 120) hC dX12_knownBy_120 ?_
          refine u_iadd (pc := 121) hC dX12_knownBy_121 ?_
          obtain ⟨b122, h⟩ := of_gd h
          refine u_iald (pc := 122) hC (rs_12_0 hk0) 342 (rn_12_0 hk0) b122 dX12_knownBy_122 ?_
          refine u_iload_n (pc := 123) hC dX12_knownBy_123 rfl 3 rfl ?_
          refine u_icmp_gt (pc := 124) hC (tgt := 137) dX12_knownBy_124 (by decide) (fun c124 => ?_) (fun c124 => ?_)
          · replace h := of_t c124 h
            refine u_iload (pc := 137) hC dX12_knownBy_137 5 rfl ?_
            refine u_istore (pc := 139) hC dX12_knownBy_139 [(5, .int v5_102), (8, .int vt0_102), (0, .ref (gad (cG C) k0)), (1, .int a1), (2, .int a2), (3, .int v3_36), (6, .int v6_102), (7, .int v7_102)] (by decide) rfl ?_
            refine u_iinc (pc := 141) hC dX12_knownBy_141 6 rfl (v6_102 + 1) rfl [(6, .int (v6_102 + 1)), (5, .int v5_102), (8, .int vt0_102), (0, .ref (gad (cG C) k0)), (1, .int a1), (2, .int a2), (3, .int v3_36), (7, .int v7_102)] (by decide) rfl ?_
            refine u_goto (pc := 144) hC 36 dX12_knownBy_144 (by decide) ?_
            obtain rfl := Option.some.inj h
            refine u_sub [3, 4, 5, 6, 1, 0] rfl ?_
            exact hP36 (v5_102, v6_102 + 1) rfl
          · replace h := of_f c124 h
            refine u_iload (pc := 127) hC dX12_knownBy_127 0 rfl ?_
            refine u_if_eq (pc := 129) hC (tgt := 137) dX12_knownBy_129 (by decide) (fun c129 => ?_) (fun c129 => ?_)
            · replace h := of_t c129 h
              refine u_iload (pc := 137) hC dX12_knownBy_137 5 rfl ?_
              refine u_istore (pc := 139) hC dX12_knownBy_139 [(5, .int v5_102), (8, .int vt0_102), (0, .ref (gad (cG C) k0)), (1, .int a1), (2, .int a2), (3, .int v3_36), (6, .int v6_102), (7, .int v7_102)] (by decide) rfl ?_
              refine u_iinc (pc := 141) hC dX12_knownBy_141 6 rfl (v6_102 + 1) rfl [(6, .int (v6_102 + 1)), (5, .int v5_102), (8, .int vt0_102), (0, .ref (gad (cG C) k0)), (1, .int a1), (2, .int a2), (3, .int v3_36), (7, .int v7_102)] (by decide) rfl ?_
              refine u_goto (pc := 144) hC 36 dX12_knownBy_144 (by decide) ?_
              obtain rfl := Option.some.inj h
              refine u_sub [3, 4, 5, 6, 1, 0] rfl ?_
              exact hP36 (v5_102, v6_102 + 1) rfl
            · replace h := of_f c129 h
              refine u_iload (pc := 132) hC dX12_knownBy_132 6 rfl ?_
              refine u_goto (pc := 134) hC 139 dX12_knownBy_134 (by decide) ?_
              refine u_istore (pc := 139) hC dX12_knownBy_139 [(5, .int v6_102), (8, .int vt0_102), (0, .ref (gad (cG C) k0)), (1, .int a1), (2, .int a2), (3, .int v3_36), (6, .int v6_102), (7, .int v7_102)] (by decide) rfl ?_
              refine u_iinc (pc := 141) hC dX12_knownBy_141 6 rfl (v6_102 + 1) rfl [(6, .int (v6_102 + 1)), (5, .int v6_102), (8, .int vt0_102), (0, .ref (gad (cG C) k0)), (1, .int a1), (2, .int a2), (3, .int v3_36), (7, .int v7_102)] (by decide) rfl ?_
              refine u_goto (pc := 144) hC 36 dX12_knownBy_144 (by decide) ?_
              obtain rfl := Option.some.inj h
              refine u_sub [3, 4, 5, 6, 1, 0] rfl ?_
              exact hP36 (v6_102, v6_102 + 1) rfl
      have jb97 : ∀ (v5_97 : Int32) (v6_97 : Int32) (v7_97 : Int32), f_X12_knownBy_j97 μ_36 k0 a1 a2 v3_36 v5_97 v6_97 v7_97 = some y36 → UW C 10 μ_36 97 [(0, .ref (gad (cG C) k0)), (1, .int a1), (2, .int a2), (3, .int v3_36), (5, .int v5_97), (6, .int v6_97), (7, .int v7_97)] [] := by
        intro v5_97 v6_97 v7_97 h
        unfold f_X12_knownBy_j97 at h
        refine u_iconst (pc := 97) hC ic_1 dX12_knownBy_97 ?_
        refine u_goto (pc := 98) hC 102 dX12_knownBy_98 (by decide) ?_
        exact jb102 v5_97 v6_97 v7_97 (1 : Int32) h
      obtain ⟨v5_36, v6_36⟩ := s
      replace h : f_X12_knownBy_l36 μ_36 k0 a1 a2 v3_36 v5_36 v6_36 = some y36 := h
      show UW C 10 μ_36 36 [(0, .ref (gad (cG C) k0)), (1, .int a1), (2, .int a2), (3, .int v3_36), (5, .int v5_36), (6, .int v6_36)] []
      unfold f_X12_knownBy_l36 at h
      refine u_iload (pc := 36) hC dX12_knownBy_36 5 rfl ?_
      refine u_aload_n (pc := 38) hC dX12_knownBy_38 rfl 0 rfl ?_
      refine g_RX12_7 (pc := 39) hC hk0 dX12_knownBy_39 ?_
      refine u_iconst (pc := 42) hC ic_2 dX12_knownBy_42 ?_
      refine u_iald (pc := 43) hC (rs_12_0 hk0) 342 (rn_12_0 hk0) (by decide) dX12_knownBy_43 ?_
      refine u_icmp_ge (pc := 44) hC (tgt := 147) dX12_knownBy_44 (by decide) (fun c44 => ?_) (fun c44 => ?_)
      · replace h := of_t c44 h
        obtain rfl := Option.some.inj h
        refine u_sub [0, 1, 2, 3, 4] rfl ?_
        exact hE36 v5_36 rfl
      · replace h := of_f c44 h
        refine u_bipush (pc := 47) hC bc_12 dX12_knownBy_47 ?_
        refine u_aload_n (pc := 49) hC dX12_knownBy_49 rfl 0 rfl ?_
        refine g_RX12_7 (pc := 50) hC hk0 dX12_knownBy_50 ?_
        refine u_sipush (pc := 53) hC sc_134 dX12_knownBy_53 ?_
        refine u_iconst (pc := 56) hC ic_3 dX12_knownBy_56 ?_
        refine u_iload (pc := 57) hC dX12_knownBy_57 5 rfl ?_
        refine u_imul (pc := 59) hC dX12_knownBy_59 ?_
        refine u_iadd (pc := 60) hC dX12_knownBy_60 ?_
        obtain ⟨b61, h⟩ := of_gd h
        refine u_iald (pc := 61) hC (rs_12_0 hk0) 342 (rn_12_0 hk0) b61 dX12_knownBy_61 ?_
        refine u_imul (pc := 62) hC dX12_knownBy_62 ?_
        refine u_iload (pc := 63) hC dX12_knownBy_63 5 rfl ?_
        refine u_iadd (pc := 65) hC dX12_knownBy_65 ?_
        refine u_istore (pc := 66) hC dX12_knownBy_66 [(7, .int (((12 : Int32) * (rd μ_36 (rf k0 0) ((134 : Int32) + ((3 : Int32) * v6_36)).toNatClampNeg)) + v6_36)), (0, .ref (gad (cG C) k0)), (1, .int a1), (2, .int a2), (3, .int v3_36), (5, .int v5_36), (6, .int v6_36)] (by decide) rfl ?_
        refine u_iload (pc := 68) hC dX12_knownBy_68 5 rfl ?_
        refine u_if_lt (pc := 70) hC (tgt := 97) dX12_knownBy_70 (by decide) (fun c70 => ?_) (fun c70 => ?_)
        · replace h := of_t c70 h
          refine u_sub [1, 2, 3, 4, 5, 6, 0] rfl ?_
          exact jb97 v5_36 v6_36 (((12 : Int32) * (rd μ_36 (rf k0 0) ((134 : Int32) + ((3 : Int32) * v6_36)).toNatClampNeg)) + v6_36) h
        · replace h := of_f c70 h
          refine u_iload (pc := 73) hC dX12_knownBy_73 0 rfl ?_
          refine u_bipush (pc := 75) hC bc_12 dX12_knownBy_75 ?_
          refine u_aload_n (pc := 77) hC dX12_knownBy_77 rfl 1 rfl ?_
          refine g_RX12_7 (pc := 78) hC hk0 dX12_knownBy_78 ?_
          refine u_sipush (pc := 81) hC sc_134 dX12_knownBy_81 ?_
          refine u_iconst (pc := 84) hC ic_3 dX12_knownBy_84 ?_
          refine u_iload (pc := 85) hC dX12_knownBy_85 5 rfl ?_
          refine u_imul (pc := 87) hC dX12_knownBy_87 ?_
          refine u_iadd (pc := 88) hC dX12_knownBy_88 ?_
          obtain ⟨b89, h⟩ := of_gd h
          refine u_iald (pc := 89) hC (rs_12_0 hk0) 342 (rn_12_0 hk0) b89 dX12_knownBy_89 ?_
          refine u_imul (pc := 90) hC dX12_knownBy_90 ?_
          refine u_iload (pc := 91) hC dX12_knownBy_91 5 rfl ?_
          refine u_iadd (pc := 93) hC dX12_knownBy_93 ?_
          refine u_icmp_ge (pc := 94) hC (tgt := 101) dX12_knownBy_94 (by decide) (fun c94 => ?_) (fun c94 => ?_)
          · replace h := of_t c94 h
            refine u_iconst (pc := 101) hC ic_0 dX12_knownBy_101 ?_
            refine u_sub [1, 2, 3, 4, 5, 6, 0] rfl ?_
            exact jb102 v5_36 v6_36 (((12 : Int32) * (rd μ_36 (rf k0 0) ((134 : Int32) + ((3 : Int32) * v6_36)).toNatClampNeg)) + v6_36) (0 : Int32) h
          · replace h := of_f c94 h
            refine u_sub [1, 2, 3, 4, 5, 6, 0] rfl ?_
            exact jb97 v5_36 v6_36 (((12 : Int32) * (rd μ_36 (rf k0 0) ((134 : Int32) + ((3 : Int32) * v6_36)).toNatClampNeg)) + v6_36) h
    obtain ⟨v3_25, v4_25, μ_25⟩ := s
    replace h : f_X12_knownBy_l25 k0 a1 a2 v3_25 v4_25 μ_25 = some y25 := h
    show UW C 10 μ_25 25 [(0, .ref (gad (cG C) k0)), (1, .int a1), (2, .int a2), (3, .int v3_25), (4, .int v4_25)] []
    unfold f_X12_knownBy_l25 at h
    refine u_iload (pc := 25) hC dX12_knownBy_25 4 rfl ?_
    refine u_if_eq (pc := 27) hC (tgt := 278) dX12_knownBy_27 (by decide) (fun c27 => ?_) (fun c27 => ?_)
    · replace h := of_t c27 h
      obtain rfl := Option.some.inj h
      refine u_sub [0, 1, 2] rfl ?_
      exact hE25 μ_25 rfl
    · replace h := of_f c27 h
      refine u_iconst (pc := 30) hC ic_m1 dX12_knownBy_30 ?_
      refine u_istore (pc := 31) hC dX12_knownBy_31 [(5, .int (-1 : Int32)), (0, .ref (gad (cG C) k0)), (1, .int a1), (2, .int a2), (3, .int v3_25), (4, .int v4_25)] (by decide) rfl ?_
      refine u_iconst (pc := 33) hC ic_0 dX12_knownBy_33 ?_
      refine u_istore (pc := 34) hC dX12_knownBy_34 [(6, .int (0 : Int32)), (5, .int (-1 : Int32)), (0, .ref (gad (cG C) k0)), (1, .int a1), (2, .int a2), (3, .int v3_25), (4, .int v4_25)] (by decide) rfl ?_
      obtain ⟨e36, l36, h⟩ := of_bd h
      refine u_sub [2, 3, 4, 5, 1, 0] rfl ?_
      refine lw36 μ_25 v3_25 e36 ((-1 : Int32), (0 : Int32)) l36 ?_
      show UW C 10 μ_25 147 [(0, .ref (gad (cG C) k0)), (1, .int a1), (2, .int a2), (3, .int v3_25), (5, .int e36)] []
      refine u_iload (pc := 147) hC dX12_knownBy_147 4 rfl ?_
      refine u_if_lt (pc := 149) hC (tgt := 156) dX12_knownBy_149 (by decide) (fun c149 => ?_) (fun c149 => ?_)
      · replace h := of_t c149 h
        refine u_iconst (pc := 156) hC ic_0 dX12_knownBy_156 ?_
        exact jb157 μ_25 v3_25 e36 (0 : Int32) h
      · replace h := of_f c149 h
        refine u_iconst (pc := 152) hC ic_1 dX12_knownBy_152 ?_
        refine u_goto (pc := 153) hC 157 dX12_knownBy_153 (by decide) ?_
        exact jb157 μ_25 v3_25 e36 (1 : Int32) h
  have lw2 : ∀ (e : (Mem)) (s : Int32 × Mem), lp (fun s => f_X12_knownBy_l2 k0 a1 a2 s.1 s.2) FU s = some e → (fun (e : (Mem)) => UW C 10 e 20 [(0, .ref (gad (cG C) k0)), (1, .int a1), (2, .int a2)] []) e → UW C 10 s.2 2 [(0, .ref (gad (cG C) k0)), (1, .int a1), (2, .int a2), (3, .int s.1)] [] := by
    intro e s hl hE0
    refine @lp_walk (Int32 × Mem) (Mem) (fun s => f_X12_knownBy_l2 k0 a1 a2 s.1 s.2) (fun s => UW C 10 s.2 2 [(0, .ref (gad (cG C) k0)), (1, .int a1), (2, .int a2), (3, .int s.1)] []) (fun (e : (Mem)) => UW C 10 e 20 [(0, .ref (gad (cG C) k0)), (1, .int a1), (2, .int a2)] []) (fun s y2 h hP2 hE2 => ?_) FU s e hl hE0
    obtain ⟨v3_2, μ_2⟩ := s
    replace h : f_X12_knownBy_l2 k0 a1 a2 v3_2 μ_2 = some y2 := h
    show UW C 10 μ_2 2 [(0, .ref (gad (cG C) k0)), (1, .int a1), (2, .int a2), (3, .int v3_2)] []
    unfold f_X12_knownBy_l2 at h
    refine u_iload_n (pc := 2) hC dX12_knownBy_2 rfl 3 rfl ?_
    refine u_iconst (pc := 3) hC ic_5 dX12_knownBy_3 ?_
    refine u_icmp_ge (pc := 4) hC (tgt := 20) dX12_knownBy_4 (by decide) (fun c4 => ?_) (fun c4 => ?_)
    · replace h := of_t c4 h
      obtain rfl := Option.some.inj h
      refine u_sub [0, 1, 2] rfl ?_
      exact hE2 μ_2 rfl
    · replace h := of_f c4 h
      refine u_aload_n (pc := 7) hC dX12_knownBy_7 rfl 0 rfl ?_
      refine g_RX12_38 (pc := 8) hC hk0 dX12_knownBy_8 ?_
      refine u_iload_n (pc := 11) hC dX12_knownBy_11 rfl 3 rfl ?_
      refine u_iconst (pc := 12) hC ic_0 dX12_knownBy_12 ?_
      obtain ⟨b13, h⟩ := of_gd h
      obtain ⟨m13, q13, h⟩ := of_bd h
      refine u_iast (pc := 13) hC (rs_12_18 hk0) 5 (rn_12_18 hk0) b13 dX12_knownBy_13 (Option.some.inj q13) ?_
      refine u_iinc (pc := 14) hC dX12_knownBy_14 3 rfl (v3_2 + 1) rfl [(3, .int (v3_2 + 1)), (0, .ref (gad (cG C) k0)), (1, .int a1), (2, .int a2)] (by decide) rfl ?_
      refine u_goto (pc := 17) hC 2 dX12_knownBy_17 (by decide) ?_
      obtain rfl := Option.some.inj h
      refine u_sub [1, 2, 3, 0] rfl ?_
      exact hP2 (v3_2 + 1, m13) rfl
  unfold f_X12_knownBy at h
  refine u_iconst (pc := 0) hC ic_0 dX12_knownBy_0 ?_
  refine u_istore_n (pc := 1) hC dX12_knownBy_1 rfl [(3, .int (0 : Int32)), (0, .ref (gad (cG C) k0)), (1, .int a1), (2, .int a2)] (by decide) rfl ?_
  obtain ⟨e2, l2, h⟩ := of_bd h
  refine u_sub [1, 2, 3, 0] rfl ?_
  refine lw2  e2 ((0 : Int32), μ) l2 ?_
  show UW C 10 e2 20 [(0, .ref (gad (cG C) k0)), (1, .int a1), (2, .int a2)] []
  refine u_iconst (pc := 20) hC ic_m1 dX12_knownBy_20 ?_
  refine u_istore_n (pc := 21) hC dX12_knownBy_21 rfl [(3, .int (-1 : Int32)), (0, .ref (gad (cG C) k0)), (1, .int a1), (2, .int a2)] (by decide) rfl ?_
  refine u_iconst (pc := 22) hC ic_1 dX12_knownBy_22 ?_
  refine u_istore (pc := 23) hC dX12_knownBy_23 [(4, .int (1 : Int32)), (3, .int (-1 : Int32)), (0, .ref (gad (cG C) k0)), (1, .int a1), (2, .int a2)] (by decide) rfl ?_
  obtain ⟨e25, l25, h⟩ := of_bd h
  refine u_sub [2, 3, 4, 1, 0] rfl ?_
  refine lw25  e25 ((-1 : Int32), (1 : Int32), e2) l25 ?_
  show UW C 10 e25 278 [(0, .ref (gad (cG C) k0)), (1, .int a1), (2, .int a2)] []
  refine u_aload_n (pc := 278) hC dX12_knownBy_278 rfl 0 rfl ?_
  refine g_RX12_38 (pc := 279) hC hk0 dX12_knownBy_279 ?_
  refine u_iload_n (pc := 282) hC dX12_knownBy_282 rfl 1 rfl ?_
  obtain ⟨b283, h⟩ := of_gd h
  refine u_iald (pc := 283) hC (rs_12_18 hk0) 5 (rn_12_18 hk0) b283 dX12_knownBy_283 ?_
  refine u_aload_n (pc := 284) hC dX12_knownBy_284 rfl 0 rfl ?_
  refine u_iload_n (pc := 285) hC dX12_knownBy_285 rfl 1 rfl ?_
  refine u_iload_n (pc := 286) hC dX12_knownBy_286 rfl 2 rfl ?_
  obtain ⟨r287, q287, h⟩ := of_bd h
  refine k_RX12_279 (pc := 287) hC (av := [.int a1, .int a2]) (rest := [.int (rd e25 (rf k0 18) a1.toNatClampNeg)]) (c_X12_saw (d := d - 1) (by omega) hk0 q287) (by omega) (Nat.le_of_ble_eq_true rfl) hk0 rfl rfl dX12_knownBy_287 ?_
  refine u_ior (pc := 290) hC dX12_knownBy_290 ?_
  obtain rfl := Option.some.inj h
  exact u_iret (pc := 291) hC hQ hr ⟨rfl, rfl⟩ dX12_knownBy_291
set_option maxHeartbeats 4000000 in
set_option maxRecDepth 100000 in
theorem c_X12_knows {l : Launch} {G : GG} {d : Nat} (hd : 3 ≤ d) {μ : Mem} {k0 : Nat} (hk0 : isC 12 k0) {a1 : Int32} {a2 : Int32} {r : Int32 × Mem} (h : f_X12_knows μ k0 a1 a2 = some r) : CT l yX12_knows cX12_knows 3 (some .int) d G [.ref (gad G k0), .int a1, .int a2] μ (RK (some (.int r.1)) r.2) := by
  refine ct_start (by decide) (Nat.le_of_ble_eq_true rfl) (fun C hl1 hG1 hC hQ hr => ?_)
  subst hl1; subst hG1
  have hC : CxOK C cX12_knows 3 RX12 d := hC
  show UW C 3 μ 0 [(0, .ref (gad (cG C) k0)), (1, .int a1), (2, .int a2)] []
  have jb33 : ∀ (μ_33 : Mem), f_X12_knows_j33 μ_33 k0 a1 a2 = some r → UW C 3 μ_33 33 [(0, .ref (gad (cG C) k0))] [] := by
    intro μ_33 h
    unfold f_X12_knows_j33 at h
    refine u_aload_n (pc := 33) hC dX12_knows_33 rfl 0 rfl ?_
    refine u_iconst (pc := 34) hC ic_1 dX12_knows_34 ?_
    obtain ⟨p35, q35, h⟩ := of_bd h
    refine k_RX12_119 (pc := 35) hC (av := [.int (1 : Int32)]) (rest := []) (c_X12_finds (d := d - 1) (by omega) hk0 q35) (by omega) (Nat.le_of_ble_eq_true rfl) hk0 rfl rfl dX12_knows_35 ?_
    obtain rfl := Option.some.inj h
    exact u_iret (pc := 38) hC hQ hr ⟨rfl, rfl⟩ dX12_knows_38
  unfold f_X12_knows at h
  refine u_iload_n (pc := 0) hC dX12_knows_0 rfl 1 rfl ?_
  refine u_i2l (pc := 1) hC dX12_knows_1 ?_
  refine u_lconst (pc := 2) hC (v := (0 : Int64)) rfl dX12_knows_2 ?_
  refine u_ldc2 (pc := 3) hC (v := (4 : Int64)) mQ_RX12_268 dX12_knows_3 ?_
  obtain ⟨r6, q6, h⟩ := of_bd h
  refine k_RX12_57 (pc := 6) hC (av := [.long a1.toInt64, .long (0 : Int64), .long (4 : Int64)]) (rest := []) (c_X12_in (d := d - 1) (by omega)  q6) (by omega) (Nat.le_of_ble_eq_true rfl) rfl rfl dX12_knows_6 ?_
  refine u_if_eq (pc := 9) hC (tgt := 33) dX12_knows_9 (by decide) (fun c9 => ?_) (fun c9 => ?_)
  · replace h := of_t c9 h
    refine u_sub [0] rfl ?_
    exact jb33 μ h
  · replace h := of_f c9 h
    refine u_iload_n (pc := 12) hC dX12_knows_12 rfl 2 rfl ?_
    refine u_i2l (pc := 13) hC dX12_knows_13 ?_
    refine u_lconst (pc := 14) hC (v := (0 : Int64)) rfl dX12_knows_14 ?_
    refine u_ldc2 (pc := 15) hC (v := (999 : Int64)) mQ_RX12_208 dX12_knows_15 ?_
    obtain ⟨r18, q18, h⟩ := of_bd h
    refine k_RX12_57 (pc := 18) hC (av := [.long a2.toInt64, .long (0 : Int64), .long (999 : Int64)]) (rest := []) (c_X12_in (d := d - 1) (by omega)  q18) (by omega) (Nat.le_of_ble_eq_true rfl) rfl rfl dX12_knows_18 ?_
    refine u_if_eq (pc := 21) hC (tgt := 33) dX12_knows_21 (by decide) (fun c21 => ?_) (fun c21 => ?_)
    · replace h := of_t c21 h
      refine u_sub [0] rfl ?_
      exact jb33 μ h
    · replace h := of_f c21 h
      refine u_aload_n (pc := 24) hC dX12_knows_24 rfl 0 rfl ?_
      refine u_iload_n (pc := 25) hC dX12_knows_25 rfl 1 rfl ?_
      refine u_iload_n (pc := 26) hC dX12_knows_26 rfl 2 rfl ?_
      obtain ⟨p27, q27, h⟩ := of_bd h
      refine k_RX12_282 (pc := 27) hC (av := [.int a1, .int a2]) (rest := []) (c_X12_knownBy (d := d - 1) (by omega) hk0 q27) (by omega) (Nat.le_of_ble_eq_true rfl) hk0 rfl rfl dX12_knows_27 ?_
      refine u_goto (pc := 30) hC 38 dX12_knows_30 (by decide) ?_
      obtain rfl := Option.some.inj h
      exact u_iret (pc := 38) hC hQ hr ⟨rfl, rfl⟩ dX12_knows_38
set_option maxHeartbeats 4000000 in
set_option maxRecDepth 100000 in
theorem c_X12_common {l : Launch} {G : GG} {d : Nat} (hd : 3 ≤ d) {μ : Mem} {k0 : Nat} (hk0 : isC 12 k0) {a1 : Int32} {a2 : Int32} {r : Int32 × Mem} (h : f_X12_common μ k0 a1 a2 = some r) : CT l yX12_common cX12_common 5 (some .int) d G [.ref (gad G k0), .int a1, .int a2] μ (RK (some (.int r.1)) r.2) := by
  refine ct_start (by decide) (Nat.le_of_ble_eq_true rfl) (fun C hl1 hG1 hC hQ hr => ?_)
  subst hl1; subst hG1
  have hC : CxOK C cX12_common 5 RX12 d := hC
  show UW C 5 μ 0 [(0, .ref (gad (cG C) k0)), (1, .int a1), (2, .int a2)] []
  have lw37 : ∀ (e : (Int32 × Mem)) (s : Int32 × Int32 × Mem), lp (fun s => f_X12_common_l37 k0 a1 a2 s.1 s.2.1 s.2.2) FU s = some e → (fun (e : (Int32 × Mem)) => UW C 5 e.2 75 [(3, .int e.1)] []) e → UW C 5 s.2.2 37 [(0, .ref (gad (cG C) k0)), (1, .int a1), (2, .int a2), (3, .int s.1), (4, .int s.2.1)] [] := by
    intro e s hl hE0
    refine @lp_walk (Int32 × Int32 × Mem) (Int32 × Mem) (fun s => f_X12_common_l37 k0 a1 a2 s.1 s.2.1 s.2.2) (fun s => UW C 5 s.2.2 37 [(0, .ref (gad (cG C) k0)), (1, .int a1), (2, .int a2), (3, .int s.1), (4, .int s.2.1)] []) (fun (e : (Int32 × Mem)) => UW C 5 e.2 75 [(3, .int e.1)] []) (fun s y37 h hP37 hE37 => ?_) FU s e hl hE0
    obtain ⟨v3_37, v4_37, μ_37⟩ := s
    replace h : f_X12_common_l37 k0 a1 a2 v3_37 v4_37 μ_37 = some y37 := h
    show UW C 5 μ_37 37 [(0, .ref (gad (cG C) k0)), (1, .int a1), (2, .int a2), (3, .int v3_37), (4, .int v4_37)] []
    unfold f_X12_common_l37 at h
    refine u_iload (pc := 37) hC dX12_common_37 4 rfl ?_
    refine u_iconst (pc := 39) hC ic_5 dX12_common_39 ?_
    refine u_icmp_ge (pc := 40) hC (tgt := 75) dX12_common_40 (by decide) (fun c40 => ?_) (fun c40 => ?_)
    · replace h := of_t c40 h
      obtain rfl := Option.some.inj h
      refine u_sub [3] rfl ?_
      exact hE37 (v3_37, μ_37) rfl
    · replace h := of_f c40 h
      refine u_iload_n (pc := 43) hC dX12_common_43 rfl 3 rfl ?_
      refine u_iload_n (pc := 44) hC dX12_common_44 rfl 1 rfl ?_
      refine u_iload (pc := 45) hC dX12_common_45 4 rfl ?_
      refine u_ishr (pc := 47) hC dX12_common_47 ?_
      refine u_iconst (pc := 48) hC ic_1 dX12_common_48 ?_
      refine u_iand (pc := 49) hC dX12_common_49 ?_
      refine u_iconst (pc := 50) hC ic_1 dX12_common_50 ?_
      refine u_icmp_ne (pc := 51) hC (tgt := 64) dX12_common_51 (by decide) (fun c51 => ?_) (fun c51 => ?_)
      · replace h := of_t c51 h
        refine u_sipush (pc := 64) hC sc_255 dX12_common_64 ?_
        refine u_iand (pc := 67) hC dX12_common_67 ?_
        refine u_istore_n (pc := 68) hC dX12_common_68 rfl [(3, .int (v3_37 &&& (255 : Int32))), (0, .ref (gad (cG C) k0)), (1, .int a1), (2, .int a2), (4, .int v4_37)] (by decide) rfl ?_
        refine u_iinc (pc := 69) hC dX12_common_69 4 rfl (v4_37 + 1) rfl [(4, .int (v4_37 + 1)), (3, .int (v3_37 &&& (255 : Int32))), (0, .ref (gad (cG C) k0)), (1, .int a1), (2, .int a2)] (by decide) rfl ?_
        refine u_goto (pc := 72) hC 37 dX12_common_72 (by decide) ?_
        obtain rfl := Option.some.inj h
        refine u_sub [2, 3, 4, 1, 0] rfl ?_
        exact hP37 (v3_37 &&& (255 : Int32), v4_37 + 1, μ_37) rfl
      · replace h := of_f (fun q => q c51) h
        refine u_aload_n (pc := 54) hC dX12_common_54 rfl 0 rfl ?_
        refine u_iload (pc := 55) hC dX12_common_55 4 rfl ?_
        refine u_iload_n (pc := 57) hC dX12_common_57 rfl 2 rfl ?_
        obtain ⟨p58, q58, h⟩ := of_bd h
        refine k_RX12_282 (pc := 58) hC (av := [.int v4_37, .int a2]) (rest := [.int v3_37]) (c_X12_knownBy (d := d - 1) (by omega) hk0 q58) (by omega) (Nat.le_of_ble_eq_true rfl) hk0 rfl rfl dX12_common_58 ?_
        refine u_goto (pc := 61) hC 67 dX12_common_61 (by decide) ?_
        refine u_iand (pc := 67) hC dX12_common_67 ?_
        refine u_istore_n (pc := 68) hC dX12_common_68 rfl [(3, .int (v3_37 &&& p58.1)), (0, .ref (gad (cG C) k0)), (1, .int a1), (2, .int a2), (4, .int v4_37)] (by decide) rfl ?_
        refine u_iinc (pc := 69) hC dX12_common_69 4 rfl (v4_37 + 1) rfl [(4, .int (v4_37 + 1)), (3, .int (v3_37 &&& p58.1)), (0, .ref (gad (cG C) k0)), (1, .int a1), (2, .int a2)] (by decide) rfl ?_
        refine u_goto (pc := 72) hC 37 dX12_common_72 (by decide) ?_
        obtain rfl := Option.some.inj h
        refine u_sub [2, 3, 4, 1, 0] rfl ?_
        exact hP37 (v3_37 &&& p58.1, v4_37 + 1, p58.2) rfl
  have jb24 : ∀ (μ_24 : Mem), f_X12_common_j24 μ_24 k0 a1 a2 = some r → UW C 5 μ_24 24 [(0, .ref (gad (cG C) k0))] [] := by
    intro μ_24 h
    unfold f_X12_common_j24 at h
    refine u_aload_n (pc := 24) hC dX12_common_24 rfl 0 rfl ?_
    refine u_iconst (pc := 25) hC ic_1 dX12_common_25 ?_
    obtain ⟨p26, q26, h⟩ := of_bd h
    refine k_RX12_119 (pc := 26) hC (av := [.int (1 : Int32)]) (rest := []) (c_X12_finds (d := d - 1) (by omega) hk0 q26) (by omega) (Nat.le_of_ble_eq_true rfl) hk0 rfl rfl dX12_common_26 ?_
    obtain rfl := Option.some.inj h
    exact u_iret (pc := 29) hC hQ hr ⟨rfl, rfl⟩ dX12_common_29
  unfold f_X12_common at h
  refine u_iload_n (pc := 0) hC dX12_common_0 rfl 1 rfl ?_
  refine u_i2l (pc := 1) hC dX12_common_1 ?_
  refine u_lconst (pc := 2) hC (v := (1 : Int64)) rfl dX12_common_2 ?_
  refine u_ldc2 (pc := 3) hC (v := (31 : Int64)) mQ_RX12_135 dX12_common_3 ?_
  obtain ⟨r6, q6, h⟩ := of_bd h
  refine k_RX12_57 (pc := 6) hC (av := [.long a1.toInt64, .long (1 : Int64), .long (31 : Int64)]) (rest := []) (c_X12_in (d := d - 1) (by omega)  q6) (by omega) (Nat.le_of_ble_eq_true rfl) rfl rfl dX12_common_6 ?_
  refine u_if_eq (pc := 9) hC (tgt := 24) dX12_common_9 (by decide) (fun c9 => ?_) (fun c9 => ?_)
  · replace h := of_t c9 h
    refine u_sub [0] rfl ?_
    exact jb24 μ h
  · replace h := of_f c9 h
    refine u_iload_n (pc := 12) hC dX12_common_12 rfl 2 rfl ?_
    refine u_i2l (pc := 13) hC dX12_common_13 ?_
    refine u_lconst (pc := 14) hC (v := (0 : Int64)) rfl dX12_common_14 ?_
    refine u_ldc2 (pc := 15) hC (v := (999 : Int64)) mQ_RX12_208 dX12_common_15 ?_
    obtain ⟨r18, q18, h⟩ := of_bd h
    refine k_RX12_57 (pc := 18) hC (av := [.long a2.toInt64, .long (0 : Int64), .long (999 : Int64)]) (rest := []) (c_X12_in (d := d - 1) (by omega)  q18) (by omega) (Nat.le_of_ble_eq_true rfl) rfl rfl dX12_common_18 ?_
    refine u_if_ne (pc := 21) hC (tgt := 30) dX12_common_21 (by decide) (fun c21 => ?_) (fun c21 => ?_)
    · replace h := of_t c21 h
      refine u_sipush (pc := 30) hC sc_255 dX12_common_30 ?_
      refine u_istore_n (pc := 33) hC dX12_common_33 rfl [(3, .int (255 : Int32)), (0, .ref (gad (cG C) k0)), (1, .int a1), (2, .int a2)] (by decide) rfl ?_
      refine u_iconst (pc := 34) hC ic_0 dX12_common_34 ?_
      refine u_istore (pc := 35) hC dX12_common_35 [(4, .int (0 : Int32)), (3, .int (255 : Int32)), (0, .ref (gad (cG C) k0)), (1, .int a1), (2, .int a2)] (by decide) rfl ?_
      obtain ⟨e37, l37, h⟩ := of_bd h
      refine u_sub [2, 3, 4, 1, 0] rfl ?_
      refine lw37  e37 ((255 : Int32), (0 : Int32), μ) l37 ?_
      show UW C 5 e37.2 75 [(3, .int e37.1)] []
      refine u_iload_n (pc := 75) hC dX12_common_75 rfl 0 rfl ?_
      obtain rfl := Option.some.inj h
      exact u_iret (pc := 76) hC hQ hr ⟨rfl, rfl⟩ dX12_common_76
    · replace h := of_f (fun q => q c21) h
      refine u_sub [0] rfl ?_
      exact jb24 μ h
set_option maxHeartbeats 4000000 in
set_option maxRecDepth 100000 in
theorem c_X12_since {l : Launch} {G : GG} {d : Nat} (hd : 3 ≤ d) {μ : Mem} {k0 : Nat} (hk0 : isC 12 k0) {a1 : Int32} {a2 : Int32} {r : Int32 × Mem} (h : f_X12_since μ k0 a1 a2 = some r) : CT l yX12_since cX12_since 4 (some .int) d G [.ref (gad G k0), .int a1, .int a2] μ (RK (some (.int r.1)) r.2) := by
  refine ct_start (by decide) (Nat.le_of_ble_eq_true rfl) (fun C hl1 hG1 hC hQ hr => ?_)
  subst hl1; subst hG1
  have hC : CxOK C cX12_since 4 RX12 d := hC
  show UW C 4 μ 0 [(0, .ref (gad (cG C) k0)), (1, .int a1), (2, .int a2)] []
  have lw28 : ∀ (e : ((Int32 × Mem) ⊕ (Mem))) (s : Int32 × Mem), lp (fun s => f_X12_since_l28 k0 a1 a2 s.1 s.2) FU s = some e → (Sum.elim (fun (e : (Int32 × Mem)) => UW C 4 e.2 49 [(3, .int e.1)] []) (fun (e : (Mem)) => UW C 4 e 57 [(0, .ref (gad (cG C) k0))] [])) e → UW C 4 s.2 28 [(0, .ref (gad (cG C) k0)), (1, .int a1), (2, .int a2), (3, .int s.1)] [] := by
    intro e s hl hE0
    refine @lp_walk (Int32 × Mem) ((Int32 × Mem) ⊕ (Mem)) (fun s => f_X12_since_l28 k0 a1 a2 s.1 s.2) (fun s => UW C 4 s.2 28 [(0, .ref (gad (cG C) k0)), (1, .int a1), (2, .int a2), (3, .int s.1)] []) (Sum.elim (fun (e : (Int32 × Mem)) => UW C 4 e.2 49 [(3, .int e.1)] []) (fun (e : (Mem)) => UW C 4 e 57 [(0, .ref (gad (cG C) k0))] [])) (fun s y28 h hP28 hE28 => ?_) FU s e hl hE0
    obtain ⟨v3_28, μ_28⟩ := s
    replace h : f_X12_since_l28 k0 a1 a2 v3_28 μ_28 = some y28 := h
    show UW C 4 μ_28 28 [(0, .ref (gad (cG C) k0)), (1, .int a1), (2, .int a2), (3, .int v3_28)] []
    unfold f_X12_since_l28 at h
    refine u_iload_n (pc := 28) hC dX12_since_28 rfl 3 rfl ?_
    refine u_sipush (pc := 29) hC sc_999 dX12_since_29 ?_
    refine u_icmp_gt (pc := 32) hC (tgt := 57) dX12_since_32 (by decide) (fun c32 => ?_) (fun c32 => ?_)
    · replace h := of_t c32 h
      obtain rfl := Option.some.inj h
      refine u_sub [0] rfl ?_
      exact hE28 (.inr μ_28) rfl
    · replace h := of_f c32 h
      refine u_aload_n (pc := 35) hC dX12_since_35 rfl 0 rfl ?_
      refine u_iload_n (pc := 36) hC dX12_since_36 rfl 1 rfl ?_
      refine u_iload_n (pc := 37) hC dX12_since_37 rfl 3 rfl ?_
      obtain ⟨p38, q38, h⟩ := of_bd h
      refine k_RX12_282 (pc := 38) hC (av := [.int a1, .int v3_28]) (rest := []) (c_X12_knownBy (d := d - 1) (by omega) hk0 q38) (by omega) (Nat.le_of_ble_eq_true rfl) hk0 rfl rfl dX12_since_38 ?_
      refine u_iload_n (pc := 41) hC dX12_since_41 rfl 2 rfl ?_
      refine u_ishr (pc := 42) hC dX12_since_42 ?_
      refine u_iconst (pc := 43) hC ic_1 dX12_since_43 ?_
      refine u_iand (pc := 44) hC dX12_since_44 ?_
      refine u_iconst (pc := 45) hC ic_1 dX12_since_45 ?_
      refine u_icmp_ne (pc := 46) hC (tgt := 51) dX12_since_46 (by decide) (fun c46 => ?_) (fun c46 => ?_)
      · replace h := of_t c46 h
        refine u_iinc (pc := 51) hC dX12_since_51 3 rfl (v3_28 + 1) rfl [(3, .int (v3_28 + 1)), (0, .ref (gad (cG C) k0)), (1, .int a1), (2, .int a2)] (by decide) rfl ?_
        refine u_goto (pc := 54) hC 28 dX12_since_54 (by decide) ?_
        obtain rfl := Option.some.inj h
        refine u_sub [1, 2, 3, 0] rfl ?_
        exact hP28 (v3_28 + 1, p38.2) rfl
      · replace h := of_f (fun q => q c46) h
        obtain rfl := Option.some.inj h
        refine u_sub [3] rfl ?_
        exact hE28 (.inl (v3_28, p38.2)) rfl
  have jb20 : ∀ (μ_20 : Mem), f_X12_since_j20 μ_20 k0 a1 a2 = some r → UW C 4 μ_20 20 [(0, .ref (gad (cG C) k0))] [] := by
    intro μ_20 h
    unfold f_X12_since_j20 at h
    refine u_aload_n (pc := 20) hC dX12_since_20 rfl 0 rfl ?_
    refine u_iconst (pc := 21) hC ic_1 dX12_since_21 ?_
    obtain ⟨p22, q22, h⟩ := of_bd h
    refine k_RX12_119 (pc := 22) hC (av := [.int (1 : Int32)]) (rest := []) (c_X12_finds (d := d - 1) (by omega) hk0 q22) (by omega) (Nat.le_of_ble_eq_true rfl) hk0 rfl rfl dX12_since_22 ?_
    obtain rfl := Option.some.inj h
    exact u_iret (pc := 25) hC hQ hr ⟨rfl, rfl⟩ dX12_since_25
  unfold f_X12_since at h
  refine u_iload_n (pc := 0) hC dX12_since_0 rfl 1 rfl ?_
  refine u_i2l (pc := 1) hC dX12_since_1 ?_
  refine u_lconst (pc := 2) hC (v := (0 : Int64)) rfl dX12_since_2 ?_
  refine u_ldc2 (pc := 3) hC (v := (4 : Int64)) mQ_RX12_268 dX12_since_3 ?_
  obtain ⟨r6, q6, h⟩ := of_bd h
  refine k_RX12_57 (pc := 6) hC (av := [.long a1.toInt64, .long (0 : Int64), .long (4 : Int64)]) (rest := []) (c_X12_in (d := d - 1) (by omega)  q6) (by omega) (Nat.le_of_ble_eq_true rfl) rfl rfl dX12_since_6 ?_
  refine u_if_eq (pc := 9) hC (tgt := 20) dX12_since_9 (by decide) (fun c9 => ?_) (fun c9 => ?_)
  · replace h := of_t c9 h
    refine u_sub [0] rfl ?_
    exact jb20 μ h
  · replace h := of_f c9 h
    refine u_aload_n (pc := 12) hC dX12_since_12 rfl 0 rfl ?_
    refine u_iload_n (pc := 13) hC dX12_since_13 rfl 2 rfl ?_
    obtain ⟨r14, q14, h⟩ := of_bd h
    refine k_RX12_141 (pc := 14) hC (av := [.int a2]) (rest := []) (c_X12_isFact (d := d - 1) (by omega) hk0 q14) (by omega) (Nat.le_of_ble_eq_true rfl) hk0 rfl rfl dX12_since_14 ?_
    refine u_if_ne (pc := 17) hC (tgt := 26) dX12_since_17 (by decide) (fun c17 => ?_) (fun c17 => ?_)
    · replace h := of_t c17 h
      refine u_iconst (pc := 26) hC ic_0 dX12_since_26 ?_
      refine u_istore_n (pc := 27) hC dX12_since_27 rfl [(3, .int (0 : Int32)), (0, .ref (gad (cG C) k0)), (1, .int a1), (2, .int a2)] (by decide) rfl ?_
      obtain ⟨e28, l28, h⟩ := of_bd h
      refine u_sub [1, 2, 3, 0] rfl ?_
      refine lw28  e28 ((0 : Int32), μ) l28 ?_
      rcases e28 with e28 | e28
      · replace h := of_el h
        show UW C 4 e28.2 49 [(3, .int e28.1)] []
        refine u_iload_n (pc := 49) hC dX12_since_49 rfl 0 rfl ?_
        obtain rfl := Option.some.inj h
        exact u_iret (pc := 50) hC hQ hr ⟨rfl, rfl⟩ dX12_since_50
      · replace h := of_er h
        show UW C 4 e28 57 [(0, .ref (gad (cG C) k0))] []
        refine u_aload_n (pc := 57) hC dX12_since_57 rfl 0 rfl ?_
        refine u_iconst (pc := 58) hC ic_2 dX12_since_58 ?_
        obtain ⟨p59, q59, h⟩ := of_bd h
        refine k_RX12_119 (pc := 59) hC (av := [.int (2 : Int32)]) (rest := []) (c_X12_finds (d := d - 1) (by omega) hk0 q59) (by omega) (Nat.le_of_ble_eq_true rfl) hk0 rfl rfl dX12_since_59 ?_
        obtain rfl := Option.some.inj h
        exact u_iret (pc := 62) hC hQ hr ⟨rfl, rfl⟩ dX12_since_62
    · replace h := of_f (fun q => q c17) h
      refine u_sub [0] rfl ?_
      exact jb20 μ h
set_option maxHeartbeats 4000000 in
set_option maxRecDepth 100000 in
theorem c_X12_seed {l : Launch} {G : GG} {d : Nat} (hd : 0 ≤ d) {μ : Mem} {k0 : Nat} (hk0 : isC 12 k0) {a1 : Int32} {r : Int32 × Mem} (h : f_X12_seed μ k0 a1 = some r) : CT l yX12_seed cX12_seed 3 (some .int) d G [.ref (gad G k0), .int a1] μ (RK (some (.int r.1)) r.2) := by
  refine ct_start (by decide) (Nat.le_of_ble_eq_true rfl) (fun C hl1 hG1 hC hQ hr => ?_)
  subst hl1; subst hG1
  have hC : CxOK C cX12_seed 3 RX12 d := hC
  show UW C 3 μ 0 [(0, .ref (gad (cG C) k0)), (1, .int a1)] []
  unfold f_X12_seed at h
  refine u_aload_n (pc := 0) hC dX12_seed_0 rfl 0 rfl ?_
  refine g_RX12_7 (pc := 1) hC hk0 dX12_seed_1 ?_
  refine u_iconst (pc := 4) hC ic_4 dX12_seed_4 ?_
  refine u_iald (pc := 5) hC (rs_12_0 hk0) 342 (rn_12_0 hk0) (by decide) dX12_seed_5 ?_
  refine u_istore_n (pc := 6) hC dX12_seed_6 rfl [(2, .int (rd μ (rf k0 0) (4 : Int32).toNatClampNeg)), (0, .ref (gad (cG C) k0)), (1, .int a1)] (by decide) rfl ?_
  refine u_aload_n (pc := 7) hC dX12_seed_7 rfl 1 rfl ?_
  refine g_RX12_7 (pc := 8) hC hk0 dX12_seed_8 ?_
  refine u_iconst (pc := 11) hC ic_4 dX12_seed_11 ?_
  refine u_iload_n (pc := 12) hC dX12_seed_12 rfl 2 rfl ?_
  obtain ⟨m13, q13, h⟩ := of_bd h
  refine u_iast (pc := 13) hC (rs_12_0 hk0) 342 (rn_12_0 hk0) (by decide) dX12_seed_13 (Option.some.inj q13) ?_
  refine u_iload_n (pc := 14) hC dX12_seed_14 rfl 0 rfl ?_
  obtain rfl := Option.some.inj h
  exact u_iret (pc := 15) hC hQ hr ⟨rfl, rfl⟩ dX12_seed_15
set_option maxHeartbeats 4000000 in
set_option maxRecDepth 100000 in
theorem c_X12_ran {l : Launch} {G : GG} {d : Nat} (hd : 0 ≤ d) {μ : Mem} {k0 : Nat} (hk0 : isC 12 k0) {a1 : Int32} {r : Mem} (h : f_X12_ran μ k0 a1 = some r) : CT l yX12_ran cX12_ran 2 none d G [.ref (gad G k0), .int a1] μ (RK none r) := by
  refine ct_start (by decide) (Nat.le_of_ble_eq_true rfl) (fun C hl1 hG1 hC hQ hr => ?_)
  subst hl1; subst hG1
  have hC : CxOK C cX12_ran 2 RX12 d := hC
  show UW C 2 μ 0 [(0, .ref (gad (cG C) k0)), (1, .int a1)] []
  unfold f_X12_ran at h
  refine u_aload_n (pc := 0) hC dX12_ran_0 rfl 0 rfl ?_
  refine g_RX12_285 (pc := 1) hC hk0 dX12_ran_1 ?_
  refine u_bipush (pc := 4) hC bc_40 dX12_ran_4 ?_
  refine u_icmp_ge (pc := 6) hC (tgt := 29) dX12_ran_6 (by decide) (fun c6 => ?_) (fun c6 => ?_)
  · replace h := of_t c6 h
    obtain rfl := Option.some.inj h
    exact u_vret (pc := 29) hC hQ hr ⟨rfl, rfl⟩ dX12_ran_29
  · replace h := of_f c6 h
    refine u_aload_n (pc := 9) hC dX12_ran_9 rfl 0 rfl ?_
    refine g_RX12_41 (pc := 10) hC hk0 dX12_ran_10 ?_
    refine u_aload_n (pc := 13) hC dX12_ran_13 rfl 0 rfl ?_
    refine g_RX12_285 (pc := 14) hC hk0 dX12_ran_14 ?_
    refine u_iload_n (pc := 17) hC dX12_ran_17 rfl 1 rfl ?_
    obtain ⟨b18, h⟩ := of_gd h
    obtain ⟨m18, q18, h⟩ := of_bd h
    refine u_iast (pc := 18) hC (rs_12_19 hk0) 40 (rn_12_19 hk0) b18 dX12_ran_18 (Option.some.inj q18) ?_
    refine u_aload_n (pc := 19) hC dX12_ran_19 rfl 0 rfl ?_
    refine u_dup (pc := 20) hC rfl dX12_ran_20 ?_
    refine g_RX12_285 (pc := 21) hC hk0 dX12_ran_21 ?_
    refine u_iconst (pc := 24) hC ic_1 dX12_ran_24 ?_
    refine u_iadd (pc := 25) hC dX12_ran_25 ?_
    obtain ⟨m26, q26, h⟩ := of_bd h
    refine p_RX12_285 (pc := 26) hC hk0 dX12_ran_26 (Option.some.inj q26) ?_
    obtain rfl := Option.some.inj h
    exact u_vret (pc := 29) hC hQ hr ⟨rfl, rfl⟩ dX12_ran_29
set_option maxHeartbeats 4000000 in
set_option maxRecDepth 100000 in
theorem c_X12_own {l : Launch} {G : GG} {d : Nat} (hd : 1 ≤ d) {μ : Mem} {k0 : Nat} (hk0 : isC 12 k0) {r : Int32} (h : f_X12_own μ k0 = some r) : CT l yX12_own cX12_own 1 (some .int) d G [.ref (gad G k0)] μ (RK (some (.int r)) μ) := by
  refine ct_start (by decide) (Nat.le_of_ble_eq_true rfl) (fun C hl1 hG1 hC hQ hr => ?_)
  subst hl1; subst hG1
  have hC : CxOK C cX12_own 1 RX12 d := hC
  show UW C 1 μ 0 [(0, .ref (gad (cG C) k0))] []
  unfold f_X12_own at h
  refine u_aload_n (pc := 0) hC dX12_own_0 rfl 0 rfl ?_
  refine u_aload_n (pc := 1) hC dX12_own_1 rfl 0 rfl ?_
  refine g_RX12_288 (pc := 2) hC hk0 dX12_own_2 ?_
  refine u_iconst (pc := 5) hC ic_0 dX12_own_5 ?_
  obtain ⟨r6, q6, h⟩ := of_bd h
  refine k_RX12_150 (pc := 6) hC (av := [.int (rd μ k0 21), .int (0 : Int32)]) (rest := []) (c_X12_of (d := d - 1) (by omega) hk0 q6) (by omega) (Nat.le_of_ble_eq_true rfl) hk0 rfl rfl dX12_own_6 ?_
  obtain rfl := Option.some.inj h
  exact u_iret (pc := 9) hC hQ hr ⟨rfl, rfl⟩ dX12_own_9
set_option maxHeartbeats 4000000 in
set_option maxRecDepth 100000 in
theorem w_X12_owesBy (g_X12_owesBy : Mem → Nat → Int32 → Int32 → Option (Int32 × Mem)) {n : Nat} (ih_X12_owesBy : ∀ {l : Launch} {G : GG} {d : Nat} (hd : n + 1 ≤ d) {μ : Mem} {k0 : Nat} (hk0 : isC 12 k0) {a1 : Int32} {a2 : Int32} {r : Int32 × Mem} (h : g_X12_owesBy μ k0 a1 a2 = some r), CT l yX12_owesBy cX12_owesBy 3 (some .int) d G [.ref (gad G k0), .int a1, .int a2] μ (RK (some (.int r.1)) r.2)) {l : Launch} {G : GG} {d : Nat} (hd : n + 1 + 1 ≤ d) {μ : Mem} {k0 : Nat} (hk0 : isC 12 k0) {a1 : Int32} {a2 : Int32} {r : Int32 × Mem} (h : F_X12_owesBy g_X12_owesBy μ k0 a1 a2 = some r) : CT l yX12_owesBy cX12_owesBy 3 (some .int) d G [.ref (gad G k0), .int a1, .int a2] μ (RK (some (.int r.1)) r.2) := by
  refine ct_start (by decide) (Nat.le_of_ble_eq_true rfl) (fun C hl1 hG1 hC hQ hr => ?_)
  subst hl1; subst hG1
  have hC : CxOK C cX12_owesBy 3 RX12 d := hC
  show UW C 3 μ 0 [(0, .ref (gad (cG C) k0)), (1, .int a1), (2, .int a2)] []
  unfold F_X12_owesBy at h
  refine u_iload_n (pc := 0) hC dX12_owesBy_0 rfl 1 rfl ?_
  by_cases c1_0 : a1 = 0
  · replace h := of_t c1_0 h
    refine u_lookEq (pc := 1) hC dX12_owesBy_1 (0 : Int32) c1_0 (off := 27) 28 (by decide) (by decide) (by decide) ?_
    refine u_aload_n (pc := 28) hC dX12_owesBy_28 rfl 0 rfl ?_
    refine u_bipush (pc := 29) hC bc_10 dX12_owesBy_29 ?_
    obtain ⟨μ31, q31, h⟩ := of_bd h
    refine k_RX12_291 (pc := 31) hC (av := [.int (10 : Int32)]) (rest := []) (c_X12_ran (d := d - 1) (by omega) hk0 q31) (by omega) (Nat.le_of_ble_eq_true rfl) hk0 rfl rfl dX12_owesBy_31 ?_
    refine u_iload_n (pc := 34) hC dX12_owesBy_34 rfl 2 rfl ?_
    refine u_aload_n (pc := 35) hC dX12_owesBy_35 rfl 0 rfl ?_
    refine g_RX12_288 (pc := 36) hC hk0 dX12_owesBy_36 ?_
    refine u_iadd (pc := 39) hC dX12_owesBy_39 ?_
    obtain rfl := Option.some.inj h
    exact u_iret (pc := 40) hC hQ hr ⟨rfl, rfl⟩ dX12_owesBy_40
  replace h := of_f c1_0 h
  by_cases c1_1 : a1 = 2
  · replace h := of_t c1_1 h
    refine u_lookEq (pc := 1) hC dX12_owesBy_1 (2 : Int32) c1_1 (off := 40) 41 (by decide) (by decide) (by decide) ?_
    refine u_aload_n (pc := 41) hC dX12_owesBy_41 rfl 0 rfl ?_
    refine u_bipush (pc := 42) hC bc_30 dX12_owesBy_42 ?_
    obtain ⟨μ44, q44, h⟩ := of_bd h
    refine k_RX12_291 (pc := 44) hC (av := [.int (30 : Int32)]) (rest := []) (c_X12_ran (d := d - 1) (by omega) hk0 q44) (by omega) (Nat.le_of_ble_eq_true rfl) hk0 rfl rfl dX12_owesBy_44 ?_
    refine u_aload_n (pc := 47) hC dX12_owesBy_47 rfl 0 rfl ?_
    refine u_iconst (pc := 48) hC ic_2 dX12_owesBy_48 ?_
    obtain ⟨r49, q49, h⟩ := of_bd h
    refine k_RX12_205 (pc := 49) hC (av := [.int (2 : Int32)]) (rest := [.ref (gad (cG C) k0)]) (c_X12_above (d := d - 1) (by omega)  q49) (by omega) (Nat.le_of_ble_eq_true rfl) rfl rfl dX12_owesBy_49 ?_
    refine u_iload_n (pc := 52) hC dX12_owesBy_52 rfl 2 rfl ?_
    obtain ⟨p53, q53, h⟩ := of_bd h
    refine k_RX12_294 (pc := 53) hC (av := [.int r49, .int a2]) (rest := []) (ih_X12_owesBy (d := d - 1) (by omega) hk0 q53) (by omega) (Nat.le_of_ble_eq_true rfl) hk0 rfl rfl dX12_owesBy_53 ?_
    refine u_iconst (pc := 56) hC ic_3 dX12_owesBy_56 ?_
    refine u_imul (pc := 57) hC dX12_owesBy_57 ?_
    obtain rfl := Option.some.inj h
    exact u_iret (pc := 58) hC hQ hr ⟨rfl, rfl⟩ dX12_owesBy_58
  replace h := of_f c1_1 h
  refine u_lookDf (pc := 1) hC dX12_owesBy_1 [(0 : Int32), (2 : Int32)] (List.forall_mem_cons.mpr ⟨c1_0, List.forall_mem_cons.mpr ⟨c1_1, (fun _ q => absurd q List.not_mem_nil)⟩⟩) (by decide) 59 (by decide) (by decide) ?_
  refine u_aload_n (pc := 59) hC dX12_owesBy_59 rfl 0 rfl ?_
  refine u_iload_n (pc := 60) hC dX12_owesBy_60 rfl 1 rfl ?_
  obtain ⟨r61, q61, h⟩ := of_bd h
  refine k_RX12_205 (pc := 61) hC (av := [.int a1]) (rest := [.ref (gad (cG C) k0)]) (c_X12_above (d := d - 1) (by omega)  q61) (by omega) (Nat.le_of_ble_eq_true rfl) rfl rfl dX12_owesBy_61 ?_
  refine u_iload_n (pc := 64) hC dX12_owesBy_64 rfl 2 rfl ?_
  obtain ⟨p65, q65, h⟩ := of_bd h
  refine k_RX12_294 (pc := 65) hC (av := [.int r61, .int a2]) (rest := []) (ih_X12_owesBy (d := d - 1) (by omega) hk0 q65) (by omega) (Nat.le_of_ble_eq_true rfl) hk0 rfl rfl dX12_owesBy_65 ?_
  obtain rfl := Option.some.inj h
  exact u_iret (pc := 68) hC hQ hr ⟨rfl, rfl⟩ dX12_owesBy_68
set_option maxHeartbeats 4000000 in
set_option maxRecDepth 100000 in
theorem c_grp_X12_owesBy (n : Nat) : (∀ {l : Launch} {G : GG} {d : Nat} (hd : n + 1 ≤ d) {μ : Mem} {k0 : Nat} (hk0 : isC 12 k0) {a1 : Int32} {a2 : Int32} {r : Int32 × Mem} (h : f_X12_owesBy n μ k0 a1 a2 = some r), CT l yX12_owesBy cX12_owesBy 3 (some .int) d G [.ref (gad G k0), .int a1, .int a2] μ (RK (some (.int r.1)) r.2)) := by
  induction n with
  | zero => exact (by intro l G d hd μ k0 hk0 a1 a2 r h; exact absurd (show (none : Option (Int32 × Mem)) = some r from h) (by simp))
  | succ n ih => exact (by intro l G d hd μ k0 hk0 a1 a2 r h; exact w_X12_owesBy (f_X12_owesBy n) ih (by omega) hk0 h)
theorem c_X12_owesBy {n : Nat} {l : Launch} {G : GG} {d : Nat} (hd : n + 1 ≤ d) {μ : Mem} {k0 : Nat} (hk0 : isC 12 k0) {a1 : Int32} {a2 : Int32} {r : Int32 × Mem} (h : f_X12_owesBy n μ k0 a1 a2 = some r) : CT l yX12_owesBy cX12_owesBy 3 (some .int) d G [.ref (gad G k0), .int a1, .int a2] μ (RK (some (.int r.1)) r.2) := (c_grp_X12_owesBy n) hd hk0 h
set_option maxHeartbeats 4000000 in
set_option maxRecDepth 100000 in
theorem w_X12_readsBy (g_X12_readsBy : Mem → Nat → Int32 → Int32 → Option (Int32 × Mem)) {n : Nat} (ih_X12_readsBy : ∀ {l : Launch} {G : GG} {d : Nat} (hd : n + 1 ≤ d) {μ : Mem} {k0 : Nat} (hk0 : isC 12 k0) {a1 : Int32} {a2 : Int32} {r : Int32 × Mem} (h : g_X12_readsBy μ k0 a1 a2 = some r), CT l yX12_readsBy cX12_readsBy 3 (some .int) d G [.ref (gad G k0), .int a1, .int a2] μ (RK (some (.int r.1)) r.2)) {l : Launch} {G : GG} {d : Nat} (hd : n + 1 + 1 ≤ d) {μ : Mem} {k0 : Nat} (hk0 : isC 12 k0) {a1 : Int32} {a2 : Int32} {r : Int32 × Mem} (h : F_X12_readsBy g_X12_readsBy μ k0 a1 a2 = some r) : CT l yX12_readsBy cX12_readsBy 3 (some .int) d G [.ref (gad G k0), .int a1, .int a2] μ (RK (some (.int r.1)) r.2) := by
  refine ct_start (by decide) (Nat.le_of_ble_eq_true rfl) (fun C hl1 hG1 hC hQ hr => ?_)
  subst hl1; subst hG1
  have hC : CxOK C cX12_readsBy 3 RX12 d := hC
  show UW C 3 μ 0 [(0, .ref (gad (cG C) k0)), (1, .int a1), (2, .int a2)] []
  unfold F_X12_readsBy at h
  refine u_iload_n (pc := 0) hC dX12_readsBy_0 rfl 1 rfl ?_
  by_cases c1_0 : a1 = 0
  · replace h := of_t c1_0 h
    refine u_lookEq (pc := 1) hC dX12_readsBy_1 (0 : Int32) c1_0 (off := 35) 36 (by decide) (by decide) (by decide) ?_
    refine u_aload_n (pc := 36) hC dX12_readsBy_36 rfl 0 rfl ?_
    refine u_bipush (pc := 37) hC bc_12 dX12_readsBy_37 ?_
    obtain ⟨μ39, q39, h⟩ := of_bd h
    refine k_RX12_291 (pc := 39) hC (av := [.int (12 : Int32)]) (rest := []) (c_X12_ran (d := d - 1) (by omega) hk0 q39) (by omega) (Nat.le_of_ble_eq_true rfl) hk0 rfl rfl dX12_readsBy_39 ?_
    refine u_iload_n (pc := 42) hC dX12_readsBy_42 rfl 2 rfl ?_
    refine u_aload_n (pc := 43) hC dX12_readsBy_43 rfl 0 rfl ?_
    refine u_aload_n (pc := 44) hC dX12_readsBy_44 rfl 0 rfl ?_
    refine g_RX12_288 (pc := 45) hC hk0 dX12_readsBy_45 ?_
    refine u_iconst (pc := 48) hC ic_1 dX12_readsBy_48 ?_
    obtain ⟨r49, q49, h⟩ := of_bd h
    refine k_RX12_150 (pc := 49) hC (av := [.int (rd μ39 k0 21), .int (1 : Int32)]) (rest := [.int a2]) (c_X12_of (d := d - 1) (by omega) hk0 q49) (by omega) (Nat.le_of_ble_eq_true rfl) hk0 rfl rfl dX12_readsBy_49 ?_
    refine u_isub (pc := 52) hC dX12_readsBy_52 ?_
    obtain rfl := Option.some.inj h
    exact u_iret (pc := 53) hC hQ hr ⟨rfl, rfl⟩ dX12_readsBy_53
  replace h := of_f c1_0 h
  by_cases c1_1 : a1 = 3
  · replace h := of_t c1_1 h
    refine u_lookEq (pc := 1) hC dX12_readsBy_1 (3 : Int32) c1_1 (off := 53) 54 (by decide) (by decide) (by decide) ?_
    refine u_aload_n (pc := 54) hC dX12_readsBy_54 rfl 0 rfl ?_
    refine u_bipush (pc := 55) hC bc_40 dX12_readsBy_55 ?_
    obtain ⟨μ57, q57, h⟩ := of_bd h
    refine k_RX12_291 (pc := 57) hC (av := [.int (40 : Int32)]) (rest := []) (c_X12_ran (d := d - 1) (by omega) hk0 q57) (by omega) (Nat.le_of_ble_eq_true rfl) hk0 rfl rfl dX12_readsBy_57 ?_
    refine u_aload_n (pc := 60) hC dX12_readsBy_60 rfl 0 rfl ?_
    refine u_iconst (pc := 61) hC ic_3 dX12_readsBy_61 ?_
    obtain ⟨r62, q62, h⟩ := of_bd h
    refine k_RX12_205 (pc := 62) hC (av := [.int (3 : Int32)]) (rest := [.ref (gad (cG C) k0)]) (c_X12_above (d := d - 1) (by omega)  q62) (by omega) (Nat.le_of_ble_eq_true rfl) rfl rfl dX12_readsBy_62 ?_
    refine u_iload_n (pc := 65) hC dX12_readsBy_65 rfl 2 rfl ?_
    obtain ⟨p66, q66, h⟩ := of_bd h
    refine k_RX12_303 (pc := 66) hC (av := [.int r62, .int a2]) (rest := []) (ih_X12_readsBy (d := d - 1) (by omega) hk0 q66) (by omega) (Nat.le_of_ble_eq_true rfl) hk0 rfl rfl dX12_readsBy_66 ?_
    refine u_ineg (pc := 69) hC dX12_readsBy_69 ?_
    obtain rfl := Option.some.inj h
    exact u_iret (pc := 70) hC hQ hr ⟨rfl, rfl⟩ dX12_readsBy_70
  replace h := of_f c1_1 h
  by_cases c1_2 : a1 = 6
  · replace h := of_t c1_2 h
    refine u_lookEq (pc := 1) hC dX12_readsBy_1 (6 : Int32) c1_2 (off := 70) 71 (by decide) (by decide) (by decide) ?_
    refine u_aload_n (pc := 71) hC dX12_readsBy_71 rfl 0 rfl ?_
    refine u_bipush (pc := 72) hC bc_70 dX12_readsBy_72 ?_
    obtain ⟨μ74, q74, h⟩ := of_bd h
    refine k_RX12_291 (pc := 74) hC (av := [.int (70 : Int32)]) (rest := []) (c_X12_ran (d := d - 1) (by omega) hk0 q74) (by omega) (Nat.le_of_ble_eq_true rfl) hk0 rfl rfl dX12_readsBy_74 ?_
    refine u_aload_n (pc := 77) hC dX12_readsBy_77 rfl 0 rfl ?_
    refine u_bipush (pc := 78) hC bc_6 dX12_readsBy_78 ?_
    obtain ⟨r80, q80, h⟩ := of_bd h
    refine k_RX12_205 (pc := 80) hC (av := [.int (6 : Int32)]) (rest := [.ref (gad (cG C) k0)]) (c_X12_above (d := d - 1) (by omega)  q80) (by omega) (Nat.le_of_ble_eq_true rfl) rfl rfl dX12_readsBy_80 ?_
    refine u_iload_n (pc := 83) hC dX12_readsBy_83 rfl 2 rfl ?_
    obtain ⟨p84, q84, h⟩ := of_bd h
    refine k_RX12_303 (pc := 84) hC (av := [.int r80, .int a2]) (rest := []) (ih_X12_readsBy (d := d - 1) (by omega) hk0 q84) (by omega) (Nat.le_of_ble_eq_true rfl) hk0 rfl rfl dX12_readsBy_84 ?_
    refine u_aload_n (pc := 87) hC dX12_readsBy_87 rfl 0 rfl ?_
    refine g_RX12_288 (pc := 88) hC hk0 dX12_readsBy_88 ?_
    refine u_ixor (pc := 91) hC dX12_readsBy_91 ?_
    obtain rfl := Option.some.inj h
    exact u_iret (pc := 92) hC hQ hr ⟨rfl, rfl⟩ dX12_readsBy_92
  replace h := of_f c1_2 h
  refine u_lookDf (pc := 1) hC dX12_readsBy_1 [(0 : Int32), (3 : Int32), (6 : Int32)] (List.forall_mem_cons.mpr ⟨c1_0, List.forall_mem_cons.mpr ⟨c1_1, List.forall_mem_cons.mpr ⟨c1_2, (fun _ q => absurd q List.not_mem_nil)⟩⟩⟩) (by decide) 93 (by decide) (by decide) ?_
  refine u_aload_n (pc := 93) hC dX12_readsBy_93 rfl 0 rfl ?_
  refine u_iload_n (pc := 94) hC dX12_readsBy_94 rfl 1 rfl ?_
  obtain ⟨r95, q95, h⟩ := of_bd h
  refine k_RX12_205 (pc := 95) hC (av := [.int a1]) (rest := [.ref (gad (cG C) k0)]) (c_X12_above (d := d - 1) (by omega)  q95) (by omega) (Nat.le_of_ble_eq_true rfl) rfl rfl dX12_readsBy_95 ?_
  refine u_iload_n (pc := 98) hC dX12_readsBy_98 rfl 2 rfl ?_
  obtain ⟨p99, q99, h⟩ := of_bd h
  refine k_RX12_303 (pc := 99) hC (av := [.int r95, .int a2]) (rest := []) (ih_X12_readsBy (d := d - 1) (by omega) hk0 q99) (by omega) (Nat.le_of_ble_eq_true rfl) hk0 rfl rfl dX12_readsBy_99 ?_
  obtain rfl := Option.some.inj h
  exact u_iret (pc := 102) hC hQ hr ⟨rfl, rfl⟩ dX12_readsBy_102
set_option maxHeartbeats 4000000 in
set_option maxRecDepth 100000 in
theorem c_grp_X12_readsBy (n : Nat) : (∀ {l : Launch} {G : GG} {d : Nat} (hd : n + 1 ≤ d) {μ : Mem} {k0 : Nat} (hk0 : isC 12 k0) {a1 : Int32} {a2 : Int32} {r : Int32 × Mem} (h : f_X12_readsBy n μ k0 a1 a2 = some r), CT l yX12_readsBy cX12_readsBy 3 (some .int) d G [.ref (gad G k0), .int a1, .int a2] μ (RK (some (.int r.1)) r.2)) := by
  induction n with
  | zero => exact (by intro l G d hd μ k0 hk0 a1 a2 r h; exact absurd (show (none : Option (Int32 × Mem)) = some r from h) (by simp))
  | succ n ih => exact (by intro l G d hd μ k0 hk0 a1 a2 r h; exact w_X12_readsBy (f_X12_readsBy n) ih (by omega) hk0 h)
theorem c_X12_readsBy {n : Nat} {l : Launch} {G : GG} {d : Nat} (hd : n + 1 ≤ d) {μ : Mem} {k0 : Nat} (hk0 : isC 12 k0) {a1 : Int32} {a2 : Int32} {r : Int32 × Mem} (h : f_X12_readsBy n μ k0 a1 a2 = some r) : CT l yX12_readsBy cX12_readsBy 3 (some .int) d G [.ref (gad G k0), .int a1, .int a2] μ (RK (some (.int r.1)) r.2) := (c_grp_X12_readsBy n) hd hk0 h
set_option maxHeartbeats 4000000 in
set_option maxRecDepth 100000 in
theorem w_X12_writesBy (g_X12_writesBy : Mem → Nat → Int32 → Int32 → Option (Int32 × Mem)) {n : Nat} (ih_X12_writesBy : ∀ {l : Launch} {G : GG} {d : Nat} (hd : n + 102 ≤ d) {μ : Mem} {k0 : Nat} (hk0 : isC 12 k0) {a1 : Int32} {a2 : Int32} {r : Int32 × Mem} (h : g_X12_writesBy μ k0 a1 a2 = some r), CT l yX12_writesBy cX12_writesBy 4 (some .int) d G [.ref (gad G k0), .int a1, .int a2] μ (RK (some (.int r.1)) r.2)) {l : Launch} {G : GG} {d : Nat} (hd : n + 1 + 102 ≤ d) {μ : Mem} {k0 : Nat} (hk0 : isC 12 k0) {a1 : Int32} {a2 : Int32} {r : Int32 × Mem} (h : F_X12_writesBy g_X12_writesBy μ k0 a1 a2 = some r) : CT l yX12_writesBy cX12_writesBy 4 (some .int) d G [.ref (gad G k0), .int a1, .int a2] μ (RK (some (.int r.1)) r.2) := by
  refine ct_start (by decide) (Nat.le_of_ble_eq_true rfl) (fun C hl1 hG1 hC hQ hr => ?_)
  subst hl1; subst hG1
  have hC : CxOK C cX12_writesBy 4 RX12 d := hC
  show UW C 4 μ 0 [(0, .ref (gad (cG C) k0)), (1, .int a1), (2, .int a2)] []
  unfold F_X12_writesBy at h
  refine u_iload_n (pc := 0) hC dX12_writesBy_0 rfl 1 rfl ?_
  by_cases c1_0 : a1 = 0
  · replace h := of_t c1_0 h
    refine u_tabEq (pc := 1) hC dX12_writesBy_1 (0 : Int32) c1_0 (off := 35) 36 (by decide) (by decide) ?_
    refine u_aload_n (pc := 36) hC dX12_writesBy_36 rfl 0 rfl ?_
    refine u_bipush (pc := 37) hC bc_11 dX12_writesBy_37 ?_
    obtain ⟨μ39, q39, h⟩ := of_bd h
    refine k_RX12_291 (pc := 39) hC (av := [.int (11 : Int32)]) (rest := []) (c_X12_ran (d := d - 1) (by omega) hk0 q39) (by omega) (Nat.le_of_ble_eq_true rfl) hk0 rfl rfl dX12_writesBy_39 ?_
    refine u_aload_n (pc := 42) hC dX12_writesBy_42 rfl 0 rfl ?_
    refine u_aload_n (pc := 43) hC dX12_writesBy_43 rfl 0 rfl ?_
    obtain ⟨r44, q44, h⟩ := of_bd h
    refine k_RX12_297 (pc := 44) hC (av := []) (rest := [.ref (gad (cG C) k0)]) (c_X12_own (d := d - 1) (by omega) hk0 q44) (by omega) (Nat.le_of_ble_eq_true rfl) hk0 rfl rfl dX12_writesBy_44 ?_
    refine u_iload_n (pc := 47) hC dX12_writesBy_47 rfl 2 rfl ?_
    obtain ⟨p48, q48, h⟩ := of_bd h
    refine k_RX12_294 (pc := 48) hC (av := [.int r44, .int a2]) (rest := []) (c_X12_owesBy (d := d - 1) (by omega) hk0 q48) (by omega) (Nat.le_of_ble_eq_true rfl) hk0 rfl rfl dX12_writesBy_48 ?_
    refine u_iconst (pc := 51) hC ic_2 dX12_writesBy_51 ?_
    refine u_imul (pc := 52) hC dX12_writesBy_52 ?_
    obtain rfl := Option.some.inj h
    exact u_iret (pc := 53) hC hQ hr ⟨rfl, rfl⟩ dX12_writesBy_53
  replace h := of_f c1_0 h
  by_cases c1_1 : a1 = 1
  · replace h := of_t c1_1 h
    refine u_tabEq (pc := 1) hC dX12_writesBy_1 (1 : Int32) c1_1 (off := 53) 54 (by decide) (by decide) ?_
    refine u_aload_n (pc := 54) hC dX12_writesBy_54 rfl 0 rfl ?_
    refine u_bipush (pc := 55) hC bc_20 dX12_writesBy_55 ?_
    obtain ⟨μ57, q57, h⟩ := of_bd h
    refine k_RX12_291 (pc := 57) hC (av := [.int (20 : Int32)]) (rest := []) (c_X12_ran (d := d - 1) (by omega) hk0 q57) (by omega) (Nat.le_of_ble_eq_true rfl) hk0 rfl rfl dX12_writesBy_57 ?_
    refine u_aload_n (pc := 60) hC dX12_writesBy_60 rfl 0 rfl ?_
    refine u_iconst (pc := 61) hC ic_1 dX12_writesBy_61 ?_
    obtain ⟨r62, q62, h⟩ := of_bd h
    refine k_RX12_205 (pc := 62) hC (av := [.int (1 : Int32)]) (rest := [.ref (gad (cG C) k0)]) (c_X12_above (d := d - 1) (by omega)  q62) (by omega) (Nat.le_of_ble_eq_true rfl) rfl rfl dX12_writesBy_62 ?_
    refine u_iload_n (pc := 65) hC dX12_writesBy_65 rfl 2 rfl ?_
    obtain ⟨p66, q66, h⟩ := of_bd h
    refine k_RX12_300 (pc := 66) hC (av := [.int r62, .int a2]) (rest := []) (ih_X12_writesBy (d := d - 1) (by omega) hk0 q66) (by omega) (Nat.le_of_ble_eq_true rfl) hk0 rfl rfl dX12_writesBy_66 ?_
    refine u_istore_n (pc := 69) hC dX12_writesBy_69 rfl [(3, .int p66.1), (0, .ref (gad (cG C) k0)), (1, .int a1), (2, .int a2)] (by decide) rfl ?_
    refine u_iload_n (pc := 70) hC dX12_writesBy_70 rfl 0 rfl ?_
    refine u_aload_n (pc := 71) hC dX12_writesBy_71 rfl 1 rfl ?_
    refine u_aload_n (pc := 72) hC dX12_writesBy_72 rfl 1 rfl ?_
    obtain ⟨r73, q73, h⟩ := of_bd h
    refine k_RX12_297 (pc := 73) hC (av := []) (rest := [.ref (gad (cG C) k0), .int p66.1]) (c_X12_own (d := d - 1) (by omega) hk0 q73) (by omega) (Nat.le_of_ble_eq_true rfl) hk0 rfl rfl dX12_writesBy_73 ?_
    refine u_iconst (pc := 76) hC ic_1 dX12_writesBy_76 ?_
    obtain ⟨p77, q77, h⟩ := of_bd h
    refine k_RX12_303 (pc := 77) hC (av := [.int r73, .int (1 : Int32)]) (rest := [.int p66.1]) (c_X12_readsBy (d := d - 1) (by omega) hk0 q77) (by omega) (Nat.le_of_ble_eq_true rfl) hk0 rfl rfl dX12_writesBy_77 ?_
    refine u_isub (pc := 80) hC dX12_writesBy_80 ?_
    obtain rfl := Option.some.inj h
    exact u_iret (pc := 81) hC hQ hr ⟨rfl, rfl⟩ dX12_writesBy_81
  replace h := of_f c1_1 h
  by_cases c1_2 : a1 = 2
  · replace h := of_t c1_2 h
    refine u_tabEq (pc := 1) hC dX12_writesBy_1 (2 : Int32) c1_2 (off := 99) 100 (by decide) (by decide) ?_
    refine u_aload_n (pc := 100) hC dX12_writesBy_100 rfl 0 rfl ?_
    refine u_iload_n (pc := 101) hC dX12_writesBy_101 rfl 1 rfl ?_
    obtain ⟨r102, q102, h⟩ := of_bd h
    refine k_RX12_205 (pc := 102) hC (av := [.int a1]) (rest := [.ref (gad (cG C) k0)]) (c_X12_above (d := d - 1) (by omega)  q102) (by omega) (Nat.le_of_ble_eq_true rfl) rfl rfl dX12_writesBy_102 ?_
    refine u_iload_n (pc := 105) hC dX12_writesBy_105 rfl 2 rfl ?_
    obtain ⟨p106, q106, h⟩ := of_bd h
    refine k_RX12_300 (pc := 106) hC (av := [.int r102, .int a2]) (rest := []) (ih_X12_writesBy (d := d - 1) (by omega) hk0 q106) (by omega) (Nat.le_of_ble_eq_true rfl) hk0 rfl rfl dX12_writesBy_106 ?_
    obtain rfl := Option.some.inj h
    exact u_iret (pc := 109) hC hQ hr ⟨rfl, rfl⟩ dX12_writesBy_109
  replace h := of_f c1_2 h
  by_cases c1_3 : a1 = 3
  · replace h := of_t c1_3 h
    refine u_tabEq (pc := 1) hC dX12_writesBy_1 (3 : Int32) c1_3 (off := 99) 100 (by decide) (by decide) ?_
    refine u_aload_n (pc := 100) hC dX12_writesBy_100 rfl 0 rfl ?_
    refine u_iload_n (pc := 101) hC dX12_writesBy_101 rfl 1 rfl ?_
    obtain ⟨r102, q102, h⟩ := of_bd h
    refine k_RX12_205 (pc := 102) hC (av := [.int a1]) (rest := [.ref (gad (cG C) k0)]) (c_X12_above (d := d - 1) (by omega)  q102) (by omega) (Nat.le_of_ble_eq_true rfl) rfl rfl dX12_writesBy_102 ?_
    refine u_iload_n (pc := 105) hC dX12_writesBy_105 rfl 2 rfl ?_
    obtain ⟨p106, q106, h⟩ := of_bd h
    refine k_RX12_300 (pc := 106) hC (av := [.int r102, .int a2]) (rest := []) (ih_X12_writesBy (d := d - 1) (by omega) hk0 q106) (by omega) (Nat.le_of_ble_eq_true rfl) hk0 rfl rfl dX12_writesBy_106 ?_
    obtain rfl := Option.some.inj h
    exact u_iret (pc := 109) hC hQ hr ⟨rfl, rfl⟩ dX12_writesBy_109
  replace h := of_f c1_3 h
  by_cases c1_4 : a1 = 4
  · replace h := of_t c1_4 h
    refine u_tabEq (pc := 1) hC dX12_writesBy_1 (4 : Int32) c1_4 (off := 81) 82 (by decide) (by decide) ?_
    refine u_aload_n (pc := 82) hC dX12_writesBy_82 rfl 0 rfl ?_
    refine u_bipush (pc := 83) hC bc_50 dX12_writesBy_83 ?_
    obtain ⟨μ85, q85, h⟩ := of_bd h
    refine k_RX12_291 (pc := 85) hC (av := [.int (50 : Int32)]) (rest := []) (c_X12_ran (d := d - 1) (by omega) hk0 q85) (by omega) (Nat.le_of_ble_eq_true rfl) hk0 rfl rfl dX12_writesBy_85 ?_
    refine u_aload_n (pc := 88) hC dX12_writesBy_88 rfl 0 rfl ?_
    refine u_iconst (pc := 89) hC ic_4 dX12_writesBy_89 ?_
    obtain ⟨r90, q90, h⟩ := of_bd h
    refine k_RX12_205 (pc := 90) hC (av := [.int (4 : Int32)]) (rest := [.ref (gad (cG C) k0)]) (c_X12_above (d := d - 1) (by omega)  q90) (by omega) (Nat.le_of_ble_eq_true rfl) rfl rfl dX12_writesBy_90 ?_
    refine u_iload_n (pc := 93) hC dX12_writesBy_93 rfl 2 rfl ?_
    refine u_iconst (pc := 94) hC ic_1 dX12_writesBy_94 ?_
    refine u_iadd (pc := 95) hC dX12_writesBy_95 ?_
    obtain ⟨p96, q96, h⟩ := of_bd h
    refine k_RX12_300 (pc := 96) hC (av := [.int r90, .int (a2 + (1 : Int32))]) (rest := []) (ih_X12_writesBy (d := d - 1) (by omega) hk0 q96) (by omega) (Nat.le_of_ble_eq_true rfl) hk0 rfl rfl dX12_writesBy_96 ?_
    obtain rfl := Option.some.inj h
    exact u_iret (pc := 99) hC hQ hr ⟨rfl, rfl⟩ dX12_writesBy_99
  replace h := of_f c1_4 h
  refine u_tabDf (pc := 1) hC dX12_writesBy_1 [(0 : Int32), (1 : Int32), (2 : Int32), (3 : Int32), (4 : Int32)] (List.forall_mem_cons.mpr ⟨c1_0, List.forall_mem_cons.mpr ⟨c1_1, List.forall_mem_cons.mpr ⟨c1_2, List.forall_mem_cons.mpr ⟨c1_3, List.forall_mem_cons.mpr ⟨c1_4, (fun _ q => absurd q List.not_mem_nil)⟩⟩⟩⟩⟩) (by decide) 100 (by decide) ?_
  refine u_aload_n (pc := 100) hC dX12_writesBy_100 rfl 0 rfl ?_
  refine u_iload_n (pc := 101) hC dX12_writesBy_101 rfl 1 rfl ?_
  obtain ⟨r102, q102, h⟩ := of_bd h
  refine k_RX12_205 (pc := 102) hC (av := [.int a1]) (rest := [.ref (gad (cG C) k0)]) (c_X12_above (d := d - 1) (by omega)  q102) (by omega) (Nat.le_of_ble_eq_true rfl) rfl rfl dX12_writesBy_102 ?_
  refine u_iload_n (pc := 105) hC dX12_writesBy_105 rfl 2 rfl ?_
  obtain ⟨p106, q106, h⟩ := of_bd h
  refine k_RX12_300 (pc := 106) hC (av := [.int r102, .int a2]) (rest := []) (ih_X12_writesBy (d := d - 1) (by omega) hk0 q106) (by omega) (Nat.le_of_ble_eq_true rfl) hk0 rfl rfl dX12_writesBy_106 ?_
  obtain rfl := Option.some.inj h
  exact u_iret (pc := 109) hC hQ hr ⟨rfl, rfl⟩ dX12_writesBy_109
set_option maxHeartbeats 4000000 in
set_option maxRecDepth 100000 in
theorem c_grp_X12_writesBy (n : Nat) : (∀ {l : Launch} {G : GG} {d : Nat} (hd : n + 102 ≤ d) {μ : Mem} {k0 : Nat} (hk0 : isC 12 k0) {a1 : Int32} {a2 : Int32} {r : Int32 × Mem} (h : f_X12_writesBy n μ k0 a1 a2 = some r), CT l yX12_writesBy cX12_writesBy 4 (some .int) d G [.ref (gad G k0), .int a1, .int a2] μ (RK (some (.int r.1)) r.2)) := by
  induction n with
  | zero => exact (by intro l G d hd μ k0 hk0 a1 a2 r h; exact absurd (show (none : Option (Int32 × Mem)) = some r from h) (by simp))
  | succ n ih => exact (by intro l G d hd μ k0 hk0 a1 a2 r h; exact w_X12_writesBy (f_X12_writesBy n) ih (by omega) hk0 h)
theorem c_X12_writesBy {n : Nat} {l : Launch} {G : GG} {d : Nat} (hd : n + 102 ≤ d) {μ : Mem} {k0 : Nat} (hk0 : isC 12 k0) {a1 : Int32} {a2 : Int32} {r : Int32 × Mem} (h : f_X12_writesBy n μ k0 a1 a2 = some r) : CT l yX12_writesBy cX12_writesBy 4 (some .int) d G [.ref (gad G k0), .int a1, .int a2] μ (RK (some (.int r.1)) r.2) := (c_grp_X12_writesBy n) hd hk0 h
set_option maxHeartbeats 4000000 in
set_option maxRecDepth 100000 in
theorem w_X12_tellsBy (g_X12_tellsBy : Mem → Nat → Int32 → Int32 → Option (Int32 × Mem)) {n : Nat} (ih_X12_tellsBy : ∀ {l : Launch} {G : GG} {d : Nat} (hd : n + 203 ≤ d) {μ : Mem} {k0 : Nat} (hk0 : isC 12 k0) {a1 : Int32} {a2 : Int32} {r : Int32 × Mem} (h : g_X12_tellsBy μ k0 a1 a2 = some r), CT l yX12_tellsBy cX12_tellsBy 4 (some .int) d G [.ref (gad G k0), .int a1, .int a2] μ (RK (some (.int r.1)) r.2)) {l : Launch} {G : GG} {d : Nat} (hd : n + 1 + 203 ≤ d) {μ : Mem} {k0 : Nat} (hk0 : isC 12 k0) {a1 : Int32} {a2 : Int32} {r : Int32 × Mem} (h : F_X12_tellsBy g_X12_tellsBy μ k0 a1 a2 = some r) : CT l yX12_tellsBy cX12_tellsBy 4 (some .int) d G [.ref (gad G k0), .int a1, .int a2] μ (RK (some (.int r.1)) r.2) := by
  refine ct_start (by decide) (Nat.le_of_ble_eq_true rfl) (fun C hl1 hG1 hC hQ hr => ?_)
  subst hl1; subst hG1
  have hC : CxOK C cX12_tellsBy 4 RX12 d := hC
  show UW C 4 μ 0 [(0, .ref (gad (cG C) k0)), (1, .int a1), (2, .int a2)] []
  unfold F_X12_tellsBy at h
  refine u_iload_n (pc := 0) hC dX12_tellsBy_0 rfl 1 rfl ?_
  by_cases c1_0 : a1 = 0
  · replace h := of_t c1_0 h
    refine u_lookEq (pc := 1) hC dX12_tellsBy_1 (0 : Int32) c1_0 (off := 35) 36 (by decide) (by decide) (by decide) ?_
    refine u_aload_n (pc := 36) hC dX12_tellsBy_36 rfl 0 rfl ?_
    refine u_bipush (pc := 37) hC bc_13 dX12_tellsBy_37 ?_
    obtain ⟨μ39, q39, h⟩ := of_bd h
    refine k_RX12_291 (pc := 39) hC (av := [.int (13 : Int32)]) (rest := []) (c_X12_ran (d := d - 1) (by omega) hk0 q39) (by omega) (Nat.le_of_ble_eq_true rfl) hk0 rfl rfl dX12_tellsBy_39 ?_
    refine u_aload_n (pc := 42) hC dX12_tellsBy_42 rfl 0 rfl ?_
    refine u_aload_n (pc := 43) hC dX12_tellsBy_43 rfl 0 rfl ?_
    obtain ⟨r44, q44, h⟩ := of_bd h
    refine k_RX12_297 (pc := 44) hC (av := []) (rest := [.ref (gad (cG C) k0)]) (c_X12_own (d := d - 1) (by omega) hk0 q44) (by omega) (Nat.le_of_ble_eq_true rfl) hk0 rfl rfl dX12_tellsBy_44 ?_
    refine u_iload_n (pc := 47) hC dX12_tellsBy_47 rfl 2 rfl ?_
    obtain ⟨p48, q48, h⟩ := of_bd h
    refine k_RX12_300 (pc := 48) hC (av := [.int r44, .int a2]) (rest := []) (c_X12_writesBy (d := d - 1) (by omega) hk0 q48) (by omega) (Nat.le_of_ble_eq_true rfl) hk0 rfl rfl dX12_tellsBy_48 ?_
    refine u_istore_n (pc := 51) hC dX12_tellsBy_51 rfl [(3, .int p48.1), (0, .ref (gad (cG C) k0)), (1, .int a1), (2, .int a2)] (by decide) rfl ?_
    refine u_iload_n (pc := 52) hC dX12_tellsBy_52 rfl 0 rfl ?_
    refine u_aload_n (pc := 53) hC dX12_tellsBy_53 rfl 1 rfl ?_
    refine u_aload_n (pc := 54) hC dX12_tellsBy_54 rfl 1 rfl ?_
    obtain ⟨r55, q55, h⟩ := of_bd h
    refine k_RX12_297 (pc := 55) hC (av := []) (rest := [.ref (gad (cG C) k0), .int p48.1]) (c_X12_own (d := d - 1) (by omega) hk0 q55) (by omega) (Nat.le_of_ble_eq_true rfl) hk0 rfl rfl dX12_tellsBy_55 ?_
    refine u_iload_n (pc := 58) hC dX12_tellsBy_58 rfl 3 rfl ?_
    obtain ⟨p59, q59, h⟩ := of_bd h
    refine k_RX12_303 (pc := 59) hC (av := [.int r55, .int a2]) (rest := [.int p48.1]) (c_X12_readsBy (d := d - 1) (by omega) hk0 q59) (by omega) (Nat.le_of_ble_eq_true rfl) hk0 rfl rfl dX12_tellsBy_59 ?_
    refine u_ixor (pc := 62) hC dX12_tellsBy_62 ?_
    obtain rfl := Option.some.inj h
    exact u_iret (pc := 63) hC hQ hr ⟨rfl, rfl⟩ dX12_tellsBy_63
  replace h := of_f c1_0 h
  by_cases c1_1 : a1 = 5
  · replace h := of_t c1_1 h
    refine u_lookEq (pc := 1) hC dX12_tellsBy_1 (5 : Int32) c1_1 (off := 63) 64 (by decide) (by decide) (by decide) ?_
    refine u_aload_n (pc := 64) hC dX12_tellsBy_64 rfl 0 rfl ?_
    refine u_bipush (pc := 65) hC bc_60 dX12_tellsBy_65 ?_
    obtain ⟨μ67, q67, h⟩ := of_bd h
    refine k_RX12_291 (pc := 67) hC (av := [.int (60 : Int32)]) (rest := []) (c_X12_ran (d := d - 1) (by omega) hk0 q67) (by omega) (Nat.le_of_ble_eq_true rfl) hk0 rfl rfl dX12_tellsBy_67 ?_
    refine u_aload_n (pc := 70) hC dX12_tellsBy_70 rfl 0 rfl ?_
    refine u_iconst (pc := 71) hC ic_5 dX12_tellsBy_71 ?_
    obtain ⟨r72, q72, h⟩ := of_bd h
    refine k_RX12_205 (pc := 72) hC (av := [.int (5 : Int32)]) (rest := [.ref (gad (cG C) k0)]) (c_X12_above (d := d - 1) (by omega)  q72) (by omega) (Nat.le_of_ble_eq_true rfl) rfl rfl dX12_tellsBy_72 ?_
    refine u_iload_n (pc := 75) hC dX12_tellsBy_75 rfl 2 rfl ?_
    obtain ⟨p76, q76, h⟩ := of_bd h
    refine k_RX12_306 (pc := 76) hC (av := [.int r72, .int a2]) (rest := []) (ih_X12_tellsBy (d := d - 1) (by omega) hk0 q76) (by omega) (Nat.le_of_ble_eq_true rfl) hk0 rfl rfl dX12_tellsBy_76 ?_
    refine u_istore_n (pc := 79) hC dX12_tellsBy_79 rfl [(3, .int p76.1), (0, .ref (gad (cG C) k0)), (1, .int a1), (2, .int a2)] (by decide) rfl ?_
    refine u_iload_n (pc := 80) hC dX12_tellsBy_80 rfl 0 rfl ?_
    refine u_aload_n (pc := 81) hC dX12_tellsBy_81 rfl 1 rfl ?_
    refine u_aload_n (pc := 82) hC dX12_tellsBy_82 rfl 1 rfl ?_
    obtain ⟨r83, q83, h⟩ := of_bd h
    refine k_RX12_297 (pc := 83) hC (av := []) (rest := [.ref (gad (cG C) k0), .int p76.1]) (c_X12_own (d := d - 1) (by omega) hk0 q83) (by omega) (Nat.le_of_ble_eq_true rfl) hk0 rfl rfl dX12_tellsBy_83 ?_
    refine u_iconst (pc := 86) hC ic_2 dX12_tellsBy_86 ?_
    obtain ⟨p87, q87, h⟩ := of_bd h
    refine k_RX12_294 (pc := 87) hC (av := [.int r83, .int (2 : Int32)]) (rest := [.int p76.1]) (c_X12_owesBy (d := d - 1) (by omega) hk0 q87) (by omega) (Nat.le_of_ble_eq_true rfl) hk0 rfl rfl dX12_tellsBy_87 ?_
    refine u_isub (pc := 90) hC dX12_tellsBy_90 ?_
    obtain rfl := Option.some.inj h
    exact u_iret (pc := 91) hC hQ hr ⟨rfl, rfl⟩ dX12_tellsBy_91
  replace h := of_f c1_1 h
  by_cases c1_2 : a1 = 6
  · replace h := of_t c1_2 h
    refine u_lookEq (pc := 1) hC dX12_tellsBy_1 (6 : Int32) c1_2 (off := 91) 92 (by decide) (by decide) (by decide) ?_
    refine u_aload_n (pc := 92) hC dX12_tellsBy_92 rfl 0 rfl ?_
    refine u_bipush (pc := 93) hC bc_71 dX12_tellsBy_93 ?_
    obtain ⟨μ95, q95, h⟩ := of_bd h
    refine k_RX12_291 (pc := 95) hC (av := [.int (71 : Int32)]) (rest := []) (c_X12_ran (d := d - 1) (by omega) hk0 q95) (by omega) (Nat.le_of_ble_eq_true rfl) hk0 rfl rfl dX12_tellsBy_95 ?_
    refine u_aload_n (pc := 98) hC dX12_tellsBy_98 rfl 0 rfl ?_
    refine u_aload_n (pc := 99) hC dX12_tellsBy_99 rfl 0 rfl ?_
    obtain ⟨r100, q100, h⟩ := of_bd h
    refine k_RX12_297 (pc := 100) hC (av := []) (rest := [.ref (gad (cG C) k0)]) (c_X12_own (d := d - 1) (by omega) hk0 q100) (by omega) (Nat.le_of_ble_eq_true rfl) hk0 rfl rfl dX12_tellsBy_100 ?_
    refine u_iload_n (pc := 103) hC dX12_tellsBy_103 rfl 2 rfl ?_
    obtain ⟨p104, q104, h⟩ := of_bd h
    refine k_RX12_300 (pc := 104) hC (av := [.int r100, .int a2]) (rest := []) (c_X12_writesBy (d := d - 1) (by omega) hk0 q104) (by omega) (Nat.le_of_ble_eq_true rfl) hk0 rfl rfl dX12_tellsBy_104 ?_
    refine u_istore_n (pc := 107) hC dX12_tellsBy_107 rfl [(3, .int p104.1), (0, .ref (gad (cG C) k0)), (1, .int a1), (2, .int a2)] (by decide) rfl ?_
    refine u_iload_n (pc := 108) hC dX12_tellsBy_108 rfl 0 rfl ?_
    refine u_aload_n (pc := 109) hC dX12_tellsBy_109 rfl 1 rfl ?_
    refine u_bipush (pc := 110) hC bc_6 dX12_tellsBy_110 ?_
    obtain ⟨r112, q112, h⟩ := of_bd h
    refine k_RX12_205 (pc := 112) hC (av := [.int (6 : Int32)]) (rest := [.ref (gad (cG C) k0), .int p104.1]) (c_X12_above (d := d - 1) (by omega)  q112) (by omega) (Nat.le_of_ble_eq_true rfl) rfl rfl dX12_tellsBy_112 ?_
    refine u_iload_n (pc := 115) hC dX12_tellsBy_115 rfl 3 rfl ?_
    obtain ⟨p116, q116, h⟩ := of_bd h
    refine k_RX12_306 (pc := 116) hC (av := [.int r112, .int a2]) (rest := [.int p104.1]) (ih_X12_tellsBy (d := d - 1) (by omega) hk0 q116) (by omega) (Nat.le_of_ble_eq_true rfl) hk0 rfl rfl dX12_tellsBy_116 ?_
    refine u_isub (pc := 119) hC dX12_tellsBy_119 ?_
    obtain rfl := Option.some.inj h
    exact u_iret (pc := 120) hC hQ hr ⟨rfl, rfl⟩ dX12_tellsBy_120
  replace h := of_f c1_2 h
  refine u_lookDf (pc := 1) hC dX12_tellsBy_1 [(0 : Int32), (5 : Int32), (6 : Int32)] (List.forall_mem_cons.mpr ⟨c1_0, List.forall_mem_cons.mpr ⟨c1_1, List.forall_mem_cons.mpr ⟨c1_2, (fun _ q => absurd q List.not_mem_nil)⟩⟩⟩) (by decide) 121 (by decide) (by decide) ?_
  refine u_aload_n (pc := 121) hC dX12_tellsBy_121 rfl 0 rfl ?_
  refine u_iload_n (pc := 122) hC dX12_tellsBy_122 rfl 1 rfl ?_
  obtain ⟨r123, q123, h⟩ := of_bd h
  refine k_RX12_205 (pc := 123) hC (av := [.int a1]) (rest := [.ref (gad (cG C) k0)]) (c_X12_above (d := d - 1) (by omega)  q123) (by omega) (Nat.le_of_ble_eq_true rfl) rfl rfl dX12_tellsBy_123 ?_
  refine u_iload_n (pc := 126) hC dX12_tellsBy_126 rfl 2 rfl ?_
  obtain ⟨p127, q127, h⟩ := of_bd h
  refine k_RX12_306 (pc := 127) hC (av := [.int r123, .int a2]) (rest := []) (ih_X12_tellsBy (d := d - 1) (by omega) hk0 q127) (by omega) (Nat.le_of_ble_eq_true rfl) hk0 rfl rfl dX12_tellsBy_127 ?_
  obtain rfl := Option.some.inj h
  exact u_iret (pc := 130) hC hQ hr ⟨rfl, rfl⟩ dX12_tellsBy_130
set_option maxHeartbeats 4000000 in
set_option maxRecDepth 100000 in
theorem c_grp_X12_tellsBy (n : Nat) : (∀ {l : Launch} {G : GG} {d : Nat} (hd : n + 203 ≤ d) {μ : Mem} {k0 : Nat} (hk0 : isC 12 k0) {a1 : Int32} {a2 : Int32} {r : Int32 × Mem} (h : f_X12_tellsBy n μ k0 a1 a2 = some r), CT l yX12_tellsBy cX12_tellsBy 4 (some .int) d G [.ref (gad G k0), .int a1, .int a2] μ (RK (some (.int r.1)) r.2)) := by
  induction n with
  | zero => exact (by intro l G d hd μ k0 hk0 a1 a2 r h; exact absurd (show (none : Option (Int32 × Mem)) = some r from h) (by simp))
  | succ n ih => exact (by intro l G d hd μ k0 hk0 a1 a2 r h; exact w_X12_tellsBy (f_X12_tellsBy n) ih (by omega) hk0 h)
theorem c_X12_tellsBy {n : Nat} {l : Launch} {G : GG} {d : Nat} (hd : n + 203 ≤ d) {μ : Mem} {k0 : Nat} (hk0 : isC 12 k0) {a1 : Int32} {a2 : Int32} {r : Int32 × Mem} (h : f_X12_tellsBy n μ k0 a1 a2 = some r) : CT l yX12_tellsBy cX12_tellsBy 4 (some .int) d G [.ref (gad G k0), .int a1, .int a2] μ (RK (some (.int r.1)) r.2) := (c_grp_X12_tellsBy n) hd hk0 h
set_option maxHeartbeats 4000000 in
set_option maxRecDepth 100000 in
theorem c_X12_voice {l : Launch} {G : GG} {d : Nat} (hd : 304 ≤ d) {μ : Mem} {k0 : Nat} (hk0 : isC 12 k0) {a1 : Int32} {a2 : Int32} {a3 : Int32} {r : Int32 × Mem} (h : f_X12_voice μ k0 a1 a2 a3 = some r) : CT l yX12_voice cX12_voice 5 (some .int) d G [.ref (gad G k0), .int a1, .int a2, .int a3] μ (RK (some (.int r.1)) r.2) := by
  refine ct_start (by decide) (Nat.le_of_ble_eq_true rfl) (fun C hl1 hG1 hC hQ hr => ?_)
  subst hl1; subst hG1
  have hC : CxOK C cX12_voice 5 RX12 d := hC
  show UW C 5 μ 0 [(0, .ref (gad (cG C) k0)), (1, .int a1), (2, .int a2), (3, .int a3)] []
  have jb20 : ∀ (μ_20 : Mem), f_X12_voice_j20 μ_20 k0 a1 a2 a3 = some r → UW C 5 μ_20 20 [(0, .ref (gad (cG C) k0))] [] := by
    intro μ_20 h
    unfold f_X12_voice_j20 at h
    refine u_aload_n (pc := 20) hC dX12_voice_20 rfl 0 rfl ?_
    refine u_iconst (pc := 21) hC ic_1 dX12_voice_21 ?_
    obtain ⟨p22, q22, h⟩ := of_bd h
    refine k_RX12_119 (pc := 22) hC (av := [.int (1 : Int32)]) (rest := []) (c_X12_finds (d := d - 1) (by omega) hk0 q22) (by omega) (Nat.le_of_ble_eq_true rfl) hk0 rfl rfl dX12_voice_22 ?_
    obtain rfl := Option.some.inj h
    exact u_iret (pc := 25) hC hQ hr ⟨rfl, rfl⟩ dX12_voice_25
  unfold f_X12_voice at h
  refine u_aload_n (pc := 0) hC dX12_voice_0 rfl 0 rfl ?_
  refine u_iload_n (pc := 1) hC dX12_voice_1 rfl 1 rfl ?_
  obtain ⟨r2, q2, h⟩ := of_bd h
  refine k_RX12_197 (pc := 2) hC (av := [.int a1]) (rest := []) (c_X12_isDebtor (d := d - 1) (by omega) hk0 q2) (by omega) (Nat.le_of_ble_eq_true rfl) hk0 rfl rfl dX12_voice_2 ?_
  refine u_if_eq (pc := 5) hC (tgt := 20) dX12_voice_5 (by decide) (fun c5 => ?_) (fun c5 => ?_)
  · replace h := of_t c5 h
    refine u_sub [0] rfl ?_
    exact jb20 μ h
  · replace h := of_f c5 h
    refine u_iload_n (pc := 8) hC dX12_voice_8 rfl 2 rfl ?_
    refine u_i2l (pc := 9) hC dX12_voice_9 ?_
    refine u_lconst (pc := 10) hC (v := (0 : Int64)) rfl dX12_voice_10 ?_
    refine u_ldc2 (pc := 11) hC (v := (3 : Int64)) mQ_RX12_309 dX12_voice_11 ?_
    obtain ⟨r14, q14, h⟩ := of_bd h
    refine k_RX12_57 (pc := 14) hC (av := [.long a2.toInt64, .long (0 : Int64), .long (3 : Int64)]) (rest := []) (c_X12_in (d := d - 1) (by omega)  q14) (by omega) (Nat.le_of_ble_eq_true rfl) rfl rfl dX12_voice_14 ?_
    refine u_if_ne (pc := 17) hC (tgt := 26) dX12_voice_17 (by decide) (fun c17 => ?_) (fun c17 => ?_)
    · replace h := of_t c17 h
      refine u_aload_n (pc := 26) hC dX12_voice_26 rfl 0 rfl ?_
      refine u_iconst (pc := 27) hC ic_0 dX12_voice_27 ?_
      obtain ⟨m28, q28, h⟩ := of_bd h
      refine p_RX12_285 (pc := 28) hC hk0 dX12_voice_28 (Option.some.inj q28) ?_
      refine u_aload_n (pc := 31) hC dX12_voice_31 rfl 0 rfl ?_
      refine u_iload_n (pc := 32) hC dX12_voice_32 rfl 1 rfl ?_
      obtain ⟨m33, q33, h⟩ := of_bd h
      refine p_RX12_288 (pc := 33) hC hk0 dX12_voice_33 (Option.some.inj q33) ?_
      refine u_aload_n (pc := 36) hC dX12_voice_36 rfl 0 rfl ?_
      obtain ⟨r37, q37, h⟩ := of_bd h
      refine k_RX12_297 (pc := 37) hC (av := []) (rest := []) (c_X12_own (d := d - 1) (by omega) hk0 q37) (by omega) (Nat.le_of_ble_eq_true rfl) hk0 rfl rfl dX12_voice_37 ?_
      refine u_istore (pc := 40) hC dX12_voice_40 [(4, .int r37), (0, .ref (gad (cG C) k0)), (1, .int a1), (2, .int a2), (3, .int a3)] (by decide) rfl ?_
      refine u_iload_n (pc := 42) hC dX12_voice_42 rfl 3 rfl ?_
      refine u_if_ne (pc := 43) hC (tgt := 56) dX12_voice_43 (by decide) (fun c43 => ?_) (fun c43 => ?_)
      · replace h := of_t c43 h
        refine u_iload_n (pc := 56) hC dX12_voice_56 rfl 3 rfl ?_
        refine u_iconst (pc := 57) hC ic_1 dX12_voice_57 ?_
        refine u_icmp_ne (pc := 58) hC (tgt := 71) dX12_voice_58 (by decide) (fun c58 => ?_) (fun c58 => ?_)
        · replace h := of_t c58 h
          refine u_iload_n (pc := 71) hC dX12_voice_71 rfl 3 rfl ?_
          refine u_iconst (pc := 72) hC ic_2 dX12_voice_72 ?_
          refine u_icmp_ne (pc := 73) hC (tgt := 86) dX12_voice_73 (by decide) (fun c73 => ?_) (fun c73 => ?_)
          · replace h := of_t c73 h
            refine u_aload_n (pc := 86) hC dX12_voice_86 rfl 1 rfl ?_
            refine u_iload (pc := 87) hC dX12_voice_87 0 rfl ?_
            refine u_iload_n (pc := 89) hC dX12_voice_89 rfl 4 rfl ?_
            obtain ⟨p90, q90, h⟩ := of_bd h
            refine k_RX12_306 (pc := 90) hC (av := [.int r37, .int a3]) (rest := []) (c_X12_tellsBy (d := d - 1) (by omega) hk0 q90) (by omega) (Nat.le_of_ble_eq_true rfl) hk0 rfl rfl dX12_voice_90 ?_
            obtain rfl := Option.some.inj h
            exact u_iret (pc := 93) hC hQ hr ⟨rfl, rfl⟩ dX12_voice_93
          · replace h := of_f (fun q => q c73) h
            refine u_aload_n (pc := 76) hC dX12_voice_76 rfl 1 rfl ?_
            refine u_iload (pc := 77) hC dX12_voice_77 0 rfl ?_
            refine u_iload_n (pc := 79) hC dX12_voice_79 rfl 4 rfl ?_
            obtain ⟨p80, q80, h⟩ := of_bd h
            refine k_RX12_303 (pc := 80) hC (av := [.int r37, .int a3]) (rest := []) (c_X12_readsBy (d := d - 1) (by omega) hk0 q80) (by omega) (Nat.le_of_ble_eq_true rfl) hk0 rfl rfl dX12_voice_80 ?_
            refine u_goto (pc := 83) hC 93 dX12_voice_83 (by decide) ?_
            obtain rfl := Option.some.inj h
            exact u_iret (pc := 93) hC hQ hr ⟨rfl, rfl⟩ dX12_voice_93
        · replace h := of_f (fun q => q c58) h
          refine u_aload_n (pc := 61) hC dX12_voice_61 rfl 1 rfl ?_
          refine u_iload (pc := 62) hC dX12_voice_62 0 rfl ?_
          refine u_iload_n (pc := 64) hC dX12_voice_64 rfl 4 rfl ?_
          obtain ⟨p65, q65, h⟩ := of_bd h
          refine k_RX12_300 (pc := 65) hC (av := [.int r37, .int a3]) (rest := []) (c_X12_writesBy (d := d - 1) (by omega) hk0 q65) (by omega) (Nat.le_of_ble_eq_true rfl) hk0 rfl rfl dX12_voice_65 ?_
          refine u_goto (pc := 68) hC 93 dX12_voice_68 (by decide) ?_
          obtain rfl := Option.some.inj h
          exact u_iret (pc := 93) hC hQ hr ⟨rfl, rfl⟩ dX12_voice_93
      · replace h := of_f (fun q => q c43) h
        refine u_aload_n (pc := 46) hC dX12_voice_46 rfl 1 rfl ?_
        refine u_iload (pc := 47) hC dX12_voice_47 0 rfl ?_
        refine u_iload_n (pc := 49) hC dX12_voice_49 rfl 4 rfl ?_
        obtain ⟨p50, q50, h⟩ := of_bd h
        refine k_RX12_294 (pc := 50) hC (av := [.int r37, .int a3]) (rest := []) (c_X12_owesBy (d := d - 1) (by omega) hk0 q50) (by omega) (Nat.le_of_ble_eq_true rfl) hk0 rfl rfl dX12_voice_50 ?_
        refine u_goto (pc := 53) hC 93 dX12_voice_53 (by decide) ?_
        obtain rfl := Option.some.inj h
        exact u_iret (pc := 93) hC hQ hr ⟨rfl, rfl⟩ dX12_voice_93
    · replace h := of_f (fun q => q c17) h
      refine u_sub [0] rfl ?_
      exact jb20 μ h
set_option maxHeartbeats 4000000 in
set_option maxRecDepth 100000 in
theorem c_X12_trace {l : Launch} {G : GG} {d : Nat} (hd : 1 ≤ d) {μ : Mem} {k0 : Nat} (hk0 : isC 12 k0) {a1 : Int32} {r : Int32 × Mem} (h : f_X12_trace μ k0 a1 = some r) : CT l yX12_trace cX12_trace 2 (some .int) d G [.ref (gad G k0), .int a1] μ (RK (some (.int r.1)) r.2) := by
  refine ct_start (by decide) (Nat.le_of_ble_eq_true rfl) (fun C hl1 hG1 hC hQ hr => ?_)
  subst hl1; subst hG1
  have hC : CxOK C cX12_trace 2 RX12 d := hC
  show UW C 2 μ 0 [(0, .ref (gad (cG C) k0)), (1, .int a1)] []
  unfold f_X12_trace at h
  refine u_iload_n (pc := 0) hC dX12_trace_0 rfl 1 rfl ?_
  refine u_i2l (pc := 1) hC dX12_trace_1 ?_
  refine u_lconst (pc := 2) hC (v := (0 : Int64)) rfl dX12_trace_2 ?_
  refine u_aload_n (pc := 3) hC dX12_trace_3 rfl 0 rfl ?_
  refine g_RX12_285 (pc := 4) hC hk0 dX12_trace_4 ?_
  refine u_iconst (pc := 7) hC ic_1 dX12_trace_7 ?_
  refine u_isub (pc := 8) hC dX12_trace_8 ?_
  refine u_i2l (pc := 9) hC dX12_trace_9 ?_
  obtain ⟨r10, q10, h⟩ := of_bd h
  refine k_RX12_57 (pc := 10) hC (av := [.long a1.toInt64, .long (0 : Int64), .long (((rd μ k0 20) - (1 : Int32)).toInt64)]) (rest := []) (c_X12_in (d := d - 1) (by omega)  q10) (by omega) (Nat.le_of_ble_eq_true rfl) rfl rfl dX12_trace_10 ?_
  refine u_if_eq (pc := 13) hC (tgt := 25) dX12_trace_13 (by decide) (fun c13 => ?_) (fun c13 => ?_)
  · replace h := of_t c13 h
    refine u_aload_n (pc := 25) hC dX12_trace_25 rfl 0 rfl ?_
    refine u_iconst (pc := 26) hC ic_2 dX12_trace_26 ?_
    obtain ⟨p27, q27, h⟩ := of_bd h
    refine k_RX12_119 (pc := 27) hC (av := [.int (2 : Int32)]) (rest := []) (c_X12_finds (d := d - 1) (by omega) hk0 q27) (by omega) (Nat.le_of_ble_eq_true rfl) hk0 rfl rfl dX12_trace_27 ?_
    obtain rfl := Option.some.inj h
    exact u_iret (pc := 30) hC hQ hr ⟨rfl, rfl⟩ dX12_trace_30
  · replace h := of_f c13 h
    refine u_aload_n (pc := 16) hC dX12_trace_16 rfl 0 rfl ?_
    refine g_RX12_41 (pc := 17) hC hk0 dX12_trace_17 ?_
    refine u_iload_n (pc := 20) hC dX12_trace_20 rfl 1 rfl ?_
    obtain ⟨b21, h⟩ := of_gd h
    refine u_iald (pc := 21) hC (rs_12_19 hk0) 40 (rn_12_19 hk0) b21 dX12_trace_21 ?_
    refine u_goto (pc := 22) hC 30 dX12_trace_22 (by decide) ?_
    obtain rfl := Option.some.inj h
    exact u_iret (pc := 30) hC hQ hr ⟨rfl, rfl⟩ dX12_trace_30
set_option maxHeartbeats 4000000 in
set_option maxRecDepth 100000 in
theorem c_X12_sheet {l : Launch} {G : GG} {d : Nat} (hd : 2 ≤ d) {μ : Mem} {k0 : Nat} (hk0 : isC 12 k0) {a1 : Int32} {a2 : Int32} {a3 : Int32} {r : Int32 × Mem} (h : f_X12_sheet μ k0 a1 a2 a3 = some r) : CT l yX12_sheet cX12_sheet 5 (some .int) d G [.ref (gad G k0), .int a1, .int a2, .int a3] μ (RK (some (.int r.1)) r.2) := by
  refine ct_start (by decide) (Nat.le_of_ble_eq_true rfl) (fun C hl1 hG1 hC hQ hr => ?_)
  subst hl1; subst hG1
  have hC : CxOK C cX12_sheet 5 RX12 d := hC
  show UW C 5 μ 0 [(0, .ref (gad (cG C) k0)), (1, .int a1), (2, .int a2), (3, .int a3)] []
  have lw90 : ∀ (e : (Mem)) (s : Int32 × Mem), lp (fun s => f_X12_sheet_l90 k0 a1 a2 a3 s.1 s.2) FU s = some e → (fun (e : (Mem)) => UW C 5 e 116 [] []) e → UW C 5 s.2 90 [(0, .ref (gad (cG C) k0)), (1, .int a1), (4, .int s.1)] [] := by
    intro e s hl hE0
    refine @lp_walk (Int32 × Mem) (Mem) (fun s => f_X12_sheet_l90 k0 a1 a2 a3 s.1 s.2) (fun s => UW C 5 s.2 90 [(0, .ref (gad (cG C) k0)), (1, .int a1), (4, .int s.1)] []) (fun (e : (Mem)) => UW C 5 e 116 [] []) (fun s y90 h hP90 hE90 => ?_) FU s e hl hE0
    obtain ⟨v4_90, μ_90⟩ := s
    replace h : f_X12_sheet_l90 k0 a1 a2 a3 v4_90 μ_90 = some y90 := h
    show UW C 5 μ_90 90 [(0, .ref (gad (cG C) k0)), (1, .int a1), (4, .int v4_90)] []
    unfold f_X12_sheet_l90 at h
    refine u_iload (pc := 90) hC dX12_sheet_90 2 rfl ?_
    refine u_bipush (pc := 92) hC bc_40 dX12_sheet_92 ?_
    refine u_icmp_ge (pc := 94) hC (tgt := 116) dX12_sheet_94 (by decide) (fun c94 => ?_) (fun c94 => ?_)
    · replace h := of_t c94 h
      obtain rfl := Option.some.inj h
      refine u_sub [] rfl ?_
      exact hE90 μ_90 rfl
    · replace h := of_f c94 h
      refine u_aload_n (pc := 97) hC dX12_sheet_97 rfl 0 rfl ?_
      refine g_RX12_50 (pc := 98) hC hk0 dX12_sheet_98 ?_
      refine u_bipush (pc := 101) hC bc_40 dX12_sheet_101 ?_
      refine u_iload_n (pc := 103) hC dX12_sheet_103 rfl 1 rfl ?_
      refine u_imul (pc := 104) hC dX12_sheet_104 ?_
      refine u_iload (pc := 105) hC dX12_sheet_105 2 rfl ?_
      refine u_iadd (pc := 107) hC dX12_sheet_107 ?_
      refine u_iconst (pc := 108) hC ic_0 dX12_sheet_108 ?_
      obtain ⟨b109, h⟩ := of_gd h
      obtain ⟨m109, q109, h⟩ := of_bd h
      refine u_iast (pc := 109) hC (rs_12_24 hk0) 160 (rn_12_24 hk0) b109 dX12_sheet_109 (Option.some.inj q109) ?_
      refine u_iinc (pc := 110) hC dX12_sheet_110 2 rfl (v4_90 + 1) rfl [(4, .int (v4_90 + 1)), (0, .ref (gad (cG C) k0)), (1, .int a1)] (by decide) rfl ?_
      refine u_goto (pc := 113) hC 90 dX12_sheet_113 (by decide) ?_
      obtain rfl := Option.some.inj h
      refine u_sub [1, 2, 0] rfl ?_
      exact hP90 (v4_90 + 1, m109) rfl
  have jb86 : ∀ (μ_86 : Mem) (kt0_86 : Nat) (hkt0_86 : isC 13 kt0_86) (vt1_86 : Int32) (vt2_86 : Int32), f_X12_sheet_j86 μ_86 k0 a1 a2 a3 kt0_86 vt1_86 vt2_86 = some r → UW C 5 μ_86 86 [(0, .ref (gad (cG C) k0)), (1, .int a1)] [.int vt2_86, .int vt1_86, .ref (gad (cG C) kt0_86)] := by
    intro μ_86 kt0_86 hkt0_86 vt1_86 vt2_86 h
    unfold f_X12_sheet_j86 at h
    obtain ⟨b86, h⟩ := of_gd h
    obtain ⟨m86, q86, h⟩ := of_bd h
    refine u_iast (pc := 86) hC hkt0_86 (ln kt0_86) rfl b86 dX12_sheet_86 (Option.some.inj q86) ?_
    refine u_iconst (pc := 87) hC ic_0 dX12_sheet_87 ?_
    refine u_istore (pc := 88) hC dX12_sheet_88 [(4, .int (0 : Int32)), (0, .ref (gad (cG C) k0)), (1, .int a1)] (by decide) rfl ?_
    obtain ⟨e90, l90, h⟩ := of_bd h
    refine u_sub [1, 2, 0] rfl ?_
    refine lw90  e90 ((0 : Int32), m86) l90 ?_
    show UW C 5 e90 116 [] []
    refine u_iconst (pc := 116) hC ic_1 dX12_sheet_116 ?_
    obtain rfl := Option.some.inj h
    exact u_iret (pc := 117) hC hQ hr ⟨rfl, rfl⟩ dX12_sheet_117
  have jb65 : ∀ (μ_65 : Mem), f_X12_sheet_j65 μ_65 k0 a1 a2 a3 = some r → UW C 5 μ_65 65 [(0, .ref (gad (cG C) k0)), (1, .int a1), (2, .int a2), (3, .int a3)] [] := by
    intro μ_65 h
    unfold f_X12_sheet_j65 at h
    refine u_aload_n (pc := 65) hC dX12_sheet_65 rfl 0 rfl ?_
    refine g_RX12_44 (pc := 66) hC hk0 dX12_sheet_66 ?_
    refine u_iload_n (pc := 69) hC dX12_sheet_69 rfl 1 rfl ?_
    refine u_iload_n (pc := 70) hC dX12_sheet_70 rfl 2 rfl ?_
    obtain ⟨b71, h⟩ := of_gd h
    obtain ⟨m71, q71, h⟩ := of_bd h
    refine u_iast (pc := 71) hC (rs_12_22 hk0) 4 (rn_12_22 hk0) b71 dX12_sheet_71 (Option.some.inj q71) ?_
    refine u_aload_n (pc := 72) hC dX12_sheet_72 rfl 0 rfl ?_
    refine g_RX12_47 (pc := 73) hC hk0 dX12_sheet_73 ?_
    refine u_iload_n (pc := 76) hC dX12_sheet_76 rfl 1 rfl ?_
    refine u_iload_n (pc := 77) hC dX12_sheet_77 rfl 2 rfl ?_
    refine u_if_ne (pc := 78) hC (tgt := 85) dX12_sheet_78 (by decide) (fun c78 => ?_) (fun c78 => ?_)
    · replace h := of_t c78 h
      refine u_iload_n (pc := 85) hC dX12_sheet_85 rfl 3 rfl ?_
      refine u_sub [0, 1] rfl ?_
      exact jb86 m71 (rf k0 23) (rs_12_23 hk0) a1 a3 h
    · replace h := of_f (fun q => q c78) h
      refine u_iconst (pc := 81) hC ic_0 dX12_sheet_81 ?_
      refine u_goto (pc := 82) hC 86 dX12_sheet_82 (by decide) ?_
      refine u_sub [0, 1] rfl ?_
      exact jb86 m71 (rf k0 23) (rs_12_23 hk0) a1 (0 : Int32) h
  have jb49 : ∀ (μ_49 : Mem), f_X12_sheet_j49 μ_49 k0 a1 a2 a3 = some r → UW C 5 μ_49 49 [(0, .ref (gad (cG C) k0)), (1, .int a1), (2, .int a2), (3, .int a3)] [] := by
    intro μ_49 h
    unfold f_X12_sheet_j49 at h
    refine u_iload_n (pc := 49) hC dX12_sheet_49 rfl 2 rfl ?_
    refine u_if_eq (pc := 50) hC (tgt := 65) dX12_sheet_50 (by decide) (fun c50 => ?_) (fun c50 => ?_)
    · replace h := of_t c50 h
      exact jb65 μ_49 h
    · replace h := of_f c50 h
      refine u_iload_n (pc := 53) hC dX12_sheet_53 rfl 3 rfl ?_
      refine u_bipush (pc := 54) hC bc_40 dX12_sheet_54 ?_
      refine u_icmp_le (pc := 56) hC (tgt := 65) dX12_sheet_56 (by decide) (fun c56 => ?_) (fun c56 => ?_)
      · replace h := of_t c56 h
        exact jb65 μ_49 h
      · replace h := of_f c56 h
        refine u_aload_n (pc := 59) hC dX12_sheet_59 rfl 0 rfl ?_
        refine u_iconst (pc := 60) hC ic_1 dX12_sheet_60 ?_
        obtain ⟨p61, q61, h⟩ := of_bd h
        refine k_RX12_119 (pc := 61) hC (av := [.int (1 : Int32)]) (rest := []) (c_X12_finds (d := d - 1) (by omega) hk0 q61) (by omega) (Nat.le_of_ble_eq_true rfl) hk0 rfl rfl dX12_sheet_61 ?_
        obtain rfl := Option.some.inj h
        exact u_iret (pc := 64) hC hQ hr ⟨rfl, rfl⟩ dX12_sheet_64
  have jb35 : ∀ (μ_35 : Mem), f_X12_sheet_j35 μ_35 k0 a1 a2 a3 = some r → UW C 5 μ_35 35 [(0, .ref (gad (cG C) k0)), (1, .int a1), (2, .int a2), (3, .int a3)] [] := by
    intro μ_35 h
    unfold f_X12_sheet_j35 at h
    refine u_iload_n (pc := 35) hC dX12_sheet_35 rfl 2 rfl ?_
    refine u_if_eq (pc := 36) hC (tgt := 49) dX12_sheet_36 (by decide) (fun c36 => ?_) (fun c36 => ?_)
    · replace h := of_t c36 h
      exact jb49 μ_35 h
    · replace h := of_f c36 h
      refine u_iload_n (pc := 39) hC dX12_sheet_39 rfl 3 rfl ?_
      refine u_if_ge (pc := 40) hC (tgt := 49) dX12_sheet_40 (by decide) (fun c40 => ?_) (fun c40 => ?_)
      · replace h := of_t c40 h
        exact jb49 μ_35 h
      · replace h := of_f c40 h
        refine u_aload_n (pc := 43) hC dX12_sheet_43 rfl 0 rfl ?_
        refine u_iconst (pc := 44) hC ic_3 dX12_sheet_44 ?_
        obtain ⟨p45, q45, h⟩ := of_bd h
        refine k_RX12_119 (pc := 45) hC (av := [.int (3 : Int32)]) (rest := []) (c_X12_finds (d := d - 1) (by omega) hk0 q45) (by omega) (Nat.le_of_ble_eq_true rfl) hk0 rfl rfl dX12_sheet_45 ?_
        obtain rfl := Option.some.inj h
        exact u_iret (pc := 48) hC hQ hr ⟨rfl, rfl⟩ dX12_sheet_48
  have jb29 : ∀ (μ_29 : Mem), f_X12_sheet_j29 μ_29 k0 a1 a2 a3 = some r → UW C 5 μ_29 29 [(0, .ref (gad (cG C) k0))] [] := by
    intro μ_29 h
    unfold f_X12_sheet_j29 at h
    refine u_aload_n (pc := 29) hC dX12_sheet_29 rfl 0 rfl ?_
    refine u_iconst (pc := 30) hC ic_1 dX12_sheet_30 ?_
    obtain ⟨p31, q31, h⟩ := of_bd h
    refine k_RX12_119 (pc := 31) hC (av := [.int (1 : Int32)]) (rest := []) (c_X12_finds (d := d - 1) (by omega) hk0 q31) (by omega) (Nat.le_of_ble_eq_true rfl) hk0 rfl rfl dX12_sheet_31 ?_
    obtain rfl := Option.some.inj h
    exact u_iret (pc := 34) hC hQ hr ⟨rfl, rfl⟩ dX12_sheet_34
  unfold f_X12_sheet at h
  refine u_iload_n (pc := 0) hC dX12_sheet_0 rfl 1 rfl ?_
  obtain ⟨r1, q1, h⟩ := of_bd h
  refine k_RX12_273 (pc := 1) hC (av := [.int a1]) (rest := []) (c_X12_isSheet (d := d - 1) (by omega)  q1) (by omega) (Nat.le_of_ble_eq_true rfl) rfl rfl dX12_sheet_1 ?_
  refine u_if_eq (pc := 4) hC (tgt := 29) dX12_sheet_4 (by decide) (fun c4 => ?_) (fun c4 => ?_)
  · replace h := of_t c4 h
    refine u_sub [0] rfl ?_
    exact jb29 μ h
  · replace h := of_f c4 h
    refine u_iload_n (pc := 7) hC dX12_sheet_7 rfl 2 rfl ?_
    refine u_if_eq (pc := 8) hC (tgt := 35) dX12_sheet_8 (by decide) (fun c8 => ?_) (fun c8 => ?_)
    · replace h := of_t c8 h
      exact jb35 μ h
    · replace h := of_f c8 h
      refine u_iload_n (pc := 11) hC dX12_sheet_11 rfl 2 rfl ?_
      refine u_bipush (pc := 12) hC bc_8 dX12_sheet_12 ?_
      refine u_icmp_eq (pc := 14) hC (tgt := 35) dX12_sheet_14 (by decide) (fun c14 => ?_) (fun c14 => ?_)
      · replace h := of_t c14 h
        exact jb35 μ h
      · replace h := of_f c14 h
        refine u_iload_n (pc := 17) hC dX12_sheet_17 rfl 2 rfl ?_
        refine u_bipush (pc := 18) hC bc_16 dX12_sheet_18 ?_
        refine u_icmp_eq (pc := 20) hC (tgt := 35) dX12_sheet_20 (by decide) (fun c20 => ?_) (fun c20 => ?_)
        · replace h := of_t c20 h
          exact jb35 μ h
        · replace h := of_f c20 h
          refine u_iload_n (pc := 23) hC dX12_sheet_23 rfl 2 rfl ?_
          refine u_bipush (pc := 24) hC bc_32 dX12_sheet_24 ?_
          refine u_icmp_eq (pc := 26) hC (tgt := 35) dX12_sheet_26 (by decide) (fun c26 => ?_) (fun c26 => ?_)
          · replace h := of_t c26 h
            exact jb35 μ h
          · replace h := of_f c26 h
            refine u_sub [0] rfl ?_
            exact jb29 μ h
set_option maxHeartbeats 4000000 in
set_option maxRecDepth 100000 in
theorem c_X12_put {l : Launch} {G : GG} {d : Nat} (hd : 2 ≤ d) {μ : Mem} {k0 : Nat} (hk0 : isC 12 k0) {a1 : Int32} {a2 : Int32} {a3 : Int32} {r : Int32 × Mem} (h : f_X12_put μ k0 a1 a2 a3 = some r) : CT l yX12_put cX12_put 4 (some .int) d G [.ref (gad G k0), .int a1, .int a2, .int a3] μ (RK (some (.int r.1)) r.2) := by
  refine ct_start (by decide) (Nat.le_of_ble_eq_true rfl) (fun C hl1 hG1 hC hQ hr => ?_)
  subst hl1; subst hG1
  have hC : CxOK C cX12_put 4 RX12 d := hC
  show UW C 4 μ 0 [(0, .ref (gad (cG C) k0)), (1, .int a1), (2, .int a2), (3, .int a3)] []
  have jb95 : ∀ (μ_95 : Mem) (kt0_95 : Nat) (hkt0_95 : isC 13 kt0_95) (vt1_95 : Int32) (vt2_95 : Int32), f_X12_put_j95 μ_95 k0 a1 a2 a3 kt0_95 vt1_95 vt2_95 = some r → UW C 4 μ_95 95 [] [.int vt2_95, .int vt1_95, .ref (gad (cG C) kt0_95)] := by
    intro μ_95 kt0_95 hkt0_95 vt1_95 vt2_95 h
    unfold f_X12_put_j95 at h
    obtain ⟨b95, h⟩ := of_gd h
    obtain ⟨m95, q95, h⟩ := of_bd h
    refine u_iast (pc := 95) hC hkt0_95 (ln kt0_95) rfl b95 dX12_put_95 (Option.some.inj q95) ?_
    refine u_iconst (pc := 96) hC ic_1 dX12_put_96 ?_
    obtain rfl := Option.some.inj h
    exact u_iret (pc := 97) hC hQ hr ⟨rfl, rfl⟩ dX12_put_97
  unfold f_X12_put at h
  refine u_iload_n (pc := 0) hC dX12_put_0 rfl 1 rfl ?_
  obtain ⟨r1, q1, h⟩ := of_bd h
  refine k_RX12_273 (pc := 1) hC (av := [.int a1]) (rest := []) (c_X12_isSheet (d := d - 1) (by omega)  q1) (by omega) (Nat.le_of_ble_eq_true rfl) rfl rfl dX12_put_1 ?_
  refine u_if_ne (pc := 4) hC (tgt := 13) dX12_put_4 (by decide) (fun c4 => ?_) (fun c4 => ?_)
  · replace h := of_t c4 h
    refine u_aload_n (pc := 13) hC dX12_put_13 rfl 0 rfl ?_
    refine g_RX12_44 (pc := 14) hC hk0 dX12_put_14 ?_
    refine u_iload_n (pc := 17) hC dX12_put_17 rfl 1 rfl ?_
    obtain ⟨b18, h⟩ := of_gd h
    refine u_iald (pc := 18) hC (rs_12_22 hk0) 4 (rn_12_22 hk0) b18 dX12_put_18 ?_
    refine u_if_ne (pc := 19) hC (tgt := 28) dX12_put_19 (by decide) (fun c19 => ?_) (fun c19 => ?_)
    · replace h := of_t c19 h
      refine u_iload_n (pc := 28) hC dX12_put_28 rfl 2 rfl ?_
      refine u_i2l (pc := 29) hC dX12_put_29 ?_
      refine u_lconst (pc := 30) hC (v := (0 : Int64)) rfl dX12_put_30 ?_
      refine u_aload_n (pc := 31) hC dX12_put_31 rfl 0 rfl ?_
      refine g_RX12_47 (pc := 32) hC hk0 dX12_put_32 ?_
      refine u_iload_n (pc := 35) hC dX12_put_35 rfl 1 rfl ?_
      obtain ⟨b36, h⟩ := of_gd h
      refine u_iald (pc := 36) hC (rs_12_23 hk0) 4 (rn_12_23 hk0) b36 dX12_put_36 ?_
      refine u_iconst (pc := 37) hC ic_1 dX12_put_37 ?_
      refine u_isub (pc := 38) hC dX12_put_38 ?_
      refine u_i2l (pc := 39) hC dX12_put_39 ?_
      obtain ⟨r40, q40, h⟩ := of_bd h
      refine k_RX12_57 (pc := 40) hC (av := [.long a2.toInt64, .long (0 : Int64), .long (((rd μ (rf k0 23) a1.toNatClampNeg) - (1 : Int32)).toInt64)]) (rest := []) (c_X12_in (d := d - 1) (by omega)  q40) (by omega) (Nat.le_of_ble_eq_true rfl) rfl rfl dX12_put_40 ?_
      refine u_if_ne (pc := 43) hC (tgt := 52) dX12_put_43 (by decide) (fun c43 => ?_) (fun c43 => ?_)
      · replace h := of_t c43 h
        refine u_aload_n (pc := 52) hC dX12_put_52 rfl 0 rfl ?_
        refine g_RX12_50 (pc := 53) hC hk0 dX12_put_53 ?_
        refine u_bipush (pc := 56) hC bc_40 dX12_put_56 ?_
        refine u_iload_n (pc := 58) hC dX12_put_58 rfl 1 rfl ?_
        refine u_imul (pc := 59) hC dX12_put_59 ?_
        refine u_iload_n (pc := 60) hC dX12_put_60 rfl 2 rfl ?_
        refine u_iadd (pc := 61) hC dX12_put_61 ?_
        refine u_aload_n (pc := 62) hC dX12_put_62 rfl 0 rfl ?_
        refine g_RX12_44 (pc := 63) hC hk0 dX12_put_63 ?_
        refine u_iload_n (pc := 66) hC dX12_put_66 rfl 1 rfl ?_
        obtain ⟨b67, h⟩ := of_gd h
        refine u_iald (pc := 67) hC (rs_12_22 hk0) 4 (rn_12_22 hk0) b67 dX12_put_67 ?_
        refine u_bipush (pc := 68) hC bc_8 dX12_put_68 ?_
        refine u_icmp_ne (pc := 70) hC (tgt := 78) dX12_put_70 (by decide) (fun c70 => ?_) (fun c70 => ?_)
        · replace h := of_t c70 h
          refine u_aload_n (pc := 78) hC dX12_put_78 rfl 0 rfl ?_
          refine g_RX12_44 (pc := 79) hC hk0 dX12_put_79 ?_
          refine u_iload_n (pc := 82) hC dX12_put_82 rfl 1 rfl ?_
          obtain ⟨b83, h⟩ := of_gd h
          refine u_iald (pc := 83) hC (rs_12_22 hk0) 4 (rn_12_22 hk0) b83 dX12_put_83 ?_
          refine u_bipush (pc := 84) hC bc_16 dX12_put_84 ?_
          refine u_icmp_ne (pc := 86) hC (tgt := 94) dX12_put_86 (by decide) (fun c86 => ?_) (fun c86 => ?_)
          · replace h := of_t c86 h
            refine u_iload_n (pc := 94) hC dX12_put_94 rfl 3 rfl ?_
            refine u_sub [] rfl ?_
            exact jb95 μ (rf k0 24) (rs_12_24 hk0) (((40 : Int32) * a1) + a2) a3 h
          · replace h := of_f (fun q => q c86) h
            refine u_iload_n (pc := 89) hC dX12_put_89 rfl 3 rfl ?_
            refine u_i2s (pc := 90) hC dX12_put_90 ?_
            refine u_goto (pc := 91) hC 95 dX12_put_91 (by decide) ?_
            refine u_sub [] rfl ?_
            exact jb95 μ (rf k0 24) (rs_12_24 hk0) (((40 : Int32) * a1) + a2) a3.toInt16.toInt32 h
        · replace h := of_f (fun q => q c70) h
          refine u_iload_n (pc := 73) hC dX12_put_73 rfl 3 rfl ?_
          refine u_i2b (pc := 74) hC dX12_put_74 ?_
          refine u_goto (pc := 75) hC 95 dX12_put_75 (by decide) ?_
          refine u_sub [] rfl ?_
          exact jb95 μ (rf k0 24) (rs_12_24 hk0) (((40 : Int32) * a1) + a2) a3.toInt8.toInt32 h
      · replace h := of_f (fun q => q c43) h
        refine u_aload_n (pc := 46) hC dX12_put_46 rfl 0 rfl ?_
        refine u_iconst (pc := 47) hC ic_1 dX12_put_47 ?_
        obtain ⟨p48, q48, h⟩ := of_bd h
        refine k_RX12_119 (pc := 48) hC (av := [.int (1 : Int32)]) (rest := []) (c_X12_finds (d := d - 1) (by omega) hk0 q48) (by omega) (Nat.le_of_ble_eq_true rfl) hk0 rfl rfl dX12_put_48 ?_
        obtain rfl := Option.some.inj h
        exact u_iret (pc := 51) hC hQ hr ⟨rfl, rfl⟩ dX12_put_51
    · replace h := of_f (fun q => q c19) h
      refine u_aload_n (pc := 22) hC dX12_put_22 rfl 0 rfl ?_
      refine u_iconst (pc := 23) hC ic_2 dX12_put_23 ?_
      obtain ⟨p24, q24, h⟩ := of_bd h
      refine k_RX12_119 (pc := 24) hC (av := [.int (2 : Int32)]) (rest := []) (c_X12_finds (d := d - 1) (by omega) hk0 q24) (by omega) (Nat.le_of_ble_eq_true rfl) hk0 rfl rfl dX12_put_24 ?_
      obtain rfl := Option.some.inj h
      exact u_iret (pc := 27) hC hQ hr ⟨rfl, rfl⟩ dX12_put_27
  · replace h := of_f (fun q => q c4) h
    refine u_aload_n (pc := 7) hC dX12_put_7 rfl 0 rfl ?_
    refine u_iconst (pc := 8) hC ic_1 dX12_put_8 ?_
    obtain ⟨p9, q9, h⟩ := of_bd h
    refine k_RX12_119 (pc := 9) hC (av := [.int (1 : Int32)]) (rest := []) (c_X12_finds (d := d - 1) (by omega) hk0 q9) (by omega) (Nat.le_of_ble_eq_true rfl) hk0 rfl rfl dX12_put_9 ?_
    obtain rfl := Option.some.inj h
    exact u_iret (pc := 12) hC hQ hr ⟨rfl, rfl⟩ dX12_put_12
set_option maxHeartbeats 4000000 in
set_option maxRecDepth 100000 in
theorem c_X12_move {l : Launch} {G : GG} {d : Nat} (hd : 2 ≤ d) {μ : Mem} {k0 : Nat} (hk0 : isC 12 k0) {a1 : Int32} {a2 : Int32} {a3 : Int32} {a4 : Int32} {a5 : Int32} {r : Int32 × Mem} (h : f_X12_move μ k0 a1 a2 a3 a4 a5 = some r) : CT l yX12_move cX12_move 7 (some .int) d G [.ref (gad G k0), .int a1, .int a2, .int a3, .int a4, .int a5] μ (RK (some (.int r.1)) r.2) := by
  refine ct_start (by decide) (Nat.le_of_ble_eq_true rfl) (fun C hl1 hG1 hC hQ hr => ?_)
  subst hl1; subst hG1
  have hC : CxOK C cX12_move 7 RX12 d := hC
  show UW C 7 μ 0 [(0, .ref (gad (cG C) k0)), (1, .int a1), (2, .int a2), (3, .int a3), (4, .int a4), (5, .int a5)] []
  have lw152 : ∀ (e : (Mem)) (s : Int32 × Mem), lp (fun s => f_X12_move_l152 k0 a1 a2 a3 a4 a5 s.1 s.2) FU s = some e → (fun (e : (Mem)) => UW C 7 e 187 [(5, .int a5)] []) e → UW C 7 s.2 152 [(0, .ref (gad (cG C) k0)), (3, .int a3), (4, .int a4), (5, .int a5), (6, .int s.1)] [] := by
    intro e s hl hE0
    refine @lp_walk (Int32 × Mem) (Mem) (fun s => f_X12_move_l152 k0 a1 a2 a3 a4 a5 s.1 s.2) (fun s => UW C 7 s.2 152 [(0, .ref (gad (cG C) k0)), (3, .int a3), (4, .int a4), (5, .int a5), (6, .int s.1)] []) (fun (e : (Mem)) => UW C 7 e 187 [(5, .int a5)] []) (fun s y152 h hP152 hE152 => ?_) FU s e hl hE0
    obtain ⟨v6_152, μ_152⟩ := s
    replace h : f_X12_move_l152 k0 a1 a2 a3 a4 a5 v6_152 μ_152 = some y152 := h
    show UW C 7 μ_152 152 [(0, .ref (gad (cG C) k0)), (3, .int a3), (4, .int a4), (5, .int a5), (6, .int v6_152)] []
    unfold f_X12_move_l152 at h
    refine u_iload (pc := 152) hC dX12_move_152 4 rfl ?_
    refine u_iload (pc := 154) hC dX12_move_154 3 rfl ?_
    refine u_icmp_ge (pc := 156) hC (tgt := 187) dX12_move_156 (by decide) (fun c156 => ?_) (fun c156 => ?_)
    · replace h := of_t c156 h
      obtain rfl := Option.some.inj h
      refine u_sub [3] rfl ?_
      exact hE152 μ_152 rfl
    · replace h := of_f c156 h
      refine u_aload_n (pc := 159) hC dX12_move_159 rfl 0 rfl ?_
      refine g_RX12_50 (pc := 160) hC hk0 dX12_move_160 ?_
      refine u_bipush (pc := 163) hC bc_40 dX12_move_163 ?_
      refine u_iload_n (pc := 165) hC dX12_move_165 rfl 1 rfl ?_
      refine u_imul (pc := 166) hC dX12_move_166 ?_
      refine u_iload (pc := 167) hC dX12_move_167 2 rfl ?_
      refine u_iadd (pc := 169) hC dX12_move_169 ?_
      refine u_iload (pc := 170) hC dX12_move_170 4 rfl ?_
      refine u_iadd (pc := 172) hC dX12_move_172 ?_
      refine u_aload_n (pc := 173) hC dX12_move_173 rfl 0 rfl ?_
      refine g_RX12_53 (pc := 174) hC hk0 dX12_move_174 ?_
      refine u_iload (pc := 177) hC dX12_move_177 4 rfl ?_
      obtain ⟨b179, h⟩ := of_gd h
      refine u_iald (pc := 179) hC (rs_12_25 hk0) 40 (rn_12_25 hk0) b179 dX12_move_179 ?_
      obtain ⟨b180, h⟩ := of_gd h
      obtain ⟨m180, q180, h⟩ := of_bd h
      refine u_iast (pc := 180) hC (rs_12_24 hk0) 160 (rn_12_24 hk0) b180 dX12_move_180 (Option.some.inj q180) ?_
      refine u_iinc (pc := 181) hC dX12_move_181 4 rfl (v6_152 + 1) rfl [(6, .int (v6_152 + 1)), (0, .ref (gad (cG C) k0)), (3, .int a3), (4, .int a4), (5, .int a5)] (by decide) rfl ?_
      refine u_goto (pc := 184) hC 152 dX12_move_184 (by decide) ?_
      obtain rfl := Option.some.inj h
      refine u_sub [1, 2, 3, 4, 0] rfl ?_
      exact hP152 (v6_152 + 1, m180) rfl
  have lw115 : ∀ (e : (Mem)) (s : Int32 × Mem), lp (fun s => f_X12_move_l115 k0 a1 a2 a3 a4 a5 s.1 s.2) FU s = some e → (fun (e : (Mem)) => UW C 7 e 149 [(0, .ref (gad (cG C) k0)), (3, .int a3), (4, .int a4), (5, .int a5)] []) e → UW C 7 s.2 115 [(0, .ref (gad (cG C) k0)), (1, .int a1), (2, .int a2), (3, .int a3), (4, .int a4), (5, .int a5), (6, .int s.1)] [] := by
    intro e s hl hE0
    refine @lp_walk (Int32 × Mem) (Mem) (fun s => f_X12_move_l115 k0 a1 a2 a3 a4 a5 s.1 s.2) (fun s => UW C 7 s.2 115 [(0, .ref (gad (cG C) k0)), (1, .int a1), (2, .int a2), (3, .int a3), (4, .int a4), (5, .int a5), (6, .int s.1)] []) (fun (e : (Mem)) => UW C 7 e 149 [(0, .ref (gad (cG C) k0)), (3, .int a3), (4, .int a4), (5, .int a5)] []) (fun s y115 h hP115 hE115 => ?_) FU s e hl hE0
    obtain ⟨v6_115, μ_115⟩ := s
    replace h : f_X12_move_l115 k0 a1 a2 a3 a4 a5 v6_115 μ_115 = some y115 := h
    show UW C 7 μ_115 115 [(0, .ref (gad (cG C) k0)), (1, .int a1), (2, .int a2), (3, .int a3), (4, .int a4), (5, .int a5), (6, .int v6_115)] []
    unfold f_X12_move_l115 at h
    refine u_iload (pc := 115) hC dX12_move_115 6 rfl ?_
    refine u_iload (pc := 117) hC dX12_move_117 5 rfl ?_
    refine u_icmp_ge (pc := 119) hC (tgt := 149) dX12_move_119 (by decide) (fun c119 => ?_) (fun c119 => ?_)
    · replace h := of_t c119 h
      obtain rfl := Option.some.inj h
      refine u_sub [0, 3, 4, 5] rfl ?_
      exact hE115 μ_115 rfl
    · replace h := of_f c119 h
      refine u_aload_n (pc := 122) hC dX12_move_122 rfl 0 rfl ?_
      refine g_RX12_53 (pc := 123) hC hk0 dX12_move_123 ?_
      refine u_iload (pc := 126) hC dX12_move_126 6 rfl ?_
      refine u_aload_n (pc := 128) hC dX12_move_128 rfl 0 rfl ?_
      refine g_RX12_50 (pc := 129) hC hk0 dX12_move_129 ?_
      refine u_bipush (pc := 132) hC bc_40 dX12_move_132 ?_
      refine u_iload_n (pc := 134) hC dX12_move_134 rfl 1 rfl ?_
      refine u_imul (pc := 135) hC dX12_move_135 ?_
      refine u_iload_n (pc := 136) hC dX12_move_136 rfl 2 rfl ?_
      refine u_iadd (pc := 137) hC dX12_move_137 ?_
      refine u_iload (pc := 138) hC dX12_move_138 6 rfl ?_
      refine u_iadd (pc := 140) hC dX12_move_140 ?_
      obtain ⟨b141, h⟩ := of_gd h
      refine u_iald (pc := 141) hC (rs_12_24 hk0) 160 (rn_12_24 hk0) b141 dX12_move_141 ?_
      obtain ⟨b142, h⟩ := of_gd h
      obtain ⟨m142, q142, h⟩ := of_bd h
      refine u_iast (pc := 142) hC (rs_12_25 hk0) 40 (rn_12_25 hk0) b142 dX12_move_142 (Option.some.inj q142) ?_
      refine u_iinc (pc := 143) hC dX12_move_143 6 rfl (v6_115 + 1) rfl [(6, .int (v6_115 + 1)), (0, .ref (gad (cG C) k0)), (1, .int a1), (2, .int a2), (3, .int a3), (4, .int a4), (5, .int a5)] (by decide) rfl ?_
      refine u_goto (pc := 146) hC 115 dX12_move_146 (by decide) ?_
      obtain rfl := Option.some.inj h
      refine u_sub [1, 2, 3, 4, 5, 6, 0] rfl ?_
      exact hP115 (v6_115 + 1, m142) rfl
  have jb106 : ∀ (μ_106 : Mem), f_X12_move_j106 μ_106 k0 a1 a2 a3 a4 a5 = some r → UW C 7 μ_106 106 [(0, .ref (gad (cG C) k0))] [] := by
    intro μ_106 h
    unfold f_X12_move_j106 at h
    refine u_aload_n (pc := 106) hC dX12_move_106 rfl 0 rfl ?_
    refine u_iconst (pc := 107) hC ic_1 dX12_move_107 ?_
    obtain ⟨p108, q108, h⟩ := of_bd h
    refine k_RX12_119 (pc := 108) hC (av := [.int (1 : Int32)]) (rest := []) (c_X12_finds (d := d - 1) (by omega) hk0 q108) (by omega) (Nat.le_of_ble_eq_true rfl) hk0 rfl rfl dX12_move_108 ?_
    obtain rfl := Option.some.inj h
    exact u_iret (pc := 111) hC hQ hr ⟨rfl, rfl⟩ dX12_move_111
  have jb38 : ∀ (μ_38 : Mem), f_X12_move_j38 μ_38 k0 a1 a2 a3 a4 a5 = some r → UW C 7 μ_38 38 [(0, .ref (gad (cG C) k0))] [] := by
    intro μ_38 h
    unfold f_X12_move_j38 at h
    refine u_aload_n (pc := 38) hC dX12_move_38 rfl 0 rfl ?_
    refine u_iconst (pc := 39) hC ic_2 dX12_move_39 ?_
    obtain ⟨p40, q40, h⟩ := of_bd h
    refine k_RX12_119 (pc := 40) hC (av := [.int (2 : Int32)]) (rest := []) (c_X12_finds (d := d - 1) (by omega) hk0 q40) (by omega) (Nat.le_of_ble_eq_true rfl) hk0 rfl rfl dX12_move_40 ?_
    obtain rfl := Option.some.inj h
    exact u_iret (pc := 43) hC hQ hr ⟨rfl, rfl⟩ dX12_move_43
  have jb14 : ∀ (μ_14 : Mem), f_X12_move_j14 μ_14 k0 a1 a2 a3 a4 a5 = some r → UW C 7 μ_14 14 [(0, .ref (gad (cG C) k0))] [] := by
    intro μ_14 h
    unfold f_X12_move_j14 at h
    refine u_aload_n (pc := 14) hC dX12_move_14 rfl 0 rfl ?_
    refine u_iconst (pc := 15) hC ic_1 dX12_move_15 ?_
    obtain ⟨p16, q16, h⟩ := of_bd h
    refine k_RX12_119 (pc := 16) hC (av := [.int (1 : Int32)]) (rest := []) (c_X12_finds (d := d - 1) (by omega) hk0 q16) (by omega) (Nat.le_of_ble_eq_true rfl) hk0 rfl rfl dX12_move_16 ?_
    obtain rfl := Option.some.inj h
    exact u_iret (pc := 19) hC hQ hr ⟨rfl, rfl⟩ dX12_move_19
  unfold f_X12_move at h
  refine u_iload_n (pc := 0) hC dX12_move_0 rfl 1 rfl ?_
  obtain ⟨r1, q1, h⟩ := of_bd h
  refine k_RX12_273 (pc := 1) hC (av := [.int a1]) (rest := []) (c_X12_isSheet (d := d - 1) (by omega)  q1) (by omega) (Nat.le_of_ble_eq_true rfl) rfl rfl dX12_move_1 ?_
  refine u_if_eq (pc := 4) hC (tgt := 14) dX12_move_4 (by decide) (fun c4 => ?_) (fun c4 => ?_)
  · replace h := of_t c4 h
    refine u_sub [0] rfl ?_
    exact jb14 μ h
  · replace h := of_f c4 h
    refine u_iload_n (pc := 7) hC dX12_move_7 rfl 3 rfl ?_
    obtain ⟨r8, q8, h⟩ := of_bd h
    refine k_RX12_273 (pc := 8) hC (av := [.int a3]) (rest := []) (c_X12_isSheet (d := d - 1) (by omega)  q8) (by omega) (Nat.le_of_ble_eq_true rfl) rfl rfl dX12_move_8 ?_
    refine u_if_ne (pc := 11) hC (tgt := 20) dX12_move_11 (by decide) (fun c11 => ?_) (fun c11 => ?_)
    · replace h := of_t c11 h
      refine u_aload_n (pc := 20) hC dX12_move_20 rfl 0 rfl ?_
      refine g_RX12_44 (pc := 21) hC hk0 dX12_move_21 ?_
      refine u_iload_n (pc := 24) hC dX12_move_24 rfl 1 rfl ?_
      obtain ⟨b25, h⟩ := of_gd h
      refine u_iald (pc := 25) hC (rs_12_22 hk0) 4 (rn_12_22 hk0) b25 dX12_move_25 ?_
      refine u_if_eq (pc := 26) hC (tgt := 38) dX12_move_26 (by decide) (fun c26 => ?_) (fun c26 => ?_)
      · replace h := of_t c26 h
        refine u_sub [0] rfl ?_
        exact jb38 μ h
      · replace h := of_f c26 h
        refine u_aload_n (pc := 29) hC dX12_move_29 rfl 0 rfl ?_
        refine g_RX12_44 (pc := 30) hC hk0 dX12_move_30 ?_
        refine u_iload_n (pc := 33) hC dX12_move_33 rfl 3 rfl ?_
        obtain ⟨b34, h⟩ := of_gd h
        refine u_iald (pc := 34) hC (rs_12_22 hk0) 4 (rn_12_22 hk0) b34 dX12_move_34 ?_
        refine u_if_ne (pc := 35) hC (tgt := 44) dX12_move_35 (by decide) (fun c35 => ?_) (fun c35 => ?_)
        · replace h := of_t c35 h
          refine u_aload_n (pc := 44) hC dX12_move_44 rfl 0 rfl ?_
          refine g_RX12_44 (pc := 45) hC hk0 dX12_move_45 ?_
          refine u_iload_n (pc := 48) hC dX12_move_48 rfl 1 rfl ?_
          obtain ⟨b49, h⟩ := of_gd h
          refine u_iald (pc := 49) hC (rs_12_22 hk0) 4 (rn_12_22 hk0) b49 dX12_move_49 ?_
          refine u_aload_n (pc := 50) hC dX12_move_50 rfl 0 rfl ?_
          refine g_RX12_44 (pc := 51) hC hk0 dX12_move_51 ?_
          refine u_iload_n (pc := 54) hC dX12_move_54 rfl 3 rfl ?_
          obtain ⟨b55, h⟩ := of_gd h
          refine u_iald (pc := 55) hC (rs_12_22 hk0) 4 (rn_12_22 hk0) b55 dX12_move_55 ?_
          refine u_icmp_eq (pc := 56) hC (tgt := 65) dX12_move_56 (by decide) (fun c56 => ?_) (fun c56 => ?_)
          · replace h := of_t c56 h
            refine u_iload (pc := 65) hC dX12_move_65 5 rfl ?_
            refine u_if_lt (pc := 67) hC (tgt := 106) dX12_move_67 (by decide) (fun c67 => ?_) (fun c67 => ?_)
            · replace h := of_t c67 h
              refine u_sub [0] rfl ?_
              exact jb106 μ h
            · replace h := of_f c67 h
              refine u_iload_n (pc := 70) hC dX12_move_70 rfl 2 rfl ?_
              refine u_if_lt (pc := 71) hC (tgt := 106) dX12_move_71 (by decide) (fun c71 => ?_) (fun c71 => ?_)
              · replace h := of_t c71 h
                refine u_sub [0] rfl ?_
                exact jb106 μ h
              · replace h := of_f c71 h
                refine u_iload (pc := 74) hC dX12_move_74 4 rfl ?_
                refine u_if_lt (pc := 76) hC (tgt := 106) dX12_move_76 (by decide) (fun c76 => ?_) (fun c76 => ?_)
                · replace h := of_t c76 h
                  refine u_sub [0] rfl ?_
                  exact jb106 μ h
                · replace h := of_f c76 h
                  refine u_iload (pc := 79) hC dX12_move_79 5 rfl ?_
                  refine u_aload_n (pc := 81) hC dX12_move_81 rfl 0 rfl ?_
                  refine g_RX12_47 (pc := 82) hC hk0 dX12_move_82 ?_
                  refine u_iload_n (pc := 85) hC dX12_move_85 rfl 1 rfl ?_
                  obtain ⟨b86, h⟩ := of_gd h
                  refine u_iald (pc := 86) hC (rs_12_23 hk0) 4 (rn_12_23 hk0) b86 dX12_move_86 ?_
                  refine u_iload_n (pc := 87) hC dX12_move_87 rfl 2 rfl ?_
                  refine u_isub (pc := 88) hC dX12_move_88 ?_
                  refine u_icmp_gt (pc := 89) hC (tgt := 106) dX12_move_89 (by decide) (fun c89 => ?_) (fun c89 => ?_)
                  · replace h := of_t c89 h
                    refine u_sub [0] rfl ?_
                    exact jb106 μ h
                  · replace h := of_f c89 h
                    refine u_iload (pc := 92) hC dX12_move_92 5 rfl ?_
                    refine u_aload_n (pc := 94) hC dX12_move_94 rfl 0 rfl ?_
                    refine g_RX12_47 (pc := 95) hC hk0 dX12_move_95 ?_
                    refine u_iload_n (pc := 98) hC dX12_move_98 rfl 3 rfl ?_
                    obtain ⟨b99, h⟩ := of_gd h
                    refine u_iald (pc := 99) hC (rs_12_23 hk0) 4 (rn_12_23 hk0) b99 dX12_move_99 ?_
                    refine u_iload (pc := 100) hC dX12_move_100 4 rfl ?_
                    refine u_isub (pc := 102) hC dX12_move_102 ?_
                    refine u_icmp_le (pc := 103) hC (tgt := 112) dX12_move_103 (by decide) (fun c103 => ?_) (fun c103 => ?_)
                    · replace h := of_t c103 h
                      refine u_iconst (pc := 112) hC ic_0 dX12_move_112 ?_
                      refine u_istore (pc := 113) hC dX12_move_113 [(6, .int (0 : Int32)), (0, .ref (gad (cG C) k0)), (1, .int a1), (2, .int a2), (3, .int a3), (4, .int a4), (5, .int a5)] (by decide) rfl ?_
                      obtain ⟨e115, l115, h⟩ := of_bd h
                      refine u_sub [1, 2, 3, 4, 5, 6, 0] rfl ?_
                      refine lw115  e115 ((0 : Int32), μ) l115 ?_
                      show UW C 7 e115 149 [(0, .ref (gad (cG C) k0)), (3, .int a3), (4, .int a4), (5, .int a5)] []
                      refine u_iconst (pc := 149) hC ic_0 dX12_move_149 ?_
                      refine u_istore (pc := 150) hC dX12_move_150 [(6, .int (0 : Int32)), (0, .ref (gad (cG C) k0)), (3, .int a3), (4, .int a4), (5, .int a5)] (by decide) rfl ?_
                      obtain ⟨e152, l152, h⟩ := of_bd h
                      refine u_sub [1, 2, 3, 4, 0] rfl ?_
                      refine lw152  e152 ((0 : Int32), e115) l152 ?_
                      show UW C 7 e152 187 [(5, .int a5)] []
                      refine u_iload (pc := 187) hC dX12_move_187 0 rfl ?_
                      obtain rfl := Option.some.inj h
                      exact u_iret (pc := 189) hC hQ hr ⟨rfl, rfl⟩ dX12_move_189
                    · replace h := of_f c103 h
                      refine u_sub [0] rfl ?_
                      exact jb106 μ h
          · replace h := of_f c56 h
            refine u_aload_n (pc := 59) hC dX12_move_59 rfl 0 rfl ?_
            refine u_iconst (pc := 60) hC ic_5 dX12_move_60 ?_
            obtain ⟨p61, q61, h⟩ := of_bd h
            refine k_RX12_119 (pc := 61) hC (av := [.int (5 : Int32)]) (rest := []) (c_X12_finds (d := d - 1) (by omega) hk0 q61) (by omega) (Nat.le_of_ble_eq_true rfl) hk0 rfl rfl dX12_move_61 ?_
            obtain rfl := Option.some.inj h
            exact u_iret (pc := 64) hC hQ hr ⟨rfl, rfl⟩ dX12_move_64
        · replace h := of_f (fun q => q c35) h
          refine u_sub [0] rfl ?_
          exact jb38 μ h
    · replace h := of_f (fun q => q c11) h
      refine u_sub [0] rfl ?_
      exact jb14 μ h
set_option maxHeartbeats 4000000 in
set_option maxRecDepth 100000 in
theorem c_X12_reads {l : Launch} {G : GG} {d : Nat} (hd : 107 ≤ d) {μ : Mem} {k0 : Nat} (hk0 : isC 12 k0) {a1 : Int32} {r : Int32 × Mem} (h : f_X12_reads μ k0 a1 = some r) : CT l yX12_reads cX12_reads 5 (some .int) d G [.ref (gad G k0), .int a1] μ (RK (some (.int r.1)) r.2) := by
  refine ct_start (by decide) (Nat.le_of_ble_eq_true rfl) (fun C hl1 hG1 hC hQ hr => ?_)
  subst hl1; subst hG1
  have hC : CxOK C cX12_reads 5 RX12 d := hC
  show UW C 5 μ 0 [(0, .ref (gad (cG C) k0)), (1, .int a1)] []
  have lw53 : ∀ (e : (Int32 × Mem)) (s : Int32 × Int32 × Mem), lp (fun s => f_X12_reads_l53 k0 a1 s.1 s.2.1 s.2.2) FU s = some e → (fun (e : (Int32 × Mem)) => UW C 5 e.2 122 [(2, .int e.1)] []) e → UW C 5 s.2.2 53 [(0, .ref (gad (cG C) k0)), (1, .int a1), (2, .int s.1), (3, .int s.2.1)] [] := by
    intro e s hl hE0
    refine @lp_walk (Int32 × Int32 × Mem) (Int32 × Mem) (fun s => f_X12_reads_l53 k0 a1 s.1 s.2.1 s.2.2) (fun s => UW C 5 s.2.2 53 [(0, .ref (gad (cG C) k0)), (1, .int a1), (2, .int s.1), (3, .int s.2.1)] []) (fun (e : (Int32 × Mem)) => UW C 5 e.2 122 [(2, .int e.1)] []) (fun s y53 h hP53 hE53 => ?_) FU s e hl hE0
    have jb104 : ∀ (μ_104 : Mem) (v2_104 : Int32) (v4_104 : Int32) (vt0_104 : Int32), f_X12_reads_j104 μ_104 k0 a1 v2_104 v4_104 vt0_104 = some y53 → UW C 5 μ_104 104 [(0, .ref (gad (cG C) k0)), (1, .int a1), (2, .int v2_104), (4, .int v4_104)] [.int vt0_104] := by
      intro μ_104 v2_104 v4_104 vt0_104 h
      unfold f_X12_reads_j104 at h
      refine u_istore_n (pc := 104) hC dX12_reads_104 rfl [(3, .int vt0_104), (0, .ref (gad (cG C) k0)), (1, .int a1), (2, .int v2_104), (4, .int v4_104)] (by decide) rfl ?_
      refine u_iload_n (pc := 105) hC dX12_reads_105 rfl 0 rfl ?_
      refine u_if_eq (pc := 106) hC (tgt := 119) dX12_reads_106 (by decide) (fun c106 => ?_) (fun c106 => ?_)
      · replace h := of_t c106 h
        refine u_goto (pc := 119) hC 53 dX12_reads_119 (by decide) ?_
        obtain rfl := Option.some.inj h
        refine u_sub [1, 2, 3, 0] rfl ?_
        exact hP53 (v2_104, vt0_104, μ_104) rfl
      · replace h := of_f c106 h
        refine u_aload_n (pc := 109) hC dX12_reads_109 rfl 1 rfl ?_
        refine u_iconst (pc := 110) hC ic_0 dX12_reads_110 ?_
        refine u_iload (pc := 111) hC dX12_reads_111 4 rfl ?_
        obtain ⟨μ113, q113, h⟩ := of_bd h
        refine k_RX12_213 (pc := 113) hC (av := [.int (0 : Int32), .int v4_104]) (rest := []) (c_X12_tellsNow (d := d - 1) (by omega) hk0 q113) (by omega) (Nat.le_of_ble_eq_true rfl) hk0 rfl rfl dX12_reads_113 ?_
        refine u_iinc (pc := 116) hC dX12_reads_116 3 rfl (v2_104 + 1) rfl [(2, .int (v2_104 + 1)), (3, .int vt0_104), (0, .ref (gad (cG C) k0)), (1, .int a1), (4, .int v4_104)] (by decide) rfl ?_
        refine u_goto (pc := 119) hC 53 dX12_reads_119 (by decide) ?_
        obtain rfl := Option.some.inj h
        refine u_sub [2, 3, 0, 1] rfl ?_
        exact hP53 (v2_104 + 1, vt0_104, μ113) rfl
    have jb103 : ∀ (μ_103 : Mem) (v2_103 : Int32) (v4_103 : Int32), f_X12_reads_j103 μ_103 k0 a1 v2_103 v4_103 = some y53 → UW C 5 μ_103 103 [(0, .ref (gad (cG C) k0)), (1, .int a1), (2, .int v2_103), (4, .int v4_103)] [] := by
      intro μ_103 v2_103 v4_103 h
      unfold f_X12_reads_j103 at h
      refine u_iconst (pc := 103) hC ic_0 dX12_reads_103 ?_
      exact jb104 μ_103 v2_103 v4_103 (0 : Int32) h
    obtain ⟨v2_53, v3_53, μ_53⟩ := s
    replace h : f_X12_reads_l53 k0 a1 v2_53 v3_53 μ_53 = some y53 := h
    show UW C 5 μ_53 53 [(0, .ref (gad (cG C) k0)), (1, .int a1), (2, .int v2_53), (3, .int v3_53)] []
    unfold f_X12_reads_l53 at h
    refine u_iload_n (pc := 53) hC dX12_reads_53 rfl 2 rfl ?_
    refine u_aload_n (pc := 54) hC dX12_reads_54 rfl 0 rfl ?_
    refine g_RX12_47 (pc := 55) hC hk0 dX12_reads_55 ?_
    refine u_iload_n (pc := 58) hC dX12_reads_58 rfl 1 rfl ?_
    obtain ⟨b59, h⟩ := of_gd h
    refine u_iald (pc := 59) hC (rs_12_23 hk0) 4 (rn_12_23 hk0) b59 dX12_reads_59 ?_
    refine u_icmp_ge (pc := 60) hC (tgt := 122) dX12_reads_60 (by decide) (fun c60 => ?_) (fun c60 => ?_)
    · replace h := of_t c60 h
      obtain rfl := Option.some.inj h
      refine u_sub [2] rfl ?_
      exact hE53 (v2_53, μ_53) rfl
    · replace h := of_f c60 h
      refine u_iload_n (pc := 63) hC dX12_reads_63 rfl 3 rfl ?_
      refine u_if_eq (pc := 64) hC (tgt := 122) dX12_reads_64 (by decide) (fun c64 => ?_) (fun c64 => ?_)
      · replace h := of_t c64 h
        obtain rfl := Option.some.inj h
        refine u_sub [2] rfl ?_
        exact hE53 (v2_53, μ_53) rfl
      · replace h := of_f c64 h
        refine u_aload_n (pc := 67) hC dX12_reads_67 rfl 0 rfl ?_
        refine g_RX12_50 (pc := 68) hC hk0 dX12_reads_68 ?_
        refine u_bipush (pc := 71) hC bc_40 dX12_reads_71 ?_
        refine u_iload_n (pc := 73) hC dX12_reads_73 rfl 1 rfl ?_
        refine u_imul (pc := 74) hC dX12_reads_74 ?_
        refine u_iload_n (pc := 75) hC dX12_reads_75 rfl 2 rfl ?_
        refine u_iadd (pc := 76) hC dX12_reads_76 ?_
        obtain ⟨b77, h⟩ := of_gd h
        refine u_iald (pc := 77) hC (rs_12_24 hk0) 160 (rn_12_24 hk0) b77 dX12_reads_77 ?_
        refine u_istore (pc := 78) hC dX12_reads_78 [(4, .int (rd μ_53 (rf k0 24) (((40 : Int32) * a1) + v2_53).toNatClampNeg)), (0, .ref (gad (cG C) k0)), (1, .int a1), (2, .int v2_53), (3, .int v3_53)] (by decide) rfl ?_
        refine u_aload_n (pc := 80) hC dX12_reads_80 rfl 1 rfl ?_
        refine u_iload (pc := 81) hC dX12_reads_81 0 rfl ?_
        obtain ⟨r83, q83, h⟩ := of_bd h
        refine k_RX12_141 (pc := 83) hC (av := [.int (rd μ_53 (rf k0 24) (((40 : Int32) * a1) + v2_53).toNatClampNeg)]) (rest := []) (c_X12_isFact (d := d - 1) (by omega) hk0 q83) (by omega) (Nat.le_of_ble_eq_true rfl) hk0 rfl rfl dX12_reads_83 ?_
        refine u_if_eq (pc := 86) hC (tgt := 103) dX12_reads_86 (by decide) (fun c86 => ?_) (fun c86 => ?_)
        · replace h := of_t c86 h
          refine u_sub [1, 2, 3, 0] rfl ?_
          exact jb103 μ_53 v2_53 (rd μ_53 (rf k0 24) (((40 : Int32) * a1) + v2_53).toNatClampNeg) h
        · replace h := of_f c86 h
          refine u_aload_n (pc := 89) hC dX12_reads_89 rfl 1 rfl ?_
          refine u_iconst (pc := 90) hC ic_0 dX12_reads_90 ?_
          refine u_iload (pc := 91) hC dX12_reads_91 0 rfl ?_
          obtain ⟨r93, q93, h⟩ := of_bd h
          refine k_RX12_164 (pc := 93) hC (av := [.int (0 : Int32), .int (rd μ_53 (rf k0 24) (((40 : Int32) * a1) + v2_53).toNatClampNeg)]) (rest := []) (c_X12_mayTell (d := d - 1) (by omega) hk0 q93) (by omega) (Nat.le_of_ble_eq_true rfl) hk0 rfl rfl dX12_reads_93 ?_
          refine u_if_eq (pc := 96) hC (tgt := 103) dX12_reads_96 (by decide) (fun c96 => ?_) (fun c96 => ?_)
          · replace h := of_t c96 h
            refine u_sub [1, 2, 3, 0] rfl ?_
            exact jb103 μ_53 v2_53 (rd μ_53 (rf k0 24) (((40 : Int32) * a1) + v2_53).toNatClampNeg) h
          · replace h := of_f c96 h
            refine u_iconst (pc := 99) hC ic_1 dX12_reads_99 ?_
            refine u_goto (pc := 100) hC 104 dX12_reads_100 (by decide) ?_
            refine u_sub [1, 2, 3, 0] rfl ?_
            exact jb104 μ_53 v2_53 (rd μ_53 (rf k0 24) (((40 : Int32) * a1) + v2_53).toNatClampNeg) (1 : Int32) h
  have jb52 : ∀ (μ_52 : Mem) (v2_52 : Int32) (vt0_52 : Int32), f_X12_reads_j52 μ_52 k0 a1 v2_52 vt0_52 = some r → UW C 5 μ_52 52 [(0, .ref (gad (cG C) k0)), (1, .int a1), (2, .int v2_52)] [.int vt0_52] := by
    intro μ_52 v2_52 vt0_52 h
    unfold f_X12_reads_j52 at h
    refine u_istore_n (pc := 52) hC dX12_reads_52 rfl [(3, .int vt0_52), (0, .ref (gad (cG C) k0)), (1, .int a1), (2, .int v2_52)] (by decide) rfl ?_
    obtain ⟨e53, l53, h⟩ := of_bd h
    refine u_sub [1, 2, 3, 0] rfl ?_
    refine lw53  e53 (v2_52, vt0_52, μ_52) l53 ?_
    show UW C 5 e53.2 122 [(2, .int e53.1)] []
    refine u_iload_n (pc := 122) hC dX12_reads_122 rfl 0 rfl ?_
    obtain rfl := Option.some.inj h
    exact u_iret (pc := 123) hC hQ hr ⟨rfl, rfl⟩ dX12_reads_123
  have jb51 : ∀ (μ_51 : Mem) (v2_51 : Int32), f_X12_reads_j51 μ_51 k0 a1 v2_51 = some r → UW C 5 μ_51 51 [(0, .ref (gad (cG C) k0)), (1, .int a1), (2, .int v2_51)] [] := by
    intro μ_51 v2_51 h
    unfold f_X12_reads_j51 at h
    refine u_iconst (pc := 51) hC ic_0 dX12_reads_51 ?_
    exact jb52 μ_51 v2_51 (0 : Int32) h
  unfold f_X12_reads at h
  refine u_iload_n (pc := 0) hC dX12_reads_0 rfl 1 rfl ?_
  obtain ⟨r1, q1, h⟩ := of_bd h
  refine k_RX12_273 (pc := 1) hC (av := [.int a1]) (rest := []) (c_X12_isSheet (d := d - 1) (by omega)  q1) (by omega) (Nat.le_of_ble_eq_true rfl) rfl rfl dX12_reads_1 ?_
  refine u_if_ne (pc := 4) hC (tgt := 13) dX12_reads_4 (by decide) (fun c4 => ?_) (fun c4 => ?_)
  · replace h := of_t c4 h
    refine u_aload_n (pc := 13) hC dX12_reads_13 rfl 0 rfl ?_
    refine g_RX12_44 (pc := 14) hC hk0 dX12_reads_14 ?_
    refine u_iload_n (pc := 17) hC dX12_reads_17 rfl 1 rfl ?_
    obtain ⟨b18, h⟩ := of_gd h
    refine u_iald (pc := 18) hC (rs_12_22 hk0) 4 (rn_12_22 hk0) b18 dX12_reads_18 ?_
    refine u_if_ne (pc := 19) hC (tgt := 28) dX12_reads_19 (by decide) (fun c19 => ?_) (fun c19 => ?_)
    · replace h := of_t c19 h
      refine u_iconst (pc := 28) hC ic_0 dX12_reads_28 ?_
      refine u_istore_n (pc := 29) hC dX12_reads_29 rfl [(2, .int (0 : Int32)), (0, .ref (gad (cG C) k0)), (1, .int a1)] (by decide) rfl ?_
      refine u_aload_n (pc := 30) hC dX12_reads_30 rfl 1 rfl ?_
      refine u_iconst (pc := 31) hC ic_0 dX12_reads_31 ?_
      obtain ⟨r32, q32, h⟩ := of_bd h
      refine k_RX12_197 (pc := 32) hC (av := [.int (0 : Int32)]) (rest := []) (c_X12_isDebtor (d := d - 1) (by omega) hk0 q32) (by omega) (Nat.le_of_ble_eq_true rfl) hk0 rfl rfl dX12_reads_32 ?_
      refine u_if_eq (pc := 35) hC (tgt := 51) dX12_reads_35 (by decide) (fun c35 => ?_) (fun c35 => ?_)
      · replace h := of_t c35 h
        refine u_sub [1, 2, 0] rfl ?_
        exact jb51 μ (0 : Int32) h
      · replace h := of_f c35 h
        refine u_aload_n (pc := 38) hC dX12_reads_38 rfl 1 rfl ?_
        refine u_iconst (pc := 39) hC ic_0 dX12_reads_39 ?_
        refine u_iconst (pc := 40) hC ic_3 dX12_reads_40 ?_
        obtain ⟨r41, q41, h⟩ := of_bd h
        refine k_RX12_150 (pc := 41) hC (av := [.int (0 : Int32), .int (3 : Int32)]) (rest := []) (c_X12_of (d := d - 1) (by omega) hk0 q41) (by omega) (Nat.le_of_ble_eq_true rfl) hk0 rfl rfl dX12_reads_41 ?_
        refine u_if_ne (pc := 44) hC (tgt := 51) dX12_reads_44 (by decide) (fun c44 => ?_) (fun c44 => ?_)
        · replace h := of_t c44 h
          refine u_sub [1, 2, 0] rfl ?_
          exact jb51 μ (0 : Int32) h
        · replace h := of_f (fun q => q c44) h
          refine u_iconst (pc := 47) hC ic_1 dX12_reads_47 ?_
          refine u_goto (pc := 48) hC 52 dX12_reads_48 (by decide) ?_
          refine u_sub [1, 2, 0] rfl ?_
          exact jb52 μ (0 : Int32) (1 : Int32) h
    · replace h := of_f (fun q => q c19) h
      refine u_aload_n (pc := 22) hC dX12_reads_22 rfl 0 rfl ?_
      refine u_iconst (pc := 23) hC ic_2 dX12_reads_23 ?_
      obtain ⟨p24, q24, h⟩ := of_bd h
      refine k_RX12_119 (pc := 24) hC (av := [.int (2 : Int32)]) (rest := []) (c_X12_finds (d := d - 1) (by omega) hk0 q24) (by omega) (Nat.le_of_ble_eq_true rfl) hk0 rfl rfl dX12_reads_24 ?_
      obtain rfl := Option.some.inj h
      exact u_iret (pc := 27) hC hQ hr ⟨rfl, rfl⟩ dX12_reads_27
  · replace h := of_f (fun q => q c4) h
    refine u_aload_n (pc := 7) hC dX12_reads_7 rfl 0 rfl ?_
    refine u_iconst (pc := 8) hC ic_1 dX12_reads_8 ?_
    obtain ⟨p9, q9, h⟩ := of_bd h
    refine k_RX12_119 (pc := 9) hC (av := [.int (1 : Int32)]) (rest := []) (c_X12_finds (d := d - 1) (by omega) hk0 q9) (by omega) (Nat.le_of_ble_eq_true rfl) hk0 rfl rfl dX12_reads_9 ?_
    obtain rfl := Option.some.inj h
    exact u_iret (pc := 12) hC hQ hr ⟨rfl, rfl⟩ dX12_reads_12
set_option maxHeartbeats 4000000 in
set_option maxRecDepth 100000 in
theorem c_X12_judge {l : Launch} {G : GG} {d : Nat} (hd : 2 ≤ d) {μ : Mem} {k0 : Nat} (hk0 : isC 12 k0) {a1 : Int32} {a2 : Int32} {r : Int32 × Mem} (h : f_X12_judge μ k0 a1 a2 = some r) : CT l yX12_judge cX12_judge 5 (some .int) d G [.ref (gad G k0), .int a1, .int a2] μ (RK (some (.int r.1)) r.2) := by
  refine ct_start (by decide) (Nat.le_of_ble_eq_true rfl) (fun C hl1 hG1 hC hQ hr => ?_)
  subst hl1; subst hG1
  have hC : CxOK C cX12_judge 5 RX12 d := hC
  show UW C 5 μ 0 [(0, .ref (gad (cG C) k0)), (1, .int a1), (2, .int a2)] []
  have jb93 : ∀ (μ_93 : Mem) (v3_93 : Int32) (v4_93 : Int32), f_X12_judge_j93 μ_93 k0 a1 a2 v3_93 v4_93 = some r → UW C 5 μ_93 93 [(0, .ref (gad (cG C) k0)), (1, .int a1), (3, .int v3_93), (4, .int v4_93)] [] := by
    intro μ_93 v3_93 v4_93 h
    unfold f_X12_judge_j93 at h
    refine u_iload (pc := 93) hC dX12_judge_93 3 rfl ?_
    refine u_aload_n (pc := 95) hC dX12_judge_95 rfl 0 rfl ?_
    refine g_RX12_47 (pc := 96) hC hk0 dX12_judge_96 ?_
    refine u_iload_n (pc := 99) hC dX12_judge_99 rfl 1 rfl ?_
    obtain ⟨b100, h⟩ := of_gd h
    refine u_iald (pc := 100) hC (rs_12_23 hk0) 4 (rn_12_23 hk0) b100 dX12_judge_100 ?_
    refine u_icmp_ne (pc := 101) hC (tgt := 114) dX12_judge_101 (by decide) (fun c101 => ?_) (fun c101 => ?_)
    · replace h := of_t c101 h
      refine u_iload (pc := 114) hC dX12_judge_114 3 rfl ?_
      obtain rfl := Option.some.inj h
      exact u_iret (pc := 116) hC hQ hr ⟨rfl, rfl⟩ dX12_judge_116
    · replace h := of_f (fun q => q c101) h
      refine u_iload (pc := 104) hC dX12_judge_104 3 rfl ?_
      refine u_iload_n (pc := 106) hC dX12_judge_106 rfl 2 rfl ?_
      refine u_icmp_ne (pc := 107) hC (tgt := 114) dX12_judge_107 (by decide) (fun c107 => ?_) (fun c107 => ?_)
      · replace h := of_t c107 h
        refine u_iload (pc := 114) hC dX12_judge_114 3 rfl ?_
        obtain rfl := Option.some.inj h
        exact u_iret (pc := 116) hC hQ hr ⟨rfl, rfl⟩ dX12_judge_116
      · replace h := of_f (fun q => q c107) h
        refine u_iconst (pc := 110) hC ic_m1 dX12_judge_110 ?_
        refine u_goto (pc := 111) hC 116 dX12_judge_111 (by decide) ?_
        obtain rfl := Option.some.inj h
        exact u_iret (pc := 116) hC hQ hr ⟨rfl, rfl⟩ dX12_judge_116
  have lw46 : ∀ (μ_46 : Mem) (v3_46 : Int32) (e : (Int32)) (s : Int32), lp (fun s => f_X12_judge_l46 μ_46 k0 a1 a2 v3_46 s) FU s = some e → (fun (e : (Int32)) => UW C 5 μ_46 93 [(0, .ref (gad (cG C) k0)), (1, .int a1), (3, .int v3_46), (4, .int e)] []) e → UW C 5 μ_46 46 [(0, .ref (gad (cG C) k0)), (1, .int a1), (2, .int a2), (3, .int v3_46), (4, .int s)] [] := by
    intro μ_46 v3_46 e s hl hE0
    refine @lp_walk (Int32) (Int32) (fun s => f_X12_judge_l46 μ_46 k0 a1 a2 v3_46 s) (fun s => UW C 5 μ_46 46 [(0, .ref (gad (cG C) k0)), (1, .int a1), (2, .int a2), (3, .int v3_46), (4, .int s)] []) (fun (e : (Int32)) => UW C 5 μ_46 93 [(0, .ref (gad (cG C) k0)), (1, .int a1), (3, .int v3_46), (4, .int e)] []) (fun v4_46 y46 h hP46 hE46 => ?_) FU s e hl hE0
    replace h : f_X12_judge_l46 μ_46 k0 a1 a2 v3_46 v4_46 = some y46 := h
    show UW C 5 μ_46 46 [(0, .ref (gad (cG C) k0)), (1, .int a1), (2, .int a2), (3, .int v3_46), (4, .int v4_46)] []
    unfold f_X12_judge_l46 at h
    refine u_iload (pc := 46) hC dX12_judge_46 4 rfl ?_
    refine u_aload_n (pc := 48) hC dX12_judge_48 rfl 0 rfl ?_
    refine g_RX12_47 (pc := 49) hC hk0 dX12_judge_49 ?_
    refine u_iload_n (pc := 52) hC dX12_judge_52 rfl 1 rfl ?_
    obtain ⟨b53, h⟩ := of_gd h
    refine u_iald (pc := 53) hC (rs_12_23 hk0) 4 (rn_12_23 hk0) b53 dX12_judge_53 ?_
    refine u_icmp_ge (pc := 54) hC (tgt := 93) dX12_judge_54 (by decide) (fun c54 => ?_) (fun c54 => ?_)
    · replace h := of_t c54 h
      obtain rfl := Option.some.inj h
      refine u_sub [0, 1, 3, 4] rfl ?_
      exact hE46 v4_46 rfl
    · replace h := of_f c54 h
      refine u_iload (pc := 57) hC dX12_judge_57 4 rfl ?_
      refine u_iload_n (pc := 59) hC dX12_judge_59 rfl 3 rfl ?_
      refine u_icmp_ge (pc := 60) hC (tgt := 93) dX12_judge_60 (by decide) (fun c60 => ?_) (fun c60 => ?_)
      · replace h := of_t c60 h
        obtain rfl := Option.some.inj h
        refine u_sub [0, 1, 3, 4] rfl ?_
        exact hE46 v4_46 rfl
      · replace h := of_f c60 h
        refine u_aload_n (pc := 63) hC dX12_judge_63 rfl 0 rfl ?_
        refine g_RX12_50 (pc := 64) hC hk0 dX12_judge_64 ?_
        refine u_bipush (pc := 67) hC bc_40 dX12_judge_67 ?_
        refine u_iload_n (pc := 69) hC dX12_judge_69 rfl 1 rfl ?_
        refine u_imul (pc := 70) hC dX12_judge_70 ?_
        refine u_iload (pc := 71) hC dX12_judge_71 4 rfl ?_
        refine u_iadd (pc := 73) hC dX12_judge_73 ?_
        obtain ⟨b74, h⟩ := of_gd h
        refine u_iald (pc := 74) hC (rs_12_24 hk0) 160 (rn_12_24 hk0) b74 dX12_judge_74 ?_
        refine u_aload_n (pc := 75) hC dX12_judge_75 rfl 0 rfl ?_
        refine u_iload_n (pc := 76) hC dX12_judge_76 rfl 2 rfl ?_
        refine u_iconst (pc := 77) hC ic_5 dX12_judge_77 ?_
        refine u_iload (pc := 78) hC dX12_judge_78 4 rfl ?_
        refine u_iadd (pc := 80) hC dX12_judge_80 ?_
        obtain ⟨r81, q81, h⟩ := of_bd h
        refine k_RX12_150 (pc := 81) hC (av := [.int a2, .int ((5 : Int32) + v4_46)]) (rest := [.int (rd μ_46 (rf k0 24) (((40 : Int32) * a1) + v4_46).toNatClampNeg)]) (c_X12_of (d := d - 1) (by omega) hk0 q81) (by omega) (Nat.le_of_ble_eq_true rfl) hk0 rfl rfl dX12_judge_81 ?_
        refine u_icmp_ne (pc := 84) hC (tgt := 93) dX12_judge_84 (by decide) (fun c84 => ?_) (fun c84 => ?_)
        · replace h := of_t c84 h
          obtain rfl := Option.some.inj h
          refine u_sub [0, 1, 3, 4] rfl ?_
          exact hE46 v4_46 rfl
        · replace h := of_f (fun q => q c84) h
          refine u_iinc (pc := 87) hC dX12_judge_87 4 rfl (v4_46 + 1) rfl [(4, .int (v4_46 + 1)), (0, .ref (gad (cG C) k0)), (1, .int a1), (2, .int a2), (3, .int v3_46)] (by decide) rfl ?_
          refine u_goto (pc := 90) hC 46 dX12_judge_90 (by decide) ?_
          obtain rfl := Option.some.inj h
          refine u_sub [1, 2, 3, 4, 0] rfl ?_
          exact hP46 (v4_46 + 1) rfl
  have jb15 : ∀ (μ_15 : Mem), f_X12_judge_j15 μ_15 k0 a1 a2 = some r → UW C 5 μ_15 15 [(0, .ref (gad (cG C) k0))] [] := by
    intro μ_15 h
    unfold f_X12_judge_j15 at h
    refine u_aload_n (pc := 15) hC dX12_judge_15 rfl 0 rfl ?_
    refine u_iconst (pc := 16) hC ic_1 dX12_judge_16 ?_
    obtain ⟨p17, q17, h⟩ := of_bd h
    refine k_RX12_119 (pc := 17) hC (av := [.int (1 : Int32)]) (rest := []) (c_X12_finds (d := d - 1) (by omega) hk0 q17) (by omega) (Nat.le_of_ble_eq_true rfl) hk0 rfl rfl dX12_judge_17 ?_
    obtain rfl := Option.some.inj h
    exact u_iret (pc := 20) hC hQ hr ⟨rfl, rfl⟩ dX12_judge_20
  unfold f_X12_judge at h
  refine u_iload_n (pc := 0) hC dX12_judge_0 rfl 1 rfl ?_
  obtain ⟨r1, q1, h⟩ := of_bd h
  refine k_RX12_273 (pc := 1) hC (av := [.int a1]) (rest := []) (c_X12_isSheet (d := d - 1) (by omega)  q1) (by omega) (Nat.le_of_ble_eq_true rfl) rfl rfl dX12_judge_1 ?_
  refine u_if_eq (pc := 4) hC (tgt := 15) dX12_judge_4 (by decide) (fun c4 => ?_) (fun c4 => ?_)
  · replace h := of_t c4 h
    refine u_sub [0] rfl ?_
    exact jb15 μ h
  · replace h := of_f c4 h
    refine u_aload_n (pc := 7) hC dX12_judge_7 rfl 0 rfl ?_
    refine u_iload_n (pc := 8) hC dX12_judge_8 rfl 2 rfl ?_
    obtain ⟨r9, q9, h⟩ := of_bd h
    refine k_RX12_197 (pc := 9) hC (av := [.int a2]) (rest := []) (c_X12_isDebtor (d := d - 1) (by omega) hk0 q9) (by omega) (Nat.le_of_ble_eq_true rfl) hk0 rfl rfl dX12_judge_9 ?_
    refine u_if_ne (pc := 12) hC (tgt := 21) dX12_judge_12 (by decide) (fun c12 => ?_) (fun c12 => ?_)
    · replace h := of_t c12 h
      refine u_aload_n (pc := 21) hC dX12_judge_21 rfl 0 rfl ?_
      refine g_RX12_44 (pc := 22) hC hk0 dX12_judge_22 ?_
      refine u_iload_n (pc := 25) hC dX12_judge_25 rfl 1 rfl ?_
      obtain ⟨b26, h⟩ := of_gd h
      refine u_iald (pc := 26) hC (rs_12_22 hk0) 4 (rn_12_22 hk0) b26 dX12_judge_26 ?_
      refine u_if_ne (pc := 27) hC (tgt := 36) dX12_judge_27 (by decide) (fun c27 => ?_) (fun c27 => ?_)
      · replace h := of_t c27 h
        refine u_aload_n (pc := 36) hC dX12_judge_36 rfl 0 rfl ?_
        refine u_iload_n (pc := 37) hC dX12_judge_37 rfl 2 rfl ?_
        refine u_iconst (pc := 38) hC ic_4 dX12_judge_38 ?_
        obtain ⟨r39, q39, h⟩ := of_bd h
        refine k_RX12_150 (pc := 39) hC (av := [.int a2, .int (4 : Int32)]) (rest := []) (c_X12_of (d := d - 1) (by omega) hk0 q39) (by omega) (Nat.le_of_ble_eq_true rfl) hk0 rfl rfl dX12_judge_39 ?_
        refine u_istore_n (pc := 42) hC dX12_judge_42 rfl [(3, .int r39), (0, .ref (gad (cG C) k0)), (1, .int a1), (2, .int a2)] (by decide) rfl ?_
        refine u_iconst (pc := 43) hC ic_0 dX12_judge_43 ?_
        refine u_istore (pc := 44) hC dX12_judge_44 [(4, .int (0 : Int32)), (3, .int r39), (0, .ref (gad (cG C) k0)), (1, .int a1), (2, .int a2)] (by decide) rfl ?_
        obtain ⟨e46, l46, h⟩ := of_bd h
        refine u_sub [2, 3, 4, 1, 0] rfl ?_
        refine lw46 μ r39 e46 (0 : Int32) l46 ?_
        show UW C 5 μ 93 [(0, .ref (gad (cG C) k0)), (1, .int a1), (3, .int r39), (4, .int e46)] []
        exact jb93 μ r39 e46 h
      · replace h := of_f (fun q => q c27) h
        refine u_aload_n (pc := 30) hC dX12_judge_30 rfl 0 rfl ?_
        refine u_iconst (pc := 31) hC ic_2 dX12_judge_31 ?_
        obtain ⟨p32, q32, h⟩ := of_bd h
        refine k_RX12_119 (pc := 32) hC (av := [.int (2 : Int32)]) (rest := []) (c_X12_finds (d := d - 1) (by omega) hk0 q32) (by omega) (Nat.le_of_ble_eq_true rfl) hk0 rfl rfl dX12_judge_32 ?_
        obtain rfl := Option.some.inj h
        exact u_iret (pc := 35) hC hQ hr ⟨rfl, rfl⟩ dX12_judge_35
    · replace h := of_f (fun q => q c12) h
      refine u_sub [0] rfl ?_
      exact jb15 μ h
set_option maxHeartbeats 4000000 in
set_option maxRecDepth 100000 in
theorem c_X12_image {l : Launch} {G : GG} {d : Nat} (hd : 0 ≤ d) {μ : Mem} {k0 : Nat} (hk0 : isC 12 k0) {r : Int32 × Mem} (h : f_X12_image μ k0 = some r) : CT l yX12_image cX12_image 2 (some .int) d G [.ref (gad G k0)] μ (RK (some (.int r.1)) r.2) := by
  refine ct_start (by decide) (Nat.le_of_ble_eq_true rfl) (fun C hl1 hG1 hC hQ hr => ?_)
  subst hl1; subst hG1
  have hC : CxOK C cX12_image 2 RX12 d := hC
  show UW C 2 μ 0 [(0, .ref (gad (cG C) k0))] []
  have lw2 : ∀ (e : (Mem)) (s : Int32 × Mem), lp (fun s => f_X12_image_l2 k0 s.1 s.2) FU s = some e → (fun (e : (Mem)) => UW C 2 e 27 [(0, .ref (gad (cG C) k0))] []) e → UW C 2 s.2 2 [(0, .ref (gad (cG C) k0)), (1, .int s.1)] [] := by
    intro e s hl hE0
    refine @lp_walk (Int32 × Mem) (Mem) (fun s => f_X12_image_l2 k0 s.1 s.2) (fun s => UW C 2 s.2 2 [(0, .ref (gad (cG C) k0)), (1, .int s.1)] []) (fun (e : (Mem)) => UW C 2 e 27 [(0, .ref (gad (cG C) k0))] []) (fun s y2 h hP2 hE2 => ?_) FU s e hl hE0
    obtain ⟨v1_2, μ_2⟩ := s
    replace h : f_X12_image_l2 k0 v1_2 μ_2 = some y2 := h
    show UW C 2 μ_2 2 [(0, .ref (gad (cG C) k0)), (1, .int v1_2)] []
    unfold f_X12_image_l2 at h
    refine u_iload_n (pc := 2) hC dX12_image_2 rfl 1 rfl ?_
    refine u_sipush (pc := 3) hC sc_342 dX12_image_3 ?_
    refine u_icmp_ge (pc := 6) hC (tgt := 27) dX12_image_6 (by decide) (fun c6 => ?_) (fun c6 => ?_)
    · replace h := of_t c6 h
      obtain rfl := Option.some.inj h
      refine u_sub [0] rfl ?_
      exact hE2 μ_2 rfl
    · replace h := of_f c6 h
      refine u_aload_n (pc := 9) hC dX12_image_9 rfl 0 rfl ?_
      refine g_RX12_13 (pc := 10) hC hk0 dX12_image_10 ?_
      refine u_iload_n (pc := 13) hC dX12_image_13 rfl 1 rfl ?_
      refine u_aload_n (pc := 14) hC dX12_image_14 rfl 0 rfl ?_
      refine g_RX12_7 (pc := 15) hC hk0 dX12_image_15 ?_
      refine u_iload_n (pc := 18) hC dX12_image_18 rfl 1 rfl ?_
      obtain ⟨b19, h⟩ := of_gd h
      refine u_iald (pc := 19) hC (rs_12_0 hk0) 342 (rn_12_0 hk0) b19 dX12_image_19 ?_
      obtain ⟨b20, h⟩ := of_gd h
      obtain ⟨m20, q20, h⟩ := of_bd h
      refine u_iast (pc := 20) hC (rs_12_1 hk0) 342 (rn_12_1 hk0) b20 dX12_image_20 (Option.some.inj q20) ?_
      refine u_iinc (pc := 21) hC dX12_image_21 1 rfl (v1_2 + 1) rfl [(1, .int (v1_2 + 1)), (0, .ref (gad (cG C) k0))] (by decide) rfl ?_
      refine u_goto (pc := 24) hC 2 dX12_image_24 (by decide) ?_
      obtain rfl := Option.some.inj h
      refine u_sub [1, 0] rfl ?_
      exact hP2 (v1_2 + 1, m20) rfl
  unfold f_X12_image at h
  refine u_iconst (pc := 0) hC ic_0 dX12_image_0 ?_
  refine u_istore_n (pc := 1) hC dX12_image_1 rfl [(1, .int (0 : Int32)), (0, .ref (gad (cG C) k0))] (by decide) rfl ?_
  obtain ⟨e2, l2, h⟩ := of_bd h
  refine u_sub [1, 0] rfl ?_
  refine lw2  e2 ((0 : Int32), μ) l2 ?_
  show UW C 2 e2 27 [(0, .ref (gad (cG C) k0))] []
  refine u_aload_n (pc := 27) hC dX12_image_27 rfl 0 rfl ?_
  refine u_dup (pc := 28) hC rfl dX12_image_28 ?_
  refine g_RX12_311 (pc := 29) hC hk0 dX12_image_29 ?_
  refine u_iconst (pc := 32) hC ic_1 dX12_image_32 ?_
  refine u_iadd (pc := 33) hC dX12_image_33 ?_
  obtain ⟨m34, q34, h⟩ := of_bd h
  refine p_RX12_311 (pc := 34) hC hk0 dX12_image_34 (Option.some.inj q34) ?_
  refine u_aload_n (pc := 37) hC dX12_image_37 rfl 0 rfl ?_
  refine g_RX12_311 (pc := 38) hC hk0 dX12_image_38 ?_
  obtain rfl := Option.some.inj h
  exact u_iret (pc := 41) hC hQ hr ⟨rfl, rfl⟩ dX12_image_41
set_option maxHeartbeats 4000000 in
set_option maxRecDepth 100000 in
theorem c_X12_restore {l : Launch} {G : GG} {d : Nat} (hd : 1 ≤ d) {μ : Mem} {k0 : Nat} (hk0 : isC 12 k0) {r : Int32 × Mem} (h : f_X12_restore μ k0 = some r) : CT l yX12_restore cX12_restore 2 (some .int) d G [.ref (gad G k0)] μ (RK (some (.int r.1)) r.2) := by
  refine ct_start (by decide) (Nat.le_of_ble_eq_true rfl) (fun C hl1 hG1 hC hQ hr => ?_)
  subst hl1; subst hG1
  have hC : CxOK C cX12_restore 2 RX12 d := hC
  show UW C 2 μ 0 [(0, .ref (gad (cG C) k0))] []
  have lw15 : ∀ (e : (Mem)) (s : Int32 × Mem), lp (fun s => f_X12_restore_l15 k0 s.1 s.2) FU s = some e → (fun (e : (Mem)) => UW C 2 e 40 [(0, .ref (gad (cG C) k0))] []) e → UW C 2 s.2 15 [(0, .ref (gad (cG C) k0)), (1, .int s.1)] [] := by
    intro e s hl hE0
    refine @lp_walk (Int32 × Mem) (Mem) (fun s => f_X12_restore_l15 k0 s.1 s.2) (fun s => UW C 2 s.2 15 [(0, .ref (gad (cG C) k0)), (1, .int s.1)] []) (fun (e : (Mem)) => UW C 2 e 40 [(0, .ref (gad (cG C) k0))] []) (fun s y15 h hP15 hE15 => ?_) FU s e hl hE0
    obtain ⟨v1_15, μ_15⟩ := s
    replace h : f_X12_restore_l15 k0 v1_15 μ_15 = some y15 := h
    show UW C 2 μ_15 15 [(0, .ref (gad (cG C) k0)), (1, .int v1_15)] []
    unfold f_X12_restore_l15 at h
    refine u_iload_n (pc := 15) hC dX12_restore_15 rfl 1 rfl ?_
    refine u_sipush (pc := 16) hC sc_342 dX12_restore_16 ?_
    refine u_icmp_ge (pc := 19) hC (tgt := 40) dX12_restore_19 (by decide) (fun c19 => ?_) (fun c19 => ?_)
    · replace h := of_t c19 h
      obtain rfl := Option.some.inj h
      refine u_sub [0] rfl ?_
      exact hE15 μ_15 rfl
    · replace h := of_f c19 h
      refine u_aload_n (pc := 22) hC dX12_restore_22 rfl 0 rfl ?_
      refine g_RX12_7 (pc := 23) hC hk0 dX12_restore_23 ?_
      refine u_iload_n (pc := 26) hC dX12_restore_26 rfl 1 rfl ?_
      refine u_aload_n (pc := 27) hC dX12_restore_27 rfl 0 rfl ?_
      refine g_RX12_13 (pc := 28) hC hk0 dX12_restore_28 ?_
      refine u_iload_n (pc := 31) hC dX12_restore_31 rfl 1 rfl ?_
      obtain ⟨b32, h⟩ := of_gd h
      refine u_iald (pc := 32) hC (rs_12_1 hk0) 342 (rn_12_1 hk0) b32 dX12_restore_32 ?_
      obtain ⟨b33, h⟩ := of_gd h
      obtain ⟨m33, q33, h⟩ := of_bd h
      refine u_iast (pc := 33) hC (rs_12_0 hk0) 342 (rn_12_0 hk0) b33 dX12_restore_33 (Option.some.inj q33) ?_
      refine u_iinc (pc := 34) hC dX12_restore_34 1 rfl (v1_15 + 1) rfl [(1, .int (v1_15 + 1)), (0, .ref (gad (cG C) k0))] (by decide) rfl ?_
      refine u_goto (pc := 37) hC 15 dX12_restore_37 (by decide) ?_
      obtain rfl := Option.some.inj h
      refine u_sub [1, 0] rfl ?_
      exact hP15 (v1_15 + 1, m33) rfl
  unfold f_X12_restore at h
  refine u_aload_n (pc := 0) hC dX12_restore_0 rfl 0 rfl ?_
  refine g_RX12_311 (pc := 1) hC hk0 dX12_restore_1 ?_
  refine u_if_ne (pc := 4) hC (tgt := 13) dX12_restore_4 (by decide) (fun c4 => ?_) (fun c4 => ?_)
  · replace h := of_t c4 h
    refine u_iconst (pc := 13) hC ic_0 dX12_restore_13 ?_
    refine u_istore_n (pc := 14) hC dX12_restore_14 rfl [(1, .int (0 : Int32)), (0, .ref (gad (cG C) k0))] (by decide) rfl ?_
    obtain ⟨e15, l15, h⟩ := of_bd h
    refine u_sub [1, 0] rfl ?_
    refine lw15  e15 ((0 : Int32), μ) l15 ?_
    show UW C 2 e15 40 [(0, .ref (gad (cG C) k0))] []
    refine u_aload_n (pc := 40) hC dX12_restore_40 rfl 0 rfl ?_
    refine g_RX12_7 (pc := 41) hC hk0 dX12_restore_41 ?_
    refine u_iconst (pc := 44) hC ic_3 dX12_restore_44 ?_
    refine u_iald (pc := 45) hC (rs_12_0 hk0) 342 (rn_12_0 hk0) (by decide) dX12_restore_45 ?_
    obtain rfl := Option.some.inj h
    exact u_iret (pc := 46) hC hQ hr ⟨rfl, rfl⟩ dX12_restore_46
  · replace h := of_f (fun q => q c4) h
    refine u_aload_n (pc := 7) hC dX12_restore_7 rfl 0 rfl ?_
    refine u_iconst (pc := 8) hC ic_2 dX12_restore_8 ?_
    obtain ⟨p9, q9, h⟩ := of_bd h
    refine k_RX12_119 (pc := 9) hC (av := [.int (2 : Int32)]) (rest := []) (c_X12_finds (d := d - 1) (by omega) hk0 q9) (by omega) (Nat.le_of_ble_eq_true rfl) hk0 rfl rfl dX12_restore_9 ?_
    obtain rfl := Option.some.inj h
    exact u_iret (pc := 12) hC hQ hr ⟨rfl, rfl⟩ dX12_restore_12
set_option maxHeartbeats 4000000 in
set_option maxRecDepth 100000 in
theorem c_X12_tell {l : Launch} {G : GG} {d : Nat} (hd : 1 ≤ d) {μ : Mem} {k0 : Nat} (hk0 : isC 12 k0) {a1 : Int32} {r : Int32 × Mem} (h : f_X12_tell μ k0 a1 = some r) : CT l yX12_tell cX12_tell 2 (some .int) d G [.ref (gad G k0), .int a1] μ (RK (some (.int r.1)) r.2) := by
  refine ct_start (by decide) (Nat.le_of_ble_eq_true rfl) (fun C hl1 hG1 hC hQ hr => ?_)
  subst hl1; subst hG1
  have hC : CxOK C cX12_tell 2 RX12 d := hC
  show UW C 2 μ 0 [(0, .ref (gad (cG C) k0)), (1, .int a1)] []
  unfold f_X12_tell at h
  refine u_aload_n (pc := 0) hC dX12_tell_0 rfl 0 rfl ?_
  refine g_RX12_7 (pc := 1) hC hk0 dX12_tell_1 ?_
  refine u_bipush (pc := 4) hC bc_6 dX12_tell_4 ?_
  refine u_iald (pc := 6) hC (rs_12_0 hk0) 342 (rn_12_0 hk0) (by decide) dX12_tell_6 ?_
  refine u_bipush (pc := 7) hC bc_20 dX12_tell_7 ?_
  refine u_icmp_ne (pc := 9) hC (tgt := 18) dX12_tell_9 (by decide) (fun c9 => ?_) (fun c9 => ?_)
  · replace h := of_t c9 h
    refine u_aload_n (pc := 18) hC dX12_tell_18 rfl 0 rfl ?_
    refine g_RX12_7 (pc := 19) hC hk0 dX12_tell_19 ?_
    refine u_sipush (pc := 22) hC sc_172 dX12_tell_22 ?_
    refine u_aload_n (pc := 25) hC dX12_tell_25 rfl 0 rfl ?_
    refine g_RX12_7 (pc := 26) hC hk0 dX12_tell_26 ?_
    refine u_bipush (pc := 29) hC bc_6 dX12_tell_29 ?_
    refine u_iald (pc := 31) hC (rs_12_0 hk0) 342 (rn_12_0 hk0) (by decide) dX12_tell_31 ?_
    refine u_iadd (pc := 32) hC dX12_tell_32 ?_
    refine u_iload_n (pc := 33) hC dX12_tell_33 rfl 1 rfl ?_
    obtain ⟨b34, h⟩ := of_gd h
    obtain ⟨m34, q34, h⟩ := of_bd h
    refine u_iast (pc := 34) hC (rs_12_0 hk0) 342 (rn_12_0 hk0) b34 dX12_tell_34 (Option.some.inj q34) ?_
    refine u_aload_n (pc := 35) hC dX12_tell_35 rfl 0 rfl ?_
    refine g_RX12_7 (pc := 36) hC hk0 dX12_tell_36 ?_
    refine u_bipush (pc := 39) hC bc_6 dX12_tell_39 ?_
    refine u_dup2 (pc := 41) hC rfl rfl dX12_tell_41 ?_
    refine u_iald (pc := 42) hC (rs_12_0 hk0) 342 (rn_12_0 hk0) (by decide) dX12_tell_42 ?_
    refine u_iconst (pc := 43) hC ic_1 dX12_tell_43 ?_
    refine u_iadd (pc := 44) hC dX12_tell_44 ?_
    obtain ⟨m45, q45, h⟩ := of_bd h
    refine u_iast (pc := 45) hC (rs_12_0 hk0) 342 (rn_12_0 hk0) (by decide) dX12_tell_45 (Option.some.inj q45) ?_
    refine u_aload_n (pc := 46) hC dX12_tell_46 rfl 0 rfl ?_
    refine g_RX12_7 (pc := 47) hC hk0 dX12_tell_47 ?_
    refine u_bipush (pc := 50) hC bc_6 dX12_tell_50 ?_
    refine u_iald (pc := 52) hC (rs_12_0 hk0) 342 (rn_12_0 hk0) (by decide) dX12_tell_52 ?_
    obtain rfl := Option.some.inj h
    exact u_iret (pc := 53) hC hQ hr ⟨rfl, rfl⟩ dX12_tell_53
  · replace h := of_f (fun q => q c9) h
    refine u_aload_n (pc := 12) hC dX12_tell_12 rfl 0 rfl ?_
    refine u_iconst (pc := 13) hC ic_4 dX12_tell_13 ?_
    obtain ⟨p14, q14, h⟩ := of_bd h
    refine k_RX12_119 (pc := 14) hC (av := [.int (4 : Int32)]) (rest := []) (c_X12_finds (d := d - 1) (by omega) hk0 q14) (by omega) (Nat.le_of_ble_eq_true rfl) hk0 rfl rfl dX12_tell_14 ?_
    obtain rfl := Option.some.inj h
    exact u_iret (pc := 17) hC hQ hr ⟨rfl, rfl⟩ dX12_tell_17
set_option maxHeartbeats 4000000 in
set_option maxRecDepth 100000 in
theorem c_X12_debts {l : Launch} {G : GG} {d : Nat} (hd : 1 ≤ d) {μ : Mem} {k0 : Nat} (hk0 : isC 12 k0) {r : Int32} (h : f_X12_debts μ k0 = some r) : CT l yX12_debts cX12_debts 3 (some .int) d G [.ref (gad G k0)] μ (RK (some (.int r)) μ) := by
  refine ct_start (by decide) (Nat.le_of_ble_eq_true rfl) (fun C hl1 hG1 hC hQ hr => ?_)
  subst hl1; subst hG1
  have hC : CxOK C cX12_debts 3 RX12 d := hC
  show UW C 3 μ 0 [(0, .ref (gad (cG C) k0))] []
  have lw4 : ∀ (e : (Int32)) (s : Int32 × Int32), lp (fun s => f_X12_debts_l4 μ k0 s.1 s.2) FU s = some e → (fun (e : (Int32)) => UW C 3 μ 29 [(1, .int e)] []) e → UW C 3 μ 4 [(0, .ref (gad (cG C) k0)), (1, .int s.1), (2, .int s.2)] [] := by
    intro e s hl hE0
    refine @lp_walk (Int32 × Int32) (Int32) (fun s => f_X12_debts_l4 μ k0 s.1 s.2) (fun s => UW C 3 μ 4 [(0, .ref (gad (cG C) k0)), (1, .int s.1), (2, .int s.2)] []) (fun (e : (Int32)) => UW C 3 μ 29 [(1, .int e)] []) (fun s y4 h hP4 hE4 => ?_) FU s e hl hE0
    obtain ⟨v1_4, v2_4⟩ := s
    replace h : f_X12_debts_l4 μ k0 v1_4 v2_4 = some y4 := h
    show UW C 3 μ 4 [(0, .ref (gad (cG C) k0)), (1, .int v1_4), (2, .int v2_4)] []
    unfold f_X12_debts_l4 at h
    refine u_iload_n (pc := 4) hC dX12_debts_4 rfl 2 rfl ?_
    refine u_aload_n (pc := 5) hC dX12_debts_5 rfl 0 rfl ?_
    refine g_RX12_7 (pc := 6) hC hk0 dX12_debts_6 ?_
    refine u_iconst (pc := 9) hC ic_1 dX12_debts_9 ?_
    refine u_iald (pc := 10) hC (rs_12_0 hk0) 342 (rn_12_0 hk0) (by decide) dX12_debts_10 ?_
    refine u_icmp_ge (pc := 11) hC (tgt := 29) dX12_debts_11 (by decide) (fun c11 => ?_) (fun c11 => ?_)
    · replace h := of_t c11 h
      obtain rfl := Option.some.inj h
      refine u_sub [1] rfl ?_
      exact hE4 v1_4 rfl
    · replace h := of_f c11 h
      refine u_iload_n (pc := 14) hC dX12_debts_14 rfl 1 rfl ?_
      refine u_aload_n (pc := 15) hC dX12_debts_15 rfl 0 rfl ?_
      refine u_iload_n (pc := 16) hC dX12_debts_16 rfl 2 rfl ?_
      refine u_iconst (pc := 17) hC ic_2 dX12_debts_17 ?_
      obtain ⟨r18, q18, h⟩ := of_bd h
      refine k_RX12_150 (pc := 18) hC (av := [.int v2_4, .int (2 : Int32)]) (rest := [.int v1_4]) (c_X12_of (d := d - 1) (by omega) hk0 q18) (by omega) (Nat.le_of_ble_eq_true rfl) hk0 rfl rfl dX12_debts_18 ?_
      refine u_iadd (pc := 21) hC dX12_debts_21 ?_
      refine u_istore_n (pc := 22) hC dX12_debts_22 rfl [(1, .int (v1_4 + r18)), (0, .ref (gad (cG C) k0)), (2, .int v2_4)] (by decide) rfl ?_
      refine u_iinc (pc := 23) hC dX12_debts_23 2 rfl (v2_4 + 1) rfl [(2, .int (v2_4 + 1)), (1, .int (v1_4 + r18)), (0, .ref (gad (cG C) k0))] (by decide) rfl ?_
      refine u_goto (pc := 26) hC 4 dX12_debts_26 (by decide) ?_
      obtain rfl := Option.some.inj h
      refine u_sub [2, 1, 0] rfl ?_
      exact hP4 (v1_4 + r18, v2_4 + 1) rfl
  unfold f_X12_debts at h
  refine u_iconst (pc := 0) hC ic_0 dX12_debts_0 ?_
  refine u_istore_n (pc := 1) hC dX12_debts_1 rfl [(1, .int (0 : Int32)), (0, .ref (gad (cG C) k0))] (by decide) rfl ?_
  refine u_iconst (pc := 2) hC ic_0 dX12_debts_2 ?_
  refine u_istore_n (pc := 3) hC dX12_debts_3 rfl [(2, .int (0 : Int32)), (1, .int (0 : Int32)), (0, .ref (gad (cG C) k0))] (by decide) rfl ?_
  obtain ⟨e4, l4, h⟩ := of_bd h
  refine u_sub [2, 1, 0] rfl ?_
  refine lw4  e4 ((0 : Int32), (0 : Int32)) l4 ?_
  show UW C 3 μ 29 [(1, .int e4)] []
  refine u_iload_n (pc := 29) hC dX12_debts_29 rfl 0 rfl ?_
  obtain rfl := Option.some.inj h
  exact u_iret (pc := 30) hC hQ hr ⟨rfl, rfl⟩ dX12_debts_30
set_option maxHeartbeats 4000000 in
set_option maxRecDepth 100000 in
theorem c_X12_check {l : Launch} {G : GG} {d : Nat} (hd : 109 ≤ d) {μ : Mem} {k0 : Nat} (hk0 : isC 12 k0) {r : Int32 × Mem} (h : f_X12_check μ k0 = some r) : CT l yX12_check cX12_check 4 (some .int) d G [.ref (gad G k0)] μ (RK (some (.int r.1)) r.2) := by
  refine ct_start (by decide) (Nat.le_of_ble_eq_true rfl) (fun C hl1 hG1 hC hQ hr => ?_)
  subst hl1; subst hG1
  have hC : CxOK C cX12_check 4 RX12 d := hC
  show UW C 4 μ 0 [(0, .ref (gad (cG C) k0))] []
  have jb75 : ∀ (μ_75 : Mem) (v1_75 : Int32) (v2_75 : Int32), f_X12_check_j75 μ_75 k0 v1_75 v2_75 = some r → UW C 4 μ_75 75 [(0, .ref (gad (cG C) k0)), (1, .int v1_75), (2, .int v2_75)] [] := by
    intro μ_75 v1_75 v2_75 h
    unfold f_X12_check_j75 at h
    refine u_aload_n (pc := 75) hC dX12_check_75 rfl 0 rfl ?_
    obtain ⟨μ76, q76, h⟩ := of_bd h
    refine k_RX12_246 (pc := 76) hC (av := []) (rest := []) (c_X12_putBack (d := d - 1) (by omega) hk0 q76) (by omega) (Nat.le_of_ble_eq_true rfl) hk0 rfl rfl dX12_check_76 ?_
    refine u_iload_n (pc := 79) hC dX12_check_79 rfl 2 rfl ?_
    refine u_iload_n (pc := 80) hC dX12_check_80 rfl 1 rfl ?_
    refine u_icmp_ne (pc := 81) hC (tgt := 88) dX12_check_81 (by decide) (fun c81 => ?_) (fun c81 => ?_)
    · replace h := of_t c81 h
      refine u_iconst (pc := 88) hC ic_1 dX12_check_88 ?_
      refine u_iload_n (pc := 89) hC dX12_check_89 rfl 2 rfl ?_
      refine u_iadd (pc := 90) hC dX12_check_90 ?_
      obtain rfl := Option.some.inj h
      exact u_iret (pc := 91) hC hQ hr ⟨rfl, rfl⟩ dX12_check_91
    · replace h := of_f (fun q => q c81) h
      refine u_iconst (pc := 84) hC ic_0 dX12_check_84 ?_
      refine u_goto (pc := 85) hC 91 dX12_check_85 (by decide) ?_
      obtain rfl := Option.some.inj h
      exact u_iret (pc := 91) hC hQ hr ⟨rfl, rfl⟩ dX12_check_91
  have lw24 : ∀ (v1_24 : Int32) (e : (Int32 × Mem)) (s : Int32 × Int32 × Mem), lp (fun s => f_X12_check_l24 k0 v1_24 s.1 s.2.1 s.2.2) FU s = some e → (fun (e : (Int32 × Mem)) => UW C 4 e.2 75 [(0, .ref (gad (cG C) k0)), (1, .int v1_24), (2, .int e.1)] []) e → UW C 4 s.2.2 24 [(0, .ref (gad (cG C) k0)), (1, .int v1_24), (2, .int s.1), (3, .int s.2.1)] [] := by
    intro v1_24 e s hl hE0
    refine @lp_walk (Int32 × Int32 × Mem) (Int32 × Mem) (fun s => f_X12_check_l24 k0 v1_24 s.1 s.2.1 s.2.2) (fun s => UW C 4 s.2.2 24 [(0, .ref (gad (cG C) k0)), (1, .int v1_24), (2, .int s.1), (3, .int s.2.1)] []) (fun (e : (Int32 × Mem)) => UW C 4 e.2 75 [(0, .ref (gad (cG C) k0)), (1, .int v1_24), (2, .int e.1)] []) (fun s y24 h hP24 hE24 => ?_) FU s e hl hE0
    have jb59 : ∀ (μ_59 : Mem) (v2_59 : Int32) (vt0_59 : Int32), f_X12_check_j59 μ_59 k0 v1_24 v2_59 vt0_59 = some y24 → UW C 4 μ_59 59 [(0, .ref (gad (cG C) k0)), (1, .int v1_24), (2, .int v2_59)] [.int vt0_59] := by
      intro μ_59 v2_59 vt0_59 h
      unfold f_X12_check_j59 at h
      refine u_istore_n (pc := 59) hC dX12_check_59 rfl [(3, .int vt0_59), (0, .ref (gad (cG C) k0)), (1, .int v1_24), (2, .int v2_59)] (by decide) rfl ?_
      refine u_iload_n (pc := 60) hC dX12_check_60 rfl 3 rfl ?_
      refine u_iload_n (pc := 61) hC dX12_check_61 rfl 0 rfl ?_
      refine u_if_eq (pc := 62) hC (tgt := 69) dX12_check_62 (by decide) (fun c62 => ?_) (fun c62 => ?_)
      · replace h := of_t c62 h
        refine u_iconst (pc := 69) hC ic_0 dX12_check_69 ?_
        refine u_iadd (pc := 70) hC dX12_check_70 ?_
        refine u_istore_n (pc := 71) hC dX12_check_71 rfl [(2, .int (v2_59 + (0 : Int32))), (3, .int vt0_59), (0, .ref (gad (cG C) k0)), (1, .int v1_24)] (by decide) rfl ?_
        refine u_goto (pc := 72) hC 24 dX12_check_72 (by decide) ?_
        obtain rfl := Option.some.inj h
        refine u_sub [2, 3, 0, 1] rfl ?_
        exact hP24 (v2_59 + (0 : Int32), vt0_59, μ_59) rfl
      · replace h := of_f c62 h
        refine u_iconst (pc := 65) hC ic_1 dX12_check_65 ?_
        refine u_goto (pc := 66) hC 70 dX12_check_66 (by decide) ?_
        refine u_iadd (pc := 70) hC dX12_check_70 ?_
        refine u_istore_n (pc := 71) hC dX12_check_71 rfl [(2, .int (v2_59 + (1 : Int32))), (3, .int vt0_59), (0, .ref (gad (cG C) k0)), (1, .int v1_24)] (by decide) rfl ?_
        refine u_goto (pc := 72) hC 24 dX12_check_72 (by decide) ?_
        obtain rfl := Option.some.inj h
        refine u_sub [2, 3, 0, 1] rfl ?_
        exact hP24 (v2_59 + (1 : Int32), vt0_59, μ_59) rfl
    obtain ⟨v2_24, v3_24, μ_24⟩ := s
    replace h : f_X12_check_l24 k0 v1_24 v2_24 v3_24 μ_24 = some y24 := h
    show UW C 4 μ_24 24 [(0, .ref (gad (cG C) k0)), (1, .int v1_24), (2, .int v2_24), (3, .int v3_24)] []
    unfold f_X12_check_l24 at h
    refine u_iload_n (pc := 24) hC dX12_check_24 rfl 2 rfl ?_
    refine u_iload_n (pc := 25) hC dX12_check_25 rfl 1 rfl ?_
    refine u_icmp_ge (pc := 26) hC (tgt := 75) dX12_check_26 (by decide) (fun c26 => ?_) (fun c26 => ?_)
    · replace h := of_t c26 h
      obtain rfl := Option.some.inj h
      refine u_sub [0, 1, 2] rfl ?_
      exact hE24 (v2_24, μ_24) rfl
    · replace h := of_f c26 h
      refine u_iload_n (pc := 29) hC dX12_check_29 rfl 3 rfl ?_
      refine u_if_eq (pc := 30) hC (tgt := 75) dX12_check_30 (by decide) (fun c30 => ?_) (fun c30 => ?_)
      · replace h := of_t c30 h
        obtain rfl := Option.some.inj h
        refine u_sub [0, 1, 2] rfl ?_
        exact hE24 (v2_24, μ_24) rfl
      · replace h := of_f c30 h
        refine u_aload_n (pc := 33) hC dX12_check_33 rfl 0 rfl ?_
        obtain ⟨μ34, q34, h⟩ := of_bd h
        refine k_RX12_229 (pc := 34) hC (av := []) (rest := []) (c_X12_aWeek (d := d - 1) (by omega) hk0 q34) (by omega) (Nat.le_of_ble_eq_true rfl) hk0 rfl rfl dX12_check_34 ?_
        refine u_aload_n (pc := 37) hC dX12_check_37 rfl 0 rfl ?_
        obtain ⟨r38, q38, h⟩ := of_bd h
        refine k_RX12_314 (pc := 38) hC (av := []) (rest := []) (c_X12_debts (d := d - 1) (by omega) hk0 q38) (by omega) (Nat.le_of_ble_eq_true rfl) hk0 rfl rfl dX12_check_38 ?_
        refine u_aload_n (pc := 41) hC dX12_check_41 rfl 0 rfl ?_
        refine g_RX12_7 (pc := 42) hC hk0 dX12_check_42 ?_
        refine u_sipush (pc := 45) hC sc_172 dX12_check_45 ?_
        refine u_iload_n (pc := 48) hC dX12_check_48 rfl 2 rfl ?_
        refine u_iadd (pc := 49) hC dX12_check_49 ?_
        obtain ⟨b50, h⟩ := of_gd h
        refine u_iald (pc := 50) hC (rs_12_0 hk0) 342 (rn_12_0 hk0) b50 dX12_check_50 ?_
        refine u_icmp_ne (pc := 51) hC (tgt := 58) dX12_check_51 (by decide) (fun c51 => ?_) (fun c51 => ?_)
        · replace h := of_t c51 h
          refine u_iconst (pc := 58) hC ic_0 dX12_check_58 ?_
          refine u_sub [0, 1, 2] rfl ?_
          exact jb59 μ34 v2_24 (0 : Int32) h
        · replace h := of_f (fun q => q c51) h
          refine u_iconst (pc := 54) hC ic_1 dX12_check_54 ?_
          refine u_goto (pc := 55) hC 59 dX12_check_55 (by decide) ?_
          refine u_sub [0, 1, 2] rfl ?_
          exact jb59 μ34 v2_24 (1 : Int32) h
  unfold f_X12_check at h
  refine u_aload_n (pc := 0) hC dX12_check_0 rfl 0 rfl ?_
  refine g_RX12_7 (pc := 1) hC hk0 dX12_check_1 ?_
  refine u_bipush (pc := 4) hC bc_6 dX12_check_4 ?_
  refine u_iald (pc := 6) hC (rs_12_0 hk0) 342 (rn_12_0 hk0) (by decide) dX12_check_6 ?_
  refine u_istore_n (pc := 7) hC dX12_check_7 rfl [(1, .int (rd μ (rf k0 0) (6 : Int32).toNatClampNeg)), (0, .ref (gad (cG C) k0))] (by decide) rfl ?_
  refine u_aload_n (pc := 8) hC dX12_check_8 rfl 1 rfl ?_
  refine g_RX12_7 (pc := 9) hC hk0 dX12_check_9 ?_
  refine u_bipush (pc := 12) hC bc_6 dX12_check_12 ?_
  refine u_iconst (pc := 14) hC ic_0 dX12_check_14 ?_
  obtain ⟨m15, q15, h⟩ := of_bd h
  refine u_iast (pc := 15) hC (rs_12_0 hk0) 342 (rn_12_0 hk0) (by decide) dX12_check_15 (Option.some.inj q15) ?_
  refine u_aload_n (pc := 16) hC dX12_check_16 rfl 1 rfl ?_
  obtain ⟨μ17, q17, h⟩ := of_bd h
  refine k_RX12_243 (pc := 17) hC (av := []) (rest := []) (c_X12_keepAside (d := d - 1) (by omega) hk0 q17) (by omega) (Nat.le_of_ble_eq_true rfl) hk0 rfl rfl dX12_check_17 ?_
  refine u_iconst (pc := 20) hC ic_0 dX12_check_20 ?_
  refine u_istore_n (pc := 21) hC dX12_check_21 rfl [(2, .int (0 : Int32)), (1, .int (rd μ (rf k0 0) (6 : Int32).toNatClampNeg)), (0, .ref (gad (cG C) k0))] (by decide) rfl ?_
  refine u_iconst (pc := 22) hC ic_1 dX12_check_22 ?_
  refine u_istore_n (pc := 23) hC dX12_check_23 rfl [(3, .int (1 : Int32)), (2, .int (0 : Int32)), (1, .int (rd μ (rf k0 0) (6 : Int32).toNatClampNeg)), (0, .ref (gad (cG C) k0))] (by decide) rfl ?_
  obtain ⟨e24, l24, h⟩ := of_bd h
  refine u_sub [3, 2, 1, 0] rfl ?_
  refine lw24 (rd μ (rf k0 0) (6 : Int32).toNatClampNeg) e24 ((0 : Int32), (1 : Int32), μ17) l24 ?_
  show UW C 4 e24.2 75 [(0, .ref (gad (cG C) k0)), (1, .int (rd μ (rf k0 0) (6 : Int32).toNatClampNeg)), (2, .int e24.1)] []
  exact jb75 e24.2 (rd μ (rf k0 0) (6 : Int32).toNatClampNeg) e24.1 h
