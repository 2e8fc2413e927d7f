set_option maxHeartbeats 4000000 in
set_option maxRecDepth 100000 in
theorem c_X0_copyFrom {l : Launch} {G : GG} {d : Nat} (hd : 0 ≤ d) {μ : Mem} {k0 : Nat} (hk0 : isC 0 k0) {k1 : Nat} (hk1 : isC 0 k1) {r : Mem} (h : f_X0_copyFrom μ k0 k1 = some r) : CT l yX0_copyFrom cX0_copyFrom 2 none d G [.ref (gad G k0), .ref (gad G k1)] μ (RK none r) := by
  refine ct_start (by decide) (Nat.le_of_ble_eq_true rfl) (fun C hl1 hG1 hC hQ hr => ?_)
  subst hl1; subst hG1
  have hC : CxOK C cX0_copyFrom 2 RX0 d := hC
  show UW C 2 μ 0 [(0, .ref (gad (cG C) k0)), (1, .ref (gad (cG C) k1))] []
  unfold f_X0_copyFrom at h
  refine u_aload_n (pc := 0) hC dX0_copyFrom_0 rfl 1 rfl ?_
  refine g_RX0_9 (pc := 1) hC hk1 dX0_copyFrom_1 ?_
  refine u_iconst (pc := 4) hC ic_0 dX0_copyFrom_4 ?_
  refine u_aload_n (pc := 5) hC dX0_copyFrom_5 rfl 0 rfl ?_
  refine g_RX0_9 (pc := 6) hC hk0 dX0_copyFrom_6 ?_
  refine u_iconst (pc := 9) hC ic_0 dX0_copyFrom_9 ?_
  refine u_bipush (pc := 10) hC bc_8 dX0_copyFrom_10 ?_
  obtain ⟨b12, h⟩ := of_gd h
  obtain ⟨m12, q12, h⟩ := of_bd h
  refine u_acopy (pc := 12) hC mL_RX0_18 mN_O_arraycopy mK_O_arraycopy mI_RJ10 (rs_0_0 hk1) (rs_0_0 hk0) b12 (Nat.le_of_ble_eq_true rfl) dX0_copyFrom_12 (Option.some.inj q12) ?_
  refine u_aload_n (pc := 15) hC dX0_copyFrom_15 rfl 1 rfl ?_
  refine g_RX0_15 (pc := 16) hC hk1 dX0_copyFrom_16 ?_
  refine u_iconst (pc := 19) hC ic_0 dX0_copyFrom_19 ?_
  refine u_aload_n (pc := 20) hC dX0_copyFrom_20 rfl 0 rfl ?_
  refine g_RX0_15 (pc := 21) hC hk0 dX0_copyFrom_21 ?_
  refine u_iconst (pc := 24) hC ic_0 dX0_copyFrom_24 ?_
  refine u_bipush (pc := 25) hC bc_8 dX0_copyFrom_25 ?_
  obtain ⟨b27, h⟩ := of_gd h
  obtain ⟨m27, q27, h⟩ := of_bd h
  refine u_acopy (pc := 27) hC mL_RX0_18 mN_O_arraycopy mK_O_arraycopy mI_RJ10 (rs_0_1 hk1) (rs_0_1 hk0) b27 (Nat.le_of_ble_eq_true rfl) dX0_copyFrom_27 (Option.some.inj q27) ?_
  refine u_aload_n (pc := 30) hC dX0_copyFrom_30 rfl 0 rfl ?_
  refine u_aload_n (pc := 31) hC dX0_copyFrom_31 rfl 1 rfl ?_
  refine g_RX0_24 (pc := 32) hC hk1 dX0_copyFrom_32 ?_
  obtain ⟨m35, q35, h⟩ := of_bd h
  refine p_RX0_24 (pc := 35) hC hk0 dX0_copyFrom_35 (Option.some.inj q35) ?_
  refine u_aload_n (pc := 38) hC dX0_copyFrom_38 rfl 0 rfl ?_
  refine u_aload_n (pc := 39) hC dX0_copyFrom_39 rfl 1 rfl ?_
  refine g_RX0_28 (pc := 40) hC hk1 dX0_copyFrom_40 ?_
  obtain ⟨m43, q43, h⟩ := of_bd h
  refine p_RX0_28 (pc := 43) hC hk0 dX0_copyFrom_43 (Option.some.inj q43) ?_
  refine u_aload_n (pc := 46) hC dX0_copyFrom_46 rfl 0 rfl ?_
  refine u_aload_n (pc := 47) hC dX0_copyFrom_47 rfl 1 rfl ?_
  refine g_RX0_31 (pc := 48) hC hk1 dX0_copyFrom_48 ?_
  obtain ⟨m51, q51, h⟩ := of_bd h
  refine p_RX0_31 (pc := 51) hC hk0 dX0_copyFrom_51 (Option.some.inj q51) ?_
  refine u_aload_n (pc := 54) hC dX0_copyFrom_54 rfl 0 rfl ?_
  refine u_aload_n (pc := 55) hC dX0_copyFrom_55 rfl 1 rfl ?_
  refine g_RX0_34 (pc := 56) hC hk1 dX0_copyFrom_56 ?_
  obtain ⟨m59, q59, h⟩ := of_bd h
  refine p_RX0_34 (pc := 59) hC hk0 dX0_copyFrom_59 (Option.some.inj q59) ?_
  refine u_aload_n (pc := 62) hC dX0_copyFrom_62 rfl 0 rfl ?_
  refine u_aload_n (pc := 63) hC dX0_copyFrom_63 rfl 1 rfl ?_
  refine g_RX0_37 (pc := 64) hC hk1 dX0_copyFrom_64 ?_
  obtain ⟨m67, q67, h⟩ := of_bd h
  refine p_RX0_37 (pc := 67) hC hk0 dX0_copyFrom_67 (Option.some.inj q67) ?_
  refine u_aload_n (pc := 70) hC dX0_copyFrom_70 rfl 0 rfl ?_
  refine u_aload_n (pc := 71) hC dX0_copyFrom_71 rfl 1 rfl ?_
  refine g_RX0_40 (pc := 72) hC hk1 dX0_copyFrom_72 ?_
  obtain ⟨b75, h⟩ := of_gd h
  obtain ⟨m75, q75, h⟩ := of_bd h
  refine p_RX0_40 (pc := 75) hC hk0 b75 dX0_copyFrom_75 (Option.some.inj q75) ?_
  obtain rfl := Option.some.inj h
  exact u_vret (pc := 78) hC hQ hr ⟨rfl, rfl⟩ dX0_copyFrom_78
set_option maxHeartbeats 4000000 in
set_option maxRecDepth 100000 in
theorem c_X0_is {l : Launch} {G : GG} {d : Nat} (hd : 0 ≤ d) {μ : Mem} {k0 : Nat} (hk0 : isC 0 k0) {a1 : Int32} {r : Int32} (h : f_X0_is μ k0 a1 = some r) : CT l yX0_is cX0_is 4 (some .boolean) d G [.ref (gad G k0), .int a1] μ (RK (some (.int r)) μ) := by
  refine ct_start (by decide) (Nat.le_of_ble_eq_true rfl) (fun C hl1 hG1 hC hQ hr => ?_)
  subst hl1; subst hG1
  have hC : CxOK C cX0_is 4 RX0 d := hC
  show UW C 4 μ 0 [(0, .ref (gad (cG C) k0)), (1, .int a1)] []
  have jb30 : ∀ (v2_30 : Int32), f_X0_is_j30 μ k0 a1 v2_30 = some r → UW C 4 μ 30 [(1, .int a1), (2, .int v2_30)] [] := by
    intro v2_30 h
    unfold f_X0_is_j30 at h
    refine u_iload_n (pc := 30) hC dX0_is_30 rfl 1 rfl ?_
    refine u_iload_n (pc := 31) hC dX0_is_31 rfl 0 rfl ?_
    refine u_icmp_ne (pc := 32) hC (tgt := 39) dX0_is_32 (by decide) (fun c32 => ?_) (fun c32 => ?_)
    · replace h := of_t c32 h
      refine u_iconst (pc := 39) hC ic_0 dX0_is_39 ?_
      obtain rfl := Option.some.inj h
      exact u_zret (pc := 40) hC hQ hr (by decide) ⟨rfl, rfl⟩ dX0_is_40
    · replace h := of_f (fun q => q c32) h
      refine u_iconst (pc := 35) hC ic_1 dX0_is_35 ?_
      refine u_goto (pc := 36) hC 40 dX0_is_36 (by decide) ?_
      obtain rfl := Option.some.inj h
      exact u_zret (pc := 40) hC hQ hr (by decide) ⟨rfl, rfl⟩ dX0_is_40
  have lw7 : ∀ (e : (Int32)) (s : Int32 × Int32), lp (fun s => f_X0_is_l7 μ k0 a1 s.1 s.2) FU s = some e → (fun (e : (Int32)) => UW C 4 μ 30 [(1, .int a1), (2, .int e)] []) e → UW C 4 μ 7 [(1, .int a1), (2, .int s.1), (3, .int s.2)] [] := by
    intro e s hl hE0
    refine @lp_walk (Int32 × Int32) (Int32) (fun s => f_X0_is_l7 μ k0 a1 s.1 s.2) (fun s => UW C 4 μ 7 [(1, .int a1), (2, .int s.1), (3, .int s.2)] []) (fun (e : (Int32)) => UW C 4 μ 30 [(1, .int a1), (2, .int e)] []) (fun s y7 h hP7 hE7 => ?_) FU s e hl hE0
    obtain ⟨v2_7, v3_7⟩ := s
    replace h : f_X0_is_l7 μ k0 a1 v2_7 v3_7 = some y7 := h
    show UW C 4 μ 7 [(1, .int a1), (2, .int v2_7), (3, .int v3_7)] []
    unfold f_X0_is_l7 at h
    refine u_iload_n (pc := 7) hC dX0_is_7 rfl 2 rfl ?_
    refine u_bipush (pc := 8) hC bc_7 dX0_is_8 ?_
    refine u_icmp_ge (pc := 10) hC (tgt := 30) dX0_is_10 (by decide) (fun c10 => ?_) (fun c10 => ?_)
    · replace h := of_t c10 h
      obtain rfl := Option.some.inj h
      refine u_sub [0, 1] rfl ?_
      exact hE7 v2_7 rfl
    · replace h := of_f c10 h
      refine u_iload_n (pc := 13) hC dX0_is_13 rfl 1 rfl ?_
      refine u_iload_n (pc := 14) hC dX0_is_14 rfl 0 rfl ?_
      refine u_icmp_le (pc := 15) hC (tgt := 30) dX0_is_15 (by decide) (fun c15 => ?_) (fun c15 => ?_)
      · replace h := of_t c15 h
        obtain rfl := Option.some.inj h
        refine u_sub [0, 1] rfl ?_
        exact hE7 v2_7 rfl
      · replace h := of_f c15 h
        refine u_getsN0 (pc := 18) hC (fun q => q.1) dX0_is_18 ?_
        refine u_iload_n (pc := 21) hC dX0_is_21 rfl 1 rfl ?_
        obtain ⟨b22, h⟩ := of_gd h
        refine u_tld0 (pc := 22) hC b22 dX0_is_22 ?_
        refine u_istore_n (pc := 23) hC dX0_is_23 rfl [(2, .int (st 0 v2_7.toNatClampNeg)), (1, .int a1), (3, .int v3_7)] (by decide) rfl ?_
        refine u_iinc (pc := 24) hC dX0_is_24 2 rfl (v3_7 + 1) rfl [(3, .int (v3_7 + 1)), (2, .int (st 0 v2_7.toNatClampNeg)), (1, .int a1)] (by decide) rfl ?_
        refine u_goto (pc := 27) hC 7 dX0_is_27 (by decide) ?_
        obtain rfl := Option.some.inj h
        refine u_sub [2, 1, 0] rfl ?_
        exact hP7 (st 0 v2_7.toNatClampNeg, v3_7 + 1) rfl
  unfold f_X0_is at h
  refine u_aload_n (pc := 0) hC dX0_is_0 rfl 0 rfl ?_
  refine g_RX0_31 (pc := 1) hC hk0 dX0_is_1 ?_
  refine u_istore_n (pc := 4) hC dX0_is_4 rfl [(2, .int (rd μ k0 4)), (0, .ref (gad (cG C) k0)), (1, .int a1)] (by decide) rfl ?_
  refine u_iconst (pc := 5) hC ic_0 dX0_is_5 ?_
  refine u_istore_n (pc := 6) hC dX0_is_6 rfl [(3, .int (0 : Int32)), (2, .int (rd μ k0 4)), (0, .ref (gad (cG C) k0)), (1, .int a1)] (by decide) rfl ?_
  obtain ⟨e7, l7, h⟩ := of_bd h
  refine u_sub [3, 1, 0] rfl ?_
  refine lw7  e7 (rd μ k0 4, (0 : Int32)) l7 ?_
  show UW C 4 μ 30 [(1, .int a1), (2, .int e7)] []
  exact jb30 e7 h
set_option maxHeartbeats 4000000 in
set_option maxRecDepth 100000 in
theorem c_X0_due {l : Launch} {G : GG} {d : Nat} (hd : 0 ≤ d) {μ : Mem} {k0 : Nat} (hk0 : isC 0 k0) {r : Int32} (h : f_X0_due μ k0 = some r) : CT l yX0_due cX0_due 1 (some .int) d G [.ref (gad G k0)] μ (RK (some (.int r)) μ) := by
  refine ct_start (by decide) (Nat.le_of_ble_eq_true rfl) (fun C hl1 hG1 hC hQ hr => ?_)
  subst hl1; subst hG1
  have hC : CxOK C cX0_due 1 RX0 d := hC
  show UW C 1 μ 0 [(0, .ref (gad (cG C) k0))] []
  unfold f_X0_due at h
  refine u_aload_n (pc := 0) hC dX0_due_0 rfl 0 rfl ?_
  refine g_RX0_31 (pc := 1) hC hk0 dX0_due_1 ?_
  by_cases c4_0 : (rd μ k0 4) = 3
  · replace h := of_t c4_0 h
    refine u_tabEq (pc := 4) hC dX0_due_4 (3 : Int32) c4_0 (off := 32) 36 (by decide) (by decide) ?_
    refine u_iconst (pc := 36) hC ic_2 dX0_due_36 ?_
    obtain rfl := Option.some.inj h
    exact u_iret (pc := 37) hC hQ hr ⟨rfl, rfl⟩ dX0_due_37
  replace h := of_f c4_0 h
  by_cases c4_1 : (rd μ k0 4) = 4
  · replace h := of_t c4_1 h
    refine u_tabEq (pc := 4) hC dX0_due_4 (4 : Int32) c4_1 (off := 34) 38 (by decide) (by decide) ?_
    refine u_iconst (pc := 38) hC ic_1 dX0_due_38 ?_
    refine u_aload_n (pc := 39) hC dX0_due_39 rfl 0 rfl ?_
    refine g_RX0_34 (pc := 40) hC hk0 dX0_due_40 ?_
    refine u_iconst (pc := 43) hC ic_2 dX0_due_43 ?_
    refine u_irem (pc := 44) hC (by decide) dX0_due_44 ?_
    refine u_iadd (pc := 45) hC dX0_due_45 ?_
    obtain rfl := Option.some.inj h
    exact u_iret (pc := 46) hC hQ hr ⟨rfl, rfl⟩ dX0_due_46
  replace h := of_f c4_1 h
  by_cases c4_2 : (rd μ k0 4) = 5
  · replace h := of_t c4_2 h
    refine u_tabEq (pc := 4) hC dX0_due_4 (5 : Int32) c4_2 (off := 52) 56 (by decide) (by decide) ?_
    refine u_iconst (pc := 56) hC ic_1 dX0_due_56 ?_
    obtain rfl := Option.some.inj h
    exact u_iret (pc := 57) hC hQ hr ⟨rfl, rfl⟩ dX0_due_57
  replace h := of_f c4_2 h
  by_cases c4_3 : (rd μ k0 4) = 6
  · replace h := of_t c4_3 h
    refine u_tabEq (pc := 4) hC dX0_due_4 (6 : Int32) c4_3 (off := 43) 47 (by decide) (by decide) ?_
    refine u_iconst (pc := 47) hC ic_2 dX0_due_47 ?_
    refine u_aload_n (pc := 48) hC dX0_due_48 rfl 0 rfl ?_
    refine g_RX0_34 (pc := 49) hC hk0 dX0_due_49 ?_
    refine u_iconst (pc := 52) hC ic_2 dX0_due_52 ?_
    refine u_irem (pc := 53) hC (by decide) dX0_due_53 ?_
    refine u_isub (pc := 54) hC dX0_due_54 ?_
    obtain rfl := Option.some.inj h
    exact u_iret (pc := 55) hC hQ hr ⟨rfl, rfl⟩ dX0_due_55
  replace h := of_f c4_3 h
  refine u_tabDf (pc := 4) hC dX0_due_4 [(3 : Int32), (4 : Int32), (5 : Int32), (6 : Int32)] (List.forall_mem_cons.mpr ⟨c4_0, List.forall_mem_cons.mpr ⟨c4_1, List.forall_mem_cons.mpr ⟨c4_2, List.forall_mem_cons.mpr ⟨c4_3, (fun _ q => absurd q List.not_mem_nil)⟩⟩⟩⟩) (by decide) 56 (by decide) ?_
  refine u_iconst (pc := 56) hC ic_1 dX0_due_56 ?_
  obtain rfl := Option.some.inj h
  exact u_iret (pc := 57) hC hQ hr ⟨rfl, rfl⟩ dX0_due_57
set_option maxHeartbeats 4000000 in
set_option maxRecDepth 100000 in
theorem c_X0_owe {l : Launch} {G : GG} {d : Nat} (hd : 0 ≤ d) {μ : Mem} {k0 : Nat} (hk0 : isC 0 k0) {a1 : Int32} {r : Mem} (h : f_X0_owe μ k0 a1 = some r) : CT l yX0_owe cX0_owe 2 none d G [.ref (gad G k0), .int a1] μ (RK none r) := by
  refine ct_start (by decide) (Nat.le_of_ble_eq_true rfl) (fun C hl1 hG1 hC hQ hr => ?_)
  subst hl1; subst hG1
  have hC : CxOK C cX0_owe 2 RX0 d := hC
  show UW C 2 μ 0 [(0, .ref (gad (cG C) k0)), (1, .int a1)] []
  unfold f_X0_owe at h
  refine u_aload_n (pc := 0) hC dX0_owe_0 rfl 0 rfl ?_
  refine u_sipush (pc := 1) hC sc_9999 dX0_owe_1 ?_
  refine u_aload_n (pc := 4) hC dX0_owe_4 rfl 0 rfl ?_
  refine g_RX0_37 (pc := 5) hC hk0 dX0_owe_5 ?_
  refine u_iload_n (pc := 8) hC dX0_owe_8 rfl 1 rfl ?_
  refine u_iadd (pc := 9) hC dX0_owe_9 ?_
  refine u_mmin (pc := 10) hC mL_RX0_47 mK_min mI_RJ9 mB_min (Nat.le_of_ble_eq_true rfl) dX0_owe_10 ?_
  obtain ⟨m13, q13, h⟩ := of_bd h
  refine p_RX0_37 (pc := 13) hC hk0 dX0_owe_13 (Option.some.inj q13) ?_
  obtain rfl := Option.some.inj h
  exact u_vret (pc := 16) hC hQ hr ⟨rfl, rfl⟩ dX0_owe_16
set_option maxHeartbeats 4000000 in
set_option maxRecDepth 100000 in
theorem c_X0_letOff {l : Launch} {G : GG} {d : Nat} (hd : 0 ≤ d) {μ : Mem} {k0 : Nat} (hk0 : isC 0 k0) {r : Mem} (h : f_X0_letOff μ k0 = some r) : CT l yX0_letOff cX0_letOff 1 none d G [.ref (gad G k0)] μ (RK none r) := by
  refine ct_start (by decide) (Nat.le_of_ble_eq_true rfl) (fun C hl1 hG1 hC hQ hr => ?_)
  subst hl1; subst hG1
  have hC : CxOK C cX0_letOff 1 RX0 d := hC
  show UW C 1 μ 0 [(0, .ref (gad (cG C) k0))] []
  unfold f_X0_letOff at h
  refine u_aload_n (pc := 0) hC dX0_letOff_0 rfl 0 rfl ?_
  refine u_iconst (pc := 1) hC ic_0 dX0_letOff_1 ?_
  obtain ⟨m2, q2, h⟩ := of_bd h
  refine p_RX0_37 (pc := 2) hC hk0 dX0_letOff_2 (Option.some.inj q2) ?_
  refine u_aload_n (pc := 5) hC dX0_letOff_5 rfl 0 rfl ?_
  refine u_iconst (pc := 6) hC ic_0 dX0_letOff_6 ?_
  obtain ⟨m7, q7, h⟩ := of_bd h
  refine p_RX0_24 (pc := 7) hC hk0 dX0_letOff_7 (Option.some.inj q7) ?_
  refine u_aload_n (pc := 10) hC dX0_letOff_10 rfl 0 rfl ?_
  refine u_iconst (pc := 11) hC ic_0 dX0_letOff_11 ?_
  obtain ⟨m12, q12, h⟩ := of_bd h
  refine p_RX0_28 (pc := 12) hC hk0 dX0_letOff_12 (Option.some.inj q12) ?_
  refine u_aload_n (pc := 15) hC dX0_letOff_15 rfl 0 rfl ?_
  refine u_iconst (pc := 16) hC ic_0 dX0_letOff_16 ?_
  obtain ⟨m17, q17, h⟩ := of_bd h
  refine p_RX0_40 (pc := 17) hC hk0 (by decide) dX0_letOff_17 (Option.some.inj q17) ?_
  obtain rfl := Option.some.inj h
  exact u_vret (pc := 20) hC hQ hr ⟨rfl, rfl⟩ dX0_letOff_20
set_option maxHeartbeats 4000000 in
set_option maxRecDepth 100000 in
theorem c_X0_keep {l : Launch} {G : GG} {d : Nat} (hd : 0 ≤ d) {μ : Mem} {k0 : Nat} (hk0 : isC 0 k0) {a1 : Int32} {a2 : Int32} {r : Mem} (h : f_X0_keep μ k0 a1 a2 = some r) : CT l yX0_keep cX0_keep 3 none d G [.ref (gad G k0), .int a1, .int a2] μ (RK none r) := by
  refine ct_start (by decide) (Nat.le_of_ble_eq_true rfl) (fun C hl1 hG1 hC hQ hr => ?_)
  subst hl1; subst hG1
  have hC : CxOK C cX0_keep 3 RX0 d := hC
  show UW C 3 μ 0 [(0, .ref (gad (cG C) k0)), (1, .int a1), (2, .int a2)] []
  unfold f_X0_keep at h
  refine u_aload_n (pc := 0) hC dX0_keep_0 rfl 0 rfl ?_
  refine g_RX0_28 (pc := 1) hC hk0 dX0_keep_1 ?_
  refine u_bipush (pc := 4) hC bc_8 dX0_keep_4 ?_
  refine u_icmp_ge (pc := 6) hC (tgt := 58) dX0_keep_6 (by decide) (fun c6 => ?_) (fun c6 => ?_)
  · replace h := of_t c6 h
    obtain rfl := Option.some.inj h
    exact u_vret (pc := 58) hC hQ hr ⟨rfl, rfl⟩ dX0_keep_58
  · replace h := of_f c6 h
    refine u_iload_n (pc := 9) hC dX0_keep_9 rfl 1 rfl ?_
    refine u_if_lt (pc := 10) hC (tgt := 58) dX0_keep_10 (by decide) (fun c10 => ?_) (fun c10 => ?_)
    · replace h := of_t c10 h
      obtain rfl := Option.some.inj h
      exact u_vret (pc := 58) hC hQ hr ⟨rfl, rfl⟩ dX0_keep_58
    · replace h := of_f c10 h
      refine u_iload_n (pc := 13) hC dX0_keep_13 rfl 1 rfl ?_
      refine u_bipush (pc := 14) hC bc_8 dX0_keep_14 ?_
      refine u_icmp_ge (pc := 16) hC (tgt := 58) dX0_keep_16 (by decide) (fun c16 => ?_) (fun c16 => ?_)
      · replace h := of_t c16 h
        obtain rfl := Option.some.inj h
        exact u_vret (pc := 58) hC hQ hr ⟨rfl, rfl⟩ dX0_keep_58
      · replace h := of_f c16 h
        refine u_aload_n (pc := 19) hC dX0_keep_19 rfl 0 rfl ?_
        refine g_RX0_9 (pc := 20) hC hk0 dX0_keep_20 ?_
        refine u_aload_n (pc := 23) hC dX0_keep_23 rfl 0 rfl ?_
        refine g_RX0_28 (pc := 24) hC hk0 dX0_keep_24 ?_
        refine u_iload_n (pc := 27) hC dX0_keep_27 rfl 1 rfl ?_
        obtain ⟨b28, h⟩ := of_gd h
        obtain ⟨m28, q28, h⟩ := of_bd h
        refine u_iast (pc := 28) hC (rs_0_0 hk0) 8 (rn_0_0 hk0) b28 dX0_keep_28 (Option.some.inj q28) ?_
        refine u_aload_n (pc := 29) hC dX0_keep_29 rfl 0 rfl ?_
        refine g_RX0_15 (pc := 30) hC hk0 dX0_keep_30 ?_
        refine u_iload_n (pc := 33) hC dX0_keep_33 rfl 1 rfl ?_
        refine u_iload_n (pc := 34) hC dX0_keep_34 rfl 2 rfl ?_
        obtain ⟨b35, h⟩ := of_gd h
        obtain ⟨m35, q35, h⟩ := of_bd h
        refine u_iast (pc := 35) hC (rs_0_1 hk0) 8 (rn_0_1 hk0) b35 dX0_keep_35 (Option.some.inj q35) ?_
        refine u_aload_n (pc := 36) hC dX0_keep_36 rfl 0 rfl ?_
        refine u_dup (pc := 37) hC rfl dX0_keep_37 ?_
        refine g_RX0_24 (pc := 38) hC hk0 dX0_keep_38 ?_
        refine u_iconst (pc := 41) hC ic_1 dX0_keep_41 ?_
        refine u_iload_n (pc := 42) hC dX0_keep_42 rfl 1 rfl ?_
        refine u_ishl (pc := 43) hC dX0_keep_43 ?_
        refine u_ior (pc := 44) hC dX0_keep_44 ?_
        obtain ⟨m45, q45, h⟩ := of_bd h
        refine p_RX0_24 (pc := 45) hC hk0 dX0_keep_45 (Option.some.inj q45) ?_
        refine u_aload_n (pc := 48) hC dX0_keep_48 rfl 0 rfl ?_
        refine u_dup (pc := 49) hC rfl dX0_keep_49 ?_
        refine g_RX0_28 (pc := 50) hC hk0 dX0_keep_50 ?_
        refine u_iconst (pc := 53) hC ic_1 dX0_keep_53 ?_
        refine u_iadd (pc := 54) hC dX0_keep_54 ?_
        obtain ⟨m55, q55, h⟩ := of_bd h
        refine p_RX0_28 (pc := 55) hC hk0 dX0_keep_55 (Option.some.inj q55) ?_
        obtain rfl := Option.some.inj h
        exact u_vret (pc := 58) hC hQ hr ⟨rfl, rfl⟩ dX0_keep_58
set_option maxHeartbeats 4000000 in
set_option maxRecDepth 100000 in
theorem c_X0_alikeFrom {l : Launch} {G : GG} {d : Nat} (hd : 0 ≤ d) {μ : Mem} {k0 : Nat} (hk0 : isC 0 k0) {a1 : Int32} {k2 : Nat} (hk2 : isC 6 k2) {r : Int32} (h : f_X0_alikeFrom μ k0 a1 k2 = some r) : CT l yX0_alikeFrom cX0_alikeFrom 4 (some .int) d G [.ref (gad G k0), .int a1, .ref (gad G k2)] μ (RK (some (.int r)) μ) := by
  refine ct_start (by decide) (Nat.le_of_ble_eq_true rfl) (fun C hl1 hG1 hC hQ hr => ?_)
  subst hl1; subst hG1
  have hC : CxOK C cX0_alikeFrom 4 RX0 d := hC
  show UW C 4 μ 0 [(0, .ref (gad (cG C) k0)), (1, .int a1), (2, .ref (gad (cG C) k2))] []
  have lw2 : ∀ (e : (Int32)) (s : Int32), lp (fun s => f_X0_alikeFrom_l2 μ k0 a1 k2 s) FU s = some e → (fun (e : (Int32)) => UW C 4 μ 43 [(3, .int e)] []) e → UW C 4 μ 2 [(0, .ref (gad (cG C) k0)), (1, .int a1), (2, .ref (gad (cG C) k2)), (3, .int s)] [] := by
    intro e s hl hE0
    refine @lp_walk (Int32) (Int32) (fun s => f_X0_alikeFrom_l2 μ k0 a1 k2 s) (fun s => UW C 4 μ 2 [(0, .ref (gad (cG C) k0)), (1, .int a1), (2, .ref (gad (cG C) k2)), (3, .int s)] []) (fun (e : (Int32)) => UW C 4 μ 43 [(3, .int e)] []) (fun v3_2 y2 h hP2 hE2 => ?_) FU s e hl hE0
    replace h : f_X0_alikeFrom_l2 μ k0 a1 k2 v3_2 = some y2 := h
    show UW C 4 μ 2 [(0, .ref (gad (cG C) k0)), (1, .int a1), (2, .ref (gad (cG C) k2)), (3, .int v3_2)] []
    unfold f_X0_alikeFrom_l2 at h
    refine u_iload_n (pc := 2) hC dX0_alikeFrom_2 rfl 3 rfl ?_
    refine u_aload_n (pc := 3) hC dX0_alikeFrom_3 rfl 2 rfl ?_
    refine g_RX0_53 (pc := 4) hC hk2 dX0_alikeFrom_4 ?_
    refine u_icmp_ge (pc := 7) hC (tgt := 43) dX0_alikeFrom_7 (by decide) (fun c7 => ?_) (fun c7 => ?_)
    · replace h := of_t c7 h
      obtain rfl := Option.some.inj h
      refine u_sub [3] rfl ?_
      exact hE2 v3_2 rfl
    · replace h := of_f c7 h
      refine u_iload_n (pc := 10) hC dX0_alikeFrom_10 rfl 1 rfl ?_
      refine u_iload_n (pc := 11) hC dX0_alikeFrom_11 rfl 3 rfl ?_
      refine u_iadd (pc := 12) hC dX0_alikeFrom_12 ?_
      refine u_aload_n (pc := 13) hC dX0_alikeFrom_13 rfl 0 rfl ?_
      refine g_RX0_28 (pc := 14) hC hk0 dX0_alikeFrom_14 ?_
      refine u_icmp_ge (pc := 17) hC (tgt := 43) dX0_alikeFrom_17 (by decide) (fun c17 => ?_) (fun c17 => ?_)
      · replace h := of_t c17 h
        obtain rfl := Option.some.inj h
        refine u_sub [3] rfl ?_
        exact hE2 v3_2 rfl
      · replace h := of_f c17 h
        refine u_aload_n (pc := 20) hC dX0_alikeFrom_20 rfl 0 rfl ?_
        refine g_RX0_9 (pc := 21) hC hk0 dX0_alikeFrom_21 ?_
        refine u_iload_n (pc := 24) hC dX0_alikeFrom_24 rfl 1 rfl ?_
        refine u_iload_n (pc := 25) hC dX0_alikeFrom_25 rfl 3 rfl ?_
        refine u_iadd (pc := 26) hC dX0_alikeFrom_26 ?_
        obtain ⟨b27, h⟩ := of_gd h
        refine u_iald (pc := 27) hC (rs_0_0 hk0) 8 (rn_0_0 hk0) b27 dX0_alikeFrom_27 ?_
        refine u_aload_n (pc := 28) hC dX0_alikeFrom_28 rfl 2 rfl ?_
        refine g_RX0_56 (pc := 29) hC hk2 dX0_alikeFrom_29 ?_
        refine u_iload_n (pc := 32) hC dX0_alikeFrom_32 rfl 3 rfl ?_
        obtain ⟨b33, h⟩ := of_gd h
        refine u_iald (pc := 33) hC (rs_6_0 hk2) 40 (rn_6_0 hk2) b33 dX0_alikeFrom_33 ?_
        refine u_icmp_ne (pc := 34) hC (tgt := 43) dX0_alikeFrom_34 (by decide) (fun c34 => ?_) (fun c34 => ?_)
        · replace h := of_t c34 h
          obtain rfl := Option.some.inj h
          refine u_sub [3] rfl ?_
          exact hE2 v3_2 rfl
        · replace h := of_f (fun q => q c34) h
          refine u_iinc (pc := 37) hC dX0_alikeFrom_37 3 rfl (v3_2 + 1) rfl [(3, .int (v3_2 + 1)), (0, .ref (gad (cG C) k0)), (1, .int a1), (2, .ref (gad (cG C) k2))] (by decide) rfl ?_
          refine u_goto (pc := 40) hC 2 dX0_alikeFrom_40 (by decide) ?_
          obtain rfl := Option.some.inj h
          refine u_sub [1, 2, 3, 0] rfl ?_
          exact hP2 (v3_2 + 1) rfl
  unfold f_X0_alikeFrom at h
  refine u_iconst (pc := 0) hC ic_0 dX0_alikeFrom_0 ?_
  refine u_istore_n (pc := 1) hC dX0_alikeFrom_1 rfl [(3, .int (0 : Int32)), (0, .ref (gad (cG C) k0)), (1, .int a1), (2, .ref (gad (cG C) k2))] (by decide) rfl ?_
  obtain ⟨e2, l2, h⟩ := of_bd h
  refine u_sub [1, 2, 3, 0] rfl ?_
  refine lw2  e2 (0 : Int32) l2 ?_
  show UW C 4 μ 43 [(3, .int e2)] []
  refine u_iload_n (pc := 43) hC dX0_alikeFrom_43 rfl 0 rfl ?_
  obtain rfl := Option.some.inj h
  exact u_iret (pc := 44) hC hQ hr ⟨rfl, rfl⟩ dX0_alikeFrom_44
set_option maxHeartbeats 4000000 in
set_option maxRecDepth 100000 in
theorem c_X1_add {l : Launch} {G : GG} {d : Nat} (hd : 0 ≤ d) {μ : Mem} {k0 : Nat} (hk0 : isC 1 k0) {a1 : Int32} {a2 : Int32} {r : Int32 × Mem} (h : f_X1_add μ k0 a1 a2 = some r) : CT l yX1_add cX1_add 4 (some .int) d G [.ref (gad G k0), .int a1, .int a2] μ (RK (some (.int r.1)) r.2) := by
  refine ct_start (by decide) (Nat.le_of_ble_eq_true rfl) (fun C hl1 hG1 hC hQ hr => ?_)
  subst hl1; subst hG1
  have hC : CxOK C cX1_add 4 RX1 d := hC
  show UW C 4 μ 0 [(0, .ref (gad (cG C) k0)), (1, .int a1), (2, .int a2)] []
  unfold f_X1_add at h
  refine u_aload_n (pc := 0) hC dX1_add_0 rfl 0 rfl ?_
  refine g_RX1_27 (pc := 1) hC hk0 dX1_add_1 ?_
  refine u_istore_n (pc := 4) hC dX1_add_4 rfl [(3, .int (rd μ k0 5)), (0, .ref (gad (cG C) k0)), (1, .int a1), (2, .int a2)] (by decide) rfl ?_
  refine u_iload_n (pc := 5) hC dX1_add_5 rfl 0 rfl ?_
  refine u_bipush (pc := 6) hC bc_8 dX1_add_6 ?_
  refine u_icmp_ge (pc := 8) hC (tgt := 56) dX1_add_8 (by decide) (fun c8 => ?_) (fun c8 => ?_)
  · replace h := of_t c8 h
    refine u_iload_n (pc := 56) hC dX1_add_56 rfl 0 rfl ?_
    obtain rfl := Option.some.inj h
    exact u_iret (pc := 57) hC hQ hr ⟨rfl, rfl⟩ dX1_add_57
  · replace h := of_f c8 h
    refine u_aload_n (pc := 11) hC dX1_add_11 rfl 1 rfl ?_
    refine g_RX1_9 (pc := 12) hC hk0 dX1_add_12 ?_
    refine u_iload_n (pc := 15) hC dX1_add_15 rfl 0 rfl ?_
    refine u_iload_n (pc := 16) hC dX1_add_16 rfl 2 rfl ?_
    obtain ⟨b17, h⟩ := of_gd h
    obtain ⟨m17, q17, h⟩ := of_bd h
    refine u_iast (pc := 17) hC (rs_1_0 hk0) 8 (rn_1_0 hk0) b17 dX1_add_17 (Option.some.inj q17) ?_
    refine u_aload_n (pc := 18) hC dX1_add_18 rfl 1 rfl ?_
    refine g_RX1_15 (pc := 19) hC hk0 dX1_add_19 ?_
    refine u_iload_n (pc := 22) hC dX1_add_22 rfl 0 rfl ?_
    refine u_iconst (pc := 23) hC ic_0 dX1_add_23 ?_
    obtain ⟨b24, h⟩ := of_gd h
    obtain ⟨m24, q24, h⟩ := of_bd h
    refine u_iast (pc := 24) hC (rs_1_1 hk0) 8 (rn_1_1 hk0) b24 dX1_add_24 (Option.some.inj q24) ?_
    refine u_aload_n (pc := 25) hC dX1_add_25 rfl 1 rfl ?_
    refine g_RX1_18 (pc := 26) hC hk0 dX1_add_26 ?_
    refine u_iload_n (pc := 29) hC dX1_add_29 rfl 0 rfl ?_
    refine u_iconst (pc := 30) hC ic_0 dX1_add_30 ?_
    obtain ⟨b31, h⟩ := of_gd h
    obtain ⟨m31, q31, h⟩ := of_bd h
    refine u_iast (pc := 31) hC (rs_1_2 hk0) 8 (rn_1_2 hk0) b31 dX1_add_31 (Option.some.inj q31) ?_
    refine u_aload_n (pc := 32) hC dX1_add_32 rfl 1 rfl ?_
    refine g_RX1_21 (pc := 33) hC hk0 dX1_add_33 ?_
    refine u_iload_n (pc := 36) hC dX1_add_36 rfl 0 rfl ?_
    refine u_iconst (pc := 37) hC ic_m1 dX1_add_37 ?_
    obtain ⟨b38, h⟩ := of_gd h
    obtain ⟨m38, q38, h⟩ := of_bd h
    refine u_iast (pc := 38) hC (rs_1_3 hk0) 8 (rn_1_3 hk0) b38 dX1_add_38 (Option.some.inj q38) ?_
    refine u_aload_n (pc := 39) hC dX1_add_39 rfl 1 rfl ?_
    refine g_RX1_24 (pc := 40) hC hk0 dX1_add_40 ?_
    refine u_iload_n (pc := 43) hC dX1_add_43 rfl 0 rfl ?_
    refine u_iload_n (pc := 44) hC dX1_add_44 rfl 3 rfl ?_
    obtain ⟨b45, h⟩ := of_gd h
    obtain ⟨m45, q45, h⟩ := of_bd h
    refine u_iast (pc := 45) hC (rs_1_4 hk0) 8 (rn_1_4 hk0) b45 dX1_add_45 (Option.some.inj q45) ?_
    refine u_aload_n (pc := 46) hC dX1_add_46 rfl 1 rfl ?_
    refine u_dup (pc := 47) hC rfl dX1_add_47 ?_
    refine g_RX1_27 (pc := 48) hC hk0 dX1_add_48 ?_
    refine u_iconst (pc := 51) hC ic_1 dX1_add_51 ?_
    refine u_iadd (pc := 52) hC dX1_add_52 ?_
    obtain ⟨m53, q53, h⟩ := of_bd h
    refine p_RX1_27 (pc := 53) hC hk0 dX1_add_53 (Option.some.inj q53) ?_
    refine u_iload_n (pc := 56) hC dX1_add_56 rfl 0 rfl ?_
    obtain rfl := Option.some.inj h
    exact u_iret (pc := 57) hC hQ hr ⟨rfl, rfl⟩ dX1_add_57
set_option maxHeartbeats 4000000 in
set_option maxRecDepth 100000 in
theorem c_X1_copyFrom {l : Launch} {G : GG} {d : Nat} (hd : 0 ≤ d) {μ : Mem} {k0 : Nat} (hk0 : isC 1 k0) {k1 : Nat} (hk1 : isC 1 k1) {r : Mem} (h : f_X1_copyFrom μ k0 k1 = some r) : CT l yX1_copyFrom cX1_copyFrom 2 none d G [.ref (gad G k0), .ref (gad G k1)] μ (RK none r) := by
  refine ct_start (by decide) (Nat.le_of_ble_eq_true rfl) (fun C hl1 hG1 hC hQ hr => ?_)
  subst hl1; subst hG1
  have hC : CxOK C cX1_copyFrom 2 RX1 d := hC
  show UW C 2 μ 0 [(0, .ref (gad (cG C) k0)), (1, .ref (gad (cG C) k1))] []
  unfold f_X1_copyFrom at h
  refine u_aload_n (pc := 0) hC dX1_copyFrom_0 rfl 1 rfl ?_
  refine g_RX1_9 (pc := 1) hC hk1 dX1_copyFrom_1 ?_
  refine u_iconst (pc := 4) hC ic_0 dX1_copyFrom_4 ?_
  refine u_aload_n (pc := 5) hC dX1_copyFrom_5 rfl 0 rfl ?_
  refine g_RX1_9 (pc := 6) hC hk0 dX1_copyFrom_6 ?_
  refine u_iconst (pc := 9) hC ic_0 dX1_copyFrom_9 ?_
  refine u_bipush (pc := 10) hC bc_8 dX1_copyFrom_10 ?_
  obtain ⟨b12, h⟩ := of_gd h
  obtain ⟨m12, q12, h⟩ := of_bd h
  refine u_acopy (pc := 12) hC mL_RX1_31 mN_O_arraycopy mK_O_arraycopy mI_RJ10 (rs_1_0 hk1) (rs_1_0 hk0) b12 (Nat.le_of_ble_eq_true rfl) dX1_copyFrom_12 (Option.some.inj q12) ?_
  refine u_aload_n (pc := 15) hC dX1_copyFrom_15 rfl 1 rfl ?_
  refine g_RX1_15 (pc := 16) hC hk1 dX1_copyFrom_16 ?_
  refine u_iconst (pc := 19) hC ic_0 dX1_copyFrom_19 ?_
  refine u_aload_n (pc := 20) hC dX1_copyFrom_20 rfl 0 rfl ?_
  refine g_RX1_15 (pc := 21) hC hk0 dX1_copyFrom_21 ?_
  refine u_iconst (pc := 24) hC ic_0 dX1_copyFrom_24 ?_
  refine u_bipush (pc := 25) hC bc_8 dX1_copyFrom_25 ?_
  obtain ⟨b27, h⟩ := of_gd h
  obtain ⟨m27, q27, h⟩ := of_bd h
  refine u_acopy (pc := 27) hC mL_RX1_31 mN_O_arraycopy mK_O_arraycopy mI_RJ10 (rs_1_1 hk1) (rs_1_1 hk0) b27 (Nat.le_of_ble_eq_true rfl) dX1_copyFrom_27 (Option.some.inj q27) ?_
  refine u_aload_n (pc := 30) hC dX1_copyFrom_30 rfl 1 rfl ?_
  refine g_RX1_18 (pc := 31) hC hk1 dX1_copyFrom_31 ?_
  refine u_iconst (pc := 34) hC ic_0 dX1_copyFrom_34 ?_
  refine u_aload_n (pc := 35) hC dX1_copyFrom_35 rfl 0 rfl ?_
  refine g_RX1_18 (pc := 36) hC hk0 dX1_copyFrom_36 ?_
  refine u_iconst (pc := 39) hC ic_0 dX1_copyFrom_39 ?_
  refine u_bipush (pc := 40) hC bc_8 dX1_copyFrom_40 ?_
  obtain ⟨b42, h⟩ := of_gd h
  obtain ⟨m42, q42, h⟩ := of_bd h
  refine u_acopy (pc := 42) hC mL_RX1_31 mN_O_arraycopy mK_O_arraycopy mI_RJ10 (rs_1_2 hk1) (rs_1_2 hk0) b42 (Nat.le_of_ble_eq_true rfl) dX1_copyFrom_42 (Option.some.inj q42) ?_
  refine u_aload_n (pc := 45) hC dX1_copyFrom_45 rfl 1 rfl ?_
  refine g_RX1_21 (pc := 46) hC hk1 dX1_copyFrom_46 ?_
  refine u_iconst (pc := 49) hC ic_0 dX1_copyFrom_49 ?_
  refine u_aload_n (pc := 50) hC dX1_copyFrom_50 rfl 0 rfl ?_
  refine g_RX1_21 (pc := 51) hC hk0 dX1_copyFrom_51 ?_
  refine u_iconst (pc := 54) hC ic_0 dX1_copyFrom_54 ?_
  refine u_bipush (pc := 55) hC bc_8 dX1_copyFrom_55 ?_
  obtain ⟨b57, h⟩ := of_gd h
  obtain ⟨m57, q57, h⟩ := of_bd h
  refine u_acopy (pc := 57) hC mL_RX1_31 mN_O_arraycopy mK_O_arraycopy mI_RJ10 (rs_1_3 hk1) (rs_1_3 hk0) b57 (Nat.le_of_ble_eq_true rfl) dX1_copyFrom_57 (Option.some.inj q57) ?_
  refine u_aload_n (pc := 60) hC dX1_copyFrom_60 rfl 1 rfl ?_
  refine g_RX1_24 (pc := 61) hC hk1 dX1_copyFrom_61 ?_
  refine u_iconst (pc := 64) hC ic_0 dX1_copyFrom_64 ?_
  refine u_aload_n (pc := 65) hC dX1_copyFrom_65 rfl 0 rfl ?_
  refine g_RX1_24 (pc := 66) hC hk0 dX1_copyFrom_66 ?_
  refine u_iconst (pc := 69) hC ic_0 dX1_copyFrom_69 ?_
  refine u_bipush (pc := 70) hC bc_8 dX1_copyFrom_70 ?_
  obtain ⟨b72, h⟩ := of_gd h
  obtain ⟨m72, q72, h⟩ := of_bd h
  refine u_acopy (pc := 72) hC mL_RX1_31 mN_O_arraycopy mK_O_arraycopy mI_RJ10 (rs_1_4 hk1) (rs_1_4 hk0) b72 (Nat.le_of_ble_eq_true rfl) dX1_copyFrom_72 (Option.some.inj q72) ?_
  refine u_aload_n (pc := 75) hC dX1_copyFrom_75 rfl 0 rfl ?_
  refine u_aload_n (pc := 76) hC dX1_copyFrom_76 rfl 1 rfl ?_
  refine g_RX1_27 (pc := 77) hC hk1 dX1_copyFrom_77 ?_
  obtain ⟨m80, q80, h⟩ := of_bd h
  refine p_RX1_27 (pc := 80) hC hk0 dX1_copyFrom_80 (Option.some.inj q80) ?_
  obtain rfl := Option.some.inj h
  exact u_vret (pc := 83) hC hQ hr ⟨rfl, rfl⟩ dX1_copyFrom_83
set_option maxHeartbeats 4000000 in
set_option maxRecDepth 100000 in
theorem c_X1_setClash {l : Launch} {G : GG} {d : Nat} (hd : 0 ≤ d) {μ : Mem} {k0 : Nat} (hk0 : isC 1 k0) {a1 : Int32} {a2 : Int32} {a3 : Int32} {r : Mem} (h : f_X1_setClash μ k0 a1 a2 a3 = some r) : CT l yX1_setClash cX1_setClash 4 none d G [.ref (gad G k0), .int a1, .int a2, .int a3] μ (RK none r) := by
  refine ct_start (by decide) (Nat.le_of_ble_eq_true rfl) (fun C hl1 hG1 hC hQ hr => ?_)
  subst hl1; subst hG1
  have hC : CxOK C cX1_setClash 4 RX1 d := hC
  show UW C 4 μ 0 [(0, .ref (gad (cG C) k0)), (1, .int a1), (2, .int a2), (3, .int a3)] []
  unfold f_X1_setClash at h
  refine u_aload_n (pc := 0) hC dX1_setClash_0 rfl 0 rfl ?_
  refine g_RX1_15 (pc := 1) hC hk0 dX1_setClash_1 ?_
  refine u_iload_n (pc := 4) hC dX1_setClash_4 rfl 1 rfl ?_
  refine u_aload_n (pc := 5) hC dX1_setClash_5 rfl 0 rfl ?_
  refine g_RX1_15 (pc := 6) hC hk0 dX1_setClash_6 ?_
  refine u_iload_n (pc := 9) hC dX1_setClash_9 rfl 1 rfl ?_
  obtain ⟨b10, h⟩ := of_gd h
  refine u_iald (pc := 10) hC (rs_1_1 hk0) 8 (rn_1_1 hk0) b10 dX1_setClash_10 ?_
  refine u_iconst (pc := 11) hC ic_1 dX1_setClash_11 ?_
  refine u_iload_n (pc := 12) hC dX1_setClash_12 rfl 2 rfl ?_
  refine u_ishl (pc := 13) hC dX1_setClash_13 ?_
  refine u_iconst (pc := 14) hC ic_m1 dX1_setClash_14 ?_
  refine u_ixor (pc := 15) hC dX1_setClash_15 ?_
  refine u_iand (pc := 16) hC dX1_setClash_16 ?_
  refine u_iload_n (pc := 17) hC dX1_setClash_17 rfl 3 rfl ?_
  refine u_iload_n (pc := 18) hC dX1_setClash_18 rfl 2 rfl ?_
  refine u_ishl (pc := 19) hC dX1_setClash_19 ?_
  refine u_ior (pc := 20) hC dX1_setClash_20 ?_
  obtain ⟨b21, h⟩ := of_gd h
  obtain ⟨m21, q21, h⟩ := of_bd h
  refine u_iast (pc := 21) hC (rs_1_1 hk0) 8 (rn_1_1 hk0) b21 dX1_setClash_21 (Option.some.inj q21) ?_
  refine u_aload_n (pc := 22) hC dX1_setClash_22 rfl 0 rfl ?_
  refine g_RX1_15 (pc := 23) hC hk0 dX1_setClash_23 ?_
  refine u_iload_n (pc := 26) hC dX1_setClash_26 rfl 2 rfl ?_
  refine u_aload_n (pc := 27) hC dX1_setClash_27 rfl 0 rfl ?_
  refine g_RX1_15 (pc := 28) hC hk0 dX1_setClash_28 ?_
  refine u_iload_n (pc := 31) hC dX1_setClash_31 rfl 2 rfl ?_
  obtain ⟨b32, h⟩ := of_gd h
  refine u_iald (pc := 32) hC (rs_1_1 hk0) 8 (rn_1_1 hk0) b32 dX1_setClash_32 ?_
  refine u_iconst (pc := 33) hC ic_1 dX1_setClash_33 ?_
  refine u_iload_n (pc := 34) hC dX1_setClash_34 rfl 1 rfl ?_
  refine u_ishl (pc := 35) hC dX1_setClash_35 ?_
  refine u_iconst (pc := 36) hC ic_m1 dX1_setClash_36 ?_
  refine u_ixor (pc := 37) hC dX1_setClash_37 ?_
  refine u_iand (pc := 38) hC dX1_setClash_38 ?_
  refine u_iload_n (pc := 39) hC dX1_setClash_39 rfl 3 rfl ?_
  refine u_iload_n (pc := 40) hC dX1_setClash_40 rfl 1 rfl ?_
  refine u_ishl (pc := 41) hC dX1_setClash_41 ?_
  refine u_ior (pc := 42) hC dX1_setClash_42 ?_
  obtain ⟨b43, h⟩ := of_gd h
  obtain ⟨m43, q43, h⟩ := of_bd h
  refine u_iast (pc := 43) hC (rs_1_1 hk0) 8 (rn_1_1 hk0) b43 dX1_setClash_43 (Option.some.inj q43) ?_
  obtain rfl := Option.some.inj h
  exact u_vret (pc := 44) hC hQ hr ⟨rfl, rfl⟩ dX1_setClash_44
set_option maxHeartbeats 4000000 in
set_option maxRecDepth 100000 in
theorem c_J6_numberOfTrailingZeros_0f7a4 {l : Launch} {G : GG} {d : Nat} (hd : 0 ≤ d) {μ : Mem} {a0 : Int32} {r : Int32} (h : f_J6_numberOfTrailingZeros_0f7a4 a0 = some r) : CT l yJ6_numberOfTrailingZeros_0f7a4 cJ6_numberOfTrailingZeros_0f7a4 2 (some .int) d G [.int a0] μ (RK (some (.int r)) μ) := by
  refine ct_start (by decide) (Nat.le_of_ble_eq_true rfl) (fun C hl1 hG1 hC hQ hr => ?_)
  subst hl1; subst hG1
  have hC : CxOK C cJ6_numberOfTrailingZeros_0f7a4 2 RJ6 d := hC
  show UW C 2 μ 0 [(0, .int a0)] []
  have jb62 : ∀ (v0_62 : Int32) (v1_62 : Int32), f_J6_numberOfTrailingZeros_0f7a4_j62 v0_62 v1_62 = some r → UW C 2 μ 62 [(0, .int v0_62), (1, .int v1_62)] [] := by
    intro v0_62 v1_62 h
    unfold f_J6_numberOfTrailingZeros_0f7a4_j62 at h
    refine u_iload_n (pc := 62) hC dJ6_numberOfTrailingZeros_0f7a4_62 rfl 0 rfl ?_
    refine u_iconst (pc := 63) hC ic_4 dJ6_numberOfTrailingZeros_0f7a4_63 ?_
    refine u_icmp_le (pc := 64) hC (tgt := 74) dJ6_numberOfTrailingZeros_0f7a4_64 (by decide) (fun c64 => ?_) (fun c64 => ?_)
    · replace h := of_t c64 h
      refine u_iload_n (pc := 74) hC dJ6_numberOfTrailingZeros_0f7a4_74 rfl 1 rfl ?_
      refine u_iload_n (pc := 75) hC dJ6_numberOfTrailingZeros_0f7a4_75 rfl 0 rfl ?_
      refine u_iconst (pc := 76) hC ic_1 dJ6_numberOfTrailingZeros_0f7a4_76 ?_
      refine u_iushr (pc := 77) hC dJ6_numberOfTrailingZeros_0f7a4_77 ?_
      refine u_iadd (pc := 78) hC dJ6_numberOfTrailingZeros_0f7a4_78 ?_
      obtain rfl := Option.some.inj h
      exact u_iret (pc := 79) hC hQ hr ⟨rfl, rfl⟩ dJ6_numberOfTrailingZeros_0f7a4_79
    · replace h := of_f c64 h
      refine u_iinc (pc := 67) hC dJ6_numberOfTrailingZeros_0f7a4_67 1 rfl (v1_62 + 2) rfl [(1, .int (v1_62 + 2)), (0, .int v0_62)] (by decide) rfl ?_
      refine u_iload_n (pc := 70) hC dJ6_numberOfTrailingZeros_0f7a4_70 rfl 1 rfl ?_
      refine u_iconst (pc := 71) hC ic_2 dJ6_numberOfTrailingZeros_0f7a4_71 ?_
      refine u_iushr (pc := 72) hC dJ6_numberOfTrailingZeros_0f7a4_72 ?_
      refine u_istore_n (pc := 73) hC dJ6_numberOfTrailingZeros_0f7a4_73 rfl [(0, .int (jushr v0_62 (2 : Int32))), (1, .int (v1_62 + 2))] (by decide) rfl ?_
      refine u_iload_n (pc := 74) hC dJ6_numberOfTrailingZeros_0f7a4_74 rfl 1 rfl ?_
      refine u_iload_n (pc := 75) hC dJ6_numberOfTrailingZeros_0f7a4_75 rfl 0 rfl ?_
      refine u_iconst (pc := 76) hC ic_1 dJ6_numberOfTrailingZeros_0f7a4_76 ?_
      refine u_iushr (pc := 77) hC dJ6_numberOfTrailingZeros_0f7a4_77 ?_
      refine u_iadd (pc := 78) hC dJ6_numberOfTrailingZeros_0f7a4_78 ?_
      obtain rfl := Option.some.inj h
      exact u_iret (pc := 79) hC hQ hr ⟨rfl, rfl⟩ dJ6_numberOfTrailingZeros_0f7a4_79
  have jb49 : ∀ (v0_49 : Int32) (v1_49 : Int32), f_J6_numberOfTrailingZeros_0f7a4_j49 v0_49 v1_49 = some r → UW C 2 μ 49 [(0, .int v0_49), (1, .int v1_49)] [] := by
    intro v0_49 v1_49 h
    unfold f_J6_numberOfTrailingZeros_0f7a4_j49 at h
    refine u_iload_n (pc := 49) hC dJ6_numberOfTrailingZeros_0f7a4_49 rfl 0 rfl ?_
    refine u_bipush (pc := 50) hC bc_16 dJ6_numberOfTrailingZeros_0f7a4_50 ?_
    refine u_icmp_le (pc := 52) hC (tgt := 62) dJ6_numberOfTrailingZeros_0f7a4_52 (by decide) (fun c52 => ?_) (fun c52 => ?_)
    · replace h := of_t c52 h
      exact jb62 v0_49 v1_49 h
    · replace h := of_f c52 h
      refine u_iinc (pc := 55) hC dJ6_numberOfTrailingZeros_0f7a4_55 1 rfl (v1_49 + 4) rfl [(1, .int (v1_49 + 4)), (0, .int v0_49)] (by decide) rfl ?_
      refine u_iload_n (pc := 58) hC dJ6_numberOfTrailingZeros_0f7a4_58 rfl 1 rfl ?_
      refine u_iconst (pc := 59) hC ic_4 dJ6_numberOfTrailingZeros_0f7a4_59 ?_
      refine u_iushr (pc := 60) hC dJ6_numberOfTrailingZeros_0f7a4_60 ?_
      refine u_istore_n (pc := 61) hC dJ6_numberOfTrailingZeros_0f7a4_61 rfl [(0, .int (jushr v0_49 (4 : Int32))), (1, .int (v1_49 + 4))] (by decide) rfl ?_
      exact jb62 (jushr v0_49 (4 : Int32)) (v1_49 + 4) h
  have jb34 : ∀ (v0_34 : Int32) (v1_34 : Int32), f_J6_numberOfTrailingZeros_0f7a4_j34 v0_34 v1_34 = some r → UW C 2 μ 34 [(0, .int v0_34), (1, .int v1_34)] [] := by
    intro v0_34 v1_34 h
    unfold f_J6_numberOfTrailingZeros_0f7a4_j34 at h
    refine u_iload_n (pc := 34) hC dJ6_numberOfTrailingZeros_0f7a4_34 rfl 0 rfl ?_
    refine u_sipush (pc := 35) hC sc_256 dJ6_numberOfTrailingZeros_0f7a4_35 ?_
    refine u_icmp_le (pc := 38) hC (tgt := 49) dJ6_numberOfTrailingZeros_0f7a4_38 (by decide) (fun c38 => ?_) (fun c38 => ?_)
    · replace h := of_t c38 h
      exact jb49 v0_34 v1_34 h
    · replace h := of_f c38 h
      refine u_iinc (pc := 41) hC dJ6_numberOfTrailingZeros_0f7a4_41 1 rfl (v1_34 + 8) rfl [(1, .int (v1_34 + 8)), (0, .int v0_34)] (by decide) rfl ?_
      refine u_iload_n (pc := 44) hC dJ6_numberOfTrailingZeros_0f7a4_44 rfl 1 rfl ?_
      refine u_bipush (pc := 45) hC bc_8 dJ6_numberOfTrailingZeros_0f7a4_45 ?_
      refine u_iushr (pc := 47) hC dJ6_numberOfTrailingZeros_0f7a4_47 ?_
      refine u_istore_n (pc := 48) hC dJ6_numberOfTrailingZeros_0f7a4_48 rfl [(0, .int (jushr v0_34 (8 : Int32))), (1, .int (v1_34 + 8))] (by decide) rfl ?_
      exact jb49 (jushr v0_34 (8 : Int32)) (v1_34 + 8) h
  unfold f_J6_numberOfTrailingZeros_0f7a4 at h
  refine u_iload_n (pc := 0) hC dJ6_numberOfTrailingZeros_0f7a4_0 rfl 0 rfl ?_
  refine u_iconst (pc := 1) hC ic_m1 dJ6_numberOfTrailingZeros_0f7a4_1 ?_
  refine u_ixor (pc := 2) hC dJ6_numberOfTrailingZeros_0f7a4_2 ?_
  refine u_iload_n (pc := 3) hC dJ6_numberOfTrailingZeros_0f7a4_3 rfl 0 rfl ?_
  refine u_iconst (pc := 4) hC ic_1 dJ6_numberOfTrailingZeros_0f7a4_4 ?_
  refine u_isub (pc := 5) hC dJ6_numberOfTrailingZeros_0f7a4_5 ?_
  refine u_iand (pc := 6) hC dJ6_numberOfTrailingZeros_0f7a4_6 ?_
  refine u_istore_n (pc := 7) hC dJ6_numberOfTrailingZeros_0f7a4_7 rfl [(0, .int ((a0 ^^^ (-1 : Int32)) &&& (a0 - (1 : Int32))))] (by decide) rfl ?_
  refine u_iload_n (pc := 8) hC dJ6_numberOfTrailingZeros_0f7a4_8 rfl 0 rfl ?_
  refine u_if_gt (pc := 9) hC (tgt := 17) dJ6_numberOfTrailingZeros_0f7a4_9 (by decide) (fun c9 => ?_) (fun c9 => ?_)
  · replace h := of_t c9 h
    refine u_iconst (pc := 17) hC ic_1 dJ6_numberOfTrailingZeros_0f7a4_17 ?_
    refine u_istore_n (pc := 18) hC dJ6_numberOfTrailingZeros_0f7a4_18 rfl [(1, .int (1 : Int32)), (0, .int ((a0 ^^^ (-1 : Int32)) &&& (a0 - (1 : Int32))))] (by decide) rfl ?_
    refine u_iload_n (pc := 19) hC dJ6_numberOfTrailingZeros_0f7a4_19 rfl 1 rfl ?_
    refine u_ldcw (pc := 20) hC (v := (65536 : Int32)) mQ_RJ6_264 dJ6_numberOfTrailingZeros_0f7a4_20 ?_
    refine u_icmp_le (pc := 23) hC (tgt := 34) dJ6_numberOfTrailingZeros_0f7a4_23 (by decide) (fun c23 => ?_) (fun c23 => ?_)
    · replace h := of_t c23 h
      refine u_sub [1, 0] rfl ?_
      exact jb34 ((a0 ^^^ (-1 : Int32)) &&& (a0 - (1 : Int32))) (1 : Int32) h
    · replace h := of_f c23 h
      refine u_iinc (pc := 26) hC dJ6_numberOfTrailingZeros_0f7a4_26 0 rfl ((1 : Int32) + 16) rfl [(1, .int ((1 : Int32) + 16)), (0, .int ((a0 ^^^ (-1 : Int32)) &&& (a0 - (1 : Int32))))] (by decide) rfl ?_
      refine u_iload_n (pc := 29) hC dJ6_numberOfTrailingZeros_0f7a4_29 rfl 1 rfl ?_
      refine u_bipush (pc := 30) hC bc_16 dJ6_numberOfTrailingZeros_0f7a4_30 ?_
      refine u_iushr (pc := 32) hC dJ6_numberOfTrailingZeros_0f7a4_32 ?_
      refine u_istore_n (pc := 33) hC dJ6_numberOfTrailingZeros_0f7a4_33 rfl [(0, .int (jushr ((a0 ^^^ (-1 : Int32)) &&& (a0 - (1 : Int32))) (16 : Int32))), (1, .int ((1 : Int32) + 16))] (by decide) rfl ?_
      exact jb34 (jushr ((a0 ^^^ (-1 : Int32)) &&& (a0 - (1 : Int32))) (16 : Int32)) ((1 : Int32) + 16) h
  · replace h := of_f c9 h
    refine u_iload_n (pc := 12) hC dJ6_numberOfTrailingZeros_0f7a4_12 rfl 0 rfl ?_
    refine u_bipush (pc := 13) hC bc_32 dJ6_numberOfTrailingZeros_0f7a4_13 ?_
    refine u_iand (pc := 15) hC dJ6_numberOfTrailingZeros_0f7a4_15 ?_
    obtain rfl := Option.some.inj h
    exact u_iret (pc := 16) hC hQ hr ⟨rfl, rfl⟩ dJ6_numberOfTrailingZeros_0f7a4_16
set_option maxHeartbeats 4000000 in
set_option maxRecDepth 100000 in
theorem c_X1_firstClash {l : Launch} {G : GG} {d : Nat} (hd : 1 ≤ d) {μ : Mem} {k0 : Nat} (hk0 : isC 1 k0) {a1 : Int32} {r : Int32} (h : f_X1_firstClash μ k0 a1 = some r) : CT l yX1_firstClash cX1_firstClash 4 (some .int) d G [.ref (gad G k0), .int a1] μ (RK (some (.int r)) μ) := by
  refine ct_start (by decide) (Nat.le_of_ble_eq_true rfl) (fun C hl1 hG1 hC hQ hr => ?_)
  subst hl1; subst hG1
  have hC : CxOK C cX1_firstClash 4 RX1 d := hC
  show UW C 4 μ 0 [(0, .ref (gad (cG C) k0)), (1, .int a1)] []
  have lw2 : ∀ (e : ((Int32 × Int32) ⊕ Unit)) (s : Int32), lp (fun s => f_X1_firstClash_l2 μ k0 a1 s) FU s = some e → (Sum.elim (fun (e : (Int32 × Int32)) => UW C 4 μ 37 [(2, .int e.1), (3, .int e.2)] []) (fun (e : Unit) => UW C 4 μ 53 [] [])) e → UW C 4 μ 2 [(0, .ref (gad (cG C) k0)), (1, .int a1), (2, .int s)] [] := by
    intro e s hl hE0
    refine @lp_walk (Int32) ((Int32 × Int32) ⊕ Unit) (fun s => f_X1_firstClash_l2 μ k0 a1 s) (fun s => UW C 4 μ 2 [(0, .ref (gad (cG C) k0)), (1, .int a1), (2, .int s)] []) (Sum.elim (fun (e : (Int32 × Int32)) => UW C 4 μ 37 [(2, .int e.1), (3, .int e.2)] []) (fun (e : Unit) => UW C 4 μ 53 [] [])) (fun v2_2 y2 h hP2 hE2 => ?_) FU s e hl hE0
    replace h : f_X1_firstClash_l2 μ k0 a1 v2_2 = some y2 := h
    show UW C 4 μ 2 [(0, .ref (gad (cG C) k0)), (1, .int a1), (2, .int v2_2)] []
    unfold f_X1_firstClash_l2 at h
    refine u_iload_n (pc := 2) hC dX1_firstClash_2 rfl 2 rfl ?_
    refine u_aload_n (pc := 3) hC dX1_firstClash_3 rfl 0 rfl ?_
    refine g_RX1_27 (pc := 4) hC hk0 dX1_firstClash_4 ?_
    refine u_icmp_ge (pc := 7) hC (tgt := 53) dX1_firstClash_7 (by decide) (fun c7 => ?_) (fun c7 => ?_)
    · replace h := of_t c7 h
      obtain rfl := Option.some.inj h
      refine u_sub [] rfl ?_
      exact hE2 (.inr ()) rfl
    · replace h := of_f c7 h
      refine u_aload_n (pc := 10) hC dX1_firstClash_10 rfl 0 rfl ?_
      refine g_RX1_15 (pc := 11) hC hk0 dX1_firstClash_11 ?_
      refine u_iload_n (pc := 14) hC dX1_firstClash_14 rfl 2 rfl ?_
      obtain ⟨b15, h⟩ := of_gd h
      refine u_iald (pc := 15) hC (rs_1_1 hk0) 8 (rn_1_1 hk0) b15 dX1_firstClash_15 ?_
      refine u_iload_n (pc := 16) hC dX1_firstClash_16 rfl 1 rfl ?_
      refine u_iand (pc := 17) hC dX1_firstClash_17 ?_
      refine u_bipush (pc := 18) hC bc_m2 dX1_firstClash_18 ?_
      refine u_iload_n (pc := 20) hC dX1_firstClash_20 rfl 2 rfl ?_
      refine u_ishl (pc := 21) hC dX1_firstClash_21 ?_
      refine u_iand (pc := 22) hC dX1_firstClash_22 ?_
      refine u_istore_n (pc := 23) hC dX1_firstClash_23 rfl [(3, .int (((rd μ (rf k0 1) v2_2.toNatClampNeg) &&& a1) &&& (jshl (-2 : Int32) v2_2))), (0, .ref (gad (cG C) k0)), (1, .int a1), (2, .int v2_2)] (by decide) rfl ?_
      refine u_iload_n (pc := 24) hC dX1_firstClash_24 rfl 2 rfl ?_
      refine u_iload_n (pc := 25) hC dX1_firstClash_25 rfl 3 rfl ?_
      refine u_ishr (pc := 26) hC dX1_firstClash_26 ?_
      refine u_iconst (pc := 27) hC ic_1 dX1_firstClash_27 ?_
      refine u_iand (pc := 28) hC dX1_firstClash_28 ?_
      refine u_iconst (pc := 29) hC ic_1 dX1_firstClash_29 ?_
      refine u_icmp_ne (pc := 30) hC (tgt := 47) dX1_firstClash_30 (by decide) (fun c30 => ?_) (fun c30 => ?_)
      · replace h := of_t c30 h
        refine u_iinc (pc := 47) hC dX1_firstClash_47 3 rfl (v2_2 + 1) rfl [(2, .int (v2_2 + 1)), (3, .int (((rd μ (rf k0 1) v2_2.toNatClampNeg) &&& a1) &&& (jshl (-2 : Int32) v2_2))), (0, .ref (gad (cG C) k0)), (1, .int a1)] (by decide) rfl ?_
        refine u_goto (pc := 50) hC 2 dX1_firstClash_50 (by decide) ?_
        obtain rfl := Option.some.inj h
        refine u_sub [2, 3, 0] rfl ?_
        exact hP2 (v2_2 + 1) rfl
      · replace h := of_f (fun q => q c30) h
        refine u_iload_n (pc := 33) hC dX1_firstClash_33 rfl 0 rfl ?_
        refine u_if_eq (pc := 34) hC (tgt := 47) dX1_firstClash_34 (by decide) (fun c34 => ?_) (fun c34 => ?_)
        · replace h := of_t c34 h
          refine u_iinc (pc := 47) hC dX1_firstClash_47 3 rfl (v2_2 + 1) rfl [(2, .int (v2_2 + 1)), (3, .int (((rd μ (rf k0 1) v2_2.toNatClampNeg) &&& a1) &&& (jshl (-2 : Int32) v2_2))), (0, .ref (gad (cG C) k0)), (1, .int a1)] (by decide) rfl ?_
          refine u_goto (pc := 50) hC 2 dX1_firstClash_50 (by decide) ?_
          obtain rfl := Option.some.inj h
          refine u_sub [2, 3, 0] rfl ?_
          exact hP2 (v2_2 + 1) rfl
        · replace h := of_f c34 h
          obtain rfl := Option.some.inj h
          refine u_sub [3, 0] rfl ?_
          exact hE2 (.inl (v2_2, ((rd μ (rf k0 1) v2_2.toNatClampNeg) &&& a1) &&& (jshl (-2 : Int32) v2_2))) rfl
  unfold f_X1_firstClash at h
  refine u_iconst (pc := 0) hC ic_0 dX1_firstClash_0 ?_
  refine u_istore_n (pc := 1) hC dX1_firstClash_1 rfl [(2, .int (0 : Int32)), (0, .ref (gad (cG C) k0)), (1, .int a1)] (by decide) rfl ?_
  obtain ⟨e2, l2, h⟩ := of_bd h
  refine u_sub [1, 2, 0] rfl ?_
  refine lw2  e2 (0 : Int32) l2 ?_
  rcases e2 with e2 | e2
  · replace h := of_el h
    show UW C 4 μ 37 [(2, .int e2.1), (3, .int e2.2)] []
    refine u_bipush (pc := 37) hC bc_10 dX1_firstClash_37 ?_
    refine u_iload_n (pc := 39) hC dX1_firstClash_39 rfl 0 rfl ?_
    refine u_imul (pc := 40) hC dX1_firstClash_40 ?_
    refine u_iload_n (pc := 41) hC dX1_firstClash_41 rfl 1 rfl ?_
    obtain ⟨r42, q42, h⟩ := of_bd h
    refine k_RX1_37 (pc := 42) hC (av := [.int e2.2]) (rest := [.int ((10 : Int32) * e2.1)]) (c_J6_numberOfTrailingZeros_0f7a4 (d := d - 1) (by omega)  q42) (by omega) (Nat.le_of_ble_eq_true rfl) rfl rfl dX1_firstClash_42 ?_
    refine u_iadd (pc := 45) hC dX1_firstClash_45 ?_
    obtain rfl := Option.some.inj h
    exact u_iret (pc := 46) hC hQ hr ⟨rfl, rfl⟩ dX1_firstClash_46
  · replace h := of_er h
    show UW C 4 μ 53 [] []
    refine u_iconst (pc := 53) hC ic_m1 dX1_firstClash_53 ?_
    obtain rfl := Option.some.inj h
    exact u_iret (pc := 54) hC hQ hr ⟨rfl, rfl⟩ dX1_firstClash_54
set_option maxHeartbeats 4000000 in
set_option maxRecDepth 100000 in
theorem c_X1_clashBetween {l : Launch} {G : GG} {d : Nat} (hd : 0 ≤ d) {μ : Mem} {k0 : Nat} (hk0 : isC 1 k0) {a1 : Int32} {a2 : Int32} {r : Int32} (h : f_X1_clashBetween μ k0 a1 a2 = some r) : CT l yX1_clashBetween cX1_clashBetween 4 (some .boolean) d G [.ref (gad G k0), .int a1, .int a2] μ (RK (some (.int r)) μ) := by
  refine ct_start (by decide) (Nat.le_of_ble_eq_true rfl) (fun C hl1 hG1 hC hQ hr => ?_)
  subst hl1; subst hG1
  have hC : CxOK C cX1_clashBetween 4 RX1 d := hC
  show UW C 4 μ 0 [(0, .ref (gad (cG C) k0)), (1, .int a1), (2, .int a2)] []
  have lw2 : ∀ (e : (Unit ⊕ Unit)) (s : Int32), lp (fun s => f_X1_clashBetween_l2 μ k0 a1 a2 s) FU s = some e → (Sum.elim (fun (e : Unit) => UW C 4 μ 30 [] []) (fun (e : Unit) => UW C 4 μ 38 [] [])) e → UW C 4 μ 2 [(0, .ref (gad (cG C) k0)), (1, .int a1), (2, .int a2), (3, .int s)] [] := by
    intro e s hl hE0
    refine @lp_walk (Int32) (Unit ⊕ Unit) (fun s => f_X1_clashBetween_l2 μ k0 a1 a2 s) (fun s => UW C 4 μ 2 [(0, .ref (gad (cG C) k0)), (1, .int a1), (2, .int a2), (3, .int s)] []) (Sum.elim (fun (e : Unit) => UW C 4 μ 30 [] []) (fun (e : Unit) => UW C 4 μ 38 [] [])) (fun v3_2 y2 h hP2 hE2 => ?_) FU s e hl hE0
    replace h : f_X1_clashBetween_l2 μ k0 a1 a2 v3_2 = some y2 := h
    show UW C 4 μ 2 [(0, .ref (gad (cG C) k0)), (1, .int a1), (2, .int a2), (3, .int v3_2)] []
    unfold f_X1_clashBetween_l2 at h
    refine u_iload_n (pc := 2) hC dX1_clashBetween_2 rfl 3 rfl ?_
    refine u_aload_n (pc := 3) hC dX1_clashBetween_3 rfl 0 rfl ?_
    refine g_RX1_27 (pc := 4) hC hk0 dX1_clashBetween_4 ?_
    refine u_icmp_ge (pc := 7) hC (tgt := 38) dX1_clashBetween_7 (by decide) (fun c7 => ?_) (fun c7 => ?_)
    · replace h := of_t c7 h
      obtain rfl := Option.some.inj h
      refine u_sub [] rfl ?_
      exact hE2 (.inr ()) rfl
    · replace h := of_f c7 h
      refine u_iload_n (pc := 10) hC dX1_clashBetween_10 rfl 1 rfl ?_
      refine u_iload_n (pc := 11) hC dX1_clashBetween_11 rfl 3 rfl ?_
      refine u_ishr (pc := 12) hC dX1_clashBetween_12 ?_
      refine u_iconst (pc := 13) hC ic_1 dX1_clashBetween_13 ?_
      refine u_iand (pc := 14) hC dX1_clashBetween_14 ?_
      refine u_iconst (pc := 15) hC ic_1 dX1_clashBetween_15 ?_
      refine u_icmp_ne (pc := 16) hC (tgt := 32) dX1_clashBetween_16 (by decide) (fun c16 => ?_) (fun c16 => ?_)
      · replace h := of_t c16 h
        refine u_iinc (pc := 32) hC dX1_clashBetween_32 3 rfl (v3_2 + 1) rfl [(3, .int (v3_2 + 1)), (0, .ref (gad (cG C) k0)), (1, .int a1), (2, .int a2)] (by decide) rfl ?_
        refine u_goto (pc := 35) hC 2 dX1_clashBetween_35 (by decide) ?_
        obtain rfl := Option.some.inj h
        refine u_sub [1, 2, 3, 0] rfl ?_
        exact hP2 (v3_2 + 1) rfl
      · replace h := of_f (fun q => q c16) h
        refine u_aload_n (pc := 19) hC dX1_clashBetween_19 rfl 0 rfl ?_
        refine g_RX1_15 (pc := 20) hC hk0 dX1_clashBetween_20 ?_
        refine u_iload_n (pc := 23) hC dX1_clashBetween_23 rfl 3 rfl ?_
        obtain ⟨b24, h⟩ := of_gd h
        refine u_iald (pc := 24) hC (rs_1_1 hk0) 8 (rn_1_1 hk0) b24 dX1_clashBetween_24 ?_
        refine u_iload_n (pc := 25) hC dX1_clashBetween_25 rfl 2 rfl ?_
        refine u_iand (pc := 26) hC dX1_clashBetween_26 ?_
        refine u_if_eq (pc := 27) hC (tgt := 32) dX1_clashBetween_27 (by decide) (fun c27 => ?_) (fun c27 => ?_)
        · replace h := of_t c27 h
          refine u_iinc (pc := 32) hC dX1_clashBetween_32 3 rfl (v3_2 + 1) rfl [(3, .int (v3_2 + 1)), (0, .ref (gad (cG C) k0)), (1, .int a1), (2, .int a2)] (by decide) rfl ?_
          refine u_goto (pc := 35) hC 2 dX1_clashBetween_35 (by decide) ?_
          obtain rfl := Option.some.inj h
          refine u_sub [1, 2, 3, 0] rfl ?_
          exact hP2 (v3_2 + 1) rfl
        · replace h := of_f c27 h
          obtain rfl := Option.some.inj h
          refine u_sub [] rfl ?_
          exact hE2 (.inl ()) rfl
  unfold f_X1_clashBetween at h
  refine u_iconst (pc := 0) hC ic_0 dX1_clashBetween_0 ?_
  refine u_istore_n (pc := 1) hC dX1_clashBetween_1 rfl [(3, .int (0 : Int32)), (0, .ref (gad (cG C) k0)), (1, .int a1), (2, .int a2)] (by decide) rfl ?_
  obtain ⟨e2, l2, h⟩ := of_bd h
  refine u_sub [1, 2, 3, 0] rfl ?_
  refine lw2  e2 (0 : Int32) l2 ?_
  rcases e2 with e2 | e2
  · replace h := of_el h
    show UW C 4 μ 30 [] []
    refine u_iconst (pc := 30) hC ic_1 dX1_clashBetween_30 ?_
    obtain rfl := Option.some.inj h
    exact u_zret (pc := 31) hC hQ hr (by decide) ⟨rfl, rfl⟩ dX1_clashBetween_31
  · replace h := of_er h
    show UW C 4 μ 38 [] []
    refine u_iconst (pc := 38) hC ic_0 dX1_clashBetween_38 ?_
    obtain rfl := Option.some.inj h
    exact u_zret (pc := 39) hC hQ hr (by decide) ⟨rfl, rfl⟩ dX1_clashBetween_39
set_option maxHeartbeats 4000000 in
set_option maxRecDepth 100000 in
theorem c_J6_bitCount_0f7a4 {l : Launch} {G : GG} {d : Nat} (hd : 0 ≤ d) {μ : Mem} {a0 : Int32} {r : Int32} (h : f_J6_bitCount_0f7a4 a0 = some r) : CT l yJ6_bitCount_0f7a4 cJ6_bitCount_0f7a4 1 (some .int) d G [.int a0] μ (RK (some (.int r)) μ) := by
  refine ct_start (by decide) (Nat.le_of_ble_eq_true rfl) (fun C hl1 hG1 hC hQ hr => ?_)
  subst hl1; subst hG1
  have hC : CxOK C cJ6_bitCount_0f7a4 1 RJ6 d := hC
  show UW C 1 μ 0 [(0, .int a0)] []
  unfold f_J6_bitCount_0f7a4 at h
  refine u_iload_n (pc := 0) hC dJ6_bitCount_0f7a4_0 rfl 0 rfl ?_
  refine u_iload_n (pc := 1) hC dJ6_bitCount_0f7a4_1 rfl 0 rfl ?_
  refine u_iconst (pc := 2) hC ic_1 dJ6_bitCount_0f7a4_2 ?_
  refine u_iushr (pc := 3) hC dJ6_bitCount_0f7a4_3 ?_
  refine u_ldcw (pc := 4) hC (v := (1431655765 : Int32)) mQ_RJ6_265 dJ6_bitCount_0f7a4_4 ?_
  refine u_iand (pc := 7) hC dJ6_bitCount_0f7a4_7 ?_
  refine u_isub (pc := 8) hC dJ6_bitCount_0f7a4_8 ?_
  refine u_istore_n (pc := 9) hC dJ6_bitCount_0f7a4_9 rfl [(0, .int (a0 - ((jushr a0 (1 : Int32)) &&& (1431655765 : Int32))))] (by decide) rfl ?_
  refine u_iload_n (pc := 10) hC dJ6_bitCount_0f7a4_10 rfl 0 rfl ?_
  refine u_ldcw (pc := 11) hC (v := (858993459 : Int32)) mQ_RJ6_266 dJ6_bitCount_0f7a4_11 ?_
  refine u_iand (pc := 14) hC dJ6_bitCount_0f7a4_14 ?_
  refine u_iload_n (pc := 15) hC dJ6_bitCount_0f7a4_15 rfl 0 rfl ?_
  refine u_iconst (pc := 16) hC ic_2 dJ6_bitCount_0f7a4_16 ?_
  refine u_iushr (pc := 17) hC dJ6_bitCount_0f7a4_17 ?_
  refine u_ldcw (pc := 18) hC (v := (858993459 : Int32)) mQ_RJ6_266 dJ6_bitCount_0f7a4_18 ?_
  refine u_iand (pc := 21) hC dJ6_bitCount_0f7a4_21 ?_
  refine u_iadd (pc := 22) hC dJ6_bitCount_0f7a4_22 ?_
  refine u_istore_n (pc := 23) hC dJ6_bitCount_0f7a4_23 rfl [(0, .int (((a0 - ((jushr a0 (1 : Int32)) &&& (1431655765 : Int32))) &&& (858993459 : Int32)) + ((jushr (a0 - ((jushr a0 (1 : Int32)) &&& (1431655765 : Int32))) (2 : Int32)) &&& (858993459 : Int32))))] (by decide) rfl ?_
  refine u_iload_n (pc := 24) hC dJ6_bitCount_0f7a4_24 rfl 0 rfl ?_
  refine u_iload_n (pc := 25) hC dJ6_bitCount_0f7a4_25 rfl 0 rfl ?_
  refine u_iconst (pc := 26) hC ic_4 dJ6_bitCount_0f7a4_26 ?_
  refine u_iushr (pc := 27) hC dJ6_bitCount_0f7a4_27 ?_
  refine u_iadd (pc := 28) hC dJ6_bitCount_0f7a4_28 ?_
  refine u_ldcw (pc := 29) hC (v := (252645135 : Int32)) mQ_RJ6_267 dJ6_bitCount_0f7a4_29 ?_
  refine u_iand (pc := 32) hC dJ6_bitCount_0f7a4_32 ?_
  refine u_istore_n (pc := 33) hC dJ6_bitCount_0f7a4_33 rfl [(0, .int (((((a0 - ((jushr a0 (1 : Int32)) &&& (1431655765 : Int32))) &&& (858993459 : Int32)) + ((jushr (a0 - ((jushr a0 (1 : Int32)) &&& (1431655765 : Int32))) (2 : Int32)) &&& (858993459 : Int32))) + (jushr (((a0 - ((jushr a0 (1 : Int32)) &&& (1431655765 : Int32))) &&& (858993459 : Int32)) + ((jushr (a0 - ((jushr a0 (1 : Int32)) &&& (1431655765 : Int32))) (2 : Int32)) &&& (858993459 : Int32))) (4 : Int32))) &&& (252645135 : Int32)))] (by decide) rfl ?_
  refine u_iload_n (pc := 34) hC dJ6_bitCount_0f7a4_34 rfl 0 rfl ?_
  refine u_iload_n (pc := 35) hC dJ6_bitCount_0f7a4_35 rfl 0 rfl ?_
  refine u_bipush (pc := 36) hC bc_8 dJ6_bitCount_0f7a4_36 ?_
  refine u_iushr (pc := 38) hC dJ6_bitCount_0f7a4_38 ?_
  refine u_iadd (pc := 39) hC dJ6_bitCount_0f7a4_39 ?_
  refine u_istore_n (pc := 40) hC dJ6_bitCount_0f7a4_40 rfl [(0, .int ((((((a0 - ((jushr a0 (1 : Int32)) &&& (1431655765 : Int32))) &&& (858993459 : Int32)) + ((jushr (a0 - ((jushr a0 (1 : Int32)) &&& (1431655765 : Int32))) (2 : Int32)) &&& (858993459 : Int32))) + (jushr (((a0 - ((jushr a0 (1 : Int32)) &&& (1431655765 : Int32))) &&& (858993459 : Int32)) + ((jushr (a0 - ((jushr a0 (1 : Int32)) &&& (1431655765 : Int32))) (2 : Int32)) &&& (858993459 : Int32))) (4 : Int32))) &&& (252645135 : Int32)) + (jushr (((((a0 - ((jushr a0 (1 : Int32)) &&& (1431655765 : Int32))) &&& (858993459 : Int32)) + ((jushr (a0 - ((jushr a0 (1 : Int32)) &&& (1431655765 : Int32))) (2 : Int32)) &&& (858993459 : Int32))) + (jushr (((a0 - ((jushr a0 (1 : Int32)) &&& (1431655765 : Int32))) &&& (858993459 : Int32)) + ((jushr (a0 - ((jushr a0 (1 : Int32)) &&& (1431655765 : Int32))) (2 : Int32)) &&& (858993459 : Int32))) (4 : Int32))) &&& (252645135 : Int32)) (8 : Int32))))] (by decide) rfl ?_
  refine u_iload_n (pc := 41) hC dJ6_bitCount_0f7a4_41 rfl 0 rfl ?_
  refine u_iload_n (pc := 42) hC dJ6_bitCount_0f7a4_42 rfl 0 rfl ?_
  refine u_bipush (pc := 43) hC bc_16 dJ6_bitCount_0f7a4_43 ?_
  refine u_iushr (pc := 45) hC dJ6_bitCount_0f7a4_45 ?_
  refine u_iadd (pc := 46) hC dJ6_bitCount_0f7a4_46 ?_
  refine u_istore_n (pc := 47) hC dJ6_bitCount_0f7a4_47 rfl [(0, .int (((((((a0 - ((jushr a0 (1 : Int32)) &&& (1431655765 : Int32))) &&& (858993459 : Int32)) + ((jushr (a0 - ((jushr a0 (1 : Int32)) &&& (1431655765 : Int32))) (2 : Int32)) &&& (858993459 : Int32))) + (jushr (((a0 - ((jushr a0 (1 : Int32)) &&& (1431655765 : Int32))) &&& (858993459 : Int32)) + ((jushr (a0 - ((jushr a0 (1 : Int32)) &&& (1431655765 : Int32))) (2 : Int32)) &&& (858993459 : Int32))) (4 : Int32))) &&& (252645135 : Int32)) + (jushr (((((a0 - ((jushr a0 (1 : Int32)) &&& (1431655765 : Int32))) &&& (858993459 : Int32)) + ((jushr (a0 - ((jushr a0 (1 : Int32)) &&& (1431655765 : Int32))) (2 : Int32)) &&& (858993459 : Int32))) + (jushr (((a0 - ((jushr a0 (1 : Int32)) &&& (1431655765 : Int32))) &&& (858993459 : Int32)) + ((jushr (a0 - ((jushr a0 (1 : Int32)) &&& (1431655765 : Int32))) (2 : Int32)) &&& (858993459 : Int32))) (4 : Int32))) &&& (252645135 : Int32)) (8 : Int32))) + (jushr ((((((a0 - ((jushr a0 (1 : Int32)) &&& (1431655765 : Int32))) &&& (858993459 : Int32)) + ((jushr (a0 - ((jushr a0 (1 : Int32)) &&& (1431655765 : Int32))) (2 : Int32)) &&& (858993459 : Int32))) + (jushr (((a0 - ((jushr a0 (1 : Int32)) &&& (1431655765 : Int32))) &&& (858993459 : Int32)) + ((jushr (a0 - ((jushr a0 (1 : Int32)) &&& (1431655765 : Int32))) (2 : Int32)) &&& (858993459 : Int32))) (4 : Int32))) &&& (252645135 : Int32)) + (jushr (((((a0 - ((jushr a0 (1 : Int32)) &&& (1431655765 : Int32))) &&& (858993459 : Int32)) + ((jushr (a0 - ((jushr a0 (1 : Int32)) &&& (1431655765 : Int32))) (2 : Int32)) &&& (858993459 : Int32))) + (jushr (((a0 - ((jushr a0 (1 : Int32)) &&& (1431655765 : Int32))) &&& (858993459 : Int32)) + ((jushr (a0 - ((jushr a0 (1 : Int32)) &&& (1431655765 : Int32))) (2 : Int32)) &&& (858993459 : Int32))) (4 : Int32))) &&& (252645135 : Int32)) (8 : Int32))) (16 : Int32))))] (by decide) rfl ?_
  refine u_iload_n (pc := 48) hC dJ6_bitCount_0f7a4_48 rfl 0 rfl ?_
  refine u_bipush (pc := 49) hC bc_63 dJ6_bitCount_0f7a4_49 ?_
  refine u_iand (pc := 51) hC dJ6_bitCount_0f7a4_51 ?_
  obtain rfl := Option.some.inj h
  exact u_iret (pc := 52) hC hQ hr ⟨rfl, rfl⟩ dJ6_bitCount_0f7a4_52
set_option maxHeartbeats 4000000 in
set_option maxRecDepth 100000 in
theorem c_X1_allows {l : Launch} {G : GG} {d : Nat} (hd : 0 ≤ d) {μ : Mem} {a0 : Int32} {a1 : Int32} {a2 : Int32} {a3 : Int32} {a4 : Int32} {a5 : Int32} {r : Int32} (h : f_X1_allows a0 a1 a2 a3 a4 a5 = some r) : CT l yX1_allows cX1_allows 6 (some .boolean) d G [.int a0, .int a1, .int a2, .int a3, .int a4, .int a5] μ (RK (some (.int r)) μ) := by
  refine ct_start (by decide) (Nat.le_of_ble_eq_true rfl) (fun C hl1 hG1 hC hQ hr => ?_)
  subst hl1; subst hG1
  have hC : CxOK C cX1_allows 6 RX1 d := hC
  show UW C 6 μ 0 [(0, .int a0), (1, .int a1), (2, .int a2), (3, .int a3), (4, .int a4), (5, .int a5)] []
  unfold f_X1_allows at h
  refine u_iload_n (pc := 0) hC dX1_allows_0 rfl 0 rfl ?_
  by_cases c1_0 : a0 = 1
  · replace h := of_t c1_0 h
    refine u_tabEq (pc := 1) hC dX1_allows_1 (1 : Int32) c1_0 (off := 39) 40 (by decide) (by decide) ?_
    refine u_iload (pc := 40) hC dX1_allows_40 4 rfl ?_
    refine u_if_eq (pc := 42) hC (tgt := 58) dX1_allows_42 (by decide) (fun c42 => ?_) (fun c42 => ?_)
    · replace h := of_t c42 h
      refine u_iconst (pc := 58) hC ic_0 dX1_allows_58 ?_
      obtain rfl := Option.some.inj h
      exact u_zret (pc := 59) hC hQ hr (by decide) ⟨rfl, rfl⟩ dX1_allows_59
    · replace h := of_f c42 h
      refine u_iload_n (pc := 45) hC dX1_allows_45 rfl 3 rfl ?_
      refine u_if_eq (pc := 46) hC (tgt := 54) dX1_allows_46 (by decide) (fun c46 => ?_) (fun c46 => ?_)
      · replace h := of_t c46 h
        refine u_iconst (pc := 54) hC ic_1 dX1_allows_54 ?_
        refine u_goto (pc := 55) hC 59 dX1_allows_55 (by decide) ?_
        obtain rfl := Option.some.inj h
        exact u_zret (pc := 59) hC hQ hr (by decide) ⟨rfl, rfl⟩ dX1_allows_59
      · replace h := of_f c46 h
        refine u_iload (pc := 49) hC dX1_allows_49 5 rfl ?_
        refine u_if_eq (pc := 51) hC (tgt := 58) dX1_allows_51 (by decide) (fun c51 => ?_) (fun c51 => ?_)
        · replace h := of_t c51 h
          refine u_iconst (pc := 58) hC ic_0 dX1_allows_58 ?_
          obtain rfl := Option.some.inj h
          exact u_zret (pc := 59) hC hQ hr (by decide) ⟨rfl, rfl⟩ dX1_allows_59
        · replace h := of_f c51 h
          refine u_iconst (pc := 54) hC ic_1 dX1_allows_54 ?_
          refine u_goto (pc := 55) hC 59 dX1_allows_55 (by decide) ?_
          obtain rfl := Option.some.inj h
          exact u_zret (pc := 59) hC hQ hr (by decide) ⟨rfl, rfl⟩ dX1_allows_59
  replace h := of_f c1_0 h
  by_cases c1_1 : a0 = 2
  · replace h := of_t c1_1 h
    refine u_tabEq (pc := 1) hC dX1_allows_1 (2 : Int32) c1_1 (off := 59) 60 (by decide) (by decide) ?_
    refine u_iload (pc := 60) hC dX1_allows_60 4 rfl ?_
    refine u_if_eq (pc := 62) hC (tgt := 76) dX1_allows_62 (by decide) (fun c62 => ?_) (fun c62 => ?_)
    · replace h := of_t c62 h
      refine u_iconst (pc := 76) hC ic_0 dX1_allows_76 ?_
      obtain rfl := Option.some.inj h
      exact u_zret (pc := 77) hC hQ hr (by decide) ⟨rfl, rfl⟩ dX1_allows_77
    · replace h := of_f c62 h
      refine u_iload_n (pc := 65) hC dX1_allows_65 rfl 3 rfl ?_
      refine u_iload_n (pc := 66) hC dX1_allows_66 rfl 1 rfl ?_
      refine u_iconst (pc := 67) hC ic_3 dX1_allows_67 ?_
      refine u_irem (pc := 68) hC (by decide) dX1_allows_68 ?_
      refine u_icmp_gt (pc := 69) hC (tgt := 76) dX1_allows_69 (by decide) (fun c69 => ?_) (fun c69 => ?_)
      · replace h := of_t c69 h
        refine u_iconst (pc := 76) hC ic_0 dX1_allows_76 ?_
        obtain rfl := Option.some.inj h
        exact u_zret (pc := 77) hC hQ hr (by decide) ⟨rfl, rfl⟩ dX1_allows_77
      · replace h := of_f c69 h
        refine u_iconst (pc := 72) hC ic_1 dX1_allows_72 ?_
        refine u_goto (pc := 73) hC 77 dX1_allows_73 (by decide) ?_
        obtain rfl := Option.some.inj h
        exact u_zret (pc := 77) hC hQ hr (by decide) ⟨rfl, rfl⟩ dX1_allows_77
  replace h := of_f c1_1 h
  by_cases c1_2 : a0 = 3
  · replace h := of_t c1_2 h
    refine u_tabEq (pc := 1) hC dX1_allows_1 (3 : Int32) c1_2 (off := 100) 101 (by decide) (by decide) ?_
    refine u_iload_n (pc := 101) hC dX1_allows_101 rfl 3 rfl ?_
    refine u_if_ne (pc := 102) hC (tgt := 109) dX1_allows_102 (by decide) (fun c102 => ?_) (fun c102 => ?_)
    · replace h := of_t c102 h
      refine u_iconst (pc := 109) hC ic_0 dX1_allows_109 ?_
      obtain rfl := Option.some.inj h
      exact u_zret (pc := 110) hC hQ hr (by decide) ⟨rfl, rfl⟩ dX1_allows_110
    · replace h := of_f (fun q => q c102) h
      refine u_iconst (pc := 105) hC ic_1 dX1_allows_105 ?_
      refine u_goto (pc := 106) hC 110 dX1_allows_106 (by decide) ?_
      obtain rfl := Option.some.inj h
      exact u_zret (pc := 110) hC hQ hr (by decide) ⟨rfl, rfl⟩ dX1_allows_110
  replace h := of_f c1_2 h
  by_cases c1_3 : a0 = 4
  · replace h := of_t c1_3 h
    refine u_tabEq (pc := 1) hC dX1_allows_1 (4 : Int32) c1_3 (off := 39) 40 (by decide) (by decide) ?_
    refine u_iload (pc := 40) hC dX1_allows_40 4 rfl ?_
    refine u_if_eq (pc := 42) hC (tgt := 58) dX1_allows_42 (by decide) (fun c42 => ?_) (fun c42 => ?_)
    · replace h := of_t c42 h
      refine u_iconst (pc := 58) hC ic_0 dX1_allows_58 ?_
      obtain rfl := Option.some.inj h
      exact u_zret (pc := 59) hC hQ hr (by decide) ⟨rfl, rfl⟩ dX1_allows_59
    · replace h := of_f c42 h
      refine u_iload_n (pc := 45) hC dX1_allows_45 rfl 3 rfl ?_
      refine u_if_eq (pc := 46) hC (tgt := 54) dX1_allows_46 (by decide) (fun c46 => ?_) (fun c46 => ?_)
      · replace h := of_t c46 h
        refine u_iconst (pc := 54) hC ic_1 dX1_allows_54 ?_
        refine u_goto (pc := 55) hC 59 dX1_allows_55 (by decide) ?_
        obtain rfl := Option.some.inj h
        exact u_zret (pc := 59) hC hQ hr (by decide) ⟨rfl, rfl⟩ dX1_allows_59
      · replace h := of_f c46 h
        refine u_iload (pc := 49) hC dX1_allows_49 5 rfl ?_
        refine u_if_eq (pc := 51) hC (tgt := 58) dX1_allows_51 (by decide) (fun c51 => ?_) (fun c51 => ?_)
        · replace h := of_t c51 h
          refine u_iconst (pc := 58) hC ic_0 dX1_allows_58 ?_
          obtain rfl := Option.some.inj h
          exact u_zret (pc := 59) hC hQ hr (by decide) ⟨rfl, rfl⟩ dX1_allows_59
        · replace h := of_f c51 h
          refine u_iconst (pc := 54) hC ic_1 dX1_allows_54 ?_
          refine u_goto (pc := 55) hC 59 dX1_allows_55 (by decide) ?_
          obtain rfl := Option.some.inj h
          exact u_zret (pc := 59) hC hQ hr (by decide) ⟨rfl, rfl⟩ dX1_allows_59
  replace h := of_f c1_3 h
  by_cases c1_4 : a0 = 5
  · replace h := of_t c1_4 h
    refine u_tabEq (pc := 1) hC dX1_allows_1 (5 : Int32) c1_4 (off := 77) 78 (by decide) (by decide) ?_
    refine u_iload (pc := 78) hC dX1_allows_78 4 rfl ?_
    refine u_if_eq (pc := 80) hC (tgt := 99) dX1_allows_80 (by decide) (fun c80 => ?_) (fun c80 => ?_)
    · replace h := of_t c80 h
      refine u_iconst (pc := 99) hC ic_0 dX1_allows_99 ?_
      obtain rfl := Option.some.inj h
      exact u_zret (pc := 100) hC hQ hr (by decide) ⟨rfl, rfl⟩ dX1_allows_100
    · replace h := of_f c80 h
      refine u_iload_n (pc := 83) hC dX1_allows_83 rfl 3 rfl ?_
      refine u_iload_n (pc := 84) hC dX1_allows_84 rfl 1 rfl ?_
      refine u_iconst (pc := 85) hC ic_3 dX1_allows_85 ?_
      refine u_irem (pc := 86) hC (by decide) dX1_allows_86 ?_
      refine u_icmp_gt (pc := 87) hC (tgt := 99) dX1_allows_87 (by decide) (fun c87 => ?_) (fun c87 => ?_)
      · replace h := of_t c87 h
        refine u_iconst (pc := 99) hC ic_0 dX1_allows_99 ?_
        obtain rfl := Option.some.inj h
        exact u_zret (pc := 100) hC hQ hr (by decide) ⟨rfl, rfl⟩ dX1_allows_100
      · replace h := of_f c87 h
        refine u_iload_n (pc := 90) hC dX1_allows_90 rfl 2 rfl ?_
        refine u_iload_n (pc := 91) hC dX1_allows_91 rfl 1 rfl ?_
        refine u_icmp_eq (pc := 92) hC (tgt := 99) dX1_allows_92 (by decide) (fun c92 => ?_) (fun c92 => ?_)
        · replace h := of_t c92 h
          refine u_iconst (pc := 99) hC ic_0 dX1_allows_99 ?_
          obtain rfl := Option.some.inj h
          exact u_zret (pc := 100) hC hQ hr (by decide) ⟨rfl, rfl⟩ dX1_allows_100
        · replace h := of_f c92 h
          refine u_iconst (pc := 95) hC ic_1 dX1_allows_95 ?_
          refine u_goto (pc := 96) hC 100 dX1_allows_96 (by decide) ?_
          obtain rfl := Option.some.inj h
          exact u_zret (pc := 100) hC hQ hr (by decide) ⟨rfl, rfl⟩ dX1_allows_100
  replace h := of_f c1_4 h
  by_cases c1_5 : a0 = 6
  · replace h := of_t c1_5 h
    refine u_tabEq (pc := 1) hC dX1_allows_1 (6 : Int32) c1_5 (off := 110) 111 (by decide) (by decide) ?_
    refine u_iload_n (pc := 111) hC dX1_allows_111 rfl 3 rfl ?_
    refine u_if_ne (pc := 112) hC (tgt := 131) dX1_allows_112 (by decide) (fun c112 => ?_) (fun c112 => ?_)
    · replace h := of_t c112 h
      refine u_iconst (pc := 131) hC ic_0 dX1_allows_131 ?_
      obtain rfl := Option.some.inj h
      exact u_zret (pc := 132) hC hQ hr (by decide) ⟨rfl, rfl⟩ dX1_allows_132
    · replace h := of_f (fun q => q c112) h
      refine u_iload (pc := 115) hC dX1_allows_115 4 rfl ?_
      refine u_if_ne (pc := 117) hC (tgt := 127) dX1_allows_117 (by decide) (fun c117 => ?_) (fun c117 => ?_)
      · replace h := of_t c117 h
        refine u_iconst (pc := 127) hC ic_1 dX1_allows_127 ?_
        refine u_goto (pc := 128) hC 132 dX1_allows_128 (by decide) ?_
        obtain rfl := Option.some.inj h
        exact u_zret (pc := 132) hC hQ hr (by decide) ⟨rfl, rfl⟩ dX1_allows_132
      · replace h := of_f (fun q => q c117) h
        refine u_iload_n (pc := 120) hC dX1_allows_120 rfl 1 rfl ?_
        refine u_iconst (pc := 121) hC ic_2 dX1_allows_121 ?_
        refine u_irem (pc := 122) hC (by decide) dX1_allows_122 ?_
        refine u_iconst (pc := 123) hC ic_1 dX1_allows_123 ?_
        refine u_icmp_ne (pc := 124) hC (tgt := 131) dX1_allows_124 (by decide) (fun c124 => ?_) (fun c124 => ?_)
        · replace h := of_t c124 h
          refine u_iconst (pc := 131) hC ic_0 dX1_allows_131 ?_
          obtain rfl := Option.some.inj h
          exact u_zret (pc := 132) hC hQ hr (by decide) ⟨rfl, rfl⟩ dX1_allows_132
        · replace h := of_f (fun q => q c124) h
          refine u_iconst (pc := 127) hC ic_1 dX1_allows_127 ?_
          refine u_goto (pc := 128) hC 132 dX1_allows_128 (by decide) ?_
          obtain rfl := Option.some.inj h
          exact u_zret (pc := 132) hC hQ hr (by decide) ⟨rfl, rfl⟩ dX1_allows_132
  replace h := of_f c1_5 h
  refine u_tabDf (pc := 1) hC dX1_allows_1 [(1 : Int32), (2 : Int32), (3 : Int32), (4 : Int32), (5 : Int32), (6 : Int32)] (List.forall_mem_cons.mpr ⟨c1_0, List.forall_mem_cons.mpr ⟨c1_1, List.forall_mem_cons.mpr ⟨c1_2, List.forall_mem_cons.mpr ⟨c1_3, List.forall_mem_cons.mpr ⟨c1_4, List.forall_mem_cons.mpr ⟨c1_5, (fun _ q => absurd q List.not_mem_nil)⟩⟩⟩⟩⟩⟩) (by decide) 133 (by decide) ?_
  refine u_iload (pc := 133) hC dX1_allows_133 4 rfl ?_
  refine u_if_eq (pc := 135) hC (tgt := 146) dX1_allows_135 (by decide) (fun c135 => ?_) (fun c135 => ?_)
  · replace h := of_t c135 h
    refine u_iconst (pc := 146) hC ic_0 dX1_allows_146 ?_
    obtain rfl := Option.some.inj h
    exact u_zret (pc := 147) hC hQ hr (by decide) ⟨rfl, rfl⟩ dX1_allows_147
  · replace h := of_f c135 h
    refine u_iload_n (pc := 138) hC dX1_allows_138 rfl 3 rfl ?_
    refine u_if_ne (pc := 139) hC (tgt := 146) dX1_allows_139 (by decide) (fun c139 => ?_) (fun c139 => ?_)
    · replace h := of_t c139 h
      refine u_iconst (pc := 146) hC ic_0 dX1_allows_146 ?_
      obtain rfl := Option.some.inj h
      exact u_zret (pc := 147) hC hQ hr (by decide) ⟨rfl, rfl⟩ dX1_allows_147
    · replace h := of_f (fun q => q c139) h
      refine u_iconst (pc := 142) hC ic_1 dX1_allows_142 ?_
      refine u_goto (pc := 143) hC 147 dX1_allows_143 (by decide) ?_
      obtain rfl := Option.some.inj h
      exact u_zret (pc := 147) hC hQ hr (by decide) ⟨rfl, rfl⟩ dX1_allows_147
set_option maxHeartbeats 4000000 in
set_option maxRecDepth 100000 in
theorem c_X1_mayTell {l : Launch} {G : GG} {d : Nat} (hd : 1 ≤ d) {μ : Mem} {k0 : Nat} (hk0 : isC 1 k0) {a1 : Int32} {a2 : Int32} {a3 : Int32} {a4 : Int32} {r : Int32} (h : f_X1_mayTell μ k0 a1 a2 a3 a4 = some r) : CT l yX1_mayTell cX1_mayTell 11 (some .int) d G [.ref (gad G k0), .int a1, .int a2, .int a3, .int a4] μ (RK (some (.int r)) μ) := by
  refine ct_start (by decide) (Nat.le_of_ble_eq_true rfl) (fun C hl1 hG1 hC hQ hr => ?_)
  subst hl1; subst hG1
  have hC : CxOK C cX1_mayTell 11 RX1 d := hC
  show UW C 11 μ 0 [(0, .ref (gad (cG C) k0)), (1, .int a1), (2, .int a2), (3, .int a3), (4, .int a4)] []
  have lw6 : ∀ (e : (Int32)) (s : Int32 × Int32), lp (fun s => f_X1_mayTell_l6 μ k0 a1 a2 a3 a4 s.1 s.2) FU s = some e → (fun (e : (Int32)) => UW C 11 μ 120 [(5, .int e)] []) e → UW C 11 μ 6 [(0, .ref (gad (cG C) k0)), (1, .int a1), (2, .int a2), (3, .int a3), (4, .int a4), (5, .int s.1), (6, .int s.2)] [] := by
    intro e s hl hE0
    refine @lp_walk (Int32 × Int32) (Int32) (fun s => f_X1_mayTell_l6 μ k0 a1 a2 a3 a4 s.1 s.2) (fun s => UW C 11 μ 6 [(0, .ref (gad (cG C) k0)), (1, .int a1), (2, .int a2), (3, .int a3), (4, .int a4), (5, .int s.1), (6, .int s.2)] []) (fun (e : (Int32)) => UW C 11 μ 120 [(5, .int e)] []) (fun s y6 h hP6 hE6 => ?_) FU s e hl hE0
    have jb66 : ∀ (v5_66 : Int32) (v6_66 : Int32) (v7_66 : Int32) (v8_66 : Int32) (vt0_66 : Int32), f_X1_mayTell_j66 μ k0 a1 a2 a3 a4 v5_66 v6_66 v7_66 v8_66 vt0_66 = some y6 → UW C 11 μ 66 [(0, .ref (gad (cG C) k0)), (1, .int a1), (2, .int a2), (3, .int a3), (4, .int a4), (5, .int v5_66), (6, .int v6_66), (7, .int v7_66), (8, .int v8_66)] [.int vt0_66] := by
      intro v5_66 v6_66 v7_66 v8_66 vt0_66 h
      unfold f_X1_mayTell_j66 at h
      refine u_istore (pc := 66) hC dX1_mayTell_66 [(9, .int vt0_66), (0, .ref (gad (cG C) k0)), (1, .int a1), (2, .int a2), (3, .int a3), (4, .int a4), (5, .int v5_66), (6, .int v6_66), (7, .int v7_66), (8, .int v8_66)] (by decide) rfl ?_
      refine u_aload_n (pc := 68) hC dX1_mayTell_68 rfl 1 rfl ?_
      refine g_RX1_9 (pc := 69) hC hk0 dX1_mayTell_69 ?_
      refine u_iload (pc := 72) hC dX1_mayTell_72 7 rfl ?_
      obtain ⟨b74, h⟩ := of_gd h
      refine u_iald (pc := 74) hC (rs_1_0 hk0) 8 (rn_1_0 hk0) b74 dX1_mayTell_74 ?_
      refine u_iload_n (pc := 75) hC dX1_mayTell_75 rfl 4 rfl ?_
      refine u_iconst (pc := 76) hC ic_m1 dX1_mayTell_76 ?_
      refine u_ixor (pc := 77) hC dX1_mayTell_77 ?_
      refine u_iand (pc := 78) hC dX1_mayTell_78 ?_
      obtain ⟨r79, q79, h⟩ := of_bd h
      refine k_RX1_43 (pc := 79) hC (av := [.int ((rd μ (rf k0 0) v6_66.toNatClampNeg) &&& (a3 ^^^ (-1 : Int32)))]) (rest := []) (c_J6_bitCount_0f7a4 (d := d - 1) (by omega)  q79) (by omega) (Nat.le_of_ble_eq_true rfl) rfl rfl dX1_mayTell_79 ?_
      refine u_istore (pc := 82) hC dX1_mayTell_82 [(10, .int r79), (9, .int vt0_66), (0, .ref (gad (cG C) k0)), (1, .int a1), (2, .int a2), (3, .int a3), (4, .int a4), (5, .int v5_66), (6, .int v6_66), (7, .int v7_66), (8, .int v8_66)] (by decide) rfl ?_
      refine u_iload (pc := 84) hC dX1_mayTell_84 9 rfl ?_
      refine u_if_eq (pc := 86) hC (tgt := 114) dX1_mayTell_86 (by decide) (fun c86 => ?_) (fun c86 => ?_)
      · replace h := of_t c86 h
        refine u_iinc (pc := 114) hC dX1_mayTell_114 8 rfl (v6_66 + 1) rfl [(6, .int (v6_66 + 1)), (10, .int r79), (9, .int vt0_66), (0, .ref (gad (cG C) k0)), (1, .int a1), (2, .int a2), (3, .int a3), (4, .int a4), (5, .int v5_66), (7, .int v7_66), (8, .int v8_66)] (by decide) rfl ?_
        refine u_goto (pc := 117) hC 6 dX1_mayTell_117 (by decide) ?_
        obtain rfl := Option.some.inj h
        refine u_sub [3, 4, 5, 6, 7, 8, 0] rfl ?_
        exact hP6 (v5_66, v6_66 + 1) rfl
      · replace h := of_f c86 h
        refine u_iload_n (pc := 89) hC dX1_mayTell_89 rfl 3 rfl ?_
        refine u_iload_n (pc := 90) hC dX1_mayTell_90 rfl 4 rfl ?_
        refine u_iload (pc := 91) hC dX1_mayTell_91 8 rfl ?_
        refine u_iload (pc := 93) hC dX1_mayTell_93 0 rfl ?_
        refine u_iload (pc := 95) hC dX1_mayTell_95 1 rfl ?_
        refine u_iload (pc := 97) hC dX1_mayTell_97 10 rfl ?_
        obtain ⟨r99, q99, h⟩ := of_bd h
        refine k_RX1_46 (pc := 99) hC (av := [.int a1, .int a2, .int v6_66, .int r79, .int vt0_66, .int v8_66]) (rest := []) (c_X1_allows (d := d - 1) (by omega)  q99) (by omega) (Nat.le_of_ble_eq_true rfl) rfl rfl dX1_mayTell_99 ?_
        refine u_if_eq (pc := 102) hC (tgt := 114) dX1_mayTell_102 (by decide) (fun c102 => ?_) (fun c102 => ?_)
        · replace h := of_t c102 h
          refine u_iinc (pc := 114) hC dX1_mayTell_114 8 rfl (v6_66 + 1) rfl [(6, .int (v6_66 + 1)), (10, .int r79), (9, .int vt0_66), (0, .ref (gad (cG C) k0)), (1, .int a1), (2, .int a2), (3, .int a3), (4, .int a4), (5, .int v5_66), (7, .int v7_66), (8, .int v8_66)] (by decide) rfl ?_
          refine u_goto (pc := 117) hC 6 dX1_mayTell_117 (by decide) ?_
          obtain rfl := Option.some.inj h
          refine u_sub [3, 4, 5, 6, 7, 8, 0] rfl ?_
          exact hP6 (v5_66, v6_66 + 1) rfl
        · replace h := of_f c102 h
          refine u_iload (pc := 105) hC dX1_mayTell_105 7 rfl ?_
          refine u_iconst (pc := 107) hC ic_1 dX1_mayTell_107 ?_
          refine u_iload (pc := 108) hC dX1_mayTell_108 8 rfl ?_
          refine u_ishl (pc := 110) hC dX1_mayTell_110 ?_
          refine u_ior (pc := 111) hC dX1_mayTell_111 ?_
          refine u_istore (pc := 112) hC dX1_mayTell_112 [(5, .int (v5_66 ||| (jshl (1 : Int32) v6_66))), (10, .int r79), (9, .int vt0_66), (0, .ref (gad (cG C) k0)), (1, .int a1), (2, .int a2), (3, .int a3), (4, .int a4), (6, .int v6_66), (7, .int v7_66), (8, .int v8_66)] (by decide) rfl ?_
          refine u_iinc (pc := 114) hC dX1_mayTell_114 8 rfl (v6_66 + 1) rfl [(6, .int (v6_66 + 1)), (5, .int (v5_66 ||| (jshl (1 : Int32) v6_66))), (10, .int r79), (9, .int vt0_66), (0, .ref (gad (cG C) k0)), (1, .int a1), (2, .int a2), (3, .int a3), (4, .int a4), (7, .int v7_66), (8, .int v8_66)] (by decide) rfl ?_
          refine u_goto (pc := 117) hC 6 dX1_mayTell_117 (by decide) ?_
          obtain rfl := Option.some.inj h
          refine u_sub [4, 5, 6, 7, 8, 1, 0] rfl ?_
          exact hP6 (v5_66 ||| (jshl (1 : Int32) v6_66), v6_66 + 1) rfl
    have jb47 : ∀ (v5_47 : Int32) (v6_47 : Int32) (v7_47 : Int32) (vt0_47 : Int32), f_X1_mayTell_j47 μ k0 a1 a2 a3 a4 v5_47 v6_47 v7_47 vt0_47 = some y6 → UW C 11 μ 47 [(0, .ref (gad (cG C) k0)), (1, .int a1), (2, .int a2), (3, .int a3), (4, .int a4), (5, .int v5_47), (6, .int v6_47), (7, .int v7_47)] [.int vt0_47] := by
      intro v5_47 v6_47 v7_47 vt0_47 h
      unfold f_X1_mayTell_j47 at h
      refine u_istore (pc := 47) hC dX1_mayTell_47 [(8, .int vt0_47), (0, .ref (gad (cG C) k0)), (1, .int a1), (2, .int a2), (3, .int a3), (4, .int a4), (5, .int v5_47), (6, .int v6_47), (7, .int v7_47)] (by decide) rfl ?_
      refine u_aload_n (pc := 49) hC dX1_mayTell_49 rfl 1 rfl ?_
      refine g_RX1_15 (pc := 50) hC hk0 dX1_mayTell_50 ?_
      refine u_iload (pc := 53) hC dX1_mayTell_53 7 rfl ?_
      obtain ⟨b55, h⟩ := of_gd h
      refine u_iald (pc := 55) hC (rs_1_1 hk0) 8 (rn_1_1 hk0) b55 dX1_mayTell_55 ?_
      refine u_iload_n (pc := 56) hC dX1_mayTell_56 rfl 4 rfl ?_
      refine u_iand (pc := 57) hC dX1_mayTell_57 ?_
      refine u_if_ne (pc := 58) hC (tgt := 65) dX1_mayTell_58 (by decide) (fun c58 => ?_) (fun c58 => ?_)
      · replace h := of_t c58 h
        refine u_iconst (pc := 65) hC ic_0 dX1_mayTell_65 ?_
        refine u_sub [1, 2, 3, 4, 5, 6, 7, 8, 0] rfl ?_
        exact jb66 v5_47 v6_47 v7_47 vt0_47 (0 : Int32) h
      · replace h := of_f (fun q => q c58) h
        refine u_iconst (pc := 61) hC ic_1 dX1_mayTell_61 ?_
        refine u_goto (pc := 62) hC 66 dX1_mayTell_62 (by decide) ?_
        refine u_sub [1, 2, 3, 4, 5, 6, 7, 8, 0] rfl ?_
        exact jb66 v5_47 v6_47 v7_47 vt0_47 (1 : Int32) h
    have jb29 : ∀ (v5_29 : Int32) (v6_29 : Int32) (vt0_29 : Int32), f_X1_mayTell_j29 μ k0 a1 a2 a3 a4 v5_29 v6_29 vt0_29 = some y6 → UW C 11 μ 29 [(0, .ref (gad (cG C) k0)), (1, .int a1), (2, .int a2), (3, .int a3), (4, .int a4), (5, .int v5_29), (6, .int v6_29)] [.int vt0_29] := by
      intro v5_29 v6_29 vt0_29 h
      unfold f_X1_mayTell_j29 at h
      refine u_istore (pc := 29) hC dX1_mayTell_29 [(7, .int vt0_29), (0, .ref (gad (cG C) k0)), (1, .int a1), (2, .int a2), (3, .int a3), (4, .int a4), (5, .int v5_29), (6, .int v6_29)] (by decide) rfl ?_
      refine u_iload (pc := 31) hC dX1_mayTell_31 5 rfl ?_
      refine u_iload (pc := 33) hC dX1_mayTell_33 7 rfl ?_
      refine u_ishr (pc := 35) hC dX1_mayTell_35 ?_
      refine u_iconst (pc := 36) hC ic_1 dX1_mayTell_36 ?_
      refine u_iand (pc := 37) hC dX1_mayTell_37 ?_
      refine u_iconst (pc := 38) hC ic_1 dX1_mayTell_38 ?_
      refine u_icmp_ne (pc := 39) hC (tgt := 46) dX1_mayTell_39 (by decide) (fun c39 => ?_) (fun c39 => ?_)
      · replace h := of_t c39 h
        refine u_iconst (pc := 46) hC ic_0 dX1_mayTell_46 ?_
        refine u_sub [1, 2, 3, 4, 5, 6, 7, 0] rfl ?_
        exact jb47 v5_29 v6_29 vt0_29 (0 : Int32) h
      · replace h := of_f (fun q => q c39) h
        refine u_iconst (pc := 42) hC ic_1 dX1_mayTell_42 ?_
        refine u_goto (pc := 43) hC 47 dX1_mayTell_43 (by decide) ?_
        refine u_sub [1, 2, 3, 4, 5, 6, 7, 0] rfl ?_
        exact jb47 v5_29 v6_29 vt0_29 (1 : Int32) h
    obtain ⟨v5_6, v6_6⟩ := s
    replace h : f_X1_mayTell_l6 μ k0 a1 a2 a3 a4 v5_6 v6_6 = some y6 := h
    show UW C 11 μ 6 [(0, .ref (gad (cG C) k0)), (1, .int a1), (2, .int a2), (3, .int a3), (4, .int a4), (5, .int v5_6), (6, .int v6_6)] []
    unfold f_X1_mayTell_l6 at h
    refine u_iload (pc := 6) hC dX1_mayTell_6 6 rfl ?_
    refine u_aload_n (pc := 8) hC dX1_mayTell_8 rfl 0 rfl ?_
    refine g_RX1_27 (pc := 9) hC hk0 dX1_mayTell_9 ?_
    refine u_icmp_ge (pc := 12) hC (tgt := 120) dX1_mayTell_12 (by decide) (fun c12 => ?_) (fun c12 => ?_)
    · replace h := of_t c12 h
      obtain rfl := Option.some.inj h
      refine u_sub [5] rfl ?_
      exact hE6 v5_6 rfl
    · replace h := of_f c12 h
      refine u_iload_n (pc := 15) hC dX1_mayTell_15 rfl 3 rfl ?_
      refine u_iload (pc := 16) hC dX1_mayTell_16 6 rfl ?_
      refine u_ishr (pc := 18) hC dX1_mayTell_18 ?_
      refine u_iconst (pc := 19) hC ic_1 dX1_mayTell_19 ?_
      refine u_iand (pc := 20) hC dX1_mayTell_20 ?_
      refine u_if_ne (pc := 21) hC (tgt := 28) dX1_mayTell_21 (by decide) (fun c21 => ?_) (fun c21 => ?_)
      · replace h := of_t c21 h
        refine u_iconst (pc := 28) hC ic_0 dX1_mayTell_28 ?_
        exact jb29 v5_6 v6_6 (0 : Int32) h
      · replace h := of_f (fun q => q c21) h
        refine u_iconst (pc := 24) hC ic_1 dX1_mayTell_24 ?_
        refine u_goto (pc := 25) hC 29 dX1_mayTell_25 (by decide) ?_
        exact jb29 v5_6 v6_6 (1 : Int32) h
  unfold f_X1_mayTell at h
  refine u_iconst (pc := 0) hC ic_0 dX1_mayTell_0 ?_
  refine u_istore (pc := 1) hC dX1_mayTell_1 [(5, .int (0 : Int32)), (0, .ref (gad (cG C) k0)), (1, .int a1), (2, .int a2), (3, .int a3), (4, .int a4)] (by decide) rfl ?_
  refine u_iconst (pc := 3) hC ic_0 dX1_mayTell_3 ?_
  refine u_istore (pc := 4) hC dX1_mayTell_4 [(6, .int (0 : Int32)), (5, .int (0 : Int32)), (0, .ref (gad (cG C) k0)), (1, .int a1), (2, .int a2), (3, .int a3), (4, .int a4)] (by decide) rfl ?_
  obtain ⟨e6, l6, h⟩ := of_bd h
  refine u_sub [2, 3, 4, 5, 6, 1, 0] rfl ?_
  refine lw6  e6 ((0 : Int32), (0 : Int32)) l6 ?_
  show UW C 11 μ 120 [(5, .int e6)] []
  refine u_iload (pc := 120) hC dX1_mayTell_120 0 rfl ?_
  obtain rfl := Option.some.inj h
  exact u_iret (pc := 122) hC hQ hr ⟨rfl, rfl⟩ dX1_mayTell_122
set_option maxHeartbeats 4000000 in
set_option maxRecDepth 100000 in
theorem c_X1_isOpen {l : Launch} {G : GG} {d : Nat} (hd : 0 ≤ d) {μ : Mem} {k0 : Nat} (hk0 : isC 1 k0) {a1 : Int32} {a2 : Int32} {r : Int32} (h : f_X1_isOpen μ k0 a1 a2 = some r) : CT l yX1_isOpen cX1_isOpen 3 (some .boolean) d G [.ref (gad G k0), .int a1, .int a2] μ (RK (some (.int r)) μ) := by
  refine ct_start (by decide) (Nat.le_of_ble_eq_true rfl) (fun C hl1 hG1 hC hQ hr => ?_)
  subst hl1; subst hG1
  have hC : CxOK C cX1_isOpen 3 RX1 d := hC
  show UW C 3 μ 0 [(0, .ref (gad (cG C) k0)), (1, .int a1), (2, .int a2)] []
  unfold f_X1_isOpen at h
  refine u_iload_n (pc := 0) hC dX1_isOpen_0 rfl 2 rfl ?_
  refine u_iload_n (pc := 1) hC dX1_isOpen_1 rfl 1 rfl ?_
  refine u_ishr (pc := 2) hC dX1_isOpen_2 ?_
  refine u_iconst (pc := 3) hC ic_1 dX1_isOpen_3 ?_
  refine u_iand (pc := 4) hC dX1_isOpen_4 ?_
  refine u_iconst (pc := 5) hC ic_1 dX1_isOpen_5 ?_
  refine u_icmp_ne (pc := 6) hC (tgt := 35) dX1_isOpen_6 (by decide) (fun c6 => ?_) (fun c6 => ?_)
  · replace h := of_t c6 h
    refine u_iconst (pc := 35) hC ic_0 dX1_isOpen_35 ?_
    obtain rfl := Option.some.inj h
    exact u_zret (pc := 36) hC hQ hr (by decide) ⟨rfl, rfl⟩ dX1_isOpen_36
  · replace h := of_f (fun q => q c6) h
    refine u_aload_n (pc := 9) hC dX1_isOpen_9 rfl 0 rfl ?_
    refine g_RX1_18 (pc := 10) hC hk0 dX1_isOpen_10 ?_
    refine u_iload_n (pc := 13) hC dX1_isOpen_13 rfl 1 rfl ?_
    obtain ⟨b14, h⟩ := of_gd h
    refine u_iald (pc := 14) hC (rs_1_2 hk0) 8 (rn_1_2 hk0) b14 dX1_isOpen_14 ?_
    refine u_if_le (pc := 15) hC (tgt := 35) dX1_isOpen_15 (by decide) (fun c15 => ?_) (fun c15 => ?_)
    · replace h := of_t c15 h
      refine u_iconst (pc := 35) hC ic_0 dX1_isOpen_35 ?_
      obtain rfl := Option.some.inj h
      exact u_zret (pc := 36) hC hQ hr (by decide) ⟨rfl, rfl⟩ dX1_isOpen_36
    · replace h := of_f c15 h
      refine u_iload_n (pc := 18) hC dX1_isOpen_18 rfl 2 rfl ?_
      refine u_aload_n (pc := 19) hC dX1_isOpen_19 rfl 0 rfl ?_
      refine g_RX1_21 (pc := 20) hC hk0 dX1_isOpen_20 ?_
      refine u_iload_n (pc := 23) hC dX1_isOpen_23 rfl 1 rfl ?_
      obtain ⟨b24, h⟩ := of_gd h
      refine u_iald (pc := 24) hC (rs_1_3 hk0) 8 (rn_1_3 hk0) b24 dX1_isOpen_24 ?_
      refine u_ishr (pc := 25) hC dX1_isOpen_25 ?_
      refine u_iconst (pc := 26) hC ic_1 dX1_isOpen_26 ?_
      refine u_iand (pc := 27) hC dX1_isOpen_27 ?_
      refine u_if_ne (pc := 28) hC (tgt := 35) dX1_isOpen_28 (by decide) (fun c28 => ?_) (fun c28 => ?_)
      · replace h := of_t c28 h
        refine u_iconst (pc := 35) hC ic_0 dX1_isOpen_35 ?_
        obtain rfl := Option.some.inj h
        exact u_zret (pc := 36) hC hQ hr (by decide) ⟨rfl, rfl⟩ dX1_isOpen_36
      · replace h := of_f (fun q => q c28) h
        refine u_iconst (pc := 31) hC ic_1 dX1_isOpen_31 ?_
        refine u_goto (pc := 32) hC 36 dX1_isOpen_32 (by decide) ?_
        obtain rfl := Option.some.inj h
        exact u_zret (pc := 36) hC hQ hr (by decide) ⟨rfl, rfl⟩ dX1_isOpen_36
set_option maxHeartbeats 4000000 in
set_option maxRecDepth 100000 in
theorem c_X1_openIn {l : Launch} {G : GG} {d : Nat} (hd : 1 ≤ d) {μ : Mem} {k0 : Nat} (hk0 : isC 1 k0) {a1 : Int32} {r : Int32} (h : f_X1_openIn μ k0 a1 = some r) : CT l yX1_openIn cX1_openIn 4 (some .int) d G [.ref (gad G k0), .int a1] μ (RK (some (.int r)) μ) := by
  refine ct_start (by decide) (Nat.le_of_ble_eq_true rfl) (fun C hl1 hG1 hC hQ hr => ?_)
  subst hl1; subst hG1
  have hC : CxOK C cX1_openIn 4 RX1 d := hC
  show UW C 4 μ 0 [(0, .ref (gad (cG C) k0)), (1, .int a1)] []
  have lw4 : ∀ (e : (Int32)) (s : Int32 × Int32), lp (fun s => f_X1_openIn_l4 μ k0 a1 s.1 s.2) FU s = some e → (fun (e : (Int32)) => UW C 4 μ 33 [(2, .int e)] []) e → UW C 4 μ 4 [(0, .ref (gad (cG C) k0)), (1, .int a1), (2, .int s.1), (3, .int s.2)] [] := by
    intro e s hl hE0
    refine @lp_walk (Int32 × Int32) (Int32) (fun s => f_X1_openIn_l4 μ k0 a1 s.1 s.2) (fun s => UW C 4 μ 4 [(0, .ref (gad (cG C) k0)), (1, .int a1), (2, .int s.1), (3, .int s.2)] []) (fun (e : (Int32)) => UW C 4 μ 33 [(2, .int e)] []) (fun s y4 h hP4 hE4 => ?_) FU s e hl hE0
    obtain ⟨v2_4, v3_4⟩ := s
    replace h : f_X1_openIn_l4 μ k0 a1 v2_4 v3_4 = some y4 := h
    show UW C 4 μ 4 [(0, .ref (gad (cG C) k0)), (1, .int a1), (2, .int v2_4), (3, .int v3_4)] []
    unfold f_X1_openIn_l4 at h
    refine u_iload_n (pc := 4) hC dX1_openIn_4 rfl 3 rfl ?_
    refine u_aload_n (pc := 5) hC dX1_openIn_5 rfl 0 rfl ?_
    refine g_RX1_27 (pc := 6) hC hk0 dX1_openIn_6 ?_
    refine u_icmp_ge (pc := 9) hC (tgt := 33) dX1_openIn_9 (by decide) (fun c9 => ?_) (fun c9 => ?_)
    · replace h := of_t c9 h
      obtain rfl := Option.some.inj h
      refine u_sub [2] rfl ?_
      exact hE4 v2_4 rfl
    · replace h := of_f c9 h
      refine u_aload_n (pc := 12) hC dX1_openIn_12 rfl 0 rfl ?_
      refine u_iload_n (pc := 13) hC dX1_openIn_13 rfl 3 rfl ?_
      refine u_iload_n (pc := 14) hC dX1_openIn_14 rfl 1 rfl ?_
      obtain ⟨r15, q15, h⟩ := of_bd h
      refine k_RX1_50 (pc := 15) hC (av := [.int v3_4, .int a1]) (rest := []) (c_X1_isOpen (d := d - 1) (by omega) hk0 q15) (by omega) (Nat.le_of_ble_eq_true rfl) hk0 rfl rfl dX1_openIn_15 ?_
      refine u_if_eq (pc := 18) hC (tgt := 27) dX1_openIn_18 (by decide) (fun c18 => ?_) (fun c18 => ?_)
      · replace h := of_t c18 h
        refine u_iinc (pc := 27) hC dX1_openIn_27 3 rfl (v3_4 + 1) rfl [(3, .int (v3_4 + 1)), (0, .ref (gad (cG C) k0)), (1, .int a1), (2, .int v2_4)] (by decide) rfl ?_
        refine u_goto (pc := 30) hC 4 dX1_openIn_30 (by decide) ?_
        obtain rfl := Option.some.inj h
        refine u_sub [1, 2, 3, 0] rfl ?_
        exact hP4 (v2_4, v3_4 + 1) rfl
      · replace h := of_f c18 h
        refine u_iload_n (pc := 21) hC dX1_openIn_21 rfl 2 rfl ?_
        refine u_iconst (pc := 22) hC ic_1 dX1_openIn_22 ?_
        refine u_iload_n (pc := 23) hC dX1_openIn_23 rfl 3 rfl ?_
        refine u_ishl (pc := 24) hC dX1_openIn_24 ?_
        refine u_ior (pc := 25) hC dX1_openIn_25 ?_
        refine u_istore_n (pc := 26) hC dX1_openIn_26 rfl [(2, .int (v2_4 ||| (jshl (1 : Int32) v3_4))), (0, .ref (gad (cG C) k0)), (1, .int a1), (3, .int v3_4)] (by decide) rfl ?_
        refine u_iinc (pc := 27) hC dX1_openIn_27 3 rfl (v3_4 + 1) rfl [(3, .int (v3_4 + 1)), (2, .int (v2_4 ||| (jshl (1 : Int32) v3_4))), (0, .ref (gad (cG C) k0)), (1, .int a1)] (by decide) rfl ?_
        refine u_goto (pc := 30) hC 4 dX1_openIn_30 (by decide) ?_
        obtain rfl := Option.some.inj h
        refine u_sub [2, 3, 1, 0] rfl ?_
        exact hP4 (v2_4 ||| (jshl (1 : Int32) v3_4), v3_4 + 1) rfl
  unfold f_X1_openIn at h
  refine u_iconst (pc := 0) hC ic_0 dX1_openIn_0 ?_
  refine u_istore_n (pc := 1) hC dX1_openIn_1 rfl [(2, .int (0 : Int32)), (0, .ref (gad (cG C) k0)), (1, .int a1)] (by decide) rfl ?_
  refine u_iconst (pc := 2) hC ic_0 dX1_openIn_2 ?_
  refine u_istore_n (pc := 3) hC dX1_openIn_3 rfl [(3, .int (0 : Int32)), (2, .int (0 : Int32)), (0, .ref (gad (cG C) k0)), (1, .int a1)] (by decide) rfl ?_
  obtain ⟨e4, l4, h⟩ := of_bd h
  refine u_sub [2, 3, 1, 0] rfl ?_
  refine lw4  e4 ((0 : Int32), (0 : Int32)) l4 ?_
  show UW C 4 μ 33 [(2, .int e4)] []
  refine u_iload_n (pc := 33) hC dX1_openIn_33 rfl 0 rfl ?_
  obtain rfl := Option.some.inj h
  exact u_iret (pc := 34) hC hQ hr ⟨rfl, rfl⟩ dX1_openIn_34
set_option maxHeartbeats 4000000 in
set_option maxRecDepth 100000 in
theorem c_X1_anyOverdue {l : Launch} {G : GG} {d : Nat} (hd : 1 ≤ d) {μ : Mem} {k0 : Nat} (hk0 : isC 1 k0) {a1 : Int32} {k2 : Nat} (hk2 : isC 13 k2) {a3 : Int32} {r : Int32} (h : f_X1_anyOverdue μ k0 a1 k2 a3 = some r) : CT l yX1_anyOverdue cX1_anyOverdue 5 (some .boolean) d G [.ref (gad G k0), .int a1, .ref (gad G k2), .int a3] μ (RK (some (.int r)) μ) := by
  refine ct_start (by decide) (Nat.le_of_ble_eq_true rfl) (fun C hl1 hG1 hC hQ hr => ?_)
  subst hl1; subst hG1
  have hC : CxOK C cX1_anyOverdue 5 RX1 d := hC
  show UW C 5 μ 0 [(0, .ref (gad (cG C) k0)), (1, .int a1), (2, .ref (gad (cG C) k2)), (3, .int a3)] []
  have lw3 : ∀ (e : (Unit ⊕ Unit)) (s : Int32), lp (fun s => f_X1_anyOverdue_l3 μ k0 a1 k2 a3 s) FU s = some e → (Sum.elim (fun (e : Unit) => UW C 5 μ 38 [] []) (fun (e : Unit) => UW C 5 μ 46 [] [])) e → UW C 5 μ 3 [(0, .ref (gad (cG C) k0)), (1, .int a1), (2, .ref (gad (cG C) k2)), (3, .int a3), (4, .int s)] [] := by
    intro e s hl hE0
    refine @lp_walk (Int32) (Unit ⊕ Unit) (fun s => f_X1_anyOverdue_l3 μ k0 a1 k2 a3 s) (fun s => UW C 5 μ 3 [(0, .ref (gad (cG C) k0)), (1, .int a1), (2, .ref (gad (cG C) k2)), (3, .int a3), (4, .int s)] []) (Sum.elim (fun (e : Unit) => UW C 5 μ 38 [] []) (fun (e : Unit) => UW C 5 μ 46 [] [])) (fun v4_3 y3 h hP3 hE3 => ?_) FU s e hl hE0
    replace h : f_X1_anyOverdue_l3 μ k0 a1 k2 a3 v4_3 = some y3 := h
    show UW C 5 μ 3 [(0, .ref (gad (cG C) k0)), (1, .int a1), (2, .ref (gad (cG C) k2)), (3, .int a3), (4, .int v4_3)] []
    unfold f_X1_anyOverdue_l3 at h
    refine u_iload (pc := 3) hC dX1_anyOverdue_3 4 rfl ?_
    refine u_aload_n (pc := 5) hC dX1_anyOverdue_5 rfl 0 rfl ?_
    refine g_RX1_27 (pc := 6) hC hk0 dX1_anyOverdue_6 ?_
    refine u_icmp_ge (pc := 9) hC (tgt := 46) dX1_anyOverdue_9 (by decide) (fun c9 => ?_) (fun c9 => ?_)
    · replace h := of_t c9 h
      obtain rfl := Option.some.inj h
      refine u_sub [] rfl ?_
      exact hE3 (.inr ()) rfl
    · replace h := of_f c9 h
      refine u_aload_n (pc := 12) hC dX1_anyOverdue_12 rfl 0 rfl ?_
      refine u_iload (pc := 13) hC dX1_anyOverdue_13 4 rfl ?_
      refine u_iload_n (pc := 15) hC dX1_anyOverdue_15 rfl 1 rfl ?_
      obtain ⟨r16, q16, h⟩ := of_bd h
      refine k_RX1_50 (pc := 16) hC (av := [.int v4_3, .int a1]) (rest := []) (c_X1_isOpen (d := d - 1) (by omega) hk0 q16) (by omega) (Nat.le_of_ble_eq_true rfl) hk0 rfl rfl dX1_anyOverdue_16 ?_
      refine u_if_eq (pc := 19) hC (tgt := 40) dX1_anyOverdue_19 (by decide) (fun c19 => ?_) (fun c19 => ?_)
      · replace h := of_t c19 h
        refine u_iinc (pc := 40) hC dX1_anyOverdue_40 4 rfl (v4_3 + 1) rfl [(4, .int (v4_3 + 1)), (0, .ref (gad (cG C) k0)), (1, .int a1), (2, .ref (gad (cG C) k2)), (3, .int a3)] (by decide) rfl ?_
        refine u_goto (pc := 43) hC 3 dX1_anyOverdue_43 (by decide) ?_
        obtain rfl := Option.some.inj h
        refine u_sub [1, 2, 3, 4, 0] rfl ?_
        exact hP3 (v4_3 + 1) rfl
      · replace h := of_f c19 h
        refine u_iload_n (pc := 22) hC dX1_anyOverdue_22 rfl 3 rfl ?_
        refine u_aload_n (pc := 23) hC dX1_anyOverdue_23 rfl 2 rfl ?_
        refine u_iload (pc := 24) hC dX1_anyOverdue_24 4 rfl ?_
        obtain ⟨b26, h⟩ := of_gd h
        refine u_iald (pc := 26) hC hk2 (ln k2) rfl b26 dX1_anyOverdue_26 ?_
        refine u_aload_n (pc := 27) hC dX1_anyOverdue_27 rfl 0 rfl ?_
        refine g_RX1_18 (pc := 28) hC hk0 dX1_anyOverdue_28 ?_
        refine u_iload (pc := 31) hC dX1_anyOverdue_31 4 rfl ?_
        obtain ⟨b33, h⟩ := of_gd h
        refine u_iald (pc := 33) hC (rs_1_2 hk0) 8 (rn_1_2 hk0) b33 dX1_anyOverdue_33 ?_
        refine u_iadd (pc := 34) hC dX1_anyOverdue_34 ?_
        refine u_icmp_lt (pc := 35) hC (tgt := 40) dX1_anyOverdue_35 (by decide) (fun c35 => ?_) (fun c35 => ?_)
        · replace h := of_t c35 h
          refine u_iinc (pc := 40) hC dX1_anyOverdue_40 4 rfl (v4_3 + 1) rfl [(4, .int (v4_3 + 1)), (0, .ref (gad (cG C) k0)), (1, .int a1), (2, .ref (gad (cG C) k2)), (3, .int a3)] (by decide) rfl ?_
          refine u_goto (pc := 43) hC 3 dX1_anyOverdue_43 (by decide) ?_
          obtain rfl := Option.some.inj h
          refine u_sub [1, 2, 3, 4, 0] rfl ?_
          exact hP3 (v4_3 + 1) rfl
        · replace h := of_f c35 h
          obtain rfl := Option.some.inj h
          refine u_sub [] rfl ?_
          exact hE3 (.inl ()) rfl
  unfold f_X1_anyOverdue at h
  refine u_iconst (pc := 0) hC ic_0 dX1_anyOverdue_0 ?_
  refine u_istore (pc := 1) hC dX1_anyOverdue_1 [(4, .int (0 : Int32)), (0, .ref (gad (cG C) k0)), (1, .int a1), (2, .ref (gad (cG C) k2)), (3, .int a3)] (by decide) rfl ?_
  obtain ⟨e3, l3, h⟩ := of_bd h
  refine u_sub [1, 2, 3, 4, 0] rfl ?_
  refine lw3  e3 (0 : Int32) l3 ?_
  rcases e3 with e3 | e3
  · replace h := of_el h
    show UW C 5 μ 38 [] []
    refine u_iconst (pc := 38) hC ic_1 dX1_anyOverdue_38 ?_
    obtain rfl := Option.some.inj h
    exact u_zret (pc := 39) hC hQ hr (by decide) ⟨rfl, rfl⟩ dX1_anyOverdue_39
  · replace h := of_er h
    show UW C 5 μ 46 [] []
    refine u_iconst (pc := 46) hC ic_0 dX1_anyOverdue_46 ?_
    obtain rfl := Option.some.inj h
    exact u_zret (pc := 47) hC hQ hr (by decide) ⟨rfl, rfl⟩ dX1_anyOverdue_47
set_option maxHeartbeats 4000000 in
set_option maxRecDepth 100000 in
theorem c_X2_take {l : Launch} {G : GG} {d : Nat} (hd : 0 ≤ d) {μ : Mem} {k0 : Nat} (hk0 : isC 2 k0) {k1 : Nat} (hk1 : isC 13 k1) {a2 : Int32} {r : Mem} (h : f_X2_take μ k0 k1 a2 = some r) : CT l yX2_take cX2_take 3 none d G [.ref (gad G k0), .ref (gad G k1), .int a2] μ (RK none r) := by
  refine ct_start (by decide) (Nat.le_of_ble_eq_true rfl) (fun C hl1 hG1 hC hQ hr => ?_)
  subst hl1; subst hG1
  have hC : CxOK C cX2_take 3 RX2 d := hC
  show UW C 3 μ 0 [(0, .ref (gad (cG C) k0)), (1, .ref (gad (cG C) k1)), (2, .int a2)] []
  unfold f_X2_take at h
  refine u_aload_n (pc := 0) hC dX2_take_0 rfl 0 rfl ?_
  refine u_iconst (pc := 1) hC ic_0 dX2_take_1 ?_
  refine u_iload_n (pc := 2) hC dX2_take_2 rfl 2 rfl ?_
  refine u_bipush (pc := 3) hC bc_50 dX2_take_3 ?_
  refine u_mmin (pc := 5) hC mL_RX2_37 mK_min mI_RJ9 mB_min (Nat.le_of_ble_eq_true rfl) dX2_take_5 ?_
  refine u_mmax (pc := 8) hC mL_RX2_43 mK_max mI_RJ9 mB_max (Nat.le_of_ble_eq_true rfl) dX2_take_8 ?_
  obtain ⟨m11, q11, h⟩ := of_bd h
  refine p_RX2_28 (pc := 11) hC hk0 dX2_take_11 (Option.some.inj q11) ?_
  refine u_aload_n (pc := 14) hC dX2_take_14 rfl 1 rfl ?_
  refine u_iconst (pc := 15) hC ic_0 dX2_take_15 ?_
  refine u_aload_n (pc := 16) hC dX2_take_16 rfl 0 rfl ?_
  refine g_RX2_9 (pc := 17) hC hk0 dX2_take_17 ?_
  refine u_iconst (pc := 20) hC ic_0 dX2_take_20 ?_
  refine u_aload_n (pc := 21) hC dX2_take_21 rfl 0 rfl ?_
  refine g_RX2_28 (pc := 22) hC hk0 dX2_take_22 ?_
  obtain ⟨b25, h⟩ := of_gd h
  obtain ⟨m25, q25, h⟩ := of_bd h
  refine u_acopy (pc := 25) hC mL_RX2_31 mN_O_arraycopy mK_O_arraycopy mI_RJ10 hk1 (rs_2_0 hk0) b25 (Nat.le_of_ble_eq_true rfl) dX2_take_25 (Option.some.inj q25) ?_
  obtain rfl := Option.some.inj h
  exact u_vret (pc := 28) hC hQ hr ⟨rfl, rfl⟩ dX2_take_28
set_option maxHeartbeats 4000000 in
set_option maxRecDepth 100000 in
theorem c_X2_joins {l : Launch} {G : GG} {d : Nat} (hd : 0 ≤ d) {μ : Mem} {a0 : Int32} {a1 : Int32} {a2 : Int32} {r : Int32} (h : f_X2_joins a0 a1 a2 = some r) : CT l yX2_joins cX2_joins 3 (some .int) d G [.int a0, .int a1, .int a2] μ (RK (some (.int r)) μ) := by
  refine ct_start (by decide) (Nat.le_of_ble_eq_true rfl) (fun C hl1 hG1 hC hQ hr => ?_)
  subst hl1; subst hG1
  have hC : CxOK C cX2_joins 3 RX2 d := hC
  show UW C 3 μ 0 [(0, .int a0), (1, .int a1), (2, .int a2)] []
  unfold f_X2_joins at h
  refine u_iload_n (pc := 0) hC dX2_joins_0 rfl 0 rfl ?_
  by_cases c1_0 : a0 = 37
  · replace h := of_t c1_0 h
    refine u_lookEq (pc := 1) hC dX2_joins_1 (37 : Int32) c1_0 (off := 176) 177 (by decide) (by decide) (by decide) ?_
    refine u_iload_n (pc := 177) hC dX2_joins_177 rfl 2 rfl ?_
    refine u_if_ne (pc := 178) hC (tgt := 185) dX2_joins_178 (by decide) (fun c178 => ?_) (fun c178 => ?_)
    · replace h := of_t c178 h
      refine u_iload_n (pc := 185) hC dX2_joins_185 rfl 1 rfl ?_
      refine u_iload_n (pc := 186) hC dX2_joins_186 rfl 2 rfl ?_
      obtain ⟨b187, h⟩ := of_gd h
      refine u_irem (pc := 187) hC b187 dX2_joins_187 ?_
      obtain rfl := Option.some.inj h
      exact u_iret (pc := 188) hC hQ hr ⟨rfl, rfl⟩ dX2_joins_188
    · replace h := of_f (fun q => q c178) h
      refine u_iconst (pc := 181) hC ic_0 dX2_joins_181 ?_
      refine u_goto (pc := 182) hC 188 dX2_joins_182 (by decide) ?_
      obtain rfl := Option.some.inj h
      exact u_iret (pc := 188) hC hQ hr ⟨rfl, rfl⟩ dX2_joins_188
  replace h := of_f c1_0 h
  by_cases c1_1 : a0 = 38
  · replace h := of_t c1_1 h
    refine u_lookEq (pc := 1) hC dX2_joins_1 (38 : Int32) c1_1 (off := 105) 106 (by decide) (by decide) (by decide) ?_
    refine u_iload_n (pc := 106) hC dX2_joins_106 rfl 1 rfl ?_
    refine u_if_eq (pc := 107) hC (tgt := 118) dX2_joins_107 (by decide) (fun c107 => ?_) (fun c107 => ?_)
    · replace h := of_t c107 h
      refine u_iconst (pc := 118) hC ic_0 dX2_joins_118 ?_
      obtain rfl := Option.some.inj h
      exact u_iret (pc := 119) hC hQ hr ⟨rfl, rfl⟩ dX2_joins_119
    · replace h := of_f c107 h
      refine u_iload_n (pc := 110) hC dX2_joins_110 rfl 2 rfl ?_
      refine u_if_eq (pc := 111) hC (tgt := 118) dX2_joins_111 (by decide) (fun c111 => ?_) (fun c111 => ?_)
      · replace h := of_t c111 h
        refine u_iconst (pc := 118) hC ic_0 dX2_joins_118 ?_
        obtain rfl := Option.some.inj h
        exact u_iret (pc := 119) hC hQ hr ⟨rfl, rfl⟩ dX2_joins_119
      · replace h := of_f c111 h
        refine u_iconst (pc := 114) hC ic_1 dX2_joins_114 ?_
        refine u_goto (pc := 115) hC 119 dX2_joins_115 (by decide) ?_
        obtain rfl := Option.some.inj h
        exact u_iret (pc := 119) hC hQ hr ⟨rfl, rfl⟩ dX2_joins_119
  replace h := of_f c1_1 h
  by_cases c1_2 : a0 = 42
  · replace h := of_t c1_2 h
    refine u_lookEq (pc := 1) hC dX2_joins_1 (42 : Int32) c1_2 (off := 160) 161 (by decide) (by decide) (by decide) ?_
    refine u_iload_n (pc := 161) hC dX2_joins_161 rfl 1 rfl ?_
    refine u_iload_n (pc := 162) hC dX2_joins_162 rfl 2 rfl ?_
    refine u_imul (pc := 163) hC dX2_joins_163 ?_
    obtain rfl := Option.some.inj h
    exact u_iret (pc := 164) hC hQ hr ⟨rfl, rfl⟩ dX2_joins_164
  replace h := of_f c1_2 h
  by_cases c1_3 : a0 = 43
  · replace h := of_t c1_3 h
    refine u_lookEq (pc := 1) hC dX2_joins_1 (43 : Int32) c1_3 (off := 152) 153 (by decide) (by decide) (by decide) ?_
    refine u_iload_n (pc := 153) hC dX2_joins_153 rfl 1 rfl ?_
    refine u_iload_n (pc := 154) hC dX2_joins_154 rfl 2 rfl ?_
    refine u_iadd (pc := 155) hC dX2_joins_155 ?_
    obtain rfl := Option.some.inj h
    exact u_iret (pc := 156) hC hQ hr ⟨rfl, rfl⟩ dX2_joins_156
  replace h := of_f c1_3 h
  by_cases c1_4 : a0 = 45
  · replace h := of_t c1_4 h
    refine u_lookEq (pc := 1) hC dX2_joins_1 (45 : Int32) c1_4 (off := 156) 157 (by decide) (by decide) (by decide) ?_
    refine u_iload_n (pc := 157) hC dX2_joins_157 rfl 1 rfl ?_
    refine u_iload_n (pc := 158) hC dX2_joins_158 rfl 2 rfl ?_
    refine u_isub (pc := 159) hC dX2_joins_159 ?_
    obtain rfl := Option.some.inj h
    exact u_iret (pc := 160) hC hQ hr ⟨rfl, rfl⟩ dX2_joins_160
  replace h := of_f c1_4 h
  by_cases c1_5 : a0 = 47
  · replace h := of_t c1_5 h
    refine u_lookEq (pc := 1) hC dX2_joins_1 (47 : Int32) c1_5 (off := 164) 165 (by decide) (by decide) (by decide) ?_
    refine u_iload_n (pc := 165) hC dX2_joins_165 rfl 2 rfl ?_
    refine u_if_ne (pc := 166) hC (tgt := 173) dX2_joins_166 (by decide) (fun c166 => ?_) (fun c166 => ?_)
    · replace h := of_t c166 h
      refine u_iload_n (pc := 173) hC dX2_joins_173 rfl 1 rfl ?_
      refine u_iload_n (pc := 174) hC dX2_joins_174 rfl 2 rfl ?_
      obtain ⟨b175, h⟩ := of_gd h
      refine u_idiv (pc := 175) hC b175 dX2_joins_175 ?_
      obtain rfl := Option.some.inj h
      exact u_iret (pc := 176) hC hQ hr ⟨rfl, rfl⟩ dX2_joins_176
    · replace h := of_f (fun q => q c166) h
      refine u_iconst (pc := 169) hC ic_0 dX2_joins_169 ?_
      refine u_goto (pc := 170) hC 176 dX2_joins_170 (by decide) ?_
      obtain rfl := Option.some.inj h
      exact u_iret (pc := 176) hC hQ hr ⟨rfl, rfl⟩ dX2_joins_176
  replace h := of_f c1_5 h
  by_cases c1_6 : a0 = 60
  · replace h := of_t c1_6 h
    refine u_lookEq (pc := 1) hC dX2_joins_1 (60 : Int32) c1_6 (off := 119) 120 (by decide) (by decide) (by decide) ?_
    refine u_iload_n (pc := 120) hC dX2_joins_120 rfl 1 rfl ?_
    refine u_iload_n (pc := 121) hC dX2_joins_121 rfl 2 rfl ?_
    refine u_icmp_ge (pc := 122) hC (tgt := 129) dX2_joins_122 (by decide) (fun c122 => ?_) (fun c122 => ?_)
    · replace h := of_t c122 h
      refine u_iconst (pc := 129) hC ic_0 dX2_joins_129 ?_
      obtain rfl := Option.some.inj h
      exact u_iret (pc := 130) hC hQ hr ⟨rfl, rfl⟩ dX2_joins_130
    · replace h := of_f c122 h
      refine u_iconst (pc := 125) hC ic_1 dX2_joins_125 ?_
      refine u_goto (pc := 126) hC 130 dX2_joins_126 (by decide) ?_
      obtain rfl := Option.some.inj h
      exact u_iret (pc := 130) hC hQ hr ⟨rfl, rfl⟩ dX2_joins_130
  replace h := of_f c1_6 h
  by_cases c1_7 : a0 = 61
  · replace h := of_t c1_7 h
    refine u_lookEq (pc := 1) hC dX2_joins_1 (61 : Int32) c1_7 (off := 130) 131 (by decide) (by decide) (by decide) ?_
    refine u_iload_n (pc := 131) hC dX2_joins_131 rfl 1 rfl ?_
    refine u_iload_n (pc := 132) hC dX2_joins_132 rfl 2 rfl ?_
    refine u_icmp_ne (pc := 133) hC (tgt := 140) dX2_joins_133 (by decide) (fun c133 => ?_) (fun c133 => ?_)
    · replace h := of_t c133 h
      refine u_iconst (pc := 140) hC ic_0 dX2_joins_140 ?_
      obtain rfl := Option.some.inj h
      exact u_iret (pc := 141) hC hQ hr ⟨rfl, rfl⟩ dX2_joins_141
    · replace h := of_f (fun q => q c133) h
      refine u_iconst (pc := 136) hC ic_1 dX2_joins_136 ?_
      refine u_goto (pc := 137) hC 141 dX2_joins_137 (by decide) ?_
      obtain rfl := Option.some.inj h
      exact u_iret (pc := 141) hC hQ hr ⟨rfl, rfl⟩ dX2_joins_141
  replace h := of_f c1_7 h
  by_cases c1_8 : a0 = 62
  · replace h := of_t c1_8 h
    refine u_lookEq (pc := 1) hC dX2_joins_1 (62 : Int32) c1_8 (off := 141) 142 (by decide) (by decide) (by decide) ?_
    refine u_iload_n (pc := 142) hC dX2_joins_142 rfl 1 rfl ?_
    refine u_iload_n (pc := 143) hC dX2_joins_143 rfl 2 rfl ?_
    refine u_icmp_le (pc := 144) hC (tgt := 151) dX2_joins_144 (by decide) (fun c144 => ?_) (fun c144 => ?_)
    · replace h := of_t c144 h
      refine u_iconst (pc := 151) hC ic_0 dX2_joins_151 ?_
      obtain rfl := Option.some.inj h
      exact u_iret (pc := 152) hC hQ hr ⟨rfl, rfl⟩ dX2_joins_152
    · replace h := of_f c144 h
      refine u_iconst (pc := 147) hC ic_1 dX2_joins_147 ?_
      refine u_goto (pc := 148) hC 152 dX2_joins_148 (by decide) ?_
      obtain rfl := Option.some.inj h
      exact u_iret (pc := 152) hC hQ hr ⟨rfl, rfl⟩ dX2_joins_152
  replace h := of_f c1_8 h
  by_cases c1_9 : a0 = 124
  · replace h := of_t c1_9 h
    refine u_lookEq (pc := 1) hC dX2_joins_1 (124 : Int32) c1_9 (off := 91) 92 (by decide) (by decide) (by decide) ?_
    refine u_iload_n (pc := 92) hC dX2_joins_92 rfl 1 rfl ?_
    refine u_if_ne (pc := 93) hC (tgt := 100) dX2_joins_93 (by decide) (fun c93 => ?_) (fun c93 => ?_)
    · replace h := of_t c93 h
      refine u_iconst (pc := 100) hC ic_1 dX2_joins_100 ?_
      refine u_goto (pc := 101) hC 105 dX2_joins_101 (by decide) ?_
      obtain rfl := Option.some.inj h
      exact u_iret (pc := 105) hC hQ hr ⟨rfl, rfl⟩ dX2_joins_105
    · replace h := of_f (fun q => q c93) h
      refine u_iload_n (pc := 96) hC dX2_joins_96 rfl 2 rfl ?_
      refine u_if_eq (pc := 97) hC (tgt := 104) dX2_joins_97 (by decide) (fun c97 => ?_) (fun c97 => ?_)
      · replace h := of_t c97 h
        refine u_iconst (pc := 104) hC ic_0 dX2_joins_104 ?_
        obtain rfl := Option.some.inj h
        exact u_iret (pc := 105) hC hQ hr ⟨rfl, rfl⟩ dX2_joins_105
      · replace h := of_f c97 h
        refine u_iconst (pc := 100) hC ic_1 dX2_joins_100 ?_
        refine u_goto (pc := 101) hC 105 dX2_joins_101 (by decide) ?_
        obtain rfl := Option.some.inj h
        exact u_iret (pc := 105) hC hQ hr ⟨rfl, rfl⟩ dX2_joins_105
  replace h := of_f c1_9 h
  refine u_lookDf (pc := 1) hC dX2_joins_1 [(37 : Int32), (38 : Int32), (42 : Int32), (43 : Int32), (45 : Int32), (47 : Int32), (60 : Int32), (61 : Int32), (62 : Int32), (124 : Int32)] (List.forall_mem_cons.mpr ⟨c1_0, List.forall_mem_cons.mpr ⟨c1_1, List.forall_mem_cons.mpr ⟨c1_2, List.forall_mem_cons.mpr ⟨c1_3, List.forall_mem_cons.mpr ⟨c1_4, List.forall_mem_cons.mpr ⟨c1_5, List.forall_mem_cons.mpr ⟨c1_6, List.forall_mem_cons.mpr ⟨c1_7, List.forall_mem_cons.mpr ⟨c1_8, List.forall_mem_cons.mpr ⟨c1_9, (fun _ q => absurd q List.not_mem_nil)⟩⟩⟩⟩⟩⟩⟩⟩⟩⟩) (by decide) 189 (by decide) (by decide) ?_
  refine u_iconst (pc := 189) hC ic_0 dX2_joins_189 ?_
  obtain rfl := Option.some.inj h
  exact u_iret (pc := 190) hC hQ hr ⟨rfl, rfl⟩ dX2_joins_190
set_option maxHeartbeats 4000000 in
set_option maxRecDepth 100000 in
theorem c_X2_gives {l : Launch} {G : GG} {d : Nat} (hd : 1 ≤ d) {μ : Mem} {k0 : Nat} (hk0 : isC 2 k0) {a1 : Int32} {a2 : Int32} {a3 : Int32} {r : Int32 × Mem} (h : f_X2_gives μ k0 a1 a2 a3 = some r) : CT l yX2_gives cX2_gives 7 (some .int) d G [.ref (gad G k0), .int a1, .int a2, .int a3] μ (RK (some (.int r.1)) r.2) := by
  refine ct_start (by decide) (Nat.le_of_ble_eq_true rfl) (fun C hl1 hG1 hC hQ hr => ?_)
  subst hl1; subst hG1
  have hC : CxOK C cX2_gives 7 RX2 d := hC
  show UW C 7 μ 0 [(0, .ref (gad (cG C) k0)), (1, .int a1), (2, .int a2), (3, .int a3)] []
  have jb192 : ∀ (μ_192 : Mem) (vt0_192 : Int32), f_X2_gives_j192 μ_192 k0 a1 a2 a3 vt0_192 = some r → UW C 7 μ_192 192 [(0, .ref (gad (cG C) k0))] [.int vt0_192] := by
    intro μ_192 vt0_192 h
    unfold f_X2_gives_j192 at h
    refine u_istore (pc := 192) hC dX2_gives_192 [(5, .int vt0_192), (0, .ref (gad (cG C) k0))] (by decide) rfl ?_
    refine u_aload_n (pc := 194) hC dX2_gives_194 rfl 1 rfl ?_
    refine g_RX2_24 (pc := 195) hC hk0 dX2_gives_195 ?_
    refine u_iload (pc := 198) hC dX2_gives_198 0 rfl ?_
    refine u_sipush (pc := 200) hC sc_999 dX2_gives_200 ?_
    refine u_mmin (pc := 203) hC mL_RX2_37 mK_min mI_RJ9 mB_min (Nat.le_of_ble_eq_true rfl) dX2_gives_203 ?_
    refine u_mmax (pc := 206) hC mL_RX2_43 mK_max mI_RJ9 mB_max (Nat.le_of_ble_eq_true rfl) dX2_gives_206 ?_
    obtain rfl := Option.some.inj h
    exact u_iret (pc := 209) hC hQ hr ⟨rfl, rfl⟩ dX2_gives_209
  have jb177 : ∀ (μ_177 : Mem) (v4_177 : Int32), f_X2_gives_j177 μ_177 k0 a1 a2 a3 v4_177 = some r → UW C 7 μ_177 177 [(0, .ref (gad (cG C) k0)), (4, .int v4_177)] [] := by
    intro μ_177 v4_177 h
    unfold f_X2_gives_j177 at h
    refine u_iload (pc := 177) hC dX2_gives_177 1 rfl ?_
    refine u_if_le (pc := 179) hC (tgt := 191) dX2_gives_179 (by decide) (fun c179 => ?_) (fun c179 => ?_)
    · replace h := of_t c179 h
      refine u_iconst (pc := 191) hC ic_0 dX2_gives_191 ?_
      refine u_sub [0] rfl ?_
      exact jb192 μ_177 (0 : Int32) h
    · replace h := of_f c179 h
      refine u_aload_n (pc := 182) hC dX2_gives_182 rfl 0 rfl ?_
      refine g_RX2_15 (pc := 183) hC hk0 dX2_gives_183 ?_
      refine u_iconst (pc := 186) hC ic_0 dX2_gives_186 ?_
      refine u_iald (pc := 187) hC (rs_2_1 hk0) 50 (rn_2_1 hk0) (by decide) dX2_gives_187 ?_
      refine u_goto (pc := 188) hC 192 dX2_gives_188 (by decide) ?_
      refine u_sub [0] rfl ?_
      exact jb192 μ_177 (rd μ_177 (rf k0 1) (0 : Int32).toNatClampNeg) h
  have lw6 : ∀ (e : (Int32 × Mem)) (s : Int32 × Int32 × Mem), lp (fun s => f_X2_gives_l6 k0 a1 a2 a3 s.1 s.2.1 s.2.2) FU s = some e → (fun (e : (Int32 × Mem)) => UW C 7 e.2 177 [(0, .ref (gad (cG C) k0)), (4, .int e.1)] []) e → UW C 7 s.2.2 6 [(0, .ref (gad (cG C) k0)), (1, .int a1), (2, .int a2), (3, .int a3), (4, .int s.1), (5, .int s.2.1)] [] := by
    intro e s hl hE0
    refine @lp_walk (Int32 × Int32 × Mem) (Int32 × Mem) (fun s => f_X2_gives_l6 k0 a1 a2 a3 s.1 s.2.1 s.2.2) (fun s => UW C 7 s.2.2 6 [(0, .ref (gad (cG C) k0)), (1, .int a1), (2, .int a2), (3, .int a3), (4, .int s.1), (5, .int s.2.1)] []) (fun (e : (Int32 × Mem)) => UW C 7 e.2 177 [(0, .ref (gad (cG C) k0)), (4, .int e.1)] []) (fun s y6 h hP6 hE6 => ?_) FU s e hl hE0
    have jb127 : ∀ (μ_127 : Mem) (v4_127 : Int32) (v5_127 : Int32) (kt0_127 : Nat) (hkt0_127 : isC 13 kt0_127) (vt1_127 : Int32) (vt2_127 : Int32), f_X2_gives_j127 μ_127 k0 a1 a2 a3 v4_127 v5_127 kt0_127 vt1_127 vt2_127 = some y6 → UW C 7 μ_127 127 [(0, .ref (gad (cG C) k0)), (1, .int a1), (2, .int a2), (3, .int a3), (4, .int v4_127), (5, .int v5_127)] [.int vt2_127, .int vt1_127, .ref (gad (cG C) kt0_127)] := by
      intro μ_127 v4_127 v5_127 kt0_127 hkt0_127 vt1_127 vt2_127 h
      unfold f_X2_gives_j127 at h
      obtain ⟨b127, h⟩ := of_gd h
      obtain ⟨m127, q127, h⟩ := of_bd h
      refine u_iast (pc := 127) hC hkt0_127 (ln kt0_127) rfl b127 dX2_gives_127 (Option.some.inj q127) ?_
      refine u_goto (pc := 128) hC 171 dX2_gives_128 (by decide) ?_
      refine u_iinc (pc := 171) hC dX2_gives_171 5 rfl (v5_127 + 1) rfl [(5, .int (v5_127 + 1)), (0, .ref (gad (cG C) k0)), (1, .int a1), (2, .int a2), (3, .int a3), (4, .int v4_127)] (by decide) rfl ?_
      refine u_goto (pc := 174) hC 6 dX2_gives_174 (by decide) ?_
      obtain rfl := Option.some.inj h
      refine u_sub [1, 2, 3, 4, 5, 0] rfl ?_
      exact hP6 (v4_127, v5_127 + 1, m127) rfl
    have jb83 : ∀ (μ_83 : Mem) (v4_83 : Int32) (v5_83 : Int32) (kt0_83 : Nat) (hkt0_83 : isC 13 kt0_83) (vt1_83 : Int32) (vt2_83 : Int32), f_X2_gives_j83 μ_83 k0 a1 a2 a3 v4_83 v5_83 kt0_83 vt1_83 vt2_83 = some y6 → UW C 7 μ_83 83 [(0, .ref (gad (cG C) k0)), (1, .int a1), (2, .int a2), (3, .int a3), (4, .int v4_83), (5, .int v5_83)] [.int vt2_83, .int vt1_83, .ref (gad (cG C) kt0_83)] := by
      intro μ_83 v4_83 v5_83 kt0_83 hkt0_83 vt1_83 vt2_83 h
      unfold f_X2_gives_j83 at h
      obtain ⟨b83, h⟩ := of_gd h
      obtain ⟨m83, q83, h⟩ := of_bd h
      refine u_iast (pc := 83) hC hkt0_83 (ln kt0_83) rfl b83 dX2_gives_83 (Option.some.inj q83) ?_
      refine u_iinc (pc := 84) hC dX2_gives_84 4 rfl (v4_83 + 1) rfl [(4, .int (v4_83 + 1)), (0, .ref (gad (cG C) k0)), (1, .int a1), (2, .int a2), (3, .int a3), (5, .int v5_83)] (by decide) rfl ?_
      refine u_goto (pc := 87) hC 171 dX2_gives_87 (by decide) ?_
      refine u_iinc (pc := 171) hC dX2_gives_171 5 rfl (v5_83 + 1) rfl [(5, .int (v5_83 + 1)), (4, .int (v4_83 + 1)), (0, .ref (gad (cG C) k0)), (1, .int a1), (2, .int a2), (3, .int a3)] (by decide) rfl ?_
      refine u_goto (pc := 174) hC 6 dX2_gives_174 (by decide) ?_
      obtain rfl := Option.some.inj h
      refine u_sub [2, 3, 4, 5, 1, 0] rfl ?_
      exact hP6 (v4_83 + 1, v5_83 + 1, m83) rfl
    obtain ⟨v4_6, v5_6, μ_6⟩ := s
    replace h : f_X2_gives_l6 k0 a1 a2 a3 v4_6 v5_6 μ_6 = some y6 := h
    show UW C 7 μ_6 6 [(0, .ref (gad (cG C) k0)), (1, .int a1), (2, .int a2), (3, .int a3), (4, .int v4_6), (5, .int v5_6)] []
    unfold f_X2_gives_l6 at h
    refine u_iload (pc := 6) hC dX2_gives_6 5 rfl ?_
    refine u_aload_n (pc := 8) hC dX2_gives_8 rfl 0 rfl ?_
    refine g_RX2_28 (pc := 9) hC hk0 dX2_gives_9 ?_
    refine u_icmp_ge (pc := 12) hC (tgt := 177) dX2_gives_12 (by decide) (fun c12 => ?_) (fun c12 => ?_)
    · replace h := of_t c12 h
      obtain rfl := Option.some.inj h
      refine u_sub [0, 4] rfl ?_
      exact hE6 (v4_6, μ_6) rfl
    · replace h := of_f c12 h
      refine u_iload (pc := 15) hC dX2_gives_15 5 rfl ?_
      refine u_bipush (pc := 17) hC bc_50 dX2_gives_17 ?_
      refine u_icmp_ge (pc := 19) hC (tgt := 177) dX2_gives_19 (by decide) (fun c19 => ?_) (fun c19 => ?_)
      · replace h := of_t c19 h
        obtain rfl := Option.some.inj h
        refine u_sub [0, 4] rfl ?_
        exact hE6 (v4_6, μ_6) rfl
      · replace h := of_f c19 h
        refine u_aload_n (pc := 22) hC dX2_gives_22 rfl 0 rfl ?_
        refine g_RX2_9 (pc := 23) hC hk0 dX2_gives_23 ?_
        refine u_iload (pc := 26) hC dX2_gives_26 5 rfl ?_
        obtain ⟨b28, h⟩ := of_gd h
        refine u_iald (pc := 28) hC (rs_2_0 hk0) 50 (rn_2_0 hk0) b28 dX2_gives_28 ?_
        refine u_istore (pc := 29) hC dX2_gives_29 [(6, .int (rd μ_6 (rf k0 0) v5_6.toNatClampNeg)), (0, .ref (gad (cG C) k0)), (1, .int a1), (2, .int a2), (3, .int a3), (4, .int v4_6), (5, .int v5_6)] (by decide) rfl ?_
        refine u_iload (pc := 31) hC dX2_gives_31 0 rfl ?_
        refine u_bipush (pc := 33) hC bc_m3 dX2_gives_33 ?_
        refine u_icmp_lt (pc := 35) hC (tgt := 90) dX2_gives_35 (by decide) (fun c35 => ?_) (fun c35 => ?_)
        · replace h := of_t c35 h
          refine u_iload (pc := 90) hC dX2_gives_90 0 rfl ?_
          refine u_bipush (pc := 92) hC bc_m33 dX2_gives_92 ?_
          refine u_icmp_ne (pc := 94) hC (tgt := 131) dX2_gives_94 (by decide) (fun c94 => ?_) (fun c94 => ?_)
          · replace h := of_t c94 h
            refine u_iload (pc := 131) hC dX2_gives_131 5 rfl ?_
            refine u_iconst (pc := 133) hC ic_1 dX2_gives_133 ?_
            refine u_icmp_le (pc := 134) hC (tgt := 171) dX2_gives_134 (by decide) (fun c134 => ?_) (fun c134 => ?_)
            · replace h := of_t c134 h
              refine u_iinc (pc := 171) hC dX2_gives_171 6 rfl (v5_6 + 1) rfl [(5, .int (v5_6 + 1)), (6, .int (rd μ_6 (rf k0 0) v5_6.toNatClampNeg)), (0, .ref (gad (cG C) k0)), (1, .int a1), (2, .int a2), (3, .int a3), (4, .int v4_6)] (by decide) rfl ?_
              refine u_goto (pc := 174) hC 6 dX2_gives_174 (by decide) ?_
              obtain rfl := Option.some.inj h
              refine u_sub [2, 3, 4, 5, 6, 0] rfl ?_
              exact hP6 (v4_6, v5_6 + 1, μ_6) rfl
            · replace h := of_f c134 h
              refine u_iinc (pc := 137) hC dX2_gives_137 5 rfl (v4_6 + (-1 : Int32)) rfl [(4, .int (v4_6 + (-1 : Int32))), (6, .int (rd μ_6 (rf k0 0) v5_6.toNatClampNeg)), (0, .ref (gad (cG C) k0)), (1, .int a1), (2, .int a2), (3, .int a3), (5, .int v5_6)] (by decide) rfl ?_
              refine u_aload_n (pc := 140) hC dX2_gives_140 rfl 2 rfl ?_
              refine g_RX2_15 (pc := 141) hC hk0 dX2_gives_141 ?_
              refine u_iload (pc := 144) hC dX2_gives_144 0 rfl ?_
              refine u_iconst (pc := 146) hC ic_1 dX2_gives_146 ?_
              refine u_isub (pc := 147) hC dX2_gives_147 ?_
              refine u_iload (pc := 148) hC dX2_gives_148 1 rfl ?_
              refine u_ineg (pc := 150) hC dX2_gives_150 ?_
              refine u_aload_n (pc := 151) hC dX2_gives_151 rfl 2 rfl ?_
              refine g_RX2_15 (pc := 152) hC hk0 dX2_gives_152 ?_
              refine u_iload (pc := 155) hC dX2_gives_155 0 rfl ?_
              refine u_iconst (pc := 157) hC ic_1 dX2_gives_157 ?_
              refine u_isub (pc := 158) hC dX2_gives_158 ?_
              obtain ⟨b159, h⟩ := of_gd h
              refine u_iald (pc := 159) hC (rs_2_1 hk0) 50 (rn_2_1 hk0) b159 dX2_gives_159 ?_
              refine u_aload_n (pc := 160) hC dX2_gives_160 rfl 2 rfl ?_
              refine g_RX2_15 (pc := 161) hC hk0 dX2_gives_161 ?_
              refine u_iload (pc := 164) hC dX2_gives_164 0 rfl ?_
              obtain ⟨b166, h⟩ := of_gd h
              refine u_iald (pc := 166) hC (rs_2_1 hk0) 50 (rn_2_1 hk0) b166 dX2_gives_166 ?_
              obtain ⟨r167, q167, h⟩ := of_bd h
              refine k_RX2_46 (pc := 167) hC (av := [.int (-(rd μ_6 (rf k0 0) v5_6.toNatClampNeg)), .int (rd μ_6 (rf k0 1) ((v4_6 + (-1 : Int32)) - (1 : Int32)).toNatClampNeg), .int (rd μ_6 (rf k0 1) (v4_6 + (-1 : Int32)).toNatClampNeg)]) (rest := [.int ((v4_6 + (-1 : Int32)) - (1 : Int32)), .ref (gad (cG C) (rf k0 1))]) (c_X2_joins (d := d - 1) (by omega)  q167) (by omega) (Nat.le_of_ble_eq_true rfl) rfl rfl dX2_gives_167 ?_
              obtain ⟨b170, h⟩ := of_gd h
              obtain ⟨m170, q170, h⟩ := of_bd h
              refine u_iast (pc := 170) hC (rs_2_1 hk0) 50 (rn_2_1 hk0) b170 dX2_gives_170 (Option.some.inj q170) ?_
              refine u_iinc (pc := 171) hC dX2_gives_171 6 rfl (v5_6 + 1) rfl [(5, .int (v5_6 + 1)), (4, .int (v4_6 + (-1 : Int32))), (6, .int (rd μ_6 (rf k0 0) v5_6.toNatClampNeg)), (0, .ref (gad (cG C) k0)), (1, .int a1), (2, .int a2), (3, .int a3)] (by decide) rfl ?_
              refine u_goto (pc := 174) hC 6 dX2_gives_174 (by decide) ?_
              obtain rfl := Option.some.inj h
              refine u_sub [3, 4, 5, 6, 1, 0] rfl ?_
              exact hP6 (v4_6 + (-1 : Int32), v5_6 + 1, m170) rfl
          · replace h := of_f (fun q => q c94) h
            refine u_iload (pc := 97) hC dX2_gives_97 5 rfl ?_
            refine u_if_le (pc := 99) hC (tgt := 171) dX2_gives_99 (by decide) (fun c99 => ?_) (fun c99 => ?_)
            · replace h := of_t c99 h
              refine u_iinc (pc := 171) hC dX2_gives_171 6 rfl (v5_6 + 1) rfl [(5, .int (v5_6 + 1)), (6, .int (rd μ_6 (rf k0 0) v5_6.toNatClampNeg)), (0, .ref (gad (cG C) k0)), (1, .int a1), (2, .int a2), (3, .int a3), (4, .int v4_6)] (by decide) rfl ?_
              refine u_goto (pc := 174) hC 6 dX2_gives_174 (by decide) ?_
              obtain rfl := Option.some.inj h
              refine u_sub [2, 3, 4, 5, 6, 0] rfl ?_
              exact hP6 (v4_6, v5_6 + 1, μ_6) rfl
            · replace h := of_f c99 h
              refine u_aload_n (pc := 102) hC dX2_gives_102 rfl 1 rfl ?_
              refine g_RX2_15 (pc := 103) hC hk0 dX2_gives_103 ?_
              refine u_iload (pc := 106) hC dX2_gives_106 5 rfl ?_
              refine u_iconst (pc := 108) hC ic_1 dX2_gives_108 ?_
              refine u_isub (pc := 109) hC dX2_gives_109 ?_
              refine u_aload_n (pc := 110) hC dX2_gives_110 rfl 1 rfl ?_
              refine g_RX2_15 (pc := 111) hC hk0 dX2_gives_111 ?_
              refine u_iload (pc := 114) hC dX2_gives_114 5 rfl ?_
              refine u_iconst (pc := 116) hC ic_1 dX2_gives_116 ?_
              refine u_isub (pc := 117) hC dX2_gives_117 ?_
              obtain ⟨b118, h⟩ := of_gd h
              refine u_iald (pc := 118) hC (rs_2_1 hk0) 50 (rn_2_1 hk0) b118 dX2_gives_118 ?_
              refine u_if_ne (pc := 119) hC (tgt := 126) dX2_gives_119 (by decide) (fun c119 => ?_) (fun c119 => ?_)
              · replace h := of_t c119 h
                refine u_iconst (pc := 126) hC ic_0 dX2_gives_126 ?_
                refine u_sub [1, 2, 3, 4, 5, 6] rfl ?_
                exact jb127 μ_6 v4_6 v5_6 (rf k0 1) (rs_2_1 hk0) (v4_6 - (1 : Int32)) (0 : Int32) h
              · replace h := of_f (fun q => q c119) h
                refine u_iconst (pc := 122) hC ic_1 dX2_gives_122 ?_
                refine u_goto (pc := 123) hC 127 dX2_gives_123 (by decide) ?_
                refine u_sub [1, 2, 3, 4, 5, 6] rfl ?_
                exact jb127 μ_6 v4_6 v5_6 (rf k0 1) (rs_2_1 hk0) (v4_6 - (1 : Int32)) (1 : Int32) h
        · replace h := of_f c35 h
          refine u_iload (pc := 38) hC dX2_gives_38 5 rfl ?_
          refine u_bipush (pc := 40) hC bc_50 dX2_gives_40 ?_
          refine u_icmp_ge (pc := 42) hC (tgt := 171) dX2_gives_42 (by decide) (fun c42 => ?_) (fun c42 => ?_)
          · replace h := of_t c42 h
            refine u_iinc (pc := 171) hC dX2_gives_171 6 rfl (v5_6 + 1) rfl [(5, .int (v5_6 + 1)), (6, .int (rd μ_6 (rf k0 0) v5_6.toNatClampNeg)), (0, .ref (gad (cG C) k0)), (1, .int a1), (2, .int a2), (3, .int a3), (4, .int v4_6)] (by decide) rfl ?_
            refine u_goto (pc := 174) hC 6 dX2_gives_174 (by decide) ?_
            obtain rfl := Option.some.inj h
            refine u_sub [2, 3, 4, 5, 6, 0] rfl ?_
            exact hP6 (v4_6, v5_6 + 1, μ_6) rfl
          · replace h := of_f c42 h
            refine u_aload_n (pc := 45) hC dX2_gives_45 rfl 1 rfl ?_
            refine g_RX2_15 (pc := 46) hC hk0 dX2_gives_46 ?_
            refine u_iload (pc := 49) hC dX2_gives_49 5 rfl ?_
            refine u_iload (pc := 51) hC dX2_gives_51 0 rfl ?_
            refine u_if_lt (pc := 53) hC (tgt := 61) dX2_gives_53 (by decide) (fun c53 => ?_) (fun c53 => ?_)
            · replace h := of_t c53 h
              refine u_iload (pc := 61) hC dX2_gives_61 0 rfl ?_
              refine u_iconst (pc := 63) hC ic_m1 dX2_gives_63 ?_
              refine u_icmp_ne (pc := 64) hC (tgt := 71) dX2_gives_64 (by decide) (fun c64 => ?_) (fun c64 => ?_)
              · replace h := of_t c64 h
                refine u_iload (pc := 71) hC dX2_gives_71 0 rfl ?_
                refine u_bipush (pc := 73) hC bc_m2 dX2_gives_73 ?_
                refine u_icmp_ne (pc := 75) hC (tgt := 82) dX2_gives_75 (by decide) (fun c75 => ?_) (fun c75 => ?_)
                · replace h := of_t c75 h
                  refine u_iload_n (pc := 82) hC dX2_gives_82 rfl 4 rfl ?_
                  refine u_sub [1, 2, 3, 4, 5, 6] rfl ?_
                  exact jb83 μ_6 v4_6 v5_6 (rf k0 1) (rs_2_1 hk0) v4_6 a3 h
                · replace h := of_f (fun q => q c75) h
                  refine u_iload_n (pc := 78) hC dX2_gives_78 rfl 3 rfl ?_
                  refine u_goto (pc := 79) hC 83 dX2_gives_79 (by decide) ?_
                  refine u_sub [1, 2, 3, 4, 5, 6] rfl ?_
                  exact jb83 μ_6 v4_6 v5_6 (rf k0 1) (rs_2_1 hk0) v4_6 a2 h
              · replace h := of_f (fun q => q c64) h
                refine u_iload_n (pc := 67) hC dX2_gives_67 rfl 2 rfl ?_
                refine u_goto (pc := 68) hC 83 dX2_gives_68 (by decide) ?_
                refine u_sub [1, 2, 3, 4, 5, 6] rfl ?_
                exact jb83 μ_6 v4_6 v5_6 (rf k0 1) (rs_2_1 hk0) v4_6 a1 h
            · replace h := of_f c53 h
              refine u_iload (pc := 56) hC dX2_gives_56 0 rfl ?_
              refine u_goto (pc := 58) hC 83 dX2_gives_58 (by decide) ?_
              refine u_sub [1, 2, 3, 4, 5, 6] rfl ?_
              exact jb83 μ_6 v4_6 v5_6 (rf k0 1) (rs_2_1 hk0) v4_6 (rd μ_6 (rf k0 0) v5_6.toNatClampNeg) h
  unfold f_X2_gives at h
  refine u_iconst (pc := 0) hC ic_0 dX2_gives_0 ?_
  refine u_istore (pc := 1) hC dX2_gives_1 [(4, .int (0 : Int32)), (0, .ref (gad (cG C) k0)), (1, .int a1), (2, .int a2), (3, .int a3)] (by decide) rfl ?_
  refine u_iconst (pc := 3) hC ic_0 dX2_gives_3 ?_
  refine u_istore (pc := 4) hC dX2_gives_4 [(5, .int (0 : Int32)), (4, .int (0 : Int32)), (0, .ref (gad (cG C) k0)), (1, .int a1), (2, .int a2), (3, .int a3)] (by decide) rfl ?_
  obtain ⟨e6, l6, h⟩ := of_bd h
  refine u_sub [2, 3, 4, 5, 1, 0] rfl ?_
  refine lw6  e6 ((0 : Int32), (0 : Int32), μ) l6 ?_
  show UW C 7 e6.2 177 [(0, .ref (gad (cG C) k0)), (4, .int e6.1)] []
  exact jb177 e6.2 e6.1 h
set_option maxHeartbeats 4000000 in
set_option maxRecDepth 100000 in
theorem c_X3_add {l : Launch} {G : GG} {d : Nat} (hd : 0 ≤ d) {μ : Mem} {k0 : Nat} (hk0 : isC 3 k0) {a1 : Int32} {a2 : Int32} {a3 : Int32} {r : Int32 × Mem} (h : f_X3_add μ k0 a1 a2 a3 = some r) : CT l yX3_add cX3_add 6 (some .int) d G [.ref (gad G k0), .int a1, .int a2, .int a3] μ (RK (some (.int r.1)) r.2) := by
  refine ct_start (by decide) (Nat.le_of_ble_eq_true rfl) (fun C hl1 hG1 hC hQ hr => ?_)
  subst hl1; subst hG1
  have hC : CxOK C cX3_add 6 RX3 d := hC
  show UW C 6 μ 0 [(0, .ref (gad (cG C) k0)), (1, .int a1), (2, .int a2), (3, .int a3)] []
  have jb89 : ∀ (μ_89 : Mem) (v4_89 : Int32) (v5_89 : Int32), f_X3_add_j89 μ_89 k0 a1 a2 a3 v4_89 v5_89 = some r → UW C 6 μ_89 89 [(0, .ref (gad (cG C) k0)), (1, .int a1), (2, .int a2), (3, .int a3), (4, .int v4_89), (5, .int v5_89)] [] := by
    intro μ_89 v4_89 v5_89 h
    unfold f_X3_add_j89 at h
    refine u_aload_n (pc := 89) hC dX3_add_89 rfl 0 rfl ?_
    refine g_RX3_9 (pc := 90) hC hk0 dX3_add_90 ?_
    refine u_iload (pc := 93) hC dX3_add_93 5 rfl ?_
    refine u_iload_n (pc := 95) hC dX3_add_95 rfl 1 rfl ?_
    obtain ⟨b96, h⟩ := of_gd h
    obtain ⟨m96, q96, h⟩ := of_bd h
    refine u_iast (pc := 96) hC (rs_3_0 hk0) 12 (rn_3_0 hk0) b96 dX3_add_96 (Option.some.inj q96) ?_
    refine u_aload_n (pc := 97) hC dX3_add_97 rfl 0 rfl ?_
    refine g_RX3_15 (pc := 98) hC hk0 dX3_add_98 ?_
    refine u_iload (pc := 101) hC dX3_add_101 5 rfl ?_
    refine u_iload_n (pc := 103) hC dX3_add_103 rfl 2 rfl ?_
    obtain ⟨b104, h⟩ := of_gd h
    obtain ⟨m104, q104, h⟩ := of_bd h
    refine u_iast (pc := 104) hC (rs_3_1 hk0) 12 (rn_3_1 hk0) b104 dX3_add_104 (Option.some.inj q104) ?_
    refine u_aload_n (pc := 105) hC dX3_add_105 rfl 0 rfl ?_
    refine g_RX3_18 (pc := 106) hC hk0 dX3_add_106 ?_
    refine u_iload (pc := 109) hC dX3_add_109 5 rfl ?_
    refine u_iload_n (pc := 111) hC dX3_add_111 rfl 3 rfl ?_
    obtain ⟨b112, h⟩ := of_gd h
    obtain ⟨m112, q112, h⟩ := of_bd h
    refine u_iast (pc := 112) hC (rs_3_2 hk0) 12 (rn_3_2 hk0) b112 dX3_add_112 (Option.some.inj q112) ?_
    refine u_aload_n (pc := 113) hC dX3_add_113 rfl 0 rfl ?_
    refine u_dup (pc := 114) hC rfl dX3_add_114 ?_
    refine g_RX3_21 (pc := 115) hC hk0 dX3_add_115 ?_
    refine u_iconst (pc := 118) hC ic_1 dX3_add_118 ?_
    refine u_iadd (pc := 119) hC dX3_add_119 ?_
    obtain ⟨m120, q120, h⟩ := of_bd h
    refine p_RX3_21 (pc := 120) hC hk0 dX3_add_120 (Option.some.inj q120) ?_
    refine u_iload (pc := 123) hC dX3_add_123 4 rfl ?_
    obtain rfl := Option.some.inj h
    exact u_iret (pc := 125) hC hQ hr ⟨rfl, rfl⟩ dX3_add_125
  have lw17 : ∀ (v4_17 : Int32) (e : (Int32 × Mem)) (s : Int32 × Mem), lp (fun s => f_X3_add_l17 k0 a1 a2 a3 v4_17 s.1 s.2) FU s = some e → (fun (e : (Int32 × Mem)) => UW C 6 e.2 89 [(0, .ref (gad (cG C) k0)), (1, .int a1), (2, .int a2), (3, .int a3), (4, .int v4_17), (5, .int e.1)] []) e → UW C 6 s.2 17 [(0, .ref (gad (cG C) k0)), (1, .int a1), (2, .int a2), (3, .int a3), (4, .int v4_17), (5, .int s.1)] [] := by
    intro v4_17 e s hl hE0
    refine @lp_walk (Int32 × Mem) (Int32 × Mem) (fun s => f_X3_add_l17 k0 a1 a2 a3 v4_17 s.1 s.2) (fun s => UW C 6 s.2 17 [(0, .ref (gad (cG C) k0)), (1, .int a1), (2, .int a2), (3, .int a3), (4, .int v4_17), (5, .int s.1)] []) (fun (e : (Int32 × Mem)) => UW C 6 e.2 89 [(0, .ref (gad (cG C) k0)), (1, .int a1), (2, .int a2), (3, .int a3), (4, .int v4_17), (5, .int e.1)] []) (fun s y17 h hP17 hE17 => ?_) FU s e hl hE0
    obtain ⟨v5_17, μ_17⟩ := s
    replace h : f_X3_add_l17 k0 a1 a2 a3 v4_17 v5_17 μ_17 = some y17 := h
    show UW C 6 μ_17 17 [(0, .ref (gad (cG C) k0)), (1, .int a1), (2, .int a2), (3, .int a3), (4, .int v4_17), (5, .int v5_17)] []
    unfold f_X3_add_l17 at h
    refine u_iload (pc := 17) hC dX3_add_17 5 rfl ?_
    refine u_if_le (pc := 19) hC (tgt := 89) dX3_add_19 (by decide) (fun c19 => ?_) (fun c19 => ?_)
    · replace h := of_t c19 h
      obtain rfl := Option.some.inj h
      exact hE17 (v5_17, μ_17) rfl
    · replace h := of_f c19 h
      refine u_aload_n (pc := 22) hC dX3_add_22 rfl 0 rfl ?_
      refine g_RX3_9 (pc := 23) hC hk0 dX3_add_23 ?_
      refine u_iload (pc := 26) hC dX3_add_26 5 rfl ?_
      refine u_iconst (pc := 28) hC ic_1 dX3_add_28 ?_
      refine u_isub (pc := 29) hC dX3_add_29 ?_
      obtain ⟨b30, h⟩ := of_gd h
      refine u_iald (pc := 30) hC (rs_3_0 hk0) 12 (rn_3_0 hk0) b30 dX3_add_30 ?_
      refine u_iload_n (pc := 31) hC dX3_add_31 rfl 1 rfl ?_
      refine u_icmp_le (pc := 32) hC (tgt := 89) dX3_add_32 (by decide) (fun c32 => ?_) (fun c32 => ?_)
      · replace h := of_t c32 h
        obtain rfl := Option.some.inj h
        exact hE17 (v5_17, μ_17) rfl
      · replace h := of_f c32 h
        refine u_aload_n (pc := 35) hC dX3_add_35 rfl 0 rfl ?_
        refine g_RX3_9 (pc := 36) hC hk0 dX3_add_36 ?_
        refine u_iload (pc := 39) hC dX3_add_39 5 rfl ?_
        refine u_aload_n (pc := 41) hC dX3_add_41 rfl 0 rfl ?_
        refine g_RX3_9 (pc := 42) hC hk0 dX3_add_42 ?_
        refine u_iload (pc := 45) hC dX3_add_45 5 rfl ?_
        refine u_iconst (pc := 47) hC ic_1 dX3_add_47 ?_
        refine u_isub (pc := 48) hC dX3_add_48 ?_
        obtain ⟨b49, h⟩ := of_gd h
        refine u_iald (pc := 49) hC (rs_3_0 hk0) 12 (rn_3_0 hk0) b49 dX3_add_49 ?_
        obtain ⟨b50, h⟩ := of_gd h
        obtain ⟨m50, q50, h⟩ := of_bd h
        refine u_iast (pc := 50) hC (rs_3_0 hk0) 12 (rn_3_0 hk0) b50 dX3_add_50 (Option.some.inj q50) ?_
        refine u_aload_n (pc := 51) hC dX3_add_51 rfl 0 rfl ?_
        refine g_RX3_15 (pc := 52) hC hk0 dX3_add_52 ?_
        refine u_iload (pc := 55) hC dX3_add_55 5 rfl ?_
        refine u_aload_n (pc := 57) hC dX3_add_57 rfl 0 rfl ?_
        refine g_RX3_15 (pc := 58) hC hk0 dX3_add_58 ?_
        refine u_iload (pc := 61) hC dX3_add_61 5 rfl ?_
        refine u_iconst (pc := 63) hC ic_1 dX3_add_63 ?_
        refine u_isub (pc := 64) hC dX3_add_64 ?_
        obtain ⟨b65, h⟩ := of_gd h
        refine u_iald (pc := 65) hC (rs_3_1 hk0) 12 (rn_3_1 hk0) b65 dX3_add_65 ?_
        obtain ⟨b66, h⟩ := of_gd h
        obtain ⟨m66, q66, h⟩ := of_bd h
        refine u_iast (pc := 66) hC (rs_3_1 hk0) 12 (rn_3_1 hk0) b66 dX3_add_66 (Option.some.inj q66) ?_
        refine u_aload_n (pc := 67) hC dX3_add_67 rfl 0 rfl ?_
        refine g_RX3_18 (pc := 68) hC hk0 dX3_add_68 ?_
        refine u_iload (pc := 71) hC dX3_add_71 5 rfl ?_
        refine u_aload_n (pc := 73) hC dX3_add_73 rfl 0 rfl ?_
        refine g_RX3_18 (pc := 74) hC hk0 dX3_add_74 ?_
        refine u_iload (pc := 77) hC dX3_add_77 5 rfl ?_
        refine u_iconst (pc := 79) hC ic_1 dX3_add_79 ?_
        refine u_isub (pc := 80) hC dX3_add_80 ?_
        obtain ⟨b81, h⟩ := of_gd h
        refine u_iald (pc := 81) hC (rs_3_2 hk0) 12 (rn_3_2 hk0) b81 dX3_add_81 ?_
        obtain ⟨b82, h⟩ := of_gd h
        obtain ⟨m82, q82, h⟩ := of_bd h
        refine u_iast (pc := 82) hC (rs_3_2 hk0) 12 (rn_3_2 hk0) b82 dX3_add_82 (Option.some.inj q82) ?_
        refine u_iinc (pc := 83) hC dX3_add_83 5 rfl (v5_17 + (-1 : Int32)) rfl [(5, .int (v5_17 + (-1 : Int32))), (0, .ref (gad (cG C) k0)), (1, .int a1), (2, .int a2), (3, .int a3), (4, .int v4_17)] (by decide) rfl ?_
        refine u_goto (pc := 86) hC 17 dX3_add_86 (by decide) ?_
        obtain rfl := Option.some.inj h
        refine u_sub [1, 2, 3, 4, 5, 0] rfl ?_
        exact hP17 (v5_17 + (-1 : Int32), m82) rfl
  unfold f_X3_add at h
  refine u_aload_n (pc := 0) hC dX3_add_0 rfl 0 rfl ?_
  refine g_RX3_21 (pc := 1) hC hk0 dX3_add_1 ?_
  refine u_istore (pc := 4) hC dX3_add_4 [(4, .int (rd μ k0 3)), (0, .ref (gad (cG C) k0)), (1, .int a1), (2, .int a2), (3, .int a3)] (by decide) rfl ?_
  refine u_iload (pc := 6) hC dX3_add_6 0 rfl ?_
  refine u_bipush (pc := 8) hC bc_12 dX3_add_8 ?_
  refine u_icmp_ge (pc := 10) hC (tgt := 123) dX3_add_10 (by decide) (fun c10 => ?_) (fun c10 => ?_)
  · replace h := of_t c10 h
    refine u_iload (pc := 123) hC dX3_add_123 0 rfl ?_
    obtain rfl := Option.some.inj h
    exact u_iret (pc := 125) hC hQ hr ⟨rfl, rfl⟩ dX3_add_125
  · replace h := of_f c10 h
    refine u_iload (pc := 13) hC dX3_add_13 0 rfl ?_
    refine u_istore (pc := 15) hC dX3_add_15 [(5, .int (rd μ k0 3)), (4, .int (rd μ k0 3)), (0, .ref (gad (cG C) k0)), (1, .int a1), (2, .int a2), (3, .int a3)] (by decide) rfl ?_
    obtain ⟨e17, l17, h⟩ := of_bd h
    refine u_sub [2, 3, 4, 5, 1, 0] rfl ?_
    refine lw17 (rd μ k0 3) e17 (rd μ k0 3, μ) l17 ?_
    show UW C 6 e17.2 89 [(0, .ref (gad (cG C) k0)), (1, .int a1), (2, .int a2), (3, .int a3), (4, .int (rd μ k0 3)), (5, .int e17.1)] []
    exact jb89 e17.2 (rd μ k0 3) e17.1 h
set_option maxHeartbeats 4000000 in
set_option maxRecDepth 100000 in
theorem c_X3_copyFrom {l : Launch} {G : GG} {d : Nat} (hd : 0 ≤ d) {μ : Mem} {k0 : Nat} (hk0 : isC 3 k0) {k1 : Nat} (hk1 : isC 3 k1) {r : Mem} (h : f_X3_copyFrom μ k0 k1 = some r) : CT l yX3_copyFrom cX3_copyFrom 2 none d G [.ref (gad G k0), .ref (gad G k1)] μ (RK none r) := by
  refine ct_start (by decide) (Nat.le_of_ble_eq_true rfl) (fun C hl1 hG1 hC hQ hr => ?_)
  subst hl1; subst hG1
  have hC : CxOK C cX3_copyFrom 2 RX3 d := hC
  show UW C 2 μ 0 [(0, .ref (gad (cG C) k0)), (1, .ref (gad (cG C) k1))] []
  unfold f_X3_copyFrom at h
  refine u_aload_n (pc := 0) hC dX3_copyFrom_0 rfl 1 rfl ?_
  refine g_RX3_9 (pc := 1) hC hk1 dX3_copyFrom_1 ?_
  refine u_iconst (pc := 4) hC ic_0 dX3_copyFrom_4 ?_
  refine u_aload_n (pc := 5) hC dX3_copyFrom_5 rfl 0 rfl ?_
  refine g_RX3_9 (pc := 6) hC hk0 dX3_copyFrom_6 ?_
  refine u_iconst (pc := 9) hC ic_0 dX3_copyFrom_9 ?_
  refine u_bipush (pc := 10) hC bc_12 dX3_copyFrom_10 ?_
  obtain ⟨b12, h⟩ := of_gd h
  obtain ⟨m12, q12, h⟩ := of_bd h
  refine u_acopy (pc := 12) hC mL_RX3_25 mN_O_arraycopy mK_O_arraycopy mI_RJ10 (rs_3_0 hk1) (rs_3_0 hk0) b12 (Nat.le_of_ble_eq_true rfl) dX3_copyFrom_12 (Option.some.inj q12) ?_
  refine u_aload_n (pc := 15) hC dX3_copyFrom_15 rfl 1 rfl ?_
  refine g_RX3_15 (pc := 16) hC hk1 dX3_copyFrom_16 ?_
  refine u_iconst (pc := 19) hC ic_0 dX3_copyFrom_19 ?_
  refine u_aload_n (pc := 20) hC dX3_copyFrom_20 rfl 0 rfl ?_
  refine g_RX3_15 (pc := 21) hC hk0 dX3_copyFrom_21 ?_
  refine u_iconst (pc := 24) hC ic_0 dX3_copyFrom_24 ?_
  refine u_bipush (pc := 25) hC bc_12 dX3_copyFrom_25 ?_
  obtain ⟨b27, h⟩ := of_gd h
  obtain ⟨m27, q27, h⟩ := of_bd h
  refine u_acopy (pc := 27) hC mL_RX3_25 mN_O_arraycopy mK_O_arraycopy mI_RJ10 (rs_3_1 hk1) (rs_3_1 hk0) b27 (Nat.le_of_ble_eq_true rfl) dX3_copyFrom_27 (Option.some.inj q27) ?_
  refine u_aload_n (pc := 30) hC dX3_copyFrom_30 rfl 1 rfl ?_
  refine g_RX3_18 (pc := 31) hC hk1 dX3_copyFrom_31 ?_
  refine u_iconst (pc := 34) hC ic_0 dX3_copyFrom_34 ?_
  refine u_aload_n (pc := 35) hC dX3_copyFrom_35 rfl 0 rfl ?_
  refine g_RX3_18 (pc := 36) hC hk0 dX3_copyFrom_36 ?_
  refine u_iconst (pc := 39) hC ic_0 dX3_copyFrom_39 ?_
  refine u_bipush (pc := 40) hC bc_12 dX3_copyFrom_40 ?_
  obtain ⟨b42, h⟩ := of_gd h
  obtain ⟨m42, q42, h⟩ := of_bd h
  refine u_acopy (pc := 42) hC mL_RX3_25 mN_O_arraycopy mK_O_arraycopy mI_RJ10 (rs_3_2 hk1) (rs_3_2 hk0) b42 (Nat.le_of_ble_eq_true rfl) dX3_copyFrom_42 (Option.some.inj q42) ?_
  refine u_aload_n (pc := 45) hC dX3_copyFrom_45 rfl 0 rfl ?_
  refine u_aload_n (pc := 46) hC dX3_copyFrom_46 rfl 1 rfl ?_
  refine g_RX3_21 (pc := 47) hC hk1 dX3_copyFrom_47 ?_
  obtain ⟨m50, q50, h⟩ := of_bd h
  refine p_RX3_21 (pc := 50) hC hk0 dX3_copyFrom_50 (Option.some.inj q50) ?_
  obtain rfl := Option.some.inj h
  exact u_vret (pc := 53) hC hQ hr ⟨rfl, rfl⟩ dX3_copyFrom_53
set_option maxHeartbeats 4000000 in
set_option maxRecDepth 100000 in
theorem c_X7_at {l : Launch} {G : GG} {d : Nat} (hd : 0 ≤ d) {μ : Mem} {k0 : Nat} (hk0 : isC 7 k0) {a1 : Int32} {r : Int32} (h : f_X7_at μ k0 a1 = some r) : CT l yX7_at cX7_at 2 (some .int) d G [.ref (gad G k0), .int a1] μ (RK (some (.int r)) μ) := by
  refine ct_start (by decide) (Nat.le_of_ble_eq_true rfl) (fun C hl1 hG1 hC hQ hr => ?_)
  subst hl1; subst hG1
  have hC : CxOK C cX7_at 2 RX7 d := hC
  show UW C 2 μ 0 [(0, .ref (gad (cG C) k0)), (1, .int a1)] []
  unfold f_X7_at at h
  refine u_iload_n (pc := 0) hC dX7_at_0 rfl 1 rfl ?_
  refine u_if_lt (pc := 1) hC (tgt := 21) dX7_at_1 (by decide) (fun c1 => ?_) (fun c1 => ?_)
  · replace h := of_t c1 h
    refine u_iconst (pc := 21) hC ic_m1 dX7_at_21 ?_
    obtain rfl := Option.some.inj h
    exact u_iret (pc := 22) hC hQ hr ⟨rfl, rfl⟩ dX7_at_22
  · replace h := of_f c1 h
    refine u_iload_n (pc := 4) hC dX7_at_4 rfl 1 rfl ?_
    refine u_aload_n (pc := 5) hC dX7_at_5 rfl 0 rfl ?_
    refine g_RX7_15 (pc := 6) hC hk0 dX7_at_6 ?_
    refine u_icmp_ge (pc := 9) hC (tgt := 21) dX7_at_9 (by decide) (fun c9 => ?_) (fun c9 => ?_)
    · replace h := of_t c9 h
      refine u_iconst (pc := 21) hC ic_m1 dX7_at_21 ?_
      obtain rfl := Option.some.inj h
      exact u_iret (pc := 22) hC hQ hr ⟨rfl, rfl⟩ dX7_at_22
    · replace h := of_f c9 h
      refine u_aload_n (pc := 12) hC dX7_at_12 rfl 0 rfl ?_
      refine g_RX7_9 (pc := 13) hC hk0 dX7_at_13 ?_
      refine u_iload_n (pc := 16) hC dX7_at_16 rfl 1 rfl ?_
      obtain ⟨b17, h⟩ := of_gd h
      refine u_iald (pc := 17) hC (rs_7_0 hk0) 50 (rn_7_0 hk0) b17 dX7_at_17 ?_
      refine u_goto (pc := 18) hC 22 dX7_at_18 (by decide) ?_
      obtain rfl := Option.some.inj h
      exact u_iret (pc := 22) hC hQ hr ⟨rfl, rfl⟩ dX7_at_22
set_option maxHeartbeats 4000000 in
set_option maxRecDepth 100000 in
theorem c_X4_isDigit {l : Launch} {G : GG} {d : Nat} (hd : 0 ≤ d) {μ : Mem} {a0 : Int32} {r : Int32} (h : f_X4_isDigit a0 = some r) : CT l yX4_isDigit cX4_isDigit 1 (some .boolean) d G [.int a0] μ (RK (some (.int r)) μ) := by
  refine ct_start (by decide) (Nat.le_of_ble_eq_true rfl) (fun C hl1 hG1 hC hQ hr => ?_)
  subst hl1; subst hG1
  have hC : CxOK C cX4_isDigit 1 RX4 d := hC
  show UW C 1 μ 0 [(0, .int a0)] []
  unfold f_X4_isDigit at h
  refine u_iload_n (pc := 0) hC dX4_isDigit_0 rfl 0 rfl ?_
  refine u_bipush (pc := 1) hC bc_48 dX4_isDigit_1 ?_
  refine u_icmp_lt (pc := 3) hC (tgt := 16) dX4_isDigit_3 (by decide) (fun c3 => ?_) (fun c3 => ?_)
  · replace h := of_t c3 h
    refine u_iconst (pc := 16) hC ic_0 dX4_isDigit_16 ?_
    obtain rfl := Option.some.inj h
    exact u_zret (pc := 17) hC hQ hr (by decide) ⟨rfl, rfl⟩ dX4_isDigit_17
  · replace h := of_f c3 h
    refine u_iload_n (pc := 6) hC dX4_isDigit_6 rfl 0 rfl ?_
    refine u_bipush (pc := 7) hC bc_57 dX4_isDigit_7 ?_
    refine u_icmp_gt (pc := 9) hC (tgt := 16) dX4_isDigit_9 (by decide) (fun c9 => ?_) (fun c9 => ?_)
    · replace h := of_t c9 h
      refine u_iconst (pc := 16) hC ic_0 dX4_isDigit_16 ?_
      obtain rfl := Option.some.inj h
      exact u_zret (pc := 17) hC hQ hr (by decide) ⟨rfl, rfl⟩ dX4_isDigit_17
    · replace h := of_f c9 h
      refine u_iconst (pc := 12) hC ic_1 dX4_isDigit_12 ?_
      refine u_goto (pc := 13) hC 17 dX4_isDigit_13 (by decide) ?_
      obtain rfl := Option.some.inj h
      exact u_zret (pc := 17) hC hQ hr (by decide) ⟨rfl, rfl⟩ dX4_isDigit_17
set_option maxHeartbeats 4000000 in
set_option maxRecDepth 100000 in
theorem c_X4_add {l : Launch} {G : GG} {d : Nat} (hd : 0 ≤ d) {μ : Mem} {k0 : Nat} (hk0 : isC 4 k0) {a1 : Int32} {r : Mem} (h : f_X4_add μ k0 a1 = some r) : CT l yX4_add cX4_add 2 none d G [.ref (gad G k0), .int a1] μ (RK none r) := by
  refine ct_start (by decide) (Nat.le_of_ble_eq_true rfl) (fun C hl1 hG1 hC hQ hr => ?_)
  subst hl1; subst hG1
  have hC : CxOK C cX4_add 2 RX4 d := hC
  show UW C 2 μ 0 [(0, .ref (gad (cG C) k0)), (1, .int a1)] []
  unfold f_X4_add at h
  refine u_aload_n (pc := 0) hC dX4_add_0 rfl 0 rfl ?_
  refine g_RX4_26 (pc := 1) hC hk0 dX4_add_1 ?_
  refine u_bipush (pc := 4) hC bc_50 dX4_add_4 ?_
  refine u_icmp_ge (pc := 6) hC (tgt := 29) dX4_add_6 (by decide) (fun c6 => ?_) (fun c6 => ?_)
  · replace h := of_t c6 h
    obtain rfl := Option.some.inj h
    exact u_vret (pc := 29) hC hQ hr ⟨rfl, rfl⟩ dX4_add_29
  · replace h := of_f c6 h
    refine u_aload_n (pc := 9) hC dX4_add_9 rfl 0 rfl ?_
    refine g_RX4_9 (pc := 10) hC hk0 dX4_add_10 ?_
    refine u_aload_n (pc := 13) hC dX4_add_13 rfl 0 rfl ?_
    refine g_RX4_26 (pc := 14) hC hk0 dX4_add_14 ?_
    refine u_iload_n (pc := 17) hC dX4_add_17 rfl 1 rfl ?_
    obtain ⟨b18, h⟩ := of_gd h
    obtain ⟨m18, q18, h⟩ := of_bd h
    refine u_iast (pc := 18) hC (rs_4_0 hk0) 50 (rn_4_0 hk0) b18 dX4_add_18 (Option.some.inj q18) ?_
    refine u_aload_n (pc := 19) hC dX4_add_19 rfl 0 rfl ?_
    refine u_dup (pc := 20) hC rfl dX4_add_20 ?_
    refine g_RX4_26 (pc := 21) hC hk0 dX4_add_21 ?_
    refine u_iconst (pc := 24) hC ic_1 dX4_add_24 ?_
    refine u_iadd (pc := 25) hC dX4_add_25 ?_
    obtain ⟨m26, q26, h⟩ := of_bd h
    refine p_RX4_26 (pc := 26) hC hk0 dX4_add_26 (Option.some.inj q26) ?_
    obtain rfl := Option.some.inj h
    exact u_vret (pc := 29) hC hQ hr ⟨rfl, rfl⟩ dX4_add_29
set_option maxHeartbeats 4000000 in
set_option maxRecDepth 100000 in
theorem c_X4_readNumber {l : Launch} {G : GG} {d : Nat} (hd : 1 ≤ d) {μ : Mem} {k0 : Nat} (hk0 : isC 4 k0) {r : Mem} (h : f_X4_readNumber μ k0 = some r) : CT l yX4_readNumber cX4_readNumber 3 none d G [.ref (gad G k0)] μ (RK none r) := by
  refine ct_start (by decide) (Nat.le_of_ble_eq_true rfl) (fun C hl1 hG1 hC hQ hr => ?_)
  subst hl1; subst hG1
  have hC : CxOK C cX4_readNumber 3 RX4 d := hC
  show UW C 3 μ 0 [(0, .ref (gad (cG C) k0))] []
  have jb62 : ∀ (μ_62 : Mem) (v1_62 : Int32), f_X4_readNumber_j62 μ_62 k0 v1_62 = some r → UW C 3 μ_62 62 [(0, .ref (gad (cG C) k0)), (1, .int v1_62)] [] := by
    intro μ_62 v1_62 h
    unfold f_X4_readNumber_j62 at h
    refine u_aload_n (pc := 62) hC dX4_readNumber_62 rfl 0 rfl ?_
    refine u_iload_n (pc := 63) hC dX4_readNumber_63 rfl 1 rfl ?_
    obtain ⟨μ64, q64, h⟩ := of_bd h
    refine k_RX4_52 (pc := 64) hC (av := [.int v1_62]) (rest := []) (c_X4_add (d := d - 1) (by omega) hk0 q64) (by omega) (Nat.le_of_ble_eq_true rfl) hk0 rfl rfl dX4_readNumber_64 ?_
    obtain rfl := Option.some.inj h
    exact u_vret (pc := 67) hC hQ hr ⟨rfl, rfl⟩ dX4_readNumber_67
  have lw4 : ∀ (e : (Int32 × Mem)) (s : Int32 × Int32 × Mem), lp (fun s => f_X4_readNumber_l4 k0 s.1 s.2.1 s.2.2) FU s = some e → (fun (e : (Int32 × Mem)) => UW C 3 e.2 62 [(0, .ref (gad (cG C) k0)), (1, .int e.1)] []) e → UW C 3 s.2.2 4 [(0, .ref (gad (cG C) k0)), (1, .int s.1), (2, .int s.2.1)] [] := by
    intro e s hl hE0
    refine @lp_walk (Int32 × Int32 × Mem) (Int32 × Mem) (fun s => f_X4_readNumber_l4 k0 s.1 s.2.1 s.2.2) (fun s => UW C 3 s.2.2 4 [(0, .ref (gad (cG C) k0)), (1, .int s.1), (2, .int s.2.1)] []) (fun (e : (Int32 × Mem)) => UW C 3 e.2 62 [(0, .ref (gad (cG C) k0)), (1, .int e.1)] []) (fun s y4 h hP4 hE4 => ?_) FU s e hl hE0
    obtain ⟨v1_4, v2_4, μ_4⟩ := s
    replace h : f_X4_readNumber_l4 k0 v1_4 v2_4 μ_4 = some y4 := h
    show UW C 3 μ_4 4 [(0, .ref (gad (cG C) k0)), (1, .int v1_4), (2, .int v2_4)] []
    unfold f_X4_readNumber_l4 at h
    refine u_iload_n (pc := 4) hC dX4_readNumber_4 rfl 2 rfl ?_
    refine u_iconst (pc := 5) hC ic_4 dX4_readNumber_5 ?_
    refine u_icmp_ge (pc := 6) hC (tgt := 62) dX4_readNumber_6 (by decide) (fun c6 => ?_) (fun c6 => ?_)
    · replace h := of_t c6 h
      obtain rfl := Option.some.inj h
      refine u_sub [0, 1] rfl ?_
      exact hE4 (v1_4, μ_4) rfl
    · replace h := of_f c6 h
      refine u_aload_n (pc := 9) hC dX4_readNumber_9 rfl 0 rfl ?_
      refine g_RX4_18 (pc := 10) hC hk0 dX4_readNumber_10 ?_
      obtain ⟨b10, h⟩ := of_gd h
      refine u_aload_n (pc := 13) hC dX4_readNumber_13 rfl 0 rfl ?_
      refine g_RX4_29 (pc := 14) hC hk0 dX4_readNumber_14 ?_
      obtain ⟨r17, q17, h⟩ := of_bd h
      refine k_RX4_45 (pc := 17) hC (av := [.int (rd μ_4 k0 4)]) (rest := []) (c_X7_at (d := d - 1) (by omega) (isT_C b10) q17) (by omega) (Nat.le_of_ble_eq_true rfl) (isT_C b10) rfl rfl dX4_readNumber_17 ?_
      obtain ⟨r20, q20, h⟩ := of_bd h
      refine k_RX4_55 (pc := 20) hC (av := [.int r17]) (rest := []) (c_X4_isDigit (d := d - 1) (by omega)  q20) (by omega) (Nat.le_of_ble_eq_true rfl) rfl rfl dX4_readNumber_20 ?_
      refine u_if_eq (pc := 23) hC (tgt := 62) dX4_readNumber_23 (by decide) (fun c23 => ?_) (fun c23 => ?_)
      · replace h := of_t c23 h
        obtain rfl := Option.some.inj h
        refine u_sub [0, 1] rfl ?_
        exact hE4 (v1_4, μ_4) rfl
      · replace h := of_f c23 h
        refine u_bipush (pc := 26) hC bc_10 dX4_readNumber_26 ?_
        refine u_iload_n (pc := 28) hC dX4_readNumber_28 rfl 1 rfl ?_
        refine u_imul (pc := 29) hC dX4_readNumber_29 ?_
        refine u_aload_n (pc := 30) hC dX4_readNumber_30 rfl 0 rfl ?_
        refine g_RX4_18 (pc := 31) hC hk0 dX4_readNumber_31 ?_
        obtain ⟨b31, h⟩ := of_gd h
        refine u_aload_n (pc := 34) hC dX4_readNumber_34 rfl 0 rfl ?_
        refine g_RX4_29 (pc := 35) hC hk0 dX4_readNumber_35 ?_
        obtain ⟨r38, q38, h⟩ := of_bd h
        refine k_RX4_45 (pc := 38) hC (av := [.int (rd μ_4 k0 4)]) (rest := [.int ((10 : Int32) * v1_4)]) (c_X7_at (d := d - 1) (by omega) (isT_C b31) q38) (by omega) (Nat.le_of_ble_eq_true rfl) (isT_C b31) rfl rfl dX4_readNumber_38 ?_
        refine u_iadd (pc := 41) hC dX4_readNumber_41 ?_
        refine u_bipush (pc := 42) hC bc_48 dX4_readNumber_42 ?_
        refine u_isub (pc := 44) hC dX4_readNumber_44 ?_
        refine u_istore_n (pc := 45) hC dX4_readNumber_45 rfl [(1, .int ((((10 : Int32) * v1_4) + r38) - (48 : Int32))), (0, .ref (gad (cG C) k0)), (2, .int v2_4)] (by decide) rfl ?_
        refine u_aload_n (pc := 46) hC dX4_readNumber_46 rfl 1 rfl ?_
        refine u_dup (pc := 47) hC rfl dX4_readNumber_47 ?_
        refine g_RX4_29 (pc := 48) hC hk0 dX4_readNumber_48 ?_
        refine u_iconst (pc := 51) hC ic_1 dX4_readNumber_51 ?_
        refine u_iadd (pc := 52) hC dX4_readNumber_52 ?_
        obtain ⟨m53, q53, h⟩ := of_bd h
        refine p_RX4_29 (pc := 53) hC hk0 dX4_readNumber_53 (Option.some.inj q53) ?_
        refine u_iinc (pc := 56) hC dX4_readNumber_56 2 rfl (v2_4 + 1) rfl [(2, .int (v2_4 + 1)), (1, .int ((((10 : Int32) * v1_4) + r38) - (48 : Int32))), (0, .ref (gad (cG C) k0))] (by decide) rfl ?_
        refine u_goto (pc := 59) hC 4 dX4_readNumber_59 (by decide) ?_
        obtain rfl := Option.some.inj h
        refine u_sub [2, 1, 0] rfl ?_
        exact hP4 ((((10 : Int32) * v1_4) + r38) - (48 : Int32), v2_4 + 1, m53) rfl
  unfold f_X4_readNumber at h
  refine u_iconst (pc := 0) hC ic_0 dX4_readNumber_0 ?_
  refine u_istore_n (pc := 1) hC dX4_readNumber_1 rfl [(1, .int (0 : Int32)), (0, .ref (gad (cG C) k0))] (by decide) rfl ?_
  refine u_iconst (pc := 2) hC ic_0 dX4_readNumber_2 ?_
  refine u_istore_n (pc := 3) hC dX4_readNumber_3 rfl [(2, .int (0 : Int32)), (1, .int (0 : Int32)), (0, .ref (gad (cG C) k0))] (by decide) rfl ?_
  obtain ⟨e4, l4, h⟩ := of_bd h
  refine u_sub [2, 1, 0] rfl ?_
  refine lw4  e4 ((0 : Int32), (0 : Int32), μ) l4 ?_
  show UW C 3 e4.2 62 [(0, .ref (gad (cG C) k0)), (1, .int e4.1)] []
  exact jb62 e4.2 e4.1 h
set_option maxHeartbeats 4000000 in
set_option maxRecDepth 100000 in
theorem c_X4_nameOf {l : Launch} {G : GG} {d : Nat} (hd : 0 ≤ d) {μ : Mem} {k0 : Nat} (hk0 : isC 4 k0) {a1 : Int32} {r : Int32} (h : f_X4_nameOf μ k0 a1 = some r) : CT l yX4_nameOf cX4_nameOf 2 (some .int) d G [.ref (gad G k0), .int a1] μ (RK (some (.int r)) μ) := by
  refine ct_start (by decide) (Nat.le_of_ble_eq_true rfl) (fun C hl1 hG1 hC hQ hr => ?_)
  subst hl1; subst hG1
  have hC : CxOK C cX4_nameOf 2 RX4 d := hC
  show UW C 2 μ 0 [(0, .ref (gad (cG C) k0)), (1, .int a1)] []
  unfold f_X4_nameOf at h
  refine u_iload_n (pc := 0) hC dX4_nameOf_0 rfl 1 rfl ?_
  by_cases c1_0 : a1 = 100
  · replace h := of_t c1_0 h
    refine u_lookEq (pc := 1) hC dX4_nameOf_1 (100 : Int32) c1_0 (off := 78) 79 (by decide) (by decide) (by decide) ?_
    refine u_aload_n (pc := 79) hC dX4_nameOf_79 rfl 0 rfl ?_
    refine g_RX4_22 (pc := 80) hC hk0 dX4_nameOf_80 ?_
    refine u_if_ne (pc := 83) hC (tgt := 91) dX4_nameOf_83 (by decide) (fun c83 => ?_) (fun c83 => ?_)
    · replace h := of_t c83 h
      refine u_iconst (pc := 91) hC ic_m1 dX4_nameOf_91 ?_
      obtain rfl := Option.some.inj h
      exact u_iret (pc := 92) hC hQ hr ⟨rfl, rfl⟩ dX4_nameOf_92
    · replace h := of_f (fun q => q c83) h
      refine u_bipush (pc := 86) hC bc_m3 dX4_nameOf_86 ?_
      refine u_goto (pc := 88) hC 92 dX4_nameOf_88 (by decide) ?_
      obtain rfl := Option.some.inj h
      exact u_iret (pc := 92) hC hQ hr ⟨rfl, rfl⟩ dX4_nameOf_92
  replace h := of_f c1_0 h
  by_cases c1_1 : a1 = 102
  · replace h := of_t c1_1 h
    refine u_lookEq (pc := 1) hC dX4_nameOf_1 (102 : Int32) c1_1 (off := 51) 52 (by decide) (by decide) (by decide) ?_
    refine u_aload_n (pc := 52) hC dX4_nameOf_52 rfl 0 rfl ?_
    refine g_RX4_22 (pc := 53) hC hk0 dX4_nameOf_53 ?_
    refine u_if_ne (pc := 56) hC (tgt := 63) dX4_nameOf_56 (by decide) (fun c56 => ?_) (fun c56 => ?_)
    · replace h := of_t c56 h
      refine u_iconst (pc := 63) hC ic_0 dX4_nameOf_63 ?_
      obtain rfl := Option.some.inj h
      exact u_iret (pc := 64) hC hQ hr ⟨rfl, rfl⟩ dX4_nameOf_64
    · replace h := of_f (fun q => q c56) h
      refine u_iconst (pc := 59) hC ic_m1 dX4_nameOf_59 ?_
      refine u_goto (pc := 60) hC 64 dX4_nameOf_60 (by decide) ?_
      obtain rfl := Option.some.inj h
      exact u_iret (pc := 64) hC hQ hr ⟨rfl, rfl⟩ dX4_nameOf_64
  replace h := of_f c1_1 h
  by_cases c1_2 : a1 = 110
  · replace h := of_t c1_2 h
    refine u_lookEq (pc := 1) hC dX4_nameOf_1 (110 : Int32) c1_2 (off := 107) 108 (by decide) (by decide) (by decide) ?_
    refine u_aload_n (pc := 108) hC dX4_nameOf_108 rfl 0 rfl ?_
    refine g_RX4_22 (pc := 109) hC hk0 dX4_nameOf_109 ?_
    refine u_iconst (pc := 112) hC ic_1 dX4_nameOf_112 ?_
    refine u_icmp_ne (pc := 113) hC (tgt := 121) dX4_nameOf_113 (by decide) (fun c113 => ?_) (fun c113 => ?_)
    · replace h := of_t c113 h
      refine u_iconst (pc := 121) hC ic_0 dX4_nameOf_121 ?_
      obtain rfl := Option.some.inj h
      exact u_iret (pc := 122) hC hQ hr ⟨rfl, rfl⟩ dX4_nameOf_122
    · replace h := of_f (fun q => q c113) h
      refine u_bipush (pc := 116) hC bc_m3 dX4_nameOf_116 ?_
      refine u_goto (pc := 118) hC 122 dX4_nameOf_118 (by decide) ?_
      obtain rfl := Option.some.inj h
      exact u_iret (pc := 122) hC hQ hr ⟨rfl, rfl⟩ dX4_nameOf_122
  replace h := of_f c1_2 h
  by_cases c1_3 : a1 = 111
  · replace h := of_t c1_3 h
    refine u_lookEq (pc := 1) hC dX4_nameOf_1 (111 : Int32) c1_3 (off := 92) 93 (by decide) (by decide) (by decide) ?_
    refine u_aload_n (pc := 93) hC dX4_nameOf_93 rfl 0 rfl ?_
    refine g_RX4_22 (pc := 94) hC hk0 dX4_nameOf_94 ?_
    refine u_iconst (pc := 97) hC ic_1 dX4_nameOf_97 ?_
    refine u_icmp_ne (pc := 98) hC (tgt := 106) dX4_nameOf_98 (by decide) (fun c98 => ?_) (fun c98 => ?_)
    · replace h := of_t c98 h
      refine u_iconst (pc := 106) hC ic_0 dX4_nameOf_106 ?_
      obtain rfl := Option.some.inj h
      exact u_iret (pc := 107) hC hQ hr ⟨rfl, rfl⟩ dX4_nameOf_107
    · replace h := of_f (fun q => q c98) h
      refine u_bipush (pc := 101) hC bc_m2 dX4_nameOf_101 ?_
      refine u_goto (pc := 103) hC 107 dX4_nameOf_103 (by decide) ?_
      obtain rfl := Option.some.inj h
      exact u_iret (pc := 107) hC hQ hr ⟨rfl, rfl⟩ dX4_nameOf_107
  replace h := of_f c1_3 h
  by_cases c1_4 : a1 = 119
  · replace h := of_t c1_4 h
    refine u_lookEq (pc := 1) hC dX4_nameOf_1 (119 : Int32) c1_4 (off := 64) 65 (by decide) (by decide) (by decide) ?_
    refine u_aload_n (pc := 65) hC dX4_nameOf_65 rfl 0 rfl ?_
    refine g_RX4_22 (pc := 66) hC hk0 dX4_nameOf_66 ?_
    refine u_if_ne (pc := 69) hC (tgt := 77) dX4_nameOf_69 (by decide) (fun c69 => ?_) (fun c69 => ?_)
    · replace h := of_t c69 h
      refine u_iconst (pc := 77) hC ic_0 dX4_nameOf_77 ?_
      obtain rfl := Option.some.inj h
      exact u_iret (pc := 78) hC hQ hr ⟨rfl, rfl⟩ dX4_nameOf_78
    · replace h := of_f (fun q => q c69) h
      refine u_bipush (pc := 72) hC bc_m2 dX4_nameOf_72 ?_
      refine u_goto (pc := 74) hC 78 dX4_nameOf_74 (by decide) ?_
      obtain rfl := Option.some.inj h
      exact u_iret (pc := 78) hC hQ hr ⟨rfl, rfl⟩ dX4_nameOf_78
  replace h := of_f c1_4 h
  refine u_lookDf (pc := 1) hC dX4_nameOf_1 [(100 : Int32), (102 : Int32), (110 : Int32), (111 : Int32), (119 : Int32)] (List.forall_mem_cons.mpr ⟨c1_0, List.forall_mem_cons.mpr ⟨c1_1, List.forall_mem_cons.mpr ⟨c1_2, List.forall_mem_cons.mpr ⟨c1_3, List.forall_mem_cons.mpr ⟨c1_4, (fun _ q => absurd q List.not_mem_nil)⟩⟩⟩⟩⟩) (by decide) 123 (by decide) (by decide) ?_
  refine u_iconst (pc := 123) hC ic_0 dX4_nameOf_123 ?_
  obtain rfl := Option.some.inj h
  exact u_iret (pc := 124) hC hQ hr ⟨rfl, rfl⟩ dX4_nameOf_124
set_option maxHeartbeats 4000000 in
set_option maxRecDepth 100000 in
theorem c_X4_readEnd {l : Launch} {G : GG} {d : Nat} (hd : 1 ≤ d) {μ : Mem} {k0 : Nat} (hk0 : isC 4 k0) {r : Mem} (h : f_X4_readEnd μ k0 = some r) : CT l yX4_readEnd cX4_readEnd 1 none d G [.ref (gad G k0)] μ (RK none r) := by
  refine ct_start (by decide) (Nat.le_of_ble_eq_true rfl) (fun C hl1 hG1 hC hQ hr => ?_)
  subst hl1; subst hG1
  have hC : CxOK C cX4_readEnd 1 RX4 d := hC
  show UW C 1 μ 0 [(0, .ref (gad (cG C) k0))] []
  have jb23 : ∀ (μ_23 : Mem), f_X4_readEnd_j23 μ_23 k0 = some r → UW C 1 μ_23 23 [(0, .ref (gad (cG C) k0))] [] := by
    intro μ_23 h
    unfold f_X4_readEnd_j23 at h
    refine u_aload_n (pc := 23) hC dX4_readEnd_23 rfl 0 rfl ?_
    refine u_iconst (pc := 24) hC ic_1 dX4_readEnd_24 ?_
    obtain ⟨m25, q25, h⟩ := of_bd h
    refine p_RX4_32 (pc := 25) hC hk0 (by decide) dX4_readEnd_25 (Option.some.inj q25) ?_
    refine u_goto (pc := 28) hC 41 dX4_readEnd_28 (by decide) ?_
    obtain rfl := Option.some.inj h
    exact u_vret (pc := 41) hC hQ hr ⟨rfl, rfl⟩ dX4_readEnd_41
  unfold f_X4_readEnd at h
  refine u_aload_n (pc := 0) hC dX4_readEnd_0 rfl 0 rfl ?_
  refine g_RX4_32 (pc := 1) hC hk0 dX4_readEnd_1 ?_
  refine u_if_ne (pc := 4) hC (tgt := 23) dX4_readEnd_4 (by decide) (fun c4 => ?_) (fun c4 => ?_)
  · replace h := of_t c4 h
    exact jb23 μ h
  · replace h := of_f (fun q => q c4) h
    refine u_aload_n (pc := 7) hC dX4_readEnd_7 rfl 0 rfl ?_
    refine g_RX4_18 (pc := 8) hC hk0 dX4_readEnd_8 ?_
    obtain ⟨b8, h⟩ := of_gd h
    refine u_aload_n (pc := 11) hC dX4_readEnd_11 rfl 0 rfl ?_
    refine g_RX4_29 (pc := 12) hC hk0 dX4_readEnd_12 ?_
    obtain ⟨r15, q15, h⟩ := of_bd h
    refine k_RX4_45 (pc := 15) hC (av := [.int (rd μ k0 4)]) (rest := []) (c_X7_at (d := d - 1) (by omega) (isT_C b8) q15) (by omega) (Nat.le_of_ble_eq_true rfl) (isT_C b8) rfl rfl dX4_readEnd_15 ?_
    refine u_bipush (pc := 18) hC bc_41 dX4_readEnd_18 ?_
    refine u_icmp_eq (pc := 20) hC (tgt := 31) dX4_readEnd_20 (by decide) (fun c20 => ?_) (fun c20 => ?_)
    · replace h := of_t c20 h
      refine u_aload_n (pc := 31) hC dX4_readEnd_31 rfl 0 rfl ?_
      refine u_dup (pc := 32) hC rfl dX4_readEnd_32 ?_
      refine g_RX4_29 (pc := 33) hC hk0 dX4_readEnd_33 ?_
      refine u_iconst (pc := 36) hC ic_1 dX4_readEnd_36 ?_
      refine u_iadd (pc := 37) hC dX4_readEnd_37 ?_
      obtain ⟨m38, q38, h⟩ := of_bd h
      refine p_RX4_29 (pc := 38) hC hk0 dX4_readEnd_38 (Option.some.inj q38) ?_
      obtain rfl := Option.some.inj h
      exact u_vret (pc := 41) hC hQ hr ⟨rfl, rfl⟩ dX4_readEnd_41
    · replace h := of_f c20 h
      exact jb23 μ h
set_option maxHeartbeats 4000000 in
set_option maxRecDepth 100000 in
theorem c_X4_levelOf {l : Launch} {G : GG} {d : Nat} (hd : 0 ≤ d) {μ : Mem} {a0 : Int32} {r : Int32} (h : f_X4_levelOf a0 = some r) : CT l yX4_levelOf cX4_levelOf 1 (some .int) d G [.int a0] μ (RK (some (.int r)) μ) := by
  refine ct_start (by decide) (Nat.le_of_ble_eq_true rfl) (fun C hl1 hG1 hC hQ hr => ?_)
  subst hl1; subst hG1
  have hC : CxOK C cX4_levelOf 1 RX4 d := hC
  show UW C 1 μ 0 [(0, .int a0)] []
  unfold f_X4_levelOf at h
  refine u_iload_n (pc := 0) hC dX4_levelOf_0 rfl 0 rfl ?_
  by_cases c1_0 : a0 = 37
  · replace h := of_t c1_0 h
    refine u_lookEq (pc := 1) hC dX4_levelOf_1 (37 : Int32) c1_0 (off := 99) 100 (by decide) (by decide) (by decide) ?_
    refine u_iconst (pc := 100) hC ic_4 dX4_levelOf_100 ?_
    obtain rfl := Option.some.inj h
    exact u_iret (pc := 101) hC hQ hr ⟨rfl, rfl⟩ dX4_levelOf_101
  replace h := of_f c1_0 h
  by_cases c1_1 : a0 = 38
  · replace h := of_t c1_1 h
    refine u_lookEq (pc := 1) hC dX4_levelOf_1 (38 : Int32) c1_1 (off := 93) 94 (by decide) (by decide) (by decide) ?_
    refine u_iconst (pc := 94) hC ic_1 dX4_levelOf_94 ?_
    obtain rfl := Option.some.inj h
    exact u_iret (pc := 95) hC hQ hr ⟨rfl, rfl⟩ dX4_levelOf_95
  replace h := of_f c1_1 h
  by_cases c1_2 : a0 = 42
  · replace h := of_t c1_2 h
    refine u_lookEq (pc := 1) hC dX4_levelOf_1 (42 : Int32) c1_2 (off := 99) 100 (by decide) (by decide) (by decide) ?_
    refine u_iconst (pc := 100) hC ic_4 dX4_levelOf_100 ?_
    obtain rfl := Option.some.inj h
    exact u_iret (pc := 101) hC hQ hr ⟨rfl, rfl⟩ dX4_levelOf_101
  replace h := of_f c1_2 h
  by_cases c1_3 : a0 = 43
  · replace h := of_t c1_3 h
    refine u_lookEq (pc := 1) hC dX4_levelOf_1 (43 : Int32) c1_3 (off := 97) 98 (by decide) (by decide) (by decide) ?_
    refine u_iconst (pc := 98) hC ic_3 dX4_levelOf_98 ?_
    obtain rfl := Option.some.inj h
    exact u_iret (pc := 99) hC hQ hr ⟨rfl, rfl⟩ dX4_levelOf_99
  replace h := of_f c1_3 h
  by_cases c1_4 : a0 = 45
  · replace h := of_t c1_4 h
    refine u_lookEq (pc := 1) hC dX4_levelOf_1 (45 : Int32) c1_4 (off := 97) 98 (by decide) (by decide) (by decide) ?_
    refine u_iconst (pc := 98) hC ic_3 dX4_levelOf_98 ?_
    obtain rfl := Option.some.inj h
    exact u_iret (pc := 99) hC hQ hr ⟨rfl, rfl⟩ dX4_levelOf_99
  replace h := of_f c1_4 h
  by_cases c1_5 : a0 = 47
  · replace h := of_t c1_5 h
    refine u_lookEq (pc := 1) hC dX4_levelOf_1 (47 : Int32) c1_5 (off := 99) 100 (by decide) (by decide) (by decide) ?_
    refine u_iconst (pc := 100) hC ic_4 dX4_levelOf_100 ?_
    obtain rfl := Option.some.inj h
    exact u_iret (pc := 101) hC hQ hr ⟨rfl, rfl⟩ dX4_levelOf_101
  replace h := of_f c1_5 h
  by_cases c1_6 : a0 = 60
  · replace h := of_t c1_6 h
    refine u_lookEq (pc := 1) hC dX4_levelOf_1 (60 : Int32) c1_6 (off := 95) 96 (by decide) (by decide) (by decide) ?_
    refine u_iconst (pc := 96) hC ic_2 dX4_levelOf_96 ?_
    obtain rfl := Option.some.inj h
    exact u_iret (pc := 97) hC hQ hr ⟨rfl, rfl⟩ dX4_levelOf_97
  replace h := of_f c1_6 h
  by_cases c1_7 : a0 = 61
  · replace h := of_t c1_7 h
    refine u_lookEq (pc := 1) hC dX4_levelOf_1 (61 : Int32) c1_7 (off := 95) 96 (by decide) (by decide) (by decide) ?_
    refine u_iconst (pc := 96) hC ic_2 dX4_levelOf_96 ?_
    obtain rfl := Option.some.inj h
    exact u_iret (pc := 97) hC hQ hr ⟨rfl, rfl⟩ dX4_levelOf_97
  replace h := of_f c1_7 h
  by_cases c1_8 : a0 = 62
  · replace h := of_t c1_8 h
    refine u_lookEq (pc := 1) hC dX4_levelOf_1 (62 : Int32) c1_8 (off := 95) 96 (by decide) (by decide) (by decide) ?_
    refine u_iconst (pc := 96) hC ic_2 dX4_levelOf_96 ?_
    obtain rfl := Option.some.inj h
    exact u_iret (pc := 97) hC hQ hr ⟨rfl, rfl⟩ dX4_levelOf_97
  replace h := of_f c1_8 h
  by_cases c1_9 : a0 = 124
  · replace h := of_t c1_9 h
    refine u_lookEq (pc := 1) hC dX4_levelOf_1 (124 : Int32) c1_9 (off := 91) 92 (by decide) (by decide) (by decide) ?_
    refine u_iconst (pc := 92) hC ic_0 dX4_levelOf_92 ?_
    obtain rfl := Option.some.inj h
    exact u_iret (pc := 93) hC hQ hr ⟨rfl, rfl⟩ dX4_levelOf_93
  replace h := of_f c1_9 h
  refine u_lookDf (pc := 1) hC dX4_levelOf_1 [(37 : Int32), (38 : Int32), (42 : Int32), (43 : Int32), (45 : Int32), (47 : Int32), (60 : Int32), (61 : Int32), (62 : Int32), (124 : Int32)] (List.forall_mem_cons.mpr ⟨c1_0, List.forall_mem_cons.mpr ⟨c1_1, List.forall_mem_cons.mpr ⟨c1_2, List.forall_mem_cons.mpr ⟨c1_3, List.forall_mem_cons.mpr ⟨c1_4, List.forall_mem_cons.mpr ⟨c1_5, List.forall_mem_cons.mpr ⟨c1_6, List.forall_mem_cons.mpr ⟨c1_7, List.forall_mem_cons.mpr ⟨c1_8, List.forall_mem_cons.mpr ⟨c1_9, (fun _ q => absurd q List.not_mem_nil)⟩⟩⟩⟩⟩⟩⟩⟩⟩⟩) (by decide) 102 (by decide) (by decide) ?_
  refine u_iconst (pc := 102) hC ic_m1 dX4_levelOf_102 ?_
  obtain rfl := Option.some.inj h
  exact u_iret (pc := 103) hC hQ hr ⟨rfl, rfl⟩ dX4_levelOf_103
set_option maxHeartbeats 4000000 in
set_option maxRecDepth 100000 in
theorem w_X4_readLevel (g_X4_readLevel : Mem → Nat → Int32 → Int32 → Option Mem) (g_X4_readUnit : Mem → Nat → Int32 → Option Mem) {n : Nat} (ih_X4_readLevel : ∀ {l : Launch} {G : GG} {d : Nat} (hd : n + 2 ≤ d) {μ : Mem} {k0 : Nat} (hk0 : isC 4 k0) {a1 : Int32} {a2 : Int32} {r : Mem} (h : g_X4_readLevel μ k0 a1 a2 = some r), CT l yX4_readLevel cX4_readLevel 5 none d G [.ref (gad G k0), .int a1, .int a2] μ (RK none r)) (ih_X4_readUnit : ∀ {l : Launch} {G : GG} {d : Nat} (hd : n + 2 ≤ d) {μ : Mem} {k0 : Nat} (hk0 : isC 4 k0) {a1 : Int32} {r : Mem} (h : g_X4_readUnit μ k0 a1 = some r), CT l yX4_readUnit cX4_readUnit 3 none d G [.ref (gad G k0), .int a1] μ (RK none r)) {l : Launch} {G : GG} {d : Nat} (hd : n + 1 + 2 ≤ d) {μ : Mem} {k0 : Nat} (hk0 : isC 4 k0) {a1 : Int32} {a2 : Int32} {r : Mem} (h : F_X4_readLevel g_X4_readLevel g_X4_readUnit μ k0 a1 a2 = some r) : CT l yX4_readLevel cX4_readLevel 5 none d G [.ref (gad G k0), .int a1, .int a2] μ (RK none r) := by
  refine ct_start (by decide) (Nat.le_of_ble_eq_true rfl) (fun C hl1 hG1 hC hQ hr => ?_)
  subst hl1; subst hG1
  have hC : CxOK C cX4_readLevel 5 RX4 d := hC
  show UW C 5 μ 0 [(0, .ref (gad (cG C) k0)), (1, .int a1), (2, .int a2)] []
  have lw21 : ∀ (e : ((Mem) ⊕ (Mem))) (s : Int32 × Mem), lp (fun s => F_X4_readLevel_l21 g_X4_readLevel g_X4_readUnit k0 a1 a2 s.1 s.2) FU s = some e → (Sum.elim (fun (e : (Mem)) => UW C 5 e 95 [] []) (fun (e : (Mem)) => UW C 5 e 102 [] [])) e → UW C 5 s.2 21 [(0, .ref (gad (cG C) k0)), (1, .int a1), (2, .int a2), (3, .int s.1)] [] := by
    intro e s hl hE0
    refine @lp_walk (Int32 × Mem) ((Mem) ⊕ (Mem)) (fun s => F_X4_readLevel_l21 g_X4_readLevel g_X4_readUnit k0 a1 a2 s.1 s.2) (fun s => UW C 5 s.2 21 [(0, .ref (gad (cG C) k0)), (1, .int a1), (2, .int a2), (3, .int s.1)] []) (Sum.elim (fun (e : (Mem)) => UW C 5 e 95 [] []) (fun (e : (Mem)) => UW C 5 e 102 [] [])) (fun s y21 h hP21 hE21 => ?_) FU s e hl hE0
    obtain ⟨v3_21, μ_21⟩ := s
    replace h : F_X4_readLevel_l21 g_X4_readLevel g_X4_readUnit k0 a1 a2 v3_21 μ_21 = some y21 := h
    show UW C 5 μ_21 21 [(0, .ref (gad (cG C) k0)), (1, .int a1), (2, .int a2), (3, .int v3_21)] []
    unfold F_X4_readLevel_l21 at h
    refine u_iload_n (pc := 21) hC dX4_readLevel_21 rfl 3 rfl ?_
    refine u_bipush (pc := 22) hC bc_50 dX4_readLevel_22 ?_
    refine u_icmp_ge (pc := 24) hC (tgt := 102) dX4_readLevel_24 (by decide) (fun c24 => ?_) (fun c24 => ?_)
    · replace h := of_t c24 h
      obtain rfl := Option.some.inj h
      refine u_sub [] rfl ?_
      exact hE21 (.inr μ_21) rfl
    · replace h := of_f c24 h
      refine u_aload_n (pc := 27) hC dX4_readLevel_27 rfl 0 rfl ?_
      refine g_RX4_32 (pc := 28) hC hk0 dX4_readLevel_28 ?_
      refine u_if_ne (pc := 31) hC (tgt := 102) dX4_readLevel_31 (by decide) (fun c31 => ?_) (fun c31 => ?_)
      · replace h := of_t c31 h
        obtain rfl := Option.some.inj h
        refine u_sub [] rfl ?_
        exact hE21 (.inr μ_21) rfl
      · replace h := of_f (fun q => q c31) h
        refine u_aload_n (pc := 34) hC dX4_readLevel_34 rfl 0 rfl ?_
        refine g_RX4_18 (pc := 35) hC hk0 dX4_readLevel_35 ?_
        obtain ⟨b35, h⟩ := of_gd h
        refine u_aload_n (pc := 38) hC dX4_readLevel_38 rfl 0 rfl ?_
        refine g_RX4_29 (pc := 39) hC hk0 dX4_readLevel_39 ?_
        obtain ⟨r42, q42, h⟩ := of_bd h
        refine k_RX4_45 (pc := 42) hC (av := [.int (rd μ_21 k0 4)]) (rest := []) (c_X7_at (d := d - 1) (by omega) (isT_C b35) q42) (by omega) (Nat.le_of_ble_eq_true rfl) (isT_C b35) rfl rfl dX4_readLevel_42 ?_
        obtain ⟨r45, q45, h⟩ := of_bd h
        refine k_RX4_49 (pc := 45) hC (av := [.int r42]) (rest := []) (c_X4_levelOf (d := d - 1) (by omega)  q45) (by omega) (Nat.le_of_ble_eq_true rfl) rfl rfl dX4_readLevel_45 ?_
        refine u_iload_n (pc := 48) hC dX4_readLevel_48 rfl 1 rfl ?_
        refine u_icmp_ne (pc := 49) hC (tgt := 102) dX4_readLevel_49 (by decide) (fun c49 => ?_) (fun c49 => ?_)
        · replace h := of_t c49 h
          obtain rfl := Option.some.inj h
          refine u_sub [] rfl ?_
          exact hE21 (.inr μ_21) rfl
        · replace h := of_f (fun q => q c49) h
          refine u_aload_n (pc := 52) hC dX4_readLevel_52 rfl 0 rfl ?_
          refine g_RX4_18 (pc := 53) hC hk0 dX4_readLevel_53 ?_
          obtain ⟨b53, h⟩ := of_gd h
          refine u_aload_n (pc := 56) hC dX4_readLevel_56 rfl 0 rfl ?_
          refine g_RX4_29 (pc := 57) hC hk0 dX4_readLevel_57 ?_
          obtain ⟨r60, q60, h⟩ := of_bd h
          refine k_RX4_45 (pc := 60) hC (av := [.int (rd μ_21 k0 4)]) (rest := []) (c_X7_at (d := d - 1) (by omega) (isT_C b53) q60) (by omega) (Nat.le_of_ble_eq_true rfl) (isT_C b53) rfl rfl dX4_readLevel_60 ?_
          refine u_istore (pc := 63) hC dX4_readLevel_63 [(4, .int r60), (0, .ref (gad (cG C) k0)), (1, .int a1), (2, .int a2), (3, .int v3_21)] (by decide) rfl ?_
          refine u_aload_n (pc := 65) hC dX4_readLevel_65 rfl 1 rfl ?_
          refine u_dup (pc := 66) hC rfl dX4_readLevel_66 ?_
          refine g_RX4_29 (pc := 67) hC hk0 dX4_readLevel_67 ?_
          refine u_iconst (pc := 70) hC ic_1 dX4_readLevel_70 ?_
          refine u_iadd (pc := 71) hC dX4_readLevel_71 ?_
          obtain ⟨m72, q72, h⟩ := of_bd h
          refine p_RX4_29 (pc := 72) hC hk0 dX4_readLevel_72 (Option.some.inj q72) ?_
          refine u_aload_n (pc := 75) hC dX4_readLevel_75 rfl 1 rfl ?_
          refine u_iload_n (pc := 76) hC dX4_readLevel_76 rfl 2 rfl ?_
          refine u_iconst (pc := 77) hC ic_1 dX4_readLevel_77 ?_
          refine u_iadd (pc := 78) hC dX4_readLevel_78 ?_
          refine u_iload_n (pc := 79) hC dX4_readLevel_79 rfl 3 rfl ?_
          obtain ⟨μ80, q80, h⟩ := of_bd h
          refine k_RX4_36 (pc := 80) hC (av := [.int (a1 + (1 : Int32)), .int a2]) (rest := []) (ih_X4_readLevel (d := d - 1) (by omega) hk0 q80) (by omega) (Nat.le_of_ble_eq_true rfl) hk0 rfl rfl dX4_readLevel_80 ?_
          refine u_aload_n (pc := 83) hC dX4_readLevel_83 rfl 1 rfl ?_
          refine u_iload (pc := 84) hC dX4_readLevel_84 0 rfl ?_
          refine u_ineg (pc := 86) hC dX4_readLevel_86 ?_
          obtain ⟨μ87, q87, h⟩ := of_bd h
          refine k_RX4_52 (pc := 87) hC (av := [.int (-r60)]) (rest := []) (c_X4_add (d := d - 1) (by omega) hk0 q87) (by omega) (Nat.le_of_ble_eq_true rfl) hk0 rfl rfl dX4_readLevel_87 ?_
          refine u_iload_n (pc := 90) hC dX4_readLevel_90 rfl 2 rfl ?_
          refine u_iconst (pc := 91) hC ic_2 dX4_readLevel_91 ?_
          refine u_icmp_ne (pc := 92) hC (tgt := 96) dX4_readLevel_92 (by decide) (fun c92 => ?_) (fun c92 => ?_)
          · replace h := of_t c92 h
            refine u_iinc (pc := 96) hC dX4_readLevel_96 4 rfl (v3_21 + 1) rfl [(3, .int (v3_21 + 1)), (4, .int r60), (0, .ref (gad (cG C) k0)), (1, .int a1), (2, .int a2)] (by decide) rfl ?_
            refine u_goto (pc := 99) hC 21 dX4_readLevel_99 (by decide) ?_
            obtain rfl := Option.some.inj h
            refine u_sub [2, 3, 4, 0] rfl ?_
            exact hP21 (v3_21 + 1, μ87) rfl
          · replace h := of_f (fun q => q c92) h
            obtain rfl := Option.some.inj h
            refine u_sub [] rfl ?_
            exact hE21 (.inl μ87) rfl
  unfold F_X4_readLevel at h
  refine u_iload_n (pc := 0) hC dX4_readLevel_0 rfl 1 rfl ?_
  refine u_iconst (pc := 1) hC ic_4 dX4_readLevel_1 ?_
  refine u_icmp_le (pc := 2) hC (tgt := 11) dX4_readLevel_2 (by decide) (fun c2 => ?_) (fun c2 => ?_)
  · replace h := of_t c2 h
    refine u_aload_n (pc := 11) hC dX4_readLevel_11 rfl 0 rfl ?_
    refine u_iload_n (pc := 12) hC dX4_readLevel_12 rfl 1 rfl ?_
    refine u_iconst (pc := 13) hC ic_1 dX4_readLevel_13 ?_
    refine u_iadd (pc := 14) hC dX4_readLevel_14 ?_
    refine u_iload_n (pc := 15) hC dX4_readLevel_15 rfl 2 rfl ?_
    obtain ⟨μ16, q16, h⟩ := of_bd h
    refine k_RX4_36 (pc := 16) hC (av := [.int (a1 + (1 : Int32)), .int a2]) (rest := []) (ih_X4_readLevel (d := d - 1) (by omega) hk0 q16) (by omega) (Nat.le_of_ble_eq_true rfl) hk0 rfl rfl dX4_readLevel_16 ?_
    refine u_iconst (pc := 19) hC ic_0 dX4_readLevel_19 ?_
    refine u_istore_n (pc := 20) hC dX4_readLevel_20 rfl [(3, .int (0 : Int32)), (0, .ref (gad (cG C) k0)), (1, .int a1), (2, .int a2)] (by decide) rfl ?_
    obtain ⟨e21, l21, h⟩ := of_bd h
    refine u_sub [1, 2, 3, 0] rfl ?_
    refine lw21  e21 ((0 : Int32), μ16) l21 ?_
    rcases e21 with e21 | e21
    · replace h := of_el h
      show UW C 5 e21 95 [] []
      obtain rfl := Option.some.inj h
      exact u_vret (pc := 95) hC hQ hr ⟨rfl, rfl⟩ dX4_readLevel_95
    · replace h := of_er h
      show UW C 5 e21 102 [] []
      obtain rfl := Option.some.inj h
      exact u_vret (pc := 102) hC hQ hr ⟨rfl, rfl⟩ dX4_readLevel_102
  · replace h := of_f c2 h
    refine u_aload_n (pc := 5) hC dX4_readLevel_5 rfl 0 rfl ?_
    refine u_iload_n (pc := 6) hC dX4_readLevel_6 rfl 2 rfl ?_
    obtain ⟨μ7, q7, h⟩ := of_bd h
    refine k_RX4_41 (pc := 7) hC (av := [.int a2]) (rest := []) (ih_X4_readUnit (d := d - 1) (by omega) hk0 q7) (by omega) (Nat.le_of_ble_eq_true rfl) hk0 rfl rfl dX4_readLevel_7 ?_
    obtain rfl := Option.some.inj h
    exact u_vret (pc := 10) hC hQ hr ⟨rfl, rfl⟩ dX4_readLevel_10
set_option maxHeartbeats 4000000 in
set_option maxRecDepth 100000 in
theorem w_X4_readUnit (g_X4_readLevel : Mem → Nat → Int32 → Int32 → Option Mem) (g_X4_readUnit : Mem → Nat → Int32 → Option Mem) {n : Nat} (ih_X4_readLevel : ∀ {l : Launch} {G : GG} {d : Nat} (hd : n + 2 ≤ d) {μ : Mem} {k0 : Nat} (hk0 : isC 4 k0) {a1 : Int32} {a2 : Int32} {r : Mem} (h : g_X4_readLevel μ k0 a1 a2 = some r), CT l yX4_readLevel cX4_readLevel 5 none d G [.ref (gad G k0), .int a1, .int a2] μ (RK none r)) (ih_X4_readUnit : ∀ {l : Launch} {G : GG} {d : Nat} (hd : n + 2 ≤ d) {μ : Mem} {k0 : Nat} (hk0 : isC 4 k0) {a1 : Int32} {r : Mem} (h : g_X4_readUnit μ k0 a1 = some r), CT l yX4_readUnit cX4_readUnit 3 none d G [.ref (gad G k0), .int a1] μ (RK none r)) {l : Launch} {G : GG} {d : Nat} (hd : n + 1 + 2 ≤ d) {μ : Mem} {k0 : Nat} (hk0 : isC 4 k0) {a1 : Int32} {r : Mem} (h : F_X4_readUnit g_X4_readLevel g_X4_readUnit μ k0 a1 = some r) : CT l yX4_readUnit cX4_readUnit 3 none d G [.ref (gad G k0), .int a1] μ (RK none r) := by
  refine ct_start (by decide) (Nat.le_of_ble_eq_true rfl) (fun C hl1 hG1 hC hQ hr => ?_)
  subst hl1; subst hG1
  have hC : CxOK C cX4_readUnit 3 RX4 d := hC
  show UW C 3 μ 0 [(0, .ref (gad (cG C) k0)), (1, .int a1)] []
  have jb129 : ∀ (μ_129 : Mem), F_X4_readUnit_j129 g_X4_readLevel g_X4_readUnit μ_129 k0 a1 = some r → UW C 3 μ_129 129 [(0, .ref (gad (cG C) k0))] [] := by
    intro μ_129 h
    unfold F_X4_readUnit_j129 at h
    refine u_aload_n (pc := 129) hC dX4_readUnit_129 rfl 0 rfl ?_
    refine u_iconst (pc := 130) hC ic_1 dX4_readUnit_130 ?_
    obtain ⟨m131, q131, h⟩ := of_bd h
    refine p_RX4_32 (pc := 131) hC hk0 (by decide) dX4_readUnit_131 (Option.some.inj q131) ?_
    obtain rfl := Option.some.inj h
    exact u_vret (pc := 134) hC hQ hr ⟨rfl, rfl⟩ dX4_readUnit_134
  have jb93 : ∀ (μ_93 : Mem) (v2_93 : Int32), F_X4_readUnit_j93 g_X4_readLevel g_X4_readUnit μ_93 k0 a1 v2_93 = some r → UW C 3 μ_93 93 [(0, .ref (gad (cG C) k0)), (1, .int a1), (2, .int v2_93)] [] := by
    intro μ_93 v2_93 h
    unfold F_X4_readUnit_j93 at h
    refine u_iload_n (pc := 93) hC dX4_readUnit_93 rfl 2 rfl ?_
    refine u_bipush (pc := 94) hC bc_40 dX4_readUnit_94 ?_
    refine u_icmp_ne (pc := 96) hC (tgt := 129) dX4_readUnit_96 (by decide) (fun c96 => ?_) (fun c96 => ?_)
    · replace h := of_t c96 h
      refine u_sub [0] rfl ?_
      exact jb129 μ_93 h
    · replace h := of_f (fun q => q c96) h
      refine u_iload_n (pc := 99) hC dX4_readUnit_99 rfl 1 rfl ?_
      refine u_iconst (pc := 100) hC ic_5 dX4_readUnit_100 ?_
      refine u_icmp_ge (pc := 101) hC (tgt := 129) dX4_readUnit_101 (by decide) (fun c101 => ?_) (fun c101 => ?_)
      · replace h := of_t c101 h
        refine u_sub [0] rfl ?_
        exact jb129 μ_93 h
      · replace h := of_f c101 h
        refine u_aload_n (pc := 104) hC dX4_readUnit_104 rfl 0 rfl ?_
        refine u_dup (pc := 105) hC rfl dX4_readUnit_105 ?_
        refine g_RX4_29 (pc := 106) hC hk0 dX4_readUnit_106 ?_
        refine u_iconst (pc := 109) hC ic_1 dX4_readUnit_109 ?_
        refine u_iadd (pc := 110) hC dX4_readUnit_110 ?_
        obtain ⟨m111, q111, h⟩ := of_bd h
        refine p_RX4_29 (pc := 111) hC hk0 dX4_readUnit_111 (Option.some.inj q111) ?_
        refine u_aload_n (pc := 114) hC dX4_readUnit_114 rfl 0 rfl ?_
        refine u_iconst (pc := 115) hC ic_0 dX4_readUnit_115 ?_
        refine u_iload_n (pc := 116) hC dX4_readUnit_116 rfl 1 rfl ?_
        refine u_iconst (pc := 117) hC ic_1 dX4_readUnit_117 ?_
        refine u_iadd (pc := 118) hC dX4_readUnit_118 ?_
        obtain ⟨μ119, q119, h⟩ := of_bd h
        refine k_RX4_36 (pc := 119) hC (av := [.int (0 : Int32), .int (a1 + (1 : Int32))]) (rest := []) (ih_X4_readLevel (d := d - 1) (by omega) hk0 q119) (by omega) (Nat.le_of_ble_eq_true rfl) hk0 rfl rfl dX4_readUnit_119 ?_
        refine u_aload_n (pc := 122) hC dX4_readUnit_122 rfl 0 rfl ?_
        obtain ⟨μ123, q123, h⟩ := of_bd h
        refine k_RX4_65 (pc := 123) hC (av := []) (rest := []) (c_X4_readEnd (d := d - 1) (by omega) hk0 q123) (by omega) (Nat.le_of_ble_eq_true rfl) hk0 rfl rfl dX4_readUnit_123 ?_
        refine u_goto (pc := 126) hC 134 dX4_readUnit_126 (by decide) ?_
        obtain rfl := Option.some.inj h
        exact u_vret (pc := 134) hC hQ hr ⟨rfl, rfl⟩ dX4_readUnit_134
  unfold F_X4_readUnit at h
  refine u_aload_n (pc := 0) hC dX4_readUnit_0 rfl 0 rfl ?_
  refine g_RX4_18 (pc := 1) hC hk0 dX4_readUnit_1 ?_
  obtain ⟨b1, h⟩ := of_gd h
  refine u_aload_n (pc := 4) hC dX4_readUnit_4 rfl 0 rfl ?_
  refine g_RX4_29 (pc := 5) hC hk0 dX4_readUnit_5 ?_
  obtain ⟨r8, q8, h⟩ := of_bd h
  refine k_RX4_45 (pc := 8) hC (av := [.int (rd μ k0 4)]) (rest := []) (c_X7_at (d := d - 1) (by omega) (isT_C b1) q8) (by omega) (Nat.le_of_ble_eq_true rfl) (isT_C b1) rfl rfl dX4_readUnit_8 ?_
  refine u_istore_n (pc := 11) hC dX4_readUnit_11 rfl [(2, .int r8), (0, .ref (gad (cG C) k0)), (1, .int a1)] (by decide) rfl ?_
  refine u_iload_n (pc := 12) hC dX4_readUnit_12 rfl 0 rfl ?_
  obtain ⟨r13, q13, h⟩ := of_bd h
  refine k_RX4_55 (pc := 13) hC (av := [.int r8]) (rest := []) (c_X4_isDigit (d := d - 1) (by omega)  q13) (by omega) (Nat.le_of_ble_eq_true rfl) rfl rfl dX4_readUnit_13 ?_
  refine u_if_eq (pc := 16) hC (tgt := 26) dX4_readUnit_16 (by decide) (fun c16 => ?_) (fun c16 => ?_)
  · replace h := of_t c16 h
    refine u_aload_n (pc := 26) hC dX4_readUnit_26 rfl 1 rfl ?_
    refine u_iload_n (pc := 27) hC dX4_readUnit_27 rfl 0 rfl ?_
    obtain ⟨r28, q28, h⟩ := of_bd h
    refine k_RX4_62 (pc := 28) hC (av := [.int r8]) (rest := []) (c_X4_nameOf (d := d - 1) (by omega) hk0 q28) (by omega) (Nat.le_of_ble_eq_true rfl) hk0 rfl rfl dX4_readUnit_28 ?_
    refine u_if_ge (pc := 31) hC (tgt := 56) dX4_readUnit_31 (by decide) (fun c31 => ?_) (fun c31 => ?_)
    · replace h := of_t c31 h
      refine u_iload_n (pc := 56) hC dX4_readUnit_56 rfl 0 rfl ?_
      refine u_bipush (pc := 57) hC bc_33 dX4_readUnit_57 ?_
      refine u_icmp_ne (pc := 59) hC (tgt := 93) dX4_readUnit_59 (by decide) (fun c59 => ?_) (fun c59 => ?_)
      · replace h := of_t c59 h
        refine u_sub [1, 2, 0] rfl ?_
        exact jb93 μ r8 h
      · replace h := of_f (fun q => q c59) h
        refine u_iload_n (pc := 62) hC dX4_readUnit_62 rfl 2 rfl ?_
        refine u_iconst (pc := 63) hC ic_5 dX4_readUnit_63 ?_
        refine u_icmp_ge (pc := 64) hC (tgt := 93) dX4_readUnit_64 (by decide) (fun c64 => ?_) (fun c64 => ?_)
        · replace h := of_t c64 h
          refine u_sub [1, 2, 0] rfl ?_
          exact jb93 μ r8 h
        · replace h := of_f c64 h
          refine u_aload_n (pc := 67) hC dX4_readUnit_67 rfl 1 rfl ?_
          refine u_dup (pc := 68) hC rfl dX4_readUnit_68 ?_
          refine g_RX4_29 (pc := 69) hC hk0 dX4_readUnit_69 ?_
          refine u_iconst (pc := 72) hC ic_1 dX4_readUnit_72 ?_
          refine u_iadd (pc := 73) hC dX4_readUnit_73 ?_
          obtain ⟨m74, q74, h⟩ := of_bd h
          refine p_RX4_29 (pc := 74) hC hk0 dX4_readUnit_74 (Option.some.inj q74) ?_
          refine u_aload_n (pc := 77) hC dX4_readUnit_77 rfl 1 rfl ?_
          refine u_iload_n (pc := 78) hC dX4_readUnit_78 rfl 2 rfl ?_
          refine u_iconst (pc := 79) hC ic_1 dX4_readUnit_79 ?_
          refine u_iadd (pc := 80) hC dX4_readUnit_80 ?_
          obtain ⟨μ81, q81, h⟩ := of_bd h
          refine k_RX4_41 (pc := 81) hC (av := [.int (a1 + (1 : Int32))]) (rest := []) (ih_X4_readUnit (d := d - 1) (by omega) hk0 q81) (by omega) (Nat.le_of_ble_eq_true rfl) hk0 rfl rfl dX4_readUnit_81 ?_
          refine u_aload_n (pc := 84) hC dX4_readUnit_84 rfl 1 rfl ?_
          refine u_iload_n (pc := 85) hC dX4_readUnit_85 rfl 0 rfl ?_
          refine u_ineg (pc := 86) hC dX4_readUnit_86 ?_
          obtain ⟨μ87, q87, h⟩ := of_bd h
          refine k_RX4_52 (pc := 87) hC (av := [.int (-r8)]) (rest := []) (c_X4_add (d := d - 1) (by omega) hk0 q87) (by omega) (Nat.le_of_ble_eq_true rfl) hk0 rfl rfl dX4_readUnit_87 ?_
          refine u_goto (pc := 90) hC 134 dX4_readUnit_90 (by decide) ?_
          obtain rfl := Option.some.inj h
          exact u_vret (pc := 134) hC hQ hr ⟨rfl, rfl⟩ dX4_readUnit_134
    · replace h := of_f c31 h
      refine u_aload_n (pc := 34) hC dX4_readUnit_34 rfl 1 rfl ?_
      refine u_dup (pc := 35) hC rfl dX4_readUnit_35 ?_
      refine g_RX4_29 (pc := 36) hC hk0 dX4_readUnit_36 ?_
      refine u_iconst (pc := 39) hC ic_1 dX4_readUnit_39 ?_
      refine u_iadd (pc := 40) hC dX4_readUnit_40 ?_
      obtain ⟨m41, q41, h⟩ := of_bd h
      refine p_RX4_29 (pc := 41) hC hk0 dX4_readUnit_41 (Option.some.inj q41) ?_
      refine u_aload_n (pc := 44) hC dX4_readUnit_44 rfl 1 rfl ?_
      refine u_aload_n (pc := 45) hC dX4_readUnit_45 rfl 1 rfl ?_
      refine u_iload_n (pc := 46) hC dX4_readUnit_46 rfl 0 rfl ?_
      obtain ⟨r47, q47, h⟩ := of_bd h
      refine k_RX4_62 (pc := 47) hC (av := [.int r8]) (rest := [.ref (gad (cG C) k0)]) (c_X4_nameOf (d := d - 1) (by omega) hk0 q47) (by omega) (Nat.le_of_ble_eq_true rfl) hk0 rfl rfl dX4_readUnit_47 ?_
      obtain ⟨μ50, q50, h⟩ := of_bd h
      refine k_RX4_52 (pc := 50) hC (av := [.int r47]) (rest := []) (c_X4_add (d := d - 1) (by omega) hk0 q50) (by omega) (Nat.le_of_ble_eq_true rfl) hk0 rfl rfl dX4_readUnit_50 ?_
      refine u_goto (pc := 53) hC 134 dX4_readUnit_53 (by decide) ?_
      obtain rfl := Option.some.inj h
      exact u_vret (pc := 134) hC hQ hr ⟨rfl, rfl⟩ dX4_readUnit_134
  · replace h := of_f c16 h
    refine u_aload_n (pc := 19) hC dX4_readUnit_19 rfl 1 rfl ?_
    obtain ⟨μ20, q20, h⟩ := of_bd h
    refine k_RX4_59 (pc := 20) hC (av := []) (rest := []) (c_X4_readNumber (d := d - 1) (by omega) hk0 q20) (by omega) (Nat.le_of_ble_eq_true rfl) hk0 rfl rfl dX4_readUnit_20 ?_
    refine u_goto (pc := 23) hC 134 dX4_readUnit_23 (by decide) ?_
    obtain rfl := Option.some.inj h
    exact u_vret (pc := 134) hC hQ hr ⟨rfl, rfl⟩ dX4_readUnit_134
set_option maxHeartbeats 4000000 in
set_option maxRecDepth 100000 in
theorem c_grp_X4_readLevel (n : Nat) : (∀ {l : Launch} {G : GG} {d : Nat} (hd : n + 2 ≤ d) {μ : Mem} {k0 : Nat} (hk0 : isC 4 k0) {a1 : Int32} {a2 : Int32} {r : Mem} (h : f_X4_readLevel n μ k0 a1 a2 = some r), CT l yX4_readLevel cX4_readLevel 5 none d G [.ref (gad G k0), .int a1, .int a2] μ (RK none r)) ∧ (∀ {l : Launch} {G : GG} {d : Nat} (hd : n + 2 ≤ d) {μ : Mem} {k0 : Nat} (hk0 : isC 4 k0) {a1 : Int32} {r : Mem} (h : f_X4_readUnit n μ k0 a1 = some r), CT l yX4_readUnit cX4_readUnit 3 none d G [.ref (gad G k0), .int a1] μ (RK none r)) := by
  induction n with
  | zero => exact ⟨(by intro l G d hd μ k0 hk0 a1 a2 r h; exact absurd (show (none : Option (Mem)) = some r from h) (by simp)), (by intro l G d hd μ k0 hk0 a1 r h; exact absurd (show (none : Option (Mem)) = some r from h) (by simp))⟩
  | succ n ih => exact ⟨(by intro l G d hd μ k0 hk0 a1 a2 r h; exact w_X4_readLevel (f_X4_readLevel n) (f_X4_readUnit n) ih.1 ih.2 (by omega) hk0 h), (by intro l G d hd μ k0 hk0 a1 r h; exact w_X4_readUnit (f_X4_readLevel n) (f_X4_readUnit n) ih.1 ih.2 (by omega) hk0 h)⟩
theorem c_X4_readLevel {n : Nat} {l : Launch} {G : GG} {d : Nat} (hd : n + 2 ≤ d) {μ : Mem} {k0 : Nat} (hk0 : isC 4 k0) {a1 : Int32} {a2 : Int32} {r : Mem} (h : f_X4_readLevel n μ k0 a1 a2 = some r) : CT l yX4_readLevel cX4_readLevel 5 none d G [.ref (gad G k0), .int a1, .int a2] μ (RK none r) := (c_grp_X4_readLevel n).1 hd hk0 h
theorem c_X4_readUnit {n : Nat} {l : Launch} {G : GG} {d : Nat} (hd : n + 2 ≤ d) {μ : Mem} {k0 : Nat} (hk0 : isC 4 k0) {a1 : Int32} {r : Mem} (h : f_X4_readUnit n μ k0 a1 = some r) : CT l yX4_readUnit cX4_readUnit 3 none d G [.ref (gad G k0), .int a1] μ (RK none r) := (c_grp_X4_readLevel n).2 hd hk0 h
set_option maxHeartbeats 4000000 in
set_option maxRecDepth 100000 in
theorem c_X4_readAll {l : Launch} {G : GG} {d : Nat} (hd : 103 ≤ d) {μ : Mem} {k0 : Nat} (hk0 : isC 4 k0) {k1 : Nat} (hk1 : isC 7 k1) {a2 : Int32} {r : Int32 × Mem} (h : f_X4_readAll μ k0 k1 a2 = some r) : CT l yX4_readAll cX4_readAll 3 (some .int) d G [.ref (gad G k0), .ref (gad G k1), .int a2] μ (RK (some (.int r.1)) r.2) := by
  refine ct_start (by decide) (Nat.le_of_ble_eq_true rfl) (fun C hl1 hG1 hC hQ hr => ?_)
  subst hl1; subst hG1
  have hC : CxOK C cX4_readAll 3 RX4 d := hC
  show UW C 3 μ 0 [(0, .ref (gad (cG C) k0)), (1, .ref (gad (cG C) k1)), (2, .int a2)] []
  have jb52 : ∀ (μ_52 : Mem), f_X4_readAll_j52 μ_52 k0 k1 a2 = some r → UW C 3 μ_52 52 [(0, .ref (gad (cG C) k0))] [] := by
    intro μ_52 h
    unfold f_X4_readAll_j52 at h
    refine u_aload_n (pc := 52) hC dX4_readAll_52 rfl 0 rfl ?_
    refine g_RX4_29 (pc := 53) hC hk0 dX4_readAll_53 ?_
    refine u_goto (pc := 56) hC 60 dX4_readAll_56 (by decide) ?_
    obtain rfl := Option.some.inj h
    exact u_iret (pc := 60) hC hQ hr ⟨rfl, rfl⟩ dX4_readAll_60
  unfold f_X4_readAll at h
  refine u_aload_n (pc := 0) hC dX4_readAll_0 rfl 0 rfl ?_
  refine u_aload_n (pc := 1) hC dX4_readAll_1 rfl 1 rfl ?_
  obtain ⟨m2, q2, h⟩ := of_bd h
  refine p_RX4_18 (pc := 2) hC hk0 hk1.1 dX4_readAll_2 (Option.some.inj q2) ?_
  refine u_aload_n (pc := 5) hC dX4_readAll_5 rfl 0 rfl ?_
  refine u_iload_n (pc := 6) hC dX4_readAll_6 rfl 2 rfl ?_
  obtain ⟨m7, q7, h⟩ := of_bd h
  refine p_RX4_22 (pc := 7) hC hk0 dX4_readAll_7 (Option.some.inj q7) ?_
  refine u_aload_n (pc := 10) hC dX4_readAll_10 rfl 0 rfl ?_
  refine u_iconst (pc := 11) hC ic_0 dX4_readAll_11 ?_
  obtain ⟨m12, q12, h⟩ := of_bd h
  refine p_RX4_26 (pc := 12) hC hk0 dX4_readAll_12 (Option.some.inj q12) ?_
  refine u_aload_n (pc := 15) hC dX4_readAll_15 rfl 0 rfl ?_
  refine u_iconst (pc := 16) hC ic_0 dX4_readAll_16 ?_
  obtain ⟨m17, q17, h⟩ := of_bd h
  refine p_RX4_29 (pc := 17) hC hk0 dX4_readAll_17 (Option.some.inj q17) ?_
  refine u_aload_n (pc := 20) hC dX4_readAll_20 rfl 0 rfl ?_
  refine u_iconst (pc := 21) hC ic_0 dX4_readAll_21 ?_
  obtain ⟨m22, q22, h⟩ := of_bd h
  refine p_RX4_32 (pc := 22) hC hk0 (by decide) dX4_readAll_22 (Option.some.inj q22) ?_
  refine u_aload_n (pc := 25) hC dX4_readAll_25 rfl 0 rfl ?_
  refine u_iconst (pc := 26) hC ic_0 dX4_readAll_26 ?_
  refine u_iconst (pc := 27) hC ic_0 dX4_readAll_27 ?_
  obtain ⟨μ28, q28, h⟩ := of_bd h
  refine k_RX4_36 (pc := 28) hC (av := [.int (0 : Int32), .int (0 : Int32)]) (rest := []) (c_X4_readLevel (d := d - 1) (by omega) hk0 q28) (by omega) (Nat.le_of_ble_eq_true rfl) hk0 rfl rfl dX4_readAll_28 ?_
  refine u_aload_n (pc := 31) hC dX4_readAll_31 rfl 0 rfl ?_
  refine g_RX4_32 (pc := 32) hC hk0 dX4_readAll_32 ?_
  refine u_if_ne (pc := 35) hC (tgt := 52) dX4_readAll_35 (by decide) (fun c35 => ?_) (fun c35 => ?_)
  · replace h := of_t c35 h
    refine u_sub [0] rfl ?_
    exact jb52 μ28 h
  · replace h := of_f (fun q => q c35) h
    refine u_aload_n (pc := 38) hC dX4_readAll_38 rfl 0 rfl ?_
    refine g_RX4_29 (pc := 39) hC hk0 dX4_readAll_39 ?_
    refine u_aload_n (pc := 42) hC dX4_readAll_42 rfl 0 rfl ?_
    refine g_RX4_18 (pc := 43) hC hk0 dX4_readAll_43 ?_
    obtain ⟨b43, h⟩ := of_gd h
    refine g_RX4_40 (pc := 46) hC (isT_C b43) dX4_readAll_46 ?_
    refine u_icmp_ge (pc := 49) hC (tgt := 59) dX4_readAll_49 (by decide) (fun c49 => ?_) (fun c49 => ?_)
    · replace h := of_t c49 h
      refine u_iconst (pc := 59) hC ic_m1 dX4_readAll_59 ?_
      obtain rfl := Option.some.inj h
      exact u_iret (pc := 60) hC hQ hr ⟨rfl, rfl⟩ dX4_readAll_60
    · replace h := of_f c49 h
      refine u_sub [0] rfl ?_
      exact jb52 μ28 h
set_option maxHeartbeats 4000000 in
set_option maxRecDepth 100000 in
theorem c_J7_fill_d0a16 {l : Launch} {G : GG} {d : Nat} (hd : 0 ≤ d) {μ : Mem} {k0 : Nat} (hk0 : isC 14 k0) {a1 : Int64} {r : Mem} (h : f_J7_fill_d0a16 μ k0 a1 = some r) : CT l yJ7_fill_d0a16 cJ7_fill_d0a16 5 none d G [.ref (gad G k0), .long a1] μ (RK none r) := by
  refine ct_start (by decide) (Nat.le_of_ble_eq_true rfl) (fun C hl1 hG1 hC hQ hr => ?_)
  subst hl1; subst hG1
  have hC : CxOK C cJ7_fill_d0a16 5 RJ7 d := hC
  show UW C 5 μ 0 [(0, .ref (gad (cG C) k0)), (1, .long a1)] []
  have lw6 : ∀ (v4_6 : Int32) (e : (Mem)) (s : Int32 × Mem), lp (fun s => f_J7_fill_d0a16_l6 k0 a1 v4_6 s.1 s.2) FU s = some e → (fun (e : (Mem)) => UW C 5 e 22 [] []) e → UW C 5 s.2 6 [(0, .ref (gad (cG C) k0)), (1, .long a1), (3, .int s.1), (4, .int v4_6)] [] := by
    intro v4_6 e s hl hE0
    refine @lp_walk (Int32 × Mem) (Mem) (fun s => f_J7_fill_d0a16_l6 k0 a1 v4_6 s.1 s.2) (fun s => UW C 5 s.2 6 [(0, .ref (gad (cG C) k0)), (1, .long a1), (3, .int s.1), (4, .int v4_6)] []) (fun (e : (Mem)) => UW C 5 e 22 [] []) (fun s y6 h hP6 hE6 => ?_) FU s e hl hE0
    obtain ⟨v3_6, μ_6⟩ := s
    replace h : f_J7_fill_d0a16_l6 k0 a1 v4_6 v3_6 μ_6 = some y6 := h
    show UW C 5 μ_6 6 [(0, .ref (gad (cG C) k0)), (1, .long a1), (3, .int v3_6), (4, .int v4_6)] []
    unfold f_J7_fill_d0a16_l6 at h
    refine u_iload_n (pc := 6) hC dJ7_fill_d0a16_6 rfl 2 rfl ?_
    refine u_iload (pc := 7) hC dJ7_fill_d0a16_7 3 rfl ?_
    refine u_icmp_ge (pc := 9) hC (tgt := 22) dJ7_fill_d0a16_9 (by decide) (fun c9 => ?_) (fun c9 => ?_)
    · replace h := of_t c9 h
      obtain rfl := Option.some.inj h
      refine u_sub [] rfl ?_
      exact hE6 μ_6 rfl
    · replace h := of_f c9 h
      refine u_aload_n (pc := 12) hC dJ7_fill_d0a16_12 rfl 0 rfl ?_
      refine u_iload_n (pc := 13) hC dJ7_fill_d0a16_13 rfl 2 rfl ?_
      refine u_lload_n (pc := 14) hC dJ7_fill_d0a16_14 rfl 1 rfl ?_
      obtain ⟨b15, h⟩ := of_gd h
      obtain ⟨m15, q15, h⟩ := of_bd h
      refine u_last (pc := 15) hC hk0 (ln k0) rfl b15 dJ7_fill_d0a16_15 (Option.some.inj q15) ?_
      refine u_iinc (pc := 16) hC dJ7_fill_d0a16_16 2 rfl (v3_6 + 1) rfl [(3, .int (v3_6 + 1)), (0, .ref (gad (cG C) k0)), (1, .long a1), (4, .int v4_6)] (by decide) rfl ?_
      refine u_goto (pc := 19) hC 6 dJ7_fill_d0a16_19 (by decide) ?_
      obtain rfl := Option.some.inj h
      refine u_sub [1, 2, 0, 3] rfl ?_
      exact hP6 (v3_6 + 1, m15) rfl
  unfold f_J7_fill_d0a16 at h
  refine u_iconst (pc := 0) hC ic_0 dJ7_fill_d0a16_0 ?_
  refine u_istore_n (pc := 1) hC dJ7_fill_d0a16_1 rfl [(3, .int (0 : Int32)), (0, .ref (gad (cG C) k0)), (1, .long a1)] (by decide) rfl ?_
  refine u_aload_n (pc := 2) hC dJ7_fill_d0a16_2 rfl 1 rfl ?_
  refine u_alenL (pc := 3) hC hk0 dJ7_fill_d0a16_3 ?_
  refine u_istore (pc := 4) hC dJ7_fill_d0a16_4 [(4, .int (nI (ln k0))), (3, .int (0 : Int32)), (0, .ref (gad (cG C) k0)), (1, .long a1)] (by decide) rfl ?_
  obtain ⟨e6, l6, h⟩ := of_bd h
  refine u_sub [2, 3, 1, 0] rfl ?_
  refine lw6 (nI (ln k0)) e6 ((0 : Int32), μ) l6 ?_
  show UW C 5 e6 22 [] []
  obtain rfl := Option.some.inj h
  exact u_vret (pc := 22) hC hQ hr ⟨rfl, rfl⟩ dJ7_fill_d0a16_22
set_option maxHeartbeats 4000000 in
set_option maxRecDepth 100000 in
theorem c_X5_isBetter {l : Launch} {G : GG} {d : Nat} (hd : 2 ≤ d) {μ : Mem} {k0 : Nat} (hk0 : isC 5 k0) {a1 : Int32} {a2 : Int32} {r : Int32} (h : f_X5_isBetter μ k0 a1 a2 = some r) : CT l yX5_isBetter cX5_isBetter 3 (some .boolean) d G [.ref (gad G k0), .int a1, .int a2] μ (RK (some (.int r)) μ) := by
  refine ct_start (by decide) (Nat.le_of_ble_eq_true rfl) (fun C hl1 hG1 hC hQ hr => ?_)
  subst hl1; subst hG1
  have hC : CxOK C cX5_isBetter 3 RX5 d := hC
  show UW C 3 μ 0 [(0, .ref (gad (cG C) k0)), (1, .int a1), (2, .int a2)] []
  have jb22 : f_X5_isBetter_j22 μ k0 a1 a2 = some r → UW C 3 μ 22 [(0, .ref (gad (cG C) k0)), (2, .int a2)] [] := by
    intro h
    unfold f_X5_isBetter_j22 at h
    refine u_aload_n (pc := 22) hC dX5_isBetter_22 rfl 0 rfl ?_
    refine g_RX5_25 (pc := 23) hC hk0 dX5_isBetter_23 ?_
    refine u_iload_n (pc := 26) hC dX5_isBetter_26 rfl 1 rfl ?_
    obtain ⟨r27, q27, h⟩ := of_bd h
    refine k_RX5_103 (pc := 27) hC (av := [.int a2]) (rest := []) (c_X1_openIn (d := d - 1) (by omega) (rs_5_2 hk0) q27) (by omega) (Nat.le_of_ble_eq_true rfl) (rs_5_2 hk0) rfl rfl dX5_isBetter_27 ?_
    refine u_if_ne (pc := 30) hC (tgt := 37) dX5_isBetter_30 (by decide) (fun c30 => ?_) (fun c30 => ?_)
    · replace h := of_t c30 h
      refine u_iconst (pc := 37) hC ic_0 dX5_isBetter_37 ?_
      obtain rfl := Option.some.inj h
      exact u_zret (pc := 38) hC hQ hr (by decide) ⟨rfl, rfl⟩ dX5_isBetter_38
    · replace h := of_f (fun q => q c30) h
      refine u_iconst (pc := 33) hC ic_1 dX5_isBetter_33 ?_
      refine u_goto (pc := 34) hC 38 dX5_isBetter_34 (by decide) ?_
      obtain rfl := Option.some.inj h
      exact u_zret (pc := 38) hC hQ hr (by decide) ⟨rfl, rfl⟩ dX5_isBetter_38
  unfold f_X5_isBetter at h
  refine u_aload_n (pc := 0) hC dX5_isBetter_0 rfl 0 rfl ?_
  refine g_RX5_46 (pc := 1) hC hk0 dX5_isBetter_1 ?_
  refine u_if_eq (pc := 4) hC (tgt := 39) dX5_isBetter_4 (by decide) (fun c4 => ?_) (fun c4 => ?_)
  · replace h := of_t c4 h
    refine u_iload_n (pc := 39) hC dX5_isBetter_39 rfl 1 rfl ?_
    refine u_aload_n (pc := 40) hC dX5_isBetter_40 rfl 0 rfl ?_
    refine g_RX5_59 (pc := 41) hC hk0 dX5_isBetter_41 ?_
    refine u_icmp_le (pc := 44) hC (tgt := 51) dX5_isBetter_44 (by decide) (fun c44 => ?_) (fun c44 => ?_)
    · replace h := of_t c44 h
      refine u_iconst (pc := 51) hC ic_0 dX5_isBetter_51 ?_
      obtain rfl := Option.some.inj h
      exact u_zret (pc := 52) hC hQ hr (by decide) ⟨rfl, rfl⟩ dX5_isBetter_52
    · replace h := of_f c44 h
      refine u_iconst (pc := 47) hC ic_1 dX5_isBetter_47 ?_
      refine u_goto (pc := 48) hC 52 dX5_isBetter_48 (by decide) ?_
      obtain rfl := Option.some.inj h
      exact u_zret (pc := 52) hC hQ hr (by decide) ⟨rfl, rfl⟩ dX5_isBetter_52
  · replace h := of_f c4 h
    refine u_aload_n (pc := 7) hC dX5_isBetter_7 rfl 0 rfl ?_
    refine g_RX5_59 (pc := 8) hC hk0 dX5_isBetter_8 ?_
    refine u_if_lt (pc := 11) hC (tgt := 22) dX5_isBetter_11 (by decide) (fun c11 => ?_) (fun c11 => ?_)
    · replace h := of_t c11 h
      refine u_sub [0, 2] rfl ?_
      exact jb22 h
    · replace h := of_f c11 h
      refine u_iload_n (pc := 14) hC dX5_isBetter_14 rfl 1 rfl ?_
      refine u_aload_n (pc := 15) hC dX5_isBetter_15 rfl 0 rfl ?_
      refine g_RX5_59 (pc := 16) hC hk0 dX5_isBetter_16 ?_
      refine u_icmp_ge (pc := 19) hC (tgt := 37) dX5_isBetter_19 (by decide) (fun c19 => ?_) (fun c19 => ?_)
      · replace h := of_t c19 h
        refine u_iconst (pc := 37) hC ic_0 dX5_isBetter_37 ?_
        obtain rfl := Option.some.inj h
        exact u_zret (pc := 38) hC hQ hr (by decide) ⟨rfl, rfl⟩ dX5_isBetter_38
      · replace h := of_f c19 h
        refine u_sub [0, 2] rfl ?_
        exact jb22 h
set_option maxHeartbeats 4000000 in
set_option maxRecDepth 100000 in
theorem c_X5_isAsGoodAsCanBe {l : Launch} {G : GG} {d : Nat} (hd : 0 ≤ d) {μ : Mem} {k0 : Nat} (hk0 : isC 5 k0) {a1 : Int32} {r : Int32} (h : f_X5_isAsGoodAsCanBe μ k0 a1 = some r) : CT l yX5_isAsGoodAsCanBe cX5_isAsGoodAsCanBe 2 (some .boolean) d G [.ref (gad G k0), .int a1] μ (RK (some (.int r)) μ) := by
  refine ct_start (by decide) (Nat.le_of_ble_eq_true rfl) (fun C hl1 hG1 hC hQ hr => ?_)
  subst hl1; subst hG1
  have hC : CxOK C cX5_isAsGoodAsCanBe 2 RX5 d := hC
  show UW C 2 μ 0 [(0, .ref (gad (cG C) k0)), (1, .int a1)] []
  unfold f_X5_isAsGoodAsCanBe at h
  refine u_aload_n (pc := 0) hC dX5_isAsGoodAsCanBe_0 rfl 0 rfl ?_
  refine g_RX5_46 (pc := 1) hC hk0 dX5_isAsGoodAsCanBe_1 ?_
  refine u_if_eq (pc := 4) hC (tgt := 32) dX5_isAsGoodAsCanBe_4 (by decide) (fun c4 => ?_) (fun c4 => ?_)
  · replace h := of_t c4 h
    refine u_aload_n (pc := 32) hC dX5_isAsGoodAsCanBe_32 rfl 0 rfl ?_
    refine g_RX5_59 (pc := 33) hC hk0 dX5_isAsGoodAsCanBe_33 ?_
    refine u_aload_n (pc := 36) hC dX5_isAsGoodAsCanBe_36 rfl 0 rfl ?_
    refine g_RX5_56 (pc := 37) hC hk0 dX5_isAsGoodAsCanBe_37 ?_
    refine u_icmp_lt (pc := 40) hC (tgt := 47) dX5_isAsGoodAsCanBe_40 (by decide) (fun c40 => ?_) (fun c40 => ?_)
    · replace h := of_t c40 h
      refine u_iconst (pc := 47) hC ic_0 dX5_isAsGoodAsCanBe_47 ?_
      obtain rfl := Option.some.inj h
      exact u_zret (pc := 48) hC hQ hr (by decide) ⟨rfl, rfl⟩ dX5_isAsGoodAsCanBe_48
    · replace h := of_f c40 h
      refine u_iconst (pc := 43) hC ic_1 dX5_isAsGoodAsCanBe_43 ?_
      refine u_goto (pc := 44) hC 48 dX5_isAsGoodAsCanBe_44 (by decide) ?_
      obtain rfl := Option.some.inj h
      exact u_zret (pc := 48) hC hQ hr (by decide) ⟨rfl, rfl⟩ dX5_isAsGoodAsCanBe_48
  · replace h := of_f c4 h
    refine u_aload_n (pc := 7) hC dX5_isAsGoodAsCanBe_7 rfl 0 rfl ?_
    refine g_RX5_59 (pc := 8) hC hk0 dX5_isAsGoodAsCanBe_8 ?_
    refine u_if_lt (pc := 11) hC (tgt := 28) dX5_isAsGoodAsCanBe_11 (by decide) (fun c11 => ?_) (fun c11 => ?_)
    · replace h := of_t c11 h
      refine u_iconst (pc := 28) hC ic_0 dX5_isAsGoodAsCanBe_28 ?_
      refine u_goto (pc := 29) hC 48 dX5_isAsGoodAsCanBe_29 (by decide) ?_
      obtain rfl := Option.some.inj h
      exact u_zret (pc := 48) hC hQ hr (by decide) ⟨rfl, rfl⟩ dX5_isAsGoodAsCanBe_48
    · replace h := of_f c11 h
      refine u_iload_n (pc := 14) hC dX5_isAsGoodAsCanBe_14 rfl 1 rfl ?_
      refine u_iconst (pc := 15) hC ic_1 dX5_isAsGoodAsCanBe_15 ?_
      refine u_iadd (pc := 16) hC dX5_isAsGoodAsCanBe_16 ?_
      refine u_aload_n (pc := 17) hC dX5_isAsGoodAsCanBe_17 rfl 0 rfl ?_
      refine g_RX5_59 (pc := 18) hC hk0 dX5_isAsGoodAsCanBe_18 ?_
      refine u_icmp_lt (pc := 21) hC (tgt := 28) dX5_isAsGoodAsCanBe_21 (by decide) (fun c21 => ?_) (fun c21 => ?_)
      · replace h := of_t c21 h
        refine u_iconst (pc := 28) hC ic_0 dX5_isAsGoodAsCanBe_28 ?_
        refine u_goto (pc := 29) hC 48 dX5_isAsGoodAsCanBe_29 (by decide) ?_
        obtain rfl := Option.some.inj h
        exact u_zret (pc := 48) hC hQ hr (by decide) ⟨rfl, rfl⟩ dX5_isAsGoodAsCanBe_48
      · replace h := of_f c21 h
        refine u_iconst (pc := 24) hC ic_1 dX5_isAsGoodAsCanBe_24 ?_
        refine u_goto (pc := 25) hC 48 dX5_isAsGoodAsCanBe_25 (by decide) ?_
        obtain rfl := Option.some.inj h
        exact u_zret (pc := 48) hC hQ hr (by decide) ⟨rfl, rfl⟩ dX5_isAsGoodAsCanBe_48
set_option maxHeartbeats 4000000 in
set_option maxRecDepth 100000 in
theorem c_X5_lateness {l : Launch} {G : GG} {d : Nat} (hd : 2 ≤ d) {μ : Mem} {k0 : Nat} (hk0 : isC 5 k0) {a1 : Int32} {r : Int64} (h : f_X5_lateness μ k0 a1 = some r) : CT l yX5_lateness cX5_lateness 6 (some .long) d G [.ref (gad G k0), .int a1] μ (RK (some (.long r)) μ) := by
  refine ct_start (by decide) (Nat.le_of_ble_eq_true rfl) (fun C hl1 hG1 hC hQ hr => ?_)
  subst hl1; subst hG1
  have hC : CxOK C cX5_lateness 6 RX5 d := hC
  show UW C 6 μ 0 [(0, .ref (gad (cG C) k0)), (1, .int a1)] []
  have lw14 : ∀ (v2_14 : Int32) (e : (Int64)) (s : Int64 × Int32), lp (fun s => f_X5_lateness_l14 μ k0 a1 v2_14 s.1 s.2) FU s = some e → (fun (e : (Int64)) => UW C 6 μ 64 [(3, .long e)] []) e → UW C 6 μ 14 [(0, .ref (gad (cG C) k0)), (2, .int v2_14), (3, .long s.1), (5, .int s.2)] [] := by
    intro v2_14 e s hl hE0
    refine @lp_walk (Int64 × Int32) (Int64) (fun s => f_X5_lateness_l14 μ k0 a1 v2_14 s.1 s.2) (fun s => UW C 6 μ 14 [(0, .ref (gad (cG C) k0)), (2, .int v2_14), (3, .long s.1), (5, .int s.2)] []) (fun (e : (Int64)) => UW C 6 μ 64 [(3, .long e)] []) (fun s y14 h hP14 hE14 => ?_) FU s e hl hE0
    obtain ⟨v3_14, v5_14⟩ := s
    replace h : f_X5_lateness_l14 μ k0 a1 v2_14 v3_14 v5_14 = some y14 := h
    show UW C 6 μ 14 [(0, .ref (gad (cG C) k0)), (2, .int v2_14), (3, .long v3_14), (5, .int v5_14)] []
    unfold f_X5_lateness_l14 at h
    refine u_iload (pc := 14) hC dX5_lateness_14 3 rfl ?_
    refine u_bipush (pc := 16) hC bc_8 dX5_lateness_16 ?_
    refine u_icmp_ge (pc := 18) hC (tgt := 64) dX5_lateness_18 (by decide) (fun c18 => ?_) (fun c18 => ?_)
    · replace h := of_t c18 h
      obtain rfl := Option.some.inj h
      refine u_sub [2] rfl ?_
      exact hE14 v3_14 rfl
    · replace h := of_f c18 h
      refine u_iload_n (pc := 21) hC dX5_lateness_21 rfl 1 rfl ?_
      refine u_iload (pc := 22) hC dX5_lateness_22 3 rfl ?_
      refine u_ishr (pc := 24) hC dX5_lateness_24 ?_
      refine u_iconst (pc := 25) hC ic_1 dX5_lateness_25 ?_
      refine u_iand (pc := 26) hC dX5_lateness_26 ?_
      refine u_iconst (pc := 27) hC ic_1 dX5_lateness_27 ?_
      refine u_icmp_ne (pc := 28) hC (tgt := 58) dX5_lateness_28 (by decide) (fun c28 => ?_) (fun c28 => ?_)
      · replace h := of_t c28 h
        refine u_iinc (pc := 58) hC dX5_lateness_58 3 rfl (v5_14 + 1) rfl [(5, .int (v5_14 + 1)), (0, .ref (gad (cG C) k0)), (2, .int v2_14), (3, .long v3_14)] (by decide) rfl ?_
        refine u_goto (pc := 61) hC 14 dX5_lateness_61 (by decide) ?_
        obtain rfl := Option.some.inj h
        refine u_sub [1, 2, 3, 0] rfl ?_
        exact hP14 (v3_14, v5_14 + 1) rfl
      · replace h := of_f (fun q => q c28) h
        refine u_lload_n (pc := 31) hC dX5_lateness_31 rfl 2 rfl ?_
        refine u_iconst (pc := 32) hC ic_0 dX5_lateness_32 ?_
        refine u_aload_n (pc := 33) hC dX5_lateness_33 rfl 0 rfl ?_
        refine g_RX5_18 (pc := 34) hC hk0 dX5_lateness_34 ?_
        refine u_iload (pc := 37) hC dX5_lateness_37 3 rfl ?_
        obtain ⟨b39, h⟩ := of_gd h
        refine u_iald (pc := 39) hC (rs_5_4 hk0) 8 (rn_5_4 hk0) b39 dX5_lateness_39 ?_
        refine u_aload_n (pc := 40) hC dX5_lateness_40 rfl 0 rfl ?_
        refine g_RX5_43 (pc := 41) hC hk0 dX5_lateness_41 ?_
        refine u_isub (pc := 44) hC dX5_lateness_44 ?_
        refine u_iconst (pc := 45) hC ic_1 dX5_lateness_45 ?_
        refine u_iadd (pc := 46) hC dX5_lateness_46 ?_
        refine u_mmax (pc := 47) hC mL_RX5_115 mK_max mI_RJ9 mB_max (Nat.le_of_ble_eq_true rfl) dX5_lateness_47 ?_
        refine u_i2l (pc := 50) hC dX5_lateness_50 ?_
        refine u_iconst (pc := 51) hC ic_4 dX5_lateness_51 ?_
        refine u_iload (pc := 52) hC dX5_lateness_52 3 rfl ?_
        refine u_imul (pc := 54) hC dX5_lateness_54 ?_
        refine u_lshl (pc := 55) hC dX5_lateness_55 ?_
        refine u_lor (pc := 56) hC dX5_lateness_56 ?_
        refine u_lstore_n (pc := 57) hC dX5_lateness_57 rfl [(3, .long (v3_14 ||| (jlshl ((jmax (0 : Int32) (((rd μ (rf k0 4) v5_14.toNatClampNeg) - (rd μ k0 10)) + (1 : Int32))).toInt64) ((4 : Int32) * v5_14)))), (0, .ref (gad (cG C) k0)), (2, .int v2_14), (5, .int v5_14)] (by decide) rfl ?_
        refine u_iinc (pc := 58) hC dX5_lateness_58 3 rfl (v5_14 + 1) rfl [(5, .int (v5_14 + 1)), (3, .long (v3_14 ||| (jlshl ((jmax (0 : Int32) (((rd μ (rf k0 4) v5_14.toNatClampNeg) - (rd μ k0 10)) + (1 : Int32))).toInt64) ((4 : Int32) * v5_14)))), (0, .ref (gad (cG C) k0)), (2, .int v2_14)] (by decide) rfl ?_
        refine u_goto (pc := 61) hC 14 dX5_lateness_61 (by decide) ?_
        obtain rfl := Option.some.inj h
        refine u_sub [2, 3, 1, 0] rfl ?_
        exact hP14 (v3_14 ||| (jlshl ((jmax (0 : Int32) (((rd μ (rf k0 4) v5_14.toNatClampNeg) - (rd μ k0 10)) + (1 : Int32))).toInt64) ((4 : Int32) * v5_14)), v5_14 + 1) rfl
  unfold f_X5_lateness at h
  refine u_aload_n (pc := 0) hC dX5_lateness_0 rfl 0 rfl ?_
  refine g_RX5_25 (pc := 1) hC hk0 dX5_lateness_1 ?_
  refine u_iload_n (pc := 4) hC dX5_lateness_4 rfl 1 rfl ?_
  obtain ⟨r5, q5, h⟩ := of_bd h
  refine k_RX5_103 (pc := 5) hC (av := [.int a1]) (rest := []) (c_X1_openIn (d := d - 1) (by omega) (rs_5_2 hk0) q5) (by omega) (Nat.le_of_ble_eq_true rfl) (rs_5_2 hk0) rfl rfl dX5_lateness_5 ?_
  refine u_istore_n (pc := 8) hC dX5_lateness_8 rfl [(2, .int r5), (0, .ref (gad (cG C) k0)), (1, .int a1)] (by decide) rfl ?_
  refine u_lconst (pc := 9) hC (v := (0 : Int64)) rfl dX5_lateness_9 ?_
  refine u_lstore_n (pc := 10) hC dX5_lateness_10 rfl [(3, .long (0 : Int64)), (2, .int r5), (0, .ref (gad (cG C) k0)), (1, .int a1)] (by decide) rfl ?_
  refine u_iconst (pc := 11) hC ic_0 dX5_lateness_11 ?_
  refine u_istore (pc := 12) hC dX5_lateness_12 [(5, .int (0 : Int32)), (3, .long (0 : Int64)), (2, .int r5), (0, .ref (gad (cG C) k0)), (1, .int a1)] (by decide) rfl ?_
  obtain ⟨e14, l14, h⟩ := of_bd h
  refine u_sub [3, 2, 1, 0] rfl ?_
  refine lw14 r5 e14 ((0 : Int64), (0 : Int32)) l14 ?_
  show UW C 6 μ 64 [(3, .long e14)] []
  refine u_lload_n (pc := 64) hC dX5_lateness_64 rfl 0 rfl ?_
  obtain rfl := Option.some.inj h
  exact u_lret (pc := 65) hC hQ hr ⟨rfl, rfl⟩ dX5_lateness_65
set_option maxHeartbeats 4000000 in
set_option maxRecDepth 100000 in
theorem c_X5_isNoLater {l : Launch} {G : GG} {d : Nat} (hd : 0 ≤ d) {μ : Mem} {a0 : Int64} {a2 : Int64} {r : Int32} (h : f_X5_isNoLater a0 a2 = some r) : CT l yX5_isNoLater cX5_isNoLater 5 (some .boolean) d G [.long a0, .long a2] μ (RK (some (.int r)) μ) := by
  refine ct_start (by decide) (Nat.le_of_ble_eq_true rfl) (fun C hl1 hG1 hC hQ hr => ?_)
  subst hl1; subst hG1
  have hC : CxOK C cX5_isNoLater 5 RX5 d := hC
  show UW C 5 μ 0 [(0, .long a0), (2, .long a2)] []
  have lw3 : ∀ (e : (Unit ⊕ Unit)) (s : Int32), lp (fun s => f_X5_isNoLater_l3 a0 a2 s) FU s = some e → (Sum.elim (fun (e : Unit) => UW C 5 μ 34 [] []) (fun (e : Unit) => UW C 5 μ 42 [] [])) e → UW C 5 μ 3 [(0, .long a0), (2, .long a2), (4, .int s)] [] := by
    intro e s hl hE0
    refine @lp_walk (Int32) (Unit ⊕ Unit) (fun s => f_X5_isNoLater_l3 a0 a2 s) (fun s => UW C 5 μ 3 [(0, .long a0), (2, .long a2), (4, .int s)] []) (Sum.elim (fun (e : Unit) => UW C 5 μ 34 [] []) (fun (e : Unit) => UW C 5 μ 42 [] [])) (fun v4_3 y3 h hP3 hE3 => ?_) FU s e hl hE0
    replace h : f_X5_isNoLater_l3 a0 a2 v4_3 = some y3 := h
    show UW C 5 μ 3 [(0, .long a0), (2, .long a2), (4, .int v4_3)] []
    unfold f_X5_isNoLater_l3 at h
    refine u_iload (pc := 3) hC dX5_isNoLater_3 2 rfl ?_
    refine u_bipush (pc := 5) hC bc_8 dX5_isNoLater_5 ?_
    refine u_icmp_ge (pc := 7) hC (tgt := 42) dX5_isNoLater_7 (by decide) (fun c7 => ?_) (fun c7 => ?_)
    · replace h := of_t c7 h
      obtain rfl := Option.some.inj h
      refine u_sub [] rfl ?_
      exact hE3 (.inr ()) rfl
    · replace h := of_f c7 h
      refine u_lload_n (pc := 10) hC dX5_isNoLater_10 rfl 0 rfl ?_
      refine u_iconst (pc := 11) hC ic_4 dX5_isNoLater_11 ?_
      refine u_iload (pc := 12) hC dX5_isNoLater_12 2 rfl ?_
      refine u_imul (pc := 14) hC dX5_isNoLater_14 ?_
      refine u_lshr (pc := 15) hC dX5_isNoLater_15 ?_
      refine u_ldc2 (pc := 16) hC (v := (15 : Int64)) mQ_RX5_121 dX5_isNoLater_16 ?_
      refine u_land (pc := 19) hC dX5_isNoLater_19 ?_
      refine u_lload_n (pc := 20) hC dX5_isNoLater_20 rfl 1 rfl ?_
      refine u_iconst (pc := 21) hC ic_4 dX5_isNoLater_21 ?_
      refine u_iload (pc := 22) hC dX5_isNoLater_22 2 rfl ?_
      refine u_imul (pc := 24) hC dX5_isNoLater_24 ?_
      refine u_lshr (pc := 25) hC dX5_isNoLater_25 ?_
      refine u_ldc2 (pc := 26) hC (v := (15 : Int64)) mQ_RX5_121 dX5_isNoLater_26 ?_
      refine u_land (pc := 29) hC dX5_isNoLater_29 ?_
      refine u_lcmp (pc := 30) hC dX5_isNoLater_30 ?_
      refine u_if_le (pc := 31) hC (tgt := 36) dX5_isNoLater_31 (by decide) (fun c31 => ?_) (fun c31 => ?_)
      · replace h := of_t c31 h
        refine u_iinc (pc := 36) hC dX5_isNoLater_36 2 rfl (v4_3 + 1) rfl [(4, .int (v4_3 + 1)), (0, .long a0), (2, .long a2)] (by decide) rfl ?_
        refine u_goto (pc := 39) hC 3 dX5_isNoLater_39 (by decide) ?_
        obtain rfl := Option.some.inj h
        refine u_sub [1, 2, 0] rfl ?_
        exact hP3 (v4_3 + 1) rfl
      · replace h := of_f c31 h
        obtain rfl := Option.some.inj h
        refine u_sub [] rfl ?_
        exact hE3 (.inl ()) rfl
  unfold f_X5_isNoLater at h
  refine u_iconst (pc := 0) hC ic_0 dX5_isNoLater_0 ?_
  refine u_istore (pc := 1) hC dX5_isNoLater_1 [(4, .int (0 : Int32)), (0, .long a0), (2, .long a2)] (by decide) rfl ?_
  obtain ⟨e3, l3, h⟩ := of_bd h
  refine u_sub [1, 2, 0] rfl ?_
  refine lw3  e3 (0 : Int32) l3 ?_
  rcases e3 with e3 | e3
  · replace h := of_el h
    show UW C 5 μ 34 [] []
    refine u_iconst (pc := 34) hC ic_0 dX5_isNoLater_34 ?_
    obtain rfl := Option.some.inj h
    exact u_zret (pc := 35) hC hQ hr (by decide) ⟨rfl, rfl⟩ dX5_isNoLater_35
  · replace h := of_er h
    show UW C 5 μ 42 [] []
    refine u_iconst (pc := 42) hC ic_1 dX5_isNoLater_42 ?_
    obtain rfl := Option.some.inj h
    exact u_zret (pc := 43) hC hQ hr (by decide) ⟨rfl, rfl⟩ dX5_isNoLater_43
set_option maxHeartbeats 4000000 in
set_option maxRecDepth 100000 in
theorem c_X5_wasSeen {l : Launch} {G : GG} {d : Nat} (hd : 3 ≤ d) {μ : Mem} {k0 : Nat} (hk0 : isC 5 k0) {a1 : Int32} {r : Int32 × Mem} (h : f_X5_wasSeen μ k0 a1 = some r) : CT l yX5_wasSeen cX5_wasSeen 4 (some .boolean) d G [.ref (gad G k0), .int a1] μ (RK (some (.int r.1)) r.2) := by
  refine ct_start (by decide) (Nat.le_of_ble_eq_true rfl) (fun C hl1 hG1 hC hQ hr => ?_)
  subst hl1; subst hG1
  have hC : CxOK C cX5_wasSeen 4 RX5 d := hC
  show UW C 4 μ 0 [(0, .ref (gad (cG C) k0)), (1, .int a1)] []
  have jb47 : ∀ (μ_47 : Mem) (v2_47 : Int64), f_X5_wasSeen_j47 μ_47 k0 a1 v2_47 = some r → UW C 4 μ_47 47 [(0, .ref (gad (cG C) k0)), (1, .int a1), (2, .long v2_47)] [] := by
    intro μ_47 v2_47 h
    unfold f_X5_wasSeen_j47 at h
    refine u_aload_n (pc := 47) hC dX5_wasSeen_47 rfl 0 rfl ?_
    refine g_RX5_21 (pc := 48) hC hk0 dX5_wasSeen_48 ?_
    refine u_iload_n (pc := 51) hC dX5_wasSeen_51 rfl 1 rfl ?_
    refine u_lload_n (pc := 52) hC dX5_wasSeen_52 rfl 2 rfl ?_
    obtain ⟨b53, h⟩ := of_gd h
    obtain ⟨m53, q53, h⟩ := of_bd h
    refine u_last (pc := 53) hC (rs_5_5 hk0) 256 (rn_5_5 hk0) b53 dX5_wasSeen_53 (Option.some.inj q53) ?_
    refine u_iconst (pc := 54) hC ic_0 dX5_wasSeen_54 ?_
    obtain rfl := Option.some.inj h
    exact u_zret (pc := 55) hC hQ hr (by decide) ⟨rfl, rfl⟩ dX5_wasSeen_55
  unfold f_X5_wasSeen at h
  refine u_iload_n (pc := 0) hC dX5_wasSeen_0 rfl 1 rfl ?_
  refine u_if_lt (pc := 1) hC (tgt := 11) dX5_wasSeen_1 (by decide) (fun c1 => ?_) (fun c1 => ?_)
  · replace h := of_t c1 h
    refine u_iconst (pc := 11) hC ic_1 dX5_wasSeen_11 ?_
    obtain rfl := Option.some.inj h
    exact u_zret (pc := 12) hC hQ hr (by decide) ⟨rfl, rfl⟩ dX5_wasSeen_12
  · replace h := of_f c1 h
    refine u_iload_n (pc := 4) hC dX5_wasSeen_4 rfl 1 rfl ?_
    refine u_sipush (pc := 5) hC sc_256 dX5_wasSeen_5 ?_
    refine u_icmp_lt (pc := 8) hC (tgt := 13) dX5_wasSeen_8 (by decide) (fun c8 => ?_) (fun c8 => ?_)
    · replace h := of_t c8 h
      refine u_aload_n (pc := 13) hC dX5_wasSeen_13 rfl 0 rfl ?_
      refine u_iload_n (pc := 14) hC dX5_wasSeen_14 rfl 1 rfl ?_
      obtain ⟨r15, q15, h⟩ := of_bd h
      refine k_RX5_107 (pc := 15) hC (av := [.int a1]) (rest := []) (c_X5_lateness (d := d - 1) (by omega) hk0 q15) (by omega) (Nat.le_of_ble_eq_true rfl) hk0 rfl rfl dX5_wasSeen_15 ?_
      refine u_lstore_n (pc := 18) hC dX5_wasSeen_18 rfl [(2, .long r15), (0, .ref (gad (cG C) k0)), (1, .int a1)] (by decide) rfl ?_
      refine u_aload_n (pc := 19) hC dX5_wasSeen_19 rfl 1 rfl ?_
      refine g_RX5_21 (pc := 20) hC hk0 dX5_wasSeen_20 ?_
      refine u_iload_n (pc := 23) hC dX5_wasSeen_23 rfl 2 rfl ?_
      obtain ⟨b24, h⟩ := of_gd h
      refine u_lald (pc := 24) hC (rs_5_5 hk0) 256 (rn_5_5 hk0) b24 dX5_wasSeen_24 ?_
      refine u_ldc2 (pc := 25) hC (v := (-1 : Int64)) mQ_RX5_69 dX5_wasSeen_25 ?_
      refine u_lcmp (pc := 28) hC dX5_wasSeen_28 ?_
      refine u_if_eq (pc := 29) hC (tgt := 47) dX5_wasSeen_29 (by decide) (fun c29 => ?_) (fun c29 => ?_)
      · replace h := of_t c29 h
        refine u_sub [1, 2, 0] rfl ?_
        exact jb47 μ r15 h
      · replace h := of_f c29 h
        refine u_lload_n (pc := 32) hC dX5_wasSeen_32 rfl 0 rfl ?_
        refine u_aload_n (pc := 33) hC dX5_wasSeen_33 rfl 1 rfl ?_
        refine g_RX5_21 (pc := 34) hC hk0 dX5_wasSeen_34 ?_
        refine u_iload_n (pc := 37) hC dX5_wasSeen_37 rfl 2 rfl ?_
        obtain ⟨b38, h⟩ := of_gd h
        refine u_lald (pc := 38) hC (rs_5_5 hk0) 256 (rn_5_5 hk0) b38 dX5_wasSeen_38 ?_
        obtain ⟨r39, q39, h⟩ := of_bd h
        refine k_RX5_111 (pc := 39) hC (av := [.long r15, .long (rl μ (rf k0 5) a1.toNatClampNeg)]) (rest := []) (c_X5_isNoLater (d := d - 1) (by omega)  q39) (by omega) (Nat.le_of_ble_eq_true rfl) rfl rfl dX5_wasSeen_39 ?_
        refine u_if_eq (pc := 42) hC (tgt := 47) dX5_wasSeen_42 (by decide) (fun c42 => ?_) (fun c42 => ?_)
        · replace h := of_t c42 h
          refine u_sub [1, 2, 0] rfl ?_
          exact jb47 μ r15 h
        · replace h := of_f c42 h
          refine u_iconst (pc := 45) hC ic_1 dX5_wasSeen_45 ?_
          obtain rfl := Option.some.inj h
          exact u_zret (pc := 46) hC hQ hr (by decide) ⟨rfl, rfl⟩ dX5_wasSeen_46
    · replace h := of_f c8 h
      refine u_iconst (pc := 11) hC ic_1 dX5_wasSeen_11 ?_
      obtain rfl := Option.some.inj h
      exact u_zret (pc := 12) hC hQ hr (by decide) ⟨rfl, rfl⟩ dX5_wasSeen_12
set_option maxHeartbeats 4000000 in
set_option maxRecDepth 100000 in
theorem w_X5_goOn (g_X5_goOn : Mem → Nat → Int32 → Int32 → Option Mem) {n : Nat} (ih_X5_goOn : ∀ {l : Launch} {G : GG} {d : Nat} (hd : n + 4 ≤ d) {μ : Mem} {k0 : Nat} (hk0 : isC 5 k0) {a1 : Int32} {a2 : Int32} {r : Mem} (h : g_X5_goOn μ k0 a1 a2 = some r), CT l yX5_goOn cX5_goOn 6 none d G [.ref (gad G k0), .int a1, .int a2] μ (RK none r)) {l : Launch} {G : GG} {d : Nat} (hd : n + 1 + 4 ≤ d) {μ : Mem} {k0 : Nat} (hk0 : isC 5 k0) {a1 : Int32} {a2 : Int32} {r : Mem} (h : F_X5_goOn g_X5_goOn μ k0 a1 a2 = some r) : CT l yX5_goOn cX5_goOn 6 none d G [.ref (gad G k0), .int a1, .int a2] μ (RK none r) := by
  refine ct_start (by decide) (Nat.le_of_ble_eq_true rfl) (fun C hl1 hG1 hC hQ hr => ?_)
  subst hl1; subst hG1
  have hC : CxOK C cX5_goOn 6 RX5 d := hC
  show UW C 6 μ 0 [(0, .ref (gad (cG C) k0)), (1, .int a1), (2, .int a2)] []
  have lw76 : ∀ (v3_76 : Int32) (e : (Mem)) (s : Int32 × Mem), lp (fun s => F_X5_goOn_l76 g_X5_goOn k0 a1 a2 v3_76 s.1 s.2) FU s = some e → (fun (e : (Mem)) => UW C 6 e 159 [] []) e → UW C 6 s.2 76 [(0, .ref (gad (cG C) k0)), (1, .int a1), (2, .int a2), (3, .int v3_76), (4, .int s.1)] [] := by
    intro v3_76 e s hl hE0
    refine @lp_walk (Int32 × Mem) (Mem) (fun s => F_X5_goOn_l76 g_X5_goOn k0 a1 a2 v3_76 s.1 s.2) (fun s => UW C 6 s.2 76 [(0, .ref (gad (cG C) k0)), (1, .int a1), (2, .int a2), (3, .int v3_76), (4, .int s.1)] []) (fun (e : (Mem)) => UW C 6 e 159 [] []) (fun s y76 h hP76 hE76 => ?_) FU s e hl hE0
    obtain ⟨v4_76, μ_76⟩ := s
    replace h : F_X5_goOn_l76 g_X5_goOn k0 a1 a2 v3_76 v4_76 μ_76 = some y76 := h
    show UW C 6 μ_76 76 [(0, .ref (gad (cG C) k0)), (1, .int a1), (2, .int a2), (3, .int v3_76), (4, .int v4_76)] []
    unfold F_X5_goOn_l76 at h
    refine u_iload (pc := 76) hC dX5_goOn_76 4 rfl ?_
    refine u_bipush (pc := 78) hC bc_8 dX5_goOn_78 ?_
    refine u_icmp_ge (pc := 80) hC (tgt := 159) dX5_goOn_80 (by decide) (fun c80 => ?_) (fun c80 => ?_)
    · replace h := of_t c80 h
      obtain rfl := Option.some.inj h
      refine u_sub [] rfl ?_
      exact hE76 μ_76 rfl
    · replace h := of_f c80 h
      refine u_iload_n (pc := 83) hC dX5_goOn_83 rfl 3 rfl ?_
      refine u_iload (pc := 84) hC dX5_goOn_84 4 rfl ?_
      refine u_ishr (pc := 86) hC dX5_goOn_86 ?_
      refine u_iconst (pc := 87) hC ic_1 dX5_goOn_87 ?_
      refine u_iand (pc := 88) hC dX5_goOn_88 ?_
      refine u_iconst (pc := 89) hC ic_1 dX5_goOn_89 ?_
      refine u_icmp_ne (pc := 90) hC (tgt := 153) dX5_goOn_90 (by decide) (fun c90 => ?_) (fun c90 => ?_)
      · replace h := of_t c90 h
        refine u_iinc (pc := 153) hC dX5_goOn_153 4 rfl (v4_76 + 1) rfl [(4, .int (v4_76 + 1)), (0, .ref (gad (cG C) k0)), (1, .int a1), (2, .int a2), (3, .int v3_76)] (by decide) rfl ?_
        refine u_goto (pc := 156) hC 76 dX5_goOn_156 (by decide) ?_
        obtain rfl := Option.some.inj h
        refine u_sub [1, 2, 3, 4, 0] rfl ?_
        exact hP76 (v4_76 + 1, μ_76) rfl
      · replace h := of_f (fun q => q c90) h
        refine u_aload_n (pc := 93) hC dX5_goOn_93 rfl 0 rfl ?_
        refine g_RX5_15 (pc := 94) hC hk0 dX5_goOn_94 ?_
        refine u_iload_n (pc := 97) hC dX5_goOn_97 rfl 1 rfl ?_
        refine u_iload (pc := 98) hC dX5_goOn_98 4 rfl ?_
        obtain ⟨b100, h⟩ := of_gd h
        obtain ⟨m100, q100, h⟩ := of_bd h
        refine u_iast (pc := 100) hC (rs_5_3 hk0) 8 (rn_5_3 hk0) b100 dX5_goOn_100 (Option.some.inj q100) ?_
        refine u_aload_n (pc := 101) hC dX5_goOn_101 rfl 0 rfl ?_
        refine g_RX5_18 (pc := 102) hC hk0 dX5_goOn_102 ?_
        refine u_iload (pc := 105) hC dX5_goOn_105 4 rfl ?_
        refine u_aload_n (pc := 107) hC dX5_goOn_107 rfl 0 rfl ?_
        refine g_RX5_43 (pc := 108) hC hk0 dX5_goOn_108 ?_
        refine u_iload_n (pc := 111) hC dX5_goOn_111 rfl 1 rfl ?_
        refine u_iadd (pc := 112) hC dX5_goOn_112 ?_
        obtain ⟨b113, h⟩ := of_gd h
        obtain ⟨m113, q113, h⟩ := of_bd h
        refine u_iast (pc := 113) hC (rs_5_4 hk0) 8 (rn_5_4 hk0) b113 dX5_goOn_113 (Option.some.inj q113) ?_
        refine u_iload_n (pc := 114) hC dX5_goOn_114 rfl 2 rfl ?_
        refine u_iconst (pc := 115) hC ic_1 dX5_goOn_115 ?_
        refine u_iload (pc := 116) hC dX5_goOn_116 4 rfl ?_
        refine u_ishl (pc := 118) hC dX5_goOn_118 ?_
        refine u_ior (pc := 119) hC dX5_goOn_119 ?_
        refine u_istore (pc := 120) hC dX5_goOn_120 [(5, .int (a2 ||| (jshl (1 : Int32) v4_76))), (0, .ref (gad (cG C) k0)), (1, .int a1), (2, .int a2), (3, .int v3_76), (4, .int v4_76)] (by decide) rfl ?_
        refine u_aload_n (pc := 122) hC dX5_goOn_122 rfl 1 rfl ?_
        refine g_RX5_25 (pc := 123) hC hk0 dX5_goOn_123 ?_
        refine u_iload (pc := 126) hC dX5_goOn_126 0 rfl ?_
        refine u_aload_n (pc := 128) hC dX5_goOn_128 rfl 1 rfl ?_
        refine g_RX5_18 (pc := 129) hC hk0 dX5_goOn_129 ?_
        refine u_aload_n (pc := 132) hC dX5_goOn_132 rfl 1 rfl ?_
        refine g_RX5_43 (pc := 133) hC hk0 dX5_goOn_133 ?_
        refine u_iload_n (pc := 136) hC dX5_goOn_136 rfl 2 rfl ?_
        refine u_iadd (pc := 137) hC dX5_goOn_137 ?_
        obtain ⟨r138, q138, h⟩ := of_bd h
        refine k_RX5_99 (pc := 138) hC (av := [.int (a2 ||| (jshl (1 : Int32) v4_76)), .ref (gad (cG C) (rf k0 4)), .int ((rd m113 k0 10) + a1)]) (rest := []) (c_X1_anyOverdue (d := d - 1) (by omega) (rs_5_2 hk0) (rs_5_4 hk0) q138) (by omega) (Nat.le_of_ble_eq_true rfl) (rs_5_2 hk0) rfl rfl dX5_goOn_138 ?_
        refine u_if_ne (pc := 141) hC (tgt := 153) dX5_goOn_141 (by decide) (fun c141 => ?_) (fun c141 => ?_)
        · replace h := of_t c141 h
          refine u_iinc (pc := 153) hC dX5_goOn_153 5 rfl (v4_76 + 1) rfl [(4, .int (v4_76 + 1)), (5, .int (a2 ||| (jshl (1 : Int32) v4_76))), (0, .ref (gad (cG C) k0)), (1, .int a1), (2, .int a2), (3, .int v3_76)] (by decide) rfl ?_
          refine u_goto (pc := 156) hC 76 dX5_goOn_156 (by decide) ?_
          obtain rfl := Option.some.inj h
          refine u_sub [2, 3, 4, 5, 0] rfl ?_
          exact hP76 (v4_76 + 1, m113) rfl
        · replace h := of_f (fun q => q c141) h
          refine u_aload_n (pc := 144) hC dX5_goOn_144 rfl 1 rfl ?_
          refine u_iload_n (pc := 145) hC dX5_goOn_145 rfl 2 rfl ?_
          refine u_iconst (pc := 146) hC ic_1 dX5_goOn_146 ?_
          refine u_iadd (pc := 147) hC dX5_goOn_147 ?_
          refine u_iload (pc := 148) hC dX5_goOn_148 0 rfl ?_
          obtain ⟨μ150, q150, h⟩ := of_bd h
          refine k_RX5_80 (pc := 150) hC (av := [.int (a1 + (1 : Int32)), .int (a2 ||| (jshl (1 : Int32) v4_76))]) (rest := []) (ih_X5_goOn (d := d - 1) (by omega) hk0 q150) (by omega) (Nat.le_of_ble_eq_true rfl) hk0 rfl rfl dX5_goOn_150 ?_
          refine u_iinc (pc := 153) hC dX5_goOn_153 5 rfl (v4_76 + 1) rfl [(4, .int (v4_76 + 1)), (5, .int (a2 ||| (jshl (1 : Int32) v4_76))), (0, .ref (gad (cG C) k0)), (1, .int a1), (2, .int a2), (3, .int v3_76)] (by decide) rfl ?_
          refine u_goto (pc := 156) hC 76 dX5_goOn_156 (by decide) ?_
          obtain rfl := Option.some.inj h
          refine u_sub [2, 3, 4, 5, 0] rfl ?_
          exact hP76 (v4_76 + 1, μ150) rfl
  have jb29 : ∀ (μ_29 : Mem), F_X5_goOn_j29 g_X5_goOn μ_29 k0 a1 a2 = some r → UW C 6 μ_29 29 [(0, .ref (gad (cG C) k0)), (1, .int a1), (2, .int a2)] [] := by
    intro μ_29 h
    unfold F_X5_goOn_j29 at h
    refine u_iload_n (pc := 29) hC dX5_goOn_29 rfl 1 rfl ?_
    refine u_bipush (pc := 30) hC bc_8 dX5_goOn_30 ?_
    refine u_icmp_ge (pc := 32) hC (tgt := 51) dX5_goOn_32 (by decide) (fun c32 => ?_) (fun c32 => ?_)
    · replace h := of_t c32 h
      obtain rfl := Option.some.inj h
      exact u_vret (pc := 51) hC hQ hr ⟨rfl, rfl⟩ dX5_goOn_51
    · replace h := of_f c32 h
      refine u_aload_n (pc := 35) hC dX5_goOn_35 rfl 0 rfl ?_
      refine u_iload_n (pc := 36) hC dX5_goOn_36 rfl 1 rfl ?_
      obtain ⟨r37, q37, h⟩ := of_bd h
      refine k_RX5_88 (pc := 37) hC (av := [.int a1]) (rest := []) (c_X5_isAsGoodAsCanBe (d := d - 1) (by omega) hk0 q37) (by omega) (Nat.le_of_ble_eq_true rfl) hk0 rfl rfl dX5_goOn_37 ?_
      refine u_if_ne (pc := 40) hC (tgt := 51) dX5_goOn_40 (by decide) (fun c40 => ?_) (fun c40 => ?_)
      · replace h := of_t c40 h
        obtain rfl := Option.some.inj h
        exact u_vret (pc := 51) hC hQ hr ⟨rfl, rfl⟩ dX5_goOn_51
      · replace h := of_f (fun q => q c40) h
        refine u_aload_n (pc := 43) hC dX5_goOn_43 rfl 0 rfl ?_
        refine u_iload_n (pc := 44) hC dX5_goOn_44 rfl 2 rfl ?_
        obtain ⟨p45, q45, h⟩ := of_bd h
        refine k_RX5_92 (pc := 45) hC (av := [.int a2]) (rest := []) (c_X5_wasSeen (d := d - 1) (by omega) hk0 q45) (by omega) (Nat.le_of_ble_eq_true rfl) hk0 rfl rfl dX5_goOn_45 ?_
        refine u_if_eq (pc := 48) hC (tgt := 52) dX5_goOn_48 (by decide) (fun c48 => ?_) (fun c48 => ?_)
        · replace h := of_t c48 h
          refine u_aload_n (pc := 52) hC dX5_goOn_52 rfl 0 rfl ?_
          refine g_RX5_25 (pc := 53) hC hk0 dX5_goOn_53 ?_
          refine u_aload_n (pc := 56) hC dX5_goOn_56 rfl 0 rfl ?_
          refine g_RX5_35 (pc := 57) hC hk0 dX5_goOn_57 ?_
          refine u_aload_n (pc := 60) hC dX5_goOn_60 rfl 0 rfl ?_
          refine g_RX5_39 (pc := 61) hC hk0 dX5_goOn_61 ?_
          refine u_iload_n (pc := 64) hC dX5_goOn_64 rfl 2 rfl ?_
          refine u_aload_n (pc := 65) hC dX5_goOn_65 rfl 0 rfl ?_
          refine g_RX5_40 (pc := 66) hC hk0 dX5_goOn_66 ?_
          obtain ⟨r69, q69, h⟩ := of_bd h
          refine k_RX5_95 (pc := 69) hC (av := [.int (rd p45.2 k0 7), .int (rd p45.2 k0 8), .int a2, .int (rd p45.2 k0 9)]) (rest := []) (c_X1_mayTell (d := d - 1) (by omega) (rs_5_2 hk0) q69) (by omega) (Nat.le_of_ble_eq_true rfl) (rs_5_2 hk0) rfl rfl dX5_goOn_69 ?_
          refine u_istore_n (pc := 72) hC dX5_goOn_72 rfl [(3, .int r69), (0, .ref (gad (cG C) k0)), (1, .int a1), (2, .int a2)] (by decide) rfl ?_
          refine u_iconst (pc := 73) hC ic_0 dX5_goOn_73 ?_
          refine u_istore (pc := 74) hC dX5_goOn_74 [(4, .int (0 : Int32)), (3, .int r69), (0, .ref (gad (cG C) k0)), (1, .int a1), (2, .int a2)] (by decide) rfl ?_
          obtain ⟨e76, l76, h⟩ := of_bd h
          refine u_sub [2, 3, 4, 1, 0] rfl ?_
          refine lw76 r69 e76 ((0 : Int32), p45.2) l76 ?_
          show UW C 6 e76 159 [] []
          obtain rfl := Option.some.inj h
          exact u_vret (pc := 159) hC hQ hr ⟨rfl, rfl⟩ dX5_goOn_159
        · replace h := of_f c48 h
          obtain rfl := Option.some.inj h
          exact u_vret (pc := 51) hC hQ hr ⟨rfl, rfl⟩ dX5_goOn_51
  unfold F_X5_goOn at h
  refine u_aload_n (pc := 0) hC dX5_goOn_0 rfl 0 rfl ?_
  refine u_iload_n (pc := 1) hC dX5_goOn_1 rfl 1 rfl ?_
  refine u_iload_n (pc := 2) hC dX5_goOn_2 rfl 2 rfl ?_
  obtain ⟨r3, q3, h⟩ := of_bd h
  refine k_RX5_84 (pc := 3) hC (av := [.int a1, .int a2]) (rest := []) (c_X5_isBetter (d := d - 1) (by omega) hk0 q3) (by omega) (Nat.le_of_ble_eq_true rfl) hk0 rfl rfl dX5_goOn_3 ?_
  refine u_if_eq (pc := 6) hC (tgt := 29) dX5_goOn_6 (by decide) (fun c6 => ?_) (fun c6 => ?_)
  · replace h := of_t c6 h
    exact jb29 μ h
  · replace h := of_f c6 h
    refine u_aload_n (pc := 9) hC dX5_goOn_9 rfl 0 rfl ?_
    refine g_RX5_15 (pc := 10) hC hk0 dX5_goOn_10 ?_
    refine u_iconst (pc := 13) hC ic_0 dX5_goOn_13 ?_
    refine u_aload_n (pc := 14) hC dX5_goOn_14 rfl 0 rfl ?_
    refine g_RX5_9 (pc := 15) hC hk0 dX5_goOn_15 ?_
    refine u_iconst (pc := 18) hC ic_0 dX5_goOn_18 ?_
    refine u_bipush (pc := 19) hC bc_8 dX5_goOn_19 ?_
    obtain ⟨b21, h⟩ := of_gd h
    obtain ⟨m21, q21, h⟩ := of_bd h
    refine u_acopy (pc := 21) hC mL_RX5_63 mN_O_arraycopy mK_O_arraycopy mI_RJ10 (rs_5_3 hk0) (rs_5_0 hk0) b21 (Nat.le_of_ble_eq_true rfl) dX5_goOn_21 (Option.some.inj q21) ?_
    refine u_aload_n (pc := 24) hC dX5_goOn_24 rfl 0 rfl ?_
    refine u_iload_n (pc := 25) hC dX5_goOn_25 rfl 1 rfl ?_
    obtain ⟨m26, q26, h⟩ := of_bd h
    refine p_RX5_59 (pc := 26) hC hk0 dX5_goOn_26 (Option.some.inj q26) ?_
    exact jb29 m26 h
set_option maxHeartbeats 4000000 in
set_option maxRecDepth 100000 in
theorem c_grp_X5_goOn (n : Nat) : (∀ {l : Launch} {G : GG} {d : Nat} (hd : n + 4 ≤ d) {μ : Mem} {k0 : Nat} (hk0 : isC 5 k0) {a1 : Int32} {a2 : Int32} {r : Mem} (h : f_X5_goOn n μ k0 a1 a2 = some r), CT l yX5_goOn cX5_goOn 6 none d G [.ref (gad G k0), .int a1, .int a2] μ (RK none r)) := by
  induction n with
  | zero => exact (by intro l G d hd μ k0 hk0 a1 a2 r h; exact absurd (show (none : Option (Mem)) = some r from h) (by simp))
  | succ n ih => exact (by intro l G d hd μ k0 hk0 a1 a2 r h; exact w_X5_goOn (f_X5_goOn n) ih (by omega) hk0 h)
theorem c_X5_goOn {n : Nat} {l : Launch} {G : GG} {d : Nat} (hd : n + 4 ≤ d) {μ : Mem} {k0 : Nat} (hk0 : isC 5 k0) {a1 : Int32} {a2 : Int32} {r : Mem} (h : f_X5_goOn n μ k0 a1 a2 = some r) : CT l yX5_goOn cX5_goOn 6 none d G [.ref (gad G k0), .int a1, .int a2] μ (RK none r) := (c_grp_X5_goOn n) hd hk0 h
set_option maxHeartbeats 4000000 in
set_option maxRecDepth 100000 in
theorem c_X5_begin {l : Launch} {G : GG} {d : Nat} (hd : 105 ≤ d) {μ : Mem} {k0 : Nat} (hk0 : isC 5 k0) {k1 : Nat} (hk1 : isC 0 k1) {a2 : Int32} {a3 : Int32} {a4 : Int32} {r : Mem} (h : f_X5_begin μ k0 k1 a2 a3 a4 = some r) : CT l yX5_begin cX5_begin 5 none d G [.ref (gad G k0), .ref (gad G k1), .int a2, .int a3, .int a4] μ (RK none r) := by
  refine ct_start (by decide) (Nat.le_of_ble_eq_true rfl) (fun C hl1 hG1 hC hQ hr => ?_)
  subst hl1; subst hG1
  have hC : CxOK C cX5_begin 5 RX5 d := hC
  show UW C 5 μ 0 [(0, .ref (gad (cG C) k0)), (1, .ref (gad (cG C) k1)), (2, .int a2), (3, .int a3), (4, .int a4)] []
  unfold f_X5_begin at h
  refine u_aload_n (pc := 0) hC dX5_begin_0 rfl 0 rfl ?_
  refine u_aload_n (pc := 1) hC dX5_begin_1 rfl 1 rfl ?_
  refine g_RX5_29 (pc := 2) hC hk1 dX5_begin_2 ?_
  obtain ⟨m5, q5, h⟩ := of_bd h
  refine p_RX5_35 (pc := 5) hC hk0 dX5_begin_5 (Option.some.inj q5) ?_
  refine u_aload_n (pc := 8) hC dX5_begin_8 rfl 0 rfl ?_
  refine u_aload_n (pc := 9) hC dX5_begin_9 rfl 1 rfl ?_
  refine g_RX5_36 (pc := 10) hC hk1 dX5_begin_10 ?_
  obtain ⟨m13, q13, h⟩ := of_bd h
  refine p_RX5_39 (pc := 13) hC hk0 dX5_begin_13 (Option.some.inj q13) ?_
  refine u_aload_n (pc := 16) hC dX5_begin_16 rfl 0 rfl ?_
  refine u_iload_n (pc := 17) hC dX5_begin_17 rfl 2 rfl ?_
  obtain ⟨m18, q18, h⟩ := of_bd h
  refine p_RX5_40 (pc := 18) hC hk0 dX5_begin_18 (Option.some.inj q18) ?_
  refine u_aload_n (pc := 21) hC dX5_begin_21 rfl 0 rfl ?_
  refine u_iload_n (pc := 22) hC dX5_begin_22 rfl 3 rfl ?_
  obtain ⟨m23, q23, h⟩ := of_bd h
  refine p_RX5_43 (pc := 23) hC hk0 dX5_begin_23 (Option.some.inj q23) ?_
  refine u_aload_n (pc := 26) hC dX5_begin_26 rfl 0 rfl ?_
  refine u_iload (pc := 27) hC dX5_begin_27 4 rfl ?_
  obtain ⟨b29, h⟩ := of_gd h
  obtain ⟨m29, q29, h⟩ := of_bd h
  refine p_RX5_46 (pc := 29) hC hk0 b29 dX5_begin_29 (Option.some.inj q29) ?_
  refine u_aload_n (pc := 32) hC dX5_begin_32 rfl 0 rfl ?_
  refine u_aload_n (pc := 33) hC dX5_begin_33 rfl 0 rfl ?_
  refine g_RX5_25 (pc := 34) hC hk0 dX5_begin_34 ?_
  refine g_RX5_50 (pc := 37) hC (rs_5_2 hk0) dX5_begin_37 ?_
  refine u_aload_n (pc := 40) hC dX5_begin_40 rfl 1 rfl ?_
  refine g_RX5_55 (pc := 41) hC hk1 dX5_begin_41 ?_
  refine u_isub (pc := 44) hC dX5_begin_44 ?_
  obtain ⟨m45, q45, h⟩ := of_bd h
  refine p_RX5_56 (pc := 45) hC hk0 dX5_begin_45 (Option.some.inj q45) ?_
  refine u_aload_n (pc := 48) hC dX5_begin_48 rfl 0 rfl ?_
  refine u_iconst (pc := 49) hC ic_m1 dX5_begin_49 ?_
  obtain ⟨m50, q50, h⟩ := of_bd h
  refine p_RX5_59 (pc := 50) hC hk0 dX5_begin_50 (Option.some.inj q50) ?_
  refine u_aload_n (pc := 53) hC dX5_begin_53 rfl 1 rfl ?_
  refine g_RX5_62 (pc := 54) hC hk1 dX5_begin_54 ?_
  refine u_iconst (pc := 57) hC ic_0 dX5_begin_57 ?_
  refine u_aload_n (pc := 58) hC dX5_begin_58 rfl 0 rfl ?_
  refine g_RX5_18 (pc := 59) hC hk0 dX5_begin_59 ?_
  refine u_iconst (pc := 62) hC ic_0 dX5_begin_62 ?_
  refine u_bipush (pc := 63) hC bc_8 dX5_begin_63 ?_
  obtain ⟨b65, h⟩ := of_gd h
  obtain ⟨m65, q65, h⟩ := of_bd h
  refine u_acopy (pc := 65) hC mL_RX5_63 mN_O_arraycopy mK_O_arraycopy mI_RJ10 (rs_0_1 hk1) (rs_5_4 hk0) b65 (Nat.le_of_ble_eq_true rfl) dX5_begin_65 (Option.some.inj q65) ?_
  refine u_aload_n (pc := 68) hC dX5_begin_68 rfl 0 rfl ?_
  refine g_RX5_21 (pc := 69) hC hk0 dX5_begin_69 ?_
  refine u_ldc2 (pc := 72) hC (v := (-1 : Int64)) mQ_RX5_69 dX5_begin_72 ?_
  obtain ⟨μ75, q75, h⟩ := of_bd h
  refine k_RX5_71 (pc := 75) hC (av := [.ref (gad (cG C) (rf k0 5)), .long (-1 : Int64)]) (rest := []) (c_J7_fill_d0a16 (d := d - 1) (by omega) (rs_5_5 hk0) q75) (by omega) (Nat.le_of_ble_eq_true rfl) rfl rfl dX5_begin_75 ?_
  refine u_aload_n (pc := 78) hC dX5_begin_78 rfl 0 rfl ?_
  refine u_iconst (pc := 79) hC ic_0 dX5_begin_79 ?_
  refine u_aload_n (pc := 80) hC dX5_begin_80 rfl 1 rfl ?_
  refine g_RX5_77 (pc := 81) hC hk1 dX5_begin_81 ?_
  obtain ⟨μ84, q84, h⟩ := of_bd h
  refine k_RX5_80 (pc := 84) hC (av := [.int (0 : Int32), .int (rd μ75 k1 2)]) (rest := []) (c_X5_goOn (d := d - 1) (by omega) hk0 q84) (by omega) (Nat.le_of_ble_eq_true rfl) hk0 rfl rfl dX5_begin_84 ?_
  obtain rfl := Option.some.inj h
  exact u_vret (pc := 87) hC hQ hr ⟨rfl, rfl⟩ dX5_begin_87
set_option maxHeartbeats 4000000 in
set_option maxRecDepth 100000 in
theorem c_X6_isMissing {l : Launch} {G : GG} {d : Nat} (hd : 0 ≤ d) {μ : Mem} {k0 : Nat} (hk0 : isC 6 k0) {r : Int32} (h : f_X6_isMissing μ k0 = some r) : CT l yX6_isMissing cX6_isMissing 1 (some .boolean) d G [.ref (gad G k0)] μ (RK (some (.int r)) μ) := by
  refine ct_start (by decide) (Nat.le_of_ble_eq_true rfl) (fun C hl1 hG1 hC hQ hr => ?_)
  subst hl1; subst hG1
  have hC : CxOK C cX6_isMissing 1 RX6 d := hC
  show UW C 1 μ 0 [(0, .ref (gad (cG C) k0))] []
  unfold f_X6_isMissing at h
  refine u_aload_n (pc := 0) hC dX6_isMissing_0 rfl 0 rfl ?_
  refine g_RX6_15 (pc := 1) hC hk0 dX6_isMissing_1 ?_
  refine u_if_ne (pc := 4) hC (tgt := 11) dX6_isMissing_4 (by decide) (fun c4 => ?_) (fun c4 => ?_)
  · replace h := of_t c4 h
    refine u_iconst (pc := 11) hC ic_0 dX6_isMissing_11 ?_
    obtain rfl := Option.some.inj h
    exact u_zret (pc := 12) hC hQ hr (by decide) ⟨rfl, rfl⟩ dX6_isMissing_12
  · replace h := of_f (fun q => q c4) h
    refine u_iconst (pc := 7) hC ic_1 dX6_isMissing_7 ?_
    refine u_goto (pc := 8) hC 12 dX6_isMissing_8 (by decide) ?_
    obtain rfl := Option.some.inj h
    exact u_zret (pc := 12) hC hQ hr (by decide) ⟨rfl, rfl⟩ dX6_isMissing_12
set_option maxHeartbeats 4000000 in
set_option maxRecDepth 100000 in
theorem c_J7_fill_53178 {l : Launch} {G : GG} {d : Nat} (hd : 0 ≤ d) {μ : Mem} {k0 : Nat} (hk0 : isC 13 k0) {a1 : Int32} {r : Mem} (h : f_J7_fill_53178 μ k0 a1 = some r) : CT l yJ7_fill_53178 cJ7_fill_53178 4 none d G [.ref (gad G k0), .int a1] μ (RK none r) := by
  refine ct_start (by decide) (Nat.le_of_ble_eq_true rfl) (fun C hl1 hG1 hC hQ hr => ?_)
  subst hl1; subst hG1
  have hC : CxOK C cJ7_fill_53178 4 RJ7 d := hC
  show UW C 4 μ 0 [(0, .ref (gad (cG C) k0)), (1, .int a1)] []
  have lw5 : ∀ (v3_5 : Int32) (e : (Mem)) (s : Int32 × Mem), lp (fun s => f_J7_fill_53178_l5 k0 a1 v3_5 s.1 s.2) FU s = some e → (fun (e : (Mem)) => UW C 4 e 20 [] []) e → UW C 4 s.2 5 [(0, .ref (gad (cG C) k0)), (1, .int a1), (2, .int s.1), (3, .int v3_5)] [] := by
    intro v3_5 e s hl hE0
    refine @lp_walk (Int32 × Mem) (Mem) (fun s => f_J7_fill_53178_l5 k0 a1 v3_5 s.1 s.2) (fun s => UW C 4 s.2 5 [(0, .ref (gad (cG C) k0)), (1, .int a1), (2, .int s.1), (3, .int v3_5)] []) (fun (e : (Mem)) => UW C 4 e 20 [] []) (fun s y5 h hP5 hE5 => ?_) FU s e hl hE0
    obtain ⟨v2_5, μ_5⟩ := s
    replace h : f_J7_fill_53178_l5 k0 a1 v3_5 v2_5 μ_5 = some y5 := h
    show UW C 4 μ_5 5 [(0, .ref (gad (cG C) k0)), (1, .int a1), (2, .int v2_5), (3, .int v3_5)] []
    unfold f_J7_fill_53178_l5 at h
    refine u_iload_n (pc := 5) hC dJ7_fill_53178_5 rfl 2 rfl ?_
    refine u_iload_n (pc := 6) hC dJ7_fill_53178_6 rfl 3 rfl ?_
    refine u_icmp_ge (pc := 7) hC (tgt := 20) dJ7_fill_53178_7 (by decide) (fun c7 => ?_) (fun c7 => ?_)
    · replace h := of_t c7 h
      obtain rfl := Option.some.inj h
      refine u_sub [] rfl ?_
      exact hE5 μ_5 rfl
    · replace h := of_f c7 h
      refine u_aload_n (pc := 10) hC dJ7_fill_53178_10 rfl 0 rfl ?_
      refine u_iload_n (pc := 11) hC dJ7_fill_53178_11 rfl 2 rfl ?_
      refine u_iload_n (pc := 12) hC dJ7_fill_53178_12 rfl 1 rfl ?_
      obtain ⟨b13, h⟩ := of_gd h
      obtain ⟨m13, q13, h⟩ := of_bd h
      refine u_iast (pc := 13) hC hk0 (ln k0) rfl b13 dJ7_fill_53178_13 (Option.some.inj q13) ?_
      refine u_iinc (pc := 14) hC dJ7_fill_53178_14 2 rfl (v2_5 + 1) rfl [(2, .int (v2_5 + 1)), (0, .ref (gad (cG C) k0)), (1, .int a1), (3, .int v3_5)] (by decide) rfl ?_
      refine u_goto (pc := 17) hC 5 dJ7_fill_53178_17 (by decide) ?_
      obtain rfl := Option.some.inj h
      refine u_sub [1, 2, 0, 3] rfl ?_
      exact hP5 (v2_5 + 1, m13) rfl
  unfold f_J7_fill_53178 at h
  refine u_iconst (pc := 0) hC ic_0 dJ7_fill_53178_0 ?_
  refine u_istore_n (pc := 1) hC dJ7_fill_53178_1 rfl [(2, .int (0 : Int32)), (0, .ref (gad (cG C) k0)), (1, .int a1)] (by decide) rfl ?_
  refine u_aload_n (pc := 2) hC dJ7_fill_53178_2 rfl 1 rfl ?_
  refine u_alen (pc := 3) hC hk0 dJ7_fill_53178_3 ?_
  refine u_istore_n (pc := 4) hC dJ7_fill_53178_4 rfl [(3, .int (nI (ln k0))), (2, .int (0 : Int32)), (0, .ref (gad (cG C) k0)), (1, .int a1)] (by decide) rfl ?_
  obtain ⟨e5, l5, h⟩ := of_bd h
  refine u_sub [2, 3, 1, 0] rfl ?_
  refine lw5 (nI (ln k0)) e5 ((0 : Int32), μ) l5 ?_
  show UW C 4 e5 20 [] []
  obtain rfl := Option.some.inj h
  exact u_vret (pc := 20) hC hQ hr ⟨rfl, rfl⟩ dJ7_fill_53178_20
set_option maxHeartbeats 4000000 in
set_option maxRecDepth 100000 in
theorem c_X6_begin {l : Launch} {G : GG} {d : Nat} (hd : 1 ≤ d) {μ : Mem} {k0 : Nat} (hk0 : isC 6 k0) {a1 : Int32} {a2 : Int32} {r : Mem} (h : f_X6_begin μ k0 a1 a2 = some r) : CT l yX6_begin cX6_begin 3 none d G [.ref (gad G k0), .int a1, .int a2] μ (RK none r) := by
  refine ct_start (by decide) (Nat.le_of_ble_eq_true rfl) (fun C hl1 hG1 hC hQ hr => ?_)
  subst hl1; subst hG1
  have hC : CxOK C cX6_begin 3 RX6 d := hC
  show UW C 3 μ 0 [(0, .ref (gad (cG C) k0)), (1, .int a1), (2, .int a2)] []
  unfold f_X6_begin at h
  refine u_aload_n (pc := 0) hC dX6_begin_0 rfl 0 rfl ?_
  refine u_iload_n (pc := 1) hC dX6_begin_1 rfl 1 rfl ?_
  obtain ⟨m2, q2, h⟩ := of_bd h
  refine p_RX6_15 (pc := 2) hC hk0 dX6_begin_2 (Option.some.inj q2) ?_
  refine u_aload_n (pc := 5) hC dX6_begin_5 rfl 0 rfl ?_
  refine u_iconst (pc := 6) hC ic_0 dX6_begin_6 ?_
  refine u_iload_n (pc := 7) hC dX6_begin_7 rfl 2 rfl ?_
  refine u_bipush (pc := 8) hC bc_40 dX6_begin_8 ?_
  refine u_mmin (pc := 10) hC mL_RX6_19 mK_min mI_RJ9 mB_min (Nat.le_of_ble_eq_true rfl) dX6_begin_10 ?_
  refine u_mmax (pc := 13) hC mL_RX6_25 mK_max mI_RJ9 mB_max (Nat.le_of_ble_eq_true rfl) dX6_begin_13 ?_
  obtain ⟨m16, q16, h⟩ := of_bd h
  refine p_RX6_28 (pc := 16) hC hk0 dX6_begin_16 (Option.some.inj q16) ?_
  refine u_aload_n (pc := 19) hC dX6_begin_19 rfl 0 rfl ?_
  refine g_RX6_9 (pc := 20) hC hk0 dX6_begin_20 ?_
  refine u_iconst (pc := 23) hC ic_0 dX6_begin_23 ?_
  obtain ⟨μ24, q24, h⟩ := of_bd h
  refine k_RX6_31 (pc := 24) hC (av := [.ref (gad (cG C) (rf k0 0)), .int (0 : Int32)]) (rest := []) (c_J7_fill_53178 (d := d - 1) (by omega) (rs_6_0 hk0) q24) (by omega) (Nat.le_of_ble_eq_true rfl) rfl rfl dX6_begin_24 ?_
  obtain rfl := Option.some.inj h
  exact u_vret (pc := 27) hC hQ hr ⟨rfl, rfl⟩ dX6_begin_27
set_option maxHeartbeats 4000000 in
set_option maxRecDepth 100000 in
theorem c_X6_lowest {l : Launch} {G : GG} {d : Nat} (hd : 0 ≤ d) {μ : Mem} {k0 : Nat} (hk0 : isC 6 k0) {a1 : Int32} {r : Int32} (h : f_X6_lowest μ k0 a1 = some r) : CT l yX6_lowest cX6_lowest 2 (some .int) d G [.ref (gad G k0), .int a1] μ (RK (some (.int r)) μ) := by
  refine ct_start (by decide) (Nat.le_of_ble_eq_true rfl) (fun C hl1 hG1 hC hQ hr => ?_)
  subst hl1; subst hG1
  have hC : CxOK C cX6_lowest 2 RX6 d := hC
  show UW C 2 μ 0 [(0, .ref (gad (cG C) k0)), (1, .int a1)] []
  unfold f_X6_lowest at h
  refine u_aload_n (pc := 0) hC dX6_lowest_0 rfl 0 rfl ?_
  refine g_RX6_15 (pc := 1) hC hk0 dX6_lowest_1 ?_
  refine u_bipush (pc := 4) hC bc_32 dX6_lowest_4 ?_
  refine u_icmp_ne (pc := 6) hC (tgt := 13) dX6_lowest_6 (by decide) (fun c6 => ?_) (fun c6 => ?_)
  · replace h := of_t c6 h
    refine u_iload_n (pc := 13) hC dX6_lowest_13 rfl 1 rfl ?_
    refine u_iconst (pc := 14) hC ic_1 dX6_lowest_14 ?_
    refine u_aload_n (pc := 15) hC dX6_lowest_15 rfl 0 rfl ?_
    refine g_RX6_15 (pc := 16) hC hk0 dX6_lowest_16 ?_
    refine u_ishl (pc := 19) hC dX6_lowest_19 ?_
    refine u_iconst (pc := 20) hC ic_1 dX6_lowest_20 ?_
    refine u_isub (pc := 21) hC dX6_lowest_21 ?_
    refine u_iand (pc := 22) hC dX6_lowest_22 ?_
    obtain rfl := Option.some.inj h
    exact u_iret (pc := 23) hC hQ hr ⟨rfl, rfl⟩ dX6_lowest_23
  · replace h := of_f (fun q => q c6) h
    refine u_iload_n (pc := 9) hC dX6_lowest_9 rfl 1 rfl ?_
    refine u_goto (pc := 10) hC 23 dX6_lowest_10 (by decide) ?_
    obtain rfl := Option.some.inj h
    exact u_iret (pc := 23) hC hQ hr ⟨rfl, rfl⟩ dX6_lowest_23
set_option maxHeartbeats 4000000 in
set_option maxRecDepth 100000 in
theorem c_X6_holds {l : Launch} {G : GG} {d : Nat} (hd : 0 ≤ d) {μ : Mem} {k0 : Nat} (hk0 : isC 6 k0) {a1 : Int32} {a2 : Int32} {r : Int32} (h : f_X6_holds μ k0 a1 a2 = some r) : CT l yX6_holds cX6_holds 3 (some .boolean) d G [.ref (gad G k0), .int a1, .int a2] μ (RK (some (.int r)) μ) := by
  refine ct_start (by decide) (Nat.le_of_ble_eq_true rfl) (fun C hl1 hG1 hC hQ hr => ?_)
  subst hl1; subst hG1
  have hC : CxOK C cX6_holds 3 RX6 d := hC
  show UW C 3 μ 0 [(0, .ref (gad (cG C) k0)), (1, .int a1), (2, .int a2)] []
  unfold f_X6_holds at h
  refine u_iload_n (pc := 0) hC dX6_holds_0 rfl 2 rfl ?_
  refine u_if_lt (pc := 1) hC (tgt := 30) dX6_holds_1 (by decide) (fun c1 => ?_) (fun c1 => ?_)
  · replace h := of_t c1 h
    refine u_iconst (pc := 30) hC ic_0 dX6_holds_30 ?_
    obtain rfl := Option.some.inj h
    exact u_zret (pc := 31) hC hQ hr (by decide) ⟨rfl, rfl⟩ dX6_holds_31
  · replace h := of_f c1 h
    refine u_iload_n (pc := 4) hC dX6_holds_4 rfl 1 rfl ?_
    refine u_if_lt (pc := 5) hC (tgt := 30) dX6_holds_5 (by decide) (fun c5 => ?_) (fun c5 => ?_)
    · replace h := of_t c5 h
      refine u_iconst (pc := 30) hC ic_0 dX6_holds_30 ?_
      obtain rfl := Option.some.inj h
      exact u_zret (pc := 31) hC hQ hr (by decide) ⟨rfl, rfl⟩ dX6_holds_31
    · replace h := of_f c5 h
      refine u_iload_n (pc := 8) hC dX6_holds_8 rfl 2 rfl ?_
      refine u_aload_n (pc := 9) hC dX6_holds_9 rfl 0 rfl ?_
      refine g_RX6_28 (pc := 10) hC hk0 dX6_holds_10 ?_
      refine u_icmp_gt (pc := 13) hC (tgt := 30) dX6_holds_13 (by decide) (fun c13 => ?_) (fun c13 => ?_)
      · replace h := of_t c13 h
        refine u_iconst (pc := 30) hC ic_0 dX6_holds_30 ?_
        obtain rfl := Option.some.inj h
        exact u_zret (pc := 31) hC hQ hr (by decide) ⟨rfl, rfl⟩ dX6_holds_31
      · replace h := of_f c13 h
        refine u_iload_n (pc := 16) hC dX6_holds_16 rfl 1 rfl ?_
        refine u_aload_n (pc := 17) hC dX6_holds_17 rfl 0 rfl ?_
        refine g_RX6_28 (pc := 18) hC hk0 dX6_holds_18 ?_
        refine u_iload_n (pc := 21) hC dX6_holds_21 rfl 2 rfl ?_
        refine u_isub (pc := 22) hC dX6_holds_22 ?_
        refine u_icmp_gt (pc := 23) hC (tgt := 30) dX6_holds_23 (by decide) (fun c23 => ?_) (fun c23 => ?_)
        · replace h := of_t c23 h
          refine u_iconst (pc := 30) hC ic_0 dX6_holds_30 ?_
          obtain rfl := Option.some.inj h
          exact u_zret (pc := 31) hC hQ hr (by decide) ⟨rfl, rfl⟩ dX6_holds_31
        · replace h := of_f c23 h
          refine u_iconst (pc := 26) hC ic_1 dX6_holds_26 ?_
          refine u_goto (pc := 27) hC 31 dX6_holds_27 (by decide) ?_
          obtain rfl := Option.some.inj h
          exact u_zret (pc := 31) hC hQ hr (by decide) ⟨rfl, rfl⟩ dX6_holds_31
set_option maxHeartbeats 4000000 in
set_option maxRecDepth 100000 in
theorem c_X7_add {l : Launch} {G : GG} {d : Nat} (hd : 0 ≤ d) {μ : Mem} {k0 : Nat} (hk0 : isC 7 k0) {a1 : Int32} {r : Mem} (h : f_X7_add μ k0 a1 = some r) : CT l yX7_add cX7_add 2 none d G [.ref (gad G k0), .int a1] μ (RK none r) := by
  refine ct_start (by decide) (Nat.le_of_ble_eq_true rfl) (fun C hl1 hG1 hC hQ hr => ?_)
  subst hl1; subst hG1
  have hC : CxOK C cX7_add 2 RX7 d := hC
  show UW C 2 μ 0 [(0, .ref (gad (cG C) k0)), (1, .int a1)] []
  unfold f_X7_add at h
  refine u_aload_n (pc := 0) hC dX7_add_0 rfl 0 rfl ?_
  refine g_RX7_15 (pc := 1) hC hk0 dX7_add_1 ?_
  refine u_bipush (pc := 4) hC bc_50 dX7_add_4 ?_
  refine u_icmp_ge (pc := 6) hC (tgt := 29) dX7_add_6 (by decide) (fun c6 => ?_) (fun c6 => ?_)
  · replace h := of_t c6 h
    obtain rfl := Option.some.inj h
    exact u_vret (pc := 29) hC hQ hr ⟨rfl, rfl⟩ dX7_add_29
  · replace h := of_f c6 h
    refine u_aload_n (pc := 9) hC dX7_add_9 rfl 0 rfl ?_
    refine g_RX7_9 (pc := 10) hC hk0 dX7_add_10 ?_
    refine u_aload_n (pc := 13) hC dX7_add_13 rfl 0 rfl ?_
    refine g_RX7_15 (pc := 14) hC hk0 dX7_add_14 ?_
    refine u_iload_n (pc := 17) hC dX7_add_17 rfl 1 rfl ?_
    obtain ⟨b18, h⟩ := of_gd h
    obtain ⟨m18, q18, h⟩ := of_bd h
    refine u_iast (pc := 18) hC (rs_7_0 hk0) 50 (rn_7_0 hk0) b18 dX7_add_18 (Option.some.inj q18) ?_
    refine u_aload_n (pc := 19) hC dX7_add_19 rfl 0 rfl ?_
    refine u_dup (pc := 20) hC rfl dX7_add_20 ?_
    refine g_RX7_15 (pc := 21) hC hk0 dX7_add_21 ?_
    refine u_iconst (pc := 24) hC ic_1 dX7_add_24 ?_
    refine u_iadd (pc := 25) hC dX7_add_25 ?_
    obtain ⟨m26, q26, h⟩ := of_bd h
    refine p_RX7_15 (pc := 26) hC hk0 dX7_add_26 (Option.some.inj q26) ?_
    obtain rfl := Option.some.inj h
    exact u_vret (pc := 29) hC hQ hr ⟨rfl, rfl⟩ dX7_add_29
set_option maxHeartbeats 4000000 in
set_option maxRecDepth 100000 in
theorem c_X7_copyFrom {l : Launch} {G : GG} {d : Nat} (hd : 0 ≤ d) {μ : Mem} {k0 : Nat} (hk0 : isC 7 k0) {k1 : Nat} (hk1 : isC 7 k1) {r : Mem} (h : f_X7_copyFrom μ k0 k1 = some r) : CT l yX7_copyFrom cX7_copyFrom 2 none d G [.ref (gad G k0), .ref (gad G k1)] μ (RK none r) := by
  refine ct_start (by decide) (Nat.le_of_ble_eq_true rfl) (fun C hl1 hG1 hC hQ hr => ?_)
  subst hl1; subst hG1
  have hC : CxOK C cX7_copyFrom 2 RX7 d := hC
  show UW C 2 μ 0 [(0, .ref (gad (cG C) k0)), (1, .ref (gad (cG C) k1))] []
  unfold f_X7_copyFrom at h
  refine u_aload_n (pc := 0) hC dX7_copyFrom_0 rfl 1 rfl ?_
  refine g_RX7_9 (pc := 1) hC hk1 dX7_copyFrom_1 ?_
  refine u_iconst (pc := 4) hC ic_0 dX7_copyFrom_4 ?_
  refine u_aload_n (pc := 5) hC dX7_copyFrom_5 rfl 0 rfl ?_
  refine g_RX7_9 (pc := 6) hC hk0 dX7_copyFrom_6 ?_
  refine u_iconst (pc := 9) hC ic_0 dX7_copyFrom_9 ?_
  refine u_bipush (pc := 10) hC bc_50 dX7_copyFrom_10 ?_
  obtain ⟨b12, h⟩ := of_gd h
  obtain ⟨m12, q12, h⟩ := of_bd h
  refine u_acopy (pc := 12) hC mL_RX7_19 mN_O_arraycopy mK_O_arraycopy mI_RJ10 (rs_7_0 hk1) (rs_7_0 hk0) b12 (Nat.le_of_ble_eq_true rfl) dX7_copyFrom_12 (Option.some.inj q12) ?_
  refine u_aload_n (pc := 15) hC dX7_copyFrom_15 rfl 0 rfl ?_
  refine u_aload_n (pc := 16) hC dX7_copyFrom_16 rfl 1 rfl ?_
  refine g_RX7_15 (pc := 17) hC hk1 dX7_copyFrom_17 ?_
  obtain ⟨m20, q20, h⟩ := of_bd h
  refine p_RX7_15 (pc := 20) hC hk0 dX7_copyFrom_20 (Option.some.inj q20) ?_
  obtain rfl := Option.some.inj h
  exact u_vret (pc := 23) hC hQ hr ⟨rfl, rfl⟩ dX7_copyFrom_23
set_option maxHeartbeats 4000000 in
set_option maxRecDepth 100000 in
theorem c_X8_add {l : Launch} {G : GG} {d : Nat} (hd : 1 ≤ d) {μ : Mem} {k0 : Nat} (hk0 : isC 8 k0) {a1 : Int32} {a2 : Int32} {r : Int32 × Mem} (h : f_X8_add μ k0 a1 a2 = some r) : CT l yX8_add cX8_add 4 (some .int) d G [.ref (gad G k0), .int a1, .int a2] μ (RK (some (.int r.1)) r.2) := by
  refine ct_start (by decide) (Nat.le_of_ble_eq_true rfl) (fun C hl1 hG1 hC hQ hr => ?_)
  subst hl1; subst hG1
  have hC : CxOK C cX8_add 4 RX8 d := hC
  show UW C 4 μ 0 [(0, .ref (gad (cG C) k0)), (1, .int a1), (2, .int a2)] []
  unfold f_X8_add at h
  refine u_aload_n (pc := 0) hC dX8_add_0 rfl 0 rfl ?_
  refine g_RX8_26 (pc := 1) hC hk0 dX8_add_1 ?_
  refine u_istore_n (pc := 4) hC dX8_add_4 rfl [(3, .int (rd μ k0 3)), (0, .ref (gad (cG C) k0)), (1, .int a1), (2, .int a2)] (by decide) rfl ?_
  refine u_iload_n (pc := 5) hC dX8_add_5 rfl 0 rfl ?_
  refine u_iconst (pc := 6) hC ic_4 dX8_add_6 ?_
  refine u_icmp_ge (pc := 7) hC (tgt := 65) dX8_add_7 (by decide) (fun c7 => ?_) (fun c7 => ?_)
  · replace h := of_t c7 h
    refine u_iload_n (pc := 65) hC dX8_add_65 rfl 0 rfl ?_
    obtain rfl := Option.some.inj h
    exact u_iret (pc := 66) hC hQ hr ⟨rfl, rfl⟩ dX8_add_66
  · replace h := of_f c7 h
    refine u_aload_n (pc := 10) hC dX8_add_10 rfl 1 rfl ?_
    refine g_RX8_11 (pc := 11) hC hk0 dX8_add_11 ?_
    refine u_iload_n (pc := 14) hC dX8_add_14 rfl 0 rfl ?_
    obtain ⟨b15, h⟩ := of_gd h
    refine u_aaldD (pc := 15) hC (rs_8_0 hk0) b15 (rn_8_0 hk0) dX8_add_15 ?_
    obtain ⟨μ16, q16, h⟩ := of_bd h
    refine k_RX8_30 (pc := 16) hC (av := []) (rest := []) (c_X0_letOff (d := d - 1) (by omega) (rs_15 (rs_8_0 hk0) b15) q16) (by omega) (Nat.le_of_ble_eq_true rfl) (rs_15 (rs_8_0 hk0) b15) rfl rfl dX8_add_16 ?_
    refine u_aload_n (pc := 19) hC dX8_add_19 rfl 1 rfl ?_
    refine g_RX8_11 (pc := 20) hC hk0 dX8_add_20 ?_
    refine u_iload_n (pc := 23) hC dX8_add_23 rfl 0 rfl ?_
    obtain ⟨b24, h⟩ := of_gd h
    refine u_aaldD (pc := 24) hC (rs_8_0 hk0) b24 (rn_8_0 hk0) dX8_add_24 ?_
    refine u_iload_n (pc := 25) hC dX8_add_25 rfl 2 rfl ?_
    refine u_bipush (pc := 26) hC bc_10 dX8_add_26 ?_
    refine u_idiv (pc := 28) hC (by decide) dX8_add_28 ?_
    obtain ⟨m29, q29, h⟩ := of_bd h
    refine p_RX8_33 (pc := 29) hC (rs_15 (rs_8_0 hk0) b24) dX8_add_29 (Option.some.inj q29) ?_
    refine u_aload_n (pc := 32) hC dX8_add_32 rfl 1 rfl ?_
    refine g_RX8_11 (pc := 33) hC hk0 dX8_add_33 ?_
    refine u_iload_n (pc := 36) hC dX8_add_36 rfl 0 rfl ?_
    obtain ⟨b37, h⟩ := of_gd h
    refine u_aaldD (pc := 37) hC (rs_8_0 hk0) b37 (rn_8_0 hk0) dX8_add_37 ?_
    refine u_iload_n (pc := 38) hC dX8_add_38 rfl 2 rfl ?_
    refine u_bipush (pc := 39) hC bc_10 dX8_add_39 ?_
    refine u_irem (pc := 41) hC (by decide) dX8_add_41 ?_
    obtain ⟨m42, q42, h⟩ := of_bd h
    refine p_RX8_36 (pc := 42) hC (rs_15 (rs_8_0 hk0) b37) dX8_add_42 (Option.some.inj q42) ?_
    refine u_aload_n (pc := 45) hC dX8_add_45 rfl 1 rfl ?_
    refine g_RX8_11 (pc := 46) hC hk0 dX8_add_46 ?_
    refine u_iload_n (pc := 49) hC dX8_add_49 rfl 0 rfl ?_
    obtain ⟨b50, h⟩ := of_gd h
    refine u_aaldD (pc := 50) hC (rs_8_0 hk0) b50 (rn_8_0 hk0) dX8_add_50 ?_
    refine u_iload_n (pc := 51) hC dX8_add_51 rfl 3 rfl ?_
    obtain ⟨m52, q52, h⟩ := of_bd h
    refine p_RX8_39 (pc := 52) hC (rs_15 (rs_8_0 hk0) b50) dX8_add_52 (Option.some.inj q52) ?_
    refine u_aload_n (pc := 55) hC dX8_add_55 rfl 1 rfl ?_
    refine u_dup (pc := 56) hC rfl dX8_add_56 ?_
    refine g_RX8_26 (pc := 57) hC hk0 dX8_add_57 ?_
    refine u_iconst (pc := 60) hC ic_1 dX8_add_60 ?_
    refine u_iadd (pc := 61) hC dX8_add_61 ?_
    obtain ⟨m62, q62, h⟩ := of_bd h
    refine p_RX8_26 (pc := 62) hC hk0 dX8_add_62 (Option.some.inj q62) ?_
    refine u_iload_n (pc := 65) hC dX8_add_65 rfl 0 rfl ?_
    obtain rfl := Option.some.inj h
    exact u_iret (pc := 66) hC hQ hr ⟨rfl, rfl⟩ dX8_add_66
set_option maxHeartbeats 4000000 in
set_option maxRecDepth 100000 in
theorem c_X8_copyFrom {l : Launch} {G : GG} {d : Nat} (hd : 1 ≤ d) {μ : Mem} {k0 : Nat} (hk0 : isC 8 k0) {k1 : Nat} (hk1 : isC 8 k1) {r : Mem} (h : f_X8_copyFrom μ k0 k1 = some r) : CT l yX8_copyFrom cX8_copyFrom 3 none d G [.ref (gad G k0), .ref (gad G k1)] μ (RK none r) := by
  refine ct_start (by decide) (Nat.le_of_ble_eq_true rfl) (fun C hl1 hG1 hC hQ hr => ?_)
  subst hl1; subst hG1
  have hC : CxOK C cX8_copyFrom 3 RX8 d := hC
  show UW C 3 μ 0 [(0, .ref (gad (cG C) k0)), (1, .ref (gad (cG C) k1))] []
  have lw2 : ∀ (e : (Mem)) (s : Int32 × Mem), lp (fun s => f_X8_copyFrom_l2 k0 k1 s.1 s.2) FU s = some e → (fun (e : (Mem)) => UW C 3 e 28 [(0, .ref (gad (cG C) k0)), (1, .ref (gad (cG C) k1))] []) e → UW C 3 s.2 2 [(0, .ref (gad (cG C) k0)), (1, .ref (gad (cG C) k1)), (2, .int s.1)] [] := by
    intro e s hl hE0
    refine @lp_walk (Int32 × Mem) (Mem) (fun s => f_X8_copyFrom_l2 k0 k1 s.1 s.2) (fun s => UW C 3 s.2 2 [(0, .ref (gad (cG C) k0)), (1, .ref (gad (cG C) k1)), (2, .int s.1)] []) (fun (e : (Mem)) => UW C 3 e 28 [(0, .ref (gad (cG C) k0)), (1, .ref (gad (cG C) k1))] []) (fun s y2 h hP2 hE2 => ?_) FU s e hl hE0
    obtain ⟨v2_2, μ_2⟩ := s
    replace h : f_X8_copyFrom_l2 k0 k1 v2_2 μ_2 = some y2 := h
    show UW C 3 μ_2 2 [(0, .ref (gad (cG C) k0)), (1, .ref (gad (cG C) k1)), (2, .int v2_2)] []
    unfold f_X8_copyFrom_l2 at h
    refine u_iload_n (pc := 2) hC dX8_copyFrom_2 rfl 2 rfl ?_
    refine u_iconst (pc := 3) hC ic_4 dX8_copyFrom_3 ?_
    refine u_icmp_ge (pc := 4) hC (tgt := 28) dX8_copyFrom_4 (by decide) (fun c4 => ?_) (fun c4 => ?_)
    · replace h := of_t c4 h
      obtain rfl := Option.some.inj h
      refine u_sub [0, 1] rfl ?_
      exact hE2 μ_2 rfl
    · replace h := of_f c4 h
      refine u_aload_n (pc := 7) hC dX8_copyFrom_7 rfl 0 rfl ?_
      refine g_RX8_11 (pc := 8) hC hk0 dX8_copyFrom_8 ?_
      refine u_iload_n (pc := 11) hC dX8_copyFrom_11 rfl 2 rfl ?_
      obtain ⟨b12, h⟩ := of_gd h
      refine u_aaldD (pc := 12) hC (rs_8_0 hk0) b12 (rn_8_0 hk0) dX8_copyFrom_12 ?_
      refine u_aload_n (pc := 13) hC dX8_copyFrom_13 rfl 1 rfl ?_
      refine g_RX8_11 (pc := 14) hC hk1 dX8_copyFrom_14 ?_
      refine u_iload_n (pc := 17) hC dX8_copyFrom_17 rfl 2 rfl ?_
      obtain ⟨b18, h⟩ := of_gd h
      refine u_aaldD (pc := 18) hC (rs_8_0 hk1) b18 (rn_8_0 hk1) dX8_copyFrom_18 ?_
      obtain ⟨μ19, q19, h⟩ := of_bd h
      refine k_RX8_42 (pc := 19) hC (av := [.ref (gad (cG C) (rf (rf k1 0) v2_2.toNatClampNeg))]) (rest := []) (c_X0_copyFrom (d := d - 1) (by omega) (rs_15 (rs_8_0 hk0) b12) (rs_15 (rs_8_0 hk1) b18) q19) (by omega) (Nat.le_of_ble_eq_true rfl) (rs_15 (rs_8_0 hk0) b12) rfl rfl dX8_copyFrom_19 ?_
      refine u_iinc (pc := 22) hC dX8_copyFrom_22 2 rfl (v2_2 + 1) rfl [(2, .int (v2_2 + 1)), (0, .ref (gad (cG C) k0)), (1, .ref (gad (cG C) k1))] (by decide) rfl ?_
      refine u_goto (pc := 25) hC 2 dX8_copyFrom_25 (by decide) ?_
      obtain rfl := Option.some.inj h
      refine u_sub [1, 2, 0] rfl ?_
      exact hP2 (v2_2 + 1, μ19) rfl
  unfold f_X8_copyFrom at h
  refine u_iconst (pc := 0) hC ic_0 dX8_copyFrom_0 ?_
  refine u_istore_n (pc := 1) hC dX8_copyFrom_1 rfl [(2, .int (0 : Int32)), (0, .ref (gad (cG C) k0)), (1, .ref (gad (cG C) k1))] (by decide) rfl ?_
  obtain ⟨e2, l2, h⟩ := of_bd h
  refine u_sub [1, 2, 0] rfl ?_
  refine lw2  e2 ((0 : Int32), μ) l2 ?_
  show UW C 3 e2 28 [(0, .ref (gad (cG C) k0)), (1, .ref (gad (cG C) k1))] []
  refine u_aload_n (pc := 28) hC dX8_copyFrom_28 rfl 0 rfl ?_
  refine u_aload_n (pc := 29) hC dX8_copyFrom_29 rfl 1 rfl ?_
  refine g_RX8_26 (pc := 30) hC hk1 dX8_copyFrom_30 ?_
  obtain ⟨m33, q33, h⟩ := of_bd h
  refine p_RX8_26 (pc := 33) hC hk0 dX8_copyFrom_33 (Option.some.inj q33) ?_
  refine u_aload_n (pc := 36) hC dX8_copyFrom_36 rfl 0 rfl ?_
  refine u_aload_n (pc := 37) hC dX8_copyFrom_37 rfl 1 rfl ?_
  refine g_RX8_46 (pc := 38) hC hk1 dX8_copyFrom_38 ?_
  obtain ⟨m41, q41, h⟩ := of_bd h
  refine p_RX8_46 (pc := 41) hC hk0 dX8_copyFrom_41 (Option.some.inj q41) ?_
  obtain rfl := Option.some.inj h
  exact u_vret (pc := 44) hC hQ hr ⟨rfl, rfl⟩ dX8_copyFrom_44
