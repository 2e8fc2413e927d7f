set_option maxHeartbeats 4000000 in
set_option maxRecDepth 100000 in
theorem c_X0_copyFrom {l : Launch} {G : GG} {d : Nat} (hd : 0 ≤ d) {μ : Mem} {k0 : Nat} (hk0 : isC 0 k0) {k1 : Nat} (hk1 : isC 0 k1) {r : Mem} (h : f_X0_copyFrom μ k0 k1 = some r) : CT l yX0_copyFrom cX0_copyFrom 2 none d G [.ref (gad G k0), .ref (gad G k1)] μ (RK none r) := by
  refine ct_start (by decide) (Nat.le_of_ble_eq_true rfl) (fun C hl1 hG1 hC hQ hr => ?_)
  subst hl1; subst hG1
  have hC : CxOK C cX0_copyFrom 2 RX0 d := hC
  show UW C 2 μ 0 [(0, .ref (gad (cG C) k0)), (1, .ref (gad (cG C) k1))] []
  unfold f_X0_copyFrom at h
  refine u_aload_n (pc := 0) hC dX0_copyFrom_0 rfl 1 rfl ?_
  refine g_RX0_9 (pc := 1) hC hk1 dX0_copyFrom_1 ?_
  refine u_iconst (pc := 4) hC ic_0 dX0_copyFrom_4 ?_
  refine u_aload_n (pc := 5) hC dX0_copyFrom_5 rfl 0 rfl ?_
  refine g_RX0_9 (pc := 6) hC hk0 dX0_copyFrom_6 ?_
  refine u_iconst (pc := 9) hC ic_0 dX0_copyFrom_9 ?_
  refine u_bipush (pc := 10) hC bc_8 dX0_copyFrom_10 ?_
  obtain ⟨b12, h⟩ := of_gd h
  obtain ⟨m12, q12, h⟩ := of_bd h
  refine u_acopy (pc := 12) hC mL_RX0_18 mN_O_arraycopy mK_O_arraycopy mI_RJ10 (rs_0_0 hk1) (rs_0_0 hk0) b12 (Nat.le_of_ble_eq_true rfl) dX0_copyFrom_12 (Option.some.inj q12) ?_
  refine u_aload_n (pc := 15) hC dX0_copyFrom_15 rfl 1 rfl ?_
  refine g_RX0_15 (pc := 16) hC hk1 dX0_copyFrom_16 ?_
  refine u_iconst (pc := 19) hC ic_0 dX0_copyFrom_19 ?_
  refine u_aload_n (pc := 20) hC dX0_copyFrom_20 rfl 0 rfl ?_
  refine g_RX0_15 (pc := 21) hC hk0 dX0_copyFrom_21 ?_
  refine u_iconst (pc := 24) hC ic_0 dX0_copyFrom_24 ?_
  refine u_bipush (pc := 25) hC bc_8 dX0_copyFrom_25 ?_
  obtain ⟨b27, h⟩ := of_gd h
  obtain ⟨m27, q27, h⟩ := of_bd h
  refine u_acopy (pc := 27) hC mL_RX0_18 mN_O_arraycopy mK_O_arraycopy mI_RJ10 (rs_0_1 hk1) (rs_0_1 hk0) b27 (Nat.le_of_ble_eq_true rfl) dX0_copyFrom_27 (Option.some.inj q27) ?_
  refine u_aload_n (pc := 30) hC dX0_copyFrom_30 rfl 0 rfl ?_
  refine u_aload_n (pc := 31) hC dX0_copyFrom_31 rfl 1 rfl ?_
  refine g_RX0_24 (pc := 32) hC hk1 dX0_copyFrom_32 ?_
  obtain ⟨m35, q35, h⟩ := of_bd h
  refine p_RX0_24 (pc := 35) hC hk0 dX0_copyFrom_35 (Option.some.inj q35) ?_
  refine u_aload_n (pc := 38) hC dX0_copyFrom_38 rfl 0 rfl ?_
  refine u_aload_n (pc := 39) hC dX0_copyFrom_39 rfl 1 rfl ?_
  refine g_RX0_28 (pc := 40) hC hk1 dX0_copyFrom_40 ?_
  obtain ⟨m43, q43, h⟩ := of_bd h
  refine p_RX0_28 (pc := 43) hC hk0 dX0_copyFrom_43 (Option.some.inj q43) ?_
  refine u_aload_n (pc := 46) hC dX0_copyFrom_46 rfl 0 rfl ?_
  refine u_aload_n (pc := 47) hC dX0_copyFrom_47 rfl 1 rfl ?_
  refine g_RX0_31 (pc := 48) hC hk1 dX0_copyFrom_48 ?_
  obtain ⟨m51, q51, h⟩ := of_bd h
  refine p_RX0_31 (pc := 51) hC hk0 dX0_copyFrom_51 (Option.some.inj q51) ?_
  refine u_aload_n (pc := 54) hC dX0_copyFrom_54 rfl 0 rfl ?_
  refine u_aload_n (pc := 55) hC dX0_copyFrom_55 rfl 1 rfl ?_
  refine g_RX0_34 (pc := 56) hC hk1 dX0_copyFrom_56 ?_
  obtain ⟨m59, q59, h⟩ := of_bd h
  refine p_RX0_34 (pc := 59) hC hk0 dX0_copyFrom_59 (Option.some.inj q59) ?_
  refine u_aload_n (pc := 62) hC dX0_copyFrom_62 rfl 0 rfl ?_
  refine u_aload_n (pc := 63) hC dX0_copyFrom_63 rfl 1 rfl ?_
  refine g_RX0_37 (pc := 64) hC hk1 dX0_copyFrom_64 ?_
  obtain ⟨m67, q67, h⟩ := of_bd h
  refine p_RX0_37 (pc := 67) hC hk0 dX0_copyFrom_67 (Option.some.inj q67) ?_
  refine u_aload_n (pc := 70) hC dX0_copyFrom_70 rfl 0 rfl ?_
  refine u_aload_n (pc := 71) hC dX0_copyFrom_71 rfl 1 rfl ?_
  refine g_RX0_40 (pc := 72) hC hk1 dX0_copyFrom_72 ?_
  obtain ⟨b75, h⟩ := of_gd h
  obtain ⟨m75, q75, h⟩ := of_bd h
  refine p_RX0_40 (pc := 75) hC hk0 b75 dX0_copyFrom_75 (Option.some.inj q75) ?_
  obtain rfl := Option.some.inj h
  exact u_vret (pc := 78) hC hQ hr ⟨rfl, rfl⟩ dX0_copyFrom_78
