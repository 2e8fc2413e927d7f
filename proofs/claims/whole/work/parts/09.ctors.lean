theorem rdw_ne {μ : Mem} {k j a b : Nat} {v : Int32} (h : k ≠ a) : rd (wr μ a b v) k j = rd μ k j := by simp [rd, wr, h]
theorem rdc_ne {μ : Mem} {k j a i n : Nat} (h : k ≠ a) : rd (cpS μ a i n) k j = rd μ k j := by simp [rd, cpS, h]
theorem fl_t {μ : Mem} {k j a i n : Nat} (h : k ≠ a) (hf : ¬ rd μ k j = 0) : ¬ rd (cpS μ a i n) k j = 0 := by rw [rdc_ne h]; exact hf
theorem df_11 : ∀ j, j < 10 → defaultValue (tyX11 j) = if fk 11 j = 0 then .int 0 else .null := by decide +kernel
theorem df_10 : ∀ j, j < 9 → defaultValue (tyX10 j) = if fk 10 j = 0 then .int 0 else .null := by decide +kernel
theorem vn_RX11_7 {C : Cx} {cc : ByteArray} {nL : Nat} {d n0 mc ms : Nat} (hC : CxI C cc nL RX11 d n0 mc ms) {n c0 s0 : Nat} {μ : Mem} {pc : Nat} {lc : List (Nat × Value)} {sk : List Value} (hn : n = n0 + c0) (hsh : sh n = 10) (hz : Zr n μ) (hc : c0 + 1 ≤ mc ∧ s0 + 9 ≤ ms) (hd : decode cc pc = .ok (.new 7, 3)) (kk : UI C nL (n + 1) (c0 + 1) (s0 + 9) μ (pc + 3) lc (.ref (gad (cG C) n) :: sk)) : UI C nL n c0 s0 μ pc lc sk := v_new hC 10 (Cn := RX10) (T := TX10) (N := 9) rfl inAL_X10 rfl (by decide) mC_RX11_7 mT_RX10 mI_RX10 tyX10 tyX10_ok df_10 hn hsh hz hc hd kk
theorem df_1 : ∀ j, j < 6 → defaultValue (tyX1 j) = if fk 1 j = 0 then .int 0 else .null := by decide +kernel
theorem vn_RX10_9 {C : Cx} {cc : ByteArray} {nL : Nat} {d n0 mc ms : Nat} (hC : CxI C cc nL RX10 d n0 mc ms) {n c0 s0 : Nat} {μ : Mem} {pc : Nat} {lc : List (Nat × Value)} {sk : List Value} (hn : n = n0 + c0) (hsh : sh n = 1) (hz : Zr n μ) (hc : c0 + 1 ≤ mc ∧ s0 + 6 ≤ ms) (hd : decode cc pc = .ok (.new 9, 3)) (kk : UI C nL (n + 1) (c0 + 1) (s0 + 6) μ (pc + 3) lc (.ref (gad (cG C) n) :: sk)) : UI C nL n c0 s0 μ pc lc sk := v_new hC 1 (Cn := RX1) (T := TX1) (N := 6) rfl inAL_X1 rfl (by decide) mC_RX10_9 mT_RX1 mI_RX1 tyX1 tyX1_ok df_1 hn hsh hz hc hd kk
theorem vp_RX1_9 {C : Cx} {cc : ByteArray} {nL : Nat} {d n0 mc ms : Nat} (hC : CxI C cc nL RX1 d n0 mc ms) {n c0 s0 : Nat} {μ : Mem} {pc : Nat} {lc : List (Nat × Value)} {sk : List Value} (hmn : cMn C = "<init>") {k k2 : Nat} (hk1 : k < n) (hk2 : sh k = 1) (hrf : rf k 0 = k2) (hd : decode cc pc = .ok (.putfield 9, 3)) (kk : UI C nL n c0 s0 (wr μ k 0 1) (pc + 3) lc sk) : UI C nL n c0 s0 μ pc lc (.ref (gad (cG C) k2) :: .ref (gad (cG C) k) :: sk) := by
  subst hrf
  exact v_putFR hC 1 0 (Cn := RX1) (T := TX1) (N := 6) rfl inAL_X1 (by decide) rfl (by decide) mF_RX1_9 rfl hk1 hk2 tyX1 tyX1_ok nmX1 rfl hmn rfl (ty := .array .int) rfl rfl rfl rfl hd kk
theorem vp_RX1_15 {C : Cx} {cc : ByteArray} {nL : Nat} {d n0 mc ms : Nat} (hC : CxI C cc nL RX1 d n0 mc ms) {n c0 s0 : Nat} {μ : Mem} {pc : Nat} {lc : List (Nat × Value)} {sk : List Value} (hmn : cMn C = "<init>") {k k2 : Nat} (hk1 : k < n) (hk2 : sh k = 1) (hrf : rf k 1 = k2) (hd : decode cc pc = .ok (.putfield 15, 3)) (kk : UI C nL n c0 s0 (wr μ k 1 1) (pc + 3) lc sk) : UI C nL n c0 s0 μ pc lc (.ref (gad (cG C) k2) :: .ref (gad (cG C) k) :: sk) := by
  subst hrf
  exact v_putFR hC 1 1 (Cn := RX1) (T := TX1) (N := 6) rfl inAL_X1 (by decide) rfl (by decide) mF_RX1_15 rfl hk1 hk2 tyX1 tyX1_ok nmX1 rfl hmn rfl (ty := .array .int) rfl rfl rfl rfl hd kk
theorem vp_RX1_18 {C : Cx} {cc : ByteArray} {nL : Nat} {d n0 mc ms : Nat} (hC : CxI C cc nL RX1 d n0 mc ms) {n c0 s0 : Nat} {μ : Mem} {pc : Nat} {lc : List (Nat × Value)} {sk : List Value} (hmn : cMn C = "<init>") {k k2 : Nat} (hk1 : k < n) (hk2 : sh k = 1) (hrf : rf k 2 = k2) (hd : decode cc pc = .ok (.putfield 18, 3)) (kk : UI C nL n c0 s0 (wr μ k 2 1) (pc + 3) lc sk) : UI C nL n c0 s0 μ pc lc (.ref (gad (cG C) k2) :: .ref (gad (cG C) k) :: sk) := by
  subst hrf
  exact v_putFR hC 1 2 (Cn := RX1) (T := TX1) (N := 6) rfl inAL_X1 (by decide) rfl (by decide) mF_RX1_18 rfl hk1 hk2 tyX1 tyX1_ok nmX1 rfl hmn rfl (ty := .array .int) rfl rfl rfl rfl hd kk
theorem vp_RX1_21 {C : Cx} {cc : ByteArray} {nL : Nat} {d n0 mc ms : Nat} (hC : CxI C cc nL RX1 d n0 mc ms) {n c0 s0 : Nat} {μ : Mem} {pc : Nat} {lc : List (Nat × Value)} {sk : List Value} (hmn : cMn C = "<init>") {k k2 : Nat} (hk1 : k < n) (hk2 : sh k = 1) (hrf : rf k 3 = k2) (hd : decode cc pc = .ok (.putfield 21, 3)) (kk : UI C nL n c0 s0 (wr μ k 3 1) (pc + 3) lc sk) : UI C nL n c0 s0 μ pc lc (.ref (gad (cG C) k2) :: .ref (gad (cG C) k) :: sk) := by
  subst hrf
  exact v_putFR hC 1 3 (Cn := RX1) (T := TX1) (N := 6) rfl inAL_X1 (by decide) rfl (by decide) mF_RX1_21 rfl hk1 hk2 tyX1 tyX1_ok nmX1 rfl hmn rfl (ty := .array .int) rfl rfl rfl rfl hd kk
theorem vp_RX1_24 {C : Cx} {cc : ByteArray} {nL : Nat} {d n0 mc ms : Nat} (hC : CxI C cc nL RX1 d n0 mc ms) {n c0 s0 : Nat} {μ : Mem} {pc : Nat} {lc : List (Nat × Value)} {sk : List Value} (hmn : cMn C = "<init>") {k k2 : Nat} (hk1 : k < n) (hk2 : sh k = 1) (hrf : rf k 4 = k2) (hd : decode cc pc = .ok (.putfield 24, 3)) (kk : UI C nL n c0 s0 (wr μ k 4 1) (pc + 3) lc sk) : UI C nL n c0 s0 μ pc lc (.ref (gad (cG C) k2) :: .ref (gad (cG C) k) :: sk) := by
  subst hrf
  exact v_putFR hC 1 4 (Cn := RX1) (T := TX1) (N := 6) rfl inAL_X1 (by decide) rfl (by decide) mF_RX1_24 rfl hk1 hk2 tyX1 tyX1_ok nmX1 rfl hmn rfl (ty := .array .int) rfl rfl rfl rfl hd kk
theorem vc_RX10_11 {C : Cx} {cc : ByteArray} {nL : Nat} {d n0 mc ms : Nat} (hC : CxI C cc nL RX10 d n0 mc ms) {n c0 s0 : Nat} {μ : Mem} {pc : Nat} {lc : List (Nat × Value)} {sk : List Value} {d1 k mc1 ms1 : Nat} {av rest : List Value} {μ1 : Mem} (hM : CTI (cL C) yX1_init cX1_init 1 d1 (cG C) (.ref (gad (cG C) k) :: av) n μ mc1 ms1 μ1) (hna : av.length = 0) (hdep : d1 + 1 ≤ d) (hcat : (rest.map fun v => v.category).sum ≤ 8) (hn : n = n0 + c0) (hc : c0 + mc1 ≤ mc ∧ s0 + ms1 ≤ ms) (hst : sk = av.reverse ++ .ref (gad (cG C) k) :: rest) (hd : decode cc pc = .ok (.invokespecial 11, 3)) (kk : UI C nL (n + mc1) (c0 + mc1) (s0 + ms1) μ1 (pc + 3) lc rest) : UI C nL n c0 s0 μ pc lc sk := v_callIN hC hM (host := "ChapterLoan") (by decide +kernel) mM_X1_init mB_X1_init mI_RX1 rfl (by decide +kernel) hna (by decide) hdep hcat hn hc hst hd kk
theorem vp_RX10_12 {C : Cx} {cc : ByteArray} {nL : Nat} {d n0 mc ms : Nat} (hC : CxI C cc nL RX10 d n0 mc ms) {n c0 s0 : Nat} {μ : Mem} {pc : Nat} {lc : List (Nat × Value)} {sk : List Value} (hmn : cMn C = "<init>") {k k2 : Nat} (hk1 : k < n) (hk2 : sh k = 10) (hrf : rf k 0 = k2) (hd : decode cc pc = .ok (.putfield 12, 3)) (kk : UI C nL n c0 s0 (wr μ k 0 1) (pc + 3) lc sk) : UI C nL n c0 s0 μ pc lc (.ref (gad (cG C) k2) :: .ref (gad (cG C) k) :: sk) := by
  subst hrf
  exact v_putFR hC 10 0 (Cn := RX10) (T := TX10) (N := 9) rfl inAL_X10 (by decide) rfl (by decide) mF_RX10_12 rfl hk1 hk2 tyX10 tyX10_ok nmX10 rfl hmn rfl (ty := .object "ChapterLoan$Facts") rfl rfl rfl rfl hd kk
theorem df_2 : ∀ j, j < 4 → defaultValue (tyX2 j) = if fk 2 j = 0 then .int 0 else .null := by decide +kernel
theorem vn_RX10_18 {C : Cx} {cc : ByteArray} {nL : Nat} {d n0 mc ms : Nat} (hC : CxI C cc nL RX10 d n0 mc ms) {n c0 s0 : Nat} {μ : Mem} {pc : Nat} {lc : List (Nat × Value)} {sk : List Value} (hn : n = n0 + c0) (hsh : sh n = 2) (hz : Zr n μ) (hc : c0 + 1 ≤ mc ∧ s0 + 4 ≤ ms) (hd : decode cc pc = .ok (.new 18, 3)) (kk : UI C nL (n + 1) (c0 + 1) (s0 + 4) μ (pc + 3) lc (.ref (gad (cG C) n) :: sk)) : UI C nL n c0 s0 μ pc lc sk := v_new hC 2 (Cn := RX2) (T := TX2) (N := 4) rfl inAL_X2 rfl (by decide) mC_RX10_18 mT_RX2 mI_RX2 tyX2 tyX2_ok df_2 hn hsh hz hc hd kk
theorem vp_RX2_9 {C : Cx} {cc : ByteArray} {nL : Nat} {d n0 mc ms : Nat} (hC : CxI C cc nL RX2 d n0 mc ms) {n c0 s0 : Nat} {μ : Mem} {pc : Nat} {lc : List (Nat × Value)} {sk : List Value} (hmn : cMn C = "<init>") {k k2 : Nat} (hk1 : k < n) (hk2 : sh k = 2) (hrf : rf k 0 = k2) (hd : decode cc pc = .ok (.putfield 9, 3)) (kk : UI C nL n c0 s0 (wr μ k 0 1) (pc + 3) lc sk) : UI C nL n c0 s0 μ pc lc (.ref (gad (cG C) k2) :: .ref (gad (cG C) k) :: sk) := by
  subst hrf
  exact v_putFR hC 2 0 (Cn := RX2) (T := TX2) (N := 4) rfl inAL_X2 (by decide) rfl (by decide) mF_RX2_9 rfl hk1 hk2 tyX2 tyX2_ok nmX2 rfl hmn rfl (ty := .array .int) rfl rfl rfl rfl hd kk
theorem vp_RX2_15 {C : Cx} {cc : ByteArray} {nL : Nat} {d n0 mc ms : Nat} (hC : CxI C cc nL RX2 d n0 mc ms) {n c0 s0 : Nat} {μ : Mem} {pc : Nat} {lc : List (Nat × Value)} {sk : List Value} (hmn : cMn C = "<init>") {k k2 : Nat} (hk1 : k < n) (hk2 : sh k = 2) (hrf : rf k 1 = k2) (hd : decode cc pc = .ok (.putfield 15, 3)) (kk : UI C nL n c0 s0 (wr μ k 1 1) (pc + 3) lc sk) : UI C nL n c0 s0 μ pc lc (.ref (gad (cG C) k2) :: .ref (gad (cG C) k) :: sk) := by
  subst hrf
  exact v_putFR hC 2 1 (Cn := RX2) (T := TX2) (N := 4) rfl inAL_X2 (by decide) rfl (by decide) mF_RX2_15 rfl hk1 hk2 tyX2 tyX2_ok nmX2 rfl hmn rfl (ty := .array .int) rfl rfl rfl rfl hd kk
theorem vp_RX2_24 {C : Cx} {cc : ByteArray} {nL : Nat} {d n0 mc ms : Nat} (hC : CxI C cc nL RX2 d n0 mc ms) {n c0 s0 : Nat} {μ : Mem} {pc : Nat} {lc : List (Nat × Value)} {sk : List Value} (hmn : cMn C = "<init>") {k : Nat} (hk1 : k < n) (hk2 : sh k = 2) {v : Int32} (hd : decode cc pc = .ok (.putfield 24, 3)) (kk : UI C nL n c0 s0 (wr μ k 2 v) (pc + 3) lc sk) : UI C nL n c0 s0 μ pc lc (.int v :: .ref (gad (cG C) k) :: sk) := v_putFI hC 2 2 (Cn := RX2) (T := TX2) (N := 4) rfl inAL_X2 (by decide) rfl (by decide) mF_RX2_24 rfl hk1 hk2 tyX2 tyX2_ok nmX2 rfl hmn rfl (ty := .int) rfl rfl rfl rfl hd kk
theorem vp_RX2_28 {C : Cx} {cc : ByteArray} {nL : Nat} {d n0 mc ms : Nat} (hC : CxI C cc nL RX2 d n0 mc ms) {n c0 s0 : Nat} {μ : Mem} {pc : Nat} {lc : List (Nat × Value)} {sk : List Value} {k : Nat} (hk1 : k < n) (hk2 : sh k = 2) {v : Int32} (hd : decode cc pc = .ok (.putfield 28, 3)) (kk : UI C nL n c0 s0 (wr μ k 3 v) (pc + 3) lc sk) : UI C nL n c0 s0 μ pc lc (.int v :: .ref (gad (cG C) k) :: sk) := v_putI hC 2 3 (Cn := RX2) (T := TX2) (N := 4) rfl inAL_X2 (by decide) rfl (by decide) mF_RX2_28 rfl hk1 hk2 tyX2 tyX2_ok nmX2 rfl (ty := .int) rfl rfl rfl rfl hd kk
theorem vg_RX2_9 {C : Cx} {cc : ByteArray} {nL : Nat} {d n0 mc ms : Nat} (hC : CxI C cc nL RX2 d n0 mc ms) {n c0 s0 : Nat} {μ : Mem} {pc : Nat} {lc : List (Nat × Value)} {sk : List Value} {k : Nat} (k2 : Nat) (hk1 : k < n) (hk2 : sh k = 2) (hrf : rf k 0 = k2) (hfl : ¬ rd μ k 0 = 0) (hd : decode cc pc = .ok (.getfield 9, 3)) (kk : UI C nL n c0 s0 μ (pc + 3) lc (.ref (gad (cG C) k2) :: sk)) : UI C nL n c0 s0 μ pc lc (.ref (gad (cG C) k) :: sk) := by
  subst hrf
  exact v_getR hC 2 0 (Cn := RX2) (T := TX2) (N := 4) rfl inAL_X2 (by decide) rfl (by decide) mF_RX2_9 rfl hk1 hk2 rfl hfl hd kk
theorem vc_RX10_20 {C : Cx} {cc : ByteArray} {nL : Nat} {d n0 mc ms : Nat} (hC : CxI C cc nL RX10 d n0 mc ms) {n c0 s0 : Nat} {μ : Mem} {pc : Nat} {lc : List (Nat × Value)} {sk : List Value} {d1 k mc1 ms1 : Nat} {av rest : List Value} {μ1 : Mem} (hM : CTI (cL C) yX2_init cX2_init 3 d1 (cG C) (.ref (gad (cG C) k) :: av) n μ mc1 ms1 μ1) (hna : av.length = 1) (hdep : d1 + 1 ≤ d) (hcat : (rest.map fun v => v.category).sum ≤ 8) (hn : n = n0 + c0) (hc : c0 + mc1 ≤ mc ∧ s0 + ms1 ≤ ms) (hst : sk = av.reverse ++ .ref (gad (cG C) k) :: rest) (hd : decode cc pc = .ok (.invokespecial 20, 3)) (kk : UI C nL (n + mc1) (c0 + mc1) (s0 + ms1) μ1 (pc + 3) lc rest) : UI C nL n c0 s0 μ pc lc sk := v_callI hC hM mL_RX10_20 mM_X2_init mB_X2_init mI_RX2 rfl (by decide +kernel) hna (by decide) hdep hcat hn hc hst hd kk
theorem vp_RX10_23 {C : Cx} {cc : ByteArray} {nL : Nat} {d n0 mc ms : Nat} (hC : CxI C cc nL RX10 d n0 mc ms) {n c0 s0 : Nat} {μ : Mem} {pc : Nat} {lc : List (Nat × Value)} {sk : List Value} (hmn : cMn C = "<init>") {k k2 : Nat} (hk1 : k < n) (hk2 : sh k = 10) (hrf : rf k 1 = k2) (hd : decode cc pc = .ok (.putfield 23, 3)) (kk : UI C nL n c0 s0 (wr μ k 1 1) (pc + 3) lc sk) : UI C nL n c0 s0 μ pc lc (.ref (gad (cG C) k2) :: .ref (gad (cG C) k) :: sk) := by
  subst hrf
  exact v_putFR hC 10 1 (Cn := RX10) (T := TX10) (N := 9) rfl inAL_X10 (by decide) rfl (by decide) mF_RX10_23 rfl hk1 hk2 tyX10 tyX10_ok nmX10 rfl hmn rfl (ty := .object "ChapterLoan$Law") rfl rfl rfl rfl hd kk
theorem vp_RX10_27 {C : Cx} {cc : ByteArray} {nL : Nat} {d n0 mc ms : Nat} (hC : CxI C cc nL RX10 d n0 mc ms) {n c0 s0 : Nat} {μ : Mem} {pc : Nat} {lc : List (Nat × Value)} {sk : List Value} (hmn : cMn C = "<init>") {k k2 : Nat} (hk1 : k < n) (hk2 : sh k = 10) (hrf : rf k 2 = k2) (hd : decode cc pc = .ok (.putfield 27, 3)) (kk : UI C nL n c0 s0 (wr μ k 2 1) (pc + 3) lc sk) : UI C nL n c0 s0 μ pc lc (.ref (gad (cG C) k2) :: .ref (gad (cG C) k) :: sk) := by
  subst hrf
  exact v_putFR hC 10 2 (Cn := RX10) (T := TX10) (N := 9) rfl inAL_X10 (by decide) rfl (by decide) mF_RX10_27 rfl hk1 hk2 tyX10 tyX10_ok nmX10 rfl hmn rfl (ty := .object "ChapterLoan$Law") rfl rfl rfl rfl hd kk
theorem df_8 : ∀ j, j < 5 → defaultValue (tyX8 j) = if fk 8 j = 0 then .int 0 else .null := by decide +kernel
theorem vn_RX10_30 {C : Cx} {cc : ByteArray} {nL : Nat} {d n0 mc ms : Nat} (hC : CxI C cc nL RX10 d n0 mc ms) {n c0 s0 : Nat} {μ : Mem} {pc : Nat} {lc : List (Nat × Value)} {sk : List Value} (hn : n = n0 + c0) (hsh : sh n = 8) (hz : Zr n μ) (hc : c0 + 1 ≤ mc ∧ s0 + 5 ≤ ms) (hd : decode cc pc = .ok (.new 30, 3)) (kk : UI C nL (n + 1) (c0 + 1) (s0 + 5) μ (pc + 3) lc (.ref (gad (cG C) n) :: sk)) : UI C nL n c0 s0 μ pc lc sk := v_new hC 8 (Cn := RX8) (T := TX8) (N := 5) rfl inAL_X8 rfl (by decide) mC_RX10_30 mT_RX8 mI_RX8 tyX8 tyX8_ok df_8 hn hsh hz hc hd kk
theorem vg_RX10_12 {C : Cx} {cc : ByteArray} {nL : Nat} {d n0 mc ms : Nat} (hC : CxI C cc nL RX10 d n0 mc ms) {n c0 s0 : Nat} {μ : Mem} {pc : Nat} {lc : List (Nat × Value)} {sk : List Value} {k : Nat} (k2 : Nat) (hk1 : k < n) (hk2 : sh k = 10) (hrf : rf k 0 = k2) (hfl : ¬ rd μ k 0 = 0) (hd : decode cc pc = .ok (.getfield 12, 3)) (kk : UI C nL n c0 s0 μ (pc + 3) lc (.ref (gad (cG C) k2) :: sk)) : UI C nL n c0 s0 μ pc lc (.ref (gad (cG C) k) :: sk) := by
  subst hrf
  exact v_getR hC 10 0 (Cn := RX10) (T := TX10) (N := 9) rfl inAL_X10 (by decide) rfl (by decide) mF_RX10_12 rfl hk1 hk2 rfl hfl hd kk
theorem vg_RX10_23 {C : Cx} {cc : ByteArray} {nL : Nat} {d n0 mc ms : Nat} (hC : CxI C cc nL RX10 d n0 mc ms) {n c0 s0 : Nat} {μ : Mem} {pc : Nat} {lc : List (Nat × Value)} {sk : List Value} {k : Nat} (k2 : Nat) (hk1 : k < n) (hk2 : sh k = 10) (hrf : rf k 1 = k2) (hfl : ¬ rd μ k 1 = 0) (hd : decode cc pc = .ok (.getfield 23, 3)) (kk : UI C nL n c0 s0 μ (pc + 3) lc (.ref (gad (cG C) k2) :: sk)) : UI C nL n c0 s0 μ pc lc (.ref (gad (cG C) k) :: sk) := by
  subst hrf
  exact v_getR hC 10 1 (Cn := RX10) (T := TX10) (N := 9) rfl inAL_X10 (by decide) rfl (by decide) mF_RX10_23 rfl hk1 hk2 rfl hfl hd kk
theorem vp_RX8_11 {C : Cx} {cc : ByteArray} {nL : Nat} {d n0 mc ms : Nat} (hC : CxI C cc nL RX8 d n0 mc ms) {n c0 s0 : Nat} {μ : Mem} {pc : Nat} {lc : List (Nat × Value)} {sk : List Value} (hmn : cMn C = "<init>") {k k2 : Nat} (hk1 : k < n) (hk2 : sh k = 8) (hrf : rf k 0 = k2) (hd : decode cc pc = .ok (.putfield 11, 3)) (kk : UI C nL n c0 s0 (wr μ k 0 1) (pc + 3) lc sk) : UI C nL n c0 s0 μ pc lc (.ref (gad (cG C) k2) :: .ref (gad (cG C) k) :: sk) := by
  subst hrf
  exact v_putFR hC 8 0 (Cn := RX8) (T := TX8) (N := 5) rfl inAL_X8 (by decide) rfl (by decide) mF_RX8_11 rfl hk1 hk2 tyX8 tyX8_ok nmX8 rfl hmn rfl (ty := .array (.object "ChapterLoan$Debtor")) rfl rfl rfl rfl hd kk
theorem vp_RX8_17 {C : Cx} {cc : ByteArray} {nL : Nat} {d n0 mc ms : Nat} (hC : CxI C cc nL RX8 d n0 mc ms) {n c0 s0 : Nat} {μ : Mem} {pc : Nat} {lc : List (Nat × Value)} {sk : List Value} (hmn : cMn C = "<init>") {k k2 : Nat} (hk1 : k < n) (hk2 : sh k = 8) (hrf : rf k 1 = k2) (hd : decode cc pc = .ok (.putfield 17, 3)) (kk : UI C nL n c0 s0 (wr μ k 1 1) (pc + 3) lc sk) : UI C nL n c0 s0 μ pc lc (.ref (gad (cG C) k2) :: .ref (gad (cG C) k) :: sk) := by
  subst hrf
  exact v_putFR hC 8 1 (Cn := RX8) (T := TX8) (N := 5) rfl inAL_X8 (by decide) rfl (by decide) mF_RX8_17 rfl hk1 hk2 tyX8 tyX8_ok nmX8 rfl hmn rfl (ty := .object "ChapterLoan$Facts") rfl rfl rfl rfl hd kk
theorem vp_RX8_21 {C : Cx} {cc : ByteArray} {nL : Nat} {d n0 mc ms : Nat} (hC : CxI C cc nL RX8 d n0 mc ms) {n c0 s0 : Nat} {μ : Mem} {pc : Nat} {lc : List (Nat × Value)} {sk : List Value} (hmn : cMn C = "<init>") {k k2 : Nat} (hk1 : k < n) (hk2 : sh k = 8) (hrf : rf k 2 = k2) (hd : decode cc pc = .ok (.putfield 21, 3)) (kk : UI C nL n c0 s0 (wr μ k 2 1) (pc + 3) lc sk) : UI C nL n c0 s0 μ pc lc (.ref (gad (cG C) k2) :: .ref (gad (cG C) k) :: sk) := by
  subst hrf
  exact v_putFR hC 8 2 (Cn := RX8) (T := TX8) (N := 5) rfl inAL_X8 (by decide) rfl (by decide) mF_RX8_21 rfl hk1 hk2 tyX8 tyX8_ok nmX8 rfl hmn rfl (ty := .object "ChapterLoan$Law") rfl rfl rfl rfl hd kk
theorem vg_RX8_11 {C : Cx} {cc : ByteArray} {nL : Nat} {d n0 mc ms : Nat} (hC : CxI C cc nL RX8 d n0 mc ms) {n c0 s0 : Nat} {μ : Mem} {pc : Nat} {lc : List (Nat × Value)} {sk : List Value} {k : Nat} (k2 : Nat) (hk1 : k < n) (hk2 : sh k = 8) (hrf : rf k 0 = k2) (hfl : ¬ rd μ k 0 = 0) (hd : decode cc pc = .ok (.getfield 11, 3)) (kk : UI C nL n c0 s0 μ (pc + 3) lc (.ref (gad (cG C) k2) :: sk)) : UI C nL n c0 s0 μ pc lc (.ref (gad (cG C) k) :: sk) := by
  subst hrf
  exact v_getR hC 8 0 (Cn := RX8) (T := TX8) (N := 5) rfl inAL_X8 (by decide) rfl (by decide) mF_RX8_11 rfl hk1 hk2 rfl hfl hd kk
theorem df_0 : ∀ j, j < 8 → defaultValue (tyX0 j) = if fk 0 j = 0 then .int 0 else .null := by decide +kernel
theorem vn_RX8_9 {C : Cx} {cc : ByteArray} {nL : Nat} {d n0 mc ms : Nat} (hC : CxI C cc nL RX8 d n0 mc ms) {n c0 s0 : Nat} {μ : Mem} {pc : Nat} {lc : List (Nat × Value)} {sk : List Value} (hn : n = n0 + c0) (hsh : sh n = 0) (hz : Zr n μ) (hc : c0 + 1 ≤ mc ∧ s0 + 8 ≤ ms) (hd : decode cc pc = .ok (.new 9, 3)) (kk : UI C nL (n + 1) (c0 + 1) (s0 + 8) μ (pc + 3) lc (.ref (gad (cG C) n) :: sk)) : UI C nL n c0 s0 μ pc lc sk := v_new hC 0 (Cn := RX0) (T := TX0) (N := 8) rfl inAL_X0 rfl (by decide) mC_RX8_9 mT_RX0 mI_RX0 tyX0 tyX0_ok df_0 hn hsh hz hc hd kk
theorem vp_RX0_9 {C : Cx} {cc : ByteArray} {nL : Nat} {d n0 mc ms : Nat} (hC : CxI C cc nL RX0 d n0 mc ms) {n c0 s0 : Nat} {μ : Mem} {pc : Nat} {lc : List (Nat × Value)} {sk : List Value} (hmn : cMn C = "<init>") {k k2 : Nat} (hk1 : k < n) (hk2 : sh k = 0) (hrf : rf k 0 = k2) (hd : decode cc pc = .ok (.putfield 9, 3)) (kk : UI C nL n c0 s0 (wr μ k 0 1) (pc + 3) lc sk) : UI C nL n c0 s0 μ pc lc (.ref (gad (cG C) k2) :: .ref (gad (cG C) k) :: sk) := by
  subst hrf
  exact v_putFR hC 0 0 (Cn := RX0) (T := TX0) (N := 8) rfl inAL_X0 (by decide) rfl (by decide) mF_RX0_9 rfl hk1 hk2 tyX0 tyX0_ok nmX0 rfl hmn rfl (ty := .array .int) rfl rfl rfl rfl hd kk
theorem vp_RX0_15 {C : Cx} {cc : ByteArray} {nL : Nat} {d n0 mc ms : Nat} (hC : CxI C cc nL RX0 d n0 mc ms) {n c0 s0 : Nat} {μ : Mem} {pc : Nat} {lc : List (Nat × Value)} {sk : List Value} (hmn : cMn C = "<init>") {k k2 : Nat} (hk1 : k < n) (hk2 : sh k = 0) (hrf : rf k 1 = k2) (hd : decode cc pc = .ok (.putfield 15, 3)) (kk : UI C nL n c0 s0 (wr μ k 1 1) (pc + 3) lc sk) : UI C nL n c0 s0 μ pc lc (.ref (gad (cG C) k2) :: .ref (gad (cG C) k) :: sk) := by
  subst hrf
  exact v_putFR hC 0 1 (Cn := RX0) (T := TX0) (N := 8) rfl inAL_X0 (by decide) rfl (by decide) mF_RX0_15 rfl hk1 hk2 tyX0 tyX0_ok nmX0 rfl hmn rfl (ty := .array .int) rfl rfl rfl rfl hd kk
theorem vc_RX8_25 {C : Cx} {cc : ByteArray} {nL : Nat} {d n0 mc ms : Nat} (hC : CxI C cc nL RX8 d n0 mc ms) {n c0 s0 : Nat} {μ : Mem} {pc : Nat} {lc : List (Nat × Value)} {sk : List Value} {d1 k mc1 ms1 : Nat} {av rest : List Value} {μ1 : Mem} (hM : CTI (cL C) yX0_init cX0_init 1 d1 (cG C) (.ref (gad (cG C) k) :: av) n μ mc1 ms1 μ1) (hna : av.length = 0) (hdep : d1 + 1 ≤ d) (hcat : (rest.map fun v => v.category).sum ≤ 8) (hn : n = n0 + c0) (hc : c0 + mc1 ≤ mc ∧ s0 + ms1 ≤ ms) (hst : sk = av.reverse ++ .ref (gad (cG C) k) :: rest) (hd : decode cc pc = .ok (.invokespecial 25, 3)) (kk : UI C nL (n + mc1) (c0 + mc1) (s0 + ms1) μ1 (pc + 3) lc rest) : UI C nL n c0 s0 μ pc lc sk := v_callIN hC hM (host := "ChapterLoan") (by decide +kernel) mM_X0_init mB_X0_init mI_RX0 rfl (by decide +kernel) hna (by decide) hdep hcat hn hc hst hd kk
theorem vc_RX10_32 {C : Cx} {cc : ByteArray} {nL : Nat} {d n0 mc ms : Nat} (hC : CxI C cc nL RX10 d n0 mc ms) {n c0 s0 : Nat} {μ : Mem} {pc : Nat} {lc : List (Nat × Value)} {sk : List Value} {d1 k mc1 ms1 : Nat} {av rest : List Value} {μ1 : Mem} (hM : CTI (cL C) yX8_init cX8_init 4 d1 (cG C) (.ref (gad (cG C) k) :: av) n μ mc1 ms1 μ1) (hna : av.length = 2) (hdep : d1 + 1 ≤ d) (hcat : (rest.map fun v => v.category).sum ≤ 8) (hn : n = n0 + c0) (hc : c0 + mc1 ≤ mc ∧ s0 + ms1 ≤ ms) (hst : sk = av.reverse ++ .ref (gad (cG C) k) :: rest) (hd : decode cc pc = .ok (.invokespecial 32, 3)) (kk : UI C nL (n + mc1) (c0 + mc1) (s0 + ms1) μ1 (pc + 3) lc rest) : UI C nL n c0 s0 μ pc lc sk := v_callI hC hM mL_RX10_32 mM_X8_init mB_X8_init mI_RX8 rfl (by decide +kernel) hna (by decide) hdep hcat hn hc hst hd kk
theorem vp_RX10_35 {C : Cx} {cc : ByteArray} {nL : Nat} {d n0 mc ms : Nat} (hC : CxI C cc nL RX10 d n0 mc ms) {n c0 s0 : Nat} {μ : Mem} {pc : Nat} {lc : List (Nat × Value)} {sk : List Value} (hmn : cMn C = "<init>") {k k2 : Nat} (hk1 : k < n) (hk2 : sh k = 10) (hrf : rf k 3 = k2) (hd : decode cc pc = .ok (.putfield 35, 3)) (kk : UI C nL n c0 s0 (wr μ k 3 1) (pc + 3) lc sk) : UI C nL n c0 s0 μ pc lc (.ref (gad (cG C) k2) :: .ref (gad (cG C) k) :: sk) := by
  subst hrf
  exact v_putFR hC 10 3 (Cn := RX10) (T := TX10) (N := 9) rfl inAL_X10 (by decide) rfl (by decide) mF_RX10_35 rfl hk1 hk2 tyX10 tyX10_ok nmX10 rfl hmn rfl (ty := .object "ChapterLoan$Town") rfl rfl rfl rfl hd kk
theorem df_3 : ∀ j, j < 4 → defaultValue (tyX3 j) = if fk 3 j = 0 then .int 0 else .null := by decide +kernel
theorem vn_RX10_39 {C : Cx} {cc : ByteArray} {nL : Nat} {d n0 mc ms : Nat} (hC : CxI C cc nL RX10 d n0 mc ms) {n c0 s0 : Nat} {μ : Mem} {pc : Nat} {lc : List (Nat × Value)} {sk : List Value} (hn : n = n0 + c0) (hsh : sh n = 3) (hz : Zr n μ) (hc : c0 + 1 ≤ mc ∧ s0 + 4 ≤ ms) (hd : decode cc pc = .ok (.new 39, 3)) (kk : UI C nL (n + 1) (c0 + 1) (s0 + 4) μ (pc + 3) lc (.ref (gad (cG C) n) :: sk)) : UI C nL n c0 s0 μ pc lc sk := v_new hC 3 (Cn := RX3) (T := TX3) (N := 4) rfl inAL_X3 rfl (by decide) mC_RX10_39 mT_RX3 mI_RX3 tyX3 tyX3_ok df_3 hn hsh hz hc hd kk
theorem vp_RX3_9 {C : Cx} {cc : ByteArray} {nL : Nat} {d n0 mc ms : Nat} (hC : CxI C cc nL RX3 d n0 mc ms) {n c0 s0 : Nat} {μ : Mem} {pc : Nat} {lc : List (Nat × Value)} {sk : List Value} (hmn : cMn C = "<init>") {k k2 : Nat} (hk1 : k < n) (hk2 : sh k = 3) (hrf : rf k 0 = k2) (hd : decode cc pc = .ok (.putfield 9, 3)) (kk : UI C nL n c0 s0 (wr μ k 0 1) (pc + 3) lc sk) : UI C nL n c0 s0 μ pc lc (.ref (gad (cG C) k2) :: .ref (gad (cG C) k) :: sk) := by
  subst hrf
  exact v_putFR hC 3 0 (Cn := RX3) (T := TX3) (N := 4) rfl inAL_X3 (by decide) rfl (by decide) mF_RX3_9 rfl hk1 hk2 tyX3 tyX3_ok nmX3 rfl hmn rfl (ty := .array .int) rfl rfl rfl rfl hd kk
theorem vp_RX3_15 {C : Cx} {cc : ByteArray} {nL : Nat} {d n0 mc ms : Nat} (hC : CxI C cc nL RX3 d n0 mc ms) {n c0 s0 : Nat} {μ : Mem} {pc : Nat} {lc : List (Nat × Value)} {sk : List Value} (hmn : cMn C = "<init>") {k k2 : Nat} (hk1 : k < n) (hk2 : sh k = 3) (hrf : rf k 1 = k2) (hd : decode cc pc = .ok (.putfield 15, 3)) (kk : UI C nL n c0 s0 (wr μ k 1 1) (pc + 3) lc sk) : UI C nL n c0 s0 μ pc lc (.ref (gad (cG C) k2) :: .ref (gad (cG C) k) :: sk) := by
  subst hrf
  exact v_putFR hC 3 1 (Cn := RX3) (T := TX3) (N := 4) rfl inAL_X3 (by decide) rfl (by decide) mF_RX3_15 rfl hk1 hk2 tyX3 tyX3_ok nmX3 rfl hmn rfl (ty := .array .int) rfl rfl rfl rfl hd kk
theorem vp_RX3_18 {C : Cx} {cc : ByteArray} {nL : Nat} {d n0 mc ms : Nat} (hC : CxI C cc nL RX3 d n0 mc ms) {n c0 s0 : Nat} {μ : Mem} {pc : Nat} {lc : List (Nat × Value)} {sk : List Value} (hmn : cMn C = "<init>") {k k2 : Nat} (hk1 : k < n) (hk2 : sh k = 3) (hrf : rf k 2 = k2) (hd : decode cc pc = .ok (.putfield 18, 3)) (kk : UI C nL n c0 s0 (wr μ k 2 1) (pc + 3) lc sk) : UI C nL n c0 s0 μ pc lc (.ref (gad (cG C) k2) :: .ref (gad (cG C) k) :: sk) := by
  subst hrf
  exact v_putFR hC 3 2 (Cn := RX3) (T := TX3) (N := 4) rfl inAL_X3 (by decide) rfl (by decide) mF_RX3_18 rfl hk1 hk2 tyX3 tyX3_ok nmX3 rfl hmn rfl (ty := .array .int) rfl rfl rfl rfl hd kk
theorem vc_RX10_41 {C : Cx} {cc : ByteArray} {nL : Nat} {d n0 mc ms : Nat} (hC : CxI C cc nL RX10 d n0 mc ms) {n c0 s0 : Nat} {μ : Mem} {pc : Nat} {lc : List (Nat × Value)} {sk : List Value} {d1 k mc1 ms1 : Nat} {av rest : List Value} {μ1 : Mem} (hM : CTI (cL C) yX3_init cX3_init 1 d1 (cG C) (.ref (gad (cG C) k) :: av) n μ mc1 ms1 μ1) (hna : av.length = 0) (hdep : d1 + 1 ≤ d) (hcat : (rest.map fun v => v.category).sum ≤ 8) (hn : n = n0 + c0) (hc : c0 + mc1 ≤ mc ∧ s0 + ms1 ≤ ms) (hst : sk = av.reverse ++ .ref (gad (cG C) k) :: rest) (hd : decode cc pc = .ok (.invokespecial 41, 3)) (kk : UI C nL (n + mc1) (c0 + mc1) (s0 + ms1) μ1 (pc + 3) lc rest) : UI C nL n c0 s0 μ pc lc sk := v_callIN hC hM (host := "ChapterLoan") (by decide +kernel) mM_X3_init mB_X3_init mI_RX3 rfl (by decide +kernel) hna (by decide) hdep hcat hn hc hst hd kk
theorem vp_RX10_42 {C : Cx} {cc : ByteArray} {nL : Nat} {d n0 mc ms : Nat} (hC : CxI C cc nL RX10 d n0 mc ms) {n c0 s0 : Nat} {μ : Mem} {pc : Nat} {lc : List (Nat × Value)} {sk : List Value} (hmn : cMn C = "<init>") {k k2 : Nat} (hk1 : k < n) (hk2 : sh k = 10) (hrf : rf k 4 = k2) (hd : decode cc pc = .ok (.putfield 42, 3)) (kk : UI C nL n c0 s0 (wr μ k 4 1) (pc + 3) lc sk) : UI C nL n c0 s0 μ pc lc (.ref (gad (cG C) k2) :: .ref (gad (cG C) k) :: sk) := by
  subst hrf
  exact v_putFR hC 10 4 (Cn := RX10) (T := TX10) (N := 9) rfl inAL_X10 (by decide) rfl (by decide) mF_RX10_42 rfl hk1 hk2 tyX10 tyX10_ok nmX10 rfl hmn rfl (ty := .object "ChapterLoan$Meetings") rfl rfl rfl rfl hd kk
theorem df_7 : ∀ j, j < 2 → defaultValue (tyX7 j) = if fk 7 j = 0 then .int 0 else .null := by decide +kernel
theorem vn_RX10_46 {C : Cx} {cc : ByteArray} {nL : Nat} {d n0 mc ms : Nat} (hC : CxI C cc nL RX10 d n0 mc ms) {n c0 s0 : Nat} {μ : Mem} {pc : Nat} {lc : List (Nat × Value)} {sk : List Value} (hn : n = n0 + c0) (hsh : sh n = 7) (hz : Zr n μ) (hc : c0 + 1 ≤ mc ∧ s0 + 2 ≤ ms) (hd : decode cc pc = .ok (.new 46, 3)) (kk : UI C nL (n + 1) (c0 + 1) (s0 + 2) μ (pc + 3) lc (.ref (gad (cG C) n) :: sk)) : UI C nL n c0 s0 μ pc lc sk := v_new hC 7 (Cn := RX7) (T := TX7) (N := 2) rfl inAL_X7 rfl (by decide) mC_RX10_46 mT_RX7 mI_RX7 tyX7 tyX7_ok df_7 hn hsh hz hc hd kk
theorem vp_RX7_9 {C : Cx} {cc : ByteArray} {nL : Nat} {d n0 mc ms : Nat} (hC : CxI C cc nL RX7 d n0 mc ms) {n c0 s0 : Nat} {μ : Mem} {pc : Nat} {lc : List (Nat × Value)} {sk : List Value} (hmn : cMn C = "<init>") {k k2 : Nat} (hk1 : k < n) (hk2 : sh k = 7) (hrf : rf k 0 = k2) (hd : decode cc pc = .ok (.putfield 9, 3)) (kk : UI C nL n c0 s0 (wr μ k 0 1) (pc + 3) lc sk) : UI C nL n c0 s0 μ pc lc (.ref (gad (cG C) k2) :: .ref (gad (cG C) k) :: sk) := by
  subst hrf
  exact v_putFR hC 7 0 (Cn := RX7) (T := TX7) (N := 2) rfl inAL_X7 (by decide) rfl (by decide) mF_RX7_9 rfl hk1 hk2 tyX7 tyX7_ok nmX7 rfl hmn rfl (ty := .array .int) rfl rfl rfl rfl hd kk
theorem vc_RX10_48 {C : Cx} {cc : ByteArray} {nL : Nat} {d n0 mc ms : Nat} (hC : CxI C cc nL RX10 d n0 mc ms) {n c0 s0 : Nat} {μ : Mem} {pc : Nat} {lc : List (Nat × Value)} {sk : List Value} {d1 k mc1 ms1 : Nat} {av rest : List Value} {μ1 : Mem} (hM : CTI (cL C) yX7_init cX7_init 1 d1 (cG C) (.ref (gad (cG C) k) :: av) n μ mc1 ms1 μ1) (hna : av.length = 0) (hdep : d1 + 1 ≤ d) (hcat : (rest.map fun v => v.category).sum ≤ 8) (hn : n = n0 + c0) (hc : c0 + mc1 ≤ mc ∧ s0 + ms1 ≤ ms) (hst : sk = av.reverse ++ .ref (gad (cG C) k) :: rest) (hd : decode cc pc = .ok (.invokespecial 48, 3)) (kk : UI C nL (n + mc1) (c0 + mc1) (s0 + ms1) μ1 (pc + 3) lc rest) : UI C nL n c0 s0 μ pc lc sk := v_callIN hC hM (host := "ChapterLoan") (by decide +kernel) mM_X7_init mB_X7_init mI_RX7 rfl (by decide +kernel) hna (by decide) hdep hcat hn hc hst hd kk
theorem vp_RX10_49 {C : Cx} {cc : ByteArray} {nL : Nat} {d n0 mc ms : Nat} (hC : CxI C cc nL RX10 d n0 mc ms) {n c0 s0 : Nat} {μ : Mem} {pc : Nat} {lc : List (Nat × Value)} {sk : List Value} (hmn : cMn C = "<init>") {k k2 : Nat} (hk1 : k < n) (hk2 : sh k = 10) (hrf : rf k 5 = k2) (hd : decode cc pc = .ok (.putfield 49, 3)) (kk : UI C nL n c0 s0 (wr μ k 5 1) (pc + 3) lc sk) : UI C nL n c0 s0 μ pc lc (.ref (gad (cG C) k2) :: .ref (gad (cG C) k) :: sk) := by
  subst hrf
  exact v_putFR hC 10 5 (Cn := RX10) (T := TX10) (N := 9) rfl inAL_X10 (by decide) rfl (by decide) mF_RX10_49 rfl hk1 hk2 tyX10 tyX10_ok nmX10 rfl hmn rfl (ty := .object "ChapterLoan$Tape") rfl rfl rfl rfl hd kk
theorem vp_RX10_53 {C : Cx} {cc : ByteArray} {nL : Nat} {d n0 mc ms : Nat} (hC : CxI C cc nL RX10 d n0 mc ms) {n c0 s0 : Nat} {μ : Mem} {pc : Nat} {lc : List (Nat × Value)} {sk : List Value} (hmn : cMn C = "<init>") {k k2 : Nat} (hk1 : k < n) (hk2 : sh k = 10) (hrf : rf k 6 = k2) (hd : decode cc pc = .ok (.putfield 53, 3)) (kk : UI C nL n c0 s0 (wr μ k 6 1) (pc + 3) lc sk) : UI C nL n c0 s0 μ pc lc (.ref (gad (cG C) k2) :: .ref (gad (cG C) k) :: sk) := by
  subst hrf
  exact v_putFR hC 10 6 (Cn := RX10) (T := TX10) (N := 9) rfl inAL_X10 (by decide) rfl (by decide) mF_RX10_53 rfl hk1 hk2 tyX10 tyX10_ok nmX10 rfl hmn rfl (ty := .array .int) rfl rfl rfl rfl hd kk
theorem vp_RX10_57 {C : Cx} {cc : ByteArray} {nL : Nat} {d n0 mc ms : Nat} (hC : CxI C cc nL RX10 d n0 mc ms) {n c0 s0 : Nat} {μ : Mem} {pc : Nat} {lc : List (Nat × Value)} {sk : List Value} {k : Nat} (hk1 : k < n) (hk2 : sh k = 10) {v : Int32} (hd : decode cc pc = .ok (.putfield 57, 3)) (kk : UI C nL n c0 s0 (wr μ k 8 v) (pc + 3) lc sk) : UI C nL n c0 s0 μ pc lc (.int v :: .ref (gad (cG C) k) :: sk) := v_putI hC 10 8 (Cn := RX10) (T := TX10) (N := 9) rfl inAL_X10 (by decide) rfl (by decide) mF_RX10_57 rfl hk1 hk2 tyX10 tyX10_ok nmX10 rfl (ty := .int) rfl rfl rfl rfl hd kk
theorem vc_RX11_9 {C : Cx} {cc : ByteArray} {nL : Nat} {d n0 mc ms : Nat} (hC : CxI C cc nL RX11 d n0 mc ms) {n c0 s0 : Nat} {μ : Mem} {pc : Nat} {lc : List (Nat × Value)} {sk : List Value} {d1 k mc1 ms1 : Nat} {av rest : List Value} {μ1 : Mem} (hM : CTI (cL C) yX10_init cX10_init 1 d1 (cG C) (.ref (gad (cG C) k) :: av) n μ mc1 ms1 μ1) (hna : av.length = 0) (hdep : d1 + 1 ≤ d) (hcat : (rest.map fun v => v.category).sum ≤ 8) (hn : n = n0 + c0) (hc : c0 + mc1 ≤ mc ∧ s0 + ms1 ≤ ms) (hst : sk = av.reverse ++ .ref (gad (cG C) k) :: rest) (hd : decode cc pc = .ok (.invokespecial 9, 3)) (kk : UI C nL (n + mc1) (c0 + mc1) (s0 + ms1) μ1 (pc + 3) lc rest) : UI C nL n c0 s0 μ pc lc sk := v_callIN hC hM (host := "ChapterLoan") (by decide +kernel) mM_X10_init mB_X10_init mI_RX10 rfl (by decide +kernel) hna (by decide) hdep hcat hn hc hst hd kk
theorem vp_RX11_10 {C : Cx} {cc : ByteArray} {nL : Nat} {d n0 mc ms : Nat} (hC : CxI C cc nL RX11 d n0 mc ms) {n c0 s0 : Nat} {μ : Mem} {pc : Nat} {lc : List (Nat × Value)} {sk : List Value} (hmn : cMn C = "<init>") {k k2 : Nat} (hk1 : k < n) (hk2 : sh k = 11) (hrf : rf k 0 = k2) (hd : decode cc pc = .ok (.putfield 10, 3)) (kk : UI C nL n c0 s0 (wr μ k 0 1) (pc + 3) lc sk) : UI C nL n c0 s0 μ pc lc (.ref (gad (cG C) k2) :: .ref (gad (cG C) k) :: sk) := by
  subst hrf
  exact v_putFR hC 11 0 (Cn := RX11) (T := TX11) (N := 10) rfl inAL_X11 (by decide) rfl (by decide) mF_RX11_10 rfl hk1 hk2 tyX11 tyX11_ok nmX11 rfl hmn rfl (ty := .object "ChapterLoan$World") rfl rfl rfl rfl hd kk
theorem vp_RX11_16 {C : Cx} {cc : ByteArray} {nL : Nat} {d n0 mc ms : Nat} (hC : CxI C cc nL RX11 d n0 mc ms) {n c0 s0 : Nat} {μ : Mem} {pc : Nat} {lc : List (Nat × Value)} {sk : List Value} (hmn : cMn C = "<init>") {k k2 : Nat} (hk1 : k < n) (hk2 : sh k = 11) (hrf : rf k 1 = k2) (hd : decode cc pc = .ok (.putfield 16, 3)) (kk : UI C nL n c0 s0 (wr μ k 1 1) (pc + 3) lc sk) : UI C nL n c0 s0 μ pc lc (.ref (gad (cG C) k2) :: .ref (gad (cG C) k) :: sk) := by
  subst hrf
  exact v_putFR hC 11 1 (Cn := RX11) (T := TX11) (N := 10) rfl inAL_X11 (by decide) rfl (by decide) mF_RX11_16 rfl hk1 hk2 tyX11 tyX11_ok nmX11 rfl hmn rfl (ty := .object "ChapterLoan$World") rfl rfl rfl rfl hd kk
theorem vn_RX11_19 {C : Cx} {cc : ByteArray} {nL : Nat} {d n0 mc ms : Nat} (hC : CxI C cc nL RX11 d n0 mc ms) {n c0 s0 : Nat} {μ : Mem} {pc : Nat} {lc : List (Nat × Value)} {sk : List Value} (hn : n = n0 + c0) (hsh : sh n = 8) (hz : Zr n μ) (hc : c0 + 1 ≤ mc ∧ s0 + 5 ≤ ms) (hd : decode cc pc = .ok (.new 19, 3)) (kk : UI C nL (n + 1) (c0 + 1) (s0 + 5) μ (pc + 3) lc (.ref (gad (cG C) n) :: sk)) : UI C nL n c0 s0 μ pc lc sk := v_new hC 8 (Cn := RX8) (T := TX8) (N := 5) rfl inAL_X8 rfl (by decide) mC_RX11_19 mT_RX8 mI_RX8 tyX8 tyX8_ok df_8 hn hsh hz hc hd kk
theorem vg_RX11_10 {C : Cx} {cc : ByteArray} {nL : Nat} {d n0 mc ms : Nat} (hC : CxI C cc nL RX11 d n0 mc ms) {n c0 s0 : Nat} {μ : Mem} {pc : Nat} {lc : List (Nat × Value)} {sk : List Value} {k : Nat} (k2 : Nat) (hk1 : k < n) (hk2 : sh k = 11) (hrf : rf k 0 = k2) (hfl : ¬ rd μ k 0 = 0) (hd : decode cc pc = .ok (.getfield 10, 3)) (kk : UI C nL n c0 s0 μ (pc + 3) lc (.ref (gad (cG C) k2) :: sk)) : UI C nL n c0 s0 μ pc lc (.ref (gad (cG C) k) :: sk) := by
  subst hrf
  exact v_getR hC 11 0 (Cn := RX11) (T := TX11) (N := 10) rfl inAL_X11 (by decide) rfl (by decide) mF_RX11_10 rfl hk1 hk2 rfl hfl hd kk
theorem vg_RX11_21 {C : Cx} {cc : ByteArray} {nL : Nat} {d n0 mc ms : Nat} (hC : CxI C cc nL RX11 d n0 mc ms) {n c0 s0 : Nat} {μ : Mem} {pc : Nat} {lc : List (Nat × Value)} {sk : List Value} {k : Nat} (k2 : Nat) (hk1 : k < n) (hk2 : sh k = 10) (hrf : rf k 0 = k2) (hfl : ¬ rd μ k 0 = 0) (hd : decode cc pc = .ok (.getfield 21, 3)) (kk : UI C nL n c0 s0 μ (pc + 3) lc (.ref (gad (cG C) k2) :: sk)) : UI C nL n c0 s0 μ pc lc (.ref (gad (cG C) k) :: sk) := by
  subst hrf
  exact v_getR hC 10 0 (Cn := RX10) (T := TX10) (N := 9) rfl inAL_X10 (by decide) rfl (by decide) mF_RX11_21 rfl hk1 hk2 rfl hfl hd kk
theorem vg_RX11_25 {C : Cx} {cc : ByteArray} {nL : Nat} {d n0 mc ms : Nat} (hC : CxI C cc nL RX11 d n0 mc ms) {n c0 s0 : Nat} {μ : Mem} {pc : Nat} {lc : List (Nat × Value)} {sk : List Value} {k : Nat} (k2 : Nat) (hk1 : k < n) (hk2 : sh k = 10) (hrf : rf k 1 = k2) (hfl : ¬ rd μ k 1 = 0) (hd : decode cc pc = .ok (.getfield 25, 3)) (kk : UI C nL n c0 s0 μ (pc + 3) lc (.ref (gad (cG C) k2) :: sk)) : UI C nL n c0 s0 μ pc lc (.ref (gad (cG C) k) :: sk) := by
  subst hrf
  exact v_getR hC 10 1 (Cn := RX10) (T := TX10) (N := 9) rfl inAL_X10 (by decide) rfl (by decide) mF_RX11_25 rfl hk1 hk2 rfl hfl hd kk
theorem vc_RX11_29 {C : Cx} {cc : ByteArray} {nL : Nat} {d n0 mc ms : Nat} (hC : CxI C cc nL RX11 d n0 mc ms) {n c0 s0 : Nat} {μ : Mem} {pc : Nat} {lc : List (Nat × Value)} {sk : List Value} {d1 k mc1 ms1 : Nat} {av rest : List Value} {μ1 : Mem} (hM : CTI (cL C) yX8_init cX8_init 4 d1 (cG C) (.ref (gad (cG C) k) :: av) n μ mc1 ms1 μ1) (hna : av.length = 2) (hdep : d1 + 1 ≤ d) (hcat : (rest.map fun v => v.category).sum ≤ 8) (hn : n = n0 + c0) (hc : c0 + mc1 ≤ mc ∧ s0 + ms1 ≤ ms) (hst : sk = av.reverse ++ .ref (gad (cG C) k) :: rest) (hd : decode cc pc = .ok (.invokespecial 29, 3)) (kk : UI C nL (n + mc1) (c0 + mc1) (s0 + ms1) μ1 (pc + 3) lc rest) : UI C nL n c0 s0 μ pc lc sk := v_callI hC hM mL_RX11_29 mM_X8_init mB_X8_init mI_RX8 rfl (by decide +kernel) hna (by decide) hdep hcat hn hc hst hd kk
theorem vp_RX11_32 {C : Cx} {cc : ByteArray} {nL : Nat} {d n0 mc ms : Nat} (hC : CxI C cc nL RX11 d n0 mc ms) {n c0 s0 : Nat} {μ : Mem} {pc : Nat} {lc : List (Nat × Value)} {sk : List Value} (hmn : cMn C = "<init>") {k k2 : Nat} (hk1 : k < n) (hk2 : sh k = 11) (hrf : rf k 2 = k2) (hd : decode cc pc = .ok (.putfield 32, 3)) (kk : UI C nL n c0 s0 (wr μ k 2 1) (pc + 3) lc sk) : UI C nL n c0 s0 μ pc lc (.ref (gad (cG C) k2) :: .ref (gad (cG C) k) :: sk) := by
  subst hrf
  exact v_putFR hC 11 2 (Cn := RX11) (T := TX11) (N := 10) rfl inAL_X11 (by decide) rfl (by decide) mF_RX11_32 rfl hk1 hk2 tyX11 tyX11_ok nmX11 rfl hmn rfl (ty := .object "ChapterLoan$Town") rfl rfl rfl rfl hd kk
theorem df_5 : ∀ j, j < 12 → defaultValue (tyX5 j) = if fk 5 j = 0 then .int 0 else .null := by decide +kernel
theorem vn_RX11_36 {C : Cx} {cc : ByteArray} {nL : Nat} {d n0 mc ms : Nat} (hC : CxI C cc nL RX11 d n0 mc ms) {n c0 s0 : Nat} {μ : Mem} {pc : Nat} {lc : List (Nat × Value)} {sk : List Value} (hn : n = n0 + c0) (hsh : sh n = 5) (hz : Zr n μ) (hc : c0 + 1 ≤ mc ∧ s0 + 12 ≤ ms) (hd : decode cc pc = .ok (.new 36, 3)) (kk : UI C nL (n + 1) (c0 + 1) (s0 + 12) μ (pc + 3) lc (.ref (gad (cG C) n) :: sk)) : UI C nL n c0 s0 μ pc lc sk := v_new hC 5 (Cn := RX5) (T := TX5) (N := 12) rfl inAL_X5 rfl (by decide) mC_RX11_36 mT_RX5 mI_RX5 tyX5 tyX5_ok df_5 hn hsh hz hc hd kk
theorem vp_RX5_9 {C : Cx} {cc : ByteArray} {nL : Nat} {d n0 mc ms : Nat} (hC : CxI C cc nL RX5 d n0 mc ms) {n c0 s0 : Nat} {μ : Mem} {pc : Nat} {lc : List (Nat × Value)} {sk : List Value} (hmn : cMn C = "<init>") {k k2 : Nat} (hk1 : k < n) (hk2 : sh k = 5) (hrf : rf k 0 = k2) (hd : decode cc pc = .ok (.putfield 9, 3)) (kk : UI C nL n c0 s0 (wr μ k 0 1) (pc + 3) lc sk) : UI C nL n c0 s0 μ pc lc (.ref (gad (cG C) k2) :: .ref (gad (cG C) k) :: sk) := by
  subst hrf
  exact v_putFR hC 5 0 (Cn := RX5) (T := TX5) (N := 12) rfl inAL_X5 (by decide) rfl (by decide) mF_RX5_9 rfl hk1 hk2 tyX5 tyX5_ok nmX5 rfl hmn rfl (ty := .array .int) rfl rfl rfl rfl hd kk
theorem vp_RX5_15 {C : Cx} {cc : ByteArray} {nL : Nat} {d n0 mc ms : Nat} (hC : CxI C cc nL RX5 d n0 mc ms) {n c0 s0 : Nat} {μ : Mem} {pc : Nat} {lc : List (Nat × Value)} {sk : List Value} (hmn : cMn C = "<init>") {k k2 : Nat} (hk1 : k < n) (hk2 : sh k = 5) (hrf : rf k 3 = k2) (hd : decode cc pc = .ok (.putfield 15, 3)) (kk : UI C nL n c0 s0 (wr μ k 3 1) (pc + 3) lc sk) : UI C nL n c0 s0 μ pc lc (.ref (gad (cG C) k2) :: .ref (gad (cG C) k) :: sk) := by
  subst hrf
  exact v_putFR hC 5 3 (Cn := RX5) (T := TX5) (N := 12) rfl inAL_X5 (by decide) rfl (by decide) mF_RX5_15 rfl hk1 hk2 tyX5 tyX5_ok nmX5 rfl hmn rfl (ty := .array .int) rfl rfl rfl rfl hd kk
theorem vp_RX5_18 {C : Cx} {cc : ByteArray} {nL : Nat} {d n0 mc ms : Nat} (hC : CxI C cc nL RX5 d n0 mc ms) {n c0 s0 : Nat} {μ : Mem} {pc : Nat} {lc : List (Nat × Value)} {sk : List Value} (hmn : cMn C = "<init>") {k k2 : Nat} (hk1 : k < n) (hk2 : sh k = 5) (hrf : rf k 4 = k2) (hd : decode cc pc = .ok (.putfield 18, 3)) (kk : UI C nL n c0 s0 (wr μ k 4 1) (pc + 3) lc sk) : UI C nL n c0 s0 μ pc lc (.ref (gad (cG C) k2) :: .ref (gad (cG C) k) :: sk) := by
  subst hrf
  exact v_putFR hC 5 4 (Cn := RX5) (T := TX5) (N := 12) rfl inAL_X5 (by decide) rfl (by decide) mF_RX5_18 rfl hk1 hk2 tyX5 tyX5_ok nmX5 rfl hmn rfl (ty := .array .int) rfl rfl rfl rfl hd kk
theorem vp_RX5_21 {C : Cx} {cc : ByteArray} {nL : Nat} {d n0 mc ms : Nat} (hC : CxI C cc nL RX5 d n0 mc ms) {n c0 s0 : Nat} {μ : Mem} {pc : Nat} {lc : List (Nat × Value)} {sk : List Value} (hmn : cMn C = "<init>") {k k2 : Nat} (hk1 : k < n) (hk2 : sh k = 5) (hrf : rf k 5 = k2) (hd : decode cc pc = .ok (.putfield 21, 3)) (kk : UI C nL n c0 s0 (wr μ k 5 1) (pc + 3) lc sk) : UI C nL n c0 s0 μ pc lc (.ref (gad (cG C) k2) :: .ref (gad (cG C) k) :: sk) := by
  subst hrf
  exact v_putFR hC 5 5 (Cn := RX5) (T := TX5) (N := 12) rfl inAL_X5 (by decide) rfl (by decide) mF_RX5_21 rfl hk1 hk2 tyX5 tyX5_ok nmX5 rfl hmn rfl (ty := .array .long) rfl rfl rfl rfl hd kk
theorem vp_RX5_25 {C : Cx} {cc : ByteArray} {nL : Nat} {d n0 mc ms : Nat} (hC : CxI C cc nL RX5 d n0 mc ms) {n c0 s0 : Nat} {μ : Mem} {pc : Nat} {lc : List (Nat × Value)} {sk : List Value} (hmn : cMn C = "<init>") {k k2 : Nat} (hk1 : k < n) (hk2 : sh k = 5) (hrf : rf k 2 = k2) (hd : decode cc pc = .ok (.putfield 25, 3)) (kk : UI C nL n c0 s0 (wr μ k 2 1) (pc + 3) lc sk) : UI C nL n c0 s0 μ pc lc (.ref (gad (cG C) k2) :: .ref (gad (cG C) k) :: sk) := by
  subst hrf
  exact v_putFR hC 5 2 (Cn := RX5) (T := TX5) (N := 12) rfl inAL_X5 (by decide) rfl (by decide) mF_RX5_25 rfl hk1 hk2 tyX5 tyX5_ok nmX5 rfl hmn rfl (ty := .object "ChapterLoan$Facts") rfl rfl rfl rfl hd kk
theorem vc_RX11_38 {C : Cx} {cc : ByteArray} {nL : Nat} {d n0 mc ms : Nat} (hC : CxI C cc nL RX11 d n0 mc ms) {n c0 s0 : Nat} {μ : Mem} {pc : Nat} {lc : List (Nat × Value)} {sk : List Value} {d1 k mc1 ms1 : Nat} {av rest : List Value} {μ1 : Mem} (hM : CTI (cL C) yX5_init cX5_init 2 d1 (cG C) (.ref (gad (cG C) k) :: av) n μ mc1 ms1 μ1) (hna : av.length = 1) (hdep : d1 + 1 ≤ d) (hcat : (rest.map fun v => v.category).sum ≤ 8) (hn : n = n0 + c0) (hc : c0 + mc1 ≤ mc ∧ s0 + ms1 ≤ ms) (hst : sk = av.reverse ++ .ref (gad (cG C) k) :: rest) (hd : decode cc pc = .ok (.invokespecial 38, 3)) (kk : UI C nL (n + mc1) (c0 + mc1) (s0 + ms1) μ1 (pc + 3) lc rest) : UI C nL n c0 s0 μ pc lc sk := v_callI hC hM mL_RX11_38 mM_X5_init mB_X5_init mI_RX5 rfl (by decide +kernel) hna (by decide) hdep hcat hn hc hst hd kk
theorem vp_RX11_41 {C : Cx} {cc : ByteArray} {nL : Nat} {d n0 mc ms : Nat} (hC : CxI C cc nL RX11 d n0 mc ms) {n c0 s0 : Nat} {μ : Mem} {pc : Nat} {lc : List (Nat × Value)} {sk : List Value} (hmn : cMn C = "<init>") {k k2 : Nat} (hk1 : k < n) (hk2 : sh k = 11) (hrf : rf k 3 = k2) (hd : decode cc pc = .ok (.putfield 41, 3)) (kk : UI C nL n c0 s0 (wr μ k 3 1) (pc + 3) lc sk) : UI C nL n c0 s0 μ pc lc (.ref (gad (cG C) k2) :: .ref (gad (cG C) k) :: sk) := by
  subst hrf
  exact v_putFR hC 11 3 (Cn := RX11) (T := TX11) (N := 10) rfl inAL_X11 (by decide) rfl (by decide) mF_RX11_41 rfl hk1 hk2 tyX11 tyX11_ok nmX11 rfl hmn rfl (ty := .object "ChapterLoan$Search") rfl rfl rfl rfl hd kk
theorem df_4 : ∀ j, j < 6 → defaultValue (tyX4 j) = if fk 4 j = 0 then .int 0 else .null := by decide +kernel
theorem vn_RX11_45 {C : Cx} {cc : ByteArray} {nL : Nat} {d n0 mc ms : Nat} (hC : CxI C cc nL RX11 d n0 mc ms) {n c0 s0 : Nat} {μ : Mem} {pc : Nat} {lc : List (Nat × Value)} {sk : List Value} (hn : n = n0 + c0) (hsh : sh n = 4) (hz : Zr n μ) (hc : c0 + 1 ≤ mc ∧ s0 + 6 ≤ ms) (hd : decode cc pc = .ok (.new 45, 3)) (kk : UI C nL (n + 1) (c0 + 1) (s0 + 6) μ (pc + 3) lc (.ref (gad (cG C) n) :: sk)) : UI C nL n c0 s0 μ pc lc sk := v_new hC 4 (Cn := RX4) (T := TX4) (N := 6) rfl inAL_X4 rfl (by decide) mC_RX11_45 mT_RX4 mI_RX4 tyX4 tyX4_ok df_4 hn hsh hz hc hd kk
theorem vp_RX4_9 {C : Cx} {cc : ByteArray} {nL : Nat} {d n0 mc ms : Nat} (hC : CxI C cc nL RX4 d n0 mc ms) {n c0 s0 : Nat} {μ : Mem} {pc : Nat} {lc : List (Nat × Value)} {sk : List Value} (hmn : cMn C = "<init>") {k k2 : Nat} (hk1 : k < n) (hk2 : sh k = 4) (hrf : rf k 0 = k2) (hd : decode cc pc = .ok (.putfield 9, 3)) (kk : UI C nL n c0 s0 (wr μ k 0 1) (pc + 3) lc sk) : UI C nL n c0 s0 μ pc lc (.ref (gad (cG C) k2) :: .ref (gad (cG C) k) :: sk) := by
  subst hrf
  exact v_putFR hC 4 0 (Cn := RX4) (T := TX4) (N := 6) rfl inAL_X4 (by decide) rfl (by decide) mF_RX4_9 rfl hk1 hk2 tyX4 tyX4_ok nmX4 rfl hmn rfl (ty := .array .int) rfl rfl rfl rfl hd kk
theorem vn_RX4_15 {C : Cx} {cc : ByteArray} {nL : Nat} {d n0 mc ms : Nat} (hC : CxI C cc nL RX4 d n0 mc ms) {n c0 s0 : Nat} {μ : Mem} {pc : Nat} {lc : List (Nat × Value)} {sk : List Value} (hn : n = n0 + c0) (hsh : sh n = 7) (hz : Zr n μ) (hc : c0 + 1 ≤ mc ∧ s0 + 2 ≤ ms) (hd : decode cc pc = .ok (.new 15, 3)) (kk : UI C nL (n + 1) (c0 + 1) (s0 + 2) μ (pc + 3) lc (.ref (gad (cG C) n) :: sk)) : UI C nL n c0 s0 μ pc lc sk := v_new hC 7 (Cn := RX7) (T := TX7) (N := 2) rfl inAL_X7 rfl (by decide) mC_RX4_15 mT_RX7 mI_RX7 tyX7 tyX7_ok df_7 hn hsh hz hc hd kk
theorem vc_RX4_17 {C : Cx} {cc : ByteArray} {nL : Nat} {d n0 mc ms : Nat} (hC : CxI C cc nL RX4 d n0 mc ms) {n c0 s0 : Nat} {μ : Mem} {pc : Nat} {lc : List (Nat × Value)} {sk : List Value} {d1 k mc1 ms1 : Nat} {av rest : List Value} {μ1 : Mem} (hM : CTI (cL C) yX7_init cX7_init 1 d1 (cG C) (.ref (gad (cG C) k) :: av) n μ mc1 ms1 μ1) (hna : av.length = 0) (hdep : d1 + 1 ≤ d) (hcat : (rest.map fun v => v.category).sum ≤ 8) (hn : n = n0 + c0) (hc : c0 + mc1 ≤ mc ∧ s0 + ms1 ≤ ms) (hst : sk = av.reverse ++ .ref (gad (cG C) k) :: rest) (hd : decode cc pc = .ok (.invokespecial 17, 3)) (kk : UI C nL (n + mc1) (c0 + mc1) (s0 + ms1) μ1 (pc + 3) lc rest) : UI C nL n c0 s0 μ pc lc sk := v_callIN hC hM (host := "ChapterLoan") (by decide +kernel) mM_X7_init mB_X7_init mI_RX7 rfl (by decide +kernel) hna (by decide) hdep hcat hn hc hst hd kk
theorem vp_RX4_18 {C : Cx} {cc : ByteArray} {nL : Nat} {d n0 mc ms : Nat} (hC : CxI C cc nL RX4 d n0 mc ms) {n c0 s0 : Nat} {μ : Mem} {pc : Nat} {lc : List (Nat × Value)} {sk : List Value} {k k2 : Nat} (hk1 : k < n) (hk2 : sh k = 4) (hk3 : k2 < NC) (hk4 : 0 < k2) (hd : decode cc pc = .ok (.putfield 18, 3)) (kk : UI C nL n c0 s0 (wr μ k 2 (nI k2)) (pc + 3) lc sk) : UI C nL n c0 s0 μ pc lc (.ref (gad (cG C) k2) :: .ref (gad (cG C) k) :: sk) := v_putM hC 4 2 (Cn := RX4) (T := TX4) (N := 6) rfl inAL_X4 (by decide) rfl (by decide) mF_RX4_18 rfl hk1 hk2 tyX4 tyX4_ok nmX4 rfl (ty := .object "ChapterLoan$Tape") rfl hk3 hk4 rfl rfl rfl hd kk
theorem vc_RX11_47 {C : Cx} {cc : ByteArray} {nL : Nat} {d n0 mc ms : Nat} (hC : CxI C cc nL RX11 d n0 mc ms) {n c0 s0 : Nat} {μ : Mem} {pc : Nat} {lc : List (Nat × Value)} {sk : List Value} {d1 k mc1 ms1 : Nat} {av rest : List Value} {μ1 : Mem} (hM : CTI (cL C) yX4_init cX4_init 1 d1 (cG C) (.ref (gad (cG C) k) :: av) n μ mc1 ms1 μ1) (hna : av.length = 0) (hdep : d1 + 1 ≤ d) (hcat : (rest.map fun v => v.category).sum ≤ 8) (hn : n = n0 + c0) (hc : c0 + mc1 ≤ mc ∧ s0 + ms1 ≤ ms) (hst : sk = av.reverse ++ .ref (gad (cG C) k) :: rest) (hd : decode cc pc = .ok (.invokespecial 47, 3)) (kk : UI C nL (n + mc1) (c0 + mc1) (s0 + ms1) μ1 (pc + 3) lc rest) : UI C nL n c0 s0 μ pc lc sk := v_callIN hC hM (host := "ChapterLoan") (by decide +kernel) mM_X4_init mB_X4_init mI_RX4 rfl (by decide +kernel) hna (by decide) hdep hcat hn hc hst hd kk
theorem vp_RX11_48 {C : Cx} {cc : ByteArray} {nL : Nat} {d n0 mc ms : Nat} (hC : CxI C cc nL RX11 d n0 mc ms) {n c0 s0 : Nat} {μ : Mem} {pc : Nat} {lc : List (Nat × Value)} {sk : List Value} (hmn : cMn C = "<init>") {k k2 : Nat} (hk1 : k < n) (hk2 : sh k = 11) (hrf : rf k 4 = k2) (hd : decode cc pc = .ok (.putfield 48, 3)) (kk : UI C nL n c0 s0 (wr μ k 4 1) (pc + 3) lc sk) : UI C nL n c0 s0 μ pc lc (.ref (gad (cG C) k2) :: .ref (gad (cG C) k) :: sk) := by
  subst hrf
  exact v_putFR hC 11 4 (Cn := RX11) (T := TX11) (N := 10) rfl inAL_X11 (by decide) rfl (by decide) mF_RX11_48 rfl hk1 hk2 tyX11 tyX11_ok nmX11 rfl hmn rfl (ty := .object "ChapterLoan$Reader") rfl rfl rfl rfl hd kk
theorem df_9 : ∀ j, j < 5 → defaultValue (tyX9 j) = if fk 9 j = 0 then .int 0 else .null := by decide +kernel
theorem vn_RX11_52 {C : Cx} {cc : ByteArray} {nL : Nat} {d n0 mc ms : Nat} (hC : CxI C cc nL RX11 d n0 mc ms) {n c0 s0 : Nat} {μ : Mem} {pc : Nat} {lc : List (Nat × Value)} {sk : List Value} (hn : n = n0 + c0) (hsh : sh n = 9) (hz : Zr n μ) (hc : c0 + 1 ≤ mc ∧ s0 + 5 ≤ ms) (hd : decode cc pc = .ok (.new 52, 3)) (kk : UI C nL (n + 1) (c0 + 1) (s0 + 5) μ (pc + 3) lc (.ref (gad (cG C) n) :: sk)) : UI C nL n c0 s0 μ pc lc sk := v_new hC 9 (Cn := RX9) (T := TX9) (N := 5) rfl inAL_X9 rfl (by decide) mC_RX11_52 mT_RX9 mI_RX9 tyX9 tyX9_ok df_9 hn hsh hz hc hd kk
theorem vp_RX9_9 {C : Cx} {cc : ByteArray} {nL : Nat} {d n0 mc ms : Nat} (hC : CxI C cc nL RX9 d n0 mc ms) {n c0 s0 : Nat} {μ : Mem} {pc : Nat} {lc : List (Nat × Value)} {sk : List Value} (hmn : cMn C = "<init>") {k k2 : Nat} (hk1 : k < n) (hk2 : sh k = 9) (hrf : rf k 0 = k2) (hd : decode cc pc = .ok (.putfield 9, 3)) (kk : UI C nL n c0 s0 (wr μ k 0 1) (pc + 3) lc sk) : UI C nL n c0 s0 μ pc lc (.ref (gad (cG C) k2) :: .ref (gad (cG C) k) :: sk) := by
  subst hrf
  exact v_putFR hC 9 0 (Cn := RX9) (T := TX9) (N := 5) rfl inAL_X9 (by decide) rfl (by decide) mF_RX9_9 rfl hk1 hk2 tyX9 tyX9_ok nmX9 rfl hmn rfl (ty := .array .int) rfl rfl rfl rfl hd kk
theorem vc_RX11_54 {C : Cx} {cc : ByteArray} {nL : Nat} {d n0 mc ms : Nat} (hC : CxI C cc nL RX11 d n0 mc ms) {n c0 s0 : Nat} {μ : Mem} {pc : Nat} {lc : List (Nat × Value)} {sk : List Value} {d1 k mc1 ms1 : Nat} {av rest : List Value} {μ1 : Mem} (hM : CTI (cL C) yX9_init cX9_init 1 d1 (cG C) (.ref (gad (cG C) k) :: av) n μ mc1 ms1 μ1) (hna : av.length = 0) (hdep : d1 + 1 ≤ d) (hcat : (rest.map fun v => v.category).sum ≤ 8) (hn : n = n0 + c0) (hc : c0 + mc1 ≤ mc ∧ s0 + ms1 ≤ ms) (hst : sk = av.reverse ++ .ref (gad (cG C) k) :: rest) (hd : decode cc pc = .ok (.invokespecial 54, 3)) (kk : UI C nL (n + mc1) (c0 + mc1) (s0 + ms1) μ1 (pc + 3) lc rest) : UI C nL n c0 s0 μ pc lc sk := v_callIN hC hM (host := "ChapterLoan") (by decide +kernel) mM_X9_init mB_X9_init mI_RX9 rfl (by decide +kernel) hna (by decide) hdep hcat hn hc hst hd kk
theorem vp_RX11_55 {C : Cx} {cc : ByteArray} {nL : Nat} {d n0 mc ms : Nat} (hC : CxI C cc nL RX11 d n0 mc ms) {n c0 s0 : Nat} {μ : Mem} {pc : Nat} {lc : List (Nat × Value)} {sk : List Value} (hmn : cMn C = "<init>") {k k2 : Nat} (hk1 : k < n) (hk2 : sh k = 11) (hrf : rf k 5 = k2) (hd : decode cc pc = .ok (.putfield 55, 3)) (kk : UI C nL n c0 s0 (wr μ k 5 1) (pc + 3) lc sk) : UI C nL n c0 s0 μ pc lc (.ref (gad (cG C) k2) :: .ref (gad (cG C) k) :: sk) := by
  subst hrf
  exact v_putFR hC 11 5 (Cn := RX11) (T := TX11) (N := 10) rfl inAL_X11 (by decide) rfl (by decide) mF_RX11_55 rfl hk1 hk2 tyX11 tyX11_ok nmX11 rfl hmn rfl (ty := .object "ChapterLoan$Voices") rfl rfl rfl rfl hd kk
theorem vp_RX11_61 {C : Cx} {cc : ByteArray} {nL : Nat} {d n0 mc ms : Nat} (hC : CxI C cc nL RX11 d n0 mc ms) {n c0 s0 : Nat} {μ : Mem} {pc : Nat} {lc : List (Nat × Value)} {sk : List Value} (hmn : cMn C = "<init>") {k k2 : Nat} (hk1 : k < n) (hk2 : sh k = 11) (hrf : rf k 6 = k2) (hd : decode cc pc = .ok (.putfield 61, 3)) (kk : UI C nL n c0 s0 (wr μ k 6 1) (pc + 3) lc sk) : UI C nL n c0 s0 μ pc lc (.ref (gad (cG C) k2) :: .ref (gad (cG C) k) :: sk) := by
  subst hrf
  exact v_putFR hC 11 6 (Cn := RX11) (T := TX11) (N := 10) rfl inAL_X11 (by decide) rfl (by decide) mF_RX11_61 rfl hk1 hk2 tyX11 tyX11_ok nmX11 rfl hmn rfl (ty := .array (.object "ChapterLoan$Sheet")) rfl rfl rfl rfl hd kk
theorem vp_RX11_65 {C : Cx} {cc : ByteArray} {nL : Nat} {d n0 mc ms : Nat} (hC : CxI C cc nL RX11 d n0 mc ms) {n c0 s0 : Nat} {μ : Mem} {pc : Nat} {lc : List (Nat × Value)} {sk : List Value} (hmn : cMn C = "<init>") {k k2 : Nat} (hk1 : k < n) (hk2 : sh k = 11) (hrf : rf k 7 = k2) (hd : decode cc pc = .ok (.putfield 65, 3)) (kk : UI C nL n c0 s0 (wr μ k 7 1) (pc + 3) lc sk) : UI C nL n c0 s0 μ pc lc (.ref (gad (cG C) k2) :: .ref (gad (cG C) k) :: sk) := by
  subst hrf
  exact v_putFR hC 11 7 (Cn := RX11) (T := TX11) (N := 10) rfl inAL_X11 (by decide) rfl (by decide) mF_RX11_65 rfl hk1 hk2 tyX11 tyX11_ok nmX11 rfl hmn rfl (ty := .array .int) rfl rfl rfl rfl hd kk
theorem vp_RX11_69 {C : Cx} {cc : ByteArray} {nL : Nat} {d n0 mc ms : Nat} (hC : CxI C cc nL RX11 d n0 mc ms) {n c0 s0 : Nat} {μ : Mem} {pc : Nat} {lc : List (Nat × Value)} {sk : List Value} (hmn : cMn C = "<init>") {k k2 : Nat} (hk1 : k < n) (hk2 : sh k = 11) (hrf : rf k 8 = k2) (hd : decode cc pc = .ok (.putfield 69, 3)) (kk : UI C nL n c0 s0 (wr μ k 8 1) (pc + 3) lc sk) : UI C nL n c0 s0 μ pc lc (.ref (gad (cG C) k2) :: .ref (gad (cG C) k) :: sk) := by
  subst hrf
  exact v_putFR hC 11 8 (Cn := RX11) (T := TX11) (N := 10) rfl inAL_X11 (by decide) rfl (by decide) mF_RX11_69 rfl hk1 hk2 tyX11 tyX11_ok nmX11 rfl hmn rfl (ty := .array .int) rfl rfl rfl rfl hd kk
theorem vg_RX11_61 {C : Cx} {cc : ByteArray} {nL : Nat} {d n0 mc ms : Nat} (hC : CxI C cc nL RX11 d n0 mc ms) {n c0 s0 : Nat} {μ : Mem} {pc : Nat} {lc : List (Nat × Value)} {sk : List Value} {k : Nat} (k2 : Nat) (hk1 : k < n) (hk2 : sh k = 11) (hrf : rf k 6 = k2) (hfl : ¬ rd μ k 6 = 0) (hd : decode cc pc = .ok (.getfield 61, 3)) (kk : UI C nL n c0 s0 μ (pc + 3) lc (.ref (gad (cG C) k2) :: sk)) : UI C nL n c0 s0 μ pc lc (.ref (gad (cG C) k) :: sk) := by
  subst hrf
  exact v_getR hC 11 6 (Cn := RX11) (T := TX11) (N := 10) rfl inAL_X11 (by decide) rfl (by decide) mF_RX11_61 rfl hk1 hk2 rfl hfl hd kk
theorem df_6 : ∀ j, j < 3 → defaultValue (tyX6 j) = if fk 6 j = 0 then .int 0 else .null := by decide +kernel
theorem vn_RX11_59 {C : Cx} {cc : ByteArray} {nL : Nat} {d n0 mc ms : Nat} (hC : CxI C cc nL RX11 d n0 mc ms) {n c0 s0 : Nat} {μ : Mem} {pc : Nat} {lc : List (Nat × Value)} {sk : List Value} (hn : n = n0 + c0) (hsh : sh n = 6) (hz : Zr n μ) (hc : c0 + 1 ≤ mc ∧ s0 + 3 ≤ ms) (hd : decode cc pc = .ok (.new 59, 3)) (kk : UI C nL (n + 1) (c0 + 1) (s0 + 3) μ (pc + 3) lc (.ref (gad (cG C) n) :: sk)) : UI C nL n c0 s0 μ pc lc sk := v_new hC 6 (Cn := RX6) (T := TX6) (N := 3) rfl inAL_X6 rfl (by decide) mC_RX11_59 mT_RX6 mI_RX6 tyX6 tyX6_ok df_6 hn hsh hz hc hd kk
theorem vp_RX6_9 {C : Cx} {cc : ByteArray} {nL : Nat} {d n0 mc ms : Nat} (hC : CxI C cc nL RX6 d n0 mc ms) {n c0 s0 : Nat} {μ : Mem} {pc : Nat} {lc : List (Nat × Value)} {sk : List Value} (hmn : cMn C = "<init>") {k k2 : Nat} (hk1 : k < n) (hk2 : sh k = 6) (hrf : rf k 0 = k2) (hd : decode cc pc = .ok (.putfield 9, 3)) (kk : UI C nL n c0 s0 (wr μ k 0 1) (pc + 3) lc sk) : UI C nL n c0 s0 μ pc lc (.ref (gad (cG C) k2) :: .ref (gad (cG C) k) :: sk) := by
  subst hrf
  exact v_putFR hC 6 0 (Cn := RX6) (T := TX6) (N := 3) rfl inAL_X6 (by decide) rfl (by decide) mF_RX6_9 rfl hk1 hk2 tyX6 tyX6_ok nmX6 rfl hmn rfl (ty := .array .int) rfl rfl rfl rfl hd kk
theorem vc_RX11_72 {C : Cx} {cc : ByteArray} {nL : Nat} {d n0 mc ms : Nat} (hC : CxI C cc nL RX11 d n0 mc ms) {n c0 s0 : Nat} {μ : Mem} {pc : Nat} {lc : List (Nat × Value)} {sk : List Value} {d1 k mc1 ms1 : Nat} {av rest : List Value} {μ1 : Mem} (hM : CTI (cL C) yX6_init cX6_init 1 d1 (cG C) (.ref (gad (cG C) k) :: av) n μ mc1 ms1 μ1) (hna : av.length = 0) (hdep : d1 + 1 ≤ d) (hcat : (rest.map fun v => v.category).sum ≤ 8) (hn : n = n0 + c0) (hc : c0 + mc1 ≤ mc ∧ s0 + ms1 ≤ ms) (hst : sk = av.reverse ++ .ref (gad (cG C) k) :: rest) (hd : decode cc pc = .ok (.invokespecial 72, 3)) (kk : UI C nL (n + mc1) (c0 + mc1) (s0 + ms1) μ1 (pc + 3) lc rest) : UI C nL n c0 s0 μ pc lc sk := v_callIN hC hM (host := "ChapterLoan") (by decide +kernel) mM_X6_init mB_X6_init mI_RX6 rfl (by decide +kernel) hna (by decide) hdep hcat hn hc hst hd kk
theorem df_12 : ∀ j, j < 26 → defaultValue (tyX12 j) = if fk 12 j = 0 then .int 0 else .null := by decide +kernel
theorem vp_RX12_7 {C : Cx} {cc : ByteArray} {nL : Nat} {d n0 mc ms : Nat} (hC : CxI C cc nL RX12 d n0 mc ms) {n c0 s0 : Nat} {μ : Mem} {pc : Nat} {lc : List (Nat × Value)} {sk : List Value} (hmn : cMn C = "<init>") {k k2 : Nat} (hk1 : k < n) (hk2 : sh k = 12) (hrf : rf k 0 = k2) (hd : decode cc pc = .ok (.putfield 7, 3)) (kk : UI C nL n c0 s0 (wr μ k 0 1) (pc + 3) lc sk) : UI C nL n c0 s0 μ pc lc (.ref (gad (cG C) k2) :: .ref (gad (cG C) k) :: sk) := by
  subst hrf
  exact v_putFR hC 12 0 (Cn := RX12) (T := TX12) (N := 26) rfl inAL_X12 (by decide) rfl (by decide) mF_RX12_7 rfl hk1 hk2 tyX12 tyX12_ok nmX12 rfl hmn rfl (ty := .array .int) rfl rfl rfl rfl hd kk
theorem vp_RX12_13 {C : Cx} {cc : ByteArray} {nL : Nat} {d n0 mc ms : Nat} (hC : CxI C cc nL RX12 d n0 mc ms) {n c0 s0 : Nat} {μ : Mem} {pc : Nat} {lc : List (Nat × Value)} {sk : List Value} (hmn : cMn C = "<init>") {k k2 : Nat} (hk1 : k < n) (hk2 : sh k = 12) (hrf : rf k 1 = k2) (hd : decode cc pc = .ok (.putfield 13, 3)) (kk : UI C nL n c0 s0 (wr μ k 1 1) (pc + 3) lc sk) : UI C nL n c0 s0 μ pc lc (.ref (gad (cG C) k2) :: .ref (gad (cG C) k) :: sk) := by
  subst hrf
  exact v_putFR hC 12 1 (Cn := RX12) (T := TX12) (N := 26) rfl inAL_X12 (by decide) rfl (by decide) mF_RX12_13 rfl hk1 hk2 tyX12 tyX12_ok nmX12 rfl hmn rfl (ty := .array .int) rfl rfl rfl rfl hd kk
theorem vp_RX12_16 {C : Cx} {cc : ByteArray} {nL : Nat} {d n0 mc ms : Nat} (hC : CxI C cc nL RX12 d n0 mc ms) {n c0 s0 : Nat} {μ : Mem} {pc : Nat} {lc : List (Nat × Value)} {sk : List Value} (hmn : cMn C = "<init>") {k k2 : Nat} (hk1 : k < n) (hk2 : sh k = 12) (hrf : rf k 2 = k2) (hd : decode cc pc = .ok (.putfield 16, 3)) (kk : UI C nL n c0 s0 (wr μ k 2 1) (pc + 3) lc sk) : UI C nL n c0 s0 μ pc lc (.ref (gad (cG C) k2) :: .ref (gad (cG C) k) :: sk) := by
  subst hrf
  exact v_putFR hC 12 2 (Cn := RX12) (T := TX12) (N := 26) rfl inAL_X12 (by decide) rfl (by decide) mF_RX12_16 rfl hk1 hk2 tyX12 tyX12_ok nmX12 rfl hmn rfl (ty := .array .int) rfl rfl rfl rfl hd kk
theorem vp_RX12_19 {C : Cx} {cc : ByteArray} {nL : Nat} {d n0 mc ms : Nat} (hC : CxI C cc nL RX12 d n0 mc ms) {n c0 s0 : Nat} {μ : Mem} {pc : Nat} {lc : List (Nat × Value)} {sk : List Value} (hmn : cMn C = "<init>") {k k2 : Nat} (hk1 : k < n) (hk2 : sh k = 12) (hrf : rf k 4 = k2) (hd : decode cc pc = .ok (.putfield 19, 3)) (kk : UI C nL n c0 s0 (wr μ k 4 1) (pc + 3) lc sk) : UI C nL n c0 s0 μ pc lc (.ref (gad (cG C) k2) :: .ref (gad (cG C) k) :: sk) := by
  subst hrf
  exact v_putFR hC 12 4 (Cn := RX12) (T := TX12) (N := 26) rfl inAL_X12 (by decide) rfl (by decide) mF_RX12_19 rfl hk1 hk2 tyX12 tyX12_ok nmX12 rfl hmn rfl (ty := .array .int) rfl rfl rfl rfl hd kk
theorem vp_RX12_22 {C : Cx} {cc : ByteArray} {nL : Nat} {d n0 mc ms : Nat} (hC : CxI C cc nL RX12 d n0 mc ms) {n c0 s0 : Nat} {μ : Mem} {pc : Nat} {lc : List (Nat × Value)} {sk : List Value} (hmn : cMn C = "<init>") {k k2 : Nat} (hk1 : k < n) (hk2 : sh k = 12) (hrf : rf k 11 = k2) (hd : decode cc pc = .ok (.putfield 22, 3)) (kk : UI C nL n c0 s0 (wr μ k 11 1) (pc + 3) lc sk) : UI C nL n c0 s0 μ pc lc (.ref (gad (cG C) k2) :: .ref (gad (cG C) k) :: sk) := by
  subst hrf
  exact v_putFR hC 12 11 (Cn := RX12) (T := TX12) (N := 26) rfl inAL_X12 (by decide) rfl (by decide) mF_RX12_22 rfl hk1 hk2 tyX12 tyX12_ok nmX12 rfl hmn rfl (ty := .array .int) rfl rfl rfl rfl hd kk
theorem vp_RX12_25 {C : Cx} {cc : ByteArray} {nL : Nat} {d n0 mc ms : Nat} (hC : CxI C cc nL RX12 d n0 mc ms) {n c0 s0 : Nat} {μ : Mem} {pc : Nat} {lc : List (Nat × Value)} {sk : List Value} {k : Nat} (hk1 : k < n) (hk2 : sh k = 12) {v : Int32} (hd : decode cc pc = .ok (.putfield 25, 3)) (kk : UI C nL n c0 s0 (wr μ k 12 v) (pc + 3) lc sk) : UI C nL n c0 s0 μ pc lc (.int v :: .ref (gad (cG C) k) :: sk) := v_putI hC 12 12 (Cn := RX12) (T := TX12) (N := 26) rfl inAL_X12 (by decide) rfl (by decide) mF_RX12_25 rfl hk1 hk2 tyX12 tyX12_ok nmX12 rfl (ty := .int) rfl rfl rfl rfl hd kk
theorem vp_RX12_29 {C : Cx} {cc : ByteArray} {nL : Nat} {d n0 mc ms : Nat} (hC : CxI C cc nL RX12 d n0 mc ms) {n c0 s0 : Nat} {μ : Mem} {pc : Nat} {lc : List (Nat × Value)} {sk : List Value} (hmn : cMn C = "<init>") {k k2 : Nat} (hk1 : k < n) (hk2 : sh k = 12) (hrf : rf k 14 = k2) (hd : decode cc pc = .ok (.putfield 29, 3)) (kk : UI C nL n c0 s0 (wr μ k 14 1) (pc + 3) lc sk) : UI C nL n c0 s0 μ pc lc (.ref (gad (cG C) k2) :: .ref (gad (cG C) k) :: sk) := by
  subst hrf
  exact v_putFR hC 12 14 (Cn := RX12) (T := TX12) (N := 26) rfl inAL_X12 (by decide) rfl (by decide) mF_RX12_29 rfl hk1 hk2 tyX12 tyX12_ok nmX12 rfl hmn rfl (ty := .array .int) rfl rfl rfl rfl hd kk
theorem vp_RX12_32 {C : Cx} {cc : ByteArray} {nL : Nat} {d n0 mc ms : Nat} (hC : CxI C cc nL RX12 d n0 mc ms) {n c0 s0 : Nat} {μ : Mem} {pc : Nat} {lc : List (Nat × Value)} {sk : List Value} (hmn : cMn C = "<init>") {k k2 : Nat} (hk1 : k < n) (hk2 : sh k = 12) (hrf : rf k 15 = k2) (hd : decode cc pc = .ok (.putfield 32, 3)) (kk : UI C nL n c0 s0 (wr μ k 15 1) (pc + 3) lc sk) : UI C nL n c0 s0 μ pc lc (.ref (gad (cG C) k2) :: .ref (gad (cG C) k) :: sk) := by
  subst hrf
  exact v_putFR hC 12 15 (Cn := RX12) (T := TX12) (N := 26) rfl inAL_X12 (by decide) rfl (by decide) mF_RX12_32 rfl hk1 hk2 tyX12 tyX12_ok nmX12 rfl hmn rfl (ty := .array .int) rfl rfl rfl rfl hd kk
theorem vp_RX12_35 {C : Cx} {cc : ByteArray} {nL : Nat} {d n0 mc ms : Nat} (hC : CxI C cc nL RX12 d n0 mc ms) {n c0 s0 : Nat} {μ : Mem} {pc : Nat} {lc : List (Nat × Value)} {sk : List Value} (hmn : cMn C = "<init>") {k k2 : Nat} (hk1 : k < n) (hk2 : sh k = 12) (hrf : rf k 16 = k2) (hd : decode cc pc = .ok (.putfield 35, 3)) (kk : UI C nL n c0 s0 (wr μ k 16 1) (pc + 3) lc sk) : UI C nL n c0 s0 μ pc lc (.ref (gad (cG C) k2) :: .ref (gad (cG C) k) :: sk) := by
  subst hrf
  exact v_putFR hC 12 16 (Cn := RX12) (T := TX12) (N := 26) rfl inAL_X12 (by decide) rfl (by decide) mF_RX12_35 rfl hk1 hk2 tyX12 tyX12_ok nmX12 rfl hmn rfl (ty := .array .int) rfl rfl rfl rfl hd kk
theorem vp_RX12_38 {C : Cx} {cc : ByteArray} {nL : Nat} {d n0 mc ms : Nat} (hC : CxI C cc nL RX12 d n0 mc ms) {n c0 s0 : Nat} {μ : Mem} {pc : Nat} {lc : List (Nat × Value)} {sk : List Value} (hmn : cMn C = "<init>") {k k2 : Nat} (hk1 : k < n) (hk2 : sh k = 12) (hrf : rf k 18 = k2) (hd : decode cc pc = .ok (.putfield 38, 3)) (kk : UI C nL n c0 s0 (wr μ k 18 1) (pc + 3) lc sk) : UI C nL n c0 s0 μ pc lc (.ref (gad (cG C) k2) :: .ref (gad (cG C) k) :: sk) := by
  subst hrf
  exact v_putFR hC 12 18 (Cn := RX12) (T := TX12) (N := 26) rfl inAL_X12 (by decide) rfl (by decide) mF_RX12_38 rfl hk1 hk2 tyX12 tyX12_ok nmX12 rfl hmn rfl (ty := .array .int) rfl rfl rfl rfl hd kk
theorem vp_RX12_41 {C : Cx} {cc : ByteArray} {nL : Nat} {d n0 mc ms : Nat} (hC : CxI C cc nL RX12 d n0 mc ms) {n c0 s0 : Nat} {μ : Mem} {pc : Nat} {lc : List (Nat × Value)} {sk : List Value} (hmn : cMn C = "<init>") {k k2 : Nat} (hk1 : k < n) (hk2 : sh k = 12) (hrf : rf k 19 = k2) (hd : decode cc pc = .ok (.putfield 41, 3)) (kk : UI C nL n c0 s0 (wr μ k 19 1) (pc + 3) lc sk) : UI C nL n c0 s0 μ pc lc (.ref (gad (cG C) k2) :: .ref (gad (cG C) k) :: sk) := by
  subst hrf
  exact v_putFR hC 12 19 (Cn := RX12) (T := TX12) (N := 26) rfl inAL_X12 (by decide) rfl (by decide) mF_RX12_41 rfl hk1 hk2 tyX12 tyX12_ok nmX12 rfl hmn rfl (ty := .array .int) rfl rfl rfl rfl hd kk
theorem vp_RX12_44 {C : Cx} {cc : ByteArray} {nL : Nat} {d n0 mc ms : Nat} (hC : CxI C cc nL RX12 d n0 mc ms) {n c0 s0 : Nat} {μ : Mem} {pc : Nat} {lc : List (Nat × Value)} {sk : List Value} (hmn : cMn C = "<init>") {k k2 : Nat} (hk1 : k < n) (hk2 : sh k = 12) (hrf : rf k 22 = k2) (hd : decode cc pc = .ok (.putfield 44, 3)) (kk : UI C nL n c0 s0 (wr μ k 22 1) (pc + 3) lc sk) : UI C nL n c0 s0 μ pc lc (.ref (gad (cG C) k2) :: .ref (gad (cG C) k) :: sk) := by
  subst hrf
  exact v_putFR hC 12 22 (Cn := RX12) (T := TX12) (N := 26) rfl inAL_X12 (by decide) rfl (by decide) mF_RX12_44 rfl hk1 hk2 tyX12 tyX12_ok nmX12 rfl hmn rfl (ty := .array .int) rfl rfl rfl rfl hd kk
theorem vp_RX12_47 {C : Cx} {cc : ByteArray} {nL : Nat} {d n0 mc ms : Nat} (hC : CxI C cc nL RX12 d n0 mc ms) {n c0 s0 : Nat} {μ : Mem} {pc : Nat} {lc : List (Nat × Value)} {sk : List Value} (hmn : cMn C = "<init>") {k k2 : Nat} (hk1 : k < n) (hk2 : sh k = 12) (hrf : rf k 23 = k2) (hd : decode cc pc = .ok (.putfield 47, 3)) (kk : UI C nL n c0 s0 (wr μ k 23 1) (pc + 3) lc sk) : UI C nL n c0 s0 μ pc lc (.ref (gad (cG C) k2) :: .ref (gad (cG C) k) :: sk) := by
  subst hrf
  exact v_putFR hC 12 23 (Cn := RX12) (T := TX12) (N := 26) rfl inAL_X12 (by decide) rfl (by decide) mF_RX12_47 rfl hk1 hk2 tyX12 tyX12_ok nmX12 rfl hmn rfl (ty := .array .int) rfl rfl rfl rfl hd kk
theorem vp_RX12_50 {C : Cx} {cc : ByteArray} {nL : Nat} {d n0 mc ms : Nat} (hC : CxI C cc nL RX12 d n0 mc ms) {n c0 s0 : Nat} {μ : Mem} {pc : Nat} {lc : List (Nat × Value)} {sk : List Value} (hmn : cMn C = "<init>") {k k2 : Nat} (hk1 : k < n) (hk2 : sh k = 12) (hrf : rf k 24 = k2) (hd : decode cc pc = .ok (.putfield 50, 3)) (kk : UI C nL n c0 s0 (wr μ k 24 1) (pc + 3) lc sk) : UI C nL n c0 s0 μ pc lc (.ref (gad (cG C) k2) :: .ref (gad (cG C) k) :: sk) := by
  subst hrf
  exact v_putFR hC 12 24 (Cn := RX12) (T := TX12) (N := 26) rfl inAL_X12 (by decide) rfl (by decide) mF_RX12_50 rfl hk1 hk2 tyX12 tyX12_ok nmX12 rfl hmn rfl (ty := .array .int) rfl rfl rfl rfl hd kk
theorem vp_RX12_53 {C : Cx} {cc : ByteArray} {nL : Nat} {d n0 mc ms : Nat} (hC : CxI C cc nL RX12 d n0 mc ms) {n c0 s0 : Nat} {μ : Mem} {pc : Nat} {lc : List (Nat × Value)} {sk : List Value} (hmn : cMn C = "<init>") {k k2 : Nat} (hk1 : k < n) (hk2 : sh k = 12) (hrf : rf k 25 = k2) (hd : decode cc pc = .ok (.putfield 53, 3)) (kk : UI C nL n c0 s0 (wr μ k 25 1) (pc + 3) lc sk) : UI C nL n c0 s0 μ pc lc (.ref (gad (cG C) k2) :: .ref (gad (cG C) k) :: sk) := by
  subst hrf
  exact v_putFR hC 12 25 (Cn := RX12) (T := TX12) (N := 26) rfl inAL_X12 (by decide) rfl (by decide) mF_RX12_53 rfl hk1 hk2 tyX12 tyX12_ok nmX12 rfl hmn rfl (ty := .array .int) rfl rfl rfl rfl hd kk
theorem vg_RX12_7 {C : Cx} {cc : ByteArray} {nL : Nat} {d n0 mc ms : Nat} (hC : CxI C cc nL RX12 d n0 mc ms) {n c0 s0 : Nat} {μ : Mem} {pc : Nat} {lc : List (Nat × Value)} {sk : List Value} {k : Nat} (k2 : Nat) (hk1 : k < n) (hk2 : sh k = 12) (hrf : rf k 0 = k2) (hfl : ¬ rd μ k 0 = 0) (hd : decode cc pc = .ok (.getfield 7, 3)) (kk : UI C nL n c0 s0 μ (pc + 3) lc (.ref (gad (cG C) k2) :: sk)) : UI C nL n c0 s0 μ pc lc (.ref (gad (cG C) k) :: sk) := by
  subst hrf
  exact v_getR hC 12 0 (Cn := RX12) (T := TX12) (N := 26) rfl inAL_X12 (by decide) rfl (by decide) mF_RX12_7 rfl hk1 hk2 rfl hfl hd kk
def i_X1_2 (μ : Mem) : Mem := wr (wr (wr (wr (wr μ 2 0 1) 2 1 1) 2 2 1) 2 3 1) 2 4 1
theorem zi_X1_2 {n : Nat} {μ : Mem} (h : Zr n μ) (hn : 8 ≤ n) : Zr n (i_X1_2 μ) := by unfold i_X1_2; exact (zw (zw (zw (zw (zw h (by omega)) (by omega)) (by omega)) (by omega)) (by omega))
theorem fi_X1_2 {μ : Mem} {k j : Nat} (hk : k < 2 ∨ 8 ≤ k) : rd (i_X1_2 μ) k j = rd μ k j := by unfold i_X1_2; rw [rdw_ne (by omega), rdw_ne (by omega), rdw_ne (by omega), rdw_ne (by omega), rdw_ne (by omega)]
theorem ff_X1_2 {μ : Mem} {k j : Nat} (hk : k < 2 ∨ 8 ≤ k) (h : ¬ rd μ k j = 0) : ¬ rd (i_X1_2 μ) k j = 0 := by rw [fi_X1_2 hk]; exact h
set_option maxHeartbeats 4000000 in
set_option maxRecDepth 100000 in
theorem ci_X1_2 {l : Launch} {G : GG} {d : Nat} (hd : 0 ≤ d) {μ : Mem} (hZ : Zr 3 μ) : CTI l yX1_init cX1_init 1 d G [.ref (gad G 2)] 3 μ 5 40 (i_X1_2 μ) := by
  refine cti_start (by decide) rfl (Nat.le_of_ble_eq_true rfl) (fun C hl1 hG1 hC hQ hr hmn => ?_)
  subst hl1; subst hG1
  have hC : CxI C cX1_init 1 RX1 d 3 5 40 := hC
  show UI C 1 3 0 0 μ 0 [(0, .ref (gad (cG C) 2))] []
  refine v_aload_n (pc := 0) hC dX1_init_0 rfl 0 rfl ?_
  refine v_objInit (pc := 1) hC mL_RX1_3 mM_O_init mB_O_init (Nat.le_of_ble_eq_true rfl) dX1_init_1 ?_
  refine v_aload_n (pc := 4) hC dX1_init_4 rfl 0 rfl ?_
  refine v_bipush (pc := 5) hC (v := (8 : Int32)) (by decide) dX1_init_5 ?_
  refine v_newaI (n := 3) (pc := 7) hC 8 mA_int (by decide) (by decide) (by decide) rfl rfl rfl hZ (by decide) dX1_init_7 ?_
  show UI C 1 4 1 8 μ 9 [(0, .ref (gad (cG C) 2))] [.ref (gad (cG C) 3), .ref (gad (cG C) 2)]
  refine vp_RX1_9 (pc := 9) hC hmn (k := 2) (by decide) rfl rfl dX1_init_9 ?_
  refine v_aload_n (pc := 12) hC dX1_init_12 rfl 0 rfl ?_
  refine v_bipush (pc := 13) hC (v := (8 : Int32)) (by decide) dX1_init_13 ?_
  refine v_newaI (n := 4) (pc := 15) hC 8 mA_int (by decide) (by decide) (by decide) rfl rfl rfl (zw (n := 4) (zs (n := 3) (m := 4) hZ (by decide)) (by decide)) (by decide) dX1_init_15 ?_
  show UI C 1 5 2 16 (wr μ 2 0 1) 17 [(0, .ref (gad (cG C) 2))] [.ref (gad (cG C) 4), .ref (gad (cG C) 2)]
  refine vp_RX1_15 (pc := 17) hC hmn (k := 2) (by decide) rfl rfl dX1_init_17 ?_
  refine v_aload_n (pc := 20) hC dX1_init_20 rfl 0 rfl ?_
  refine v_bipush (pc := 21) hC (v := (8 : Int32)) (by decide) dX1_init_21 ?_
  refine v_newaI (n := 5) (pc := 23) hC 8 mA_int (by decide) (by decide) (by decide) rfl rfl rfl (zw (n := 5) (zs (n := 4) (m := 5) (zw (n := 4) (zs (n := 3) (m := 4) hZ (by decide)) (by decide)) (by decide)) (by decide)) (by decide) dX1_init_23 ?_
  show UI C 1 6 3 24 (wr (wr μ 2 0 1) 2 1 1) 25 [(0, .ref (gad (cG C) 2))] [.ref (gad (cG C) 5), .ref (gad (cG C) 2)]
  refine vp_RX1_18 (pc := 25) hC hmn (k := 2) (by decide) rfl rfl dX1_init_25 ?_
  refine v_aload_n (pc := 28) hC dX1_init_28 rfl 0 rfl ?_
  refine v_bipush (pc := 29) hC (v := (8 : Int32)) (by decide) dX1_init_29 ?_
  refine v_newaI (n := 6) (pc := 31) hC 8 mA_int (by decide) (by decide) (by decide) rfl rfl rfl (zw (n := 6) (zs (n := 5) (m := 6) (zw (n := 5) (zs (n := 4) (m := 5) (zw (n := 4) (zs (n := 3) (m := 4) hZ (by decide)) (by decide)) (by decide)) (by decide)) (by decide)) (by decide)) (by decide) dX1_init_31 ?_
  show UI C 1 7 4 32 (wr (wr (wr μ 2 0 1) 2 1 1) 2 2 1) 33 [(0, .ref (gad (cG C) 2))] [.ref (gad (cG C) 6), .ref (gad (cG C) 2)]
  refine vp_RX1_21 (pc := 33) hC hmn (k := 2) (by decide) rfl rfl dX1_init_33 ?_
  refine v_aload_n (pc := 36) hC dX1_init_36 rfl 0 rfl ?_
  refine v_bipush (pc := 37) hC (v := (8 : Int32)) (by decide) dX1_init_37 ?_
  refine v_newaI (n := 7) (pc := 39) hC 8 mA_int (by decide) (by decide) (by decide) rfl rfl rfl (zw (n := 7) (zs (n := 6) (m := 7) (zw (n := 6) (zs (n := 5) (m := 6) (zw (n := 5) (zs (n := 4) (m := 5) (zw (n := 4) (zs (n := 3) (m := 4) hZ (by decide)) (by decide)) (by decide)) (by decide)) (by decide)) (by decide)) (by decide)) (by decide)) (by decide) dX1_init_39 ?_
  show UI C 1 8 5 40 (wr (wr (wr (wr μ 2 0 1) 2 1 1) 2 2 1) 2 3 1) 41 [(0, .ref (gad (cG C) 2))] [.ref (gad (cG C) 7), .ref (gad (cG C) 2)]
  refine vp_RX1_24 (pc := 41) hC hmn (k := 2) (by decide) rfl rfl dX1_init_41 ?_
  exact v_ret (pc := 44) hC hQ hr rfl dX1_init_44
def i_X2_8 (μ : Mem) : Mem := cpS (wr (wr (wr (wr μ 8 0 1) 8 1 1) 8 2 (0 : Int32)) 8 3 (1 : Int32)) 9 2 1
theorem zi_X2_8 {n : Nat} {μ : Mem} (h : Zr n μ) (hn : 11 ≤ n) : Zr n (i_X2_8 μ) := by unfold i_X2_8; exact (zc (zw (zw (zw (zw h (by omega)) (by omega)) (by omega)) (by omega)) (by omega))
theorem fi_X2_8 {μ : Mem} {k j : Nat} (hk : k < 8 ∨ 11 ≤ k) : rd (i_X2_8 μ) k j = rd μ k j := by unfold i_X2_8; rw [rdc_ne (by omega), rdw_ne (by omega), rdw_ne (by omega), rdw_ne (by omega), rdw_ne (by omega)]
theorem ff_X2_8 {μ : Mem} {k j : Nat} (hk : k < 8 ∨ 11 ≤ k) (h : ¬ rd μ k j = 0) : ¬ rd (i_X2_8 μ) k j = 0 := by rw [fi_X2_8 hk]; exact h
set_option maxHeartbeats 4000000 in
set_option maxRecDepth 100000 in
theorem ci_X2_8 {l : Launch} {G : GG} {d : Nat} (hd : 0 ≤ d) {μ : Mem} (hZ : Zr 9 μ) : CTI l yX2_init cX2_init 3 d G [.ref (gad G 8), .int (0 : Int32)] 9 μ 2 100 (i_X2_8 μ) := by
  refine cti_start (by decide) rfl (Nat.le_of_ble_eq_true rfl) (fun C hl1 hG1 hC hQ hr hmn => ?_)
  subst hl1; subst hG1
  have hC : CxI C cX2_init 3 RX2 d 9 2 100 := hC
  show UI C 3 9 0 0 μ 0 [(0, .ref (gad (cG C) 8)), (1, .int (0 : Int32))] []
  refine v_aload_n (pc := 0) hC dX2_init_0 rfl 0 rfl ?_
  refine v_objInit (pc := 1) hC mL_RX2_3 mM_O_init mB_O_init (Nat.le_of_ble_eq_true rfl) dX2_init_1 ?_
  refine v_aload_n (pc := 4) hC dX2_init_4 rfl 0 rfl ?_
  refine v_bipush (pc := 5) hC (v := (50 : Int32)) (by decide) dX2_init_5 ?_
  refine v_newaI (n := 9) (pc := 7) hC 50 mA_int (by decide) (by decide) (by decide) rfl rfl rfl hZ (by decide) dX2_init_7 ?_
  show UI C 3 10 1 50 μ 9 [(0, .ref (gad (cG C) 8)), (1, .int (0 : Int32))] [.ref (gad (cG C) 9), .ref (gad (cG C) 8)]
  refine vp_RX2_9 (pc := 9) hC hmn (k := 8) (by decide) rfl rfl dX2_init_9 ?_
  refine v_aload_n (pc := 12) hC dX2_init_12 rfl 0 rfl ?_
  refine v_bipush (pc := 13) hC (v := (50 : Int32)) (by decide) dX2_init_13 ?_
  refine v_newaI (n := 10) (pc := 15) hC 50 mA_int (by decide) (by decide) (by decide) rfl rfl rfl (zw (n := 10) (zs (n := 9) (m := 10) hZ (by decide)) (by decide)) (by decide) dX2_init_15 ?_
  show UI C 3 11 2 100 (wr μ 8 0 1) 17 [(0, .ref (gad (cG C) 8)), (1, .int (0 : Int32))] [.ref (gad (cG C) 10), .ref (gad (cG C) 8)]
  refine vp_RX2_15 (pc := 17) hC hmn (k := 8) (by decide) rfl rfl dX2_init_17 ?_
  refine v_iload_n (pc := 20) hC dX2_init_20 rfl 1 rfl ?_
  refine v_if_ne (pc := 21) hC 30 dX2_init_21 (by decide) (fun q => absurd rfl q) (fun _ => ?_)
  refine v_gets2 (pc := 24) hC rfl dX2_init_24 ?_
  refine v_goto (pc := 27) hC 33 dX2_init_27 (by decide) ?_
  refine v_astore_n (pc := 33) hC dX2_init_33 rfl [(2, .ref (gsa (cG C) 2)), (0, .ref (gad (cG C) 8)), (1, .int (0 : Int32))] (by decide) rfl ?_
  refine v_aload_n (pc := 34) hC dX2_init_34 rfl 1 rfl ?_
  refine v_iload_n (pc := 35) hC dX2_init_35 rfl 2 rfl ?_
  refine v_if_ne (pc := 36) hC 43 dX2_init_36 (by decide) (fun q => absurd rfl q) (fun _ => ?_)
  refine v_iconst (pc := 39) hC (v := (0 : Int32)) (by decide) dX2_init_39 ?_
  refine v_goto (pc := 40) hC 46 dX2_init_40 (by decide) ?_
  refine vp_RX2_24 (pc := 46) hC hmn (k := 8) (by decide) rfl dX2_init_46 ?_
  refine v_aload_n (pc := 49) hC dX2_init_49 rfl 1 rfl ?_
  refine v_aload_n (pc := 50) hC dX2_init_50 rfl 0 rfl ?_
  refine v_tlen2 (pc := 51) hC dX2_init_51 ?_
  refine vp_RX2_28 (pc := 52) hC (k := 8) (by decide) rfl dX2_init_52 ?_
  refine v_aload_n (pc := 55) hC dX2_init_55 rfl 0 rfl ?_
  refine v_iconst (pc := 56) hC (v := (0 : Int32)) (by decide) dX2_init_56 ?_
  refine v_aload_n (pc := 57) hC dX2_init_57 rfl 1 rfl ?_
  refine vg_RX2_9 (pc := 58) hC (k := 8) 9 (by decide) rfl rfl (fl_n (by decide) (fl_n (by decide) (fl_n (by decide) (fl_w (by decide))))) dX2_init_58 ?_
  refine v_iconst (pc := 61) hC (v := (0 : Int32)) (by decide) dX2_init_61 ?_
  refine v_aload_n (pc := 62) hC dX2_init_62 rfl 0 rfl ?_
  refine v_tlen2 (pc := 63) hC dX2_init_63 ?_
  refine v_copyT2 (pc := 64) hC mL_RX2_31 mN_O_arraycopy mK_O_arraycopy mI_RJ10 (k := 9) (by decide) rfl (by decide) (Nat.le_of_ble_eq_true rfl) dX2_init_64 ?_
  exact v_ret (pc := 67) hC hQ hr rfl dX2_init_67
def i_X2_11 (μ : Mem) : Mem := cpS (wr (wr (wr (wr μ 11 0 1) 11 1 1) 11 2 (-999 : Int32)) 11 3 (9 : Int32)) 12 3 9
theorem zi_X2_11 {n : Nat} {μ : Mem} (h : Zr n μ) (hn : 14 ≤ n) : Zr n (i_X2_11 μ) := by unfold i_X2_11; exact (zc (zw (zw (zw (zw h (by omega)) (by omega)) (by omega)) (by omega)) (by omega))
theorem fi_X2_11 {μ : Mem} {k j : Nat} (hk : k < 11 ∨ 14 ≤ k) : rd (i_X2_11 μ) k j = rd μ k j := by unfold i_X2_11; rw [rdc_ne (by omega), rdw_ne (by omega), rdw_ne (by omega), rdw_ne (by omega), rdw_ne (by omega)]
theorem ff_X2_11 {μ : Mem} {k j : Nat} (hk : k < 11 ∨ 14 ≤ k) (h : ¬ rd μ k j = 0) : ¬ rd (i_X2_11 μ) k j = 0 := by rw [fi_X2_11 hk]; exact h
set_option maxHeartbeats 4000000 in
set_option maxRecDepth 100000 in
theorem ci_X2_11 {l : Launch} {G : GG} {d : Nat} (hd : 0 ≤ d) {μ : Mem} (hZ : Zr 12 μ) : CTI l yX2_init cX2_init 3 d G [.ref (gad G 11), .int (1 : Int32)] 12 μ 2 100 (i_X2_11 μ) := by
  refine cti_start (by decide) rfl (Nat.le_of_ble_eq_true rfl) (fun C hl1 hG1 hC hQ hr hmn => ?_)
  subst hl1; subst hG1
  have hC : CxI C cX2_init 3 RX2 d 12 2 100 := hC
  show UI C 3 12 0 0 μ 0 [(0, .ref (gad (cG C) 11)), (1, .int (1 : Int32))] []
  refine v_aload_n (pc := 0) hC dX2_init_0 rfl 0 rfl ?_
  refine v_objInit (pc := 1) hC mL_RX2_3 mM_O_init mB_O_init (Nat.le_of_ble_eq_true rfl) dX2_init_1 ?_
  refine v_aload_n (pc := 4) hC dX2_init_4 rfl 0 rfl ?_
  refine v_bipush (pc := 5) hC (v := (50 : Int32)) (by decide) dX2_init_5 ?_
  refine v_newaI (n := 12) (pc := 7) hC 50 mA_int (by decide) (by decide) (by decide) rfl rfl rfl hZ (by decide) dX2_init_7 ?_
  show UI C 3 13 1 50 μ 9 [(0, .ref (gad (cG C) 11)), (1, .int (1 : Int32))] [.ref (gad (cG C) 12), .ref (gad (cG C) 11)]
  refine vp_RX2_9 (pc := 9) hC hmn (k := 11) (by decide) rfl rfl dX2_init_9 ?_
  refine v_aload_n (pc := 12) hC dX2_init_12 rfl 0 rfl ?_
  refine v_bipush (pc := 13) hC (v := (50 : Int32)) (by decide) dX2_init_13 ?_
  refine v_newaI (n := 13) (pc := 15) hC 50 mA_int (by decide) (by decide) (by decide) rfl rfl rfl (zw (n := 13) (zs (n := 12) (m := 13) hZ (by decide)) (by decide)) (by decide) dX2_init_15 ?_
  show UI C 3 14 2 100 (wr μ 11 0 1) 17 [(0, .ref (gad (cG C) 11)), (1, .int (1 : Int32))] [.ref (gad (cG C) 13), .ref (gad (cG C) 11)]
  refine vp_RX2_15 (pc := 17) hC hmn (k := 11) (by decide) rfl rfl dX2_init_17 ?_
  refine v_iload_n (pc := 20) hC dX2_init_20 rfl 1 rfl ?_
  refine v_if_ne (pc := 21) hC 30 dX2_init_21 (by decide) (fun _ => ?_) (fun q => absurd q (by decide))
  refine v_gets3 (pc := 30) hC rfl dX2_init_30 ?_
  refine v_astore_n (pc := 33) hC dX2_init_33 rfl [(2, .ref (gsa (cG C) 3)), (0, .ref (gad (cG C) 11)), (1, .int (1 : Int32))] (by decide) rfl ?_
  refine v_aload_n (pc := 34) hC dX2_init_34 rfl 1 rfl ?_
  refine v_iload_n (pc := 35) hC dX2_init_35 rfl 2 rfl ?_
  refine v_if_ne (pc := 36) hC 43 dX2_init_36 (by decide) (fun _ => ?_) (fun q => absurd q (by decide))
  refine v_sipush (pc := 43) hC (v := (-999 : Int32)) (by decide) dX2_init_43 ?_
  refine vp_RX2_24 (pc := 46) hC hmn (k := 11) (by decide) rfl dX2_init_46 ?_
  refine v_aload_n (pc := 49) hC dX2_init_49 rfl 1 rfl ?_
  refine v_aload_n (pc := 50) hC dX2_init_50 rfl 0 rfl ?_
  refine v_tlen3 (pc := 51) hC dX2_init_51 ?_
  refine vp_RX2_28 (pc := 52) hC (k := 11) (by decide) rfl dX2_init_52 ?_
  refine v_aload_n (pc := 55) hC dX2_init_55 rfl 0 rfl ?_
  refine v_iconst (pc := 56) hC (v := (0 : Int32)) (by decide) dX2_init_56 ?_
  refine v_aload_n (pc := 57) hC dX2_init_57 rfl 1 rfl ?_
  refine vg_RX2_9 (pc := 58) hC (k := 11) 12 (by decide) rfl rfl (fl_n (by decide) (fl_n (by decide) (fl_n (by decide) (fl_w (by decide))))) dX2_init_58 ?_
  refine v_iconst (pc := 61) hC (v := (0 : Int32)) (by decide) dX2_init_61 ?_
  refine v_aload_n (pc := 62) hC dX2_init_62 rfl 0 rfl ?_
  refine v_tlen3 (pc := 63) hC dX2_init_63 ?_
  refine v_copyT3 (pc := 64) hC mL_RX2_31 mN_O_arraycopy mK_O_arraycopy mI_RJ10 (k := 12) (by decide) rfl (by decide) (Nat.le_of_ble_eq_true rfl) dX2_init_64 ?_
  exact v_ret (pc := 67) hC hQ hr rfl dX2_init_67
def i_X0_16 (μ : Mem) : Mem := wr (wr μ 16 0 1) 16 1 1
theorem zi_X0_16 {n : Nat} {μ : Mem} (h : Zr n μ) (hn : 19 ≤ n) : Zr n (i_X0_16 μ) := by unfold i_X0_16; exact (zw (zw h (by omega)) (by omega))
theorem fi_X0_16 {μ : Mem} {k j : Nat} (hk : k < 16 ∨ 19 ≤ k) : rd (i_X0_16 μ) k j = rd μ k j := by unfold i_X0_16; rw [rdw_ne (by omega), rdw_ne (by omega)]
theorem ff_X0_16 {μ : Mem} {k j : Nat} (hk : k < 16 ∨ 19 ≤ k) (h : ¬ rd μ k j = 0) : ¬ rd (i_X0_16 μ) k j = 0 := by rw [fi_X0_16 hk]; exact h
set_option maxHeartbeats 4000000 in
set_option maxRecDepth 100000 in
theorem ci_X0_16 {l : Launch} {G : GG} {d : Nat} (hd : 0 ≤ d) {μ : Mem} (hZ : Zr 17 μ) : CTI l yX0_init cX0_init 1 d G [.ref (gad G 16)] 17 μ 2 16 (i_X0_16 μ) := by
  refine cti_start (by decide) rfl (Nat.le_of_ble_eq_true rfl) (fun C hl1 hG1 hC hQ hr hmn => ?_)
  subst hl1; subst hG1
  have hC : CxI C cX0_init 1 RX0 d 17 2 16 := hC
  show UI C 1 17 0 0 μ 0 [(0, .ref (gad (cG C) 16))] []
  refine v_aload_n (pc := 0) hC dX0_init_0 rfl 0 rfl ?_
  refine v_objInit (pc := 1) hC mL_RX0_3 mM_O_init mB_O_init (Nat.le_of_ble_eq_true rfl) dX0_init_1 ?_
  refine v_aload_n (pc := 4) hC dX0_init_4 rfl 0 rfl ?_
  refine v_bipush (pc := 5) hC (v := (8 : Int32)) (by decide) dX0_init_5 ?_
  refine v_newaI (n := 17) (pc := 7) hC 8 mA_int (by decide) (by decide) (by decide) rfl rfl rfl hZ (by decide) dX0_init_7 ?_
  show UI C 1 18 1 8 μ 9 [(0, .ref (gad (cG C) 16))] [.ref (gad (cG C) 17), .ref (gad (cG C) 16)]
  refine vp_RX0_9 (pc := 9) hC hmn (k := 16) (by decide) rfl rfl dX0_init_9 ?_
  refine v_aload_n (pc := 12) hC dX0_init_12 rfl 0 rfl ?_
  refine v_bipush (pc := 13) hC (v := (8 : Int32)) (by decide) dX0_init_13 ?_
  refine v_newaI (n := 18) (pc := 15) hC 8 mA_int (by decide) (by decide) (by decide) rfl rfl rfl (zw (n := 18) (zs (n := 17) (m := 18) hZ (by decide)) (by decide)) (by decide) dX0_init_15 ?_
  show UI C 1 19 2 16 (wr μ 16 0 1) 17 [(0, .ref (gad (cG C) 16))] [.ref (gad (cG C) 18), .ref (gad (cG C) 16)]
  refine vp_RX0_15 (pc := 17) hC hmn (k := 16) (by decide) rfl rfl dX0_init_17 ?_
  exact v_ret (pc := 20) hC hQ hr rfl dX0_init_20
def i_X0_19 (μ : Mem) : Mem := wr (wr μ 19 0 1) 19 1 1
theorem zi_X0_19 {n : Nat} {μ : Mem} (h : Zr n μ) (hn : 22 ≤ n) : Zr n (i_X0_19 μ) := by unfold i_X0_19; exact (zw (zw h (by omega)) (by omega))
theorem fi_X0_19 {μ : Mem} {k j : Nat} (hk : k < 19 ∨ 22 ≤ k) : rd (i_X0_19 μ) k j = rd μ k j := by unfold i_X0_19; rw [rdw_ne (by omega), rdw_ne (by omega)]
theorem ff_X0_19 {μ : Mem} {k j : Nat} (hk : k < 19 ∨ 22 ≤ k) (h : ¬ rd μ k j = 0) : ¬ rd (i_X0_19 μ) k j = 0 := by rw [fi_X0_19 hk]; exact h
set_option maxHeartbeats 4000000 in
set_option maxRecDepth 100000 in
theorem ci_X0_19 {l : Launch} {G : GG} {d : Nat} (hd : 0 ≤ d) {μ : Mem} (hZ : Zr 20 μ) : CTI l yX0_init cX0_init 1 d G [.ref (gad G 19)] 20 μ 2 16 (i_X0_19 μ) := by
  refine cti_start (by decide) rfl (Nat.le_of_ble_eq_true rfl) (fun C hl1 hG1 hC hQ hr hmn => ?_)
  subst hl1; subst hG1
  have hC : CxI C cX0_init 1 RX0 d 20 2 16 := hC
  show UI C 1 20 0 0 μ 0 [(0, .ref (gad (cG C) 19))] []
  refine v_aload_n (pc := 0) hC dX0_init_0 rfl 0 rfl ?_
  refine v_objInit (pc := 1) hC mL_RX0_3 mM_O_init mB_O_init (Nat.le_of_ble_eq_true rfl) dX0_init_1 ?_
  refine v_aload_n (pc := 4) hC dX0_init_4 rfl 0 rfl ?_
  refine v_bipush (pc := 5) hC (v := (8 : Int32)) (by decide) dX0_init_5 ?_
  refine v_newaI (n := 20) (pc := 7) hC 8 mA_int (by decide) (by decide) (by decide) rfl rfl rfl hZ (by decide) dX0_init_7 ?_
  show UI C 1 21 1 8 μ 9 [(0, .ref (gad (cG C) 19))] [.ref (gad (cG C) 20), .ref (gad (cG C) 19)]
  refine vp_RX0_9 (pc := 9) hC hmn (k := 19) (by decide) rfl rfl dX0_init_9 ?_
  refine v_aload_n (pc := 12) hC dX0_init_12 rfl 0 rfl ?_
  refine v_bipush (pc := 13) hC (v := (8 : Int32)) (by decide) dX0_init_13 ?_
  refine v_newaI (n := 21) (pc := 15) hC 8 mA_int (by decide) (by decide) (by decide) rfl rfl rfl (zw (n := 21) (zs (n := 20) (m := 21) hZ (by decide)) (by decide)) (by decide) dX0_init_15 ?_
  show UI C 1 22 2 16 (wr μ 19 0 1) 17 [(0, .ref (gad (cG C) 19))] [.ref (gad (cG C) 21), .ref (gad (cG C) 19)]
  refine vp_RX0_15 (pc := 17) hC hmn (k := 19) (by decide) rfl rfl dX0_init_17 ?_
  exact v_ret (pc := 20) hC hQ hr rfl dX0_init_20
def i_X0_22 (μ : Mem) : Mem := wr (wr μ 22 0 1) 22 1 1
theorem zi_X0_22 {n : Nat} {μ : Mem} (h : Zr n μ) (hn : 25 ≤ n) : Zr n (i_X0_22 μ) := by unfold i_X0_22; exact (zw (zw h (by omega)) (by omega))
theorem fi_X0_22 {μ : Mem} {k j : Nat} (hk : k < 22 ∨ 25 ≤ k) : rd (i_X0_22 μ) k j = rd μ k j := by unfold i_X0_22; rw [rdw_ne (by omega), rdw_ne (by omega)]
theorem ff_X0_22 {μ : Mem} {k j : Nat} (hk : k < 22 ∨ 25 ≤ k) (h : ¬ rd μ k j = 0) : ¬ rd (i_X0_22 μ) k j = 0 := by rw [fi_X0_22 hk]; exact h
set_option maxHeartbeats 4000000 in
set_option maxRecDepth 100000 in
theorem ci_X0_22 {l : Launch} {G : GG} {d : Nat} (hd : 0 ≤ d) {μ : Mem} (hZ : Zr 23 μ) : CTI l yX0_init cX0_init 1 d G [.ref (gad G 22)] 23 μ 2 16 (i_X0_22 μ) := by
  refine cti_start (by decide) rfl (Nat.le_of_ble_eq_true rfl) (fun C hl1 hG1 hC hQ hr hmn => ?_)
  subst hl1; subst hG1
  have hC : CxI C cX0_init 1 RX0 d 23 2 16 := hC
  show UI C 1 23 0 0 μ 0 [(0, .ref (gad (cG C) 22))] []
  refine v_aload_n (pc := 0) hC dX0_init_0 rfl 0 rfl ?_
  refine v_objInit (pc := 1) hC mL_RX0_3 mM_O_init mB_O_init (Nat.le_of_ble_eq_true rfl) dX0_init_1 ?_
  refine v_aload_n (pc := 4) hC dX0_init_4 rfl 0 rfl ?_
  refine v_bipush (pc := 5) hC (v := (8 : Int32)) (by decide) dX0_init_5 ?_
  refine v_newaI (n := 23) (pc := 7) hC 8 mA_int (by decide) (by decide) (by decide) rfl rfl rfl hZ (by decide) dX0_init_7 ?_
  show UI C 1 24 1 8 μ 9 [(0, .ref (gad (cG C) 22))] [.ref (gad (cG C) 23), .ref (gad (cG C) 22)]
  refine vp_RX0_9 (pc := 9) hC hmn (k := 22) (by decide) rfl rfl dX0_init_9 ?_
  refine v_aload_n (pc := 12) hC dX0_init_12 rfl 0 rfl ?_
  refine v_bipush (pc := 13) hC (v := (8 : Int32)) (by decide) dX0_init_13 ?_
  refine v_newaI (n := 24) (pc := 15) hC 8 mA_int (by decide) (by decide) (by decide) rfl rfl rfl (zw (n := 24) (zs (n := 23) (m := 24) hZ (by decide)) (by decide)) (by decide) dX0_init_15 ?_
  show UI C 1 25 2 16 (wr μ 22 0 1) 17 [(0, .ref (gad (cG C) 22))] [.ref (gad (cG C) 24), .ref (gad (cG C) 22)]
  refine vp_RX0_15 (pc := 17) hC hmn (k := 22) (by decide) rfl rfl dX0_init_17 ?_
  exact v_ret (pc := 20) hC hQ hr rfl dX0_init_20
def i_X0_25 (μ : Mem) : Mem := wr (wr μ 25 0 1) 25 1 1
theorem zi_X0_25 {n : Nat} {μ : Mem} (h : Zr n μ) (hn : 28 ≤ n) : Zr n (i_X0_25 μ) := by unfold i_X0_25; exact (zw (zw h (by omega)) (by omega))
theorem fi_X0_25 {μ : Mem} {k j : Nat} (hk : k < 25 ∨ 28 ≤ k) : rd (i_X0_25 μ) k j = rd μ k j := by unfold i_X0_25; rw [rdw_ne (by omega), rdw_ne (by omega)]
theorem ff_X0_25 {μ : Mem} {k j : Nat} (hk : k < 25 ∨ 28 ≤ k) (h : ¬ rd μ k j = 0) : ¬ rd (i_X0_25 μ) k j = 0 := by rw [fi_X0_25 hk]; exact h
set_option maxHeartbeats 4000000 in
set_option maxRecDepth 100000 in
theorem ci_X0_25 {l : Launch} {G : GG} {d : Nat} (hd : 0 ≤ d) {μ : Mem} (hZ : Zr 26 μ) : CTI l yX0_init cX0_init 1 d G [.ref (gad G 25)] 26 μ 2 16 (i_X0_25 μ) := by
  refine cti_start (by decide) rfl (Nat.le_of_ble_eq_true rfl) (fun C hl1 hG1 hC hQ hr hmn => ?_)
  subst hl1; subst hG1
  have hC : CxI C cX0_init 1 RX0 d 26 2 16 := hC
  show UI C 1 26 0 0 μ 0 [(0, .ref (gad (cG C) 25))] []
  refine v_aload_n (pc := 0) hC dX0_init_0 rfl 0 rfl ?_
  refine v_objInit (pc := 1) hC mL_RX0_3 mM_O_init mB_O_init (Nat.le_of_ble_eq_true rfl) dX0_init_1 ?_
  refine v_aload_n (pc := 4) hC dX0_init_4 rfl 0 rfl ?_
  refine v_bipush (pc := 5) hC (v := (8 : Int32)) (by decide) dX0_init_5 ?_
  refine v_newaI (n := 26) (pc := 7) hC 8 mA_int (by decide) (by decide) (by decide) rfl rfl rfl hZ (by decide) dX0_init_7 ?_
  show UI C 1 27 1 8 μ 9 [(0, .ref (gad (cG C) 25))] [.ref (gad (cG C) 26), .ref (gad (cG C) 25)]
  refine vp_RX0_9 (pc := 9) hC hmn (k := 25) (by decide) rfl rfl dX0_init_9 ?_
  refine v_aload_n (pc := 12) hC dX0_init_12 rfl 0 rfl ?_
  refine v_bipush (pc := 13) hC (v := (8 : Int32)) (by decide) dX0_init_13 ?_
  refine v_newaI (n := 27) (pc := 15) hC 8 mA_int (by decide) (by decide) (by decide) rfl rfl rfl (zw (n := 27) (zs (n := 26) (m := 27) hZ (by decide)) (by decide)) (by decide) dX0_init_15 ?_
  show UI C 1 28 2 16 (wr μ 25 0 1) 17 [(0, .ref (gad (cG C) 25))] [.ref (gad (cG C) 27), .ref (gad (cG C) 25)]
  refine vp_RX0_15 (pc := 17) hC hmn (k := 25) (by decide) rfl rfl dX0_init_17 ?_
  exact v_ret (pc := 20) hC hQ hr rfl dX0_init_20
def i_X8_14 (μ : Mem) : Mem := wr (i_X0_25 (wr (i_X0_22 (wr (i_X0_19 (wr (i_X0_16 (wr (wr (wr μ 14 0 1) 14 1 1) 14 2 1)) 15 (0 : Int32).toNatClampNeg 1)) 15 (1 : Int32).toNatClampNeg 1)) 15 (2 : Int32).toNatClampNeg 1)) 15 (3 : Int32).toNatClampNeg 1
theorem zi_X8_14 {n : Nat} {μ : Mem} (h : Zr n μ) (hn : 28 ≤ n) : Zr n (i_X8_14 μ) := by unfold i_X8_14; exact (zw (zi_X0_25 (zw (zi_X0_22 (zw (zi_X0_19 (zw (zi_X0_16 (zw (zw (zw h (by omega)) (by omega)) (by omega)) (by omega)) (by omega)) (by omega)) (by omega)) (by omega)) (by omega)) (by omega)) (by omega))
theorem fi_X8_14 {μ : Mem} {k j : Nat} (hk : k < 14 ∨ 28 ≤ k) : rd (i_X8_14 μ) k j = rd μ k j := by unfold i_X8_14; rw [rdw_ne (by omega), fi_X0_25 (by omega), rdw_ne (by omega), fi_X0_22 (by omega), rdw_ne (by omega), fi_X0_19 (by omega), rdw_ne (by omega), fi_X0_16 (by omega), rdw_ne (by omega), rdw_ne (by omega), rdw_ne (by omega)]
theorem ff_X8_14 {μ : Mem} {k j : Nat} (hk : k < 14 ∨ 28 ≤ k) (h : ¬ rd μ k j = 0) : ¬ rd (i_X8_14 μ) k j = 0 := by rw [fi_X8_14 hk]; exact h
set_option maxHeartbeats 4000000 in
set_option maxRecDepth 100000 in
theorem ci_X8_14 {l : Launch} {G : GG} {d : Nat} (hd : 1 ≤ d) {μ : Mem} (hZ : Zr 15 μ) : CTI l yX8_init cX8_init 4 d G [.ref (gad G 14), .ref (gad G 2), .ref (gad G 8)] 15 μ 13 100 (i_X8_14 μ) := by
  refine cti_start (by decide) rfl (Nat.le_of_ble_eq_true rfl) (fun C hl1 hG1 hC hQ hr hmn => ?_)
  subst hl1; subst hG1
  have hC : CxI C cX8_init 4 RX8 d 15 13 100 := hC
  show UI C 4 15 0 0 μ 0 [(0, .ref (gad (cG C) 14)), (1, .ref (gad (cG C) 2)), (2, .ref (gad (cG C) 8))] []
  refine v_aload_n (pc := 0) hC dX8_init_0 rfl 0 rfl ?_
  refine v_objInit (pc := 1) hC mL_RX8_3 mM_O_init mB_O_init (Nat.le_of_ble_eq_true rfl) dX8_init_1 ?_
  refine v_aload_n (pc := 4) hC dX8_init_4 rfl 0 rfl ?_
  refine v_iconst (pc := 5) hC (v := (4 : Int32)) (by decide) dX8_init_5 ?_
  refine v_newrD (n := 15) (pc := 6) hC mC_RX8_9 (by decide) (by decide) rfl rfl rfl hZ (by decide) dX8_init_6 ?_
  show UI C 4 16 1 4 μ 9 [(0, .ref (gad (cG C) 14)), (1, .ref (gad (cG C) 2)), (2, .ref (gad (cG C) 8))] [.ref (gad (cG C) 15), .ref (gad (cG C) 14)]
  refine vp_RX8_11 (pc := 9) hC hmn (k := 14) (by decide) rfl rfl dX8_init_9 ?_
  refine v_aload_n (pc := 12) hC dX8_init_12 rfl 0 rfl ?_
  refine v_aload_n (pc := 13) hC dX8_init_13 rfl 1 rfl ?_
  refine vp_RX8_17 (pc := 14) hC hmn (k := 14) (by decide) rfl rfl dX8_init_14 ?_
  refine v_aload_n (pc := 17) hC dX8_init_17 rfl 0 rfl ?_
  refine v_aload_n (pc := 18) hC dX8_init_18 rfl 2 rfl ?_
  refine vp_RX8_21 (pc := 19) hC hmn (k := 14) (by decide) rfl rfl dX8_init_19 ?_
  refine v_iconst (pc := 22) hC (v := (0 : Int32)) (by decide) dX8_init_22 ?_
  refine v_istore_n (pc := 23) hC dX8_init_23 rfl [(3, .int (0 : Int32)), (0, .ref (gad (cG C) 14)), (1, .ref (gad (cG C) 2)), (2, .ref (gad (cG C) 8))] (by decide) rfl ?_
  refine v_iload_n (pc := 24) hC dX8_init_24 rfl 0 rfl ?_
  refine v_iconst (pc := 25) hC (v := (4 : Int32)) (by decide) dX8_init_25 ?_
  refine v_icmp_ge (pc := 26) hC 48 dX8_init_26 (by decide) (fun q => absurd q (by decide)) (fun _ => ?_)
  refine v_aload_n (pc := 29) hC dX8_init_29 rfl 1 rfl ?_
  refine vg_RX8_11 (pc := 30) hC (k := 14) 15 (by decide) rfl rfl (fl_n (by decide) (fl_n (by decide) (fl_w (by decide)))) dX8_init_30 ?_
  refine v_iload_n (pc := 33) hC dX8_init_33 rfl 0 rfl ?_
  refine vn_RX8_9 (n := 16) (pc := 34) hC rfl rfl (zw (n := 16) (zw (n := 16) (zw (n := 16) (zs (n := 15) (m := 16) hZ (by decide)) (by decide)) (by decide)) (by decide)) (by decide) dX8_init_34 ?_
  show UI C 4 17 2 12 (wr (wr (wr μ 14 0 1) 14 1 1) 14 2 1) 37 [(3, .int (0 : Int32)), (0, .ref (gad (cG C) 14)), (1, .ref (gad (cG C) 2)), (2, .ref (gad (cG C) 8))] [.ref (gad (cG C) 16), .int (0 : Int32), .ref (gad (cG C) 15)]
  refine v_dup (pc := 37) hC rfl dX8_init_37 ?_
  refine vc_RX8_25 (n := 17) (pc := 38) hC (av := []) (rest := [.ref (gad (cG C) 16), .int (0 : Int32), .ref (gad (cG C) 15)]) (ci_X0_16 (d := d - 1) (by omega) (zs (n := 16) (m := 17) (zw (n := 16) (zw (n := 16) (zw (n := 16) (zs (n := 15) (m := 16) hZ (by decide)) (by decide)) (by decide)) (by decide)) (by decide))) rfl (by omega) (Nat.le_of_ble_eq_true rfl) rfl (by decide) rfl dX8_init_38 ?_
  show UI C 4 19 4 28 (i_X0_16 (wr (wr (wr μ 14 0 1) 14 1 1) 14 2 1)) 41 [(3, .int (0 : Int32)), (0, .ref (gad (cG C) 14)), (1, .ref (gad (cG C) 2)), (2, .ref (gad (cG C) 8))] [.ref (gad (cG C) 16), .int (0 : Int32), .ref (gad (cG C) 15)]
  refine v_aastD (pc := 41) hC (k := 15) (k2 := 16) (by decide) rfl (by decide) (by decide) rfl (by decide) dX8_init_41 ?_
  refine v_iinc (pc := 42) hC dX8_init_42 0 rfl (1 : Int32) (by decide) [(3, .int (1 : Int32)), (0, .ref (gad (cG C) 14)), (1, .ref (gad (cG C) 2)), (2, .ref (gad (cG C) 8))] (by decide) rfl ?_
  refine v_goto (pc := 45) hC 24 dX8_init_45 (by decide) ?_
  refine v_iload_n (pc := 24) hC dX8_init_24 rfl 0 rfl ?_
  refine v_iconst (pc := 25) hC (v := (4 : Int32)) (by decide) dX8_init_25 ?_
  refine v_icmp_ge (pc := 26) hC 48 dX8_init_26 (by decide) (fun q => absurd q (by decide)) (fun _ => ?_)
  refine v_aload_n (pc := 29) hC dX8_init_29 rfl 1 rfl ?_
  refine vg_RX8_11 (pc := 30) hC (k := 14) 15 (by decide) rfl rfl (fl_n (by decide) (ff_X0_16 (by decide) (fl_n (by decide) (fl_n (by decide) (fl_w (by decide)))))) dX8_init_30 ?_
  refine v_iload_n (pc := 33) hC dX8_init_33 rfl 0 rfl ?_
  refine vn_RX8_9 (n := 19) (pc := 34) hC rfl rfl (zw (n := 19) (zi_X0_16 (n := 19) (zs (n := 17) (m := 19) (zs (n := 16) (m := 17) (zw (n := 16) (zw (n := 16) (zw (n := 16) (zs (n := 15) (m := 16) hZ (by decide)) (by decide)) (by decide)) (by decide)) (by decide)) (by decide)) (by decide)) (by decide)) (by decide) dX8_init_34 ?_
  show UI C 4 20 5 36 (wr (i_X0_16 (wr (wr (wr μ 14 0 1) 14 1 1) 14 2 1)) 15 (0 : Int32).toNatClampNeg 1) 37 [(3, .int (1 : Int32)), (0, .ref (gad (cG C) 14)), (1, .ref (gad (cG C) 2)), (2, .ref (gad (cG C) 8))] [.ref (gad (cG C) 19), .int (1 : Int32), .ref (gad (cG C) 15)]
  refine v_dup (pc := 37) hC rfl dX8_init_37 ?_
  refine vc_RX8_25 (n := 20) (pc := 38) hC (av := []) (rest := [.ref (gad (cG C) 19), .int (1 : Int32), .ref (gad (cG C) 15)]) (ci_X0_19 (d := d - 1) (by omega) (zs (n := 19) (m := 20) (zw (n := 19) (zi_X0_16 (n := 19) (zs (n := 17) (m := 19) (zs (n := 16) (m := 17) (zw (n := 16) (zw (n := 16) (zw (n := 16) (zs (n := 15) (m := 16) hZ (by decide)) (by decide)) (by decide)) (by decide)) (by decide)) (by decide)) (by decide)) (by decide)) (by decide))) rfl (by omega) (Nat.le_of_ble_eq_true rfl) rfl (by decide) rfl dX8_init_38 ?_
  show UI C 4 22 7 52 (i_X0_19 (wr (i_X0_16 (wr (wr (wr μ 14 0 1) 14 1 1) 14 2 1)) 15 (0 : Int32).toNatClampNeg 1)) 41 [(3, .int (1 : Int32)), (0, .ref (gad (cG C) 14)), (1, .ref (gad (cG C) 2)), (2, .ref (gad (cG C) 8))] [.ref (gad (cG C) 19), .int (1 : Int32), .ref (gad (cG C) 15)]
  refine v_aastD (pc := 41) hC (k := 15) (k2 := 19) (by decide) rfl (by decide) (by decide) rfl (by decide) dX8_init_41 ?_
  refine v_iinc (pc := 42) hC dX8_init_42 0 rfl (2 : Int32) (by decide) [(3, .int (2 : Int32)), (0, .ref (gad (cG C) 14)), (1, .ref (gad (cG C) 2)), (2, .ref (gad (cG C) 8))] (by decide) rfl ?_
  refine v_goto (pc := 45) hC 24 dX8_init_45 (by decide) ?_
  refine v_iload_n (pc := 24) hC dX8_init_24 rfl 0 rfl ?_
  refine v_iconst (pc := 25) hC (v := (4 : Int32)) (by decide) dX8_init_25 ?_
  refine v_icmp_ge (pc := 26) hC 48 dX8_init_26 (by decide) (fun q => absurd q (by decide)) (fun _ => ?_)
  refine v_aload_n (pc := 29) hC dX8_init_29 rfl 1 rfl ?_
  refine vg_RX8_11 (pc := 30) hC (k := 14) 15 (by decide) rfl rfl (fl_n (by decide) (ff_X0_19 (by decide) (fl_n (by decide) (ff_X0_16 (by decide) (fl_n (by decide) (fl_n (by decide) (fl_w (by decide)))))))) dX8_init_30 ?_
  refine v_iload_n (pc := 33) hC dX8_init_33 rfl 0 rfl ?_
  refine vn_RX8_9 (n := 22) (pc := 34) hC rfl rfl (zw (n := 22) (zi_X0_19 (n := 22) (zs (n := 20) (m := 22) (zs (n := 19) (m := 20) (zw (n := 19) (zi_X0_16 (n := 19) (zs (n := 17) (m := 19) (zs (n := 16) (m := 17) (zw (n := 16) (zw (n := 16) (zw (n := 16) (zs (n := 15) (m := 16) hZ (by decide)) (by decide)) (by decide)) (by decide)) (by decide)) (by decide)) (by decide)) (by decide)) (by decide)) (by decide)) (by decide)) (by decide)) (by decide) dX8_init_34 ?_
  show UI C 4 23 8 60 (wr (i_X0_19 (wr (i_X0_16 (wr (wr (wr μ 14 0 1) 14 1 1) 14 2 1)) 15 (0 : Int32).toNatClampNeg 1)) 15 (1 : Int32).toNatClampNeg 1) 37 [(3, .int (2 : Int32)), (0, .ref (gad (cG C) 14)), (1, .ref (gad (cG C) 2)), (2, .ref (gad (cG C) 8))] [.ref (gad (cG C) 22), .int (2 : Int32), .ref (gad (cG C) 15)]
  refine v_dup (pc := 37) hC rfl dX8_init_37 ?_
  refine vc_RX8_25 (n := 23) (pc := 38) hC (av := []) (rest := [.ref (gad (cG C) 22), .int (2 : Int32), .ref (gad (cG C) 15)]) (ci_X0_22 (d := d - 1) (by omega) (zs (n := 22) (m := 23) (zw (n := 22) (zi_X0_19 (n := 22) (zs (n := 20) (m := 22) (zs (n := 19) (m := 20) (zw (n := 19) (zi_X0_16 (n := 19) (zs (n := 17) (m := 19) (zs (n := 16) (m := 17) (zw (n := 16) (zw (n := 16) (zw (n := 16) (zs (n := 15) (m := 16) hZ (by decide)) (by decide)) (by decide)) (by decide)) (by decide)) (by decide)) (by decide)) (by decide)) (by decide)) (by decide)) (by decide)) (by decide)) (by decide))) rfl (by omega) (Nat.le_of_ble_eq_true rfl) rfl (by decide) rfl dX8_init_38 ?_
  show UI C 4 25 10 76 (i_X0_22 (wr (i_X0_19 (wr (i_X0_16 (wr (wr (wr μ 14 0 1) 14 1 1) 14 2 1)) 15 (0 : Int32).toNatClampNeg 1)) 15 (1 : Int32).toNatClampNeg 1)) 41 [(3, .int (2 : Int32)), (0, .ref (gad (cG C) 14)), (1, .ref (gad (cG C) 2)), (2, .ref (gad (cG C) 8))] [.ref (gad (cG C) 22), .int (2 : Int32), .ref (gad (cG C) 15)]
  refine v_aastD (pc := 41) hC (k := 15) (k2 := 22) (by decide) rfl (by decide) (by decide) rfl (by decide) dX8_init_41 ?_
  refine v_iinc (pc := 42) hC dX8_init_42 0 rfl (3 : Int32) (by decide) [(3, .int (3 : Int32)), (0, .ref (gad (cG C) 14)), (1, .ref (gad (cG C) 2)), (2, .ref (gad (cG C) 8))] (by decide) rfl ?_
  refine v_goto (pc := 45) hC 24 dX8_init_45 (by decide) ?_
  refine v_iload_n (pc := 24) hC dX8_init_24 rfl 0 rfl ?_
  refine v_iconst (pc := 25) hC (v := (4 : Int32)) (by decide) dX8_init_25 ?_
  refine v_icmp_ge (pc := 26) hC 48 dX8_init_26 (by decide) (fun q => absurd q (by decide)) (fun _ => ?_)
  refine v_aload_n (pc := 29) hC dX8_init_29 rfl 1 rfl ?_
  refine vg_RX8_11 (pc := 30) hC (k := 14) 15 (by decide) rfl rfl (fl_n (by decide) (ff_X0_22 (by decide) (fl_n (by decide) (ff_X0_19 (by decide) (fl_n (by decide) (ff_X0_16 (by decide) (fl_n (by decide) (fl_n (by decide) (fl_w (by decide)))))))))) dX8_init_30 ?_
  refine v_iload_n (pc := 33) hC dX8_init_33 rfl 0 rfl ?_
  refine vn_RX8_9 (n := 25) (pc := 34) hC rfl rfl (zw (n := 25) (zi_X0_22 (n := 25) (zs (n := 23) (m := 25) (zs (n := 22) (m := 23) (zw (n := 22) (zi_X0_19 (n := 22) (zs (n := 20) (m := 22) (zs (n := 19) (m := 20) (zw (n := 19) (zi_X0_16 (n := 19) (zs (n := 17) (m := 19) (zs (n := 16) (m := 17) (zw (n := 16) (zw (n := 16) (zw (n := 16) (zs (n := 15) (m := 16) hZ (by decide)) (by decide)) (by decide)) (by decide)) (by decide)) (by decide)) (by decide)) (by decide)) (by decide)) (by decide)) (by decide)) (by decide)) (by decide)) (by decide)) (by decide)) (by decide)) (by decide) dX8_init_34 ?_
  show UI C 4 26 11 84 (wr (i_X0_22 (wr (i_X0_19 (wr (i_X0_16 (wr (wr (wr μ 14 0 1) 14 1 1) 14 2 1)) 15 (0 : Int32).toNatClampNeg 1)) 15 (1 : Int32).toNatClampNeg 1)) 15 (2 : Int32).toNatClampNeg 1) 37 [(3, .int (3 : Int32)), (0, .ref (gad (cG C) 14)), (1, .ref (gad (cG C) 2)), (2, .ref (gad (cG C) 8))] [.ref (gad (cG C) 25), .int (3 : Int32), .ref (gad (cG C) 15)]
  refine v_dup (pc := 37) hC rfl dX8_init_37 ?_
  refine vc_RX8_25 (n := 26) (pc := 38) hC (av := []) (rest := [.ref (gad (cG C) 25), .int (3 : Int32), .ref (gad (cG C) 15)]) (ci_X0_25 (d := d - 1) (by omega) (zs (n := 25) (m := 26) (zw (n := 25) (zi_X0_22 (n := 25) (zs (n := 23) (m := 25) (zs (n := 22) (m := 23) (zw (n := 22) (zi_X0_19 (n := 22) (zs (n := 20) (m := 22) (zs (n := 19) (m := 20) (zw (n := 19) (zi_X0_16 (n := 19) (zs (n := 17) (m := 19) (zs (n := 16) (m := 17) (zw (n := 16) (zw (n := 16) (zw (n := 16) (zs (n := 15) (m := 16) hZ (by decide)) (by decide)) (by decide)) (by decide)) (by decide)) (by decide)) (by decide)) (by decide)) (by decide)) (by decide)) (by decide)) (by decide)) (by decide)) (by decide)) (by decide)) (by decide)) (by decide))) rfl (by omega) (Nat.le_of_ble_eq_true rfl) rfl (by decide) rfl dX8_init_38 ?_
  show UI C 4 28 13 100 (i_X0_25 (wr (i_X0_22 (wr (i_X0_19 (wr (i_X0_16 (wr (wr (wr μ 14 0 1) 14 1 1) 14 2 1)) 15 (0 : Int32).toNatClampNeg 1)) 15 (1 : Int32).toNatClampNeg 1)) 15 (2 : Int32).toNatClampNeg 1)) 41 [(3, .int (3 : Int32)), (0, .ref (gad (cG C) 14)), (1, .ref (gad (cG C) 2)), (2, .ref (gad (cG C) 8))] [.ref (gad (cG C) 25), .int (3 : Int32), .ref (gad (cG C) 15)]
  refine v_aastD (pc := 41) hC (k := 15) (k2 := 25) (by decide) rfl (by decide) (by decide) rfl (by decide) dX8_init_41 ?_
  refine v_iinc (pc := 42) hC dX8_init_42 0 rfl (4 : Int32) (by decide) [(3, .int (4 : Int32)), (0, .ref (gad (cG C) 14)), (1, .ref (gad (cG C) 2)), (2, .ref (gad (cG C) 8))] (by decide) rfl ?_
  refine v_goto (pc := 45) hC 24 dX8_init_45 (by decide) ?_
  refine v_iload_n (pc := 24) hC dX8_init_24 rfl 0 rfl ?_
  refine v_iconst (pc := 25) hC (v := (4 : Int32)) (by decide) dX8_init_25 ?_
  refine v_icmp_ge (pc := 26) hC 48 dX8_init_26 (by decide) (fun _ => ?_) (fun q => absurd (by decide) q)
  exact v_ret (pc := 48) hC hQ hr rfl dX8_init_48
def i_X3_28 (μ : Mem) : Mem := wr (wr (wr μ 28 0 1) 28 1 1) 28 2 1
theorem zi_X3_28 {n : Nat} {μ : Mem} (h : Zr n μ) (hn : 32 ≤ n) : Zr n (i_X3_28 μ) := by unfold i_X3_28; exact (zw (zw (zw h (by omega)) (by omega)) (by omega))
theorem fi_X3_28 {μ : Mem} {k j : Nat} (hk : k < 28 ∨ 32 ≤ k) : rd (i_X3_28 μ) k j = rd μ k j := by unfold i_X3_28; rw [rdw_ne (by omega), rdw_ne (by omega), rdw_ne (by omega)]
theorem ff_X3_28 {μ : Mem} {k j : Nat} (hk : k < 28 ∨ 32 ≤ k) (h : ¬ rd μ k j = 0) : ¬ rd (i_X3_28 μ) k j = 0 := by rw [fi_X3_28 hk]; exact h
set_option maxHeartbeats 4000000 in
set_option maxRecDepth 100000 in
theorem ci_X3_28 {l : Launch} {G : GG} {d : Nat} (hd : 0 ≤ d) {μ : Mem} (hZ : Zr 29 μ) : CTI l yX3_init cX3_init 1 d G [.ref (gad G 28)] 29 μ 3 36 (i_X3_28 μ) := by
  refine cti_start (by decide) rfl (Nat.le_of_ble_eq_true rfl) (fun C hl1 hG1 hC hQ hr hmn => ?_)
  subst hl1; subst hG1
  have hC : CxI C cX3_init 1 RX3 d 29 3 36 := hC
  show UI C 1 29 0 0 μ 0 [(0, .ref (gad (cG C) 28))] []
  refine v_aload_n (pc := 0) hC dX3_init_0 rfl 0 rfl ?_
  refine v_objInit (pc := 1) hC mL_RX3_3 mM_O_init mB_O_init (Nat.le_of_ble_eq_true rfl) dX3_init_1 ?_
  refine v_aload_n (pc := 4) hC dX3_init_4 rfl 0 rfl ?_
  refine v_bipush (pc := 5) hC (v := (12 : Int32)) (by decide) dX3_init_5 ?_
  refine v_newaI (n := 29) (pc := 7) hC 12 mA_int (by decide) (by decide) (by decide) rfl rfl rfl hZ (by decide) dX3_init_7 ?_
  show UI C 1 30 1 12 μ 9 [(0, .ref (gad (cG C) 28))] [.ref (gad (cG C) 29), .ref (gad (cG C) 28)]
  refine vp_RX3_9 (pc := 9) hC hmn (k := 28) (by decide) rfl rfl dX3_init_9 ?_
  refine v_aload_n (pc := 12) hC dX3_init_12 rfl 0 rfl ?_
  refine v_bipush (pc := 13) hC (v := (12 : Int32)) (by decide) dX3_init_13 ?_
  refine v_newaI (n := 30) (pc := 15) hC 12 mA_int (by decide) (by decide) (by decide) rfl rfl rfl (zw (n := 30) (zs (n := 29) (m := 30) hZ (by decide)) (by decide)) (by decide) dX3_init_15 ?_
  show UI C 1 31 2 24 (wr μ 28 0 1) 17 [(0, .ref (gad (cG C) 28))] [.ref (gad (cG C) 30), .ref (gad (cG C) 28)]
  refine vp_RX3_15 (pc := 17) hC hmn (k := 28) (by decide) rfl rfl dX3_init_17 ?_
  refine v_aload_n (pc := 20) hC dX3_init_20 rfl 0 rfl ?_
  refine v_bipush (pc := 21) hC (v := (12 : Int32)) (by decide) dX3_init_21 ?_
  refine v_newaI (n := 31) (pc := 23) hC 12 mA_int (by decide) (by decide) (by decide) rfl rfl rfl (zw (n := 31) (zs (n := 30) (m := 31) (zw (n := 30) (zs (n := 29) (m := 30) hZ (by decide)) (by decide)) (by decide)) (by decide)) (by decide) dX3_init_23 ?_
  show UI C 1 32 3 36 (wr (wr μ 28 0 1) 28 1 1) 25 [(0, .ref (gad (cG C) 28))] [.ref (gad (cG C) 31), .ref (gad (cG C) 28)]
  refine vp_RX3_18 (pc := 25) hC hmn (k := 28) (by decide) rfl rfl dX3_init_25 ?_
  exact v_ret (pc := 28) hC hQ hr rfl dX3_init_28
def i_X7_32 (μ : Mem) : Mem := wr μ 32 0 1
theorem zi_X7_32 {n : Nat} {μ : Mem} (h : Zr n μ) (hn : 34 ≤ n) : Zr n (i_X7_32 μ) := by unfold i_X7_32; exact (zw h (by omega))
theorem fi_X7_32 {μ : Mem} {k j : Nat} (hk : k < 32 ∨ 34 ≤ k) : rd (i_X7_32 μ) k j = rd μ k j := by unfold i_X7_32; rw [rdw_ne (by omega)]
theorem ff_X7_32 {μ : Mem} {k j : Nat} (hk : k < 32 ∨ 34 ≤ k) (h : ¬ rd μ k j = 0) : ¬ rd (i_X7_32 μ) k j = 0 := by rw [fi_X7_32 hk]; exact h
set_option maxHeartbeats 4000000 in
set_option maxRecDepth 100000 in
theorem ci_X7_32 {l : Launch} {G : GG} {d : Nat} (hd : 0 ≤ d) {μ : Mem} (hZ : Zr 33 μ) : CTI l yX7_init cX7_init 1 d G [.ref (gad G 32)] 33 μ 1 50 (i_X7_32 μ) := by
  refine cti_start (by decide) rfl (Nat.le_of_ble_eq_true rfl) (fun C hl1 hG1 hC hQ hr hmn => ?_)
  subst hl1; subst hG1
  have hC : CxI C cX7_init 1 RX7 d 33 1 50 := hC
  show UI C 1 33 0 0 μ 0 [(0, .ref (gad (cG C) 32))] []
  refine v_aload_n (pc := 0) hC dX7_init_0 rfl 0 rfl ?_
  refine v_objInit (pc := 1) hC mL_RX7_3 mM_O_init mB_O_init (Nat.le_of_ble_eq_true rfl) dX7_init_1 ?_
  refine v_aload_n (pc := 4) hC dX7_init_4 rfl 0 rfl ?_
  refine v_bipush (pc := 5) hC (v := (50 : Int32)) (by decide) dX7_init_5 ?_
  refine v_newaI (n := 33) (pc := 7) hC 50 mA_int (by decide) (by decide) (by decide) rfl rfl rfl hZ (by decide) dX7_init_7 ?_
  show UI C 1 34 1 50 μ 9 [(0, .ref (gad (cG C) 32))] [.ref (gad (cG C) 33), .ref (gad (cG C) 32)]
  refine vp_RX7_9 (pc := 9) hC hmn (k := 32) (by decide) rfl rfl dX7_init_9 ?_
  exact v_ret (pc := 12) hC hQ hr rfl dX7_init_12
def i_X10_1 (μ : Mem) : Mem := wr (wr (wr (i_X7_32 (wr (i_X3_28 (wr (i_X8_14 (wr (i_X2_11 (wr (i_X2_8 (wr (i_X1_2 μ) 1 0 1)) 1 1 1)) 1 2 1)) 1 3 1)) 1 4 1)) 1 5 1) 1 6 1) 1 8 (1 : Int32)
theorem zi_X10_1 {n : Nat} {μ : Mem} (h : Zr n μ) (hn : 35 ≤ n) : Zr n (i_X10_1 μ) := by unfold i_X10_1; exact (zw (zw (zw (zi_X7_32 (zw (zi_X3_28 (zw (zi_X8_14 (zw (zi_X2_11 (zw (zi_X2_8 (zw (zi_X1_2 h (by omega)) (by omega)) (by omega)) (by omega)) (by omega)) (by omega)) (by omega)) (by omega)) (by omega)) (by omega)) (by omega)) (by omega)) (by omega)) (by omega))
theorem fi_X10_1 {μ : Mem} {k j : Nat} (hk : k < 1 ∨ 35 ≤ k) : rd (i_X10_1 μ) k j = rd μ k j := by unfold i_X10_1; rw [rdw_ne (by omega), rdw_ne (by omega), rdw_ne (by omega), fi_X7_32 (by omega), rdw_ne (by omega), fi_X3_28 (by omega), rdw_ne (by omega), fi_X8_14 (by omega), rdw_ne (by omega), fi_X2_11 (by omega), rdw_ne (by omega), fi_X2_8 (by omega), rdw_ne (by omega), fi_X1_2 (by omega)]
theorem ff_X10_1 {μ : Mem} {k j : Nat} (hk : k < 1 ∨ 35 ≤ k) (h : ¬ rd μ k j = 0) : ¬ rd (i_X10_1 μ) k j = 0 := by rw [fi_X10_1 hk]; exact h
set_option maxHeartbeats 4000000 in
set_option maxRecDepth 100000 in
theorem ci_X10_1 {l : Launch} {G : GG} {d : Nat} (hd : 2 ≤ d) {μ : Mem} (hZ : Zr 2 μ) : CTI l yX10_init cX10_init 1 d G [.ref (gad G 1)] 2 μ 33 471 (i_X10_1 μ) := by
  refine cti_start (by decide) rfl (Nat.le_of_ble_eq_true rfl) (fun C hl1 hG1 hC hQ hr hmn => ?_)
  subst hl1; subst hG1
  have hC : CxI C cX10_init 1 RX10 d 2 33 471 := hC
  show UI C 1 2 0 0 μ 0 [(0, .ref (gad (cG C) 1))] []
  refine v_aload_n (pc := 0) hC dX10_init_0 rfl 0 rfl ?_
  refine v_objInit (pc := 1) hC mL_RX10_3 mM_O_init mB_O_init (Nat.le_of_ble_eq_true rfl) dX10_init_1 ?_
  refine v_aload_n (pc := 4) hC dX10_init_4 rfl 0 rfl ?_
  refine vn_RX10_9 (n := 2) (pc := 5) hC rfl rfl hZ (by decide) dX10_init_5 ?_
  show UI C 1 3 1 6 μ 8 [(0, .ref (gad (cG C) 1))] [.ref (gad (cG C) 2), .ref (gad (cG C) 1)]
  refine v_dup (pc := 8) hC rfl dX10_init_8 ?_
  refine vc_RX10_11 (n := 3) (pc := 9) hC (av := []) (rest := [.ref (gad (cG C) 2), .ref (gad (cG C) 1)]) (ci_X1_2 (d := d - 1) (by omega) (zs (n := 2) (m := 3) hZ (by decide))) rfl (by omega) (Nat.le_of_ble_eq_true rfl) rfl (by decide) rfl dX10_init_9 ?_
  show UI C 1 8 6 46 (i_X1_2 μ) 12 [(0, .ref (gad (cG C) 1))] [.ref (gad (cG C) 2), .ref (gad (cG C) 1)]
  refine vp_RX10_12 (pc := 12) hC hmn (k := 1) (by decide) rfl rfl dX10_init_12 ?_
  refine v_aload_n (pc := 15) hC dX10_init_15 rfl 0 rfl ?_
  refine vn_RX10_18 (n := 8) (pc := 16) hC rfl rfl (zw (n := 8) (zi_X1_2 (n := 8) (zs (n := 3) (m := 8) (zs (n := 2) (m := 3) hZ (by decide)) (by decide)) (by decide)) (by decide)) (by decide) dX10_init_16 ?_
  show UI C 1 9 7 50 (wr (i_X1_2 μ) 1 0 1) 19 [(0, .ref (gad (cG C) 1))] [.ref (gad (cG C) 8), .ref (gad (cG C) 1)]
  refine v_dup (pc := 19) hC rfl dX10_init_19 ?_
  refine v_iconst (pc := 20) hC (v := (0 : Int32)) (by decide) dX10_init_20 ?_
  refine vc_RX10_20 (n := 9) (pc := 21) hC (av := [.int (0 : Int32)]) (rest := [.ref (gad (cG C) 8), .ref (gad (cG C) 1)]) (ci_X2_8 (d := d - 1) (by omega) (zs (n := 8) (m := 9) (zw (n := 8) (zi_X1_2 (n := 8) (zs (n := 3) (m := 8) (zs (n := 2) (m := 3) hZ (by decide)) (by decide)) (by decide)) (by decide)) (by decide))) rfl (by omega) (Nat.le_of_ble_eq_true rfl) rfl (by decide) rfl dX10_init_21 ?_
  show UI C 1 11 9 150 (i_X2_8 (wr (i_X1_2 μ) 1 0 1)) 24 [(0, .ref (gad (cG C) 1))] [.ref (gad (cG C) 8), .ref (gad (cG C) 1)]
  refine vp_RX10_23 (pc := 24) hC hmn (k := 1) (by decide) rfl rfl dX10_init_24 ?_
  refine v_aload_n (pc := 27) hC dX10_init_27 rfl 0 rfl ?_
  refine vn_RX10_18 (n := 11) (pc := 28) hC rfl rfl (zw (n := 11) (zi_X2_8 (n := 11) (zs (n := 9) (m := 11) (zs (n := 8) (m := 9) (zw (n := 8) (zi_X1_2 (n := 8) (zs (n := 3) (m := 8) (zs (n := 2) (m := 3) hZ (by decide)) (by decide)) (by decide)) (by decide)) (by decide)) (by decide)) (by decide)) (by decide)) (by decide) dX10_init_28 ?_
  show UI C 1 12 10 154 (wr (i_X2_8 (wr (i_X1_2 μ) 1 0 1)) 1 1 1) 31 [(0, .ref (gad (cG C) 1))] [.ref (gad (cG C) 11), .ref (gad (cG C) 1)]
  refine v_dup (pc := 31) hC rfl dX10_init_31 ?_
  refine v_iconst (pc := 32) hC (v := (1 : Int32)) (by decide) dX10_init_32 ?_
  refine vc_RX10_20 (n := 12) (pc := 33) hC (av := [.int (1 : Int32)]) (rest := [.ref (gad (cG C) 11), .ref (gad (cG C) 1)]) (ci_X2_11 (d := d - 1) (by omega) (zs (n := 11) (m := 12) (zw (n := 11) (zi_X2_8 (n := 11) (zs (n := 9) (m := 11) (zs (n := 8) (m := 9) (zw (n := 8) (zi_X1_2 (n := 8) (zs (n := 3) (m := 8) (zs (n := 2) (m := 3) hZ (by decide)) (by decide)) (by decide)) (by decide)) (by decide)) (by decide)) (by decide)) (by decide)) (by decide))) rfl (by omega) (Nat.le_of_ble_eq_true rfl) rfl (by decide) rfl dX10_init_33 ?_
  show UI C 1 14 12 254 (i_X2_11 (wr (i_X2_8 (wr (i_X1_2 μ) 1 0 1)) 1 1 1)) 36 [(0, .ref (gad (cG C) 1))] [.ref (gad (cG C) 11), .ref (gad (cG C) 1)]
  refine vp_RX10_27 (pc := 36) hC hmn (k := 1) (by decide) rfl rfl dX10_init_36 ?_
  refine v_aload_n (pc := 39) hC dX10_init_39 rfl 0 rfl ?_
  refine vn_RX10_30 (n := 14) (pc := 40) hC rfl rfl (zw (n := 14) (zi_X2_11 (n := 14) (zs (n := 12) (m := 14) (zs (n := 11) (m := 12) (zw (n := 11) (zi_X2_8 (n := 11) (zs (n := 9) (m := 11) (zs (n := 8) (m := 9) (zw (n := 8) (zi_X1_2 (n := 8) (zs (n := 3) (m := 8) (zs (n := 2) (m := 3) hZ (by decide)) (by decide)) (by decide)) (by decide)) (by decide)) (by decide)) (by decide)) (by decide)) (by decide)) (by decide)) (by decide)) (by decide)) (by decide) dX10_init_40 ?_
  show UI C 1 15 13 259 (wr (i_X2_11 (wr (i_X2_8 (wr (i_X1_2 μ) 1 0 1)) 1 1 1)) 1 2 1) 43 [(0, .ref (gad (cG C) 1))] [.ref (gad (cG C) 14), .ref (gad (cG C) 1)]
  refine v_dup (pc := 43) hC rfl dX10_init_43 ?_
  refine v_aload_n (pc := 44) hC dX10_init_44 rfl 0 rfl ?_
  refine vg_RX10_12 (pc := 45) hC (k := 1) 2 (by decide) rfl rfl (fl_n (by decide) (ff_X2_11 (by decide) (fl_n (by decide) (ff_X2_8 (by decide) (fl_w (by decide)))))) dX10_init_45 ?_
  refine v_aload_n (pc := 48) hC dX10_init_48 rfl 0 rfl ?_
  refine vg_RX10_23 (pc := 49) hC (k := 1) 8 (by decide) rfl rfl (fl_n (by decide) (ff_X2_11 (by decide) (fl_w (by decide)))) dX10_init_49 ?_
  refine vc_RX10_32 (n := 15) (pc := 52) hC (av := [.ref (gad (cG C) 2), .ref (gad (cG C) 8)]) (rest := [.ref (gad (cG C) 14), .ref (gad (cG C) 1)]) (ci_X8_14 (d := d - 1) (by omega) (zs (n := 14) (m := 15) (zw (n := 14) (zi_X2_11 (n := 14) (zs (n := 12) (m := 14) (zs (n := 11) (m := 12) (zw (n := 11) (zi_X2_8 (n := 11) (zs (n := 9) (m := 11) (zs (n := 8) (m := 9) (zw (n := 8) (zi_X1_2 (n := 8) (zs (n := 3) (m := 8) (zs (n := 2) (m := 3) hZ (by decide)) (by decide)) (by decide)) (by decide)) (by decide)) (by decide)) (by decide)) (by decide)) (by decide)) (by decide)) (by decide)) (by decide)) (by decide))) rfl (by omega) (Nat.le_of_ble_eq_true rfl) rfl (by decide) rfl dX10_init_52 ?_
  show UI C 1 28 26 359 (i_X8_14 (wr (i_X2_11 (wr (i_X2_8 (wr (i_X1_2 μ) 1 0 1)) 1 1 1)) 1 2 1)) 55 [(0, .ref (gad (cG C) 1))] [.ref (gad (cG C) 14), .ref (gad (cG C) 1)]
  refine vp_RX10_35 (pc := 55) hC hmn (k := 1) (by decide) rfl rfl dX10_init_55 ?_
  refine v_aload_n (pc := 58) hC dX10_init_58 rfl 0 rfl ?_
  refine vn_RX10_39 (n := 28) (pc := 59) hC rfl rfl (zw (n := 28) (zi_X8_14 (n := 28) (zs (n := 15) (m := 28) (zs (n := 14) (m := 15) (zw (n := 14) (zi_X2_11 (n := 14) (zs (n := 12) (m := 14) (zs (n := 11) (m := 12) (zw (n := 11) (zi_X2_8 (n := 11) (zs (n := 9) (m := 11) (zs (n := 8) (m := 9) (zw (n := 8) (zi_X1_2 (n := 8) (zs (n := 3) (m := 8) (zs (n := 2) (m := 3) hZ (by decide)) (by decide)) (by decide)) (by decide)) (by decide)) (by decide)) (by decide)) (by decide)) (by decide)) (by decide)) (by decide)) (by decide)) (by decide)) (by decide)) (by decide)) (by decide)) (by decide) dX10_init_59 ?_
  show UI C 1 29 27 363 (wr (i_X8_14 (wr (i_X2_11 (wr (i_X2_8 (wr (i_X1_2 μ) 1 0 1)) 1 1 1)) 1 2 1)) 1 3 1) 62 [(0, .ref (gad (cG C) 1))] [.ref (gad (cG C) 28), .ref (gad (cG C) 1)]
  refine v_dup (pc := 62) hC rfl dX10_init_62 ?_
  refine vc_RX10_41 (n := 29) (pc := 63) hC (av := []) (rest := [.ref (gad (cG C) 28), .ref (gad (cG C) 1)]) (ci_X3_28 (d := d - 1) (by omega) (zs (n := 28) (m := 29) (zw (n := 28) (zi_X8_14 (n := 28) (zs (n := 15) (m := 28) (zs (n := 14) (m := 15) (zw (n := 14) (zi_X2_11 (n := 14) (zs (n := 12) (m := 14) (zs (n := 11) (m := 12) (zw (n := 11) (zi_X2_8 (n := 11) (zs (n := 9) (m := 11) (zs (n := 8) (m := 9) (zw (n := 8) (zi_X1_2 (n := 8) (zs (n := 3) (m := 8) (zs (n := 2) (m := 3) hZ (by decide)) (by decide)) (by decide)) (by decide)) (by decide)) (by decide)) (by decide)) (by decide)) (by decide)) (by decide)) (by decide)) (by decide)) (by decide)) (by decide)) (by decide)) (by decide)) (by decide))) rfl (by omega) (Nat.le_of_ble_eq_true rfl) rfl (by decide) rfl dX10_init_63 ?_
  show UI C 1 32 30 399 (i_X3_28 (wr (i_X8_14 (wr (i_X2_11 (wr (i_X2_8 (wr (i_X1_2 μ) 1 0 1)) 1 1 1)) 1 2 1)) 1 3 1)) 66 [(0, .ref (gad (cG C) 1))] [.ref (gad (cG C) 28), .ref (gad (cG C) 1)]
  refine vp_RX10_42 (pc := 66) hC hmn (k := 1) (by decide) rfl rfl dX10_init_66 ?_
  refine v_aload_n (pc := 69) hC dX10_init_69 rfl 0 rfl ?_
  refine vn_RX10_46 (n := 32) (pc := 70) hC rfl rfl (zw (n := 32) (zi_X3_28 (n := 32) (zs (n := 29) (m := 32) (zs (n := 28) (m := 29) (zw (n := 28) (zi_X8_14 (n := 28) (zs (n := 15) (m := 28) (zs (n := 14) (m := 15) (zw (n := 14) (zi_X2_11 (n := 14) (zs (n := 12) (m := 14) (zs (n := 11) (m := 12) (zw (n := 11) (zi_X2_8 (n := 11) (zs (n := 9) (m := 11) (zs (n := 8) (m := 9) (zw (n := 8) (zi_X1_2 (n := 8) (zs (n := 3) (m := 8) (zs (n := 2) (m := 3) hZ (by decide)) (by decide)) (by decide)) (by decide)) (by decide)) (by decide)) (by decide)) (by decide)) (by decide)) (by decide)) (by decide)) (by decide)) (by decide)) (by decide)) (by decide)) (by decide)) (by decide)) (by decide)) (by decide)) (by decide)) (by decide) dX10_init_70 ?_
  show UI C 1 33 31 401 (wr (i_X3_28 (wr (i_X8_14 (wr (i_X2_11 (wr (i_X2_8 (wr (i_X1_2 μ) 1 0 1)) 1 1 1)) 1 2 1)) 1 3 1)) 1 4 1) 73 [(0, .ref (gad (cG C) 1))] [.ref (gad (cG C) 32), .ref (gad (cG C) 1)]
  refine v_dup (pc := 73) hC rfl dX10_init_73 ?_
  refine vc_RX10_48 (n := 33) (pc := 74) hC (av := []) (rest := [.ref (gad (cG C) 32), .ref (gad (cG C) 1)]) (ci_X7_32 (d := d - 1) (by omega) (zs (n := 32) (m := 33) (zw (n := 32) (zi_X3_28 (n := 32) (zs (n := 29) (m := 32) (zs (n := 28) (m := 29) (zw (n := 28) (zi_X8_14 (n := 28) (zs (n := 15) (m := 28) (zs (n := 14) (m := 15) (zw (n := 14) (zi_X2_11 (n := 14) (zs (n := 12) (m := 14) (zs (n := 11) (m := 12) (zw (n := 11) (zi_X2_8 (n := 11) (zs (n := 9) (m := 11) (zs (n := 8) (m := 9) (zw (n := 8) (zi_X1_2 (n := 8) (zs (n := 3) (m := 8) (zs (n := 2) (m := 3) hZ (by decide)) (by decide)) (by decide)) (by decide)) (by decide)) (by decide)) (by decide)) (by decide)) (by decide)) (by decide)) (by decide)) (by decide)) (by decide)) (by decide)) (by decide)) (by decide)) (by decide)) (by decide)) (by decide)) (by decide)) (by decide))) rfl (by omega) (Nat.le_of_ble_eq_true rfl) rfl (by decide) rfl dX10_init_74 ?_
  show UI C 1 34 32 451 (i_X7_32 (wr (i_X3_28 (wr (i_X8_14 (wr (i_X2_11 (wr (i_X2_8 (wr (i_X1_2 μ) 1 0 1)) 1 1 1)) 1 2 1)) 1 3 1)) 1 4 1)) 77 [(0, .ref (gad (cG C) 1))] [.ref (gad (cG C) 32), .ref (gad (cG C) 1)]
  refine vp_RX10_49 (pc := 77) hC hmn (k := 1) (by decide) rfl rfl dX10_init_77 ?_
  refine v_aload_n (pc := 80) hC dX10_init_80 rfl 0 rfl ?_
  refine v_bipush (pc := 81) hC (v := (20 : Int32)) (by decide) dX10_init_81 ?_
  refine v_newaI (n := 34) (pc := 83) hC 20 mA_int (by decide) (by decide) (by decide) rfl rfl rfl (zw (n := 34) (zi_X7_32 (n := 34) (zs (n := 33) (m := 34) (zs (n := 32) (m := 33) (zw (n := 32) (zi_X3_28 (n := 32) (zs (n := 29) (m := 32) (zs (n := 28) (m := 29) (zw (n := 28) (zi_X8_14 (n := 28) (zs (n := 15) (m := 28) (zs (n := 14) (m := 15) (zw (n := 14) (zi_X2_11 (n := 14) (zs (n := 12) (m := 14) (zs (n := 11) (m := 12) (zw (n := 11) (zi_X2_8 (n := 11) (zs (n := 9) (m := 11) (zs (n := 8) (m := 9) (zw (n := 8) (zi_X1_2 (n := 8) (zs (n := 3) (m := 8) (zs (n := 2) (m := 3) hZ (by decide)) (by decide)) (by decide)) (by decide)) (by decide)) (by decide)) (by decide)) (by decide)) (by decide)) (by decide)) (by decide)) (by decide)) (by decide)) (by decide)) (by decide)) (by decide)) (by decide)) (by decide)) (by decide)) (by decide)) (by decide)) (by decide)) (by decide)) (by decide)) (by decide) dX10_init_83 ?_
  show UI C 1 35 33 471 (wr (i_X7_32 (wr (i_X3_28 (wr (i_X8_14 (wr (i_X2_11 (wr (i_X2_8 (wr (i_X1_2 μ) 1 0 1)) 1 1 1)) 1 2 1)) 1 3 1)) 1 4 1)) 1 5 1) 85 [(0, .ref (gad (cG C) 1))] [.ref (gad (cG C) 34), .ref (gad (cG C) 1)]
  refine vp_RX10_53 (pc := 85) hC hmn (k := 1) (by decide) rfl rfl dX10_init_85 ?_
  refine v_aload_n (pc := 88) hC dX10_init_88 rfl 0 rfl ?_
  refine v_iconst (pc := 89) hC (v := (1 : Int32)) (by decide) dX10_init_89 ?_
  refine vp_RX10_57 (pc := 90) hC (k := 1) (by decide) rfl dX10_init_90 ?_
  exact v_ret (pc := 93) hC hQ hr rfl dX10_init_93
def i_X1_36 (μ : Mem) : Mem := wr (wr (wr (wr (wr μ 36 0 1) 36 1 1) 36 2 1) 36 3 1) 36 4 1
theorem zi_X1_36 {n : Nat} {μ : Mem} (h : Zr n μ) (hn : 42 ≤ n) : Zr n (i_X1_36 μ) := by unfold i_X1_36; exact (zw (zw (zw (zw (zw h (by omega)) (by omega)) (by omega)) (by omega)) (by omega))
theorem fi_X1_36 {μ : Mem} {k j : Nat} (hk : k < 36 ∨ 42 ≤ k) : rd (i_X1_36 μ) k j = rd μ k j := by unfold i_X1_36; rw [rdw_ne (by omega), rdw_ne (by omega), rdw_ne (by omega), rdw_ne (by omega), rdw_ne (by omega)]
theorem ff_X1_36 {μ : Mem} {k j : Nat} (hk : k < 36 ∨ 42 ≤ k) (h : ¬ rd μ k j = 0) : ¬ rd (i_X1_36 μ) k j = 0 := by rw [fi_X1_36 hk]; exact h
set_option maxHeartbeats 4000000 in
set_option maxRecDepth 100000 in
theorem ci_X1_36 {l : Launch} {G : GG} {d : Nat} (hd : 0 ≤ d) {μ : Mem} (hZ : Zr 37 μ) : CTI l yX1_init cX1_init 1 d G [.ref (gad G 36)] 37 μ 5 40 (i_X1_36 μ) := by
  refine cti_start (by decide) rfl (Nat.le_of_ble_eq_true rfl) (fun C hl1 hG1 hC hQ hr hmn => ?_)
  subst hl1; subst hG1
  have hC : CxI C cX1_init 1 RX1 d 37 5 40 := hC
  show UI C 1 37 0 0 μ 0 [(0, .ref (gad (cG C) 36))] []
  refine v_aload_n (pc := 0) hC dX1_init_0 rfl 0 rfl ?_
  refine v_objInit (pc := 1) hC mL_RX1_3 mM_O_init mB_O_init (Nat.le_of_ble_eq_true rfl) dX1_init_1 ?_
  refine v_aload_n (pc := 4) hC dX1_init_4 rfl 0 rfl ?_
  refine v_bipush (pc := 5) hC (v := (8 : Int32)) (by decide) dX1_init_5 ?_
  refine v_newaI (n := 37) (pc := 7) hC 8 mA_int (by decide) (by decide) (by decide) rfl rfl rfl hZ (by decide) dX1_init_7 ?_
  show UI C 1 38 1 8 μ 9 [(0, .ref (gad (cG C) 36))] [.ref (gad (cG C) 37), .ref (gad (cG C) 36)]
  refine vp_RX1_9 (pc := 9) hC hmn (k := 36) (by decide) rfl rfl dX1_init_9 ?_
  refine v_aload_n (pc := 12) hC dX1_init_12 rfl 0 rfl ?_
  refine v_bipush (pc := 13) hC (v := (8 : Int32)) (by decide) dX1_init_13 ?_
  refine v_newaI (n := 38) (pc := 15) hC 8 mA_int (by decide) (by decide) (by decide) rfl rfl rfl (zw (n := 38) (zs (n := 37) (m := 38) hZ (by decide)) (by decide)) (by decide) dX1_init_15 ?_
  show UI C 1 39 2 16 (wr μ 36 0 1) 17 [(0, .ref (gad (cG C) 36))] [.ref (gad (cG C) 38), .ref (gad (cG C) 36)]
  refine vp_RX1_15 (pc := 17) hC hmn (k := 36) (by decide) rfl rfl dX1_init_17 ?_
  refine v_aload_n (pc := 20) hC dX1_init_20 rfl 0 rfl ?_
  refine v_bipush (pc := 21) hC (v := (8 : Int32)) (by decide) dX1_init_21 ?_
  refine v_newaI (n := 39) (pc := 23) hC 8 mA_int (by decide) (by decide) (by decide) rfl rfl rfl (zw (n := 39) (zs (n := 38) (m := 39) (zw (n := 38) (zs (n := 37) (m := 38) hZ (by decide)) (by decide)) (by decide)) (by decide)) (by decide) dX1_init_23 ?_
  show UI C 1 40 3 24 (wr (wr μ 36 0 1) 36 1 1) 25 [(0, .ref (gad (cG C) 36))] [.ref (gad (cG C) 39), .ref (gad (cG C) 36)]
  refine vp_RX1_18 (pc := 25) hC hmn (k := 36) (by decide) rfl rfl dX1_init_25 ?_
  refine v_aload_n (pc := 28) hC dX1_init_28 rfl 0 rfl ?_
  refine v_bipush (pc := 29) hC (v := (8 : Int32)) (by decide) dX1_init_29 ?_
  refine v_newaI (n := 40) (pc := 31) hC 8 mA_int (by decide) (by decide) (by decide) rfl rfl rfl (zw (n := 40) (zs (n := 39) (m := 40) (zw (n := 39) (zs (n := 38) (m := 39) (zw (n := 38) (zs (n := 37) (m := 38) hZ (by decide)) (by decide)) (by decide)) (by decide)) (by decide)) (by decide)) (by decide) dX1_init_31 ?_
  show UI C 1 41 4 32 (wr (wr (wr μ 36 0 1) 36 1 1) 36 2 1) 33 [(0, .ref (gad (cG C) 36))] [.ref (gad (cG C) 40), .ref (gad (cG C) 36)]
  refine vp_RX1_21 (pc := 33) hC hmn (k := 36) (by decide) rfl rfl dX1_init_33 ?_
  refine v_aload_n (pc := 36) hC dX1_init_36 rfl 0 rfl ?_
  refine v_bipush (pc := 37) hC (v := (8 : Int32)) (by decide) dX1_init_37 ?_
  refine v_newaI (n := 41) (pc := 39) hC 8 mA_int (by decide) (by decide) (by decide) rfl rfl rfl (zw (n := 41) (zs (n := 40) (m := 41) (zw (n := 40) (zs (n := 39) (m := 40) (zw (n := 39) (zs (n := 38) (m := 39) (zw (n := 38) (zs (n := 37) (m := 38) hZ (by decide)) (by decide)) (by decide)) (by decide)) (by decide)) (by decide)) (by decide)) (by decide)) (by decide) dX1_init_39 ?_
  show UI C 1 42 5 40 (wr (wr (wr (wr μ 36 0 1) 36 1 1) 36 2 1) 36 3 1) 41 [(0, .ref (gad (cG C) 36))] [.ref (gad (cG C) 41), .ref (gad (cG C) 36)]
  refine vp_RX1_24 (pc := 41) hC hmn (k := 36) (by decide) rfl rfl dX1_init_41 ?_
  exact v_ret (pc := 44) hC hQ hr rfl dX1_init_44
def i_X2_42 (μ : Mem) : Mem := cpS (wr (wr (wr (wr μ 42 0 1) 42 1 1) 42 2 (0 : Int32)) 42 3 (1 : Int32)) 43 2 1
theorem zi_X2_42 {n : Nat} {μ : Mem} (h : Zr n μ) (hn : 45 ≤ n) : Zr n (i_X2_42 μ) := by unfold i_X2_42; exact (zc (zw (zw (zw (zw h (by omega)) (by omega)) (by omega)) (by omega)) (by omega))
theorem fi_X2_42 {μ : Mem} {k j : Nat} (hk : k < 42 ∨ 45 ≤ k) : rd (i_X2_42 μ) k j = rd μ k j := by unfold i_X2_42; rw [rdc_ne (by omega), rdw_ne (by omega), rdw_ne (by omega), rdw_ne (by omega), rdw_ne (by omega)]
theorem ff_X2_42 {μ : Mem} {k j : Nat} (hk : k < 42 ∨ 45 ≤ k) (h : ¬ rd μ k j = 0) : ¬ rd (i_X2_42 μ) k j = 0 := by rw [fi_X2_42 hk]; exact h
set_option maxHeartbeats 4000000 in
set_option maxRecDepth 100000 in
theorem ci_X2_42 {l : Launch} {G : GG} {d : Nat} (hd : 0 ≤ d) {μ : Mem} (hZ : Zr 43 μ) : CTI l yX2_init cX2_init 3 d G [.ref (gad G 42), .int (0 : Int32)] 43 μ 2 100 (i_X2_42 μ) := by
  refine cti_start (by decide) rfl (Nat.le_of_ble_eq_true rfl) (fun C hl1 hG1 hC hQ hr hmn => ?_)
  subst hl1; subst hG1
  have hC : CxI C cX2_init 3 RX2 d 43 2 100 := hC
  show UI C 3 43 0 0 μ 0 [(0, .ref (gad (cG C) 42)), (1, .int (0 : Int32))] []
  refine v_aload_n (pc := 0) hC dX2_init_0 rfl 0 rfl ?_
  refine v_objInit (pc := 1) hC mL_RX2_3 mM_O_init mB_O_init (Nat.le_of_ble_eq_true rfl) dX2_init_1 ?_
  refine v_aload_n (pc := 4) hC dX2_init_4 rfl 0 rfl ?_
  refine v_bipush (pc := 5) hC (v := (50 : Int32)) (by decide) dX2_init_5 ?_
  refine v_newaI (n := 43) (pc := 7) hC 50 mA_int (by decide) (by decide) (by decide) rfl rfl rfl hZ (by decide) dX2_init_7 ?_
  show UI C 3 44 1 50 μ 9 [(0, .ref (gad (cG C) 42)), (1, .int (0 : Int32))] [.ref (gad (cG C) 43), .ref (gad (cG C) 42)]
  refine vp_RX2_9 (pc := 9) hC hmn (k := 42) (by decide) rfl rfl dX2_init_9 ?_
  refine v_aload_n (pc := 12) hC dX2_init_12 rfl 0 rfl ?_
  refine v_bipush (pc := 13) hC (v := (50 : Int32)) (by decide) dX2_init_13 ?_
  refine v_newaI (n := 44) (pc := 15) hC 50 mA_int (by decide) (by decide) (by decide) rfl rfl rfl (zw (n := 44) (zs (n := 43) (m := 44) hZ (by decide)) (by decide)) (by decide) dX2_init_15 ?_
  show UI C 3 45 2 100 (wr μ 42 0 1) 17 [(0, .ref (gad (cG C) 42)), (1, .int (0 : Int32))] [.ref (gad (cG C) 44), .ref (gad (cG C) 42)]
  refine vp_RX2_15 (pc := 17) hC hmn (k := 42) (by decide) rfl rfl dX2_init_17 ?_
  refine v_iload_n (pc := 20) hC dX2_init_20 rfl 1 rfl ?_
  refine v_if_ne (pc := 21) hC 30 dX2_init_21 (by decide) (fun q => absurd rfl q) (fun _ => ?_)
  refine v_gets2 (pc := 24) hC rfl dX2_init_24 ?_
  refine v_goto (pc := 27) hC 33 dX2_init_27 (by decide) ?_
  refine v_astore_n (pc := 33) hC dX2_init_33 rfl [(2, .ref (gsa (cG C) 2)), (0, .ref (gad (cG C) 42)), (1, .int (0 : Int32))] (by decide) rfl ?_
  refine v_aload_n (pc := 34) hC dX2_init_34 rfl 1 rfl ?_
  refine v_iload_n (pc := 35) hC dX2_init_35 rfl 2 rfl ?_
  refine v_if_ne (pc := 36) hC 43 dX2_init_36 (by decide) (fun q => absurd rfl q) (fun _ => ?_)
  refine v_iconst (pc := 39) hC (v := (0 : Int32)) (by decide) dX2_init_39 ?_
  refine v_goto (pc := 40) hC 46 dX2_init_40 (by decide) ?_
  refine vp_RX2_24 (pc := 46) hC hmn (k := 42) (by decide) rfl dX2_init_46 ?_
  refine v_aload_n (pc := 49) hC dX2_init_49 rfl 1 rfl ?_
  refine v_aload_n (pc := 50) hC dX2_init_50 rfl 0 rfl ?_
  refine v_tlen2 (pc := 51) hC dX2_init_51 ?_
  refine vp_RX2_28 (pc := 52) hC (k := 42) (by decide) rfl dX2_init_52 ?_
  refine v_aload_n (pc := 55) hC dX2_init_55 rfl 0 rfl ?_
  refine v_iconst (pc := 56) hC (v := (0 : Int32)) (by decide) dX2_init_56 ?_
  refine v_aload_n (pc := 57) hC dX2_init_57 rfl 1 rfl ?_
  refine vg_RX2_9 (pc := 58) hC (k := 42) 43 (by decide) rfl rfl (fl_n (by decide) (fl_n (by decide) (fl_n (by decide) (fl_w (by decide))))) dX2_init_58 ?_
  refine v_iconst (pc := 61) hC (v := (0 : Int32)) (by decide) dX2_init_61 ?_
  refine v_aload_n (pc := 62) hC dX2_init_62 rfl 0 rfl ?_
  refine v_tlen2 (pc := 63) hC dX2_init_63 ?_
  refine v_copyT2 (pc := 64) hC mL_RX2_31 mN_O_arraycopy mK_O_arraycopy mI_RJ10 (k := 43) (by decide) rfl (by decide) (Nat.le_of_ble_eq_true rfl) dX2_init_64 ?_
  exact v_ret (pc := 67) hC hQ hr rfl dX2_init_67
def i_X2_45 (μ : Mem) : Mem := cpS (wr (wr (wr (wr μ 45 0 1) 45 1 1) 45 2 (-999 : Int32)) 45 3 (9 : Int32)) 46 3 9
theorem zi_X2_45 {n : Nat} {μ : Mem} (h : Zr n μ) (hn : 48 ≤ n) : Zr n (i_X2_45 μ) := by unfold i_X2_45; exact (zc (zw (zw (zw (zw h (by omega)) (by omega)) (by omega)) (by omega)) (by omega))
theorem fi_X2_45 {μ : Mem} {k j : Nat} (hk : k < 45 ∨ 48 ≤ k) : rd (i_X2_45 μ) k j = rd μ k j := by unfold i_X2_45; rw [rdc_ne (by omega), rdw_ne (by omega), rdw_ne (by omega), rdw_ne (by omega), rdw_ne (by omega)]
theorem ff_X2_45 {μ : Mem} {k j : Nat} (hk : k < 45 ∨ 48 ≤ k) (h : ¬ rd μ k j = 0) : ¬ rd (i_X2_45 μ) k j = 0 := by rw [fi_X2_45 hk]; exact h
set_option maxHeartbeats 4000000 in
set_option maxRecDepth 100000 in
theorem ci_X2_45 {l : Launch} {G : GG} {d : Nat} (hd : 0 ≤ d) {μ : Mem} (hZ : Zr 46 μ) : CTI l yX2_init cX2_init 3 d G [.ref (gad G 45), .int (1 : Int32)] 46 μ 2 100 (i_X2_45 μ) := by
  refine cti_start (by decide) rfl (Nat.le_of_ble_eq_true rfl) (fun C hl1 hG1 hC hQ hr hmn => ?_)
  subst hl1; subst hG1
  have hC : CxI C cX2_init 3 RX2 d 46 2 100 := hC
  show UI C 3 46 0 0 μ 0 [(0, .ref (gad (cG C) 45)), (1, .int (1 : Int32))] []
  refine v_aload_n (pc := 0) hC dX2_init_0 rfl 0 rfl ?_
  refine v_objInit (pc := 1) hC mL_RX2_3 mM_O_init mB_O_init (Nat.le_of_ble_eq_true rfl) dX2_init_1 ?_
  refine v_aload_n (pc := 4) hC dX2_init_4 rfl 0 rfl ?_
  refine v_bipush (pc := 5) hC (v := (50 : Int32)) (by decide) dX2_init_5 ?_
  refine v_newaI (n := 46) (pc := 7) hC 50 mA_int (by decide) (by decide) (by decide) rfl rfl rfl hZ (by decide) dX2_init_7 ?_
  show UI C 3 47 1 50 μ 9 [(0, .ref (gad (cG C) 45)), (1, .int (1 : Int32))] [.ref (gad (cG C) 46), .ref (gad (cG C) 45)]
  refine vp_RX2_9 (pc := 9) hC hmn (k := 45) (by decide) rfl rfl dX2_init_9 ?_
  refine v_aload_n (pc := 12) hC dX2_init_12 rfl 0 rfl ?_
  refine v_bipush (pc := 13) hC (v := (50 : Int32)) (by decide) dX2_init_13 ?_
  refine v_newaI (n := 47) (pc := 15) hC 50 mA_int (by decide) (by decide) (by decide) rfl rfl rfl (zw (n := 47) (zs (n := 46) (m := 47) hZ (by decide)) (by decide)) (by decide) dX2_init_15 ?_
  show UI C 3 48 2 100 (wr μ 45 0 1) 17 [(0, .ref (gad (cG C) 45)), (1, .int (1 : Int32))] [.ref (gad (cG C) 47), .ref (gad (cG C) 45)]
  refine vp_RX2_15 (pc := 17) hC hmn (k := 45) (by decide) rfl rfl dX2_init_17 ?_
  refine v_iload_n (pc := 20) hC dX2_init_20 rfl 1 rfl ?_
  refine v_if_ne (pc := 21) hC 30 dX2_init_21 (by decide) (fun _ => ?_) (fun q => absurd q (by decide))
  refine v_gets3 (pc := 30) hC rfl dX2_init_30 ?_
  refine v_astore_n (pc := 33) hC dX2_init_33 rfl [(2, .ref (gsa (cG C) 3)), (0, .ref (gad (cG C) 45)), (1, .int (1 : Int32))] (by decide) rfl ?_
  refine v_aload_n (pc := 34) hC dX2_init_34 rfl 1 rfl ?_
  refine v_iload_n (pc := 35) hC dX2_init_35 rfl 2 rfl ?_
  refine v_if_ne (pc := 36) hC 43 dX2_init_36 (by decide) (fun _ => ?_) (fun q => absurd q (by decide))
  refine v_sipush (pc := 43) hC (v := (-999 : Int32)) (by decide) dX2_init_43 ?_
  refine vp_RX2_24 (pc := 46) hC hmn (k := 45) (by decide) rfl dX2_init_46 ?_
  refine v_aload_n (pc := 49) hC dX2_init_49 rfl 1 rfl ?_
  refine v_aload_n (pc := 50) hC dX2_init_50 rfl 0 rfl ?_
  refine v_tlen3 (pc := 51) hC dX2_init_51 ?_
  refine vp_RX2_28 (pc := 52) hC (k := 45) (by decide) rfl dX2_init_52 ?_
  refine v_aload_n (pc := 55) hC dX2_init_55 rfl 0 rfl ?_
  refine v_iconst (pc := 56) hC (v := (0 : Int32)) (by decide) dX2_init_56 ?_
  refine v_aload_n (pc := 57) hC dX2_init_57 rfl 1 rfl ?_
  refine vg_RX2_9 (pc := 58) hC (k := 45) 46 (by decide) rfl rfl (fl_n (by decide) (fl_n (by decide) (fl_n (by decide) (fl_w (by decide))))) dX2_init_58 ?_
  refine v_iconst (pc := 61) hC (v := (0 : Int32)) (by decide) dX2_init_61 ?_
  refine v_aload_n (pc := 62) hC dX2_init_62 rfl 0 rfl ?_
  refine v_tlen3 (pc := 63) hC dX2_init_63 ?_
  refine v_copyT3 (pc := 64) hC mL_RX2_31 mN_O_arraycopy mK_O_arraycopy mI_RJ10 (k := 46) (by decide) rfl (by decide) (Nat.le_of_ble_eq_true rfl) dX2_init_64 ?_
  exact v_ret (pc := 67) hC hQ hr rfl dX2_init_67
def i_X0_50 (μ : Mem) : Mem := wr (wr μ 50 0 1) 50 1 1
theorem zi_X0_50 {n : Nat} {μ : Mem} (h : Zr n μ) (hn : 53 ≤ n) : Zr n (i_X0_50 μ) := by unfold i_X0_50; exact (zw (zw h (by omega)) (by omega))
theorem fi_X0_50 {μ : Mem} {k j : Nat} (hk : k < 50 ∨ 53 ≤ k) : rd (i_X0_50 μ) k j = rd μ k j := by unfold i_X0_50; rw [rdw_ne (by omega), rdw_ne (by omega)]
theorem ff_X0_50 {μ : Mem} {k j : Nat} (hk : k < 50 ∨ 53 ≤ k) (h : ¬ rd μ k j = 0) : ¬ rd (i_X0_50 μ) k j = 0 := by rw [fi_X0_50 hk]; exact h
set_option maxHeartbeats 4000000 in
set_option maxRecDepth 100000 in
theorem ci_X0_50 {l : Launch} {G : GG} {d : Nat} (hd : 0 ≤ d) {μ : Mem} (hZ : Zr 51 μ) : CTI l yX0_init cX0_init 1 d G [.ref (gad G 50)] 51 μ 2 16 (i_X0_50 μ) := by
  refine cti_start (by decide) rfl (Nat.le_of_ble_eq_true rfl) (fun C hl1 hG1 hC hQ hr hmn => ?_)
  subst hl1; subst hG1
  have hC : CxI C cX0_init 1 RX0 d 51 2 16 := hC
  show UI C 1 51 0 0 μ 0 [(0, .ref (gad (cG C) 50))] []
  refine v_aload_n (pc := 0) hC dX0_init_0 rfl 0 rfl ?_
  refine v_objInit (pc := 1) hC mL_RX0_3 mM_O_init mB_O_init (Nat.le_of_ble_eq_true rfl) dX0_init_1 ?_
  refine v_aload_n (pc := 4) hC dX0_init_4 rfl 0 rfl ?_
  refine v_bipush (pc := 5) hC (v := (8 : Int32)) (by decide) dX0_init_5 ?_
  refine v_newaI (n := 51) (pc := 7) hC 8 mA_int (by decide) (by decide) (by decide) rfl rfl rfl hZ (by decide) dX0_init_7 ?_
  show UI C 1 52 1 8 μ 9 [(0, .ref (gad (cG C) 50))] [.ref (gad (cG C) 51), .ref (gad (cG C) 50)]
  refine vp_RX0_9 (pc := 9) hC hmn (k := 50) (by decide) rfl rfl dX0_init_9 ?_
  refine v_aload_n (pc := 12) hC dX0_init_12 rfl 0 rfl ?_
  refine v_bipush (pc := 13) hC (v := (8 : Int32)) (by decide) dX0_init_13 ?_
  refine v_newaI (n := 52) (pc := 15) hC 8 mA_int (by decide) (by decide) (by decide) rfl rfl rfl (zw (n := 52) (zs (n := 51) (m := 52) hZ (by decide)) (by decide)) (by decide) dX0_init_15 ?_
  show UI C 1 53 2 16 (wr μ 50 0 1) 17 [(0, .ref (gad (cG C) 50))] [.ref (gad (cG C) 52), .ref (gad (cG C) 50)]
  refine vp_RX0_15 (pc := 17) hC hmn (k := 50) (by decide) rfl rfl dX0_init_17 ?_
  exact v_ret (pc := 20) hC hQ hr rfl dX0_init_20
def i_X0_53 (μ : Mem) : Mem := wr (wr μ 53 0 1) 53 1 1
theorem zi_X0_53 {n : Nat} {μ : Mem} (h : Zr n μ) (hn : 56 ≤ n) : Zr n (i_X0_53 μ) := by unfold i_X0_53; exact (zw (zw h (by omega)) (by omega))
theorem fi_X0_53 {μ : Mem} {k j : Nat} (hk : k < 53 ∨ 56 ≤ k) : rd (i_X0_53 μ) k j = rd μ k j := by unfold i_X0_53; rw [rdw_ne (by omega), rdw_ne (by omega)]
theorem ff_X0_53 {μ : Mem} {k j : Nat} (hk : k < 53 ∨ 56 ≤ k) (h : ¬ rd μ k j = 0) : ¬ rd (i_X0_53 μ) k j = 0 := by rw [fi_X0_53 hk]; exact h
set_option maxHeartbeats 4000000 in
set_option maxRecDepth 100000 in
theorem ci_X0_53 {l : Launch} {G : GG} {d : Nat} (hd : 0 ≤ d) {μ : Mem} (hZ : Zr 54 μ) : CTI l yX0_init cX0_init 1 d G [.ref (gad G 53)] 54 μ 2 16 (i_X0_53 μ) := by
  refine cti_start (by decide) rfl (Nat.le_of_ble_eq_true rfl) (fun C hl1 hG1 hC hQ hr hmn => ?_)
  subst hl1; subst hG1
  have hC : CxI C cX0_init 1 RX0 d 54 2 16 := hC
  show UI C 1 54 0 0 μ 0 [(0, .ref (gad (cG C) 53))] []
  refine v_aload_n (pc := 0) hC dX0_init_0 rfl 0 rfl ?_
  refine v_objInit (pc := 1) hC mL_RX0_3 mM_O_init mB_O_init (Nat.le_of_ble_eq_true rfl) dX0_init_1 ?_
  refine v_aload_n (pc := 4) hC dX0_init_4 rfl 0 rfl ?_
  refine v_bipush (pc := 5) hC (v := (8 : Int32)) (by decide) dX0_init_5 ?_
  refine v_newaI (n := 54) (pc := 7) hC 8 mA_int (by decide) (by decide) (by decide) rfl rfl rfl hZ (by decide) dX0_init_7 ?_
  show UI C 1 55 1 8 μ 9 [(0, .ref (gad (cG C) 53))] [.ref (gad (cG C) 54), .ref (gad (cG C) 53)]
  refine vp_RX0_9 (pc := 9) hC hmn (k := 53) (by decide) rfl rfl dX0_init_9 ?_
  refine v_aload_n (pc := 12) hC dX0_init_12 rfl 0 rfl ?_
  refine v_bipush (pc := 13) hC (v := (8 : Int32)) (by decide) dX0_init_13 ?_
  refine v_newaI (n := 55) (pc := 15) hC 8 mA_int (by decide) (by decide) (by decide) rfl rfl rfl (zw (n := 55) (zs (n := 54) (m := 55) hZ (by decide)) (by decide)) (by decide) dX0_init_15 ?_
  show UI C 1 56 2 16 (wr μ 53 0 1) 17 [(0, .ref (gad (cG C) 53))] [.ref (gad (cG C) 55), .ref (gad (cG C) 53)]
  refine vp_RX0_15 (pc := 17) hC hmn (k := 53) (by decide) rfl rfl dX0_init_17 ?_
  exact v_ret (pc := 20) hC hQ hr rfl dX0_init_20
def i_X0_56 (μ : Mem) : Mem := wr (wr μ 56 0 1) 56 1 1
theorem zi_X0_56 {n : Nat} {μ : Mem} (h : Zr n μ) (hn : 59 ≤ n) : Zr n (i_X0_56 μ) := by unfold i_X0_56; exact (zw (zw h (by omega)) (by omega))
theorem fi_X0_56 {μ : Mem} {k j : Nat} (hk : k < 56 ∨ 59 ≤ k) : rd (i_X0_56 μ) k j = rd μ k j := by unfold i_X0_56; rw [rdw_ne (by omega), rdw_ne (by omega)]
theorem ff_X0_56 {μ : Mem} {k j : Nat} (hk : k < 56 ∨ 59 ≤ k) (h : ¬ rd μ k j = 0) : ¬ rd (i_X0_56 μ) k j = 0 := by rw [fi_X0_56 hk]; exact h
set_option maxHeartbeats 4000000 in
set_option maxRecDepth 100000 in
theorem ci_X0_56 {l : Launch} {G : GG} {d : Nat} (hd : 0 ≤ d) {μ : Mem} (hZ : Zr 57 μ) : CTI l yX0_init cX0_init 1 d G [.ref (gad G 56)] 57 μ 2 16 (i_X0_56 μ) := by
  refine cti_start (by decide) rfl (Nat.le_of_ble_eq_true rfl) (fun C hl1 hG1 hC hQ hr hmn => ?_)
  subst hl1; subst hG1
  have hC : CxI C cX0_init 1 RX0 d 57 2 16 := hC
  show UI C 1 57 0 0 μ 0 [(0, .ref (gad (cG C) 56))] []
  refine v_aload_n (pc := 0) hC dX0_init_0 rfl 0 rfl ?_
  refine v_objInit (pc := 1) hC mL_RX0_3 mM_O_init mB_O_init (Nat.le_of_ble_eq_true rfl) dX0_init_1 ?_
  refine v_aload_n (pc := 4) hC dX0_init_4 rfl 0 rfl ?_
  refine v_bipush (pc := 5) hC (v := (8 : Int32)) (by decide) dX0_init_5 ?_
  refine v_newaI (n := 57) (pc := 7) hC 8 mA_int (by decide) (by decide) (by decide) rfl rfl rfl hZ (by decide) dX0_init_7 ?_
  show UI C 1 58 1 8 μ 9 [(0, .ref (gad (cG C) 56))] [.ref (gad (cG C) 57), .ref (gad (cG C) 56)]
  refine vp_RX0_9 (pc := 9) hC hmn (k := 56) (by decide) rfl rfl dX0_init_9 ?_
  refine v_aload_n (pc := 12) hC dX0_init_12 rfl 0 rfl ?_
  refine v_bipush (pc := 13) hC (v := (8 : Int32)) (by decide) dX0_init_13 ?_
  refine v_newaI (n := 58) (pc := 15) hC 8 mA_int (by decide) (by decide) (by decide) rfl rfl rfl (zw (n := 58) (zs (n := 57) (m := 58) hZ (by decide)) (by decide)) (by decide) dX0_init_15 ?_
  show UI C 1 59 2 16 (wr μ 56 0 1) 17 [(0, .ref (gad (cG C) 56))] [.ref (gad (cG C) 58), .ref (gad (cG C) 56)]
  refine vp_RX0_15 (pc := 17) hC hmn (k := 56) (by decide) rfl rfl dX0_init_17 ?_
  exact v_ret (pc := 20) hC hQ hr rfl dX0_init_20
def i_X0_59 (μ : Mem) : Mem := wr (wr μ 59 0 1) 59 1 1
theorem zi_X0_59 {n : Nat} {μ : Mem} (h : Zr n μ) (hn : 62 ≤ n) : Zr n (i_X0_59 μ) := by unfold i_X0_59; exact (zw (zw h (by omega)) (by omega))
theorem fi_X0_59 {μ : Mem} {k j : Nat} (hk : k < 59 ∨ 62 ≤ k) : rd (i_X0_59 μ) k j = rd μ k j := by unfold i_X0_59; rw [rdw_ne (by omega), rdw_ne (by omega)]
theorem ff_X0_59 {μ : Mem} {k j : Nat} (hk : k < 59 ∨ 62 ≤ k) (h : ¬ rd μ k j = 0) : ¬ rd (i_X0_59 μ) k j = 0 := by rw [fi_X0_59 hk]; exact h
set_option maxHeartbeats 4000000 in
set_option maxRecDepth 100000 in
theorem ci_X0_59 {l : Launch} {G : GG} {d : Nat} (hd : 0 ≤ d) {μ : Mem} (hZ : Zr 60 μ) : CTI l yX0_init cX0_init 1 d G [.ref (gad G 59)] 60 μ 2 16 (i_X0_59 μ) := by
  refine cti_start (by decide) rfl (Nat.le_of_ble_eq_true rfl) (fun C hl1 hG1 hC hQ hr hmn => ?_)
  subst hl1; subst hG1
  have hC : CxI C cX0_init 1 RX0 d 60 2 16 := hC
  show UI C 1 60 0 0 μ 0 [(0, .ref (gad (cG C) 59))] []
  refine v_aload_n (pc := 0) hC dX0_init_0 rfl 0 rfl ?_
  refine v_objInit (pc := 1) hC mL_RX0_3 mM_O_init mB_O_init (Nat.le_of_ble_eq_true rfl) dX0_init_1 ?_
  refine v_aload_n (pc := 4) hC dX0_init_4 rfl 0 rfl ?_
  refine v_bipush (pc := 5) hC (v := (8 : Int32)) (by decide) dX0_init_5 ?_
  refine v_newaI (n := 60) (pc := 7) hC 8 mA_int (by decide) (by decide) (by decide) rfl rfl rfl hZ (by decide) dX0_init_7 ?_
  show UI C 1 61 1 8 μ 9 [(0, .ref (gad (cG C) 59))] [.ref (gad (cG C) 60), .ref (gad (cG C) 59)]
  refine vp_RX0_9 (pc := 9) hC hmn (k := 59) (by decide) rfl rfl dX0_init_9 ?_
  refine v_aload_n (pc := 12) hC dX0_init_12 rfl 0 rfl ?_
  refine v_bipush (pc := 13) hC (v := (8 : Int32)) (by decide) dX0_init_13 ?_
  refine v_newaI (n := 61) (pc := 15) hC 8 mA_int (by decide) (by decide) (by decide) rfl rfl rfl (zw (n := 61) (zs (n := 60) (m := 61) hZ (by decide)) (by decide)) (by decide) dX0_init_15 ?_
  show UI C 1 62 2 16 (wr μ 59 0 1) 17 [(0, .ref (gad (cG C) 59))] [.ref (gad (cG C) 61), .ref (gad (cG C) 59)]
  refine vp_RX0_15 (pc := 17) hC hmn (k := 59) (by decide) rfl rfl dX0_init_17 ?_
  exact v_ret (pc := 20) hC hQ hr rfl dX0_init_20
def i_X8_48 (μ : Mem) : Mem := wr (i_X0_59 (wr (i_X0_56 (wr (i_X0_53 (wr (i_X0_50 (wr (wr (wr μ 48 0 1) 48 1 1) 48 2 1)) 49 (0 : Int32).toNatClampNeg 1)) 49 (1 : Int32).toNatClampNeg 1)) 49 (2 : Int32).toNatClampNeg 1)) 49 (3 : Int32).toNatClampNeg 1
theorem zi_X8_48 {n : Nat} {μ : Mem} (h : Zr n μ) (hn : 62 ≤ n) : Zr n (i_X8_48 μ) := by unfold i_X8_48; exact (zw (zi_X0_59 (zw (zi_X0_56 (zw (zi_X0_53 (zw (zi_X0_50 (zw (zw (zw h (by omega)) (by omega)) (by omega)) (by omega)) (by omega)) (by omega)) (by omega)) (by omega)) (by omega)) (by omega)) (by omega))
theorem fi_X8_48 {μ : Mem} {k j : Nat} (hk : k < 48 ∨ 62 ≤ k) : rd (i_X8_48 μ) k j = rd μ k j := by unfold i_X8_48; rw [rdw_ne (by omega), fi_X0_59 (by omega), rdw_ne (by omega), fi_X0_56 (by omega), rdw_ne (by omega), fi_X0_53 (by omega), rdw_ne (by omega), fi_X0_50 (by omega), rdw_ne (by omega), rdw_ne (by omega), rdw_ne (by omega)]
theorem ff_X8_48 {μ : Mem} {k j : Nat} (hk : k < 48 ∨ 62 ≤ k) (h : ¬ rd μ k j = 0) : ¬ rd (i_X8_48 μ) k j = 0 := by rw [fi_X8_48 hk]; exact h
set_option maxHeartbeats 4000000 in
set_option maxRecDepth 100000 in
theorem ci_X8_48 {l : Launch} {G : GG} {d : Nat} (hd : 1 ≤ d) {μ : Mem} (hZ : Zr 49 μ) : CTI l yX8_init cX8_init 4 d G [.ref (gad G 48), .ref (gad G 36), .ref (gad G 42)] 49 μ 13 100 (i_X8_48 μ) := by
  refine cti_start (by decide) rfl (Nat.le_of_ble_eq_true rfl) (fun C hl1 hG1 hC hQ hr hmn => ?_)
  subst hl1; subst hG1
  have hC : CxI C cX8_init 4 RX8 d 49 13 100 := hC
  show UI C 4 49 0 0 μ 0 [(0, .ref (gad (cG C) 48)), (1, .ref (gad (cG C) 36)), (2, .ref (gad (cG C) 42))] []
  refine v_aload_n (pc := 0) hC dX8_init_0 rfl 0 rfl ?_
  refine v_objInit (pc := 1) hC mL_RX8_3 mM_O_init mB_O_init (Nat.le_of_ble_eq_true rfl) dX8_init_1 ?_
  refine v_aload_n (pc := 4) hC dX8_init_4 rfl 0 rfl ?_
  refine v_iconst (pc := 5) hC (v := (4 : Int32)) (by decide) dX8_init_5 ?_
  refine v_newrD (n := 49) (pc := 6) hC mC_RX8_9 (by decide) (by decide) rfl rfl rfl hZ (by decide) dX8_init_6 ?_
  show UI C 4 50 1 4 μ 9 [(0, .ref (gad (cG C) 48)), (1, .ref (gad (cG C) 36)), (2, .ref (gad (cG C) 42))] [.ref (gad (cG C) 49), .ref (gad (cG C) 48)]
  refine vp_RX8_11 (pc := 9) hC hmn (k := 48) (by decide) rfl rfl dX8_init_9 ?_
  refine v_aload_n (pc := 12) hC dX8_init_12 rfl 0 rfl ?_
  refine v_aload_n (pc := 13) hC dX8_init_13 rfl 1 rfl ?_
  refine vp_RX8_17 (pc := 14) hC hmn (k := 48) (by decide) rfl rfl dX8_init_14 ?_
  refine v_aload_n (pc := 17) hC dX8_init_17 rfl 0 rfl ?_
  refine v_aload_n (pc := 18) hC dX8_init_18 rfl 2 rfl ?_
  refine vp_RX8_21 (pc := 19) hC hmn (k := 48) (by decide) rfl rfl dX8_init_19 ?_
  refine v_iconst (pc := 22) hC (v := (0 : Int32)) (by decide) dX8_init_22 ?_
  refine v_istore_n (pc := 23) hC dX8_init_23 rfl [(3, .int (0 : Int32)), (0, .ref (gad (cG C) 48)), (1, .ref (gad (cG C) 36)), (2, .ref (gad (cG C) 42))] (by decide) rfl ?_
  refine v_iload_n (pc := 24) hC dX8_init_24 rfl 0 rfl ?_
  refine v_iconst (pc := 25) hC (v := (4 : Int32)) (by decide) dX8_init_25 ?_
  refine v_icmp_ge (pc := 26) hC 48 dX8_init_26 (by decide) (fun q => absurd q (by decide)) (fun _ => ?_)
  refine v_aload_n (pc := 29) hC dX8_init_29 rfl 1 rfl ?_
  refine vg_RX8_11 (pc := 30) hC (k := 48) 49 (by decide) rfl rfl (fl_n (by decide) (fl_n (by decide) (fl_w (by decide)))) dX8_init_30 ?_
  refine v_iload_n (pc := 33) hC dX8_init_33 rfl 0 rfl ?_
  refine vn_RX8_9 (n := 50) (pc := 34) hC rfl rfl (zw (n := 50) (zw (n := 50) (zw (n := 50) (zs (n := 49) (m := 50) hZ (by decide)) (by decide)) (by decide)) (by decide)) (by decide) dX8_init_34 ?_
  show UI C 4 51 2 12 (wr (wr (wr μ 48 0 1) 48 1 1) 48 2 1) 37 [(3, .int (0 : Int32)), (0, .ref (gad (cG C) 48)), (1, .ref (gad (cG C) 36)), (2, .ref (gad (cG C) 42))] [.ref (gad (cG C) 50), .int (0 : Int32), .ref (gad (cG C) 49)]
  refine v_dup (pc := 37) hC rfl dX8_init_37 ?_
  refine vc_RX8_25 (n := 51) (pc := 38) hC (av := []) (rest := [.ref (gad (cG C) 50), .int (0 : Int32), .ref (gad (cG C) 49)]) (ci_X0_50 (d := d - 1) (by omega) (zs (n := 50) (m := 51) (zw (n := 50) (zw (n := 50) (zw (n := 50) (zs (n := 49) (m := 50) hZ (by decide)) (by decide)) (by decide)) (by decide)) (by decide))) rfl (by omega) (Nat.le_of_ble_eq_true rfl) rfl (by decide) rfl dX8_init_38 ?_
  show UI C 4 53 4 28 (i_X0_50 (wr (wr (wr μ 48 0 1) 48 1 1) 48 2 1)) 41 [(3, .int (0 : Int32)), (0, .ref (gad (cG C) 48)), (1, .ref (gad (cG C) 36)), (2, .ref (gad (cG C) 42))] [.ref (gad (cG C) 50), .int (0 : Int32), .ref (gad (cG C) 49)]
  refine v_aastD (pc := 41) hC (k := 49) (k2 := 50) (by decide) rfl (by decide) (by decide) rfl (by decide) dX8_init_41 ?_
  refine v_iinc (pc := 42) hC dX8_init_42 0 rfl (1 : Int32) (by decide) [(3, .int (1 : Int32)), (0, .ref (gad (cG C) 48)), (1, .ref (gad (cG C) 36)), (2, .ref (gad (cG C) 42))] (by decide) rfl ?_
  refine v_goto (pc := 45) hC 24 dX8_init_45 (by decide) ?_
  refine v_iload_n (pc := 24) hC dX8_init_24 rfl 0 rfl ?_
  refine v_iconst (pc := 25) hC (v := (4 : Int32)) (by decide) dX8_init_25 ?_
  refine v_icmp_ge (pc := 26) hC 48 dX8_init_26 (by decide) (fun q => absurd q (by decide)) (fun _ => ?_)
  refine v_aload_n (pc := 29) hC dX8_init_29 rfl 1 rfl ?_
  refine vg_RX8_11 (pc := 30) hC (k := 48) 49 (by decide) rfl rfl (fl_n (by decide) (ff_X0_50 (by decide) (fl_n (by decide) (fl_n (by decide) (fl_w (by decide)))))) dX8_init_30 ?_
  refine v_iload_n (pc := 33) hC dX8_init_33 rfl 0 rfl ?_
  refine vn_RX8_9 (n := 53) (pc := 34) hC rfl rfl (zw (n := 53) (zi_X0_50 (n := 53) (zs (n := 51) (m := 53) (zs (n := 50) (m := 51) (zw (n := 50) (zw (n := 50) (zw (n := 50) (zs (n := 49) (m := 50) hZ (by decide)) (by decide)) (by decide)) (by decide)) (by decide)) (by decide)) (by decide)) (by decide)) (by decide) dX8_init_34 ?_
  show UI C 4 54 5 36 (wr (i_X0_50 (wr (wr (wr μ 48 0 1) 48 1 1) 48 2 1)) 49 (0 : Int32).toNatClampNeg 1) 37 [(3, .int (1 : Int32)), (0, .ref (gad (cG C) 48)), (1, .ref (gad (cG C) 36)), (2, .ref (gad (cG C) 42))] [.ref (gad (cG C) 53), .int (1 : Int32), .ref (gad (cG C) 49)]
  refine v_dup (pc := 37) hC rfl dX8_init_37 ?_
  refine vc_RX8_25 (n := 54) (pc := 38) hC (av := []) (rest := [.ref (gad (cG C) 53), .int (1 : Int32), .ref (gad (cG C) 49)]) (ci_X0_53 (d := d - 1) (by omega) (zs (n := 53) (m := 54) (zw (n := 53) (zi_X0_50 (n := 53) (zs (n := 51) (m := 53) (zs (n := 50) (m := 51) (zw (n := 50) (zw (n := 50) (zw (n := 50) (zs (n := 49) (m := 50) hZ (by decide)) (by decide)) (by decide)) (by decide)) (by decide)) (by decide)) (by decide)) (by decide)) (by decide))) rfl (by omega) (Nat.le_of_ble_eq_true rfl) rfl (by decide) rfl dX8_init_38 ?_
  show UI C 4 56 7 52 (i_X0_53 (wr (i_X0_50 (wr (wr (wr μ 48 0 1) 48 1 1) 48 2 1)) 49 (0 : Int32).toNatClampNeg 1)) 41 [(3, .int (1 : Int32)), (0, .ref (gad (cG C) 48)), (1, .ref (gad (cG C) 36)), (2, .ref (gad (cG C) 42))] [.ref (gad (cG C) 53), .int (1 : Int32), .ref (gad (cG C) 49)]
  refine v_aastD (pc := 41) hC (k := 49) (k2 := 53) (by decide) rfl (by decide) (by decide) rfl (by decide) dX8_init_41 ?_
  refine v_iinc (pc := 42) hC dX8_init_42 0 rfl (2 : Int32) (by decide) [(3, .int (2 : Int32)), (0, .ref (gad (cG C) 48)), (1, .ref (gad (cG C) 36)), (2, .ref (gad (cG C) 42))] (by decide) rfl ?_
  refine v_goto (pc := 45) hC 24 dX8_init_45 (by decide) ?_
  refine v_iload_n (pc := 24) hC dX8_init_24 rfl 0 rfl ?_
  refine v_iconst (pc := 25) hC (v := (4 : Int32)) (by decide) dX8_init_25 ?_
  refine v_icmp_ge (pc := 26) hC 48 dX8_init_26 (by decide) (fun q => absurd q (by decide)) (fun _ => ?_)
  refine v_aload_n (pc := 29) hC dX8_init_29 rfl 1 rfl ?_
  refine vg_RX8_11 (pc := 30) hC (k := 48) 49 (by decide) rfl rfl (fl_n (by decide) (ff_X0_53 (by decide) (fl_n (by decide) (ff_X0_50 (by decide) (fl_n (by decide) (fl_n (by decide) (fl_w (by decide)))))))) dX8_init_30 ?_
  refine v_iload_n (pc := 33) hC dX8_init_33 rfl 0 rfl ?_
  refine vn_RX8_9 (n := 56) (pc := 34) hC rfl rfl (zw (n := 56) (zi_X0_53 (n := 56) (zs (n := 54) (m := 56) (zs (n := 53) (m := 54) (zw (n := 53) (zi_X0_50 (n := 53) (zs (n := 51) (m := 53) (zs (n := 50) (m := 51) (zw (n := 50) (zw (n := 50) (zw (n := 50) (zs (n := 49) (m := 50) hZ (by decide)) (by decide)) (by decide)) (by decide)) (by decide)) (by decide)) (by decide)) (by decide)) (by decide)) (by decide)) (by decide)) (by decide)) (by decide) dX8_init_34 ?_
  show UI C 4 57 8 60 (wr (i_X0_53 (wr (i_X0_50 (wr (wr (wr μ 48 0 1) 48 1 1) 48 2 1)) 49 (0 : Int32).toNatClampNeg 1)) 49 (1 : Int32).toNatClampNeg 1) 37 [(3, .int (2 : Int32)), (0, .ref (gad (cG C) 48)), (1, .ref (gad (cG C) 36)), (2, .ref (gad (cG C) 42))] [.ref (gad (cG C) 56), .int (2 : Int32), .ref (gad (cG C) 49)]
  refine v_dup (pc := 37) hC rfl dX8_init_37 ?_
  refine vc_RX8_25 (n := 57) (pc := 38) hC (av := []) (rest := [.ref (gad (cG C) 56), .int (2 : Int32), .ref (gad (cG C) 49)]) (ci_X0_56 (d := d - 1) (by omega) (zs (n := 56) (m := 57) (zw (n := 56) (zi_X0_53 (n := 56) (zs (n := 54) (m := 56) (zs (n := 53) (m := 54) (zw (n := 53) (zi_X0_50 (n := 53) (zs (n := 51) (m := 53) (zs (n := 50) (m := 51) (zw (n := 50) (zw (n := 50) (zw (n := 50) (zs (n := 49) (m := 50) hZ (by decide)) (by decide)) (by decide)) (by decide)) (by decide)) (by decide)) (by decide)) (by decide)) (by decide)) (by decide)) (by decide)) (by decide)) (by decide))) rfl (by omega) (Nat.le_of_ble_eq_true rfl) rfl (by decide) rfl dX8_init_38 ?_
  show UI C 4 59 10 76 (i_X0_56 (wr (i_X0_53 (wr (i_X0_50 (wr (wr (wr μ 48 0 1) 48 1 1) 48 2 1)) 49 (0 : Int32).toNatClampNeg 1)) 49 (1 : Int32).toNatClampNeg 1)) 41 [(3, .int (2 : Int32)), (0, .ref (gad (cG C) 48)), (1, .ref (gad (cG C) 36)), (2, .ref (gad (cG C) 42))] [.ref (gad (cG C) 56), .int (2 : Int32), .ref (gad (cG C) 49)]
  refine v_aastD (pc := 41) hC (k := 49) (k2 := 56) (by decide) rfl (by decide) (by decide) rfl (by decide) dX8_init_41 ?_
  refine v_iinc (pc := 42) hC dX8_init_42 0 rfl (3 : Int32) (by decide) [(3, .int (3 : Int32)), (0, .ref (gad (cG C) 48)), (1, .ref (gad (cG C) 36)), (2, .ref (gad (cG C) 42))] (by decide) rfl ?_
  refine v_goto (pc := 45) hC 24 dX8_init_45 (by decide) ?_
  refine v_iload_n (pc := 24) hC dX8_init_24 rfl 0 rfl ?_
  refine v_iconst (pc := 25) hC (v := (4 : Int32)) (by decide) dX8_init_25 ?_
  refine v_icmp_ge (pc := 26) hC 48 dX8_init_26 (by decide) (fun q => absurd q (by decide)) (fun _ => ?_)
  refine v_aload_n (pc := 29) hC dX8_init_29 rfl 1 rfl ?_
  refine vg_RX8_11 (pc := 30) hC (k := 48) 49 (by decide) rfl rfl (fl_n (by decide) (ff_X0_56 (by decide) (fl_n (by decide) (ff_X0_53 (by decide) (fl_n (by decide) (ff_X0_50 (by decide) (fl_n (by decide) (fl_n (by decide) (fl_w (by decide)))))))))) dX8_init_30 ?_
  refine v_iload_n (pc := 33) hC dX8_init_33 rfl 0 rfl ?_
  refine vn_RX8_9 (n := 59) (pc := 34) hC rfl rfl (zw (n := 59) (zi_X0_56 (n := 59) (zs (n := 57) (m := 59) (zs (n := 56) (m := 57) (zw (n := 56) (zi_X0_53 (n := 56) (zs (n := 54) (m := 56) (zs (n := 53) (m := 54) (zw (n := 53) (zi_X0_50 (n := 53) (zs (n := 51) (m := 53) (zs (n := 50) (m := 51) (zw (n := 50) (zw (n := 50) (zw (n := 50) (zs (n := 49) (m := 50) hZ (by decide)) (by decide)) (by decide)) (by decide)) (by decide)) (by decide)) (by decide)) (by decide)) (by decide)) (by decide)) (by decide)) (by decide)) (by decide)) (by decide)) (by decide)) (by decide)) (by decide) dX8_init_34 ?_
  show UI C 4 60 11 84 (wr (i_X0_56 (wr (i_X0_53 (wr (i_X0_50 (wr (wr (wr μ 48 0 1) 48 1 1) 48 2 1)) 49 (0 : Int32).toNatClampNeg 1)) 49 (1 : Int32).toNatClampNeg 1)) 49 (2 : Int32).toNatClampNeg 1) 37 [(3, .int (3 : Int32)), (0, .ref (gad (cG C) 48)), (1, .ref (gad (cG C) 36)), (2, .ref (gad (cG C) 42))] [.ref (gad (cG C) 59), .int (3 : Int32), .ref (gad (cG C) 49)]
  refine v_dup (pc := 37) hC rfl dX8_init_37 ?_
  refine vc_RX8_25 (n := 60) (pc := 38) hC (av := []) (rest := [.ref (gad (cG C) 59), .int (3 : Int32), .ref (gad (cG C) 49)]) (ci_X0_59 (d := d - 1) (by omega) (zs (n := 59) (m := 60) (zw (n := 59) (zi_X0_56 (n := 59) (zs (n := 57) (m := 59) (zs (n := 56) (m := 57) (zw (n := 56) (zi_X0_53 (n := 56) (zs (n := 54) (m := 56) (zs (n := 53) (m := 54) (zw (n := 53) (zi_X0_50 (n := 53) (zs (n := 51) (m := 53) (zs (n := 50) (m := 51) (zw (n := 50) (zw (n := 50) (zw (n := 50) (zs (n := 49) (m := 50) hZ (by decide)) (by decide)) (by decide)) (by decide)) (by decide)) (by decide)) (by decide)) (by decide)) (by decide)) (by decide)) (by decide)) (by decide)) (by decide)) (by decide)) (by decide)) (by decide)) (by decide))) rfl (by omega) (Nat.le_of_ble_eq_true rfl) rfl (by decide) rfl dX8_init_38 ?_
  show UI C 4 62 13 100 (i_X0_59 (wr (i_X0_56 (wr (i_X0_53 (wr (i_X0_50 (wr (wr (wr μ 48 0 1) 48 1 1) 48 2 1)) 49 (0 : Int32).toNatClampNeg 1)) 49 (1 : Int32).toNatClampNeg 1)) 49 (2 : Int32).toNatClampNeg 1)) 41 [(3, .int (3 : Int32)), (0, .ref (gad (cG C) 48)), (1, .ref (gad (cG C) 36)), (2, .ref (gad (cG C) 42))] [.ref (gad (cG C) 59), .int (3 : Int32), .ref (gad (cG C) 49)]
  refine v_aastD (pc := 41) hC (k := 49) (k2 := 59) (by decide) rfl (by decide) (by decide) rfl (by decide) dX8_init_41 ?_
  refine v_iinc (pc := 42) hC dX8_init_42 0 rfl (4 : Int32) (by decide) [(3, .int (4 : Int32)), (0, .ref (gad (cG C) 48)), (1, .ref (gad (cG C) 36)), (2, .ref (gad (cG C) 42))] (by decide) rfl ?_
  refine v_goto (pc := 45) hC 24 dX8_init_45 (by decide) ?_
  refine v_iload_n (pc := 24) hC dX8_init_24 rfl 0 rfl ?_
  refine v_iconst (pc := 25) hC (v := (4 : Int32)) (by decide) dX8_init_25 ?_
  refine v_icmp_ge (pc := 26) hC 48 dX8_init_26 (by decide) (fun _ => ?_) (fun q => absurd (by decide) q)
  exact v_ret (pc := 48) hC hQ hr rfl dX8_init_48
def i_X3_62 (μ : Mem) : Mem := wr (wr (wr μ 62 0 1) 62 1 1) 62 2 1
theorem zi_X3_62 {n : Nat} {μ : Mem} (h : Zr n μ) (hn : 66 ≤ n) : Zr n (i_X3_62 μ) := by unfold i_X3_62; exact (zw (zw (zw h (by omega)) (by omega)) (by omega))
theorem fi_X3_62 {μ : Mem} {k j : Nat} (hk : k < 62 ∨ 66 ≤ k) : rd (i_X3_62 μ) k j = rd μ k j := by unfold i_X3_62; rw [rdw_ne (by omega), rdw_ne (by omega), rdw_ne (by omega)]
theorem ff_X3_62 {μ : Mem} {k j : Nat} (hk : k < 62 ∨ 66 ≤ k) (h : ¬ rd μ k j = 0) : ¬ rd (i_X3_62 μ) k j = 0 := by rw [fi_X3_62 hk]; exact h
set_option maxHeartbeats 4000000 in
set_option maxRecDepth 100000 in
theorem ci_X3_62 {l : Launch} {G : GG} {d : Nat} (hd : 0 ≤ d) {μ : Mem} (hZ : Zr 63 μ) : CTI l yX3_init cX3_init 1 d G [.ref (gad G 62)] 63 μ 3 36 (i_X3_62 μ) := by
  refine cti_start (by decide) rfl (Nat.le_of_ble_eq_true rfl) (fun C hl1 hG1 hC hQ hr hmn => ?_)
  subst hl1; subst hG1
  have hC : CxI C cX3_init 1 RX3 d 63 3 36 := hC
  show UI C 1 63 0 0 μ 0 [(0, .ref (gad (cG C) 62))] []
  refine v_aload_n (pc := 0) hC dX3_init_0 rfl 0 rfl ?_
  refine v_objInit (pc := 1) hC mL_RX3_3 mM_O_init mB_O_init (Nat.le_of_ble_eq_true rfl) dX3_init_1 ?_
  refine v_aload_n (pc := 4) hC dX3_init_4 rfl 0 rfl ?_
  refine v_bipush (pc := 5) hC (v := (12 : Int32)) (by decide) dX3_init_5 ?_
  refine v_newaI (n := 63) (pc := 7) hC 12 mA_int (by decide) (by decide) (by decide) rfl rfl rfl hZ (by decide) dX3_init_7 ?_
  show UI C 1 64 1 12 μ 9 [(0, .ref (gad (cG C) 62))] [.ref (gad (cG C) 63), .ref (gad (cG C) 62)]
  refine vp_RX3_9 (pc := 9) hC hmn (k := 62) (by decide) rfl rfl dX3_init_9 ?_
  refine v_aload_n (pc := 12) hC dX3_init_12 rfl 0 rfl ?_
  refine v_bipush (pc := 13) hC (v := (12 : Int32)) (by decide) dX3_init_13 ?_
  refine v_newaI (n := 64) (pc := 15) hC 12 mA_int (by decide) (by decide) (by decide) rfl rfl rfl (zw (n := 64) (zs (n := 63) (m := 64) hZ (by decide)) (by decide)) (by decide) dX3_init_15 ?_
  show UI C 1 65 2 24 (wr μ 62 0 1) 17 [(0, .ref (gad (cG C) 62))] [.ref (gad (cG C) 64), .ref (gad (cG C) 62)]
  refine vp_RX3_15 (pc := 17) hC hmn (k := 62) (by decide) rfl rfl dX3_init_17 ?_
  refine v_aload_n (pc := 20) hC dX3_init_20 rfl 0 rfl ?_
  refine v_bipush (pc := 21) hC (v := (12 : Int32)) (by decide) dX3_init_21 ?_
  refine v_newaI (n := 65) (pc := 23) hC 12 mA_int (by decide) (by decide) (by decide) rfl rfl rfl (zw (n := 65) (zs (n := 64) (m := 65) (zw (n := 64) (zs (n := 63) (m := 64) hZ (by decide)) (by decide)) (by decide)) (by decide)) (by decide) dX3_init_23 ?_
  show UI C 1 66 3 36 (wr (wr μ 62 0 1) 62 1 1) 25 [(0, .ref (gad (cG C) 62))] [.ref (gad (cG C) 65), .ref (gad (cG C) 62)]
  refine vp_RX3_18 (pc := 25) hC hmn (k := 62) (by decide) rfl rfl dX3_init_25 ?_
  exact v_ret (pc := 28) hC hQ hr rfl dX3_init_28
def i_X7_66 (μ : Mem) : Mem := wr μ 66 0 1
theorem zi_X7_66 {n : Nat} {μ : Mem} (h : Zr n μ) (hn : 68 ≤ n) : Zr n (i_X7_66 μ) := by unfold i_X7_66; exact (zw h (by omega))
theorem fi_X7_66 {μ : Mem} {k j : Nat} (hk : k < 66 ∨ 68 ≤ k) : rd (i_X7_66 μ) k j = rd μ k j := by unfold i_X7_66; rw [rdw_ne (by omega)]
theorem ff_X7_66 {μ : Mem} {k j : Nat} (hk : k < 66 ∨ 68 ≤ k) (h : ¬ rd μ k j = 0) : ¬ rd (i_X7_66 μ) k j = 0 := by rw [fi_X7_66 hk]; exact h
set_option maxHeartbeats 4000000 in
set_option maxRecDepth 100000 in
theorem ci_X7_66 {l : Launch} {G : GG} {d : Nat} (hd : 0 ≤ d) {μ : Mem} (hZ : Zr 67 μ) : CTI l yX7_init cX7_init 1 d G [.ref (gad G 66)] 67 μ 1 50 (i_X7_66 μ) := by
  refine cti_start (by decide) rfl (Nat.le_of_ble_eq_true rfl) (fun C hl1 hG1 hC hQ hr hmn => ?_)
  subst hl1; subst hG1
  have hC : CxI C cX7_init 1 RX7 d 67 1 50 := hC
  show UI C 1 67 0 0 μ 0 [(0, .ref (gad (cG C) 66))] []
  refine v_aload_n (pc := 0) hC dX7_init_0 rfl 0 rfl ?_
  refine v_objInit (pc := 1) hC mL_RX7_3 mM_O_init mB_O_init (Nat.le_of_ble_eq_true rfl) dX7_init_1 ?_
  refine v_aload_n (pc := 4) hC dX7_init_4 rfl 0 rfl ?_
  refine v_bipush (pc := 5) hC (v := (50 : Int32)) (by decide) dX7_init_5 ?_
  refine v_newaI (n := 67) (pc := 7) hC 50 mA_int (by decide) (by decide) (by decide) rfl rfl rfl hZ (by decide) dX7_init_7 ?_
  show UI C 1 68 1 50 μ 9 [(0, .ref (gad (cG C) 66))] [.ref (gad (cG C) 67), .ref (gad (cG C) 66)]
  refine vp_RX7_9 (pc := 9) hC hmn (k := 66) (by decide) rfl rfl dX7_init_9 ?_
  exact v_ret (pc := 12) hC hQ hr rfl dX7_init_12
def i_X10_35 (μ : Mem) : Mem := wr (wr (wr (i_X7_66 (wr (i_X3_62 (wr (i_X8_48 (wr (i_X2_45 (wr (i_X2_42 (wr (i_X1_36 μ) 35 0 1)) 35 1 1)) 35 2 1)) 35 3 1)) 35 4 1)) 35 5 1) 35 6 1) 35 8 (1 : Int32)
theorem zi_X10_35 {n : Nat} {μ : Mem} (h : Zr n μ) (hn : 69 ≤ n) : Zr n (i_X10_35 μ) := by unfold i_X10_35; exact (zw (zw (zw (zi_X7_66 (zw (zi_X3_62 (zw (zi_X8_48 (zw (zi_X2_45 (zw (zi_X2_42 (zw (zi_X1_36 h (by omega)) (by omega)) (by omega)) (by omega)) (by omega)) (by omega)) (by omega)) (by omega)) (by omega)) (by omega)) (by omega)) (by omega)) (by omega)) (by omega))
theorem fi_X10_35 {μ : Mem} {k j : Nat} (hk : k < 35 ∨ 69 ≤ k) : rd (i_X10_35 μ) k j = rd μ k j := by unfold i_X10_35; rw [rdw_ne (by omega), rdw_ne (by omega), rdw_ne (by omega), fi_X7_66 (by omega), rdw_ne (by omega), fi_X3_62 (by omega), rdw_ne (by omega), fi_X8_48 (by omega), rdw_ne (by omega), fi_X2_45 (by omega), rdw_ne (by omega), fi_X2_42 (by omega), rdw_ne (by omega), fi_X1_36 (by omega)]
theorem ff_X10_35 {μ : Mem} {k j : Nat} (hk : k < 35 ∨ 69 ≤ k) (h : ¬ rd μ k j = 0) : ¬ rd (i_X10_35 μ) k j = 0 := by rw [fi_X10_35 hk]; exact h
set_option maxHeartbeats 4000000 in
set_option maxRecDepth 100000 in
theorem ci_X10_35 {l : Launch} {G : GG} {d : Nat} (hd : 2 ≤ d) {μ : Mem} (hZ : Zr 36 μ) : CTI l yX10_init cX10_init 1 d G [.ref (gad G 35)] 36 μ 33 471 (i_X10_35 μ) := by
  refine cti_start (by decide) rfl (Nat.le_of_ble_eq_true rfl) (fun C hl1 hG1 hC hQ hr hmn => ?_)
  subst hl1; subst hG1
  have hC : CxI C cX10_init 1 RX10 d 36 33 471 := hC
  show UI C 1 36 0 0 μ 0 [(0, .ref (gad (cG C) 35))] []
  refine v_aload_n (pc := 0) hC dX10_init_0 rfl 0 rfl ?_
  refine v_objInit (pc := 1) hC mL_RX10_3 mM_O_init mB_O_init (Nat.le_of_ble_eq_true rfl) dX10_init_1 ?_
  refine v_aload_n (pc := 4) hC dX10_init_4 rfl 0 rfl ?_
  refine vn_RX10_9 (n := 36) (pc := 5) hC rfl rfl hZ (by decide) dX10_init_5 ?_
  show UI C 1 37 1 6 μ 8 [(0, .ref (gad (cG C) 35))] [.ref (gad (cG C) 36), .ref (gad (cG C) 35)]
  refine v_dup (pc := 8) hC rfl dX10_init_8 ?_
  refine vc_RX10_11 (n := 37) (pc := 9) hC (av := []) (rest := [.ref (gad (cG C) 36), .ref (gad (cG C) 35)]) (ci_X1_36 (d := d - 1) (by omega) (zs (n := 36) (m := 37) hZ (by decide))) rfl (by omega) (Nat.le_of_ble_eq_true rfl) rfl (by decide) rfl dX10_init_9 ?_
  show UI C 1 42 6 46 (i_X1_36 μ) 12 [(0, .ref (gad (cG C) 35))] [.ref (gad (cG C) 36), .ref (gad (cG C) 35)]
  refine vp_RX10_12 (pc := 12) hC hmn (k := 35) (by decide) rfl rfl dX10_init_12 ?_
  refine v_aload_n (pc := 15) hC dX10_init_15 rfl 0 rfl ?_
  refine vn_RX10_18 (n := 42) (pc := 16) hC rfl rfl (zw (n := 42) (zi_X1_36 (n := 42) (zs (n := 37) (m := 42) (zs (n := 36) (m := 37) hZ (by decide)) (by decide)) (by decide)) (by decide)) (by decide) dX10_init_16 ?_
  show UI C 1 43 7 50 (wr (i_X1_36 μ) 35 0 1) 19 [(0, .ref (gad (cG C) 35))] [.ref (gad (cG C) 42), .ref (gad (cG C) 35)]
  refine v_dup (pc := 19) hC rfl dX10_init_19 ?_
  refine v_iconst (pc := 20) hC (v := (0 : Int32)) (by decide) dX10_init_20 ?_
  refine vc_RX10_20 (n := 43) (pc := 21) hC (av := [.int (0 : Int32)]) (rest := [.ref (gad (cG C) 42), .ref (gad (cG C) 35)]) (ci_X2_42 (d := d - 1) (by omega) (zs (n := 42) (m := 43) (zw (n := 42) (zi_X1_36 (n := 42) (zs (n := 37) (m := 42) (zs (n := 36) (m := 37) hZ (by decide)) (by decide)) (by decide)) (by decide)) (by decide))) rfl (by omega) (Nat.le_of_ble_eq_true rfl) rfl (by decide) rfl dX10_init_21 ?_
  show UI C 1 45 9 150 (i_X2_42 (wr (i_X1_36 μ) 35 0 1)) 24 [(0, .ref (gad (cG C) 35))] [.ref (gad (cG C) 42), .ref (gad (cG C) 35)]
  refine vp_RX10_23 (pc := 24) hC hmn (k := 35) (by decide) rfl rfl dX10_init_24 ?_
  refine v_aload_n (pc := 27) hC dX10_init_27 rfl 0 rfl ?_
  refine vn_RX10_18 (n := 45) (pc := 28) hC rfl rfl (zw (n := 45) (zi_X2_42 (n := 45) (zs (n := 43) (m := 45) (zs (n := 42) (m := 43) (zw (n := 42) (zi_X1_36 (n := 42) (zs (n := 37) (m := 42) (zs (n := 36) (m := 37) hZ (by decide)) (by decide)) (by decide)) (by decide)) (by decide)) (by decide)) (by decide)) (by decide)) (by decide) dX10_init_28 ?_
  show UI C 1 46 10 154 (wr (i_X2_42 (wr (i_X1_36 μ) 35 0 1)) 35 1 1) 31 [(0, .ref (gad (cG C) 35))] [.ref (gad (cG C) 45), .ref (gad (cG C) 35)]
  refine v_dup (pc := 31) hC rfl dX10_init_31 ?_
  refine v_iconst (pc := 32) hC (v := (1 : Int32)) (by decide) dX10_init_32 ?_
  refine vc_RX10_20 (n := 46) (pc := 33) hC (av := [.int (1 : Int32)]) (rest := [.ref (gad (cG C) 45), .ref (gad (cG C) 35)]) (ci_X2_45 (d := d - 1) (by omega) (zs (n := 45) (m := 46) (zw (n := 45) (zi_X2_42 (n := 45) (zs (n := 43) (m := 45) (zs (n := 42) (m := 43) (zw (n := 42) (zi_X1_36 (n := 42) (zs (n := 37) (m := 42) (zs (n := 36) (m := 37) hZ (by decide)) (by decide)) (by decide)) (by decide)) (by decide)) (by decide)) (by decide)) (by decide)) (by decide))) rfl (by omega) (Nat.le_of_ble_eq_true rfl) rfl (by decide) rfl dX10_init_33 ?_
  show UI C 1 48 12 254 (i_X2_45 (wr (i_X2_42 (wr (i_X1_36 μ) 35 0 1)) 35 1 1)) 36 [(0, .ref (gad (cG C) 35))] [.ref (gad (cG C) 45), .ref (gad (cG C) 35)]
  refine vp_RX10_27 (pc := 36) hC hmn (k := 35) (by decide) rfl rfl dX10_init_36 ?_
  refine v_aload_n (pc := 39) hC dX10_init_39 rfl 0 rfl ?_
  refine vn_RX10_30 (n := 48) (pc := 40) hC rfl rfl (zw (n := 48) (zi_X2_45 (n := 48) (zs (n := 46) (m := 48) (zs (n := 45) (m := 46) (zw (n := 45) (zi_X2_42 (n := 45) (zs (n := 43) (m := 45) (zs (n := 42) (m := 43) (zw (n := 42) (zi_X1_36 (n := 42) (zs (n := 37) (m := 42) (zs (n := 36) (m := 37) hZ (by decide)) (by decide)) (by decide)) (by decide)) (by decide)) (by decide)) (by decide)) (by decide)) (by decide)) (by decide)) (by decide)) (by decide)) (by decide) dX10_init_40 ?_
  show UI C 1 49 13 259 (wr (i_X2_45 (wr (i_X2_42 (wr (i_X1_36 μ) 35 0 1)) 35 1 1)) 35 2 1) 43 [(0, .ref (gad (cG C) 35))] [.ref (gad (cG C) 48), .ref (gad (cG C) 35)]
  refine v_dup (pc := 43) hC rfl dX10_init_43 ?_
  refine v_aload_n (pc := 44) hC dX10_init_44 rfl 0 rfl ?_
  refine vg_RX10_12 (pc := 45) hC (k := 35) 36 (by decide) rfl rfl (fl_n (by decide) (ff_X2_45 (by decide) (fl_n (by decide) (ff_X2_42 (by decide) (fl_w (by decide)))))) dX10_init_45 ?_
  refine v_aload_n (pc := 48) hC dX10_init_48 rfl 0 rfl ?_
  refine vg_RX10_23 (pc := 49) hC (k := 35) 42 (by decide) rfl rfl (fl_n (by decide) (ff_X2_45 (by decide) (fl_w (by decide)))) dX10_init_49 ?_
  refine vc_RX10_32 (n := 49) (pc := 52) hC (av := [.ref (gad (cG C) 36), .ref (gad (cG C) 42)]) (rest := [.ref (gad (cG C) 48), .ref (gad (cG C) 35)]) (ci_X8_48 (d := d - 1) (by omega) (zs (n := 48) (m := 49) (zw (n := 48) (zi_X2_45 (n := 48) (zs (n := 46) (m := 48) (zs (n := 45) (m := 46) (zw (n := 45) (zi_X2_42 (n := 45) (zs (n := 43) (m := 45) (zs (n := 42) (m := 43) (zw (n := 42) (zi_X1_36 (n := 42) (zs (n := 37) (m := 42) (zs (n := 36) (m := 37) hZ (by decide)) (by decide)) (by decide)) (by decide)) (by decide)) (by decide)) (by decide)) (by decide)) (by decide)) (by decide)) (by decide)) (by decide)) (by decide))) rfl (by omega) (Nat.le_of_ble_eq_true rfl) rfl (by decide) rfl dX10_init_52 ?_
  show UI C 1 62 26 359 (i_X8_48 (wr (i_X2_45 (wr (i_X2_42 (wr (i_X1_36 μ) 35 0 1)) 35 1 1)) 35 2 1)) 55 [(0, .ref (gad (cG C) 35))] [.ref (gad (cG C) 48), .ref (gad (cG C) 35)]
  refine vp_RX10_35 (pc := 55) hC hmn (k := 35) (by decide) rfl rfl dX10_init_55 ?_
  refine v_aload_n (pc := 58) hC dX10_init_58 rfl 0 rfl ?_
  refine vn_RX10_39 (n := 62) (pc := 59) hC rfl rfl (zw (n := 62) (zi_X8_48 (n := 62) (zs (n := 49) (m := 62) (zs (n := 48) (m := 49) (zw (n := 48) (zi_X2_45 (n := 48) (zs (n := 46) (m := 48) (zs (n := 45) (m := 46) (zw (n := 45) (zi_X2_42 (n := 45) (zs (n := 43) (m := 45) (zs (n := 42) (m := 43) (zw (n := 42) (zi_X1_36 (n := 42) (zs (n := 37) (m := 42) (zs (n := 36) (m := 37) hZ (by decide)) (by decide)) (by decide)) (by decide)) (by decide)) (by decide)) (by decide)) (by decide)) (by decide)) (by decide)) (by decide)) (by decide)) (by decide)) (by decide)) (by decide)) (by decide)) (by decide) dX10_init_59 ?_
  show UI C 1 63 27 363 (wr (i_X8_48 (wr (i_X2_45 (wr (i_X2_42 (wr (i_X1_36 μ) 35 0 1)) 35 1 1)) 35 2 1)) 35 3 1) 62 [(0, .ref (gad (cG C) 35))] [.ref (gad (cG C) 62), .ref (gad (cG C) 35)]
  refine v_dup (pc := 62) hC rfl dX10_init_62 ?_
  refine vc_RX10_41 (n := 63) (pc := 63) hC (av := []) (rest := [.ref (gad (cG C) 62), .ref (gad (cG C) 35)]) (ci_X3_62 (d := d - 1) (by omega) (zs (n := 62) (m := 63) (zw (n := 62) (zi_X8_48 (n := 62) (zs (n := 49) (m := 62) (zs (n := 48) (m := 49) (zw (n := 48) (zi_X2_45 (n := 48) (zs (n := 46) (m := 48) (zs (n := 45) (m := 46) (zw (n := 45) (zi_X2_42 (n := 45) (zs (n := 43) (m := 45) (zs (n := 42) (m := 43) (zw (n := 42) (zi_X1_36 (n := 42) (zs (n := 37) (m := 42) (zs (n := 36) (m := 37) hZ (by decide)) (by decide)) (by decide)) (by decide)) (by decide)) (by decide)) (by decide)) (by decide)) (by decide)) (by decide)) (by decide)) (by decide)) (by decide)) (by decide)) (by decide)) (by decide)) (by decide))) rfl (by omega) (Nat.le_of_ble_eq_true rfl) rfl (by decide) rfl dX10_init_63 ?_
  show UI C 1 66 30 399 (i_X3_62 (wr (i_X8_48 (wr (i_X2_45 (wr (i_X2_42 (wr (i_X1_36 μ) 35 0 1)) 35 1 1)) 35 2 1)) 35 3 1)) 66 [(0, .ref (gad (cG C) 35))] [.ref (gad (cG C) 62), .ref (gad (cG C) 35)]
  refine vp_RX10_42 (pc := 66) hC hmn (k := 35) (by decide) rfl rfl dX10_init_66 ?_
  refine v_aload_n (pc := 69) hC dX10_init_69 rfl 0 rfl ?_
  refine vn_RX10_46 (n := 66) (pc := 70) hC rfl rfl (zw (n := 66) (zi_X3_62 (n := 66) (zs (n := 63) (m := 66) (zs (n := 62) (m := 63) (zw (n := 62) (zi_X8_48 (n := 62) (zs (n := 49) (m := 62) (zs (n := 48) (m := 49) (zw (n := 48) (zi_X2_45 (n := 48) (zs (n := 46) (m := 48) (zs (n := 45) (m := 46) (zw (n := 45) (zi_X2_42 (n := 45) (zs (n := 43) (m := 45) (zs (n := 42) (m := 43) (zw (n := 42) (zi_X1_36 (n := 42) (zs (n := 37) (m := 42) (zs (n := 36) (m := 37) hZ (by decide)) (by decide)) (by decide)) (by decide)) (by decide)) (by decide)) (by decide)) (by decide)) (by decide)) (by decide)) (by decide)) (by decide)) (by decide)) (by decide)) (by decide)) (by decide)) (by decide)) (by decide)) (by decide)) (by decide)) (by decide) dX10_init_70 ?_
  show UI C 1 67 31 401 (wr (i_X3_62 (wr (i_X8_48 (wr (i_X2_45 (wr (i_X2_42 (wr (i_X1_36 μ) 35 0 1)) 35 1 1)) 35 2 1)) 35 3 1)) 35 4 1) 73 [(0, .ref (gad (cG C) 35))] [.ref (gad (cG C) 66), .ref (gad (cG C) 35)]
  refine v_dup (pc := 73) hC rfl dX10_init_73 ?_
  refine vc_RX10_48 (n := 67) (pc := 74) hC (av := []) (rest := [.ref (gad (cG C) 66), .ref (gad (cG C) 35)]) (ci_X7_66 (d := d - 1) (by omega) (zs (n := 66) (m := 67) (zw (n := 66) (zi_X3_62 (n := 66) (zs (n := 63) (m := 66) (zs (n := 62) (m := 63) (zw (n := 62) (zi_X8_48 (n := 62) (zs (n := 49) (m := 62) (zs (n := 48) (m := 49) (zw (n := 48) (zi_X2_45 (n := 48) (zs (n := 46) (m := 48) (zs (n := 45) (m := 46) (zw (n := 45) (zi_X2_42 (n := 45) (zs (n := 43) (m := 45) (zs (n := 42) (m := 43) (zw (n := 42) (zi_X1_36 (n := 42) (zs (n := 37) (m := 42) (zs (n := 36) (m := 37) hZ (by decide)) (by decide)) (by decide)) (by decide)) (by decide)) (by decide)) (by decide)) (by decide)) (by decide)) (by decide)) (by decide)) (by decide)) (by decide)) (by decide)) (by decide)) (by decide)) (by decide)) (by decide)) (by decide)) (by decide)) (by decide))) rfl (by omega) (Nat.le_of_ble_eq_true rfl) rfl (by decide) rfl dX10_init_74 ?_
  show UI C 1 68 32 451 (i_X7_66 (wr (i_X3_62 (wr (i_X8_48 (wr (i_X2_45 (wr (i_X2_42 (wr (i_X1_36 μ) 35 0 1)) 35 1 1)) 35 2 1)) 35 3 1)) 35 4 1)) 77 [(0, .ref (gad (cG C) 35))] [.ref (gad (cG C) 66), .ref (gad (cG C) 35)]
  refine vp_RX10_49 (pc := 77) hC hmn (k := 35) (by decide) rfl rfl dX10_init_77 ?_
  refine v_aload_n (pc := 80) hC dX10_init_80 rfl 0 rfl ?_
  refine v_bipush (pc := 81) hC (v := (20 : Int32)) (by decide) dX10_init_81 ?_
  refine v_newaI (n := 68) (pc := 83) hC 20 mA_int (by decide) (by decide) (by decide) rfl rfl rfl (zw (n := 68) (zi_X7_66 (n := 68) (zs (n := 67) (m := 68) (zs (n := 66) (m := 67) (zw (n := 66) (zi_X3_62 (n := 66) (zs (n := 63) (m := 66) (zs (n := 62) (m := 63) (zw (n := 62) (zi_X8_48 (n := 62) (zs (n := 49) (m := 62) (zs (n := 48) (m := 49) (zw (n := 48) (zi_X2_45 (n := 48) (zs (n := 46) (m := 48) (zs (n := 45) (m := 46) (zw (n := 45) (zi_X2_42 (n := 45) (zs (n := 43) (m := 45) (zs (n := 42) (m := 43) (zw (n := 42) (zi_X1_36 (n := 42) (zs (n := 37) (m := 42) (zs (n := 36) (m := 37) hZ (by decide)) (by decide)) (by decide)) (by decide)) (by decide)) (by decide)) (by decide)) (by decide)) (by decide)) (by decide)) (by decide)) (by decide)) (by decide)) (by decide)) (by decide)) (by decide)) (by decide)) (by decide)) (by decide)) (by decide)) (by decide)) (by decide)) (by decide)) (by decide)) (by decide) dX10_init_83 ?_
  show UI C 1 69 33 471 (wr (i_X7_66 (wr (i_X3_62 (wr (i_X8_48 (wr (i_X2_45 (wr (i_X2_42 (wr (i_X1_36 μ) 35 0 1)) 35 1 1)) 35 2 1)) 35 3 1)) 35 4 1)) 35 5 1) 85 [(0, .ref (gad (cG C) 35))] [.ref (gad (cG C) 68), .ref (gad (cG C) 35)]
  refine vp_RX10_53 (pc := 85) hC hmn (k := 35) (by decide) rfl rfl dX10_init_85 ?_
  refine v_aload_n (pc := 88) hC dX10_init_88 rfl 0 rfl ?_
  refine v_iconst (pc := 89) hC (v := (1 : Int32)) (by decide) dX10_init_89 ?_
  refine vp_RX10_57 (pc := 90) hC (k := 35) (by decide) rfl dX10_init_90 ?_
  exact v_ret (pc := 93) hC hQ hr rfl dX10_init_93
theorem fs_X10_1_1_0 {μ : Mem} : ¬ rd (i_X10_1 μ) 1 0 = 0 := by unfold i_X10_1; exact (fl_n (by decide) (fl_n (by decide) (fl_n (by decide) (ff_X7_32 (by decide) (fl_n (by decide) (ff_X3_28 (by decide) (fl_n (by decide) (ff_X8_14 (by decide) (fl_n (by decide) (ff_X2_11 (by decide) (fl_n (by decide) (ff_X2_8 (by decide) (fl_w (by decide))))))))))))))
theorem fs_X10_1_1_1 {μ : Mem} : ¬ rd (i_X10_1 μ) 1 1 = 0 := by unfold i_X10_1; exact (fl_n (by decide) (fl_n (by decide) (fl_n (by decide) (ff_X7_32 (by decide) (fl_n (by decide) (ff_X3_28 (by decide) (fl_n (by decide) (ff_X8_14 (by decide) (fl_n (by decide) (ff_X2_11 (by decide) (fl_w (by decide))))))))))))
def i_X0_71 (μ : Mem) : Mem := wr (wr μ 71 0 1) 71 1 1
theorem zi_X0_71 {n : Nat} {μ : Mem} (h : Zr n μ) (hn : 74 ≤ n) : Zr n (i_X0_71 μ) := by unfold i_X0_71; exact (zw (zw h (by omega)) (by omega))
theorem fi_X0_71 {μ : Mem} {k j : Nat} (hk : k < 71 ∨ 74 ≤ k) : rd (i_X0_71 μ) k j = rd μ k j := by unfold i_X0_71; rw [rdw_ne (by omega), rdw_ne (by omega)]
theorem ff_X0_71 {μ : Mem} {k j : Nat} (hk : k < 71 ∨ 74 ≤ k) (h : ¬ rd μ k j = 0) : ¬ rd (i_X0_71 μ) k j = 0 := by rw [fi_X0_71 hk]; exact h
set_option maxHeartbeats 4000000 in
set_option maxRecDepth 100000 in
theorem ci_X0_71 {l : Launch} {G : GG} {d : Nat} (hd : 0 ≤ d) {μ : Mem} (hZ : Zr 72 μ) : CTI l yX0_init cX0_init 1 d G [.ref (gad G 71)] 72 μ 2 16 (i_X0_71 μ) := by
  refine cti_start (by decide) rfl (Nat.le_of_ble_eq_true rfl) (fun C hl1 hG1 hC hQ hr hmn => ?_)
  subst hl1; subst hG1
  have hC : CxI C cX0_init 1 RX0 d 72 2 16 := hC
  show UI C 1 72 0 0 μ 0 [(0, .ref (gad (cG C) 71))] []
  refine v_aload_n (pc := 0) hC dX0_init_0 rfl 0 rfl ?_
  refine v_objInit (pc := 1) hC mL_RX0_3 mM_O_init mB_O_init (Nat.le_of_ble_eq_true rfl) dX0_init_1 ?_
  refine v_aload_n (pc := 4) hC dX0_init_4 rfl 0 rfl ?_
  refine v_bipush (pc := 5) hC (v := (8 : Int32)) (by decide) dX0_init_5 ?_
  refine v_newaI (n := 72) (pc := 7) hC 8 mA_int (by decide) (by decide) (by decide) rfl rfl rfl hZ (by decide) dX0_init_7 ?_
  show UI C 1 73 1 8 μ 9 [(0, .ref (gad (cG C) 71))] [.ref (gad (cG C) 72), .ref (gad (cG C) 71)]
  refine vp_RX0_9 (pc := 9) hC hmn (k := 71) (by decide) rfl rfl dX0_init_9 ?_
  refine v_aload_n (pc := 12) hC dX0_init_12 rfl 0 rfl ?_
  refine v_bipush (pc := 13) hC (v := (8 : Int32)) (by decide) dX0_init_13 ?_
  refine v_newaI (n := 73) (pc := 15) hC 8 mA_int (by decide) (by decide) (by decide) rfl rfl rfl (zw (n := 73) (zs (n := 72) (m := 73) hZ (by decide)) (by decide)) (by decide) dX0_init_15 ?_
  show UI C 1 74 2 16 (wr μ 71 0 1) 17 [(0, .ref (gad (cG C) 71))] [.ref (gad (cG C) 73), .ref (gad (cG C) 71)]
  refine vp_RX0_15 (pc := 17) hC hmn (k := 71) (by decide) rfl rfl dX0_init_17 ?_
  exact v_ret (pc := 20) hC hQ hr rfl dX0_init_20
def i_X0_74 (μ : Mem) : Mem := wr (wr μ 74 0 1) 74 1 1
theorem zi_X0_74 {n : Nat} {μ : Mem} (h : Zr n μ) (hn : 77 ≤ n) : Zr n (i_X0_74 μ) := by unfold i_X0_74; exact (zw (zw h (by omega)) (by omega))
theorem fi_X0_74 {μ : Mem} {k j : Nat} (hk : k < 74 ∨ 77 ≤ k) : rd (i_X0_74 μ) k j = rd μ k j := by unfold i_X0_74; rw [rdw_ne (by omega), rdw_ne (by omega)]
theorem ff_X0_74 {μ : Mem} {k j : Nat} (hk : k < 74 ∨ 77 ≤ k) (h : ¬ rd μ k j = 0) : ¬ rd (i_X0_74 μ) k j = 0 := by rw [fi_X0_74 hk]; exact h
set_option maxHeartbeats 4000000 in
set_option maxRecDepth 100000 in
theorem ci_X0_74 {l : Launch} {G : GG} {d : Nat} (hd : 0 ≤ d) {μ : Mem} (hZ : Zr 75 μ) : CTI l yX0_init cX0_init 1 d G [.ref (gad G 74)] 75 μ 2 16 (i_X0_74 μ) := by
  refine cti_start (by decide) rfl (Nat.le_of_ble_eq_true rfl) (fun C hl1 hG1 hC hQ hr hmn => ?_)
  subst hl1; subst hG1
  have hC : CxI C cX0_init 1 RX0 d 75 2 16 := hC
  show UI C 1 75 0 0 μ 0 [(0, .ref (gad (cG C) 74))] []
  refine v_aload_n (pc := 0) hC dX0_init_0 rfl 0 rfl ?_
  refine v_objInit (pc := 1) hC mL_RX0_3 mM_O_init mB_O_init (Nat.le_of_ble_eq_true rfl) dX0_init_1 ?_
  refine v_aload_n (pc := 4) hC dX0_init_4 rfl 0 rfl ?_
  refine v_bipush (pc := 5) hC (v := (8 : Int32)) (by decide) dX0_init_5 ?_
  refine v_newaI (n := 75) (pc := 7) hC 8 mA_int (by decide) (by decide) (by decide) rfl rfl rfl hZ (by decide) dX0_init_7 ?_
  show UI C 1 76 1 8 μ 9 [(0, .ref (gad (cG C) 74))] [.ref (gad (cG C) 75), .ref (gad (cG C) 74)]
  refine vp_RX0_9 (pc := 9) hC hmn (k := 74) (by decide) rfl rfl dX0_init_9 ?_
  refine v_aload_n (pc := 12) hC dX0_init_12 rfl 0 rfl ?_
  refine v_bipush (pc := 13) hC (v := (8 : Int32)) (by decide) dX0_init_13 ?_
  refine v_newaI (n := 76) (pc := 15) hC 8 mA_int (by decide) (by decide) (by decide) rfl rfl rfl (zw (n := 76) (zs (n := 75) (m := 76) hZ (by decide)) (by decide)) (by decide) dX0_init_15 ?_
  show UI C 1 77 2 16 (wr μ 74 0 1) 17 [(0, .ref (gad (cG C) 74))] [.ref (gad (cG C) 76), .ref (gad (cG C) 74)]
  refine vp_RX0_15 (pc := 17) hC hmn (k := 74) (by decide) rfl rfl dX0_init_17 ?_
  exact v_ret (pc := 20) hC hQ hr rfl dX0_init_20
def i_X0_77 (μ : Mem) : Mem := wr (wr μ 77 0 1) 77 1 1
theorem zi_X0_77 {n : Nat} {μ : Mem} (h : Zr n μ) (hn : 80 ≤ n) : Zr n (i_X0_77 μ) := by unfold i_X0_77; exact (zw (zw h (by omega)) (by omega))
theorem fi_X0_77 {μ : Mem} {k j : Nat} (hk : k < 77 ∨ 80 ≤ k) : rd (i_X0_77 μ) k j = rd μ k j := by unfold i_X0_77; rw [rdw_ne (by omega), rdw_ne (by omega)]
theorem ff_X0_77 {μ : Mem} {k j : Nat} (hk : k < 77 ∨ 80 ≤ k) (h : ¬ rd μ k j = 0) : ¬ rd (i_X0_77 μ) k j = 0 := by rw [fi_X0_77 hk]; exact h
set_option maxHeartbeats 4000000 in
set_option maxRecDepth 100000 in
theorem ci_X0_77 {l : Launch} {G : GG} {d : Nat} (hd : 0 ≤ d) {μ : Mem} (hZ : Zr 78 μ) : CTI l yX0_init cX0_init 1 d G [.ref (gad G 77)] 78 μ 2 16 (i_X0_77 μ) := by
  refine cti_start (by decide) rfl (Nat.le_of_ble_eq_true rfl) (fun C hl1 hG1 hC hQ hr hmn => ?_)
  subst hl1; subst hG1
  have hC : CxI C cX0_init 1 RX0 d 78 2 16 := hC
  show UI C 1 78 0 0 μ 0 [(0, .ref (gad (cG C) 77))] []
  refine v_aload_n (pc := 0) hC dX0_init_0 rfl 0 rfl ?_
  refine v_objInit (pc := 1) hC mL_RX0_3 mM_O_init mB_O_init (Nat.le_of_ble_eq_true rfl) dX0_init_1 ?_
  refine v_aload_n (pc := 4) hC dX0_init_4 rfl 0 rfl ?_
  refine v_bipush (pc := 5) hC (v := (8 : Int32)) (by decide) dX0_init_5 ?_
  refine v_newaI (n := 78) (pc := 7) hC 8 mA_int (by decide) (by decide) (by decide) rfl rfl rfl hZ (by decide) dX0_init_7 ?_
  show UI C 1 79 1 8 μ 9 [(0, .ref (gad (cG C) 77))] [.ref (gad (cG C) 78), .ref (gad (cG C) 77)]
  refine vp_RX0_9 (pc := 9) hC hmn (k := 77) (by decide) rfl rfl dX0_init_9 ?_
  refine v_aload_n (pc := 12) hC dX0_init_12 rfl 0 rfl ?_
  refine v_bipush (pc := 13) hC (v := (8 : Int32)) (by decide) dX0_init_13 ?_
  refine v_newaI (n := 79) (pc := 15) hC 8 mA_int (by decide) (by decide) (by decide) rfl rfl rfl (zw (n := 79) (zs (n := 78) (m := 79) hZ (by decide)) (by decide)) (by decide) dX0_init_15 ?_
  show UI C 1 80 2 16 (wr μ 77 0 1) 17 [(0, .ref (gad (cG C) 77))] [.ref (gad (cG C) 79), .ref (gad (cG C) 77)]
  refine vp_RX0_15 (pc := 17) hC hmn (k := 77) (by decide) rfl rfl dX0_init_17 ?_
  exact v_ret (pc := 20) hC hQ hr rfl dX0_init_20
def i_X0_80 (μ : Mem) : Mem := wr (wr μ 80 0 1) 80 1 1
theorem zi_X0_80 {n : Nat} {μ : Mem} (h : Zr n μ) (hn : 83 ≤ n) : Zr n (i_X0_80 μ) := by unfold i_X0_80; exact (zw (zw h (by omega)) (by omega))
theorem fi_X0_80 {μ : Mem} {k j : Nat} (hk : k < 80 ∨ 83 ≤ k) : rd (i_X0_80 μ) k j = rd μ k j := by unfold i_X0_80; rw [rdw_ne (by omega), rdw_ne (by omega)]
theorem ff_X0_80 {μ : Mem} {k j : Nat} (hk : k < 80 ∨ 83 ≤ k) (h : ¬ rd μ k j = 0) : ¬ rd (i_X0_80 μ) k j = 0 := by rw [fi_X0_80 hk]; exact h
set_option maxHeartbeats 4000000 in
set_option maxRecDepth 100000 in
theorem ci_X0_80 {l : Launch} {G : GG} {d : Nat} (hd : 0 ≤ d) {μ : Mem} (hZ : Zr 81 μ) : CTI l yX0_init cX0_init 1 d G [.ref (gad G 80)] 81 μ 2 16 (i_X0_80 μ) := by
  refine cti_start (by decide) rfl (Nat.le_of_ble_eq_true rfl) (fun C hl1 hG1 hC hQ hr hmn => ?_)
  subst hl1; subst hG1
  have hC : CxI C cX0_init 1 RX0 d 81 2 16 := hC
  show UI C 1 81 0 0 μ 0 [(0, .ref (gad (cG C) 80))] []
  refine v_aload_n (pc := 0) hC dX0_init_0 rfl 0 rfl ?_
  refine v_objInit (pc := 1) hC mL_RX0_3 mM_O_init mB_O_init (Nat.le_of_ble_eq_true rfl) dX0_init_1 ?_
  refine v_aload_n (pc := 4) hC dX0_init_4 rfl 0 rfl ?_
  refine v_bipush (pc := 5) hC (v := (8 : Int32)) (by decide) dX0_init_5 ?_
  refine v_newaI (n := 81) (pc := 7) hC 8 mA_int (by decide) (by decide) (by decide) rfl rfl rfl hZ (by decide) dX0_init_7 ?_
  show UI C 1 82 1 8 μ 9 [(0, .ref (gad (cG C) 80))] [.ref (gad (cG C) 81), .ref (gad (cG C) 80)]
  refine vp_RX0_9 (pc := 9) hC hmn (k := 80) (by decide) rfl rfl dX0_init_9 ?_
  refine v_aload_n (pc := 12) hC dX0_init_12 rfl 0 rfl ?_
  refine v_bipush (pc := 13) hC (v := (8 : Int32)) (by decide) dX0_init_13 ?_
  refine v_newaI (n := 82) (pc := 15) hC 8 mA_int (by decide) (by decide) (by decide) rfl rfl rfl (zw (n := 82) (zs (n := 81) (m := 82) hZ (by decide)) (by decide)) (by decide) dX0_init_15 ?_
  show UI C 1 83 2 16 (wr μ 80 0 1) 17 [(0, .ref (gad (cG C) 80))] [.ref (gad (cG C) 82), .ref (gad (cG C) 80)]
  refine vp_RX0_15 (pc := 17) hC hmn (k := 80) (by decide) rfl rfl dX0_init_17 ?_
  exact v_ret (pc := 20) hC hQ hr rfl dX0_init_20
def i_X8_69 (μ : Mem) : Mem := wr (i_X0_80 (wr (i_X0_77 (wr (i_X0_74 (wr (i_X0_71 (wr (wr (wr μ 69 0 1) 69 1 1) 69 2 1)) 70 (0 : Int32).toNatClampNeg 1)) 70 (1 : Int32).toNatClampNeg 1)) 70 (2 : Int32).toNatClampNeg 1)) 70 (3 : Int32).toNatClampNeg 1
theorem zi_X8_69 {n : Nat} {μ : Mem} (h : Zr n μ) (hn : 83 ≤ n) : Zr n (i_X8_69 μ) := by unfold i_X8_69; exact (zw (zi_X0_80 (zw (zi_X0_77 (zw (zi_X0_74 (zw (zi_X0_71 (zw (zw (zw h (by omega)) (by omega)) (by omega)) (by omega)) (by omega)) (by omega)) (by omega)) (by omega)) (by omega)) (by omega)) (by omega))
theorem fi_X8_69 {μ : Mem} {k j : Nat} (hk : k < 69 ∨ 83 ≤ k) : rd (i_X8_69 μ) k j = rd μ k j := by unfold i_X8_69; rw [rdw_ne (by omega), fi_X0_80 (by omega), rdw_ne (by omega), fi_X0_77 (by omega), rdw_ne (by omega), fi_X0_74 (by omega), rdw_ne (by omega), fi_X0_71 (by omega), rdw_ne (by omega), rdw_ne (by omega), rdw_ne (by omega)]
theorem ff_X8_69 {μ : Mem} {k j : Nat} (hk : k < 69 ∨ 83 ≤ k) (h : ¬ rd μ k j = 0) : ¬ rd (i_X8_69 μ) k j = 0 := by rw [fi_X8_69 hk]; exact h
set_option maxHeartbeats 4000000 in
set_option maxRecDepth 100000 in
theorem ci_X8_69 {l : Launch} {G : GG} {d : Nat} (hd : 1 ≤ d) {μ : Mem} (hZ : Zr 70 μ) : CTI l yX8_init cX8_init 4 d G [.ref (gad G 69), .ref (gad G 2), .ref (gad G 8)] 70 μ 13 100 (i_X8_69 μ) := by
  refine cti_start (by decide) rfl (Nat.le_of_ble_eq_true rfl) (fun C hl1 hG1 hC hQ hr hmn => ?_)
  subst hl1; subst hG1
  have hC : CxI C cX8_init 4 RX8 d 70 13 100 := hC
  show UI C 4 70 0 0 μ 0 [(0, .ref (gad (cG C) 69)), (1, .ref (gad (cG C) 2)), (2, .ref (gad (cG C) 8))] []
  refine v_aload_n (pc := 0) hC dX8_init_0 rfl 0 rfl ?_
  refine v_objInit (pc := 1) hC mL_RX8_3 mM_O_init mB_O_init (Nat.le_of_ble_eq_true rfl) dX8_init_1 ?_
  refine v_aload_n (pc := 4) hC dX8_init_4 rfl 0 rfl ?_
  refine v_iconst (pc := 5) hC (v := (4 : Int32)) (by decide) dX8_init_5 ?_
  refine v_newrD (n := 70) (pc := 6) hC mC_RX8_9 (by decide) (by decide) rfl rfl rfl hZ (by decide) dX8_init_6 ?_
  show UI C 4 71 1 4 μ 9 [(0, .ref (gad (cG C) 69)), (1, .ref (gad (cG C) 2)), (2, .ref (gad (cG C) 8))] [.ref (gad (cG C) 70), .ref (gad (cG C) 69)]
  refine vp_RX8_11 (pc := 9) hC hmn (k := 69) (by decide) rfl rfl dX8_init_9 ?_
  refine v_aload_n (pc := 12) hC dX8_init_12 rfl 0 rfl ?_
  refine v_aload_n (pc := 13) hC dX8_init_13 rfl 1 rfl ?_
  refine vp_RX8_17 (pc := 14) hC hmn (k := 69) (by decide) rfl rfl dX8_init_14 ?_
  refine v_aload_n (pc := 17) hC dX8_init_17 rfl 0 rfl ?_
  refine v_aload_n (pc := 18) hC dX8_init_18 rfl 2 rfl ?_
  refine vp_RX8_21 (pc := 19) hC hmn (k := 69) (by decide) rfl rfl dX8_init_19 ?_
  refine v_iconst (pc := 22) hC (v := (0 : Int32)) (by decide) dX8_init_22 ?_
  refine v_istore_n (pc := 23) hC dX8_init_23 rfl [(3, .int (0 : Int32)), (0, .ref (gad (cG C) 69)), (1, .ref (gad (cG C) 2)), (2, .ref (gad (cG C) 8))] (by decide) rfl ?_
  refine v_iload_n (pc := 24) hC dX8_init_24 rfl 0 rfl ?_
  refine v_iconst (pc := 25) hC (v := (4 : Int32)) (by decide) dX8_init_25 ?_
  refine v_icmp_ge (pc := 26) hC 48 dX8_init_26 (by decide) (fun q => absurd q (by decide)) (fun _ => ?_)
  refine v_aload_n (pc := 29) hC dX8_init_29 rfl 1 rfl ?_
  refine vg_RX8_11 (pc := 30) hC (k := 69) 70 (by decide) rfl rfl (fl_n (by decide) (fl_n (by decide) (fl_w (by decide)))) dX8_init_30 ?_
  refine v_iload_n (pc := 33) hC dX8_init_33 rfl 0 rfl ?_
  refine vn_RX8_9 (n := 71) (pc := 34) hC rfl rfl (zw (n := 71) (zw (n := 71) (zw (n := 71) (zs (n := 70) (m := 71) hZ (by decide)) (by decide)) (by decide)) (by decide)) (by decide) dX8_init_34 ?_
  show UI C 4 72 2 12 (wr (wr (wr μ 69 0 1) 69 1 1) 69 2 1) 37 [(3, .int (0 : Int32)), (0, .ref (gad (cG C) 69)), (1, .ref (gad (cG C) 2)), (2, .ref (gad (cG C) 8))] [.ref (gad (cG C) 71), .int (0 : Int32), .ref (gad (cG C) 70)]
  refine v_dup (pc := 37) hC rfl dX8_init_37 ?_
  refine vc_RX8_25 (n := 72) (pc := 38) hC (av := []) (rest := [.ref (gad (cG C) 71), .int (0 : Int32), .ref (gad (cG C) 70)]) (ci_X0_71 (d := d - 1) (by omega) (zs (n := 71) (m := 72) (zw (n := 71) (zw (n := 71) (zw (n := 71) (zs (n := 70) (m := 71) hZ (by decide)) (by decide)) (by decide)) (by decide)) (by decide))) rfl (by omega) (Nat.le_of_ble_eq_true rfl) rfl (by decide) rfl dX8_init_38 ?_
  show UI C 4 74 4 28 (i_X0_71 (wr (wr (wr μ 69 0 1) 69 1 1) 69 2 1)) 41 [(3, .int (0 : Int32)), (0, .ref (gad (cG C) 69)), (1, .ref (gad (cG C) 2)), (2, .ref (gad (cG C) 8))] [.ref (gad (cG C) 71), .int (0 : Int32), .ref (gad (cG C) 70)]
  refine v_aastD (pc := 41) hC (k := 70) (k2 := 71) (by decide) rfl (by decide) (by decide) rfl (by decide) dX8_init_41 ?_
  refine v_iinc (pc := 42) hC dX8_init_42 0 rfl (1 : Int32) (by decide) [(3, .int (1 : Int32)), (0, .ref (gad (cG C) 69)), (1, .ref (gad (cG C) 2)), (2, .ref (gad (cG C) 8))] (by decide) rfl ?_
  refine v_goto (pc := 45) hC 24 dX8_init_45 (by decide) ?_
  refine v_iload_n (pc := 24) hC dX8_init_24 rfl 0 rfl ?_
  refine v_iconst (pc := 25) hC (v := (4 : Int32)) (by decide) dX8_init_25 ?_
  refine v_icmp_ge (pc := 26) hC 48 dX8_init_26 (by decide) (fun q => absurd q (by decide)) (fun _ => ?_)
  refine v_aload_n (pc := 29) hC dX8_init_29 rfl 1 rfl ?_
  refine vg_RX8_11 (pc := 30) hC (k := 69) 70 (by decide) rfl rfl (fl_n (by decide) (ff_X0_71 (by decide) (fl_n (by decide) (fl_n (by decide) (fl_w (by decide)))))) dX8_init_30 ?_
  refine v_iload_n (pc := 33) hC dX8_init_33 rfl 0 rfl ?_
  refine vn_RX8_9 (n := 74) (pc := 34) hC rfl rfl (zw (n := 74) (zi_X0_71 (n := 74) (zs (n := 72) (m := 74) (zs (n := 71) (m := 72) (zw (n := 71) (zw (n := 71) (zw (n := 71) (zs (n := 70) (m := 71) hZ (by decide)) (by decide)) (by decide)) (by decide)) (by decide)) (by decide)) (by decide)) (by decide)) (by decide) dX8_init_34 ?_
  show UI C 4 75 5 36 (wr (i_X0_71 (wr (wr (wr μ 69 0 1) 69 1 1) 69 2 1)) 70 (0 : Int32).toNatClampNeg 1) 37 [(3, .int (1 : Int32)), (0, .ref (gad (cG C) 69)), (1, .ref (gad (cG C) 2)), (2, .ref (gad (cG C) 8))] [.ref (gad (cG C) 74), .int (1 : Int32), .ref (gad (cG C) 70)]
  refine v_dup (pc := 37) hC rfl dX8_init_37 ?_
  refine vc_RX8_25 (n := 75) (pc := 38) hC (av := []) (rest := [.ref (gad (cG C) 74), .int (1 : Int32), .ref (gad (cG C) 70)]) (ci_X0_74 (d := d - 1) (by omega) (zs (n := 74) (m := 75) (zw (n := 74) (zi_X0_71 (n := 74) (zs (n := 72) (m := 74) (zs (n := 71) (m := 72) (zw (n := 71) (zw (n := 71) (zw (n := 71) (zs (n := 70) (m := 71) hZ (by decide)) (by decide)) (by decide)) (by decide)) (by decide)) (by decide)) (by decide)) (by decide)) (by decide))) rfl (by omega) (Nat.le_of_ble_eq_true rfl) rfl (by decide) rfl dX8_init_38 ?_
  show UI C 4 77 7 52 (i_X0_74 (wr (i_X0_71 (wr (wr (wr μ 69 0 1) 69 1 1) 69 2 1)) 70 (0 : Int32).toNatClampNeg 1)) 41 [(3, .int (1 : Int32)), (0, .ref (gad (cG C) 69)), (1, .ref (gad (cG C) 2)), (2, .ref (gad (cG C) 8))] [.ref (gad (cG C) 74), .int (1 : Int32), .ref (gad (cG C) 70)]
  refine v_aastD (pc := 41) hC (k := 70) (k2 := 74) (by decide) rfl (by decide) (by decide) rfl (by decide) dX8_init_41 ?_
  refine v_iinc (pc := 42) hC dX8_init_42 0 rfl (2 : Int32) (by decide) [(3, .int (2 : Int32)), (0, .ref (gad (cG C) 69)), (1, .ref (gad (cG C) 2)), (2, .ref (gad (cG C) 8))] (by decide) rfl ?_
  refine v_goto (pc := 45) hC 24 dX8_init_45 (by decide) ?_
  refine v_iload_n (pc := 24) hC dX8_init_24 rfl 0 rfl ?_
  refine v_iconst (pc := 25) hC (v := (4 : Int32)) (by decide) dX8_init_25 ?_
  refine v_icmp_ge (pc := 26) hC 48 dX8_init_26 (by decide) (fun q => absurd q (by decide)) (fun _ => ?_)
  refine v_aload_n (pc := 29) hC dX8_init_29 rfl 1 rfl ?_
  refine vg_RX8_11 (pc := 30) hC (k := 69) 70 (by decide) rfl rfl (fl_n (by decide) (ff_X0_74 (by decide) (fl_n (by decide) (ff_X0_71 (by decide) (fl_n (by decide) (fl_n (by decide) (fl_w (by decide)))))))) dX8_init_30 ?_
  refine v_iload_n (pc := 33) hC dX8_init_33 rfl 0 rfl ?_
  refine vn_RX8_9 (n := 77) (pc := 34) hC rfl rfl (zw (n := 77) (zi_X0_74 (n := 77) (zs (n := 75) (m := 77) (zs (n := 74) (m := 75) (zw (n := 74) (zi_X0_71 (n := 74) (zs (n := 72) (m := 74) (zs (n := 71) (m := 72) (zw (n := 71) (zw (n := 71) (zw (n := 71) (zs (n := 70) (m := 71) hZ (by decide)) (by decide)) (by decide)) (by decide)) (by decide)) (by decide)) (by decide)) (by decide)) (by decide)) (by decide)) (by decide)) (by decide)) (by decide) dX8_init_34 ?_
  show UI C 4 78 8 60 (wr (i_X0_74 (wr (i_X0_71 (wr (wr (wr μ 69 0 1) 69 1 1) 69 2 1)) 70 (0 : Int32).toNatClampNeg 1)) 70 (1 : Int32).toNatClampNeg 1) 37 [(3, .int (2 : Int32)), (0, .ref (gad (cG C) 69)), (1, .ref (gad (cG C) 2)), (2, .ref (gad (cG C) 8))] [.ref (gad (cG C) 77), .int (2 : Int32), .ref (gad (cG C) 70)]
  refine v_dup (pc := 37) hC rfl dX8_init_37 ?_
  refine vc_RX8_25 (n := 78) (pc := 38) hC (av := []) (rest := [.ref (gad (cG C) 77), .int (2 : Int32), .ref (gad (cG C) 70)]) (ci_X0_77 (d := d - 1) (by omega) (zs (n := 77) (m := 78) (zw (n := 77) (zi_X0_74 (n := 77) (zs (n := 75) (m := 77) (zs (n := 74) (m := 75) (zw (n := 74) (zi_X0_71 (n := 74) (zs (n := 72) (m := 74) (zs (n := 71) (m := 72) (zw (n := 71) (zw (n := 71) (zw (n := 71) (zs (n := 70) (m := 71) hZ (by decide)) (by decide)) (by decide)) (by decide)) (by decide)) (by decide)) (by decide)) (by decide)) (by decide)) (by decide)) (by decide)) (by decide)) (by decide))) rfl (by omega) (Nat.le_of_ble_eq_true rfl) rfl (by decide) rfl dX8_init_38 ?_
  show UI C 4 80 10 76 (i_X0_77 (wr (i_X0_74 (wr (i_X0_71 (wr (wr (wr μ 69 0 1) 69 1 1) 69 2 1)) 70 (0 : Int32).toNatClampNeg 1)) 70 (1 : Int32).toNatClampNeg 1)) 41 [(3, .int (2 : Int32)), (0, .ref (gad (cG C) 69)), (1, .ref (gad (cG C) 2)), (2, .ref (gad (cG C) 8))] [.ref (gad (cG C) 77), .int (2 : Int32), .ref (gad (cG C) 70)]
  refine v_aastD (pc := 41) hC (k := 70) (k2 := 77) (by decide) rfl (by decide) (by decide) rfl (by decide) dX8_init_41 ?_
  refine v_iinc (pc := 42) hC dX8_init_42 0 rfl (3 : Int32) (by decide) [(3, .int (3 : Int32)), (0, .ref (gad (cG C) 69)), (1, .ref (gad (cG C) 2)), (2, .ref (gad (cG C) 8))] (by decide) rfl ?_
  refine v_goto (pc := 45) hC 24 dX8_init_45 (by decide) ?_
  refine v_iload_n (pc := 24) hC dX8_init_24 rfl 0 rfl ?_
  refine v_iconst (pc := 25) hC (v := (4 : Int32)) (by decide) dX8_init_25 ?_
  refine v_icmp_ge (pc := 26) hC 48 dX8_init_26 (by decide) (fun q => absurd q (by decide)) (fun _ => ?_)
  refine v_aload_n (pc := 29) hC dX8_init_29 rfl 1 rfl ?_
  refine vg_RX8_11 (pc := 30) hC (k := 69) 70 (by decide) rfl rfl (fl_n (by decide) (ff_X0_77 (by decide) (fl_n (by decide) (ff_X0_74 (by decide) (fl_n (by decide) (ff_X0_71 (by decide) (fl_n (by decide) (fl_n (by decide) (fl_w (by decide)))))))))) dX8_init_30 ?_
  refine v_iload_n (pc := 33) hC dX8_init_33 rfl 0 rfl ?_
  refine vn_RX8_9 (n := 80) (pc := 34) hC rfl rfl (zw (n := 80) (zi_X0_77 (n := 80) (zs (n := 78) (m := 80) (zs (n := 77) (m := 78) (zw (n := 77) (zi_X0_74 (n := 77) (zs (n := 75) (m := 77) (zs (n := 74) (m := 75) (zw (n := 74) (zi_X0_71 (n := 74) (zs (n := 72) (m := 74) (zs (n := 71) (m := 72) (zw (n := 71) (zw (n := 71) (zw (n := 71) (zs (n := 70) (m := 71) hZ (by decide)) (by decide)) (by decide)) (by decide)) (by decide)) (by decide)) (by decide)) (by decide)) (by decide)) (by decide)) (by decide)) (by decide)) (by decide)) (by decide)) (by decide)) (by decide)) (by decide) dX8_init_34 ?_
  show UI C 4 81 11 84 (wr (i_X0_77 (wr (i_X0_74 (wr (i_X0_71 (wr (wr (wr μ 69 0 1) 69 1 1) 69 2 1)) 70 (0 : Int32).toNatClampNeg 1)) 70 (1 : Int32).toNatClampNeg 1)) 70 (2 : Int32).toNatClampNeg 1) 37 [(3, .int (3 : Int32)), (0, .ref (gad (cG C) 69)), (1, .ref (gad (cG C) 2)), (2, .ref (gad (cG C) 8))] [.ref (gad (cG C) 80), .int (3 : Int32), .ref (gad (cG C) 70)]
  refine v_dup (pc := 37) hC rfl dX8_init_37 ?_
  refine vc_RX8_25 (n := 81) (pc := 38) hC (av := []) (rest := [.ref (gad (cG C) 80), .int (3 : Int32), .ref (gad (cG C) 70)]) (ci_X0_80 (d := d - 1) (by omega) (zs (n := 80) (m := 81) (zw (n := 80) (zi_X0_77 (n := 80) (zs (n := 78) (m := 80) (zs (n := 77) (m := 78) (zw (n := 77) (zi_X0_74 (n := 77) (zs (n := 75) (m := 77) (zs (n := 74) (m := 75) (zw (n := 74) (zi_X0_71 (n := 74) (zs (n := 72) (m := 74) (zs (n := 71) (m := 72) (zw (n := 71) (zw (n := 71) (zw (n := 71) (zs (n := 70) (m := 71) hZ (by decide)) (by decide)) (by decide)) (by decide)) (by decide)) (by decide)) (by decide)) (by decide)) (by decide)) (by decide)) (by decide)) (by decide)) (by decide)) (by decide)) (by decide)) (by decide)) (by decide))) rfl (by omega) (Nat.le_of_ble_eq_true rfl) rfl (by decide) rfl dX8_init_38 ?_
  show UI C 4 83 13 100 (i_X0_80 (wr (i_X0_77 (wr (i_X0_74 (wr (i_X0_71 (wr (wr (wr μ 69 0 1) 69 1 1) 69 2 1)) 70 (0 : Int32).toNatClampNeg 1)) 70 (1 : Int32).toNatClampNeg 1)) 70 (2 : Int32).toNatClampNeg 1)) 41 [(3, .int (3 : Int32)), (0, .ref (gad (cG C) 69)), (1, .ref (gad (cG C) 2)), (2, .ref (gad (cG C) 8))] [.ref (gad (cG C) 80), .int (3 : Int32), .ref (gad (cG C) 70)]
  refine v_aastD (pc := 41) hC (k := 70) (k2 := 80) (by decide) rfl (by decide) (by decide) rfl (by decide) dX8_init_41 ?_
  refine v_iinc (pc := 42) hC dX8_init_42 0 rfl (4 : Int32) (by decide) [(3, .int (4 : Int32)), (0, .ref (gad (cG C) 69)), (1, .ref (gad (cG C) 2)), (2, .ref (gad (cG C) 8))] (by decide) rfl ?_
  refine v_goto (pc := 45) hC 24 dX8_init_45 (by decide) ?_
  refine v_iload_n (pc := 24) hC dX8_init_24 rfl 0 rfl ?_
  refine v_iconst (pc := 25) hC (v := (4 : Int32)) (by decide) dX8_init_25 ?_
  refine v_icmp_ge (pc := 26) hC 48 dX8_init_26 (by decide) (fun _ => ?_) (fun q => absurd (by decide) q)
  exact v_ret (pc := 48) hC hQ hr rfl dX8_init_48
def i_X5_83 (μ : Mem) : Mem := wr (wr (wr (wr (wr μ 83 0 1) 83 3 1) 83 4 1) 83 5 1) 83 2 1
theorem zi_X5_83 {n : Nat} {μ : Mem} (h : Zr n μ) (hn : 88 ≤ n) : Zr n (i_X5_83 μ) := by unfold i_X5_83; exact (zw (zw (zw (zw (zw h (by omega)) (by omega)) (by omega)) (by omega)) (by omega))
theorem fi_X5_83 {μ : Mem} {k j : Nat} (hk : k < 83 ∨ 88 ≤ k) : rd (i_X5_83 μ) k j = rd μ k j := by unfold i_X5_83; rw [rdw_ne (by omega), rdw_ne (by omega), rdw_ne (by omega), rdw_ne (by omega), rdw_ne (by omega)]
theorem ff_X5_83 {μ : Mem} {k j : Nat} (hk : k < 83 ∨ 88 ≤ k) (h : ¬ rd μ k j = 0) : ¬ rd (i_X5_83 μ) k j = 0 := by rw [fi_X5_83 hk]; exact h
set_option maxHeartbeats 4000000 in
set_option maxRecDepth 100000 in
theorem ci_X5_83 {l : Launch} {G : GG} {d : Nat} (hd : 0 ≤ d) {μ : Mem} (hZ : Zr 84 μ) : CTI l yX5_init cX5_init 2 d G [.ref (gad G 83), .ref (gad G 2)] 84 μ 4 280 (i_X5_83 μ) := by
  refine cti_start (by decide) rfl (Nat.le_of_ble_eq_true rfl) (fun C hl1 hG1 hC hQ hr hmn => ?_)
  subst hl1; subst hG1
  have hC : CxI C cX5_init 2 RX5 d 84 4 280 := hC
  show UI C 2 84 0 0 μ 0 [(0, .ref (gad (cG C) 83)), (1, .ref (gad (cG C) 2))] []
  refine v_aload_n (pc := 0) hC dX5_init_0 rfl 0 rfl ?_
  refine v_objInit (pc := 1) hC mL_RX5_3 mM_O_init mB_O_init (Nat.le_of_ble_eq_true rfl) dX5_init_1 ?_
  refine v_aload_n (pc := 4) hC dX5_init_4 rfl 0 rfl ?_
  refine v_bipush (pc := 5) hC (v := (8 : Int32)) (by decide) dX5_init_5 ?_
  refine v_newaI (n := 84) (pc := 7) hC 8 mA_int (by decide) (by decide) (by decide) rfl rfl rfl hZ (by decide) dX5_init_7 ?_
  show UI C 2 85 1 8 μ 9 [(0, .ref (gad (cG C) 83)), (1, .ref (gad (cG C) 2))] [.ref (gad (cG C) 84), .ref (gad (cG C) 83)]
  refine vp_RX5_9 (pc := 9) hC hmn (k := 83) (by decide) rfl rfl dX5_init_9 ?_
  refine v_aload_n (pc := 12) hC dX5_init_12 rfl 0 rfl ?_
  refine v_bipush (pc := 13) hC (v := (8 : Int32)) (by decide) dX5_init_13 ?_
  refine v_newaI (n := 85) (pc := 15) hC 8 mA_int (by decide) (by decide) (by decide) rfl rfl rfl (zw (n := 85) (zs (n := 84) (m := 85) hZ (by decide)) (by decide)) (by decide) dX5_init_15 ?_
  show UI C 2 86 2 16 (wr μ 83 0 1) 17 [(0, .ref (gad (cG C) 83)), (1, .ref (gad (cG C) 2))] [.ref (gad (cG C) 85), .ref (gad (cG C) 83)]
  refine vp_RX5_15 (pc := 17) hC hmn (k := 83) (by decide) rfl rfl dX5_init_17 ?_
  refine v_aload_n (pc := 20) hC dX5_init_20 rfl 0 rfl ?_
  refine v_bipush (pc := 21) hC (v := (8 : Int32)) (by decide) dX5_init_21 ?_
  refine v_newaI (n := 86) (pc := 23) hC 8 mA_int (by decide) (by decide) (by decide) rfl rfl rfl (zw (n := 86) (zs (n := 85) (m := 86) (zw (n := 85) (zs (n := 84) (m := 85) hZ (by decide)) (by decide)) (by decide)) (by decide)) (by decide) dX5_init_23 ?_
  show UI C 2 87 3 24 (wr (wr μ 83 0 1) 83 3 1) 25 [(0, .ref (gad (cG C) 83)), (1, .ref (gad (cG C) 2))] [.ref (gad (cG C) 86), .ref (gad (cG C) 83)]
  refine vp_RX5_18 (pc := 25) hC hmn (k := 83) (by decide) rfl rfl dX5_init_25 ?_
  refine v_aload_n (pc := 28) hC dX5_init_28 rfl 0 rfl ?_
  refine v_sipush (pc := 29) hC (v := (256 : Int32)) (by decide) dX5_init_29 ?_
  refine v_newaJ (n := 87) (pc := 32) hC 256 mA_long (by decide) (by decide) (by decide) rfl rfl rfl (zw (n := 87) (zs (n := 86) (m := 87) (zw (n := 86) (zs (n := 85) (m := 86) (zw (n := 85) (zs (n := 84) (m := 85) hZ (by decide)) (by decide)) (by decide)) (by decide)) (by decide)) (by decide)) (by decide) dX5_init_32 ?_
  show UI C 2 88 4 280 (wr (wr (wr μ 83 0 1) 83 3 1) 83 4 1) 34 [(0, .ref (gad (cG C) 83)), (1, .ref (gad (cG C) 2))] [.ref (gad (cG C) 87), .ref (gad (cG C) 83)]
  refine vp_RX5_21 (pc := 34) hC hmn (k := 83) (by decide) rfl rfl dX5_init_34 ?_
  refine v_aload_n (pc := 37) hC dX5_init_37 rfl 0 rfl ?_
  refine v_aload_n (pc := 38) hC dX5_init_38 rfl 1 rfl ?_
  refine vp_RX5_25 (pc := 39) hC hmn (k := 83) (by decide) rfl rfl dX5_init_39 ?_
  exact v_ret (pc := 42) hC hQ hr rfl dX5_init_42
def i_X7_90 (μ : Mem) : Mem := wr μ 90 0 1
theorem zi_X7_90 {n : Nat} {μ : Mem} (h : Zr n μ) (hn : 92 ≤ n) : Zr n (i_X7_90 μ) := by unfold i_X7_90; exact (zw h (by omega))
theorem fi_X7_90 {μ : Mem} {k j : Nat} (hk : k < 90 ∨ 92 ≤ k) : rd (i_X7_90 μ) k j = rd μ k j := by unfold i_X7_90; rw [rdw_ne (by omega)]
theorem ff_X7_90 {μ : Mem} {k j : Nat} (hk : k < 90 ∨ 92 ≤ k) (h : ¬ rd μ k j = 0) : ¬ rd (i_X7_90 μ) k j = 0 := by rw [fi_X7_90 hk]; exact h
set_option maxHeartbeats 4000000 in
set_option maxRecDepth 100000 in
theorem ci_X7_90 {l : Launch} {G : GG} {d : Nat} (hd : 0 ≤ d) {μ : Mem} (hZ : Zr 91 μ) : CTI l yX7_init cX7_init 1 d G [.ref (gad G 90)] 91 μ 1 50 (i_X7_90 μ) := by
  refine cti_start (by decide) rfl (Nat.le_of_ble_eq_true rfl) (fun C hl1 hG1 hC hQ hr hmn => ?_)
  subst hl1; subst hG1
  have hC : CxI C cX7_init 1 RX7 d 91 1 50 := hC
  show UI C 1 91 0 0 μ 0 [(0, .ref (gad (cG C) 90))] []
  refine v_aload_n (pc := 0) hC dX7_init_0 rfl 0 rfl ?_
  refine v_objInit (pc := 1) hC mL_RX7_3 mM_O_init mB_O_init (Nat.le_of_ble_eq_true rfl) dX7_init_1 ?_
  refine v_aload_n (pc := 4) hC dX7_init_4 rfl 0 rfl ?_
  refine v_bipush (pc := 5) hC (v := (50 : Int32)) (by decide) dX7_init_5 ?_
  refine v_newaI (n := 91) (pc := 7) hC 50 mA_int (by decide) (by decide) (by decide) rfl rfl rfl hZ (by decide) dX7_init_7 ?_
  show UI C 1 92 1 50 μ 9 [(0, .ref (gad (cG C) 90))] [.ref (gad (cG C) 91), .ref (gad (cG C) 90)]
  refine vp_RX7_9 (pc := 9) hC hmn (k := 90) (by decide) rfl rfl dX7_init_9 ?_
  exact v_ret (pc := 12) hC hQ hr rfl dX7_init_12
def i_X4_88 (μ : Mem) : Mem := wr (i_X7_90 (wr μ 88 0 1)) 88 2 (nI 90)
theorem zi_X4_88 {n : Nat} {μ : Mem} (h : Zr n μ) (hn : 92 ≤ n) : Zr n (i_X4_88 μ) := by unfold i_X4_88; exact (zw (zi_X7_90 (zw h (by omega)) (by omega)) (by omega))
theorem fi_X4_88 {μ : Mem} {k j : Nat} (hk : k < 88 ∨ 92 ≤ k) : rd (i_X4_88 μ) k j = rd μ k j := by unfold i_X4_88; rw [rdw_ne (by omega), fi_X7_90 (by omega), rdw_ne (by omega)]
theorem ff_X4_88 {μ : Mem} {k j : Nat} (hk : k < 88 ∨ 92 ≤ k) (h : ¬ rd μ k j = 0) : ¬ rd (i_X4_88 μ) k j = 0 := by rw [fi_X4_88 hk]; exact h
set_option maxHeartbeats 4000000 in
set_option maxRecDepth 100000 in
theorem ci_X4_88 {l : Launch} {G : GG} {d : Nat} (hd : 1 ≤ d) {μ : Mem} (hZ : Zr 89 μ) : CTI l yX4_init cX4_init 1 d G [.ref (gad G 88)] 89 μ 3 102 (i_X4_88 μ) := by
  refine cti_start (by decide) rfl (Nat.le_of_ble_eq_true rfl) (fun C hl1 hG1 hC hQ hr hmn => ?_)
  subst hl1; subst hG1
  have hC : CxI C cX4_init 1 RX4 d 89 3 102 := hC
  show UI C 1 89 0 0 μ 0 [(0, .ref (gad (cG C) 88))] []
  refine v_aload_n (pc := 0) hC dX4_init_0 rfl 0 rfl ?_
  refine v_objInit (pc := 1) hC mL_RX4_3 mM_O_init mB_O_init (Nat.le_of_ble_eq_true rfl) dX4_init_1 ?_
  refine v_aload_n (pc := 4) hC dX4_init_4 rfl 0 rfl ?_
  refine v_bipush (pc := 5) hC (v := (50 : Int32)) (by decide) dX4_init_5 ?_
  refine v_newaI (n := 89) (pc := 7) hC 50 mA_int (by decide) (by decide) (by decide) rfl rfl rfl hZ (by decide) dX4_init_7 ?_
  show UI C 1 90 1 50 μ 9 [(0, .ref (gad (cG C) 88))] [.ref (gad (cG C) 89), .ref (gad (cG C) 88)]
  refine vp_RX4_9 (pc := 9) hC hmn (k := 88) (by decide) rfl rfl dX4_init_9 ?_
  refine v_aload_n (pc := 12) hC dX4_init_12 rfl 0 rfl ?_
  refine vn_RX4_15 (n := 90) (pc := 13) hC rfl rfl (zw (n := 90) (zs (n := 89) (m := 90) hZ (by decide)) (by decide)) (by decide) dX4_init_13 ?_
  show UI C 1 91 2 52 (wr μ 88 0 1) 16 [(0, .ref (gad (cG C) 88))] [.ref (gad (cG C) 90), .ref (gad (cG C) 88)]
  refine v_dup (pc := 16) hC rfl dX4_init_16 ?_
  refine vc_RX4_17 (n := 91) (pc := 17) hC (av := []) (rest := [.ref (gad (cG C) 90), .ref (gad (cG C) 88)]) (ci_X7_90 (d := d - 1) (by omega) (zs (n := 90) (m := 91) (zw (n := 90) (zs (n := 89) (m := 90) hZ (by decide)) (by decide)) (by decide))) rfl (by omega) (Nat.le_of_ble_eq_true rfl) rfl (by decide) rfl dX4_init_17 ?_
  show UI C 1 92 3 102 (i_X7_90 (wr μ 88 0 1)) 20 [(0, .ref (gad (cG C) 88))] [.ref (gad (cG C) 90), .ref (gad (cG C) 88)]
  refine vp_RX4_18 (pc := 20) hC (k := 88) (by decide) rfl (by decide) (by decide) dX4_init_20 ?_
  exact v_ret (pc := 23) hC hQ hr rfl dX4_init_23
def i_X9_92 (μ : Mem) : Mem := wr μ 92 0 1
theorem zi_X9_92 {n : Nat} {μ : Mem} (h : Zr n μ) (hn : 94 ≤ n) : Zr n (i_X9_92 μ) := by unfold i_X9_92; exact (zw h (by omega))
theorem fi_X9_92 {μ : Mem} {k j : Nat} (hk : k < 92 ∨ 94 ≤ k) : rd (i_X9_92 μ) k j = rd μ k j := by unfold i_X9_92; rw [rdw_ne (by omega)]
theorem ff_X9_92 {μ : Mem} {k j : Nat} (hk : k < 92 ∨ 94 ≤ k) (h : ¬ rd μ k j = 0) : ¬ rd (i_X9_92 μ) k j = 0 := by rw [fi_X9_92 hk]; exact h
set_option maxHeartbeats 4000000 in
set_option maxRecDepth 100000 in
theorem ci_X9_92 {l : Launch} {G : GG} {d : Nat} (hd : 0 ≤ d) {μ : Mem} (hZ : Zr 93 μ) : CTI l yX9_init cX9_init 1 d G [.ref (gad G 92)] 93 μ 1 40 (i_X9_92 μ) := by
  refine cti_start (by decide) rfl (Nat.le_of_ble_eq_true rfl) (fun C hl1 hG1 hC hQ hr hmn => ?_)
  subst hl1; subst hG1
  have hC : CxI C cX9_init 1 RX9 d 93 1 40 := hC
  show UI C 1 93 0 0 μ 0 [(0, .ref (gad (cG C) 92))] []
  refine v_aload_n (pc := 0) hC dX9_init_0 rfl 0 rfl ?_
  refine v_objInit (pc := 1) hC mL_RX9_3 mM_O_init mB_O_init (Nat.le_of_ble_eq_true rfl) dX9_init_1 ?_
  refine v_aload_n (pc := 4) hC dX9_init_4 rfl 0 rfl ?_
  refine v_bipush (pc := 5) hC (v := (40 : Int32)) (by decide) dX9_init_5 ?_
  refine v_newaI (n := 93) (pc := 7) hC 40 mA_int (by decide) (by decide) (by decide) rfl rfl rfl hZ (by decide) dX9_init_7 ?_
  show UI C 1 94 1 40 μ 9 [(0, .ref (gad (cG C) 92))] [.ref (gad (cG C) 93), .ref (gad (cG C) 92)]
  refine vp_RX9_9 (pc := 9) hC hmn (k := 92) (by decide) rfl rfl dX9_init_9 ?_
  exact v_ret (pc := 12) hC hQ hr rfl dX9_init_12
def i_X6_97 (μ : Mem) : Mem := wr μ 97 0 1
theorem zi_X6_97 {n : Nat} {μ : Mem} (h : Zr n μ) (hn : 99 ≤ n) : Zr n (i_X6_97 μ) := by unfold i_X6_97; exact (zw h (by omega))
theorem fi_X6_97 {μ : Mem} {k j : Nat} (hk : k < 97 ∨ 99 ≤ k) : rd (i_X6_97 μ) k j = rd μ k j := by unfold i_X6_97; rw [rdw_ne (by omega)]
theorem ff_X6_97 {μ : Mem} {k j : Nat} (hk : k < 97 ∨ 99 ≤ k) (h : ¬ rd μ k j = 0) : ¬ rd (i_X6_97 μ) k j = 0 := by rw [fi_X6_97 hk]; exact h
set_option maxHeartbeats 4000000 in
set_option maxRecDepth 100000 in
theorem ci_X6_97 {l : Launch} {G : GG} {d : Nat} (hd : 0 ≤ d) {μ : Mem} (hZ : Zr 98 μ) : CTI l yX6_init cX6_init 1 d G [.ref (gad G 97)] 98 μ 1 40 (i_X6_97 μ) := by
  refine cti_start (by decide) rfl (Nat.le_of_ble_eq_true rfl) (fun C hl1 hG1 hC hQ hr hmn => ?_)
  subst hl1; subst hG1
  have hC : CxI C cX6_init 1 RX6 d 98 1 40 := hC
  show UI C 1 98 0 0 μ 0 [(0, .ref (gad (cG C) 97))] []
  refine v_aload_n (pc := 0) hC dX6_init_0 rfl 0 rfl ?_
  refine v_objInit (pc := 1) hC mL_RX6_3 mM_O_init mB_O_init (Nat.le_of_ble_eq_true rfl) dX6_init_1 ?_
  refine v_aload_n (pc := 4) hC dX6_init_4 rfl 0 rfl ?_
  refine v_bipush (pc := 5) hC (v := (40 : Int32)) (by decide) dX6_init_5 ?_
  refine v_newaI (n := 98) (pc := 7) hC 40 mA_int (by decide) (by decide) (by decide) rfl rfl rfl hZ (by decide) dX6_init_7 ?_
  show UI C 1 99 1 40 μ 9 [(0, .ref (gad (cG C) 97))] [.ref (gad (cG C) 98), .ref (gad (cG C) 97)]
  refine vp_RX6_9 (pc := 9) hC hmn (k := 97) (by decide) rfl rfl dX6_init_9 ?_
  exact v_ret (pc := 12) hC hQ hr rfl dX6_init_12
def i_X6_99 (μ : Mem) : Mem := wr μ 99 0 1
theorem zi_X6_99 {n : Nat} {μ : Mem} (h : Zr n μ) (hn : 101 ≤ n) : Zr n (i_X6_99 μ) := by unfold i_X6_99; exact (zw h (by omega))
theorem fi_X6_99 {μ : Mem} {k j : Nat} (hk : k < 99 ∨ 101 ≤ k) : rd (i_X6_99 μ) k j = rd μ k j := by unfold i_X6_99; rw [rdw_ne (by omega)]
theorem ff_X6_99 {μ : Mem} {k j : Nat} (hk : k < 99 ∨ 101 ≤ k) (h : ¬ rd μ k j = 0) : ¬ rd (i_X6_99 μ) k j = 0 := by rw [fi_X6_99 hk]; exact h
set_option maxHeartbeats 4000000 in
set_option maxRecDepth 100000 in
theorem ci_X6_99 {l : Launch} {G : GG} {d : Nat} (hd : 0 ≤ d) {μ : Mem} (hZ : Zr 100 μ) : CTI l yX6_init cX6_init 1 d G [.ref (gad G 99)] 100 μ 1 40 (i_X6_99 μ) := by
  refine cti_start (by decide) rfl (Nat.le_of_ble_eq_true rfl) (fun C hl1 hG1 hC hQ hr hmn => ?_)
  subst hl1; subst hG1
  have hC : CxI C cX6_init 1 RX6 d 100 1 40 := hC
  show UI C 1 100 0 0 μ 0 [(0, .ref (gad (cG C) 99))] []
  refine v_aload_n (pc := 0) hC dX6_init_0 rfl 0 rfl ?_
  refine v_objInit (pc := 1) hC mL_RX6_3 mM_O_init mB_O_init (Nat.le_of_ble_eq_true rfl) dX6_init_1 ?_
  refine v_aload_n (pc := 4) hC dX6_init_4 rfl 0 rfl ?_
  refine v_bipush (pc := 5) hC (v := (40 : Int32)) (by decide) dX6_init_5 ?_
  refine v_newaI (n := 100) (pc := 7) hC 40 mA_int (by decide) (by decide) (by decide) rfl rfl rfl hZ (by decide) dX6_init_7 ?_
  show UI C 1 101 1 40 μ 9 [(0, .ref (gad (cG C) 99))] [.ref (gad (cG C) 100), .ref (gad (cG C) 99)]
  refine vp_RX6_9 (pc := 9) hC hmn (k := 99) (by decide) rfl rfl dX6_init_9 ?_
  exact v_ret (pc := 12) hC hQ hr rfl dX6_init_12
def i_X6_101 (μ : Mem) : Mem := wr μ 101 0 1
theorem zi_X6_101 {n : Nat} {μ : Mem} (h : Zr n μ) (hn : 103 ≤ n) : Zr n (i_X6_101 μ) := by unfold i_X6_101; exact (zw h (by omega))
theorem fi_X6_101 {μ : Mem} {k j : Nat} (hk : k < 101 ∨ 103 ≤ k) : rd (i_X6_101 μ) k j = rd μ k j := by unfold i_X6_101; rw [rdw_ne (by omega)]
theorem ff_X6_101 {μ : Mem} {k j : Nat} (hk : k < 101 ∨ 103 ≤ k) (h : ¬ rd μ k j = 0) : ¬ rd (i_X6_101 μ) k j = 0 := by rw [fi_X6_101 hk]; exact h
set_option maxHeartbeats 4000000 in
set_option maxRecDepth 100000 in
theorem ci_X6_101 {l : Launch} {G : GG} {d : Nat} (hd : 0 ≤ d) {μ : Mem} (hZ : Zr 102 μ) : CTI l yX6_init cX6_init 1 d G [.ref (gad G 101)] 102 μ 1 40 (i_X6_101 μ) := by
  refine cti_start (by decide) rfl (Nat.le_of_ble_eq_true rfl) (fun C hl1 hG1 hC hQ hr hmn => ?_)
  subst hl1; subst hG1
  have hC : CxI C cX6_init 1 RX6 d 102 1 40 := hC
  show UI C 1 102 0 0 μ 0 [(0, .ref (gad (cG C) 101))] []
  refine v_aload_n (pc := 0) hC dX6_init_0 rfl 0 rfl ?_
  refine v_objInit (pc := 1) hC mL_RX6_3 mM_O_init mB_O_init (Nat.le_of_ble_eq_true rfl) dX6_init_1 ?_
  refine v_aload_n (pc := 4) hC dX6_init_4 rfl 0 rfl ?_
  refine v_bipush (pc := 5) hC (v := (40 : Int32)) (by decide) dX6_init_5 ?_
  refine v_newaI (n := 102) (pc := 7) hC 40 mA_int (by decide) (by decide) (by decide) rfl rfl rfl hZ (by decide) dX6_init_7 ?_
  show UI C 1 103 1 40 μ 9 [(0, .ref (gad (cG C) 101))] [.ref (gad (cG C) 102), .ref (gad (cG C) 101)]
  refine vp_RX6_9 (pc := 9) hC hmn (k := 101) (by decide) rfl rfl dX6_init_9 ?_
  exact v_ret (pc := 12) hC hQ hr rfl dX6_init_12
def i_X6_103 (μ : Mem) : Mem := wr μ 103 0 1
theorem zi_X6_103 {n : Nat} {μ : Mem} (h : Zr n μ) (hn : 105 ≤ n) : Zr n (i_X6_103 μ) := by unfold i_X6_103; exact (zw h (by omega))
theorem fi_X6_103 {μ : Mem} {k j : Nat} (hk : k < 103 ∨ 105 ≤ k) : rd (i_X6_103 μ) k j = rd μ k j := by unfold i_X6_103; rw [rdw_ne (by omega)]
theorem ff_X6_103 {μ : Mem} {k j : Nat} (hk : k < 103 ∨ 105 ≤ k) (h : ¬ rd μ k j = 0) : ¬ rd (i_X6_103 μ) k j = 0 := by rw [fi_X6_103 hk]; exact h
set_option maxHeartbeats 4000000 in
set_option maxRecDepth 100000 in
theorem ci_X6_103 {l : Launch} {G : GG} {d : Nat} (hd : 0 ≤ d) {μ : Mem} (hZ : Zr 104 μ) : CTI l yX6_init cX6_init 1 d G [.ref (gad G 103)] 104 μ 1 40 (i_X6_103 μ) := by
  refine cti_start (by decide) rfl (Nat.le_of_ble_eq_true rfl) (fun C hl1 hG1 hC hQ hr hmn => ?_)
  subst hl1; subst hG1
  have hC : CxI C cX6_init 1 RX6 d 104 1 40 := hC
  show UI C 1 104 0 0 μ 0 [(0, .ref (gad (cG C) 103))] []
  refine v_aload_n (pc := 0) hC dX6_init_0 rfl 0 rfl ?_
  refine v_objInit (pc := 1) hC mL_RX6_3 mM_O_init mB_O_init (Nat.le_of_ble_eq_true rfl) dX6_init_1 ?_
  refine v_aload_n (pc := 4) hC dX6_init_4 rfl 0 rfl ?_
  refine v_bipush (pc := 5) hC (v := (40 : Int32)) (by decide) dX6_init_5 ?_
  refine v_newaI (n := 104) (pc := 7) hC 40 mA_int (by decide) (by decide) (by decide) rfl rfl rfl hZ (by decide) dX6_init_7 ?_
  show UI C 1 105 1 40 μ 9 [(0, .ref (gad (cG C) 103))] [.ref (gad (cG C) 104), .ref (gad (cG C) 103)]
  refine vp_RX6_9 (pc := 9) hC hmn (k := 103) (by decide) rfl rfl dX6_init_9 ?_
  exact v_ret (pc := 12) hC hQ hr rfl dX6_init_12
def i_X11_0 (μ : Mem) : Mem := wr (i_X6_103 (wr (i_X6_101 (wr (i_X6_99 (wr (i_X6_97 (wr (wr (wr (wr (i_X9_92 (wr (i_X4_88 (wr (i_X5_83 (wr (i_X8_69 (wr (i_X10_35 (wr (i_X10_1 μ) 0 0 1)) 0 1 1)) 0 2 1)) 0 3 1)) 0 4 1)) 0 5 1) 0 6 1) 0 7 1) 0 8 1)) 94 (0 : Int32).toNatClampNeg 1)) 94 (1 : Int32).toNatClampNeg 1)) 94 (2 : Int32).toNatClampNeg 1)) 94 (3 : Int32).toNatClampNeg 1
theorem zi_X11_0 {n : Nat} {μ : Mem} (h : Zr n μ) (hn : 105 ≤ n) : Zr n (i_X11_0 μ) := by unfold i_X11_0; exact (zw (zi_X6_103 (zw (zi_X6_101 (zw (zi_X6_99 (zw (zi_X6_97 (zw (zw (zw (zw (zi_X9_92 (zw (zi_X4_88 (zw (zi_X5_83 (zw (zi_X8_69 (zw (zi_X10_35 (zw (zi_X10_1 h (by omega)) (by omega)) (by omega)) (by omega)) (by omega)) (by omega)) (by omega)) (by omega)) (by omega)) (by omega)) (by omega)) (by omega)) (by omega)) (by omega)) (by omega)) (by omega)) (by omega)) (by omega)) (by omega)) (by omega)) (by omega)) (by omega)) (by omega))
theorem fi_X11_0 {μ : Mem} {k j : Nat} (hk : k < 0 ∨ 105 ≤ k) : rd (i_X11_0 μ) k j = rd μ k j := by unfold i_X11_0; rw [rdw_ne (by omega), fi_X6_103 (by omega), rdw_ne (by omega), fi_X6_101 (by omega), rdw_ne (by omega), fi_X6_99 (by omega), rdw_ne (by omega), fi_X6_97 (by omega), rdw_ne (by omega), rdw_ne (by omega), rdw_ne (by omega), rdw_ne (by omega), fi_X9_92 (by omega), rdw_ne (by omega), fi_X4_88 (by omega), rdw_ne (by omega), fi_X5_83 (by omega), rdw_ne (by omega), fi_X8_69 (by omega), rdw_ne (by omega), fi_X10_35 (by omega), rdw_ne (by omega), fi_X10_1 (by omega)]
theorem ff_X11_0 {μ : Mem} {k j : Nat} (hk : k < 0 ∨ 105 ≤ k) (h : ¬ rd μ k j = 0) : ¬ rd (i_X11_0 μ) k j = 0 := by rw [fi_X11_0 hk]; exact h
set_option maxHeartbeats 4000000 in
set_option maxRecDepth 100000 in
theorem ci_X11_0 {l : Launch} {G : GG} {d : Nat} (hd : 3 ≤ d) {μ : Mem} (hZ : Zr 1 μ) : CTI l yX11_init cX11_init 2 d G [.ref (gad G 0)] 1 μ 104 1697 (i_X11_0 μ) := by
  refine cti_start (by decide) rfl (Nat.le_of_ble_eq_true rfl) (fun C hl1 hG1 hC hQ hr hmn => ?_)
  subst hl1; subst hG1
  have hC : CxI C cX11_init 2 RX11 d 1 104 1697 := hC
  show UI C 2 1 0 0 μ 0 [(0, .ref (gad (cG C) 0))] []
  refine v_aload_n (pc := 0) hC dX11_init_0 rfl 0 rfl ?_
  refine v_objInit (pc := 1) hC mL_RX11_1 mM_O_init mB_O_init (Nat.le_of_ble_eq_true rfl) dX11_init_1 ?_
  refine v_aload_n (pc := 4) hC dX11_init_4 rfl 0 rfl ?_
  refine vn_RX11_7 (n := 1) (pc := 5) hC rfl rfl hZ (by decide) dX11_init_5 ?_
  show UI C 2 2 1 9 μ 8 [(0, .ref (gad (cG C) 0))] [.ref (gad (cG C) 1), .ref (gad (cG C) 0)]
  refine v_dup (pc := 8) hC rfl dX11_init_8 ?_
  refine vc_RX11_9 (n := 2) (pc := 9) hC (av := []) (rest := [.ref (gad (cG C) 1), .ref (gad (cG C) 0)]) (ci_X10_1 (d := d - 1) (by omega) (zs (n := 1) (m := 2) hZ (by decide))) rfl (by omega) (Nat.le_of_ble_eq_true rfl) rfl (by decide) rfl dX11_init_9 ?_
  show UI C 2 35 34 480 (i_X10_1 μ) 12 [(0, .ref (gad (cG C) 0))] [.ref (gad (cG C) 1), .ref (gad (cG C) 0)]
  refine vp_RX11_10 (pc := 12) hC hmn (k := 0) (by decide) rfl rfl dX11_init_12 ?_
  refine v_aload_n (pc := 15) hC dX11_init_15 rfl 0 rfl ?_
  refine vn_RX11_7 (n := 35) (pc := 16) hC rfl rfl (zw (n := 35) (zi_X10_1 (n := 35) (zs (n := 2) (m := 35) (zs (n := 1) (m := 2) hZ (by decide)) (by decide)) (by decide)) (by decide)) (by decide) dX11_init_16 ?_
  show UI C 2 36 35 489 (wr (i_X10_1 μ) 0 0 1) 19 [(0, .ref (gad (cG C) 0))] [.ref (gad (cG C) 35), .ref (gad (cG C) 0)]
  refine v_dup (pc := 19) hC rfl dX11_init_19 ?_
  refine vc_RX11_9 (n := 36) (pc := 20) hC (av := []) (rest := [.ref (gad (cG C) 35), .ref (gad (cG C) 0)]) (ci_X10_35 (d := d - 1) (by omega) (zs (n := 35) (m := 36) (zw (n := 35) (zi_X10_1 (n := 35) (zs (n := 2) (m := 35) (zs (n := 1) (m := 2) hZ (by decide)) (by decide)) (by decide)) (by decide)) (by decide))) rfl (by omega) (Nat.le_of_ble_eq_true rfl) rfl (by decide) rfl dX11_init_20 ?_
  show UI C 2 69 68 960 (i_X10_35 (wr (i_X10_1 μ) 0 0 1)) 23 [(0, .ref (gad (cG C) 0))] [.ref (gad (cG C) 35), .ref (gad (cG C) 0)]
  refine vp_RX11_16 (pc := 23) hC hmn (k := 0) (by decide) rfl rfl dX11_init_23 ?_
  refine v_aload_n (pc := 26) hC dX11_init_26 rfl 0 rfl ?_
  refine vn_RX11_19 (n := 69) (pc := 27) hC rfl rfl (zw (n := 69) (zi_X10_35 (n := 69) (zs (n := 36) (m := 69) (zs (n := 35) (m := 36) (zw (n := 35) (zi_X10_1 (n := 35) (zs (n := 2) (m := 35) (zs (n := 1) (m := 2) hZ (by decide)) (by decide)) (by decide)) (by decide)) (by decide)) (by decide)) (by decide)) (by decide)) (by decide) dX11_init_27 ?_
  show UI C 2 70 69 965 (wr (i_X10_35 (wr (i_X10_1 μ) 0 0 1)) 0 1 1) 30 [(0, .ref (gad (cG C) 0))] [.ref (gad (cG C) 69), .ref (gad (cG C) 0)]
  refine v_dup (pc := 30) hC rfl dX11_init_30 ?_
  refine v_aload_n (pc := 31) hC dX11_init_31 rfl 0 rfl ?_
  refine vg_RX11_10 (pc := 32) hC (k := 0) 1 (by decide) rfl rfl (fl_n (by decide) (ff_X10_35 (by decide) (fl_w (by decide)))) dX11_init_32 ?_
  refine vg_RX11_21 (pc := 35) hC (k := 1) 2 (by decide) rfl rfl (fl_n (by decide) (ff_X10_35 (by decide) (fl_n (by decide) fs_X10_1_1_0))) dX11_init_35 ?_
  refine v_aload_n (pc := 38) hC dX11_init_38 rfl 0 rfl ?_
  refine vg_RX11_10 (pc := 39) hC (k := 0) 1 (by decide) rfl rfl (fl_n (by decide) (ff_X10_35 (by decide) (fl_w (by decide)))) dX11_init_39 ?_
  refine vg_RX11_25 (pc := 42) hC (k := 1) 8 (by decide) rfl rfl (fl_n (by decide) (ff_X10_35 (by decide) (fl_n (by decide) fs_X10_1_1_1))) dX11_init_42 ?_
  refine vc_RX11_29 (n := 70) (pc := 45) hC (av := [.ref (gad (cG C) 2), .ref (gad (cG C) 8)]) (rest := [.ref (gad (cG C) 69), .ref (gad (cG C) 0)]) (ci_X8_69 (d := d - 1) (by omega) (zs (n := 69) (m := 70) (zw (n := 69) (zi_X10_35 (n := 69) (zs (n := 36) (m := 69) (zs (n := 35) (m := 36) (zw (n := 35) (zi_X10_1 (n := 35) (zs (n := 2) (m := 35) (zs (n := 1) (m := 2) hZ (by decide)) (by decide)) (by decide)) (by decide)) (by decide)) (by decide)) (by decide)) (by decide)) (by decide))) rfl (by omega) (Nat.le_of_ble_eq_true rfl) rfl (by decide) rfl dX11_init_45 ?_
  show UI C 2 83 82 1065 (i_X8_69 (wr (i_X10_35 (wr (i_X10_1 μ) 0 0 1)) 0 1 1)) 48 [(0, .ref (gad (cG C) 0))] [.ref (gad (cG C) 69), .ref (gad (cG C) 0)]
  refine vp_RX11_32 (pc := 48) hC hmn (k := 0) (by decide) rfl rfl dX11_init_48 ?_
  refine v_aload_n (pc := 51) hC dX11_init_51 rfl 0 rfl ?_
  refine vn_RX11_36 (n := 83) (pc := 52) hC rfl rfl (zw (n := 83) (zi_X8_69 (n := 83) (zs (n := 70) (m := 83) (zs (n := 69) (m := 70) (zw (n := 69) (zi_X10_35 (n := 69) (zs (n := 36) (m := 69) (zs (n := 35) (m := 36) (zw (n := 35) (zi_X10_1 (n := 35) (zs (n := 2) (m := 35) (zs (n := 1) (m := 2) hZ (by decide)) (by decide)) (by decide)) (by decide)) (by decide)) (by decide)) (by decide)) (by decide)) (by decide)) (by decide)) (by decide)) (by decide)) (by decide) dX11_init_52 ?_
  show UI C 2 84 83 1077 (wr (i_X8_69 (wr (i_X10_35 (wr (i_X10_1 μ) 0 0 1)) 0 1 1)) 0 2 1) 55 [(0, .ref (gad (cG C) 0))] [.ref (gad (cG C) 83), .ref (gad (cG C) 0)]
  refine v_dup (pc := 55) hC rfl dX11_init_55 ?_
  refine v_aload_n (pc := 56) hC dX11_init_56 rfl 0 rfl ?_
  refine vg_RX11_10 (pc := 57) hC (k := 0) 1 (by decide) rfl rfl (fl_n (by decide) (ff_X8_69 (by decide) (fl_n (by decide) (ff_X10_35 (by decide) (fl_w (by decide)))))) dX11_init_57 ?_
  refine vg_RX11_21 (pc := 60) hC (k := 1) 2 (by decide) rfl rfl (fl_n (by decide) (ff_X8_69 (by decide) (fl_n (by decide) (ff_X10_35 (by decide) (fl_n (by decide) fs_X10_1_1_0))))) dX11_init_60 ?_
  refine vc_RX11_38 (n := 84) (pc := 63) hC (av := [.ref (gad (cG C) 2)]) (rest := [.ref (gad (cG C) 83), .ref (gad (cG C) 0)]) (ci_X5_83 (d := d - 1) (by omega) (zs (n := 83) (m := 84) (zw (n := 83) (zi_X8_69 (n := 83) (zs (n := 70) (m := 83) (zs (n := 69) (m := 70) (zw (n := 69) (zi_X10_35 (n := 69) (zs (n := 36) (m := 69) (zs (n := 35) (m := 36) (zw (n := 35) (zi_X10_1 (n := 35) (zs (n := 2) (m := 35) (zs (n := 1) (m := 2) hZ (by decide)) (by decide)) (by decide)) (by decide)) (by decide)) (by decide)) (by decide)) (by decide)) (by decide)) (by decide)) (by decide)) (by decide)) (by decide))) rfl (by omega) (Nat.le_of_ble_eq_true rfl) rfl (by decide) rfl dX11_init_63 ?_
  show UI C 2 88 87 1357 (i_X5_83 (wr (i_X8_69 (wr (i_X10_35 (wr (i_X10_1 μ) 0 0 1)) 0 1 1)) 0 2 1)) 66 [(0, .ref (gad (cG C) 0))] [.ref (gad (cG C) 83), .ref (gad (cG C) 0)]
  refine vp_RX11_41 (pc := 66) hC hmn (k := 0) (by decide) rfl rfl dX11_init_66 ?_
  refine v_aload_n (pc := 69) hC dX11_init_69 rfl 0 rfl ?_
  refine vn_RX11_45 (n := 88) (pc := 70) hC rfl rfl (zw (n := 88) (zi_X5_83 (n := 88) (zs (n := 84) (m := 88) (zs (n := 83) (m := 84) (zw (n := 83) (zi_X8_69 (n := 83) (zs (n := 70) (m := 83) (zs (n := 69) (m := 70) (zw (n := 69) (zi_X10_35 (n := 69) (zs (n := 36) (m := 69) (zs (n := 35) (m := 36) (zw (n := 35) (zi_X10_1 (n := 35) (zs (n := 2) (m := 35) (zs (n := 1) (m := 2) hZ (by decide)) (by decide)) (by decide)) (by decide)) (by decide)) (by decide)) (by decide)) (by decide)) (by decide)) (by decide)) (by decide)) (by decide)) (by decide)) (by decide)) (by decide)) (by decide)) (by decide) dX11_init_70 ?_
  show UI C 2 89 88 1363 (wr (i_X5_83 (wr (i_X8_69 (wr (i_X10_35 (wr (i_X10_1 μ) 0 0 1)) 0 1 1)) 0 2 1)) 0 3 1) 73 [(0, .ref (gad (cG C) 0))] [.ref (gad (cG C) 88), .ref (gad (cG C) 0)]
  refine v_dup (pc := 73) hC rfl dX11_init_73 ?_
  refine vc_RX11_47 (n := 89) (pc := 74) hC (av := []) (rest := [.ref (gad (cG C) 88), .ref (gad (cG C) 0)]) (ci_X4_88 (d := d - 1) (by omega) (zs (n := 88) (m := 89) (zw (n := 88) (zi_X5_83 (n := 88) (zs (n := 84) (m := 88) (zs (n := 83) (m := 84) (zw (n := 83) (zi_X8_69 (n := 83) (zs (n := 70) (m := 83) (zs (n := 69) (m := 70) (zw (n := 69) (zi_X10_35 (n := 69) (zs (n := 36) (m := 69) (zs (n := 35) (m := 36) (zw (n := 35) (zi_X10_1 (n := 35) (zs (n := 2) (m := 35) (zs (n := 1) (m := 2) hZ (by decide)) (by decide)) (by decide)) (by decide)) (by decide)) (by decide)) (by decide)) (by decide)) (by decide)) (by decide)) (by decide)) (by decide)) (by decide)) (by decide)) (by decide)) (by decide)) (by decide))) rfl (by omega) (Nat.le_of_ble_eq_true rfl) rfl (by decide) rfl dX11_init_74 ?_
  show UI C 2 92 91 1465 (i_X4_88 (wr (i_X5_83 (wr (i_X8_69 (wr (i_X10_35 (wr (i_X10_1 μ) 0 0 1)) 0 1 1)) 0 2 1)) 0 3 1)) 77 [(0, .ref (gad (cG C) 0))] [.ref (gad (cG C) 88), .ref (gad (cG C) 0)]
  refine vp_RX11_48 (pc := 77) hC hmn (k := 0) (by decide) rfl rfl dX11_init_77 ?_
  refine v_aload_n (pc := 80) hC dX11_init_80 rfl 0 rfl ?_
  refine vn_RX11_52 (n := 92) (pc := 81) hC rfl rfl (zw (n := 92) (zi_X4_88 (n := 92) (zs (n := 89) (m := 92) (zs (n := 88) (m := 89) (zw (n := 88) (zi_X5_83 (n := 88) (zs (n := 84) (m := 88) (zs (n := 83) (m := 84) (zw (n := 83) (zi_X8_69 (n := 83) (zs (n := 70) (m := 83) (zs (n := 69) (m := 70) (zw (n := 69) (zi_X10_35 (n := 69) (zs (n := 36) (m := 69) (zs (n := 35) (m := 36) (zw (n := 35) (zi_X10_1 (n := 35) (zs (n := 2) (m := 35) (zs (n := 1) (m := 2) hZ (by decide)) (by decide)) (by decide)) (by decide)) (by decide)) (by decide)) (by decide)) (by decide)) (by decide)) (by decide)) (by decide)) (by decide)) (by decide)) (by decide)) (by decide)) (by decide)) (by decide)) (by decide)) (by decide)) (by decide)) (by decide) dX11_init_81 ?_
  show UI C 2 93 92 1470 (wr (i_X4_88 (wr (i_X5_83 (wr (i_X8_69 (wr (i_X10_35 (wr (i_X10_1 μ) 0 0 1)) 0 1 1)) 0 2 1)) 0 3 1)) 0 4 1) 84 [(0, .ref (gad (cG C) 0))] [.ref (gad (cG C) 92), .ref (gad (cG C) 0)]
  refine v_dup (pc := 84) hC rfl dX11_init_84 ?_
  refine vc_RX11_54 (n := 93) (pc := 85) hC (av := []) (rest := [.ref (gad (cG C) 92), .ref (gad (cG C) 0)]) (ci_X9_92 (d := d - 1) (by omega) (zs (n := 92) (m := 93) (zw (n := 92) (zi_X4_88 (n := 92) (zs (n := 89) (m := 92) (zs (n := 88) (m := 89) (zw (n := 88) (zi_X5_83 (n := 88) (zs (n := 84) (m := 88) (zs (n := 83) (m := 84) (zw (n := 83) (zi_X8_69 (n := 83) (zs (n := 70) (m := 83) (zs (n := 69) (m := 70) (zw (n := 69) (zi_X10_35 (n := 69) (zs (n := 36) (m := 69) (zs (n := 35) (m := 36) (zw (n := 35) (zi_X10_1 (n := 35) (zs (n := 2) (m := 35) (zs (n := 1) (m := 2) hZ (by decide)) (by decide)) (by decide)) (by decide)) (by decide)) (by decide)) (by decide)) (by decide)) (by decide)) (by decide)) (by decide)) (by decide)) (by decide)) (by decide)) (by decide)) (by decide)) (by decide)) (by decide)) (by decide)) (by decide)) (by decide))) rfl (by omega) (Nat.le_of_ble_eq_true rfl) rfl (by decide) rfl dX11_init_85 ?_
  show UI C 2 94 93 1510 (i_X9_92 (wr (i_X4_88 (wr (i_X5_83 (wr (i_X8_69 (wr (i_X10_35 (wr (i_X10_1 μ) 0 0 1)) 0 1 1)) 0 2 1)) 0 3 1)) 0 4 1)) 88 [(0, .ref (gad (cG C) 0))] [.ref (gad (cG C) 92), .ref (gad (cG C) 0)]
  refine vp_RX11_55 (pc := 88) hC hmn (k := 0) (by decide) rfl rfl dX11_init_88 ?_
  refine v_aload_n (pc := 91) hC dX11_init_91 rfl 0 rfl ?_
  refine v_iconst (pc := 92) hC (v := (4 : Int32)) (by decide) dX11_init_92 ?_
  refine v_newrS (n := 94) (pc := 93) hC mC_RX11_59 (by decide) (by decide) rfl rfl rfl (zw (n := 94) (zi_X9_92 (n := 94) (zs (n := 93) (m := 94) (zs (n := 92) (m := 93) (zw (n := 92) (zi_X4_88 (n := 92) (zs (n := 89) (m := 92) (zs (n := 88) (m := 89) (zw (n := 88) (zi_X5_83 (n := 88) (zs (n := 84) (m := 88) (zs (n := 83) (m := 84) (zw (n := 83) (zi_X8_69 (n := 83) (zs (n := 70) (m := 83) (zs (n := 69) (m := 70) (zw (n := 69) (zi_X10_35 (n := 69) (zs (n := 36) (m := 69) (zs (n := 35) (m := 36) (zw (n := 35) (zi_X10_1 (n := 35) (zs (n := 2) (m := 35) (zs (n := 1) (m := 2) hZ (by decide)) (by decide)) (by decide)) (by decide)) (by decide)) (by decide)) (by decide)) (by decide)) (by decide)) (by decide)) (by decide)) (by decide)) (by decide)) (by decide)) (by decide)) (by decide)) (by decide)) (by decide)) (by decide)) (by decide)) (by decide)) (by decide)) (by decide)) (by decide)) (by decide) dX11_init_93 ?_
  show UI C 2 95 94 1514 (wr (i_X9_92 (wr (i_X4_88 (wr (i_X5_83 (wr (i_X8_69 (wr (i_X10_35 (wr (i_X10_1 μ) 0 0 1)) 0 1 1)) 0 2 1)) 0 3 1)) 0 4 1)) 0 5 1) 96 [(0, .ref (gad (cG C) 0))] [.ref (gad (cG C) 94), .ref (gad (cG C) 0)]
  refine vp_RX11_61 (pc := 96) hC hmn (k := 0) (by decide) rfl rfl dX11_init_96 ?_
  refine v_aload_n (pc := 99) hC dX11_init_99 rfl 0 rfl ?_
  refine v_iconst (pc := 100) hC (v := (5 : Int32)) (by decide) dX11_init_100 ?_
  refine v_newaI (n := 95) (pc := 101) hC 5 mA_int (by decide) (by decide) (by decide) rfl rfl rfl (zw (n := 95) (zs (n := 94) (m := 95) (zw (n := 94) (zi_X9_92 (n := 94) (zs (n := 93) (m := 94) (zs (n := 92) (m := 93) (zw (n := 92) (zi_X4_88 (n := 92) (zs (n := 89) (m := 92) (zs (n := 88) (m := 89) (zw (n := 88) (zi_X5_83 (n := 88) (zs (n := 84) (m := 88) (zs (n := 83) (m := 84) (zw (n := 83) (zi_X8_69 (n := 83) (zs (n := 70) (m := 83) (zs (n := 69) (m := 70) (zw (n := 69) (zi_X10_35 (n := 69) (zs (n := 36) (m := 69) (zs (n := 35) (m := 36) (zw (n := 35) (zi_X10_1 (n := 35) (zs (n := 2) (m := 35) (zs (n := 1) (m := 2) hZ (by decide)) (by decide)) (by decide)) (by decide)) (by decide)) (by decide)) (by decide)) (by decide)) (by decide)) (by decide)) (by decide)) (by decide)) (by decide)) (by decide)) (by decide)) (by decide)) (by decide)) (by decide)) (by decide)) (by decide)) (by decide)) (by decide)) (by decide)) (by decide)) (by decide)) (by decide)) (by decide) dX11_init_101 ?_
  show UI C 2 96 95 1519 (wr (wr (i_X9_92 (wr (i_X4_88 (wr (i_X5_83 (wr (i_X8_69 (wr (i_X10_35 (wr (i_X10_1 μ) 0 0 1)) 0 1 1)) 0 2 1)) 0 3 1)) 0 4 1)) 0 5 1) 0 6 1) 103 [(0, .ref (gad (cG C) 0))] [.ref (gad (cG C) 95), .ref (gad (cG C) 0)]
  refine vp_RX11_65 (pc := 103) hC hmn (k := 0) (by decide) rfl rfl dX11_init_103 ?_
  refine v_aload_n (pc := 106) hC dX11_init_106 rfl 0 rfl ?_
  refine v_bipush (pc := 107) hC (v := (6 : Int32)) (by decide) dX11_init_107 ?_
  refine v_newaI (n := 96) (pc := 109) hC 6 mA_int (by decide) (by decide) (by decide) rfl rfl rfl (zw (n := 96) (zs (n := 95) (m := 96) (zw (n := 95) (zs (n := 94) (m := 95) (zw (n := 94) (zi_X9_92 (n := 94) (zs (n := 93) (m := 94) (zs (n := 92) (m := 93) (zw (n := 92) (zi_X4_88 (n := 92) (zs (n := 89) (m := 92) (zs (n := 88) (m := 89) (zw (n := 88) (zi_X5_83 (n := 88) (zs (n := 84) (m := 88) (zs (n := 83) (m := 84) (zw (n := 83) (zi_X8_69 (n := 83) (zs (n := 70) (m := 83) (zs (n := 69) (m := 70) (zw (n := 69) (zi_X10_35 (n := 69) (zs (n := 36) (m := 69) (zs (n := 35) (m := 36) (zw (n := 35) (zi_X10_1 (n := 35) (zs (n := 2) (m := 35) (zs (n := 1) (m := 2) hZ (by decide)) (by decide)) (by decide)) (by decide)) (by decide)) (by decide)) (by decide)) (by decide)) (by decide)) (by decide)) (by decide)) (by decide)) (by decide)) (by decide)) (by decide)) (by decide)) (by decide)) (by decide)) (by decide)) (by decide)) (by decide)) (by decide)) (by decide)) (by decide)) (by decide)) (by decide)) (by decide)) (by decide)) (by decide) dX11_init_109 ?_
  show UI C 2 97 96 1525 (wr (wr (wr (i_X9_92 (wr (i_X4_88 (wr (i_X5_83 (wr (i_X8_69 (wr (i_X10_35 (wr (i_X10_1 μ) 0 0 1)) 0 1 1)) 0 2 1)) 0 3 1)) 0 4 1)) 0 5 1) 0 6 1) 0 7 1) 111 [(0, .ref (gad (cG C) 0))] [.ref (gad (cG C) 96), .ref (gad (cG C) 0)]
  refine vp_RX11_69 (pc := 111) hC hmn (k := 0) (by decide) rfl rfl dX11_init_111 ?_
  refine v_iconst (pc := 114) hC (v := (0 : Int32)) (by decide) dX11_init_114 ?_
  refine v_istore_n (pc := 115) hC dX11_init_115 rfl [(1, .int (0 : Int32)), (0, .ref (gad (cG C) 0))] (by decide) rfl ?_
  refine v_iload_n (pc := 116) hC dX11_init_116 rfl 0 rfl ?_
  refine v_iconst (pc := 117) hC (v := (4 : Int32)) (by decide) dX11_init_117 ?_
  refine v_icmp_ge (pc := 118) hC 140 dX11_init_118 (by decide) (fun q => absurd q (by decide)) (fun _ => ?_)
  refine v_aload_n (pc := 121) hC dX11_init_121 rfl 1 rfl ?_
  refine vg_RX11_61 (pc := 122) hC (k := 0) 94 (by decide) rfl rfl (fl_n (by decide) (fl_n (by decide) (fl_w (by decide)))) dX11_init_122 ?_
  refine v_iload_n (pc := 125) hC dX11_init_125 rfl 0 rfl ?_
  refine vn_RX11_59 (n := 97) (pc := 126) hC rfl rfl (zw (n := 97) (zs (n := 96) (m := 97) (zw (n := 96) (zs (n := 95) (m := 96) (zw (n := 95) (zs (n := 94) (m := 95) (zw (n := 94) (zi_X9_92 (n := 94) (zs (n := 93) (m := 94) (zs (n := 92) (m := 93) (zw (n := 92) (zi_X4_88 (n := 92) (zs (n := 89) (m := 92) (zs (n := 88) (m := 89) (zw (n := 88) (zi_X5_83 (n := 88) (zs (n := 84) (m := 88) (zs (n := 83) (m := 84) (zw (n := 83) (zi_X8_69 (n := 83) (zs (n := 70) (m := 83) (zs (n := 69) (m := 70) (zw (n := 69) (zi_X10_35 (n := 69) (zs (n := 36) (m := 69) (zs (n := 35) (m := 36) (zw (n := 35) (zi_X10_1 (n := 35) (zs (n := 2) (m := 35) (zs (n := 1) (m := 2) hZ (by decide)) (by decide)) (by decide)) (by decide)) (by decide)) (by decide)) (by decide)) (by decide)) (by decide)) (by decide)) (by decide)) (by decide)) (by decide)) (by decide)) (by decide)) (by decide)) (by decide)) (by decide)) (by decide)) (by decide)) (by decide)) (by decide)) (by decide)) (by decide)) (by decide)) (by decide)) (by decide)) (by decide)) (by decide)) (by decide)) (by decide) dX11_init_126 ?_
  show UI C 2 98 97 1528 (wr (wr (wr (wr (i_X9_92 (wr (i_X4_88 (wr (i_X5_83 (wr (i_X8_69 (wr (i_X10_35 (wr (i_X10_1 μ) 0 0 1)) 0 1 1)) 0 2 1)) 0 3 1)) 0 4 1)) 0 5 1) 0 6 1) 0 7 1) 0 8 1) 129 [(1, .int (0 : Int32)), (0, .ref (gad (cG C) 0))] [.ref (gad (cG C) 97), .int (0 : Int32), .ref (gad (cG C) 94)]
  refine v_dup (pc := 129) hC rfl dX11_init_129 ?_
  refine vc_RX11_72 (n := 98) (pc := 130) hC (av := []) (rest := [.ref (gad (cG C) 97), .int (0 : Int32), .ref (gad (cG C) 94)]) (ci_X6_97 (d := d - 1) (by omega) (zs (n := 97) (m := 98) (zw (n := 97) (zs (n := 96) (m := 97) (zw (n := 96) (zs (n := 95) (m := 96) (zw (n := 95) (zs (n := 94) (m := 95) (zw (n := 94) (zi_X9_92 (n := 94) (zs (n := 93) (m := 94) (zs (n := 92) (m := 93) (zw (n := 92) (zi_X4_88 (n := 92) (zs (n := 89) (m := 92) (zs (n := 88) (m := 89) (zw (n := 88) (zi_X5_83 (n := 88) (zs (n := 84) (m := 88) (zs (n := 83) (m := 84) (zw (n := 83) (zi_X8_69 (n := 83) (zs (n := 70) (m := 83) (zs (n := 69) (m := 70) (zw (n := 69) (zi_X10_35 (n := 69) (zs (n := 36) (m := 69) (zs (n := 35) (m := 36) (zw (n := 35) (zi_X10_1 (n := 35) (zs (n := 2) (m := 35) (zs (n := 1) (m := 2) hZ (by decide)) (by decide)) (by decide)) (by decide)) (by decide)) (by decide)) (by decide)) (by decide)) (by decide)) (by decide)) (by decide)) (by decide)) (by decide)) (by decide)) (by decide)) (by decide)) (by decide)) (by decide)) (by decide)) (by decide)) (by decide)) (by decide)) (by decide)) (by decide)) (by decide)) (by decide)) (by decide)) (by decide)) (by decide)) (by decide)) (by decide))) rfl (by omega) (Nat.le_of_ble_eq_true rfl) rfl (by decide) rfl dX11_init_130 ?_
  show UI C 2 99 98 1568 (i_X6_97 (wr (wr (wr (wr (i_X9_92 (wr (i_X4_88 (wr (i_X5_83 (wr (i_X8_69 (wr (i_X10_35 (wr (i_X10_1 μ) 0 0 1)) 0 1 1)) 0 2 1)) 0 3 1)) 0 4 1)) 0 5 1) 0 6 1) 0 7 1) 0 8 1)) 133 [(1, .int (0 : Int32)), (0, .ref (gad (cG C) 0))] [.ref (gad (cG C) 97), .int (0 : Int32), .ref (gad (cG C) 94)]
  refine v_aastS (pc := 133) hC (k := 94) (k2 := 97) (by decide) rfl (by decide) (by decide) rfl (by decide) dX11_init_133 ?_
  refine v_iinc (pc := 134) hC dX11_init_134 0 rfl (1 : Int32) (by decide) [(1, .int (1 : Int32)), (0, .ref (gad (cG C) 0))] (by decide) rfl ?_
  refine v_goto (pc := 137) hC 116 dX11_init_137 (by decide) ?_
  refine v_iload_n (pc := 116) hC dX11_init_116 rfl 0 rfl ?_
  refine v_iconst (pc := 117) hC (v := (4 : Int32)) (by decide) dX11_init_117 ?_
  refine v_icmp_ge (pc := 118) hC 140 dX11_init_118 (by decide) (fun q => absurd q (by decide)) (fun _ => ?_)
  refine v_aload_n (pc := 121) hC dX11_init_121 rfl 1 rfl ?_
  refine vg_RX11_61 (pc := 122) hC (k := 0) 94 (by decide) rfl rfl (fl_n (by decide) (ff_X6_97 (by decide) (fl_n (by decide) (fl_n (by decide) (fl_w (by decide)))))) dX11_init_122 ?_
  refine v_iload_n (pc := 125) hC dX11_init_125 rfl 0 rfl ?_
  refine vn_RX11_59 (n := 99) (pc := 126) hC rfl rfl (zw (n := 99) (zi_X6_97 (n := 99) (zs (n := 98) (m := 99) (zs (n := 97) (m := 98) (zw (n := 97) (zs (n := 96) (m := 97) (zw (n := 96) (zs (n := 95) (m := 96) (zw (n := 95) (zs (n := 94) (m := 95) (zw (n := 94) (zi_X9_92 (n := 94) (zs (n := 93) (m := 94) (zs (n := 92) (m := 93) (zw (n := 92) (zi_X4_88 (n := 92) (zs (n := 89) (m := 92) (zs (n := 88) (m := 89) (zw (n := 88) (zi_X5_83 (n := 88) (zs (n := 84) (m := 88) (zs (n := 83) (m := 84) (zw (n := 83) (zi_X8_69 (n := 83) (zs (n := 70) (m := 83) (zs (n := 69) (m := 70) (zw (n := 69) (zi_X10_35 (n := 69) (zs (n := 36) (m := 69) (zs (n := 35) (m := 36) (zw (n := 35) (zi_X10_1 (n := 35) (zs (n := 2) (m := 35) (zs (n := 1) (m := 2) hZ (by decide)) (by decide)) (by decide)) (by decide)) (by decide)) (by decide)) (by decide)) (by decide)) (by decide)) (by decide)) (by decide)) (by decide)) (by decide)) (by decide)) (by decide)) (by decide)) (by decide)) (by decide)) (by decide)) (by decide)) (by decide)) (by decide)) (by decide)) (by decide)) (by decide)) (by decide)) (by decide)) (by decide)) (by decide)) (by decide)) (by decide)) (by decide)) (by decide)) (by decide)) (by decide) dX11_init_126 ?_
  show UI C 2 100 99 1571 (wr (i_X6_97 (wr (wr (wr (wr (i_X9_92 (wr (i_X4_88 (wr (i_X5_83 (wr (i_X8_69 (wr (i_X10_35 (wr (i_X10_1 μ) 0 0 1)) 0 1 1)) 0 2 1)) 0 3 1)) 0 4 1)) 0 5 1) 0 6 1) 0 7 1) 0 8 1)) 94 (0 : Int32).toNatClampNeg 1) 129 [(1, .int (1 : Int32)), (0, .ref (gad (cG C) 0))] [.ref (gad (cG C) 99), .int (1 : Int32), .ref (gad (cG C) 94)]
  refine v_dup (pc := 129) hC rfl dX11_init_129 ?_
  refine vc_RX11_72 (n := 100) (pc := 130) hC (av := []) (rest := [.ref (gad (cG C) 99), .int (1 : Int32), .ref (gad (cG C) 94)]) (ci_X6_99 (d := d - 1) (by omega) (zs (n := 99) (m := 100) (zw (n := 99) (zi_X6_97 (n := 99) (zs (n := 98) (m := 99) (zs (n := 97) (m := 98) (zw (n := 97) (zs (n := 96) (m := 97) (zw (n := 96) (zs (n := 95) (m := 96) (zw (n := 95) (zs (n := 94) (m := 95) (zw (n := 94) (zi_X9_92 (n := 94) (zs (n := 93) (m := 94) (zs (n := 92) (m := 93) (zw (n := 92) (zi_X4_88 (n := 92) (zs (n := 89) (m := 92) (zs (n := 88) (m := 89) (zw (n := 88) (zi_X5_83 (n := 88) (zs (n := 84) (m := 88) (zs (n := 83) (m := 84) (zw (n := 83) (zi_X8_69 (n := 83) (zs (n := 70) (m := 83) (zs (n := 69) (m := 70) (zw (n := 69) (zi_X10_35 (n := 69) (zs (n := 36) (m := 69) (zs (n := 35) (m := 36) (zw (n := 35) (zi_X10_1 (n := 35) (zs (n := 2) (m := 35) (zs (n := 1) (m := 2) hZ (by decide)) (by decide)) (by decide)) (by decide)) (by decide)) (by decide)) (by decide)) (by decide)) (by decide)) (by decide)) (by decide)) (by decide)) (by decide)) (by decide)) (by decide)) (by decide)) (by decide)) (by decide)) (by decide)) (by decide)) (by decide)) (by decide)) (by decide)) (by decide)) (by decide)) (by decide)) (by decide)) (by decide)) (by decide)) (by decide)) (by decide)) (by decide)) (by decide)) (by decide)) (by decide))) rfl (by omega) (Nat.le_of_ble_eq_true rfl) rfl (by decide) rfl dX11_init_130 ?_
  show UI C 2 101 100 1611 (i_X6_99 (wr (i_X6_97 (wr (wr (wr (wr (i_X9_92 (wr (i_X4_88 (wr (i_X5_83 (wr (i_X8_69 (wr (i_X10_35 (wr (i_X10_1 μ) 0 0 1)) 0 1 1)) 0 2 1)) 0 3 1)) 0 4 1)) 0 5 1) 0 6 1) 0 7 1) 0 8 1)) 94 (0 : Int32).toNatClampNeg 1)) 133 [(1, .int (1 : Int32)), (0, .ref (gad (cG C) 0))] [.ref (gad (cG C) 99), .int (1 : Int32), .ref (gad (cG C) 94)]
  refine v_aastS (pc := 133) hC (k := 94) (k2 := 99) (by decide) rfl (by decide) (by decide) rfl (by decide) dX11_init_133 ?_
  refine v_iinc (pc := 134) hC dX11_init_134 0 rfl (2 : Int32) (by decide) [(1, .int (2 : Int32)), (0, .ref (gad (cG C) 0))] (by decide) rfl ?_
  refine v_goto (pc := 137) hC 116 dX11_init_137 (by decide) ?_
  refine v_iload_n (pc := 116) hC dX11_init_116 rfl 0 rfl ?_
  refine v_iconst (pc := 117) hC (v := (4 : Int32)) (by decide) dX11_init_117 ?_
  refine v_icmp_ge (pc := 118) hC 140 dX11_init_118 (by decide) (fun q => absurd q (by decide)) (fun _ => ?_)
  refine v_aload_n (pc := 121) hC dX11_init_121 rfl 1 rfl ?_
  refine vg_RX11_61 (pc := 122) hC (k := 0) 94 (by decide) rfl rfl (fl_n (by decide) (ff_X6_99 (by decide) (fl_n (by decide) (ff_X6_97 (by decide) (fl_n (by decide) (fl_n (by decide) (fl_w (by decide)))))))) dX11_init_122 ?_
  refine v_iload_n (pc := 125) hC dX11_init_125 rfl 0 rfl ?_
  refine vn_RX11_59 (n := 101) (pc := 126) hC rfl rfl (zw (n := 101) (zi_X6_99 (n := 101) (zs (n := 100) (m := 101) (zs (n := 99) (m := 100) (zw (n := 99) (zi_X6_97 (n := 99) (zs (n := 98) (m := 99) (zs (n := 97) (m := 98) (zw (n := 97) (zs (n := 96) (m := 97) (zw (n := 96) (zs (n := 95) (m := 96) (zw (n := 95) (zs (n := 94) (m := 95) (zw (n := 94) (zi_X9_92 (n := 94) (zs (n := 93) (m := 94) (zs (n := 92) (m := 93) (zw (n := 92) (zi_X4_88 (n := 92) (zs (n := 89) (m := 92) (zs (n := 88) (m := 89) (zw (n := 88) (zi_X5_83 (n := 88) (zs (n := 84) (m := 88) (zs (n := 83) (m := 84) (zw (n := 83) (zi_X8_69 (n := 83) (zs (n := 70) (m := 83) (zs (n := 69) (m := 70) (zw (n := 69) (zi_X10_35 (n := 69) (zs (n := 36) (m := 69) (zs (n := 35) (m := 36) (zw (n := 35) (zi_X10_1 (n := 35) (zs (n := 2) (m := 35) (zs (n := 1) (m := 2) hZ (by decide)) (by decide)) (by decide)) (by decide)) (by decide)) (by decide)) (by decide)) (by decide)) (by decide)) (by decide)) (by decide)) (by decide)) (by decide)) (by decide)) (by decide)) (by decide)) (by decide)) (by decide)) (by decide)) (by decide)) (by decide)) (by decide)) (by decide)) (by decide)) (by decide)) (by decide)) (by decide)) (by decide)) (by decide)) (by decide)) (by decide)) (by decide)) (by decide)) (by decide)) (by decide)) (by decide)) (by decide)) (by decide)) (by decide) dX11_init_126 ?_
  show UI C 2 102 101 1614 (wr (i_X6_99 (wr (i_X6_97 (wr (wr (wr (wr (i_X9_92 (wr (i_X4_88 (wr (i_X5_83 (wr (i_X8_69 (wr (i_X10_35 (wr (i_X10_1 μ) 0 0 1)) 0 1 1)) 0 2 1)) 0 3 1)) 0 4 1)) 0 5 1) 0 6 1) 0 7 1) 0 8 1)) 94 (0 : Int32).toNatClampNeg 1)) 94 (1 : Int32).toNatClampNeg 1) 129 [(1, .int (2 : Int32)), (0, .ref (gad (cG C) 0))] [.ref (gad (cG C) 101), .int (2 : Int32), .ref (gad (cG C) 94)]
  refine v_dup (pc := 129) hC rfl dX11_init_129 ?_
  refine vc_RX11_72 (n := 102) (pc := 130) hC (av := []) (rest := [.ref (gad (cG C) 101), .int (2 : Int32), .ref (gad (cG C) 94)]) (ci_X6_101 (d := d - 1) (by omega) (zs (n := 101) (m := 102) (zw (n := 101) (zi_X6_99 (n := 101) (zs (n := 100) (m := 101) (zs (n := 99) (m := 100) (zw (n := 99) (zi_X6_97 (n := 99) (zs (n := 98) (m := 99) (zs (n := 97) (m := 98) (zw (n := 97) (zs (n := 96) (m := 97) (zw (n := 96) (zs (n := 95) (m := 96) (zw (n := 95) (zs (n := 94) (m := 95) (zw (n := 94) (zi_X9_92 (n := 94) (zs (n := 93) (m := 94) (zs (n := 92) (m := 93) (zw (n := 92) (zi_X4_88 (n := 92) (zs (n := 89) (m := 92) (zs (n := 88) (m := 89) (zw (n := 88) (zi_X5_83 (n := 88) (zs (n := 84) (m := 88) (zs (n := 83) (m := 84) (zw (n := 83) (zi_X8_69 (n := 83) (zs (n := 70) (m := 83) (zs (n := 69) (m := 70) (zw (n := 69) (zi_X10_35 (n := 69) (zs (n := 36) (m := 69) (zs (n := 35) (m := 36) (zw (n := 35) (zi_X10_1 (n := 35) (zs (n := 2) (m := 35) (zs (n := 1) (m := 2) hZ (by decide)) (by decide)) (by decide)) (by decide)) (by decide)) (by decide)) (by decide)) (by decide)) (by decide)) (by decide)) (by decide)) (by decide)) (by decide)) (by decide)) (by decide)) (by decide)) (by decide)) (by decide)) (by decide)) (by decide)) (by decide)) (by decide)) (by decide)) (by decide)) (by decide)) (by decide)) (by decide)) (by decide)) (by decide)) (by decide)) (by decide)) (by decide)) (by decide)) (by decide)) (by decide)) (by decide)) (by decide)) (by decide)) (by decide))) rfl (by omega) (Nat.le_of_ble_eq_true rfl) rfl (by decide) rfl dX11_init_130 ?_
  show UI C 2 103 102 1654 (i_X6_101 (wr (i_X6_99 (wr (i_X6_97 (wr (wr (wr (wr (i_X9_92 (wr (i_X4_88 (wr (i_X5_83 (wr (i_X8_69 (wr (i_X10_35 (wr (i_X10_1 μ) 0 0 1)) 0 1 1)) 0 2 1)) 0 3 1)) 0 4 1)) 0 5 1) 0 6 1) 0 7 1) 0 8 1)) 94 (0 : Int32).toNatClampNeg 1)) 94 (1 : Int32).toNatClampNeg 1)) 133 [(1, .int (2 : Int32)), (0, .ref (gad (cG C) 0))] [.ref (gad (cG C) 101), .int (2 : Int32), .ref (gad (cG C) 94)]
  refine v_aastS (pc := 133) hC (k := 94) (k2 := 101) (by decide) rfl (by decide) (by decide) rfl (by decide) dX11_init_133 ?_
  refine v_iinc (pc := 134) hC dX11_init_134 0 rfl (3 : Int32) (by decide) [(1, .int (3 : Int32)), (0, .ref (gad (cG C) 0))] (by decide) rfl ?_
  refine v_goto (pc := 137) hC 116 dX11_init_137 (by decide) ?_
  refine v_iload_n (pc := 116) hC dX11_init_116 rfl 0 rfl ?_
  refine v_iconst (pc := 117) hC (v := (4 : Int32)) (by decide) dX11_init_117 ?_
  refine v_icmp_ge (pc := 118) hC 140 dX11_init_118 (by decide) (fun q => absurd q (by decide)) (fun _ => ?_)
  refine v_aload_n (pc := 121) hC dX11_init_121 rfl 1 rfl ?_
  refine vg_RX11_61 (pc := 122) hC (k := 0) 94 (by decide) rfl rfl (fl_n (by decide) (ff_X6_101 (by decide) (fl_n (by decide) (ff_X6_99 (by decide) (fl_n (by decide) (ff_X6_97 (by decide) (fl_n (by decide) (fl_n (by decide) (fl_w (by decide)))))))))) dX11_init_122 ?_
  refine v_iload_n (pc := 125) hC dX11_init_125 rfl 0 rfl ?_
  refine vn_RX11_59 (n := 103) (pc := 126) hC rfl rfl (zw (n := 103) (zi_X6_101 (n := 103) (zs (n := 102) (m := 103) (zs (n := 101) (m := 102) (zw (n := 101) (zi_X6_99 (n := 101) (zs (n := 100) (m := 101) (zs (n := 99) (m := 100) (zw (n := 99) (zi_X6_97 (n := 99) (zs (n := 98) (m := 99) (zs (n := 97) (m := 98) (zw (n := 97) (zs (n := 96) (m := 97) (zw (n := 96) (zs (n := 95) (m := 96) (zw (n := 95) (zs (n := 94) (m := 95) (zw (n := 94) (zi_X9_92 (n := 94) (zs (n := 93) (m := 94) (zs (n := 92) (m := 93) (zw (n := 92) (zi_X4_88 (n := 92) (zs (n := 89) (m := 92) (zs (n := 88) (m := 89) (zw (n := 88) (zi_X5_83 (n := 88) (zs (n := 84) (m := 88) (zs (n := 83) (m := 84) (zw (n := 83) (zi_X8_69 (n := 83) (zs (n := 70) (m := 83) (zs (n := 69) (m := 70) (zw (n := 69) (zi_X10_35 (n := 69) (zs (n := 36) (m := 69) (zs (n := 35) (m := 36) (zw (n := 35) (zi_X10_1 (n := 35) (zs (n := 2) (m := 35) (zs (n := 1) (m := 2) hZ (by decide)) (by decide)) (by decide)) (by decide)) (by decide)) (by decide)) (by decide)) (by decide)) (by decide)) (by decide)) (by decide)) (by decide)) (by decide)) (by decide)) (by decide)) (by decide)) (by decide)) (by decide)) (by decide)) (by decide)) (by decide)) (by decide)) (by decide)) (by decide)) (by decide)) (by decide)) (by decide)) (by decide)) (by decide)) (by decide)) (by decide)) (by decide)) (by decide)) (by decide)) (by decide)) (by decide)) (by decide)) (by decide)) (by decide)) (by decide)) (by decide)) (by decide)) (by decide) dX11_init_126 ?_
  show UI C 2 104 103 1657 (wr (i_X6_101 (wr (i_X6_99 (wr (i_X6_97 (wr (wr (wr (wr (i_X9_92 (wr (i_X4_88 (wr (i_X5_83 (wr (i_X8_69 (wr (i_X10_35 (wr (i_X10_1 μ) 0 0 1)) 0 1 1)) 0 2 1)) 0 3 1)) 0 4 1)) 0 5 1) 0 6 1) 0 7 1) 0 8 1)) 94 (0 : Int32).toNatClampNeg 1)) 94 (1 : Int32).toNatClampNeg 1)) 94 (2 : Int32).toNatClampNeg 1) 129 [(1, .int (3 : Int32)), (0, .ref (gad (cG C) 0))] [.ref (gad (cG C) 103), .int (3 : Int32), .ref (gad (cG C) 94)]
  refine v_dup (pc := 129) hC rfl dX11_init_129 ?_
  refine vc_RX11_72 (n := 104) (pc := 130) hC (av := []) (rest := [.ref (gad (cG C) 103), .int (3 : Int32), .ref (gad (cG C) 94)]) (ci_X6_103 (d := d - 1) (by omega) (zs (n := 103) (m := 104) (zw (n := 103) (zi_X6_101 (n := 103) (zs (n := 102) (m := 103) (zs (n := 101) (m := 102) (zw (n := 101) (zi_X6_99 (n := 101) (zs (n := 100) (m := 101) (zs (n := 99) (m := 100) (zw (n := 99) (zi_X6_97 (n := 99) (zs (n := 98) (m := 99) (zs (n := 97) (m := 98) (zw (n := 97) (zs (n := 96) (m := 97) (zw (n := 96) (zs (n := 95) (m := 96) (zw (n := 95) (zs (n := 94) (m := 95) (zw (n := 94) (zi_X9_92 (n := 94) (zs (n := 93) (m := 94) (zs (n := 92) (m := 93) (zw (n := 92) (zi_X4_88 (n := 92) (zs (n := 89) (m := 92) (zs (n := 88) (m := 89) (zw (n := 88) (zi_X5_83 (n := 88) (zs (n := 84) (m := 88) (zs (n := 83) (m := 84) (zw (n := 83) (zi_X8_69 (n := 83) (zs (n := 70) (m := 83) (zs (n := 69) (m := 70) (zw (n := 69) (zi_X10_35 (n := 69) (zs (n := 36) (m := 69) (zs (n := 35) (m := 36) (zw (n := 35) (zi_X10_1 (n := 35) (zs (n := 2) (m := 35) (zs (n := 1) (m := 2) hZ (by decide)) (by decide)) (by decide)) (by decide)) (by decide)) (by decide)) (by decide)) (by decide)) (by decide)) (by decide)) (by decide)) (by decide)) (by decide)) (by decide)) (by decide)) (by decide)) (by decide)) (by decide)) (by decide)) (by decide)) (by decide)) (by decide)) (by decide)) (by decide)) (by decide)) (by decide)) (by decide)) (by decide)) (by decide)) (by decide)) (by decide)) (by decide)) (by decide)) (by decide)) (by decide)) (by decide)) (by decide)) (by decide)) (by decide)) (by decide)) (by decide)) (by decide)) (by decide))) rfl (by omega) (Nat.le_of_ble_eq_true rfl) rfl (by decide) rfl dX11_init_130 ?_
  show UI C 2 105 104 1697 (i_X6_103 (wr (i_X6_101 (wr (i_X6_99 (wr (i_X6_97 (wr (wr (wr (wr (i_X9_92 (wr (i_X4_88 (wr (i_X5_83 (wr (i_X8_69 (wr (i_X10_35 (wr (i_X10_1 μ) 0 0 1)) 0 1 1)) 0 2 1)) 0 3 1)) 0 4 1)) 0 5 1) 0 6 1) 0 7 1) 0 8 1)) 94 (0 : Int32).toNatClampNeg 1)) 94 (1 : Int32).toNatClampNeg 1)) 94 (2 : Int32).toNatClampNeg 1)) 133 [(1, .int (3 : Int32)), (0, .ref (gad (cG C) 0))] [.ref (gad (cG C) 103), .int (3 : Int32), .ref (gad (cG C) 94)]
  refine v_aastS (pc := 133) hC (k := 94) (k2 := 103) (by decide) rfl (by decide) (by decide) rfl (by decide) dX11_init_133 ?_
  refine v_iinc (pc := 134) hC dX11_init_134 0 rfl (4 : Int32) (by decide) [(1, .int (4 : Int32)), (0, .ref (gad (cG C) 0))] (by decide) rfl ?_
  refine v_goto (pc := 137) hC 116 dX11_init_137 (by decide) ?_
  refine v_iload_n (pc := 116) hC dX11_init_116 rfl 0 rfl ?_
  refine v_iconst (pc := 117) hC (v := (4 : Int32)) (by decide) dX11_init_117 ?_
  refine v_icmp_ge (pc := 118) hC 140 dX11_init_118 (by decide) (fun _ => ?_) (fun q => absurd (by decide) q)
  exact v_ret (pc := 140) hC hQ hr rfl dX11_init_140
def i_X12_105 (μ : Mem) : Mem := wr (wr (wr (wr (wr (wr (wr (wr (wr (wr (wr (wr (wr (wr (wr (wr μ 105 0 1) 105 1 1) 105 2 1) 105 4 1) 105 11 1) 105 12 (-1 : Int32)) 105 14 1) 105 15 1) 105 16 1) 105 18 1) 105 19 1) 105 22 1) 105 23 1) 105 24 1) 105 25 1) 106 (4 : Int32).toNatClampNeg (1 : Int32)
theorem zi_X12_105 {n : Nat} {μ : Mem} (h : Zr n μ) (hn : 120 ≤ n) : Zr n (i_X12_105 μ) := by unfold i_X12_105; exact (zw (zw (zw (zw (zw (zw (zw (zw (zw (zw (zw (zw (zw (zw (zw (zw h (by omega)) (by omega)) (by omega)) (by omega)) (by omega)) (by omega)) (by omega)) (by omega)) (by omega)) (by omega)) (by omega)) (by omega)) (by omega)) (by omega)) (by omega)) (by omega))
theorem fi_X12_105 {μ : Mem} {k j : Nat} (hk : k < 105 ∨ 120 ≤ k) : rd (i_X12_105 μ) k j = rd μ k j := by unfold i_X12_105; rw [rdw_ne (by omega), rdw_ne (by omega), rdw_ne (by omega), rdw_ne (by omega), rdw_ne (by omega), rdw_ne (by omega), rdw_ne (by omega), rdw_ne (by omega), rdw_ne (by omega), rdw_ne (by omega), rdw_ne (by omega), rdw_ne (by omega), rdw_ne (by omega), rdw_ne (by omega), rdw_ne (by omega), rdw_ne (by omega)]
theorem ff_X12_105 {μ : Mem} {k j : Nat} (hk : k < 105 ∨ 120 ≤ k) (h : ¬ rd μ k j = 0) : ¬ rd (i_X12_105 μ) k j = 0 := by rw [fi_X12_105 hk]; exact h
set_option maxHeartbeats 4000000 in
set_option maxRecDepth 100000 in
theorem ci_X12_105 {l : Launch} {G : GG} {d : Nat} (hd : 0 ≤ d) {μ : Mem} (hZ : Zr 106 μ) : CTI l yX12_init cX12_init 1 d G [.ref (gad G 105)] 106 μ 14 1143 (i_X12_105 μ) := by
  refine cti_start (by decide) rfl (Nat.le_of_ble_eq_true rfl) (fun C hl1 hG1 hC hQ hr hmn => ?_)
  subst hl1; subst hG1
  have hC : CxI C cX12_init 1 RX12 d 106 14 1143 := hC
  show UI C 1 106 0 0 μ 0 [(0, .ref (gad (cG C) 105))] []
  refine v_aload_n (pc := 0) hC dX12_init_0 rfl 0 rfl ?_
  refine v_objInit (pc := 1) hC mL_RX12_1 mM_O_init mB_O_init (Nat.le_of_ble_eq_true rfl) dX12_init_1 ?_
  refine v_aload_n (pc := 4) hC dX12_init_4 rfl 0 rfl ?_
  refine v_sipush (pc := 5) hC (v := (342 : Int32)) (by decide) dX12_init_5 ?_
  refine v_newaI (n := 106) (pc := 8) hC 342 mA_int (by decide) (by decide) (by decide) rfl rfl rfl hZ (by decide) dX12_init_8 ?_
  show UI C 1 107 1 342 μ 10 [(0, .ref (gad (cG C) 105))] [.ref (gad (cG C) 106), .ref (gad (cG C) 105)]
  refine vp_RX12_7 (pc := 10) hC hmn (k := 105) (by decide) rfl rfl dX12_init_10 ?_
  refine v_aload_n (pc := 13) hC dX12_init_13 rfl 0 rfl ?_
  refine v_sipush (pc := 14) hC (v := (342 : Int32)) (by decide) dX12_init_14 ?_
  refine v_newaI (n := 107) (pc := 17) hC 342 mA_int (by decide) (by decide) (by decide) rfl rfl rfl (zw (n := 107) (zs (n := 106) (m := 107) hZ (by decide)) (by decide)) (by decide) dX12_init_17 ?_
  show UI C 1 108 2 684 (wr μ 105 0 1) 19 [(0, .ref (gad (cG C) 105))] [.ref (gad (cG C) 107), .ref (gad (cG C) 105)]
  refine vp_RX12_13 (pc := 19) hC hmn (k := 105) (by decide) rfl rfl dX12_init_19 ?_
  refine v_aload_n (pc := 22) hC dX12_init_22 rfl 0 rfl ?_
  refine v_sipush (pc := 23) hC (v := (170 : Int32)) (by decide) dX12_init_23 ?_
  refine v_newaI (n := 108) (pc := 26) hC 170 mA_int (by decide) (by decide) (by decide) rfl rfl rfl (zw (n := 108) (zs (n := 107) (m := 108) (zw (n := 107) (zs (n := 106) (m := 107) hZ (by decide)) (by decide)) (by decide)) (by decide)) (by decide) dX12_init_26 ?_
  show UI C 1 109 3 854 (wr (wr μ 105 0 1) 105 1 1) 28 [(0, .ref (gad (cG C) 105))] [.ref (gad (cG C) 108), .ref (gad (cG C) 105)]
  refine vp_RX12_16 (pc := 28) hC hmn (k := 105) (by decide) rfl rfl dX12_init_28 ?_
  refine v_aload_n (pc := 31) hC dX12_init_31 rfl 0 rfl ?_
  refine v_bipush (pc := 32) hC (v := (6 : Int32)) (by decide) dX12_init_32 ?_
  refine v_newaI (n := 109) (pc := 34) hC 6 mA_int (by decide) (by decide) (by decide) rfl rfl rfl (zw (n := 109) (zs (n := 108) (m := 109) (zw (n := 108) (zs (n := 107) (m := 108) (zw (n := 107) (zs (n := 106) (m := 107) hZ (by decide)) (by decide)) (by decide)) (by decide)) (by decide)) (by decide)) (by decide) dX12_init_34 ?_
  show UI C 1 110 4 860 (wr (wr (wr μ 105 0 1) 105 1 1) 105 2 1) 36 [(0, .ref (gad (cG C) 105))] [.ref (gad (cG C) 109), .ref (gad (cG C) 105)]
  refine vp_RX12_19 (pc := 36) hC hmn (k := 105) (by decide) rfl rfl dX12_init_36 ?_
  refine v_aload_n (pc := 39) hC dX12_init_39 rfl 0 rfl ?_
  refine v_iconst (pc := 40) hC (v := (3 : Int32)) (by decide) dX12_init_40 ?_
  refine v_newaI (n := 110) (pc := 41) hC 3 mA_int (by decide) (by decide) (by decide) rfl rfl rfl (zw (n := 110) (zs (n := 109) (m := 110) (zw (n := 109) (zs (n := 108) (m := 109) (zw (n := 108) (zs (n := 107) (m := 108) (zw (n := 107) (zs (n := 106) (m := 107) hZ (by decide)) (by decide)) (by decide)) (by decide)) (by decide)) (by decide)) (by decide)) (by decide)) (by decide) dX12_init_41 ?_
  show UI C 1 111 5 863 (wr (wr (wr (wr μ 105 0 1) 105 1 1) 105 2 1) 105 4 1) 43 [(0, .ref (gad (cG C) 105))] [.ref (gad (cG C) 110), .ref (gad (cG C) 105)]
  refine vp_RX12_22 (pc := 43) hC hmn (k := 105) (by decide) rfl rfl dX12_init_43 ?_
  refine v_aload_n (pc := 46) hC dX12_init_46 rfl 0 rfl ?_
  refine v_iconst (pc := 47) hC (v := (-1 : Int32)) (by decide) dX12_init_47 ?_
  refine vp_RX12_25 (pc := 48) hC (k := 105) (by decide) rfl dX12_init_48 ?_
  refine v_aload_n (pc := 51) hC dX12_init_51 rfl 0 rfl ?_
  refine v_bipush (pc := 52) hC (v := (9 : Int32)) (by decide) dX12_init_52 ?_
  refine v_newaI (n := 111) (pc := 54) hC 9 mA_int (by decide) (by decide) (by decide) rfl rfl rfl (zw (n := 111) (zw (n := 111) (zs (n := 110) (m := 111) (zw (n := 110) (zs (n := 109) (m := 110) (zw (n := 109) (zs (n := 108) (m := 109) (zw (n := 108) (zs (n := 107) (m := 108) (zw (n := 107) (zs (n := 106) (m := 107) hZ (by decide)) (by decide)) (by decide)) (by decide)) (by decide)) (by decide)) (by decide)) (by decide)) (by decide)) (by decide)) (by decide)) (by decide) dX12_init_54 ?_
  show UI C 1 112 6 872 (wr (wr (wr (wr (wr (wr μ 105 0 1) 105 1 1) 105 2 1) 105 4 1) 105 11 1) 105 12 (-1 : Int32)) 56 [(0, .ref (gad (cG C) 105))] [.ref (gad (cG C) 111), .ref (gad (cG C) 105)]
  refine vp_RX12_29 (pc := 56) hC hmn (k := 105) (by decide) rfl rfl dX12_init_56 ?_
  refine v_aload_n (pc := 59) hC dX12_init_59 rfl 0 rfl ?_
  refine v_bipush (pc := 60) hC (v := (9 : Int32)) (by decide) dX12_init_60 ?_
  refine v_newaI (n := 112) (pc := 62) hC 9 mA_int (by decide) (by decide) (by decide) rfl rfl rfl (zw (n := 112) (zs (n := 111) (m := 112) (zw (n := 111) (zw (n := 111) (zs (n := 110) (m := 111) (zw (n := 110) (zs (n := 109) (m := 110) (zw (n := 109) (zs (n := 108) (m := 109) (zw (n := 108) (zs (n := 107) (m := 108) (zw (n := 107) (zs (n := 106) (m := 107) hZ (by decide)) (by decide)) (by decide)) (by decide)) (by decide)) (by decide)) (by decide)) (by decide)) (by decide)) (by decide)) (by decide)) (by decide)) (by decide)) (by decide) dX12_init_62 ?_
  show UI C 1 113 7 881 (wr (wr (wr (wr (wr (wr (wr μ 105 0 1) 105 1 1) 105 2 1) 105 4 1) 105 11 1) 105 12 (-1 : Int32)) 105 14 1) 64 [(0, .ref (gad (cG C) 105))] [.ref (gad (cG C) 112), .ref (gad (cG C) 105)]
  refine vp_RX12_32 (pc := 64) hC hmn (k := 105) (by decide) rfl rfl dX12_init_64 ?_
  refine v_aload_n (pc := 67) hC dX12_init_67 rfl 0 rfl ?_
  refine v_bipush (pc := 68) hC (v := (9 : Int32)) (by decide) dX12_init_68 ?_
  refine v_newaI (n := 113) (pc := 70) hC 9 mA_int (by decide) (by decide) (by decide) rfl rfl rfl (zw (n := 113) (zs (n := 112) (m := 113) (zw (n := 112) (zs (n := 111) (m := 112) (zw (n := 111) (zw (n := 111) (zs (n := 110) (m := 111) (zw (n := 110) (zs (n := 109) (m := 110) (zw (n := 109) (zs (n := 108) (m := 109) (zw (n := 108) (zs (n := 107) (m := 108) (zw (n := 107) (zs (n := 106) (m := 107) hZ (by decide)) (by decide)) (by decide)) (by decide)) (by decide)) (by decide)) (by decide)) (by decide)) (by decide)) (by decide)) (by decide)) (by decide)) (by decide)) (by decide)) (by decide)) (by decide) dX12_init_70 ?_
  show UI C 1 114 8 890 (wr (wr (wr (wr (wr (wr (wr (wr μ 105 0 1) 105 1 1) 105 2 1) 105 4 1) 105 11 1) 105 12 (-1 : Int32)) 105 14 1) 105 15 1) 72 [(0, .ref (gad (cG C) 105))] [.ref (gad (cG C) 113), .ref (gad (cG C) 105)]
  refine vp_RX12_35 (pc := 72) hC hmn (k := 105) (by decide) rfl rfl dX12_init_72 ?_
  refine v_aload_n (pc := 75) hC dX12_init_75 rfl 0 rfl ?_
  refine v_iconst (pc := 76) hC (v := (5 : Int32)) (by decide) dX12_init_76 ?_
  refine v_newaI (n := 114) (pc := 77) hC 5 mA_int (by decide) (by decide) (by decide) rfl rfl rfl (zw (n := 114) (zs (n := 113) (m := 114) (zw (n := 113) (zs (n := 112) (m := 113) (zw (n := 112) (zs (n := 111) (m := 112) (zw (n := 111) (zw (n := 111) (zs (n := 110) (m := 111) (zw (n := 110) (zs (n := 109) (m := 110) (zw (n := 109) (zs (n := 108) (m := 109) (zw (n := 108) (zs (n := 107) (m := 108) (zw (n := 107) (zs (n := 106) (m := 107) hZ (by decide)) (by decide)) (by decide)) (by decide)) (by decide)) (by decide)) (by decide)) (by decide)) (by decide)) (by decide)) (by decide)) (by decide)) (by decide)) (by decide)) (by decide)) (by decide)) (by decide)) (by decide) dX12_init_77 ?_
  show UI C 1 115 9 895 (wr (wr (wr (wr (wr (wr (wr (wr (wr μ 105 0 1) 105 1 1) 105 2 1) 105 4 1) 105 11 1) 105 12 (-1 : Int32)) 105 14 1) 105 15 1) 105 16 1) 79 [(0, .ref (gad (cG C) 105))] [.ref (gad (cG C) 114), .ref (gad (cG C) 105)]
  refine vp_RX12_38 (pc := 79) hC hmn (k := 105) (by decide) rfl rfl dX12_init_79 ?_
  refine v_aload_n (pc := 82) hC dX12_init_82 rfl 0 rfl ?_
  refine v_bipush (pc := 83) hC (v := (40 : Int32)) (by decide) dX12_init_83 ?_
  refine v_newaI (n := 115) (pc := 85) hC 40 mA_int (by decide) (by decide) (by decide) rfl rfl rfl (zw (n := 115) (zs (n := 114) (m := 115) (zw (n := 114) (zs (n := 113) (m := 114) (zw (n := 113) (zs (n := 112) (m := 113) (zw (n := 112) (zs (n := 111) (m := 112) (zw (n := 111) (zw (n := 111) (zs (n := 110) (m := 111) (zw (n := 110) (zs (n := 109) (m := 110) (zw (n := 109) (zs (n := 108) (m := 109) (zw (n := 108) (zs (n := 107) (m := 108) (zw (n := 107) (zs (n := 106) (m := 107) hZ (by decide)) (by decide)) (by decide)) (by decide)) (by decide)) (by decide)) (by decide)) (by decide)) (by decide)) (by decide)) (by decide)) (by decide)) (by decide)) (by decide)) (by decide)) (by decide)) (by decide)) (by decide)) (by decide)) (by decide) dX12_init_85 ?_
  show UI C 1 116 10 935 (wr (wr (wr (wr (wr (wr (wr (wr (wr (wr μ 105 0 1) 105 1 1) 105 2 1) 105 4 1) 105 11 1) 105 12 (-1 : Int32)) 105 14 1) 105 15 1) 105 16 1) 105 18 1) 87 [(0, .ref (gad (cG C) 105))] [.ref (gad (cG C) 115), .ref (gad (cG C) 105)]
  refine vp_RX12_41 (pc := 87) hC hmn (k := 105) (by decide) rfl rfl dX12_init_87 ?_
  refine v_aload_n (pc := 90) hC dX12_init_90 rfl 0 rfl ?_
  refine v_iconst (pc := 91) hC (v := (4 : Int32)) (by decide) dX12_init_91 ?_
  refine v_newaI (n := 116) (pc := 92) hC 4 mA_int (by decide) (by decide) (by decide) rfl rfl rfl (zw (n := 116) (zs (n := 115) (m := 116) (zw (n := 115) (zs (n := 114) (m := 115) (zw (n := 114) (zs (n := 113) (m := 114) (zw (n := 113) (zs (n := 112) (m := 113) (zw (n := 112) (zs (n := 111) (m := 112) (zw (n := 111) (zw (n := 111) (zs (n := 110) (m := 111) (zw (n := 110) (zs (n := 109) (m := 110) (zw (n := 109) (zs (n := 108) (m := 109) (zw (n := 108) (zs (n := 107) (m := 108) (zw (n := 107) (zs (n := 106) (m := 107) hZ (by decide)) (by decide)) (by decide)) (by decide)) (by decide)) (by decide)) (by decide)) (by decide)) (by decide)) (by decide)) (by decide)) (by decide)) (by decide)) (by decide)) (by decide)) (by decide)) (by decide)) (by decide)) (by decide)) (by decide)) (by decide)) (by decide) dX12_init_92 ?_
  show UI C 1 117 11 939 (wr (wr (wr (wr (wr (wr (wr (wr (wr (wr (wr μ 105 0 1) 105 1 1) 105 2 1) 105 4 1) 105 11 1) 105 12 (-1 : Int32)) 105 14 1) 105 15 1) 105 16 1) 105 18 1) 105 19 1) 94 [(0, .ref (gad (cG C) 105))] [.ref (gad (cG C) 116), .ref (gad (cG C) 105)]
  refine vp_RX12_44 (pc := 94) hC hmn (k := 105) (by decide) rfl rfl dX12_init_94 ?_
  refine v_aload_n (pc := 97) hC dX12_init_97 rfl 0 rfl ?_
  refine v_iconst (pc := 98) hC (v := (4 : Int32)) (by decide) dX12_init_98 ?_
  refine v_newaI (n := 117) (pc := 99) hC 4 mA_int (by decide) (by decide) (by decide) rfl rfl rfl (zw (n := 117) (zs (n := 116) (m := 117) (zw (n := 116) (zs (n := 115) (m := 116) (zw (n := 115) (zs (n := 114) (m := 115) (zw (n := 114) (zs (n := 113) (m := 114) (zw (n := 113) (zs (n := 112) (m := 113) (zw (n := 112) (zs (n := 111) (m := 112) (zw (n := 111) (zw (n := 111) (zs (n := 110) (m := 111) (zw (n := 110) (zs (n := 109) (m := 110) (zw (n := 109) (zs (n := 108) (m := 109) (zw (n := 108) (zs (n := 107) (m := 108) (zw (n := 107) (zs (n := 106) (m := 107) hZ (by decide)) (by decide)) (by decide)) (by decide)) (by decide)) (by decide)) (by decide)) (by decide)) (by decide)) (by decide)) (by decide)) (by decide)) (by decide)) (by decide)) (by decide)) (by decide)) (by decide)) (by decide)) (by decide)) (by decide)) (by decide)) (by decide)) (by decide)) (by decide) dX12_init_99 ?_
  show UI C 1 118 12 943 (wr (wr (wr (wr (wr (wr (wr (wr (wr (wr (wr (wr μ 105 0 1) 105 1 1) 105 2 1) 105 4 1) 105 11 1) 105 12 (-1 : Int32)) 105 14 1) 105 15 1) 105 16 1) 105 18 1) 105 19 1) 105 22 1) 101 [(0, .ref (gad (cG C) 105))] [.ref (gad (cG C) 117), .ref (gad (cG C) 105)]
  refine vp_RX12_47 (pc := 101) hC hmn (k := 105) (by decide) rfl rfl dX12_init_101 ?_
  refine v_aload_n (pc := 104) hC dX12_init_104 rfl 0 rfl ?_
  refine v_sipush (pc := 105) hC (v := (160 : Int32)) (by decide) dX12_init_105 ?_
  refine v_newaI (n := 118) (pc := 108) hC 160 mA_int (by decide) (by decide) (by decide) rfl rfl rfl (zw (n := 118) (zs (n := 117) (m := 118) (zw (n := 117) (zs (n := 116) (m := 117) (zw (n := 116) (zs (n := 115) (m := 116) (zw (n := 115) (zs (n := 114) (m := 115) (zw (n := 114) (zs (n := 113) (m := 114) (zw (n := 113) (zs (n := 112) (m := 113) (zw (n := 112) (zs (n := 111) (m := 112) (zw (n := 111) (zw (n := 111) (zs (n := 110) (m := 111) (zw (n := 110) (zs (n := 109) (m := 110) (zw (n := 109) (zs (n := 108) (m := 109) (zw (n := 108) (zs (n := 107) (m := 108) (zw (n := 107) (zs (n := 106) (m := 107) hZ (by decide)) (by decide)) (by decide)) (by decide)) (by decide)) (by decide)) (by decide)) (by decide)) (by decide)) (by decide)) (by decide)) (by decide)) (by decide)) (by decide)) (by decide)) (by decide)) (by decide)) (by decide)) (by decide)) (by decide)) (by decide)) (by decide)) (by decide)) (by decide)) (by decide)) (by decide) dX12_init_108 ?_
  show UI C 1 119 13 1103 (wr (wr (wr (wr (wr (wr (wr (wr (wr (wr (wr (wr (wr μ 105 0 1) 105 1 1) 105 2 1) 105 4 1) 105 11 1) 105 12 (-1 : Int32)) 105 14 1) 105 15 1) 105 16 1) 105 18 1) 105 19 1) 105 22 1) 105 23 1) 110 [(0, .ref (gad (cG C) 105))] [.ref (gad (cG C) 118), .ref (gad (cG C) 105)]
  refine vp_RX12_50 (pc := 110) hC hmn (k := 105) (by decide) rfl rfl dX12_init_110 ?_
  refine v_aload_n (pc := 113) hC dX12_init_113 rfl 0 rfl ?_
  refine v_bipush (pc := 114) hC (v := (40 : Int32)) (by decide) dX12_init_114 ?_
  refine v_newaI (n := 119) (pc := 116) hC 40 mA_int (by decide) (by decide) (by decide) rfl rfl rfl (zw (n := 119) (zs (n := 118) (m := 119) (zw (n := 118) (zs (n := 117) (m := 118) (zw (n := 117) (zs (n := 116) (m := 117) (zw (n := 116) (zs (n := 115) (m := 116) (zw (n := 115) (zs (n := 114) (m := 115) (zw (n := 114) (zs (n := 113) (m := 114) (zw (n := 113) (zs (n := 112) (m := 113) (zw (n := 112) (zs (n := 111) (m := 112) (zw (n := 111) (zw (n := 111) (zs (n := 110) (m := 111) (zw (n := 110) (zs (n := 109) (m := 110) (zw (n := 109) (zs (n := 108) (m := 109) (zw (n := 108) (zs (n := 107) (m := 108) (zw (n := 107) (zs (n := 106) (m := 107) hZ (by decide)) (by decide)) (by decide)) (by decide)) (by decide)) (by decide)) (by decide)) (by decide)) (by decide)) (by decide)) (by decide)) (by decide)) (by decide)) (by decide)) (by decide)) (by decide)) (by decide)) (by decide)) (by decide)) (by decide)) (by decide)) (by decide)) (by decide)) (by decide)) (by decide)) (by decide)) (by decide)) (by decide) dX12_init_116 ?_
  show UI C 1 120 14 1143 (wr (wr (wr (wr (wr (wr (wr (wr (wr (wr (wr (wr (wr (wr μ 105 0 1) 105 1 1) 105 2 1) 105 4 1) 105 11 1) 105 12 (-1 : Int32)) 105 14 1) 105 15 1) 105 16 1) 105 18 1) 105 19 1) 105 22 1) 105 23 1) 105 24 1) 118 [(0, .ref (gad (cG C) 105))] [.ref (gad (cG C) 119), .ref (gad (cG C) 105)]
  refine vp_RX12_53 (pc := 118) hC hmn (k := 105) (by decide) rfl rfl dX12_init_118 ?_
  refine v_aload_n (pc := 121) hC dX12_init_121 rfl 0 rfl ?_
  refine vg_RX12_7 (pc := 122) hC (k := 105) 106 (by decide) rfl rfl (fl_n (by decide) (fl_n (by decide) (fl_n (by decide) (fl_n (by decide) (fl_n (by decide) (fl_n (by decide) (fl_n (by decide) (fl_n (by decide) (fl_n (by decide) (fl_n (by decide) (fl_n (by decide) (fl_n (by decide) (fl_n (by decide) (fl_n (by decide) (fl_w (by decide)))))))))))))))) dX12_init_122 ?_
  refine v_iconst (pc := 125) hC (v := (4 : Int32)) (by decide) dX12_init_125 ?_
  refine v_iconst (pc := 126) hC (v := (1 : Int32)) (by decide) dX12_init_126 ?_
  refine v_iast (pc := 127) hC (k := 106) (by decide) rfl (by decide) dX12_init_127 ?_
  exact v_ret (pc := 128) hC hQ hr rfl dX12_init_128
