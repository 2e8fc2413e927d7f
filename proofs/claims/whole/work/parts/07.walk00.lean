set_option maxHeartbeats 4000000 in
set_option maxRecDepth 100000 in
theorem c_J7_fill_d0a16 {l : Launch} {G : GG} {d : Nat} (hd : 0 ≤ d) {μ : Mem} {k0 : Nat} (hk0 : isC 14 k0) {a1 : Int64} {r : Mem} (h : f_J7_fill_d0a16 μ k0 a1 = some r) : CT l yJ7_fill_d0a16 cJ7_fill_d0a16 5 none d G [.ref (gad G k0), .long a1] μ (RK none r) := by
  refine ct_start (by decide) (Nat.le_of_ble_eq_true rfl) (fun C hl1 hG1 hC hQ hr => ?_)
  subst hl1; subst hG1
  have hC : CxOK C cJ7_fill_d0a16 5 RJ7 d := hC
  show UW C 5 μ 0 [(0, .ref (gad (cG C) k0)), (1, .long a1)] []
  have lw6 : ∀ (v4_6 : Int32) (e : (Mem)) (s : Int32 × Mem), lp (fun s => f_J7_fill_d0a16_l6 k0 a1 v4_6 s.1 s.2) FU s = some e → (fun (e : (Mem)) => UW C 5 e 22 [] []) e → UW C 5 s.2 6 [(0, .ref (gad (cG C) k0)), (1, .long a1), (3, .int s.1), (4, .int v4_6)] [] := by
    intro v4_6 e s hl hE0
    refine @lp_walk (Int32 × Mem) (Mem) (fun s => f_J7_fill_d0a16_l6 k0 a1 v4_6 s.1 s.2) (fun s => UW C 5 s.2 6 [(0, .ref (gad (cG C) k0)), (1, .long a1), (3, .int s.1), (4, .int v4_6)] []) (fun (e : (Mem)) => UW C 5 e 22 [] []) (fun s y6 h hP6 hE6 => ?_) FU s e hl hE0
    obtain ⟨v3_6, μ_6⟩ := s
    replace h : f_J7_fill_d0a16_l6 k0 a1 v4_6 v3_6 μ_6 = some y6 := h
    show UW C 5 μ_6 6 [(0, .ref (gad (cG C) k0)), (1, .long a1), (3, .int v3_6), (4, .int v4_6)] []
    unfold f_J7_fill_d0a16_l6 at h
    refine u_iload_n (pc := 6) hC dJ7_fill_d0a16_6 rfl 2 rfl ?_
    refine u_iload (pc := 7) hC dJ7_fill_d0a16_7 3 rfl ?_
    refine u_icmp_ge (pc := 9) hC (tgt := 22) dJ7_fill_d0a16_9 (by decide) (fun c9 => ?_) (fun c9 => ?_)
    · replace h := of_t c9 h
      obtain rfl := Option.some.inj h
      refine u_sub [] rfl ?_
      exact hE6 μ_6 rfl
    · replace h := of_f c9 h
      refine u_aload_n (pc := 12) hC dJ7_fill_d0a16_12 rfl 0 rfl ?_
      refine u_iload_n (pc := 13) hC dJ7_fill_d0a16_13 rfl 2 rfl ?_
      refine u_lload_n (pc := 14) hC dJ7_fill_d0a16_14 rfl 1 rfl ?_
      obtain ⟨b15, h⟩ := of_gd h
      obtain ⟨m15, q15, h⟩ := of_bd h
      refine u_last (pc := 15) hC hk0 (ln k0) rfl b15 dJ7_fill_d0a16_15 (Option.some.inj q15) ?_
      refine u_iinc (pc := 16) hC dJ7_fill_d0a16_16 2 rfl (v3_6 + 1) rfl [(3, .int (v3_6 + 1)), (0, .ref (gad (cG C) k0)), (1, .long a1), (4, .int v4_6)] (by decide) rfl ?_
      refine u_goto (pc := 19) hC 6 dJ7_fill_d0a16_19 (by decide) ?_
      obtain rfl := Option.some.inj h
      refine u_sub [1, 2, 0, 3] rfl ?_
      exact hP6 (v3_6 + 1, m15) rfl
  unfold f_J7_fill_d0a16 at h
  refine u_iconst (pc := 0) hC ic_0 dJ7_fill_d0a16_0 ?_
  refine u_istore_n (pc := 1) hC dJ7_fill_d0a16_1 rfl [(3, .int (0 : Int32)), (0, .ref (gad (cG C) k0)), (1, .long a1)] (by decide) rfl ?_
  refine u_aload_n (pc := 2) hC dJ7_fill_d0a16_2 rfl 1 rfl ?_
  refine u_alenL (pc := 3) hC hk0 dJ7_fill_d0a16_3 ?_
  refine u_istore (pc := 4) hC dJ7_fill_d0a16_4 [(4, .int (nI (ln k0))), (3, .int (0 : Int32)), (0, .ref (gad (cG C) k0)), (1, .long a1)] (by decide) rfl ?_
  obtain ⟨e6, l6, h⟩ := of_bd h
  refine u_sub [2, 3, 1, 0] rfl ?_
  refine lw6 (nI (ln k0)) e6 ((0 : Int32), μ) l6 ?_
  show UW C 5 e6 22 [] []
  obtain rfl := Option.some.inj h
  exact u_vret (pc := 22) hC hQ hr ⟨rfl, rfl⟩ dJ7_fill_d0a16_22
set_option maxHeartbeats 4000000 in
set_option maxRecDepth 100000 in
theorem c_J7_fill_53178 {l : Launch} {G : GG} {d : Nat} (hd : 0 ≤ d) {μ : Mem} {k0 : Nat} (hk0 : isC 13 k0) {a1 : Int32} {r : Mem} (h : f_J7_fill_53178 μ k0 a1 = some r) : CT l yJ7_fill_53178 cJ7_fill_53178 4 none d G [.ref (gad G k0), .int a1] μ (RK none r) := by
  refine ct_start (by decide) (Nat.le_of_ble_eq_true rfl) (fun C hl1 hG1 hC hQ hr => ?_)
  subst hl1; subst hG1
  have hC : CxOK C cJ7_fill_53178 4 RJ7 d := hC
  show UW C 4 μ 0 [(0, .ref (gad (cG C) k0)), (1, .int a1)] []
  have lw5 : ∀ (v3_5 : Int32) (e : (Mem)) (s : Int32 × Mem), lp (fun s => f_J7_fill_53178_l5 k0 a1 v3_5 s.1 s.2) FU s = some e → (fun (e : (Mem)) => UW C 4 e 20 [] []) e → UW C 4 s.2 5 [(0, .ref (gad (cG C) k0)), (1, .int a1), (2, .int s.1), (3, .int v3_5)] [] := by
    intro v3_5 e s hl hE0
    refine @lp_walk (Int32 × Mem) (Mem) (fun s => f_J7_fill_53178_l5 k0 a1 v3_5 s.1 s.2) (fun s => UW C 4 s.2 5 [(0, .ref (gad (cG C) k0)), (1, .int a1), (2, .int s.1), (3, .int v3_5)] []) (fun (e : (Mem)) => UW C 4 e 20 [] []) (fun s y5 h hP5 hE5 => ?_) FU s e hl hE0
    obtain ⟨v2_5, μ_5⟩ := s
    replace h : f_J7_fill_53178_l5 k0 a1 v3_5 v2_5 μ_5 = some y5 := h
    show UW C 4 μ_5 5 [(0, .ref (gad (cG C) k0)), (1, .int a1), (2, .int v2_5), (3, .int v3_5)] []
    unfold f_J7_fill_53178_l5 at h
    refine u_iload_n (pc := 5) hC dJ7_fill_53178_5 rfl 2 rfl ?_
    refine u_iload_n (pc := 6) hC dJ7_fill_53178_6 rfl 3 rfl ?_
    refine u_icmp_ge (pc := 7) hC (tgt := 20) dJ7_fill_53178_7 (by decide) (fun c7 => ?_) (fun c7 => ?_)
    · replace h := of_t c7 h
      obtain rfl := Option.some.inj h
      refine u_sub [] rfl ?_
      exact hE5 μ_5 rfl
    · replace h := of_f c7 h
      refine u_aload_n (pc := 10) hC dJ7_fill_53178_10 rfl 0 rfl ?_
      refine u_iload_n (pc := 11) hC dJ7_fill_53178_11 rfl 2 rfl ?_
      refine u_iload_n (pc := 12) hC dJ7_fill_53178_12 rfl 1 rfl ?_
      obtain ⟨b13, h⟩ := of_gd h
      obtain ⟨m13, q13, h⟩ := of_bd h
      refine u_iast (pc := 13) hC hk0 (ln k0) rfl b13 dJ7_fill_53178_13 (Option.some.inj q13) ?_
      refine u_iinc (pc := 14) hC dJ7_fill_53178_14 2 rfl (v2_5 + 1) rfl [(2, .int (v2_5 + 1)), (0, .ref (gad (cG C) k0)), (1, .int a1), (3, .int v3_5)] (by decide) rfl ?_
      refine u_goto (pc := 17) hC 5 dJ7_fill_53178_17 (by decide) ?_
      obtain rfl := Option.some.inj h
      refine u_sub [1, 2, 0, 3] rfl ?_
      exact hP5 (v2_5 + 1, m13) rfl
  unfold f_J7_fill_53178 at h
  refine u_iconst (pc := 0) hC ic_0 dJ7_fill_53178_0 ?_
  refine u_istore_n (pc := 1) hC dJ7_fill_53178_1 rfl [(2, .int (0 : Int32)), (0, .ref (gad (cG C) k0)), (1, .int a1)] (by decide) rfl ?_
  refine u_aload_n (pc := 2) hC dJ7_fill_53178_2 rfl 1 rfl ?_
  refine u_alen (pc := 3) hC hk0 dJ7_fill_53178_3 ?_
  refine u_istore_n (pc := 4) hC dJ7_fill_53178_4 rfl [(3, .int (nI (ln k0))), (2, .int (0 : Int32)), (0, .ref (gad (cG C) k0)), (1, .int a1)] (by decide) rfl ?_
  obtain ⟨e5, l5, h⟩ := of_bd h
  refine u_sub [2, 3, 1, 0] rfl ?_
  refine lw5 (nI (ln k0)) e5 ((0 : Int32), μ) l5 ?_
  show UW C 4 e5 20 [] []
  obtain rfl := Option.some.inj h
  exact u_vret (pc := 20) hC hQ hr ⟨rfl, rfl⟩ dJ7_fill_53178_20
