/-! THE CLAIM OUT OF ONE WALK OF THE LAW'S BODY. Your part is whole_start (and what it stands on); all else here is the same for every law, but numbers. -/
def R_law : String := "ChapterLoanLaw"
def lw_P (b : Addr) (xs : List Int32) (args : Array Value) (s : State) : Prop := args = #[.ref b] ∧ s.IntsAt b xs ∧ xs.length ≤ 3072 ∧ (Jvm.Cond.and given_1 narrow_1).before args s = true
def lw_Q (_ : Array Value) (s : State) (o : Outcome) (t : State) : Prop := o = .returned (some (.int 1)) ∧ Framed s o t [] 600000 7302250
def lw_Z (below : List Frame) (a : Array Value) (s : State) : State → Prop := fun t => ∃ o, t.status = .running ∧ Ended t below o ∧ lw_Q a s o t
/-- the law's own end, with 1 on the stack, nothing written that was there before, its room as the claim has it -/
theorem lw_ret {p : Program} {l : Launch} {e : Env} {s : State} {m : MethodId} {below : List Frame} {meth : Method} {c : Code} {b : Nat} (hx : p.tables.exec = Jvm.exec) (hb : c.code = code) (hr : meth.sig.returnType = ret) (hlocks : meth.locks = false) {pc : Nat} {H : Heap} {ls : Array Slot} (hdg : decode code pc = .ok (.ireturn, 1)) : W p l e room_1 s m #[Value.ref b] below meth c H [] 600000 7302250 (lw_Z below #[Value.ref b] s) (F0 m pc ls [.int 1]) := by
  intro T hT X
  obtain ⟨fs, hret, hrun, hended, hW, hframe⟩ := X.leave (v := some (.int 1)) (hlocks := hlocks) (fun h => by rw [hr] at h; cases h)
  have hmeth' : T.vm.method? m = some meth := X.method'
  refine ⟨T.setFrames fs, ?_, .returned (some (.int 1)), hrun, hended, rfl, ⟨_, rfl⟩, hW, hframe⟩
  jvm_step X.here [X.here.top, hx, hb, hdg, hmeth', hr, ret, narrow_b1]
  (try refine ⟨rfl, ?_⟩); (try refine ⟨rfl, ?_⟩)
  first | (intro acts; rw [hret _ acts rfl rfl rfl]) | rw [hret _ _ rfl rfl rfl]
  exact Steps.refl _
/-- what holds at the law's entry: the machine, the code, the tables' words (any of lw_tbl by 'hts w (by decide +kernel)'), the script of L ints xs at the cell b, what the Statement gives of the start (any of its parts by flat_of_before) -/
def lw_At (p : Program) (s : State) (m : MethodId) (meth : Method) (c : Code) (b L : Nat) (xs : Nat → Int32) : Prop :=
  p.tables.exec = Jvm.exec ∧ c.code = code ∧ meth.sig.returnType = ret ∧ c.maxLocals = 4 ∧ s.vm.findClass R_law = some m.cls ∧ (∀ w ∈ lw_tbl, w.before #[Value.ref b] s = true) ∧ va_X b L xs s s.heap ∧ b < s.heap.size ∧ meth.locks = false ∧ (Jvm.Cond.and given_1 narrow_1).before #[Value.ref b] s = true
theorem vn_RL_7 {C : Cx} {cc : ByteArray} {nL : Nat} {d n0 mc ms : Nat} (hC : CxI C cc nL RL d n0 mc ms) {n c0 s0 : Nat} {μ : Mem} {pc : Nat} {lc : List (Nat × Value)} {sk : List Value} (hn : n = n0 + c0) (hsh : sh n = 11) (hz : Zr n μ) (hc : c0 + 1 ≤ mc ∧ s0 + 10 ≤ ms) (hd : decode cc pc = .ok (.new 7, 3)) (kk : UI C nL (n + 1) (c0 + 1) (s0 + 10) μ (pc + 3) lc (.ref (gad (cG C) n) :: sk)) : UI C nL n c0 s0 μ pc lc sk := v_new hC 11 (Cn := RX11) (T := TX11) (N := 10) rfl inAL_X11 rfl (by decide) mC_RL_7 mT_RX11 mI_RX11 tyX11 tyX11_ok df_11 hn hsh hz hc hd kk
theorem vc_RL_9 {C : Cx} {cc : ByteArray} {nL : Nat} {d n0 mc ms : Nat} (hC : CxI C cc nL RL d n0 mc ms) {n c0 s0 : Nat} {μ : Mem} {pc : Nat} {lc : List (Nat × Value)} {sk : List Value} {d1 k mc1 ms1 : Nat} {av rest : List Value} {μ1 : Mem} (hM : CTI (cL C) yX11_init cX11_init 2 d1 (cG C) (.ref (gad (cG C) k) :: av) n μ mc1 ms1 μ1) (hna : av.length = 0) (hdep : d1 + 1 ≤ d) (hcat : (rest.map fun v => v.category).sum ≤ 8) (hn : n = n0 + c0) (hc : c0 + mc1 ≤ mc ∧ s0 + ms1 ≤ ms) (hst : sk = av.reverse ++ .ref (gad (cG C) k) :: rest) (hd : decode cc pc = .ok (.invokespecial 9, 3)) (kk : UI C nL (n + mc1) (c0 + mc1) (s0 + ms1) μ1 (pc + 3) lc rest) : UI C nL n c0 s0 μ pc lc sk := v_callI hC hM mL_RL_9 mM_X11_init mB_X11_init mI_RX11 rfl (by decide +kernel) hna (by decide) hdep hcat hn hc hst hd kk
theorem vn_RL_10 {C : Cx} {cc : ByteArray} {nL : Nat} {d n0 mc ms : Nat} (hC : CxI C cc nL RL d n0 mc ms) {n c0 s0 : Nat} {μ : Mem} {pc : Nat} {lc : List (Nat × Value)} {sk : List Value} (hn : n = n0 + c0) (hsh : sh n = 12) (hz : Zr n μ) (hc : c0 + 1 ≤ mc ∧ s0 + 26 ≤ ms) (hd : decode cc pc = .ok (.new 10, 3)) (kk : UI C nL (n + 1) (c0 + 1) (s0 + 26) μ (pc + 3) lc (.ref (gad (cG C) n) :: sk)) : UI C nL n c0 s0 μ pc lc sk := v_new hC 12 (Cn := RX12) (T := TX12) (N := 26) rfl inAL_X12 rfl (by decide) mC_RL_10 mT_RX12 mI_RX12 tyX12 tyX12_ok df_12 hn hsh hz hc hd kk
theorem vc_RL_12 {C : Cx} {cc : ByteArray} {nL : Nat} {d n0 mc ms : Nat} (hC : CxI C cc nL RL d n0 mc ms) {n c0 s0 : Nat} {μ : Mem} {pc : Nat} {lc : List (Nat × Value)} {sk : List Value} {d1 k mc1 ms1 : Nat} {av rest : List Value} {μ1 : Mem} (hM : CTI (cL C) yX12_init cX12_init 1 d1 (cG C) (.ref (gad (cG C) k) :: av) n μ mc1 ms1 μ1) (hna : av.length = 0) (hdep : d1 + 1 ≤ d) (hcat : (rest.map fun v => v.category).sum ≤ 8) (hn : n = n0 + c0) (hc : c0 + mc1 ≤ mc ∧ s0 + ms1 ≤ ms) (hst : sk = av.reverse ++ .ref (gad (cG C) k) :: rest) (hd : decode cc pc = .ok (.invokespecial 12, 3)) (kk : UI C nL (n + mc1) (c0 + mc1) (s0 + ms1) μ1 (pc + 3) lc rest) : UI C nL n c0 s0 μ pc lc sk := v_callI hC hM mL_RL_12 mM_X12_init mB_X12_init mI_RX12 rfl (by decide +kernel) hna (by decide) hdep hcat hn hc hst hd kk
def SH_fact (Rel : Mem → Prop) : Prop := ∀ μ, Rel μ → ∀ a1 : Int32, ∀ a2 : Int32, ∃ p q : Int32 × Mem, f_X11_fact μ 0 a1 a2 = some p ∧ f_X12_fact p.2 105 a1 a2 = some q ∧ p.1 = q.1 ∧ Rel q.2
def SH_clash (Rel : Mem → Prop) : Prop := ∀ μ, Rel μ → ∀ a1 : Int32, ∀ a2 : Int32, ∀ a3 : Int32, ∃ p q : Int32 × Mem, f_X11_clash μ 0 a1 a2 a3 = some p ∧ f_X12_clash p.2 105 a1 a2 a3 = some q ∧ p.1 = q.1 ∧ Rel q.2
def SH_explain (Rel : Mem → Prop) : Prop := ∀ μ, Rel μ → ∀ a1 : Int32, ∀ a2 : Int32, ∀ a3 : Int32, ∃ p q : Int32 × Mem, f_X11_explain μ 0 a1 a2 a3 = some p ∧ f_X12_explain p.2 105 a1 a2 a3 = some q ∧ p.1 = q.1 ∧ Rel q.2
def SH_ofFact (Rel : Mem → Prop) : Prop := ∀ μ, Rel μ → ∀ a1 : Int32, ∀ a2 : Int32, ∃ p q : Int32 × Mem, f_X11_ofFact μ 0 a1 a2 = some p ∧ f_X12_ofFact p.2 105 a1 a2 = some q ∧ p.1 = q.1 ∧ Rel q.2
def SH_debtor (Rel : Mem → Prop) : Prop := ∀ μ, Rel μ → ∀ a1 : Int32, ∀ a2 : Int32, ∃ p q : Int32 × Mem, f_X11_debtor μ 0 a1 a2 = some p ∧ f_X12_debtor p.2 105 a1 a2 = some q ∧ p.1 = q.1 ∧ Rel q.2
def SH_ofDebtor (Rel : Mem → Prop) : Prop := ∀ μ, Rel μ → ∀ a1 : Int32, ∀ a2 : Int32, ∃ p q : Int32 × Mem, f_X11_ofDebtor μ 0 a1 a2 = some p ∧ f_X12_ofDebtor p.2 105 a1 a2 = some q ∧ p.1 = q.1 ∧ Rel q.2
def SH_book (Rel : Mem → Prop) : Prop := ∀ μ, Rel μ → ∀ a1 : Int32, ∀ a2 : Int32, ∀ a3 : Int32, ∃ p q : Int32 × Mem, f_X11_book μ 0 a1 a2 a3 = some p ∧ f_X12_book p.2 105 a1 a2 a3 = some q ∧ p.1 = q.1 ∧ Rel q.2
def SH_become (Rel : Mem → Prop) : Prop := ∀ μ, Rel μ → ∀ a1 : Int32, ∀ a2 : Int32, ∃ p q : Int32 × Mem, f_X11_become μ 0 a1 a2 = some p ∧ f_X12_become p.2 105 a1 a2 = some q ∧ p.1 = q.1 ∧ Rel q.2
def SH_as (Rel : Mem → Prop) : Prop := ∀ μ, Rel μ → ∀ a1 : Int32, ∀ a2 : Int32, ∃ p q : Int32 × Mem, f_X11_as μ 0 a1 a2 = some p ∧ f_X12_as p.2 105 a1 a2 = some q ∧ p.1 = q.1 ∧ Rel q.2
def SH_lend (Rel : Mem → Prop) : Prop := ∀ μ, Rel μ → ∀ a1 : Int32, ∀ a2 : Int32, ∃ p q : Int32 × Mem, f_X11_lend μ 0 a1 a2 = some p ∧ f_X12_lend p.2 105 a1 a2 = some q ∧ p.1 = q.1 ∧ Rel q.2
def SH_tells (Rel : Mem → Prop) : Prop := ∀ μ, Rel μ → ∀ a1 : Int32, ∀ a2 : Int32, ∃ p q : Int32 × Mem, f_X11_tells μ 0 a1 a2 = some p ∧ f_X12_tells p.2 105 a1 a2 = some q ∧ p.1 = q.1 ∧ Rel q.2
def SH_pardon (Rel : Mem → Prop) : Prop := ∀ μ, Rel μ → ∀ a1 : Int32, ∃ p q : Int32 × Mem, f_X11_pardon μ 0 a1 = some p ∧ f_X12_pardon p.2 105 a1 = some q ∧ p.1 = q.1 ∧ Rel q.2
def SH_weeks (Rel : Mem → Prop) : Prop := ∀ μ, Rel μ → ∀ a1 : Int32, ∃ p q : Int32 × Mem, f_X11_weeks μ 0 a1 = some p ∧ f_X12_weeks p.2 105 a1 = some q ∧ p.1 = q.1 ∧ Rel q.2
def SH_loose (Rel : Mem → Prop) : Prop := ∀ μ, Rel μ → ∀ a1 : Int32, ∃ p q : Int32 × Mem, f_X11_loose μ 0 a1 = some p ∧ f_X12_loose p.2 105 a1 = some q ∧ p.1 = q.1 ∧ Rel q.2
def SH_then (Rel : Mem → Prop) : Prop := ∀ μ, Rel μ → ∀ a1 : Int32, ∀ a2 : Int32, ∀ a3 : Int32, ∃ p q : Int32 × Mem, f_X11_then μ 0 a1 a2 a3 = some p ∧ f_X12_then p.2 105 a1 a2 a3 = some q ∧ p.1 = q.1 ∧ Rel q.2
def SH_feed (Rel : Mem → Prop) : Prop := ∀ μ, Rel μ → ∀ a1 : Int64, ∀ a2 : Int32, ∃ p q : Int32 × Mem, f_X11_feed μ 0 a1 a2 = some p ∧ f_X12_feed p.2 105 a1 a2 = some q ∧ p.1 = q.1 ∧ Rel q.2
def SH_text (Rel : Mem → Prop) : Prop := ∀ μ, Rel μ → ∀ a1 : Int32, ∃ p q : Int32 × Mem, f_X11_text μ 0 a1 = some p ∧ f_X12_text p.2 105 a1 = some q ∧ p.1 = q.1 ∧ Rel q.2
def SH_law (Rel : Mem → Prop) : Prop := ∀ μ, Rel μ → ∀ a1 : Int32, ∀ a2 : Int32, ∀ a3 : Int32, ∀ a4 : Int32, ∃ p q : Int32 × Mem, f_X11_law μ 0 a1 a2 a3 a4 = some p ∧ f_X12_law p.2 105 a1 a2 a3 a4 = some q ∧ p.1 = q.1 ∧ Rel q.2
def SH_served (Rel : Mem → Prop) : Prop := ∀ μ, Rel μ → ∀ a1 : Int32, ∀ a2 : Int32, ∃ p q : Int32 × Mem, f_X11_served μ 0 a1 a2 = some p ∧ f_X12_served p.2 105 a1 a2 = some q ∧ p.1 = q.1 ∧ Rel q.2
def SH_closed (Rel : Mem → Prop) : Prop := ∀ μ, Rel μ → ∀ a1 : Int32, ∀ a2 : Int32, ∃ p q : Int32 × Mem, f_X11_closed μ 0 a1 a2 = some p ∧ f_X12_closed p.2 105 a1 a2 = some q ∧ p.1 = q.1 ∧ Rel q.2
def SH_clashOf (Rel : Mem → Prop) : Prop := ∀ μ, Rel μ → ∀ a1 : Int32, ∃ p q : Int32 × Mem, f_X11_clashOf μ 0 a1 = some p ∧ f_X12_clashOf p.2 105 a1 = some q ∧ p.1 = q.1 ∧ Rel q.2
def SH_joined (Rel : Mem → Prop) : Prop := ∀ μ, Rel μ → ∀ a1 : Int32, ∀ a2 : Int32, ∃ p q : Int32 × Mem, f_X11_joined μ 0 a1 a2 = some p ∧ f_X12_joined p.2 105 a1 a2 = some q ∧ p.1 = q.1 ∧ Rel q.2
def SH_rated (Rel : Mem → Prop) : Prop := ∀ μ, Rel μ → ∀ a1 : Int32, ∀ a2 : Int32, ∀ a3 : Int32, ∃ p q : Int32 × Mem, f_X11_rated μ 0 a1 a2 a3 = some p ∧ f_X12_rated p.2 105 a1 a2 a3 = some q ∧ p.1 = q.1 ∧ Rel q.2
def SH_explained (Rel : Mem → Prop) : Prop := ∀ μ, Rel μ → ∀ a1 : Int32, ∀ a2 : Int32, ∃ p q : Int32 × Mem, f_X11_explained μ 0 a1 a2 = some p ∧ f_X12_explained p.2 105 a1 a2 = some q ∧ p.1 = q.1 ∧ Rel q.2
def SH_meeting (Rel : Mem → Prop) : Prop := ∀ μ, Rel μ → ∀ a1 : Int32, ∀ a2 : Int32, ∀ a3 : Int32, ∃ p q : Int32 × Mem, f_X11_meeting μ 0 a1 a2 a3 = some p ∧ f_X12_meeting p.2 105 a1 a2 a3 = some q ∧ p.1 = q.1 ∧ Rel q.2
def SH_knows (Rel : Mem → Prop) : Prop := ∀ μ, Rel μ → ∀ a1 : Int32, ∀ a2 : Int32, ∃ p q : Int32 × Mem, f_X11_knows μ 0 a1 a2 = some p ∧ f_X12_knows p.2 105 a1 a2 = some q ∧ p.1 = q.1 ∧ Rel q.2
def SH_common (Rel : Mem → Prop) : Prop := ∀ μ, Rel μ → ∀ a1 : Int32, ∀ a2 : Int32, ∃ p q : Int32 × Mem, f_X11_common μ 0 a1 a2 = some p ∧ f_X12_common p.2 105 a1 a2 = some q ∧ p.1 = q.1 ∧ Rel q.2
def SH_since (Rel : Mem → Prop) : Prop := ∀ μ, Rel μ → ∀ a1 : Int32, ∀ a2 : Int32, ∃ p q : Int32 × Mem, f_X11_since μ 0 a1 a2 = some p ∧ f_X12_since p.2 105 a1 a2 = some q ∧ p.1 = q.1 ∧ Rel q.2
def SH_seed (Rel : Mem → Prop) : Prop := ∀ μ, Rel μ → ∀ a1 : Int32, ∃ p q : Int32 × Mem, f_X11_seed μ 0 a1 = some p ∧ f_X12_seed p.2 105 a1 = some q ∧ p.1 = q.1 ∧ Rel q.2
def SH_voice (Rel : Mem → Prop) : Prop := ∀ μ, Rel μ → ∀ a1 : Int32, ∀ a2 : Int32, ∀ a3 : Int32, ∃ p q : Int32 × Mem, f_X11_voice μ 0 a1 a2 a3 = some p ∧ f_X12_voice p.2 105 a1 a2 a3 = some q ∧ p.1 = q.1 ∧ Rel q.2
def SH_trace (Rel : Mem → Prop) : Prop := ∀ μ, Rel μ → ∀ a1 : Int32, ∃ p q : Int32 × Mem, f_X11_trace μ 0 a1 = some p ∧ f_X12_trace p.2 105 a1 = some q ∧ p.1 = q.1 ∧ Rel q.2
def SH_sheet (Rel : Mem → Prop) : Prop := ∀ μ, Rel μ → ∀ a1 : Int32, ∀ a2 : Int32, ∀ a3 : Int32, ∃ p q : Int32 × Mem, f_X11_sheet μ 0 a1 a2 a3 = some p ∧ f_X12_sheet p.2 105 a1 a2 a3 = some q ∧ p.1 = q.1 ∧ Rel q.2
def SH_put (Rel : Mem → Prop) : Prop := ∀ μ, Rel μ → ∀ a1 : Int32, ∀ a2 : Int32, ∀ a3 : Int32, ∃ p q : Int32 × Mem, f_X11_put μ 0 a1 a2 a3 = some p ∧ f_X12_put p.2 105 a1 a2 a3 = some q ∧ p.1 = q.1 ∧ Rel q.2
def SH_move (Rel : Mem → Prop) : Prop := ∀ μ, Rel μ → ∀ a1 : Int32, ∀ a2 : Int32, ∀ a3 : Int32, ∀ a4 : Int32, ∀ a5 : Int32, ∃ p q : Int32 × Mem, f_X11_move μ 0 a1 a2 a3 a4 a5 = some p ∧ f_X12_move p.2 105 a1 a2 a3 a4 a5 = some q ∧ p.1 = q.1 ∧ Rel q.2
def SH_reads (Rel : Mem → Prop) : Prop := ∀ μ, Rel μ → ∀ a1 : Int32, ∃ p q : Int32 × Mem, f_X11_reads μ 0 a1 = some p ∧ f_X12_reads p.2 105 a1 = some q ∧ p.1 = q.1 ∧ Rel q.2
def SH_judge (Rel : Mem → Prop) : Prop := ∀ μ, Rel μ → ∀ a1 : Int32, ∀ a2 : Int32, ∃ p q : Int32 × Mem, f_X11_judge μ 0 a1 a2 = some p ∧ f_X12_judge p.2 105 a1 a2 = some q ∧ p.1 = q.1 ∧ Rel q.2
def SH_image (Rel : Mem → Prop) : Prop := ∀ μ, Rel μ → ∃ p q : Int32 × Mem, f_X11_image μ 0 = some p ∧ f_X12_image p.2 105 = some q ∧ p.1 = q.1 ∧ Rel q.2
def SH_restore (Rel : Mem → Prop) : Prop := ∀ μ, Rel μ → ∃ p q : Int32 × Mem, f_X11_restore μ 0 = some p ∧ f_X12_restore p.2 105 = some q ∧ p.1 = q.1 ∧ Rel q.2
def SH_tell (Rel : Mem → Prop) : Prop := ∀ μ, Rel μ → ∀ a1 : Int32, ∃ p q : Int32 × Mem, f_X11_tell μ 0 a1 = some p ∧ f_X12_tell p.2 105 a1 = some q ∧ p.1 = q.1 ∧ Rel q.2
def SH_check (Rel : Mem → Prop) : Prop := ∀ μ, Rel μ → ∃ p q : Int32 × Mem, f_X11_check μ 0 = some p ∧ f_X12_check p.2 105 = some q ∧ p.1 = q.1 ∧ Rel q.2
def SH_count (Rel : Mem → Prop) : Prop := ∀ μ, Rel μ → ∀ a1 : Int32, ∃ p q : Int32 × Mem, f_X11_count μ 0 a1 = some p ∧ f_X12_count p.2 105 a1 = some q ∧ p.1 = q.1 ∧ Rel q.2
def SH_told (Rel : Mem → Prop) : Prop := ∀ μ, Rel μ → ∀ a1 : Int32, ∃ p q : Int32 × Mem, f_X11_told μ 0 a1 = some p ∧ f_X12_told p.2 105 a1 = some q ∧ p.1 = q.1 ∧ Rel q.2
def SH_all (Rel : Mem → Prop) : Prop := SH_fact Rel ∧ SH_clash Rel ∧ SH_explain Rel ∧ SH_ofFact Rel ∧ SH_debtor Rel ∧ SH_ofDebtor Rel ∧ SH_book Rel ∧ SH_become Rel ∧ SH_as Rel ∧ SH_lend Rel ∧ SH_tells Rel ∧ SH_pardon Rel ∧ SH_weeks Rel ∧ SH_loose Rel ∧ SH_then Rel ∧ SH_feed Rel ∧ SH_text Rel ∧ SH_law Rel ∧ SH_served Rel ∧ SH_closed Rel ∧ SH_clashOf Rel ∧ SH_joined Rel ∧ SH_rated Rel ∧ SH_explained Rel ∧ SH_meeting Rel ∧ SH_knows Rel ∧ SH_common Rel ∧ SH_since Rel ∧ SH_seed Rel ∧ SH_voice Rel ∧ SH_trace Rel ∧ SH_sheet Rel ∧ SH_put Rel ∧ SH_move Rel ∧ SH_reads Rel ∧ SH_judge Rel ∧ SH_image Rel ∧ SH_restore Rel ∧ SH_tell Rel ∧ SH_check Rel ∧ SH_count Rel ∧ SH_told Rel
theorem k_RL_13 {C : Cx} {cc : ByteArray} {nL : Nat} {d : Nat} (hC : CxOK C cc nL RL d) {μ : Mem} {pc : Nat} {lc : List (Nat × Value)} {sk : List Value} {av rest : List Value} {k d1 : Nat} {r : Int32} {μ1 : Mem} (hM : CT (cL C) yX11_fact cX11_fact 5 (some .int) d1 (cG C) (.ref (gad (cG C) k) :: av) μ (RK (some (.int r)) μ1)) (hdep : d1 + 1 ≤ d) (hcat : (rest.map fun v => v.category).sum ≤ 8) (hk : isC 11 k) (hst : sk = av.reverse ++ .ref (gad (cG C) k) :: rest) (hn : av.length = 2) (hd : decode cc pc = .ok (.invokevirtual 13, 3)) (kk : UW C nL μ1 (pc + 3) lc (.int r :: rest)) : UW C nL μ pc lc sk := u_callV hC hM mL_RL_13 mM_X11_fact mS_X11_fact mB_X11_fact mI_RX11 (by decide +kernel) hn (by decide) hdep hcat (ci := 11) rfl (by decide) hk hst hd (fun v u q => by obtain ⟨rfl, rfl⟩ := q; exact kk)
theorem k_RL_17 {C : Cx} {cc : ByteArray} {nL : Nat} {d : Nat} (hC : CxOK C cc nL RL d) {μ : Mem} {pc : Nat} {lc : List (Nat × Value)} {sk : List Value} {av rest : List Value} {k d1 : Nat} {r : Int32} {μ1 : Mem} (hM : CT (cL C) yX12_fact cX12_fact 4 (some .int) d1 (cG C) (.ref (gad (cG C) k) :: av) μ (RK (some (.int r)) μ1)) (hdep : d1 + 1 ≤ d) (hcat : (rest.map fun v => v.category).sum ≤ 8) (hk : isC 12 k) (hst : sk = av.reverse ++ .ref (gad (cG C) k) :: rest) (hn : av.length = 2) (hd : decode cc pc = .ok (.invokevirtual 17, 3)) (kk : UW C nL μ1 (pc + 3) lc (.int r :: rest)) : UW C nL μ pc lc sk := u_callV hC hM mL_RL_17 mM_X12_fact mS_X12_fact mB_X12_fact mI_RX12 (by decide +kernel) hn (by decide) hdep hcat (ci := 12) rfl (by decide) hk hst hd (fun v u q => by obtain ⟨rfl, rfl⟩ := q; exact kk)
theorem k_RL_18 {C : Cx} {cc : ByteArray} {nL : Nat} {d : Nat} (hC : CxOK C cc nL RL d) {μ : Mem} {pc : Nat} {lc : List (Nat × Value)} {sk : List Value} {av rest : List Value} {k d1 : Nat} {r : Int32} {μ1 : Mem} (hM : CT (cL C) yX11_clash cX11_clash 5 (some .int) d1 (cG C) (.ref (gad (cG C) k) :: av) μ (RK (some (.int r)) μ1)) (hdep : d1 + 1 ≤ d) (hcat : (rest.map fun v => v.category).sum ≤ 8) (hk : isC 11 k) (hst : sk = av.reverse ++ .ref (gad (cG C) k) :: rest) (hn : av.length = 3) (hd : decode cc pc = .ok (.invokevirtual 18, 3)) (kk : UW C nL μ1 (pc + 3) lc (.int r :: rest)) : UW C nL μ pc lc sk := u_callV hC hM mL_RL_18 mM_X11_clash mS_X11_clash mB_X11_clash mI_RX11 (by decide +kernel) hn (by decide) hdep hcat (ci := 11) rfl (by decide) hk hst hd (fun v u q => by obtain ⟨rfl, rfl⟩ := q; exact kk)
theorem k_RL_22 {C : Cx} {cc : ByteArray} {nL : Nat} {d : Nat} (hC : CxOK C cc nL RL d) {μ : Mem} {pc : Nat} {lc : List (Nat × Value)} {sk : List Value} {av rest : List Value} {k d1 : Nat} {r : Int32} {μ1 : Mem} (hM : CT (cL C) yX12_clash cX12_clash 5 (some .int) d1 (cG C) (.ref (gad (cG C) k) :: av) μ (RK (some (.int r)) μ1)) (hdep : d1 + 1 ≤ d) (hcat : (rest.map fun v => v.category).sum ≤ 8) (hk : isC 12 k) (hst : sk = av.reverse ++ .ref (gad (cG C) k) :: rest) (hn : av.length = 3) (hd : decode cc pc = .ok (.invokevirtual 22, 3)) (kk : UW C nL μ1 (pc + 3) lc (.int r :: rest)) : UW C nL μ pc lc sk := u_callV hC hM mL_RL_22 mM_X12_clash mS_X12_clash mB_X12_clash mI_RX12 (by decide +kernel) hn (by decide) hdep hcat (ci := 12) rfl (by decide) hk hst hd (fun v u q => by obtain ⟨rfl, rfl⟩ := q; exact kk)
theorem k_RL_23 {C : Cx} {cc : ByteArray} {nL : Nat} {d : Nat} (hC : CxOK C cc nL RL d) {μ : Mem} {pc : Nat} {lc : List (Nat × Value)} {sk : List Value} {av rest : List Value} {k d1 : Nat} {r : Int32} {μ1 : Mem} (hM : CT (cL C) yX11_explain cX11_explain 5 (some .int) d1 (cG C) (.ref (gad (cG C) k) :: av) μ (RK (some (.int r)) μ1)) (hdep : d1 + 1 ≤ d) (hcat : (rest.map fun v => v.category).sum ≤ 8) (hk : isC 11 k) (hst : sk = av.reverse ++ .ref (gad (cG C) k) :: rest) (hn : av.length = 3) (hd : decode cc pc = .ok (.invokevirtual 23, 3)) (kk : UW C nL μ1 (pc + 3) lc (.int r :: rest)) : UW C nL μ pc lc sk := u_callV hC hM mL_RL_23 mM_X11_explain mS_X11_explain mB_X11_explain mI_RX11 (by decide +kernel) hn (by decide) hdep hcat (ci := 11) rfl (by decide) hk hst hd (fun v u q => by obtain ⟨rfl, rfl⟩ := q; exact kk)
theorem k_RL_26 {C : Cx} {cc : ByteArray} {nL : Nat} {d : Nat} (hC : CxOK C cc nL RL d) {μ : Mem} {pc : Nat} {lc : List (Nat × Value)} {sk : List Value} {av rest : List Value} {k d1 : Nat} {r : Int32} {μ1 : Mem} (hM : CT (cL C) yX12_explain cX12_explain 5 (some .int) d1 (cG C) (.ref (gad (cG C) k) :: av) μ (RK (some (.int r)) μ1)) (hdep : d1 + 1 ≤ d) (hcat : (rest.map fun v => v.category).sum ≤ 8) (hk : isC 12 k) (hst : sk = av.reverse ++ .ref (gad (cG C) k) :: rest) (hn : av.length = 3) (hd : decode cc pc = .ok (.invokevirtual 26, 3)) (kk : UW C nL μ1 (pc + 3) lc (.int r :: rest)) : UW C nL μ pc lc sk := u_callV hC hM mL_RL_26 mM_X12_explain mS_X12_explain mB_X12_explain mI_RX12 (by decide +kernel) hn (by decide) hdep hcat (ci := 12) rfl (by decide) hk hst hd (fun v u q => by obtain ⟨rfl, rfl⟩ := q; exact kk)
theorem k_RL_27 {C : Cx} {cc : ByteArray} {nL : Nat} {d : Nat} (hC : CxOK C cc nL RL d) {μ : Mem} {pc : Nat} {lc : List (Nat × Value)} {sk : List Value} {av rest : List Value} {k d1 : Nat} {r : Int32} {μ1 : Mem} (hM : CT (cL C) yX11_ofFact cX11_ofFact 3 (some .int) d1 (cG C) (.ref (gad (cG C) k) :: av) μ (RK (some (.int r)) μ1)) (hdep : d1 + 1 ≤ d) (hcat : (rest.map fun v => v.category).sum ≤ 8) (hk : isC 11 k) (hst : sk = av.reverse ++ .ref (gad (cG C) k) :: rest) (hn : av.length = 2) (hd : decode cc pc = .ok (.invokevirtual 27, 3)) (kk : UW C nL μ1 (pc + 3) lc (.int r :: rest)) : UW C nL μ pc lc sk := u_callV hC hM mL_RL_27 mM_X11_ofFact mS_X11_ofFact mB_X11_ofFact mI_RX11 (by decide +kernel) hn (by decide) hdep hcat (ci := 11) rfl (by decide) hk hst hd (fun v u q => by obtain ⟨rfl, rfl⟩ := q; exact kk)
theorem k_RL_30 {C : Cx} {cc : ByteArray} {nL : Nat} {d : Nat} (hC : CxOK C cc nL RL d) {μ : Mem} {pc : Nat} {lc : List (Nat × Value)} {sk : List Value} {av rest : List Value} {k d1 : Nat} {r : Int32} {μ1 : Mem} (hM : CT (cL C) yX12_ofFact cX12_ofFact 3 (some .int) d1 (cG C) (.ref (gad (cG C) k) :: av) μ (RK (some (.int r)) μ1)) (hdep : d1 + 1 ≤ d) (hcat : (rest.map fun v => v.category).sum ≤ 8) (hk : isC 12 k) (hst : sk = av.reverse ++ .ref (gad (cG C) k) :: rest) (hn : av.length = 2) (hd : decode cc pc = .ok (.invokevirtual 30, 3)) (kk : UW C nL μ1 (pc + 3) lc (.int r :: rest)) : UW C nL μ pc lc sk := u_callV hC hM mL_RL_30 mM_X12_ofFact mS_X12_ofFact mB_X12_ofFact mI_RX12 (by decide +kernel) hn (by decide) hdep hcat (ci := 12) rfl (by decide) hk hst hd (fun v u q => by obtain ⟨rfl, rfl⟩ := q; exact kk)
theorem k_RL_31 {C : Cx} {cc : ByteArray} {nL : Nat} {d : Nat} (hC : CxOK C cc nL RL d) {μ : Mem} {pc : Nat} {lc : List (Nat × Value)} {sk : List Value} {av rest : List Value} {k d1 : Nat} {r : Int32} {μ1 : Mem} (hM : CT (cL C) yX11_debtor cX11_debtor 3 (some .int) d1 (cG C) (.ref (gad (cG C) k) :: av) μ (RK (some (.int r)) μ1)) (hdep : d1 + 1 ≤ d) (hcat : (rest.map fun v => v.category).sum ≤ 8) (hk : isC 11 k) (hst : sk = av.reverse ++ .ref (gad (cG C) k) :: rest) (hn : av.length = 2) (hd : decode cc pc = .ok (.invokevirtual 31, 3)) (kk : UW C nL μ1 (pc + 3) lc (.int r :: rest)) : UW C nL μ pc lc sk := u_callV hC hM mL_RL_31 mM_X11_debtor mS_X11_debtor mB_X11_debtor mI_RX11 (by decide +kernel) hn (by decide) hdep hcat (ci := 11) rfl (by decide) hk hst hd (fun v u q => by obtain ⟨rfl, rfl⟩ := q; exact kk)
theorem k_RL_34 {C : Cx} {cc : ByteArray} {nL : Nat} {d : Nat} (hC : CxOK C cc nL RL d) {μ : Mem} {pc : Nat} {lc : List (Nat × Value)} {sk : List Value} {av rest : List Value} {k d1 : Nat} {r : Int32} {μ1 : Mem} (hM : CT (cL C) yX12_debtor cX12_debtor 4 (some .int) d1 (cG C) (.ref (gad (cG C) k) :: av) μ (RK (some (.int r)) μ1)) (hdep : d1 + 1 ≤ d) (hcat : (rest.map fun v => v.category).sum ≤ 8) (hk : isC 12 k) (hst : sk = av.reverse ++ .ref (gad (cG C) k) :: rest) (hn : av.length = 2) (hd : decode cc pc = .ok (.invokevirtual 34, 3)) (kk : UW C nL μ1 (pc + 3) lc (.int r :: rest)) : UW C nL μ pc lc sk := u_callV hC hM mL_RL_34 mM_X12_debtor mS_X12_debtor mB_X12_debtor mI_RX12 (by decide +kernel) hn (by decide) hdep hcat (ci := 12) rfl (by decide) hk hst hd (fun v u q => by obtain ⟨rfl, rfl⟩ := q; exact kk)
theorem k_RL_35 {C : Cx} {cc : ByteArray} {nL : Nat} {d : Nat} (hC : CxOK C cc nL RL d) {μ : Mem} {pc : Nat} {lc : List (Nat × Value)} {sk : List Value} {av rest : List Value} {k d1 : Nat} {r : Int32} {μ1 : Mem} (hM : CT (cL C) yX11_ofDebtor cX11_ofDebtor 4 (some .int) d1 (cG C) (.ref (gad (cG C) k) :: av) μ (RK (some (.int r)) μ1)) (hdep : d1 + 1 ≤ d) (hcat : (rest.map fun v => v.category).sum ≤ 8) (hk : isC 11 k) (hst : sk = av.reverse ++ .ref (gad (cG C) k) :: rest) (hn : av.length = 2) (hd : decode cc pc = .ok (.invokevirtual 35, 3)) (kk : UW C nL μ1 (pc + 3) lc (.int r :: rest)) : UW C nL μ pc lc sk := u_callV hC hM mL_RL_35 mM_X11_ofDebtor mS_X11_ofDebtor mB_X11_ofDebtor mI_RX11 (by decide +kernel) hn (by decide) hdep hcat (ci := 11) rfl (by decide) hk hst hd (fun v u q => by obtain ⟨rfl, rfl⟩ := q; exact kk)
theorem k_RL_38 {C : Cx} {cc : ByteArray} {nL : Nat} {d : Nat} (hC : CxOK C cc nL RL d) {μ : Mem} {pc : Nat} {lc : List (Nat × Value)} {sk : List Value} {av rest : List Value} {k d1 : Nat} {r : Int32} {μ1 : Mem} (hM : CT (cL C) yX12_ofDebtor cX12_ofDebtor 3 (some .int) d1 (cG C) (.ref (gad (cG C) k) :: av) μ (RK (some (.int r)) μ1)) (hdep : d1 + 1 ≤ d) (hcat : (rest.map fun v => v.category).sum ≤ 8) (hk : isC 12 k) (hst : sk = av.reverse ++ .ref (gad (cG C) k) :: rest) (hn : av.length = 2) (hd : decode cc pc = .ok (.invokevirtual 38, 3)) (kk : UW C nL μ1 (pc + 3) lc (.int r :: rest)) : UW C nL μ pc lc sk := u_callV hC hM mL_RL_38 mM_X12_ofDebtor mS_X12_ofDebtor mB_X12_ofDebtor mI_RX12 (by decide +kernel) hn (by decide) hdep hcat (ci := 12) rfl (by decide) hk hst hd (fun v u q => by obtain ⟨rfl, rfl⟩ := q; exact kk)
theorem k_RL_39 {C : Cx} {cc : ByteArray} {nL : Nat} {d : Nat} (hC : CxOK C cc nL RL d) {μ : Mem} {pc : Nat} {lc : List (Nat × Value)} {sk : List Value} {av rest : List Value} {k d1 : Nat} {r : Int32} {μ1 : Mem} (hM : CT (cL C) yX11_book cX11_book 6 (some .int) d1 (cG C) (.ref (gad (cG C) k) :: av) μ (RK (some (.int r)) μ1)) (hdep : d1 + 1 ≤ d) (hcat : (rest.map fun v => v.category).sum ≤ 8) (hk : isC 11 k) (hst : sk = av.reverse ++ .ref (gad (cG C) k) :: rest) (hn : av.length = 3) (hd : decode cc pc = .ok (.invokevirtual 39, 3)) (kk : UW C nL μ1 (pc + 3) lc (.int r :: rest)) : UW C nL μ pc lc sk := u_callV hC hM mL_RL_39 mM_X11_book mS_X11_book mB_X11_book mI_RX11 (by decide +kernel) hn (by decide) hdep hcat (ci := 11) rfl (by decide) hk hst hd (fun v u q => by obtain ⟨rfl, rfl⟩ := q; exact kk)
theorem k_RL_42 {C : Cx} {cc : ByteArray} {nL : Nat} {d : Nat} (hC : CxOK C cc nL RL d) {μ : Mem} {pc : Nat} {lc : List (Nat × Value)} {sk : List Value} {av rest : List Value} {k d1 : Nat} {r : Int32} {μ1 : Mem} (hM : CT (cL C) yX12_book cX12_book 4 (some .int) d1 (cG C) (.ref (gad (cG C) k) :: av) μ (RK (some (.int r)) μ1)) (hdep : d1 + 1 ≤ d) (hcat : (rest.map fun v => v.category).sum ≤ 8) (hk : isC 12 k) (hst : sk = av.reverse ++ .ref (gad (cG C) k) :: rest) (hn : av.length = 3) (hd : decode cc pc = .ok (.invokevirtual 42, 3)) (kk : UW C nL μ1 (pc + 3) lc (.int r :: rest)) : UW C nL μ pc lc sk := u_callV hC hM mL_RL_42 mM_X12_book mS_X12_book mB_X12_book mI_RX12 (by decide +kernel) hn (by decide) hdep hcat (ci := 12) rfl (by decide) hk hst hd (fun v u q => by obtain ⟨rfl, rfl⟩ := q; exact kk)
theorem k_RL_43 {C : Cx} {cc : ByteArray} {nL : Nat} {d : Nat} (hC : CxOK C cc nL RL d) {μ : Mem} {pc : Nat} {lc : List (Nat × Value)} {sk : List Value} {av rest : List Value} {k d1 : Nat} {r : Int32} {μ1 : Mem} (hM : CT (cL C) yX11_become cX11_become 5 (some .int) d1 (cG C) (.ref (gad (cG C) k) :: av) μ (RK (some (.int r)) μ1)) (hdep : d1 + 1 ≤ d) (hcat : (rest.map fun v => v.category).sum ≤ 8) (hk : isC 11 k) (hst : sk = av.reverse ++ .ref (gad (cG C) k) :: rest) (hn : av.length = 2) (hd : decode cc pc = .ok (.invokevirtual 43, 3)) (kk : UW C nL μ1 (pc + 3) lc (.int r :: rest)) : UW C nL μ pc lc sk := u_callV hC hM mL_RL_43 mM_X11_become mS_X11_become mB_X11_become mI_RX11 (by decide +kernel) hn (by decide) hdep hcat (ci := 11) rfl (by decide) hk hst hd (fun v u q => by obtain ⟨rfl, rfl⟩ := q; exact kk)
theorem k_RL_46 {C : Cx} {cc : ByteArray} {nL : Nat} {d : Nat} (hC : CxOK C cc nL RL d) {μ : Mem} {pc : Nat} {lc : List (Nat × Value)} {sk : List Value} {av rest : List Value} {k d1 : Nat} {r : Int32} {μ1 : Mem} (hM : CT (cL C) yX12_become cX12_become 4 (some .int) d1 (cG C) (.ref (gad (cG C) k) :: av) μ (RK (some (.int r)) μ1)) (hdep : d1 + 1 ≤ d) (hcat : (rest.map fun v => v.category).sum ≤ 8) (hk : isC 12 k) (hst : sk = av.reverse ++ .ref (gad (cG C) k) :: rest) (hn : av.length = 2) (hd : decode cc pc = .ok (.invokevirtual 46, 3)) (kk : UW C nL μ1 (pc + 3) lc (.int r :: rest)) : UW C nL μ pc lc sk := u_callV hC hM mL_RL_46 mM_X12_become mS_X12_become mB_X12_become mI_RX12 (by decide +kernel) hn (by decide) hdep hcat (ci := 12) rfl (by decide) hk hst hd (fun v u q => by obtain ⟨rfl, rfl⟩ := q; exact kk)
theorem k_RL_47 {C : Cx} {cc : ByteArray} {nL : Nat} {d : Nat} (hC : CxOK C cc nL RL d) {μ : Mem} {pc : Nat} {lc : List (Nat × Value)} {sk : List Value} {av rest : List Value} {k d1 : Nat} {r : Int32} {μ1 : Mem} (hM : CT (cL C) yX11_as cX11_as 4 (some .int) d1 (cG C) (.ref (gad (cG C) k) :: av) μ (RK (some (.int r)) μ1)) (hdep : d1 + 1 ≤ d) (hcat : (rest.map fun v => v.category).sum ≤ 8) (hk : isC 11 k) (hst : sk = av.reverse ++ .ref (gad (cG C) k) :: rest) (hn : av.length = 2) (hd : decode cc pc = .ok (.invokevirtual 47, 3)) (kk : UW C nL μ1 (pc + 3) lc (.int r :: rest)) : UW C nL μ pc lc sk := u_callV hC hM mL_RL_47 mM_X11_as mS_X11_as mB_X11_as mI_RX11 (by decide +kernel) hn (by decide) hdep hcat (ci := 11) rfl (by decide) hk hst hd (fun v u q => by obtain ⟨rfl, rfl⟩ := q; exact kk)
theorem k_RL_50 {C : Cx} {cc : ByteArray} {nL : Nat} {d : Nat} (hC : CxOK C cc nL RL d) {μ : Mem} {pc : Nat} {lc : List (Nat × Value)} {sk : List Value} {av rest : List Value} {k d1 : Nat} {r : Int32} {μ1 : Mem} (hM : CT (cL C) yX12_as cX12_as 4 (some .int) d1 (cG C) (.ref (gad (cG C) k) :: av) μ (RK (some (.int r)) μ1)) (hdep : d1 + 1 ≤ d) (hcat : (rest.map fun v => v.category).sum ≤ 8) (hk : isC 12 k) (hst : sk = av.reverse ++ .ref (gad (cG C) k) :: rest) (hn : av.length = 2) (hd : decode cc pc = .ok (.invokevirtual 50, 3)) (kk : UW C nL μ1 (pc + 3) lc (.int r :: rest)) : UW C nL μ pc lc sk := u_callV hC hM mL_RL_50 mM_X12_as mS_X12_as mB_X12_as mI_RX12 (by decide +kernel) hn (by decide) hdep hcat (ci := 12) rfl (by decide) hk hst hd (fun v u q => by obtain ⟨rfl, rfl⟩ := q; exact kk)
theorem k_RL_51 {C : Cx} {cc : ByteArray} {nL : Nat} {d : Nat} (hC : CxOK C cc nL RL d) {μ : Mem} {pc : Nat} {lc : List (Nat × Value)} {sk : List Value} {av rest : List Value} {k d1 : Nat} {r : Int32} {μ1 : Mem} (hM : CT (cL C) yX11_lend cX11_lend 4 (some .int) d1 (cG C) (.ref (gad (cG C) k) :: av) μ (RK (some (.int r)) μ1)) (hdep : d1 + 1 ≤ d) (hcat : (rest.map fun v => v.category).sum ≤ 8) (hk : isC 11 k) (hst : sk = av.reverse ++ .ref (gad (cG C) k) :: rest) (hn : av.length = 2) (hd : decode cc pc = .ok (.invokevirtual 51, 3)) (kk : UW C nL μ1 (pc + 3) lc (.int r :: rest)) : UW C nL μ pc lc sk := u_callV hC hM mL_RL_51 mM_X11_lend mS_X11_lend mB_X11_lend mI_RX11 (by decide +kernel) hn (by decide) hdep hcat (ci := 11) rfl (by decide) hk hst hd (fun v u q => by obtain ⟨rfl, rfl⟩ := q; exact kk)
theorem k_RL_54 {C : Cx} {cc : ByteArray} {nL : Nat} {d : Nat} (hC : CxOK C cc nL RL d) {μ : Mem} {pc : Nat} {lc : List (Nat × Value)} {sk : List Value} {av rest : List Value} {k d1 : Nat} {r : Int32} {μ1 : Mem} (hM : CT (cL C) yX12_lend cX12_lend 3 (some .int) d1 (cG C) (.ref (gad (cG C) k) :: av) μ (RK (some (.int r)) μ1)) (hdep : d1 + 1 ≤ d) (hcat : (rest.map fun v => v.category).sum ≤ 8) (hk : isC 12 k) (hst : sk = av.reverse ++ .ref (gad (cG C) k) :: rest) (hn : av.length = 2) (hd : decode cc pc = .ok (.invokevirtual 54, 3)) (kk : UW C nL μ1 (pc + 3) lc (.int r :: rest)) : UW C nL μ pc lc sk := u_callV hC hM mL_RL_54 mM_X12_lend mS_X12_lend mB_X12_lend mI_RX12 (by decide +kernel) hn (by decide) hdep hcat (ci := 12) rfl (by decide) hk hst hd (fun v u q => by obtain ⟨rfl, rfl⟩ := q; exact kk)
theorem k_RL_55 {C : Cx} {cc : ByteArray} {nL : Nat} {d : Nat} (hC : CxOK C cc nL RL d) {μ : Mem} {pc : Nat} {lc : List (Nat × Value)} {sk : List Value} {av rest : List Value} {k d1 : Nat} {r : Int32} {μ1 : Mem} (hM : CT (cL C) yX11_tells cX11_tells 3 (some .int) d1 (cG C) (.ref (gad (cG C) k) :: av) μ (RK (some (.int r)) μ1)) (hdep : d1 + 1 ≤ d) (hcat : (rest.map fun v => v.category).sum ≤ 8) (hk : isC 11 k) (hst : sk = av.reverse ++ .ref (gad (cG C) k) :: rest) (hn : av.length = 2) (hd : decode cc pc = .ok (.invokevirtual 55, 3)) (kk : UW C nL μ1 (pc + 3) lc (.int r :: rest)) : UW C nL μ pc lc sk := u_callV hC hM mL_RL_55 mM_X11_tells mS_X11_tells mB_X11_tells mI_RX11 (by decide +kernel) hn (by decide) hdep hcat (ci := 11) rfl (by decide) hk hst hd (fun v u q => by obtain ⟨rfl, rfl⟩ := q; exact kk)
theorem k_RL_58 {C : Cx} {cc : ByteArray} {nL : Nat} {d : Nat} (hC : CxOK C cc nL RL d) {μ : Mem} {pc : Nat} {lc : List (Nat × Value)} {sk : List Value} {av rest : List Value} {k d1 : Nat} {r : Int32} {μ1 : Mem} (hM : CT (cL C) yX12_tells cX12_tells 3 (some .int) d1 (cG C) (.ref (gad (cG C) k) :: av) μ (RK (some (.int r)) μ1)) (hdep : d1 + 1 ≤ d) (hcat : (rest.map fun v => v.category).sum ≤ 8) (hk : isC 12 k) (hst : sk = av.reverse ++ .ref (gad (cG C) k) :: rest) (hn : av.length = 2) (hd : decode cc pc = .ok (.invokevirtual 58, 3)) (kk : UW C nL μ1 (pc + 3) lc (.int r :: rest)) : UW C nL μ pc lc sk := u_callV hC hM mL_RL_58 mM_X12_tells mS_X12_tells mB_X12_tells mI_RX12 (by decide +kernel) hn (by decide) hdep hcat (ci := 12) rfl (by decide) hk hst hd (fun v u q => by obtain ⟨rfl, rfl⟩ := q; exact kk)
theorem k_RL_59 {C : Cx} {cc : ByteArray} {nL : Nat} {d : Nat} (hC : CxOK C cc nL RL d) {μ : Mem} {pc : Nat} {lc : List (Nat × Value)} {sk : List Value} {av rest : List Value} {k d1 : Nat} {r : Int32} {μ1 : Mem} (hM : CT (cL C) yX11_pardon cX11_pardon 4 (some .int) d1 (cG C) (.ref (gad (cG C) k) :: av) μ (RK (some (.int r)) μ1)) (hdep : d1 + 1 ≤ d) (hcat : (rest.map fun v => v.category).sum ≤ 8) (hk : isC 11 k) (hst : sk = av.reverse ++ .ref (gad (cG C) k) :: rest) (hn : av.length = 1) (hd : decode cc pc = .ok (.invokevirtual 59, 3)) (kk : UW C nL μ1 (pc + 3) lc (.int r :: rest)) : UW C nL μ pc lc sk := u_callV hC hM mL_RL_59 mM_X11_pardon mS_X11_pardon mB_X11_pardon mI_RX11 (by decide +kernel) hn (by decide) hdep hcat (ci := 11) rfl (by decide) hk hst hd (fun v u q => by obtain ⟨rfl, rfl⟩ := q; exact kk)
theorem k_RL_63 {C : Cx} {cc : ByteArray} {nL : Nat} {d : Nat} (hC : CxOK C cc nL RL d) {μ : Mem} {pc : Nat} {lc : List (Nat × Value)} {sk : List Value} {av rest : List Value} {k d1 : Nat} {r : Int32} {μ1 : Mem} (hM : CT (cL C) yX12_pardon cX12_pardon 3 (some .int) d1 (cG C) (.ref (gad (cG C) k) :: av) μ (RK (some (.int r)) μ1)) (hdep : d1 + 1 ≤ d) (hcat : (rest.map fun v => v.category).sum ≤ 8) (hk : isC 12 k) (hst : sk = av.reverse ++ .ref (gad (cG C) k) :: rest) (hn : av.length = 1) (hd : decode cc pc = .ok (.invokevirtual 63, 3)) (kk : UW C nL μ1 (pc + 3) lc (.int r :: rest)) : UW C nL μ pc lc sk := u_callV hC hM mL_RL_63 mM_X12_pardon mS_X12_pardon mB_X12_pardon mI_RX12 (by decide +kernel) hn (by decide) hdep hcat (ci := 12) rfl (by decide) hk hst hd (fun v u q => by obtain ⟨rfl, rfl⟩ := q; exact kk)
theorem k_RL_64 {C : Cx} {cc : ByteArray} {nL : Nat} {d : Nat} (hC : CxOK C cc nL RL d) {μ : Mem} {pc : Nat} {lc : List (Nat × Value)} {sk : List Value} {av rest : List Value} {k d1 : Nat} {r : Int32} {μ1 : Mem} (hM : CT (cL C) yX11_weeks cX11_weeks 2 (some .int) d1 (cG C) (.ref (gad (cG C) k) :: av) μ (RK (some (.int r)) μ1)) (hdep : d1 + 1 ≤ d) (hcat : (rest.map fun v => v.category).sum ≤ 8) (hk : isC 11 k) (hst : sk = av.reverse ++ .ref (gad (cG C) k) :: rest) (hn : av.length = 1) (hd : decode cc pc = .ok (.invokevirtual 64, 3)) (kk : UW C nL μ1 (pc + 3) lc (.int r :: rest)) : UW C nL μ pc lc sk := u_callV hC hM mL_RL_64 mM_X11_weeks mS_X11_weeks mB_X11_weeks mI_RX11 (by decide +kernel) hn (by decide) hdep hcat (ci := 11) rfl (by decide) hk hst hd (fun v u q => by obtain ⟨rfl, rfl⟩ := q; exact kk)
theorem k_RL_67 {C : Cx} {cc : ByteArray} {nL : Nat} {d : Nat} (hC : CxOK C cc nL RL d) {μ : Mem} {pc : Nat} {lc : List (Nat × Value)} {sk : List Value} {av rest : List Value} {k d1 : Nat} {r : Int32} {μ1 : Mem} (hM : CT (cL C) yX12_weeks cX12_weeks 2 (some .int) d1 (cG C) (.ref (gad (cG C) k) :: av) μ (RK (some (.int r)) μ1)) (hdep : d1 + 1 ≤ d) (hcat : (rest.map fun v => v.category).sum ≤ 8) (hk : isC 12 k) (hst : sk = av.reverse ++ .ref (gad (cG C) k) :: rest) (hn : av.length = 1) (hd : decode cc pc = .ok (.invokevirtual 67, 3)) (kk : UW C nL μ1 (pc + 3) lc (.int r :: rest)) : UW C nL μ pc lc sk := u_callV hC hM mL_RL_67 mM_X12_weeks mS_X12_weeks mB_X12_weeks mI_RX12 (by decide +kernel) hn (by decide) hdep hcat (ci := 12) rfl (by decide) hk hst hd (fun v u q => by obtain ⟨rfl, rfl⟩ := q; exact kk)
theorem k_RL_68 {C : Cx} {cc : ByteArray} {nL : Nat} {d : Nat} (hC : CxOK C cc nL RL d) {μ : Mem} {pc : Nat} {lc : List (Nat × Value)} {sk : List Value} {av rest : List Value} {k d1 : Nat} {r : Int32} {μ1 : Mem} (hM : CT (cL C) yX11_loose cX11_loose 3 (some .int) d1 (cG C) (.ref (gad (cG C) k) :: av) μ (RK (some (.int r)) μ1)) (hdep : d1 + 1 ≤ d) (hcat : (rest.map fun v => v.category).sum ≤ 8) (hk : isC 11 k) (hst : sk = av.reverse ++ .ref (gad (cG C) k) :: rest) (hn : av.length = 1) (hd : decode cc pc = .ok (.invokevirtual 68, 3)) (kk : UW C nL μ1 (pc + 3) lc (.int r :: rest)) : UW C nL μ pc lc sk := u_callV hC hM mL_RL_68 mM_X11_loose mS_X11_loose mB_X11_loose mI_RX11 (by decide +kernel) hn (by decide) hdep hcat (ci := 11) rfl (by decide) hk hst hd (fun v u q => by obtain ⟨rfl, rfl⟩ := q; exact kk)
theorem k_RL_71 {C : Cx} {cc : ByteArray} {nL : Nat} {d : Nat} (hC : CxOK C cc nL RL d) {μ : Mem} {pc : Nat} {lc : List (Nat × Value)} {sk : List Value} {av rest : List Value} {k d1 : Nat} {r : Int32} {μ1 : Mem} (hM : CT (cL C) yX12_loose cX12_loose 2 (some .int) d1 (cG C) (.ref (gad (cG C) k) :: av) μ (RK (some (.int r)) μ1)) (hdep : d1 + 1 ≤ d) (hcat : (rest.map fun v => v.category).sum ≤ 8) (hk : isC 12 k) (hst : sk = av.reverse ++ .ref (gad (cG C) k) :: rest) (hn : av.length = 1) (hd : decode cc pc = .ok (.invokevirtual 71, 3)) (kk : UW C nL μ1 (pc + 3) lc (.int r :: rest)) : UW C nL μ pc lc sk := u_callV hC hM mL_RL_71 mM_X12_loose mS_X12_loose mB_X12_loose mI_RX12 (by decide +kernel) hn (by decide) hdep hcat (ci := 12) rfl (by decide) hk hst hd (fun v u q => by obtain ⟨rfl, rfl⟩ := q; exact kk)
theorem k_RL_72 {C : Cx} {cc : ByteArray} {nL : Nat} {d : Nat} (hC : CxOK C cc nL RL d) {μ : Mem} {pc : Nat} {lc : List (Nat × Value)} {sk : List Value} {av rest : List Value} {k d1 : Nat} {r : Int32} {μ1 : Mem} (hM : CT (cL C) yX11_then cX11_then 4 (some .int) d1 (cG C) (.ref (gad (cG C) k) :: av) μ (RK (some (.int r)) μ1)) (hdep : d1 + 1 ≤ d) (hcat : (rest.map fun v => v.category).sum ≤ 8) (hk : isC 11 k) (hst : sk = av.reverse ++ .ref (gad (cG C) k) :: rest) (hn : av.length = 3) (hd : decode cc pc = .ok (.invokevirtual 72, 3)) (kk : UW C nL μ1 (pc + 3) lc (.int r :: rest)) : UW C nL μ pc lc sk := u_callV hC hM mL_RL_72 mM_X11_then mS_X11_then mB_X11_then mI_RX11 (by decide +kernel) hn (by decide) hdep hcat (ci := 11) rfl (by decide) hk hst hd (fun v u q => by obtain ⟨rfl, rfl⟩ := q; exact kk)
theorem k_RL_75 {C : Cx} {cc : ByteArray} {nL : Nat} {d : Nat} (hC : CxOK C cc nL RL d) {μ : Mem} {pc : Nat} {lc : List (Nat × Value)} {sk : List Value} {av rest : List Value} {k d1 : Nat} {r : Int32} {μ1 : Mem} (hM : CT (cL C) yX12_then cX12_then 5 (some .int) d1 (cG C) (.ref (gad (cG C) k) :: av) μ (RK (some (.int r)) μ1)) (hdep : d1 + 1 ≤ d) (hcat : (rest.map fun v => v.category).sum ≤ 8) (hk : isC 12 k) (hst : sk = av.reverse ++ .ref (gad (cG C) k) :: rest) (hn : av.length = 3) (hd : decode cc pc = .ok (.invokevirtual 75, 3)) (kk : UW C nL μ1 (pc + 3) lc (.int r :: rest)) : UW C nL μ pc lc sk := u_callV hC hM mL_RL_75 mM_X12_then mS_X12_then mB_X12_then mI_RX12 (by decide +kernel) hn (by decide) hdep hcat (ci := 12) rfl (by decide) hk hst hd (fun v u q => by obtain ⟨rfl, rfl⟩ := q; exact kk)
theorem k_RL_78 {C : Cx} {cc : ByteArray} {nL : Nat} {d : Nat} (hC : CxOK C cc nL RL d) {μ : Mem} {pc : Nat} {lc : List (Nat × Value)} {sk : List Value} {av rest : List Value} {k d1 : Nat} {r : Int32} {μ1 : Mem} (hM : CT (cL C) yX11_feed cX11_feed 6 (some .int) d1 (cG C) (.ref (gad (cG C) k) :: av) μ (RK (some (.int r)) μ1)) (hdep : d1 + 1 ≤ d) (hcat : (rest.map fun v => v.category).sum ≤ 8) (hk : isC 11 k) (hst : sk = av.reverse ++ .ref (gad (cG C) k) :: rest) (hn : av.length = 2) (hd : decode cc pc = .ok (.invokevirtual 78, 3)) (kk : UW C nL μ1 (pc + 3) lc (.int r :: rest)) : UW C nL μ pc lc sk := u_callV hC hM mL_RL_78 mM_X11_feed mS_X11_feed mB_X11_feed mI_RX11 (by decide +kernel) hn (by decide) hdep hcat (ci := 11) rfl (by decide) hk hst hd (fun v u q => by obtain ⟨rfl, rfl⟩ := q; exact kk)
theorem k_RL_82 {C : Cx} {cc : ByteArray} {nL : Nat} {d : Nat} (hC : CxOK C cc nL RL d) {μ : Mem} {pc : Nat} {lc : List (Nat × Value)} {sk : List Value} {av rest : List Value} {k d1 : Nat} {r : Int32} {μ1 : Mem} (hM : CT (cL C) yX12_feed cX12_feed 5 (some .int) d1 (cG C) (.ref (gad (cG C) k) :: av) μ (RK (some (.int r)) μ1)) (hdep : d1 + 1 ≤ d) (hcat : (rest.map fun v => v.category).sum ≤ 8) (hk : isC 12 k) (hst : sk = av.reverse ++ .ref (gad (cG C) k) :: rest) (hn : av.length = 2) (hd : decode cc pc = .ok (.invokevirtual 82, 3)) (kk : UW C nL μ1 (pc + 3) lc (.int r :: rest)) : UW C nL μ pc lc sk := u_callV hC hM mL_RL_82 mM_X12_feed mS_X12_feed mB_X12_feed mI_RX12 (by decide +kernel) hn (by decide) hdep hcat (ci := 12) rfl (by decide) hk hst hd (fun v u q => by obtain ⟨rfl, rfl⟩ := q; exact kk)
theorem k_RL_83 {C : Cx} {cc : ByteArray} {nL : Nat} {d : Nat} (hC : CxOK C cc nL RL d) {μ : Mem} {pc : Nat} {lc : List (Nat × Value)} {sk : List Value} {av rest : List Value} {k d1 : Nat} {r : Int32} {μ1 : Mem} (hM : CT (cL C) yX11_text cX11_text 3 (some .int) d1 (cG C) (.ref (gad (cG C) k) :: av) μ (RK (some (.int r)) μ1)) (hdep : d1 + 1 ≤ d) (hcat : (rest.map fun v => v.category).sum ≤ 8) (hk : isC 11 k) (hst : sk = av.reverse ++ .ref (gad (cG C) k) :: rest) (hn : av.length = 1) (hd : decode cc pc = .ok (.invokevirtual 83, 3)) (kk : UW C nL μ1 (pc + 3) lc (.int r :: rest)) : UW C nL μ pc lc sk := u_callV hC hM mL_RL_83 mM_X11_text mS_X11_text mB_X11_text mI_RX11 (by decide +kernel) hn (by decide) hdep hcat (ci := 11) rfl (by decide) hk hst hd (fun v u q => by obtain ⟨rfl, rfl⟩ := q; exact kk)
theorem k_RL_86 {C : Cx} {cc : ByteArray} {nL : Nat} {d : Nat} (hC : CxOK C cc nL RL d) {μ : Mem} {pc : Nat} {lc : List (Nat × Value)} {sk : List Value} {av rest : List Value} {k d1 : Nat} {r : Int32} {μ1 : Mem} (hM : CT (cL C) yX12_text cX12_text 5 (some .int) d1 (cG C) (.ref (gad (cG C) k) :: av) μ (RK (some (.int r)) μ1)) (hdep : d1 + 1 ≤ d) (hcat : (rest.map fun v => v.category).sum ≤ 8) (hk : isC 12 k) (hst : sk = av.reverse ++ .ref (gad (cG C) k) :: rest) (hn : av.length = 1) (hd : decode cc pc = .ok (.invokevirtual 86, 3)) (kk : UW C nL μ1 (pc + 3) lc (.int r :: rest)) : UW C nL μ pc lc sk := u_callV hC hM mL_RL_86 mM_X12_text mS_X12_text mB_X12_text mI_RX12 (by decide +kernel) hn (by decide) hdep hcat (ci := 12) rfl (by decide) hk hst hd (fun v u q => by obtain ⟨rfl, rfl⟩ := q; exact kk)
theorem k_RL_87 {C : Cx} {cc : ByteArray} {nL : Nat} {d : Nat} (hC : CxOK C cc nL RL d) {μ : Mem} {pc : Nat} {lc : List (Nat × Value)} {sk : List Value} {av rest : List Value} {k d1 : Nat} {r : Int32} {μ1 : Mem} (hM : CT (cL C) yX11_law cX11_law 5 (some .int) d1 (cG C) (.ref (gad (cG C) k) :: av) μ (RK (some (.int r)) μ1)) (hdep : d1 + 1 ≤ d) (hcat : (rest.map fun v => v.category).sum ≤ 8) (hk : isC 11 k) (hst : sk = av.reverse ++ .ref (gad (cG C) k) :: rest) (hn : av.length = 4) (hd : decode cc pc = .ok (.invokevirtual 87, 3)) (kk : UW C nL μ1 (pc + 3) lc (.int r :: rest)) : UW C nL μ pc lc sk := u_callV hC hM mL_RL_87 mM_X11_law mS_X11_law mB_X11_law mI_RX11 (by decide +kernel) hn (by decide) hdep hcat (ci := 11) rfl (by decide) hk hst hd (fun v u q => by obtain ⟨rfl, rfl⟩ := q; exact kk)
theorem k_RL_91 {C : Cx} {cc : ByteArray} {nL : Nat} {d : Nat} (hC : CxOK C cc nL RL d) {μ : Mem} {pc : Nat} {lc : List (Nat × Value)} {sk : List Value} {av rest : List Value} {k d1 : Nat} {r : Int32} {μ1 : Mem} (hM : CT (cL C) yX12_law cX12_law 5 (some .int) d1 (cG C) (.ref (gad (cG C) k) :: av) μ (RK (some (.int r)) μ1)) (hdep : d1 + 1 ≤ d) (hcat : (rest.map fun v => v.category).sum ≤ 8) (hk : isC 12 k) (hst : sk = av.reverse ++ .ref (gad (cG C) k) :: rest) (hn : av.length = 4) (hd : decode cc pc = .ok (.invokevirtual 91, 3)) (kk : UW C nL μ1 (pc + 3) lc (.int r :: rest)) : UW C nL μ pc lc sk := u_callV hC hM mL_RL_91 mM_X12_law mS_X12_law mB_X12_law mI_RX12 (by decide +kernel) hn (by decide) hdep hcat (ci := 12) rfl (by decide) hk hst hd (fun v u q => by obtain ⟨rfl, rfl⟩ := q; exact kk)
theorem k_RL_92 {C : Cx} {cc : ByteArray} {nL : Nat} {d : Nat} (hC : CxOK C cc nL RL d) {μ : Mem} {pc : Nat} {lc : List (Nat × Value)} {sk : List Value} {av rest : List Value} {k d1 : Nat} {r : Int32} {μ1 : Mem} (hM : CT (cL C) yX11_served cX11_served 3 (some .int) d1 (cG C) (.ref (gad (cG C) k) :: av) μ (RK (some (.int r)) μ1)) (hdep : d1 + 1 ≤ d) (hcat : (rest.map fun v => v.category).sum ≤ 8) (hk : isC 11 k) (hst : sk = av.reverse ++ .ref (gad (cG C) k) :: rest) (hn : av.length = 2) (hd : decode cc pc = .ok (.invokevirtual 92, 3)) (kk : UW C nL μ1 (pc + 3) lc (.int r :: rest)) : UW C nL μ pc lc sk := u_callV hC hM mL_RL_92 mM_X11_served mS_X11_served mB_X11_served mI_RX11 (by decide +kernel) hn (by decide) hdep hcat (ci := 11) rfl (by decide) hk hst hd (fun v u q => by obtain ⟨rfl, rfl⟩ := q; exact kk)
theorem k_RL_95 {C : Cx} {cc : ByteArray} {nL : Nat} {d : Nat} (hC : CxOK C cc nL RL d) {μ : Mem} {pc : Nat} {lc : List (Nat × Value)} {sk : List Value} {av rest : List Value} {k d1 : Nat} {r : Int32} {μ1 : Mem} (hM : CT (cL C) yX12_served cX12_served 3 (some .int) d1 (cG C) (.ref (gad (cG C) k) :: av) μ (RK (some (.int r)) μ1)) (hdep : d1 + 1 ≤ d) (hcat : (rest.map fun v => v.category).sum ≤ 8) (hk : isC 12 k) (hst : sk = av.reverse ++ .ref (gad (cG C) k) :: rest) (hn : av.length = 2) (hd : decode cc pc = .ok (.invokevirtual 95, 3)) (kk : UW C nL μ1 (pc + 3) lc (.int r :: rest)) : UW C nL μ pc lc sk := u_callV hC hM mL_RL_95 mM_X12_served mS_X12_served mB_X12_served mI_RX12 (by decide +kernel) hn (by decide) hdep hcat (ci := 12) rfl (by decide) hk hst hd (fun v u q => by obtain ⟨rfl, rfl⟩ := q; exact kk)
theorem k_RL_96 {C : Cx} {cc : ByteArray} {nL : Nat} {d : Nat} (hC : CxOK C cc nL RL d) {μ : Mem} {pc : Nat} {lc : List (Nat × Value)} {sk : List Value} {av rest : List Value} {k d1 : Nat} {r : Int32} {μ1 : Mem} (hM : CT (cL C) yX11_closed cX11_closed 3 (some .int) d1 (cG C) (.ref (gad (cG C) k) :: av) μ (RK (some (.int r)) μ1)) (hdep : d1 + 1 ≤ d) (hcat : (rest.map fun v => v.category).sum ≤ 8) (hk : isC 11 k) (hst : sk = av.reverse ++ .ref (gad (cG C) k) :: rest) (hn : av.length = 2) (hd : decode cc pc = .ok (.invokevirtual 96, 3)) (kk : UW C nL μ1 (pc + 3) lc (.int r :: rest)) : UW C nL μ pc lc sk := u_callV hC hM mL_RL_96 mM_X11_closed mS_X11_closed mB_X11_closed mI_RX11 (by decide +kernel) hn (by decide) hdep hcat (ci := 11) rfl (by decide) hk hst hd (fun v u q => by obtain ⟨rfl, rfl⟩ := q; exact kk)
theorem k_RL_99 {C : Cx} {cc : ByteArray} {nL : Nat} {d : Nat} (hC : CxOK C cc nL RL d) {μ : Mem} {pc : Nat} {lc : List (Nat × Value)} {sk : List Value} {av rest : List Value} {k d1 : Nat} {r : Int32} {μ1 : Mem} (hM : CT (cL C) yX12_closed cX12_closed 3 (some .int) d1 (cG C) (.ref (gad (cG C) k) :: av) μ (RK (some (.int r)) μ1)) (hdep : d1 + 1 ≤ d) (hcat : (rest.map fun v => v.category).sum ≤ 8) (hk : isC 12 k) (hst : sk = av.reverse ++ .ref (gad (cG C) k) :: rest) (hn : av.length = 2) (hd : decode cc pc = .ok (.invokevirtual 99, 3)) (kk : UW C nL μ1 (pc + 3) lc (.int r :: rest)) : UW C nL μ pc lc sk := u_callV hC hM mL_RL_99 mM_X12_closed mS_X12_closed mB_X12_closed mI_RX12 (by decide +kernel) hn (by decide) hdep hcat (ci := 12) rfl (by decide) hk hst hd (fun v u q => by obtain ⟨rfl, rfl⟩ := q; exact kk)
theorem k_RL_100 {C : Cx} {cc : ByteArray} {nL : Nat} {d : Nat} (hC : CxOK C cc nL RL d) {μ : Mem} {pc : Nat} {lc : List (Nat × Value)} {sk : List Value} {av rest : List Value} {k d1 : Nat} {r : Int32} {μ1 : Mem} (hM : CT (cL C) yX11_clashOf cX11_clashOf 3 (some .int) d1 (cG C) (.ref (gad (cG C) k) :: av) μ (RK (some (.int r)) μ1)) (hdep : d1 + 1 ≤ d) (hcat : (rest.map fun v => v.category).sum ≤ 8) (hk : isC 11 k) (hst : sk = av.reverse ++ .ref (gad (cG C) k) :: rest) (hn : av.length = 1) (hd : decode cc pc = .ok (.invokevirtual 100, 3)) (kk : UW C nL μ1 (pc + 3) lc (.int r :: rest)) : UW C nL μ pc lc sk := u_callV hC hM mL_RL_100 mM_X11_clashOf mS_X11_clashOf mB_X11_clashOf mI_RX11 (by decide +kernel) hn (by decide) hdep hcat (ci := 11) rfl (by decide) hk hst hd (fun v u q => by obtain ⟨rfl, rfl⟩ := q; exact kk)
theorem k_RL_103 {C : Cx} {cc : ByteArray} {nL : Nat} {d : Nat} (hC : CxOK C cc nL RL d) {μ : Mem} {pc : Nat} {lc : List (Nat × Value)} {sk : List Value} {av rest : List Value} {k d1 : Nat} {r : Int32} {μ1 : Mem} (hM : CT (cL C) yX12_clashOf cX12_clashOf 4 (some .int) d1 (cG C) (.ref (gad (cG C) k) :: av) μ (RK (some (.int r)) μ1)) (hdep : d1 + 1 ≤ d) (hcat : (rest.map fun v => v.category).sum ≤ 8) (hk : isC 12 k) (hst : sk = av.reverse ++ .ref (gad (cG C) k) :: rest) (hn : av.length = 1) (hd : decode cc pc = .ok (.invokevirtual 103, 3)) (kk : UW C nL μ1 (pc + 3) lc (.int r :: rest)) : UW C nL μ pc lc sk := u_callV hC hM mL_RL_103 mM_X12_clashOf mS_X12_clashOf mB_X12_clashOf mI_RX12 (by decide +kernel) hn (by decide) hdep hcat (ci := 12) rfl (by decide) hk hst hd (fun v u q => by obtain ⟨rfl, rfl⟩ := q; exact kk)
theorem k_RL_104 {C : Cx} {cc : ByteArray} {nL : Nat} {d : Nat} (hC : CxOK C cc nL RL d) {μ : Mem} {pc : Nat} {lc : List (Nat × Value)} {sk : List Value} {av rest : List Value} {k d1 : Nat} {r : Int32} {μ1 : Mem} (hM : CT (cL C) yX11_joined cX11_joined 5 (some .int) d1 (cG C) (.ref (gad (cG C) k) :: av) μ (RK (some (.int r)) μ1)) (hdep : d1 + 1 ≤ d) (hcat : (rest.map fun v => v.category).sum ≤ 8) (hk : isC 11 k) (hst : sk = av.reverse ++ .ref (gad (cG C) k) :: rest) (hn : av.length = 2) (hd : decode cc pc = .ok (.invokevirtual 104, 3)) (kk : UW C nL μ1 (pc + 3) lc (.int r :: rest)) : UW C nL μ pc lc sk := u_callV hC hM mL_RL_104 mM_X11_joined mS_X11_joined mB_X11_joined mI_RX11 (by decide +kernel) hn (by decide) hdep hcat (ci := 11) rfl (by decide) hk hst hd (fun v u q => by obtain ⟨rfl, rfl⟩ := q; exact kk)
theorem k_RL_107 {C : Cx} {cc : ByteArray} {nL : Nat} {d : Nat} (hC : CxOK C cc nL RL d) {μ : Mem} {pc : Nat} {lc : List (Nat × Value)} {sk : List Value} {av rest : List Value} {k d1 : Nat} {r : Int32} {μ1 : Mem} (hM : CT (cL C) yX12_joined cX12_joined 6 (some .int) d1 (cG C) (.ref (gad (cG C) k) :: av) μ (RK (some (.int r)) μ1)) (hdep : d1 + 1 ≤ d) (hcat : (rest.map fun v => v.category).sum ≤ 8) (hk : isC 12 k) (hst : sk = av.reverse ++ .ref (gad (cG C) k) :: rest) (hn : av.length = 2) (hd : decode cc pc = .ok (.invokevirtual 107, 3)) (kk : UW C nL μ1 (pc + 3) lc (.int r :: rest)) : UW C nL μ pc lc sk := u_callV hC hM mL_RL_107 mM_X12_joined mS_X12_joined mB_X12_joined mI_RX12 (by decide +kernel) hn (by decide) hdep hcat (ci := 12) rfl (by decide) hk hst hd (fun v u q => by obtain ⟨rfl, rfl⟩ := q; exact kk)
theorem k_RL_108 {C : Cx} {cc : ByteArray} {nL : Nat} {d : Nat} (hC : CxOK C cc nL RL d) {μ : Mem} {pc : Nat} {lc : List (Nat × Value)} {sk : List Value} {av rest : List Value} {k d1 : Nat} {r : Int32} {μ1 : Mem} (hM : CT (cL C) yX11_rated cX11_rated 5 (some .int) d1 (cG C) (.ref (gad (cG C) k) :: av) μ (RK (some (.int r)) μ1)) (hdep : d1 + 1 ≤ d) (hcat : (rest.map fun v => v.category).sum ≤ 8) (hk : isC 11 k) (hst : sk = av.reverse ++ .ref (gad (cG C) k) :: rest) (hn : av.length = 3) (hd : decode cc pc = .ok (.invokevirtual 108, 3)) (kk : UW C nL μ1 (pc + 3) lc (.int r :: rest)) : UW C nL μ pc lc sk := u_callV hC hM mL_RL_108 mM_X11_rated mS_X11_rated mB_X11_rated mI_RX11 (by decide +kernel) hn (by decide) hdep hcat (ci := 11) rfl (by decide) hk hst hd (fun v u q => by obtain ⟨rfl, rfl⟩ := q; exact kk)
theorem k_RL_111 {C : Cx} {cc : ByteArray} {nL : Nat} {d : Nat} (hC : CxOK C cc nL RL d) {μ : Mem} {pc : Nat} {lc : List (Nat × Value)} {sk : List Value} {av rest : List Value} {k d1 : Nat} {r : Int32} {μ1 : Mem} (hM : CT (cL C) yX12_rated cX12_rated 8 (some .int) d1 (cG C) (.ref (gad (cG C) k) :: av) μ (RK (some (.int r)) μ1)) (hdep : d1 + 1 ≤ d) (hcat : (rest.map fun v => v.category).sum ≤ 8) (hk : isC 12 k) (hst : sk = av.reverse ++ .ref (gad (cG C) k) :: rest) (hn : av.length = 3) (hd : decode cc pc = .ok (.invokevirtual 111, 3)) (kk : UW C nL μ1 (pc + 3) lc (.int r :: rest)) : UW C nL μ pc lc sk := u_callV hC hM mL_RL_111 mM_X12_rated mS_X12_rated mB_X12_rated mI_RX12 (by decide +kernel) hn (by decide) hdep hcat (ci := 12) rfl (by decide) hk hst hd (fun v u q => by obtain ⟨rfl, rfl⟩ := q; exact kk)
theorem k_RL_112 {C : Cx} {cc : ByteArray} {nL : Nat} {d : Nat} (hC : CxOK C cc nL RL d) {μ : Mem} {pc : Nat} {lc : List (Nat × Value)} {sk : List Value} {av rest : List Value} {k d1 : Nat} {r : Int32} {μ1 : Mem} (hM : CT (cL C) yX11_explained cX11_explained 4 (some .int) d1 (cG C) (.ref (gad (cG C) k) :: av) μ (RK (some (.int r)) μ1)) (hdep : d1 + 1 ≤ d) (hcat : (rest.map fun v => v.category).sum ≤ 8) (hk : isC 11 k) (hst : sk = av.reverse ++ .ref (gad (cG C) k) :: rest) (hn : av.length = 2) (hd : decode cc pc = .ok (.invokevirtual 112, 3)) (kk : UW C nL μ1 (pc + 3) lc (.int r :: rest)) : UW C nL μ pc lc sk := u_callV hC hM mL_RL_112 mM_X11_explained mS_X11_explained mB_X11_explained mI_RX11 (by decide +kernel) hn (by decide) hdep hcat (ci := 11) rfl (by decide) hk hst hd (fun v u q => by obtain ⟨rfl, rfl⟩ := q; exact kk)
theorem k_RL_115 {C : Cx} {cc : ByteArray} {nL : Nat} {d : Nat} (hC : CxOK C cc nL RL d) {μ : Mem} {pc : Nat} {lc : List (Nat × Value)} {sk : List Value} {av rest : List Value} {k d1 : Nat} {r : Int32} {μ1 : Mem} (hM : CT (cL C) yX12_explained cX12_explained 6 (some .int) d1 (cG C) (.ref (gad (cG C) k) :: av) μ (RK (some (.int r)) μ1)) (hdep : d1 + 1 ≤ d) (hcat : (rest.map fun v => v.category).sum ≤ 8) (hk : isC 12 k) (hst : sk = av.reverse ++ .ref (gad (cG C) k) :: rest) (hn : av.length = 2) (hd : decode cc pc = .ok (.invokevirtual 115, 3)) (kk : UW C nL μ1 (pc + 3) lc (.int r :: rest)) : UW C nL μ pc lc sk := u_callV hC hM mL_RL_115 mM_X12_explained mS_X12_explained mB_X12_explained mI_RX12 (by decide +kernel) hn (by decide) hdep hcat (ci := 12) rfl (by decide) hk hst hd (fun v u q => by obtain ⟨rfl, rfl⟩ := q; exact kk)
theorem k_RL_116 {C : Cx} {cc : ByteArray} {nL : Nat} {d : Nat} (hC : CxOK C cc nL RL d) {μ : Mem} {pc : Nat} {lc : List (Nat × Value)} {sk : List Value} {av rest : List Value} {k d1 : Nat} {r : Int32} {μ1 : Mem} (hM : CT (cL C) yX11_meeting cX11_meeting 4 (some .int) d1 (cG C) (.ref (gad (cG C) k) :: av) μ (RK (some (.int r)) μ1)) (hdep : d1 + 1 ≤ d) (hcat : (rest.map fun v => v.category).sum ≤ 8) (hk : isC 11 k) (hst : sk = av.reverse ++ .ref (gad (cG C) k) :: rest) (hn : av.length = 3) (hd : decode cc pc = .ok (.invokevirtual 116, 3)) (kk : UW C nL μ1 (pc + 3) lc (.int r :: rest)) : UW C nL μ pc lc sk := u_callV hC hM mL_RL_116 mM_X11_meeting mS_X11_meeting mB_X11_meeting mI_RX11 (by decide +kernel) hn (by decide) hdep hcat (ci := 11) rfl (by decide) hk hst hd (fun v u q => by obtain ⟨rfl, rfl⟩ := q; exact kk)
theorem k_RL_119 {C : Cx} {cc : ByteArray} {nL : Nat} {d : Nat} (hC : CxOK C cc nL RL d) {μ : Mem} {pc : Nat} {lc : List (Nat × Value)} {sk : List Value} {av rest : List Value} {k d1 : Nat} {r : Int32} {μ1 : Mem} (hM : CT (cL C) yX12_meeting cX12_meeting 5 (some .int) d1 (cG C) (.ref (gad (cG C) k) :: av) μ (RK (some (.int r)) μ1)) (hdep : d1 + 1 ≤ d) (hcat : (rest.map fun v => v.category).sum ≤ 8) (hk : isC 12 k) (hst : sk = av.reverse ++ .ref (gad (cG C) k) :: rest) (hn : av.length = 3) (hd : decode cc pc = .ok (.invokevirtual 119, 3)) (kk : UW C nL μ1 (pc + 3) lc (.int r :: rest)) : UW C nL μ pc lc sk := u_callV hC hM mL_RL_119 mM_X12_meeting mS_X12_meeting mB_X12_meeting mI_RX12 (by decide +kernel) hn (by decide) hdep hcat (ci := 12) rfl (by decide) hk hst hd (fun v u q => by obtain ⟨rfl, rfl⟩ := q; exact kk)
theorem k_RL_120 {C : Cx} {cc : ByteArray} {nL : Nat} {d : Nat} (hC : CxOK C cc nL RL d) {μ : Mem} {pc : Nat} {lc : List (Nat × Value)} {sk : List Value} {av rest : List Value} {k d1 : Nat} {r : Int32} {μ1 : Mem} (hM : CT (cL C) yX11_knows cX11_knows 3 (some .int) d1 (cG C) (.ref (gad (cG C) k) :: av) μ (RK (some (.int r)) μ1)) (hdep : d1 + 1 ≤ d) (hcat : (rest.map fun v => v.category).sum ≤ 8) (hk : isC 11 k) (hst : sk = av.reverse ++ .ref (gad (cG C) k) :: rest) (hn : av.length = 2) (hd : decode cc pc = .ok (.invokevirtual 120, 3)) (kk : UW C nL μ1 (pc + 3) lc (.int r :: rest)) : UW C nL μ pc lc sk := u_callV hC hM mL_RL_120 mM_X11_knows mS_X11_knows mB_X11_knows mI_RX11 (by decide +kernel) hn (by decide) hdep hcat (ci := 11) rfl (by decide) hk hst hd (fun v u q => by obtain ⟨rfl, rfl⟩ := q; exact kk)
theorem k_RL_123 {C : Cx} {cc : ByteArray} {nL : Nat} {d : Nat} (hC : CxOK C cc nL RL d) {μ : Mem} {pc : Nat} {lc : List (Nat × Value)} {sk : List Value} {av rest : List Value} {k d1 : Nat} {r : Int32} {μ1 : Mem} (hM : CT (cL C) yX12_knows cX12_knows 3 (some .int) d1 (cG C) (.ref (gad (cG C) k) :: av) μ (RK (some (.int r)) μ1)) (hdep : d1 + 1 ≤ d) (hcat : (rest.map fun v => v.category).sum ≤ 8) (hk : isC 12 k) (hst : sk = av.reverse ++ .ref (gad (cG C) k) :: rest) (hn : av.length = 2) (hd : decode cc pc = .ok (.invokevirtual 123, 3)) (kk : UW C nL μ1 (pc + 3) lc (.int r :: rest)) : UW C nL μ pc lc sk := u_callV hC hM mL_RL_123 mM_X12_knows mS_X12_knows mB_X12_knows mI_RX12 (by decide +kernel) hn (by decide) hdep hcat (ci := 12) rfl (by decide) hk hst hd (fun v u q => by obtain ⟨rfl, rfl⟩ := q; exact kk)
theorem k_RL_124 {C : Cx} {cc : ByteArray} {nL : Nat} {d : Nat} (hC : CxOK C cc nL RL d) {μ : Mem} {pc : Nat} {lc : List (Nat × Value)} {sk : List Value} {av rest : List Value} {k d1 : Nat} {r : Int32} {μ1 : Mem} (hM : CT (cL C) yX11_common cX11_common 5 (some .int) d1 (cG C) (.ref (gad (cG C) k) :: av) μ (RK (some (.int r)) μ1)) (hdep : d1 + 1 ≤ d) (hcat : (rest.map fun v => v.category).sum ≤ 8) (hk : isC 11 k) (hst : sk = av.reverse ++ .ref (gad (cG C) k) :: rest) (hn : av.length = 2) (hd : decode cc pc = .ok (.invokevirtual 124, 3)) (kk : UW C nL μ1 (pc + 3) lc (.int r :: rest)) : UW C nL μ pc lc sk := u_callV hC hM mL_RL_124 mM_X11_common mS_X11_common mB_X11_common mI_RX11 (by decide +kernel) hn (by decide) hdep hcat (ci := 11) rfl (by decide) hk hst hd (fun v u q => by obtain ⟨rfl, rfl⟩ := q; exact kk)
theorem k_RL_127 {C : Cx} {cc : ByteArray} {nL : Nat} {d : Nat} (hC : CxOK C cc nL RL d) {μ : Mem} {pc : Nat} {lc : List (Nat × Value)} {sk : List Value} {av rest : List Value} {k d1 : Nat} {r : Int32} {μ1 : Mem} (hM : CT (cL C) yX12_common cX12_common 5 (some .int) d1 (cG C) (.ref (gad (cG C) k) :: av) μ (RK (some (.int r)) μ1)) (hdep : d1 + 1 ≤ d) (hcat : (rest.map fun v => v.category).sum ≤ 8) (hk : isC 12 k) (hst : sk = av.reverse ++ .ref (gad (cG C) k) :: rest) (hn : av.length = 2) (hd : decode cc pc = .ok (.invokevirtual 127, 3)) (kk : UW C nL μ1 (pc + 3) lc (.int r :: rest)) : UW C nL μ pc lc sk := u_callV hC hM mL_RL_127 mM_X12_common mS_X12_common mB_X12_common mI_RX12 (by decide +kernel) hn (by decide) hdep hcat (ci := 12) rfl (by decide) hk hst hd (fun v u q => by obtain ⟨rfl, rfl⟩ := q; exact kk)
theorem k_RL_128 {C : Cx} {cc : ByteArray} {nL : Nat} {d : Nat} (hC : CxOK C cc nL RL d) {μ : Mem} {pc : Nat} {lc : List (Nat × Value)} {sk : List Value} {av rest : List Value} {k d1 : Nat} {r : Int32} {μ1 : Mem} (hM : CT (cL C) yX11_since cX11_since 3 (some .int) d1 (cG C) (.ref (gad (cG C) k) :: av) μ (RK (some (.int r)) μ1)) (hdep : d1 + 1 ≤ d) (hcat : (rest.map fun v => v.category).sum ≤ 8) (hk : isC 11 k) (hst : sk = av.reverse ++ .ref (gad (cG C) k) :: rest) (hn : av.length = 2) (hd : decode cc pc = .ok (.invokevirtual 128, 3)) (kk : UW C nL μ1 (pc + 3) lc (.int r :: rest)) : UW C nL μ pc lc sk := u_callV hC hM mL_RL_128 mM_X11_since mS_X11_since mB_X11_since mI_RX11 (by decide +kernel) hn (by decide) hdep hcat (ci := 11) rfl (by decide) hk hst hd (fun v u q => by obtain ⟨rfl, rfl⟩ := q; exact kk)
theorem k_RL_131 {C : Cx} {cc : ByteArray} {nL : Nat} {d : Nat} (hC : CxOK C cc nL RL d) {μ : Mem} {pc : Nat} {lc : List (Nat × Value)} {sk : List Value} {av rest : List Value} {k d1 : Nat} {r : Int32} {μ1 : Mem} (hM : CT (cL C) yX12_since cX12_since 4 (some .int) d1 (cG C) (.ref (gad (cG C) k) :: av) μ (RK (some (.int r)) μ1)) (hdep : d1 + 1 ≤ d) (hcat : (rest.map fun v => v.category).sum ≤ 8) (hk : isC 12 k) (hst : sk = av.reverse ++ .ref (gad (cG C) k) :: rest) (hn : av.length = 2) (hd : decode cc pc = .ok (.invokevirtual 131, 3)) (kk : UW C nL μ1 (pc + 3) lc (.int r :: rest)) : UW C nL μ pc lc sk := u_callV hC hM mL_RL_131 mM_X12_since mS_X12_since mB_X12_since mI_RX12 (by decide +kernel) hn (by decide) hdep hcat (ci := 12) rfl (by decide) hk hst hd (fun v u q => by obtain ⟨rfl, rfl⟩ := q; exact kk)
theorem k_RL_132 {C : Cx} {cc : ByteArray} {nL : Nat} {d : Nat} (hC : CxOK C cc nL RL d) {μ : Mem} {pc : Nat} {lc : List (Nat × Value)} {sk : List Value} {av rest : List Value} {k d1 : Nat} {r : Int32} {μ1 : Mem} (hM : CT (cL C) yX11_seed cX11_seed 3 (some .int) d1 (cG C) (.ref (gad (cG C) k) :: av) μ (RK (some (.int r)) μ1)) (hdep : d1 + 1 ≤ d) (hcat : (rest.map fun v => v.category).sum ≤ 8) (hk : isC 11 k) (hst : sk = av.reverse ++ .ref (gad (cG C) k) :: rest) (hn : av.length = 1) (hd : decode cc pc = .ok (.invokevirtual 132, 3)) (kk : UW C nL μ1 (pc + 3) lc (.int r :: rest)) : UW C nL μ pc lc sk := u_callV hC hM mL_RL_132 mM_X11_seed mS_X11_seed mB_X11_seed mI_RX11 (by decide +kernel) hn (by decide) hdep hcat (ci := 11) rfl (by decide) hk hst hd (fun v u q => by obtain ⟨rfl, rfl⟩ := q; exact kk)
theorem k_RL_135 {C : Cx} {cc : ByteArray} {nL : Nat} {d : Nat} (hC : CxOK C cc nL RL d) {μ : Mem} {pc : Nat} {lc : List (Nat × Value)} {sk : List Value} {av rest : List Value} {k d1 : Nat} {r : Int32} {μ1 : Mem} (hM : CT (cL C) yX12_seed cX12_seed 3 (some .int) d1 (cG C) (.ref (gad (cG C) k) :: av) μ (RK (some (.int r)) μ1)) (hdep : d1 + 1 ≤ d) (hcat : (rest.map fun v => v.category).sum ≤ 8) (hk : isC 12 k) (hst : sk = av.reverse ++ .ref (gad (cG C) k) :: rest) (hn : av.length = 1) (hd : decode cc pc = .ok (.invokevirtual 135, 3)) (kk : UW C nL μ1 (pc + 3) lc (.int r :: rest)) : UW C nL μ pc lc sk := u_callV hC hM mL_RL_135 mM_X12_seed mS_X12_seed mB_X12_seed mI_RX12 (by decide +kernel) hn (by decide) hdep hcat (ci := 12) rfl (by decide) hk hst hd (fun v u q => by obtain ⟨rfl, rfl⟩ := q; exact kk)
theorem k_RL_136 {C : Cx} {cc : ByteArray} {nL : Nat} {d : Nat} (hC : CxOK C cc nL RL d) {μ : Mem} {pc : Nat} {lc : List (Nat × Value)} {sk : List Value} {av rest : List Value} {k d1 : Nat} {r : Int32} {μ1 : Mem} (hM : CT (cL C) yX11_voice cX11_voice 5 (some .int) d1 (cG C) (.ref (gad (cG C) k) :: av) μ (RK (some (.int r)) μ1)) (hdep : d1 + 1 ≤ d) (hcat : (rest.map fun v => v.category).sum ≤ 8) (hk : isC 11 k) (hst : sk = av.reverse ++ .ref (gad (cG C) k) :: rest) (hn : av.length = 3) (hd : decode cc pc = .ok (.invokevirtual 136, 3)) (kk : UW C nL μ1 (pc + 3) lc (.int r :: rest)) : UW C nL μ pc lc sk := u_callV hC hM mL_RL_136 mM_X11_voice mS_X11_voice mB_X11_voice mI_RX11 (by decide +kernel) hn (by decide) hdep hcat (ci := 11) rfl (by decide) hk hst hd (fun v u q => by obtain ⟨rfl, rfl⟩ := q; exact kk)
theorem k_RL_139 {C : Cx} {cc : ByteArray} {nL : Nat} {d : Nat} (hC : CxOK C cc nL RL d) {μ : Mem} {pc : Nat} {lc : List (Nat × Value)} {sk : List Value} {av rest : List Value} {k d1 : Nat} {r : Int32} {μ1 : Mem} (hM : CT (cL C) yX12_voice cX12_voice 5 (some .int) d1 (cG C) (.ref (gad (cG C) k) :: av) μ (RK (some (.int r)) μ1)) (hdep : d1 + 1 ≤ d) (hcat : (rest.map fun v => v.category).sum ≤ 8) (hk : isC 12 k) (hst : sk = av.reverse ++ .ref (gad (cG C) k) :: rest) (hn : av.length = 3) (hd : decode cc pc = .ok (.invokevirtual 139, 3)) (kk : UW C nL μ1 (pc + 3) lc (.int r :: rest)) : UW C nL μ pc lc sk := u_callV hC hM mL_RL_139 mM_X12_voice mS_X12_voice mB_X12_voice mI_RX12 (by decide +kernel) hn (by decide) hdep hcat (ci := 12) rfl (by decide) hk hst hd (fun v u q => by obtain ⟨rfl, rfl⟩ := q; exact kk)
theorem k_RL_140 {C : Cx} {cc : ByteArray} {nL : Nat} {d : Nat} (hC : CxOK C cc nL RL d) {μ : Mem} {pc : Nat} {lc : List (Nat × Value)} {sk : List Value} {av rest : List Value} {k d1 : Nat} {r : Int32} {μ1 : Mem} (hM : CT (cL C) yX11_trace cX11_trace 2 (some .int) d1 (cG C) (.ref (gad (cG C) k) :: av) μ (RK (some (.int r)) μ1)) (hdep : d1 + 1 ≤ d) (hcat : (rest.map fun v => v.category).sum ≤ 8) (hk : isC 11 k) (hst : sk = av.reverse ++ .ref (gad (cG C) k) :: rest) (hn : av.length = 1) (hd : decode cc pc = .ok (.invokevirtual 140, 3)) (kk : UW C nL μ1 (pc + 3) lc (.int r :: rest)) : UW C nL μ pc lc sk := u_callV hC hM mL_RL_140 mM_X11_trace mS_X11_trace mB_X11_trace mI_RX11 (by decide +kernel) hn (by decide) hdep hcat (ci := 11) rfl (by decide) hk hst hd (fun v u q => by obtain ⟨rfl, rfl⟩ := q; exact kk)
theorem k_RL_143 {C : Cx} {cc : ByteArray} {nL : Nat} {d : Nat} (hC : CxOK C cc nL RL d) {μ : Mem} {pc : Nat} {lc : List (Nat × Value)} {sk : List Value} {av rest : List Value} {k d1 : Nat} {r : Int32} {μ1 : Mem} (hM : CT (cL C) yX12_trace cX12_trace 2 (some .int) d1 (cG C) (.ref (gad (cG C) k) :: av) μ (RK (some (.int r)) μ1)) (hdep : d1 + 1 ≤ d) (hcat : (rest.map fun v => v.category).sum ≤ 8) (hk : isC 12 k) (hst : sk = av.reverse ++ .ref (gad (cG C) k) :: rest) (hn : av.length = 1) (hd : decode cc pc = .ok (.invokevirtual 143, 3)) (kk : UW C nL μ1 (pc + 3) lc (.int r :: rest)) : UW C nL μ pc lc sk := u_callV hC hM mL_RL_143 mM_X12_trace mS_X12_trace mB_X12_trace mI_RX12 (by decide +kernel) hn (by decide) hdep hcat (ci := 12) rfl (by decide) hk hst hd (fun v u q => by obtain ⟨rfl, rfl⟩ := q; exact kk)
theorem k_RL_144 {C : Cx} {cc : ByteArray} {nL : Nat} {d : Nat} (hC : CxOK C cc nL RL d) {μ : Mem} {pc : Nat} {lc : List (Nat × Value)} {sk : List Value} {av rest : List Value} {k d1 : Nat} {r : Int32} {μ1 : Mem} (hM : CT (cL C) yX11_sheet cX11_sheet 4 (some .int) d1 (cG C) (.ref (gad (cG C) k) :: av) μ (RK (some (.int r)) μ1)) (hdep : d1 + 1 ≤ d) (hcat : (rest.map fun v => v.category).sum ≤ 8) (hk : isC 11 k) (hst : sk = av.reverse ++ .ref (gad (cG C) k) :: rest) (hn : av.length = 3) (hd : decode cc pc = .ok (.invokevirtual 144, 3)) (kk : UW C nL μ1 (pc + 3) lc (.int r :: rest)) : UW C nL μ pc lc sk := u_callV hC hM mL_RL_144 mM_X11_sheet mS_X11_sheet mB_X11_sheet mI_RX11 (by decide +kernel) hn (by decide) hdep hcat (ci := 11) rfl (by decide) hk hst hd (fun v u q => by obtain ⟨rfl, rfl⟩ := q; exact kk)
theorem k_RL_147 {C : Cx} {cc : ByteArray} {nL : Nat} {d : Nat} (hC : CxOK C cc nL RL d) {μ : Mem} {pc : Nat} {lc : List (Nat × Value)} {sk : List Value} {av rest : List Value} {k d1 : Nat} {r : Int32} {μ1 : Mem} (hM : CT (cL C) yX12_sheet cX12_sheet 5 (some .int) d1 (cG C) (.ref (gad (cG C) k) :: av) μ (RK (some (.int r)) μ1)) (hdep : d1 + 1 ≤ d) (hcat : (rest.map fun v => v.category).sum ≤ 8) (hk : isC 12 k) (hst : sk = av.reverse ++ .ref (gad (cG C) k) :: rest) (hn : av.length = 3) (hd : decode cc pc = .ok (.invokevirtual 147, 3)) (kk : UW C nL μ1 (pc + 3) lc (.int r :: rest)) : UW C nL μ pc lc sk := u_callV hC hM mL_RL_147 mM_X12_sheet mS_X12_sheet mB_X12_sheet mI_RX12 (by decide +kernel) hn (by decide) hdep hcat (ci := 12) rfl (by decide) hk hst hd (fun v u q => by obtain ⟨rfl, rfl⟩ := q; exact kk)
theorem k_RL_148 {C : Cx} {cc : ByteArray} {nL : Nat} {d : Nat} (hC : CxOK C cc nL RL d) {μ : Mem} {pc : Nat} {lc : List (Nat × Value)} {sk : List Value} {av rest : List Value} {k d1 : Nat} {r : Int32} {μ1 : Mem} (hM : CT (cL C) yX11_put cX11_put 5 (some .int) d1 (cG C) (.ref (gad (cG C) k) :: av) μ (RK (some (.int r)) μ1)) (hdep : d1 + 1 ≤ d) (hcat : (rest.map fun v => v.category).sum ≤ 8) (hk : isC 11 k) (hst : sk = av.reverse ++ .ref (gad (cG C) k) :: rest) (hn : av.length = 3) (hd : decode cc pc = .ok (.invokevirtual 148, 3)) (kk : UW C nL μ1 (pc + 3) lc (.int r :: rest)) : UW C nL μ pc lc sk := u_callV hC hM mL_RL_148 mM_X11_put mS_X11_put mB_X11_put mI_RX11 (by decide +kernel) hn (by decide) hdep hcat (ci := 11) rfl (by decide) hk hst hd (fun v u q => by obtain ⟨rfl, rfl⟩ := q; exact kk)
theorem k_RL_151 {C : Cx} {cc : ByteArray} {nL : Nat} {d : Nat} (hC : CxOK C cc nL RL d) {μ : Mem} {pc : Nat} {lc : List (Nat × Value)} {sk : List Value} {av rest : List Value} {k d1 : Nat} {r : Int32} {μ1 : Mem} (hM : CT (cL C) yX12_put cX12_put 4 (some .int) d1 (cG C) (.ref (gad (cG C) k) :: av) μ (RK (some (.int r)) μ1)) (hdep : d1 + 1 ≤ d) (hcat : (rest.map fun v => v.category).sum ≤ 8) (hk : isC 12 k) (hst : sk = av.reverse ++ .ref (gad (cG C) k) :: rest) (hn : av.length = 3) (hd : decode cc pc = .ok (.invokevirtual 151, 3)) (kk : UW C nL μ1 (pc + 3) lc (.int r :: rest)) : UW C nL μ pc lc sk := u_callV hC hM mL_RL_151 mM_X12_put mS_X12_put mB_X12_put mI_RX12 (by decide +kernel) hn (by decide) hdep hcat (ci := 12) rfl (by decide) hk hst hd (fun v u q => by obtain ⟨rfl, rfl⟩ := q; exact kk)
theorem k_RL_152 {C : Cx} {cc : ByteArray} {nL : Nat} {d : Nat} (hC : CxOK C cc nL RL d) {μ : Mem} {pc : Nat} {lc : List (Nat × Value)} {sk : List Value} {av rest : List Value} {k d1 : Nat} {r : Int32} {μ1 : Mem} (hM : CT (cL C) yX11_move cX11_move 8 (some .int) d1 (cG C) (.ref (gad (cG C) k) :: av) μ (RK (some (.int r)) μ1)) (hdep : d1 + 1 ≤ d) (hcat : (rest.map fun v => v.category).sum ≤ 8) (hk : isC 11 k) (hst : sk = av.reverse ++ .ref (gad (cG C) k) :: rest) (hn : av.length = 5) (hd : decode cc pc = .ok (.invokevirtual 152, 3)) (kk : UW C nL μ1 (pc + 3) lc (.int r :: rest)) : UW C nL μ pc lc sk := u_callV hC hM mL_RL_152 mM_X11_move mS_X11_move mB_X11_move mI_RX11 (by decide +kernel) hn (by decide) hdep hcat (ci := 11) rfl (by decide) hk hst hd (fun v u q => by obtain ⟨rfl, rfl⟩ := q; exact kk)
theorem k_RL_156 {C : Cx} {cc : ByteArray} {nL : Nat} {d : Nat} (hC : CxOK C cc nL RL d) {μ : Mem} {pc : Nat} {lc : List (Nat × Value)} {sk : List Value} {av rest : List Value} {k d1 : Nat} {r : Int32} {μ1 : Mem} (hM : CT (cL C) yX12_move cX12_move 7 (some .int) d1 (cG C) (.ref (gad (cG C) k) :: av) μ (RK (some (.int r)) μ1)) (hdep : d1 + 1 ≤ d) (hcat : (rest.map fun v => v.category).sum ≤ 8) (hk : isC 12 k) (hst : sk = av.reverse ++ .ref (gad (cG C) k) :: rest) (hn : av.length = 5) (hd : decode cc pc = .ok (.invokevirtual 156, 3)) (kk : UW C nL μ1 (pc + 3) lc (.int r :: rest)) : UW C nL μ pc lc sk := u_callV hC hM mL_RL_156 mM_X12_move mS_X12_move mB_X12_move mI_RX12 (by decide +kernel) hn (by decide) hdep hcat (ci := 12) rfl (by decide) hk hst hd (fun v u q => by obtain ⟨rfl, rfl⟩ := q; exact kk)
theorem k_RL_157 {C : Cx} {cc : ByteArray} {nL : Nat} {d : Nat} (hC : CxOK C cc nL RL d) {μ : Mem} {pc : Nat} {lc : List (Nat × Value)} {sk : List Value} {av rest : List Value} {k d1 : Nat} {r : Int32} {μ1 : Mem} (hM : CT (cL C) yX11_reads cX11_reads 4 (some .int) d1 (cG C) (.ref (gad (cG C) k) :: av) μ (RK (some (.int r)) μ1)) (hdep : d1 + 1 ≤ d) (hcat : (rest.map fun v => v.category).sum ≤ 8) (hk : isC 11 k) (hst : sk = av.reverse ++ .ref (gad (cG C) k) :: rest) (hn : av.length = 1) (hd : decode cc pc = .ok (.invokevirtual 157, 3)) (kk : UW C nL μ1 (pc + 3) lc (.int r :: rest)) : UW C nL μ pc lc sk := u_callV hC hM mL_RL_157 mM_X11_reads mS_X11_reads mB_X11_reads mI_RX11 (by decide +kernel) hn (by decide) hdep hcat (ci := 11) rfl (by decide) hk hst hd (fun v u q => by obtain ⟨rfl, rfl⟩ := q; exact kk)
theorem k_RL_160 {C : Cx} {cc : ByteArray} {nL : Nat} {d : Nat} (hC : CxOK C cc nL RL d) {μ : Mem} {pc : Nat} {lc : List (Nat × Value)} {sk : List Value} {av rest : List Value} {k d1 : Nat} {r : Int32} {μ1 : Mem} (hM : CT (cL C) yX12_reads cX12_reads 5 (some .int) d1 (cG C) (.ref (gad (cG C) k) :: av) μ (RK (some (.int r)) μ1)) (hdep : d1 + 1 ≤ d) (hcat : (rest.map fun v => v.category).sum ≤ 8) (hk : isC 12 k) (hst : sk = av.reverse ++ .ref (gad (cG C) k) :: rest) (hn : av.length = 1) (hd : decode cc pc = .ok (.invokevirtual 160, 3)) (kk : UW C nL μ1 (pc + 3) lc (.int r :: rest)) : UW C nL μ pc lc sk := u_callV hC hM mL_RL_160 mM_X12_reads mS_X12_reads mB_X12_reads mI_RX12 (by decide +kernel) hn (by decide) hdep hcat (ci := 12) rfl (by decide) hk hst hd (fun v u q => by obtain ⟨rfl, rfl⟩ := q; exact kk)
theorem k_RL_161 {C : Cx} {cc : ByteArray} {nL : Nat} {d : Nat} (hC : CxOK C cc nL RL d) {μ : Mem} {pc : Nat} {lc : List (Nat × Value)} {sk : List Value} {av rest : List Value} {k d1 : Nat} {r : Int32} {μ1 : Mem} (hM : CT (cL C) yX11_judge cX11_judge 6 (some .int) d1 (cG C) (.ref (gad (cG C) k) :: av) μ (RK (some (.int r)) μ1)) (hdep : d1 + 1 ≤ d) (hcat : (rest.map fun v => v.category).sum ≤ 8) (hk : isC 11 k) (hst : sk = av.reverse ++ .ref (gad (cG C) k) :: rest) (hn : av.length = 2) (hd : decode cc pc = .ok (.invokevirtual 161, 3)) (kk : UW C nL μ1 (pc + 3) lc (.int r :: rest)) : UW C nL μ pc lc sk := u_callV hC hM mL_RL_161 mM_X11_judge mS_X11_judge mB_X11_judge mI_RX11 (by decide +kernel) hn (by decide) hdep hcat (ci := 11) rfl (by decide) hk hst hd (fun v u q => by obtain ⟨rfl, rfl⟩ := q; exact kk)
theorem k_RL_164 {C : Cx} {cc : ByteArray} {nL : Nat} {d : Nat} (hC : CxOK C cc nL RL d) {μ : Mem} {pc : Nat} {lc : List (Nat × Value)} {sk : List Value} {av rest : List Value} {k d1 : Nat} {r : Int32} {μ1 : Mem} (hM : CT (cL C) yX12_judge cX12_judge 5 (some .int) d1 (cG C) (.ref (gad (cG C) k) :: av) μ (RK (some (.int r)) μ1)) (hdep : d1 + 1 ≤ d) (hcat : (rest.map fun v => v.category).sum ≤ 8) (hk : isC 12 k) (hst : sk = av.reverse ++ .ref (gad (cG C) k) :: rest) (hn : av.length = 2) (hd : decode cc pc = .ok (.invokevirtual 164, 3)) (kk : UW C nL μ1 (pc + 3) lc (.int r :: rest)) : UW C nL μ pc lc sk := u_callV hC hM mL_RL_164 mM_X12_judge mS_X12_judge mB_X12_judge mI_RX12 (by decide +kernel) hn (by decide) hdep hcat (ci := 12) rfl (by decide) hk hst hd (fun v u q => by obtain ⟨rfl, rfl⟩ := q; exact kk)
theorem k_RL_165 {C : Cx} {cc : ByteArray} {nL : Nat} {d : Nat} (hC : CxOK C cc nL RL d) {μ : Mem} {pc : Nat} {lc : List (Nat × Value)} {sk : List Value} {av rest : List Value} {k d1 : Nat} {r : Int32} {μ1 : Mem} (hM : CT (cL C) yX11_image cX11_image 1 (some .int) d1 (cG C) (.ref (gad (cG C) k) :: av) μ (RK (some (.int r)) μ1)) (hdep : d1 + 1 ≤ d) (hcat : (rest.map fun v => v.category).sum ≤ 8) (hk : isC 11 k) (hst : sk = av.reverse ++ .ref (gad (cG C) k) :: rest) (hn : av.length = 0) (hd : decode cc pc = .ok (.invokevirtual 165, 3)) (kk : UW C nL μ1 (pc + 3) lc (.int r :: rest)) : UW C nL μ pc lc sk := u_callV hC hM mL_RL_165 mM_X11_image mS_X11_image mB_X11_image mI_RX11 (by decide +kernel) hn (by decide) hdep hcat (ci := 11) rfl (by decide) hk hst hd (fun v u q => by obtain ⟨rfl, rfl⟩ := q; exact kk)
theorem k_RL_169 {C : Cx} {cc : ByteArray} {nL : Nat} {d : Nat} (hC : CxOK C cc nL RL d) {μ : Mem} {pc : Nat} {lc : List (Nat × Value)} {sk : List Value} {av rest : List Value} {k d1 : Nat} {r : Int32} {μ1 : Mem} (hM : CT (cL C) yX12_image cX12_image 2 (some .int) d1 (cG C) (.ref (gad (cG C) k) :: av) μ (RK (some (.int r)) μ1)) (hdep : d1 + 1 ≤ d) (hcat : (rest.map fun v => v.category).sum ≤ 8) (hk : isC 12 k) (hst : sk = av.reverse ++ .ref (gad (cG C) k) :: rest) (hn : av.length = 0) (hd : decode cc pc = .ok (.invokevirtual 169, 3)) (kk : UW C nL μ1 (pc + 3) lc (.int r :: rest)) : UW C nL μ pc lc sk := u_callV hC hM mL_RL_169 mM_X12_image mS_X12_image mB_X12_image mI_RX12 (by decide +kernel) hn (by decide) hdep hcat (ci := 12) rfl (by decide) hk hst hd (fun v u q => by obtain ⟨rfl, rfl⟩ := q; exact kk)
theorem k_RL_170 {C : Cx} {cc : ByteArray} {nL : Nat} {d : Nat} (hC : CxOK C cc nL RL d) {μ : Mem} {pc : Nat} {lc : List (Nat × Value)} {sk : List Value} {av rest : List Value} {k d1 : Nat} {r : Int32} {μ1 : Mem} (hM : CT (cL C) yX11_restore cX11_restore 1 (some .int) d1 (cG C) (.ref (gad (cG C) k) :: av) μ (RK (some (.int r)) μ1)) (hdep : d1 + 1 ≤ d) (hcat : (rest.map fun v => v.category).sum ≤ 8) (hk : isC 11 k) (hst : sk = av.reverse ++ .ref (gad (cG C) k) :: rest) (hn : av.length = 0) (hd : decode cc pc = .ok (.invokevirtual 170, 3)) (kk : UW C nL μ1 (pc + 3) lc (.int r :: rest)) : UW C nL μ pc lc sk := u_callV hC hM mL_RL_170 mM_X11_restore mS_X11_restore mB_X11_restore mI_RX11 (by decide +kernel) hn (by decide) hdep hcat (ci := 11) rfl (by decide) hk hst hd (fun v u q => by obtain ⟨rfl, rfl⟩ := q; exact kk)
theorem k_RL_173 {C : Cx} {cc : ByteArray} {nL : Nat} {d : Nat} (hC : CxOK C cc nL RL d) {μ : Mem} {pc : Nat} {lc : List (Nat × Value)} {sk : List Value} {av rest : List Value} {k d1 : Nat} {r : Int32} {μ1 : Mem} (hM : CT (cL C) yX12_restore cX12_restore 2 (some .int) d1 (cG C) (.ref (gad (cG C) k) :: av) μ (RK (some (.int r)) μ1)) (hdep : d1 + 1 ≤ d) (hcat : (rest.map fun v => v.category).sum ≤ 8) (hk : isC 12 k) (hst : sk = av.reverse ++ .ref (gad (cG C) k) :: rest) (hn : av.length = 0) (hd : decode cc pc = .ok (.invokevirtual 173, 3)) (kk : UW C nL μ1 (pc + 3) lc (.int r :: rest)) : UW C nL μ pc lc sk := u_callV hC hM mL_RL_173 mM_X12_restore mS_X12_restore mB_X12_restore mI_RX12 (by decide +kernel) hn (by decide) hdep hcat (ci := 12) rfl (by decide) hk hst hd (fun v u q => by obtain ⟨rfl, rfl⟩ := q; exact kk)
theorem k_RL_174 {C : Cx} {cc : ByteArray} {nL : Nat} {d : Nat} (hC : CxOK C cc nL RL d) {μ : Mem} {pc : Nat} {lc : List (Nat × Value)} {sk : List Value} {av rest : List Value} {k d1 : Nat} {r : Int32} {μ1 : Mem} (hM : CT (cL C) yX11_tell cX11_tell 2 (some .int) d1 (cG C) (.ref (gad (cG C) k) :: av) μ (RK (some (.int r)) μ1)) (hdep : d1 + 1 ≤ d) (hcat : (rest.map fun v => v.category).sum ≤ 8) (hk : isC 11 k) (hst : sk = av.reverse ++ .ref (gad (cG C) k) :: rest) (hn : av.length = 1) (hd : decode cc pc = .ok (.invokevirtual 174, 3)) (kk : UW C nL μ1 (pc + 3) lc (.int r :: rest)) : UW C nL μ pc lc sk := u_callV hC hM mL_RL_174 mM_X11_tell mS_X11_tell mB_X11_tell mI_RX11 (by decide +kernel) hn (by decide) hdep hcat (ci := 11) rfl (by decide) hk hst hd (fun v u q => by obtain ⟨rfl, rfl⟩ := q; exact kk)
theorem k_RL_177 {C : Cx} {cc : ByteArray} {nL : Nat} {d : Nat} (hC : CxOK C cc nL RL d) {μ : Mem} {pc : Nat} {lc : List (Nat × Value)} {sk : List Value} {av rest : List Value} {k d1 : Nat} {r : Int32} {μ1 : Mem} (hM : CT (cL C) yX12_tell cX12_tell 2 (some .int) d1 (cG C) (.ref (gad (cG C) k) :: av) μ (RK (some (.int r)) μ1)) (hdep : d1 + 1 ≤ d) (hcat : (rest.map fun v => v.category).sum ≤ 8) (hk : isC 12 k) (hst : sk = av.reverse ++ .ref (gad (cG C) k) :: rest) (hn : av.length = 1) (hd : decode cc pc = .ok (.invokevirtual 177, 3)) (kk : UW C nL μ1 (pc + 3) lc (.int r :: rest)) : UW C nL μ pc lc sk := u_callV hC hM mL_RL_177 mM_X12_tell mS_X12_tell mB_X12_tell mI_RX12 (by decide +kernel) hn (by decide) hdep hcat (ci := 12) rfl (by decide) hk hst hd (fun v u q => by obtain ⟨rfl, rfl⟩ := q; exact kk)
theorem k_RL_178 {C : Cx} {cc : ByteArray} {nL : Nat} {d : Nat} (hC : CxOK C cc nL RL d) {μ : Mem} {pc : Nat} {lc : List (Nat × Value)} {sk : List Value} {av rest : List Value} {k d1 : Nat} {r : Int32} {μ1 : Mem} (hM : CT (cL C) yX11_check cX11_check 3 (some .int) d1 (cG C) (.ref (gad (cG C) k) :: av) μ (RK (some (.int r)) μ1)) (hdep : d1 + 1 ≤ d) (hcat : (rest.map fun v => v.category).sum ≤ 8) (hk : isC 11 k) (hst : sk = av.reverse ++ .ref (gad (cG C) k) :: rest) (hn : av.length = 0) (hd : decode cc pc = .ok (.invokevirtual 178, 3)) (kk : UW C nL μ1 (pc + 3) lc (.int r :: rest)) : UW C nL μ pc lc sk := u_callV hC hM mL_RL_178 mM_X11_check mS_X11_check mB_X11_check mI_RX11 (by decide +kernel) hn (by decide) hdep hcat (ci := 11) rfl (by decide) hk hst hd (fun v u q => by obtain ⟨rfl, rfl⟩ := q; exact kk)
theorem k_RL_181 {C : Cx} {cc : ByteArray} {nL : Nat} {d : Nat} (hC : CxOK C cc nL RL d) {μ : Mem} {pc : Nat} {lc : List (Nat × Value)} {sk : List Value} {av rest : List Value} {k d1 : Nat} {r : Int32} {μ1 : Mem} (hM : CT (cL C) yX12_check cX12_check 4 (some .int) d1 (cG C) (.ref (gad (cG C) k) :: av) μ (RK (some (.int r)) μ1)) (hdep : d1 + 1 ≤ d) (hcat : (rest.map fun v => v.category).sum ≤ 8) (hk : isC 12 k) (hst : sk = av.reverse ++ .ref (gad (cG C) k) :: rest) (hn : av.length = 0) (hd : decode cc pc = .ok (.invokevirtual 181, 3)) (kk : UW C nL μ1 (pc + 3) lc (.int r :: rest)) : UW C nL μ pc lc sk := u_callV hC hM mL_RL_181 mM_X12_check mS_X12_check mB_X12_check mI_RX12 (by decide +kernel) hn (by decide) hdep hcat (ci := 12) rfl (by decide) hk hst hd (fun v u q => by obtain ⟨rfl, rfl⟩ := q; exact kk)
theorem k_RL_182 {C : Cx} {cc : ByteArray} {nL : Nat} {d : Nat} (hC : CxOK C cc nL RL d) {μ : Mem} {pc : Nat} {lc : List (Nat × Value)} {sk : List Value} {av rest : List Value} {k d1 : Nat} {r : Int32} {μ1 : Mem} (hM : CT (cL C) yX11_count cX11_count 2 (some .int) d1 (cG C) (.ref (gad (cG C) k) :: av) μ (RK (some (.int r)) μ1)) (hdep : d1 + 1 ≤ d) (hcat : (rest.map fun v => v.category).sum ≤ 8) (hk : isC 11 k) (hst : sk = av.reverse ++ .ref (gad (cG C) k) :: rest) (hn : av.length = 1) (hd : decode cc pc = .ok (.invokevirtual 182, 3)) (kk : UW C nL μ1 (pc + 3) lc (.int r :: rest)) : UW C nL μ pc lc sk := u_callV hC hM mL_RL_182 mM_X11_count mS_X11_count mB_X11_count mI_RX11 (by decide +kernel) hn (by decide) hdep hcat (ci := 11) rfl (by decide) hk hst hd (fun v u q => by obtain ⟨rfl, rfl⟩ := q; exact kk)
theorem k_RL_185 {C : Cx} {cc : ByteArray} {nL : Nat} {d : Nat} (hC : CxOK C cc nL RL d) {μ : Mem} {pc : Nat} {lc : List (Nat × Value)} {sk : List Value} {av rest : List Value} {k d1 : Nat} {r : Int32} {μ1 : Mem} (hM : CT (cL C) yX12_count cX12_count 2 (some .int) d1 (cG C) (.ref (gad (cG C) k) :: av) μ (RK (some (.int r)) μ1)) (hdep : d1 + 1 ≤ d) (hcat : (rest.map fun v => v.category).sum ≤ 8) (hk : isC 12 k) (hst : sk = av.reverse ++ .ref (gad (cG C) k) :: rest) (hn : av.length = 1) (hd : decode cc pc = .ok (.invokevirtual 185, 3)) (kk : UW C nL μ1 (pc + 3) lc (.int r :: rest)) : UW C nL μ pc lc sk := u_callV hC hM mL_RL_185 mM_X12_count mS_X12_count mB_X12_count mI_RX12 (by decide +kernel) hn (by decide) hdep hcat (ci := 12) rfl (by decide) hk hst hd (fun v u q => by obtain ⟨rfl, rfl⟩ := q; exact kk)
theorem k_RL_186 {C : Cx} {cc : ByteArray} {nL : Nat} {d : Nat} (hC : CxOK C cc nL RL d) {μ : Mem} {pc : Nat} {lc : List (Nat × Value)} {sk : List Value} {av rest : List Value} {k d1 : Nat} {r : Int32} {μ1 : Mem} (hM : CT (cL C) yX11_told cX11_told 2 (some .int) d1 (cG C) (.ref (gad (cG C) k) :: av) μ (RK (some (.int r)) μ1)) (hdep : d1 + 1 ≤ d) (hcat : (rest.map fun v => v.category).sum ≤ 8) (hk : isC 11 k) (hst : sk = av.reverse ++ .ref (gad (cG C) k) :: rest) (hn : av.length = 1) (hd : decode cc pc = .ok (.invokevirtual 186, 3)) (kk : UW C nL μ1 (pc + 3) lc (.int r :: rest)) : UW C nL μ pc lc sk := u_callV hC hM mL_RL_186 mM_X11_told mS_X11_told mB_X11_told mI_RX11 (by decide +kernel) hn (by decide) hdep hcat (ci := 11) rfl (by decide) hk hst hd (fun v u q => by obtain ⟨rfl, rfl⟩ := q; exact kk)
theorem k_RL_189 {C : Cx} {cc : ByteArray} {nL : Nat} {d : Nat} (hC : CxOK C cc nL RL d) {μ : Mem} {pc : Nat} {lc : List (Nat × Value)} {sk : List Value} {av rest : List Value} {k d1 : Nat} {r : Int32} {μ1 : Mem} (hM : CT (cL C) yX12_told cX12_told 2 (some .int) d1 (cG C) (.ref (gad (cG C) k) :: av) μ (RK (some (.int r)) μ1)) (hdep : d1 + 1 ≤ d) (hcat : (rest.map fun v => v.category).sum ≤ 8) (hk : isC 12 k) (hst : sk = av.reverse ++ .ref (gad (cG C) k) :: rest) (hn : av.length = 1) (hd : decode cc pc = .ok (.invokevirtual 189, 3)) (kk : UW C nL μ1 (pc + 3) lc (.int r :: rest)) : UW C nL μ pc lc sk := u_callV hC hM mL_RL_189 mM_X12_told mS_X12_told mB_X12_told mI_RX12 (by decide +kernel) hn (by decide) hdep hcat (ci := 12) rfl (by decide) hk hst hd (fun v u q => by obtain ⟨rfl, rfl⟩ := q; exact kk)
def cB : Cx → Array Value := fun C => C.2.2.2.2.2.2.1
/-- the script -/
def LX (C : Cx) (b L : Nat) (xs : Nat → Int32) : Prop := va_X b L xs (cS C) (cS C).heap ∧ b < (cS C).heap.size ∧ gs0 (cG C) = (cS C).heap.size
theorem law_in {i x : Int32} {j k L : Nat} (e : i = nI j) (h : j + 6 ≤ L) (hL : L ≤ 3072) (hx : x = nI k) (hk : k ≤ 5) : vp_in (i + x) L := by
  rw [e, hx, nI_add]
  exact vp_in_nI (by omega) (by omega)
theorem law_in0 {i : Int32} {j L : Nat} (e : i = nI j) (h : j + 6 ≤ L) (hL : L ≤ 3072) : vp_in i L := by
  rw [e]
  exact vp_in_nI (by omega) (by omega)
theorem law_go {i : Int32} {j L : Nat} (e : i = nI j) (hj : j ≤ L + 6) (hL : L ≤ 3072) (h : ¬ nI L - (6 : Int32) < i) : j + 6 ≤ L := by
  rw [e] at h
  have h1 := Int32.not_lt.mp h
  have h2 := Int32.le_iff_toInt_le.mp h1
  have h3 : (nI L - nI 6).toInt = (L : Int) - (6 : Nat) := pk_sub_toInt (by omega) (by omega)
  have h4 : (nI j).toInt = (j : Int) := nI_toInt (by omega)
  have h5 : (nI L - (6 : Int32)).toInt = (L : Int) - (6 : Nat) := h3
  omega
theorem u_sld {C : Cx} {cc : ByteArray} {nL : Nat} {own : String} {d : Nat} (hC : CxOK C cc nL own d) {b L : Nat} {xs : Nat → Int32} (hX : LX C b L xs) {μ : Mem} {pc : Nat} {lc : List (Nat × Value)} {sk : List Value} {i : Int32} (hi : vp_in i L) (hd : decode cc pc = .ok (.iaload, 1)) (k : UW C nL μ (pc + 1) lc (.int (xs i.toNatClampNeg) :: sk)) : UW C nL μ pc lc (.int i :: .ref b :: sk) := by
  obtain ⟨p, l, e, R, s, m, args, below, meth, c, G, Q, cells, slots⟩ := C
  obtain ⟨⟨hx, hb, hml, hown, hts⟩, hlk, hOK, hs0, hK, hSt, hNs, hR, hcs⟩ := hC
  obtain ⟨hX1, hX2, hX3⟩ := hX
  have hX3 : gs0 G = s.heap.size := hX3
  have hX2 : b < s.heap.size := hX2
  have hnA : ¬ gA G b := by show ¬ gs0 G ≤ b; omega
  intro H locs ls hP hS hl
  exact va_sld hx hb hX1 hX2 hnA hS hi hd (k H locs ls hP hS hl)
theorem u_slen {C : Cx} {cc : ByteArray} {nL : Nat} {own : String} {d : Nat} (hC : CxOK C cc nL own d) {b L : Nat} {xs : Nat → Int32} (hX : LX C b L xs) {μ : Mem} {pc : Nat} {lc : List (Nat × Value)} {sk : List Value} (hd : decode cc pc = .ok (.arraylength, 1)) (k : UW C nL μ (pc + 1) lc (.int (nI L) :: sk)) : UW C nL μ pc lc (.ref b :: sk) := by
  obtain ⟨p, l, e, R, s, m, args, below, meth, c, G, Q, cells, slots⟩ := C
  obtain ⟨⟨hx, hb, hml, hown, hts⟩, hlk, hOK, hs0, hK, hSt, hNs, hR, hcs⟩ := hC
  obtain ⟨hX1, hX2, hX3⟩ := hX
  have hX3 : gs0 G = s.heap.size := hX3
  have hX2 : b < s.heap.size := hX2
  have hnA : ¬ gA G b := by show ¬ gs0 G ≤ b; omega
  intro H locs ls hP hS hl
  exact va_slen hx hb hX1 hX2 hnA hS hd (k H locs ls hP hS hl)
/-- the law's end, with 1 -/
def LQ (C : Cx) (b : Nat) : Prop := match C with
  | (p, l, e, R, s, m, args, below, meth, c, G, Q, cells, slots) => R = room_1 ∧ args = #[Value.ref b] ∧ Q = lw_Z below #[Value.ref b] s ∧ cells = 600000 ∧ slots = 7302250 ∧ meth.sig.returnType = ret
theorem u_lwret {C : Cx} {nL : Nat} {own : String} {d : Nat} (hC : CxOK C cL_law nL own d) {b L : Nat} {xs : Nat → Int32} (hX : LX C b L xs) (hQ : LQ C b) {μ : Mem} {pc : Nat} {lc : List (Nat × Value)} (hd : decode cL_law pc = .ok (.ireturn, 1)) : UW C nL μ pc lc [.int 1] := by
  obtain ⟨p, l, e, R, s, m, args, below, meth, c, G, Q, cells, slots⟩ := C
  obtain ⟨⟨hx, hb, hml, hown, hts⟩, hlk, hOK, hs0, hK, hSt, hNs, hR, hcs⟩ := hC
  obtain ⟨hX1, hX2, hX3⟩ := hX
  have hX3 : gs0 G = s.heap.size := hX3
  obtain ⟨rfl, rfl, rfl, rfl, rfl, hr⟩ := hQ
  intro H locs ls hP hS hl
  refine va_forget (fun q hq => ?_) (lw_ret hx hb hr hlk hd)
  have h := hS.2.2 q hq
  show s.heap.size ≤ q.base
  have h : gs0 G ≤ q.base := h
  omega
theorem is0 : isC 11 0 := ⟨by decide, by decide⟩
theorem is105 : isC 12 105 := ⟨by decide, by decide⟩
set_option maxHeartbeats 4000000 in
set_option maxRecDepth 100000 in
theorem law_fact {Rel : Mem → Prop} (hs : SH_fact Rel) {C : Cx} {d : Nat} (hd : 900 ≤ d) (hC : CxOK C cL_law 4 RL d) {b L : Nat} {xs : Nat → Int32} (hX : LX C b L xs) (hL : L ≤ 3072) {i : Int32} {j : Nat} (hi : i = nI j) (hgo : j + 6 ≤ L) {μ : Mem} (hr : Rel μ) (hend : ∀ μ1, Rel μ1 → UW C 4 μ1 1602 [(0, .ref b), (1, .ref (gad (cG C) 0)), (2, .ref (gad (cG C) 105)), (3, .int i)] []) : UW C 4 μ 216 [(0, .ref b), (1, .ref (gad (cG C) 0)), (2, .ref (gad (cG C) 105)), (3, .int i)] [] := by
  obtain ⟨p, q, hp, hq, hpq, hrel⟩ := hs μ hr (xs (i + (1 : Int32)).toNatClampNeg) (xs (i + (2 : Int32)).toNatClampNeg)
  refine u_aload_n (pc := 216) hC dL_law_216 rfl 1 rfl ?_
  refine u_aload_n (pc := 217) hC dL_law_217 rfl 0 rfl ?_
  refine u_iload_n (pc := 218) hC dL_law_218 rfl 3 rfl ?_
  refine u_iconst (pc := 219) hC ic_1 dL_law_219 ?_
  refine u_iadd (pc := 220) hC dL_law_220 ?_
  refine u_sld (pc := 221) hC hX (law_in hi hgo hL (k := 1) rfl (by decide)) dL_law_221 ?_
  refine u_aload_n (pc := 222) hC dL_law_222 rfl 0 rfl ?_
  refine u_iload_n (pc := 223) hC dL_law_223 rfl 3 rfl ?_
  refine u_iconst (pc := 224) hC ic_2 dL_law_224 ?_
  refine u_iadd (pc := 225) hC dL_law_225 ?_
  refine u_sld (pc := 226) hC hX (law_in hi hgo hL (k := 2) rfl (by decide)) dL_law_226 ?_
  refine k_RL_13 (pc := 227) hC (av := [.int (xs (i + (1 : Int32)).toNatClampNeg), .int (xs (i + (2 : Int32)).toNatClampNeg)]) (rest := []) (c_X11_fact (d := d - 1) (by omega) is0 hp) (by omega) (Nat.le_of_ble_eq_true rfl) is0 rfl rfl dL_law_227 ?_
  refine u_aload_n (pc := 230) hC dL_law_230 rfl 2 rfl ?_
  refine u_aload_n (pc := 231) hC dL_law_231 rfl 0 rfl ?_
  refine u_iload_n (pc := 232) hC dL_law_232 rfl 3 rfl ?_
  refine u_iconst (pc := 233) hC ic_1 dL_law_233 ?_
  refine u_iadd (pc := 234) hC dL_law_234 ?_
  refine u_sld (pc := 235) hC hX (law_in hi hgo hL (k := 1) rfl (by decide)) dL_law_235 ?_
  refine u_aload_n (pc := 236) hC dL_law_236 rfl 0 rfl ?_
  refine u_iload_n (pc := 237) hC dL_law_237 rfl 3 rfl ?_
  refine u_iconst (pc := 238) hC ic_2 dL_law_238 ?_
  refine u_iadd (pc := 239) hC dL_law_239 ?_
  refine u_sld (pc := 240) hC hX (law_in hi hgo hL (k := 2) rfl (by decide)) dL_law_240 ?_
  refine k_RL_17 (pc := 241) hC (av := [.int (xs (i + (1 : Int32)).toNatClampNeg), .int (xs (i + (2 : Int32)).toNatClampNeg)]) (rest := [.int p.1]) (c_X12_fact (d := d - 1) (by omega) is105 hq) (by omega) (Nat.le_of_ble_eq_true rfl) is105 rfl rfl dL_law_241 ?_
  refine u_icmp_eq (pc := 244) hC (tgt := 1602) dL_law_244 (by decide) (fun _ => ?_) (fun c9 => absurd hpq c9)
  exact hend q.2 hrel
set_option maxHeartbeats 4000000 in
set_option maxRecDepth 100000 in
theorem law_clash {Rel : Mem → Prop} (hs : SH_clash Rel) {C : Cx} {d : Nat} (hd : 900 ≤ d) (hC : CxOK C cL_law 4 RL d) {b L : Nat} {xs : Nat → Int32} (hX : LX C b L xs) (hL : L ≤ 3072) {i : Int32} {j : Nat} (hi : i = nI j) (hgo : j + 6 ≤ L) {μ : Mem} (hr : Rel μ) (hend : ∀ μ1, Rel μ1 → UW C 4 μ1 1602 [(0, .ref b), (1, .ref (gad (cG C) 0)), (2, .ref (gad (cG C) 105)), (3, .int i)] []) : UW C 4 μ 249 [(0, .ref b), (1, .ref (gad (cG C) 0)), (2, .ref (gad (cG C) 105)), (3, .int i)] [] := by
  obtain ⟨p, q, hp, hq, hpq, hrel⟩ := hs μ hr (xs (i + (1 : Int32)).toNatClampNeg) (xs (i + (2 : Int32)).toNatClampNeg) (xs (i + (3 : Int32)).toNatClampNeg)
  refine u_aload_n (pc := 249) hC dL_law_249 rfl 1 rfl ?_
  refine u_aload_n (pc := 250) hC dL_law_250 rfl 0 rfl ?_
  refine u_iload_n (pc := 251) hC dL_law_251 rfl 3 rfl ?_
  refine u_iconst (pc := 252) hC ic_1 dL_law_252 ?_
  refine u_iadd (pc := 253) hC dL_law_253 ?_
  refine u_sld (pc := 254) hC hX (law_in hi hgo hL (k := 1) rfl (by decide)) dL_law_254 ?_
  refine u_aload_n (pc := 255) hC dL_law_255 rfl 0 rfl ?_
  refine u_iload_n (pc := 256) hC dL_law_256 rfl 3 rfl ?_
  refine u_iconst (pc := 257) hC ic_2 dL_law_257 ?_
  refine u_iadd (pc := 258) hC dL_law_258 ?_
  refine u_sld (pc := 259) hC hX (law_in hi hgo hL (k := 2) rfl (by decide)) dL_law_259 ?_
  refine u_aload_n (pc := 260) hC dL_law_260 rfl 0 rfl ?_
  refine u_iload_n (pc := 261) hC dL_law_261 rfl 3 rfl ?_
  refine u_iconst (pc := 262) hC ic_3 dL_law_262 ?_
  refine u_iadd (pc := 263) hC dL_law_263 ?_
  refine u_sld (pc := 264) hC hX (law_in hi hgo hL (k := 3) rfl (by decide)) dL_law_264 ?_
  refine k_RL_18 (pc := 265) hC (av := [.int (xs (i + (1 : Int32)).toNatClampNeg), .int (xs (i + (2 : Int32)).toNatClampNeg), .int (xs (i + (3 : Int32)).toNatClampNeg)]) (rest := []) (c_X11_clash (d := d - 1) (by omega) is0 hp) (by omega) (Nat.le_of_ble_eq_true rfl) is0 rfl rfl dL_law_265 ?_
  refine u_aload_n (pc := 268) hC dL_law_268 rfl 2 rfl ?_
  refine u_aload_n (pc := 269) hC dL_law_269 rfl 0 rfl ?_
  refine u_iload_n (pc := 270) hC dL_law_270 rfl 3 rfl ?_
  refine u_iconst (pc := 271) hC ic_1 dL_law_271 ?_
  refine u_iadd (pc := 272) hC dL_law_272 ?_
  refine u_sld (pc := 273) hC hX (law_in hi hgo hL (k := 1) rfl (by decide)) dL_law_273 ?_
  refine u_aload_n (pc := 274) hC dL_law_274 rfl 0 rfl ?_
  refine u_iload_n (pc := 275) hC dL_law_275 rfl 3 rfl ?_
  refine u_iconst (pc := 276) hC ic_2 dL_law_276 ?_
  refine u_iadd (pc := 277) hC dL_law_277 ?_
  refine u_sld (pc := 278) hC hX (law_in hi hgo hL (k := 2) rfl (by decide)) dL_law_278 ?_
  refine u_aload_n (pc := 279) hC dL_law_279 rfl 0 rfl ?_
  refine u_iload_n (pc := 280) hC dL_law_280 rfl 3 rfl ?_
  refine u_iconst (pc := 281) hC ic_3 dL_law_281 ?_
  refine u_iadd (pc := 282) hC dL_law_282 ?_
  refine u_sld (pc := 283) hC hX (law_in hi hgo hL (k := 3) rfl (by decide)) dL_law_283 ?_
  refine k_RL_22 (pc := 284) hC (av := [.int (xs (i + (1 : Int32)).toNatClampNeg), .int (xs (i + (2 : Int32)).toNatClampNeg), .int (xs (i + (3 : Int32)).toNatClampNeg)]) (rest := [.int p.1]) (c_X12_clash (d := d - 1) (by omega) is105 hq) (by omega) (Nat.le_of_ble_eq_true rfl) is105 rfl rfl dL_law_284 ?_
  refine u_icmp_eq (pc := 287) hC (tgt := 1602) dL_law_287 (by decide) (fun _ => ?_) (fun c9 => absurd hpq c9)
  exact hend q.2 hrel
set_option maxHeartbeats 4000000 in
set_option maxRecDepth 100000 in
theorem law_explain {Rel : Mem → Prop} (hs : SH_explain Rel) {C : Cx} {d : Nat} (hd : 900 ≤ d) (hC : CxOK C cL_law 4 RL d) {b L : Nat} {xs : Nat → Int32} (hX : LX C b L xs) (hL : L ≤ 3072) {i : Int32} {j : Nat} (hi : i = nI j) (hgo : j + 6 ≤ L) {μ : Mem} (hr : Rel μ) (hend : ∀ μ1, Rel μ1 → UW C 4 μ1 1602 [(0, .ref b), (1, .ref (gad (cG C) 0)), (2, .ref (gad (cG C) 105)), (3, .int i)] []) : UW C 4 μ 292 [(0, .ref b), (1, .ref (gad (cG C) 0)), (2, .ref (gad (cG C) 105)), (3, .int i)] [] := by
  obtain ⟨p, q, hp, hq, hpq, hrel⟩ := hs μ hr (xs (i + (1 : Int32)).toNatClampNeg) (xs (i + (2 : Int32)).toNatClampNeg) (xs (i + (3 : Int32)).toNatClampNeg)
  refine u_aload_n (pc := 292) hC dL_law_292 rfl 1 rfl ?_
  refine u_aload_n (pc := 293) hC dL_law_293 rfl 0 rfl ?_
  refine u_iload_n (pc := 294) hC dL_law_294 rfl 3 rfl ?_
  refine u_iconst (pc := 295) hC ic_1 dL_law_295 ?_
  refine u_iadd (pc := 296) hC dL_law_296 ?_
  refine u_sld (pc := 297) hC hX (law_in hi hgo hL (k := 1) rfl (by decide)) dL_law_297 ?_
  refine u_aload_n (pc := 298) hC dL_law_298 rfl 0 rfl ?_
  refine u_iload_n (pc := 299) hC dL_law_299 rfl 3 rfl ?_
  refine u_iconst (pc := 300) hC ic_2 dL_law_300 ?_
  refine u_iadd (pc := 301) hC dL_law_301 ?_
  refine u_sld (pc := 302) hC hX (law_in hi hgo hL (k := 2) rfl (by decide)) dL_law_302 ?_
  refine u_aload_n (pc := 303) hC dL_law_303 rfl 0 rfl ?_
  refine u_iload_n (pc := 304) hC dL_law_304 rfl 3 rfl ?_
  refine u_iconst (pc := 305) hC ic_3 dL_law_305 ?_
  refine u_iadd (pc := 306) hC dL_law_306 ?_
  refine u_sld (pc := 307) hC hX (law_in hi hgo hL (k := 3) rfl (by decide)) dL_law_307 ?_
  refine k_RL_23 (pc := 308) hC (av := [.int (xs (i + (1 : Int32)).toNatClampNeg), .int (xs (i + (2 : Int32)).toNatClampNeg), .int (xs (i + (3 : Int32)).toNatClampNeg)]) (rest := []) (c_X11_explain (d := d - 1) (by omega) is0 hp) (by omega) (Nat.le_of_ble_eq_true rfl) is0 rfl rfl dL_law_308 ?_
  refine u_aload_n (pc := 311) hC dL_law_311 rfl 2 rfl ?_
  refine u_aload_n (pc := 312) hC dL_law_312 rfl 0 rfl ?_
  refine u_iload_n (pc := 313) hC dL_law_313 rfl 3 rfl ?_
  refine u_iconst (pc := 314) hC ic_1 dL_law_314 ?_
  refine u_iadd (pc := 315) hC dL_law_315 ?_
  refine u_sld (pc := 316) hC hX (law_in hi hgo hL (k := 1) rfl (by decide)) dL_law_316 ?_
  refine u_aload_n (pc := 317) hC dL_law_317 rfl 0 rfl ?_
  refine u_iload_n (pc := 318) hC dL_law_318 rfl 3 rfl ?_
  refine u_iconst (pc := 319) hC ic_2 dL_law_319 ?_
  refine u_iadd (pc := 320) hC dL_law_320 ?_
  refine u_sld (pc := 321) hC hX (law_in hi hgo hL (k := 2) rfl (by decide)) dL_law_321 ?_
  refine u_aload_n (pc := 322) hC dL_law_322 rfl 0 rfl ?_
  refine u_iload_n (pc := 323) hC dL_law_323 rfl 3 rfl ?_
  refine u_iconst (pc := 324) hC ic_3 dL_law_324 ?_
  refine u_iadd (pc := 325) hC dL_law_325 ?_
  refine u_sld (pc := 326) hC hX (law_in hi hgo hL (k := 3) rfl (by decide)) dL_law_326 ?_
  refine k_RL_26 (pc := 327) hC (av := [.int (xs (i + (1 : Int32)).toNatClampNeg), .int (xs (i + (2 : Int32)).toNatClampNeg), .int (xs (i + (3 : Int32)).toNatClampNeg)]) (rest := [.int p.1]) (c_X12_explain (d := d - 1) (by omega) is105 hq) (by omega) (Nat.le_of_ble_eq_true rfl) is105 rfl rfl dL_law_327 ?_
  refine u_icmp_eq (pc := 330) hC (tgt := 1602) dL_law_330 (by decide) (fun _ => ?_) (fun c9 => absurd hpq c9)
  exact hend q.2 hrel
set_option maxHeartbeats 4000000 in
set_option maxRecDepth 100000 in
theorem law_ofFact {Rel : Mem → Prop} (hs : SH_ofFact Rel) {C : Cx} {d : Nat} (hd : 900 ≤ d) (hC : CxOK C cL_law 4 RL d) {b L : Nat} {xs : Nat → Int32} (hX : LX C b L xs) (hL : L ≤ 3072) {i : Int32} {j : Nat} (hi : i = nI j) (hgo : j + 6 ≤ L) {μ : Mem} (hr : Rel μ) (hend : ∀ μ1, Rel μ1 → UW C 4 μ1 1602 [(0, .ref b), (1, .ref (gad (cG C) 0)), (2, .ref (gad (cG C) 105)), (3, .int i)] []) : UW C 4 μ 335 [(0, .ref b), (1, .ref (gad (cG C) 0)), (2, .ref (gad (cG C) 105)), (3, .int i)] [] := by
  obtain ⟨p, q, hp, hq, hpq, hrel⟩ := hs μ hr (xs (i + (1 : Int32)).toNatClampNeg) (xs (i + (2 : Int32)).toNatClampNeg)
  refine u_aload_n (pc := 335) hC dL_law_335 rfl 1 rfl ?_
  refine u_aload_n (pc := 336) hC dL_law_336 rfl 0 rfl ?_
  refine u_iload_n (pc := 337) hC dL_law_337 rfl 3 rfl ?_
  refine u_iconst (pc := 338) hC ic_1 dL_law_338 ?_
  refine u_iadd (pc := 339) hC dL_law_339 ?_
  refine u_sld (pc := 340) hC hX (law_in hi hgo hL (k := 1) rfl (by decide)) dL_law_340 ?_
  refine u_aload_n (pc := 341) hC dL_law_341 rfl 0 rfl ?_
  refine u_iload_n (pc := 342) hC dL_law_342 rfl 3 rfl ?_
  refine u_iconst (pc := 343) hC ic_2 dL_law_343 ?_
  refine u_iadd (pc := 344) hC dL_law_344 ?_
  refine u_sld (pc := 345) hC hX (law_in hi hgo hL (k := 2) rfl (by decide)) dL_law_345 ?_
  refine k_RL_27 (pc := 346) hC (av := [.int (xs (i + (1 : Int32)).toNatClampNeg), .int (xs (i + (2 : Int32)).toNatClampNeg)]) (rest := []) (c_X11_ofFact (d := d - 1) (by omega) is0 hp) (by omega) (Nat.le_of_ble_eq_true rfl) is0 rfl rfl dL_law_346 ?_
  refine u_aload_n (pc := 349) hC dL_law_349 rfl 2 rfl ?_
  refine u_aload_n (pc := 350) hC dL_law_350 rfl 0 rfl ?_
  refine u_iload_n (pc := 351) hC dL_law_351 rfl 3 rfl ?_
  refine u_iconst (pc := 352) hC ic_1 dL_law_352 ?_
  refine u_iadd (pc := 353) hC dL_law_353 ?_
  refine u_sld (pc := 354) hC hX (law_in hi hgo hL (k := 1) rfl (by decide)) dL_law_354 ?_
  refine u_aload_n (pc := 355) hC dL_law_355 rfl 0 rfl ?_
  refine u_iload_n (pc := 356) hC dL_law_356 rfl 3 rfl ?_
  refine u_iconst (pc := 357) hC ic_2 dL_law_357 ?_
  refine u_iadd (pc := 358) hC dL_law_358 ?_
  refine u_sld (pc := 359) hC hX (law_in hi hgo hL (k := 2) rfl (by decide)) dL_law_359 ?_
  refine k_RL_30 (pc := 360) hC (av := [.int (xs (i + (1 : Int32)).toNatClampNeg), .int (xs (i + (2 : Int32)).toNatClampNeg)]) (rest := [.int p.1]) (c_X12_ofFact (d := d - 1) (by omega) is105 hq) (by omega) (Nat.le_of_ble_eq_true rfl) is105 rfl rfl dL_law_360 ?_
  refine u_icmp_eq (pc := 363) hC (tgt := 1602) dL_law_363 (by decide) (fun _ => ?_) (fun c9 => absurd hpq c9)
  exact hend q.2 hrel
set_option maxHeartbeats 4000000 in
set_option maxRecDepth 100000 in
theorem law_debtor {Rel : Mem → Prop} (hs : SH_debtor Rel) {C : Cx} {d : Nat} (hd : 900 ≤ d) (hC : CxOK C cL_law 4 RL d) {b L : Nat} {xs : Nat → Int32} (hX : LX C b L xs) (hL : L ≤ 3072) {i : Int32} {j : Nat} (hi : i = nI j) (hgo : j + 6 ≤ L) {μ : Mem} (hr : Rel μ) (hend : ∀ μ1, Rel μ1 → UW C 4 μ1 1602 [(0, .ref b), (1, .ref (gad (cG C) 0)), (2, .ref (gad (cG C) 105)), (3, .int i)] []) : UW C 4 μ 368 [(0, .ref b), (1, .ref (gad (cG C) 0)), (2, .ref (gad (cG C) 105)), (3, .int i)] [] := by
  obtain ⟨p, q, hp, hq, hpq, hrel⟩ := hs μ hr (xs (i + (1 : Int32)).toNatClampNeg) (xs (i + (2 : Int32)).toNatClampNeg)
  refine u_aload_n (pc := 368) hC dL_law_368 rfl 1 rfl ?_
  refine u_aload_n (pc := 369) hC dL_law_369 rfl 0 rfl ?_
  refine u_iload_n (pc := 370) hC dL_law_370 rfl 3 rfl ?_
  refine u_iconst (pc := 371) hC ic_1 dL_law_371 ?_
  refine u_iadd (pc := 372) hC dL_law_372 ?_
  refine u_sld (pc := 373) hC hX (law_in hi hgo hL (k := 1) rfl (by decide)) dL_law_373 ?_
  refine u_aload_n (pc := 374) hC dL_law_374 rfl 0 rfl ?_
  refine u_iload_n (pc := 375) hC dL_law_375 rfl 3 rfl ?_
  refine u_iconst (pc := 376) hC ic_2 dL_law_376 ?_
  refine u_iadd (pc := 377) hC dL_law_377 ?_
  refine u_sld (pc := 378) hC hX (law_in hi hgo hL (k := 2) rfl (by decide)) dL_law_378 ?_
  refine k_RL_31 (pc := 379) hC (av := [.int (xs (i + (1 : Int32)).toNatClampNeg), .int (xs (i + (2 : Int32)).toNatClampNeg)]) (rest := []) (c_X11_debtor (d := d - 1) (by omega) is0 hp) (by omega) (Nat.le_of_ble_eq_true rfl) is0 rfl rfl dL_law_379 ?_
  refine u_aload_n (pc := 382) hC dL_law_382 rfl 2 rfl ?_
  refine u_aload_n (pc := 383) hC dL_law_383 rfl 0 rfl ?_
  refine u_iload_n (pc := 384) hC dL_law_384 rfl 3 rfl ?_
  refine u_iconst (pc := 385) hC ic_1 dL_law_385 ?_
  refine u_iadd (pc := 386) hC dL_law_386 ?_
  refine u_sld (pc := 387) hC hX (law_in hi hgo hL (k := 1) rfl (by decide)) dL_law_387 ?_
  refine u_aload_n (pc := 388) hC dL_law_388 rfl 0 rfl ?_
  refine u_iload_n (pc := 389) hC dL_law_389 rfl 3 rfl ?_
  refine u_iconst (pc := 390) hC ic_2 dL_law_390 ?_
  refine u_iadd (pc := 391) hC dL_law_391 ?_
  refine u_sld (pc := 392) hC hX (law_in hi hgo hL (k := 2) rfl (by decide)) dL_law_392 ?_
  refine k_RL_34 (pc := 393) hC (av := [.int (xs (i + (1 : Int32)).toNatClampNeg), .int (xs (i + (2 : Int32)).toNatClampNeg)]) (rest := [.int p.1]) (c_X12_debtor (d := d - 1) (by omega) is105 hq) (by omega) (Nat.le_of_ble_eq_true rfl) is105 rfl rfl dL_law_393 ?_
  refine u_icmp_eq (pc := 396) hC (tgt := 1602) dL_law_396 (by decide) (fun _ => ?_) (fun c9 => absurd hpq c9)
  exact hend q.2 hrel
set_option maxHeartbeats 4000000 in
set_option maxRecDepth 100000 in
theorem law_ofDebtor {Rel : Mem → Prop} (hs : SH_ofDebtor Rel) {C : Cx} {d : Nat} (hd : 900 ≤ d) (hC : CxOK C cL_law 4 RL d) {b L : Nat} {xs : Nat → Int32} (hX : LX C b L xs) (hL : L ≤ 3072) {i : Int32} {j : Nat} (hi : i = nI j) (hgo : j + 6 ≤ L) {μ : Mem} (hr : Rel μ) (hend : ∀ μ1, Rel μ1 → UW C 4 μ1 1602 [(0, .ref b), (1, .ref (gad (cG C) 0)), (2, .ref (gad (cG C) 105)), (3, .int i)] []) : UW C 4 μ 401 [(0, .ref b), (1, .ref (gad (cG C) 0)), (2, .ref (gad (cG C) 105)), (3, .int i)] [] := by
  obtain ⟨p, q, hp, hq, hpq, hrel⟩ := hs μ hr (xs (i + (1 : Int32)).toNatClampNeg) (xs (i + (2 : Int32)).toNatClampNeg)
  refine u_aload_n (pc := 401) hC dL_law_401 rfl 1 rfl ?_
  refine u_aload_n (pc := 402) hC dL_law_402 rfl 0 rfl ?_
  refine u_iload_n (pc := 403) hC dL_law_403 rfl 3 rfl ?_
  refine u_iconst (pc := 404) hC ic_1 dL_law_404 ?_
  refine u_iadd (pc := 405) hC dL_law_405 ?_
  refine u_sld (pc := 406) hC hX (law_in hi hgo hL (k := 1) rfl (by decide)) dL_law_406 ?_
  refine u_aload_n (pc := 407) hC dL_law_407 rfl 0 rfl ?_
  refine u_iload_n (pc := 408) hC dL_law_408 rfl 3 rfl ?_
  refine u_iconst (pc := 409) hC ic_2 dL_law_409 ?_
  refine u_iadd (pc := 410) hC dL_law_410 ?_
  refine u_sld (pc := 411) hC hX (law_in hi hgo hL (k := 2) rfl (by decide)) dL_law_411 ?_
  refine k_RL_35 (pc := 412) hC (av := [.int (xs (i + (1 : Int32)).toNatClampNeg), .int (xs (i + (2 : Int32)).toNatClampNeg)]) (rest := []) (c_X11_ofDebtor (d := d - 1) (by omega) is0 hp) (by omega) (Nat.le_of_ble_eq_true rfl) is0 rfl rfl dL_law_412 ?_
  refine u_aload_n (pc := 415) hC dL_law_415 rfl 2 rfl ?_
  refine u_aload_n (pc := 416) hC dL_law_416 rfl 0 rfl ?_
  refine u_iload_n (pc := 417) hC dL_law_417 rfl 3 rfl ?_
  refine u_iconst (pc := 418) hC ic_1 dL_law_418 ?_
  refine u_iadd (pc := 419) hC dL_law_419 ?_
  refine u_sld (pc := 420) hC hX (law_in hi hgo hL (k := 1) rfl (by decide)) dL_law_420 ?_
  refine u_aload_n (pc := 421) hC dL_law_421 rfl 0 rfl ?_
  refine u_iload_n (pc := 422) hC dL_law_422 rfl 3 rfl ?_
  refine u_iconst (pc := 423) hC ic_2 dL_law_423 ?_
  refine u_iadd (pc := 424) hC dL_law_424 ?_
  refine u_sld (pc := 425) hC hX (law_in hi hgo hL (k := 2) rfl (by decide)) dL_law_425 ?_
  refine k_RL_38 (pc := 426) hC (av := [.int (xs (i + (1 : Int32)).toNatClampNeg), .int (xs (i + (2 : Int32)).toNatClampNeg)]) (rest := [.int p.1]) (c_X12_ofDebtor (d := d - 1) (by omega) is105 hq) (by omega) (Nat.le_of_ble_eq_true rfl) is105 rfl rfl dL_law_426 ?_
  refine u_icmp_eq (pc := 429) hC (tgt := 1602) dL_law_429 (by decide) (fun _ => ?_) (fun c9 => absurd hpq c9)
  exact hend q.2 hrel
set_option maxHeartbeats 4000000 in
set_option maxRecDepth 100000 in
theorem law_book {Rel : Mem → Prop} (hs : SH_book Rel) {C : Cx} {d : Nat} (hd : 900 ≤ d) (hC : CxOK C cL_law 4 RL d) {b L : Nat} {xs : Nat → Int32} (hX : LX C b L xs) (hL : L ≤ 3072) {i : Int32} {j : Nat} (hi : i = nI j) (hgo : j + 6 ≤ L) {μ : Mem} (hr : Rel μ) (hend : ∀ μ1, Rel μ1 → UW C 4 μ1 1602 [(0, .ref b), (1, .ref (gad (cG C) 0)), (2, .ref (gad (cG C) 105)), (3, .int i)] []) : UW C 4 μ 434 [(0, .ref b), (1, .ref (gad (cG C) 0)), (2, .ref (gad (cG C) 105)), (3, .int i)] [] := by
  obtain ⟨p, q, hp, hq, hpq, hrel⟩ := hs μ hr (xs (i + (1 : Int32)).toNatClampNeg) (xs (i + (2 : Int32)).toNatClampNeg) (xs (i + (3 : Int32)).toNatClampNeg)
  refine u_aload_n (pc := 434) hC dL_law_434 rfl 1 rfl ?_
  refine u_aload_n (pc := 435) hC dL_law_435 rfl 0 rfl ?_
  refine u_iload_n (pc := 436) hC dL_law_436 rfl 3 rfl ?_
  refine u_iconst (pc := 437) hC ic_1 dL_law_437 ?_
  refine u_iadd (pc := 438) hC dL_law_438 ?_
  refine u_sld (pc := 439) hC hX (law_in hi hgo hL (k := 1) rfl (by decide)) dL_law_439 ?_
  refine u_aload_n (pc := 440) hC dL_law_440 rfl 0 rfl ?_
  refine u_iload_n (pc := 441) hC dL_law_441 rfl 3 rfl ?_
  refine u_iconst (pc := 442) hC ic_2 dL_law_442 ?_
  refine u_iadd (pc := 443) hC dL_law_443 ?_
  refine u_sld (pc := 444) hC hX (law_in hi hgo hL (k := 2) rfl (by decide)) dL_law_444 ?_
  refine u_aload_n (pc := 445) hC dL_law_445 rfl 0 rfl ?_
  refine u_iload_n (pc := 446) hC dL_law_446 rfl 3 rfl ?_
  refine u_iconst (pc := 447) hC ic_3 dL_law_447 ?_
  refine u_iadd (pc := 448) hC dL_law_448 ?_
  refine u_sld (pc := 449) hC hX (law_in hi hgo hL (k := 3) rfl (by decide)) dL_law_449 ?_
  refine k_RL_39 (pc := 450) hC (av := [.int (xs (i + (1 : Int32)).toNatClampNeg), .int (xs (i + (2 : Int32)).toNatClampNeg), .int (xs (i + (3 : Int32)).toNatClampNeg)]) (rest := []) (c_X11_book (d := d - 1) (by omega) is0 hp) (by omega) (Nat.le_of_ble_eq_true rfl) is0 rfl rfl dL_law_450 ?_
  refine u_aload_n (pc := 453) hC dL_law_453 rfl 2 rfl ?_
  refine u_aload_n (pc := 454) hC dL_law_454 rfl 0 rfl ?_
  refine u_iload_n (pc := 455) hC dL_law_455 rfl 3 rfl ?_
  refine u_iconst (pc := 456) hC ic_1 dL_law_456 ?_
  refine u_iadd (pc := 457) hC dL_law_457 ?_
  refine u_sld (pc := 458) hC hX (law_in hi hgo hL (k := 1) rfl (by decide)) dL_law_458 ?_
  refine u_aload_n (pc := 459) hC dL_law_459 rfl 0 rfl ?_
  refine u_iload_n (pc := 460) hC dL_law_460 rfl 3 rfl ?_
  refine u_iconst (pc := 461) hC ic_2 dL_law_461 ?_
  refine u_iadd (pc := 462) hC dL_law_462 ?_
  refine u_sld (pc := 463) hC hX (law_in hi hgo hL (k := 2) rfl (by decide)) dL_law_463 ?_
  refine u_aload_n (pc := 464) hC dL_law_464 rfl 0 rfl ?_
  refine u_iload_n (pc := 465) hC dL_law_465 rfl 3 rfl ?_
  refine u_iconst (pc := 466) hC ic_3 dL_law_466 ?_
  refine u_iadd (pc := 467) hC dL_law_467 ?_
  refine u_sld (pc := 468) hC hX (law_in hi hgo hL (k := 3) rfl (by decide)) dL_law_468 ?_
  refine k_RL_42 (pc := 469) hC (av := [.int (xs (i + (1 : Int32)).toNatClampNeg), .int (xs (i + (2 : Int32)).toNatClampNeg), .int (xs (i + (3 : Int32)).toNatClampNeg)]) (rest := [.int p.1]) (c_X12_book (d := d - 1) (by omega) is105 hq) (by omega) (Nat.le_of_ble_eq_true rfl) is105 rfl rfl dL_law_469 ?_
  refine u_icmp_eq (pc := 472) hC (tgt := 1602) dL_law_472 (by decide) (fun _ => ?_) (fun c9 => absurd hpq c9)
  exact hend q.2 hrel
set_option maxHeartbeats 4000000 in
set_option maxRecDepth 100000 in
theorem law_become {Rel : Mem → Prop} (hs : SH_become Rel) {C : Cx} {d : Nat} (hd : 900 ≤ d) (hC : CxOK C cL_law 4 RL d) {b L : Nat} {xs : Nat → Int32} (hX : LX C b L xs) (hL : L ≤ 3072) {i : Int32} {j : Nat} (hi : i = nI j) (hgo : j + 6 ≤ L) {μ : Mem} (hr : Rel μ) (hend : ∀ μ1, Rel μ1 → UW C 4 μ1 1602 [(0, .ref b), (1, .ref (gad (cG C) 0)), (2, .ref (gad (cG C) 105)), (3, .int i)] []) : UW C 4 μ 477 [(0, .ref b), (1, .ref (gad (cG C) 0)), (2, .ref (gad (cG C) 105)), (3, .int i)] [] := by
  obtain ⟨p, q, hp, hq, hpq, hrel⟩ := hs μ hr (xs (i + (1 : Int32)).toNatClampNeg) (xs (i + (2 : Int32)).toNatClampNeg)
  refine u_aload_n (pc := 477) hC dL_law_477 rfl 1 rfl ?_
  refine u_aload_n (pc := 478) hC dL_law_478 rfl 0 rfl ?_
  refine u_iload_n (pc := 479) hC dL_law_479 rfl 3 rfl ?_
  refine u_iconst (pc := 480) hC ic_1 dL_law_480 ?_
  refine u_iadd (pc := 481) hC dL_law_481 ?_
  refine u_sld (pc := 482) hC hX (law_in hi hgo hL (k := 1) rfl (by decide)) dL_law_482 ?_
  refine u_aload_n (pc := 483) hC dL_law_483 rfl 0 rfl ?_
  refine u_iload_n (pc := 484) hC dL_law_484 rfl 3 rfl ?_
  refine u_iconst (pc := 485) hC ic_2 dL_law_485 ?_
  refine u_iadd (pc := 486) hC dL_law_486 ?_
  refine u_sld (pc := 487) hC hX (law_in hi hgo hL (k := 2) rfl (by decide)) dL_law_487 ?_
  refine k_RL_43 (pc := 488) hC (av := [.int (xs (i + (1 : Int32)).toNatClampNeg), .int (xs (i + (2 : Int32)).toNatClampNeg)]) (rest := []) (c_X11_become (d := d - 1) (by omega) is0 hp) (by omega) (Nat.le_of_ble_eq_true rfl) is0 rfl rfl dL_law_488 ?_
  refine u_aload_n (pc := 491) hC dL_law_491 rfl 2 rfl ?_
  refine u_aload_n (pc := 492) hC dL_law_492 rfl 0 rfl ?_
  refine u_iload_n (pc := 493) hC dL_law_493 rfl 3 rfl ?_
  refine u_iconst (pc := 494) hC ic_1 dL_law_494 ?_
  refine u_iadd (pc := 495) hC dL_law_495 ?_
  refine u_sld (pc := 496) hC hX (law_in hi hgo hL (k := 1) rfl (by decide)) dL_law_496 ?_
  refine u_aload_n (pc := 497) hC dL_law_497 rfl 0 rfl ?_
  refine u_iload_n (pc := 498) hC dL_law_498 rfl 3 rfl ?_
  refine u_iconst (pc := 499) hC ic_2 dL_law_499 ?_
  refine u_iadd (pc := 500) hC dL_law_500 ?_
  refine u_sld (pc := 501) hC hX (law_in hi hgo hL (k := 2) rfl (by decide)) dL_law_501 ?_
  refine k_RL_46 (pc := 502) hC (av := [.int (xs (i + (1 : Int32)).toNatClampNeg), .int (xs (i + (2 : Int32)).toNatClampNeg)]) (rest := [.int p.1]) (c_X12_become (d := d - 1) (by omega) is105 hq) (by omega) (Nat.le_of_ble_eq_true rfl) is105 rfl rfl dL_law_502 ?_
  refine u_icmp_eq (pc := 505) hC (tgt := 1602) dL_law_505 (by decide) (fun _ => ?_) (fun c9 => absurd hpq c9)
  exact hend q.2 hrel
set_option maxHeartbeats 4000000 in
set_option maxRecDepth 100000 in
theorem law_as {Rel : Mem → Prop} (hs : SH_as Rel) {C : Cx} {d : Nat} (hd : 900 ≤ d) (hC : CxOK C cL_law 4 RL d) {b L : Nat} {xs : Nat → Int32} (hX : LX C b L xs) (hL : L ≤ 3072) {i : Int32} {j : Nat} (hi : i = nI j) (hgo : j + 6 ≤ L) {μ : Mem} (hr : Rel μ) (hend : ∀ μ1, Rel μ1 → UW C 4 μ1 1602 [(0, .ref b), (1, .ref (gad (cG C) 0)), (2, .ref (gad (cG C) 105)), (3, .int i)] []) : UW C 4 μ 510 [(0, .ref b), (1, .ref (gad (cG C) 0)), (2, .ref (gad (cG C) 105)), (3, .int i)] [] := by
  obtain ⟨p, q, hp, hq, hpq, hrel⟩ := hs μ hr (xs (i + (1 : Int32)).toNatClampNeg) (xs (i + (2 : Int32)).toNatClampNeg)
  refine u_aload_n (pc := 510) hC dL_law_510 rfl 1 rfl ?_
  refine u_aload_n (pc := 511) hC dL_law_511 rfl 0 rfl ?_
  refine u_iload_n (pc := 512) hC dL_law_512 rfl 3 rfl ?_
  refine u_iconst (pc := 513) hC ic_1 dL_law_513 ?_
  refine u_iadd (pc := 514) hC dL_law_514 ?_
  refine u_sld (pc := 515) hC hX (law_in hi hgo hL (k := 1) rfl (by decide)) dL_law_515 ?_
  refine u_aload_n (pc := 516) hC dL_law_516 rfl 0 rfl ?_
  refine u_iload_n (pc := 517) hC dL_law_517 rfl 3 rfl ?_
  refine u_iconst (pc := 518) hC ic_2 dL_law_518 ?_
  refine u_iadd (pc := 519) hC dL_law_519 ?_
  refine u_sld (pc := 520) hC hX (law_in hi hgo hL (k := 2) rfl (by decide)) dL_law_520 ?_
  refine k_RL_47 (pc := 521) hC (av := [.int (xs (i + (1 : Int32)).toNatClampNeg), .int (xs (i + (2 : Int32)).toNatClampNeg)]) (rest := []) (c_X11_as (d := d - 1) (by omega) is0 hp) (by omega) (Nat.le_of_ble_eq_true rfl) is0 rfl rfl dL_law_521 ?_
  refine u_aload_n (pc := 524) hC dL_law_524 rfl 2 rfl ?_
  refine u_aload_n (pc := 525) hC dL_law_525 rfl 0 rfl ?_
  refine u_iload_n (pc := 526) hC dL_law_526 rfl 3 rfl ?_
  refine u_iconst (pc := 527) hC ic_1 dL_law_527 ?_
  refine u_iadd (pc := 528) hC dL_law_528 ?_
  refine u_sld (pc := 529) hC hX (law_in hi hgo hL (k := 1) rfl (by decide)) dL_law_529 ?_
  refine u_aload_n (pc := 530) hC dL_law_530 rfl 0 rfl ?_
  refine u_iload_n (pc := 531) hC dL_law_531 rfl 3 rfl ?_
  refine u_iconst (pc := 532) hC ic_2 dL_law_532 ?_
  refine u_iadd (pc := 533) hC dL_law_533 ?_
  refine u_sld (pc := 534) hC hX (law_in hi hgo hL (k := 2) rfl (by decide)) dL_law_534 ?_
  refine k_RL_50 (pc := 535) hC (av := [.int (xs (i + (1 : Int32)).toNatClampNeg), .int (xs (i + (2 : Int32)).toNatClampNeg)]) (rest := [.int p.1]) (c_X12_as (d := d - 1) (by omega) is105 hq) (by omega) (Nat.le_of_ble_eq_true rfl) is105 rfl rfl dL_law_535 ?_
  refine u_icmp_eq (pc := 538) hC (tgt := 1602) dL_law_538 (by decide) (fun _ => ?_) (fun c9 => absurd hpq c9)
  exact hend q.2 hrel
set_option maxHeartbeats 4000000 in
set_option maxRecDepth 100000 in
theorem law_lend {Rel : Mem → Prop} (hs : SH_lend Rel) {C : Cx} {d : Nat} (hd : 900 ≤ d) (hC : CxOK C cL_law 4 RL d) {b L : Nat} {xs : Nat → Int32} (hX : LX C b L xs) (hL : L ≤ 3072) {i : Int32} {j : Nat} (hi : i = nI j) (hgo : j + 6 ≤ L) {μ : Mem} (hr : Rel μ) (hend : ∀ μ1, Rel μ1 → UW C 4 μ1 1602 [(0, .ref b), (1, .ref (gad (cG C) 0)), (2, .ref (gad (cG C) 105)), (3, .int i)] []) : UW C 4 μ 543 [(0, .ref b), (1, .ref (gad (cG C) 0)), (2, .ref (gad (cG C) 105)), (3, .int i)] [] := by
  obtain ⟨p, q, hp, hq, hpq, hrel⟩ := hs μ hr (xs (i + (1 : Int32)).toNatClampNeg) (xs (i + (2 : Int32)).toNatClampNeg)
  refine u_aload_n (pc := 543) hC dL_law_543 rfl 1 rfl ?_
  refine u_aload_n (pc := 544) hC dL_law_544 rfl 0 rfl ?_
  refine u_iload_n (pc := 545) hC dL_law_545 rfl 3 rfl ?_
  refine u_iconst (pc := 546) hC ic_1 dL_law_546 ?_
  refine u_iadd (pc := 547) hC dL_law_547 ?_
  refine u_sld (pc := 548) hC hX (law_in hi hgo hL (k := 1) rfl (by decide)) dL_law_548 ?_
  refine u_aload_n (pc := 549) hC dL_law_549 rfl 0 rfl ?_
  refine u_iload_n (pc := 550) hC dL_law_550 rfl 3 rfl ?_
  refine u_iconst (pc := 551) hC ic_2 dL_law_551 ?_
  refine u_iadd (pc := 552) hC dL_law_552 ?_
  refine u_sld (pc := 553) hC hX (law_in hi hgo hL (k := 2) rfl (by decide)) dL_law_553 ?_
  refine k_RL_51 (pc := 554) hC (av := [.int (xs (i + (1 : Int32)).toNatClampNeg), .int (xs (i + (2 : Int32)).toNatClampNeg)]) (rest := []) (c_X11_lend (d := d - 1) (by omega) is0 hp) (by omega) (Nat.le_of_ble_eq_true rfl) is0 rfl rfl dL_law_554 ?_
  refine u_aload_n (pc := 557) hC dL_law_557 rfl 2 rfl ?_
  refine u_aload_n (pc := 558) hC dL_law_558 rfl 0 rfl ?_
  refine u_iload_n (pc := 559) hC dL_law_559 rfl 3 rfl ?_
  refine u_iconst (pc := 560) hC ic_1 dL_law_560 ?_
  refine u_iadd (pc := 561) hC dL_law_561 ?_
  refine u_sld (pc := 562) hC hX (law_in hi hgo hL (k := 1) rfl (by decide)) dL_law_562 ?_
  refine u_aload_n (pc := 563) hC dL_law_563 rfl 0 rfl ?_
  refine u_iload_n (pc := 564) hC dL_law_564 rfl 3 rfl ?_
  refine u_iconst (pc := 565) hC ic_2 dL_law_565 ?_
  refine u_iadd (pc := 566) hC dL_law_566 ?_
  refine u_sld (pc := 567) hC hX (law_in hi hgo hL (k := 2) rfl (by decide)) dL_law_567 ?_
  refine k_RL_54 (pc := 568) hC (av := [.int (xs (i + (1 : Int32)).toNatClampNeg), .int (xs (i + (2 : Int32)).toNatClampNeg)]) (rest := [.int p.1]) (c_X12_lend (d := d - 1) (by omega) is105 hq) (by omega) (Nat.le_of_ble_eq_true rfl) is105 rfl rfl dL_law_568 ?_
  refine u_icmp_eq (pc := 571) hC (tgt := 1602) dL_law_571 (by decide) (fun _ => ?_) (fun c9 => absurd hpq c9)
  exact hend q.2 hrel
set_option maxHeartbeats 4000000 in
set_option maxRecDepth 100000 in
theorem law_tells {Rel : Mem → Prop} (hs : SH_tells Rel) {C : Cx} {d : Nat} (hd : 900 ≤ d) (hC : CxOK C cL_law 4 RL d) {b L : Nat} {xs : Nat → Int32} (hX : LX C b L xs) (hL : L ≤ 3072) {i : Int32} {j : Nat} (hi : i = nI j) (hgo : j + 6 ≤ L) {μ : Mem} (hr : Rel μ) (hend : ∀ μ1, Rel μ1 → UW C 4 μ1 1602 [(0, .ref b), (1, .ref (gad (cG C) 0)), (2, .ref (gad (cG C) 105)), (3, .int i)] []) : UW C 4 μ 576 [(0, .ref b), (1, .ref (gad (cG C) 0)), (2, .ref (gad (cG C) 105)), (3, .int i)] [] := by
  obtain ⟨p, q, hp, hq, hpq, hrel⟩ := hs μ hr (xs (i + (1 : Int32)).toNatClampNeg) (xs (i + (2 : Int32)).toNatClampNeg)
  refine u_aload_n (pc := 576) hC dL_law_576 rfl 1 rfl ?_
  refine u_aload_n (pc := 577) hC dL_law_577 rfl 0 rfl ?_
  refine u_iload_n (pc := 578) hC dL_law_578 rfl 3 rfl ?_
  refine u_iconst (pc := 579) hC ic_1 dL_law_579 ?_
  refine u_iadd (pc := 580) hC dL_law_580 ?_
  refine u_sld (pc := 581) hC hX (law_in hi hgo hL (k := 1) rfl (by decide)) dL_law_581 ?_
  refine u_aload_n (pc := 582) hC dL_law_582 rfl 0 rfl ?_
  refine u_iload_n (pc := 583) hC dL_law_583 rfl 3 rfl ?_
  refine u_iconst (pc := 584) hC ic_2 dL_law_584 ?_
  refine u_iadd (pc := 585) hC dL_law_585 ?_
  refine u_sld (pc := 586) hC hX (law_in hi hgo hL (k := 2) rfl (by decide)) dL_law_586 ?_
  refine k_RL_55 (pc := 587) hC (av := [.int (xs (i + (1 : Int32)).toNatClampNeg), .int (xs (i + (2 : Int32)).toNatClampNeg)]) (rest := []) (c_X11_tells (d := d - 1) (by omega) is0 hp) (by omega) (Nat.le_of_ble_eq_true rfl) is0 rfl rfl dL_law_587 ?_
  refine u_aload_n (pc := 590) hC dL_law_590 rfl 2 rfl ?_
  refine u_aload_n (pc := 591) hC dL_law_591 rfl 0 rfl ?_
  refine u_iload_n (pc := 592) hC dL_law_592 rfl 3 rfl ?_
  refine u_iconst (pc := 593) hC ic_1 dL_law_593 ?_
  refine u_iadd (pc := 594) hC dL_law_594 ?_
  refine u_sld (pc := 595) hC hX (law_in hi hgo hL (k := 1) rfl (by decide)) dL_law_595 ?_
  refine u_aload_n (pc := 596) hC dL_law_596 rfl 0 rfl ?_
  refine u_iload_n (pc := 597) hC dL_law_597 rfl 3 rfl ?_
  refine u_iconst (pc := 598) hC ic_2 dL_law_598 ?_
  refine u_iadd (pc := 599) hC dL_law_599 ?_
  refine u_sld (pc := 600) hC hX (law_in hi hgo hL (k := 2) rfl (by decide)) dL_law_600 ?_
  refine k_RL_58 (pc := 601) hC (av := [.int (xs (i + (1 : Int32)).toNatClampNeg), .int (xs (i + (2 : Int32)).toNatClampNeg)]) (rest := [.int p.1]) (c_X12_tells (d := d - 1) (by omega) is105 hq) (by omega) (Nat.le_of_ble_eq_true rfl) is105 rfl rfl dL_law_601 ?_
  refine u_icmp_eq (pc := 604) hC (tgt := 1602) dL_law_604 (by decide) (fun _ => ?_) (fun c9 => absurd hpq c9)
  exact hend q.2 hrel
set_option maxHeartbeats 4000000 in
set_option maxRecDepth 100000 in
theorem law_pardon {Rel : Mem → Prop} (hs : SH_pardon Rel) {C : Cx} {d : Nat} (hd : 900 ≤ d) (hC : CxOK C cL_law 4 RL d) {b L : Nat} {xs : Nat → Int32} (hX : LX C b L xs) (hL : L ≤ 3072) {i : Int32} {j : Nat} (hi : i = nI j) (hgo : j + 6 ≤ L) {μ : Mem} (hr : Rel μ) (hend : ∀ μ1, Rel μ1 → UW C 4 μ1 1602 [(0, .ref b), (1, .ref (gad (cG C) 0)), (2, .ref (gad (cG C) 105)), (3, .int i)] []) : UW C 4 μ 609 [(0, .ref b), (1, .ref (gad (cG C) 0)), (2, .ref (gad (cG C) 105)), (3, .int i)] [] := by
  obtain ⟨p, q, hp, hq, hpq, hrel⟩ := hs μ hr (xs (i + (1 : Int32)).toNatClampNeg)
  refine u_aload_n (pc := 609) hC dL_law_609 rfl 1 rfl ?_
  refine u_aload_n (pc := 610) hC dL_law_610 rfl 0 rfl ?_
  refine u_iload_n (pc := 611) hC dL_law_611 rfl 3 rfl ?_
  refine u_iconst (pc := 612) hC ic_1 dL_law_612 ?_
  refine u_iadd (pc := 613) hC dL_law_613 ?_
  refine u_sld (pc := 614) hC hX (law_in hi hgo hL (k := 1) rfl (by decide)) dL_law_614 ?_
  refine k_RL_59 (pc := 615) hC (av := [.int (xs (i + (1 : Int32)).toNatClampNeg)]) (rest := []) (c_X11_pardon (d := d - 1) (by omega) is0 hp) (by omega) (Nat.le_of_ble_eq_true rfl) is0 rfl rfl dL_law_615 ?_
  refine u_aload_n (pc := 618) hC dL_law_618 rfl 2 rfl ?_
  refine u_aload_n (pc := 619) hC dL_law_619 rfl 0 rfl ?_
  refine u_iload_n (pc := 620) hC dL_law_620 rfl 3 rfl ?_
  refine u_iconst (pc := 621) hC ic_1 dL_law_621 ?_
  refine u_iadd (pc := 622) hC dL_law_622 ?_
  refine u_sld (pc := 623) hC hX (law_in hi hgo hL (k := 1) rfl (by decide)) dL_law_623 ?_
  refine k_RL_63 (pc := 624) hC (av := [.int (xs (i + (1 : Int32)).toNatClampNeg)]) (rest := [.int p.1]) (c_X12_pardon (d := d - 1) (by omega) is105 hq) (by omega) (Nat.le_of_ble_eq_true rfl) is105 rfl rfl dL_law_624 ?_
  refine u_icmp_eq (pc := 627) hC (tgt := 1602) dL_law_627 (by decide) (fun _ => ?_) (fun c9 => absurd hpq c9)
  exact hend q.2 hrel
set_option maxHeartbeats 4000000 in
set_option maxRecDepth 100000 in
theorem law_weeks {Rel : Mem → Prop} (hs : SH_weeks Rel) {C : Cx} {d : Nat} (hd : 900 ≤ d) (hC : CxOK C cL_law 4 RL d) {b L : Nat} {xs : Nat → Int32} (hX : LX C b L xs) (hL : L ≤ 3072) {i : Int32} {j : Nat} (hi : i = nI j) (hgo : j + 6 ≤ L) {μ : Mem} (hr : Rel μ) (hend : ∀ μ1, Rel μ1 → UW C 4 μ1 1602 [(0, .ref b), (1, .ref (gad (cG C) 0)), (2, .ref (gad (cG C) 105)), (3, .int i)] []) : UW C 4 μ 632 [(0, .ref b), (1, .ref (gad (cG C) 0)), (2, .ref (gad (cG C) 105)), (3, .int i)] [] := by
  obtain ⟨p, q, hp, hq, hpq, hrel⟩ := hs μ hr (xs (i + (1 : Int32)).toNatClampNeg)
  refine u_aload_n (pc := 632) hC dL_law_632 rfl 1 rfl ?_
  refine u_aload_n (pc := 633) hC dL_law_633 rfl 0 rfl ?_
  refine u_iload_n (pc := 634) hC dL_law_634 rfl 3 rfl ?_
  refine u_iconst (pc := 635) hC ic_1 dL_law_635 ?_
  refine u_iadd (pc := 636) hC dL_law_636 ?_
  refine u_sld (pc := 637) hC hX (law_in hi hgo hL (k := 1) rfl (by decide)) dL_law_637 ?_
  refine k_RL_64 (pc := 638) hC (av := [.int (xs (i + (1 : Int32)).toNatClampNeg)]) (rest := []) (c_X11_weeks (d := d - 1) (by omega) is0 hp) (by omega) (Nat.le_of_ble_eq_true rfl) is0 rfl rfl dL_law_638 ?_
  refine u_aload_n (pc := 641) hC dL_law_641 rfl 2 rfl ?_
  refine u_aload_n (pc := 642) hC dL_law_642 rfl 0 rfl ?_
  refine u_iload_n (pc := 643) hC dL_law_643 rfl 3 rfl ?_
  refine u_iconst (pc := 644) hC ic_1 dL_law_644 ?_
  refine u_iadd (pc := 645) hC dL_law_645 ?_
  refine u_sld (pc := 646) hC hX (law_in hi hgo hL (k := 1) rfl (by decide)) dL_law_646 ?_
  refine k_RL_67 (pc := 647) hC (av := [.int (xs (i + (1 : Int32)).toNatClampNeg)]) (rest := [.int p.1]) (c_X12_weeks (d := d - 1) (by omega) is105 hq) (by omega) (Nat.le_of_ble_eq_true rfl) is105 rfl rfl dL_law_647 ?_
  refine u_icmp_eq (pc := 650) hC (tgt := 1602) dL_law_650 (by decide) (fun _ => ?_) (fun c9 => absurd hpq c9)
  exact hend q.2 hrel
set_option maxHeartbeats 4000000 in
set_option maxRecDepth 100000 in
theorem law_loose {Rel : Mem → Prop} (hs : SH_loose Rel) {C : Cx} {d : Nat} (hd : 900 ≤ d) (hC : CxOK C cL_law 4 RL d) {b L : Nat} {xs : Nat → Int32} (hX : LX C b L xs) (hL : L ≤ 3072) {i : Int32} {j : Nat} (hi : i = nI j) (hgo : j + 6 ≤ L) {μ : Mem} (hr : Rel μ) (hend : ∀ μ1, Rel μ1 → UW C 4 μ1 1602 [(0, .ref b), (1, .ref (gad (cG C) 0)), (2, .ref (gad (cG C) 105)), (3, .int i)] []) : UW C 4 μ 655 [(0, .ref b), (1, .ref (gad (cG C) 0)), (2, .ref (gad (cG C) 105)), (3, .int i)] [] := by
  obtain ⟨p, q, hp, hq, hpq, hrel⟩ := hs μ hr (xs (i + (1 : Int32)).toNatClampNeg)
  refine u_aload_n (pc := 655) hC dL_law_655 rfl 1 rfl ?_
  refine u_aload_n (pc := 656) hC dL_law_656 rfl 0 rfl ?_
  refine u_iload_n (pc := 657) hC dL_law_657 rfl 3 rfl ?_
  refine u_iconst (pc := 658) hC ic_1 dL_law_658 ?_
  refine u_iadd (pc := 659) hC dL_law_659 ?_
  refine u_sld (pc := 660) hC hX (law_in hi hgo hL (k := 1) rfl (by decide)) dL_law_660 ?_
  refine k_RL_68 (pc := 661) hC (av := [.int (xs (i + (1 : Int32)).toNatClampNeg)]) (rest := []) (c_X11_loose (d := d - 1) (by omega) is0 hp) (by omega) (Nat.le_of_ble_eq_true rfl) is0 rfl rfl dL_law_661 ?_
  refine u_aload_n (pc := 664) hC dL_law_664 rfl 2 rfl ?_
  refine u_aload_n (pc := 665) hC dL_law_665 rfl 0 rfl ?_
  refine u_iload_n (pc := 666) hC dL_law_666 rfl 3 rfl ?_
  refine u_iconst (pc := 667) hC ic_1 dL_law_667 ?_
  refine u_iadd (pc := 668) hC dL_law_668 ?_
  refine u_sld (pc := 669) hC hX (law_in hi hgo hL (k := 1) rfl (by decide)) dL_law_669 ?_
  refine k_RL_71 (pc := 670) hC (av := [.int (xs (i + (1 : Int32)).toNatClampNeg)]) (rest := [.int p.1]) (c_X12_loose (d := d - 1) (by omega) is105 hq) (by omega) (Nat.le_of_ble_eq_true rfl) is105 rfl rfl dL_law_670 ?_
  refine u_icmp_eq (pc := 673) hC (tgt := 1602) dL_law_673 (by decide) (fun _ => ?_) (fun c9 => absurd hpq c9)
  exact hend q.2 hrel
set_option maxHeartbeats 4000000 in
set_option maxRecDepth 100000 in
theorem law_then {Rel : Mem → Prop} (hs : SH_then Rel) {C : Cx} {d : Nat} (hd : 900 ≤ d) (hC : CxOK C cL_law 4 RL d) {b L : Nat} {xs : Nat → Int32} (hX : LX C b L xs) (hL : L ≤ 3072) {i : Int32} {j : Nat} (hi : i = nI j) (hgo : j + 6 ≤ L) {μ : Mem} (hr : Rel μ) (hend : ∀ μ1, Rel μ1 → UW C 4 μ1 1602 [(0, .ref b), (1, .ref (gad (cG C) 0)), (2, .ref (gad (cG C) 105)), (3, .int i)] []) : UW C 4 μ 678 [(0, .ref b), (1, .ref (gad (cG C) 0)), (2, .ref (gad (cG C) 105)), (3, .int i)] [] := by
  obtain ⟨p, q, hp, hq, hpq, hrel⟩ := hs μ hr (xs (i + (1 : Int32)).toNatClampNeg) (xs (i + (2 : Int32)).toNatClampNeg) (xs (i + (3 : Int32)).toNatClampNeg)
  refine u_aload_n (pc := 678) hC dL_law_678 rfl 1 rfl ?_
  refine u_aload_n (pc := 679) hC dL_law_679 rfl 0 rfl ?_
  refine u_iload_n (pc := 680) hC dL_law_680 rfl 3 rfl ?_
  refine u_iconst (pc := 681) hC ic_1 dL_law_681 ?_
  refine u_iadd (pc := 682) hC dL_law_682 ?_
  refine u_sld (pc := 683) hC hX (law_in hi hgo hL (k := 1) rfl (by decide)) dL_law_683 ?_
  refine u_aload_n (pc := 684) hC dL_law_684 rfl 0 rfl ?_
  refine u_iload_n (pc := 685) hC dL_law_685 rfl 3 rfl ?_
  refine u_iconst (pc := 686) hC ic_2 dL_law_686 ?_
  refine u_iadd (pc := 687) hC dL_law_687 ?_
  refine u_sld (pc := 688) hC hX (law_in hi hgo hL (k := 2) rfl (by decide)) dL_law_688 ?_
  refine u_aload_n (pc := 689) hC dL_law_689 rfl 0 rfl ?_
  refine u_iload_n (pc := 690) hC dL_law_690 rfl 3 rfl ?_
  refine u_iconst (pc := 691) hC ic_3 dL_law_691 ?_
  refine u_iadd (pc := 692) hC dL_law_692 ?_
  refine u_sld (pc := 693) hC hX (law_in hi hgo hL (k := 3) rfl (by decide)) dL_law_693 ?_
  refine k_RL_72 (pc := 694) hC (av := [.int (xs (i + (1 : Int32)).toNatClampNeg), .int (xs (i + (2 : Int32)).toNatClampNeg), .int (xs (i + (3 : Int32)).toNatClampNeg)]) (rest := []) (c_X11_then (d := d - 1) (by omega) is0 hp) (by omega) (Nat.le_of_ble_eq_true rfl) is0 rfl rfl dL_law_694 ?_
  refine u_aload_n (pc := 697) hC dL_law_697 rfl 2 rfl ?_
  refine u_aload_n (pc := 698) hC dL_law_698 rfl 0 rfl ?_
  refine u_iload_n (pc := 699) hC dL_law_699 rfl 3 rfl ?_
  refine u_iconst (pc := 700) hC ic_1 dL_law_700 ?_
  refine u_iadd (pc := 701) hC dL_law_701 ?_
  refine u_sld (pc := 702) hC hX (law_in hi hgo hL (k := 1) rfl (by decide)) dL_law_702 ?_
  refine u_aload_n (pc := 703) hC dL_law_703 rfl 0 rfl ?_
  refine u_iload_n (pc := 704) hC dL_law_704 rfl 3 rfl ?_
  refine u_iconst (pc := 705) hC ic_2 dL_law_705 ?_
  refine u_iadd (pc := 706) hC dL_law_706 ?_
  refine u_sld (pc := 707) hC hX (law_in hi hgo hL (k := 2) rfl (by decide)) dL_law_707 ?_
  refine u_aload_n (pc := 708) hC dL_law_708 rfl 0 rfl ?_
  refine u_iload_n (pc := 709) hC dL_law_709 rfl 3 rfl ?_
  refine u_iconst (pc := 710) hC ic_3 dL_law_710 ?_
  refine u_iadd (pc := 711) hC dL_law_711 ?_
  refine u_sld (pc := 712) hC hX (law_in hi hgo hL (k := 3) rfl (by decide)) dL_law_712 ?_
  refine k_RL_75 (pc := 713) hC (av := [.int (xs (i + (1 : Int32)).toNatClampNeg), .int (xs (i + (2 : Int32)).toNatClampNeg), .int (xs (i + (3 : Int32)).toNatClampNeg)]) (rest := [.int p.1]) (c_X12_then (d := d - 1) (by omega) is105 hq) (by omega) (Nat.le_of_ble_eq_true rfl) is105 rfl rfl dL_law_713 ?_
  refine u_icmp_eq (pc := 716) hC (tgt := 1602) dL_law_716 (by decide) (fun _ => ?_) (fun c9 => absurd hpq c9)
  exact hend q.2 hrel
set_option maxHeartbeats 4000000 in
set_option maxRecDepth 100000 in
theorem law_feed {Rel : Mem → Prop} (hs : SH_feed Rel) {C : Cx} {d : Nat} (hd : 900 ≤ d) (hC : CxOK C cL_law 4 RL d) {b L : Nat} {xs : Nat → Int32} (hX : LX C b L xs) (hL : L ≤ 3072) {i : Int32} {j : Nat} (hi : i = nI j) (hgo : j + 6 ≤ L) {μ : Mem} (hr : Rel μ) (hend : ∀ μ1, Rel μ1 → UW C 4 μ1 1602 [(0, .ref b), (1, .ref (gad (cG C) 0)), (2, .ref (gad (cG C) 105)), (3, .int i)] []) : UW C 4 μ 721 [(0, .ref b), (1, .ref (gad (cG C) 0)), (2, .ref (gad (cG C) 105)), (3, .int i)] [] := by
  obtain ⟨p, q, hp, hq, hpq, hrel⟩ := hs μ hr ((jlshl ((xs (i + (1 : Int32)).toNatClampNeg).toInt64) (32 : Int32)) ||| (((xs (i + (2 : Int32)).toNatClampNeg).toInt64) &&& (4294967295 : Int64))) (xs (i + (3 : Int32)).toNatClampNeg)
  refine u_aload_n (pc := 721) hC dL_law_721 rfl 1 rfl ?_
  refine u_aload_n (pc := 722) hC dL_law_722 rfl 0 rfl ?_
  refine u_iload_n (pc := 723) hC dL_law_723 rfl 3 rfl ?_
  refine u_iconst (pc := 724) hC ic_1 dL_law_724 ?_
  refine u_iadd (pc := 725) hC dL_law_725 ?_
  refine u_sld (pc := 726) hC hX (law_in hi hgo hL (k := 1) rfl (by decide)) dL_law_726 ?_
  refine u_i2l (pc := 727) hC dL_law_727 ?_
  refine u_bipush (pc := 728) hC bc_32 dL_law_728 ?_
  refine u_lshl (pc := 730) hC dL_law_730 ?_
  refine u_aload_n (pc := 731) hC dL_law_731 rfl 0 rfl ?_
  refine u_iload_n (pc := 732) hC dL_law_732 rfl 3 rfl ?_
  refine u_iconst (pc := 733) hC ic_2 dL_law_733 ?_
  refine u_iadd (pc := 734) hC dL_law_734 ?_
  refine u_sld (pc := 735) hC hX (law_in hi hgo hL (k := 2) rfl (by decide)) dL_law_735 ?_
  refine u_i2l (pc := 736) hC dL_law_736 ?_
  refine u_ldc2 (pc := 737) hC (v := (4294967295 : Int64)) mQ_RL_76 dL_law_737 ?_
  refine u_land (pc := 740) hC dL_law_740 ?_
  refine u_lor (pc := 741) hC dL_law_741 ?_
  refine u_aload_n (pc := 742) hC dL_law_742 rfl 0 rfl ?_
  refine u_iload_n (pc := 743) hC dL_law_743 rfl 3 rfl ?_
  refine u_iconst (pc := 744) hC ic_3 dL_law_744 ?_
  refine u_iadd (pc := 745) hC dL_law_745 ?_
  refine u_sld (pc := 746) hC hX (law_in hi hgo hL (k := 3) rfl (by decide)) dL_law_746 ?_
  refine k_RL_78 (pc := 747) hC (av := [.long ((jlshl ((xs (i + (1 : Int32)).toNatClampNeg).toInt64) (32 : Int32)) ||| (((xs (i + (2 : Int32)).toNatClampNeg).toInt64) &&& (4294967295 : Int64))), .int (xs (i + (3 : Int32)).toNatClampNeg)]) (rest := []) (c_X11_feed (d := d - 1) (by omega) is0 hp) (by omega) (Nat.le_of_ble_eq_true rfl) is0 rfl rfl dL_law_747 ?_
  refine u_aload_n (pc := 750) hC dL_law_750 rfl 2 rfl ?_
  refine u_aload_n (pc := 751) hC dL_law_751 rfl 0 rfl ?_
  refine u_iload_n (pc := 752) hC dL_law_752 rfl 3 rfl ?_
  refine u_iconst (pc := 753) hC ic_1 dL_law_753 ?_
  refine u_iadd (pc := 754) hC dL_law_754 ?_
  refine u_sld (pc := 755) hC hX (law_in hi hgo hL (k := 1) rfl (by decide)) dL_law_755 ?_
  refine u_i2l (pc := 756) hC dL_law_756 ?_
  refine u_bipush (pc := 757) hC bc_32 dL_law_757 ?_
  refine u_lshl (pc := 759) hC dL_law_759 ?_
  refine u_aload_n (pc := 760) hC dL_law_760 rfl 0 rfl ?_
  refine u_iload_n (pc := 761) hC dL_law_761 rfl 3 rfl ?_
  refine u_iconst (pc := 762) hC ic_2 dL_law_762 ?_
  refine u_iadd (pc := 763) hC dL_law_763 ?_
  refine u_sld (pc := 764) hC hX (law_in hi hgo hL (k := 2) rfl (by decide)) dL_law_764 ?_
  refine u_i2l (pc := 765) hC dL_law_765 ?_
  refine u_ldc2 (pc := 766) hC (v := (4294967295 : Int64)) mQ_RL_76 dL_law_766 ?_
  refine u_land (pc := 769) hC dL_law_769 ?_
  refine u_lor (pc := 770) hC dL_law_770 ?_
  refine u_aload_n (pc := 771) hC dL_law_771 rfl 0 rfl ?_
  refine u_iload_n (pc := 772) hC dL_law_772 rfl 3 rfl ?_
  refine u_iconst (pc := 773) hC ic_3 dL_law_773 ?_
  refine u_iadd (pc := 774) hC dL_law_774 ?_
  refine u_sld (pc := 775) hC hX (law_in hi hgo hL (k := 3) rfl (by decide)) dL_law_775 ?_
  refine k_RL_82 (pc := 776) hC (av := [.long ((jlshl ((xs (i + (1 : Int32)).toNatClampNeg).toInt64) (32 : Int32)) ||| (((xs (i + (2 : Int32)).toNatClampNeg).toInt64) &&& (4294967295 : Int64))), .int (xs (i + (3 : Int32)).toNatClampNeg)]) (rest := [.int p.1]) (c_X12_feed (d := d - 1) (by omega) is105 hq) (by omega) (Nat.le_of_ble_eq_true rfl) is105 rfl rfl dL_law_776 ?_
  refine u_icmp_eq (pc := 779) hC (tgt := 1602) dL_law_779 (by decide) (fun _ => ?_) (fun c9 => absurd hpq c9)
  exact hend q.2 hrel
set_option maxHeartbeats 4000000 in
set_option maxRecDepth 100000 in
theorem law_text {Rel : Mem → Prop} (hs : SH_text Rel) {C : Cx} {d : Nat} (hd : 900 ≤ d) (hC : CxOK C cL_law 4 RL d) {b L : Nat} {xs : Nat → Int32} (hX : LX C b L xs) (hL : L ≤ 3072) {i : Int32} {j : Nat} (hi : i = nI j) (hgo : j + 6 ≤ L) {μ : Mem} (hr : Rel μ) (hend : ∀ μ1, Rel μ1 → UW C 4 μ1 1602 [(0, .ref b), (1, .ref (gad (cG C) 0)), (2, .ref (gad (cG C) 105)), (3, .int i)] []) : UW C 4 μ 784 [(0, .ref b), (1, .ref (gad (cG C) 0)), (2, .ref (gad (cG C) 105)), (3, .int i)] [] := by
  obtain ⟨p, q, hp, hq, hpq, hrel⟩ := hs μ hr (xs (i + (1 : Int32)).toNatClampNeg)
  refine u_aload_n (pc := 784) hC dL_law_784 rfl 1 rfl ?_
  refine u_aload_n (pc := 785) hC dL_law_785 rfl 0 rfl ?_
  refine u_iload_n (pc := 786) hC dL_law_786 rfl 3 rfl ?_
  refine u_iconst (pc := 787) hC ic_1 dL_law_787 ?_
  refine u_iadd (pc := 788) hC dL_law_788 ?_
  refine u_sld (pc := 789) hC hX (law_in hi hgo hL (k := 1) rfl (by decide)) dL_law_789 ?_
  refine k_RL_83 (pc := 790) hC (av := [.int (xs (i + (1 : Int32)).toNatClampNeg)]) (rest := []) (c_X11_text (d := d - 1) (by omega) is0 hp) (by omega) (Nat.le_of_ble_eq_true rfl) is0 rfl rfl dL_law_790 ?_
  refine u_aload_n (pc := 793) hC dL_law_793 rfl 2 rfl ?_
  refine u_aload_n (pc := 794) hC dL_law_794 rfl 0 rfl ?_
  refine u_iload_n (pc := 795) hC dL_law_795 rfl 3 rfl ?_
  refine u_iconst (pc := 796) hC ic_1 dL_law_796 ?_
  refine u_iadd (pc := 797) hC dL_law_797 ?_
  refine u_sld (pc := 798) hC hX (law_in hi hgo hL (k := 1) rfl (by decide)) dL_law_798 ?_
  refine k_RL_86 (pc := 799) hC (av := [.int (xs (i + (1 : Int32)).toNatClampNeg)]) (rest := [.int p.1]) (c_X12_text (d := d - 1) (by omega) is105 hq) (by omega) (Nat.le_of_ble_eq_true rfl) is105 rfl rfl dL_law_799 ?_
  refine u_icmp_eq (pc := 802) hC (tgt := 1602) dL_law_802 (by decide) (fun _ => ?_) (fun c9 => absurd hpq c9)
  exact hend q.2 hrel
set_option maxHeartbeats 4000000 in
set_option maxRecDepth 100000 in
theorem law_law {Rel : Mem → Prop} (hs : SH_law Rel) {C : Cx} {d : Nat} (hd : 900 ≤ d) (hC : CxOK C cL_law 4 RL d) {b L : Nat} {xs : Nat → Int32} (hX : LX C b L xs) (hL : L ≤ 3072) {i : Int32} {j : Nat} (hi : i = nI j) (hgo : j + 6 ≤ L) {μ : Mem} (hr : Rel μ) (hend : ∀ μ1, Rel μ1 → UW C 4 μ1 1602 [(0, .ref b), (1, .ref (gad (cG C) 0)), (2, .ref (gad (cG C) 105)), (3, .int i)] []) : UW C 4 μ 807 [(0, .ref b), (1, .ref (gad (cG C) 0)), (2, .ref (gad (cG C) 105)), (3, .int i)] [] := by
  obtain ⟨p, q, hp, hq, hpq, hrel⟩ := hs μ hr (xs (i + (1 : Int32)).toNatClampNeg) (xs (i + (2 : Int32)).toNatClampNeg) (xs (i + (3 : Int32)).toNatClampNeg) (xs (i + (4 : Int32)).toNatClampNeg)
  refine u_aload_n (pc := 807) hC dL_law_807 rfl 1 rfl ?_
  refine u_aload_n (pc := 808) hC dL_law_808 rfl 0 rfl ?_
  refine u_iload_n (pc := 809) hC dL_law_809 rfl 3 rfl ?_
  refine u_iconst (pc := 810) hC ic_1 dL_law_810 ?_
  refine u_iadd (pc := 811) hC dL_law_811 ?_
  refine u_sld (pc := 812) hC hX (law_in hi hgo hL (k := 1) rfl (by decide)) dL_law_812 ?_
  refine u_aload_n (pc := 813) hC dL_law_813 rfl 0 rfl ?_
  refine u_iload_n (pc := 814) hC dL_law_814 rfl 3 rfl ?_
  refine u_iconst (pc := 815) hC ic_2 dL_law_815 ?_
  refine u_iadd (pc := 816) hC dL_law_816 ?_
  refine u_sld (pc := 817) hC hX (law_in hi hgo hL (k := 2) rfl (by decide)) dL_law_817 ?_
  refine u_aload_n (pc := 818) hC dL_law_818 rfl 0 rfl ?_
  refine u_iload_n (pc := 819) hC dL_law_819 rfl 3 rfl ?_
  refine u_iconst (pc := 820) hC ic_3 dL_law_820 ?_
  refine u_iadd (pc := 821) hC dL_law_821 ?_
  refine u_sld (pc := 822) hC hX (law_in hi hgo hL (k := 3) rfl (by decide)) dL_law_822 ?_
  refine u_aload_n (pc := 823) hC dL_law_823 rfl 0 rfl ?_
  refine u_iload_n (pc := 824) hC dL_law_824 rfl 3 rfl ?_
  refine u_iconst (pc := 825) hC ic_4 dL_law_825 ?_
  refine u_iadd (pc := 826) hC dL_law_826 ?_
  refine u_sld (pc := 827) hC hX (law_in hi hgo hL (k := 4) rfl (by decide)) dL_law_827 ?_
  refine k_RL_87 (pc := 828) hC (av := [.int (xs (i + (1 : Int32)).toNatClampNeg), .int (xs (i + (2 : Int32)).toNatClampNeg), .int (xs (i + (3 : Int32)).toNatClampNeg), .int (xs (i + (4 : Int32)).toNatClampNeg)]) (rest := []) (c_X11_law (d := d - 1) (by omega) is0 hp) (by omega) (Nat.le_of_ble_eq_true rfl) is0 rfl rfl dL_law_828 ?_
  refine u_aload_n (pc := 831) hC dL_law_831 rfl 2 rfl ?_
  refine u_aload_n (pc := 832) hC dL_law_832 rfl 0 rfl ?_
  refine u_iload_n (pc := 833) hC dL_law_833 rfl 3 rfl ?_
  refine u_iconst (pc := 834) hC ic_1 dL_law_834 ?_
  refine u_iadd (pc := 835) hC dL_law_835 ?_
  refine u_sld (pc := 836) hC hX (law_in hi hgo hL (k := 1) rfl (by decide)) dL_law_836 ?_
  refine u_aload_n (pc := 837) hC dL_law_837 rfl 0 rfl ?_
  refine u_iload_n (pc := 838) hC dL_law_838 rfl 3 rfl ?_
  refine u_iconst (pc := 839) hC ic_2 dL_law_839 ?_
  refine u_iadd (pc := 840) hC dL_law_840 ?_
  refine u_sld (pc := 841) hC hX (law_in hi hgo hL (k := 2) rfl (by decide)) dL_law_841 ?_
  refine u_aload_n (pc := 842) hC dL_law_842 rfl 0 rfl ?_
  refine u_iload_n (pc := 843) hC dL_law_843 rfl 3 rfl ?_
  refine u_iconst (pc := 844) hC ic_3 dL_law_844 ?_
  refine u_iadd (pc := 845) hC dL_law_845 ?_
  refine u_sld (pc := 846) hC hX (law_in hi hgo hL (k := 3) rfl (by decide)) dL_law_846 ?_
  refine u_aload_n (pc := 847) hC dL_law_847 rfl 0 rfl ?_
  refine u_iload_n (pc := 848) hC dL_law_848 rfl 3 rfl ?_
  refine u_iconst (pc := 849) hC ic_4 dL_law_849 ?_
  refine u_iadd (pc := 850) hC dL_law_850 ?_
  refine u_sld (pc := 851) hC hX (law_in hi hgo hL (k := 4) rfl (by decide)) dL_law_851 ?_
  refine k_RL_91 (pc := 852) hC (av := [.int (xs (i + (1 : Int32)).toNatClampNeg), .int (xs (i + (2 : Int32)).toNatClampNeg), .int (xs (i + (3 : Int32)).toNatClampNeg), .int (xs (i + (4 : Int32)).toNatClampNeg)]) (rest := [.int p.1]) (c_X12_law (d := d - 1) (by omega) is105 hq) (by omega) (Nat.le_of_ble_eq_true rfl) is105 rfl rfl dL_law_852 ?_
  refine u_icmp_eq (pc := 855) hC (tgt := 1602) dL_law_855 (by decide) (fun _ => ?_) (fun c9 => absurd hpq c9)
  exact hend q.2 hrel
set_option maxHeartbeats 4000000 in
set_option maxRecDepth 100000 in
theorem law_served {Rel : Mem → Prop} (hs : SH_served Rel) {C : Cx} {d : Nat} (hd : 900 ≤ d) (hC : CxOK C cL_law 4 RL d) {b L : Nat} {xs : Nat → Int32} (hX : LX C b L xs) (hL : L ≤ 3072) {i : Int32} {j : Nat} (hi : i = nI j) (hgo : j + 6 ≤ L) {μ : Mem} (hr : Rel μ) (hend : ∀ μ1, Rel μ1 → UW C 4 μ1 1602 [(0, .ref b), (1, .ref (gad (cG C) 0)), (2, .ref (gad (cG C) 105)), (3, .int i)] []) : UW C 4 μ 860 [(0, .ref b), (1, .ref (gad (cG C) 0)), (2, .ref (gad (cG C) 105)), (3, .int i)] [] := by
  obtain ⟨p, q, hp, hq, hpq, hrel⟩ := hs μ hr (xs (i + (1 : Int32)).toNatClampNeg) (xs (i + (2 : Int32)).toNatClampNeg)
  refine u_aload_n (pc := 860) hC dL_law_860 rfl 1 rfl ?_
  refine u_aload_n (pc := 861) hC dL_law_861 rfl 0 rfl ?_
  refine u_iload_n (pc := 862) hC dL_law_862 rfl 3 rfl ?_
  refine u_iconst (pc := 863) hC ic_1 dL_law_863 ?_
  refine u_iadd (pc := 864) hC dL_law_864 ?_
  refine u_sld (pc := 865) hC hX (law_in hi hgo hL (k := 1) rfl (by decide)) dL_law_865 ?_
  refine u_aload_n (pc := 866) hC dL_law_866 rfl 0 rfl ?_
  refine u_iload_n (pc := 867) hC dL_law_867 rfl 3 rfl ?_
  refine u_iconst (pc := 868) hC ic_2 dL_law_868 ?_
  refine u_iadd (pc := 869) hC dL_law_869 ?_
  refine u_sld (pc := 870) hC hX (law_in hi hgo hL (k := 2) rfl (by decide)) dL_law_870 ?_
  refine k_RL_92 (pc := 871) hC (av := [.int (xs (i + (1 : Int32)).toNatClampNeg), .int (xs (i + (2 : Int32)).toNatClampNeg)]) (rest := []) (c_X11_served (d := d - 1) (by omega) is0 hp) (by omega) (Nat.le_of_ble_eq_true rfl) is0 rfl rfl dL_law_871 ?_
  refine u_aload_n (pc := 874) hC dL_law_874 rfl 2 rfl ?_
  refine u_aload_n (pc := 875) hC dL_law_875 rfl 0 rfl ?_
  refine u_iload_n (pc := 876) hC dL_law_876 rfl 3 rfl ?_
  refine u_iconst (pc := 877) hC ic_1 dL_law_877 ?_
  refine u_iadd (pc := 878) hC dL_law_878 ?_
  refine u_sld (pc := 879) hC hX (law_in hi hgo hL (k := 1) rfl (by decide)) dL_law_879 ?_
  refine u_aload_n (pc := 880) hC dL_law_880 rfl 0 rfl ?_
  refine u_iload_n (pc := 881) hC dL_law_881 rfl 3 rfl ?_
  refine u_iconst (pc := 882) hC ic_2 dL_law_882 ?_
  refine u_iadd (pc := 883) hC dL_law_883 ?_
  refine u_sld (pc := 884) hC hX (law_in hi hgo hL (k := 2) rfl (by decide)) dL_law_884 ?_
  refine k_RL_95 (pc := 885) hC (av := [.int (xs (i + (1 : Int32)).toNatClampNeg), .int (xs (i + (2 : Int32)).toNatClampNeg)]) (rest := [.int p.1]) (c_X12_served (d := d - 1) (by omega) is105 hq) (by omega) (Nat.le_of_ble_eq_true rfl) is105 rfl rfl dL_law_885 ?_
  refine u_icmp_eq (pc := 888) hC (tgt := 1602) dL_law_888 (by decide) (fun _ => ?_) (fun c9 => absurd hpq c9)
  exact hend q.2 hrel
set_option maxHeartbeats 4000000 in
set_option maxRecDepth 100000 in
theorem law_closed {Rel : Mem → Prop} (hs : SH_closed Rel) {C : Cx} {d : Nat} (hd : 900 ≤ d) (hC : CxOK C cL_law 4 RL d) {b L : Nat} {xs : Nat → Int32} (hX : LX C b L xs) (hL : L ≤ 3072) {i : Int32} {j : Nat} (hi : i = nI j) (hgo : j + 6 ≤ L) {μ : Mem} (hr : Rel μ) (hend : ∀ μ1, Rel μ1 → UW C 4 μ1 1602 [(0, .ref b), (1, .ref (gad (cG C) 0)), (2, .ref (gad (cG C) 105)), (3, .int i)] []) : UW C 4 μ 893 [(0, .ref b), (1, .ref (gad (cG C) 0)), (2, .ref (gad (cG C) 105)), (3, .int i)] [] := by
  obtain ⟨p, q, hp, hq, hpq, hrel⟩ := hs μ hr (xs (i + (1 : Int32)).toNatClampNeg) (xs (i + (2 : Int32)).toNatClampNeg)
  refine u_aload_n (pc := 893) hC dL_law_893 rfl 1 rfl ?_
  refine u_aload_n (pc := 894) hC dL_law_894 rfl 0 rfl ?_
  refine u_iload_n (pc := 895) hC dL_law_895 rfl 3 rfl ?_
  refine u_iconst (pc := 896) hC ic_1 dL_law_896 ?_
  refine u_iadd (pc := 897) hC dL_law_897 ?_
  refine u_sld (pc := 898) hC hX (law_in hi hgo hL (k := 1) rfl (by decide)) dL_law_898 ?_
  refine u_aload_n (pc := 899) hC dL_law_899 rfl 0 rfl ?_
  refine u_iload_n (pc := 900) hC dL_law_900 rfl 3 rfl ?_
  refine u_iconst (pc := 901) hC ic_2 dL_law_901 ?_
  refine u_iadd (pc := 902) hC dL_law_902 ?_
  refine u_sld (pc := 903) hC hX (law_in hi hgo hL (k := 2) rfl (by decide)) dL_law_903 ?_
  refine k_RL_96 (pc := 904) hC (av := [.int (xs (i + (1 : Int32)).toNatClampNeg), .int (xs (i + (2 : Int32)).toNatClampNeg)]) (rest := []) (c_X11_closed (d := d - 1) (by omega) is0 hp) (by omega) (Nat.le_of_ble_eq_true rfl) is0 rfl rfl dL_law_904 ?_
  refine u_aload_n (pc := 907) hC dL_law_907 rfl 2 rfl ?_
  refine u_aload_n (pc := 908) hC dL_law_908 rfl 0 rfl ?_
  refine u_iload_n (pc := 909) hC dL_law_909 rfl 3 rfl ?_
  refine u_iconst (pc := 910) hC ic_1 dL_law_910 ?_
  refine u_iadd (pc := 911) hC dL_law_911 ?_
  refine u_sld (pc := 912) hC hX (law_in hi hgo hL (k := 1) rfl (by decide)) dL_law_912 ?_
  refine u_aload_n (pc := 913) hC dL_law_913 rfl 0 rfl ?_
  refine u_iload_n (pc := 914) hC dL_law_914 rfl 3 rfl ?_
  refine u_iconst (pc := 915) hC ic_2 dL_law_915 ?_
  refine u_iadd (pc := 916) hC dL_law_916 ?_
  refine u_sld (pc := 917) hC hX (law_in hi hgo hL (k := 2) rfl (by decide)) dL_law_917 ?_
  refine k_RL_99 (pc := 918) hC (av := [.int (xs (i + (1 : Int32)).toNatClampNeg), .int (xs (i + (2 : Int32)).toNatClampNeg)]) (rest := [.int p.1]) (c_X12_closed (d := d - 1) (by omega) is105 hq) (by omega) (Nat.le_of_ble_eq_true rfl) is105 rfl rfl dL_law_918 ?_
  refine u_icmp_eq (pc := 921) hC (tgt := 1602) dL_law_921 (by decide) (fun _ => ?_) (fun c9 => absurd hpq c9)
  exact hend q.2 hrel
set_option maxHeartbeats 4000000 in
set_option maxRecDepth 100000 in
theorem law_clashOf {Rel : Mem → Prop} (hs : SH_clashOf Rel) {C : Cx} {d : Nat} (hd : 900 ≤ d) (hC : CxOK C cL_law 4 RL d) {b L : Nat} {xs : Nat → Int32} (hX : LX C b L xs) (hL : L ≤ 3072) {i : Int32} {j : Nat} (hi : i = nI j) (hgo : j + 6 ≤ L) {μ : Mem} (hr : Rel μ) (hend : ∀ μ1, Rel μ1 → UW C 4 μ1 1602 [(0, .ref b), (1, .ref (gad (cG C) 0)), (2, .ref (gad (cG C) 105)), (3, .int i)] []) : UW C 4 μ 926 [(0, .ref b), (1, .ref (gad (cG C) 0)), (2, .ref (gad (cG C) 105)), (3, .int i)] [] := by
  obtain ⟨p, q, hp, hq, hpq, hrel⟩ := hs μ hr (xs (i + (1 : Int32)).toNatClampNeg)
  refine u_aload_n (pc := 926) hC dL_law_926 rfl 1 rfl ?_
  refine u_aload_n (pc := 927) hC dL_law_927 rfl 0 rfl ?_
  refine u_iload_n (pc := 928) hC dL_law_928 rfl 3 rfl ?_
  refine u_iconst (pc := 929) hC ic_1 dL_law_929 ?_
  refine u_iadd (pc := 930) hC dL_law_930 ?_
  refine u_sld (pc := 931) hC hX (law_in hi hgo hL (k := 1) rfl (by decide)) dL_law_931 ?_
  refine k_RL_100 (pc := 932) hC (av := [.int (xs (i + (1 : Int32)).toNatClampNeg)]) (rest := []) (c_X11_clashOf (d := d - 1) (by omega) is0 hp) (by omega) (Nat.le_of_ble_eq_true rfl) is0 rfl rfl dL_law_932 ?_
  refine u_aload_n (pc := 935) hC dL_law_935 rfl 2 rfl ?_
  refine u_aload_n (pc := 936) hC dL_law_936 rfl 0 rfl ?_
  refine u_iload_n (pc := 937) hC dL_law_937 rfl 3 rfl ?_
  refine u_iconst (pc := 938) hC ic_1 dL_law_938 ?_
  refine u_iadd (pc := 939) hC dL_law_939 ?_
  refine u_sld (pc := 940) hC hX (law_in hi hgo hL (k := 1) rfl (by decide)) dL_law_940 ?_
  refine k_RL_103 (pc := 941) hC (av := [.int (xs (i + (1 : Int32)).toNatClampNeg)]) (rest := [.int p.1]) (c_X12_clashOf (d := d - 1) (by omega) is105 hq) (by omega) (Nat.le_of_ble_eq_true rfl) is105 rfl rfl dL_law_941 ?_
  refine u_icmp_eq (pc := 944) hC (tgt := 1602) dL_law_944 (by decide) (fun _ => ?_) (fun c9 => absurd hpq c9)
  exact hend q.2 hrel
set_option maxHeartbeats 4000000 in
set_option maxRecDepth 100000 in
theorem law_joined {Rel : Mem → Prop} (hs : SH_joined Rel) {C : Cx} {d : Nat} (hd : 900 ≤ d) (hC : CxOK C cL_law 4 RL d) {b L : Nat} {xs : Nat → Int32} (hX : LX C b L xs) (hL : L ≤ 3072) {i : Int32} {j : Nat} (hi : i = nI j) (hgo : j + 6 ≤ L) {μ : Mem} (hr : Rel μ) (hend : ∀ μ1, Rel μ1 → UW C 4 μ1 1602 [(0, .ref b), (1, .ref (gad (cG C) 0)), (2, .ref (gad (cG C) 105)), (3, .int i)] []) : UW C 4 μ 949 [(0, .ref b), (1, .ref (gad (cG C) 0)), (2, .ref (gad (cG C) 105)), (3, .int i)] [] := by
  obtain ⟨p, q, hp, hq, hpq, hrel⟩ := hs μ hr (xs (i + (1 : Int32)).toNatClampNeg) (xs (i + (2 : Int32)).toNatClampNeg)
  refine u_aload_n (pc := 949) hC dL_law_949 rfl 1 rfl ?_
  refine u_aload_n (pc := 950) hC dL_law_950 rfl 0 rfl ?_
  refine u_iload_n (pc := 951) hC dL_law_951 rfl 3 rfl ?_
  refine u_iconst (pc := 952) hC ic_1 dL_law_952 ?_
  refine u_iadd (pc := 953) hC dL_law_953 ?_
  refine u_sld (pc := 954) hC hX (law_in hi hgo hL (k := 1) rfl (by decide)) dL_law_954 ?_
  refine u_aload_n (pc := 955) hC dL_law_955 rfl 0 rfl ?_
  refine u_iload_n (pc := 956) hC dL_law_956 rfl 3 rfl ?_
  refine u_iconst (pc := 957) hC ic_2 dL_law_957 ?_
  refine u_iadd (pc := 958) hC dL_law_958 ?_
  refine u_sld (pc := 959) hC hX (law_in hi hgo hL (k := 2) rfl (by decide)) dL_law_959 ?_
  refine k_RL_104 (pc := 960) hC (av := [.int (xs (i + (1 : Int32)).toNatClampNeg), .int (xs (i + (2 : Int32)).toNatClampNeg)]) (rest := []) (c_X11_joined (d := d - 1) (by omega) is0 hp) (by omega) (Nat.le_of_ble_eq_true rfl) is0 rfl rfl dL_law_960 ?_
  refine u_aload_n (pc := 963) hC dL_law_963 rfl 2 rfl ?_
  refine u_aload_n (pc := 964) hC dL_law_964 rfl 0 rfl ?_
  refine u_iload_n (pc := 965) hC dL_law_965 rfl 3 rfl ?_
  refine u_iconst (pc := 966) hC ic_1 dL_law_966 ?_
  refine u_iadd (pc := 967) hC dL_law_967 ?_
  refine u_sld (pc := 968) hC hX (law_in hi hgo hL (k := 1) rfl (by decide)) dL_law_968 ?_
  refine u_aload_n (pc := 969) hC dL_law_969 rfl 0 rfl ?_
  refine u_iload_n (pc := 970) hC dL_law_970 rfl 3 rfl ?_
  refine u_iconst (pc := 971) hC ic_2 dL_law_971 ?_
  refine u_iadd (pc := 972) hC dL_law_972 ?_
  refine u_sld (pc := 973) hC hX (law_in hi hgo hL (k := 2) rfl (by decide)) dL_law_973 ?_
  refine k_RL_107 (pc := 974) hC (av := [.int (xs (i + (1 : Int32)).toNatClampNeg), .int (xs (i + (2 : Int32)).toNatClampNeg)]) (rest := [.int p.1]) (c_X12_joined (d := d - 1) (by omega) is105 hq) (by omega) (Nat.le_of_ble_eq_true rfl) is105 rfl rfl dL_law_974 ?_
  refine u_icmp_eq (pc := 977) hC (tgt := 1602) dL_law_977 (by decide) (fun _ => ?_) (fun c9 => absurd hpq c9)
  exact hend q.2 hrel
set_option maxHeartbeats 4000000 in
set_option maxRecDepth 100000 in
theorem law_rated {Rel : Mem → Prop} (hs : SH_rated Rel) {C : Cx} {d : Nat} (hd : 900 ≤ d) (hC : CxOK C cL_law 4 RL d) {b L : Nat} {xs : Nat → Int32} (hX : LX C b L xs) (hL : L ≤ 3072) {i : Int32} {j : Nat} (hi : i = nI j) (hgo : j + 6 ≤ L) {μ : Mem} (hr : Rel μ) (hend : ∀ μ1, Rel μ1 → UW C 4 μ1 1602 [(0, .ref b), (1, .ref (gad (cG C) 0)), (2, .ref (gad (cG C) 105)), (3, .int i)] []) : UW C 4 μ 982 [(0, .ref b), (1, .ref (gad (cG C) 0)), (2, .ref (gad (cG C) 105)), (3, .int i)] [] := by
  obtain ⟨p, q, hp, hq, hpq, hrel⟩ := hs μ hr (xs (i + (1 : Int32)).toNatClampNeg) (xs (i + (2 : Int32)).toNatClampNeg) (xs (i + (3 : Int32)).toNatClampNeg)
  refine u_aload_n (pc := 982) hC dL_law_982 rfl 1 rfl ?_
  refine u_aload_n (pc := 983) hC dL_law_983 rfl 0 rfl ?_
  refine u_iload_n (pc := 984) hC dL_law_984 rfl 3 rfl ?_
  refine u_iconst (pc := 985) hC ic_1 dL_law_985 ?_
  refine u_iadd (pc := 986) hC dL_law_986 ?_
  refine u_sld (pc := 987) hC hX (law_in hi hgo hL (k := 1) rfl (by decide)) dL_law_987 ?_
  refine u_aload_n (pc := 988) hC dL_law_988 rfl 0 rfl ?_
  refine u_iload_n (pc := 989) hC dL_law_989 rfl 3 rfl ?_
  refine u_iconst (pc := 990) hC ic_2 dL_law_990 ?_
  refine u_iadd (pc := 991) hC dL_law_991 ?_
  refine u_sld (pc := 992) hC hX (law_in hi hgo hL (k := 2) rfl (by decide)) dL_law_992 ?_
  refine u_aload_n (pc := 993) hC dL_law_993 rfl 0 rfl ?_
  refine u_iload_n (pc := 994) hC dL_law_994 rfl 3 rfl ?_
  refine u_iconst (pc := 995) hC ic_3 dL_law_995 ?_
  refine u_iadd (pc := 996) hC dL_law_996 ?_
  refine u_sld (pc := 997) hC hX (law_in hi hgo hL (k := 3) rfl (by decide)) dL_law_997 ?_
  refine k_RL_108 (pc := 998) hC (av := [.int (xs (i + (1 : Int32)).toNatClampNeg), .int (xs (i + (2 : Int32)).toNatClampNeg), .int (xs (i + (3 : Int32)).toNatClampNeg)]) (rest := []) (c_X11_rated (d := d - 1) (by omega) is0 hp) (by omega) (Nat.le_of_ble_eq_true rfl) is0 rfl rfl dL_law_998 ?_
  refine u_aload_n (pc := 1001) hC dL_law_1001 rfl 2 rfl ?_
  refine u_aload_n (pc := 1002) hC dL_law_1002 rfl 0 rfl ?_
  refine u_iload_n (pc := 1003) hC dL_law_1003 rfl 3 rfl ?_
  refine u_iconst (pc := 1004) hC ic_1 dL_law_1004 ?_
  refine u_iadd (pc := 1005) hC dL_law_1005 ?_
  refine u_sld (pc := 1006) hC hX (law_in hi hgo hL (k := 1) rfl (by decide)) dL_law_1006 ?_
  refine u_aload_n (pc := 1007) hC dL_law_1007 rfl 0 rfl ?_
  refine u_iload_n (pc := 1008) hC dL_law_1008 rfl 3 rfl ?_
  refine u_iconst (pc := 1009) hC ic_2 dL_law_1009 ?_
  refine u_iadd (pc := 1010) hC dL_law_1010 ?_
  refine u_sld (pc := 1011) hC hX (law_in hi hgo hL (k := 2) rfl (by decide)) dL_law_1011 ?_
  refine u_aload_n (pc := 1012) hC dL_law_1012 rfl 0 rfl ?_
  refine u_iload_n (pc := 1013) hC dL_law_1013 rfl 3 rfl ?_
  refine u_iconst (pc := 1014) hC ic_3 dL_law_1014 ?_
  refine u_iadd (pc := 1015) hC dL_law_1015 ?_
  refine u_sld (pc := 1016) hC hX (law_in hi hgo hL (k := 3) rfl (by decide)) dL_law_1016 ?_
  refine k_RL_111 (pc := 1017) hC (av := [.int (xs (i + (1 : Int32)).toNatClampNeg), .int (xs (i + (2 : Int32)).toNatClampNeg), .int (xs (i + (3 : Int32)).toNatClampNeg)]) (rest := [.int p.1]) (c_X12_rated (d := d - 1) (by omega) is105 hq) (by omega) (Nat.le_of_ble_eq_true rfl) is105 rfl rfl dL_law_1017 ?_
  refine u_icmp_eq (pc := 1020) hC (tgt := 1602) dL_law_1020 (by decide) (fun _ => ?_) (fun c9 => absurd hpq c9)
  exact hend q.2 hrel
set_option maxHeartbeats 4000000 in
set_option maxRecDepth 100000 in
theorem law_explained {Rel : Mem → Prop} (hs : SH_explained Rel) {C : Cx} {d : Nat} (hd : 900 ≤ d) (hC : CxOK C cL_law 4 RL d) {b L : Nat} {xs : Nat → Int32} (hX : LX C b L xs) (hL : L ≤ 3072) {i : Int32} {j : Nat} (hi : i = nI j) (hgo : j + 6 ≤ L) {μ : Mem} (hr : Rel μ) (hend : ∀ μ1, Rel μ1 → UW C 4 μ1 1602 [(0, .ref b), (1, .ref (gad (cG C) 0)), (2, .ref (gad (cG C) 105)), (3, .int i)] []) : UW C 4 μ 1025 [(0, .ref b), (1, .ref (gad (cG C) 0)), (2, .ref (gad (cG C) 105)), (3, .int i)] [] := by
  obtain ⟨p, q, hp, hq, hpq, hrel⟩ := hs μ hr (xs (i + (1 : Int32)).toNatClampNeg) (xs (i + (2 : Int32)).toNatClampNeg)
  refine u_aload_n (pc := 1025) hC dL_law_1025 rfl 1 rfl ?_
  refine u_aload_n (pc := 1026) hC dL_law_1026 rfl 0 rfl ?_
  refine u_iload_n (pc := 1027) hC dL_law_1027 rfl 3 rfl ?_
  refine u_iconst (pc := 1028) hC ic_1 dL_law_1028 ?_
  refine u_iadd (pc := 1029) hC dL_law_1029 ?_
  refine u_sld (pc := 1030) hC hX (law_in hi hgo hL (k := 1) rfl (by decide)) dL_law_1030 ?_
  refine u_aload_n (pc := 1031) hC dL_law_1031 rfl 0 rfl ?_
  refine u_iload_n (pc := 1032) hC dL_law_1032 rfl 3 rfl ?_
  refine u_iconst (pc := 1033) hC ic_2 dL_law_1033 ?_
  refine u_iadd (pc := 1034) hC dL_law_1034 ?_
  refine u_sld (pc := 1035) hC hX (law_in hi hgo hL (k := 2) rfl (by decide)) dL_law_1035 ?_
  refine k_RL_112 (pc := 1036) hC (av := [.int (xs (i + (1 : Int32)).toNatClampNeg), .int (xs (i + (2 : Int32)).toNatClampNeg)]) (rest := []) (c_X11_explained (d := d - 1) (by omega) is0 hp) (by omega) (Nat.le_of_ble_eq_true rfl) is0 rfl rfl dL_law_1036 ?_
  refine u_aload_n (pc := 1039) hC dL_law_1039 rfl 2 rfl ?_
  refine u_aload_n (pc := 1040) hC dL_law_1040 rfl 0 rfl ?_
  refine u_iload_n (pc := 1041) hC dL_law_1041 rfl 3 rfl ?_
  refine u_iconst (pc := 1042) hC ic_1 dL_law_1042 ?_
  refine u_iadd (pc := 1043) hC dL_law_1043 ?_
  refine u_sld (pc := 1044) hC hX (law_in hi hgo hL (k := 1) rfl (by decide)) dL_law_1044 ?_
  refine u_aload_n (pc := 1045) hC dL_law_1045 rfl 0 rfl ?_
  refine u_iload_n (pc := 1046) hC dL_law_1046 rfl 3 rfl ?_
  refine u_iconst (pc := 1047) hC ic_2 dL_law_1047 ?_
  refine u_iadd (pc := 1048) hC dL_law_1048 ?_
  refine u_sld (pc := 1049) hC hX (law_in hi hgo hL (k := 2) rfl (by decide)) dL_law_1049 ?_
  refine k_RL_115 (pc := 1050) hC (av := [.int (xs (i + (1 : Int32)).toNatClampNeg), .int (xs (i + (2 : Int32)).toNatClampNeg)]) (rest := [.int p.1]) (c_X12_explained (d := d - 1) (by omega) is105 hq) (by omega) (Nat.le_of_ble_eq_true rfl) is105 rfl rfl dL_law_1050 ?_
  refine u_icmp_eq (pc := 1053) hC (tgt := 1602) dL_law_1053 (by decide) (fun _ => ?_) (fun c9 => absurd hpq c9)
  exact hend q.2 hrel
set_option maxHeartbeats 4000000 in
set_option maxRecDepth 100000 in
theorem law_meeting {Rel : Mem → Prop} (hs : SH_meeting Rel) {C : Cx} {d : Nat} (hd : 900 ≤ d) (hC : CxOK C cL_law 4 RL d) {b L : Nat} {xs : Nat → Int32} (hX : LX C b L xs) (hL : L ≤ 3072) {i : Int32} {j : Nat} (hi : i = nI j) (hgo : j + 6 ≤ L) {μ : Mem} (hr : Rel μ) (hend : ∀ μ1, Rel μ1 → UW C 4 μ1 1602 [(0, .ref b), (1, .ref (gad (cG C) 0)), (2, .ref (gad (cG C) 105)), (3, .int i)] []) : UW C 4 μ 1058 [(0, .ref b), (1, .ref (gad (cG C) 0)), (2, .ref (gad (cG C) 105)), (3, .int i)] [] := by
  obtain ⟨p, q, hp, hq, hpq, hrel⟩ := hs μ hr (xs (i + (1 : Int32)).toNatClampNeg) (xs (i + (2 : Int32)).toNatClampNeg) (xs (i + (3 : Int32)).toNatClampNeg)
  refine u_aload_n (pc := 1058) hC dL_law_1058 rfl 1 rfl ?_
  refine u_aload_n (pc := 1059) hC dL_law_1059 rfl 0 rfl ?_
  refine u_iload_n (pc := 1060) hC dL_law_1060 rfl 3 rfl ?_
  refine u_iconst (pc := 1061) hC ic_1 dL_law_1061 ?_
  refine u_iadd (pc := 1062) hC dL_law_1062 ?_
  refine u_sld (pc := 1063) hC hX (law_in hi hgo hL (k := 1) rfl (by decide)) dL_law_1063 ?_
  refine u_aload_n (pc := 1064) hC dL_law_1064 rfl 0 rfl ?_
  refine u_iload_n (pc := 1065) hC dL_law_1065 rfl 3 rfl ?_
  refine u_iconst (pc := 1066) hC ic_2 dL_law_1066 ?_
  refine u_iadd (pc := 1067) hC dL_law_1067 ?_
  refine u_sld (pc := 1068) hC hX (law_in hi hgo hL (k := 2) rfl (by decide)) dL_law_1068 ?_
  refine u_aload_n (pc := 1069) hC dL_law_1069 rfl 0 rfl ?_
  refine u_iload_n (pc := 1070) hC dL_law_1070 rfl 3 rfl ?_
  refine u_iconst (pc := 1071) hC ic_3 dL_law_1071 ?_
  refine u_iadd (pc := 1072) hC dL_law_1072 ?_
  refine u_sld (pc := 1073) hC hX (law_in hi hgo hL (k := 3) rfl (by decide)) dL_law_1073 ?_
  refine k_RL_116 (pc := 1074) hC (av := [.int (xs (i + (1 : Int32)).toNatClampNeg), .int (xs (i + (2 : Int32)).toNatClampNeg), .int (xs (i + (3 : Int32)).toNatClampNeg)]) (rest := []) (c_X11_meeting (d := d - 1) (by omega) is0 hp) (by omega) (Nat.le_of_ble_eq_true rfl) is0 rfl rfl dL_law_1074 ?_
  refine u_aload_n (pc := 1077) hC dL_law_1077 rfl 2 rfl ?_
  refine u_aload_n (pc := 1078) hC dL_law_1078 rfl 0 rfl ?_
  refine u_iload_n (pc := 1079) hC dL_law_1079 rfl 3 rfl ?_
  refine u_iconst (pc := 1080) hC ic_1 dL_law_1080 ?_
  refine u_iadd (pc := 1081) hC dL_law_1081 ?_
  refine u_sld (pc := 1082) hC hX (law_in hi hgo hL (k := 1) rfl (by decide)) dL_law_1082 ?_
  refine u_aload_n (pc := 1083) hC dL_law_1083 rfl 0 rfl ?_
  refine u_iload_n (pc := 1084) hC dL_law_1084 rfl 3 rfl ?_
  refine u_iconst (pc := 1085) hC ic_2 dL_law_1085 ?_
  refine u_iadd (pc := 1086) hC dL_law_1086 ?_
  refine u_sld (pc := 1087) hC hX (law_in hi hgo hL (k := 2) rfl (by decide)) dL_law_1087 ?_
  refine u_aload_n (pc := 1088) hC dL_law_1088 rfl 0 rfl ?_
  refine u_iload_n (pc := 1089) hC dL_law_1089 rfl 3 rfl ?_
  refine u_iconst (pc := 1090) hC ic_3 dL_law_1090 ?_
  refine u_iadd (pc := 1091) hC dL_law_1091 ?_
  refine u_sld (pc := 1092) hC hX (law_in hi hgo hL (k := 3) rfl (by decide)) dL_law_1092 ?_
  refine k_RL_119 (pc := 1093) hC (av := [.int (xs (i + (1 : Int32)).toNatClampNeg), .int (xs (i + (2 : Int32)).toNatClampNeg), .int (xs (i + (3 : Int32)).toNatClampNeg)]) (rest := [.int p.1]) (c_X12_meeting (d := d - 1) (by omega) is105 hq) (by omega) (Nat.le_of_ble_eq_true rfl) is105 rfl rfl dL_law_1093 ?_
  refine u_icmp_eq (pc := 1096) hC (tgt := 1602) dL_law_1096 (by decide) (fun _ => ?_) (fun c9 => absurd hpq c9)
  exact hend q.2 hrel
set_option maxHeartbeats 4000000 in
set_option maxRecDepth 100000 in
theorem law_knows {Rel : Mem → Prop} (hs : SH_knows Rel) {C : Cx} {d : Nat} (hd : 900 ≤ d) (hC : CxOK C cL_law 4 RL d) {b L : Nat} {xs : Nat → Int32} (hX : LX C b L xs) (hL : L ≤ 3072) {i : Int32} {j : Nat} (hi : i = nI j) (hgo : j + 6 ≤ L) {μ : Mem} (hr : Rel μ) (hend : ∀ μ1, Rel μ1 → UW C 4 μ1 1602 [(0, .ref b), (1, .ref (gad (cG C) 0)), (2, .ref (gad (cG C) 105)), (3, .int i)] []) : UW C 4 μ 1101 [(0, .ref b), (1, .ref (gad (cG C) 0)), (2, .ref (gad (cG C) 105)), (3, .int i)] [] := by
  obtain ⟨p, q, hp, hq, hpq, hrel⟩ := hs μ hr (xs (i + (1 : Int32)).toNatClampNeg) (xs (i + (2 : Int32)).toNatClampNeg)
  refine u_aload_n (pc := 1101) hC dL_law_1101 rfl 1 rfl ?_
  refine u_aload_n (pc := 1102) hC dL_law_1102 rfl 0 rfl ?_
  refine u_iload_n (pc := 1103) hC dL_law_1103 rfl 3 rfl ?_
  refine u_iconst (pc := 1104) hC ic_1 dL_law_1104 ?_
  refine u_iadd (pc := 1105) hC dL_law_1105 ?_
  refine u_sld (pc := 1106) hC hX (law_in hi hgo hL (k := 1) rfl (by decide)) dL_law_1106 ?_
  refine u_aload_n (pc := 1107) hC dL_law_1107 rfl 0 rfl ?_
  refine u_iload_n (pc := 1108) hC dL_law_1108 rfl 3 rfl ?_
  refine u_iconst (pc := 1109) hC ic_2 dL_law_1109 ?_
  refine u_iadd (pc := 1110) hC dL_law_1110 ?_
  refine u_sld (pc := 1111) hC hX (law_in hi hgo hL (k := 2) rfl (by decide)) dL_law_1111 ?_
  refine k_RL_120 (pc := 1112) hC (av := [.int (xs (i + (1 : Int32)).toNatClampNeg), .int (xs (i + (2 : Int32)).toNatClampNeg)]) (rest := []) (c_X11_knows (d := d - 1) (by omega) is0 hp) (by omega) (Nat.le_of_ble_eq_true rfl) is0 rfl rfl dL_law_1112 ?_
  refine u_aload_n (pc := 1115) hC dL_law_1115 rfl 2 rfl ?_
  refine u_aload_n (pc := 1116) hC dL_law_1116 rfl 0 rfl ?_
  refine u_iload_n (pc := 1117) hC dL_law_1117 rfl 3 rfl ?_
  refine u_iconst (pc := 1118) hC ic_1 dL_law_1118 ?_
  refine u_iadd (pc := 1119) hC dL_law_1119 ?_
  refine u_sld (pc := 1120) hC hX (law_in hi hgo hL (k := 1) rfl (by decide)) dL_law_1120 ?_
  refine u_aload_n (pc := 1121) hC dL_law_1121 rfl 0 rfl ?_
  refine u_iload_n (pc := 1122) hC dL_law_1122 rfl 3 rfl ?_
  refine u_iconst (pc := 1123) hC ic_2 dL_law_1123 ?_
  refine u_iadd (pc := 1124) hC dL_law_1124 ?_
  refine u_sld (pc := 1125) hC hX (law_in hi hgo hL (k := 2) rfl (by decide)) dL_law_1125 ?_
  refine k_RL_123 (pc := 1126) hC (av := [.int (xs (i + (1 : Int32)).toNatClampNeg), .int (xs (i + (2 : Int32)).toNatClampNeg)]) (rest := [.int p.1]) (c_X12_knows (d := d - 1) (by omega) is105 hq) (by omega) (Nat.le_of_ble_eq_true rfl) is105 rfl rfl dL_law_1126 ?_
  refine u_icmp_eq (pc := 1129) hC (tgt := 1602) dL_law_1129 (by decide) (fun _ => ?_) (fun c9 => absurd hpq c9)
  exact hend q.2 hrel
set_option maxHeartbeats 4000000 in
set_option maxRecDepth 100000 in
theorem law_common {Rel : Mem → Prop} (hs : SH_common Rel) {C : Cx} {d : Nat} (hd : 900 ≤ d) (hC : CxOK C cL_law 4 RL d) {b L : Nat} {xs : Nat → Int32} (hX : LX C b L xs) (hL : L ≤ 3072) {i : Int32} {j : Nat} (hi : i = nI j) (hgo : j + 6 ≤ L) {μ : Mem} (hr : Rel μ) (hend : ∀ μ1, Rel μ1 → UW C 4 μ1 1602 [(0, .ref b), (1, .ref (gad (cG C) 0)), (2, .ref (gad (cG C) 105)), (3, .int i)] []) : UW C 4 μ 1134 [(0, .ref b), (1, .ref (gad (cG C) 0)), (2, .ref (gad (cG C) 105)), (3, .int i)] [] := by
  obtain ⟨p, q, hp, hq, hpq, hrel⟩ := hs μ hr (xs (i + (1 : Int32)).toNatClampNeg) (xs (i + (2 : Int32)).toNatClampNeg)
  refine u_aload_n (pc := 1134) hC dL_law_1134 rfl 1 rfl ?_
  refine u_aload_n (pc := 1135) hC dL_law_1135 rfl 0 rfl ?_
  refine u_iload_n (pc := 1136) hC dL_law_1136 rfl 3 rfl ?_
  refine u_iconst (pc := 1137) hC ic_1 dL_law_1137 ?_
  refine u_iadd (pc := 1138) hC dL_law_1138 ?_
  refine u_sld (pc := 1139) hC hX (law_in hi hgo hL (k := 1) rfl (by decide)) dL_law_1139 ?_
  refine u_aload_n (pc := 1140) hC dL_law_1140 rfl 0 rfl ?_
  refine u_iload_n (pc := 1141) hC dL_law_1141 rfl 3 rfl ?_
  refine u_iconst (pc := 1142) hC ic_2 dL_law_1142 ?_
  refine u_iadd (pc := 1143) hC dL_law_1143 ?_
  refine u_sld (pc := 1144) hC hX (law_in hi hgo hL (k := 2) rfl (by decide)) dL_law_1144 ?_
  refine k_RL_124 (pc := 1145) hC (av := [.int (xs (i + (1 : Int32)).toNatClampNeg), .int (xs (i + (2 : Int32)).toNatClampNeg)]) (rest := []) (c_X11_common (d := d - 1) (by omega) is0 hp) (by omega) (Nat.le_of_ble_eq_true rfl) is0 rfl rfl dL_law_1145 ?_
  refine u_aload_n (pc := 1148) hC dL_law_1148 rfl 2 rfl ?_
  refine u_aload_n (pc := 1149) hC dL_law_1149 rfl 0 rfl ?_
  refine u_iload_n (pc := 1150) hC dL_law_1150 rfl 3 rfl ?_
  refine u_iconst (pc := 1151) hC ic_1 dL_law_1151 ?_
  refine u_iadd (pc := 1152) hC dL_law_1152 ?_
  refine u_sld (pc := 1153) hC hX (law_in hi hgo hL (k := 1) rfl (by decide)) dL_law_1153 ?_
  refine u_aload_n (pc := 1154) hC dL_law_1154 rfl 0 rfl ?_
  refine u_iload_n (pc := 1155) hC dL_law_1155 rfl 3 rfl ?_
  refine u_iconst (pc := 1156) hC ic_2 dL_law_1156 ?_
  refine u_iadd (pc := 1157) hC dL_law_1157 ?_
  refine u_sld (pc := 1158) hC hX (law_in hi hgo hL (k := 2) rfl (by decide)) dL_law_1158 ?_
  refine k_RL_127 (pc := 1159) hC (av := [.int (xs (i + (1 : Int32)).toNatClampNeg), .int (xs (i + (2 : Int32)).toNatClampNeg)]) (rest := [.int p.1]) (c_X12_common (d := d - 1) (by omega) is105 hq) (by omega) (Nat.le_of_ble_eq_true rfl) is105 rfl rfl dL_law_1159 ?_
  refine u_icmp_eq (pc := 1162) hC (tgt := 1602) dL_law_1162 (by decide) (fun _ => ?_) (fun c9 => absurd hpq c9)
  exact hend q.2 hrel
set_option maxHeartbeats 4000000 in
set_option maxRecDepth 100000 in
theorem law_since {Rel : Mem → Prop} (hs : SH_since Rel) {C : Cx} {d : Nat} (hd : 900 ≤ d) (hC : CxOK C cL_law 4 RL d) {b L : Nat} {xs : Nat → Int32} (hX : LX C b L xs) (hL : L ≤ 3072) {i : Int32} {j : Nat} (hi : i = nI j) (hgo : j + 6 ≤ L) {μ : Mem} (hr : Rel μ) (hend : ∀ μ1, Rel μ1 → UW C 4 μ1 1602 [(0, .ref b), (1, .ref (gad (cG C) 0)), (2, .ref (gad (cG C) 105)), (3, .int i)] []) : UW C 4 μ 1167 [(0, .ref b), (1, .ref (gad (cG C) 0)), (2, .ref (gad (cG C) 105)), (3, .int i)] [] := by
  obtain ⟨p, q, hp, hq, hpq, hrel⟩ := hs μ hr (xs (i + (1 : Int32)).toNatClampNeg) (xs (i + (2 : Int32)).toNatClampNeg)
  refine u_aload_n (pc := 1167) hC dL_law_1167 rfl 1 rfl ?_
  refine u_aload_n (pc := 1168) hC dL_law_1168 rfl 0 rfl ?_
  refine u_iload_n (pc := 1169) hC dL_law_1169 rfl 3 rfl ?_
  refine u_iconst (pc := 1170) hC ic_1 dL_law_1170 ?_
  refine u_iadd (pc := 1171) hC dL_law_1171 ?_
  refine u_sld (pc := 1172) hC hX (law_in hi hgo hL (k := 1) rfl (by decide)) dL_law_1172 ?_
  refine u_aload_n (pc := 1173) hC dL_law_1173 rfl 0 rfl ?_
  refine u_iload_n (pc := 1174) hC dL_law_1174 rfl 3 rfl ?_
  refine u_iconst (pc := 1175) hC ic_2 dL_law_1175 ?_
  refine u_iadd (pc := 1176) hC dL_law_1176 ?_
  refine u_sld (pc := 1177) hC hX (law_in hi hgo hL (k := 2) rfl (by decide)) dL_law_1177 ?_
  refine k_RL_128 (pc := 1178) hC (av := [.int (xs (i + (1 : Int32)).toNatClampNeg), .int (xs (i + (2 : Int32)).toNatClampNeg)]) (rest := []) (c_X11_since (d := d - 1) (by omega) is0 hp) (by omega) (Nat.le_of_ble_eq_true rfl) is0 rfl rfl dL_law_1178 ?_
  refine u_aload_n (pc := 1181) hC dL_law_1181 rfl 2 rfl ?_
  refine u_aload_n (pc := 1182) hC dL_law_1182 rfl 0 rfl ?_
  refine u_iload_n (pc := 1183) hC dL_law_1183 rfl 3 rfl ?_
  refine u_iconst (pc := 1184) hC ic_1 dL_law_1184 ?_
  refine u_iadd (pc := 1185) hC dL_law_1185 ?_
  refine u_sld (pc := 1186) hC hX (law_in hi hgo hL (k := 1) rfl (by decide)) dL_law_1186 ?_
  refine u_aload_n (pc := 1187) hC dL_law_1187 rfl 0 rfl ?_
  refine u_iload_n (pc := 1188) hC dL_law_1188 rfl 3 rfl ?_
  refine u_iconst (pc := 1189) hC ic_2 dL_law_1189 ?_
  refine u_iadd (pc := 1190) hC dL_law_1190 ?_
  refine u_sld (pc := 1191) hC hX (law_in hi hgo hL (k := 2) rfl (by decide)) dL_law_1191 ?_
  refine k_RL_131 (pc := 1192) hC (av := [.int (xs (i + (1 : Int32)).toNatClampNeg), .int (xs (i + (2 : Int32)).toNatClampNeg)]) (rest := [.int p.1]) (c_X12_since (d := d - 1) (by omega) is105 hq) (by omega) (Nat.le_of_ble_eq_true rfl) is105 rfl rfl dL_law_1192 ?_
  refine u_icmp_eq (pc := 1195) hC (tgt := 1602) dL_law_1195 (by decide) (fun _ => ?_) (fun c9 => absurd hpq c9)
  exact hend q.2 hrel
set_option maxHeartbeats 4000000 in
set_option maxRecDepth 100000 in
theorem law_seed {Rel : Mem → Prop} (hs : SH_seed Rel) {C : Cx} {d : Nat} (hd : 900 ≤ d) (hC : CxOK C cL_law 4 RL d) {b L : Nat} {xs : Nat → Int32} (hX : LX C b L xs) (hL : L ≤ 3072) {i : Int32} {j : Nat} (hi : i = nI j) (hgo : j + 6 ≤ L) {μ : Mem} (hr : Rel μ) (hend : ∀ μ1, Rel μ1 → UW C 4 μ1 1602 [(0, .ref b), (1, .ref (gad (cG C) 0)), (2, .ref (gad (cG C) 105)), (3, .int i)] []) : UW C 4 μ 1200 [(0, .ref b), (1, .ref (gad (cG C) 0)), (2, .ref (gad (cG C) 105)), (3, .int i)] [] := by
  obtain ⟨p, q, hp, hq, hpq, hrel⟩ := hs μ hr (xs (i + (1 : Int32)).toNatClampNeg)
  refine u_aload_n (pc := 1200) hC dL_law_1200 rfl 1 rfl ?_
  refine u_aload_n (pc := 1201) hC dL_law_1201 rfl 0 rfl ?_
  refine u_iload_n (pc := 1202) hC dL_law_1202 rfl 3 rfl ?_
  refine u_iconst (pc := 1203) hC ic_1 dL_law_1203 ?_
  refine u_iadd (pc := 1204) hC dL_law_1204 ?_
  refine u_sld (pc := 1205) hC hX (law_in hi hgo hL (k := 1) rfl (by decide)) dL_law_1205 ?_
  refine k_RL_132 (pc := 1206) hC (av := [.int (xs (i + (1 : Int32)).toNatClampNeg)]) (rest := []) (c_X11_seed (d := d - 1) (by omega) is0 hp) (by omega) (Nat.le_of_ble_eq_true rfl) is0 rfl rfl dL_law_1206 ?_
  refine u_aload_n (pc := 1209) hC dL_law_1209 rfl 2 rfl ?_
  refine u_aload_n (pc := 1210) hC dL_law_1210 rfl 0 rfl ?_
  refine u_iload_n (pc := 1211) hC dL_law_1211 rfl 3 rfl ?_
  refine u_iconst (pc := 1212) hC ic_1 dL_law_1212 ?_
  refine u_iadd (pc := 1213) hC dL_law_1213 ?_
  refine u_sld (pc := 1214) hC hX (law_in hi hgo hL (k := 1) rfl (by decide)) dL_law_1214 ?_
  refine k_RL_135 (pc := 1215) hC (av := [.int (xs (i + (1 : Int32)).toNatClampNeg)]) (rest := [.int p.1]) (c_X12_seed (d := d - 1) (by omega) is105 hq) (by omega) (Nat.le_of_ble_eq_true rfl) is105 rfl rfl dL_law_1215 ?_
  refine u_icmp_eq (pc := 1218) hC (tgt := 1602) dL_law_1218 (by decide) (fun _ => ?_) (fun c9 => absurd hpq c9)
  exact hend q.2 hrel
set_option maxHeartbeats 4000000 in
set_option maxRecDepth 100000 in
theorem law_voice {Rel : Mem → Prop} (hs : SH_voice Rel) {C : Cx} {d : Nat} (hd : 900 ≤ d) (hC : CxOK C cL_law 4 RL d) {b L : Nat} {xs : Nat → Int32} (hX : LX C b L xs) (hL : L ≤ 3072) {i : Int32} {j : Nat} (hi : i = nI j) (hgo : j + 6 ≤ L) {μ : Mem} (hr : Rel μ) (hend : ∀ μ1, Rel μ1 → UW C 4 μ1 1602 [(0, .ref b), (1, .ref (gad (cG C) 0)), (2, .ref (gad (cG C) 105)), (3, .int i)] []) : UW C 4 μ 1223 [(0, .ref b), (1, .ref (gad (cG C) 0)), (2, .ref (gad (cG C) 105)), (3, .int i)] [] := by
  obtain ⟨p, q, hp, hq, hpq, hrel⟩ := hs μ hr (xs (i + (1 : Int32)).toNatClampNeg) (xs (i + (2 : Int32)).toNatClampNeg) (xs (i + (3 : Int32)).toNatClampNeg)
  refine u_aload_n (pc := 1223) hC dL_law_1223 rfl 1 rfl ?_
  refine u_aload_n (pc := 1224) hC dL_law_1224 rfl 0 rfl ?_
  refine u_iload_n (pc := 1225) hC dL_law_1225 rfl 3 rfl ?_
  refine u_iconst (pc := 1226) hC ic_1 dL_law_1226 ?_
  refine u_iadd (pc := 1227) hC dL_law_1227 ?_
  refine u_sld (pc := 1228) hC hX (law_in hi hgo hL (k := 1) rfl (by decide)) dL_law_1228 ?_
  refine u_aload_n (pc := 1229) hC dL_law_1229 rfl 0 rfl ?_
  refine u_iload_n (pc := 1230) hC dL_law_1230 rfl 3 rfl ?_
  refine u_iconst (pc := 1231) hC ic_2 dL_law_1231 ?_
  refine u_iadd (pc := 1232) hC dL_law_1232 ?_
  refine u_sld (pc := 1233) hC hX (law_in hi hgo hL (k := 2) rfl (by decide)) dL_law_1233 ?_
  refine u_aload_n (pc := 1234) hC dL_law_1234 rfl 0 rfl ?_
  refine u_iload_n (pc := 1235) hC dL_law_1235 rfl 3 rfl ?_
  refine u_iconst (pc := 1236) hC ic_3 dL_law_1236 ?_
  refine u_iadd (pc := 1237) hC dL_law_1237 ?_
  refine u_sld (pc := 1238) hC hX (law_in hi hgo hL (k := 3) rfl (by decide)) dL_law_1238 ?_
  refine k_RL_136 (pc := 1239) hC (av := [.int (xs (i + (1 : Int32)).toNatClampNeg), .int (xs (i + (2 : Int32)).toNatClampNeg), .int (xs (i + (3 : Int32)).toNatClampNeg)]) (rest := []) (c_X11_voice (d := d - 1) (by omega) is0 hp) (by omega) (Nat.le_of_ble_eq_true rfl) is0 rfl rfl dL_law_1239 ?_
  refine u_aload_n (pc := 1242) hC dL_law_1242 rfl 2 rfl ?_
  refine u_aload_n (pc := 1243) hC dL_law_1243 rfl 0 rfl ?_
  refine u_iload_n (pc := 1244) hC dL_law_1244 rfl 3 rfl ?_
  refine u_iconst (pc := 1245) hC ic_1 dL_law_1245 ?_
  refine u_iadd (pc := 1246) hC dL_law_1246 ?_
  refine u_sld (pc := 1247) hC hX (law_in hi hgo hL (k := 1) rfl (by decide)) dL_law_1247 ?_
  refine u_aload_n (pc := 1248) hC dL_law_1248 rfl 0 rfl ?_
  refine u_iload_n (pc := 1249) hC dL_law_1249 rfl 3 rfl ?_
  refine u_iconst (pc := 1250) hC ic_2 dL_law_1250 ?_
  refine u_iadd (pc := 1251) hC dL_law_1251 ?_
  refine u_sld (pc := 1252) hC hX (law_in hi hgo hL (k := 2) rfl (by decide)) dL_law_1252 ?_
  refine u_aload_n (pc := 1253) hC dL_law_1253 rfl 0 rfl ?_
  refine u_iload_n (pc := 1254) hC dL_law_1254 rfl 3 rfl ?_
  refine u_iconst (pc := 1255) hC ic_3 dL_law_1255 ?_
  refine u_iadd (pc := 1256) hC dL_law_1256 ?_
  refine u_sld (pc := 1257) hC hX (law_in hi hgo hL (k := 3) rfl (by decide)) dL_law_1257 ?_
  refine k_RL_139 (pc := 1258) hC (av := [.int (xs (i + (1 : Int32)).toNatClampNeg), .int (xs (i + (2 : Int32)).toNatClampNeg), .int (xs (i + (3 : Int32)).toNatClampNeg)]) (rest := [.int p.1]) (c_X12_voice (d := d - 1) (by omega) is105 hq) (by omega) (Nat.le_of_ble_eq_true rfl) is105 rfl rfl dL_law_1258 ?_
  refine u_icmp_eq (pc := 1261) hC (tgt := 1602) dL_law_1261 (by decide) (fun _ => ?_) (fun c9 => absurd hpq c9)
  exact hend q.2 hrel
set_option maxHeartbeats 4000000 in
set_option maxRecDepth 100000 in
theorem law_trace {Rel : Mem → Prop} (hs : SH_trace Rel) {C : Cx} {d : Nat} (hd : 900 ≤ d) (hC : CxOK C cL_law 4 RL d) {b L : Nat} {xs : Nat → Int32} (hX : LX C b L xs) (hL : L ≤ 3072) {i : Int32} {j : Nat} (hi : i = nI j) (hgo : j + 6 ≤ L) {μ : Mem} (hr : Rel μ) (hend : ∀ μ1, Rel μ1 → UW C 4 μ1 1602 [(0, .ref b), (1, .ref (gad (cG C) 0)), (2, .ref (gad (cG C) 105)), (3, .int i)] []) : UW C 4 μ 1266 [(0, .ref b), (1, .ref (gad (cG C) 0)), (2, .ref (gad (cG C) 105)), (3, .int i)] [] := by
  obtain ⟨p, q, hp, hq, hpq, hrel⟩ := hs μ hr (xs (i + (1 : Int32)).toNatClampNeg)
  refine u_aload_n (pc := 1266) hC dL_law_1266 rfl 1 rfl ?_
  refine u_aload_n (pc := 1267) hC dL_law_1267 rfl 0 rfl ?_
  refine u_iload_n (pc := 1268) hC dL_law_1268 rfl 3 rfl ?_
  refine u_iconst (pc := 1269) hC ic_1 dL_law_1269 ?_
  refine u_iadd (pc := 1270) hC dL_law_1270 ?_
  refine u_sld (pc := 1271) hC hX (law_in hi hgo hL (k := 1) rfl (by decide)) dL_law_1271 ?_
  refine k_RL_140 (pc := 1272) hC (av := [.int (xs (i + (1 : Int32)).toNatClampNeg)]) (rest := []) (c_X11_trace (d := d - 1) (by omega) is0 hp) (by omega) (Nat.le_of_ble_eq_true rfl) is0 rfl rfl dL_law_1272 ?_
  refine u_aload_n (pc := 1275) hC dL_law_1275 rfl 2 rfl ?_
  refine u_aload_n (pc := 1276) hC dL_law_1276 rfl 0 rfl ?_
  refine u_iload_n (pc := 1277) hC dL_law_1277 rfl 3 rfl ?_
  refine u_iconst (pc := 1278) hC ic_1 dL_law_1278 ?_
  refine u_iadd (pc := 1279) hC dL_law_1279 ?_
  refine u_sld (pc := 1280) hC hX (law_in hi hgo hL (k := 1) rfl (by decide)) dL_law_1280 ?_
  refine k_RL_143 (pc := 1281) hC (av := [.int (xs (i + (1 : Int32)).toNatClampNeg)]) (rest := [.int p.1]) (c_X12_trace (d := d - 1) (by omega) is105 hq) (by omega) (Nat.le_of_ble_eq_true rfl) is105 rfl rfl dL_law_1281 ?_
  refine u_icmp_eq (pc := 1284) hC (tgt := 1602) dL_law_1284 (by decide) (fun _ => ?_) (fun c9 => absurd hpq c9)
  exact hend q.2 hrel
set_option maxHeartbeats 4000000 in
set_option maxRecDepth 100000 in
theorem law_sheet {Rel : Mem → Prop} (hs : SH_sheet Rel) {C : Cx} {d : Nat} (hd : 900 ≤ d) (hC : CxOK C cL_law 4 RL d) {b L : Nat} {xs : Nat → Int32} (hX : LX C b L xs) (hL : L ≤ 3072) {i : Int32} {j : Nat} (hi : i = nI j) (hgo : j + 6 ≤ L) {μ : Mem} (hr : Rel μ) (hend : ∀ μ1, Rel μ1 → UW C 4 μ1 1602 [(0, .ref b), (1, .ref (gad (cG C) 0)), (2, .ref (gad (cG C) 105)), (3, .int i)] []) : UW C 4 μ 1289 [(0, .ref b), (1, .ref (gad (cG C) 0)), (2, .ref (gad (cG C) 105)), (3, .int i)] [] := by
  obtain ⟨p, q, hp, hq, hpq, hrel⟩ := hs μ hr (xs (i + (1 : Int32)).toNatClampNeg) (xs (i + (2 : Int32)).toNatClampNeg) (xs (i + (3 : Int32)).toNatClampNeg)
  refine u_aload_n (pc := 1289) hC dL_law_1289 rfl 1 rfl ?_
  refine u_aload_n (pc := 1290) hC dL_law_1290 rfl 0 rfl ?_
  refine u_iload_n (pc := 1291) hC dL_law_1291 rfl 3 rfl ?_
  refine u_iconst (pc := 1292) hC ic_1 dL_law_1292 ?_
  refine u_iadd (pc := 1293) hC dL_law_1293 ?_
  refine u_sld (pc := 1294) hC hX (law_in hi hgo hL (k := 1) rfl (by decide)) dL_law_1294 ?_
  refine u_aload_n (pc := 1295) hC dL_law_1295 rfl 0 rfl ?_
  refine u_iload_n (pc := 1296) hC dL_law_1296 rfl 3 rfl ?_
  refine u_iconst (pc := 1297) hC ic_2 dL_law_1297 ?_
  refine u_iadd (pc := 1298) hC dL_law_1298 ?_
  refine u_sld (pc := 1299) hC hX (law_in hi hgo hL (k := 2) rfl (by decide)) dL_law_1299 ?_
  refine u_aload_n (pc := 1300) hC dL_law_1300 rfl 0 rfl ?_
  refine u_iload_n (pc := 1301) hC dL_law_1301 rfl 3 rfl ?_
  refine u_iconst (pc := 1302) hC ic_3 dL_law_1302 ?_
  refine u_iadd (pc := 1303) hC dL_law_1303 ?_
  refine u_sld (pc := 1304) hC hX (law_in hi hgo hL (k := 3) rfl (by decide)) dL_law_1304 ?_
  refine k_RL_144 (pc := 1305) hC (av := [.int (xs (i + (1 : Int32)).toNatClampNeg), .int (xs (i + (2 : Int32)).toNatClampNeg), .int (xs (i + (3 : Int32)).toNatClampNeg)]) (rest := []) (c_X11_sheet (d := d - 1) (by omega) is0 hp) (by omega) (Nat.le_of_ble_eq_true rfl) is0 rfl rfl dL_law_1305 ?_
  refine u_aload_n (pc := 1308) hC dL_law_1308 rfl 2 rfl ?_
  refine u_aload_n (pc := 1309) hC dL_law_1309 rfl 0 rfl ?_
  refine u_iload_n (pc := 1310) hC dL_law_1310 rfl 3 rfl ?_
  refine u_iconst (pc := 1311) hC ic_1 dL_law_1311 ?_
  refine u_iadd (pc := 1312) hC dL_law_1312 ?_
  refine u_sld (pc := 1313) hC hX (law_in hi hgo hL (k := 1) rfl (by decide)) dL_law_1313 ?_
  refine u_aload_n (pc := 1314) hC dL_law_1314 rfl 0 rfl ?_
  refine u_iload_n (pc := 1315) hC dL_law_1315 rfl 3 rfl ?_
  refine u_iconst (pc := 1316) hC ic_2 dL_law_1316 ?_
  refine u_iadd (pc := 1317) hC dL_law_1317 ?_
  refine u_sld (pc := 1318) hC hX (law_in hi hgo hL (k := 2) rfl (by decide)) dL_law_1318 ?_
  refine u_aload_n (pc := 1319) hC dL_law_1319 rfl 0 rfl ?_
  refine u_iload_n (pc := 1320) hC dL_law_1320 rfl 3 rfl ?_
  refine u_iconst (pc := 1321) hC ic_3 dL_law_1321 ?_
  refine u_iadd (pc := 1322) hC dL_law_1322 ?_
  refine u_sld (pc := 1323) hC hX (law_in hi hgo hL (k := 3) rfl (by decide)) dL_law_1323 ?_
  refine k_RL_147 (pc := 1324) hC (av := [.int (xs (i + (1 : Int32)).toNatClampNeg), .int (xs (i + (2 : Int32)).toNatClampNeg), .int (xs (i + (3 : Int32)).toNatClampNeg)]) (rest := [.int p.1]) (c_X12_sheet (d := d - 1) (by omega) is105 hq) (by omega) (Nat.le_of_ble_eq_true rfl) is105 rfl rfl dL_law_1324 ?_
  refine u_icmp_eq (pc := 1327) hC (tgt := 1602) dL_law_1327 (by decide) (fun _ => ?_) (fun c9 => absurd hpq c9)
  exact hend q.2 hrel
set_option maxHeartbeats 4000000 in
set_option maxRecDepth 100000 in
theorem law_put {Rel : Mem → Prop} (hs : SH_put Rel) {C : Cx} {d : Nat} (hd : 900 ≤ d) (hC : CxOK C cL_law 4 RL d) {b L : Nat} {xs : Nat → Int32} (hX : LX C b L xs) (hL : L ≤ 3072) {i : Int32} {j : Nat} (hi : i = nI j) (hgo : j + 6 ≤ L) {μ : Mem} (hr : Rel μ) (hend : ∀ μ1, Rel μ1 → UW C 4 μ1 1602 [(0, .ref b), (1, .ref (gad (cG C) 0)), (2, .ref (gad (cG C) 105)), (3, .int i)] []) : UW C 4 μ 1332 [(0, .ref b), (1, .ref (gad (cG C) 0)), (2, .ref (gad (cG C) 105)), (3, .int i)] [] := by
  obtain ⟨p, q, hp, hq, hpq, hrel⟩ := hs μ hr (xs (i + (1 : Int32)).toNatClampNeg) (xs (i + (2 : Int32)).toNatClampNeg) (xs (i + (3 : Int32)).toNatClampNeg)
  refine u_aload_n (pc := 1332) hC dL_law_1332 rfl 1 rfl ?_
  refine u_aload_n (pc := 1333) hC dL_law_1333 rfl 0 rfl ?_
  refine u_iload_n (pc := 1334) hC dL_law_1334 rfl 3 rfl ?_
  refine u_iconst (pc := 1335) hC ic_1 dL_law_1335 ?_
  refine u_iadd (pc := 1336) hC dL_law_1336 ?_
  refine u_sld (pc := 1337) hC hX (law_in hi hgo hL (k := 1) rfl (by decide)) dL_law_1337 ?_
  refine u_aload_n (pc := 1338) hC dL_law_1338 rfl 0 rfl ?_
  refine u_iload_n (pc := 1339) hC dL_law_1339 rfl 3 rfl ?_
  refine u_iconst (pc := 1340) hC ic_2 dL_law_1340 ?_
  refine u_iadd (pc := 1341) hC dL_law_1341 ?_
  refine u_sld (pc := 1342) hC hX (law_in hi hgo hL (k := 2) rfl (by decide)) dL_law_1342 ?_
  refine u_aload_n (pc := 1343) hC dL_law_1343 rfl 0 rfl ?_
  refine u_iload_n (pc := 1344) hC dL_law_1344 rfl 3 rfl ?_
  refine u_iconst (pc := 1345) hC ic_3 dL_law_1345 ?_
  refine u_iadd (pc := 1346) hC dL_law_1346 ?_
  refine u_sld (pc := 1347) hC hX (law_in hi hgo hL (k := 3) rfl (by decide)) dL_law_1347 ?_
  refine k_RL_148 (pc := 1348) hC (av := [.int (xs (i + (1 : Int32)).toNatClampNeg), .int (xs (i + (2 : Int32)).toNatClampNeg), .int (xs (i + (3 : Int32)).toNatClampNeg)]) (rest := []) (c_X11_put (d := d - 1) (by omega) is0 hp) (by omega) (Nat.le_of_ble_eq_true rfl) is0 rfl rfl dL_law_1348 ?_
  refine u_aload_n (pc := 1351) hC dL_law_1351 rfl 2 rfl ?_
  refine u_aload_n (pc := 1352) hC dL_law_1352 rfl 0 rfl ?_
  refine u_iload_n (pc := 1353) hC dL_law_1353 rfl 3 rfl ?_
  refine u_iconst (pc := 1354) hC ic_1 dL_law_1354 ?_
  refine u_iadd (pc := 1355) hC dL_law_1355 ?_
  refine u_sld (pc := 1356) hC hX (law_in hi hgo hL (k := 1) rfl (by decide)) dL_law_1356 ?_
  refine u_aload_n (pc := 1357) hC dL_law_1357 rfl 0 rfl ?_
  refine u_iload_n (pc := 1358) hC dL_law_1358 rfl 3 rfl ?_
  refine u_iconst (pc := 1359) hC ic_2 dL_law_1359 ?_
  refine u_iadd (pc := 1360) hC dL_law_1360 ?_
  refine u_sld (pc := 1361) hC hX (law_in hi hgo hL (k := 2) rfl (by decide)) dL_law_1361 ?_
  refine u_aload_n (pc := 1362) hC dL_law_1362 rfl 0 rfl ?_
  refine u_iload_n (pc := 1363) hC dL_law_1363 rfl 3 rfl ?_
  refine u_iconst (pc := 1364) hC ic_3 dL_law_1364 ?_
  refine u_iadd (pc := 1365) hC dL_law_1365 ?_
  refine u_sld (pc := 1366) hC hX (law_in hi hgo hL (k := 3) rfl (by decide)) dL_law_1366 ?_
  refine k_RL_151 (pc := 1367) hC (av := [.int (xs (i + (1 : Int32)).toNatClampNeg), .int (xs (i + (2 : Int32)).toNatClampNeg), .int (xs (i + (3 : Int32)).toNatClampNeg)]) (rest := [.int p.1]) (c_X12_put (d := d - 1) (by omega) is105 hq) (by omega) (Nat.le_of_ble_eq_true rfl) is105 rfl rfl dL_law_1367 ?_
  refine u_icmp_eq (pc := 1370) hC (tgt := 1602) dL_law_1370 (by decide) (fun _ => ?_) (fun c9 => absurd hpq c9)
  exact hend q.2 hrel
set_option maxHeartbeats 4000000 in
set_option maxRecDepth 100000 in
theorem law_move {Rel : Mem → Prop} (hs : SH_move Rel) {C : Cx} {d : Nat} (hd : 900 ≤ d) (hC : CxOK C cL_law 4 RL d) {b L : Nat} {xs : Nat → Int32} (hX : LX C b L xs) (hL : L ≤ 3072) {i : Int32} {j : Nat} (hi : i = nI j) (hgo : j + 6 ≤ L) {μ : Mem} (hr : Rel μ) (hend : ∀ μ1, Rel μ1 → UW C 4 μ1 1602 [(0, .ref b), (1, .ref (gad (cG C) 0)), (2, .ref (gad (cG C) 105)), (3, .int i)] []) : UW C 4 μ 1375 [(0, .ref b), (1, .ref (gad (cG C) 0)), (2, .ref (gad (cG C) 105)), (3, .int i)] [] := by
  obtain ⟨p, q, hp, hq, hpq, hrel⟩ := hs μ hr (xs (i + (1 : Int32)).toNatClampNeg) (xs (i + (2 : Int32)).toNatClampNeg) (xs (i + (3 : Int32)).toNatClampNeg) (xs (i + (4 : Int32)).toNatClampNeg) (xs (i + (5 : Int32)).toNatClampNeg)
  refine u_aload_n (pc := 1375) hC dL_law_1375 rfl 1 rfl ?_
  refine u_aload_n (pc := 1376) hC dL_law_1376 rfl 0 rfl ?_
  refine u_iload_n (pc := 1377) hC dL_law_1377 rfl 3 rfl ?_
  refine u_iconst (pc := 1378) hC ic_1 dL_law_1378 ?_
  refine u_iadd (pc := 1379) hC dL_law_1379 ?_
  refine u_sld (pc := 1380) hC hX (law_in hi hgo hL (k := 1) rfl (by decide)) dL_law_1380 ?_
  refine u_aload_n (pc := 1381) hC dL_law_1381 rfl 0 rfl ?_
  refine u_iload_n (pc := 1382) hC dL_law_1382 rfl 3 rfl ?_
  refine u_iconst (pc := 1383) hC ic_2 dL_law_1383 ?_
  refine u_iadd (pc := 1384) hC dL_law_1384 ?_
  refine u_sld (pc := 1385) hC hX (law_in hi hgo hL (k := 2) rfl (by decide)) dL_law_1385 ?_
  refine u_aload_n (pc := 1386) hC dL_law_1386 rfl 0 rfl ?_
  refine u_iload_n (pc := 1387) hC dL_law_1387 rfl 3 rfl ?_
  refine u_iconst (pc := 1388) hC ic_3 dL_law_1388 ?_
  refine u_iadd (pc := 1389) hC dL_law_1389 ?_
  refine u_sld (pc := 1390) hC hX (law_in hi hgo hL (k := 3) rfl (by decide)) dL_law_1390 ?_
  refine u_aload_n (pc := 1391) hC dL_law_1391 rfl 0 rfl ?_
  refine u_iload_n (pc := 1392) hC dL_law_1392 rfl 3 rfl ?_
  refine u_iconst (pc := 1393) hC ic_4 dL_law_1393 ?_
  refine u_iadd (pc := 1394) hC dL_law_1394 ?_
  refine u_sld (pc := 1395) hC hX (law_in hi hgo hL (k := 4) rfl (by decide)) dL_law_1395 ?_
  refine u_aload_n (pc := 1396) hC dL_law_1396 rfl 0 rfl ?_
  refine u_iload_n (pc := 1397) hC dL_law_1397 rfl 3 rfl ?_
  refine u_iconst (pc := 1398) hC ic_5 dL_law_1398 ?_
  refine u_iadd (pc := 1399) hC dL_law_1399 ?_
  refine u_sld (pc := 1400) hC hX (law_in hi hgo hL (k := 5) rfl (by decide)) dL_law_1400 ?_
  refine k_RL_152 (pc := 1401) hC (av := [.int (xs (i + (1 : Int32)).toNatClampNeg), .int (xs (i + (2 : Int32)).toNatClampNeg), .int (xs (i + (3 : Int32)).toNatClampNeg), .int (xs (i + (4 : Int32)).toNatClampNeg), .int (xs (i + (5 : Int32)).toNatClampNeg)]) (rest := []) (c_X11_move (d := d - 1) (by omega) is0 hp) (by omega) (Nat.le_of_ble_eq_true rfl) is0 rfl rfl dL_law_1401 ?_
  refine u_aload_n (pc := 1404) hC dL_law_1404 rfl 2 rfl ?_
  refine u_aload_n (pc := 1405) hC dL_law_1405 rfl 0 rfl ?_
  refine u_iload_n (pc := 1406) hC dL_law_1406 rfl 3 rfl ?_
  refine u_iconst (pc := 1407) hC ic_1 dL_law_1407 ?_
  refine u_iadd (pc := 1408) hC dL_law_1408 ?_
  refine u_sld (pc := 1409) hC hX (law_in hi hgo hL (k := 1) rfl (by decide)) dL_law_1409 ?_
  refine u_aload_n (pc := 1410) hC dL_law_1410 rfl 0 rfl ?_
  refine u_iload_n (pc := 1411) hC dL_law_1411 rfl 3 rfl ?_
  refine u_iconst (pc := 1412) hC ic_2 dL_law_1412 ?_
  refine u_iadd (pc := 1413) hC dL_law_1413 ?_
  refine u_sld (pc := 1414) hC hX (law_in hi hgo hL (k := 2) rfl (by decide)) dL_law_1414 ?_
  refine u_aload_n (pc := 1415) hC dL_law_1415 rfl 0 rfl ?_
  refine u_iload_n (pc := 1416) hC dL_law_1416 rfl 3 rfl ?_
  refine u_iconst (pc := 1417) hC ic_3 dL_law_1417 ?_
  refine u_iadd (pc := 1418) hC dL_law_1418 ?_
  refine u_sld (pc := 1419) hC hX (law_in hi hgo hL (k := 3) rfl (by decide)) dL_law_1419 ?_
  refine u_aload_n (pc := 1420) hC dL_law_1420 rfl 0 rfl ?_
  refine u_iload_n (pc := 1421) hC dL_law_1421 rfl 3 rfl ?_
  refine u_iconst (pc := 1422) hC ic_4 dL_law_1422 ?_
  refine u_iadd (pc := 1423) hC dL_law_1423 ?_
  refine u_sld (pc := 1424) hC hX (law_in hi hgo hL (k := 4) rfl (by decide)) dL_law_1424 ?_
  refine u_aload_n (pc := 1425) hC dL_law_1425 rfl 0 rfl ?_
  refine u_iload_n (pc := 1426) hC dL_law_1426 rfl 3 rfl ?_
  refine u_iconst (pc := 1427) hC ic_5 dL_law_1427 ?_
  refine u_iadd (pc := 1428) hC dL_law_1428 ?_
  refine u_sld (pc := 1429) hC hX (law_in hi hgo hL (k := 5) rfl (by decide)) dL_law_1429 ?_
  refine k_RL_156 (pc := 1430) hC (av := [.int (xs (i + (1 : Int32)).toNatClampNeg), .int (xs (i + (2 : Int32)).toNatClampNeg), .int (xs (i + (3 : Int32)).toNatClampNeg), .int (xs (i + (4 : Int32)).toNatClampNeg), .int (xs (i + (5 : Int32)).toNatClampNeg)]) (rest := [.int p.1]) (c_X12_move (d := d - 1) (by omega) is105 hq) (by omega) (Nat.le_of_ble_eq_true rfl) is105 rfl rfl dL_law_1430 ?_
  refine u_icmp_eq (pc := 1433) hC (tgt := 1602) dL_law_1433 (by decide) (fun _ => ?_) (fun c9 => absurd hpq c9)
  exact hend q.2 hrel
set_option maxHeartbeats 4000000 in
set_option maxRecDepth 100000 in
theorem law_reads {Rel : Mem → Prop} (hs : SH_reads Rel) {C : Cx} {d : Nat} (hd : 900 ≤ d) (hC : CxOK C cL_law 4 RL d) {b L : Nat} {xs : Nat → Int32} (hX : LX C b L xs) (hL : L ≤ 3072) {i : Int32} {j : Nat} (hi : i = nI j) (hgo : j + 6 ≤ L) {μ : Mem} (hr : Rel μ) (hend : ∀ μ1, Rel μ1 → UW C 4 μ1 1602 [(0, .ref b), (1, .ref (gad (cG C) 0)), (2, .ref (gad (cG C) 105)), (3, .int i)] []) : UW C 4 μ 1438 [(0, .ref b), (1, .ref (gad (cG C) 0)), (2, .ref (gad (cG C) 105)), (3, .int i)] [] := by
  obtain ⟨p, q, hp, hq, hpq, hrel⟩ := hs μ hr (xs (i + (1 : Int32)).toNatClampNeg)
  refine u_aload_n (pc := 1438) hC dL_law_1438 rfl 1 rfl ?_
  refine u_aload_n (pc := 1439) hC dL_law_1439 rfl 0 rfl ?_
  refine u_iload_n (pc := 1440) hC dL_law_1440 rfl 3 rfl ?_
  refine u_iconst (pc := 1441) hC ic_1 dL_law_1441 ?_
  refine u_iadd (pc := 1442) hC dL_law_1442 ?_
  refine u_sld (pc := 1443) hC hX (law_in hi hgo hL (k := 1) rfl (by decide)) dL_law_1443 ?_
  refine k_RL_157 (pc := 1444) hC (av := [.int (xs (i + (1 : Int32)).toNatClampNeg)]) (rest := []) (c_X11_reads (d := d - 1) (by omega) is0 hp) (by omega) (Nat.le_of_ble_eq_true rfl) is0 rfl rfl dL_law_1444 ?_
  refine u_aload_n (pc := 1447) hC dL_law_1447 rfl 2 rfl ?_
  refine u_aload_n (pc := 1448) hC dL_law_1448 rfl 0 rfl ?_
  refine u_iload_n (pc := 1449) hC dL_law_1449 rfl 3 rfl ?_
  refine u_iconst (pc := 1450) hC ic_1 dL_law_1450 ?_
  refine u_iadd (pc := 1451) hC dL_law_1451 ?_
  refine u_sld (pc := 1452) hC hX (law_in hi hgo hL (k := 1) rfl (by decide)) dL_law_1452 ?_
  refine k_RL_160 (pc := 1453) hC (av := [.int (xs (i + (1 : Int32)).toNatClampNeg)]) (rest := [.int p.1]) (c_X12_reads (d := d - 1) (by omega) is105 hq) (by omega) (Nat.le_of_ble_eq_true rfl) is105 rfl rfl dL_law_1453 ?_
  refine u_icmp_eq (pc := 1456) hC (tgt := 1602) dL_law_1456 (by decide) (fun _ => ?_) (fun c9 => absurd hpq c9)
  exact hend q.2 hrel
set_option maxHeartbeats 4000000 in
set_option maxRecDepth 100000 in
theorem law_judge {Rel : Mem → Prop} (hs : SH_judge Rel) {C : Cx} {d : Nat} (hd : 900 ≤ d) (hC : CxOK C cL_law 4 RL d) {b L : Nat} {xs : Nat → Int32} (hX : LX C b L xs) (hL : L ≤ 3072) {i : Int32} {j : Nat} (hi : i = nI j) (hgo : j + 6 ≤ L) {μ : Mem} (hr : Rel μ) (hend : ∀ μ1, Rel μ1 → UW C 4 μ1 1602 [(0, .ref b), (1, .ref (gad (cG C) 0)), (2, .ref (gad (cG C) 105)), (3, .int i)] []) : UW C 4 μ 1461 [(0, .ref b), (1, .ref (gad (cG C) 0)), (2, .ref (gad (cG C) 105)), (3, .int i)] [] := by
  obtain ⟨p, q, hp, hq, hpq, hrel⟩ := hs μ hr (xs (i + (1 : Int32)).toNatClampNeg) (xs (i + (2 : Int32)).toNatClampNeg)
  refine u_aload_n (pc := 1461) hC dL_law_1461 rfl 1 rfl ?_
  refine u_aload_n (pc := 1462) hC dL_law_1462 rfl 0 rfl ?_
  refine u_iload_n (pc := 1463) hC dL_law_1463 rfl 3 rfl ?_
  refine u_iconst (pc := 1464) hC ic_1 dL_law_1464 ?_
  refine u_iadd (pc := 1465) hC dL_law_1465 ?_
  refine u_sld (pc := 1466) hC hX (law_in hi hgo hL (k := 1) rfl (by decide)) dL_law_1466 ?_
  refine u_aload_n (pc := 1467) hC dL_law_1467 rfl 0 rfl ?_
  refine u_iload_n (pc := 1468) hC dL_law_1468 rfl 3 rfl ?_
  refine u_iconst (pc := 1469) hC ic_2 dL_law_1469 ?_
  refine u_iadd (pc := 1470) hC dL_law_1470 ?_
  refine u_sld (pc := 1471) hC hX (law_in hi hgo hL (k := 2) rfl (by decide)) dL_law_1471 ?_
  refine k_RL_161 (pc := 1472) hC (av := [.int (xs (i + (1 : Int32)).toNatClampNeg), .int (xs (i + (2 : Int32)).toNatClampNeg)]) (rest := []) (c_X11_judge (d := d - 1) (by omega) is0 hp) (by omega) (Nat.le_of_ble_eq_true rfl) is0 rfl rfl dL_law_1472 ?_
  refine u_aload_n (pc := 1475) hC dL_law_1475 rfl 2 rfl ?_
  refine u_aload_n (pc := 1476) hC dL_law_1476 rfl 0 rfl ?_
  refine u_iload_n (pc := 1477) hC dL_law_1477 rfl 3 rfl ?_
  refine u_iconst (pc := 1478) hC ic_1 dL_law_1478 ?_
  refine u_iadd (pc := 1479) hC dL_law_1479 ?_
  refine u_sld (pc := 1480) hC hX (law_in hi hgo hL (k := 1) rfl (by decide)) dL_law_1480 ?_
  refine u_aload_n (pc := 1481) hC dL_law_1481 rfl 0 rfl ?_
  refine u_iload_n (pc := 1482) hC dL_law_1482 rfl 3 rfl ?_
  refine u_iconst (pc := 1483) hC ic_2 dL_law_1483 ?_
  refine u_iadd (pc := 1484) hC dL_law_1484 ?_
  refine u_sld (pc := 1485) hC hX (law_in hi hgo hL (k := 2) rfl (by decide)) dL_law_1485 ?_
  refine k_RL_164 (pc := 1486) hC (av := [.int (xs (i + (1 : Int32)).toNatClampNeg), .int (xs (i + (2 : Int32)).toNatClampNeg)]) (rest := [.int p.1]) (c_X12_judge (d := d - 1) (by omega) is105 hq) (by omega) (Nat.le_of_ble_eq_true rfl) is105 rfl rfl dL_law_1486 ?_
  refine u_icmp_eq (pc := 1489) hC (tgt := 1602) dL_law_1489 (by decide) (fun _ => ?_) (fun c9 => absurd hpq c9)
  exact hend q.2 hrel
set_option maxHeartbeats 4000000 in
set_option maxRecDepth 100000 in
theorem law_image {Rel : Mem → Prop} (hs : SH_image Rel) {C : Cx} {d : Nat} (hd : 900 ≤ d) (hC : CxOK C cL_law 4 RL d) {b L : Nat} {xs : Nat → Int32} (hX : LX C b L xs) (hL : L ≤ 3072) {i : Int32} {j : Nat} (hi : i = nI j) (hgo : j + 6 ≤ L) {μ : Mem} (hr : Rel μ) (hend : ∀ μ1, Rel μ1 → UW C 4 μ1 1602 [(0, .ref b), (1, .ref (gad (cG C) 0)), (2, .ref (gad (cG C) 105)), (3, .int i)] []) : UW C 4 μ 1494 [(0, .ref b), (1, .ref (gad (cG C) 0)), (2, .ref (gad (cG C) 105)), (3, .int i)] [] := by
  obtain ⟨p, q, hp, hq, hpq, hrel⟩ := hs μ hr
  refine u_aload_n (pc := 1494) hC dL_law_1494 rfl 1 rfl ?_
  refine k_RL_165 (pc := 1495) hC (av := []) (rest := []) (c_X11_image (d := d - 1) (by omega) is0 hp) (by omega) (Nat.le_of_ble_eq_true rfl) is0 rfl rfl dL_law_1495 ?_
  refine u_aload_n (pc := 1498) hC dL_law_1498 rfl 2 rfl ?_
  refine k_RL_169 (pc := 1499) hC (av := []) (rest := [.int p.1]) (c_X12_image (d := d - 1) (by omega) is105 hq) (by omega) (Nat.le_of_ble_eq_true rfl) is105 rfl rfl dL_law_1499 ?_
  refine u_icmp_eq (pc := 1502) hC (tgt := 1602) dL_law_1502 (by decide) (fun _ => ?_) (fun c9 => absurd hpq c9)
  exact hend q.2 hrel
set_option maxHeartbeats 4000000 in
set_option maxRecDepth 100000 in
theorem law_restore {Rel : Mem → Prop} (hs : SH_restore Rel) {C : Cx} {d : Nat} (hd : 900 ≤ d) (hC : CxOK C cL_law 4 RL d) {b L : Nat} {xs : Nat → Int32} (hX : LX C b L xs) (hL : L ≤ 3072) {i : Int32} {j : Nat} (hi : i = nI j) (hgo : j + 6 ≤ L) {μ : Mem} (hr : Rel μ) (hend : ∀ μ1, Rel μ1 → UW C 4 μ1 1602 [(0, .ref b), (1, .ref (gad (cG C) 0)), (2, .ref (gad (cG C) 105)), (3, .int i)] []) : UW C 4 μ 1507 [(0, .ref b), (1, .ref (gad (cG C) 0)), (2, .ref (gad (cG C) 105)), (3, .int i)] [] := by
  obtain ⟨p, q, hp, hq, hpq, hrel⟩ := hs μ hr
  refine u_aload_n (pc := 1507) hC dL_law_1507 rfl 1 rfl ?_
  refine k_RL_170 (pc := 1508) hC (av := []) (rest := []) (c_X11_restore (d := d - 1) (by omega) is0 hp) (by omega) (Nat.le_of_ble_eq_true rfl) is0 rfl rfl dL_law_1508 ?_
  refine u_aload_n (pc := 1511) hC dL_law_1511 rfl 2 rfl ?_
  refine k_RL_173 (pc := 1512) hC (av := []) (rest := [.int p.1]) (c_X12_restore (d := d - 1) (by omega) is105 hq) (by omega) (Nat.le_of_ble_eq_true rfl) is105 rfl rfl dL_law_1512 ?_
  refine u_icmp_eq (pc := 1515) hC (tgt := 1602) dL_law_1515 (by decide) (fun _ => ?_) (fun c9 => absurd hpq c9)
  exact hend q.2 hrel
set_option maxHeartbeats 4000000 in
set_option maxRecDepth 100000 in
theorem law_tell {Rel : Mem → Prop} (hs : SH_tell Rel) {C : Cx} {d : Nat} (hd : 900 ≤ d) (hC : CxOK C cL_law 4 RL d) {b L : Nat} {xs : Nat → Int32} (hX : LX C b L xs) (hL : L ≤ 3072) {i : Int32} {j : Nat} (hi : i = nI j) (hgo : j + 6 ≤ L) {μ : Mem} (hr : Rel μ) (hend : ∀ μ1, Rel μ1 → UW C 4 μ1 1602 [(0, .ref b), (1, .ref (gad (cG C) 0)), (2, .ref (gad (cG C) 105)), (3, .int i)] []) : UW C 4 μ 1520 [(0, .ref b), (1, .ref (gad (cG C) 0)), (2, .ref (gad (cG C) 105)), (3, .int i)] [] := by
  obtain ⟨p, q, hp, hq, hpq, hrel⟩ := hs μ hr (xs (i + (1 : Int32)).toNatClampNeg)
  refine u_aload_n (pc := 1520) hC dL_law_1520 rfl 1 rfl ?_
  refine u_aload_n (pc := 1521) hC dL_law_1521 rfl 0 rfl ?_
  refine u_iload_n (pc := 1522) hC dL_law_1522 rfl 3 rfl ?_
  refine u_iconst (pc := 1523) hC ic_1 dL_law_1523 ?_
  refine u_iadd (pc := 1524) hC dL_law_1524 ?_
  refine u_sld (pc := 1525) hC hX (law_in hi hgo hL (k := 1) rfl (by decide)) dL_law_1525 ?_
  refine k_RL_174 (pc := 1526) hC (av := [.int (xs (i + (1 : Int32)).toNatClampNeg)]) (rest := []) (c_X11_tell (d := d - 1) (by omega) is0 hp) (by omega) (Nat.le_of_ble_eq_true rfl) is0 rfl rfl dL_law_1526 ?_
  refine u_aload_n (pc := 1529) hC dL_law_1529 rfl 2 rfl ?_
  refine u_aload_n (pc := 1530) hC dL_law_1530 rfl 0 rfl ?_
  refine u_iload_n (pc := 1531) hC dL_law_1531 rfl 3 rfl ?_
  refine u_iconst (pc := 1532) hC ic_1 dL_law_1532 ?_
  refine u_iadd (pc := 1533) hC dL_law_1533 ?_
  refine u_sld (pc := 1534) hC hX (law_in hi hgo hL (k := 1) rfl (by decide)) dL_law_1534 ?_
  refine k_RL_177 (pc := 1535) hC (av := [.int (xs (i + (1 : Int32)).toNatClampNeg)]) (rest := [.int p.1]) (c_X12_tell (d := d - 1) (by omega) is105 hq) (by omega) (Nat.le_of_ble_eq_true rfl) is105 rfl rfl dL_law_1535 ?_
  refine u_icmp_eq (pc := 1538) hC (tgt := 1602) dL_law_1538 (by decide) (fun _ => ?_) (fun c9 => absurd hpq c9)
  exact hend q.2 hrel
set_option maxHeartbeats 4000000 in
set_option maxRecDepth 100000 in
theorem law_check {Rel : Mem → Prop} (hs : SH_check Rel) {C : Cx} {d : Nat} (hd : 900 ≤ d) (hC : CxOK C cL_law 4 RL d) {b L : Nat} {xs : Nat → Int32} (hX : LX C b L xs) (hL : L ≤ 3072) {i : Int32} {j : Nat} (hi : i = nI j) (hgo : j + 6 ≤ L) {μ : Mem} (hr : Rel μ) (hend : ∀ μ1, Rel μ1 → UW C 4 μ1 1602 [(0, .ref b), (1, .ref (gad (cG C) 0)), (2, .ref (gad (cG C) 105)), (3, .int i)] []) : UW C 4 μ 1543 [(0, .ref b), (1, .ref (gad (cG C) 0)), (2, .ref (gad (cG C) 105)), (3, .int i)] [] := by
  obtain ⟨p, q, hp, hq, hpq, hrel⟩ := hs μ hr
  refine u_aload_n (pc := 1543) hC dL_law_1543 rfl 1 rfl ?_
  refine k_RL_178 (pc := 1544) hC (av := []) (rest := []) (c_X11_check (d := d - 1) (by omega) is0 hp) (by omega) (Nat.le_of_ble_eq_true rfl) is0 rfl rfl dL_law_1544 ?_
  refine u_aload_n (pc := 1547) hC dL_law_1547 rfl 2 rfl ?_
  refine k_RL_181 (pc := 1548) hC (av := []) (rest := [.int p.1]) (c_X12_check (d := d - 1) (by omega) is105 hq) (by omega) (Nat.le_of_ble_eq_true rfl) is105 rfl rfl dL_law_1548 ?_
  refine u_icmp_eq (pc := 1551) hC (tgt := 1602) dL_law_1551 (by decide) (fun _ => ?_) (fun c9 => absurd hpq c9)
  exact hend q.2 hrel
set_option maxHeartbeats 4000000 in
set_option maxRecDepth 100000 in
theorem law_count {Rel : Mem → Prop} (hs : SH_count Rel) {C : Cx} {d : Nat} (hd : 900 ≤ d) (hC : CxOK C cL_law 4 RL d) {b L : Nat} {xs : Nat → Int32} (hX : LX C b L xs) (hL : L ≤ 3072) {i : Int32} {j : Nat} (hi : i = nI j) (hgo : j + 6 ≤ L) {μ : Mem} (hr : Rel μ) (hend : ∀ μ1, Rel μ1 → UW C 4 μ1 1602 [(0, .ref b), (1, .ref (gad (cG C) 0)), (2, .ref (gad (cG C) 105)), (3, .int i)] []) : UW C 4 μ 1556 [(0, .ref b), (1, .ref (gad (cG C) 0)), (2, .ref (gad (cG C) 105)), (3, .int i)] [] := by
  obtain ⟨p, q, hp, hq, hpq, hrel⟩ := hs μ hr (xs (i + (1 : Int32)).toNatClampNeg)
  refine u_aload_n (pc := 1556) hC dL_law_1556 rfl 1 rfl ?_
  refine u_aload_n (pc := 1557) hC dL_law_1557 rfl 0 rfl ?_
  refine u_iload_n (pc := 1558) hC dL_law_1558 rfl 3 rfl ?_
  refine u_iconst (pc := 1559) hC ic_1 dL_law_1559 ?_
  refine u_iadd (pc := 1560) hC dL_law_1560 ?_
  refine u_sld (pc := 1561) hC hX (law_in hi hgo hL (k := 1) rfl (by decide)) dL_law_1561 ?_
  refine k_RL_182 (pc := 1562) hC (av := [.int (xs (i + (1 : Int32)).toNatClampNeg)]) (rest := []) (c_X11_count (d := d - 1) (by omega) is0 hp) (by omega) (Nat.le_of_ble_eq_true rfl) is0 rfl rfl dL_law_1562 ?_
  refine u_aload_n (pc := 1565) hC dL_law_1565 rfl 2 rfl ?_
  refine u_aload_n (pc := 1566) hC dL_law_1566 rfl 0 rfl ?_
  refine u_iload_n (pc := 1567) hC dL_law_1567 rfl 3 rfl ?_
  refine u_iconst (pc := 1568) hC ic_1 dL_law_1568 ?_
  refine u_iadd (pc := 1569) hC dL_law_1569 ?_
  refine u_sld (pc := 1570) hC hX (law_in hi hgo hL (k := 1) rfl (by decide)) dL_law_1570 ?_
  refine k_RL_185 (pc := 1571) hC (av := [.int (xs (i + (1 : Int32)).toNatClampNeg)]) (rest := [.int p.1]) (c_X12_count (d := d - 1) (by omega) is105 hq) (by omega) (Nat.le_of_ble_eq_true rfl) is105 rfl rfl dL_law_1571 ?_
  refine u_icmp_eq (pc := 1574) hC (tgt := 1602) dL_law_1574 (by decide) (fun _ => ?_) (fun c9 => absurd hpq c9)
  exact hend q.2 hrel
set_option maxHeartbeats 4000000 in
set_option maxRecDepth 100000 in
theorem law_told {Rel : Mem → Prop} (hs : SH_told Rel) {C : Cx} {d : Nat} (hd : 900 ≤ d) (hC : CxOK C cL_law 4 RL d) {b L : Nat} {xs : Nat → Int32} (hX : LX C b L xs) (hL : L ≤ 3072) {i : Int32} {j : Nat} (hi : i = nI j) (hgo : j + 6 ≤ L) {μ : Mem} (hr : Rel μ) (hend : ∀ μ1, Rel μ1 → UW C 4 μ1 1602 [(0, .ref b), (1, .ref (gad (cG C) 0)), (2, .ref (gad (cG C) 105)), (3, .int i)] []) : UW C 4 μ 1579 [(0, .ref b), (1, .ref (gad (cG C) 0)), (2, .ref (gad (cG C) 105)), (3, .int i)] [] := by
  obtain ⟨p, q, hp, hq, hpq, hrel⟩ := hs μ hr (xs (i + (1 : Int32)).toNatClampNeg)
  refine u_aload_n (pc := 1579) hC dL_law_1579 rfl 1 rfl ?_
  refine u_aload_n (pc := 1580) hC dL_law_1580 rfl 0 rfl ?_
  refine u_iload_n (pc := 1581) hC dL_law_1581 rfl 3 rfl ?_
  refine u_iconst (pc := 1582) hC ic_1 dL_law_1582 ?_
  refine u_iadd (pc := 1583) hC dL_law_1583 ?_
  refine u_sld (pc := 1584) hC hX (law_in hi hgo hL (k := 1) rfl (by decide)) dL_law_1584 ?_
  refine k_RL_186 (pc := 1585) hC (av := [.int (xs (i + (1 : Int32)).toNatClampNeg)]) (rest := []) (c_X11_told (d := d - 1) (by omega) is0 hp) (by omega) (Nat.le_of_ble_eq_true rfl) is0 rfl rfl dL_law_1585 ?_
  refine u_aload_n (pc := 1588) hC dL_law_1588 rfl 2 rfl ?_
  refine u_aload_n (pc := 1589) hC dL_law_1589 rfl 0 rfl ?_
  refine u_iload_n (pc := 1590) hC dL_law_1590 rfl 3 rfl ?_
  refine u_iconst (pc := 1591) hC ic_1 dL_law_1591 ?_
  refine u_iadd (pc := 1592) hC dL_law_1592 ?_
  refine u_sld (pc := 1593) hC hX (law_in hi hgo hL (k := 1) rfl (by decide)) dL_law_1593 ?_
  refine k_RL_189 (pc := 1594) hC (av := [.int (xs (i + (1 : Int32)).toNatClampNeg)]) (rest := [.int p.1]) (c_X12_told (d := d - 1) (by omega) is105 hq) (by omega) (Nat.le_of_ble_eq_true rfl) is105 rfl rfl dL_law_1594 ?_
  refine u_icmp_eq (pc := 1597) hC (tgt := 1602) dL_law_1597 (by decide) (fun _ => ?_) (fun c9 => absurd hpq c9)
  exact hend q.2 hrel
set_option maxHeartbeats 8000000 in
set_option maxRecDepth 100000 in
theorem law_loop {Rel : Mem → Prop} (hs : SH_all Rel) {C : Cx} {d : Nat} (hd : 900 ≤ d) (hC : CxOK C cL_law 4 RL d) {b L : Nat} {xs : Nat → Int32} (hX : LX C b L xs) (hQ : LQ C b) (hL : L ≤ 3072) : ∀ (n j : Nat) (i : Int32) (μ : Mem), i = nI j → j ≤ L + 6 → L + 7 - j ≤ n → Rel μ → UW C 4 μ 18 [(0, .ref b), (1, .ref (gad (cG C) 0)), (2, .ref (gad (cG C) 105)), (3, .int i)] [] := by
  intro n
  induction n with
  | zero => intro j i μ hi hj hm hr; omega
  | succ n ih =>
    intro j i μ hi hj hm hr
    refine u_iload_n (pc := 18) hC dL_law_18 rfl 3 rfl ?_
    refine u_aload_n (pc := 19) hC dL_law_19 rfl 0 rfl ?_
    refine u_slen (pc := 20) hC hX dL_law_20 ?_
    refine u_bipush (pc := 21) hC bc_6 dL_law_21 ?_
    refine u_isub (pc := 23) hC dL_law_23 ?_
    refine u_icmp_gt (pc := 24) hC (tgt := 1608) dL_law_24 (by decide) (fun c24 => ?_) (fun c24 => ?_)
    · refine u_iconst (pc := 1608) hC ic_1 dL_law_1608 ?_
      exact u_lwret (pc := 1609) hC hX hQ dL_law_1609
    have hgo := law_go hi hj hL c24
    have hend : ∀ μ1, Rel μ1 → UW C 4 μ1 1602 [(0, .ref b), (1, .ref (gad (cG C) 0)), (2, .ref (gad (cG C) 105)), (3, .int i)] [] := by
      intro μ1 hr1
      refine u_iinc (pc := 1602) hC dL_law_1602 3 rfl (i + 6) rfl [(3, .int (i + 6)), (0, .ref b), (1, .ref (gad (cG C) 0)), (2, .ref (gad (cG C) 105))] (by decide) rfl ?_
      refine u_goto (pc := 1605) hC 18 dL_law_1605 (by decide) ?_
      refine u_sub [1, 2, 3, 0] rfl ?_
      exact ih (j + 6) (i + 6) μ1 (by rw [hi]; exact nI_add j 6) (by omega) (by omega) hr1
    refine u_aload_n (pc := 27) hC dL_law_27 rfl 0 rfl ?_
    refine u_iload_n (pc := 28) hC dL_law_28 rfl 3 rfl ?_
    refine u_sld (pc := 29) hC hX (law_in0 hi hgo hL) dL_law_29 ?_
    refine u_bipush (pc := 30) hC bc_63 dL_law_30 ?_
    refine u_iand (pc := 32) hC dL_law_32 ?_
    generalize hx9 : xs i.toNatClampNeg &&& (63 : Int32) = x9
    by_cases c0 : x9 = 0
    · refine u_tabEq (pc := 33) hC dL_law_33 (0 : Int32) c0 (off := 183) 216 (by decide) (by decide) ?_
      exact law_fact hs.1 hd hC hX hL hi hgo hr hend
    by_cases c1 : x9 = 1
    · refine u_tabEq (pc := 33) hC dL_law_33 (1 : Int32) c1 (off := 216) 249 (by decide) (by decide) ?_
      exact law_clash hs.2.1 hd hC hX hL hi hgo hr hend
    by_cases c2 : x9 = 2
    · refine u_tabEq (pc := 33) hC dL_law_33 (2 : Int32) c2 (off := 259) 292 (by decide) (by decide) ?_
      exact law_explain hs.2.2.1 hd hC hX hL hi hgo hr hend
    by_cases c3 : x9 = 3
    · refine u_tabEq (pc := 33) hC dL_law_33 (3 : Int32) c3 (off := 302) 335 (by decide) (by decide) ?_
      exact law_ofFact hs.2.2.2.1 hd hC hX hL hi hgo hr hend
    by_cases c4 : x9 = 4
    · refine u_tabEq (pc := 33) hC dL_law_33 (4 : Int32) c4 (off := 335) 368 (by decide) (by decide) ?_
      exact law_debtor hs.2.2.2.2.1 hd hC hX hL hi hgo hr hend
    by_cases c5 : x9 = 5
    · refine u_tabEq (pc := 33) hC dL_law_33 (5 : Int32) c5 (off := 368) 401 (by decide) (by decide) ?_
      exact law_ofDebtor hs.2.2.2.2.2.1 hd hC hX hL hi hgo hr hend
    by_cases c6 : x9 = 6
    · refine u_tabEq (pc := 33) hC dL_law_33 (6 : Int32) c6 (off := 401) 434 (by decide) (by decide) ?_
      exact law_book hs.2.2.2.2.2.2.1 hd hC hX hL hi hgo hr hend
    by_cases c7 : x9 = 7
    · refine u_tabEq (pc := 33) hC dL_law_33 (7 : Int32) c7 (off := 444) 477 (by decide) (by decide) ?_
      exact law_become hs.2.2.2.2.2.2.2.1 hd hC hX hL hi hgo hr hend
    by_cases c8 : x9 = 8
    · refine u_tabEq (pc := 33) hC dL_law_33 (8 : Int32) c8 (off := 477) 510 (by decide) (by decide) ?_
      exact law_as hs.2.2.2.2.2.2.2.2.1 hd hC hX hL hi hgo hr hend
    by_cases c9 : x9 = 9
    · refine u_tabEq (pc := 33) hC dL_law_33 (9 : Int32) c9 (off := 510) 543 (by decide) (by decide) ?_
      exact law_lend hs.2.2.2.2.2.2.2.2.2.1 hd hC hX hL hi hgo hr hend
    by_cases c10 : x9 = 10
    · refine u_tabEq (pc := 33) hC dL_law_33 (10 : Int32) c10 (off := 543) 576 (by decide) (by decide) ?_
      exact law_tells hs.2.2.2.2.2.2.2.2.2.2.1 hd hC hX hL hi hgo hr hend
    by_cases c11 : x9 = 11
    · refine u_tabEq (pc := 33) hC dL_law_33 (11 : Int32) c11 (off := 576) 609 (by decide) (by decide) ?_
      exact law_pardon hs.2.2.2.2.2.2.2.2.2.2.2.1 hd hC hX hL hi hgo hr hend
    by_cases c12 : x9 = 12
    · refine u_tabEq (pc := 33) hC dL_law_33 (12 : Int32) c12 (off := 599) 632 (by decide) (by decide) ?_
      exact law_weeks hs.2.2.2.2.2.2.2.2.2.2.2.2.1 hd hC hX hL hi hgo hr hend
    by_cases c13 : x9 = 13
    · refine u_tabEq (pc := 33) hC dL_law_33 (13 : Int32) c13 (off := 622) 655 (by decide) (by decide) ?_
      exact law_loose hs.2.2.2.2.2.2.2.2.2.2.2.2.2.1 hd hC hX hL hi hgo hr hend
    by_cases c14 : x9 = 14
    · refine u_tabEq (pc := 33) hC dL_law_33 (14 : Int32) c14 (off := 645) 678 (by decide) (by decide) ?_
      exact law_then hs.2.2.2.2.2.2.2.2.2.2.2.2.2.2.1 hd hC hX hL hi hgo hr hend
    by_cases c15 : x9 = 15
    · refine u_tabEq (pc := 33) hC dL_law_33 (15 : Int32) c15 (off := 688) 721 (by decide) (by decide) ?_
      exact law_feed hs.2.2.2.2.2.2.2.2.2.2.2.2.2.2.2.1 hd hC hX hL hi hgo hr hend
    by_cases c16 : x9 = 16
    · refine u_tabEq (pc := 33) hC dL_law_33 (16 : Int32) c16 (off := 751) 784 (by decide) (by decide) ?_
      exact law_text hs.2.2.2.2.2.2.2.2.2.2.2.2.2.2.2.2.1 hd hC hX hL hi hgo hr hend
    by_cases c17 : x9 = 17
    · refine u_tabEq (pc := 33) hC dL_law_33 (17 : Int32) c17 (off := 774) 807 (by decide) (by decide) ?_
      exact law_law hs.2.2.2.2.2.2.2.2.2.2.2.2.2.2.2.2.2.1 hd hC hX hL hi hgo hr hend
    by_cases c18 : x9 = 18
    · refine u_tabEq (pc := 33) hC dL_law_33 (18 : Int32) c18 (off := 827) 860 (by decide) (by decide) ?_
      exact law_served hs.2.2.2.2.2.2.2.2.2.2.2.2.2.2.2.2.2.2.1 hd hC hX hL hi hgo hr hend
    by_cases c19 : x9 = 19
    · refine u_tabEq (pc := 33) hC dL_law_33 (19 : Int32) c19 (off := 860) 893 (by decide) (by decide) ?_
      exact law_closed hs.2.2.2.2.2.2.2.2.2.2.2.2.2.2.2.2.2.2.2.1 hd hC hX hL hi hgo hr hend
    by_cases c20 : x9 = 20
    · refine u_tabEq (pc := 33) hC dL_law_33 (20 : Int32) c20 (off := 893) 926 (by decide) (by decide) ?_
      exact law_clashOf hs.2.2.2.2.2.2.2.2.2.2.2.2.2.2.2.2.2.2.2.2.1 hd hC hX hL hi hgo hr hend
    by_cases c21 : x9 = 21
    · refine u_tabEq (pc := 33) hC dL_law_33 (21 : Int32) c21 (off := 916) 949 (by decide) (by decide) ?_
      exact law_joined hs.2.2.2.2.2.2.2.2.2.2.2.2.2.2.2.2.2.2.2.2.2.1 hd hC hX hL hi hgo hr hend
    by_cases c22 : x9 = 22
    · refine u_tabEq (pc := 33) hC dL_law_33 (22 : Int32) c22 (off := 949) 982 (by decide) (by decide) ?_
      exact law_rated hs.2.2.2.2.2.2.2.2.2.2.2.2.2.2.2.2.2.2.2.2.2.2.1 hd hC hX hL hi hgo hr hend
    by_cases c23 : x9 = 23
    · refine u_tabEq (pc := 33) hC dL_law_33 (23 : Int32) c23 (off := 992) 1025 (by decide) (by decide) ?_
      exact law_explained hs.2.2.2.2.2.2.2.2.2.2.2.2.2.2.2.2.2.2.2.2.2.2.2.1 hd hC hX hL hi hgo hr hend
    by_cases c24 : x9 = 24
    · refine u_tabEq (pc := 33) hC dL_law_33 (24 : Int32) c24 (off := 1025) 1058 (by decide) (by decide) ?_
      exact law_meeting hs.2.2.2.2.2.2.2.2.2.2.2.2.2.2.2.2.2.2.2.2.2.2.2.2.1 hd hC hX hL hi hgo hr hend
    by_cases c25 : x9 = 25
    · refine u_tabEq (pc := 33) hC dL_law_33 (25 : Int32) c25 (off := 1068) 1101 (by decide) (by decide) ?_
      exact law_knows hs.2.2.2.2.2.2.2.2.2.2.2.2.2.2.2.2.2.2.2.2.2.2.2.2.2.1 hd hC hX hL hi hgo hr hend
    by_cases c26 : x9 = 26
    · refine u_tabEq (pc := 33) hC dL_law_33 (26 : Int32) c26 (off := 1101) 1134 (by decide) (by decide) ?_
      exact law_common hs.2.2.2.2.2.2.2.2.2.2.2.2.2.2.2.2.2.2.2.2.2.2.2.2.2.2.1 hd hC hX hL hi hgo hr hend
    by_cases c27 : x9 = 27
    · refine u_tabEq (pc := 33) hC dL_law_33 (27 : Int32) c27 (off := 1134) 1167 (by decide) (by decide) ?_
      exact law_since hs.2.2.2.2.2.2.2.2.2.2.2.2.2.2.2.2.2.2.2.2.2.2.2.2.2.2.2.1 hd hC hX hL hi hgo hr hend
    by_cases c28 : x9 = 28
    · refine u_tabEq (pc := 33) hC dL_law_33 (28 : Int32) c28 (off := 1167) 1200 (by decide) (by decide) ?_
      exact law_seed hs.2.2.2.2.2.2.2.2.2.2.2.2.2.2.2.2.2.2.2.2.2.2.2.2.2.2.2.2.1 hd hC hX hL hi hgo hr hend
    by_cases c29 : x9 = 29
    · refine u_tabEq (pc := 33) hC dL_law_33 (29 : Int32) c29 (off := 1190) 1223 (by decide) (by decide) ?_
      exact law_voice hs.2.2.2.2.2.2.2.2.2.2.2.2.2.2.2.2.2.2.2.2.2.2.2.2.2.2.2.2.2.1 hd hC hX hL hi hgo hr hend
    by_cases c30 : x9 = 30
    · refine u_tabEq (pc := 33) hC dL_law_33 (30 : Int32) c30 (off := 1233) 1266 (by decide) (by decide) ?_
      exact law_trace hs.2.2.2.2.2.2.2.2.2.2.2.2.2.2.2.2.2.2.2.2.2.2.2.2.2.2.2.2.2.2.1 hd hC hX hL hi hgo hr hend
    by_cases c31 : x9 = 31
    · refine u_tabEq (pc := 33) hC dL_law_33 (31 : Int32) c31 (off := 1256) 1289 (by decide) (by decide) ?_
      exact law_sheet hs.2.2.2.2.2.2.2.2.2.2.2.2.2.2.2.2.2.2.2.2.2.2.2.2.2.2.2.2.2.2.2.1 hd hC hX hL hi hgo hr hend
    by_cases c32 : x9 = 32
    · refine u_tabEq (pc := 33) hC dL_law_33 (32 : Int32) c32 (off := 1299) 1332 (by decide) (by decide) ?_
      exact law_put hs.2.2.2.2.2.2.2.2.2.2.2.2.2.2.2.2.2.2.2.2.2.2.2.2.2.2.2.2.2.2.2.2.1 hd hC hX hL hi hgo hr hend
    by_cases c33 : x9 = 33
    · refine u_tabEq (pc := 33) hC dL_law_33 (33 : Int32) c33 (off := 1342) 1375 (by decide) (by decide) ?_
      exact law_move hs.2.2.2.2.2.2.2.2.2.2.2.2.2.2.2.2.2.2.2.2.2.2.2.2.2.2.2.2.2.2.2.2.2.1 hd hC hX hL hi hgo hr hend
    by_cases c34 : x9 = 34
    · refine u_tabEq (pc := 33) hC dL_law_33 (34 : Int32) c34 (off := 1405) 1438 (by decide) (by decide) ?_
      exact law_reads hs.2.2.2.2.2.2.2.2.2.2.2.2.2.2.2.2.2.2.2.2.2.2.2.2.2.2.2.2.2.2.2.2.2.2.1 hd hC hX hL hi hgo hr hend
    by_cases c35 : x9 = 35
    · refine u_tabEq (pc := 33) hC dL_law_33 (35 : Int32) c35 (off := 1428) 1461 (by decide) (by decide) ?_
      exact law_judge hs.2.2.2.2.2.2.2.2.2.2.2.2.2.2.2.2.2.2.2.2.2.2.2.2.2.2.2.2.2.2.2.2.2.2.2.1 hd hC hX hL hi hgo hr hend
    by_cases c36 : x9 = 36
    · refine u_tabEq (pc := 33) hC dL_law_33 (36 : Int32) c36 (off := 1461) 1494 (by decide) (by decide) ?_
      exact law_image hs.2.2.2.2.2.2.2.2.2.2.2.2.2.2.2.2.2.2.2.2.2.2.2.2.2.2.2.2.2.2.2.2.2.2.2.2.1 hd hC hX hL hi hgo hr hend
    by_cases c37 : x9 = 37
    · refine u_tabEq (pc := 33) hC dL_law_33 (37 : Int32) c37 (off := 1474) 1507 (by decide) (by decide) ?_
      exact law_restore hs.2.2.2.2.2.2.2.2.2.2.2.2.2.2.2.2.2.2.2.2.2.2.2.2.2.2.2.2.2.2.2.2.2.2.2.2.2.1 hd hC hX hL hi hgo hr hend
    by_cases c38 : x9 = 38
    · refine u_tabEq (pc := 33) hC dL_law_33 (38 : Int32) c38 (off := 1487) 1520 (by decide) (by decide) ?_
      exact law_tell hs.2.2.2.2.2.2.2.2.2.2.2.2.2.2.2.2.2.2.2.2.2.2.2.2.2.2.2.2.2.2.2.2.2.2.2.2.2.2.1 hd hC hX hL hi hgo hr hend
    by_cases c39 : x9 = 39
    · refine u_tabEq (pc := 33) hC dL_law_33 (39 : Int32) c39 (off := 1510) 1543 (by decide) (by decide) ?_
      exact law_check hs.2.2.2.2.2.2.2.2.2.2.2.2.2.2.2.2.2.2.2.2.2.2.2.2.2.2.2.2.2.2.2.2.2.2.2.2.2.2.2.1 hd hC hX hL hi hgo hr hend
    by_cases c40 : x9 = 40
    · refine u_tabEq (pc := 33) hC dL_law_33 (40 : Int32) c40 (off := 1523) 1556 (by decide) (by decide) ?_
      exact law_count hs.2.2.2.2.2.2.2.2.2.2.2.2.2.2.2.2.2.2.2.2.2.2.2.2.2.2.2.2.2.2.2.2.2.2.2.2.2.2.2.2.1 hd hC hX hL hi hgo hr hend
    by_cases c41 : x9 = 41
    · refine u_tabEq (pc := 33) hC dL_law_33 (41 : Int32) c41 (off := 1546) 1579 (by decide) (by decide) ?_
      exact law_told hs.2.2.2.2.2.2.2.2.2.2.2.2.2.2.2.2.2.2.2.2.2.2.2.2.2.2.2.2.2.2.2.2.2.2.2.2.2.2.2.2.2 hd hC hX hL hi hgo hr hend
    refine u_tabDf (pc := 33) hC dL_law_33 [(0 : Int32), (1 : Int32), (2 : Int32), (3 : Int32), (4 : Int32), (5 : Int32), (6 : Int32), (7 : Int32), (8 : Int32), (9 : Int32), (10 : Int32), (11 : Int32), (12 : Int32), (13 : Int32), (14 : Int32), (15 : Int32), (16 : Int32), (17 : Int32), (18 : Int32), (19 : Int32), (20 : Int32), (21 : Int32), (22 : Int32), (23 : Int32), (24 : Int32), (25 : Int32), (26 : Int32), (27 : Int32), (28 : Int32), (29 : Int32), (30 : Int32), (31 : Int32), (32 : Int32), (33 : Int32), (34 : Int32), (35 : Int32), (36 : Int32), (37 : Int32), (38 : Int32), (39 : Int32), (40 : Int32), (41 : Int32)] (List.forall_mem_cons.mpr ⟨c0, List.forall_mem_cons.mpr ⟨c1, List.forall_mem_cons.mpr ⟨c2, List.forall_mem_cons.mpr ⟨c3, List.forall_mem_cons.mpr ⟨c4, List.forall_mem_cons.mpr ⟨c5, List.forall_mem_cons.mpr ⟨c6, List.forall_mem_cons.mpr ⟨c7, List.forall_mem_cons.mpr ⟨c8, List.forall_mem_cons.mpr ⟨c9, List.forall_mem_cons.mpr ⟨c10, List.forall_mem_cons.mpr ⟨c11, List.forall_mem_cons.mpr ⟨c12, List.forall_mem_cons.mpr ⟨c13, List.forall_mem_cons.mpr ⟨c14, List.forall_mem_cons.mpr ⟨c15, List.forall_mem_cons.mpr ⟨c16, List.forall_mem_cons.mpr ⟨c17, List.forall_mem_cons.mpr ⟨c18, List.forall_mem_cons.mpr ⟨c19, List.forall_mem_cons.mpr ⟨c20, List.forall_mem_cons.mpr ⟨c21, List.forall_mem_cons.mpr ⟨c22, List.forall_mem_cons.mpr ⟨c23, List.forall_mem_cons.mpr ⟨c24, List.forall_mem_cons.mpr ⟨c25, List.forall_mem_cons.mpr ⟨c26, List.forall_mem_cons.mpr ⟨c27, List.forall_mem_cons.mpr ⟨c28, List.forall_mem_cons.mpr ⟨c29, List.forall_mem_cons.mpr ⟨c30, List.forall_mem_cons.mpr ⟨c31, List.forall_mem_cons.mpr ⟨c32, List.forall_mem_cons.mpr ⟨c33, List.forall_mem_cons.mpr ⟨c34, List.forall_mem_cons.mpr ⟨c35, List.forall_mem_cons.mpr ⟨c36, List.forall_mem_cons.mpr ⟨c37, List.forall_mem_cons.mpr ⟨c38, List.forall_mem_cons.mpr ⟨c39, List.forall_mem_cons.mpr ⟨c40, List.forall_mem_cons.mpr ⟨c41, (fun _ q => absurd q List.not_mem_nil)⟩⟩⟩⟩⟩⟩⟩⟩⟩⟩⟩⟩⟩⟩⟩⟩⟩⟩⟩⟩⟩⟩⟩⟩⟩⟩⟩⟩⟩⟩⟩⟩⟩⟩⟩⟩⟩⟩⟩⟩⟩⟩) (by decide) 1602 (by decide) ?_
    exact hend μ hr
