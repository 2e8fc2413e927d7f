/-! OBJECTS IN THE MAKING: cells 0 .. n-1 stand at gs0, gs0 + 1, ..; a reference is null until its flag in the memory is set -/
def gLin (G : GG) : Prop := ∀ k, gad G k = gs0 G + k
def fvI (G : GG) (μ : Mem) (k j : Nat) : Value := if fk (sh k) j = 0 then .int (μ.1 k j) else if μ.1 k j = 0 then .null else if fk (sh k) j = 1 then .ref (gad G (rf k j)) else .ref (gad G (μ.1 k j).toNatClampNeg)
def fvIs (G : GG) (μ : Mem) (k n : Nat) : List Value := (List.range n).map (fvI G μ k)
def raI (G : GG) (μ : Mem) (k : Nat) : Nat → Option Nat := fun j => if μ.1 k j = 0 then none else some (gad G (rf k j))
def celI (G : GG) (μ : Mem) (k : Nat) : va_E :=
  if sh k < 13 then .inr (sh k, fvIs G μ k (nf (sh k)))
  else if sh k = 13 then .inl (gcy G 13, ln k, .inl (μ.1 k))
  else if sh k = 14 then .inl (gcy G 14, ln k, .inr (.inl (μ.2 k)))
  else .inl (gcy G (sh k), ln k, .inr (.inr (.inr (.inr (raI G μ k)))))
def wldI (G : GG) (μ : Mem) (n : Nat) : va_W := (List.range n).map (fun k => (gad G k, celI G μ k))
def su (i j : Nat) : Int32 := ((if i = 2 then [10] else [10, -3, -42, 5, -2, -42, -45, -1, -45]) : List Int32).getD j 0
def gSU (G : GG) (U : State) (H : Heap) : Prop := (va_Z "ChapterLoan" "USUAL_PAY" "[I" (.ref (gsa G 2)) (gA G) U H ∧ va_T .int (gsa G 2) 1 (fun j => .int (su 2 j)) (gA G) U H) ∧ (va_Z "ChapterLoan" "USUAL_TRUST" "[I" (.ref (gsa G 3)) (gA G) U H ∧ va_T .int (gsa G 3) 9 (fun j => .int (su 3 j)) (gA G) U H)
def NIm : List (String × Nat × MethodName × String) := [("ChapterLoan", 9, yX10_init, "ChapterLoan"), ("ChapterLoan$World", 11, yX1_init, "ChapterLoan"), ("ChapterLoan$Town", 25, yX0_init, "ChapterLoan"), ("ChapterLoan$World", 41, yX3_init, "ChapterLoan"), ("ChapterLoan$World", 48, yX7_init, "ChapterLoan"), ("ChapterLoan", 47, yX4_init, "ChapterLoan"), ("ChapterLoan$Reader", 17, yX7_init, "ChapterLoan"), ("ChapterLoan", 54, yX9_init, "ChapterLoan"), ("ChapterLoan", 72, yX6_init, "ChapterLoan")]
def gNI (U : State) : Prop := (∀ q ∈ NIm, va_Nw (.methodLinkNest q.1 q.2.1 q.2.2.1 q.2.2.2) U) ∧ va_Nw (.fieldLinkNest "ChapterLoan$Law" 18 "ChapterLoan" "USUAL_PAY" "[I" "ChapterLoan") U ∧ va_Nw (.fieldLinkNest "ChapterLoan$Law" 21 "ChapterLoan" "USUAL_TRUST" "[I" "ChapterLoan") U
def gAO (U : State) : Prop := va_AO "ChapterLoan$Debtor" U ∧ va_AO "ChapterLoan$Sheet" U
theorem gSU.moved {G : GG} {u U : State} {H : Heap} (hvm : u.vm.Alike U.vm) (h : gSU G u H) : gSU G U H := ⟨⟨h.1.1.moved hvm, h.1.2.moved hvm⟩, ⟨h.2.1.moved hvm, h.2.2.moved hvm⟩⟩
theorem gSU.kept {G : GG} {U : State} {H H1 : Heap} (h : gSU G U H) (hq : ∀ a : Nat, a < H.size → ¬ gA G a → H1[a]? = H[a]?) : gSU G U H1 := ⟨⟨h.1.1.kept hq, h.1.2.kept hq⟩, ⟨h.2.1.kept hq, h.2.2.kept hq⟩⟩
theorem gNI.warm {s U : State} (hW : s.WarmedH U.vm) (h : gNI s) : gNI U := ⟨fun q hq => va_Nw.warmM hW (h.1 q hq), va_Nw.warmF hW h.2.1, va_Nw.warmF hW h.2.2⟩
theorem gNI.same {u U : State} (e : u.vm = U.vm) (h : gNI u) : gNI U := ⟨fun q hq => va_Nw.same rfl e (h.1 q hq), va_Nw.same rfl e h.2.1, va_Nw.same rfl e h.2.2⟩
def WdI (G : GG) (μ : Mem) (n : Nat) (U : State) : Prop := gLin G ∧ U.heap.size = gs0 G + n ∧ va_P (gD G) vwCl (wldI G μ n) U.heap ∧ va_K (gD G) vwCl (gTys G) U ∧ gStat G U U.heap ∧ gNest U ∧ gSU G U U.heap ∧ gNI U ∧ gAO U
def Zr (n : Nat) (μ : Mem) : Prop := ∀ k, n ≤ k → (∀ j, μ.1 k j = 0) ∧ ∀ j, μ.2 k j = 0
theorem zs {n m : Nat} {μ : Mem} (h : Zr n μ) (hm : n ≤ m) : Zr m μ := fun k hk => h k (Nat.le_trans hm hk)
theorem zw {n : Nat} {μ : Mem} (h : Zr n μ) {k j : Nat} {v : Int32} (hk : k < n) : Zr n (wr μ k j v) := fun q hq => by
  have hne : q ≠ k := by omega
  exact ⟨fun b => by simp [wr, hne, (h q hq).1], (h q hq).2⟩
/-- what a table gives to a row: numbers 0 .. n-1 of row k are those of su i -/
def cpS (μ : Mem) (k i n : Nat) : Mem := (fun a b => if a = k ∧ b < n then su i b else μ.1 a b, μ.2)
theorem zc {n : Nat} {μ : Mem} (h : Zr n μ) {k i m : Nat} (hk : k < n) : Zr n (cpS μ k i m) := fun q hq => by
  have hne : q ≠ k := by omega
  exact ⟨fun b => by simp [cpS, hne, (h q hq).1], (h q hq).2⟩
theorem fl_w {μ : Mem} {k j : Nat} {v : Int32} (hv : ¬ v = 0) : ¬ rd (wr μ k j v) k j = 0 := by simpa [rd, wr] using hv
theorem fl_n {μ : Mem} {k j a b : Nat} {v : Int32} (h : ¬ (k = a ∧ j = b)) (hf : ¬ rd μ k j = 0) : ¬ rd (wr μ a b v) k j = 0 := by simpa [rd, wr, h] using hf
theorem wldI_at (G : GG) (μ : Mem) {k n : Nat} (hk : k < n) : (wldI G μ n)[k]? = some (gad G k, celI G μ k) := by simp [wldI, hk]
theorem wldI_inv {G : GG} {μ : Mem} {k n : Nat} {q : Nat × va_E} (h : (wldI G μ n)[k]? = some q) : k < n ∧ q = (gad G k, celI G μ k) := by
  have hk : k < n := by
    have := (List.getElem?_eq_some_iff.mp h).1
    simpa [wldI] using this
  rw [wldI_at G μ hk] at h
  exact ⟨hk, (Option.some.inj h).symm⟩
theorem wldI_D {G : GG} (hL : gLin G) (μ : Mem) (n : Nat) : va_D (gA G) (wldI G μ n) := by
  refine ⟨fun i j x y hi hj e => ?_, fun k q hq => ?_⟩
  · obtain ⟨h1, rfl⟩ := wldI_inv hi
    obtain ⟨h2, rfl⟩ := wldI_inv hj
    have e : gad G i = gad G j := e
    rw [hL, hL] at e
    omega
  · obtain ⟨h1, rfl⟩ := wldI_inv hq
    show gs0 G ≤ gad G k
    rw [hL]; omega
theorem wldI_set {G : GG} {μ μ' : Mem} {k n : Nat} {e : va_E} (he : celI G μ' k = e) (ho : ∀ i, i < n → i ≠ k → celI G μ' i = celI G μ i) : (wldI G μ n).set k (gad G k, e) = wldI G μ' n := by
  apply List.ext_getElem?
  intro i
  by_cases hi : i < n
  · rw [wldI_at G μ' hi]
    by_cases hik : i = k
    · subst hik
      rw [List.getElem?_set_self (by simpa [wldI] using hi), he]
    · rw [List.getElem?_set_ne (Ne.symm hik), wldI_at G μ hi, ho i hi hik]
  · rw [List.getElem?_eq_none (by simpa [wldI] using hi), List.getElem?_eq_none (by simpa [wldI] using hi)]
theorem celI_cg {G : GG} {μ μ' : Mem} {i : Nat} (h1 : μ'.1 i = μ.1 i) (h2 : μ'.2 i = μ.2 i) : celI G μ' i = celI G μ i := by
  have h3 : fvI G μ' i = fvI G μ i := by funext j; simp only [fvI, h1]
  have h4 : raI G μ' i = raI G μ i := by funext j; simp only [raI, h1]
  simp only [celI, fvIs, h1, h2, h3, h4]
theorem celI_ne {G : GG} {μ : Mem} {k j i : Nat} {v : Int32} (h : i ≠ k) : celI G (wr μ k j v) i = celI G μ i :=
  celI_cg (by funext b; simp [wr, h]) rfl
theorem celI_neS {G : GG} {μ : Mem} {k a n i : Nat} (h : i ≠ k) : celI G (cpS μ k a n) i = celI G μ i :=
  celI_cg (by funext b; simp [cpS, h]) rfl
theorem celI_obj {G : GG} {μ : Mem} {k ci : Nat} (h : sh k = ci) (hc : ci < 13) : celI G μ k = .inr (ci, fvIs G μ k (nf ci)) := by
  subst h; simp [celI, hc]
theorem celI_int {G : GG} {μ : Mem} {k : Nat} (h : sh k = 13) : celI G μ k = .inl (gcy G 13, ln k, .inl (μ.1 k)) := by
  simp [celI, h]
theorem celI_long {G : GG} {μ : Mem} {k : Nat} (h : sh k = 14) : celI G μ k = .inl (gcy G 14, ln k, .inr (.inl (μ.2 k))) := by
  simp [celI, h]
theorem celI_ref {G : GG} {μ : Mem} {k ci : Nat} (h : sh k = ci) (h1 : 15 ≤ ci) : celI G μ k = .inl (gcy G ci, ln k, .inr (.inr (.inr (.inr (raI G μ k))))) := by
  subst h
  have a : ¬ sh k < 13 := by omega
  have b : sh k ≠ 13 := by omega
  have c : sh k ≠ 14 := by omega
  simp [celI, a, b, c]
theorem fvIs_get {G : GG} {μ : Mem} {k n j : Nat} (h : j < n) : (fvIs G μ k n)[j]? = some (fvI G μ k j) := by
  simp [fvIs, h]
theorem fvIs_len {G : GG} {μ : Mem} {k n : Nat} : (fvIs G μ k n).length = n := by simp [fvIs]
theorem fvIs_set {G : GG} {μ : Mem} {k n j : Nat} {v : Int32} {w : Value} (hw : fvI G (wr μ k j v) k j = w) : (fvIs G μ k n).set j w = fvIs G (wr μ k j v) k n := by
  apply List.ext_getElem?
  intro i
  by_cases hi : i < n
  · rw [fvIs_get hi]
    by_cases hij : i = j
    · subst hij
      rw [List.getElem?_set_self (by rw [fvIs_len]; exact hi), hw]
    · rw [List.getElem?_set_ne (Ne.symm hij), fvIs_get hi]
      simp [fvI, wr, hij]
  · rw [List.getElem?_eq_none (by simpa [fvIs] using hi), List.getElem?_eq_none (by simpa [fvIs] using hi)]
theorem wldI_push {D : va_G} {cl : List vw_C} {G : GG} {μ : Mem} {n : Nat} {H H1 : Heap} (hP : va_P D cl (wldI G μ n) H) (ho : ∀ q, q < H.size → H1[q]? = H[q]?) (hn : va_at D cl (gad G n, celI G μ n) H1) : va_P D cl (wldI G μ (n + 1)) H1 := by
  intro k q hq
  obtain ⟨hk, rfl⟩ := wldI_inv hq
  by_cases hkn : k < n
  · have h := hP k _ (wldI_at G μ hkn)
    exact h.kept (ho _ h.lt)
  · have e : k = n := by omega
    subst e
    exact hn
theorem wldI_low {D : va_G} {cl : List vw_C} {G : GG} {μ : Mem} {n : Nat} {H : Heap} (hL : gLin G) (hP : va_P D cl (wldI G μ (n + 1)) H) : gs0 G + (n + 1) ≤ H.size := by
  have h := (hP n _ (wldI_at G μ (Nat.lt_succ_self n))).lt
  have h : gad G n < H.size := h
  rw [hL] at h
  omega
theorem W.sz {p : Program} {l : Launch} {e : Env} {R : Room} {s : State} {m : MethodId} {args : Array Value} {below : List Frame} {meth : Method} {c : Code} {H : Heap} {locs : List Loc} {cells slots : Nat} {Q : State → Prop} {g : JFrame} (hlow : s.heap.size + cells ≤ H.size) (k : H.size = s.heap.size + cells → W p l e R s m args below meth c H locs cells slots Q g) : W p l e R s m args below meth c H locs cells slots Q g := fun T hT X => k (by have h := X.heapSize; rw [hT] at h; omega) T hT X
/-- a row from a static table into a row of the world -/
theorem va_copyT {p : Program} {l : Launch} {e : Env} {R : Room} {s : State} {m : MethodId} {args : Array Value} {below : List Frame} {meth : Method} {c : Code} {H : Heap} {locs : List Loc} {cells slots : Nat} {Q : State → Prop} {cc : ByteArray} {pc : Nat} {ls : Array Slot} {rest : List Value} {D : va_G} {cl : List vw_C} {A : Nat → Prop} {a : Nat} {tys : List (ClassId × FieldType)} {ws : va_W} (hexec : p.tables.exec = Jvm.exec) (hb : c.code = cc) (hml : c.maxLocals = ls.size) {own : String} {index : Nat} (hown : s.vm.findClass own = some m.cls) (hlink : (Cond.methodLink own index arraycopyName).before args s = true) (hnat : (Cond.native arraycopyName).before args s = true) (hstat : (Cond.static arraycopyName).before args s = true) (hini : (Cond.initialized "java/lang/System").before args s = true)
    (hK : va_K D cl tys s) (hP : va_P D cl ws H) (hD : va_D A ws) (hS : va_S A s.heap H locs) {b0 n0 : Nat} {f : Nat → Int32} (hX : va_T .int b0 n0 (fun j => .int (f j)) A s s.heap) (q1 t1 : Nat) {c1 : ClassId} {n1 : Nat} {g : Nat → Int32} (ha1 : ws[q1]? = some (a, .inl (c1, n1, .inl g))) (ht1 : tys[t1]? = some (c1, .int))
    {n : Int32} (h3 : ¬ n < 0) (h4 : n.toNatClampNeg ≤ n0) (h5 : n.toNatClampNeg ≤ n1)
    (hframes : 1 ≤ R.frames) (hlocals : (rest.map fun v => v.category).sum + (nativeFrameWords "java/lang/System" "arraycopy" 5 + 11) ≤ R.locals) (hdg : decode cc pc = .ok (.invokestatic index, 3))
    (kk : ∀ (H1 : Heap) (locs1 : List Loc), va_P D cl (ws.set q1 (a, .inl (c1, n1, .inl (fun j => if j < n.toNatClampNeg then f j else g j)))) H1 → va_S A s.heap H1 locs1 → W p l e R s m args below meth c H1 locs1 cells slots Q (F0 m (pc + 3) ls rest)) : W p l e R s m args below meth c H locs cells slots Q (F0 m pc ls (.int n :: .int 0 :: .ref a :: .int 0 :: .ref b0 :: rest)) := by
  obtain ⟨scr, hs1, hs2, hs3, hs4, hs4', hs5, hbA⟩ := hX
  have hbl : b0 < s.heap.size := (Array.getElem?_eq_some_iff.mp hs1).1
  have nn : n.toInt = (n.toNatClampNeg : Int) := by
    have hz0 : (0 : Int) ≤ n.toInt := by
      have := Int32.not_lt.mp h3
      simpa using Int32.le_iff_toInt_le.mp this
    show n.toInt = ((n.toInt.toNat : Nat) : Int)
    omega
  have z0 : (0 : Int32).toInt = 0 := by decide
  have z1 : (0 : Int32).toNatClampNeg = 0 := by decide
  intro T hT X
  have hc0 : H[b0]? = some scr := by rw [hS.2.1 b0 hbl hbA]; exact hs1
  have hc1 : H[a]? = some (vp_cell c1 (n1, .inl g)) := hP q1 _ ha1
  obtain ⟨hs6, k0, hk0, cm0, hkk0⟩ := hs2
  obtain ⟨-, k1, hk1, cm1, hkk1⟩ := (hK.2 t1 _ ht1).1 n1 (fun j => .int (g j))
  obtain ⟨vm', X', step⟩ := X.arraycopy hexec hown hlink hnat hstat hini (src := b0) (dst := a) (cs := scr) (cd := vp_cell c1 (n1, .inl g)) (srcPos := 0) (destPos := 0) (n := n) (by rw [hT]; exact hc0) (by rw [hT]; exact hc1)
    hs6 (fun _ h => by cases h) hs3 (fun h => by cases h) hk0 hk1 hkk0 hkk1 (by simp [refKind]) (by decide) (by decide) h3
    (by rw [nn, z0]; omega)
    (by rw [nn, z0]; show ¬ _ > ((arrV c1 n1 (fun j => .int (g j))).slots.size : Int); rw [arrV_size]; omega)
    (fun vm₁ _ i hi => by
      have e : scr.slots.getD ((0 : Int32).toNatClampNeg + i) .null = .int (f i) := by
        rw [z1, Nat.zero_add, Array.getD_eq_getD_getElem?, hs5 _ (by omega)]
        rfl
      refine ⟨?_, ?_⟩
      · rw [e]
        rfl
      · rw [e]
        exact trivial)
    (g := F0 m pc ls (.int n :: .int 0 :: .ref a :: .int 0 :: .ref b0 :: rest)) rfl (by rw [hml]) (rest := rest) rfl (by rw [hb]; exact hdg) hframes (by show 2 * 0 + _ + _ ≤ _; omega)
  have e1 : copied scr (vp_cell c1 (n1, .inl g)) 0 0 n = vp_cell c1 (n1, .inl (fun j => if j < n.toNatClampNeg then f j else g j)) := by
    have h := va_copiedX (n0 := n0) (n1 := n1) (sp := 0) (dp := 0) (n := n.toNatClampNeg) (fun z => Value.int z) scr c1 f g hs5 (by omega)
    refine (show copied scr (vp_cell c1 (n1, .inl g)) 0 0 n = arrV c1 n1 (fun j => Value.int (va_cpy f g 0 0 n.toNatClampNeg j)) from h).trans ?_
    rw [vp_cell_i]
    congr 1
    funext j
    simp only [va_cpy, Nat.zero_le, Nat.zero_add, Nat.sub_zero, true_and]
  rw [e1] at X' step
  have hl : a < H.size := (Array.getElem?_eq_some_iff.mp hc1).1
  have hheap : ((T.setVm vm').setCell a (vp_cell c1 (n1, .inl (fun j => if j < n.toNatClampNeg then f j else g j)))).heap = H.setIfInBounds a (vp_cell c1 (n1, .inl (fun j => if j < n.toNatClampNeg then f j else g j))) := by rw [← hT]; rfl
  have oq : ∀ q : Nat, q ≠ a → (H.setIfInBounds a (vp_cell c1 (n1, .inl (fun j => if j < n.toNatClampNeg then f j else g j))))[q]? = H[q]? := fun q hq => by simp [Array.getElem?_setIfInBounds, Ne.symm hq]
  obtain ⟨t, a1, b1⟩ := kk _ _ (hP.set hD ha1 (show (H.setIfInBounds a _)[a]? = some _ by simp [Array.getElem?_setIfInBounds, hl]) oq) ⟨by simp; exact hS.1, fun q g1 g2 => by
      rw [oq q (fun e => g2 (by rw [e]; exact hD.2 q1 _ ha1))]
      exact hS.2.1 q g1 g2, fun q hq => by
      rcases List.mem_append.mp hq with h | h
      · exact hS.2.2 q h
      · obtain ⟨z, -, hz⟩ := List.mem_map.mp h
        rw [← hz]
        exact hD.2 q1 _ ha1⟩ _ hheap X'
  exact ⟨t, step t a1, b1⟩
def QGI (G : GG) (n : Nat) (μ : Mem) : Array Value → State → Outcome → State → Prop := fun _ st oc t => (oc = .returned none ∧ WdI G μ n t) ∧ va_F (gA G) st t
def rmI (d mc ms : Nat) : Room := { frames := d + 1, cells := mc, slots := ms, locals := 40 * (d + 1) }
def CTI (l : Launch) (y : MethodName) (cy : ByteArray) (mL : Nat) (d : Nat) (G : GG) (av : List Value) (n0 : Nat) (μ : Mem) (mc ms : Nat) (μ1 : Mem) : Prop :=
  Met l y (Cond.code y cy mL none :: AL) (rmI d mc ms) (va_Pc av (WdI G μ n0)) (QGI G (n0 + mc) μ1) mc ms (gA G)
def cMn : Cx → String := fun C => C.2.2.2.2.2.2.2.2.1.name
def CxI (C : Cx) (cc : ByteArray) (nL : Nat) (own : String) (d n0 mc ms : Nat) : Prop := match C with
  | (p, l, e, R, s, m, args, below, meth, c, G, Q, cells, slots) => (p.tables.exec = Jvm.exec ∧ c.code = cc ∧ c.maxLocals = nL ∧ s.vm.findClass own = some m.cls ∧ ∀ w ∈ AL, w.before args s = true) ∧ meth.locks = false ∧ gLin G ∧ s.heap.size = gs0 G + n0 ∧ va_K (gD G) vwCl (gTys G) s ∧ gStat G s s.heap ∧ gNest s ∧ gSU G s s.heap ∧ gNI s ∧ gAO s ∧ (d + 1 ≤ R.frames ∧ 40 + 40 * d ≤ R.locals) ∧ (mc ≤ R.cells ∧ ms ≤ R.slots)
def CxRetI (C : Cx) (n : Nat) (μ : Mem) (mc ms : Nat) : Prop := match C with
  | (p, l, e, R, s, m, args, below, meth, c, G, Q, cells, slots) => Q = MQ below (QGI G n μ) args s mc ms (gA G)
def UI (C : Cx) (nL n c0 s0 : Nat) (μ : Mem) (pc : Nat) (lc : List (Nat × Value)) (sk : List Value) : Prop := match C with
  | (p, l, e, R, s, m, args, below, meth, c, G, Q, cells, slots) => ∀ (H : Heap) (locs : List Loc) (ls : Array Slot), va_P (gD G) vwCl (wldI G μ n) H → va_S (gA G) s.heap H locs → lv_has ls nL lc → W p l e R s m args below meth c H locs c0 s0 Q (F0 m pc ls sk)
theorem v_iconst {C : Cx} {cc : ByteArray} {nL : Nat} {own : String} {d n0 mc ms : Nat} (hC : CxI C cc nL own d n0 mc ms) {n c0 s0 : Nat} {μ : Mem} {pc : Nat} {lc : List (Nat × Value)} {sk : List Value} {v : Int32} {q : Int} (hv : Int32.ofInt q = v) (hd : decode cc pc = .ok (.iconst q, 1)) (k : UI C nL n c0 s0 μ (pc + 1) lc (.int v :: sk)) : UI C nL n c0 s0 μ pc lc sk := by
  obtain ⟨p, l, e, R, s, m, args, below, meth, c, G, Q, cells, slots⟩ := C
  obtain ⟨⟨hx, hb, hml, hown, hts⟩, hlk, hL, hs0, hK, hSt, hNs, hSU, hNI, hAO, hR, hcs⟩ := hC
  intro H locs ls hP hS hl
  exact lv_iconst hx hb hd hv (k H locs ls hP hS hl)
theorem v_bipush {C : Cx} {cc : ByteArray} {nL : Nat} {own : String} {d n0 mc ms : Nat} (hC : CxI C cc nL own d n0 mc ms) {n c0 s0 : Nat} {μ : Mem} {pc : Nat} {lc : List (Nat × Value)} {sk : List Value} {v : Int32} {q : Int} (hv : (Int8.ofInt q).toInt32 = v) (hd : decode cc pc = .ok (.bipush q, 2)) (k : UI C nL n c0 s0 μ (pc + 2) lc (.int v :: sk)) : UI C nL n c0 s0 μ pc lc sk := by
  obtain ⟨p, l, e, R, s, m, args, below, meth, c, G, Q, cells, slots⟩ := C
  obtain ⟨⟨hx, hb, hml, hown, hts⟩, hlk, hL, hs0, hK, hSt, hNs, hSU, hNI, hAO, hR, hcs⟩ := hC
  intro H locs ls hP hS hl
  exact lv_bipush hx hb hd hv (k H locs ls hP hS hl)
theorem v_sipush {C : Cx} {cc : ByteArray} {nL : Nat} {own : String} {d n0 mc ms : Nat} (hC : CxI C cc nL own d n0 mc ms) {n c0 s0 : Nat} {μ : Mem} {pc : Nat} {lc : List (Nat × Value)} {sk : List Value} {v : Int32} {q : Int} (hv : (Int16.ofInt q).toInt32 = v) (hd : decode cc pc = .ok (.sipush q, 3)) (k : UI C nL n c0 s0 μ (pc + 3) lc (.int v :: sk)) : UI C nL n c0 s0 μ pc lc sk := by
  obtain ⟨p, l, e, R, s, m, args, below, meth, c, G, Q, cells, slots⟩ := C
  obtain ⟨⟨hx, hb, hml, hown, hts⟩, hlk, hL, hs0, hK, hSt, hNs, hSU, hNI, hAO, hR, hcs⟩ := hC
  intro H locs ls hP hS hl
  exact lv_sipush hx hb hd hv (k H locs ls hP hS hl)
theorem v_iload_n {C : Cx} {cc : ByteArray} {nL : Nat} {own : String} {d n0 mc ms : Nat} (hC : CxI C cc nL own d n0 mc ms) {n c0 s0 : Nat} {μ : Mem} {pc : Nat} {lc : List (Nat × Value)} {sk : List Value} {f : Fin 4} {i : Nat} {x : Int32} (hd : decode cc pc = .ok (.iload_n f, 1)) (hi : (f : Nat) = i) (q : Nat) (hq : lc[q]? = some (i, .int x)) (k : UI C nL n c0 s0 μ (pc + 1) lc (.int x :: sk)) : UI C nL n c0 s0 μ pc lc sk := by
  obtain ⟨p, l, e, R, s, m, args, below, meth, c, G, Q, cells, slots⟩ := C
  obtain ⟨⟨hx, hb, hml, hown, hts⟩, hlk, hL, hs0, hK, hSt, hNs, hSU, hNI, hAO, hR, hcs⟩ := hC
  intro H locs ls hP hS hl
  exact lv_iload_n hx hb hd hi (lv_at hl q hq) (k H locs ls hP hS hl)
theorem v_istore_n {C : Cx} {cc : ByteArray} {nL : Nat} {own : String} {d n0 mc ms : Nat} (hC : CxI C cc nL own d n0 mc ms) {n c0 s0 : Nat} {μ : Mem} {pc : Nat} {lc : List (Nat × Value)} {sk : List Value} {f : Fin 4} {i : Nat} {x : Int32} (hd : decode cc pc = .ok (.istore_n f, 1)) (hi : (f : Nat) = i) (lc1 : List (Nat × Value)) (hn : i < nL) (hq : (i, Value.int x) :: lc.filter (fun q => !(q.1 == i) && !(q.1 + 1 == i && q.2.category == 2)) = lc1) (k : UI C nL n c0 s0 μ (pc + 1) lc1 sk) : UI C nL n c0 s0 μ pc lc (.int x :: sk) := by
  obtain ⟨p, l, e, R, s, m, args, below, meth, c, G, Q, cells, slots⟩ := C
  obtain ⟨⟨hx, hb, hml, hown, hts⟩, hlk, hL, hs0, hK, hSt, hNs, hSU, hNI, hAO, hR, hcs⟩ := hC
  intro H locs ls hP hS hl
  exact lv_istore_n hx hb hd hi hl hn hq (fun ls hl => k H locs ls hP hS hl)
theorem v_aload_n {C : Cx} {cc : ByteArray} {nL : Nat} {own : String} {d n0 mc ms : Nat} (hC : CxI C cc nL own d n0 mc ms) {n c0 s0 : Nat} {μ : Mem} {pc : Nat} {lc : List (Nat × Value)} {sk : List Value} {f : Fin 4} {i : Nat} {x : Nat} (hd : decode cc pc = .ok (.aload_n f, 1)) (hi : (f : Nat) = i) (q : Nat) (hq : lc[q]? = some (i, .ref x)) (k : UI C nL n c0 s0 μ (pc + 1) lc (.ref x :: sk)) : UI C nL n c0 s0 μ pc lc sk := by
  obtain ⟨p, l, e, R, s, m, args, below, meth, c, G, Q, cells, slots⟩ := C
  obtain ⟨⟨hx, hb, hml, hown, hts⟩, hlk, hL, hs0, hK, hSt, hNs, hSU, hNI, hAO, hR, hcs⟩ := hC
  intro H locs ls hP hS hl
  exact lv_aload_n hx hb hd hi (lv_at hl q hq) (k H locs ls hP hS hl)
theorem v_astore_n {C : Cx} {cc : ByteArray} {nL : Nat} {own : String} {d n0 mc ms : Nat} (hC : CxI C cc nL own d n0 mc ms) {n c0 s0 : Nat} {μ : Mem} {pc : Nat} {lc : List (Nat × Value)} {sk : List Value} {f : Fin 4} {i : Nat} {x : Nat} (hd : decode cc pc = .ok (.astore_n f, 1)) (hi : (f : Nat) = i) (lc1 : List (Nat × Value)) (hn : i < nL) (hq : (i, Value.ref x) :: lc.filter (fun q => !(q.1 == i) && !(q.1 + 1 == i && q.2.category == 2)) = lc1) (k : UI C nL n c0 s0 μ (pc + 1) lc1 sk) : UI C nL n c0 s0 μ pc lc (.ref x :: sk) := by
  obtain ⟨p, l, e, R, s, m, args, below, meth, c, G, Q, cells, slots⟩ := C
  obtain ⟨⟨hx, hb, hml, hown, hts⟩, hlk, hL, hs0, hK, hSt, hNs, hSU, hNI, hAO, hR, hcs⟩ := hC
  intro H locs ls hP hS hl
  exact lv_astore_n hx hb hd hi hl hn hq (fun ls hl => k H locs ls hP hS hl)
theorem v_iinc {C : Cx} {cc : ByteArray} {nL : Nat} {own : String} {d n0 mc ms : Nat} (hC : CxI C cc nL own d n0 mc ms) {n c0 s0 : Nat} {μ : Mem} {pc : Nat} {lc : List (Nat × Value)} {sk : List Value} {i : Nat} {a : Int} {x : Int32} (hd : decode cc pc = .ok (.iinc i a, 3)) (q : Nat) (hq : lc[q]? = some (i, .int x)) (v : Int32) (hv : x + Int32.ofInt a = v) (lc1 : List (Nat × Value)) (hn : i < nL) (hf : (i, Value.int v) :: lc.filter (fun q => !(q.1 == i) && !(q.1 + 1 == i && q.2.category == 2)) = lc1) (k : UI C nL n c0 s0 μ (pc + 3) lc1 sk) : UI C nL n c0 s0 μ pc lc sk := by
  obtain ⟨p, l, e, R, s, m, args, below, meth, c, G, Q, cells, slots⟩ := C
  obtain ⟨⟨hx, hb, hml, hown, hts⟩, hlk, hL, hs0, hK, hSt, hNs, hSU, hNI, hAO, hR, hcs⟩ := hC
  intro H locs ls hP hS hl
  exact lv_iinc hx hb hd hl hq hv hn hf (fun ls hl => k H locs ls hP hS hl)
theorem v_dup {C : Cx} {cc : ByteArray} {nL : Nat} {own : String} {d n0 mc ms : Nat} (hC : CxI C cc nL own d n0 mc ms) {n c0 s0 : Nat} {μ : Mem} {pc : Nat} {lc : List (Nat × Value)} {sk : List Value} {va : Value} (hva : va.category = 1) (hd : decode cc pc = .ok (.dup, 1)) (k : UI C nL n c0 s0 μ (pc + 1) lc (va :: va :: sk)) : UI C nL n c0 s0 μ pc lc (va :: sk) := by
  obtain ⟨p, l, e, R, s, m, args, below, meth, c, G, Q, cells, slots⟩ := C
  obtain ⟨⟨hx, hb, hml, hown, hts⟩, hlk, hL, hs0, hK, hSt, hNs, hSU, hNI, hAO, hR, hcs⟩ := hC
  intro H locs ls hP hS hl
  exact lv_dup hx hb hd hva (k H locs ls hP hS hl)
theorem v_goto {C : Cx} {cc : ByteArray} {nL : Nat} {own : String} {d n0 mc ms : Nat} (hC : CxI C cc nL own d n0 mc ms) {n c0 s0 : Nat} {μ : Mem} {pc : Nat} {lc : List (Nat × Value)} {sk : List Value} {off : Int} (tgt : Nat) (hd : decode cc pc = .ok (.goto off, 3)) (ht : (pc : Int) + off = (tgt : Int)) (k : UI C nL n c0 s0 μ tgt lc sk) : UI C nL n c0 s0 μ pc lc sk := by
  obtain ⟨p, l, e, R, s, m, args, below, meth, c, G, Q, cells, slots⟩ := C
  obtain ⟨⟨hx, hb, hml, hown, hts⟩, hlk, hL, hs0, hK, hSt, hNs, hSU, hNI, hAO, hR, hcs⟩ := hC
  intro H locs ls hP hS hl
  exact lv_goto hx hb hd ht (k H locs ls hP hS hl)
theorem v_icmp_ge {C : Cx} {cc : ByteArray} {nL : Nat} {own : String} {d n0 mc ms : Nat} (hC : CxI C cc nL own d n0 mc ms) {n c0 s0 : Nat} {μ : Mem} {pc : Nat} {lc : List (Nat × Value)} {sk : List Value} {x y : Int32} {off : Int} (tgt : Nat) (hd : decode cc pc = .ok (.if_icmp .ge off, 3)) (ht : (pc : Int) + off = (tgt : Int)) (kt : y ≤ x → UI C nL n c0 s0 μ tgt lc sk) (kf : ¬ y ≤ x → UI C nL n c0 s0 μ (pc + 3) lc sk) : UI C nL n c0 s0 μ pc lc (.int y :: .int x :: sk) := by
  obtain ⟨p, l, e, R, s, m, args, below, meth, c, G, Q, cells, slots⟩ := C
  obtain ⟨⟨hx, hb, hml, hown, hts⟩, hlk, hL, hs0, hK, hSt, hNs, hSU, hNI, hAO, hR, hcs⟩ := hC
  intro H locs ls hP hS hl
  exact lv_icmp_ge hx hb hd ht (fun h => kt h H locs ls hP hS hl) (fun h => kf h H locs ls hP hS hl)
theorem v_if_ne {C : Cx} {cc : ByteArray} {nL : Nat} {own : String} {d n0 mc ms : Nat} (hC : CxI C cc nL own d n0 mc ms) {n c0 s0 : Nat} {μ : Mem} {pc : Nat} {lc : List (Nat × Value)} {sk : List Value} {x : Int32} {off : Int} (tgt : Nat) (hd : decode cc pc = .ok (.ifCond .ne off, 3)) (ht : (pc : Int) + off = (tgt : Int)) (kt : ¬ x = 0 → UI C nL n c0 s0 μ tgt lc sk) (kf : x = 0 → UI C nL n c0 s0 μ (pc + 3) lc sk) : UI C nL n c0 s0 μ pc lc (.int x :: sk) := by
  obtain ⟨p, l, e, R, s, m, args, below, meth, c, G, Q, cells, slots⟩ := C
  obtain ⟨⟨hx, hb, hml, hown, hts⟩, hlk, hL, hs0, hK, hSt, hNs, hSU, hNI, hAO, hR, hcs⟩ := hC
  intro H locs ls hP hS hl
  exact lv_if_ne hx hb hd ht (fun h => kt h H locs ls hP hS hl) (fun h => kf h H locs ls hP hS hl)
theorem v_objInit {C : Cx} {cc : ByteArray} {nL : Nat} {own : String} {d n0 mc ms : Nat} (hC : CxI C cc nL own d n0 mc ms) {n c0 s0 : Nat} {μ : Mem} {pc : Nat} {lc : List (Nat × Value)} {sk : List Value} {idx k : Nat} (hl1 : Cond.methodLink own idx objectInit ∈ AL) (hl2 : Cond.instanceMethod objectInit ∈ AL) (hl3 : Cond.code objectInit ⟨#[0xb1]⟩ 1 none ∈ AL) (hcat : (sk.map fun v => v.category).sum ≤ 8) (hd : decode cc pc = .ok (.invokespecial idx, 3)) (k1 : UI C nL n c0 s0 μ (pc + 3) lc sk) : UI C nL n c0 s0 μ pc lc (.ref (gad (cG C) k) :: sk) := by
  obtain ⟨p, l, e, R, s, m, args, below, meth, c, G, Q, cells, slots⟩ := C
  obtain ⟨⟨hx, hb, hml, hown, hts⟩, hlk, hL, hs0, hK, hSt, hNs, hSU, hNI, hAO, hR, hcs⟩ := hC
  intro H locs ls hP hS hl
  refine W.objInit hx hb hown (hts _ hl1) (hts _ hl2) (hts _ hl3) rfl (hl.1.trans hml.symm) rfl hd (by omega) (by show 2 * 0 + _ + 12 ≤ _; omega) (k1 H locs ls hP hS hl)
theorem v_getR {C : Cx} {cc : ByteArray} {nL : Nat} {own : String} {d n0 mc ms : Nat} (hC : CxI C cc nL own d n0 mc ms) {n c0 s0 : Nat} {μ : Mem} {pc : Nat} {lc : List (Nat × Value)} {sk : List Value} (ci j : Nat) {Cn : String} {T : u_T} {N index : Nat} (hcl : vwCl[ci]? = some (Cn, T, N)) (hin : ∀ w ∈ u_ws Cn T N, w ∈ AL) (hj : j < N) (hN : nf ci = N) (hci : ci < 13) (hlink : Cond.fieldLink own index Cn (T j).2.1 (T j).2.2.1 ∈ AL) (hT1 : (T j).1 = Cn) {k : Nat} (hk1 : k < n) (hk2 : sh k = ci) (hf : fk ci j = 1) (hfl : ¬ rd μ k j = 0) (hd : decode cc pc = .ok (.getfield index, 3)) (kk : UI C nL n c0 s0 μ (pc + 3) lc (.ref (gad (cG C) (rf k j)) :: sk)) : UI C nL n c0 s0 μ pc lc (.ref (gad (cG C) k) :: sk) := by
  obtain ⟨p, l, e, R, s, m, args, below, meth, c, G, Q, cells, slots⟩ := C
  obtain ⟨⟨hx, hb, hml, hown, hts⟩, hlk, hL, hs0, hK, hSt, hNs, hSU, hNI, hAO, hR, hcs⟩ := hC
  intro H locs ls hP hS hl
  have he : (wldI G μ n)[k]? = some (gad G k, .inr (ci, fvIs G μ k (nf ci))) := by rw [wldI_at G μ hk1, celI_obj hk2 hci]
  refine va_get hx hb hts hin hown hK hP k he hcl j hj (hts _ hlink) (fun x h => by rw [hT1] at h; exact h) (v := .ref (gad G (rf k j))) ?_ hd (kk H locs ls hP hS hl)
  rw [fvIs_get (by rw [hN]; exact hj)]
  have hfl : ¬ μ.1 k j = 0 := hfl
  simp [fvI, hk2, hf, hfl]
theorem v_putFR {C : Cx} {cc : ByteArray} {nL : Nat} {own : String} {d n0 mc ms : Nat} (hC : CxI C cc nL own d n0 mc ms) {n c0 s0 : Nat} {μ : Mem} {pc : Nat} {lc : List (Nat × Value)} {sk : List Value} (ci j : Nat) {Cn : String} {T : u_T} {N index : Nat} (hcl : vwCl[ci]? = some (Cn, T, N)) (hin : ∀ w ∈ u_ws Cn T N, w ∈ AL) (hj : j < N) (hN : nf ci = N) (hci : ci < 13) (hlink : Cond.fieldLink own index Cn (T j).2.1 (T j).2.2.1 ∈ AL) (hT1 : (T j).1 = Cn) {k : Nat} (hk1 : k < n) (hk2 : sh k = ci) (ty0 : Nat → FieldType) (hty : ∀ k, k < N → parseFieldDescriptor (T k).2.2.1 = some (ty0 k)) (hnm : ∀ a, a < N → ∀ b, b < N → a ≠ b → (T a).2.1 ≠ (T b).2.1) (hfin : (T j).2.2.2 = true) (hmn : cMn C = "<init>") (hdecl : (T j).1 = own) {ty : FieldType} (hpd : parseFieldDescriptor (T j).2.2.1 = some ty) (hn : narrow ty (.ref (gad (cG C) (rf k j))) = .ref (gad (cG C) (rf k j))) (hft : fits ty (.ref (gad (cG C) (rf k j))) = true) (hf : fk ci j = 1) (hd : decode cc pc = .ok (.putfield index, 3)) (kk : UI C nL n c0 s0 (wr μ k j (1)) (pc + 3) lc sk) : UI C nL n c0 s0 μ pc lc (.ref (gad (cG C) (rf k j)) :: .ref (gad (cG C) k) :: sk) := by
  obtain ⟨p, l, e, R, s, m, args, below, meth, c, G, Q, cells, slots⟩ := C
  obtain ⟨⟨hx, hb, hml, hown, hts⟩, hlk, hL, hs0, hK, hSt, hNs, hSU, hNI, hAO, hR, hcs⟩ := hC
  intro H locs ls hP hS hl
  have he : (wldI G μ n)[k]? = some (gad G k, .inr (ci, fvIs G μ k (nf ci))) := by rw [wldI_at G μ hk1, celI_obj hk2 hci]
  refine va_putF hx hb hts hin ty0 hty hnm hown hK hP (wldI_D hL μ n) hS k he hcl j hj (hts _ hlink) (fun x h => by rw [hT1] at h; exact h) hfin hmn hdecl hpd hn hft (by rw [fvIs_len, hN]; exact hj) hd (fun H1 locs1 hP1 hD1 hS1 => ?_)
  have hset : (wldI G μ n).set k (gad G k, .inr (ci, (fvIs G μ k (nf ci)).set j (.ref (gad G (rf k j))))) = wldI G (wr μ k j (1)) n := by
    refine wldI_set ?_ (fun i _ hi => celI_ne hi)
    rw [celI_obj hk2 hci, fvIs_set (v := 1)]
    simp [fvI, hk2, hf, wr]
  have hP1 : va_P (gD G) vwCl ((wldI G μ n).set k (gad G k, .inr (ci, (fvIs G μ k (nf ci)).set j (.ref (gad G (rf k j)))))) H1 := hP1
  rw [hset] at hP1
  exact kk H1 locs1 ls hP1 hS1 hl
theorem v_putM {C : Cx} {cc : ByteArray} {nL : Nat} {own : String} {d n0 mc ms : Nat} (hC : CxI C cc nL own d n0 mc ms) {n c0 s0 : Nat} {μ : Mem} {pc : Nat} {lc : List (Nat × Value)} {sk : List Value} (ci j : Nat) {Cn : String} {T : u_T} {N index : Nat} (hcl : vwCl[ci]? = some (Cn, T, N)) (hin : ∀ w ∈ u_ws Cn T N, w ∈ AL) (hj : j < N) (hN : nf ci = N) (hci : ci < 13) (hlink : Cond.fieldLink own index Cn (T j).2.1 (T j).2.2.1 ∈ AL) (hT1 : (T j).1 = Cn) {k : Nat} (hk1 : k < n) (hk2 : sh k = ci) (ty0 : Nat → FieldType) (hty : ∀ k, k < N → parseFieldDescriptor (T k).2.2.1 = some (ty0 k)) (hnm : ∀ a, a < N → ∀ b, b < N → a ≠ b → (T a).2.1 ≠ (T b).2.1) (hfin : (T j).2.2.2 = false) {ty : FieldType} (hpd : parseFieldDescriptor (T j).2.2.1 = some ty) {k2 : Nat} (hk3 : k2 < NC) (hk4 : 0 < k2) (hn : narrow ty (.ref (gad (cG C) k2)) = .ref (gad (cG C) k2)) (hft : fits ty (.ref (gad (cG C) k2)) = true) (hf : fk ci j = 2) (hd : decode cc pc = .ok (.putfield index, 3)) (kk : UI C nL n c0 s0 (wr μ k j (nI k2)) (pc + 3) lc sk) : UI C nL n c0 s0 μ pc lc (.ref (gad (cG C) k2) :: .ref (gad (cG C) k) :: sk) := by
  obtain ⟨p, l, e, R, s, m, args, below, meth, c, G, Q, cells, slots⟩ := C
  obtain ⟨⟨hx, hb, hml, hown, hts⟩, hlk, hL, hs0, hK, hSt, hNs, hSU, hNI, hAO, hR, hcs⟩ := hC
  intro H locs ls hP hS hl
  have he : (wldI G μ n)[k]? = some (gad G k, .inr (ci, fvIs G μ k (nf ci))) := by rw [wldI_at G μ hk1, celI_obj hk2 hci]
  refine va_put hx hb hts hin ty0 hty hnm hown hK hP (wldI_D hL μ n) hS k he hcl j hj (hts _ hlink) (fun x h => by rw [hT1] at h; exact h) hfin hpd hn hft (by rw [fvIs_len, hN]; exact hj) hd (fun H1 locs1 hP1 hD1 hS1 => ?_)
  have hset : (wldI G μ n).set k (gad G k, .inr (ci, (fvIs G μ k (nf ci)).set j (.ref (gad G k2)))) = wldI G (wr μ k j (nI k2)) n := by
    refine wldI_set ?_ (fun i _ hi => celI_ne hi)
    rw [celI_obj hk2 hci, fvIs_set (v := nI k2)]
    have h5 : (nI k2).toNatClampNeg = k2 := nI_clamp (Nat.lt_of_lt_of_le hk3 (Nat.le_of_ble_eq_true rfl))
    have h6 : ¬ nI k2 = 0 := nI_ne0 hk4 (Nat.lt_of_lt_of_le hk3 (Nat.le_of_ble_eq_true rfl))
    simp [fvI, hk2, hf, wr, h5, h6]
  have hP1 : va_P (gD G) vwCl ((wldI G μ n).set k (gad G k, .inr (ci, (fvIs G μ k (nf ci)).set j (.ref (gad G k2))))) H1 := hP1
  rw [hset] at hP1
  exact kk H1 locs1 ls hP1 hS1 hl
theorem v_putI {C : Cx} {cc : ByteArray} {nL : Nat} {own : String} {d n0 mc ms : Nat} (hC : CxI C cc nL own d n0 mc ms) {n c0 s0 : Nat} {μ : Mem} {pc : Nat} {lc : List (Nat × Value)} {sk : List Value} (ci j : Nat) {Cn : String} {T : u_T} {N index : Nat} (hcl : vwCl[ci]? = some (Cn, T, N)) (hin : ∀ w ∈ u_ws Cn T N, w ∈ AL) (hj : j < N) (hN : nf ci = N) (hci : ci < 13) (hlink : Cond.fieldLink own index Cn (T j).2.1 (T j).2.2.1 ∈ AL) (hT1 : (T j).1 = Cn) {k : Nat} (hk1 : k < n) (hk2 : sh k = ci) (ty0 : Nat → FieldType) (hty : ∀ k, k < N → parseFieldDescriptor (T k).2.2.1 = some (ty0 k)) (hnm : ∀ a, a < N → ∀ b, b < N → a ≠ b → (T a).2.1 ≠ (T b).2.1) (hfin : (T j).2.2.2 = false) {ty : FieldType} (hpd : parseFieldDescriptor (T j).2.2.1 = some ty) {v : Int32} (hn : narrow ty (.int v) = .int v) (hft : fits ty (.int v) = true) (hf : fk ci j = 0) (hd : decode cc pc = .ok (.putfield index, 3)) (kk : UI C nL n c0 s0 (wr μ k j (v)) (pc + 3) lc sk) : UI C nL n c0 s0 μ pc lc (.int v :: .ref (gad (cG C) k) :: sk) := by
  obtain ⟨p, l, e, R, s, m, args, below, meth, c, G, Q, cells, slots⟩ := C
  obtain ⟨⟨hx, hb, hml, hown, hts⟩, hlk, hL, hs0, hK, hSt, hNs, hSU, hNI, hAO, hR, hcs⟩ := hC
  intro H locs ls hP hS hl
  have he : (wldI G μ n)[k]? = some (gad G k, .inr (ci, fvIs G μ k (nf ci))) := by rw [wldI_at G μ hk1, celI_obj hk2 hci]
  refine va_put hx hb hts hin ty0 hty hnm hown hK hP (wldI_D hL μ n) hS k he hcl j hj (hts _ hlink) (fun x h => by rw [hT1] at h; exact h) hfin hpd hn hft (by rw [fvIs_len, hN]; exact hj) hd (fun H1 locs1 hP1 hD1 hS1 => ?_)
  have hset : (wldI G μ n).set k (gad G k, .inr (ci, (fvIs G μ k (nf ci)).set j (.int v))) = wldI G (wr μ k j (v)) n := by
    refine wldI_set ?_ (fun i _ hi => celI_ne hi)
    rw [celI_obj hk2 hci, fvIs_set (v := v)]
    simp [fvI, hk2, hf, wr]
  have hP1 : va_P (gD G) vwCl ((wldI G μ n).set k (gad G k, .inr (ci, (fvIs G μ k (nf ci)).set j (.int v)))) H1 := hP1
  rw [hset] at hP1
  exact kk H1 locs1 ls hP1 hS1 hl
theorem v_putFI {C : Cx} {cc : ByteArray} {nL : Nat} {own : String} {d n0 mc ms : Nat} (hC : CxI C cc nL own d n0 mc ms) {n c0 s0 : Nat} {μ : Mem} {pc : Nat} {lc : List (Nat × Value)} {sk : List Value} (ci j : Nat) {Cn : String} {T : u_T} {N index : Nat} (hcl : vwCl[ci]? = some (Cn, T, N)) (hin : ∀ w ∈ u_ws Cn T N, w ∈ AL) (hj : j < N) (hN : nf ci = N) (hci : ci < 13) (hlink : Cond.fieldLink own index Cn (T j).2.1 (T j).2.2.1 ∈ AL) (hT1 : (T j).1 = Cn) {k : Nat} (hk1 : k < n) (hk2 : sh k = ci) (ty0 : Nat → FieldType) (hty : ∀ k, k < N → parseFieldDescriptor (T k).2.2.1 = some (ty0 k)) (hnm : ∀ a, a < N → ∀ b, b < N → a ≠ b → (T a).2.1 ≠ (T b).2.1) (hfin : (T j).2.2.2 = true) (hmn : cMn C = "<init>") (hdecl : (T j).1 = own) {ty : FieldType} (hpd : parseFieldDescriptor (T j).2.2.1 = some ty) {v : Int32} (hn : narrow ty (.int v) = .int v) (hft : fits ty (.int v) = true) (hf : fk ci j = 0) (hd : decode cc pc = .ok (.putfield index, 3)) (kk : UI C nL n c0 s0 (wr μ k j (v)) (pc + 3) lc sk) : UI C nL n c0 s0 μ pc lc (.int v :: .ref (gad (cG C) k) :: sk) := by
  obtain ⟨p, l, e, R, s, m, args, below, meth, c, G, Q, cells, slots⟩ := C
  obtain ⟨⟨hx, hb, hml, hown, hts⟩, hlk, hL, hs0, hK, hSt, hNs, hSU, hNI, hAO, hR, hcs⟩ := hC
  intro H locs ls hP hS hl
  have he : (wldI G μ n)[k]? = some (gad G k, .inr (ci, fvIs G μ k (nf ci))) := by rw [wldI_at G μ hk1, celI_obj hk2 hci]
  refine va_putF hx hb hts hin ty0 hty hnm hown hK hP (wldI_D hL μ n) hS k he hcl j hj (hts _ hlink) (fun x h => by rw [hT1] at h; exact h) hfin hmn hdecl hpd hn hft (by rw [fvIs_len, hN]; exact hj) hd (fun H1 locs1 hP1 hD1 hS1 => ?_)
  have hset : (wldI G μ n).set k (gad G k, .inr (ci, (fvIs G μ k (nf ci)).set j (.int v))) = wldI G (wr μ k j (v)) n := by
    refine wldI_set ?_ (fun i _ hi => celI_ne hi)
    rw [celI_obj hk2 hci, fvIs_set (v := v)]
    simp [fvI, hk2, hf, wr]
  have hP1 : va_P (gD G) vwCl ((wldI G μ n).set k (gad G k, .inr (ci, (fvIs G μ k (nf ci)).set j (.int v)))) H1 := hP1
  rw [hset] at hP1
  exact kk H1 locs1 ls hP1 hS1 hl
theorem v_iast {C : Cx} {cc : ByteArray} {nL : Nat} {own : String} {d n0 mc ms : Nat} (hC : CxI C cc nL own d n0 mc ms) {n c0 s0 : Nat} {μ : Mem} {pc : Nat} {lc : List (Nat × Value)} {sk : List Value} {k : Nat} (hk1 : k < n) (hk2 : sh k = 13) {i x : Int32} (hi : ib i (ln k) = true) (hd : decode cc pc = .ok (.iastore, 1)) (kk : UI C nL n c0 s0 (wr μ k i.toNatClampNeg x) (pc + 1) lc sk) : UI C nL n c0 s0 μ pc lc (.int x :: .int i :: .ref (gad (cG C) k) :: sk) := by
  obtain ⟨p, l, e, R, s, m, args, below, meth, c, G, Q, cells, slots⟩ := C
  obtain ⟨⟨hx, hb, hml, hown, hts⟩, hlk, hL, hs0, hK, hSt, hNs, hSU, hNI, hAO, hR, hcs⟩ := hC
  intro H locs ls hP hS hl
  have he : (wldI G μ n)[k]? = some (gad G k, .inl (gcy G 13, ln k, .inl (μ.1 k))) := by rw [wldI_at G μ hk1, celI_int hk2]
  refine va_iast hx hb hK hP (wldI_D hL μ n) hS k 0 he rfl (ib_in hi) hd (fun H1 locs1 hP1 hD1 hS1 => ?_)
  have hset : (wldI G μ n).set k (gad G k, .inl (gcy G 13, ln k, .inl (upd (μ.1 k) i.toNatClampNeg x))) = wldI G (wr μ k i.toNatClampNeg x) n := by
    refine wldI_set ?_ (fun i _ hi => celI_ne hi)
    rw [celI_int hk2]
    congr 4
    funext b
    simp [wr, upd]
  rw [hset] at hP1
  exact kk H1 locs1 ls hP1 hS1 hl
theorem v_aastD {C : Cx} {cc : ByteArray} {nL : Nat} {own : String} {d n0 mc ms : Nat} (hC : CxI C cc nL own d n0 mc ms) {n c0 s0 : Nat} {μ : Mem} {pc : Nat} {lc : List (Nat × Value)} {sk : List Value} {k k2 : Nat} (hk1 : k < n) (hk2 : sh k = 15) {i : Int32} (hi : ib i (ln k) = true) (h2 : k2 < n) (h3 : sh k2 = 0) (hrf : rf k i.toNatClampNeg = k2) (hd : decode cc pc = .ok (.aastore, 1)) (kk : UI C nL n c0 s0 (wr μ k i.toNatClampNeg 1) (pc + 1) lc sk) : UI C nL n c0 s0 μ pc lc (.ref (gad (cG C) k2) :: .int i :: .ref (gad (cG C) k) :: sk) := by
  obtain ⟨p, l, e, R, s, m, args, below, meth, c, G, Q, cells, slots⟩ := C
  obtain ⟨⟨hx, hb, hml, hown, hts⟩, hlk, hL, hs0, hK, hSt, hNs, hSU, hNI, hAO, hR, hcs⟩ := hC
  intro H locs ls hP hS hl
  have he : (wldI G μ n)[k]? = some (gad G k, .inl (gcy G 15, ln k, .inr (.inr (.inr (.inr (raI G μ k)))))) := by rw [wldI_at G μ hk1, celI_ref hk2 (by decide)]
  have hv : (wldI G μ n)[k2]? = some (gad G k2, .inr (0, fvIs G μ k2 (nf 0))) := by rw [wldI_at G μ h2, celI_obj h3 (by decide)]
  refine va_astq hx hb hK hP (wldI_D hL μ n) hS k 2 k2 0 he rfl hv rfl (ib_in hi) hd (fun H1 locs1 hP1 hD1 hS1 => ?_)
  have hset : (wldI G μ n).set k (gad G k, .inl (gcy G 15, ln k, .inr (.inr (.inr (.inr (va_up (raI G μ k) i.toNatClampNeg (some (gad G k2)))))))) = wldI G (wr μ k i.toNatClampNeg 1) n := by
    refine wldI_set ?_ (fun i _ hi => celI_ne hi)
    rw [celI_ref hk2 (by decide)]
    congr 7
    funext b
    by_cases hb : b = i.toNatClampNeg
    · subst hb; simp [raI, wr, va_up, hrf]
    · simp [raI, wr, va_up, hb]
  rw [hset] at hP1
  exact kk H1 locs1 ls hP1 hS1 hl
theorem v_aastS {C : Cx} {cc : ByteArray} {nL : Nat} {own : String} {d n0 mc ms : Nat} (hC : CxI C cc nL own d n0 mc ms) {n c0 s0 : Nat} {μ : Mem} {pc : Nat} {lc : List (Nat × Value)} {sk : List Value} {k k2 : Nat} (hk1 : k < n) (hk2 : sh k = 16) {i : Int32} (hi : ib i (ln k) = true) (h2 : k2 < n) (h3 : sh k2 = 6) (hrf : rf k i.toNatClampNeg = k2) (hd : decode cc pc = .ok (.aastore, 1)) (kk : UI C nL n c0 s0 (wr μ k i.toNatClampNeg 1) (pc + 1) lc sk) : UI C nL n c0 s0 μ pc lc (.ref (gad (cG C) k2) :: .int i :: .ref (gad (cG C) k) :: sk) := by
  obtain ⟨p, l, e, R, s, m, args, below, meth, c, G, Q, cells, slots⟩ := C
  obtain ⟨⟨hx, hb, hml, hown, hts⟩, hlk, hL, hs0, hK, hSt, hNs, hSU, hNI, hAO, hR, hcs⟩ := hC
  intro H locs ls hP hS hl
  have he : (wldI G μ n)[k]? = some (gad G k, .inl (gcy G 16, ln k, .inr (.inr (.inr (.inr (raI G μ k)))))) := by rw [wldI_at G μ hk1, celI_ref hk2 (by decide)]
  have hv : (wldI G μ n)[k2]? = some (gad G k2, .inr (6, fvIs G μ k2 (nf 6))) := by rw [wldI_at G μ h2, celI_obj h3 (by decide)]
  refine va_astq hx hb hK hP (wldI_D hL μ n) hS k 3 k2 6 he rfl hv rfl (ib_in hi) hd (fun H1 locs1 hP1 hD1 hS1 => ?_)
  have hset : (wldI G μ n).set k (gad G k, .inl (gcy G 16, ln k, .inr (.inr (.inr (.inr (va_up (raI G μ k) i.toNatClampNeg (some (gad G k2)))))))) = wldI G (wr μ k i.toNatClampNeg 1) n := by
    refine wldI_set ?_ (fun i _ hi => celI_ne hi)
    rw [celI_ref hk2 (by decide)]
    congr 7
    funext b
    by_cases hb : b = i.toNatClampNeg
    · subst hb; simp [raI, wr, va_up, hrf]
    · simp [raI, wr, va_up, hb]
  rw [hset] at hP1
  exact kk H1 locs1 ls hP1 hS1 hl
theorem v_gets2 {C : Cx} {cc : ByteArray} {nL : Nat} {own : String} {d n0 mc ms : Nat} (hC : CxI C cc nL own d n0 mc ms) {n c0 s0 : Nat} {μ : Mem} {pc : Nat} {lc : List (Nat × Value)} {sk : List Value} (ho : own = "ChapterLoan$Law") (hd : decode cc pc = .ok (.getstatic 18, 3)) (k : UI C nL n c0 s0 μ (pc + 3) lc (.ref (gsa (cG C) 2) :: sk)) : UI C nL n c0 s0 μ pc lc sk := by
  obtain ⟨p, l, e, R, s, m, args, below, meth, c, G, Q, cells, slots⟩ := C
  obtain ⟨⟨hx, hb, hml, hown, hts⟩, hlk, hL, hs0, hK, hSt, hNs, hSU, hNI, hAO, hR, hcs⟩ := hC
  intro H locs ls hP hS hl
  subst ho
  exact va_getsN hx hb hSU.1.1 hS hown (va_Nw.use rfl hNI.2.1) (fun _ h => h) hd (k H locs ls hP hS hl)
theorem v_tlen2 {C : Cx} {cc : ByteArray} {nL : Nat} {own : String} {d n0 mc ms : Nat} (hC : CxI C cc nL own d n0 mc ms) {n c0 s0 : Nat} {μ : Mem} {pc : Nat} {lc : List (Nat × Value)} {sk : List Value} (hd : decode cc pc = .ok (.arraylength, 1)) (k : UI C nL n c0 s0 μ (pc + 1) lc (.int 1 :: sk)) : UI C nL n c0 s0 μ pc lc (.ref (gsa (cG C) 2) :: sk) := by
  obtain ⟨p, l, e, R, s, m, args, below, meth, c, G, Q, cells, slots⟩ := C
  obtain ⟨⟨hx, hb, hml, hown, hts⟩, hlk, hL, hs0, hK, hSt, hNs, hSU, hNI, hAO, hR, hcs⟩ := hC
  intro H locs ls hP hS hl
  exact va_tlen hx hb hSU.1.2 hS rfl hd (k H locs ls hP hS hl)
theorem v_copyT2 {C : Cx} {cc : ByteArray} {nL : Nat} {own : String} {d n0 mc ms : Nat} (hC : CxI C cc nL own d n0 mc ms) {n c0 s0 : Nat} {μ : Mem} {pc : Nat} {lc : List (Nat × Value)} {sk : List Value} {idx k : Nat} (hl1 : Cond.methodLink own idx arraycopyName ∈ AL) (hl2 : Cond.native arraycopyName ∈ AL) (hl3 : Cond.static arraycopyName ∈ AL) (hl4 : Cond.initialized "java/lang/System" ∈ AL) (hk1 : k < n) (hk2 : sh k = 13) (hln : 1 ≤ ln k) (hcat : (sk.map fun v => v.category).sum ≤ 8) (hd : decode cc pc = .ok (.invokestatic idx, 3)) (kk : UI C nL n c0 s0 (cpS μ k 2 1) (pc + 3) lc sk) : UI C nL n c0 s0 μ pc lc (.int 1 :: .int 0 :: .ref (gad (cG C) k) :: .int 0 :: .ref (gsa (cG C) 2) :: sk) := by
  obtain ⟨p, l, e, R, s, m, args, below, meth, c, G, Q, cells, slots⟩ := C
  obtain ⟨⟨hx, hb, hml, hown, hts⟩, hlk, hL, hs0, hK, hSt, hNs, hSU, hNI, hAO, hR, hcs⟩ := hC
  intro H locs ls hP hS hl
  have h1 : (wldI G μ n)[k]? = some (gad G k, .inl (gcy G 13, ln k, .inl (μ.1 k))) := by rw [wldI_at G μ hk1, celI_int hk2]
  have e9 : (1 : Int32).toNatClampNeg = 1 := by decide
  refine va_copyT hx hb (hml.trans hl.1.symm) hown (hts _ hl1) (hts _ hl2) (hts _ hl3) (hts _ hl4) hK hP (wldI_D hL μ n) hS (f := su 2) hSU.1.2 k 0 h1 rfl (by decide) (by rw [e9]; exact Nat.le_refl _) (by rw [e9]; exact hln) (by omega) (Nat.le_trans (Nat.add_le_add_right hcat _) (Nat.le_trans (show 8 + (nativeFrameWords "java/lang/System" "arraycopy" 5 + 11) ≤ 40 by decide) (by omega))) hd (fun H1 locs1 hP1 hS1 => ?_)
  have hset : (wldI G μ n).set k (gad G k, .inl (gcy G 13, ln k, .inl (fun j => if j < (1 : Int32).toNatClampNeg then su 2 j else μ.1 k j))) = wldI G (cpS μ k 2 1) n := by
    refine wldI_set ?_ (fun i _ hi => celI_neS hi)
    rw [celI_int hk2]
    congr 4
    funext b
    simp [cpS, e9]
  rw [hset] at hP1
  exact kk H1 locs1 ls hP1 hS1 hl
theorem v_gets3 {C : Cx} {cc : ByteArray} {nL : Nat} {own : String} {d n0 mc ms : Nat} (hC : CxI C cc nL own d n0 mc ms) {n c0 s0 : Nat} {μ : Mem} {pc : Nat} {lc : List (Nat × Value)} {sk : List Value} (ho : own = "ChapterLoan$Law") (hd : decode cc pc = .ok (.getstatic 21, 3)) (k : UI C nL n c0 s0 μ (pc + 3) lc (.ref (gsa (cG C) 3) :: sk)) : UI C nL n c0 s0 μ pc lc sk := by
  obtain ⟨p, l, e, R, s, m, args, below, meth, c, G, Q, cells, slots⟩ := C
  obtain ⟨⟨hx, hb, hml, hown, hts⟩, hlk, hL, hs0, hK, hSt, hNs, hSU, hNI, hAO, hR, hcs⟩ := hC
  intro H locs ls hP hS hl
  subst ho
  exact va_getsN hx hb hSU.2.1 hS hown (va_Nw.use rfl hNI.2.2) (fun _ h => h) hd (k H locs ls hP hS hl)
theorem v_tlen3 {C : Cx} {cc : ByteArray} {nL : Nat} {own : String} {d n0 mc ms : Nat} (hC : CxI C cc nL own d n0 mc ms) {n c0 s0 : Nat} {μ : Mem} {pc : Nat} {lc : List (Nat × Value)} {sk : List Value} (hd : decode cc pc = .ok (.arraylength, 1)) (k : UI C nL n c0 s0 μ (pc + 1) lc (.int 9 :: sk)) : UI C nL n c0 s0 μ pc lc (.ref (gsa (cG C) 3) :: sk) := by
  obtain ⟨p, l, e, R, s, m, args, below, meth, c, G, Q, cells, slots⟩ := C
  obtain ⟨⟨hx, hb, hml, hown, hts⟩, hlk, hL, hs0, hK, hSt, hNs, hSU, hNI, hAO, hR, hcs⟩ := hC
  intro H locs ls hP hS hl
  exact va_tlen hx hb hSU.2.2 hS rfl hd (k H locs ls hP hS hl)
theorem v_copyT3 {C : Cx} {cc : ByteArray} {nL : Nat} {own : String} {d n0 mc ms : Nat} (hC : CxI C cc nL own d n0 mc ms) {n c0 s0 : Nat} {μ : Mem} {pc : Nat} {lc : List (Nat × Value)} {sk : List Value} {idx k : Nat} (hl1 : Cond.methodLink own idx arraycopyName ∈ AL) (hl2 : Cond.native arraycopyName ∈ AL) (hl3 : Cond.static arraycopyName ∈ AL) (hl4 : Cond.initialized "java/lang/System" ∈ AL) (hk1 : k < n) (hk2 : sh k = 13) (hln : 9 ≤ ln k) (hcat : (sk.map fun v => v.category).sum ≤ 8) (hd : decode cc pc = .ok (.invokestatic idx, 3)) (kk : UI C nL n c0 s0 (cpS μ k 3 9) (pc + 3) lc sk) : UI C nL n c0 s0 μ pc lc (.int 9 :: .int 0 :: .ref (gad (cG C) k) :: .int 0 :: .ref (gsa (cG C) 3) :: sk) := by
  obtain ⟨p, l, e, R, s, m, args, below, meth, c, G, Q, cells, slots⟩ := C
  obtain ⟨⟨hx, hb, hml, hown, hts⟩, hlk, hL, hs0, hK, hSt, hNs, hSU, hNI, hAO, hR, hcs⟩ := hC
  intro H locs ls hP hS hl
  have h1 : (wldI G μ n)[k]? = some (gad G k, .inl (gcy G 13, ln k, .inl (μ.1 k))) := by rw [wldI_at G μ hk1, celI_int hk2]
  have e9 : (9 : Int32).toNatClampNeg = 9 := by decide
  refine va_copyT hx hb (hml.trans hl.1.symm) hown (hts _ hl1) (hts _ hl2) (hts _ hl3) (hts _ hl4) hK hP (wldI_D hL μ n) hS (f := su 3) hSU.2.2 k 0 h1 rfl (by decide) (by rw [e9]; exact Nat.le_refl _) (by rw [e9]; exact hln) (by omega) (Nat.le_trans (Nat.add_le_add_right hcat _) (Nat.le_trans (show 8 + (nativeFrameWords "java/lang/System" "arraycopy" 5 + 11) ≤ 40 by decide) (by omega))) hd (fun H1 locs1 hP1 hS1 => ?_)
  have hset : (wldI G μ n).set k (gad G k, .inl (gcy G 13, ln k, .inl (fun j => if j < (9 : Int32).toNatClampNeg then su 3 j else μ.1 k j))) = wldI G (cpS μ k 3 9) n := by
    refine wldI_set ?_ (fun i _ hi => celI_neS hi)
    rw [celI_int hk2]
    congr 4
    funext b
    simp [cpS, e9]
  rw [hset] at hP1
  exact kk H1 locs1 ls hP1 hS1 hl
theorem v_new {C : Cx} {cc : ByteArray} {nL : Nat} {own : String} {d n0 mc ms : Nat} (hC : CxI C cc nL own d n0 mc ms) {n c0 s0 : Nat} {μ : Mem} {pc : Nat} {lc : List (Nat × Value)} {sk : List Value} (ci : Nat) {Cn : String} {T : u_T} {N index : Nat} (hcl : vwCl[ci]? = some (Cn, T, N)) (hin : ∀ w ∈ u_ws Cn T N, w ∈ AL) (hN : nf ci = N) (hci : ci < 13) (hl1 : Cond.classLink own index Cn ∈ AL) (hl2 : Cond.instantiable Cn N ∈ AL) (hl3 : Cond.initialized Cn ∈ AL) (ty0 : Nat → FieldType) (hty : ∀ k, k < N → parseFieldDescriptor (T k).2.2.1 = some (ty0 k)) (hdf : ∀ j, j < N → defaultValue (ty0 j) = if fk ci j = 0 then .int 0 else .null) (hn : n = n0 + c0) (hsh : sh n = ci) (hz : Zr n μ) (hc : c0 + 1 ≤ mc ∧ s0 + N ≤ ms) (hd : decode cc pc = .ok (.new index, 3)) (kk : UI C nL (n + 1) (c0 + 1) (s0 + N) μ (pc + 3) lc (.ref (gad (cG C) n) :: sk)) : UI C nL n c0 s0 μ pc lc sk := by
  obtain ⟨p, l, e, R, s, m, args, below, meth, c, G, Q, cells, slots⟩ := C
  obtain ⟨⟨hx, hb, hml, hown, hts⟩, hlk, hL, hs0, hK, hSt, hNs, hSU, hNI, hAO, hR, hcs⟩ := hC
  intro H locs ls hP hS hl
  have hlow : s.heap.size + c0 ≤ H.size := by
    cases n with
    | zero => have := hS.1; omega
    | succ q => have := wldI_low hL hP; omega
  refine W.sz hlow (fun hsz => ?_)
  have hKn := hK.1 ci _ hcl
  refine W.newcK hx hb hown (hts _ hl1) (hts _ hl2) (hts _ hl3) rfl hd (by omega) (by omega) hKn.2.1 (h := gad G n) (by rw [hL]; omega) fun H1 kC hkC e1 z1 o1 => ?_
  have o2 : ∀ q, q < H.size → H1[q]? = H[q]? := fun q hq => o1 q (by rw [hL]; omega)
  refine kk H1 locs ls (wldI_push hP o2 ?_) ⟨by have := hS.1; rw [z1, hL]; omega, fun x h1 h2 => (o2 x (Nat.lt_of_lt_of_le h1 hS.1)).trans (hS.2.1 x h1 h2), hS.2.2⟩ hl
  rw [celI_obj hsh hci]
  refine ⟨_, hcl, (u_born ty0 hts hin hKn hkC e1 hty).to (fun j hj => ?_)⟩
  have hz2 : μ.1 n j = 0 := (hz n (Nat.le_refl n)).1 j
  have hj2 : (fvIs G μ n (nf ci)).getD j .null = fvI G μ n j := by
    rw [List.getD_eq_getElem?_getD, fvIs_get (by rw [hN]; exact hj)]; rfl
  show defaultValue (ty0 j) = (fvIs G μ n (nf ci)).getD j .null
  rw [hj2, hdf j hj]
  simp only [fvI, hsh, hz2]
  rfl
theorem v_newaI {C : Cx} {cc : ByteArray} {nL : Nat} {own : String} {d n0 mc ms : Nat} (hC : CxI C cc nL own d n0 mc ms) {n c0 s0 : Nat} {μ : Mem} {pc : Nat} {lc : List (Nat × Value)} {sk : List Value} (N : Nat) (hac : Cond.arrayClass .int ∈ AL) {x : Int32} (hx1 : ¬ x < 0) (hx2 : x.toNatClampNeg = N) (hx3 : N ≤ 400) (hn : n = n0 + c0) (hsh : sh n = 13) (hln : ln n = N) (hz : Zr n μ) (hc : c0 + 1 ≤ mc ∧ s0 + N ≤ ms) (hd : decode cc pc = .ok (.newarray .int, 2)) (kk : UI C nL (n + 1) (c0 + 1) (s0 + N) μ (pc + 2) lc (.ref (gad (cG C) n) :: sk)) : UI C nL n c0 s0 μ pc lc (.int x :: sk) := by
  obtain ⟨p, l, e, R, s, m, args, below, meth, c, G, Q, cells, slots⟩ := C
  obtain ⟨⟨hx, hb, hml, hown, hts⟩, hlk, hL, hs0, hK, hSt, hNs, hSU, hNI, hAO, hR, hcs⟩ := hC
  intro H locs ls hP hS hl
  have hlow : s.heap.size + c0 ≤ H.size := by
    cases n with
    | zero => have := hS.1; omega
    | succ q => have := wldI_low hL hP; omega
  refine W.sz hlow (fun hsz => ?_)
  refine va_newaK hx hb (atype := .int) (hts _ hac) rfl hd rfl hx1 hx2 (by show N * 4 ≤ _; omega) (by omega) (by omega) (h := gad G n) (by rw [hL]; omega) fun H1 cA e1 z1 o1 hAr hNm => ?_
  have o2 : ∀ q, q < H.size → H1[q]? = H[q]? := fun q hq => o1 q (by rw [hL]; omega)
  have hcA : cA = gcy G 13 := by
    have h2 : s.vm.findClass ("[" ++ (newarray.typeOf .int).toString) = some (gcy G 13) := (hK.2 0 _ rfl).2
    exact Option.some.inj (hNm.symm.trans h2)
  refine kk H1 locs ls (wldI_push hP o2 ?_) ⟨by have := hS.1; rw [z1, hL]; omega, fun x h1 h2 => (o2 x (Nat.lt_of_lt_of_le h1 hS.1)).trans (hS.2.1 x h1 h2), hS.2.2⟩ hl
  rw [celI_int hsh, hln]
  show H1[gad G n]? = some (vp_cell _ _)
  have e5 : (fun _ => defaultValue (newarray.typeOf .int)) = fun j => Value.int (μ.1 n j) := by
    funext j
    rw [show μ.1 n j = 0 from (hz n (Nat.le_refl n)).1 j]
    rfl
  rw [e1, hcA, e5]
  rfl
theorem v_newaJ {C : Cx} {cc : ByteArray} {nL : Nat} {own : String} {d n0 mc ms : Nat} (hC : CxI C cc nL own d n0 mc ms) {n c0 s0 : Nat} {μ : Mem} {pc : Nat} {lc : List (Nat × Value)} {sk : List Value} (N : Nat) (hac : Cond.arrayClass .long ∈ AL) {x : Int32} (hx1 : ¬ x < 0) (hx2 : x.toNatClampNeg = N) (hx3 : N ≤ 400) (hn : n = n0 + c0) (hsh : sh n = 14) (hln : ln n = N) (hz : Zr n μ) (hc : c0 + 1 ≤ mc ∧ s0 + N ≤ ms) (hd : decode cc pc = .ok (.newarray .long, 2)) (kk : UI C nL (n + 1) (c0 + 1) (s0 + N) μ (pc + 2) lc (.ref (gad (cG C) n) :: sk)) : UI C nL n c0 s0 μ pc lc (.int x :: sk) := by
  obtain ⟨p, l, e, R, s, m, args, below, meth, c, G, Q, cells, slots⟩ := C
  obtain ⟨⟨hx, hb, hml, hown, hts⟩, hlk, hL, hs0, hK, hSt, hNs, hSU, hNI, hAO, hR, hcs⟩ := hC
  intro H locs ls hP hS hl
  have hlow : s.heap.size + c0 ≤ H.size := by
    cases n with
    | zero => have := hS.1; omega
    | succ q => have := wldI_low hL hP; omega
  refine W.sz hlow (fun hsz => ?_)
  refine va_newaK hx hb (atype := .long) (hts _ hac) rfl hd rfl hx1 hx2 (by show N * 8 ≤ _; omega) (by omega) (by omega) (h := gad G n) (by rw [hL]; omega) fun H1 cA e1 z1 o1 hAr hNm => ?_
  have o2 : ∀ q, q < H.size → H1[q]? = H[q]? := fun q hq => o1 q (by rw [hL]; omega)
  have hcA : cA = gcy G 14 := by
    have h2 : s.vm.findClass ("[" ++ (newarray.typeOf .long).toString) = some (gcy G 14) := (hK.2 1 _ rfl).2
    exact Option.some.inj (hNm.symm.trans h2)
  refine kk H1 locs ls (wldI_push hP o2 ?_) ⟨by have := hS.1; rw [z1, hL]; omega, fun x h1 h2 => (o2 x (Nat.lt_of_lt_of_le h1 hS.1)).trans (hS.2.1 x h1 h2), hS.2.2⟩ hl
  rw [celI_long hsh, hln]
  show H1[gad G n]? = some (vp_cell _ _)
  have e5 : (fun _ => defaultValue (newarray.typeOf .long)) = fun j => Value.long (μ.2 n j) := by
    funext j
    rw [show μ.2 n j = 0 from (hz n (Nat.le_refl n)).2 j]
    rfl
  rw [e1, hcA, e5]
  rfl
theorem v_newrD {C : Cx} {cc : ByteArray} {nL : Nat} {own : String} {d n0 mc ms : Nat} (hC : CxI C cc nL own d n0 mc ms) {n c0 s0 : Nat} {μ : Mem} {pc : Nat} {lc : List (Nat × Value)} {sk : List Value} {index : Nat} (hl1 : Cond.classLink own index "ChapterLoan$Debtor" ∈ AL) {x : Int32} (hx1 : ¬ x < 0) (hx2 : x.toNatClampNeg = 4) (hn : n = n0 + c0) (hsh : sh n = 15) (hln : ln n = 4) (hz : Zr n μ) (hc : c0 + 1 ≤ mc ∧ s0 + 4 ≤ ms) (hd : decode cc pc = .ok (.anewarray index, 3)) (kk : UI C nL (n + 1) (c0 + 1) (s0 + 4) μ (pc + 3) lc (.ref (gad (cG C) n) :: sk)) : UI C nL n c0 s0 μ pc lc (.int x :: sk) := by
  obtain ⟨p, l, e, R, s, m, args, below, meth, c, G, Q, cells, slots⟩ := C
  obtain ⟨⟨hx, hb, hml, hown, hts⟩, hlk, hL, hs0, hK, hSt, hNs, hSU, hNI, hAO, hR, hcs⟩ := hC
  intro H locs ls hP hS hl
  have hlow : s.heap.size + c0 ≤ H.size := by
    cases n with
    | zero => have := hS.1; omega
    | succ q => have := wldI_low hL hP; omega
  refine W.sz hlow (fun hsz => ?_)
  refine W.anew hx hb hown (hts _ hl1) (va_AO.use hAO.1) rfl hd rfl hx1 (by rw [hx2]; decide) (by omega) (by rw [hx2]; omega) fun cA kA comp f1 f2 f3 f4 => ?_
  rw [hx2]
  have hcA : cA = gcy G 15 := by
    obtain ⟨kA2, comp2, a1, a2, a3, a4⟩ := (hK.2 2 _ rfl).2
    exact Option.some.inj (f1.symm.trans a4)
  have hsz2 : H.size = gad G n := by rw [hL]; omega
  have o2 : ∀ q, q < H.size → (H.push ({ cls := cA, slots := Array.replicate 4 .null, vm := .none } : Cell))[q]? = H[q]? := fun q hq => by rw [Array.getElem?_push, if_neg (Nat.ne_of_lt hq)]
  have hU := kk (H.push ({ cls := cA, slots := Array.replicate 4 .null, vm := .none } : Cell)) locs ls (wldI_push hP o2 ?_) ⟨by have := hS.1; rw [Array.size_push]; omega, fun x h1 h2 => (o2 x (Nat.lt_of_lt_of_le h1 hS.1)).trans (hS.2.1 x h1 h2), hS.2.2⟩ hl
  · rw [hsz2]
    exact hU
  · rw [celI_ref hsh (by decide), hln]
    show (H.push _)[gad G n]? = some (vp_cell _ _)
    rw [← hsz2, Array.getElem?_push_size, vp_cell_q, hcA]
    have e3 : raI G μ n = fun _ => none := by
      funext j
      have hz2 : μ.1 n j = 0 := (hz n (Nat.le_refl n)).1 j
      simp [raI, hz2]
    rw [e3]
    congr 1
theorem v_newrS {C : Cx} {cc : ByteArray} {nL : Nat} {own : String} {d n0 mc ms : Nat} (hC : CxI C cc nL own d n0 mc ms) {n c0 s0 : Nat} {μ : Mem} {pc : Nat} {lc : List (Nat × Value)} {sk : List Value} {index : Nat} (hl1 : Cond.classLink own index "ChapterLoan$Sheet" ∈ AL) {x : Int32} (hx1 : ¬ x < 0) (hx2 : x.toNatClampNeg = 4) (hn : n = n0 + c0) (hsh : sh n = 16) (hln : ln n = 4) (hz : Zr n μ) (hc : c0 + 1 ≤ mc ∧ s0 + 4 ≤ ms) (hd : decode cc pc = .ok (.anewarray index, 3)) (kk : UI C nL (n + 1) (c0 + 1) (s0 + 4) μ (pc + 3) lc (.ref (gad (cG C) n) :: sk)) : UI C nL n c0 s0 μ pc lc (.int x :: sk) := by
  obtain ⟨p, l, e, R, s, m, args, below, meth, c, G, Q, cells, slots⟩ := C
  obtain ⟨⟨hx, hb, hml, hown, hts⟩, hlk, hL, hs0, hK, hSt, hNs, hSU, hNI, hAO, hR, hcs⟩ := hC
  intro H locs ls hP hS hl
  have hlow : s.heap.size + c0 ≤ H.size := by
    cases n with
    | zero => have := hS.1; omega
    | succ q => have := wldI_low hL hP; omega
  refine W.sz hlow (fun hsz => ?_)
  refine W.anew hx hb hown (hts _ hl1) (va_AO.use hAO.2) rfl hd rfl hx1 (by rw [hx2]; decide) (by omega) (by rw [hx2]; omega) fun cA kA comp f1 f2 f3 f4 => ?_
  rw [hx2]
  have hcA : cA = gcy G 16 := by
    obtain ⟨kA2, comp2, a1, a2, a3, a4⟩ := (hK.2 3 _ rfl).2
    exact Option.some.inj (f1.symm.trans a4)
  have hsz2 : H.size = gad G n := by rw [hL]; omega
  have o2 : ∀ q, q < H.size → (H.push ({ cls := cA, slots := Array.replicate 4 .null, vm := .none } : Cell))[q]? = H[q]? := fun q hq => by rw [Array.getElem?_push, if_neg (Nat.ne_of_lt hq)]
  have hU := kk (H.push ({ cls := cA, slots := Array.replicate 4 .null, vm := .none } : Cell)) locs ls (wldI_push hP o2 ?_) ⟨by have := hS.1; rw [Array.size_push]; omega, fun x h1 h2 => (o2 x (Nat.lt_of_lt_of_le h1 hS.1)).trans (hS.2.1 x h1 h2), hS.2.2⟩ hl
  · rw [hsz2]
    exact hU
  · rw [celI_ref hsh (by decide), hln]
    show (H.push _)[gad G n]? = some (vp_cell _ _)
    rw [← hsz2, Array.getElem?_push_size, vp_cell_q, hcA]
    have e3 : raI G μ n = fun _ => none := by
      funext j
      have hz2 : μ.1 n j = 0 := (hz n (Nat.le_refl n)).1 j
      simp [raI, hz2]
    rw [e3]
    congr 1
theorem wdI_end {G : GG} {μ : Mem} {n : Nat} {s t : State} {H : Heap} {locs : List Loc} (hL : gLin G) (hz : H.size = gs0 G + n) (hK : va_K (gD G) vwCl (gTys G) s) (hSt : gStat G s s.heap) (hNs : gNest s) (hSU : gSU G s s.heap) (hNI : gNI s) (hAO : gAO s) (hP : va_P (gD G) vwCl (wldI G μ n) H) (hS : va_S (gA G) s.heap H locs) (ht : t.heap = H) (hW : s.WarmedH t.vm) : WdI G μ n t := by
  refine ⟨hL, by rw [ht]; exact hz, by rw [ht]; exact hP, hK.moved hW.alike, ?_, hNs.warm hW, ?_, hNI.warm hW, ⟨hAO.1.moved hW.alike, hAO.2.moved hW.alike⟩⟩
  · rw [ht]
    exact (hSt.moved hW.alike).kept (fun a h1 h2 => hS.2.1 a h1 h2)
  · rw [ht]
    exact (hSU.moved hW.alike).kept (fun a h1 h2 => hS.2.1 a h1 h2)
theorem wdI_blind {G : GG} {μ : Mem} {n : Nat} {av : List Value} : FrameBlind (va_Pc av (WdI G μ n)) := fun a U g mk q => by
  obtain ⟨q0, h1, h2, h3, h4, h5, h6, h7, h8, h9⟩ := q
  exact ⟨q0, h1, h2, h3, va_K.moved (u := U) (U := U.calling g mk a) (Vm.Alike.refl U.vm) h4, gStat.moved (u := U) (U := U.calling g mk a) (Vm.Alike.refl U.vm) h5, gNest.same (u := U) (U := U.calling g mk a) rfl h6, gSU.moved (u := U) (U := U.calling g mk a) (Vm.Alike.refl U.vm) h7, gNI.same (u := U) (U := U.calling g mk a) rfl h8, ⟨va_AO.moved (u := U) (U := U.calling g mk a) (Vm.Alike.refl U.vm) h9.1, va_AO.moved (u := U) (U := U.calling g mk a) (Vm.Alike.refl U.vm) h9.2⟩⟩
theorem gI_call {p : Program} {l : Launch} {e : Env} {R : Room} {s : State} {m : MethodId} {args : Array Value} {below : List Frame} {meth : Method} {c : Code} {H : Heap} {locs : List Loc} {cells slots mc ms : Nat} {Q : State → Prop} {pc : Nat} {ls : Array Slot} {rest st0 : List Value} {a : Array Value} {G : GG} {n : Nat} {μ1 : Mem} {H0 : Heap}
    (hr : va_Run p l e R s m args below meth c H locs cells slots mc ms (F0 m pc ls st0) rest (QGI G n μ1 a) (gA G)) (hS : va_S (gA G) H0 H locs)
    (kk : ∀ (H1 : Heap) (locs1 : List Loc), va_P (gD G) vwCl (wldI G μ1 n) H1 → va_S (gA G) H0 H1 locs1 → W p l e R s m args below meth c H1 locs1 (cells + mc) (slots + ms) Q (F0 m (pc + 3) ls rest)) : W p l e R s m args below meth c H locs cells slots Q (F0 m pc ls st0) := by
  intro T hT X
  obtain ⟨v, st₀, t, T', L, h0, X', hL, e1, e2, ⟨⟨hv, hb⟩, hz, hk⟩, st⟩ := hr T hT X
  cases hv
  rw [h0] at hz hk
  obtain ⟨t2, a1, b1⟩ := kk T'.heap (locs ++ L) (by rw [e1]; exact hb.2.2.1)
    ⟨Nat.le_trans hS.1 (by rw [e1]; exact hz), fun q h1 h2 => by rw [e1, hk q (Nat.lt_of_lt_of_le h1 hS.1) h2]; exact hS.2.1 q h1 h2, fun q hq => by
      rcases List.mem_append.mp hq with h | h
      · exact hS.2.2 q h
      · exact hL q h⟩ T' rfl X'
  exact ⟨t2, st t2 a1, b1⟩
theorem okI_goodIn {y : MethodName} {cy : ByteArray} {mL : Nat} (hco : Cond.code y cy mL none ∈ AL) : GoodIn AL (Cond.code y cy mL none :: AL) := by
  refine al_goodIn (fun w hw => ?_)
  rcases List.mem_cons.mp hw with rfl | h
  · exact hco
  · exact h
theorem v_callI {C : Cx} {cc : ByteArray} {nL : Nat} {own : String} {d n0 mc ms : Nat} (hC : CxI C cc nL own d n0 mc ms) {n c0 s0 : Nat} {μ : Mem} {pc : Nat} {lc : List (Nat × Value)} {sk : List Value} {y : MethodName} {cy : ByteArray} {mL d1 na idx k mc1 ms1 : Nat} {av rest : List Value} {μ1 : Mem} (hM : CTI (cL C) y cy mL d1 (cG C) (.ref (gad (cG C) k) :: av) n μ mc1 ms1 μ1) (hlk1 : Cond.methodLink own idx y ∈ AL) (hin : Cond.instanceMethod y ∈ AL) (hco : Cond.code y cy mL none ∈ AL) (hini : Cond.initialized y.cls ∈ AL) (hy1 : y.name = "<init>") (hnm : y.cls ≠ "java/lang/invoke/MethodHandle" ∧ y.cls ≠ "java/lang/invoke/VarHandle" ∧ (parseMethodDescriptor y.desc).map (fun d => d.parameters.length) = some na) (hna : av.length = na) (hmL : mL ≤ 21) (hdep : d1 + 1 ≤ d) (hcat : (rest.map fun v => v.category).sum ≤ 8) (hn : n = n0 + c0) (hc : c0 + mc1 ≤ mc ∧ s0 + ms1 ≤ ms) (hst : sk = av.reverse ++ .ref (gad (cG C) k) :: rest) (hd : decode cc pc = .ok (.invokespecial idx, 3)) (kk : UI C nL (n + mc1) (c0 + mc1) (s0 + ms1) μ1 (pc + 3) lc rest) : UI C nL n c0 s0 μ pc lc sk := by
  obtain ⟨p, l, e, R, s, m, args, below, meth, c, G, Q, cells, slots⟩ := C
  obtain ⟨⟨hx, hb, hml, hown, hts⟩, hlk, hL, hs0, hK, hSt, hNs, hSU, hNI, hAO, hR, hcs⟩ := hC
  intro H locs ls hP hS hl
  have hlow : s.heap.size + c0 ≤ H.size := by
    cases n with
    | zero => have := hS.1; omega
    | succ q => have := wldI_low hL hP; omega
  refine W.sz hlow (fun hsz => ?_)
  subst hst
  have hszG : H.size = gs0 G + n := by omega
  refine gI_call (a := (Value.ref (gad G k) :: av).toArray) (va_runI (As := av) (b := gad G k) (rest := rest) ⟨hx, hb, hml, hown, hts⟩ hM ⟨callB_of na hts (okI_goodIn hco) rfl rfl rfl (hts _ hini) (hts _ hlk1) hnm ⟨by show d1 + 1 + 1 ≤ _; omega, by show 8 + (mL + 11) + 40 * (d1 + 1) ≤ _; omega⟩, hy1, hts _ hin⟩ ⟨wdI_blind, fun U hU hW => ⟨rfl, wdI_end hL hszG hK hSt hNs hSU hNI hAO hP hS hU hW⟩⟩ rfl hna hl.1 rfl (lv_room hcat) hd ⟨by omega, by omega⟩) hS (fun H1 locs1 h2 h3 => kk H1 locs1 ls h2 h3 hl)
theorem v_callIN {C : Cx} {cc : ByteArray} {nL : Nat} {own : String} {d n0 mc ms : Nat} (hC : CxI C cc nL own d n0 mc ms) {n c0 s0 : Nat} {μ : Mem} {pc : Nat} {lc : List (Nat × Value)} {sk : List Value} {y : MethodName} {cy : ByteArray} {mL d1 na idx k mc1 ms1 : Nat} {av rest : List Value} {μ1 : Mem} (hM : CTI (cL C) y cy mL d1 (cG C) (.ref (gad (cG C) k) :: av) n μ mc1 ms1 μ1) {host : String} (hq : (own, idx, y, host) ∈ NIm) (hin : Cond.instanceMethod y ∈ AL) (hco : Cond.code y cy mL none ∈ AL) (hini : Cond.initialized y.cls ∈ AL) (hy1 : y.name = "<init>") (hnm : y.cls ≠ "java/lang/invoke/MethodHandle" ∧ y.cls ≠ "java/lang/invoke/VarHandle" ∧ (parseMethodDescriptor y.desc).map (fun d => d.parameters.length) = some na) (hna : av.length = na) (hmL : mL ≤ 21) (hdep : d1 + 1 ≤ d) (hcat : (rest.map fun v => v.category).sum ≤ 8) (hn : n = n0 + c0) (hc : c0 + mc1 ≤ mc ∧ s0 + ms1 ≤ ms) (hst : sk = av.reverse ++ .ref (gad (cG C) k) :: rest) (hd : decode cc pc = .ok (.invokespecial idx, 3)) (kk : UI C nL (n + mc1) (c0 + mc1) (s0 + ms1) μ1 (pc + 3) lc rest) : UI C nL n c0 s0 μ pc lc sk := by
  obtain ⟨p, l, e, R, s, m, args, below, meth, c, G, Q, cells, slots⟩ := C
  obtain ⟨⟨hx, hb, hml, hown, hts⟩, hlk, hL, hs0, hK, hSt, hNs, hSU, hNI, hAO, hR, hcs⟩ := hC
  intro H locs ls hP hS hl
  have hlow : s.heap.size + c0 ≤ H.size := by
    cases n with
    | zero => have := hS.1; omega
    | succ q => have := wldI_low hL hP; omega
  refine W.sz hlow (fun hsz => ?_)
  subst hst
  have hszG : H.size = gs0 G + n := by omega
  refine gI_call (a := (Value.ref (gad G k) :: av).toArray) (va_runIN (As := av) (b := gad G k) (rest := rest) ⟨hx, hb, hml, hown, hts⟩ hM ⟨va_cnB na hts (okI_goodIn hco) rfl rfl rfl (hNI.1 _ hq) (hts _ hini) hnm ⟨by show d1 + 1 + 1 ≤ _; omega, by show 8 + (mL + 11) + 40 * (d1 + 1) ≤ _; omega⟩, hy1, hts _ hin⟩ ⟨wdI_blind, fun U hU hW => ⟨rfl, wdI_end hL hszG hK hSt hNs hSU hNI hAO hP hS hU hW⟩⟩ rfl hna hl.1 rfl (lv_room hcat) hd ⟨by omega, by omega⟩) hS (fun H1 locs1 h2 h3 => kk H1 locs1 ls h2 h3 hl)
theorem v_ret {C : Cx} {cc : ByteArray} {nL : Nat} {own : String} {d n0 mc ms : Nat} (hC : CxI C cc nL own d n0 mc ms) {n : Nat} {μ : Mem} {pc : Nat} {lc : List (Nat × Value)} (hQ : CxRetI C n μ mc ms) (hr : cRet C = none) (hn : n = n0 + mc) (hd : decode cc pc = .ok (.return_, 1)) : UI C nL n mc ms μ pc lc [] := by
  obtain ⟨p, l, e, R, s, m, args, below, meth, c, G, Q, cells, slots⟩ := C
  obtain ⟨⟨hx, hb, hml, hown, hts⟩, hlk, hL, hs0, hK, hSt, hNs, hSU, hNI, hAO, hR, hcs⟩ := hC
  intro H locs ls hP hS hl
  have hlow : s.heap.size + mc ≤ H.size := by
    cases n with
    | zero => have := hS.1; omega
    | succ q => have := wldI_low hL hP; omega
  refine W.sz hlow (fun hsz => ?_)
  subst hQ
  exact W.vret hx hb hr (fun t ht hW => ⟨⟨rfl, wdI_end hL (by omega) hK hSt hNs hSU hNI hAO hP hS ht hW⟩, hS.F ht⟩) hS.2.2 hd hlk
theorem cti_start {l : Launch} {y : MethodName} {cy : ByteArray} {mL d n0 mc ms : Nat} {G : GG} {av : List Value} {μ μ1 : Mem} (hy : plainName y.cls = true) (hyn : y.name = "<init>") (hlen : (lg_sl av).length ≤ mL)
    (body : ∀ C : Cx, cL C = l → cG C = G → CxI C cy mL y.cls d n0 mc ms → CxRetI C (n0 + mc) μ1 mc ms → cRet C = none → cMn C = "<init>" → UI C mL n0 0 0 μ 0 (lv_args 0 av) []) : CTI l y cy mL d G av n0 μ mc ms μ1 := by
  refine Met.ofW (cc := cy) (maxL := mL) (ret := none) hy rfl ?_
  intro p e s m args below meth c s₁ B hml hv
  obtain ⟨rfl, hL, hs0, hP, hK, hSt, hNs, hSU, hNI, hAO⟩ := hv
  have hts := atoms_spec (ws := Cond.code y cy mL none :: AL) B.pre
  have hl := lv_entry av (n := mL) hlen
  rw [lg_entry_eq]
  generalize (lg_sl av ++ List.replicate (mL - (lg_sl av).length) Slot.unset).toArray = ls at hl ⊢
  exact body (p, l, e, (headSpec (Cond.code y cy mL none :: AL) (rmI d mc ms)).room, s, m, av.toArray, below, meth, c, G, MQ below (QGI G (n0 + mc) μ1) av.toArray s mc ms (gA G), 0, 0) rfl rfl ⟨⟨B.exec, B.bytes, hml, findClass_of_methodNamed B.named, fun w h => hts w (List.mem_cons_of_mem _ h)⟩, B.notSynchronized, hL, hs0, hK, hSt, hNs, hSU, hNI, hAO, ⟨Nat.le_refl _, by show 40 + 40 * d ≤ 40 * (d + 1); omega⟩, ⟨Nat.le_refl _, Nat.le_refl _⟩⟩ rfl B.returns ((name_of_methodNamed B.named B.method).1.trans hyn) s.heap [] ls hP va_S.rf hl
