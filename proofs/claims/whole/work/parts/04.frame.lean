/-! MEMORY: cells by number; the shape of the heap never changes once all objects are made -/
abbrev Mem : Type := (Nat → Nat → Int32) × (Nat → Nat → Int64)
def NC : Nat := 120
/-- what a cell is: 0 .. 12 an object of that class, 13 int[], 14 long[], 15 Debtor[], 16 Sheet[] -/
def sh (k : Nat) : Nat := ([11, 10, 1, 13, 13, 13, 13, 13, 2, 13, 13, 2, 13, 13, 8, 15, 0, 13, 13, 0, 13, 13, 0, 13, 13, 0, 13, 13, 3, 13, 13, 13, 7, 13, 13, 10, 1, 13, 13, 13, 13, 13, 2, 13, 13, 2, 13, 13, 8, 15, 0, 13, 13, 0, 13, 13, 0, 13, 13, 0, 13, 13, 3, 13, 13, 13, 7, 13, 13, 8, 15, 0, 13, 13, 0, 13, 13, 0, 13, 13, 0, 13, 13, 5, 13, 13, 13, 14, 4, 13, 7, 13, 9, 13, 16, 13, 13, 6, 13, 6, 13, 6, 13, 6, 13, 12, 13, 13, 13, 13, 13, 13, 13, 13, 13, 13, 13, 13, 13, 13] : List Nat).getD k 99
def ln (k : Nat) : Nat := ([0, 0, 0, 8, 8, 8, 8, 8, 0, 50, 50, 0, 50, 50, 0, 4, 0, 8, 8, 0, 8, 8, 0, 8, 8, 0, 8, 8, 0, 12, 12, 12, 0, 50, 20, 0, 0, 8, 8, 8, 8, 8, 0, 50, 50, 0, 50, 50, 0, 4, 0, 8, 8, 0, 8, 8, 0, 8, 8, 0, 8, 8, 0, 12, 12, 12, 0, 50, 20, 0, 4, 0, 8, 8, 0, 8, 8, 0, 8, 8, 0, 8, 8, 0, 8, 8, 8, 256, 0, 50, 0, 50, 0, 40, 4, 5, 6, 0, 40, 0, 40, 0, 40, 0, 40, 0, 342, 342, 170, 6, 3, 9, 9, 9, 5, 40, 4, 4, 160, 40] : List Nat).getD k 0
def rf (k j : Nat) : Nat := (([[1, 35, 69, 83, 88, 92, 94, 95, 96], [2, 8, 11, 14, 28, 32, 34], [3, 4, 5, 6, 7], [], [], [], [], [], [9, 10], [], [], [12, 13], [], [], [15, 2, 8], [16, 19, 22, 25], [17, 18], [], [], [20, 21], [], [], [23, 24], [], [], [26, 27], [], [], [29, 30, 31], [], [], [], [33], [], [], [36, 42, 45, 48, 62, 66, 68], [37, 38, 39, 40, 41], [], [], [], [], [], [43, 44], [], [], [46, 47], [], [], [49, 36, 42], [50, 53, 56, 59], [51, 52], [], [], [54, 55], [], [], [57, 58], [], [], [60, 61], [], [], [63, 64, 65], [], [], [], [67], [], [], [70, 2, 8], [71, 74, 77, 80], [72, 73], [], [], [75, 76], [], [], [78, 79], [], [], [81, 82], [], [], [84, 0, 2, 85, 86, 87], [], [], [], [], [89], [], [91], [], [93], [], [97, 99, 101, 103], [], [], [98], [], [100], [], [102], [], [104], [], [106, 107, 108, 0, 109, 0, 0, 0, 0, 0, 0, 110, 0, 0, 111, 112, 113, 0, 114, 115, 0, 0, 116, 117, 118, 119], [], [], [], [], [], [], [], [], [], [], [], [], [], []] : List (List Nat)).getD k []).getD j 0
def nf (c : Nat) : Nat := ([8, 6, 4, 4, 6, 12, 3, 2, 5, 5, 9, 10, 26] : List Nat).getD c 0
/-- a field: 0 a number, 1 a reference that stays, 2 one that changes (its number lies in the memory) -/
def fk (c j : Nat) : Nat := (([[1, 1, 0, 0, 0, 0, 0, 0], [1, 1, 1, 1, 1, 0], [1, 1, 0, 0], [1, 1, 1, 0], [1, 0, 2, 0, 0, 0], [1, 0, 1, 1, 1, 1, 0, 0, 0, 0, 0, 0], [1, 0, 0], [1, 0], [1, 1, 1, 0, 0], [1, 0, 0, 0, 0], [1, 1, 1, 1, 1, 1, 1, 0, 0], [1, 1, 1, 1, 1, 1, 1, 1, 1, 0], [1, 1, 1, 0, 1, 0, 0, 0, 0, 0, 0, 1, 0, 0, 1, 1, 1, 0, 1, 1, 0, 0, 1, 1, 1, 1]] : List (List Nat)).getD c []).getD j 0
def rd (μ : Mem) (k j : Nat) : Int32 := μ.1 k j
def rl (μ : Mem) (k j : Nat) : Int64 := μ.2 k j
def wr (μ : Mem) (k j : Nat) (v : Int32) : Mem := (fun a b => if a = k ∧ b = j then v else μ.1 a b, μ.2)
def wl (μ : Mem) (k j : Nat) (v : Int64) : Mem := (μ.1, fun a b => if a = k ∧ b = j then v else μ.2 a b)
def cpy (μ : Mem) (k1 sp k2 dp n : Nat) : Mem := (fun a b => if a = k2 ∧ dp ≤ b ∧ b < dp + n then μ.1 k1 (sp + (b - dp)) else μ.1 a b, μ.2)
/-! numbers as the machine has them -/
def jrem (x y : Int32) : Int32 := x - x / y * y
def jshl (x y : Int32) : Int32 := x <<< (y &&& 31)
def jshr (x y : Int32) : Int32 := x >>> (y &&& 31)
def jushr (x y : Int32) : Int32 := (x.toUInt32 >>> (y.toUInt32 &&& Int32.toUInt32 31)).toInt32
def jlshl (x : Int64) (y : Int32) : Int64 := x <<< (y.toInt64 &&& 63)
def jlshr (x : Int64) (y : Int32) : Int64 := x >>> (y.toInt64 &&& 63)
def jlushr (x : Int64) (y : Int32) : Int64 := (x.toUInt64 >>> (y.toInt64.toUInt64 &&& Int64.toUInt64 63)).toInt64
def jmax (x y : Int32) : Int32 := if x < y then y else x
def jmin (x y : Int32) : Int32 := if y < x then y else x
/-- an index within a row of n -/
def ib (i : Int32) (n : Nat) : Bool := decide (0 ≤ i.toInt) && decide (i.toInt < n)
theorem ib_in {i : Int32} {n : Nat} (h : ib i n = true) : vp_in i n := by
  simp only [ib, Bool.and_eq_true, decide_eq_true_eq] at h
  exact vp_in_iff.mpr h
/-- a boolean -/
def bz (x : Int32) : Bool := decide (x = 0) || decide (x = 1)
theorem bz_nar {x : Int32} (h : bz x = true) : narrow .boolean (.int x) = .int x ∧ fits .boolean (.int x) = true := by
  simp only [bz, Bool.or_eq_true, decide_eq_true_eq] at h
  rcases h with rfl | rfl <;> exact ⟨by decide, by decide⟩
/-- a copy of n within rows of a, b -/
def cb (sp dp n : Int32) (a b : Nat) : Bool := !decide (sp < 0) && !decide (dp < 0) && !decide (n < 0) && decide (sp.toNatClampNeg + n.toNatClampNeg ≤ a) && decide (dp.toNatClampNeg + n.toNatClampNeg ≤ b)
/-! loops -/
def FU : Nat := 1000000000
def lp {σ ρ : Type} (body : σ → Option (σ ⊕ ρ)) : Nat → σ → Option ρ
  | 0, _ => none
  | n + 1, s => (body s).bind fun x => match x with
    | .inl s' => lp body n s'
    | .inr r => some r
theorem lp_walk {σ ρ : Type} {body : σ → Option (σ ⊕ ρ)} (P : σ → Prop) (E : ρ → Prop) (hs : ∀ s x, body s = some x → (∀ s', x = .inl s' → P s') → (∀ r, x = .inr r → E r) → P s) : ∀ (N : Nat) (s : σ) (r : ρ), lp body N s = some r → E r → P s := by
  intro N
  induction N with
  | zero => intro s r h; cases h
  | succ n ih =>
    intro s r h hE
    simp only [lp] at h
    cases hb : body s with
    | none => rw [hb] at h; cases h
    | some x =>
      rw [hb] at h
      cases x with
      | inl s' => exact hs s _ hb (fun s'' e => by cases e; exact ih s' r h hE) (fun r' e => by cases e)
      | inr r' =>
        simp only [Option.bind_some] at h
        cases h
        exact hs s _ hb (fun s'' e => by cases e) (fun r'' e => by cases e; exact hE)
theorem lp_run {σ ρ : Type} {body : σ → Option (σ ⊕ ρ)} (I : σ → Prop) (m : σ → Nat) (Post : ρ → Prop) (hs : ∀ s, I s → (∃ s', body s = some (.inl s') ∧ I s' ∧ m s' < m s) ∨ (∃ r, body s = some (.inr r) ∧ Post r)) : ∀ (N : Nat) (s : σ), I s → m s < N → ∃ r, lp body N s = some r ∧ Post r := by
  intro N
  induction N with
  | zero => intro s _ h; omega
  | succ n ih =>
    intro s hI hm
    rcases hs s hI with ⟨s', hb, hI', hlt⟩ | ⟨r, hb, hp⟩
    · obtain ⟨r, h1, h2⟩ := ih s' hI' (by omega)
      exact ⟨r, by simp only [lp, hb, Option.bind_some]; exact h1, h2⟩
    · exact ⟨r, by simp only [lp, hb, Option.bind_some], hp⟩
theorem of_ite {c : Prop} [Decidable c] {α : Type} {a b : Option α} {x : α} (h : (if c then a else b) = some x) : (c ∧ a = some x) ∨ (¬ c ∧ b = some x) := by
  by_cases hc : c
  · rw [if_pos hc] at h; exact Or.inl ⟨hc, h⟩
  · rw [if_neg hc] at h; exact Or.inr ⟨hc, h⟩
theorem of_gd {c : Prop} [Decidable c] {α : Type} {a : Option α} {x : α} (h : (if c then a else none) = some x) : c ∧ a = some x := by
  by_cases hc : c
  · rw [if_pos hc] at h; exact ⟨hc, h⟩
  · rw [if_neg hc] at h; cases h
theorem of_t {c : Prop} [Decidable c] {α : Type} {a b : Option α} {x : α} (hc : c) (h : (if c then a else b) = some x) : a = some x := by rw [if_pos hc] at h; exact h
theorem of_f {c : Prop} [Decidable c] {α : Type} {a b : Option α} {x : α} (hc : ¬ c) (h : (if c then a else b) = some x) : b = some x := by rw [if_neg hc] at h; exact h
theorem of_bd {α β : Type} {a : Option α} {f : α → Option β} {x : β} (h : a.bind f = some x) : ∃ y, a = some y ∧ f y = some x := by
  cases a with
  | none => cases h
  | some y => exact ⟨y, rfl, h⟩
/-! THE WORLD of a memory -/
abbrev GG : Type := va_G × (Nat → Nat) × (Nat → ClassId) × Nat × (Nat → Nat)
def gD (G : GG) : va_G := G.1
def gad (G : GG) (k : Nat) : Nat := G.2.1 k
def gcy (G : GG) (k : Nat) : ClassId := G.2.2.1 k
def gs0 (G : GG) : Nat := G.2.2.2.1
def gsa (G : GG) (i : Nat) : Nat := G.2.2.2.2 i
def gA (G : GG) : Nat → Prop := fun q => gs0 G ≤ q
def gOK (G : GG) : Prop := (∀ i j, i < NC → j < NC → gad G i = gad G j → i = j) ∧ (∀ k, k < NC → gs0 G ≤ gad G k)
def gTys (G : GG) : List (ClassId × FieldType) := [(gcy G 13, .int), (gcy G 14, .long), (gcy G 15, .object "ChapterLoan$Debtor"), (gcy G 16, .object "ChapterLoan$Sheet")]
def fv (G : GG) (μ : Mem) (k j : Nat) : Value := if fk (sh k) j = 0 then .int (μ.1 k j) else if fk (sh k) j = 1 then .ref (gad G (rf k j)) else .ref (gad G (μ.1 k j).toNatClampNeg)
def fvs (G : GG) (μ : Mem) (k n : Nat) : List Value := (List.range n).map (fv G μ k)
def cel (G : GG) (μ : Mem) (k : Nat) : va_E :=
  if sh k < 13 then .inr (sh k, fvs G μ k (nf (sh k)))
  else if sh k = 13 then .inl (gcy G 13, ln k, .inl (μ.1 k))
  else if sh k = 14 then .inl (gcy G 14, ln k, .inr (.inl (μ.2 k)))
  else .inl (gcy G (sh k), ln k, .inr (.inr (.inr (.inr (fun j => some (gad G (rf k j)))))))
def wld (G : GG) (μ : Mem) : va_W := (List.range NC).map (fun k => (gad G k, cel G μ k))
def stA (i : Nat) : List Int32 := if i = 0 then [-1, 0, 0, 0, 1, 2, 3] else [10, 11, 12, 13, 0, 20, 0, 0, 30, 0, 0, 0, 0, 0, 40, 0, 0, 50, 0, 0, 0, 0, 0, 60, 0, 0, 70, 71]
def st (i j : Nat) : Int32 := (stA i).getD j 0
def gStat (G : GG) (U : State) (H : Heap) : Prop := (va_Z "ChapterLoan" "ABOVE" "[I" (.ref (gsa G 0)) (gA G) U H ∧ va_T .int (gsa G 0) 7 (fun j => .int (st 0 j)) (gA G) U H) ∧ (va_Z "ChapterLoan" "BODIES" "[I" (.ref (gsa G 1)) (gA G) U H ∧ va_T .int (gsa G 1) 28 (fun j => .int (st 1 j)) (gA G) U H)
def gNest (U : State) : Prop := va_Nw (.fieldLinkNest "ChapterLoan$Debtor" 44 "ChapterLoan" "ABOVE" "[I" "ChapterLoan") U ∧ va_Nw (.fieldLinkNest "ChapterLoan$Voices" 36 "ChapterLoan" "BODIES" "[I" "ChapterLoan") U ∧ va_Nw (.fieldLinkNest "ChapterLoan$Voices" 39 "ChapterLoan" "ABOVE" "[I" "ChapterLoan") U
def Wd (G : GG) (μ : Mem) (U : State) : Prop := gOK G ∧ gs0 G ≤ U.heap.size ∧ va_P (gD G) vwCl (wld G μ) U.heap ∧ va_K (gD G) vwCl (gTys G) U ∧ gStat G U U.heap ∧ gNest U
theorem gStat.moved {G : GG} {u U : State} {H : Heap} (hvm : u.vm.Alike U.vm) (h : gStat G u H) : gStat G U H := ⟨⟨h.1.1.moved hvm, h.1.2.moved hvm⟩, ⟨h.2.1.moved hvm, h.2.2.moved hvm⟩⟩
theorem gStat.kept {G : GG} {U : State} {H H1 : Heap} (h : gStat G U H) (hq : ∀ a : Nat, a < H.size → ¬ gA G a → H1[a]? = H[a]?) : gStat G U H1 := ⟨⟨h.1.1.kept hq, h.1.2.kept hq⟩, ⟨h.2.1.kept hq, h.2.2.kept hq⟩⟩
theorem gNest.warm {s U : State} (hW : s.WarmedH U.vm) (h : gNest s) : gNest U := ⟨va_Nw.warmF hW h.1, va_Nw.warmF hW h.2.1, va_Nw.warmF hW h.2.2⟩
theorem gNest.same {u U : State} (e : u.vm = U.vm) (h : gNest u) : gNest U := ⟨va_Nw.same rfl e h.1, va_Nw.same rfl e h.2.1, va_Nw.same rfl e h.2.2⟩
theorem wld_at (G : GG) (μ : Mem) {k : Nat} (hk : k < NC) : (wld G μ)[k]? = some (gad G k, cel G μ k) := by
  simp [wld, hk]
theorem wld_inv {G : GG} {μ : Mem} {k : Nat} {q : Nat × va_E} (h : (wld G μ)[k]? = some q) : k < NC ∧ q = (gad G k, cel G μ k) := by
  have hk : k < NC := by
    have := (List.getElem?_eq_some_iff.mp h).1
    simpa [wld] using this
  rw [wld_at G μ hk] at h
  exact ⟨hk, (Option.some.inj h).symm⟩
theorem wld_D {G : GG} (hOK : gOK G) (μ : Mem) : va_D (gA G) (wld G μ) := by
  refine ⟨fun i j x y hi hj e => ?_, fun k q hq => ?_⟩
  · obtain ⟨h1, rfl⟩ := wld_inv hi
    obtain ⟨h2, rfl⟩ := wld_inv hj
    exact hOK.1 i j h1 h2 e
  · obtain ⟨h1, rfl⟩ := wld_inv hq
    exact hOK.2 k h1
theorem wld_set {G : GG} {μ μ' : Mem} {k : Nat} {e : va_E} (he : cel G μ' k = e) (ho : ∀ i, i < NC → i ≠ k → cel G μ' i = cel G μ i) : (wld G μ).set k (gad G k, e) = wld G μ' := by
  apply List.ext_getElem?
  intro i
  by_cases hi : i < NC
  · rw [wld_at G μ' hi]
    by_cases hik : i = k
    · subst hik
      rw [List.getElem?_set_self (by simpa [wld] using hi), he]
    · rw [List.getElem?_set_ne (Ne.symm hik), wld_at G μ hi, ho i hi hik]
  · rw [List.getElem?_eq_none (by simpa [wld] using hi), List.getElem?_eq_none (by simpa [wld] using hi)]
theorem cel_obj {G : GG} {μ : Mem} {k ci : Nat} (h : sh k = ci) (hc : ci < 13) : cel G μ k = .inr (ci, fvs G μ k (nf ci)) := by
  subst h; simp [cel, hc]
theorem cel_int {G : GG} {μ : Mem} {k : Nat} (h : sh k = 13) : cel G μ k = .inl (gcy G 13, ln k, .inl (μ.1 k)) := by
  simp [cel, h]
theorem cel_long {G : GG} {μ : Mem} {k : Nat} (h : sh k = 14) : cel G μ k = .inl (gcy G 14, ln k, .inr (.inl (μ.2 k))) := by
  simp [cel, h]
theorem cel_ref {G : GG} {μ : Mem} {k ci : Nat} (h : sh k = ci) (h1 : 15 ≤ ci) : cel G μ k = .inl (gcy G ci, ln k, .inr (.inr (.inr (.inr (fun j => some (gad G (rf k j))))))) := by
  subst h
  have a : ¬ sh k < 13 := by omega
  have b : sh k ≠ 13 := by omega
  have c : sh k ≠ 14 := by omega
  simp [cel, a, b, c]
theorem cel_cg {G : GG} {μ μ' : Mem} {i : Nat} (h1 : μ'.1 i = μ.1 i) (h2 : μ'.2 i = μ.2 i) : cel G μ' i = cel G μ i := by
  have h3 : fv G μ' i = fv G μ i := by funext j; simp only [fv, h1]
  simp only [cel, fvs, h1, h2, h3]
theorem cel_ne {G : GG} {μ : Mem} {k j i : Nat} {v : Int32} (h : i ≠ k) : cel G (wr μ k j v) i = cel G μ i :=
  cel_cg (by funext b; simp [wr, h]) rfl
theorem cel_neL {G : GG} {μ : Mem} {k j i : Nat} {v : Int64} (h : i ≠ k) : cel G (wl μ k j v) i = cel G μ i :=
  cel_cg rfl (by funext b; simp [wl, h])
theorem cel_neC {G : GG} {μ : Mem} {k1 sp k2 dp n i : Nat} (h : i ≠ k2) : cel G (cpy μ k1 sp k2 dp n) i = cel G μ i :=
  cel_cg (by funext b; simp [cpy, h]) rfl
theorem fvs_get {G : GG} {μ : Mem} {k n j : Nat} (h : j < n) : (fvs G μ k n)[j]? = some (fv G μ k j) := by
  simp [fvs, h]
theorem fvs_len {G : GG} {μ : Mem} {k n : Nat} : (fvs G μ k n).length = n := by simp [fvs]
theorem fvs_set {G : GG} {μ : Mem} {k n j : Nat} {v : Int32} {w : Value} (hw : fv G (wr μ k j v) k j = w) : (fvs G μ k n).set j w = fvs G (wr μ k j v) k n := by
  apply List.ext_getElem?
  intro i
  by_cases hi : i < n
  · rw [fvs_get hi]
    by_cases hij : i = j
    · subst hij
      rw [List.getElem?_set_self (by rw [fvs_len]; exact hi), hw]
    · rw [List.getElem?_set_ne (Ne.symm hij), fvs_get hi]
      simp [fv, wr, hij]
  · rw [List.getElem?_eq_none (by simpa [fvs] using hi), List.getElem?_eq_none (by simpa [fvs] using hi)]
def isC (c k : Nat) : Prop := k < NC ∧ sh k = c
/-! THE WALK: a frame over a memory -/
abbrev Cx : Type := Program × Launch × Env × Room × State × MethodId × Array Value × List Frame × Method × Code × GG × (State → Prop) × Nat × Nat
def cG : Cx → GG := fun C => C.2.2.2.2.2.2.2.2.2.2.1
def cL : Cx → Launch := fun C => C.2.1
def cS : Cx → State := fun C => C.2.2.2.2.1
def cRet : Cx → Option FieldType := fun C => C.2.2.2.2.2.2.2.2.1.sig.returnType
def QG (G : GG) (K : Option Value → Mem → Prop) : Array Value → State → Outcome → State → Prop := fun _ st oc t => (∃ (v : Option Value) (u : Mem), oc = .returned v ∧ K v u ∧ Wd G u t) ∧ va_F (gA G) st t
def rmD (d : Nat) : Room := { frames := d + 1, cells := 0, slots := 0, locals := 40 * (d + 1) }
def CT (l : Launch) (y : MethodName) (cy : ByteArray) (mL : Nat) (ret : Option FieldType) (d : Nat) (G : GG) (av : List Value) (μ : Mem) (K : Option Value → Mem → Prop) : Prop :=
  Met l y (Cond.code y cy mL ret :: AL) (rmD d) (va_Pc av (Wd G μ)) (QG G K) 0 0 (gA G)
def CxRet (C : Cx) (K : Option Value → Mem → Prop) : Prop := match C with
  | (p, l, e, R, s, m, args, below, meth, c, G, Q, cells, slots) => Q = MQ below (QG G K) args s cells slots (gA G)
def CxOK (C : Cx) (cc : ByteArray) (nL : Nat) (own : String) (d : Nat) : Prop := match C with
  | (p, l, e, R, s, m, args, below, meth, c, G, Q, cells, slots) => (p.tables.exec = Jvm.exec ∧ c.code = cc ∧ c.maxLocals = nL ∧ s.vm.findClass own = some m.cls ∧ ∀ w ∈ AL, w.before args s = true) ∧ meth.locks = false ∧ gOK G ∧ gs0 G ≤ s.heap.size ∧ va_K (gD G) vwCl (gTys G) s ∧ gStat G s s.heap ∧ gNest s ∧ (d + 1 ≤ R.frames ∧ 40 + 40 * d ≤ R.locals) ∧ (cells ≤ R.cells ∧ slots ≤ R.slots)
def UW (C : Cx) (nL : Nat) (μ : Mem) (pc : Nat) (lc : List (Nat × Value)) (sk : List Value) : Prop := match C with
  | (p, l, e, R, s, m, args, below, meth, c, G, Q, cells, slots) => ∀ (H : Heap) (locs : List Loc) (ls : Array Slot), va_P (gD G) vwCl (wld G μ) H → va_S (gA G) s.heap H locs → lv_has ls nL lc → W p l e R s m args below meth c H locs cells slots Q (F0 m pc ls sk)
theorem u_iconst {C : Cx} {cc : ByteArray} {nL : Nat} {own : String} {d : Nat} (hC : CxOK C cc nL own d) {μ : Mem} {pc : Nat} {lc : List (Nat × Value)} {sk : List Value} {n : Int} {v : Int32} (hv : Int32.ofInt n = v) (hd : decode cc pc = .ok (.iconst n, 1)) (k : UW C nL μ (pc + 1) lc (.int v :: sk)) : UW C nL μ pc lc (sk) := by
  obtain ⟨p, l, e, R, s, m, args, below, meth, c, G, Q, cells, slots⟩ := C
  obtain ⟨⟨hx, hb, hml, hown, hts⟩, hlk, hOK, hs0, hK, hSt, hNs, hR, hcs⟩ := hC
  intro H locs ls hP hS hl
  exact lv_iconst hx hb hd hv (k H locs ls hP hS hl)
theorem u_bipush {C : Cx} {cc : ByteArray} {nL : Nat} {own : String} {d : Nat} (hC : CxOK C cc nL own d) {μ : Mem} {pc : Nat} {lc : List (Nat × Value)} {sk : List Value} {n : Int} {v : Int32} (hv : (Int8.ofInt n).toInt32 = v) (hd : decode cc pc = .ok (.bipush n, 2)) (k : UW C nL μ (pc + 2) lc (.int v :: sk)) : UW C nL μ pc lc (sk) := by
  obtain ⟨p, l, e, R, s, m, args, below, meth, c, G, Q, cells, slots⟩ := C
  obtain ⟨⟨hx, hb, hml, hown, hts⟩, hlk, hOK, hs0, hK, hSt, hNs, hR, hcs⟩ := hC
  intro H locs ls hP hS hl
  exact lv_bipush hx hb hd hv (k H locs ls hP hS hl)
theorem u_sipush {C : Cx} {cc : ByteArray} {nL : Nat} {own : String} {d : Nat} (hC : CxOK C cc nL own d) {μ : Mem} {pc : Nat} {lc : List (Nat × Value)} {sk : List Value} {n : Int} {v : Int32} (hv : (Int16.ofInt n).toInt32 = v) (hd : decode cc pc = .ok (.sipush n, 3)) (k : UW C nL μ (pc + 3) lc (.int v :: sk)) : UW C nL μ pc lc (sk) := by
  obtain ⟨p, l, e, R, s, m, args, below, meth, c, G, Q, cells, slots⟩ := C
  obtain ⟨⟨hx, hb, hml, hown, hts⟩, hlk, hOK, hs0, hK, hSt, hNs, hR, hcs⟩ := hC
  intro H locs ls hP hS hl
  exact lv_sipush hx hb hd hv (k H locs ls hP hS hl)
theorem u_lconst {C : Cx} {cc : ByteArray} {nL : Nat} {own : String} {d : Nat} (hC : CxOK C cc nL own d) {μ : Mem} {pc : Nat} {lc : List (Nat × Value)} {sk : List Value} {n : Fin 2} {v : Int64} (hv : Int64.ofNat (n : Nat) = v) (hd : decode cc pc = .ok (.lconst n, 1)) (k : UW C nL μ (pc + 1) lc (.long v :: sk)) : UW C nL μ pc lc (sk) := by
  obtain ⟨p, l, e, R, s, m, args, below, meth, c, G, Q, cells, slots⟩ := C
  obtain ⟨⟨hx, hb, hml, hown, hts⟩, hlk, hOK, hs0, hK, hSt, hNs, hR, hcs⟩ := hC
  intro H locs ls hP hS hl
  exact lv_lconst hx hb hd hv (k H locs ls hP hS hl)
theorem u_iload_n {C : Cx} {cc : ByteArray} {nL : Nat} {own : String} {d : Nat} (hC : CxOK C cc nL own d) {μ : Mem} {pc : Nat} {lc : List (Nat × Value)} {sk : List Value} {n : Fin 4} {i : Nat} {x : Int32} (hd : decode cc pc = .ok (.iload_n n, 1)) (hi : (n : Nat) = i) (q : Nat) (hq : lc[q]? = some (i, .int x)) (k : UW C nL μ (pc + 1) lc (.int x :: sk)) : UW C nL μ pc lc sk := by
  obtain ⟨p, l, e, R, s, m, args, below, meth, c, G, Q, cells, slots⟩ := C
  obtain ⟨⟨hx, hb, hml, hown, hts⟩, hlk, hOK, hs0, hK, hSt, hNs, hR, hcs⟩ := hC
  intro H locs ls hP hS hl
  exact lv_iload_n hx hb hd hi (lv_at hl q hq) (k H locs ls hP hS hl)
theorem u_iload {C : Cx} {cc : ByteArray} {nL : Nat} {own : String} {d : Nat} (hC : CxOK C cc nL own d) {μ : Mem} {pc : Nat} {lc : List (Nat × Value)} {sk : List Value} {i : Nat} {x : Int32} (hd : decode cc pc = .ok (.iload i, 2)) (q : Nat) (hq : lc[q]? = some (i, .int x)) (k : UW C nL μ (pc + 2) lc (.int x :: sk)) : UW C nL μ pc lc sk := by
  obtain ⟨p, l, e, R, s, m, args, below, meth, c, G, Q, cells, slots⟩ := C
  obtain ⟨⟨hx, hb, hml, hown, hts⟩, hlk, hOK, hs0, hK, hSt, hNs, hR, hcs⟩ := hC
  intro H locs ls hP hS hl
  exact lv_iload hx hb hd (lv_at hl q hq) (k H locs ls hP hS hl)
theorem u_istore_n {C : Cx} {cc : ByteArray} {nL : Nat} {own : String} {d : Nat} (hC : CxOK C cc nL own d) {μ : Mem} {pc : Nat} {lc : List (Nat × Value)} {sk : List Value} {n : Fin 4} {i : Nat} {x : Int32} (hd : decode cc pc = .ok (.istore_n n, 1)) (hi : (n : Nat) = i) (lc1 : List (Nat × Value)) (hn : i < nL) (hq : (i, Value.int x) :: lc.filter (fun q => !(q.1 == i) && !(q.1 + 1 == i && q.2.category == 2)) = lc1) (k : UW C nL μ (pc + 1) lc1 sk) : UW C nL μ pc lc (.int x :: sk) := by
  obtain ⟨p, l, e, R, s, m, args, below, meth, c, G, Q, cells, slots⟩ := C
  obtain ⟨⟨hx, hb, hml, hown, hts⟩, hlk, hOK, hs0, hK, hSt, hNs, hR, hcs⟩ := hC
  intro H locs ls hP hS hl
  exact lv_istore_n hx hb hd hi hl hn hq (fun ls hl => k H locs ls hP hS hl)
theorem u_istore {C : Cx} {cc : ByteArray} {nL : Nat} {own : String} {d : Nat} (hC : CxOK C cc nL own d) {μ : Mem} {pc : Nat} {lc : List (Nat × Value)} {sk : List Value} {i : Nat} {x : Int32} (hd : decode cc pc = .ok (.istore i, 2)) (lc1 : List (Nat × Value)) (hn : i < nL) (hq : (i, Value.int x) :: lc.filter (fun q => !(q.1 == i) && !(q.1 + 1 == i && q.2.category == 2)) = lc1) (k : UW C nL μ (pc + 2) lc1 sk) : UW C nL μ pc lc (.int x :: sk) := by
  obtain ⟨p, l, e, R, s, m, args, below, meth, c, G, Q, cells, slots⟩ := C
  obtain ⟨⟨hx, hb, hml, hown, hts⟩, hlk, hOK, hs0, hK, hSt, hNs, hR, hcs⟩ := hC
  intro H locs ls hP hS hl
  exact lv_istore hx hb hd hl hn hq (fun ls hl => k H locs ls hP hS hl)
theorem u_lload_n {C : Cx} {cc : ByteArray} {nL : Nat} {own : String} {d : Nat} (hC : CxOK C cc nL own d) {μ : Mem} {pc : Nat} {lc : List (Nat × Value)} {sk : List Value} {n : Fin 4} {i : Nat} {x : Int64} (hd : decode cc pc = .ok (.lload_n n, 1)) (hi : (n : Nat) = i) (q : Nat) (hq : lc[q]? = some (i, .long x)) (k : UW C nL μ (pc + 1) lc (.long x :: sk)) : UW C nL μ pc lc sk := by
  obtain ⟨p, l, e, R, s, m, args, below, meth, c, G, Q, cells, slots⟩ := C
  obtain ⟨⟨hx, hb, hml, hown, hts⟩, hlk, hOK, hs0, hK, hSt, hNs, hR, hcs⟩ := hC
  intro H locs ls hP hS hl
  exact lv_lload_n hx hb hd hi (lv_at hl q hq) (k H locs ls hP hS hl)
theorem u_lload {C : Cx} {cc : ByteArray} {nL : Nat} {own : String} {d : Nat} (hC : CxOK C cc nL own d) {μ : Mem} {pc : Nat} {lc : List (Nat × Value)} {sk : List Value} {i : Nat} {x : Int64} (hd : decode cc pc = .ok (.lload i, 2)) (q : Nat) (hq : lc[q]? = some (i, .long x)) (k : UW C nL μ (pc + 2) lc (.long x :: sk)) : UW C nL μ pc lc sk := by
  obtain ⟨p, l, e, R, s, m, args, below, meth, c, G, Q, cells, slots⟩ := C
  obtain ⟨⟨hx, hb, hml, hown, hts⟩, hlk, hOK, hs0, hK, hSt, hNs, hR, hcs⟩ := hC
  intro H locs ls hP hS hl
  exact lv_lload hx hb hd (lv_at hl q hq) (k H locs ls hP hS hl)
theorem u_lstore_n {C : Cx} {cc : ByteArray} {nL : Nat} {own : String} {d : Nat} (hC : CxOK C cc nL own d) {μ : Mem} {pc : Nat} {lc : List (Nat × Value)} {sk : List Value} {n : Fin 4} {i : Nat} {x : Int64} (hd : decode cc pc = .ok (.lstore_n n, 1)) (hi : (n : Nat) = i) (lc1 : List (Nat × Value)) (hn : i + 1 < nL) (hq : (i, Value.long x) :: lc.filter (fun q => !(q.1 == i) && (!(q.1 == i + 1) && !(q.1 + 1 == i && q.2.category == 2))) = lc1) (k : UW C nL μ (pc + 1) lc1 sk) : UW C nL μ pc lc (.long x :: sk) := by
  obtain ⟨p, l, e, R, s, m, args, below, meth, c, G, Q, cells, slots⟩ := C
  obtain ⟨⟨hx, hb, hml, hown, hts⟩, hlk, hOK, hs0, hK, hSt, hNs, hR, hcs⟩ := hC
  intro H locs ls hP hS hl
  exact lv_lstore_n hx hb hd hi hl hn hq (fun ls hl => k H locs ls hP hS hl)
theorem u_lstore {C : Cx} {cc : ByteArray} {nL : Nat} {own : String} {d : Nat} (hC : CxOK C cc nL own d) {μ : Mem} {pc : Nat} {lc : List (Nat × Value)} {sk : List Value} {i : Nat} {x : Int64} (hd : decode cc pc = .ok (.lstore i, 2)) (lc1 : List (Nat × Value)) (hn : i + 1 < nL) (hq : (i, Value.long x) :: lc.filter (fun q => !(q.1 == i) && (!(q.1 == i + 1) && !(q.1 + 1 == i && q.2.category == 2))) = lc1) (k : UW C nL μ (pc + 2) lc1 sk) : UW C nL μ pc lc (.long x :: sk) := by
  obtain ⟨p, l, e, R, s, m, args, below, meth, c, G, Q, cells, slots⟩ := C
  obtain ⟨⟨hx, hb, hml, hown, hts⟩, hlk, hOK, hs0, hK, hSt, hNs, hR, hcs⟩ := hC
  intro H locs ls hP hS hl
  exact lv_lstore hx hb hd hl hn hq (fun ls hl => k H locs ls hP hS hl)
theorem u_aload_n {C : Cx} {cc : ByteArray} {nL : Nat} {own : String} {d : Nat} (hC : CxOK C cc nL own d) {μ : Mem} {pc : Nat} {lc : List (Nat × Value)} {sk : List Value} {n : Fin 4} {i : Nat} {x : Nat} (hd : decode cc pc = .ok (.aload_n n, 1)) (hi : (n : Nat) = i) (q : Nat) (hq : lc[q]? = some (i, .ref x)) (k : UW C nL μ (pc + 1) lc (.ref x :: sk)) : UW C nL μ pc lc sk := by
  obtain ⟨p, l, e, R, s, m, args, below, meth, c, G, Q, cells, slots⟩ := C
  obtain ⟨⟨hx, hb, hml, hown, hts⟩, hlk, hOK, hs0, hK, hSt, hNs, hR, hcs⟩ := hC
  intro H locs ls hP hS hl
  exact lv_aload_n hx hb hd hi (lv_at hl q hq) (k H locs ls hP hS hl)
theorem u_aload {C : Cx} {cc : ByteArray} {nL : Nat} {own : String} {d : Nat} (hC : CxOK C cc nL own d) {μ : Mem} {pc : Nat} {lc : List (Nat × Value)} {sk : List Value} {i : Nat} {x : Nat} (hd : decode cc pc = .ok (.aload i, 2)) (q : Nat) (hq : lc[q]? = some (i, .ref x)) (k : UW C nL μ (pc + 2) lc (.ref x :: sk)) : UW C nL μ pc lc sk := by
  obtain ⟨p, l, e, R, s, m, args, below, meth, c, G, Q, cells, slots⟩ := C
  obtain ⟨⟨hx, hb, hml, hown, hts⟩, hlk, hOK, hs0, hK, hSt, hNs, hR, hcs⟩ := hC
  intro H locs ls hP hS hl
  exact lv_aload hx hb hd (lv_at hl q hq) (k H locs ls hP hS hl)
theorem u_astore_n {C : Cx} {cc : ByteArray} {nL : Nat} {own : String} {d : Nat} (hC : CxOK C cc nL own d) {μ : Mem} {pc : Nat} {lc : List (Nat × Value)} {sk : List Value} {n : Fin 4} {i : Nat} {x : Nat} (hd : decode cc pc = .ok (.astore_n n, 1)) (hi : (n : Nat) = i) (lc1 : List (Nat × Value)) (hn : i < nL) (hq : (i, Value.ref x) :: lc.filter (fun q => !(q.1 == i) && !(q.1 + 1 == i && q.2.category == 2)) = lc1) (k : UW C nL μ (pc + 1) lc1 sk) : UW C nL μ pc lc (.ref x :: sk) := by
  obtain ⟨p, l, e, R, s, m, args, below, meth, c, G, Q, cells, slots⟩ := C
  obtain ⟨⟨hx, hb, hml, hown, hts⟩, hlk, hOK, hs0, hK, hSt, hNs, hR, hcs⟩ := hC
  intro H locs ls hP hS hl
  exact lv_astore_n hx hb hd hi hl hn hq (fun ls hl => k H locs ls hP hS hl)
theorem u_astore {C : Cx} {cc : ByteArray} {nL : Nat} {own : String} {d : Nat} (hC : CxOK C cc nL own d) {μ : Mem} {pc : Nat} {lc : List (Nat × Value)} {sk : List Value} {i : Nat} {x : Nat} (hd : decode cc pc = .ok (.astore i, 2)) (lc1 : List (Nat × Value)) (hn : i < nL) (hq : (i, Value.ref x) :: lc.filter (fun q => !(q.1 == i) && !(q.1 + 1 == i && q.2.category == 2)) = lc1) (k : UW C nL μ (pc + 2) lc1 sk) : UW C nL μ pc lc (.ref x :: sk) := by
  obtain ⟨p, l, e, R, s, m, args, below, meth, c, G, Q, cells, slots⟩ := C
  obtain ⟨⟨hx, hb, hml, hown, hts⟩, hlk, hOK, hs0, hK, hSt, hNs, hR, hcs⟩ := hC
  intro H locs ls hP hS hl
  exact lv_astore hx hb hd hl hn hq (fun ls hl => k H locs ls hP hS hl)
theorem u_iinc {C : Cx} {cc : ByteArray} {nL : Nat} {own : String} {d : Nat} (hC : CxOK C cc nL own d) {μ : Mem} {pc : Nat} {lc : List (Nat × Value)} {sk : List Value} {i : Nat} {n : Int} {x : Int32} (hd : decode cc pc = .ok (.iinc i n, 3)) (q : Nat) (hq : lc[q]? = some (i, .int x)) (v : Int32) (hv : x + Int32.ofInt n = v) (lc1 : List (Nat × Value)) (hn : i < nL) (hf : (i, Value.int v) :: lc.filter (fun q => !(q.1 == i) && !(q.1 + 1 == i && q.2.category == 2)) = lc1) (k : UW C nL μ (pc + 3) lc1 sk) : UW C nL μ pc lc sk := by
  obtain ⟨p, l, e, R, s, m, args, below, meth, c, G, Q, cells, slots⟩ := C
  obtain ⟨⟨hx, hb, hml, hown, hts⟩, hlk, hOK, hs0, hK, hSt, hNs, hR, hcs⟩ := hC
  intro H locs ls hP hS hl
  exact lv_iinc hx hb hd hl hq hv hn hf (fun ls hl => k H locs ls hP hS hl)
theorem u_iadd {C : Cx} {cc : ByteArray} {nL : Nat} {own : String} {d : Nat} (hC : CxOK C cc nL own d) {μ : Mem} {pc : Nat} {lc : List (Nat × Value)} {sk : List Value} {x y : Int32} (hd : decode cc pc = .ok (.iadd, 1)) (k : UW C nL μ (pc + 1) lc (.int (x + y) :: sk)) : UW C nL μ pc lc (.int y :: .int x :: sk) := by
  obtain ⟨p, l, e, R, s, m, args, below, meth, c, G, Q, cells, slots⟩ := C
  obtain ⟨⟨hx, hb, hml, hown, hts⟩, hlk, hOK, hs0, hK, hSt, hNs, hR, hcs⟩ := hC
  intro H locs ls hP hS hl
  exact lv_iadd hx hb hd  (k H locs ls hP hS hl)
theorem u_isub {C : Cx} {cc : ByteArray} {nL : Nat} {own : String} {d : Nat} (hC : CxOK C cc nL own d) {μ : Mem} {pc : Nat} {lc : List (Nat × Value)} {sk : List Value} {x y : Int32} (hd : decode cc pc = .ok (.isub, 1)) (k : UW C nL μ (pc + 1) lc (.int (x - y) :: sk)) : UW C nL μ pc lc (.int y :: .int x :: sk) := by
  obtain ⟨p, l, e, R, s, m, args, below, meth, c, G, Q, cells, slots⟩ := C
  obtain ⟨⟨hx, hb, hml, hown, hts⟩, hlk, hOK, hs0, hK, hSt, hNs, hR, hcs⟩ := hC
  intro H locs ls hP hS hl
  exact lv_isub hx hb hd  (k H locs ls hP hS hl)
theorem u_imul {C : Cx} {cc : ByteArray} {nL : Nat} {own : String} {d : Nat} (hC : CxOK C cc nL own d) {μ : Mem} {pc : Nat} {lc : List (Nat × Value)} {sk : List Value} {x y : Int32} (hd : decode cc pc = .ok (.imul, 1)) (k : UW C nL μ (pc + 1) lc (.int (x * y) :: sk)) : UW C nL μ pc lc (.int y :: .int x :: sk) := by
  obtain ⟨p, l, e, R, s, m, args, below, meth, c, G, Q, cells, slots⟩ := C
  obtain ⟨⟨hx, hb, hml, hown, hts⟩, hlk, hOK, hs0, hK, hSt, hNs, hR, hcs⟩ := hC
  intro H locs ls hP hS hl
  exact lv_imul hx hb hd  (k H locs ls hP hS hl)
theorem u_iand {C : Cx} {cc : ByteArray} {nL : Nat} {own : String} {d : Nat} (hC : CxOK C cc nL own d) {μ : Mem} {pc : Nat} {lc : List (Nat × Value)} {sk : List Value} {x y : Int32} (hd : decode cc pc = .ok (.iand, 1)) (k : UW C nL μ (pc + 1) lc (.int (x &&& y) :: sk)) : UW C nL μ pc lc (.int y :: .int x :: sk) := by
  obtain ⟨p, l, e, R, s, m, args, below, meth, c, G, Q, cells, slots⟩ := C
  obtain ⟨⟨hx, hb, hml, hown, hts⟩, hlk, hOK, hs0, hK, hSt, hNs, hR, hcs⟩ := hC
  intro H locs ls hP hS hl
  exact lv_iand hx hb hd  (k H locs ls hP hS hl)
theorem u_ior {C : Cx} {cc : ByteArray} {nL : Nat} {own : String} {d : Nat} (hC : CxOK C cc nL own d) {μ : Mem} {pc : Nat} {lc : List (Nat × Value)} {sk : List Value} {x y : Int32} (hd : decode cc pc = .ok (.ior, 1)) (k : UW C nL μ (pc + 1) lc (.int (x ||| y) :: sk)) : UW C nL μ pc lc (.int y :: .int x :: sk) := by
  obtain ⟨p, l, e, R, s, m, args, below, meth, c, G, Q, cells, slots⟩ := C
  obtain ⟨⟨hx, hb, hml, hown, hts⟩, hlk, hOK, hs0, hK, hSt, hNs, hR, hcs⟩ := hC
  intro H locs ls hP hS hl
  exact lv_ior hx hb hd  (k H locs ls hP hS hl)
theorem u_ixor {C : Cx} {cc : ByteArray} {nL : Nat} {own : String} {d : Nat} (hC : CxOK C cc nL own d) {μ : Mem} {pc : Nat} {lc : List (Nat × Value)} {sk : List Value} {x y : Int32} (hd : decode cc pc = .ok (.ixor, 1)) (k : UW C nL μ (pc + 1) lc (.int (x ^^^ y) :: sk)) : UW C nL μ pc lc (.int y :: .int x :: sk) := by
  obtain ⟨p, l, e, R, s, m, args, below, meth, c, G, Q, cells, slots⟩ := C
  obtain ⟨⟨hx, hb, hml, hown, hts⟩, hlk, hOK, hs0, hK, hSt, hNs, hR, hcs⟩ := hC
  intro H locs ls hP hS hl
  exact lv_ixor hx hb hd  (k H locs ls hP hS hl)
theorem u_ishl {C : Cx} {cc : ByteArray} {nL : Nat} {own : String} {d : Nat} (hC : CxOK C cc nL own d) {μ : Mem} {pc : Nat} {lc : List (Nat × Value)} {sk : List Value} {x y : Int32} (hd : decode cc pc = .ok (.ishl, 1)) (k : UW C nL μ (pc + 1) lc (.int (jshl x y) :: sk)) : UW C nL μ pc lc (.int y :: .int x :: sk) := by
  obtain ⟨p, l, e, R, s, m, args, below, meth, c, G, Q, cells, slots⟩ := C
  obtain ⟨⟨hx, hb, hml, hown, hts⟩, hlk, hOK, hs0, hK, hSt, hNs, hR, hcs⟩ := hC
  intro H locs ls hP hS hl
  exact lv_ishl hx hb hd  (k H locs ls hP hS hl)
theorem u_ishr {C : Cx} {cc : ByteArray} {nL : Nat} {own : String} {d : Nat} (hC : CxOK C cc nL own d) {μ : Mem} {pc : Nat} {lc : List (Nat × Value)} {sk : List Value} {x y : Int32} (hd : decode cc pc = .ok (.ishr, 1)) (k : UW C nL μ (pc + 1) lc (.int (jshr x y) :: sk)) : UW C nL μ pc lc (.int y :: .int x :: sk) := by
  obtain ⟨p, l, e, R, s, m, args, below, meth, c, G, Q, cells, slots⟩ := C
  obtain ⟨⟨hx, hb, hml, hown, hts⟩, hlk, hOK, hs0, hK, hSt, hNs, hR, hcs⟩ := hC
  intro H locs ls hP hS hl
  exact lv_ishr hx hb hd  (k H locs ls hP hS hl)
theorem u_idiv {C : Cx} {cc : ByteArray} {nL : Nat} {own : String} {d : Nat} (hC : CxOK C cc nL own d) {μ : Mem} {pc : Nat} {lc : List (Nat × Value)} {sk : List Value} {x y : Int32} (hne : ¬ y = 0) (hd : decode cc pc = .ok (.idiv, 1)) (k : UW C nL μ (pc + 1) lc (.int (x / y) :: sk)) : UW C nL μ pc lc (.int y :: .int x :: sk) := by
  obtain ⟨p, l, e, R, s, m, args, below, meth, c, G, Q, cells, slots⟩ := C
  obtain ⟨⟨hx, hb, hml, hown, hts⟩, hlk, hOK, hs0, hK, hSt, hNs, hR, hcs⟩ := hC
  intro H locs ls hP hS hl
  exact lv_idiv hx hb hd hne (k H locs ls hP hS hl)
theorem u_irem {C : Cx} {cc : ByteArray} {nL : Nat} {own : String} {d : Nat} (hC : CxOK C cc nL own d) {μ : Mem} {pc : Nat} {lc : List (Nat × Value)} {sk : List Value} {x y : Int32} (hne : ¬ y = 0) (hd : decode cc pc = .ok (.irem, 1)) (k : UW C nL μ (pc + 1) lc (.int (jrem x y) :: sk)) : UW C nL μ pc lc (.int y :: .int x :: sk) := by
  obtain ⟨p, l, e, R, s, m, args, below, meth, c, G, Q, cells, slots⟩ := C
  obtain ⟨⟨hx, hb, hml, hown, hts⟩, hlk, hOK, hs0, hK, hSt, hNs, hR, hcs⟩ := hC
  intro H locs ls hP hS hl
  exact lv_irem hx hb hd hne (k H locs ls hP hS hl)
theorem u_iushr {C : Cx} {cc : ByteArray} {nL : Nat} {own : String} {d : Nat} (hC : CxOK C cc nL own d) {μ : Mem} {pc : Nat} {lc : List (Nat × Value)} {sk : List Value} {x y : Int32} (hd : decode cc pc = .ok (.iushr, 1)) (k : UW C nL μ (pc + 1) lc (.int (jushr x y) :: sk)) : UW C nL μ pc lc (.int y :: .int x :: sk) := by
  obtain ⟨p, l, e, R, s, m, args, below, meth, c, G, Q, cells, slots⟩ := C
  obtain ⟨⟨hx, hb, hml, hown, hts⟩, hlk, hOK, hs0, hK, hSt, hNs, hR, hcs⟩ := hC
  intro H locs ls hP hS hl
  exact lv_iushr hx hb hd rfl (k H locs ls hP hS hl)
theorem u_ineg {C : Cx} {cc : ByteArray} {nL : Nat} {own : String} {d : Nat} (hC : CxOK C cc nL own d) {μ : Mem} {pc : Nat} {lc : List (Nat × Value)} {sk : List Value} {x : Int32} (hd : decode cc pc = .ok (.ineg, 1)) (k : UW C nL μ (pc + 1) lc (.int (-x) :: sk)) : UW C nL μ pc lc (.int x :: sk) := by
  obtain ⟨p, l, e, R, s, m, args, below, meth, c, G, Q, cells, slots⟩ := C
  obtain ⟨⟨hx, hb, hml, hown, hts⟩, hlk, hOK, hs0, hK, hSt, hNs, hR, hcs⟩ := hC
  intro H locs ls hP hS hl
  exact lv_ineg hx hb hd  (k H locs ls hP hS hl)
theorem u_ladd {C : Cx} {cc : ByteArray} {nL : Nat} {own : String} {d : Nat} (hC : CxOK C cc nL own d) {μ : Mem} {pc : Nat} {lc : List (Nat × Value)} {sk : List Value} {x y : Int64} (hd : decode cc pc = .ok (.ladd, 1)) (k : UW C nL μ (pc + 1) lc (.long (x + y) :: sk)) : UW C nL μ pc lc (.long y :: .long x :: sk) := by
  obtain ⟨p, l, e, R, s, m, args, below, meth, c, G, Q, cells, slots⟩ := C
  obtain ⟨⟨hx, hb, hml, hown, hts⟩, hlk, hOK, hs0, hK, hSt, hNs, hR, hcs⟩ := hC
  intro H locs ls hP hS hl
  exact lv_ladd hx hb hd  (k H locs ls hP hS hl)
theorem u_lsub {C : Cx} {cc : ByteArray} {nL : Nat} {own : String} {d : Nat} (hC : CxOK C cc nL own d) {μ : Mem} {pc : Nat} {lc : List (Nat × Value)} {sk : List Value} {x y : Int64} (hd : decode cc pc = .ok (.lsub, 1)) (k : UW C nL μ (pc + 1) lc (.long (x - y) :: sk)) : UW C nL μ pc lc (.long y :: .long x :: sk) := by
  obtain ⟨p, l, e, R, s, m, args, below, meth, c, G, Q, cells, slots⟩ := C
  obtain ⟨⟨hx, hb, hml, hown, hts⟩, hlk, hOK, hs0, hK, hSt, hNs, hR, hcs⟩ := hC
  intro H locs ls hP hS hl
  exact lv_lsub hx hb hd  (k H locs ls hP hS hl)
theorem u_lmul {C : Cx} {cc : ByteArray} {nL : Nat} {own : String} {d : Nat} (hC : CxOK C cc nL own d) {μ : Mem} {pc : Nat} {lc : List (Nat × Value)} {sk : List Value} {x y : Int64} (hd : decode cc pc = .ok (.lmul, 1)) (k : UW C nL μ (pc + 1) lc (.long (x * y) :: sk)) : UW C nL μ pc lc (.long y :: .long x :: sk) := by
  obtain ⟨p, l, e, R, s, m, args, below, meth, c, G, Q, cells, slots⟩ := C
  obtain ⟨⟨hx, hb, hml, hown, hts⟩, hlk, hOK, hs0, hK, hSt, hNs, hR, hcs⟩ := hC
  intro H locs ls hP hS hl
  exact lv_lmul hx hb hd  (k H locs ls hP hS hl)
theorem u_land {C : Cx} {cc : ByteArray} {nL : Nat} {own : String} {d : Nat} (hC : CxOK C cc nL own d) {μ : Mem} {pc : Nat} {lc : List (Nat × Value)} {sk : List Value} {x y : Int64} (hd : decode cc pc = .ok (.land, 1)) (k : UW C nL μ (pc + 1) lc (.long (x &&& y) :: sk)) : UW C nL μ pc lc (.long y :: .long x :: sk) := by
  obtain ⟨p, l, e, R, s, m, args, below, meth, c, G, Q, cells, slots⟩ := C
  obtain ⟨⟨hx, hb, hml, hown, hts⟩, hlk, hOK, hs0, hK, hSt, hNs, hR, hcs⟩ := hC
  intro H locs ls hP hS hl
  exact lv_land hx hb hd  (k H locs ls hP hS hl)
theorem u_lor {C : Cx} {cc : ByteArray} {nL : Nat} {own : String} {d : Nat} (hC : CxOK C cc nL own d) {μ : Mem} {pc : Nat} {lc : List (Nat × Value)} {sk : List Value} {x y : Int64} (hd : decode cc pc = .ok (.lor, 1)) (k : UW C nL μ (pc + 1) lc (.long (x ||| y) :: sk)) : UW C nL μ pc lc (.long y :: .long x :: sk) := by
  obtain ⟨p, l, e, R, s, m, args, below, meth, c, G, Q, cells, slots⟩ := C
  obtain ⟨⟨hx, hb, hml, hown, hts⟩, hlk, hOK, hs0, hK, hSt, hNs, hR, hcs⟩ := hC
  intro H locs ls hP hS hl
  exact lv_lor hx hb hd  (k H locs ls hP hS hl)
theorem u_lxor {C : Cx} {cc : ByteArray} {nL : Nat} {own : String} {d : Nat} (hC : CxOK C cc nL own d) {μ : Mem} {pc : Nat} {lc : List (Nat × Value)} {sk : List Value} {x y : Int64} (hd : decode cc pc = .ok (.lxor, 1)) (k : UW C nL μ (pc + 1) lc (.long (x ^^^ y) :: sk)) : UW C nL μ pc lc (.long y :: .long x :: sk) := by
  obtain ⟨p, l, e, R, s, m, args, below, meth, c, G, Q, cells, slots⟩ := C
  obtain ⟨⟨hx, hb, hml, hown, hts⟩, hlk, hOK, hs0, hK, hSt, hNs, hR, hcs⟩ := hC
  intro H locs ls hP hS hl
  exact lv_lxor hx hb hd  (k H locs ls hP hS hl)
theorem u_lshl {C : Cx} {cc : ByteArray} {nL : Nat} {own : String} {d : Nat} (hC : CxOK C cc nL own d) {μ : Mem} {pc : Nat} {lc : List (Nat × Value)} {sk : List Value} {x : Int64} {y : Int32} (hd : decode cc pc = .ok (.lshl, 1)) (k : UW C nL μ (pc + 1) lc (.long (jlshl x y) :: sk)) : UW C nL μ pc lc (.int y :: .long x :: sk) := by
  obtain ⟨p, l, e, R, s, m, args, below, meth, c, G, Q, cells, slots⟩ := C
  obtain ⟨⟨hx, hb, hml, hown, hts⟩, hlk, hOK, hs0, hK, hSt, hNs, hR, hcs⟩ := hC
  intro H locs ls hP hS hl
  exact lv_lshl hx hb hd rfl (k H locs ls hP hS hl)
theorem u_lshr {C : Cx} {cc : ByteArray} {nL : Nat} {own : String} {d : Nat} (hC : CxOK C cc nL own d) {μ : Mem} {pc : Nat} {lc : List (Nat × Value)} {sk : List Value} {x : Int64} {y : Int32} (hd : decode cc pc = .ok (.lshr, 1)) (k : UW C nL μ (pc + 1) lc (.long (jlshr x y) :: sk)) : UW C nL μ pc lc (.int y :: .long x :: sk) := by
  obtain ⟨p, l, e, R, s, m, args, below, meth, c, G, Q, cells, slots⟩ := C
  obtain ⟨⟨hx, hb, hml, hown, hts⟩, hlk, hOK, hs0, hK, hSt, hNs, hR, hcs⟩ := hC
  intro H locs ls hP hS hl
  exact lv_lshr hx hb hd rfl (k H locs ls hP hS hl)
theorem u_lushr {C : Cx} {cc : ByteArray} {nL : Nat} {own : String} {d : Nat} (hC : CxOK C cc nL own d) {μ : Mem} {pc : Nat} {lc : List (Nat × Value)} {sk : List Value} {x : Int64} {y : Int32} (hd : decode cc pc = .ok (.lushr, 1)) (k : UW C nL μ (pc + 1) lc (.long (jlushr x y) :: sk)) : UW C nL μ pc lc (.int y :: .long x :: sk) := by
  obtain ⟨p, l, e, R, s, m, args, below, meth, c, G, Q, cells, slots⟩ := C
  obtain ⟨⟨hx, hb, hml, hown, hts⟩, hlk, hOK, hs0, hK, hSt, hNs, hR, hcs⟩ := hC
  intro H locs ls hP hS hl
  exact lv_lushr hx hb hd rfl (k H locs ls hP hS hl)
theorem u_lcmp {C : Cx} {cc : ByteArray} {nL : Nat} {own : String} {d : Nat} (hC : CxOK C cc nL own d) {μ : Mem} {pc : Nat} {lc : List (Nat × Value)} {sk : List Value} {x y : Int64} (hd : decode cc pc = .ok (.lcmp, 1)) (k : UW C nL μ (pc + 1) lc (.int (lg_cmp x y) :: sk)) : UW C nL μ pc lc (.long y :: .long x :: sk) := by
  obtain ⟨p, l, e, R, s, m, args, below, meth, c, G, Q, cells, slots⟩ := C
  obtain ⟨⟨hx, hb, hml, hown, hts⟩, hlk, hOK, hs0, hK, hSt, hNs, hR, hcs⟩ := hC
  intro H locs ls hP hS hl
  exact W.lcmp hx hb hd  (k H locs ls hP hS hl)
theorem u_i2l {C : Cx} {cc : ByteArray} {nL : Nat} {own : String} {d : Nat} (hC : CxOK C cc nL own d) {μ : Mem} {pc : Nat} {lc : List (Nat × Value)} {sk : List Value} {x : Int32} (hd : decode cc pc = .ok (.i2l, 1)) (k : UW C nL μ (pc + 1) lc (.long x.toInt64 :: sk)) : UW C nL μ pc lc (.int x :: sk) := by
  obtain ⟨p, l, e, R, s, m, args, below, meth, c, G, Q, cells, slots⟩ := C
  obtain ⟨⟨hx, hb, hml, hown, hts⟩, hlk, hOK, hs0, hK, hSt, hNs, hR, hcs⟩ := hC
  intro H locs ls hP hS hl
  exact lv_i2l hx hb hd rfl (k H locs ls hP hS hl)
theorem u_l2i {C : Cx} {cc : ByteArray} {nL : Nat} {own : String} {d : Nat} (hC : CxOK C cc nL own d) {μ : Mem} {pc : Nat} {lc : List (Nat × Value)} {sk : List Value} {x : Int64} (hd : decode cc pc = .ok (.l2i, 1)) (k : UW C nL μ (pc + 1) lc (.int x.toInt32 :: sk)) : UW C nL μ pc lc (.long x :: sk) := by
  obtain ⟨p, l, e, R, s, m, args, below, meth, c, G, Q, cells, slots⟩ := C
  obtain ⟨⟨hx, hb, hml, hown, hts⟩, hlk, hOK, hs0, hK, hSt, hNs, hR, hcs⟩ := hC
  intro H locs ls hP hS hl
  exact lv_l2i hx hb hd rfl (k H locs ls hP hS hl)
theorem u_i2b {C : Cx} {cc : ByteArray} {nL : Nat} {own : String} {d : Nat} (hC : CxOK C cc nL own d) {μ : Mem} {pc : Nat} {lc : List (Nat × Value)} {sk : List Value} {x : Int32} (hd : decode cc pc = .ok (.i2b, 1)) (k : UW C nL μ (pc + 1) lc (.int x.toInt8.toInt32 :: sk)) : UW C nL μ pc lc (.int x :: sk) := by
  obtain ⟨p, l, e, R, s, m, args, below, meth, c, G, Q, cells, slots⟩ := C
  obtain ⟨⟨hx, hb, hml, hown, hts⟩, hlk, hOK, hs0, hK, hSt, hNs, hR, hcs⟩ := hC
  intro H locs ls hP hS hl
  exact lv_i2b hx hb hd rfl (k H locs ls hP hS hl)
theorem u_i2s {C : Cx} {cc : ByteArray} {nL : Nat} {own : String} {d : Nat} (hC : CxOK C cc nL own d) {μ : Mem} {pc : Nat} {lc : List (Nat × Value)} {sk : List Value} {x : Int32} (hd : decode cc pc = .ok (.i2s, 1)) (k : UW C nL μ (pc + 1) lc (.int x.toInt16.toInt32 :: sk)) : UW C nL μ pc lc (.int x :: sk) := by
  obtain ⟨p, l, e, R, s, m, args, below, meth, c, G, Q, cells, slots⟩ := C
  obtain ⟨⟨hx, hb, hml, hown, hts⟩, hlk, hOK, hs0, hK, hSt, hNs, hR, hcs⟩ := hC
  intro H locs ls hP hS hl
  exact lv_i2s hx hb hd rfl (k H locs ls hP hS hl)
theorem u_dup {C : Cx} {cc : ByteArray} {nL : Nat} {own : String} {d : Nat} (hC : CxOK C cc nL own d) {μ : Mem} {pc : Nat} {lc : List (Nat × Value)} {sk : List Value} {va : Value} (hva : va.category = 1) (hd : decode cc pc = .ok (.dup, 1)) (k : UW C nL μ (pc + 1) lc (va :: va :: sk)) : UW C nL μ pc lc (va :: sk) := by
  obtain ⟨p, l, e, R, s, m, args, below, meth, c, G, Q, cells, slots⟩ := C
  obtain ⟨⟨hx, hb, hml, hown, hts⟩, hlk, hOK, hs0, hK, hSt, hNs, hR, hcs⟩ := hC
  intro H locs ls hP hS hl
  exact lv_dup hx hb hd hva (k H locs ls hP hS hl)
theorem u_pop {C : Cx} {cc : ByteArray} {nL : Nat} {own : String} {d : Nat} (hC : CxOK C cc nL own d) {μ : Mem} {pc : Nat} {lc : List (Nat × Value)} {sk : List Value} {va : Value} (hva : va.category = 1) (hd : decode cc pc = .ok (.pop, 1)) (k : UW C nL μ (pc + 1) lc (sk)) : UW C nL μ pc lc (va :: sk) := by
  obtain ⟨p, l, e, R, s, m, args, below, meth, c, G, Q, cells, slots⟩ := C
  obtain ⟨⟨hx, hb, hml, hown, hts⟩, hlk, hOK, hs0, hK, hSt, hNs, hR, hcs⟩ := hC
  intro H locs ls hP hS hl
  exact lv_pop hx hb hd hva (k H locs ls hP hS hl)
theorem u_dup2 {C : Cx} {cc : ByteArray} {nL : Nat} {own : String} {d : Nat} (hC : CxOK C cc nL own d) {μ : Mem} {pc : Nat} {lc : List (Nat × Value)} {sk : List Value} {va vb : Value} (hva : va.category = 1) (hvb : vb.category = 1) (hd : decode cc pc = .ok (.dup2, 1)) (k : UW C nL μ (pc + 1) lc (va :: vb :: va :: vb :: sk)) : UW C nL μ pc lc (va :: vb :: sk) := by
  obtain ⟨p, l, e, R, s, m, args, below, meth, c, G, Q, cells, slots⟩ := C
  obtain ⟨⟨hx, hb, hml, hown, hts⟩, hlk, hOK, hs0, hK, hSt, hNs, hR, hcs⟩ := hC
  intro H locs ls hP hS hl
  exact lv_dup2_11 hx hb hd hva hvb (k H locs ls hP hS hl)
theorem u_if_eq {C : Cx} {cc : ByteArray} {nL : Nat} {own : String} {d : Nat} (hC : CxOK C cc nL own d) {μ : Mem} {pc : Nat} {lc : List (Nat × Value)} {sk : List Value} {x : Int32} {off : Int} {tgt : Nat} (hd : decode cc pc = .ok (.ifCond .eq off, 3)) (ht : (pc : Int) + off = (tgt : Int)) (kt : x = 0 → UW C nL μ tgt lc sk) (kf : ¬ x = 0 → UW C nL μ (pc + 3) lc sk) : UW C nL μ pc lc (.int x :: sk) := by
  obtain ⟨p, l, e, R, s, m, args, below, meth, c, G, Q, cells, slots⟩ := C
  obtain ⟨⟨hx, hb, hml, hown, hts⟩, hlk, hOK, hs0, hK, hSt, hNs, hR, hcs⟩ := hC
  intro H locs ls hP hS hl
  exact lv_if_eq hx hb hd ht (fun h => kt h H locs ls hP hS hl) (fun h => kf h H locs ls hP hS hl)
theorem u_icmp_eq {C : Cx} {cc : ByteArray} {nL : Nat} {own : String} {d : Nat} (hC : CxOK C cc nL own d) {μ : Mem} {pc : Nat} {lc : List (Nat × Value)} {sk : List Value} {x y : Int32} {off : Int} {tgt : Nat} (hd : decode cc pc = .ok (.if_icmp .eq off, 3)) (ht : (pc : Int) + off = (tgt : Int)) (kt : x = y → UW C nL μ tgt lc sk) (kf : ¬ x = y → UW C nL μ (pc + 3) lc sk) : UW C nL μ pc lc (.int y :: .int x :: sk) := by
  obtain ⟨p, l, e, R, s, m, args, below, meth, c, G, Q, cells, slots⟩ := C
  obtain ⟨⟨hx, hb, hml, hown, hts⟩, hlk, hOK, hs0, hK, hSt, hNs, hR, hcs⟩ := hC
  intro H locs ls hP hS hl
  exact lv_icmp_eq hx hb hd ht (fun h => kt h H locs ls hP hS hl) (fun h => kf h H locs ls hP hS hl)
theorem u_if_ne {C : Cx} {cc : ByteArray} {nL : Nat} {own : String} {d : Nat} (hC : CxOK C cc nL own d) {μ : Mem} {pc : Nat} {lc : List (Nat × Value)} {sk : List Value} {x : Int32} {off : Int} {tgt : Nat} (hd : decode cc pc = .ok (.ifCond .ne off, 3)) (ht : (pc : Int) + off = (tgt : Int)) (kt : ¬ x = 0 → UW C nL μ tgt lc sk) (kf : x = 0 → UW C nL μ (pc + 3) lc sk) : UW C nL μ pc lc (.int x :: sk) := by
  obtain ⟨p, l, e, R, s, m, args, below, meth, c, G, Q, cells, slots⟩ := C
  obtain ⟨⟨hx, hb, hml, hown, hts⟩, hlk, hOK, hs0, hK, hSt, hNs, hR, hcs⟩ := hC
  intro H locs ls hP hS hl
  exact lv_if_ne hx hb hd ht (fun h => kt h H locs ls hP hS hl) (fun h => kf h H locs ls hP hS hl)
theorem u_icmp_ne {C : Cx} {cc : ByteArray} {nL : Nat} {own : String} {d : Nat} (hC : CxOK C cc nL own d) {μ : Mem} {pc : Nat} {lc : List (Nat × Value)} {sk : List Value} {x y : Int32} {off : Int} {tgt : Nat} (hd : decode cc pc = .ok (.if_icmp .ne off, 3)) (ht : (pc : Int) + off = (tgt : Int)) (kt : ¬ x = y → UW C nL μ tgt lc sk) (kf : x = y → UW C nL μ (pc + 3) lc sk) : UW C nL μ pc lc (.int y :: .int x :: sk) := by
  obtain ⟨p, l, e, R, s, m, args, below, meth, c, G, Q, cells, slots⟩ := C
  obtain ⟨⟨hx, hb, hml, hown, hts⟩, hlk, hOK, hs0, hK, hSt, hNs, hR, hcs⟩ := hC
  intro H locs ls hP hS hl
  exact lv_icmp_ne hx hb hd ht (fun h => kt h H locs ls hP hS hl) (fun h => kf h H locs ls hP hS hl)
theorem u_if_lt {C : Cx} {cc : ByteArray} {nL : Nat} {own : String} {d : Nat} (hC : CxOK C cc nL own d) {μ : Mem} {pc : Nat} {lc : List (Nat × Value)} {sk : List Value} {x : Int32} {off : Int} {tgt : Nat} (hd : decode cc pc = .ok (.ifCond .lt off, 3)) (ht : (pc : Int) + off = (tgt : Int)) (kt : x < 0 → UW C nL μ tgt lc sk) (kf : ¬ x < 0 → UW C nL μ (pc + 3) lc sk) : UW C nL μ pc lc (.int x :: sk) := by
  obtain ⟨p, l, e, R, s, m, args, below, meth, c, G, Q, cells, slots⟩ := C
  obtain ⟨⟨hx, hb, hml, hown, hts⟩, hlk, hOK, hs0, hK, hSt, hNs, hR, hcs⟩ := hC
  intro H locs ls hP hS hl
  exact lv_if_lt hx hb hd ht (fun h => kt h H locs ls hP hS hl) (fun h => kf h H locs ls hP hS hl)
theorem u_icmp_lt {C : Cx} {cc : ByteArray} {nL : Nat} {own : String} {d : Nat} (hC : CxOK C cc nL own d) {μ : Mem} {pc : Nat} {lc : List (Nat × Value)} {sk : List Value} {x y : Int32} {off : Int} {tgt : Nat} (hd : decode cc pc = .ok (.if_icmp .lt off, 3)) (ht : (pc : Int) + off = (tgt : Int)) (kt : x < y → UW C nL μ tgt lc sk) (kf : ¬ x < y → UW C nL μ (pc + 3) lc sk) : UW C nL μ pc lc (.int y :: .int x :: sk) := by
  obtain ⟨p, l, e, R, s, m, args, below, meth, c, G, Q, cells, slots⟩ := C
  obtain ⟨⟨hx, hb, hml, hown, hts⟩, hlk, hOK, hs0, hK, hSt, hNs, hR, hcs⟩ := hC
  intro H locs ls hP hS hl
  exact lv_icmp_lt hx hb hd ht (fun h => kt h H locs ls hP hS hl) (fun h => kf h H locs ls hP hS hl)
theorem u_if_ge {C : Cx} {cc : ByteArray} {nL : Nat} {own : String} {d : Nat} (hC : CxOK C cc nL own d) {μ : Mem} {pc : Nat} {lc : List (Nat × Value)} {sk : List Value} {x : Int32} {off : Int} {tgt : Nat} (hd : decode cc pc = .ok (.ifCond .ge off, 3)) (ht : (pc : Int) + off = (tgt : Int)) (kt : 0 ≤ x → UW C nL μ tgt lc sk) (kf : ¬ 0 ≤ x → UW C nL μ (pc + 3) lc sk) : UW C nL μ pc lc (.int x :: sk) := by
  obtain ⟨p, l, e, R, s, m, args, below, meth, c, G, Q, cells, slots⟩ := C
  obtain ⟨⟨hx, hb, hml, hown, hts⟩, hlk, hOK, hs0, hK, hSt, hNs, hR, hcs⟩ := hC
  intro H locs ls hP hS hl
  exact lv_if_ge hx hb hd ht (fun h => kt h H locs ls hP hS hl) (fun h => kf h H locs ls hP hS hl)
theorem u_icmp_ge {C : Cx} {cc : ByteArray} {nL : Nat} {own : String} {d : Nat} (hC : CxOK C cc nL own d) {μ : Mem} {pc : Nat} {lc : List (Nat × Value)} {sk : List Value} {x y : Int32} {off : Int} {tgt : Nat} (hd : decode cc pc = .ok (.if_icmp .ge off, 3)) (ht : (pc : Int) + off = (tgt : Int)) (kt : y ≤ x → UW C nL μ tgt lc sk) (kf : ¬ y ≤ x → UW C nL μ (pc + 3) lc sk) : UW C nL μ pc lc (.int y :: .int x :: sk) := by
  obtain ⟨p, l, e, R, s, m, args, below, meth, c, G, Q, cells, slots⟩ := C
  obtain ⟨⟨hx, hb, hml, hown, hts⟩, hlk, hOK, hs0, hK, hSt, hNs, hR, hcs⟩ := hC
  intro H locs ls hP hS hl
  exact lv_icmp_ge hx hb hd ht (fun h => kt h H locs ls hP hS hl) (fun h => kf h H locs ls hP hS hl)
theorem u_if_gt {C : Cx} {cc : ByteArray} {nL : Nat} {own : String} {d : Nat} (hC : CxOK C cc nL own d) {μ : Mem} {pc : Nat} {lc : List (Nat × Value)} {sk : List Value} {x : Int32} {off : Int} {tgt : Nat} (hd : decode cc pc = .ok (.ifCond .gt off, 3)) (ht : (pc : Int) + off = (tgt : Int)) (kt : 0 < x → UW C nL μ tgt lc sk) (kf : ¬ 0 < x → UW C nL μ (pc + 3) lc sk) : UW C nL μ pc lc (.int x :: sk) := by
  obtain ⟨p, l, e, R, s, m, args, below, meth, c, G, Q, cells, slots⟩ := C
  obtain ⟨⟨hx, hb, hml, hown, hts⟩, hlk, hOK, hs0, hK, hSt, hNs, hR, hcs⟩ := hC
  intro H locs ls hP hS hl
  exact lv_if_gt hx hb hd ht (fun h => kt h H locs ls hP hS hl) (fun h => kf h H locs ls hP hS hl)
theorem u_icmp_gt {C : Cx} {cc : ByteArray} {nL : Nat} {own : String} {d : Nat} (hC : CxOK C cc nL own d) {μ : Mem} {pc : Nat} {lc : List (Nat × Value)} {sk : List Value} {x y : Int32} {off : Int} {tgt : Nat} (hd : decode cc pc = .ok (.if_icmp .gt off, 3)) (ht : (pc : Int) + off = (tgt : Int)) (kt : y < x → UW C nL μ tgt lc sk) (kf : ¬ y < x → UW C nL μ (pc + 3) lc sk) : UW C nL μ pc lc (.int y :: .int x :: sk) := by
  obtain ⟨p, l, e, R, s, m, args, below, meth, c, G, Q, cells, slots⟩ := C
  obtain ⟨⟨hx, hb, hml, hown, hts⟩, hlk, hOK, hs0, hK, hSt, hNs, hR, hcs⟩ := hC
  intro H locs ls hP hS hl
  exact lv_icmp_gt hx hb hd ht (fun h => kt h H locs ls hP hS hl) (fun h => kf h H locs ls hP hS hl)
theorem u_if_le {C : Cx} {cc : ByteArray} {nL : Nat} {own : String} {d : Nat} (hC : CxOK C cc nL own d) {μ : Mem} {pc : Nat} {lc : List (Nat × Value)} {sk : List Value} {x : Int32} {off : Int} {tgt : Nat} (hd : decode cc pc = .ok (.ifCond .le off, 3)) (ht : (pc : Int) + off = (tgt : Int)) (kt : x ≤ 0 → UW C nL μ tgt lc sk) (kf : ¬ x ≤ 0 → UW C nL μ (pc + 3) lc sk) : UW C nL μ pc lc (.int x :: sk) := by
  obtain ⟨p, l, e, R, s, m, args, below, meth, c, G, Q, cells, slots⟩ := C
  obtain ⟨⟨hx, hb, hml, hown, hts⟩, hlk, hOK, hs0, hK, hSt, hNs, hR, hcs⟩ := hC
  intro H locs ls hP hS hl
  exact lv_if_le hx hb hd ht (fun h => kt h H locs ls hP hS hl) (fun h => kf h H locs ls hP hS hl)
theorem u_icmp_le {C : Cx} {cc : ByteArray} {nL : Nat} {own : String} {d : Nat} (hC : CxOK C cc nL own d) {μ : Mem} {pc : Nat} {lc : List (Nat × Value)} {sk : List Value} {x y : Int32} {off : Int} {tgt : Nat} (hd : decode cc pc = .ok (.if_icmp .le off, 3)) (ht : (pc : Int) + off = (tgt : Int)) (kt : x ≤ y → UW C nL μ tgt lc sk) (kf : ¬ x ≤ y → UW C nL μ (pc + 3) lc sk) : UW C nL μ pc lc (.int y :: .int x :: sk) := by
  obtain ⟨p, l, e, R, s, m, args, below, meth, c, G, Q, cells, slots⟩ := C
  obtain ⟨⟨hx, hb, hml, hown, hts⟩, hlk, hOK, hs0, hK, hSt, hNs, hR, hcs⟩ := hC
  intro H locs ls hP hS hl
  exact lv_icmp_le hx hb hd ht (fun h => kt h H locs ls hP hS hl) (fun h => kf h H locs ls hP hS hl)
theorem u_goto {C : Cx} {cc : ByteArray} {nL : Nat} {own : String} {d : Nat} (hC : CxOK C cc nL own d) {μ : Mem} {pc : Nat} {lc : List (Nat × Value)} {sk : List Value} {off : Int} (tgt : Nat) (hd : decode cc pc = .ok (.goto off, 3)) (ht : (pc : Int) + off = (tgt : Int)) (k : UW C nL μ tgt lc sk) : UW C nL μ pc lc sk := by
  obtain ⟨p, l, e, R, s, m, args, below, meth, c, G, Q, cells, slots⟩ := C
  obtain ⟨⟨hx, hb, hml, hown, hts⟩, hlk, hOK, hs0, hK, hSt, hNs, hR, hcs⟩ := hC
  intro H locs ls hP hS hl
  exact lv_goto hx hb hd ht (k H locs ls hP hS hl)
theorem u_lookup {C : Cx} {cc : ByteArray} {nL : Nat} {own : String} {d : Nat} (hC : CxOK C cc nL own d) {μ : Mem} {pc : Nat} {lc : List (Nat × Value)} {sk : List Value} {dflt : Int} {ps : Array (Int × Int)} {len : Nat} {x : Int32} {off : Int} (tgt : Nat) (hd : decode cc pc = .ok (.lookupswitch dflt ps, len)) (hp : (ps.toList.zip (ps.toList.drop 1)).all (fun (a, next) => a.1 < next.1) = true) (ho : Op.lookupswitch.offset ps.toList dflt x.toInt = off) (ht : (pc : Int) + off = (tgt : Int)) (k : UW C nL μ tgt lc sk) : UW C nL μ pc lc (.int x :: sk) := by
  obtain ⟨p, l, e, R, s, m, args, below, meth, c, G, Q, cells, slots⟩ := C
  obtain ⟨⟨hx, hb, hml, hown, hts⟩, hlk, hOK, hs0, hK, hSt, hNs, hR, hcs⟩ := hC
  intro H locs ls hP hS hl
  exact lv_lookup hx hb hd hp ho ht (k H locs ls hP hS hl)
theorem u_tabOut {C : Cx} {cc : ByteArray} {nL : Nat} {own : String} {d : Nat} (hC : CxOK C cc nL own d) {μ : Mem} {pc : Nat} {lc : List (Nat × Value)} {sk : List Value} {dflt lo hi : Int} {offs : Array Int} {len : Nat} {x : Int32} (tgt : Nat) (hd : decode cc pc = .ok (.tableswitch dflt lo hi offs, len)) (h : x.toInt < lo ∨ hi < x.toInt) (ht : (pc : Int) + dflt = (tgt : Int)) (k : UW C nL μ tgt lc sk) : UW C nL μ pc lc (.int x :: sk) := by
  obtain ⟨p, l, e, R, s, m, args, below, meth, c, G, Q, cells, slots⟩ := C
  obtain ⟨⟨hx, hb, hml, hown, hts⟩, hlk, hOK, hs0, hK, hSt, hNs, hR, hcs⟩ := hC
  intro H locs ls hP hS hl
  exact lv_tableOut hx hb hd h ht (k H locs ls hP hS hl)
theorem u_tabIn {C : Cx} {cc : ByteArray} {nL : Nat} {own : String} {d : Nat} (hC : CxOK C cc nL own d) {μ : Mem} {pc : Nat} {lc : List (Nat × Value)} {sk : List Value} {dflt lo hi : Int} {offs : Array Int} {len : Nat} {x : Int32} {off : Int} (tgt : Nat) (hd : decode cc pc = .ok (.tableswitch dflt lo hi offs, len)) (h1 : ¬ x.toInt < lo) (h2 : ¬ hi < x.toInt) (ho : offs[(x.toInt - lo).toNat]? = some off) (ht : (pc : Int) + off = (tgt : Int)) (k : UW C nL μ tgt lc sk) : UW C nL μ pc lc (.int x :: sk) := by
  obtain ⟨p, l, e, R, s, m, args, below, meth, c, G, Q, cells, slots⟩ := C
  obtain ⟨⟨hx, hb, hml, hown, hts⟩, hlk, hOK, hs0, hK, hSt, hNs, hR, hcs⟩ := hC
  intro H locs ls hP hS hl
  exact lv_tableIn hx hb hd h1 h2 ho ht (k H locs ls hP hS hl)
theorem u_ldc {C : Cx} {cc : ByteArray} {nL : Nat} {own : String} {d : Nat} (hC : CxOK C cc nL own d) {μ : Mem} {pc : Nat} {lc : List (Nat × Value)} {sk : List Value} {index : Nat} {v : Int32} (hw : Cond.constant own index v ∈ AL) (hd : decode cc pc = .ok (.ldc index, 2)) (k : UW C nL μ (pc + 2) lc (.int v :: sk)) : UW C nL μ pc lc sk := by
  obtain ⟨p, l, e, R, s, m, args, below, meth, c, G, Q, cells, slots⟩ := C
  obtain ⟨⟨hx, hb, hml, hown, hts⟩, hlk, hOK, hs0, hK, hSt, hNs, hR, hcs⟩ := hC
  intro H locs ls hP hS hl
  exact lv_ldc hx hb hown (hts _ hw) hd (k H locs ls hP hS hl)
theorem u_ldcw {C : Cx} {cc : ByteArray} {nL : Nat} {own : String} {d : Nat} (hC : CxOK C cc nL own d) {μ : Mem} {pc : Nat} {lc : List (Nat × Value)} {sk : List Value} {index : Nat} {v : Int32} (hw : Cond.constant own index v ∈ AL) (hd : decode cc pc = .ok (.ldc_w index, 3)) (k : UW C nL μ (pc + 3) lc (.int v :: sk)) : UW C nL μ pc lc sk := by
  obtain ⟨p, l, e, R, s, m, args, below, meth, c, G, Q, cells, slots⟩ := C
  obtain ⟨⟨hx, hb, hml, hown, hts⟩, hlk, hOK, hs0, hK, hSt, hNs, hR, hcs⟩ := hC
  intro H locs ls hP hS hl
  exact lv_ldcw hx hb hown (hts _ hw) hd (k H locs ls hP hS hl)
theorem u_ldc2 {C : Cx} {cc : ByteArray} {nL : Nat} {own : String} {d : Nat} (hC : CxOK C cc nL own d) {μ : Mem} {pc : Nat} {lc : List (Nat × Value)} {sk : List Value} {index : Nat} {v : Int64} (hw : Cond.constantLong own index v ∈ AL) (hd : decode cc pc = .ok (.ldc2_w index, 3)) (k : UW C nL μ (pc + 3) lc (.long v :: sk)) : UW C nL μ pc lc sk := by
  obtain ⟨p, l, e, R, s, m, args, below, meth, c, G, Q, cells, slots⟩ := C
  obtain ⟨⟨hx, hb, hml, hown, hts⟩, hlk, hOK, hs0, hK, hSt, hNs, hR, hcs⟩ := hC
  intro H locs ls hP hS hl
  exact lv_ldc2 hx hb hown (hts _ hw) hd (k H locs ls hP hS hl)
theorem u_sub {C : Cx} {nL : Nat} {μ : Mem} {pc : Nat} {lc lc1 : List (Nat × Value)} {sk : List Value} (ks : List Nat) (h : lv_pick lc ks = lc1) (k : UW C nL μ pc lc1 sk) : UW C nL μ pc lc sk := by
  obtain ⟨p, l, e, R, s, m, args, below, meth, c, G, Q, cells, slots⟩ := C
  intro H locs ls hP hS hl
  exact k H locs ls hP hS (lv_sub hl ks h)
theorem u_getI {C : Cx} {cc : ByteArray} {nL : Nat} {own : String} {d : Nat} (hC : CxOK C cc nL own d) {μ : Mem} {pc : Nat} {lc : List (Nat × Value)} {sk : List Value} (ci j : Nat) {Cn : String} {T : u_T} {N index : Nat} (hcl : vwCl[ci]? = some (Cn, T, N)) (hin : ∀ w ∈ u_ws Cn T N, w ∈ AL) (hj : j < N) (hN : nf ci = N) (hci : ci < 13) (hlink : Cond.fieldLink own index Cn (T j).2.1 (T j).2.2.1 ∈ AL) (hT1 : (T j).1 = Cn) {k : Nat} (hk : isC ci k) (hf : fk ci j = 0) (hd : decode cc pc = .ok (.getfield index, 3)) (kk : UW C nL μ (pc + 3) lc (.int (rd μ k j) :: sk)) : UW C nL μ pc lc (.ref (gad (cG C) k) :: sk) := by
  obtain ⟨p, l, e, R, s, m, args, below, meth, c, G, Q, cells, slots⟩ := C
  obtain ⟨⟨hx, hb, hml, hown, hts⟩, hlk, hOK, hs0, hK, hSt, hNs, hR, hcs⟩ := hC
  intro H locs ls hP hS hl
  obtain ⟨hk1, hk2⟩ := hk
  have he : (wld G μ)[k]? = some (gad G k, .inr (ci, fvs G μ k (nf ci))) := by rw [wld_at G μ hk1, cel_obj hk2 hci]
  refine va_get hx hb hts hin hown hK hP k he hcl j hj (hts _ hlink) (fun x h => by rw [hT1] at h; exact h) (v := .int (rd μ k j)) ?_ hd (kk H locs ls hP hS hl)
  rw [fvs_get (by rw [hN]; exact hj)]
  simp [fv, hk2, hf, rd, cG]
theorem u_getR {C : Cx} {cc : ByteArray} {nL : Nat} {own : String} {d : Nat} (hC : CxOK C cc nL own d) {μ : Mem} {pc : Nat} {lc : List (Nat × Value)} {sk : List Value} (ci j : Nat) {Cn : String} {T : u_T} {N index : Nat} (hcl : vwCl[ci]? = some (Cn, T, N)) (hin : ∀ w ∈ u_ws Cn T N, w ∈ AL) (hj : j < N) (hN : nf ci = N) (hci : ci < 13) (hlink : Cond.fieldLink own index Cn (T j).2.1 (T j).2.2.1 ∈ AL) (hT1 : (T j).1 = Cn) {k : Nat} (hk : isC ci k) (hf : fk ci j = 1) (hd : decode cc pc = .ok (.getfield index, 3)) (kk : UW C nL μ (pc + 3) lc (.ref (gad (cG C) (rf k j)) :: sk)) : UW C nL μ pc lc (.ref (gad (cG C) k) :: sk) := by
  obtain ⟨p, l, e, R, s, m, args, below, meth, c, G, Q, cells, slots⟩ := C
  obtain ⟨⟨hx, hb, hml, hown, hts⟩, hlk, hOK, hs0, hK, hSt, hNs, hR, hcs⟩ := hC
  intro H locs ls hP hS hl
  obtain ⟨hk1, hk2⟩ := hk
  have he : (wld G μ)[k]? = some (gad G k, .inr (ci, fvs G μ k (nf ci))) := by rw [wld_at G μ hk1, cel_obj hk2 hci]
  refine va_get hx hb hts hin hown hK hP k he hcl j hj (hts _ hlink) (fun x h => by rw [hT1] at h; exact h) (v := .ref (gad G (rf k j))) ?_ hd (kk H locs ls hP hS hl)
  rw [fvs_get (by rw [hN]; exact hj)]
  simp [fv, hk2, hf, rd, cG]
theorem u_getM {C : Cx} {cc : ByteArray} {nL : Nat} {own : String} {d : Nat} (hC : CxOK C cc nL own d) {μ : Mem} {pc : Nat} {lc : List (Nat × Value)} {sk : List Value} (ci j : Nat) {Cn : String} {T : u_T} {N index : Nat} (hcl : vwCl[ci]? = some (Cn, T, N)) (hin : ∀ w ∈ u_ws Cn T N, w ∈ AL) (hj : j < N) (hN : nf ci = N) (hci : ci < 13) (hlink : Cond.fieldLink own index Cn (T j).2.1 (T j).2.2.1 ∈ AL) (hT1 : (T j).1 = Cn) {k : Nat} (hk : isC ci k) (hf : fk ci j = 2) (hd : decode cc pc = .ok (.getfield index, 3)) (kk : UW C nL μ (pc + 3) lc (.ref (gad (cG C) (rd μ k j).toNatClampNeg) :: sk)) : UW C nL μ pc lc (.ref (gad (cG C) k) :: sk) := by
  obtain ⟨p, l, e, R, s, m, args, below, meth, c, G, Q, cells, slots⟩ := C
  obtain ⟨⟨hx, hb, hml, hown, hts⟩, hlk, hOK, hs0, hK, hSt, hNs, hR, hcs⟩ := hC
  intro H locs ls hP hS hl
  obtain ⟨hk1, hk2⟩ := hk
  have he : (wld G μ)[k]? = some (gad G k, .inr (ci, fvs G μ k (nf ci))) := by rw [wld_at G μ hk1, cel_obj hk2 hci]
  refine va_get hx hb hts hin hown hK hP k he hcl j hj (hts _ hlink) (fun x h => by rw [hT1] at h; exact h) (v := .ref (gad G (rd μ k j).toNatClampNeg)) ?_ hd (kk H locs ls hP hS hl)
  rw [fvs_get (by rw [hN]; exact hj)]
  simp [fv, hk2, hf, rd, cG]
theorem u_putI {C : Cx} {cc : ByteArray} {nL : Nat} {own : String} {d : Nat} (hC : CxOK C cc nL own d) {μ : Mem} {pc : Nat} {lc : List (Nat × Value)} {sk : List Value} (ci j : Nat) {Cn : String} {T : u_T} {N index : Nat} (hcl : vwCl[ci]? = some (Cn, T, N)) (hin : ∀ w ∈ u_ws Cn T N, w ∈ AL) (hj : j < N) (hN : nf ci = N) (hci : ci < 13) (hlink : Cond.fieldLink own index Cn (T j).2.1 (T j).2.2.1 ∈ AL) (hT1 : (T j).1 = Cn) {k : Nat} (hk : isC ci k) (ty0 : Nat → FieldType) (hty : ∀ k, k < N → parseFieldDescriptor (T k).2.2.1 = some (ty0 k)) (hnm : ∀ a, a < N → ∀ b, b < N → a ≠ b → (T a).2.1 ≠ (T b).2.1) (hfin : (T j).2.2.2 = false) {ty : FieldType} (hpd : parseFieldDescriptor (T j).2.2.1 = some ty) {v : Int32} (hn : narrow ty (.int v) = .int v) (hft : fits ty (.int v) = true) (hf : fk ci j = 0) (hd : decode cc pc = .ok (.putfield index, 3)) {μ1 : Mem} (hm : wr μ k j v = μ1) (kk : UW C nL μ1 (pc + 3) lc sk) : UW C nL μ pc lc (.int v :: .ref (gad (cG C) k) :: sk) := by
  obtain ⟨p, l, e, R, s, m, args, below, meth, c, G, Q, cells, slots⟩ := C
  obtain ⟨⟨hx, hb, hml, hown, hts⟩, hlk, hOK, hs0, hK, hSt, hNs, hR, hcs⟩ := hC
  intro H locs ls hP hS hl
  subst hm
  obtain ⟨hk1, hk2⟩ := hk
  have he : (wld G μ)[k]? = some (gad G k, .inr (ci, fvs G μ k (nf ci))) := by rw [wld_at G μ hk1, cel_obj hk2 hci]
  refine va_put hx hb hts hin ty0 hty hnm hown hK hP (wld_D hOK μ) hS k he hcl j hj (hts _ hlink) (fun x h => by rw [hT1] at h; exact h) hfin hpd hn hft (by rw [fvs_len, hN]; exact hj) hd (fun H1 locs1 hP1 hD1 hS1 => ?_)
  have hset : (wld G μ).set k (gad G k, .inr (ci, (fvs G μ k (nf ci)).set j (.int v))) = wld G (wr μ k j v) := by
    refine wld_set ?_ (fun i _ hi => cel_ne hi)
    rw [cel_obj hk2 hci, fvs_set (v := v)]
    simp [fv, hk2, hf, wr]
  have hP1 : va_P (gD G) vwCl ((wld G μ).set k (gad G k, .inr (ci, (fvs G μ k (nf ci)).set j (.int v)))) H1 := hP1
  rw [hset] at hP1
  exact kk H1 locs1 ls hP1 hS1 hl
theorem u_putM {C : Cx} {cc : ByteArray} {nL : Nat} {own : String} {d : Nat} (hC : CxOK C cc nL own d) {μ : Mem} {pc : Nat} {lc : List (Nat × Value)} {sk : List Value} (ci j : Nat) {Cn : String} {T : u_T} {N index : Nat} (hcl : vwCl[ci]? = some (Cn, T, N)) (hin : ∀ w ∈ u_ws Cn T N, w ∈ AL) (hj : j < N) (hN : nf ci = N) (hci : ci < 13) (hlink : Cond.fieldLink own index Cn (T j).2.1 (T j).2.2.1 ∈ AL) (hT1 : (T j).1 = Cn) {k : Nat} (hk : isC ci k) (ty0 : Nat → FieldType) (hty : ∀ k, k < N → parseFieldDescriptor (T k).2.2.1 = some (ty0 k)) (hnm : ∀ a, a < N → ∀ b, b < N → a ≠ b → (T a).2.1 ≠ (T b).2.1) (hfin : (T j).2.2.2 = false) {ty : FieldType} (hpd : parseFieldDescriptor (T j).2.2.1 = some ty) {k2 : Nat} (hk3 : k2 < NC) (hn : narrow ty (.ref (gad (cG C) k2)) = .ref (gad (cG C) k2)) (hft : fits ty (.ref (gad (cG C) k2)) = true) (hf : fk ci j = 2) (hd : decode cc pc = .ok (.putfield index, 3)) {μ1 : Mem} (hm : wr μ k j (nI k2) = μ1) (kk : UW C nL μ1 (pc + 3) lc sk) : UW C nL μ pc lc (.ref (gad (cG C) k2) :: .ref (gad (cG C) k) :: sk) := by
  obtain ⟨p, l, e, R, s, m, args, below, meth, c, G, Q, cells, slots⟩ := C
  obtain ⟨⟨hx, hb, hml, hown, hts⟩, hlk, hOK, hs0, hK, hSt, hNs, hR, hcs⟩ := hC
  intro H locs ls hP hS hl
  subst hm
  obtain ⟨hk1, hk2⟩ := hk
  have he : (wld G μ)[k]? = some (gad G k, .inr (ci, fvs G μ k (nf ci))) := by rw [wld_at G μ hk1, cel_obj hk2 hci]
  refine va_put hx hb hts hin ty0 hty hnm hown hK hP (wld_D hOK μ) hS k he hcl j hj (hts _ hlink) (fun x h => by rw [hT1] at h; exact h) hfin hpd hn hft (by rw [fvs_len, hN]; exact hj) hd (fun H1 locs1 hP1 hD1 hS1 => ?_)
  have hset : (wld G μ).set k (gad G k, .inr (ci, (fvs G μ k (nf ci)).set j (.ref (gad G k2)))) = wld G (wr μ k j (nI k2)) := by
    refine wld_set ?_ (fun i _ hi => cel_ne hi)
    rw [cel_obj hk2 hci, fvs_set (v := nI k2)]
    have h5 : (nI k2).toNatClampNeg = k2 := nI_clamp (Nat.lt_of_lt_of_le hk3 (Nat.le_of_ble_eq_true rfl))
    simp [fv, hk2, hf, wr, h5]
  have hP1 : va_P (gD G) vwCl ((wld G μ).set k (gad G k, .inr (ci, (fvs G μ k (nf ci)).set j (.ref (gad G k2))))) H1 := hP1
  rw [hset] at hP1
  exact kk H1 locs1 ls hP1 hS1 hl
theorem u_iald {C : Cx} {cc : ByteArray} {nL : Nat} {own : String} {d : Nat} (hC : CxOK C cc nL own d) {μ : Mem} {pc : Nat} {lc : List (Nat × Value)} {sk : List Value} {k : Nat} (hk : isC 13 k) {i : Int32} (n : Nat) (hn : ln k = n) (hi : ib i n = true) (hd : decode cc pc = .ok (.iaload, 1)) (kk : UW C nL μ (pc + 1) lc (.int (rd μ k i.toNatClampNeg) :: sk)) : UW C nL μ pc lc (.int i :: .ref (gad (cG C) k) :: sk) := by
  obtain ⟨p, l, e, R, s, m, args, below, meth, c, G, Q, cells, slots⟩ := C
  obtain ⟨⟨hx, hb, hml, hown, hts⟩, hlk, hOK, hs0, hK, hSt, hNs, hR, hcs⟩ := hC
  intro H locs ls hP hS hl
  obtain ⟨hk1, hk2⟩ := hk
  have he : (wld G μ)[k]? = some (gad G k, .inl (gcy G 13, n, .inl (μ.1 k))) := by rw [wld_at G μ hk1, cel_int hk2, hn]
  exact va_iald hx hb hK hP k 0 he rfl (ib_in hi) hd (kk H locs ls hP hS hl)
theorem u_iast {C : Cx} {cc : ByteArray} {nL : Nat} {own : String} {d : Nat} (hC : CxOK C cc nL own d) {μ : Mem} {pc : Nat} {lc : List (Nat × Value)} {sk : List Value} {k : Nat} (hk : isC 13 k) {i x : Int32} (n : Nat) (hn : ln k = n) (hi : ib i n = true) (hd : decode cc pc = .ok (.iastore, 1)) {μ1 : Mem} (hm : wr μ k i.toNatClampNeg x = μ1) (kk : UW C nL μ1 (pc + 1) lc sk) : UW C nL μ pc lc (.int x :: .int i :: .ref (gad (cG C) k) :: sk) := by
  obtain ⟨p, l, e, R, s, m, args, below, meth, c, G, Q, cells, slots⟩ := C
  obtain ⟨⟨hx, hb, hml, hown, hts⟩, hlk, hOK, hs0, hK, hSt, hNs, hR, hcs⟩ := hC
  intro H locs ls hP hS hl
  subst hm
  obtain ⟨hk1, hk2⟩ := hk
  have he : (wld G μ)[k]? = some (gad G k, .inl (gcy G 13, n, .inl (μ.1 k))) := by rw [wld_at G μ hk1, cel_int hk2, hn]
  refine va_iast hx hb hK hP (wld_D hOK μ) hS k 0 he rfl (ib_in hi) hd (fun H1 locs1 hP1 hD1 hS1 => ?_)
  have hset : (wld G μ).set k (gad G k, .inl (gcy G 13, n, .inl (upd (μ.1 k) i.toNatClampNeg x))) = wld G (wr μ k i.toNatClampNeg x) := by
    refine wld_set ?_ (fun i _ hi => cel_ne hi)
    rw [cel_int hk2, hn]
    congr 4
    funext b
    simp [wr, upd]
  rw [hset] at hP1
  exact kk H1 locs1 ls hP1 hS1 hl
theorem u_lald {C : Cx} {cc : ByteArray} {nL : Nat} {own : String} {d : Nat} (hC : CxOK C cc nL own d) {μ : Mem} {pc : Nat} {lc : List (Nat × Value)} {sk : List Value} {k : Nat} (hk : isC 14 k) {i : Int32} (n : Nat) (hn : ln k = n) (hi : ib i n = true) (hd : decode cc pc = .ok (.laload, 1)) (kk : UW C nL μ (pc + 1) lc (.long (rl μ k i.toNatClampNeg) :: sk)) : UW C nL μ pc lc (.int i :: .ref (gad (cG C) k) :: sk) := by
  obtain ⟨p, l, e, R, s, m, args, below, meth, c, G, Q, cells, slots⟩ := C
  obtain ⟨⟨hx, hb, hml, hown, hts⟩, hlk, hOK, hs0, hK, hSt, hNs, hR, hcs⟩ := hC
  intro H locs ls hP hS hl
  obtain ⟨hk1, hk2⟩ := hk
  have he : (wld G μ)[k]? = some (gad G k, .inl (gcy G 14, n, .inr (.inl (μ.2 k)))) := by rw [wld_at G μ hk1, cel_long hk2, hn]
  exact va_lald hx hb hK hP k 1 he rfl (ib_in hi) hd (kk H locs ls hP hS hl)
theorem u_last {C : Cx} {cc : ByteArray} {nL : Nat} {own : String} {d : Nat} (hC : CxOK C cc nL own d) {μ : Mem} {pc : Nat} {lc : List (Nat × Value)} {sk : List Value} {k : Nat} (hk : isC 14 k) {i : Int32} {x : Int64} (n : Nat) (hn : ln k = n) (hi : ib i n = true) (hd : decode cc pc = .ok (.lastore, 1)) {μ1 : Mem} (hm : wl μ k i.toNatClampNeg x = μ1) (kk : UW C nL μ1 (pc + 1) lc sk) : UW C nL μ pc lc (.long x :: .int i :: .ref (gad (cG C) k) :: sk) := by
  obtain ⟨p, l, e, R, s, m, args, below, meth, c, G, Q, cells, slots⟩ := C
  obtain ⟨⟨hx, hb, hml, hown, hts⟩, hlk, hOK, hs0, hK, hSt, hNs, hR, hcs⟩ := hC
  intro H locs ls hP hS hl
  subst hm
  obtain ⟨hk1, hk2⟩ := hk
  have he : (wld G μ)[k]? = some (gad G k, .inl (gcy G 14, n, .inr (.inl (μ.2 k)))) := by rw [wld_at G μ hk1, cel_long hk2, hn]
  refine va_last hx hb hK hP (wld_D hOK μ) hS k 1 he rfl (ib_in hi) hd (fun H1 locs1 hP1 hD1 hS1 => ?_)
  have hset : (wld G μ).set k (gad G k, .inl (gcy G 14, n, .inr (.inl (vp_updL (μ.2 k) i.toNatClampNeg x)))) = wld G (wl μ k i.toNatClampNeg x) := by
    refine wld_set ?_ (fun i _ hi => cel_neL hi)
    rw [cel_long hk2, hn]
    congr 5
    funext b
    simp [wl, vp_updL]
  rw [hset] at hP1
  exact kk H1 locs1 ls hP1 hS1 hl
theorem u_aaldD {C : Cx} {cc : ByteArray} {nL : Nat} {own : String} {d : Nat} (hC : CxOK C cc nL own d) {μ : Mem} {pc : Nat} {lc : List (Nat × Value)} {sk : List Value} {k : Nat} (hk : isC 15 k) {i : Int32} (hi : ib i 4 = true) (hn : ln k = 4) (hd : decode cc pc = .ok (.aaload, 1)) (kk : UW C nL μ (pc + 1) lc (.ref (gad (cG C) (rf k i.toNatClampNeg)) :: sk)) : UW C nL μ pc lc (.int i :: .ref (gad (cG C) k) :: sk) := by
  obtain ⟨p, l, e, R, s, m, args, below, meth, c, G, Q, cells, slots⟩ := C
  obtain ⟨⟨hx, hb, hml, hown, hts⟩, hlk, hOK, hs0, hK, hSt, hNs, hR, hcs⟩ := hC
  intro H locs ls hP hS hl
  obtain ⟨hk1, hk2⟩ := hk
  have he : (wld G μ)[k]? = some (gad G k, .inl (gcy G 15, 4, .inr (.inr (.inr (.inr (fun j => some (gad G (rf k j)))))))) := by rw [wld_at G μ hk1, cel_ref hk2 (by decide), hn]
  exact va_aldq hx hb hK hP k 2 he rfl (ib_in hi) hd (kk H locs ls hP hS hl)
theorem u_aaldS {C : Cx} {cc : ByteArray} {nL : Nat} {own : String} {d : Nat} (hC : CxOK C cc nL own d) {μ : Mem} {pc : Nat} {lc : List (Nat × Value)} {sk : List Value} {k : Nat} (hk : isC 16 k) {i : Int32} (hi : ib i 4 = true) (hn : ln k = 4) (hd : decode cc pc = .ok (.aaload, 1)) (kk : UW C nL μ (pc + 1) lc (.ref (gad (cG C) (rf k i.toNatClampNeg)) :: sk)) : UW C nL μ pc lc (.int i :: .ref (gad (cG C) k) :: sk) := by
  obtain ⟨p, l, e, R, s, m, args, below, meth, c, G, Q, cells, slots⟩ := C
  obtain ⟨⟨hx, hb, hml, hown, hts⟩, hlk, hOK, hs0, hK, hSt, hNs, hR, hcs⟩ := hC
  intro H locs ls hP hS hl
  obtain ⟨hk1, hk2⟩ := hk
  have he : (wld G μ)[k]? = some (gad G k, .inl (gcy G 16, 4, .inr (.inr (.inr (.inr (fun j => some (gad G (rf k j)))))))) := by rw [wld_at G μ hk1, cel_ref hk2 (by decide), hn]
  exact va_aldq hx hb hK hP k 3 he rfl (ib_in hi) hd (kk H locs ls hP hS hl)
theorem u_alen {C : Cx} {cc : ByteArray} {nL : Nat} {own : String} {d : Nat} (hC : CxOK C cc nL own d) {μ : Mem} {pc : Nat} {lc : List (Nat × Value)} {sk : List Value} {k : Nat} (hk : isC 13 k) (hd : decode cc pc = .ok (.arraylength, 1)) (kk : UW C nL μ (pc + 1) lc (.int (nI (ln k)) :: sk)) : UW C nL μ pc lc (.ref (gad (cG C) k) :: sk) := by
  obtain ⟨p, l, e, R, s, m, args, below, meth, c, G, Q, cells, slots⟩ := C
  obtain ⟨⟨hx, hb, hml, hown, hts⟩, hlk, hOK, hs0, hK, hSt, hNs, hR, hcs⟩ := hC
  intro H locs ls hP hS hl
  obtain ⟨hk1, hk2⟩ := hk
  have he : (wld G μ)[k]? = some (gad G k, .inl (gcy G 13, ln k, .inl (μ.1 k))) := by rw [wld_at G μ hk1, cel_int hk2]
  exact va_alen hx hb hK hP k 0 he (ty := .int) rfl rfl hd (kk H locs ls hP hS hl)
theorem u_alenL {C : Cx} {cc : ByteArray} {nL : Nat} {own : String} {d : Nat} (hC : CxOK C cc nL own d) {μ : Mem} {pc : Nat} {lc : List (Nat × Value)} {sk : List Value} {k : Nat} (hk : isC 14 k) (hd : decode cc pc = .ok (.arraylength, 1)) (kk : UW C nL μ (pc + 1) lc (.int (nI (ln k)) :: sk)) : UW C nL μ pc lc (.ref (gad (cG C) k) :: sk) := by
  obtain ⟨p, l, e, R, s, m, args, below, meth, c, G, Q, cells, slots⟩ := C
  obtain ⟨⟨hx, hb, hml, hown, hts⟩, hlk, hOK, hs0, hK, hSt, hNs, hR, hcs⟩ := hC
  intro H locs ls hP hS hl
  obtain ⟨hk1, hk2⟩ := hk
  have he : (wld G μ)[k]? = some (gad G k, .inl (gcy G 14, ln k, .inr (.inl (μ.2 k)))) := by rw [wld_at G μ hk1, cel_long hk2]
  exact va_alen hx hb hK hP k 1 he (ty := .long) rfl rfl hd (kk H locs ls hP hS hl)
theorem u_acopy {C : Cx} {cc : ByteArray} {nL : Nat} {own : String} {d : Nat} (hC : CxOK C cc nL own d) {μ : Mem} {pc : Nat} {lc : List (Nat × Value)} {sk : List Value} {idx k1 k2 : Nat} (hl1 : Cond.methodLink own idx arraycopyName ∈ AL) (hl2 : Cond.native arraycopyName ∈ AL) (hl3 : Cond.static arraycopyName ∈ AL) (hl4 : Cond.initialized "java/lang/System" ∈ AL) (hk1 : isC 13 k1) (hk2 : isC 13 k2) {sp dp n : Int32} (hcb : cb sp dp n (ln k1) (ln k2) = true) (hcat : (sk.map fun v => v.category).sum ≤ 8) (hd : decode cc pc = .ok (.invokestatic idx, 3)) {μ1 : Mem} (hm : cpy μ k1 sp.toNatClampNeg k2 dp.toNatClampNeg n.toNatClampNeg = μ1) (kk : UW C nL μ1 (pc + 3) lc sk) : UW C nL μ pc lc (.int n :: .int dp :: .ref (gad (cG C) k2) :: .int sp :: .ref (gad (cG C) k1) :: sk) := by
  obtain ⟨p, l, e, R, s, m, args, below, meth, c, G, Q, cells, slots⟩ := C
  obtain ⟨⟨hx, hb, hml, hown, hts⟩, hlk, hOK, hs0, hK, hSt, hNs, hR, hcs⟩ := hC
  intro H locs ls hP hS hl
  subst hm
  have h0 : (wld G μ)[k1]? = some (gad G k1, .inl (gcy G 13, ln k1, .inl (μ.1 k1))) := by rw [wld_at G μ hk1.1, cel_int hk1.2]
  have h1 : (wld G μ)[k2]? = some (gad G k2, .inl (gcy G 13, ln k2, .inl (μ.1 k2))) := by rw [wld_at G μ hk2.1, cel_int hk2.2]
  simp only [cb, Bool.and_eq_true, Bool.not_eq_true', decide_eq_true_eq, decide_eq_false_iff_not] at hcb
  obtain ⟨⟨⟨⟨c1, c2⟩, c3⟩, c4⟩, c5⟩ := hcb
  refine va_copyi hx hb (hml.trans hl.1.symm) hown (hts _ hl1) (hts _ hl2) (hts _ hl3) (hts _ hl4) hK hP (wld_D hOK μ) hS k1 k2 0 0 h0 h1 (ty := .int) rfl rfl rfl c1 c2 c3 c4 c5 (fun _ _ => rfl) (by omega) (Nat.le_trans (Nat.add_le_add_right hcat _) (Nat.le_trans (show 8 + (nativeFrameWords "java/lang/System" "arraycopy" 5 + 11) ≤ 40 by decide) (by omega))) hd (fun H1 locs1 hP1 hD1 hS1 => ?_)
  have hset : (wld G μ).set k2 (gad G k2, .inl (gcy G 13, ln k2, .inl (va_cpy (μ.1 k1) (μ.1 k2) sp.toNatClampNeg dp.toNatClampNeg n.toNatClampNeg))) = wld G (cpy μ k1 sp.toNatClampNeg k2 dp.toNatClampNeg n.toNatClampNeg) := by
    refine wld_set ?_ (fun i _ hi => cel_neC hi)
    rw [cel_int hk2.2]
    congr 4
    funext b
    simp [cpy, va_cpy]
  rw [hset] at hP1
  exact kk H1 locs1 ls hP1 hS1 hl
theorem u_mmax {C : Cx} {cc : ByteArray} {nL : Nat} {own : String} {d : Nat} (hC : CxOK C cc nL own d) {μ : Mem} {pc : Nat} {lc : List (Nat × Value)} {sk : List Value} {idx : Nat} (h1 : Cond.methodLink own idx Lib.Math.max.name ∈ AL) (h2 : Cond.static Lib.Math.max.name ∈ AL) (h3 : Cond.initialized "java/lang/Math" ∈ AL) (h4 : Cond.code Lib.Math.max.name Lib.Math.max.code 2 (some .int) ∈ AL) {x y : Int32} (hcat : (sk.map fun v => v.category).sum ≤ 8) (hd : decode cc pc = .ok (.invokestatic idx, 3)) (k : UW C nL μ (pc + 3) lc (.int (jmax x y) :: sk)) : UW C nL μ pc lc (.int y :: .int x :: sk) := by
  obtain ⟨p, l, e, R, s, m, args, below, meth, c, G, Q, cells, slots⟩ := C
  obtain ⟨⟨hx, hb, hml, hown, hts⟩, hlk, hOK, hs0, hK, hSt, hNs, hR, hcs⟩ := hC
  intro H locs ls hP hS hl
  exact va_mmax hx hb (hml.trans hl.1.symm) hown (hts _ h1) (hts _ h2) (hts _ h3) (hts _ h4) (by omega) (by omega) hcs.1 hcs.2 hd (k H locs ls hP hS hl)
theorem u_mmin {C : Cx} {cc : ByteArray} {nL : Nat} {own : String} {d : Nat} (hC : CxOK C cc nL own d) {μ : Mem} {pc : Nat} {lc : List (Nat × Value)} {sk : List Value} {idx : Nat} (h1 : Cond.methodLink own idx Lib.Math.min.name ∈ AL) (h2 : Cond.static Lib.Math.min.name ∈ AL) (h3 : Cond.initialized "java/lang/Math" ∈ AL) (h4 : Cond.code Lib.Math.min.name Lib.Math.min.code 2 (some .int) ∈ AL) {x y : Int32} (hcat : (sk.map fun v => v.category).sum ≤ 8) (hd : decode cc pc = .ok (.invokestatic idx, 3)) (k : UW C nL μ (pc + 3) lc (.int (jmin x y) :: sk)) : UW C nL μ pc lc (.int y :: .int x :: sk) := by
  obtain ⟨p, l, e, R, s, m, args, below, meth, c, G, Q, cells, slots⟩ := C
  obtain ⟨⟨hx, hb, hml, hown, hts⟩, hlk, hOK, hs0, hK, hSt, hNs, hR, hcs⟩ := hC
  intro H locs ls hP hS hl
  exact va_mmin hx hb (hml.trans hl.1.symm) hown (hts _ h1) (hts _ h2) (hts _ h3) (hts _ h4) (by omega) (by omega) hcs.1 hcs.2 hd (k H locs ls hP hS hl)
theorem u_getsN0 {C : Cx} {cc : ByteArray} {nL : Nat} {own : String} {d : Nat} (hC : CxOK C cc nL own d) {μ : Mem} {pc : Nat} {lc : List (Nat × Value)} {sk : List Value} {idx : Nat} (hw : gNest (cS C) → va_Nw (.fieldLinkNest own idx "ChapterLoan" "ABOVE" "[I" "ChapterLoan") (cS C)) (hd : decode cc pc = .ok (.getstatic idx, 3)) (k : UW C nL μ (pc + 3) lc (.ref (gsa (cG C) 0) :: sk)) : UW C nL μ pc lc sk := by
  obtain ⟨p, l, e, R, s, m, args, below, meth, c, G, Q, cells, slots⟩ := C
  obtain ⟨⟨hx, hb, hml, hown, hts⟩, hlk, hOK, hs0, hK, hSt, hNs, hR, hcs⟩ := hC
  intro H locs ls hP hS hl
  exact va_getsN hx hb hSt.1.1 hS hown (va_Nw.use rfl (hw hNs)) (fun _ h => h) hd (k H locs ls hP hS hl)
theorem u_tld0 {C : Cx} {cc : ByteArray} {nL : Nat} {own : String} {d : Nat} (hC : CxOK C cc nL own d) {μ : Mem} {pc : Nat} {lc : List (Nat × Value)} {sk : List Value} {i : Int32} (hi : ib i 7 = true) (hd : decode cc pc = .ok (.iaload, 1)) (k : UW C nL μ (pc + 1) lc (.int (st 0 i.toNatClampNeg) :: sk)) : UW C nL μ pc lc (.int i :: .ref (gsa (cG C) 0) :: sk) := by
  obtain ⟨p, l, e, R, s, m, args, below, meth, c, G, Q, cells, slots⟩ := C
  obtain ⟨⟨hx, hb, hml, hown, hts⟩, hlk, hOK, hs0, hK, hSt, hNs, hR, hcs⟩ := hC
  intro H locs ls hP hS hl
  exact va_ti hx hb hSt.1.2 hS (ib_in hi) rfl hd (k H locs ls hP hS hl)
theorem u_getsN1 {C : Cx} {cc : ByteArray} {nL : Nat} {own : String} {d : Nat} (hC : CxOK C cc nL own d) {μ : Mem} {pc : Nat} {lc : List (Nat × Value)} {sk : List Value} {idx : Nat} (hw : gNest (cS C) → va_Nw (.fieldLinkNest own idx "ChapterLoan" "BODIES" "[I" "ChapterLoan") (cS C)) (hd : decode cc pc = .ok (.getstatic idx, 3)) (k : UW C nL μ (pc + 3) lc (.ref (gsa (cG C) 1) :: sk)) : UW C nL μ pc lc sk := by
  obtain ⟨p, l, e, R, s, m, args, below, meth, c, G, Q, cells, slots⟩ := C
  obtain ⟨⟨hx, hb, hml, hown, hts⟩, hlk, hOK, hs0, hK, hSt, hNs, hR, hcs⟩ := hC
  intro H locs ls hP hS hl
  exact va_getsN hx hb hSt.2.1 hS hown (va_Nw.use rfl (hw hNs)) (fun _ h => h) hd (k H locs ls hP hS hl)
theorem u_tld1 {C : Cx} {cc : ByteArray} {nL : Nat} {own : String} {d : Nat} (hC : CxOK C cc nL own d) {μ : Mem} {pc : Nat} {lc : List (Nat × Value)} {sk : List Value} {i : Int32} (hi : ib i 28 = true) (hd : decode cc pc = .ok (.iaload, 1)) (k : UW C nL μ (pc + 1) lc (.int (st 1 i.toNatClampNeg) :: sk)) : UW C nL μ pc lc (.int i :: .ref (gsa (cG C) 1) :: sk) := by
  obtain ⟨p, l, e, R, s, m, args, below, meth, c, G, Q, cells, slots⟩ := C
  obtain ⟨⟨hx, hb, hml, hown, hts⟩, hlk, hOK, hs0, hK, hSt, hNs, hR, hcs⟩ := hC
  intro H locs ls hP hS hl
  exact va_ti hx hb hSt.2.2 hS (ib_in hi) rfl hd (k H locs ls hP hS hl)
theorem tb_df {x : Int32} {lo hi : Int} (vs : List Int32) (h : ∀ v ∈ vs, ¬ x = v) (hp : vs.map Int32.toInt = (List.range (hi + 1 - lo).toNat).map (fun j : Nat => lo + (j : Int))) : x.toInt < lo ∨ hi < x.toInt := by
  rcases Int.lt_or_le x.toInt lo with h1 | h1
  · exact Or.inl h1
  rcases Int.lt_or_le hi x.toInt with h2 | h2
  · exact Or.inr h2
  exfalso
  have hm : x.toInt ∈ vs.map Int32.toInt := by
    rw [hp]
    exact List.mem_map.mpr ⟨(x.toInt - lo).toNat, List.mem_range.mpr (by omega), by show lo + (((x.toInt - lo).toNat : Nat) : Int) = x.toInt; omega⟩
  obtain ⟨v, hv, e⟩ := List.mem_map.mp hm
  exact h v hv (Int32.toInt_inj.mp e.symm)
theorem lk_df {x : Int32} {dflt : Int} : ∀ (ps : List (Int × Int)) (vs : List Int32), (∀ v ∈ vs, ¬ x = v) → ps.map (fun q => q.1) = vs.map Int32.toInt → Op.lookupswitch.offset ps dflt x.toInt = dflt
  | [], _, _, _ => rfl
  | (a, o) :: r, [], _, hp => by simp at hp
  | (a, o) :: r, v :: vs, h, hp => by
    simp only [List.map_cons, List.cons.injEq] at hp
    rw [Op.lookupswitch.offset_cons, if_neg (fun e => h v List.mem_cons_self (Int32.toInt_inj.mp (by rw [← e, hp.1]))), lk_df r vs (fun w hw => h w (List.mem_cons_of_mem _ hw)) hp.2]
theorem u_tabEq {C : Cx} {cc : ByteArray} {nL : Nat} {own : String} {d : Nat} (hC : CxOK C cc nL own d) {μ : Mem} {pc : Nat} {lc : List (Nat × Value)} {sk : List Value} {dflt lo hi : Int} {offs : Array Int} {len : Nat} {x : Int32} (hd : decode cc pc = .ok (.tableswitch dflt lo hi offs, len)) (v : Int32) (hxv : x = v) {off : Int} (tgt : Nat) (h1 : ¬ v.toInt < lo ∧ ¬ hi < v.toInt ∧ offs[(v.toInt - lo).toNat]? = some off) (ht : (pc : Int) + off = (tgt : Int)) (k : UW C nL μ tgt lc sk) : UW C nL μ pc lc (.int x :: sk) := by
  obtain ⟨p, l, e, R, s, m, args, below, meth, c, G, Q, cells, slots⟩ := C
  obtain ⟨⟨hx, hb, hml, hown, hts⟩, hlk, hOK, hs0, hK, hSt, hNs, hR, hcs⟩ := hC
  intro H locs ls hP hS hl
  subst hxv
  exact lv_tableIn hx hb hd h1.1 h1.2.1 h1.2.2 ht (k H locs ls hP hS hl)
theorem u_tabDf {C : Cx} {cc : ByteArray} {nL : Nat} {own : String} {d : Nat} (hC : CxOK C cc nL own d) {μ : Mem} {pc : Nat} {lc : List (Nat × Value)} {sk : List Value} {dflt lo hi : Int} {offs : Array Int} {len : Nat} {x : Int32} (hd : decode cc pc = .ok (.tableswitch dflt lo hi offs, len)) (vs : List Int32) (h : ∀ v ∈ vs, ¬ x = v) (hp : vs.map Int32.toInt = (List.range (hi + 1 - lo).toNat).map (fun j : Nat => lo + (j : Int))) (tgt : Nat) (ht : (pc : Int) + dflt = (tgt : Int)) (k : UW C nL μ tgt lc sk) : UW C nL μ pc lc (.int x :: sk) := by
  obtain ⟨p, l, e, R, s, m, args, below, meth, c, G, Q, cells, slots⟩ := C
  obtain ⟨⟨hx, hb, hml, hown, hts⟩, hlk, hOK, hs0, hK, hSt, hNs, hR, hcs⟩ := hC
  intro H locs ls hP hS hl
  exact lv_tableOut hx hb hd (tb_df vs h hp) ht (k H locs ls hP hS hl)
theorem u_lookEq {C : Cx} {cc : ByteArray} {nL : Nat} {own : String} {d : Nat} (hC : CxOK C cc nL own d) {μ : Mem} {pc : Nat} {lc : List (Nat × Value)} {sk : List Value} {dflt : Int} {ps : Array (Int × Int)} {len : Nat} {x : Int32} (hd : decode cc pc = .ok (.lookupswitch dflt ps, len)) (v : Int32) (hxv : x = v) {off : Int} (tgt : Nat) (hp : (ps.toList.zip (ps.toList.drop 1)).all (fun (a, next) => a.1 < next.1) = true) (ho : Op.lookupswitch.offset ps.toList dflt v.toInt = off) (ht : (pc : Int) + off = (tgt : Int)) (k : UW C nL μ tgt lc sk) : UW C nL μ pc lc (.int x :: sk) := by
  obtain ⟨p, l, e, R, s, m, args, below, meth, c, G, Q, cells, slots⟩ := C
  obtain ⟨⟨hx, hb, hml, hown, hts⟩, hlk, hOK, hs0, hK, hSt, hNs, hR, hcs⟩ := hC
  intro H locs ls hP hS hl
  subst hxv
  exact lv_lookup hx hb hd hp ho ht (k H locs ls hP hS hl)
theorem u_lookDf {C : Cx} {cc : ByteArray} {nL : Nat} {own : String} {d : Nat} (hC : CxOK C cc nL own d) {μ : Mem} {pc : Nat} {lc : List (Nat × Value)} {sk : List Value} {dflt : Int} {ps : Array (Int × Int)} {len : Nat} {x : Int32} (hd : decode cc pc = .ok (.lookupswitch dflt ps, len)) (vs : List Int32) (h : ∀ v ∈ vs, ¬ x = v) (hv : ps.toList.map (fun q => q.1) = vs.map Int32.toInt) (tgt : Nat) (hp : (ps.toList.zip (ps.toList.drop 1)).all (fun (a, next) => a.1 < next.1) = true) (ht : (pc : Int) + dflt = (tgt : Int)) (k : UW C nL μ tgt lc sk) : UW C nL μ pc lc (.int x :: sk) := by
  obtain ⟨p, l, e, R, s, m, args, below, meth, c, G, Q, cells, slots⟩ := C
  obtain ⟨⟨hx, hb, hml, hown, hts⟩, hlk, hOK, hs0, hK, hSt, hNs, hR, hcs⟩ := hC
  intro H locs ls hP hS hl
  exact lv_lookup hx hb hd hp (lk_df ps.toList vs h hv) ht (k H locs ls hP hS hl)
theorem wd_end {G : GG} {μ : Mem} {s t : State} {H : Heap} {locs : List Loc} (hOK : gOK G) (hs0 : gs0 G ≤ s.heap.size) (hK : va_K (gD G) vwCl (gTys G) s) (hSt : gStat G s s.heap) (hNs : gNest s) (hP : va_P (gD G) vwCl (wld G μ) H) (hS : va_S (gA G) s.heap H locs) (ht : t.heap = H) (hW : s.WarmedH t.vm) : Wd G μ t := by
  refine ⟨hOK, by rw [ht]; exact Nat.le_trans hs0 hS.1, by rw [ht]; exact hP, hK.moved hW.alike, ?_, hNs.warm hW⟩
  rw [ht]
  exact (hSt.moved hW.alike).kept (fun a h1 h2 => hS.2.1 a h1 h2)
theorem u_iret {C : Cx} {cc : ByteArray} {nL : Nat} {own : String} {d : Nat} (hC : CxOK C cc nL own d) {μ : Mem} {pc : Nat} {lc : List (Nat × Value)} {K : Option Value → Mem → Prop} (hQ : CxRet C K) {v : Int32} (hr : cRet C = some .int)  (hk : K (some (.int v)) μ) (hd : decode cc pc = .ok (.ireturn, 1)) : UW C nL μ pc lc [(.int v)] := by
  obtain ⟨p, l, e, R, s, m, args, below, meth, c, G, Q, cells, slots⟩ := C
  obtain ⟨⟨hx, hb, hml, hown, hts⟩, hlk, hOK, hs0, hK, hSt, hNs, hR, hcs⟩ := hC
  intro H locs ls hP hS hl
  subst hQ
  exact W.iret hx hb hr (fun t ht hW => ⟨⟨_, _, rfl, hk, wd_end hOK hs0 hK hSt hNs hP hS ht hW⟩, hS.F ht⟩) hS.2.2 hd hlk
theorem u_zret {C : Cx} {cc : ByteArray} {nL : Nat} {own : String} {d : Nat} (hC : CxOK C cc nL own d) {μ : Mem} {pc : Nat} {lc : List (Nat × Value)} {K : Option Value → Mem → Prop} (hQ : CxRet C K) {v : Int32} (hr : cRet C = some .boolean) (hz : bz v = true) (hk : K (some (.int v)) μ) (hd : decode cc pc = .ok (.ireturn, 1)) : UW C nL μ pc lc [(.int v)] := by
  obtain ⟨p, l, e, R, s, m, args, below, meth, c, G, Q, cells, slots⟩ := C
  obtain ⟨⟨hx, hb, hml, hown, hts⟩, hlk, hOK, hs0, hK, hSt, hNs, hR, hcs⟩ := hC
  intro H locs ls hP hS hl
  subst hQ
  exact W.zret hx hb hr (bz_nar hz).1 (fun t ht hW => ⟨⟨_, _, rfl, hk, wd_end hOK hs0 hK hSt hNs hP hS ht hW⟩, hS.F ht⟩) hS.2.2 hd hlk
theorem u_lret {C : Cx} {cc : ByteArray} {nL : Nat} {own : String} {d : Nat} (hC : CxOK C cc nL own d) {μ : Mem} {pc : Nat} {lc : List (Nat × Value)} {K : Option Value → Mem → Prop} (hQ : CxRet C K) {v : Int64} (hr : cRet C = some .long)  (hk : K (some (.long v)) μ) (hd : decode cc pc = .ok (.lreturn, 1)) : UW C nL μ pc lc [(.long v)] := by
  obtain ⟨p, l, e, R, s, m, args, below, meth, c, G, Q, cells, slots⟩ := C
  obtain ⟨⟨hx, hb, hml, hown, hts⟩, hlk, hOK, hs0, hK, hSt, hNs, hR, hcs⟩ := hC
  intro H locs ls hP hS hl
  subst hQ
  exact W.lret hx hb hr (fun t ht hW => ⟨⟨_, _, rfl, hk, wd_end hOK hs0 hK hSt hNs hP hS ht hW⟩, hS.F ht⟩) hS.2.2 hd hlk
theorem u_vret {C : Cx} {cc : ByteArray} {nL : Nat} {own : String} {d : Nat} (hC : CxOK C cc nL own d) {μ : Mem} {pc : Nat} {lc : List (Nat × Value)} {K : Option Value → Mem → Prop} (hQ : CxRet C K)  (hr : cRet C = none)  (hk : K (none) μ) (hd : decode cc pc = .ok (.return_, 1)) : UW C nL μ pc lc [] := by
  obtain ⟨p, l, e, R, s, m, args, below, meth, c, G, Q, cells, slots⟩ := C
  obtain ⟨⟨hx, hb, hml, hown, hts⟩, hlk, hOK, hs0, hK, hSt, hNs, hR, hcs⟩ := hC
  intro H locs ls hP hS hl
  subst hQ
  exact W.vret hx hb hr (fun t ht hW => ⟨⟨_, _, rfl, hk, wd_end hOK hs0 hK hSt hNs hP hS ht hW⟩, hS.F ht⟩) hS.2.2 hd hlk
theorem u_aret {C : Cx} {cc : ByteArray} {nL : Nat} {own : String} {d : Nat} (hC : CxOK C cc nL own d) {μ : Mem} {pc : Nat} {lc : List (Nat × Value)} {K : Option Value → Mem → Prop} (hQ : CxRet C K) {v : Nat} {rt : FieldType} (hr : cRet C = some rt) (hrt : (∃ n, rt = .object n) ∨ ∃ t, rt = .array t) (hk : K (some (.ref v)) μ) (hd : decode cc pc = .ok (.areturn, 1)) : UW C nL μ pc lc [(.ref v)] := by
  obtain ⟨p, l, e, R, s, m, args, below, meth, c, G, Q, cells, slots⟩ := C
  obtain ⟨⟨hx, hb, hml, hown, hts⟩, hlk, hOK, hs0, hK, hSt, hNs, hR, hcs⟩ := hC
  intro H locs ls hP hS hl
  subst hQ
  exact W.aret hx hb hr hrt (Or.inr ⟨_, rfl⟩) (fun t ht hW => ⟨⟨_, _, rfl, hk, wd_end hOK hs0 hK hSt hNs hP hS ht hW⟩, hS.F ht⟩) hS.2.2 hd hlk
theorem wd_blind {G : GG} {μ : Mem} {av : List Value} : FrameBlind (va_Pc av (Wd G μ)) := fun a U g mk q => by
  obtain ⟨q0, h1, h2, h3, h4, h5, h6⟩ := q
  exact ⟨q0, h1, h2, h3, va_K.moved (u := U) (U := U.calling g mk a) (Vm.Alike.refl U.vm) h4, gStat.moved (u := U) (U := U.calling g mk a) (Vm.Alike.refl U.vm) h5, gNest.same (u := U) (U := U.calling g mk a) rfl h6⟩
theorem g_call {p : Program} {l : Launch} {e : Env} {R : Room} {s : State} {m : MethodId} {args : Array Value} {below : List Frame} {meth : Method} {c : Code} {H : Heap} {locs : List Loc} {cells slots : Nat} {Q : State → Prop} {pc : Nat} {ls : Array Slot} {rest st0 : List Value} {a : Array Value} {G : GG} {K : Option Value → Mem → Prop} {H0 : Heap}
    (hr : va_Run p l e R s m args below meth c H locs cells slots 0 0 (F0 m pc ls st0) rest (QG G K a) (gA G)) (hS : va_S (gA G) H0 H locs)
    (kk : ∀ (v : Option Value) (u : Mem) (H1 : Heap) (locs1 : List Loc), K v u → va_P (gD G) vwCl (wld G u) H1 → va_S (gA G) H0 H1 locs1 → W p l e R s m args below meth c H1 locs1 cells slots Q (F0 m (pc + 3) ls (v.toList ++ rest))) : W p l e R s m args below meth c H locs cells slots Q (F0 m pc ls st0) := by
  intro T hT X
  obtain ⟨v, st₀, t, T', L, h0, X', hL, e1, e2, ⟨⟨v', u, hv, hp, hb⟩, hz, hk⟩, st⟩ := hr T hT X
  cases hv
  rw [h0] at hz hk
  obtain ⟨t2, a1, b1⟩ := kk v u T'.heap (locs ++ L) hp (by rw [e1]; exact hb.2.2.1)
    ⟨Nat.le_trans hS.1 (by rw [e1]; exact hz), fun q h1 h2 => by rw [e1, hk q (Nat.lt_of_lt_of_le h1 hS.1) h2]; exact hS.2.1 q h1 h2, fun q hq => by
      rcases List.mem_append.mp hq with h | h
      · exact hS.2.2 q h
      · exact hL q h⟩ T' rfl X'
  exact ⟨t2, st t2 a1, b1⟩
theorem ok_callB {own : String} {idx mL d d1 n : Nat} {R : Room} {s : State} {args : Array Value} {y : MethodName} {cy : ByteArray} {ret : Option FieldType} (hts : ∀ w ∈ AL, w.before args s = true) (hR : d + 1 ≤ R.frames ∧ 40 + 40 * d ≤ R.locals) (hlk : Cond.methodLink own idx y ∈ AL) (hco : Cond.code y cy mL ret ∈ AL) (hini : Cond.initialized y.cls ∈ AL) (hnm : y.cls ≠ "java/lang/invoke/MethodHandle" ∧ y.cls ≠ "java/lang/invoke/VarHandle" ∧ (parseMethodDescriptor y.desc).map (fun d => d.parameters.length) = some n) (hL : mL ≤ 21) (hdep : d1 + 1 ≤ d) : CallB R s args own idx y cy mL ret (Cond.code y cy mL ret :: AL) (rmD d1) 0 0 n := by
  refine callB_of n hts ?_ rfl rfl rfl (hts _ hini) (hts _ hlk) hnm ⟨by show d1 + 1 + 1 ≤ _; omega, by show 8 + (mL + 11) + 40 * (d1 + 1) ≤ _; omega⟩
  refine al_goodIn (fun w hw => ?_)
  rcases List.mem_cons.mp hw with rfl | h
  · exact hco
  · exact h
theorem u_callV {C : Cx} {cc : ByteArray} {nL : Nat} {own : String} {d : Nat} (hC : CxOK C cc nL own d) {μ : Mem} {pc : Nat} {lc : List (Nat × Value)} {sk : List Value} {y : MethodName} {cy : ByteArray} {mL d1 n idx : Nat} {ret : Option FieldType} {av : List Value} {K : Option Value → Mem → Prop} {rest : List Value} {ci k : Nat} {T : u_T} {N : Nat} (hM : CT (cL C) y cy mL ret d1 (cG C) (.ref (gad (cG C) k) :: av) μ K) (hlk1 : Cond.methodLink own idx y ∈ AL) (hin : Cond.instanceMethod y ∈ AL) (hse : Cond.selects y.cls y y ∈ AL) (hco : Cond.code y cy mL ret ∈ AL) (hini : Cond.initialized y.cls ∈ AL) (hnm : y.cls ≠ "java/lang/invoke/MethodHandle" ∧ y.cls ≠ "java/lang/invoke/VarHandle" ∧ (parseMethodDescriptor y.desc).map (fun d => d.parameters.length) = some n) (hn : av.length = n) (hL : mL ≤ 21) (hdep : d1 + 1 ≤ d) (hcat : (rest.map fun v => v.category).sum ≤ 8) (hcl : vwCl[ci]? = some (y.cls, T, N)) (hci : ci < 13) (hk : isC ci k) (hst : sk = av.reverse ++ .ref (gad (cG C) k) :: rest) (hd : decode cc pc = .ok (.invokevirtual idx, 3)) (kk : ∀ v u, K v u → UW C nL u (pc + 3) lc (v.toList ++ rest)) : UW C nL μ pc lc sk := by
  obtain ⟨p, l, e, R, s, m, args, below, meth, c, G, Q, cells, slots⟩ := C
  obtain ⟨⟨hx, hb, hml, hown, hts⟩, hlk, hOK, hs0, hK, hSt, hNs, hR, hcs⟩ := hC
  intro H locs ls hP hS hl
  subst hst
  obtain ⟨hk1, hk2⟩ := hk
  have he : (wld G μ)[k]? = some (gad G k, .inr (ci, fvs G μ k (nf ci))) := by rw [wld_at G μ hk1, cel_obj hk2 hci]
  refine g_call (a := (Value.ref (gad G k) :: av).toArray) (va_runV (As := av) (b := gad G k) (rest := rest) ⟨hx, hb, hml, hown, hts⟩ hM ⟨ok_callB hts hR hlk1 hco hini hnm hL hdep, hts _ hin, hts _ hse⟩ ⟨wd_blind, va_recv hK hP hcl he, fun U hU hW => ⟨rfl, wd_end hOK hs0 hK hSt hNs hP hS hU hW⟩⟩ rfl hn hl.1 rfl (lv_room hcat) hd ⟨hcs.1, hcs.2⟩) hS (fun v u H1 locs1 h1 h2 h3 => kk v u h1 H1 locs1 ls h2 h3 hl)
theorem u_callS {C : Cx} {cc : ByteArray} {nL : Nat} {own : String} {d : Nat} (hC : CxOK C cc nL own d) {μ : Mem} {pc : Nat} {lc : List (Nat × Value)} {sk : List Value} {y : MethodName} {cy : ByteArray} {mL d1 n idx : Nat} {ret : Option FieldType} {av : List Value} {K : Option Value → Mem → Prop} {rest : List Value} (hM : CT (cL C) y cy mL ret d1 (cG C) av μ K) (hlk1 : Cond.methodLink own idx y ∈ AL) (hsm : Cond.static y ∈ AL) (hco : Cond.code y cy mL ret ∈ AL) (hini : Cond.initialized y.cls ∈ AL) (hnm : y.cls ≠ "java/lang/invoke/MethodHandle" ∧ y.cls ≠ "java/lang/invoke/VarHandle" ∧ (parseMethodDescriptor y.desc).map (fun d => d.parameters.length) = some n) (hn : av.length = n) (hL : mL ≤ 21) (hdep : d1 + 1 ≤ d) (hcat : (rest.map fun v => v.category).sum ≤ 8) (hst : sk = av.reverse ++ rest) (hd : decode cc pc = .ok (.invokestatic idx, 3)) (kk : ∀ v u, K v u → UW C nL u (pc + 3) lc (v.toList ++ rest)) : UW C nL μ pc lc sk := by
  obtain ⟨p, l, e, R, s, m, args, below, meth, c, G, Q, cells, slots⟩ := C
  obtain ⟨⟨hx, hb, hml, hown, hts⟩, hlk, hOK, hs0, hK, hSt, hNs, hR, hcs⟩ := hC
  intro H locs ls hP hS hl
  subst hst
  refine g_call (a := av.toArray) (va_runS (As := av) (rest := rest) ⟨hx, hb, hml, hown, hts⟩ hM ⟨ok_callB hts hR hlk1 hco hini hnm hL hdep, hts _ hsm⟩ ⟨wd_blind, fun U hU hW => ⟨rfl, wd_end hOK hs0 hK hSt hNs hP hS hU hW⟩⟩ rfl hn hl.1 rfl (lv_room hcat) hd ⟨hcs.1, hcs.2⟩) hS (fun v u H1 locs1 h1 h2 h3 => kk v u h1 H1 locs1 ls h2 h3 hl)
def RK (vo : Option Value) (μ1 : Mem) : Option Value → Mem → Prop := fun v u => v = vo ∧ u = μ1
theorem ct_start {l : Launch} {y : MethodName} {cy : ByteArray} {mL : Nat} {ret : Option FieldType} {d : Nat} {G : GG} {av : List Value} {μ : Mem} {K : Option Value → Mem → Prop} (hy : plainName y.cls = true) (hlen : (lg_sl av).length ≤ mL)
    (body : ∀ C : Cx, cL C = l → cG C = G → CxOK C cy mL y.cls d → CxRet C K → cRet C = ret → UW C mL μ 0 (lv_args 0 av) []) : CT l y cy mL ret d G av μ K := by
  refine Met.ofW (cc := cy) (maxL := mL) (ret := ret) hy rfl ?_
  intro p e s m args below meth c s₁ B hml hv
  obtain ⟨rfl, hOK, hs0, hP, hK, hSt, hNs⟩ := hv
  have hts := atoms_spec (ws := Cond.code y cy mL ret :: AL) B.pre
  have hl := lv_entry av (n := mL) hlen
  rw [lg_entry_eq]
  generalize (lg_sl av ++ List.replicate (mL - (lg_sl av).length) Slot.unset).toArray = ls at hl ⊢
  exact body (p, l, e, (headSpec (Cond.code y cy mL ret :: AL) (rmD d)).room, s, m, av.toArray, below, meth, c, G, MQ below (QG G K) av.toArray s 0 0 (gA G), 0, 0) rfl rfl ⟨⟨B.exec, B.bytes, hml, findClass_of_methodNamed B.named, fun w h => hts w (List.mem_cons_of_mem _ h)⟩, B.notSynchronized, hOK, hs0, hK, hSt, hNs, ⟨Nat.le_refl _, by show 40 + 40 * d ≤ 40 * (d + 1); omega⟩, ⟨Nat.zero_le _, Nat.zero_le _⟩⟩ rfl B.returns s.heap [] ls hP va_S.rf hl
