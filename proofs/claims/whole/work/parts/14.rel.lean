/-! PURE: texts, sheets, the relation -/
/-- the byte at a place; 999 behind the last one -/
def pat (n : Nat) (bb : Nat → Nat) (p : Nat) : Nat := if p < n then bb p else 999
def plv (c : Nat) : Nat := if c = 124 then 0 else if c = 38 then 1 else if c = 60 ∨ c = 61 ∨ c = 62 then 2 else if c = 43 ∨ c = 45 then 3 else if c = 42 ∨ c = 47 ∨ c = 37 then 4 else 9
/-- a reading: place, steps, failed -/
abbrev PS : Type := Nat × List Int32 × Bool
def pname (u c : Nat) : Nat := if c = 102 then (if u = 0 then 1 else 0) else if c = 119 then (if u = 0 then 2 else 0) else if c = 100 then (if u = 0 then 3 else 1) else if c = 111 then (if u = 0 then 0 else 2) else if c = 110 then (if u = 0 then 0 else 3) else 0
def padd (v : Int32) (s : PS) : PS := (s.1, s.2.1 ++ [v], s.2.2)
/-- a number of at most k digits more -/
def pnum (n : Nat) (bb : Nat → Nat) : Nat → Nat → Nat → Nat × Nat
  | 0, v, p => (v, p)
  | k + 1, v, p => if 48 ≤ pat n bb p ∧ pat n bb p ≤ 57 then pnum n bb k (10 * v + (pat n bb p - 48)) (p + 1) else (v, p)
def plp (n : Nat) (bb : Nat → Nat) (g : PS → PS) (l : Nat) : Nat → PS → PS
  | 0, s => s
  | i + 1, s => if s.2.2 = false ∧ plv (pat n bb s.1) = l then
      (let s' := padd (-nI (pat n bb s.1)) (g (s.1 + 1, s.2))
       if l = 2 then s' else plp n bb g l i s')
    else s
/-- levels 0 .. 4, 5: a unit -/
def prd (u n : Nat) (bb : Nat → Nat) : Nat → Nat → Nat → PS → PS
  | 0, _, _, s => (s.1, s.2.1, true)
  | k + 1, l, o, s =>
    if l = 5 then
      (let c := pat n bb s.1
       if 48 ≤ c ∧ c ≤ 57 then (let q := pnum n bb 4 0 s.1; (q.2, s.2.1 ++ [nI q.1], s.2.2))
       else if pname u c ≠ 0 then (s.1 + 1, s.2.1 ++ [-nI (pname u c)], s.2.2)
       else if c = 33 ∧ o < 5 then padd (-33) (prd u n bb k 5 (o + 1) (s.1 + 1, s.2))
       else if c = 40 ∧ o < 5 then
         (let s' := prd u n bb k 0 (o + 1) (s.1 + 1, s.2)
          if s'.2.2 = false ∧ pat n bb s'.1 = 41 then (s'.1 + 1, s'.2) else (s'.1, s'.2.1, true))
       else (s.1, s.2.1, true))
    else plp n bb (prd u n bb k (l + 1) o) l 50 (prd u n bb k (l + 1) o s)
/-- a text that is held -/
def ptx (u n : Nat) (bb : Nat → Nat) : PS := prd u n bb 100 0 0 (0, [], false)
def usu (u : Nat) : List Int32 := if u = 0 then [10] else [10, -3, -42, 5, -2, -42, -45, -1, -45]
def LAWS (u n : Nat) (bb : Nat → Nat) (st : List Int32) : Prop := if n = 0 then st = usu u else (ptx u n bb).1 = n ∧ (ptx u n bb).2.2 = false ∧ (ptx u n bb).2.1 = st
def RLaw (μx : Mem) (c s : Nat) (μm : Mem) (D u : Nat) : Prop := ∃ (n : Nat) (bb : Nat → Nat) (st : List Int32), n ≤ 50 ∧ st.length ≤ 50 ∧ rd μx c 3 = nI st.length ∧ (∀ i v, st[i]? = some v → rd μx s i = v) ∧ rd μm D (170 + u) = nI n ∧ (∀ i, i < n → bb i < 256 ∧ rd μm D (192 + 50 * u + i) = nI (bb i)) ∧ LAWS u n bb st
/-- all that an image keeps -/
def RW (μx : Mem) (w : Nat) (μm : Mem) (D : Nat) : Prop := RFT μx (w + 1) (w + 13) μm D 999 ∧ RMe μx (w + 27) μm D ∧ RTp μx (w + 31) μm D ∧ RWa μx w (w + 33) μm D ∧ rd μx w 8 = rd μm D 4 ∧ RLaw μx (w + 7) (w + 8) μm D 0 ∧ RLaw μx (w + 10) (w + 11) μm D 1
def lwb (b : Nat) (v : Int32) : Int32 := if b = 8 then v &&& 255 else if b = 16 then v &&& 65535 else v
def sxb (b : Nat) (v : Int32) : Int32 := if b = 8 then v.toInt8.toInt32 else if b = 16 then v.toInt16.toInt32 else v
def RSh (μx μm : Mem) : Prop := ∀ s, s < 4 → ∃ b n : Nat, (b = 0 ∨ b = 8 ∨ b = 16 ∨ b = 32) ∧ n ≤ 40 ∧ rd μx (97 + 2 * s) 1 = nI b ∧ rd μm 116 s = nI b ∧ rd μx (97 + 2 * s) 2 = nI n ∧ rd μm 117 s = nI n ∧ (b = 0 → n = 0) ∧ ∀ i, i < 40 → ∃ v, rd μx (98 + 2 * s) i = lwb b v ∧ rd μm 118 (40 * s + i) = sxb b v
def RTr (μx μm : Mem) : Prop := ∃ n : Nat, n ≤ 40 ∧ rd μx 92 1 = nI n ∧ rd μm 105 20 = nI n ∧ ∀ i, i < n → rd μx 93 i = rd μm 115 i
def RRe (μx μm : Mem) : Prop := ∀ k, k < 6 → rd μx 96 k = rd μm 109 k
def RIm (μx μm : Mem) : Prop := rd μx 0 9 = rd μm 105 3 ∧ (rd μx 0 9 ≠ 0 → RW μx 35 μm 107)
def R2 (μx μm : Mem) : Prop := RW μx 1 μm 106 ∧ RIm μx μm ∧ RRe μx μm ∧ RTr μx μm ∧ RSh μx μm ∧ rd μm 105 12 = -1 ∧ rd μx 8 2 = 0 ∧ rd μx 11 2 = -999
def Rel (μ : Mem) : Prop := R2 μ μ
