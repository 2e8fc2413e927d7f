def f_X0_copyFrom (μ : Mem) (k0 : Nat) (k1 : Nat) : Option (Mem) :=
  if cb (0 : Int32) (0 : Int32) (8 : Int32) (ln (rf k1 0)) (ln (rf k0 0)) then
    (some (cpy μ (rf k1 0) (0 : Int32).toNatClampNeg (rf k0 0) (0 : Int32).toNatClampNeg (8 : Int32).toNatClampNeg)).bind fun m12 =>
      if cb (0 : Int32) (0 : Int32) (8 : Int32) (ln (rf k1 1)) (ln (rf k0 1)) then
        (some (cpy m12 (rf k1 1) (0 : Int32).toNatClampNeg (rf k0 1) (0 : Int32).toNatClampNeg (8 : Int32).toNatClampNeg)).bind fun m27 =>
          (some (wr m27 k0 2 (rd m27 k1 2))).bind fun m35 =>
            (some (wr m35 k0 3 (rd m35 k1 3))).bind fun m43 =>
              (some (wr m43 k0 4 (rd m43 k1 4))).bind fun m51 =>
                (some (wr m51 k0 5 (rd m51 k1 5))).bind fun m59 =>
                  (some (wr m59 k0 6 (rd m59 k1 6))).bind fun m67 =>
                    if bz (rd m67 k1 7) then
                      (some (wr m67 k0 7 (rd m67 k1 7))).bind fun m75 =>
                        some m75
                    else none
      else none
  else none
def f_X0_is_j30 (μ : Mem) (k0 : Nat) (a1 : Int32) (v2_30 : Int32) : Option (Int32) :=
  if ¬ v2_30 = a1 then
    some (0 : Int32)
  else
    some (1 : Int32)
def f_X0_is_l7 (μ : Mem) (k0 : Nat) (a1 : Int32) (v2_7 : Int32) (v3_7 : Int32) : Option ((Int32 × Int32) ⊕ (Int32)) :=
  if (7 : Int32) ≤ v3_7 then
    some (.inr v2_7)
  else
    if v2_7 ≤ a1 then
      some (.inr v2_7)
    else
      if ib v2_7 7 then
        some (.inl (st 0 v2_7.toNatClampNeg, v3_7 + 1))
      else none
def f_X0_is (μ : Mem) (k0 : Nat) (a1 : Int32) : Option (Int32) :=
  (lp (fun s => f_X0_is_l7 μ k0 a1 s.1 s.2) FU (rd μ k0 4, (0 : Int32))).bind fun e7 =>
    f_X0_is_j30 μ k0 a1 e7
def f_X0_due (μ : Mem) (k0 : Nat) : Option (Int32) :=
  if (rd μ k0 4) = 3 then
    some (2 : Int32)
  else
    if (rd μ k0 4) = 4 then
      some ((1 : Int32) + (jrem (rd μ k0 5) (2 : Int32)))
    else
      if (rd μ k0 4) = 5 then
        some (1 : Int32)
      else
        if (rd μ k0 4) = 6 then
          some ((2 : Int32) - (jrem (rd μ k0 5) (2 : Int32)))
        else
          some (1 : Int32)
def f_X0_owe (μ : Mem) (k0 : Nat) (a1 : Int32) : Option (Mem) :=
  (some (wr μ k0 6 (jmin (9999 : Int32) ((rd μ k0 6) + a1)))).bind fun m13 =>
    some m13
def f_X0_letOff (μ : Mem) (k0 : Nat) : Option (Mem) :=
  (some (wr μ k0 6 (0 : Int32))).bind fun m2 =>
    (some (wr m2 k0 2 (0 : Int32))).bind fun m7 =>
      (some (wr m7 k0 3 (0 : Int32))).bind fun m12 =>
        (some (wr m12 k0 7 (0 : Int32))).bind fun m17 =>
          some m17
def f_X0_keep (μ : Mem) (k0 : Nat) (a1 : Int32) (a2 : Int32) : Option (Mem) :=
  if (8 : Int32) ≤ (rd μ k0 3) then
    some μ
  else
    if a1 < 0 then
      some μ
    else
      if (8 : Int32) ≤ a1 then
        some μ
      else
        if ib (rd μ k0 3) 8 then
          (some (wr μ (rf k0 0) (rd μ k0 3).toNatClampNeg a1)).bind fun m28 =>
            if ib a1 8 then
              (some (wr m28 (rf k0 1) a1.toNatClampNeg a2)).bind fun m35 =>
                (some (wr m35 k0 2 ((rd m35 k0 2) ||| (jshl (1 : Int32) a1)))).bind fun m45 =>
                  (some (wr m45 k0 3 ((rd m45 k0 3) + (1 : Int32)))).bind fun m55 =>
                    some m55
            else none
        else none
def f_X0_alikeFrom_l2 (μ : Mem) (k0 : Nat) (a1 : Int32) (k2 : Nat) (v3_2 : Int32) : Option ((Int32) ⊕ (Int32)) :=
  if (rd μ k2 2) ≤ v3_2 then
    some (.inr v3_2)
  else
    if (rd μ k0 3) ≤ (a1 + v3_2) then
      some (.inr v3_2)
    else
      if ib (a1 + v3_2) 8 then
        if ib v3_2 40 then
          if ¬ (rd μ (rf k0 0) (a1 + v3_2).toNatClampNeg) = (rd μ (rf k2 0) v3_2.toNatClampNeg) then
            some (.inr v3_2)
          else
            some (.inl (v3_2 + 1))
        else none
      else none
def f_X0_alikeFrom (μ : Mem) (k0 : Nat) (a1 : Int32) (k2 : Nat) : Option (Int32) :=
  (lp (fun s => f_X0_alikeFrom_l2 μ k0 a1 k2 s) FU (0 : Int32)).bind fun e2 =>
    some e2
def f_X1_add (μ : Mem) (k0 : Nat) (a1 : Int32) (a2 : Int32) : Option (Int32 × Mem) :=
  if (8 : Int32) ≤ (rd μ k0 5) then
    some (rd μ k0 5, μ)
  else
    if ib (rd μ k0 5) 8 then
      (some (wr μ (rf k0 0) (rd μ k0 5).toNatClampNeg a1)).bind fun m17 =>
        if ib (rd μ k0 5) 8 then
          (some (wr m17 (rf k0 1) (rd μ k0 5).toNatClampNeg (0 : Int32))).bind fun m24 =>
            if ib (rd μ k0 5) 8 then
              (some (wr m24 (rf k0 2) (rd μ k0 5).toNatClampNeg (0 : Int32))).bind fun m31 =>
                if ib (rd μ k0 5) 8 then
                  (some (wr m31 (rf k0 3) (rd μ k0 5).toNatClampNeg (-1 : Int32))).bind fun m38 =>
                    if ib (rd μ k0 5) 8 then
                      (some (wr m38 (rf k0 4) (rd μ k0 5).toNatClampNeg a2)).bind fun m45 =>
                        (some (wr m45 k0 5 ((rd m45 k0 5) + (1 : Int32)))).bind fun m53 =>
                          some (rd μ k0 5, m53)
                    else none
                else none
            else none
        else none
    else none
def f_X1_copyFrom (μ : Mem) (k0 : Nat) (k1 : Nat) : Option (Mem) :=
  if cb (0 : Int32) (0 : Int32) (8 : Int32) (ln (rf k1 0)) (ln (rf k0 0)) then
    (some (cpy μ (rf k1 0) (0 : Int32).toNatClampNeg (rf k0 0) (0 : Int32).toNatClampNeg (8 : Int32).toNatClampNeg)).bind fun m12 =>
      if cb (0 : Int32) (0 : Int32) (8 : Int32) (ln (rf k1 1)) (ln (rf k0 1)) then
        (some (cpy m12 (rf k1 1) (0 : Int32).toNatClampNeg (rf k0 1) (0 : Int32).toNatClampNeg (8 : Int32).toNatClampNeg)).bind fun m27 =>
          if cb (0 : Int32) (0 : Int32) (8 : Int32) (ln (rf k1 2)) (ln (rf k0 2)) then
            (some (cpy m27 (rf k1 2) (0 : Int32).toNatClampNeg (rf k0 2) (0 : Int32).toNatClampNeg (8 : Int32).toNatClampNeg)).bind fun m42 =>
              if cb (0 : Int32) (0 : Int32) (8 : Int32) (ln (rf k1 3)) (ln (rf k0 3)) then
                (some (cpy m42 (rf k1 3) (0 : Int32).toNatClampNeg (rf k0 3) (0 : Int32).toNatClampNeg (8 : Int32).toNatClampNeg)).bind fun m57 =>
                  if cb (0 : Int32) (0 : Int32) (8 : Int32) (ln (rf k1 4)) (ln (rf k0 4)) then
                    (some (cpy m57 (rf k1 4) (0 : Int32).toNatClampNeg (rf k0 4) (0 : Int32).toNatClampNeg (8 : Int32).toNatClampNeg)).bind fun m72 =>
                      (some (wr m72 k0 5 (rd m72 k1 5))).bind fun m80 =>
                        some m80
                  else none
              else none
          else none
      else none
  else none
def f_X1_setClash (μ : Mem) (k0 : Nat) (a1 : Int32) (a2 : Int32) (a3 : Int32) : Option (Mem) :=
  if ib a1 8 then
    if ib a1 8 then
      (some (wr μ (rf k0 1) a1.toNatClampNeg (((rd μ (rf k0 1) a1.toNatClampNeg) &&& ((jshl (1 : Int32) a2) ^^^ (-1 : Int32))) ||| (jshl a3 a2)))).bind fun m21 =>
        if ib a2 8 then
          if ib a2 8 then
            (some (wr m21 (rf k0 1) a2.toNatClampNeg (((rd m21 (rf k0 1) a2.toNatClampNeg) &&& ((jshl (1 : Int32) a1) ^^^ (-1 : Int32))) ||| (jshl a3 a1)))).bind fun m43 =>
              some m43
          else none
        else none
    else none
  else none
def f_J6_numberOfTrailingZeros_0f7a4_j62 (v0_62 : Int32) (v1_62 : Int32) : Option (Int32) :=
  if v0_62 ≤ (4 : Int32) then
    some (v1_62 + (jushr v0_62 (1 : Int32)))
  else
    some ((v1_62 + 2) + (jushr (jushr v0_62 (2 : Int32)) (1 : Int32)))
def f_J6_numberOfTrailingZeros_0f7a4_j49 (v0_49 : Int32) (v1_49 : Int32) : Option (Int32) :=
  if v0_49 ≤ (16 : Int32) then
    f_J6_numberOfTrailingZeros_0f7a4_j62 v0_49 v1_49
  else
    f_J6_numberOfTrailingZeros_0f7a4_j62 (jushr v0_49 (4 : Int32)) (v1_49 + 4)
def f_J6_numberOfTrailingZeros_0f7a4_j34 (v0_34 : Int32) (v1_34 : Int32) : Option (Int32) :=
  if v0_34 ≤ (256 : Int32) then
    f_J6_numberOfTrailingZeros_0f7a4_j49 v0_34 v1_34
  else
    f_J6_numberOfTrailingZeros_0f7a4_j49 (jushr v0_34 (8 : Int32)) (v1_34 + 8)
def f_J6_numberOfTrailingZeros_0f7a4 (a0 : Int32) : Option (Int32) :=
  if 0 < ((a0 ^^^ (-1 : Int32)) &&& (a0 - (1 : Int32))) then
    if ((a0 ^^^ (-1 : Int32)) &&& (a0 - (1 : Int32))) ≤ (65536 : Int32) then
      f_J6_numberOfTrailingZeros_0f7a4_j34 ((a0 ^^^ (-1 : Int32)) &&& (a0 - (1 : Int32))) (1 : Int32)
    else
      f_J6_numberOfTrailingZeros_0f7a4_j34 (jushr ((a0 ^^^ (-1 : Int32)) &&& (a0 - (1 : Int32))) (16 : Int32)) ((1 : Int32) + 16)
  else
    some (((a0 ^^^ (-1 : Int32)) &&& (a0 - (1 : Int32))) &&& (32 : Int32))
def f_X1_firstClash_l2 (μ : Mem) (k0 : Nat) (a1 : Int32) (v2_2 : Int32) : Option ((Int32) ⊕ ((Int32 × Int32) ⊕ Unit)) :=
  if (rd μ k0 5) ≤ v2_2 then
    some (.inr (.inr ()))
  else
    if ib v2_2 8 then
      if ¬ ((jshr a1 v2_2) &&& (1 : Int32)) = (1 : Int32) then
        some (.inl (v2_2 + 1))
      else
        if (((rd μ (rf k0 1) v2_2.toNatClampNeg) &&& a1) &&& (jshl (-2 : Int32) v2_2)) = 0 then
          some (.inl (v2_2 + 1))
        else
          some (.inr (.inl (v2_2, ((rd μ (rf k0 1) v2_2.toNatClampNeg) &&& a1) &&& (jshl (-2 : Int32) v2_2))))
    else none
def f_X1_firstClash (μ : Mem) (k0 : Nat) (a1 : Int32) : Option (Int32) :=
  (lp (fun s => f_X1_firstClash_l2 μ k0 a1 s) FU (0 : Int32)).bind fun e2 =>
    Sum.elim (fun e2 =>
      (f_J6_numberOfTrailingZeros_0f7a4 e2.2).bind fun r42 =>
        some (((10 : Int32) * e2.1) + r42)
    )
    (fun e2 =>
      some (-1 : Int32)
    ) e2
def f_X1_clashBetween_l2 (μ : Mem) (k0 : Nat) (a1 : Int32) (a2 : Int32) (v3_2 : Int32) : Option ((Int32) ⊕ (Unit ⊕ Unit)) :=
  if (rd μ k0 5) ≤ v3_2 then
    some (.inr (.inr ()))
  else
    if ¬ ((jshr a1 v3_2) &&& (1 : Int32)) = (1 : Int32) then
      some (.inl (v3_2 + 1))
    else
      if ib v3_2 8 then
        if ((rd μ (rf k0 1) v3_2.toNatClampNeg) &&& a2) = 0 then
          some (.inl (v3_2 + 1))
        else
          some (.inr (.inl ()))
      else none
def f_X1_clashBetween (μ : Mem) (k0 : Nat) (a1 : Int32) (a2 : Int32) : Option (Int32) :=
  (lp (fun s => f_X1_clashBetween_l2 μ k0 a1 a2 s) FU (0 : Int32)).bind fun e2 =>
    Sum.elim (fun e2 =>
      some (1 : Int32)
    )
    (fun e2 =>
      some (0 : Int32)
    ) e2
def f_J6_bitCount_0f7a4 (a0 : Int32) : Option (Int32) :=
  some ((((((((a0 - ((jushr a0 (1 : Int32)) &&& (1431655765 : Int32))) &&& (858993459 : Int32)) + ((jushr (a0 - ((jushr a0 (1 : Int32)) &&& (1431655765 : Int32))) (2 : Int32)) &&& (858993459 : Int32))) + (jushr (((a0 - ((jushr a0 (1 : Int32)) &&& (1431655765 : Int32))) &&& (858993459 : Int32)) + ((jushr (a0 - ((jushr a0 (1 : Int32)) &&& (1431655765 : Int32))) (2 : Int32)) &&& (858993459 : Int32))) (4 : Int32))) &&& (252645135 : Int32)) + (jushr (((((a0 - ((jushr a0 (1 : Int32)) &&& (1431655765 : Int32))) &&& (858993459 : Int32)) + ((jushr (a0 - ((jushr a0 (1 : Int32)) &&& (1431655765 : Int32))) (2 : Int32)) &&& (858993459 : Int32))) + (jushr (((a0 - ((jushr a0 (1 : Int32)) &&& (1431655765 : Int32))) &&& (858993459 : Int32)) + ((jushr (a0 - ((jushr a0 (1 : Int32)) &&& (1431655765 : Int32))) (2 : Int32)) &&& (858993459 : Int32))) (4 : Int32))) &&& (252645135 : Int32)) (8 : Int32))) + (jushr ((((((a0 - ((jushr a0 (1 : Int32)) &&& (1431655765 : Int32))) &&& (858993459 : Int32)) + ((jushr (a0 - ((jushr a0 (1 : Int32)) &&& (1431655765 : Int32))) (2 : Int32)) &&& (858993459 : Int32))) + (jushr (((a0 - ((jushr a0 (1 : Int32)) &&& (1431655765 : Int32))) &&& (858993459 : Int32)) + ((jushr (a0 - ((jushr a0 (1 : Int32)) &&& (1431655765 : Int32))) (2 : Int32)) &&& (858993459 : Int32))) (4 : Int32))) &&& (252645135 : Int32)) + (jushr (((((a0 - ((jushr a0 (1 : Int32)) &&& (1431655765 : Int32))) &&& (858993459 : Int32)) + ((jushr (a0 - ((jushr a0 (1 : Int32)) &&& (1431655765 : Int32))) (2 : Int32)) &&& (858993459 : Int32))) + (jushr (((a0 - ((jushr a0 (1 : Int32)) &&& (1431655765 : Int32))) &&& (858993459 : Int32)) + ((jushr (a0 - ((jushr a0 (1 : Int32)) &&& (1431655765 : Int32))) (2 : Int32)) &&& (858993459 : Int32))) (4 : Int32))) &&& (252645135 : Int32)) (8 : Int32))) (16 : Int32))) &&& (63 : Int32))
def f_X1_allows (a0 : Int32) (a1 : Int32) (a2 : Int32) (a3 : Int32) (a4 : Int32) (a5 : Int32) : Option (Int32) :=
  if a0 = 1 then
    if a4 = 0 then
      some (0 : Int32)
    else
      if a3 = 0 then
        some (1 : Int32)
      else
        if a5 = 0 then
          some (0 : Int32)
        else
          some (1 : Int32)
  else
    if a0 = 2 then
      if a4 = 0 then
        some (0 : Int32)
      else
        if (jrem a1 (3 : Int32)) < a3 then
          some (0 : Int32)
        else
          some (1 : Int32)
    else
      if a0 = 3 then
        if ¬ a3 = 0 then
          some (0 : Int32)
        else
          some (1 : Int32)
      else
        if a0 = 4 then
          if a4 = 0 then
            some (0 : Int32)
          else
            if a3 = 0 then
              some (1 : Int32)
            else
              if a5 = 0 then
                some (0 : Int32)
              else
                some (1 : Int32)
        else
          if a0 = 5 then
            if a4 = 0 then
              some (0 : Int32)
            else
              if (jrem a1 (3 : Int32)) < a3 then
                some (0 : Int32)
              else
                if a2 = a1 then
                  some (0 : Int32)
                else
                  some (1 : Int32)
          else
            if a0 = 6 then
              if ¬ a3 = 0 then
                some (0 : Int32)
              else
                if ¬ a4 = 0 then
                  some (1 : Int32)
                else
                  if ¬ (jrem a1 (2 : Int32)) = (1 : Int32) then
                    some (0 : Int32)
                  else
                    some (1 : Int32)
            else
              if a4 = 0 then
                some (0 : Int32)
              else
                if ¬ a3 = 0 then
                  some (0 : Int32)
                else
                  some (1 : Int32)
def f_X1_mayTell_j66 (μ : Mem) (k0 : Nat) (a1 : Int32) (a2 : Int32) (a3 : Int32) (a4 : Int32) (v5_66 : Int32) (v6_66 : Int32) (v7_66 : Int32) (v8_66 : Int32) (vt0_66 : Int32) : Option ((Int32 × Int32) ⊕ (Int32)) :=
  if ib v6_66 8 then
    (f_J6_bitCount_0f7a4 ((rd μ (rf k0 0) v6_66.toNatClampNeg) &&& (a3 ^^^ (-1 : Int32)))).bind fun r79 =>
      if v7_66 = 0 then
        some (.inl (v5_66, v6_66 + 1))
      else
        (f_X1_allows a1 a2 v6_66 r79 vt0_66 v8_66).bind fun r99 =>
          if r99 = 0 then
            some (.inl (v5_66, v6_66 + 1))
          else
            some (.inl (v5_66 ||| (jshl (1 : Int32) v6_66), v6_66 + 1))
  else none
def f_X1_mayTell_j47 (μ : Mem) (k0 : Nat) (a1 : Int32) (a2 : Int32) (a3 : Int32) (a4 : Int32) (v5_47 : Int32) (v6_47 : Int32) (v7_47 : Int32) (vt0_47 : Int32) : Option ((Int32 × Int32) ⊕ (Int32)) :=
  if ib v6_47 8 then
    if ¬ ((rd μ (rf k0 1) v6_47.toNatClampNeg) &&& a3) = 0 then
      f_X1_mayTell_j66 μ k0 a1 a2 a3 a4 v5_47 v6_47 v7_47 vt0_47 (0 : Int32)
    else
      f_X1_mayTell_j66 μ k0 a1 a2 a3 a4 v5_47 v6_47 v7_47 vt0_47 (1 : Int32)
  else none
def f_X1_mayTell_j29 (μ : Mem) (k0 : Nat) (a1 : Int32) (a2 : Int32) (a3 : Int32) (a4 : Int32) (v5_29 : Int32) (v6_29 : Int32) (vt0_29 : Int32) : Option ((Int32 × Int32) ⊕ (Int32)) :=
  if ¬ ((jshr a4 v6_29) &&& (1 : Int32)) = (1 : Int32) then
    f_X1_mayTell_j47 μ k0 a1 a2 a3 a4 v5_29 v6_29 vt0_29 (0 : Int32)
  else
    f_X1_mayTell_j47 μ k0 a1 a2 a3 a4 v5_29 v6_29 vt0_29 (1 : Int32)
def f_X1_mayTell_l6 (μ : Mem) (k0 : Nat) (a1 : Int32) (a2 : Int32) (a3 : Int32) (a4 : Int32) (v5_6 : Int32) (v6_6 : Int32) : Option ((Int32 × Int32) ⊕ (Int32)) :=
  if (rd μ k0 5) ≤ v6_6 then
    some (.inr v5_6)
  else
    if ¬ ((jshr a3 v6_6) &&& (1 : Int32)) = 0 then
      f_X1_mayTell_j29 μ k0 a1 a2 a3 a4 v5_6 v6_6 (0 : Int32)
    else
      f_X1_mayTell_j29 μ k0 a1 a2 a3 a4 v5_6 v6_6 (1 : Int32)
def f_X1_mayTell (μ : Mem) (k0 : Nat) (a1 : Int32) (a2 : Int32) (a3 : Int32) (a4 : Int32) : Option (Int32) :=
  (lp (fun s => f_X1_mayTell_l6 μ k0 a1 a2 a3 a4 s.1 s.2) FU ((0 : Int32), (0 : Int32))).bind fun e6 =>
    some e6
def f_X1_isOpen (μ : Mem) (k0 : Nat) (a1 : Int32) (a2 : Int32) : Option (Int32) :=
  if ¬ ((jshr a2 a1) &&& (1 : Int32)) = (1 : Int32) then
    some (0 : Int32)
  else
    if ib a1 8 then
      if (rd μ (rf k0 2) a1.toNatClampNeg) ≤ 0 then
        some (0 : Int32)
      else
        if ib a1 8 then
          if ¬ ((jshr a2 (rd μ (rf k0 3) a1.toNatClampNeg)) &&& (1 : Int32)) = 0 then
            some (0 : Int32)
          else
            some (1 : Int32)
        else none
    else none
def f_X1_openIn_l4 (μ : Mem) (k0 : Nat) (a1 : Int32) (v2_4 : Int32) (v3_4 : Int32) : Option ((Int32 × Int32) ⊕ (Int32)) :=
  if (rd μ k0 5) ≤ v3_4 then
    some (.inr v2_4)
  else
    (f_X1_isOpen μ k0 v3_4 a1).bind fun r15 =>
      if r15 = 0 then
        some (.inl (v2_4, v3_4 + 1))
      else
        some (.inl (v2_4 ||| (jshl (1 : Int32) v3_4), v3_4 + 1))
def f_X1_openIn (μ : Mem) (k0 : Nat) (a1 : Int32) : Option (Int32) :=
  (lp (fun s => f_X1_openIn_l4 μ k0 a1 s.1 s.2) FU ((0 : Int32), (0 : Int32))).bind fun e4 =>
    some e4
def f_X1_anyOverdue_l3 (μ : Mem) (k0 : Nat) (a1 : Int32) (k2 : Nat) (a3 : Int32) (v4_3 : Int32) : Option ((Int32) ⊕ (Unit ⊕ Unit)) :=
  if (rd μ k0 5) ≤ v4_3 then
    some (.inr (.inr ()))
  else
    (f_X1_isOpen μ k0 v4_3 a1).bind fun r16 =>
      if r16 = 0 then
        some (.inl (v4_3 + 1))
      else
        if ib v4_3 (ln k2) then
          if ib v4_3 8 then
            if a3 < ((rd μ k2 v4_3.toNatClampNeg) + (rd μ (rf k0 2) v4_3.toNatClampNeg)) then
              some (.inl (v4_3 + 1))
            else
              some (.inr (.inl ()))
          else none
        else none
def f_X1_anyOverdue (μ : Mem) (k0 : Nat) (a1 : Int32) (k2 : Nat) (a3 : Int32) : Option (Int32) :=
  (lp (fun s => f_X1_anyOverdue_l3 μ k0 a1 k2 a3 s) FU (0 : Int32)).bind fun e3 =>
    Sum.elim (fun e3 =>
      some (1 : Int32)
    )
    (fun e3 =>
      some (0 : Int32)
    ) e3
def f_X2_take (μ : Mem) (k0 : Nat) (k1 : Nat) (a2 : Int32) : Option (Mem) :=
  (some (wr μ k0 3 (jmax (0 : Int32) (jmin a2 (50 : Int32))))).bind fun m11 =>
    if cb (0 : Int32) (0 : Int32) (rd m11 k0 3) (ln k1) (ln (rf k0 0)) then
      (some (cpy m11 k1 (0 : Int32).toNatClampNeg (rf k0 0) (0 : Int32).toNatClampNeg (rd m11 k0 3).toNatClampNeg)).bind fun m25 =>
        some m25
    else none
def f_X2_joins (a0 : Int32) (a1 : Int32) (a2 : Int32) : Option (Int32) :=
  if a0 = 37 then
    if ¬ a2 = 0 then
      if ¬ a2 = 0 then
        some (jrem a1 a2)
      else none
    else
      some (0 : Int32)
  else
    if a0 = 38 then
      if a1 = 0 then
        some (0 : Int32)
      else
        if a2 = 0 then
          some (0 : Int32)
        else
          some (1 : Int32)
    else
      if a0 = 42 then
        some (a1 * a2)
      else
        if a0 = 43 then
          some (a1 + a2)
        else
          if a0 = 45 then
            some (a1 - a2)
          else
            if a0 = 47 then
              if ¬ a2 = 0 then
                if ¬ a2 = 0 then
                  some (a1 / a2)
                else none
              else
                some (0 : Int32)
            else
              if a0 = 60 then
                if a2 ≤ a1 then
                  some (0 : Int32)
                else
                  some (1 : Int32)
              else
                if a0 = 61 then
                  if ¬ a1 = a2 then
                    some (0 : Int32)
                  else
                    some (1 : Int32)
                else
                  if a0 = 62 then
                    if a1 ≤ a2 then
                      some (0 : Int32)
                    else
                      some (1 : Int32)
                  else
                    if a0 = 124 then
                      if ¬ a1 = 0 then
                        some (1 : Int32)
                      else
                        if a2 = 0 then
                          some (0 : Int32)
                        else
                          some (1 : Int32)
                    else
                      some (0 : Int32)
def f_X2_gives_j192 (μ_192 : Mem) (k0 : Nat) (a1 : Int32) (a2 : Int32) (a3 : Int32) (vt0_192 : Int32) : Option (Int32 × Mem) :=
  some (jmax (rd μ_192 k0 2) (jmin vt0_192 (999 : Int32)), μ_192)
def f_X2_gives_j177 (μ_177 : Mem) (k0 : Nat) (a1 : Int32) (a2 : Int32) (a3 : Int32) (v4_177 : Int32) : Option (Int32 × Mem) :=
  if v4_177 ≤ 0 then
    f_X2_gives_j192 μ_177 k0 a1 a2 a3 (0 : Int32)
  else
    f_X2_gives_j192 μ_177 k0 a1 a2 a3 (rd μ_177 (rf k0 1) (0 : Int32).toNatClampNeg)
def f_X2_gives_j127 (μ_127 : Mem) (k0 : Nat) (a1 : Int32) (a2 : Int32) (a3 : Int32) (v4_127 : Int32) (v5_127 : Int32) (kt0_127 : Nat) (vt1_127 : Int32) (vt2_127 : Int32) : Option ((Int32 × Int32 × Mem) ⊕ (Int32 × Mem)) :=
  if ib vt1_127 (ln kt0_127) then
    (some (wr μ_127 kt0_127 vt1_127.toNatClampNeg vt2_127)).bind fun m127 =>
      some (.inl (v4_127, v5_127 + 1, m127))
  else none
def f_X2_gives_j83 (μ_83 : Mem) (k0 : Nat) (a1 : Int32) (a2 : Int32) (a3 : Int32) (v4_83 : Int32) (v5_83 : Int32) (kt0_83 : Nat) (vt1_83 : Int32) (vt2_83 : Int32) : Option ((Int32 × Int32 × Mem) ⊕ (Int32 × Mem)) :=
  if ib vt1_83 (ln kt0_83) then
    (some (wr μ_83 kt0_83 vt1_83.toNatClampNeg vt2_83)).bind fun m83 =>
      some (.inl (v4_83 + 1, v5_83 + 1, m83))
  else none
def f_X2_gives_l6 (k0 : Nat) (a1 : Int32) (a2 : Int32) (a3 : Int32) (v4_6 : Int32) (v5_6 : Int32) (μ_6 : Mem) : Option ((Int32 × Int32 × Mem) ⊕ (Int32 × Mem)) :=
  if (rd μ_6 k0 3) ≤ v5_6 then
    some (.inr (v4_6, μ_6))
  else
    if (50 : Int32) ≤ v5_6 then
      some (.inr (v4_6, μ_6))
    else
      if ib v5_6 50 then
        if (rd μ_6 (rf k0 0) v5_6.toNatClampNeg) < (-3 : Int32) then
          if ¬ (rd μ_6 (rf k0 0) v5_6.toNatClampNeg) = (-33 : Int32) then
            if v4_6 ≤ (1 : Int32) then
              some (.inl (v4_6, v5_6 + 1, μ_6))
            else
              if ib ((v4_6 + (-1 : Int32)) - (1 : Int32)) 50 then
                if ib (v4_6 + (-1 : Int32)) 50 then
                  (f_X2_joins (-(rd μ_6 (rf k0 0) v5_6.toNatClampNeg)) (rd μ_6 (rf k0 1) ((v4_6 + (-1 : Int32)) - (1 : Int32)).toNatClampNeg) (rd μ_6 (rf k0 1) (v4_6 + (-1 : Int32)).toNatClampNeg)).bind fun r167 =>
                    if ib ((v4_6 + (-1 : Int32)) - (1 : Int32)) 50 then
                      (some (wr μ_6 (rf k0 1) ((v4_6 + (-1 : Int32)) - (1 : Int32)).toNatClampNeg r167)).bind fun m170 =>
                        some (.inl (v4_6 + (-1 : Int32), v5_6 + 1, m170))
                    else none
                else none
              else none
          else
            if v4_6 ≤ 0 then
              some (.inl (v4_6, v5_6 + 1, μ_6))
            else
              if ib (v4_6 - (1 : Int32)) 50 then
                if ¬ (rd μ_6 (rf k0 1) (v4_6 - (1 : Int32)).toNatClampNeg) = 0 then
                  f_X2_gives_j127 μ_6 k0 a1 a2 a3 v4_6 v5_6 (rf k0 1) (v4_6 - (1 : Int32)) (0 : Int32)
                else
                  f_X2_gives_j127 μ_6 k0 a1 a2 a3 v4_6 v5_6 (rf k0 1) (v4_6 - (1 : Int32)) (1 : Int32)
              else none
        else
          if (50 : Int32) ≤ v4_6 then
            some (.inl (v4_6, v5_6 + 1, μ_6))
          else
            if (rd μ_6 (rf k0 0) v5_6.toNatClampNeg) < 0 then
              if ¬ (rd μ_6 (rf k0 0) v5_6.toNatClampNeg) = (-1 : Int32) then
                if ¬ (rd μ_6 (rf k0 0) v5_6.toNatClampNeg) = (-2 : Int32) then
                  f_X2_gives_j83 μ_6 k0 a1 a2 a3 v4_6 v5_6 (rf k0 1) v4_6 a3
                else
                  f_X2_gives_j83 μ_6 k0 a1 a2 a3 v4_6 v5_6 (rf k0 1) v4_6 a2
              else
                f_X2_gives_j83 μ_6 k0 a1 a2 a3 v4_6 v5_6 (rf k0 1) v4_6 a1
            else
              f_X2_gives_j83 μ_6 k0 a1 a2 a3 v4_6 v5_6 (rf k0 1) v4_6 (rd μ_6 (rf k0 0) v5_6.toNatClampNeg)
      else none
def f_X2_gives (μ : Mem) (k0 : Nat) (a1 : Int32) (a2 : Int32) (a3 : Int32) : Option (Int32 × Mem) :=
  (lp (fun s => f_X2_gives_l6 k0 a1 a2 a3 s.1 s.2.1 s.2.2) FU ((0 : Int32), (0 : Int32), μ)).bind fun e6 =>
    f_X2_gives_j177 e6.2 k0 a1 a2 a3 e6.1
def f_X3_add_j89 (μ_89 : Mem) (k0 : Nat) (a1 : Int32) (a2 : Int32) (a3 : Int32) (v4_89 : Int32) (v5_89 : Int32) : Option (Int32 × Mem) :=
  if ib v5_89 12 then
    (some (wr μ_89 (rf k0 0) v5_89.toNatClampNeg a1)).bind fun m96 =>
      if ib v5_89 12 then
        (some (wr m96 (rf k0 1) v5_89.toNatClampNeg a2)).bind fun m104 =>
          if ib v5_89 12 then
            (some (wr m104 (rf k0 2) v5_89.toNatClampNeg a3)).bind fun m112 =>
              (some (wr m112 k0 3 ((rd m112 k0 3) + (1 : Int32)))).bind fun m120 =>
                some (v4_89, m120)
          else none
      else none
  else none
def f_X3_add_l17 (k0 : Nat) (a1 : Int32) (a2 : Int32) (a3 : Int32) (v4_17 : Int32) (v5_17 : Int32) (μ_17 : Mem) : Option ((Int32 × Mem) ⊕ (Int32 × Mem)) :=
  if v5_17 ≤ 0 then
    some (.inr (v5_17, μ_17))
  else
    if ib (v5_17 - (1 : Int32)) 12 then
      if (rd μ_17 (rf k0 0) (v5_17 - (1 : Int32)).toNatClampNeg) ≤ a1 then
        some (.inr (v5_17, μ_17))
      else
        if ib (v5_17 - (1 : Int32)) 12 then
          if ib v5_17 12 then
            (some (wr μ_17 (rf k0 0) v5_17.toNatClampNeg (rd μ_17 (rf k0 0) (v5_17 - (1 : Int32)).toNatClampNeg))).bind fun m50 =>
              if ib (v5_17 - (1 : Int32)) 12 then
                if ib v5_17 12 then
                  (some (wr m50 (rf k0 1) v5_17.toNatClampNeg (rd m50 (rf k0 1) (v5_17 - (1 : Int32)).toNatClampNeg))).bind fun m66 =>
                    if ib (v5_17 - (1 : Int32)) 12 then
                      if ib v5_17 12 then
                        (some (wr m66 (rf k0 2) v5_17.toNatClampNeg (rd m66 (rf k0 2) (v5_17 - (1 : Int32)).toNatClampNeg))).bind fun m82 =>
                          some (.inl (v5_17 + (-1 : Int32), m82))
                      else none
                    else none
                else none
              else none
          else none
        else none
    else none
def f_X3_add (μ : Mem) (k0 : Nat) (a1 : Int32) (a2 : Int32) (a3 : Int32) : Option (Int32 × Mem) :=
  if (12 : Int32) ≤ (rd μ k0 3) then
    some (rd μ k0 3, μ)
  else
    (lp (fun s => f_X3_add_l17 k0 a1 a2 a3 (rd μ k0 3) s.1 s.2) FU (rd μ k0 3, μ)).bind fun e17 =>
      f_X3_add_j89 e17.2 k0 a1 a2 a3 (rd μ k0 3) e17.1
def f_X3_copyFrom (μ : Mem) (k0 : Nat) (k1 : Nat) : Option (Mem) :=
  if cb (0 : Int32) (0 : Int32) (12 : Int32) (ln (rf k1 0)) (ln (rf k0 0)) then
    (some (cpy μ (rf k1 0) (0 : Int32).toNatClampNeg (rf k0 0) (0 : Int32).toNatClampNeg (12 : Int32).toNatClampNeg)).bind fun m12 =>
      if cb (0 : Int32) (0 : Int32) (12 : Int32) (ln (rf k1 1)) (ln (rf k0 1)) then
        (some (cpy m12 (rf k1 1) (0 : Int32).toNatClampNeg (rf k0 1) (0 : Int32).toNatClampNeg (12 : Int32).toNatClampNeg)).bind fun m27 =>
          if cb (0 : Int32) (0 : Int32) (12 : Int32) (ln (rf k1 2)) (ln (rf k0 2)) then
            (some (cpy m27 (rf k1 2) (0 : Int32).toNatClampNeg (rf k0 2) (0 : Int32).toNatClampNeg (12 : Int32).toNatClampNeg)).bind fun m42 =>
              (some (wr m42 k0 3 (rd m42 k1 3))).bind fun m50 =>
                some m50
          else none
      else none
  else none
def f_X7_at (μ : Mem) (k0 : Nat) (a1 : Int32) : Option (Int32) :=
  if a1 < 0 then
    some (-1 : Int32)
  else
    if (rd μ k0 1) ≤ a1 then
      some (-1 : Int32)
    else
      if ib a1 50 then
        some (rd μ (rf k0 0) a1.toNatClampNeg)
      else none
def f_X4_isDigit (a0 : Int32) : Option (Int32) :=
  if a0 < (48 : Int32) then
    some (0 : Int32)
  else
    if (57 : Int32) < a0 then
      some (0 : Int32)
    else
      some (1 : Int32)
def f_X4_add (μ : Mem) (k0 : Nat) (a1 : Int32) : Option (Mem) :=
  if (50 : Int32) ≤ (rd μ k0 1) then
    some μ
  else
    if ib (rd μ k0 1) 50 then
      (some (wr μ (rf k0 0) (rd μ k0 1).toNatClampNeg a1)).bind fun m18 =>
        (some (wr m18 k0 1 ((rd m18 k0 1) + (1 : Int32)))).bind fun m26 =>
          some m26
    else none
def f_X4_readNumber_j62 (μ_62 : Mem) (k0 : Nat) (v1_62 : Int32) : Option (Mem) :=
  (f_X4_add μ_62 k0 v1_62).bind fun μ64 =>
    some μ64
def f_X4_readNumber_l4 (k0 : Nat) (v1_4 : Int32) (v2_4 : Int32) (μ_4 : Mem) : Option ((Int32 × Int32 × Mem) ⊕ (Int32 × Mem)) :=
  if (4 : Int32) ≤ v2_4 then
    some (.inr (v1_4, μ_4))
  else
    if isT 7 (rd μ_4 k0 2).toNatClampNeg then
      (f_X7_at μ_4 ((rd μ_4 k0 2).toNatClampNeg) (rd μ_4 k0 4)).bind fun r17 =>
        (f_X4_isDigit r17).bind fun r20 =>
          if r20 = 0 then
            some (.inr (v1_4, μ_4))
          else
            if isT 7 (rd μ_4 k0 2).toNatClampNeg then
              (f_X7_at μ_4 ((rd μ_4 k0 2).toNatClampNeg) (rd μ_4 k0 4)).bind fun r38 =>
                (some (wr μ_4 k0 4 ((rd μ_4 k0 4) + (1 : Int32)))).bind fun m53 =>
                  some (.inl ((((10 : Int32) * v1_4) + r38) - (48 : Int32), v2_4 + 1, m53))
            else none
    else none
def f_X4_readNumber (μ : Mem) (k0 : Nat) : Option (Mem) :=
  (lp (fun s => f_X4_readNumber_l4 k0 s.1 s.2.1 s.2.2) FU ((0 : Int32), (0 : Int32), μ)).bind fun e4 =>
    f_X4_readNumber_j62 e4.2 k0 e4.1
def f_X4_nameOf (μ : Mem) (k0 : Nat) (a1 : Int32) : Option (Int32) :=
  if a1 = 100 then
    if ¬ (rd μ k0 3) = 0 then
      some (-1 : Int32)
    else
      some (-3 : Int32)
  else
    if a1 = 102 then
      if ¬ (rd μ k0 3) = 0 then
        some (0 : Int32)
      else
        some (-1 : Int32)
    else
      if a1 = 110 then
        if ¬ (rd μ k0 3) = (1 : Int32) then
          some (0 : Int32)
        else
          some (-3 : Int32)
      else
        if a1 = 111 then
          if ¬ (rd μ k0 3) = (1 : Int32) then
            some (0 : Int32)
          else
            some (-2 : Int32)
        else
          if a1 = 119 then
            if ¬ (rd μ k0 3) = 0 then
              some (0 : Int32)
            else
              some (-2 : Int32)
          else
            some (0 : Int32)
def f_X4_readEnd_j23 (μ_23 : Mem) (k0 : Nat) : Option (Mem) :=
  (some (wr μ_23 k0 5 (1 : Int32))).bind fun m25 =>
    some m25
def f_X4_readEnd (μ : Mem) (k0 : Nat) : Option (Mem) :=
  if ¬ (rd μ k0 5) = 0 then
    f_X4_readEnd_j23 μ k0
  else
    if isT 7 (rd μ k0 2).toNatClampNeg then
      (f_X7_at μ ((rd μ k0 2).toNatClampNeg) (rd μ k0 4)).bind fun r15 =>
        if r15 = (41 : Int32) then
          (some (wr μ k0 4 ((rd μ k0 4) + (1 : Int32)))).bind fun m38 =>
            some m38
        else
          f_X4_readEnd_j23 μ k0
    else none
def f_X4_levelOf (a0 : Int32) : Option (Int32) :=
  if a0 = 37 then
    some (4 : Int32)
  else
    if a0 = 38 then
      some (1 : Int32)
    else
      if a0 = 42 then
        some (4 : Int32)
      else
        if a0 = 43 then
          some (3 : Int32)
        else
          if a0 = 45 then
            some (3 : Int32)
          else
            if a0 = 47 then
              some (4 : Int32)
            else
              if a0 = 60 then
                some (2 : Int32)
              else
                if a0 = 61 then
                  some (2 : Int32)
                else
                  if a0 = 62 then
                    some (2 : Int32)
                  else
                    if a0 = 124 then
                      some (0 : Int32)
                    else
                      some (-1 : Int32)
def F_X4_readLevel_l21 (g_X4_readLevel : Mem → Nat → Int32 → Int32 → Option Mem) (g_X4_readUnit : Mem → Nat → Int32 → Option Mem) (k0 : Nat) (a1 : Int32) (a2 : Int32) (v3_21 : Int32) (μ_21 : Mem) : Option ((Int32 × Mem) ⊕ ((Mem) ⊕ (Mem))) :=
  if (50 : Int32) ≤ v3_21 then
    some (.inr (.inr μ_21))
  else
    if ¬ (rd μ_21 k0 5) = 0 then
      some (.inr (.inr μ_21))
    else
      if isT 7 (rd μ_21 k0 2).toNatClampNeg then
        (f_X7_at μ_21 ((rd μ_21 k0 2).toNatClampNeg) (rd μ_21 k0 4)).bind fun r42 =>
          (f_X4_levelOf r42).bind fun r45 =>
            if ¬ r45 = a1 then
              some (.inr (.inr μ_21))
            else
              if isT 7 (rd μ_21 k0 2).toNatClampNeg then
                (f_X7_at μ_21 ((rd μ_21 k0 2).toNatClampNeg) (rd μ_21 k0 4)).bind fun r60 =>
                  (some (wr μ_21 k0 4 ((rd μ_21 k0 4) + (1 : Int32)))).bind fun m72 =>
                    (g_X4_readLevel m72 k0 (a1 + (1 : Int32)) a2).bind fun μ80 =>
                      (f_X4_add μ80 k0 (-r60)).bind fun μ87 =>
                        if ¬ a1 = (2 : Int32) then
                          some (.inl (v3_21 + 1, μ87))
                        else
                          some (.inr (.inl μ87))
              else none
      else none
def F_X4_readLevel (g_X4_readLevel : Mem → Nat → Int32 → Int32 → Option Mem) (g_X4_readUnit : Mem → Nat → Int32 → Option Mem) (μ : Mem) (k0 : Nat) (a1 : Int32) (a2 : Int32) : Option (Mem) :=
  if a1 ≤ (4 : Int32) then
    (g_X4_readLevel μ k0 (a1 + (1 : Int32)) a2).bind fun μ16 =>
      (lp (fun s => F_X4_readLevel_l21 g_X4_readLevel g_X4_readUnit k0 a1 a2 s.1 s.2) FU ((0 : Int32), μ16)).bind fun e21 =>
        Sum.elim (fun e21 =>
          some e21
        )
        (fun e21 =>
          some e21
        ) e21
  else
    (g_X4_readUnit μ k0 a2).bind fun μ7 =>
      some μ7
def F_X4_readUnit_j129 (g_X4_readLevel : Mem → Nat → Int32 → Int32 → Option Mem) (g_X4_readUnit : Mem → Nat → Int32 → Option Mem) (μ_129 : Mem) (k0 : Nat) (a1 : Int32) : Option (Mem) :=
  (some (wr μ_129 k0 5 (1 : Int32))).bind fun m131 =>
    some m131
def F_X4_readUnit_j93 (g_X4_readLevel : Mem → Nat → Int32 → Int32 → Option Mem) (g_X4_readUnit : Mem → Nat → Int32 → Option Mem) (μ_93 : Mem) (k0 : Nat) (a1 : Int32) (v2_93 : Int32) : Option (Mem) :=
  if ¬ v2_93 = (40 : Int32) then
    F_X4_readUnit_j129 g_X4_readLevel g_X4_readUnit μ_93 k0 a1
  else
    if (5 : Int32) ≤ a1 then
      F_X4_readUnit_j129 g_X4_readLevel g_X4_readUnit μ_93 k0 a1
    else
      (some (wr μ_93 k0 4 ((rd μ_93 k0 4) + (1 : Int32)))).bind fun m111 =>
        (g_X4_readLevel m111 k0 (0 : Int32) (a1 + (1 : Int32))).bind fun μ119 =>
          (f_X4_readEnd μ119 k0).bind fun μ123 =>
            some μ123
def F_X4_readUnit (g_X4_readLevel : Mem → Nat → Int32 → Int32 → Option Mem) (g_X4_readUnit : Mem → Nat → Int32 → Option Mem) (μ : Mem) (k0 : Nat) (a1 : Int32) : Option (Mem) :=
  if isT 7 (rd μ k0 2).toNatClampNeg then
    (f_X7_at μ ((rd μ k0 2).toNatClampNeg) (rd μ k0 4)).bind fun r8 =>
      (f_X4_isDigit r8).bind fun r13 =>
        if r13 = 0 then
          (f_X4_nameOf μ k0 r8).bind fun r28 =>
            if 0 ≤ r28 then
              if ¬ r8 = (33 : Int32) then
                F_X4_readUnit_j93 g_X4_readLevel g_X4_readUnit μ k0 a1 r8
              else
                if (5 : Int32) ≤ a1 then
                  F_X4_readUnit_j93 g_X4_readLevel g_X4_readUnit μ k0 a1 r8
                else
                  (some (wr μ k0 4 ((rd μ k0 4) + (1 : Int32)))).bind fun m74 =>
                    (g_X4_readUnit m74 k0 (a1 + (1 : Int32))).bind fun μ81 =>
                      (f_X4_add μ81 k0 (-r8)).bind fun μ87 =>
                        some μ87
            else
              (some (wr μ k0 4 ((rd μ k0 4) + (1 : Int32)))).bind fun m41 =>
                (f_X4_nameOf m41 k0 r8).bind fun r47 =>
                  (f_X4_add m41 k0 r47).bind fun μ50 =>
                    some μ50
        else
          (f_X4_readNumber μ k0).bind fun μ20 =>
            some μ20
  else none
def grp_X4_readLevel : Nat → (Mem → Nat → Int32 → Int32 → Option Mem) × (Mem → Nat → Int32 → Option Mem)
  | 0 => ((fun _ _ _ _ => none), (fun _ _ _ => none))
  | n + 1 => (F_X4_readLevel (grp_X4_readLevel n).1 (grp_X4_readLevel n).2, F_X4_readUnit (grp_X4_readLevel n).1 (grp_X4_readLevel n).2)
def f_X4_readLevel (n : Nat) : Mem → Nat → Int32 → Int32 → Option Mem := (grp_X4_readLevel n).1
def f_X4_readUnit (n : Nat) : Mem → Nat → Int32 → Option Mem := (grp_X4_readLevel n).2
def f_X4_readAll_j52 (μ_52 : Mem) (k0 : Nat) (k1 : Nat) (a2 : Int32) : Option (Int32 × Mem) :=
  some (rd μ_52 k0 4, μ_52)
def f_X4_readAll (μ : Mem) (k0 : Nat) (k1 : Nat) (a2 : Int32) : Option (Int32 × Mem) :=
  (some (wr μ k0 2 (nI k1))).bind fun m2 =>
    (some (wr m2 k0 3 a2)).bind fun m7 =>
      (some (wr m7 k0 1 (0 : Int32))).bind fun m12 =>
        (some (wr m12 k0 4 (0 : Int32))).bind fun m17 =>
          (some (wr m17 k0 5 (0 : Int32))).bind fun m22 =>
            (f_X4_readLevel 100 m22 k0 (0 : Int32) (0 : Int32)).bind fun μ28 =>
              if ¬ (rd μ28 k0 5) = 0 then
                f_X4_readAll_j52 μ28 k0 k1 a2
              else
                if isT 7 (rd μ28 k0 2).toNatClampNeg then
                  if (rd μ28 ((rd μ28 k0 2).toNatClampNeg) 1) ≤ (rd μ28 k0 4) then
                    some ((-1 : Int32), μ28)
                  else
                    f_X4_readAll_j52 μ28 k0 k1 a2
                else none
def f_J7_fill_d0a16_l6 (k0 : Nat) (a1 : Int64) (v4_6 : Int32) (v3_6 : Int32) (μ_6 : Mem) : Option ((Int32 × Mem) ⊕ (Mem)) :=
  if v4_6 ≤ v3_6 then
    some (.inr μ_6)
  else
    if ib v3_6 (ln k0) then
      (some (wl μ_6 k0 v3_6.toNatClampNeg a1)).bind fun m15 =>
        some (.inl (v3_6 + 1, m15))
    else none
def f_J7_fill_d0a16 (μ : Mem) (k0 : Nat) (a1 : Int64) : Option (Mem) :=
  (lp (fun s => f_J7_fill_d0a16_l6 k0 a1 (nI (ln k0)) s.1 s.2) FU ((0 : Int32), μ)).bind fun e6 =>
    some e6
def f_X5_isBetter_j22 (μ : Mem) (k0 : Nat) (a1 : Int32) (a2 : Int32) : Option (Int32) :=
  (f_X1_openIn μ (rf k0 2) a2).bind fun r27 =>
    if ¬ r27 = 0 then
      some (0 : Int32)
    else
      some (1 : Int32)
def f_X5_isBetter (μ : Mem) (k0 : Nat) (a1 : Int32) (a2 : Int32) : Option (Int32) :=
  if (rd μ k0 6) = 0 then
    if a1 ≤ (rd μ k0 1) then
      some (0 : Int32)
    else
      some (1 : Int32)
  else
    if (rd μ k0 1) < 0 then
      f_X5_isBetter_j22 μ k0 a1 a2
    else
      if (rd μ k0 1) ≤ a1 then
        some (0 : Int32)
      else
        f_X5_isBetter_j22 μ k0 a1 a2
def f_X5_isAsGoodAsCanBe (μ : Mem) (k0 : Nat) (a1 : Int32) : Option (Int32) :=
  if (rd μ k0 6) = 0 then
    if (rd μ k0 1) < (rd μ k0 11) then
      some (0 : Int32)
    else
      some (1 : Int32)
  else
    if (rd μ k0 1) < 0 then
      some (0 : Int32)
    else
      if (a1 + (1 : Int32)) < (rd μ k0 1) then
        some (0 : Int32)
      else
        some (1 : Int32)
def f_X5_lateness_l14 (μ : Mem) (k0 : Nat) (a1 : Int32) (v2_14 : Int32) (v3_14 : Int64) (v5_14 : Int32) : Option ((Int64 × Int32) ⊕ (Int64)) :=
  if (8 : Int32) ≤ v5_14 then
    some (.inr v3_14)
  else
    if ¬ ((jshr v2_14 v5_14) &&& (1 : Int32)) = (1 : Int32) then
      some (.inl (v3_14, v5_14 + 1))
    else
      if ib v5_14 8 then
        some (.inl (v3_14 ||| (jlshl ((jmax (0 : Int32) (((rd μ (rf k0 4) v5_14.toNatClampNeg) - (rd μ k0 10)) + (1 : Int32))).toInt64) ((4 : Int32) * v5_14)), v5_14 + 1))
      else none
def f_X5_lateness (μ : Mem) (k0 : Nat) (a1 : Int32) : Option (Int64) :=
  (f_X1_openIn μ (rf k0 2) a1).bind fun r5 =>
    (lp (fun s => f_X5_lateness_l14 μ k0 a1 r5 s.1 s.2) FU ((0 : Int64), (0 : Int32))).bind fun e14 =>
      some e14
def f_X5_isNoLater_l3 (a0 : Int64) (a2 : Int64) (v4_3 : Int32) : Option ((Int32) ⊕ (Unit ⊕ Unit)) :=
  if (8 : Int32) ≤ v4_3 then
    some (.inr (.inr ()))
  else
    if (lg_cmp ((jlshr a0 ((4 : Int32) * v4_3)) &&& (15 : Int64)) ((jlshr a2 ((4 : Int32) * v4_3)) &&& (15 : Int64))) ≤ 0 then
      some (.inl (v4_3 + 1))
    else
      some (.inr (.inl ()))
def f_X5_isNoLater (a0 : Int64) (a2 : Int64) : Option (Int32) :=
  (lp (fun s => f_X5_isNoLater_l3 a0 a2 s) FU (0 : Int32)).bind fun e3 =>
    Sum.elim (fun e3 =>
      some (0 : Int32)
    )
    (fun e3 =>
      some (1 : Int32)
    ) e3
def f_X5_wasSeen_j47 (μ_47 : Mem) (k0 : Nat) (a1 : Int32) (v2_47 : Int64) : Option (Int32 × Mem) :=
  if ib a1 256 then
    (some (wl μ_47 (rf k0 5) a1.toNatClampNeg v2_47)).bind fun m53 =>
      some ((0 : Int32), m53)
  else none
def f_X5_wasSeen (μ : Mem) (k0 : Nat) (a1 : Int32) : Option (Int32 × Mem) :=
  if a1 < 0 then
    some ((1 : Int32), μ)
  else
    if a1 < (256 : Int32) then
      (f_X5_lateness μ k0 a1).bind fun r15 =>
        if ib a1 256 then
          if (lg_cmp (rl μ (rf k0 5) a1.toNatClampNeg) (-1 : Int64)) = 0 then
            f_X5_wasSeen_j47 μ k0 a1 r15
          else
            if ib a1 256 then
              (f_X5_isNoLater r15 (rl μ (rf k0 5) a1.toNatClampNeg)).bind fun r39 =>
                if r39 = 0 then
                  f_X5_wasSeen_j47 μ k0 a1 r15
                else
                  some ((1 : Int32), μ)
            else none
        else none
    else
      some ((1 : Int32), μ)
def F_X5_goOn_l76 (g_X5_goOn : Mem → Nat → Int32 → Int32 → Option Mem) (k0 : Nat) (a1 : Int32) (a2 : Int32) (v3_76 : Int32) (v4_76 : Int32) (μ_76 : Mem) : Option ((Int32 × Mem) ⊕ (Mem)) :=
  if (8 : Int32) ≤ v4_76 then
    some (.inr μ_76)
  else
    if ¬ ((jshr v3_76 v4_76) &&& (1 : Int32)) = (1 : Int32) then
      some (.inl (v4_76 + 1, μ_76))
    else
      if ib a1 8 then
        (some (wr μ_76 (rf k0 3) a1.toNatClampNeg v4_76)).bind fun m100 =>
          if ib v4_76 8 then
            (some (wr m100 (rf k0 4) v4_76.toNatClampNeg ((rd m100 k0 10) + a1))).bind fun m113 =>
              (f_X1_anyOverdue m113 (rf k0 2) (a2 ||| (jshl (1 : Int32) v4_76)) (rf k0 4) ((rd m113 k0 10) + a1)).bind fun r138 =>
                if ¬ r138 = 0 then
                  some (.inl (v4_76 + 1, m113))
                else
                  (g_X5_goOn m113 k0 (a1 + (1 : Int32)) (a2 ||| (jshl (1 : Int32) v4_76))).bind fun μ150 =>
                    some (.inl (v4_76 + 1, μ150))
          else none
      else none
def F_X5_goOn_j29 (g_X5_goOn : Mem → Nat → Int32 → Int32 → Option Mem) (μ_29 : Mem) (k0 : Nat) (a1 : Int32) (a2 : Int32) : Option (Mem) :=
  if (8 : Int32) ≤ a1 then
    some μ_29
  else
    (f_X5_isAsGoodAsCanBe μ_29 k0 a1).bind fun r37 =>
      if ¬ r37 = 0 then
        some μ_29
      else
        (f_X5_wasSeen μ_29 k0 a2).bind fun p45 =>
          if p45.1 = 0 then
            (f_X1_mayTell p45.2 (rf k0 2) (rd p45.2 k0 7) (rd p45.2 k0 8) a2 (rd p45.2 k0 9)).bind fun r69 =>
              (lp (fun s => F_X5_goOn_l76 g_X5_goOn k0 a1 a2 r69 s.1 s.2) FU ((0 : Int32), p45.2)).bind fun e76 =>
                some e76
          else
            some p45.2
def F_X5_goOn (g_X5_goOn : Mem → Nat → Int32 → Int32 → Option Mem) (μ : Mem) (k0 : Nat) (a1 : Int32) (a2 : Int32) : Option (Mem) :=
  (f_X5_isBetter μ k0 a1 a2).bind fun r3 =>
    if r3 = 0 then
      F_X5_goOn_j29 g_X5_goOn μ k0 a1 a2
    else
      if cb (0 : Int32) (0 : Int32) (8 : Int32) (ln (rf k0 3)) (ln (rf k0 0)) then
        (some (cpy μ (rf k0 3) (0 : Int32).toNatClampNeg (rf k0 0) (0 : Int32).toNatClampNeg (8 : Int32).toNatClampNeg)).bind fun m21 =>
          (some (wr m21 k0 1 a1)).bind fun m26 =>
            F_X5_goOn_j29 g_X5_goOn m26 k0 a1 a2
      else none
def grp_X5_goOn : Nat → (Mem → Nat → Int32 → Int32 → Option Mem)
  | 0 => (fun _ _ _ _ => none)
  | n + 1 => F_X5_goOn (grp_X5_goOn n)
def f_X5_goOn (n : Nat) : Mem → Nat → Int32 → Int32 → Option Mem := (grp_X5_goOn n)
def f_X5_begin (μ : Mem) (k0 : Nat) (k1 : Nat) (a2 : Int32) (a3 : Int32) (a4 : Int32) : Option (Mem) :=
  (some (wr μ k0 7 (rd μ k1 4))).bind fun m5 =>
    (some (wr m5 k0 8 (rd m5 k1 5))).bind fun m13 =>
      (some (wr m13 k0 9 a2)).bind fun m18 =>
        (some (wr m18 k0 10 a3)).bind fun m23 =>
          if bz a4 then
            (some (wr m23 k0 6 a4)).bind fun m29 =>
              (some (wr m29 k0 11 ((rd m29 (rf k0 2) 5) - (rd m29 k1 3)))).bind fun m45 =>
                (some (wr m45 k0 1 (-1 : Int32))).bind fun m50 =>
                  if cb (0 : Int32) (0 : Int32) (8 : Int32) (ln (rf k1 1)) (ln (rf k0 4)) then
                    (some (cpy m50 (rf k1 1) (0 : Int32).toNatClampNeg (rf k0 4) (0 : Int32).toNatClampNeg (8 : Int32).toNatClampNeg)).bind fun m65 =>
                      (f_J7_fill_d0a16 m65 (rf k0 5) (-1 : Int64)).bind fun μ75 =>
                        (f_X5_goOn 100 μ75 k0 (0 : Int32) (rd μ75 k1 2)).bind fun μ84 =>
                          some μ84
                  else none
          else none
def f_X6_isMissing (μ : Mem) (k0 : Nat) : Option (Int32) :=
  if ¬ (rd μ k0 1) = 0 then
    some (0 : Int32)
  else
    some (1 : Int32)
def f_J7_fill_53178_l5 (k0 : Nat) (a1 : Int32) (v3_5 : Int32) (v2_5 : Int32) (μ_5 : Mem) : Option ((Int32 × Mem) ⊕ (Mem)) :=
  if v3_5 ≤ v2_5 then
    some (.inr μ_5)
  else
    if ib v2_5 (ln k0) then
      (some (wr μ_5 k0 v2_5.toNatClampNeg a1)).bind fun m13 =>
        some (.inl (v2_5 + 1, m13))
    else none
def f_J7_fill_53178 (μ : Mem) (k0 : Nat) (a1 : Int32) : Option (Mem) :=
  (lp (fun s => f_J7_fill_53178_l5 k0 a1 (nI (ln k0)) s.1 s.2) FU ((0 : Int32), μ)).bind fun e5 =>
    some e5
def f_X6_begin (μ : Mem) (k0 : Nat) (a1 : Int32) (a2 : Int32) : Option (Mem) :=
  (some (wr μ k0 1 a1)).bind fun m2 =>
    (some (wr m2 k0 2 (jmax (0 : Int32) (jmin a2 (40 : Int32))))).bind fun m16 =>
      (f_J7_fill_53178 m16 (rf k0 0) (0 : Int32)).bind fun μ24 =>
        some μ24
def f_X6_lowest (μ : Mem) (k0 : Nat) (a1 : Int32) : Option (Int32) :=
  if ¬ (rd μ k0 1) = (32 : Int32) then
    some (a1 &&& ((jshl (1 : Int32) (rd μ k0 1)) - (1 : Int32)))
  else
    some a1
def f_X6_holds (μ : Mem) (k0 : Nat) (a1 : Int32) (a2 : Int32) : Option (Int32) :=
  if a2 < 0 then
    some (0 : Int32)
  else
    if a1 < 0 then
      some (0 : Int32)
    else
      if (rd μ k0 2) < a2 then
        some (0 : Int32)
      else
        if ((rd μ k0 2) - a2) < a1 then
          some (0 : Int32)
        else
          some (1 : Int32)
def f_X7_add (μ : Mem) (k0 : Nat) (a1 : Int32) : Option (Mem) :=
  if (50 : Int32) ≤ (rd μ k0 1) then
    some μ
  else
    if ib (rd μ k0 1) 50 then
      (some (wr μ (rf k0 0) (rd μ k0 1).toNatClampNeg a1)).bind fun m18 =>
        (some (wr m18 k0 1 ((rd m18 k0 1) + (1 : Int32)))).bind fun m26 =>
          some m26
    else none
def f_X7_copyFrom (μ : Mem) (k0 : Nat) (k1 : Nat) : Option (Mem) :=
  if cb (0 : Int32) (0 : Int32) (50 : Int32) (ln (rf k1 0)) (ln (rf k0 0)) then
    (some (cpy μ (rf k1 0) (0 : Int32).toNatClampNeg (rf k0 0) (0 : Int32).toNatClampNeg (50 : Int32).toNatClampNeg)).bind fun m12 =>
      (some (wr m12 k0 1 (rd m12 k1 1))).bind fun m20 =>
        some m20
  else none
def f_X8_add (μ : Mem) (k0 : Nat) (a1 : Int32) (a2 : Int32) : Option (Int32 × Mem) :=
  if (4 : Int32) ≤ (rd μ k0 3) then
    some (rd μ k0 3, μ)
  else
    if ib (rd μ k0 3) 4 then
      (f_X0_letOff μ (rf (rf k0 0) (rd μ k0 3).toNatClampNeg)).bind fun μ16 =>
        if ib (rd μ k0 3) 4 then
          (some (wr μ16 (rf (rf k0 0) (rd μ k0 3).toNatClampNeg) 4 (a1 / (10 : Int32)))).bind fun m29 =>
            if ib (rd μ k0 3) 4 then
              (some (wr m29 (rf (rf k0 0) (rd μ k0 3).toNatClampNeg) 5 (jrem a1 (10 : Int32)))).bind fun m42 =>
                if ib (rd μ k0 3) 4 then
                  (some (wr m42 (rf (rf k0 0) (rd μ k0 3).toNatClampNeg) 6 a2)).bind fun m52 =>
                    (some (wr m52 k0 3 ((rd m52 k0 3) + (1 : Int32)))).bind fun m62 =>
                      some (rd μ k0 3, m62)
                else none
            else none
        else none
    else none
def f_X8_copyFrom_l2 (k0 : Nat) (k1 : Nat) (v2_2 : Int32) (μ_2 : Mem) : Option ((Int32 × Mem) ⊕ (Mem)) :=
  if (4 : Int32) ≤ v2_2 then
    some (.inr μ_2)
  else
    if ib v2_2 4 then
      if ib v2_2 4 then
        (f_X0_copyFrom μ_2 (rf (rf k0 0) v2_2.toNatClampNeg) (rf (rf k1 0) v2_2.toNatClampNeg)).bind fun μ19 =>
          some (.inl (v2_2 + 1, μ19))
      else none
    else none
def f_X8_copyFrom (μ : Mem) (k0 : Nat) (k1 : Nat) : Option (Mem) :=
  (lp (fun s => f_X8_copyFrom_l2 k0 k1 s.1 s.2) FU ((0 : Int32), μ)).bind fun e2 =>
    (some (wr e2 k0 3 (rd e2 k1 3))).bind fun m33 =>
      (some (wr m33 k0 4 (rd m33 k1 4))).bind fun m41 =>
        some m41
def f_X8_booksWith_l4 (μ : Mem) (k0 : Nat) (a1 : Int32) (v2_4 : Int32) (v3_4 : Int32) : Option ((Int32 × Int32) ⊕ (Int32)) :=
  if (rd μ k0 3) ≤ v3_4 then
    some (.inr v2_4)
  else
    if ib v3_4 4 then
      some (.inl (v2_4 + ((jshr (rd μ (rf (rf k0 0) v3_4.toNatClampNeg) 2) a1) &&& (1 : Int32)), v3_4 + 1))
    else none
def f_X8_booksWith (μ : Mem) (k0 : Nat) (a1 : Int32) : Option (Int32) :=
  (lp (fun s => f_X8_booksWith_l4 μ k0 a1 s.1 s.2) FU ((0 : Int32), (0 : Int32))).bind fun e4 =>
    some e4
def f_X8_firstWeekOf_j48 (μ : Mem) (k0 : Nat) (a1 : Int32) (v3_48 : Int32) (k4_48 : Nat) : Option ((Int32 × Int32) ⊕ (Int32)) :=
  if ib a1 8 then
    some (.inl (rd μ (rf k4_48 1) a1.toNatClampNeg, v3_48 + 1))
  else none
def f_X8_firstWeekOf_l4 (μ : Mem) (k0 : Nat) (a1 : Int32) (v2_4 : Int32) (v3_4 : Int32) : Option ((Int32 × Int32) ⊕ (Int32)) :=
  if (rd μ k0 3) ≤ v3_4 then
    some (.inr v2_4)
  else
    if ib v3_4 4 then
      if ¬ ((jshr (rd μ (rf (rf k0 0) v3_4.toNatClampNeg) 2) a1) &&& (1 : Int32)) = (1 : Int32) then
        some (.inl (v2_4, v3_4 + 1))
      else
        if v2_4 < 0 then
          f_X8_firstWeekOf_j48 μ k0 a1 v3_4 (rf (rf k0 0) v3_4.toNatClampNeg)
        else
          if ib a1 8 then
            if v2_4 ≤ (rd μ (rf (rf (rf k0 0) v3_4.toNatClampNeg) 1) a1.toNatClampNeg) then
              some (.inl (v2_4, v3_4 + 1))
            else
              f_X8_firstWeekOf_j48 μ k0 a1 v3_4 (rf (rf k0 0) v3_4.toNatClampNeg)
          else none
    else none
def f_X8_firstWeekOf (μ : Mem) (k0 : Nat) (a1 : Int32) : Option (Int32) :=
  (lp (fun s => f_X8_firstWeekOf_l4 μ k0 a1 s.1 s.2) FU ((-1 : Int32), (0 : Int32))).bind fun e4 =>
    some e4
def f_X8_othersOf_l4 (μ : Mem) (k0 : Nat) (a1 : Int32) (v2_4 : Int32) (v3_4 : Int32) : Option ((Int32 × Int32) ⊕ (Int32)) :=
  if (rd μ k0 3) ≤ v3_4 then
    some (.inr v2_4)
  else
    if v3_4 = a1 then
      some (.inl (v2_4, v3_4 + 1))
    else
      if ib v3_4 4 then
        some (.inl (v2_4 ||| (rd μ (rf (rf k0 0) v3_4.toNatClampNeg) 2), v3_4 + 1))
      else none
def f_X8_othersOf (μ : Mem) (k0 : Nat) (a1 : Int32) : Option (Int32) :=
  (lp (fun s => f_X8_othersOf_l4 μ k0 a1 s.1 s.2) FU ((0 : Int32), (0 : Int32))).bind fun e4 =>
    some e4
def f_X8_debts_l4 (μ : Mem) (k0 : Nat) (v1_4 : Int32) (v2_4 : Int32) : Option ((Int32 × Int32) ⊕ (Int32)) :=
  if (rd μ k0 3) ≤ v2_4 then
    some (.inr v1_4)
  else
    if ib v2_4 4 then
      some (.inl (v1_4 + (rd μ (rf (rf k0 0) v2_4.toNatClampNeg) 6), v2_4 + 1))
    else none
def f_X8_debts (μ : Mem) (k0 : Nat) : Option (Int32) :=
  (lp (fun s => f_X8_debts_l4 μ k0 s.1 s.2) FU ((0 : Int32), (0 : Int32))).bind fun e4 =>
    some e4
def f_X8_broken_l4 (μ : Mem) (k0 : Nat) (v1_4 : Int32) (v2_4 : Int32) : Option ((Int32 × Int32) ⊕ (Int32)) :=
  if (rd μ k0 3) ≤ v2_4 then
    some (.inr v1_4)
  else
    if ib v2_4 4 then
      if (rd μ (rf (rf k0 0) v2_4.toNatClampNeg) 7) = 0 then
        some (.inl (v1_4 + (0 : Int32), v2_4 + 1))
      else
        some (.inl (v1_4 + (1 : Int32), v2_4 + 1))
    else none
def f_X8_broken (μ : Mem) (k0 : Nat) : Option (Int32) :=
  (lp (fun s => f_X8_broken_l4 μ k0 s.1 s.2) FU ((0 : Int32), (0 : Int32))).bind fun e4 =>
    some e4
def f_X8_openOf (μ : Mem) (k0 : Nat) (a1 : Int32) : Option (Int32) :=
  if ib a1 4 then
    (f_X1_openIn μ (rf k0 1) (rd μ (rf (rf k0 0) a1.toNatClampNeg) 2)).bind fun r13 =>
      (f_J6_bitCount_0f7a4 r13).bind fun r16 =>
        some r16
  else none
def f_X8_mayTell (μ : Mem) (k0 : Nat) (a1 : Int32) : Option (Int32) :=
  if ib a1 4 then
    (f_X8_othersOf μ k0 a1).bind fun r25 =>
      (f_X1_mayTell μ (rf k0 1) (rd μ (rf (rf k0 0) a1.toNatClampNeg) 4) (rd μ (rf (rf k0 0) a1.toNatClampNeg) 5) (rd μ (rf (rf k0 0) a1.toNatClampNeg) 2) r25).bind fun r28 =>
        some r28
  else none
def f_X8_write_j64 (μ_64 : Mem) (k0 : Nat) (a1 : Int32) (a2 : Int32) (k3_64 : Nat) (v4_64 : Int32) : Option (Mem) :=
  (some (wr μ_64 k3_64 6 (jmax (0 : Int32) ((rd μ_64 k3_64 6) - v4_64)))).bind fun m76 =>
    (f_X0_keep m76 k3_64 a2 (rd m76 k0 4)).bind fun μ85 =>
      some μ85
def f_X8_write_j41 (μ_41 : Mem) (k0 : Nat) (a1 : Int32) (a2 : Int32) (k3_41 : Nat) (v4_41 : Int32) : Option (Mem) :=
  f_X8_write_j64 μ_41 k0 a1 a2 k3_41 (v4_41 / (2 : Int32))
def f_X8_write (μ : Mem) (k0 : Nat) (a1 : Int32) (a2 : Int32) : Option (Mem) :=
  if ib a1 4 then
    (f_X2_gives μ (rf k0 2) a2 (rd μ k0 4) (rd μ (rf (rf k0 0) a1.toNatClampNeg) 6)).bind fun p20 =>
      if (rd p20.2 (rf (rf k0 0) a1.toNatClampNeg) 4) = (1 : Int32) then
        f_X8_write_j41 p20.2 k0 a1 a2 (rf (rf k0 0) a1.toNatClampNeg) p20.1
      else
        if ¬ (rd p20.2 (rf (rf k0 0) a1.toNatClampNeg) 4) = (4 : Int32) then
          if ¬ (rd p20.2 (rf (rf k0 0) a1.toNatClampNeg) 4) = (5 : Int32) then
            f_X8_write_j64 p20.2 k0 a1 a2 (rf (rf k0 0) a1.toNatClampNeg) p20.1
          else
            f_X8_write_j64 p20.2 k0 a1 a2 (rf (rf k0 0) a1.toNatClampNeg) (p20.1 * (2 : Int32))
        else
          f_X8_write_j41 p20.2 k0 a1 a2 (rf (rf k0 0) a1.toNatClampNeg) p20.1
  else none
def f_X8_serve_j66 (μ_66 : Mem) (k0 : Nat) (a1 : Int32) (a2 : Int32) (k3_66 : Nat) : Option (Mem) :=
  (f_X1_anyOverdue μ_66 (rf k0 1) (rd μ_66 k3_66 2) (rf k3_66 1) (rd μ_66 k0 4)).bind fun r82 =>
    if r82 = 0 then
      some μ_66
    else
      (some (wr μ_66 k3_66 7 (1 : Int32))).bind fun m90 =>
        some m90
def f_X8_serve_l10 (k0 : Nat) (a1 : Int32) (a2 : Int32) (k3_10 : Nat) (v4_10 : Int32) (μ_10 : Mem) : Option ((Int32 × Mem) ⊕ (Mem)) :=
  if a2 ≤ v4_10 then
    some (.inr μ_10)
  else
    if (rd μ_10 k3_10 6) ≤ 0 then
      some (.inr μ_10)
    else
      if ¬ (rd μ_10 k3_10 7) = 0 then
        some (.inr μ_10)
      else
        (f_X8_mayTell μ_10 k0 a1).bind fun r32 =>
          if ¬ r32 = 0 then
            (f_J6_numberOfTrailingZeros_0f7a4 r32).bind fun r54 =>
              (f_X8_write μ_10 k0 a1 r54).bind fun μ57 =>
                some (.inl (v4_10 + 1, μ57))
          else
            (some (wr μ_10 k3_10 7 (1 : Int32))).bind fun m44 =>
              some (.inl (v4_10 + 1, m44))
def f_X8_serve (μ : Mem) (k0 : Nat) (a1 : Int32) (a2 : Int32) : Option (Mem) :=
  if ib a1 4 then
    (lp (fun s => f_X8_serve_l10 k0 a1 a2 (rf (rf k0 0) a1.toNatClampNeg) s.1 s.2) FU ((0 : Int32), μ)).bind fun e10 =>
      f_X8_serve_j66 e10 k0 a1 a2 (rf (rf k0 0) a1.toNatClampNeg)
  else none
def f_X8_passWeek_j54 (μ_54 : Mem) (k0 : Nat) (a1 : Int32) (a2 : Int32) (v3_54 : Int32) (kt0_54 : Nat) (vt1_54 : Int32) (vt2_54 : Int32) : Option ((Int32 × Mem) ⊕ (Mem)) :=
  (f_X8_serve μ_54 kt0_54 vt1_54 vt2_54).bind fun μ54 =>
    some (.inl (v3_54 + 1, μ54))
def f_X8_passWeek_l2 (k0 : Nat) (a1 : Int32) (a2 : Int32) (v3_2 : Int32) (μ_2 : Mem) : Option ((Int32 × Mem) ⊕ (Mem)) :=
  if (rd μ_2 k0 3) ≤ v3_2 then
    some (.inr μ_2)
  else
    if ib v3_2 4 then
      if ¬ (rd μ_2 (rf (rf k0 0) v3_2.toNatClampNeg) 7) = 0 then
        some (.inl (v3_2 + 1, μ_2))
      else
        if ib v3_2 4 then
          if (rd μ_2 (rf (rf k0 0) v3_2.toNatClampNeg) 6) ≤ 0 then
            some (.inl (v3_2 + 1, μ_2))
          else
            if ¬ v3_2 = a1 then
              if ib v3_2 4 then
                (f_X0_due μ_2 (rf (rf k0 0) v3_2.toNatClampNeg)).bind fun r51 =>
                  f_X8_passWeek_j54 μ_2 k0 a1 a2 v3_2 k0 v3_2 r51
              else none
            else
              f_X8_passWeek_j54 μ_2 k0 a1 a2 v3_2 k0 v3_2 a2
        else none
    else none
def f_X8_passWeek (μ : Mem) (k0 : Nat) (a1 : Int32) (a2 : Int32) : Option (Mem) :=
  (lp (fun s => f_X8_passWeek_l2 k0 a1 a2 s.1 s.2) FU ((0 : Int32), μ)).bind fun e2 =>
    (some (wr e2 k0 4 ((rd e2 k0 4) + (1 : Int32)))).bind fun m70 =>
      some m70
def f_X8_passWeeks_l2 (k0 : Nat) (a1 : Int32) (v2_2 : Int32) (μ_2 : Mem) : Option ((Int32 × Mem) ⊕ (Mem)) :=
  if a1 ≤ v2_2 then
    some (.inr μ_2)
  else
    (f_X8_passWeek μ_2 k0 (-1 : Int32) (0 : Int32)).bind fun μ10 =>
      some (.inl (v2_2 + 1, μ10))
def f_X8_passWeeks (μ : Mem) (k0 : Nat) (a1 : Int32) : Option (Mem) :=
  (lp (fun s => f_X8_passWeeks_l2 k0 a1 s.1 s.2) FU ((0 : Int32), μ)).bind fun e2 =>
    some e2
def f_X9_kindWithBody_l4 (a0 : Int32) (a1 : Int32) (v2_4 : Int32) (v3_4 : Int32) : Option ((Int32 × Int32) ⊕ ((Int32) ⊕ Unit)) :=
  if (7 : Int32) ≤ v3_4 then
    some (.inr (.inr ()))
  else
    if v2_4 < 0 then
      some (.inr (.inr ()))
    else
      if (7 : Int32) ≤ v2_4 then
        some (.inr (.inr ()))
      else
        if ib ((v2_4 * (4 : Int32)) + a1) 28 then
          if (st 1 ((v2_4 * (4 : Int32)) + a1).toNatClampNeg) = 0 then
            if ib v2_4 7 then
              some (.inl (st 0 v2_4.toNatClampNeg, v3_4 + 1))
            else none
          else
            some (.inr (.inl v2_4))
        else none
def f_X9_kindWithBody (a0 : Int32) (a1 : Int32) : Option (Int32) :=
  (lp (fun s => f_X9_kindWithBody_l4 a0 a1 s.1 s.2) FU (a0, (0 : Int32))).bind fun e4 =>
    Sum.elim (fun e4 =>
      some e4
    )
    (fun e4 =>
      some (-1 : Int32)
    ) e4
def f_X9_add (μ : Mem) (k0 : Nat) (a1 : Int32) : Option (Mem) :=
  if (40 : Int32) ≤ (rd μ k0 1) then
    some μ
  else
    if ib (rd μ k0 1) 40 then
      (some (wr μ (rf k0 0) (rd μ k0 1).toNatClampNeg a1)).bind fun m18 =>
        (some (wr m18 k0 1 ((rd m18 k0 1) + (1 : Int32)))).bind fun m26 =>
          some m26
    else none
def F_X9_says (g_X9_says : Mem → Nat → Int32 → Int32 → Int32 → Int32 → Option (Int32 × Mem)) (μ : Mem) (k0 : Nat) (a1 : Int32) (a2 : Int32) (a3 : Int32) (a4 : Int32) : Option (Int32 × Mem) :=
  (f_X9_kindWithBody a1 a2).bind fun r2 =>
    if r2 < 0 then
      some ((0 : Int32), μ)
    else
      if a4 ≤ (20 : Int32) then
        if ib ((r2 * (4 : Int32)) + a2) 28 then
          if ib r2 7 then
            (f_X9_add μ k0 (st 1 ((r2 * (4 : Int32)) + a2).toNatClampNeg)).bind fun μ50 =>
              if (st 1 ((r2 * (4 : Int32)) + a2).toNatClampNeg) = 10 then
                some (a3 + (rd μ50 k0 3), μ50)
              else
                if (st 1 ((r2 * (4 : Int32)) + a2).toNatClampNeg) = 11 then
                  (g_X9_says μ50 k0 (rd μ50 k0 2) (0 : Int32) a3 (a4 + (1 : Int32))).bind fun p168 =>
                    some (p168.1 * (2 : Int32), p168.2)
                else
                  if (st 1 ((r2 * (4 : Int32)) + a2).toNatClampNeg) = 12 then
                    some (a3 - (rd μ50 k0 4), μ50)
                  else
                    if (st 1 ((r2 * (4 : Int32)) + a2).toNatClampNeg) = 13 then
                      (g_X9_says μ50 k0 (rd μ50 k0 2) (1 : Int32) a3 (a4 + (1 : Int32))).bind fun p190 =>
                        (g_X9_says p190.2 k0 (rd p190.2 k0 2) (2 : Int32) a3 (a4 + (1 : Int32))).bind fun p202 =>
                          some (p190.1 ^^^ p202.1, p202.2)
                    else
                      if (st 1 ((r2 * (4 : Int32)) + a2).toNatClampNeg) = 20 then
                        (g_X9_says μ50 k0 (st 0 r2.toNatClampNeg) (1 : Int32) a3 (a4 + (1 : Int32))).bind fun p214 =>
                          (g_X9_says p214.2 k0 (rd p214.2 k0 2) (2 : Int32) (1 : Int32) (a4 + (1 : Int32))).bind fun p226 =>
                            some (p214.1 - p226.1, p226.2)
                      else
                        if (st 1 ((r2 * (4 : Int32)) + a2).toNatClampNeg) = 30 then
                          (g_X9_says μ50 k0 (st 0 r2.toNatClampNeg) (0 : Int32) a3 (a4 + (1 : Int32))).bind fun p238 =>
                            some (p238.1 * (3 : Int32), p238.2)
                        else
                          if (st 1 ((r2 * (4 : Int32)) + a2).toNatClampNeg) = 40 then
                            (g_X9_says μ50 k0 (st 0 r2.toNatClampNeg) (2 : Int32) a3 (a4 + (1 : Int32))).bind fun p251 =>
                              some (-p251.1, p251.2)
                          else
                            if (st 1 ((r2 * (4 : Int32)) + a2).toNatClampNeg) = 50 then
                              (g_X9_says μ50 k0 (st 0 r2.toNatClampNeg) (1 : Int32) (a3 + (1 : Int32)) (a4 + (1 : Int32))).bind fun p265 =>
                                some (p265.1, p265.2)
                            else
                              if (st 1 ((r2 * (4 : Int32)) + a2).toNatClampNeg) = 60 then
                                (g_X9_says μ50 k0 (st 0 r2.toNatClampNeg) (3 : Int32) a3 (a4 + (1 : Int32))).bind fun p276 =>
                                  (g_X9_says p276.2 k0 (rd p276.2 k0 2) (0 : Int32) (2 : Int32) (a4 + (1 : Int32))).bind fun p288 =>
                                    some (p276.1 - p288.1, p288.2)
                              else
                                if (st 1 ((r2 * (4 : Int32)) + a2).toNatClampNeg) = 70 then
                                  (g_X9_says μ50 k0 (st 0 r2.toNatClampNeg) (2 : Int32) a3 (a4 + (1 : Int32))).bind fun p300 =>
                                    some (p300.1 ^^^ (rd p300.2 k0 3), p300.2)
                                else
                                  if (st 1 ((r2 * (4 : Int32)) + a2).toNatClampNeg) = 71 then
                                    (g_X9_says μ50 k0 (rd μ50 k0 2) (1 : Int32) a3 (a4 + (1 : Int32))).bind fun p318 =>
                                      (g_X9_says p318.2 k0 (st 0 r2.toNatClampNeg) (3 : Int32) a3 (a4 + (1 : Int32))).bind fun p328 =>
                                        some (p318.1 - p328.1, p328.2)
                                  else
                                    some ((0 : Int32), μ50)
          else none
        else none
      else
        some ((0 : Int32), μ)
def grp_X9_says : Nat → (Mem → Nat → Int32 → Int32 → Int32 → Int32 → Option (Int32 × Mem))
  | 0 => (fun _ _ _ _ _ _ => none)
  | n + 1 => F_X9_says (grp_X9_says n)
def f_X9_says (n : Nat) : Mem → Nat → Int32 → Int32 → Int32 → Int32 → Option (Int32 × Mem) := (grp_X9_says n)
def f_X9_begin (μ : Mem) (k0 : Nat) (a1 : Int32) (a2 : Int32) (a3 : Int32) (a4 : Int32) (a5 : Int32) : Option (Int32 × Mem) :=
  (some (wr μ k0 2 a1)).bind fun m2 =>
    (some (wr m2 k0 3 a2)).bind fun m7 =>
      (some (wr m7 k0 4 a3)).bind fun m12 =>
        (some (wr m12 k0 1 (0 : Int32))).bind fun m17 =>
          (f_X9_says 100 m17 k0 a1 a4 a5 (0 : Int32)).bind fun p27 =>
            some (p27.1, p27.2)
def f_X10_copyFrom (μ : Mem) (k0 : Nat) (k1 : Nat) : Option (Mem) :=
  (f_X1_copyFrom μ (rf k0 0) (rf k1 0)).bind fun μ8 =>
    (f_X2_take μ8 (rf k0 1) (rf (rf k1 1) 0) (rd μ8 (rf k1 1) 3)).bind fun μ29 =>
      (f_X2_take μ29 (rf k0 2) (rf (rf k1 2) 0) (rd μ29 (rf k1 2) 3)).bind fun μ50 =>
        (f_X8_copyFrom μ50 (rf k0 3) (rf k1 3)).bind fun μ61 =>
          (f_X3_copyFrom μ61 (rf k0 4) (rf k1 4)).bind fun μ72 =>
            (f_X7_copyFrom μ72 (rf k0 5) (rf k1 5)).bind fun μ83 =>
              if cb (0 : Int32) (0 : Int32) (20 : Int32) (ln (rf k1 6)) (ln (rf k0 6)) then
                (some (cpy μ83 (rf k1 6) (0 : Int32).toNatClampNeg (rf k0 6) (0 : Int32).toNatClampNeg (20 : Int32).toNatClampNeg)).bind fun m98 =>
                  (some (wr m98 k0 7 (rd m98 k1 7))).bind fun m106 =>
                    (some (wr m106 k0 8 (rd m106 k1 8))).bind fun m114 =>
                      some m114
              else none
def f_X10_draw (μ : Mem) (k0 : Nat) : Option (Int32 × Mem) :=
  (some (wr μ k0 8 (((rd μ k0 8) * (1103515245 : Int32)) + (12345 : Int32)))).bind fun m12 =>
    some (jushr (rd m12 k0 8) (8 : Int32), m12)
def f_X10_lendByDraws (μ : Mem) (k0 : Nat) : Option (Mem) :=
  (f_X10_draw μ k0).bind fun p1 =>
    (f_X10_draw p1.2 k0).bind fun p8 =>
      if (rd p8.2 (rf k0 3) 3) ≤ (jrem p1.1 (4 : Int32)) then
        some p8.2
      else
        if ib (jrem p1.1 (4 : Int32)) 4 then
          if ¬ (rd p8.2 (rf (rf (rf k0 3) 0) (jrem p1.1 (4 : Int32)).toNatClampNeg) 7) = 0 then
            some p8.2
          else
            if ib (jrem p1.1 (4 : Int32)) 4 then
              (f_X0_owe p8.2 (rf (rf (rf k0 3) 0) (jrem p1.1 (4 : Int32)).toNatClampNeg) (jrem p8.1 (50 : Int32))).bind fun μ51 =>
                some μ51
            else none
        else none
def f_X10_witnessed_l5 (μ : Mem) (k0 : Nat) (a1 : Int32) (a2 : Int32) (v3_5 : Int32) (v4_5 : Int32) : Option ((Int32 × Int32) ⊕ (Int32)) :=
  if (rd μ (rf k0 0) 5) ≤ v4_5 then
    some (.inr v3_5)
  else
    (f_X8_firstWeekOf μ (rf k0 3) v4_5).bind fun r23 =>
      if ib v4_5 8 then
        if ¬ ((jshr (rd μ (rf (rf k0 0) 4) v4_5.toNatClampNeg) a1) &&& (1 : Int32)) = (1 : Int32) then
          some (.inl (v3_5, v4_5 + 1))
        else
          if r23 < 0 then
            some (.inl (v3_5, v4_5 + 1))
          else
            if a2 < r23 then
              some (.inl (v3_5, v4_5 + 1))
            else
              some (.inl (v3_5 ||| (jshl (1 : Int32) v4_5), v4_5 + 1))
      else none
def f_X10_witnessed (μ : Mem) (k0 : Nat) (a1 : Int32) (a2 : Int32) : Option (Int32) :=
  (lp (fun s => f_X10_witnessed_l5 μ k0 a1 a2 s.1 s.2) FU ((0 : Int32), (0 : Int32))).bind fun e5 =>
    some e5
def f_X10_gatherKnown_l113 (k0 : Nat) (a1 : Int32) (k2 : Nat) (v3_113 : Int32) (μ_113 : Mem) : Option ((Int32 × Mem) ⊕ (Mem)) :=
  if (5 : Int32) ≤ v3_113 then
    some (.inr μ_113)
  else
    if ib v3_113 (ln k2) then
      (f_X10_witnessed μ_113 k0 v3_113 a1).bind fun r125 =>
        if ib v3_113 (ln k2) then
          (some (wr μ_113 k2 v3_113.toNatClampNeg ((rd μ_113 k2 v3_113.toNatClampNeg) ||| r125))).bind fun m129 =>
            some (.inl (v3_113 + 1, m129))
        else none
    else none
def f_X10_gatherKnown_j111 (μ_111 : Mem) (k0 : Nat) (a1 : Int32) (k2 : Nat) : Option (Mem) :=
  (lp (fun s => f_X10_gatherKnown_l113 k0 a1 k2 s.1 s.2) FU ((0 : Int32), μ_111)).bind fun e113 =>
    some e113
def f_X10_gatherKnown_l7 (k0 : Nat) (a1 : Int32) (k2 : Nat) (v3_7 : Int32) (μ_7 : Mem) : Option ((Int32 × Mem) ⊕ (Mem)) :=
  if (rd μ_7 (rf k0 4) 3) ≤ v3_7 then
    some (.inr μ_7)
  else
    if ib v3_7 12 then
      if a1 < (rd μ_7 (rf (rf k0 4) 0) v3_7.toNatClampNeg) then
        some (.inr μ_7)
      else
        if ib v3_7 12 then
          if ib v3_7 12 then
            if ib v3_7 12 then
              if ib (rd μ_7 (rf (rf k0 4) 1) v3_7.toNatClampNeg) (ln k2) then
                if ib (rd μ_7 (rf (rf k0 4) 2) v3_7.toNatClampNeg) (ln k2) then
                  (f_X10_witnessed μ_7 k0 (rd μ_7 (rf (rf k0 4) 1) v3_7.toNatClampNeg) (rd μ_7 (rf (rf k0 4) 0) v3_7.toNatClampNeg)).bind fun r78 =>
                    (f_X10_witnessed μ_7 k0 (rd μ_7 (rf (rf k0 4) 2) v3_7.toNatClampNeg) (rd μ_7 (rf (rf k0 4) 0) v3_7.toNatClampNeg)).bind fun r87 =>
                      if ib (rd μ_7 (rf (rf k0 4) 1) v3_7.toNatClampNeg) (ln k2) then
                        (some (wr μ_7 k2 (rd μ_7 (rf (rf k0 4) 1) v3_7.toNatClampNeg).toNatClampNeg ((((rd μ_7 k2 (rd μ_7 (rf (rf k0 4) 1) v3_7.toNatClampNeg).toNatClampNeg) ||| (rd μ_7 k2 (rd μ_7 (rf (rf k0 4) 2) v3_7.toNatClampNeg).toNatClampNeg)) ||| r78) ||| r87))).bind fun m98 =>
                          if ib (rd μ_7 (rf (rf k0 4) 2) v3_7.toNatClampNeg) (ln k2) then
                            (some (wr m98 k2 (rd μ_7 (rf (rf k0 4) 2) v3_7.toNatClampNeg).toNatClampNeg ((((rd μ_7 k2 (rd μ_7 (rf (rf k0 4) 1) v3_7.toNatClampNeg).toNatClampNeg) ||| (rd μ_7 k2 (rd μ_7 (rf (rf k0 4) 2) v3_7.toNatClampNeg).toNatClampNeg)) ||| r78) ||| r87))).bind fun m104 =>
                              some (.inl (v3_7 + 1, m104))
                          else none
                      else none
                else none
              else none
            else none
          else none
        else none
    else none
def f_X10_gatherKnown (μ : Mem) (k0 : Nat) (a1 : Int32) (k2 : Nat) : Option (Mem) :=
  (f_J7_fill_53178 μ k2 (0 : Int32)).bind fun μ2 =>
    (lp (fun s => f_X10_gatherKnown_l7 k0 a1 k2 s.1 s.2) FU ((0 : Int32), μ2)).bind fun e7 =>
      f_X10_gatherKnown_j111 e7 k0 a1 k2
def f_X10_gatherFirstWeeks_j138 (μ_138 : Mem) (k0 : Nat) (a1 : Int32) (k2 : Nat) (v4_138 : Int32) (v5_138 : Int32) (v6_138 : Int32) (v7_138 : Int32) : Option ((Int32 × Mem) ⊕ (Mem)) :=
  if ib v5_138 (ln k2) then
    if ib v5_138 (ln k2) then
      (some (wr μ_138 k2 v5_138.toNatClampNeg (jmin (rd μ_138 k2 v5_138.toNatClampNeg) v7_138))).bind fun m150 =>
        if ib v6_138 (ln k2) then
          if ib v6_138 (ln k2) then
            (some (wr m150 k2 v6_138.toNatClampNeg (jmin (rd m150 k2 v6_138.toNatClampNeg) v7_138))).bind fun m163 =>
              some (.inl (v4_138 + 1, m163))
          else none
        else none
    else none
  else none
def f_X10_gatherFirstWeeks_l72 (k0 : Nat) (a1 : Int32) (k2 : Nat) (v4_72 : Int32) (μ_72 : Mem) : Option ((Int32 × Mem) ⊕ (Mem)) :=
  if (rd μ_72 (rf k0 4) 3) ≤ v4_72 then
    some (.inr μ_72)
  else
    if ib v4_72 12 then
      if ib v4_72 12 then
        if ib v4_72 12 then
          if ib (rd μ_72 (rf (rf k0 4) 1) v4_72.toNatClampNeg) (ln k2) then
            if (rd μ_72 k2 (rd μ_72 (rf (rf k0 4) 1) v4_72.toNatClampNeg).toNatClampNeg) ≤ (rd μ_72 (rf (rf k0 4) 0) v4_72.toNatClampNeg) then
              f_X10_gatherFirstWeeks_j138 μ_72 k0 a1 k2 v4_72 (rd μ_72 (rf (rf k0 4) 1) v4_72.toNatClampNeg) (rd μ_72 (rf (rf k0 4) 2) v4_72.toNatClampNeg) (rd μ_72 (rf (rf k0 4) 0) v4_72.toNatClampNeg)
            else
              if ib (rd μ_72 (rf (rf k0 4) 2) v4_72.toNatClampNeg) (ln k2) then
                if (rd μ_72 (rf (rf k0 4) 0) v4_72.toNatClampNeg) < (rd μ_72 k2 (rd μ_72 (rf (rf k0 4) 2) v4_72.toNatClampNeg).toNatClampNeg) then
                  some (.inl (v4_72 + 1, μ_72))
                else
                  f_X10_gatherFirstWeeks_j138 μ_72 k0 a1 k2 v4_72 (rd μ_72 (rf (rf k0 4) 1) v4_72.toNatClampNeg) (rd μ_72 (rf (rf k0 4) 2) v4_72.toNatClampNeg) (rd μ_72 (rf (rf k0 4) 0) v4_72.toNatClampNeg)
              else none
          else none
        else none
      else none
    else none
def f_X10_gatherFirstWeeks_j62 (μ_62 : Mem) (k0 : Nat) (a1 : Int32) (k2 : Nat) (v3_12 : Int32) (v4_62 : Int32) (kt0_62 : Nat) (vt1_62 : Int32) (vt2_62 : Int32) : Option ((Int32 × Mem) ⊕ (Mem)) :=
  if ib vt1_62 (ln kt0_62) then
    (some (wr μ_62 kt0_62 vt1_62.toNatClampNeg vt2_62)).bind fun m62 =>
      some (.inl (v4_62 + 1, m62))
  else none
def f_X10_gatherFirstWeeks_j59 (μ_59 : Mem) (k0 : Nat) (a1 : Int32) (k2 : Nat) (v3_12 : Int32) (v4_59 : Int32) (kt0_59 : Nat) (vt1_59 : Int32) : Option ((Int32 × Mem) ⊕ (Mem)) :=
  f_X10_gatherFirstWeeks_j62 μ_59 k0 a1 k2 v3_12 v4_59 kt0_59 vt1_59 (1000 : Int32)
def f_X10_gatherFirstWeeks_j41 (μ_41 : Mem) (k0 : Nat) (a1 : Int32) (k2 : Nat) (v3_12 : Int32) (v4_41 : Int32) (vt0_41 : Int32) : Option ((Int32 × Mem) ⊕ (Mem)) :=
  if vt0_41 = 0 then
    f_X10_gatherFirstWeeks_j59 μ_41 k0 a1 k2 v3_12 v4_41 k2 v4_41
  else
    if v3_12 < 0 then
      f_X10_gatherFirstWeeks_j59 μ_41 k0 a1 k2 v3_12 v4_41 k2 v4_41
    else
      f_X10_gatherFirstWeeks_j62 μ_41 k0 a1 k2 v3_12 v4_41 k2 v4_41 v3_12
def f_X10_gatherFirstWeeks_l12 (k0 : Nat) (a1 : Int32) (k2 : Nat) (v3_12 : Int32) (v4_12 : Int32) (μ_12 : Mem) : Option ((Int32 × Mem) ⊕ (Mem)) :=
  if (5 : Int32) ≤ v4_12 then
    some (.inr μ_12)
  else
    if ib a1 8 then
      if ¬ ((jshr (rd μ_12 (rf (rf k0 0) 4) a1.toNatClampNeg) v4_12) &&& (1 : Int32)) = (1 : Int32) then
        f_X10_gatherFirstWeeks_j41 μ_12 k0 a1 k2 v3_12 v4_12 (0 : Int32)
      else
        f_X10_gatherFirstWeeks_j41 μ_12 k0 a1 k2 v3_12 v4_12 (1 : Int32)
    else none
def f_X10_gatherFirstWeeks (μ : Mem) (k0 : Nat) (a1 : Int32) (k2 : Nat) : Option (Mem) :=
  (f_X8_firstWeekOf μ (rf k0 3) a1).bind fun r5 =>
    (lp (fun s => f_X10_gatherFirstWeeks_l12 k0 a1 k2 r5 s.1 s.2) FU ((0 : Int32), μ)).bind fun e12 =>
      (lp (fun s => f_X10_gatherFirstWeeks_l72 k0 a1 k2 s.1 s.2) FU ((0 : Int32), e12)).bind fun e72 =>
        some e72
def f_X11_among (a0 : Int32) (a1 : Int32) (a2 : Int32) : Option (Int32) :=
  if a0 < a1 then
    some (0 : Int32)
  else
    if a2 < a0 then
      some (0 : Int32)
    else
      some (1 : Int32)
def f_X11_refuse (μ : Mem) (k0 : Nat) (a1 : Int32) : Option (Int32 × Mem) :=
  if ib a1 6 then
    if ib a1 6 then
      (some (wr μ (rf k0 8) a1.toNatClampNeg ((rd μ (rf k0 8) a1.toNatClampNeg) + (1 : Int32)))).bind fun m9 =>
        some ((-1000000000 : Int32) - a1, m9)
    else none
  else none
def f_X11_fact_j53 (μ_53 : Mem) (k0 : Nat) (a1 : Int32) (a2 : Int32) : Option (Int32 × Mem) :=
  (f_X11_refuse μ_53 k0 (1 : Int32)).bind fun p55 =>
    some (p55.1, p55.2)
def f_X11_fact_j25 (μ_25 : Mem) (k0 : Nat) (a1 : Int32) (a2 : Int32) (k3_25 : Nat) (vt0_25 : Int32) : Option (Int32 × Mem) :=
  (f_X11_among a1 (0 : Int32) (255 : Int32)).bind fun r32 =>
    if r32 = 0 then
      f_X11_fact_j53 μ_25 k0 a1 a2
    else
      if ¬ vt0_25 = 0 then
        f_X11_fact_j53 μ_25 k0 a1 a2
      else
        (f_X11_among a2 (0 : Int32) (31 : Int32)).bind fun r47 =>
          if ¬ r47 = 0 then
            if (rd μ_25 k3_25 5) < (8 : Int32) then
              (f_X1_add μ_25 k3_25 a1 a2).bind fun p77 =>
                some (p77.1, p77.2)
            else
              (f_X11_refuse μ_25 k0 (4 : Int32)).bind fun p70 =>
                some (p70.1, p70.2)
          else
            f_X11_fact_j53 μ_25 k0 a1 a2
def f_X11_fact (μ : Mem) (k0 : Nat) (a1 : Int32) (a2 : Int32) : Option (Int32 × Mem) :=
  if ¬ ((jshr a1 (rd μ (rf (rf k0 0) 0) 5)) &&& (1 : Int32)) = (1 : Int32) then
    f_X11_fact_j25 μ k0 a1 a2 (rf (rf k0 0) 0) (0 : Int32)
  else
    f_X11_fact_j25 μ k0 a1 a2 (rf (rf k0 0) 0) (1 : Int32)
def f_X11_isFact (μ : Mem) (k0 : Nat) (a1 : Int32) : Option (Int32) :=
  (f_X11_among a1 (0 : Int32) ((rd μ (rf (rf k0 0) 0) 5) - (1 : Int32))).bind fun r14 =>
    if bz r14 then
      some r14
    else none
def f_X11_clash_j30 (μ_30 : Mem) (k0 : Nat) (a1 : Int32) (a2 : Int32) (a3 : Int32) : Option (Int32 × Mem) :=
  (f_X11_refuse μ_30 k0 (1 : Int32)).bind fun p32 =>
    some (p32.1, p32.2)
def f_X11_clash (μ : Mem) (k0 : Nat) (a1 : Int32) (a2 : Int32) (a3 : Int32) : Option (Int32 × Mem) :=
  (f_X11_isFact μ k0 a1).bind fun r2 =>
    if r2 = 0 then
      f_X11_clash_j30 μ k0 a1 a2 a3
    else
      (f_X11_isFact μ k0 a2).bind fun r10 =>
        if r10 = 0 then
          f_X11_clash_j30 μ k0 a1 a2 a3
        else
          if a1 = a2 then
            f_X11_clash_j30 μ k0 a1 a2 a3
          else
            (f_X11_among a3 (0 : Int32) (1 : Int32)).bind fun r24 =>
              if ¬ r24 = 0 then
                if ib a1 8 then
                  (f_X1_setClash μ (rf (rf k0 0) 0) a1 a2 a3).bind fun μ64 =>
                    some ((jshr (rd μ (rf (rf (rf k0 0) 0) 1) a1.toNatClampNeg) a2) &&& (1 : Int32), μ64)
                else none
              else
                f_X11_clash_j30 μ k0 a1 a2 a3
def f_X11_explain_j94 (μ_94 : Mem) (k0 : Nat) (a1 : Int32) (a2 : Int32) (a3 : Int32) (v4_94 : Int32) (kt0_94 : Nat) (vt1_94 : Int32) (vt2_94 : Int32) : Option (Int32 × Mem) :=
  if ib vt1_94 (ln kt0_94) then
    (some (wr μ_94 kt0_94 vt1_94.toNatClampNeg vt2_94)).bind fun m94 =>
      some (v4_94, m94)
  else none
def f_X11_explain_j47 (μ_47 : Mem) (k0 : Nat) (a1 : Int32) (a2 : Int32) (a3 : Int32) : Option (Int32 × Mem) :=
  if ib a1 8 then
    if ib a1 8 then
      (some (wr μ_47 (rf (rf (rf k0 0) 0) 2) a1.toNatClampNeg a2)).bind fun m73 =>
        if a2 ≤ 0 then
          f_X11_explain_j94 m73 k0 a1 a2 a3 (rd μ_47 (rf (rf (rf k0 0) 0) 2) a1.toNatClampNeg) (rf (rf (rf k0 0) 0) 3) a1 (-1 : Int32)
        else
          f_X11_explain_j94 m73 k0 a1 a2 a3 (rd μ_47 (rf (rf (rf k0 0) 0) 2) a1.toNatClampNeg) (rf (rf (rf k0 0) 0) 3) a1 a3
    else none
  else none
def f_X11_explain_j41 (μ_41 : Mem) (k0 : Nat) (a1 : Int32) (a2 : Int32) (a3 : Int32) : Option (Int32 × Mem) :=
  (f_X11_refuse μ_41 k0 (1 : Int32)).bind fun p43 =>
    some (p43.1, p43.2)
def f_X11_explain_j18 (μ_18 : Mem) (k0 : Nat) (a1 : Int32) (a2 : Int32) (a3 : Int32) : Option (Int32 × Mem) :=
  (f_X11_refuse μ_18 k0 (1 : Int32)).bind fun p20 =>
    some (p20.1, p20.2)
def f_X11_explain (μ : Mem) (k0 : Nat) (a1 : Int32) (a2 : Int32) (a3 : Int32) : Option (Int32 × Mem) :=
  (f_X11_isFact μ k0 a1).bind fun r2 =>
    if r2 = 0 then
      f_X11_explain_j18 μ k0 a1 a2 a3
    else
      (f_X11_among a2 (0 : Int32) (9 : Int32)).bind fun r12 =>
        if ¬ r12 = 0 then
          if a2 ≤ 0 then
            f_X11_explain_j47 μ k0 a1 a2 a3
          else
            (f_X11_isFact μ k0 a3).bind fun r30 =>
              if r30 = 0 then
                f_X11_explain_j41 μ k0 a1 a2 a3
              else
                if ¬ a3 = a1 then
                  f_X11_explain_j47 μ k0 a1 a2 a3
                else
                  f_X11_explain_j41 μ k0 a1 a2 a3
        else
          f_X11_explain_j18 μ k0 a1 a2 a3
def f_X11_ofFact (μ : Mem) (k0 : Nat) (a1 : Int32) (a2 : Int32) : Option (Int32 × Mem) :=
  (f_X11_isFact μ k0 a1).bind fun r2 =>
    if ¬ r2 = 0 then
      if a2 = 0 then
        if ib a1 8 then
          some (rd μ (rf (rf (rf k0 0) 0) 0) a1.toNatClampNeg, μ)
        else none
      else
        if a2 = 1 then
          if ib a1 8 then
            some (rd μ (rf (rf (rf k0 0) 0) 1) a1.toNatClampNeg, μ)
          else none
        else
          if a2 = 2 then
            if ib a1 8 then
              some (rd μ (rf (rf (rf k0 0) 0) 2) a1.toNatClampNeg, μ)
            else none
          else
            if a2 = 3 then
              if ib a1 8 then
                some (rd μ (rf (rf (rf k0 0) 0) 3) a1.toNatClampNeg, μ)
              else none
            else
              if a2 = 4 then
                if ib a1 8 then
                  some (rd μ (rf (rf (rf k0 0) 0) 4) a1.toNatClampNeg, μ)
                else none
              else
                if a2 = 5 then
                  (f_X8_booksWith μ (rf (rf k0 0) 3) a1).bind fun r125 =>
                    some (r125, μ)
                else
                  (f_X11_refuse μ k0 (1 : Int32)).bind fun p131 =>
                    some (p131.1, p131.2)
    else
      (f_X11_refuse μ k0 (1 : Int32)).bind fun p10 =>
        some (p10.1, p10.2)
def f_X11_debtor_j21 (μ_21 : Mem) (k0 : Nat) (a1 : Int32) (a2 : Int32) : Option (Int32 × Mem) :=
  (f_X11_refuse μ_21 k0 (1 : Int32)).bind fun p23 =>
    some (p23.1, p23.2)
def f_X11_debtor (μ : Mem) (k0 : Nat) (a1 : Int32) (a2 : Int32) : Option (Int32 × Mem) :=
  (f_X11_among a1 (0 : Int32) (69 : Int32)).bind fun r4 =>
    if r4 = 0 then
      f_X11_debtor_j21 μ k0 a1 a2
    else
      (f_X11_among a2 (0 : Int32) (9999 : Int32)).bind fun r15 =>
        if ¬ r15 = 0 then
          if (rd μ (rf (rf k0 0) 3) 3) < (4 : Int32) then
            (f_X8_add μ (rf (rf k0 0) 3) a1 a2).bind fun p56 =>
              some (p56.1, p56.2)
          else
            (f_X11_refuse μ k0 (4 : Int32)).bind fun p43 =>
              some (p43.1, p43.2)
        else
          f_X11_debtor_j21 μ k0 a1 a2
def f_X11_isDebtor (μ : Mem) (k0 : Nat) (a1 : Int32) : Option (Int32) :=
  (f_X11_among a1 (0 : Int32) ((rd μ (rf (rf k0 0) 3) 3) - (1 : Int32))).bind fun r14 =>
    if bz r14 then
      some r14
    else none
def f_X11_stateOf (μ : Mem) (k0 : Nat) (a1 : Int32) (a2 : Int32) : Option (Int32) :=
  if ib a1 4 then
    if a2 = 2 then
      some (rd μ (rf (rf k0 0) a1.toNatClampNeg) 6)
    else
      if a2 = 3 then
        some (rd μ (rf (rf k0 0) a1.toNatClampNeg) 3)
      else
        if a2 = 4 then
          some (rd μ (rf (rf k0 0) a1.toNatClampNeg) 2)
        else
          if a2 = 5 then
            if (rd μ (rf (rf k0 0) a1.toNatClampNeg) 7) = 0 then
              some (0 : Int32)
            else
              some (1 : Int32)
          else
            (f_X8_openOf μ k0 a1).bind fun r70 =>
              some r70
  else none
def f_X11_ofDebtor_j18 (μ_18 : Mem) (k0 : Nat) (a1 : Int32) (a2 : Int32) : Option (Int32 × Mem) :=
  (f_X11_refuse μ_18 k0 (1 : Int32)).bind fun p20 =>
    some (p20.1, p20.2)
def f_X11_ofDebtor (μ : Mem) (k0 : Nat) (a1 : Int32) (a2 : Int32) : Option (Int32 × Mem) :=
  (f_X11_isDebtor μ k0 a1).bind fun r2 =>
    if r2 = 0 then
      f_X11_ofDebtor_j18 μ k0 a1 a2
    else
      (f_X11_among a2 (0 : Int32) (9 : Int32)).bind fun r12 =>
        if ¬ r12 = 0 then
          if ib a1 4 then
            if a2 = 0 then
              some (rd μ (rf (rf (rf (rf k0 0) 3) 0) a1.toNatClampNeg) 4, μ)
            else
              if a2 = 1 then
                some (rd μ (rf (rf (rf (rf k0 0) 3) 0) a1.toNatClampNeg) 5, μ)
              else
                if a2 = 2 then
                  (f_X11_stateOf μ (rf (rf k0 0) 3) a1 a2).bind fun r158 =>
                    some (r158, μ)
                else
                  if a2 = 3 then
                    (f_X11_stateOf μ (rf (rf k0 0) 3) a1 a2).bind fun r158 =>
                      some (r158, μ)
                  else
                    if a2 = 4 then
                      (f_X11_stateOf μ (rf (rf k0 0) 3) a1 a2).bind fun r158 =>
                        some (r158, μ)
                    else
                      if a2 = 5 then
                        (f_X11_stateOf μ (rf (rf k0 0) 3) a1 a2).bind fun r158 =>
                          some (r158, μ)
                      else
                        if a2 = 6 then
                          (f_X0_due μ (rf (rf (rf (rf k0 0) 3) 0) a1.toNatClampNeg)).bind fun r103 =>
                            some (r103, μ)
                        else
                          if a2 = 7 then
                            (f_X11_stateOf μ (rf (rf k0 0) 3) a1 a2).bind fun r158 =>
                              some (r158, μ)
                          else
                            if a2 = 8 then
                              (f_X8_mayTell μ (rf (rf k0 0) 3) a1).bind fun r115 =>
                                some (r115, μ)
                            else
                              if a2 = 9 then
                                (f_X8_openOf μ (rf (rf k0 0) 3) a1).bind fun r138 =>
                                  (f_X2_gives μ (rf (rf k0 0) 2) (rd μ (rf (rf (rf (rf k0 0) 3) 0) a1.toNatClampNeg) 6) r138 (rd μ (rf (rf (rf (rf k0 0) 3) 0) a1.toNatClampNeg) 3)).bind fun p145 =>
                                    some (p145.1, p145.2)
                              else
                                (f_X11_stateOf μ (rf (rf k0 0) 3) a1 a2).bind fun r158 =>
                                  some (r158, μ)
          else none
        else
          f_X11_ofDebtor_j18 μ k0 a1 a2
def f_X11_book_j17 (μ_17 : Mem) (k0 : Nat) (a1 : Int32) (a2 : Int32) (a3 : Int32) : Option (Int32 × Mem) :=
  (f_X11_refuse μ_17 k0 (1 : Int32)).bind fun p19 =>
    some (p19.1, p19.2)
def f_X11_book (μ : Mem) (k0 : Nat) (a1 : Int32) (a2 : Int32) (a3 : Int32) : Option (Int32 × Mem) :=
  (f_X11_isDebtor μ k0 a1).bind fun r2 =>
    if r2 = 0 then
      f_X11_book_j17 μ k0 a1 a2 a3
    else
      (f_X11_among a3 (0 : Int32) (1 : Int32)).bind fun r11 =>
        if ¬ r11 = 0 then
          if ib a1 4 then
            (f_X11_among a2 (0 : Int32) ((rd μ (rf (rf (rf (rf k0 0) 3) 0) a1.toNatClampNeg) 3) - (1 : Int32))).bind fun r46 =>
              if ¬ r46 = 0 then
                if ib a2 8 then
                  if ¬ a3 = 0 then
                    if ib (rd μ (rf (rf (rf (rf (rf k0 0) 3) 0) a1.toNatClampNeg) 0) a2.toNatClampNeg) 8 then
                      some (rd μ (rf (rf (rf (rf (rf k0 0) 3) 0) a1.toNatClampNeg) 1) (rd μ (rf (rf (rf (rf (rf k0 0) 3) 0) a1.toNatClampNeg) 0) a2.toNatClampNeg).toNatClampNeg, μ)
                    else none
                  else
                    some (rd μ (rf (rf (rf (rf (rf k0 0) 3) 0) a1.toNatClampNeg) 0) a2.toNatClampNeg, μ)
                else none
              else
                (f_X11_refuse μ k0 (2 : Int32)).bind fun p54 =>
                  some (p54.1, p54.2)
          else none
        else
          f_X11_book_j17 μ k0 a1 a2 a3
def f_X11_become_j18 (μ_18 : Mem) (k0 : Nat) (a1 : Int32) (a2 : Int32) : Option (Int32 × Mem) :=
  (f_X11_refuse μ_18 k0 (1 : Int32)).bind fun p20 =>
    some (p20.1, p20.2)
def f_X11_become (μ : Mem) (k0 : Nat) (a1 : Int32) (a2 : Int32) : Option (Int32 × Mem) :=
  (f_X11_isDebtor μ k0 a1).bind fun r2 =>
    if r2 = 0 then
      f_X11_become_j18 μ k0 a1 a2
    else
      (f_X11_among a2 (0 : Int32) (69 : Int32)).bind fun r12 =>
        if ¬ r12 = 0 then
          if ib a1 4 then
            (some (wr μ (rf (rf (rf (rf k0 0) 3) 0) a1.toNatClampNeg) 4 (a2 / (10 : Int32)))).bind fun m48 =>
              (some (wr m48 (rf (rf (rf (rf k0 0) 3) 0) a1.toNatClampNeg) 5 (jrem a2 (10 : Int32)))).bind fun m56 =>
                some (rd μ (rf (rf (rf (rf k0 0) 3) 0) a1.toNatClampNeg) 4, m56)
          else none
        else
          f_X11_become_j18 μ k0 a1 a2
def f_X11_isKind (a0 : Int32) : Option (Int32) :=
  (f_X11_among a0 (0 : Int32) (6 : Int32)).bind fun r4 =>
    if bz r4 then
      some r4
    else none
def f_X11_as_j15 (μ_15 : Mem) (k0 : Nat) (a1 : Int32) (a2 : Int32) : Option (Int32 × Mem) :=
  (f_X11_refuse μ_15 k0 (1 : Int32)).bind fun p17 =>
    some (p17.1, p17.2)
def f_X11_as (μ : Mem) (k0 : Nat) (a1 : Int32) (a2 : Int32) : Option (Int32 × Mem) :=
  (f_X11_isDebtor μ k0 a1).bind fun r2 =>
    if r2 = 0 then
      f_X11_as_j15 μ k0 a1 a2
    else
      (f_X11_isKind a2).bind fun r9 =>
        if ¬ r9 = 0 then
          if ib a1 4 then
            (f_X0_is μ (rf (rf (rf (rf k0 0) 3) 0) a1.toNatClampNeg) a2).bind fun r36 =>
              if r36 = 0 then
                (f_X11_refuse μ k0 (5 : Int32)).bind fun p51 =>
                  some (p51.1, p51.2)
              else
                some (rd μ (rf (rf (rf (rf k0 0) 3) 0) a1.toNatClampNeg) 5, μ)
          else none
        else
          f_X11_as_j15 μ k0 a1 a2
def f_X11_lend_j19 (μ_19 : Mem) (k0 : Nat) (a1 : Int32) (a2 : Int32) : Option (Int32 × Mem) :=
  (f_X11_refuse μ_19 k0 (1 : Int32)).bind fun p21 =>
    some (p21.1, p21.2)
def f_X11_lend (μ : Mem) (k0 : Nat) (a1 : Int32) (a2 : Int32) : Option (Int32 × Mem) :=
  (f_X11_isDebtor μ k0 a1).bind fun r2 =>
    if r2 = 0 then
      f_X11_lend_j19 μ k0 a1 a2
    else
      (f_X11_among a2 (1 : Int32) (999 : Int32)).bind fun r13 =>
        if ¬ r13 = 0 then
          if ib a1 4 then
            if (rd μ (rf (rf (rf (rf k0 0) 3) 0) a1.toNatClampNeg) 7) = 0 then
              (f_X0_owe μ (rf (rf (rf (rf k0 0) 3) 0) a1.toNatClampNeg) a2).bind fun μ53 =>
                some (rd μ53 (rf (rf (rf (rf k0 0) 3) 0) a1.toNatClampNeg) 6, μ53)
            else
              (f_X11_refuse μ k0 (3 : Int32)).bind fun p47 =>
                some (p47.1, p47.2)
          else none
        else
          f_X11_lend_j19 μ k0 a1 a2
def f_X11_canTell (μ : Mem) (k0 : Nat) (a1 : Int32) (a2 : Int32) : Option (Int32) :=
  (f_X11_isDebtor μ k0 a1).bind fun r2 =>
    if r2 = 0 then
      some (0 : Int32)
    else
      (f_X11_isFact μ k0 a2).bind fun r10 =>
        if r10 = 0 then
          some (0 : Int32)
        else
          if ib a1 4 then
            if ¬ (rd μ (rf (rf (rf (rf k0 0) 3) 0) a1.toNatClampNeg) 7) = 0 then
              some (0 : Int32)
            else
              (f_X8_mayTell μ (rf (rf k0 0) 3) a1).bind fun r42 =>
                if ¬ ((jshr r42 a2) &&& (1 : Int32)) = (1 : Int32) then
                  some (0 : Int32)
                else
                  some (1 : Int32)
          else none
def f_X11_tells_j16 (μ_16 : Mem) (k0 : Nat) (a1 : Int32) (a2 : Int32) : Option (Int32 × Mem) :=
  (f_X11_refuse μ_16 k0 (1 : Int32)).bind fun p18 =>
    some (p18.1, p18.2)
def f_X11_tells (μ : Mem) (k0 : Nat) (a1 : Int32) (a2 : Int32) : Option (Int32 × Mem) :=
  (f_X11_isDebtor μ k0 a1).bind fun r2 =>
    if r2 = 0 then
      f_X11_tells_j16 μ k0 a1 a2
    else
      (f_X11_isFact μ k0 a2).bind fun r10 =>
        if ¬ r10 = 0 then
          (f_X11_canTell μ k0 a1 a2).bind fun r25 =>
            if ¬ r25 = 0 then
              (f_X8_write μ (rf (rf k0 0) 3) a1 a2).bind fun μ46 =>
                if ib a1 4 then
                  some (rd μ46 (rf (rf (rf (rf k0 0) 3) 0) a1.toNatClampNeg) 6, μ46)
                else none
            else
              (f_X11_refuse μ k0 (3 : Int32)).bind fun p33 =>
                some (p33.1, p33.2)
        else
          f_X11_tells_j16 μ k0 a1 a2
def f_X11_pardon (μ : Mem) (k0 : Nat) (a1 : Int32) : Option (Int32 × Mem) :=
  (f_X11_isDebtor μ k0 a1).bind fun r2 =>
    if ¬ r2 = 0 then
      if ib a1 4 then
        if ¬ (rd μ (rf (rf (rf (rf k0 0) 3) 0) a1.toNatClampNeg) 7) = 0 then
          (f_X0_letOff μ (rf (rf (rf (rf k0 0) 3) 0) a1.toNatClampNeg)).bind fun μ46 =>
            some (rd μ (rf (rf (rf (rf k0 0) 3) 0) a1.toNatClampNeg) 3, μ46)
        else
          (f_X11_refuse μ k0 (3 : Int32)).bind fun p36 =>
            some (p36.1, p36.2)
      else none
    else
      (f_X11_refuse μ k0 (1 : Int32)).bind fun p10 =>
        some (p10.1, p10.2)
def f_X11_weeks (μ : Mem) (k0 : Nat) (a1 : Int32) : Option (Int32 × Mem) :=
  (f_X11_among a1 (1 : Int32) (60 : Int32)).bind fun r4 =>
    if ¬ r4 = 0 then
      if ((rd μ (rf (rf k0 0) 3) 4) + a1) ≤ (999 : Int32) then
        (f_X8_passWeeks μ (rf (rf k0 0) 3) a1).bind fun μ48 =>
          (f_X8_broken μ48 (rf (rf k0 0) 3)).bind fun r58 =>
            some (r58, μ48)
      else
        (f_X11_refuse μ k0 (3 : Int32)).bind fun p36 =>
          some (p36.1, p36.2)
    else
      (f_X11_refuse μ k0 (1 : Int32)).bind fun p12 =>
        some (p12.1, p12.2)
def f_X11_loose_l42 (k0 : Nat) (a1 : Int32) (v2_42 : Int32) (μ_42 : Mem) : Option ((Int32 × Mem) ⊕ (Mem)) :=
  if a1 ≤ v2_42 then
    some (.inr μ_42)
  else
    (f_X10_lendByDraws μ_42 (rf k0 0)).bind fun μ51 =>
      (f_X8_passWeeks μ51 (rf (rf k0 0) 3) (1 : Int32)).bind fun μ62 =>
        some (.inl (v2_42 + 1, μ62))
def f_X11_loose (μ : Mem) (k0 : Nat) (a1 : Int32) : Option (Int32 × Mem) :=
  (f_X11_among a1 (1 : Int32) (60 : Int32)).bind fun r4 =>
    if ¬ r4 = 0 then
      if ((rd μ (rf (rf k0 0) 3) 4) + a1) ≤ (999 : Int32) then
        (lp (fun s => f_X11_loose_l42 k0 a1 s.1 s.2) FU ((0 : Int32), μ)).bind fun e42 =>
          (f_X8_broken e42 (rf (rf k0 0) 3)).bind fun r78 =>
            some (r78, e42)
      else
        (f_X11_refuse μ k0 (3 : Int32)).bind fun p36 =>
          some (p36.1, p36.2)
    else
      (f_X11_refuse μ k0 (1 : Int32)).bind fun p12 =>
        some (p12.1, p12.2)
def f_X11_then_j34 (μ_34 : Mem) (k0 : Nat) (a1 : Int32) (a2 : Int32) (a3 : Int32) : Option (Int32 × Mem) :=
  (f_X11_refuse μ_34 k0 (1 : Int32)).bind fun p36 =>
    some (p36.1, p36.2)
def f_X11_then (μ : Mem) (k0 : Nat) (a1 : Int32) (a2 : Int32) (a3 : Int32) : Option (Int32 × Mem) :=
  (f_X11_among a1 (0 : Int32) (60 : Int32)).bind fun r4 =>
    if r4 = 0 then
      f_X11_then_j34 μ k0 a1 a2 a3
    else
      (f_X11_isDebtor μ k0 a2).bind fun r12 =>
        if r12 = 0 then
          f_X11_then_j34 μ k0 a1 a2 a3
        else
          (f_X11_among a3 (2 : Int32) (7 : Int32)).bind fun r22 =>
            if r22 = 0 then
              f_X11_then_j34 μ k0 a1 a2 a3
            else
              if ¬ a3 = (6 : Int32) then
                (f_X8_copyFrom μ (rf k0 2) (rf (rf k0 0) 3)).bind fun μ51 =>
                  (f_X8_passWeeks μ51 (rf k0 2) a1).bind fun μ59 =>
                    (f_X11_stateOf μ59 (rf k0 2) a2 a3).bind fun r68 =>
                      some (r68, μ59)
              else
                f_X11_then_j34 μ k0 a1 a2 a3
def f_X11_feed_l46 (k0 : Nat) (a1 : Int64) (a3 : Int32) (k4_46 : Nat) (v5_46 : Int32) (μ_46 : Mem) : Option ((Int32 × Mem) ⊕ (Mem)) :=
  if a3 ≤ v5_46 then
    some (.inr μ_46)
  else
    (f_X7_add μ_46 k4_46 (((jlushr a1 ((8 : Int32) * v5_46)).toInt32) &&& (255 : Int32))).bind fun μ66 =>
      some (.inl (v5_46 + 1, μ66))
def f_X11_feed (μ : Mem) (k0 : Nat) (a1 : Int64) (a3 : Int32) : Option (Int32 × Mem) :=
  (f_X11_among a3 (1 : Int32) (8 : Int32)).bind fun r4 =>
    if ¬ r4 = 0 then
      if ((rd μ (rf (rf k0 0) 5) 1) + a3) ≤ (50 : Int32) then
        (lp (fun s => f_X11_feed_l46 k0 a1 a3 (rf (rf k0 0) 5) s.1 s.2) FU ((0 : Int32), μ)).bind fun e46 =>
          some (rd e46 (rf (rf k0 0) 5) 1, e46)
      else
        (f_X11_refuse μ k0 (4 : Int32)).bind fun p39 =>
          some (p39.1, p39.2)
    else
      (f_X11_refuse μ k0 (1 : Int32)).bind fun p12 =>
        some (p12.1, p12.2)
def f_X11_isUse (a0 : Int32) : Option (Int32) :=
  if a0 = 0 then
    some (1 : Int32)
  else
    if ¬ a0 = (1 : Int32) then
      some (0 : Int32)
    else
      some (1 : Int32)
def f_X11_lawOf (μ : Mem) (k0 : Nat) (a1 : Int32) : Option (Nat) :=
  if ¬ a1 = 0 then
    some (rf (rf k0 0) 2)
  else
    some (rf (rf k0 0) 1)
def f_X11_text (μ : Mem) (k0 : Nat) (a1 : Int32) : Option (Int32 × Mem) :=
  (f_X11_isUse a1).bind fun r1 =>
    if ¬ r1 = 0 then
      (f_X4_readAll μ (rf k0 4) (rf (rf k0 0) 5) a1).bind fun p25 =>
        (some (wr p25.2 (rf (rf k0 0) 5) 1 (0 : Int32))).bind fun m37 =>
          if p25.1 < 0 then
            (f_X11_lawOf m37 k0 a1).bind fun r51 =>
              if isT 2 r51 then
                (f_X2_take m37 r51 (rf (rf k0 4) 0) (rd m37 (rf k0 4) 1)).bind fun μ68 =>
                  some ((1 : Int32), μ68)
              else none
          else
            some ((-10 : Int32) - p25.1, m37)
    else
      (f_X11_refuse μ k0 (1 : Int32)).bind fun p9 =>
        some (p9.1, p9.2)
def f_X11_law (μ : Mem) (k0 : Nat) (a1 : Int32) (a2 : Int32) (a3 : Int32) (a4 : Int32) : Option (Int32 × Mem) :=
  (f_X11_isUse a1).bind fun r1 =>
    if r1 = 0 then
      (f_X11_refuse μ k0 (1 : Int32)).bind fun p24 =>
        some (p24.1, p24.2)
    else
      (f_X11_lawOf μ k0 a1).bind fun r9 =>
        if isT 2 r9 then
          (f_X2_gives μ r9 a2 a3 a4).bind fun p16 =>
            some (p16.1, p16.2)
        else none
def f_X11_searched_j104 (μ_104 : Mem) (k0 : Nat) (a1 : Int32) (a2 : Int32) (a3 : Int32) : Option (Int32 × Mem) :=
  (f_X11_refuse μ_104 k0 (2 : Int32)).bind fun p106 =>
    some (p106.1, p106.2)
def f_X11_searched_j18 (μ_18 : Mem) (k0 : Nat) (a1 : Int32) (a2 : Int32) (a3 : Int32) : Option (Int32 × Mem) :=
  (f_X11_refuse μ_18 k0 (1 : Int32)).bind fun p20 =>
    some (p20.1, p20.2)
def f_X11_searched (μ : Mem) (k0 : Nat) (a1 : Int32) (a2 : Int32) (a3 : Int32) : Option (Int32 × Mem) :=
  (f_X11_isDebtor μ k0 a1).bind fun r2 =>
    if r2 = 0 then
      f_X11_searched_j18 μ k0 a1 a2 a3
    else
      (f_X11_among a2 (-1 : Int32) (7 : Int32)).bind fun r12 =>
        if ¬ r12 = 0 then
          if ib a1 4 then
            if (rd μ (rf (rf (rf (rf k0 0) 3) 0) a1.toNatClampNeg) 7) = 0 then
              (f_X8_othersOf μ (rf (rf k0 0) 3) a1).bind fun r66 =>
                (f_X5_begin μ (rf k0 3) (rf (rf (rf (rf k0 0) 3) 0) a1.toNatClampNeg) r66 (rd μ (rf (rf k0 0) 3) 4) a3).bind fun μ80 =>
                  if (rd μ80 (rf k0 3) 1) < 0 then
                    f_X11_searched_j104 μ80 k0 a1 a2 a3
                  else
                    if a2 < (rd μ80 (rf k0 3) 1) then
                      if 0 ≤ a2 then
                        if ib a2 8 then
                          some (rd μ80 (rf (rf k0 3) 0) a2.toNatClampNeg, μ80)
                        else none
                      else
                        some (rd μ80 (rf k0 3) 1, μ80)
                    else
                      f_X11_searched_j104 μ80 k0 a1 a2 a3
            else
              (f_X11_refuse μ k0 (3 : Int32)).bind fun p48 =>
                some (p48.1, p48.2)
          else none
        else
          f_X11_searched_j18 μ k0 a1 a2 a3
def f_X11_served (μ : Mem) (k0 : Nat) (a1 : Int32) (a2 : Int32) : Option (Int32 × Mem) :=
  (f_X11_searched μ k0 a1 a2 (0 : Int32)).bind fun p4 =>
    some (p4.1, p4.2)
def f_X11_closed (μ : Mem) (k0 : Nat) (a1 : Int32) (a2 : Int32) : Option (Int32 × Mem) :=
  (f_X11_searched μ k0 a1 a2 (1 : Int32)).bind fun p4 =>
    some (p4.1, p4.2)
def f_X11_clashOf (μ : Mem) (k0 : Nat) (a1 : Int32) : Option (Int32 × Mem) :=
  (f_X11_among a1 (0 : Int32) ((jshl (1 : Int32) (rd μ (rf (rf k0 0) 0) 5)) - (1 : Int32))).bind fun r16 =>
    if ¬ r16 = 0 then
      (f_X1_firstClash μ (rf (rf k0 0) 0) a1).bind fun r36 =>
        if 0 ≤ r36 then
          some (r36, μ)
        else
          (f_X11_refuse μ k0 (2 : Int32)).bind fun p46 =>
            some (p46.1, p46.2)
    else
      (f_X11_refuse μ k0 (1 : Int32)).bind fun p24 =>
        some (p24.1, p24.2)
def f_X11_joined_j21 (μ_21 : Mem) (k0 : Nat) (a1 : Int32) (a2 : Int32) : Option (Int32 × Mem) :=
  (f_X11_refuse μ_21 k0 (1 : Int32)).bind fun p23 =>
    some (p23.1, p23.2)
def f_X11_joined (μ : Mem) (k0 : Nat) (a1 : Int32) (a2 : Int32) : Option (Int32 × Mem) :=
  (f_X11_isDebtor μ k0 a1).bind fun r2 =>
    if r2 = 0 then
      f_X11_joined_j21 μ k0 a1 a2
    else
      (f_X11_isDebtor μ k0 a2).bind fun r10 =>
        if r10 = 0 then
          f_X11_joined_j21 μ k0 a1 a2
        else
          if ¬ a1 = a2 then
            if ib a1 4 then
              if ib a2 4 then
                (f_X1_clashBetween μ (rf (rf k0 0) 0) (rd μ (rf (rf (rf (rf k0 0) 3) 0) a1.toNatClampNeg) 2) (rd μ (rf (rf (rf (rf k0 0) 3) 0) a2.toNatClampNeg) 2)).bind fun r70 =>
                  if r70 = 0 then
                    some ((rd μ (rf (rf (rf (rf k0 0) 3) 0) a1.toNatClampNeg) 2) ||| (rd μ (rf (rf (rf (rf k0 0) 3) 0) a2.toNatClampNeg) 2), μ)
                  else
                    (f_X11_refuse μ k0 (2 : Int32)).bind fun p78 =>
                      some (p78.1, p78.2)
              else none
            else none
          else
            f_X11_joined_j21 μ k0 a1 a2
def f_X11_weeksUntilFree_l16 (k0 : Nat) (a1 : Int32) (a2 : Int32) (v3_16 : Int32) (μ_16 : Mem) : Option ((Int32 × Mem) ⊕ ((Int32 × Mem) ⊕ (Mem))) :=
  if (60 : Int32) < v3_16 then
    some (.inr (.inr μ_16))
  else
    if ib a1 4 then
      if ¬ (rd μ_16 (rf (rf (rf k0 2) 0) a1.toNatClampNeg) 6) = 0 then
        (f_X8_passWeek μ_16 (rf k0 2) a1 a2).bind fun μ45 =>
          some (.inl (v3_16 + 1, μ45))
      else
        some (.inr (.inl (v3_16, μ_16)))
    else none
def f_X11_weeksUntilFree (μ : Mem) (k0 : Nat) (a1 : Int32) (a2 : Int32) : Option (Int32 × Mem) :=
  (f_X8_copyFrom μ (rf k0 2) (rf (rf k0 0) 3)).bind fun μ11 =>
    (lp (fun s => f_X11_weeksUntilFree_l16 k0 a1 a2 s.1 s.2) FU ((0 : Int32), μ11)).bind fun e16 =>
      Sum.elim (fun e16 =>
        some (e16.1, e16.2)
      )
      (fun e16 =>
        some ((-1 : Int32), e16)
      ) e16
def f_X11_bestRate_l8 (k0 : Nat) (a1 : Int32) (v2_8 : Int32) (v3_8 : Int32) (v4_8 : Int32) (μ_8 : Mem) : Option ((Int32 × Int32 × Int32 × Mem) ⊕ (Int32 × Mem)) :=
  if (4 : Int32) < v4_8 then
    some (.inr (v2_8, μ_8))
  else
    (f_X11_weeksUntilFree μ_8 k0 a1 v4_8).bind fun p18 =>
      if p18.1 < 0 then
        some (.inl (v2_8, v3_8, v4_8 + 1, p18.2))
      else
        if v3_8 ≤ p18.1 then
          some (.inl (v2_8, v3_8, v4_8 + 1, p18.2))
        else
          some (.inl (v4_8, p18.1, v4_8 + 1, p18.2))
def f_X11_bestRate (μ : Mem) (k0 : Nat) (a1 : Int32) : Option (Int32 × Mem) :=
  (lp (fun s => f_X11_bestRate_l8 k0 a1 s.1 s.2.1 s.2.2.1 s.2.2.2) FU ((-1 : Int32), (61 : Int32), (1 : Int32), μ)).bind fun e8 =>
    some (e8.1, e8.2)
def f_X11_rated_j50 (μ_50 : Mem) (k0 : Nat) (a1 : Int32) (a2 : Int32) (a3 : Int32) (vt0_50 : Int32) : Option (Int32 × Mem) :=
  if 0 ≤ vt0_50 then
    some (vt0_50, μ_50)
  else
    (f_X11_refuse μ_50 k0 (2 : Int32)).bind fun p59 =>
      some (p59.1, p59.2)
def f_X11_rated_j26 (μ_26 : Mem) (k0 : Nat) (a1 : Int32) (a2 : Int32) (a3 : Int32) : Option (Int32 × Mem) :=
  (f_X11_refuse μ_26 k0 (1 : Int32)).bind fun p28 =>
    some (p28.1, p28.2)
def f_X11_rated (μ : Mem) (k0 : Nat) (a1 : Int32) (a2 : Int32) (a3 : Int32) : Option (Int32 × Mem) :=
  (f_X11_isDebtor μ k0 a1).bind fun r2 =>
    if r2 = 0 then
      f_X11_rated_j26 μ k0 a1 a2 a3
    else
      (f_X11_among a2 (1 : Int32) (4 : Int32)).bind fun r11 =>
        if r11 = 0 then
          f_X11_rated_j26 μ k0 a1 a2 a3
        else
          (f_X11_among a3 (0 : Int32) (1 : Int32)).bind fun r20 =>
            if ¬ r20 = 0 then
              if ¬ a3 = 0 then
                (f_X11_bestRate μ k0 a1).bind fun p47 =>
                  f_X11_rated_j50 p47.2 k0 a1 a2 a3 p47.1
              else
                (f_X11_weeksUntilFree μ k0 a1 a2).bind fun p39 =>
                  f_X11_rated_j50 p39.2 k0 a1 a2 a3 p39.1
            else
              f_X11_rated_j26 μ k0 a1 a2 a3
def f_X11_isSheet (a0 : Int32) : Option (Int32) :=
  (f_X11_among a0 (0 : Int32) (3 : Int32)).bind fun r3 =>
    if bz r3 then
      some r3
    else none
def f_X11_wouldTell (μ : Mem) (k0 : Nat) (a1 : Int32) (a2 : Int32) (k3 : Nat) : Option (Int32 × Mem) :=
  (f_X8_copyFrom μ (rf k0 2) (rf (rf k0 0) 3)).bind fun μ11 =>
    if ib a1 4 then
      (some (wr μ11 (rf (rf (rf k0 2) 0) a1.toNatClampNeg) 4 a2)).bind fun m35 =>
        (f_X8_passWeeks m35 (rf k0 2) (60 : Int32)).bind fun μ44 =>
          (f_X0_alikeFrom μ44 (rf (rf (rf k0 2) 0) a1.toNatClampNeg) (rd μ11 (rf (rf (rf k0 2) 0) a1.toNatClampNeg) 3) k3).bind fun r52 =>
            if ¬ r52 = (rd μ44 k3 2) then
              some ((0 : Int32), μ44)
            else
              some ((1 : Int32), μ44)
    else none
def f_X11_explained_l41 (k0 : Nat) (a1 : Int32) (a2 : Int32) (v3_41 : Int32) (μ_41 : Mem) : Option ((Int32 × Mem) ⊕ ((Int32 × Mem) ⊕ (Mem))) :=
  if (7 : Int32) ≤ v3_41 then
    some (.inr (.inr μ_41))
  else
    if ib a2 4 then
      (f_X11_wouldTell μ_41 k0 a1 v3_41 (rf (rf k0 6) a2.toNatClampNeg)).bind fun p56 =>
        if p56.1 = 0 then
          some (.inl (v3_41 + 1, p56.2))
        else
          some (.inr (.inl (v3_41, p56.2)))
    else none
def f_X11_explained_j15 (μ_15 : Mem) (k0 : Nat) (a1 : Int32) (a2 : Int32) : Option (Int32 × Mem) :=
  (f_X11_refuse μ_15 k0 (1 : Int32)).bind fun p17 =>
    some (p17.1, p17.2)
def f_X11_explained (μ : Mem) (k0 : Nat) (a1 : Int32) (a2 : Int32) : Option (Int32 × Mem) :=
  (f_X11_isDebtor μ k0 a1).bind fun r2 =>
    if r2 = 0 then
      f_X11_explained_j15 μ k0 a1 a2
    else
      (f_X11_isSheet a2).bind fun r9 =>
        if ¬ r9 = 0 then
          if ib a2 4 then
            (f_X6_isMissing μ (rf (rf k0 6) a2.toNatClampNeg)).bind fun r27 =>
              if r27 = 0 then
                (lp (fun s => f_X11_explained_l41 k0 a1 a2 s.1 s.2) FU ((0 : Int32), μ)).bind fun e41 =>
                  Sum.elim (fun e41 =>
                    some (e41.1, e41.2)
                  )
                  (fun e41 =>
                    (f_X11_refuse e41 k0 (2 : Int32)).bind fun p72 =>
                      some (p72.1, p72.2)
                  ) e41
              else
                (f_X11_refuse μ k0 (2 : Int32)).bind fun p35 =>
                  some (p35.1, p35.2)
          else none
        else
          f_X11_explained_j15 μ k0 a1 a2
def f_X11_isFigure (a0 : Int32) : Option (Int32) :=
  (f_X11_among a0 (0 : Int32) (4 : Int32)).bind fun r3 =>
    if bz r3 then
      some r3
    else none
def f_X11_meeting_j30 (μ_30 : Mem) (k0 : Nat) (a1 : Int32) (a2 : Int32) (a3 : Int32) : Option (Int32 × Mem) :=
  (f_X11_refuse μ_30 k0 (1 : Int32)).bind fun p32 =>
    some (p32.1, p32.2)
def f_X11_meeting (μ : Mem) (k0 : Nat) (a1 : Int32) (a2 : Int32) (a3 : Int32) : Option (Int32 × Mem) :=
  (f_X11_among a1 (0 : Int32) (999 : Int32)).bind fun r5 =>
    if r5 = 0 then
      f_X11_meeting_j30 μ k0 a1 a2 a3
    else
      (f_X11_isFigure a2).bind fun r12 =>
        if r12 = 0 then
          f_X11_meeting_j30 μ k0 a1 a2 a3
        else
          (f_X11_isFigure a3).bind fun r19 =>
            if r19 = 0 then
              f_X11_meeting_j30 μ k0 a1 a2 a3
            else
              if ¬ a2 = a3 then
                if (rd μ (rf (rf k0 0) 4) 3) < (12 : Int32) then
                  (f_X3_add μ (rf (rf k0 0) 4) a1 a2 a3).bind fun p67 =>
                    some (p67.1, p67.2)
                else
                  (f_X11_refuse μ k0 (4 : Int32)).bind fun p53 =>
                    some (p53.1, p53.2)
              else
                f_X11_meeting_j30 μ k0 a1 a2 a3
def f_X11_knows_j18 (μ_18 : Mem) (k0 : Nat) (a1 : Int32) (a2 : Int32) : Option (Int32 × Mem) :=
  (f_X11_refuse μ_18 k0 (1 : Int32)).bind fun p20 =>
    some (p20.1, p20.2)
def f_X11_knows (μ : Mem) (k0 : Nat) (a1 : Int32) (a2 : Int32) : Option (Int32 × Mem) :=
  (f_X11_isFigure a1).bind fun r1 =>
    if r1 = 0 then
      f_X11_knows_j18 μ k0 a1 a2
    else
      (f_X11_among a2 (0 : Int32) (999 : Int32)).bind fun r12 =>
        if ¬ r12 = 0 then
          (f_X10_gatherKnown μ (rf k0 0) a2 (rf k0 7)).bind fun μ33 =>
            if ib a1 5 then
              some (rd μ33 (rf k0 7) a1.toNatClampNeg, μ33)
            else none
        else
          f_X11_knows_j18 μ k0 a1 a2
def f_X11_common_l46 (μ_46 : Mem) (k0 : Nat) (a1 : Int32) (a2 : Int32) (v3_46 : Int32) (v4_46 : Int32) : Option ((Int32 × Int32) ⊕ (Int32)) :=
  if (5 : Int32) ≤ v4_46 then
    some (.inr v3_46)
  else
    if ¬ ((jshr a1 v4_46) &&& (1 : Int32)) = (1 : Int32) then
      some (.inl (v3_46, v4_46 + 1))
    else
      if ib v4_46 5 then
        some (.inl (v3_46 &&& (rd μ_46 (rf k0 7) v4_46.toNatClampNeg), v4_46 + 1))
      else none
def f_X11_common_j21 (μ_21 : Mem) (k0 : Nat) (a1 : Int32) (a2 : Int32) : Option (Int32 × Mem) :=
  (f_X11_refuse μ_21 k0 (1 : Int32)).bind fun p23 =>
    some (p23.1, p23.2)
def f_X11_common (μ : Mem) (k0 : Nat) (a1 : Int32) (a2 : Int32) : Option (Int32 × Mem) :=
  (f_X11_among a1 (1 : Int32) (31 : Int32)).bind fun r4 =>
    if r4 = 0 then
      f_X11_common_j21 μ k0 a1 a2
    else
      (f_X11_among a2 (0 : Int32) (999 : Int32)).bind fun r15 =>
        if ¬ r15 = 0 then
          (f_X10_gatherKnown μ (rf k0 0) a2 (rf k0 7)).bind fun μ36 =>
            (lp (fun s => f_X11_common_l46 μ36 k0 a1 a2 s.1 s.2) FU ((255 : Int32), (0 : Int32))).bind fun e46 =>
              some (e46, μ36)
        else
          f_X11_common_j21 μ k0 a1 a2
def f_X11_since_j15 (μ_15 : Mem) (k0 : Nat) (a1 : Int32) (a2 : Int32) : Option (Int32 × Mem) :=
  (f_X11_refuse μ_15 k0 (1 : Int32)).bind fun p17 =>
    some (p17.1, p17.2)
def f_X11_since (μ : Mem) (k0 : Nat) (a1 : Int32) (a2 : Int32) : Option (Int32 × Mem) :=
  (f_X11_isFigure a1).bind fun r1 =>
    if r1 = 0 then
      f_X11_since_j15 μ k0 a1 a2
    else
      (f_X11_isFact μ k0 a2).bind fun r9 =>
        if ¬ r9 = 0 then
          (f_X10_gatherFirstWeeks μ (rf k0 0) a2 (rf k0 7)).bind fun μ30 =>
            if ib a1 5 then
              if (rd μ30 (rf k0 7) a1.toNatClampNeg) ≤ (999 : Int32) then
                if ib a1 5 then
                  some (rd μ30 (rf k0 7) a1.toNatClampNeg, μ30)
                else none
              else
                (f_X11_refuse μ30 k0 (2 : Int32)).bind fun p47 =>
                  some (p47.1, p47.2)
            else none
        else
          f_X11_since_j15 μ k0 a1 a2
def f_X11_seed (μ : Mem) (k0 : Nat) (a1 : Int32) : Option (Int32 × Mem) :=
  (some (wr μ (rf k0 0) 8 a1)).bind fun m13 =>
    some (rd μ (rf k0 0) 8, m13)
def f_X11_voice_j17 (μ_17 : Mem) (k0 : Nat) (a1 : Int32) (a2 : Int32) (a3 : Int32) : Option (Int32 × Mem) :=
  (f_X11_refuse μ_17 k0 (1 : Int32)).bind fun p19 =>
    some (p19.1, p19.2)
def f_X11_voice (μ : Mem) (k0 : Nat) (a1 : Int32) (a2 : Int32) (a3 : Int32) : Option (Int32 × Mem) :=
  (f_X11_isDebtor μ k0 a1).bind fun r2 =>
    if r2 = 0 then
      f_X11_voice_j17 μ k0 a1 a2 a3
    else
      (f_X11_among a2 (0 : Int32) (3 : Int32)).bind fun r11 =>
        if ¬ r11 = 0 then
          if ib a1 4 then
            (f_X9_begin μ (rf k0 5) (rd μ (rf (rf (rf (rf k0 0) 3) 0) a1.toNatClampNeg) 4) a1 (rd μ (rf (rf (rf (rf k0 0) 3) 0) a1.toNatClampNeg) 5) a2 a3).bind fun p54 =>
              some (p54.1, p54.2)
          else none
        else
          f_X11_voice_j17 μ k0 a1 a2 a3
def f_X11_trace (μ : Mem) (k0 : Nat) (a1 : Int32) : Option (Int32 × Mem) :=
  (f_X11_among a1 (0 : Int32) ((rd μ (rf k0 5) 1) - (1 : Int32))).bind fun r11 =>
    if r11 = 0 then
      (f_X11_refuse μ k0 (2 : Int32)).bind fun p31 =>
        some (p31.1, p31.2)
    else
      if ib a1 40 then
        some (rd μ (rf (rf k0 5) 0) a1.toNatClampNeg, μ)
      else none
def f_X11_sheet_j81 (μ_81 : Mem) (k0 : Nat) (a1 : Int32) (a2 : Int32) (a3 : Int32) (kt0_81 : Nat) (vt1_81 : Int32) (vt2_81 : Int32) : Option (Int32 × Mem) :=
  (f_X6_begin μ_81 kt0_81 vt1_81 vt2_81).bind fun μ81 =>
    some ((1 : Int32), μ81)
def f_X11_sheet_j65 (μ_65 : Mem) (k0 : Nat) (a1 : Int32) (a2 : Int32) (a3 : Int32) : Option (Int32 × Mem) :=
  if ib a1 4 then
    if ¬ a2 = 0 then
      f_X11_sheet_j81 μ_65 k0 a1 a2 a3 (rf (rf k0 6) a1.toNatClampNeg) a2 a3
    else
      f_X11_sheet_j81 μ_65 k0 a1 a2 a3 (rf (rf k0 6) a1.toNatClampNeg) a2 (0 : Int32)
  else none
def f_X11_sheet_j49 (μ_49 : Mem) (k0 : Nat) (a1 : Int32) (a2 : Int32) (a3 : Int32) : Option (Int32 × Mem) :=
  if a2 = 0 then
    f_X11_sheet_j65 μ_49 k0 a1 a2 a3
  else
    if a3 ≤ (40 : Int32) then
      f_X11_sheet_j65 μ_49 k0 a1 a2 a3
    else
      (f_X11_refuse μ_49 k0 (1 : Int32)).bind fun p61 =>
        some (p61.1, p61.2)
def f_X11_sheet_j35 (μ_35 : Mem) (k0 : Nat) (a1 : Int32) (a2 : Int32) (a3 : Int32) : Option (Int32 × Mem) :=
  if a2 = 0 then
    f_X11_sheet_j49 μ_35 k0 a1 a2 a3
  else
    if 0 ≤ a3 then
      f_X11_sheet_j49 μ_35 k0 a1 a2 a3
    else
      (f_X11_refuse μ_35 k0 (3 : Int32)).bind fun p45 =>
        some (p45.1, p45.2)
def f_X11_sheet_j29 (μ_29 : Mem) (k0 : Nat) (a1 : Int32) (a2 : Int32) (a3 : Int32) : Option (Int32 × Mem) :=
  (f_X11_refuse μ_29 k0 (1 : Int32)).bind fun p31 =>
    some (p31.1, p31.2)
def f_X11_sheet (μ : Mem) (k0 : Nat) (a1 : Int32) (a2 : Int32) (a3 : Int32) : Option (Int32 × Mem) :=
  (f_X11_isSheet a1).bind fun r1 =>
    if r1 = 0 then
      f_X11_sheet_j29 μ k0 a1 a2 a3
    else
      if a2 = 0 then
        f_X11_sheet_j35 μ k0 a1 a2 a3
      else
        if a2 = (8 : Int32) then
          f_X11_sheet_j35 μ k0 a1 a2 a3
        else
          if a2 = (16 : Int32) then
            f_X11_sheet_j35 μ k0 a1 a2 a3
          else
            if a2 = (32 : Int32) then
              f_X11_sheet_j35 μ k0 a1 a2 a3
            else
              f_X11_sheet_j29 μ k0 a1 a2 a3
def f_X11_put (μ : Mem) (k0 : Nat) (a1 : Int32) (a2 : Int32) (a3 : Int32) : Option (Int32 × Mem) :=
  (f_X11_isSheet a1).bind fun r1 =>
    if ¬ r1 = 0 then
      if ib a1 4 then
        (f_X6_isMissing μ (rf (rf k0 6) a1.toNatClampNeg)).bind fun r23 =>
          if r23 = 0 then
            (f_X11_among a2 (0 : Int32) ((rd μ (rf (rf k0 6) a1.toNatClampNeg) 2) - (1 : Int32))).bind fun r44 =>
              if ¬ r44 = 0 then
                (f_X6_lowest μ (rf (rf k0 6) a1.toNatClampNeg) a3).bind fun r65 =>
                  if ib a2 40 then
                    (some (wr μ (rf (rf (rf k0 6) a1.toNatClampNeg) 0) a2.toNatClampNeg r65)).bind fun m68 =>
                      some ((1 : Int32), m68)
                  else none
              else
                (f_X11_refuse μ k0 (1 : Int32)).bind fun p52 =>
                  some (p52.1, p52.2)
          else
            (f_X11_refuse μ k0 (2 : Int32)).bind fun p31 =>
              some (p31.1, p31.2)
      else none
    else
      (f_X11_refuse μ k0 (1 : Int32)).bind fun p9 =>
        some (p9.1, p9.2)
def f_X11_move_j100 (μ_100 : Mem) (k0 : Nat) (a1 : Int32) (a2 : Int32) (a3 : Int32) (a4 : Int32) (a5 : Int32) : Option (Int32 × Mem) :=
  (f_X11_refuse μ_100 k0 (1 : Int32)).bind fun p102 =>
    some (p102.1, p102.2)
def f_X11_move_j52 (μ_52 : Mem) (k0 : Nat) (a1 : Int32) (a2 : Int32) (a3 : Int32) (a4 : Int32) (a5 : Int32) : Option (Int32 × Mem) :=
  (f_X11_refuse μ_52 k0 (2 : Int32)).bind fun p54 =>
    some (p54.1, p54.2)
def f_X11_move_j14 (μ_14 : Mem) (k0 : Nat) (a1 : Int32) (a2 : Int32) (a3 : Int32) (a4 : Int32) (a5 : Int32) : Option (Int32 × Mem) :=
  (f_X11_refuse μ_14 k0 (1 : Int32)).bind fun p16 =>
    some (p16.1, p16.2)
def f_X11_move (μ : Mem) (k0 : Nat) (a1 : Int32) (a2 : Int32) (a3 : Int32) (a4 : Int32) (a5 : Int32) : Option (Int32 × Mem) :=
  (f_X11_isSheet a1).bind fun r1 =>
    if r1 = 0 then
      f_X11_move_j14 μ k0 a1 a2 a3 a4 a5
    else
      (f_X11_isSheet a3).bind fun r8 =>
        if ¬ r8 = 0 then
          if ib a1 4 then
            if ib a3 4 then
              (f_X6_isMissing μ (rf (rf k0 6) a1.toNatClampNeg)).bind fun r38 =>
                if ¬ r38 = 0 then
                  f_X11_move_j52 μ k0 a1 a2 a3 a4 a5
                else
                  (f_X6_isMissing μ (rf (rf k0 6) a3.toNatClampNeg)).bind fun r46 =>
                    if r46 = 0 then
                      if (rd μ (rf (rf k0 6) a1.toNatClampNeg) 1) = (rd μ (rf (rf k0 6) a3.toNatClampNeg) 1) then
                        (f_X6_holds μ (rf (rf k0 6) a1.toNatClampNeg) a2 a5).bind fun r82 =>
                          if r82 = 0 then
                            f_X11_move_j100 μ k0 a1 a2 a3 a4 a5
                          else
                            (f_X6_holds μ (rf (rf k0 6) a3.toNatClampNeg) a4 a5).bind fun r94 =>
                              if ¬ r94 = 0 then
                                if cb a2 a4 a5 (ln (rf (rf (rf k0 6) a1.toNatClampNeg) 0)) (ln (rf (rf (rf k0 6) a3.toNatClampNeg) 0)) then
                                  (some (cpy μ (rf (rf (rf k0 6) a1.toNatClampNeg) 0) a2.toNatClampNeg (rf (rf (rf k0 6) a3.toNatClampNeg) 0) a4.toNatClampNeg a5.toNatClampNeg)).bind fun m121 =>
                                    some (a5, m121)
                                else none
                              else
                                f_X11_move_j100 μ k0 a1 a2 a3 a4 a5
                      else
                        (f_X11_refuse μ k0 (5 : Int32)).bind fun p73 =>
                          some (p73.1, p73.2)
                    else
                      f_X11_move_j52 μ k0 a1 a2 a3 a4 a5
            else none
          else none
        else
          f_X11_move_j14 μ k0 a1 a2 a3 a4 a5
def f_X11_reads_l35 (k0 : Nat) (a1 : Int32) (k2_35 : Nat) (v3_35 : Int32) (μ_35 : Mem) : Option ((Int32 × Mem) ⊕ (Int32 × Mem)) :=
  if (rd μ_35 k2_35 2) ≤ v3_35 then
    some (.inr (v3_35, μ_35))
  else
    if ib v3_35 40 then
      (f_X11_canTell μ_35 k0 (0 : Int32) (rd μ_35 (rf k2_35 0) v3_35.toNatClampNeg)).bind fun r51 =>
        if r51 = 0 then
          some (.inr (v3_35, μ_35))
        else
          if ib v3_35 40 then
            (f_X8_write μ_35 (rf (rf k0 0) 3) (0 : Int32) (rd μ_35 (rf k2_35 0) v3_35.toNatClampNeg)).bind fun μ71 =>
              some (.inl (v3_35 + 1, μ71))
          else none
    else none
def f_X11_reads (μ : Mem) (k0 : Nat) (a1 : Int32) : Option (Int32 × Mem) :=
  (f_X11_isSheet a1).bind fun r1 =>
    if ¬ r1 = 0 then
      if ib a1 4 then
        (f_X6_isMissing μ (rf (rf k0 6) a1.toNatClampNeg)).bind fun r21 =>
          if r21 = 0 then
            (lp (fun s => f_X11_reads_l35 k0 a1 (rf (rf k0 6) a1.toNatClampNeg) s.1 s.2) FU ((0 : Int32), μ)).bind fun e35 =>
              some (e35.1, e35.2)
          else
            (f_X11_refuse μ k0 (2 : Int32)).bind fun p29 =>
              some (p29.1, p29.2)
      else none
    else
      (f_X11_refuse μ k0 (1 : Int32)).bind fun p9 =>
        some (p9.1, p9.2)
def f_X11_judge_j15 (μ_15 : Mem) (k0 : Nat) (a1 : Int32) (a2 : Int32) : Option (Int32 × Mem) :=
  (f_X11_refuse μ_15 k0 (1 : Int32)).bind fun p17 =>
    some (p17.1, p17.2)
def f_X11_judge (μ : Mem) (k0 : Nat) (a1 : Int32) (a2 : Int32) : Option (Int32 × Mem) :=
  (f_X11_isSheet a1).bind fun r1 =>
    if r1 = 0 then
      f_X11_judge_j15 μ k0 a1 a2
    else
      (f_X11_isDebtor μ k0 a2).bind fun r9 =>
        if ¬ r9 = 0 then
          if ib a1 4 then
            (f_X6_isMissing μ (rf (rf k0 6) a1.toNatClampNeg)).bind fun r29 =>
              if r29 = 0 then
                if ib a2 4 then
                  (f_X0_alikeFrom μ (rf (rf (rf (rf k0 0) 3) 0) a2.toNatClampNeg) (0 : Int32) (rf (rf k0 6) a1.toNatClampNeg)).bind fun r59 =>
                    if ¬ r59 = (rd μ (rf (rf k0 6) a1.toNatClampNeg) 2) then
                      some (r59, μ)
                    else
                      if ¬ r59 = (rd μ (rf (rf (rf (rf k0 0) 3) 0) a2.toNatClampNeg) 3) then
                        some (r59, μ)
                      else
                        some ((-1 : Int32), μ)
                else none
              else
                (f_X11_refuse μ k0 (2 : Int32)).bind fun p37 =>
                  some (p37.1, p37.2)
          else none
        else
          f_X11_judge_j15 μ k0 a1 a2
def f_X11_image (μ : Mem) (k0 : Nat) : Option (Int32 × Mem) :=
  (f_X10_copyFrom μ (rf k0 1) (rf k0 0)).bind fun μ8 =>
    (some (wr μ8 k0 9 ((rd μ8 k0 9) + (1 : Int32)))).bind fun m18 =>
      some (rd m18 k0 9, m18)
def f_X11_restore (μ : Mem) (k0 : Nat) : Option (Int32 × Mem) :=
  if ¬ (rd μ k0 9) = 0 then
    (f_X10_copyFrom μ (rf k0 0) (rf k0 1)).bind fun μ21 =>
      some (rd μ21 (rf (rf k0 0) 3) 4, μ21)
  else
    (f_X11_refuse μ k0 (2 : Int32)).bind fun p9 =>
      some (p9.1, p9.2)
def f_X11_tell (μ : Mem) (k0 : Nat) (a1 : Int32) : Option (Int32 × Mem) :=
  if (rd μ (rf k0 0) 7) < (20 : Int32) then
    if ib (rd μ (rf k0 0) 7) 20 then
      (some (wr μ (rf (rf k0 0) 6) (rd μ (rf k0 0) 7).toNatClampNeg a1)).bind fun m33 =>
        (some (wr m33 (rf k0 0) 7 ((rd m33 (rf k0 0) 7) + (1 : Int32)))).bind fun m44 =>
          some (rd m44 (rf k0 0) 7, m44)
    else none
  else
    (f_X11_refuse μ k0 (4 : Int32)).bind fun p14 =>
      some (p14.1, p14.2)
def f_X11_check_l32 (k0 : Nat) (v1_32 : Int32) (v2_32 : Int32) (μ_32 : Mem) : Option ((Int32 × Mem) ⊕ ((Int32 × Mem) ⊕ (Mem))) :=
  if v1_32 ≤ v2_32 then
    some (.inr (.inr μ_32))
  else
    if (20 : Int32) ≤ v2_32 then
      some (.inr (.inr μ_32))
    else
      (f_X8_passWeeks μ_32 (rf k0 2) (1 : Int32)).bind fun μ48 =>
        (f_X8_debts μ48 (rf k0 2)).bind fun r55 =>
          if ib v2_32 20 then
            if r55 = (rd μ48 (rf (rf k0 0) 6) v2_32.toNatClampNeg) then
              some (.inl (v2_32 + 1, μ48))
            else
              some (.inr (.inl (v2_32, μ48)))
          else none
def f_X11_check (μ : Mem) (k0 : Nat) : Option (Int32 × Mem) :=
  (some (wr μ (rf k0 0) 7 (0 : Int32))).bind fun m13 =>
    (f_X8_copyFrom m13 (rf k0 2) (rf (rf k0 0) 3)).bind fun μ27 =>
      (lp (fun s => f_X11_check_l32 k0 (rd μ (rf k0 0) 7) s.1 s.2) FU ((0 : Int32), μ27)).bind fun e32 =>
        Sum.elim (fun e32 =>
          some ((1 : Int32) + e32.1, e32.2)
        )
        (fun e32 =>
          some ((0 : Int32), e32)
        ) e32
def f_X11_count (μ : Mem) (k0 : Nat) (a1 : Int32) : Option (Int32 × Mem) :=
  if a1 = 0 then
    some (rd μ (rf (rf k0 0) 0) 5, μ)
  else
    if a1 = 1 then
      some (rd μ (rf (rf k0 0) 3) 3, μ)
    else
      if a1 = 2 then
        some (rd μ (rf (rf k0 0) 3) 4, μ)
      else
        if a1 = 3 then
          some (rd μ (rf (rf k0 0) 4) 3, μ)
        else
          if a1 = 4 then
            (f_X8_debts μ (rf (rf k0 0) 3)).bind fun r107 =>
              some (r107, μ)
          else
            if a1 = 5 then
              (f_X8_broken μ (rf (rf k0 0) 3)).bind fun r118 =>
                some (r118, μ)
            else
              if a1 = 6 then
                some (rd μ (rf (rf k0 0) 5) 1, μ)
              else
                if a1 = 7 then
                  some (rd μ (rf k0 0) 7, μ)
                else
                  if a1 = 8 then
                    some (rd μ (rf k0 5) 1, μ)
                  else
                    if a1 = 9 then
                      some (rd μ (rf k0 0) 8, μ)
                    else
                      (f_X11_refuse μ k0 (1 : Int32)).bind fun p159 =>
                        some (p159.1, p159.2)
def f_X11_told (μ : Mem) (k0 : Nat) (a1 : Int32) : Option (Int32 × Mem) :=
  (f_X11_among a1 (1 : Int32) (5 : Int32)).bind fun r3 =>
    if r3 = 0 then
      (f_X11_refuse μ k0 (1 : Int32)).bind fun p20 =>
        some (p20.1, p20.2)
    else
      if ib a1 6 then
        some (rd μ (rf k0 8) a1.toNatClampNeg, μ)
      else none
def f_X12_finds (μ : Mem) (k0 : Nat) (a1 : Int32) : Option (Int32 × Mem) :=
  if ib a1 6 then
    if ib a1 6 then
      (some (wr μ (rf k0 4) a1.toNatClampNeg ((rd μ (rf k0 4) a1.toNatClampNeg) + (1 : Int32)))).bind fun m9 =>
        some ((-1000000000 : Int32) - a1, m9)
    else none
  else none
def f_X12_in (a0 : Int64) (a2 : Int64) (a4 : Int64) : Option (Int32) :=
  if (lg_cmp a0 a2) < 0 then
    some (0 : Int32)
  else
    if 0 < (lg_cmp a0 a4) then
      some (0 : Int32)
    else
      some (1 : Int32)
def f_X12_held (a0 : Int32) (a1 : Int32) (a2 : Int32) : Option (Int32) :=
  if a1 ≤ a0 then
    if a0 ≤ a2 then
      some a0
    else
      some a2
  else
    some a1
def f_X12_isFact (μ : Mem) (k0 : Nat) (a1 : Int32) : Option (Int32) :=
  (f_X12_in a1.toInt64 (0 : Int64) (((rd μ (rf k0 0) (0 : Int32).toNatClampNeg) - (1 : Int32)).toInt64)).bind fun r12 =>
    if bz r12 then
      some r12
    else none
def f_X12_isDebtor (μ : Mem) (k0 : Nat) (a1 : Int32) : Option (Int32) :=
  (f_X12_in a1.toInt64 (0 : Int64) (((rd μ (rf k0 0) (1 : Int32).toNatClampNeg) - (1 : Int32)).toInt64)).bind fun r12 =>
    if bz r12 then
      some r12
    else none
def f_X12_its (μ : Mem) (k0 : Nat) (a1 : Int32) (a2 : Int32) : Option (Int32) :=
  if ib (((10 : Int32) + ((5 : Int32) * a1)) + a2) 342 then
    some (rd μ (rf k0 0) (((10 : Int32) + ((5 : Int32) * a1)) + a2).toNatClampNeg)
  else none
def f_X12_puts (μ : Mem) (k0 : Nat) (a1 : Int32) (a2 : Int32) (a3 : Int32) : Option (Mem) :=
  if ib (((10 : Int32) + ((5 : Int32) * a1)) + a2) 342 then
    (some (wr μ (rf k0 0) (((10 : Int32) + ((5 : Int32) * a1)) + a2).toNatClampNeg a3)).bind fun m13 =>
      some m13
  else none
def f_X12_of (μ : Mem) (k0 : Nat) (a1 : Int32) (a2 : Int32) : Option (Int32) :=
  if ib (((50 : Int32) + ((21 : Int32) * a1)) + a2) 342 then
    some (rd μ (rf k0 0) (((50 : Int32) + ((21 : Int32) * a1)) + a2).toNatClampNeg)
  else none
def f_X12_sets (μ : Mem) (k0 : Nat) (a1 : Int32) (a2 : Int32) (a3 : Int32) : Option (Mem) :=
  if ib (((50 : Int32) + ((21 : Int32) * a1)) + a2) 342 then
    (some (wr μ (rf k0 0) (((50 : Int32) + ((21 : Int32) * a1)) + a2).toNatClampNeg a3)).bind fun m14 =>
      some m14
  else none
def f_X12_ones_l4 (a0 : Int32) (v1_4 : Int32) (v2_4 : Int32) : Option ((Int32 × Int32) ⊕ (Int32)) :=
  if (8 : Int32) ≤ v2_4 then
    some (.inr v1_4)
  else
    some (.inl (v1_4 + ((jshr a0 v2_4) &&& (1 : Int32)), v2_4 + 1))
def f_X12_ones (a0 : Int32) : Option (Int32) :=
  (lp (fun s => f_X12_ones_l4 a0 s.1 s.2) FU ((0 : Int32), (0 : Int32))).bind fun e4 =>
    some e4
def f_X12_keepAside_l2 (k0 : Nat) (v1_2 : Int32) (μ_2 : Mem) : Option ((Int32 × Mem) ⊕ (Mem)) :=
  if (170 : Int32) ≤ v1_2 then
    some (.inr μ_2)
  else
    if ib v1_2 342 then
      if ib v1_2 170 then
        (some (wr μ_2 (rf k0 2) v1_2.toNatClampNeg (rd μ_2 (rf k0 0) v1_2.toNatClampNeg))).bind fun m20 =>
          some (.inl (v1_2 + 1, m20))
      else none
    else none
def f_X12_keepAside (μ : Mem) (k0 : Nat) : Option (Mem) :=
  (lp (fun s => f_X12_keepAside_l2 k0 s.1 s.2) FU ((0 : Int32), μ)).bind fun e2 =>
    some e2
def f_X12_putBack_l2 (k0 : Nat) (v1_2 : Int32) (μ_2 : Mem) : Option ((Int32 × Mem) ⊕ (Mem)) :=
  if (170 : Int32) ≤ v1_2 then
    some (.inr μ_2)
  else
    if ib v1_2 170 then
      if ib v1_2 342 then
        (some (wr μ_2 (rf k0 0) v1_2.toNatClampNeg (rd μ_2 (rf k0 2) v1_2.toNatClampNeg))).bind fun m20 =>
          some (.inl (v1_2 + 1, m20))
      else none
    else none
def f_X12_putBack (μ : Mem) (k0 : Nat) : Option (Mem) :=
  (lp (fun s => f_X12_putBack_l2 k0 s.1 s.2) FU ((0 : Int32), μ)).bind fun e2 =>
    some e2
def f_X12_here (μ : Mem) (k0 : Nat) : Option (Int32) :=
  if (rd μ k0 7) ≤ (rd μ k0 6) then
    some (-1 : Int32)
  else
    if 0 ≤ (rd μ k0 8) then
      some (-1 : Int32)
    else
      if ib ((rd μ k0 5) + (rd μ k0 6)) 342 then
        some (rd μ (rf k0 0) ((rd μ k0 5) + (rd μ k0 6)).toNatClampNeg)
      else none
def f_X12_wrong_j19 (μ_19 : Mem) (k0 : Nat) (kt0_19 : Nat) (vt1_19 : Int32) : Option (Int32 × Mem) :=
  (some (wr μ_19 kt0_19 8 vt1_19)).bind fun m19 =>
    some ((0 : Int32), m19)
def f_X12_wrong (μ : Mem) (k0 : Nat) : Option (Int32 × Mem) :=
  if 0 ≤ (rd μ k0 8) then
    f_X12_wrong_j19 μ k0 k0 (rd μ k0 8)
  else
    f_X12_wrong_j19 μ k0 k0 (rd μ k0 6)
def f_X12_takes (μ : Mem) (k0 : Nat) (a1 : Int32) : Option (Int32 × Mem) :=
  (f_X12_here μ k0).bind fun r1 =>
    if r1 = a1 then
      (some (wr μ k0 6 ((rd μ k0 6) + (1 : Int32)))).bind fun m17 =>
        some ((1 : Int32), m17)
    else
      some ((0 : Int32), μ)
def f_X12_nameOf (μ : Mem) (k0 : Nat) (a1 : Int32) : Option (Int32) :=
  if (rd μ k0 10) = 0 then
    if ¬ a1 = (102 : Int32) then
      if ¬ a1 = (119 : Int32) then
        if ¬ a1 = (100 : Int32) then
          some (-1 : Int32)
        else
          some (2 : Int32)
      else
        some (1 : Int32)
    else
      some (0 : Int32)
  else
    if ¬ a1 = (100 : Int32) then
      if ¬ a1 = (111 : Int32) then
        if ¬ a1 = (110 : Int32) then
          some (-1 : Int32)
        else
          some (2 : Int32)
      else
        some (1 : Int32)
    else
      some (0 : Int32)
def F_X12_either_l5 (g_X12_both : Mem → Nat → Option (Int32 × Mem)) (g_X12_compared : Mem → Nat → Option (Int32 × Mem)) (g_X12_either : Mem → Nat → Option (Int32 × Mem)) (g_X12_product : Mem → Nat → Option (Int32 × Mem)) (g_X12_sum : Mem → Nat → Option (Int32 × Mem)) (g_X12_unit : Mem → Nat → Option (Int32 × Mem)) (k0 : Nat) (v1_5 : Int32) (μ_5 : Mem) : Option ((Int32 × Mem) ⊕ (Int32 × Mem)) :=
  (f_X12_takes μ_5 k0 (124 : Int32)).bind fun p8 =>
    if p8.1 = 0 then
      some (.inr (v1_5, p8.2))
    else
      (g_X12_both p8.2 k0).bind fun p15 =>
        if ¬ v1_5 = 0 then
          some (.inl ((1 : Int32), p15.2))
        else
          if p15.1 = 0 then
            some (.inl ((0 : Int32), p15.2))
          else
            some (.inl ((1 : Int32), p15.2))
def F_X12_either (g_X12_both : Mem → Nat → Option (Int32 × Mem)) (g_X12_compared : Mem → Nat → Option (Int32 × Mem)) (g_X12_either : Mem → Nat → Option (Int32 × Mem)) (g_X12_product : Mem → Nat → Option (Int32 × Mem)) (g_X12_sum : Mem → Nat → Option (Int32 × Mem)) (g_X12_unit : Mem → Nat → Option (Int32 × Mem)) (μ : Mem) (k0 : Nat) : Option (Int32 × Mem) :=
  (g_X12_both μ k0).bind fun p1 =>
    (lp (fun s => F_X12_either_l5 g_X12_both g_X12_compared g_X12_either g_X12_product g_X12_sum g_X12_unit k0 s.1 s.2) FU (p1.1, p1.2)).bind fun e5 =>
      some (e5.1, e5.2)
def F_X12_both_l5 (g_X12_both : Mem → Nat → Option (Int32 × Mem)) (g_X12_compared : Mem → Nat → Option (Int32 × Mem)) (g_X12_either : Mem → Nat → Option (Int32 × Mem)) (g_X12_product : Mem → Nat → Option (Int32 × Mem)) (g_X12_sum : Mem → Nat → Option (Int32 × Mem)) (g_X12_unit : Mem → Nat → Option (Int32 × Mem)) (k0 : Nat) (v1_5 : Int32) (μ_5 : Mem) : Option ((Int32 × Mem) ⊕ (Int32 × Mem)) :=
  (f_X12_takes μ_5 k0 (38 : Int32)).bind fun p8 =>
    if p8.1 = 0 then
      some (.inr (v1_5, p8.2))
    else
      (g_X12_compared p8.2 k0).bind fun p15 =>
        if v1_5 = 0 then
          some (.inl ((0 : Int32), p15.2))
        else
          if p15.1 = 0 then
            some (.inl ((0 : Int32), p15.2))
          else
            some (.inl ((1 : Int32), p15.2))
def F_X12_both (g_X12_both : Mem → Nat → Option (Int32 × Mem)) (g_X12_compared : Mem → Nat → Option (Int32 × Mem)) (g_X12_either : Mem → Nat → Option (Int32 × Mem)) (g_X12_product : Mem → Nat → Option (Int32 × Mem)) (g_X12_sum : Mem → Nat → Option (Int32 × Mem)) (g_X12_unit : Mem → Nat → Option (Int32 × Mem)) (μ : Mem) (k0 : Nat) : Option (Int32 × Mem) :=
  (g_X12_compared μ k0).bind fun p1 =>
    (lp (fun s => F_X12_both_l5 g_X12_both g_X12_compared g_X12_either g_X12_product g_X12_sum g_X12_unit k0 s.1 s.2) FU (p1.1, p1.2)).bind fun e5 =>
      some (e5.1, e5.2)
def F_X12_compared_j30 (g_X12_both : Mem → Nat → Option (Int32 × Mem)) (g_X12_compared : Mem → Nat → Option (Int32 × Mem)) (g_X12_either : Mem → Nat → Option (Int32 × Mem)) (g_X12_product : Mem → Nat → Option (Int32 × Mem)) (g_X12_sum : Mem → Nat → Option (Int32 × Mem)) (g_X12_unit : Mem → Nat → Option (Int32 × Mem)) (μ_30 : Mem) (k0 : Nat) (v1_30 : Int32) (v2_30 : Int32) : Option (Int32 × Mem) :=
  (some (wr μ_30 k0 6 ((rd μ_30 k0 6) + (1 : Int32)))).bind fun m37 =>
    (g_X12_sum m37 k0).bind fun p41 =>
      if ¬ v2_30 = (60 : Int32) then
        if ¬ v2_30 = (61 : Int32) then
          if v1_30 ≤ p41.1 then
            some ((0 : Int32), p41.2)
          else
            some ((1 : Int32), p41.2)
        else
          if ¬ v1_30 = p41.1 then
            some ((0 : Int32), p41.2)
          else
            some ((1 : Int32), p41.2)
      else
        if p41.1 ≤ v1_30 then
          some ((0 : Int32), p41.2)
        else
          some ((1 : Int32), p41.2)
def F_X12_compared (g_X12_both : Mem → Nat → Option (Int32 × Mem)) (g_X12_compared : Mem → Nat → Option (Int32 × Mem)) (g_X12_either : Mem → Nat → Option (Int32 × Mem)) (g_X12_product : Mem → Nat → Option (Int32 × Mem)) (g_X12_sum : Mem → Nat → Option (Int32 × Mem)) (g_X12_unit : Mem → Nat → Option (Int32 × Mem)) (μ : Mem) (k0 : Nat) : Option (Int32 × Mem) :=
  (g_X12_sum μ k0).bind fun p1 =>
    (f_X12_here p1.2 k0).bind fun r6 =>
      if r6 = (60 : Int32) then
        F_X12_compared_j30 g_X12_both g_X12_compared g_X12_either g_X12_product g_X12_sum g_X12_unit p1.2 k0 p1.1 r6
      else
        if r6 = (61 : Int32) then
          F_X12_compared_j30 g_X12_both g_X12_compared g_X12_either g_X12_product g_X12_sum g_X12_unit p1.2 k0 p1.1 r6
        else
          if r6 = (62 : Int32) then
            F_X12_compared_j30 g_X12_both g_X12_compared g_X12_either g_X12_product g_X12_sum g_X12_unit p1.2 k0 p1.1 r6
          else
            some (p1.1, p1.2)
def F_X12_sum_j23 (g_X12_both : Mem → Nat → Option (Int32 × Mem)) (g_X12_compared : Mem → Nat → Option (Int32 × Mem)) (g_X12_either : Mem → Nat → Option (Int32 × Mem)) (g_X12_product : Mem → Nat → Option (Int32 × Mem)) (g_X12_sum : Mem → Nat → Option (Int32 × Mem)) (g_X12_unit : Mem → Nat → Option (Int32 × Mem)) (μ_23 : Mem) (k0 : Nat) (v1_23 : Int32) : Option ((Int32 × Mem) ⊕ (Int32 × Mem)) :=
  (f_X12_here μ_23 k0).bind fun r24 =>
    (some (wr μ_23 k0 6 ((rd μ_23 k0 6) + (1 : Int32)))).bind fun m35 =>
      (g_X12_product m35 k0).bind fun p39 =>
        if ¬ r24 = (43 : Int32) then
          some (.inl (v1_23 - p39.1, p39.2))
        else
          some (.inl (v1_23 + p39.1, p39.2))
def F_X12_sum_l5 (g_X12_both : Mem → Nat → Option (Int32 × Mem)) (g_X12_compared : Mem → Nat → Option (Int32 × Mem)) (g_X12_either : Mem → Nat → Option (Int32 × Mem)) (g_X12_product : Mem → Nat → Option (Int32 × Mem)) (g_X12_sum : Mem → Nat → Option (Int32 × Mem)) (g_X12_unit : Mem → Nat → Option (Int32 × Mem)) (k0 : Nat) (v1_5 : Int32) (μ_5 : Mem) : Option ((Int32 × Mem) ⊕ (Int32 × Mem)) :=
  (f_X12_here μ_5 k0).bind fun r6 =>
    if r6 = (43 : Int32) then
      F_X12_sum_j23 g_X12_both g_X12_compared g_X12_either g_X12_product g_X12_sum g_X12_unit μ_5 k0 v1_5
    else
      (f_X12_here μ_5 k0).bind fun r15 =>
        if ¬ r15 = (45 : Int32) then
          some (.inr (v1_5, μ_5))
        else
          F_X12_sum_j23 g_X12_both g_X12_compared g_X12_either g_X12_product g_X12_sum g_X12_unit μ_5 k0 v1_5
def F_X12_sum (g_X12_both : Mem → Nat → Option (Int32 × Mem)) (g_X12_compared : Mem → Nat → Option (Int32 × Mem)) (g_X12_either : Mem → Nat → Option (Int32 × Mem)) (g_X12_product : Mem → Nat → Option (Int32 × Mem)) (g_X12_sum : Mem → Nat → Option (Int32 × Mem)) (g_X12_unit : Mem → Nat → Option (Int32 × Mem)) (μ : Mem) (k0 : Nat) : Option (Int32 × Mem) :=
  (g_X12_product μ k0).bind fun p1 =>
    (lp (fun s => F_X12_sum_l5 g_X12_both g_X12_compared g_X12_either g_X12_product g_X12_sum g_X12_unit k0 s.1 s.2) FU (p1.1, p1.2)).bind fun e5 =>
      some (e5.1, e5.2)
def F_X12_product_j32 (g_X12_both : Mem → Nat → Option (Int32 × Mem)) (g_X12_compared : Mem → Nat → Option (Int32 × Mem)) (g_X12_either : Mem → Nat → Option (Int32 × Mem)) (g_X12_product : Mem → Nat → Option (Int32 × Mem)) (g_X12_sum : Mem → Nat → Option (Int32 × Mem)) (g_X12_unit : Mem → Nat → Option (Int32 × Mem)) (μ_32 : Mem) (k0 : Nat) (v1_32 : Int32) : Option ((Int32 × Mem) ⊕ (Int32 × Mem)) :=
  (f_X12_here μ_32 k0).bind fun r33 =>
    (some (wr μ_32 k0 6 ((rd μ_32 k0 6) + (1 : Int32)))).bind fun m44 =>
      (g_X12_unit m44 k0).bind fun p48 =>
        if ¬ r33 = (42 : Int32) then
          if ¬ p48.1 = 0 then
            if ¬ r33 = (47 : Int32) then
              if ¬ p48.1 = 0 then
                some (.inl (jrem v1_32 p48.1, p48.2))
              else none
            else
              if ¬ p48.1 = 0 then
                some (.inl (v1_32 / p48.1, p48.2))
              else none
          else
            some (.inl ((0 : Int32), p48.2))
        else
          some (.inl (v1_32 * p48.1, p48.2))
def F_X12_product_l5 (g_X12_both : Mem → Nat → Option (Int32 × Mem)) (g_X12_compared : Mem → Nat → Option (Int32 × Mem)) (g_X12_either : Mem → Nat → Option (Int32 × Mem)) (g_X12_product : Mem → Nat → Option (Int32 × Mem)) (g_X12_sum : Mem → Nat → Option (Int32 × Mem)) (g_X12_unit : Mem → Nat → Option (Int32 × Mem)) (k0 : Nat) (v1_5 : Int32) (μ_5 : Mem) : Option ((Int32 × Mem) ⊕ (Int32 × Mem)) :=
  (f_X12_here μ_5 k0).bind fun r6 =>
    if r6 = (42 : Int32) then
      F_X12_product_j32 g_X12_both g_X12_compared g_X12_either g_X12_product g_X12_sum g_X12_unit μ_5 k0 v1_5
    else
      (f_X12_here μ_5 k0).bind fun r15 =>
        if r15 = (47 : Int32) then
          F_X12_product_j32 g_X12_both g_X12_compared g_X12_either g_X12_product g_X12_sum g_X12_unit μ_5 k0 v1_5
        else
          (f_X12_here μ_5 k0).bind fun r24 =>
            if ¬ r24 = (37 : Int32) then
              some (.inr (v1_5, μ_5))
            else
              F_X12_product_j32 g_X12_both g_X12_compared g_X12_either g_X12_product g_X12_sum g_X12_unit μ_5 k0 v1_5
def F_X12_product (g_X12_both : Mem → Nat → Option (Int32 × Mem)) (g_X12_compared : Mem → Nat → Option (Int32 × Mem)) (g_X12_either : Mem → Nat → Option (Int32 × Mem)) (g_X12_product : Mem → Nat → Option (Int32 × Mem)) (g_X12_sum : Mem → Nat → Option (Int32 × Mem)) (g_X12_unit : Mem → Nat → Option (Int32 × Mem)) (μ : Mem) (k0 : Nat) : Option (Int32 × Mem) :=
  (g_X12_unit μ k0).bind fun p1 =>
    (lp (fun s => F_X12_product_l5 g_X12_both g_X12_compared g_X12_either g_X12_product g_X12_sum g_X12_unit k0 s.1 s.2) FU (p1.1, p1.2)).bind fun e5 =>
      some (e5.1, e5.2)
def F_X12_unit_j202 (g_X12_both : Mem → Nat → Option (Int32 × Mem)) (g_X12_compared : Mem → Nat → Option (Int32 × Mem)) (g_X12_either : Mem → Nat → Option (Int32 × Mem)) (g_X12_product : Mem → Nat → Option (Int32 × Mem)) (g_X12_sum : Mem → Nat → Option (Int32 × Mem)) (g_X12_unit : Mem → Nat → Option (Int32 × Mem)) (μ_202 : Mem) (k0 : Nat) (v3_202 : Int32) (v4_202 : Int32) : Option (Int32 × Mem) :=
  if ¬ v4_202 = 0 then
    some (v3_202, μ_202)
  else
    (f_X12_wrong μ_202 k0).bind fun p208 =>
      some (p208.1, p208.2)
def F_X12_unit_l150 (g_X12_both : Mem → Nat → Option (Int32 × Mem)) (g_X12_compared : Mem → Nat → Option (Int32 × Mem)) (g_X12_either : Mem → Nat → Option (Int32 × Mem)) (g_X12_product : Mem → Nat → Option (Int32 × Mem)) (g_X12_sum : Mem → Nat → Option (Int32 × Mem)) (g_X12_unit : Mem → Nat → Option (Int32 × Mem)) (k0 : Nat) (v3_150 : Int32) (v4_150 : Int32) (μ_150 : Mem) : Option ((Int32 × Int32 × Mem) ⊕ (Int32 × Int32 × Mem)) :=
  if (4 : Int32) ≤ v4_150 then
    some (.inr (v3_150, v4_150, μ_150))
  else
    (f_X12_here μ_150 k0).bind fun r157 =>
      (f_X12_in r157.toInt64 (48 : Int64) (57 : Int64)).bind fun r167 =>
        if r167 = 0 then
          some (.inr (v3_150, v4_150, μ_150))
        else
          (f_X12_here μ_150 k0).bind fun r178 =>
            (some (wr μ_150 k0 6 ((rd μ_150 k0 6) + (1 : Int32)))).bind fun m193 =>
              some (.inl ((((10 : Int32) * v3_150) + r178) - (48 : Int32), v4_150 + 1, m193))
def F_X12_unit_j88 (g_X12_both : Mem → Nat → Option (Int32 × Mem)) (g_X12_compared : Mem → Nat → Option (Int32 × Mem)) (g_X12_either : Mem → Nat → Option (Int32 × Mem)) (g_X12_product : Mem → Nat → Option (Int32 × Mem)) (g_X12_sum : Mem → Nat → Option (Int32 × Mem)) (g_X12_unit : Mem → Nat → Option (Int32 × Mem)) (μ_88 : Mem) (k0 : Nat) (v1_88 : Int32) (v2_88 : Int32) : Option (Int32 × Mem) :=
  (some (wr μ_88 k0 9 ((rd μ_88 k0 9) - (1 : Int32)))).bind fun m95 =>
    if ¬ v1_88 = (40 : Int32) then
      if ¬ v2_88 = 0 then
        some ((0 : Int32), m95)
      else
        some ((1 : Int32), m95)
    else
      some (v2_88, m95)
def F_X12_unit_j67 (g_X12_both : Mem → Nat → Option (Int32 × Mem)) (g_X12_compared : Mem → Nat → Option (Int32 × Mem)) (g_X12_either : Mem → Nat → Option (Int32 × Mem)) (g_X12_product : Mem → Nat → Option (Int32 × Mem)) (g_X12_sum : Mem → Nat → Option (Int32 × Mem)) (g_X12_unit : Mem → Nat → Option (Int32 × Mem)) (μ_67 : Mem) (k0 : Nat) (v1_67 : Int32) (vt0_67 : Int32) : Option (Int32 × Mem) :=
  if ¬ v1_67 = (40 : Int32) then
    F_X12_unit_j88 g_X12_both g_X12_compared g_X12_either g_X12_product g_X12_sum g_X12_unit μ_67 k0 v1_67 vt0_67
  else
    (f_X12_takes μ_67 k0 (41 : Int32)).bind fun p77 =>
      if ¬ p77.1 = 0 then
        F_X12_unit_j88 g_X12_both g_X12_compared g_X12_either g_X12_product g_X12_sum g_X12_unit p77.2 k0 v1_67 vt0_67
      else
        (f_X12_wrong p77.2 k0).bind fun p84 =>
          some (p84.1, p84.2)
def F_X12_unit_j17 (g_X12_both : Mem → Nat → Option (Int32 × Mem)) (g_X12_compared : Mem → Nat → Option (Int32 × Mem)) (g_X12_either : Mem → Nat → Option (Int32 × Mem)) (g_X12_product : Mem → Nat → Option (Int32 × Mem)) (g_X12_sum : Mem → Nat → Option (Int32 × Mem)) (g_X12_unit : Mem → Nat → Option (Int32 × Mem)) (μ_17 : Mem) (k0 : Nat) (v1_17 : Int32) : Option (Int32 × Mem) :=
  if ¬ (rd μ_17 k0 9) = (5 : Int32) then
    (some (wr μ_17 k0 9 ((rd μ_17 k0 9) + (1 : Int32)))).bind fun m37 =>
      (some (wr m37 k0 6 ((rd m37 k0 6) + (1 : Int32)))).bind fun m47 =>
        if ¬ v1_17 = (40 : Int32) then
          (g_X12_unit m47 k0).bind fun p64 =>
            F_X12_unit_j67 g_X12_both g_X12_compared g_X12_either g_X12_product g_X12_sum g_X12_unit p64.2 k0 v1_17 p64.1
        else
          (g_X12_either m47 k0).bind fun p57 =>
            F_X12_unit_j67 g_X12_both g_X12_compared g_X12_either g_X12_product g_X12_sum g_X12_unit p57.2 k0 v1_17 p57.1
  else
    (f_X12_wrong μ_17 k0).bind fun p26 =>
      some (p26.1, p26.2)
def F_X12_unit (g_X12_both : Mem → Nat → Option (Int32 × Mem)) (g_X12_compared : Mem → Nat → Option (Int32 × Mem)) (g_X12_either : Mem → Nat → Option (Int32 × Mem)) (g_X12_product : Mem → Nat → Option (Int32 × Mem)) (g_X12_sum : Mem → Nat → Option (Int32 × Mem)) (g_X12_unit : Mem → Nat → Option (Int32 × Mem)) (μ : Mem) (k0 : Nat) : Option (Int32 × Mem) :=
  (f_X12_here μ k0).bind fun r1 =>
    if r1 = (33 : Int32) then
      F_X12_unit_j17 g_X12_both g_X12_compared g_X12_either g_X12_product g_X12_sum g_X12_unit μ k0 r1
    else
      if ¬ r1 = (40 : Int32) then
        (f_X12_nameOf μ k0 r1).bind fun r120 =>
          if r120 < 0 then
            (lp (fun s => F_X12_unit_l150 g_X12_both g_X12_compared g_X12_either g_X12_product g_X12_sum g_X12_unit k0 s.1 s.2.1 s.2.2) FU ((0 : Int32), (0 : Int32), μ)).bind fun e150 =>
              F_X12_unit_j202 g_X12_both g_X12_compared g_X12_either g_X12_product g_X12_sum g_X12_unit e150.2.2 k0 e150.1 e150.2.1
          else
            (some (wr μ k0 6 ((rd μ k0 6) + (1 : Int32)))).bind fun m135 =>
              if ib r120 3 then
                some (rd m135 (rf k0 11) r120.toNatClampNeg, m135)
              else none
      else
        F_X12_unit_j17 g_X12_both g_X12_compared g_X12_either g_X12_product g_X12_sum g_X12_unit μ k0 r1
def grp_X12_both : Nat → (Mem → Nat → Option (Int32 × Mem)) × (Mem → Nat → Option (Int32 × Mem)) × (Mem → Nat → Option (Int32 × Mem)) × (Mem → Nat → Option (Int32 × Mem)) × (Mem → Nat → Option (Int32 × Mem)) × (Mem → Nat → Option (Int32 × Mem))
  | 0 => ((fun _ _ => none), (fun _ _ => none), (fun _ _ => none), (fun _ _ => none), (fun _ _ => none), (fun _ _ => none))
  | n + 1 => (F_X12_both (grp_X12_both n).1 (grp_X12_both n).2.1 (grp_X12_both n).2.2.1 (grp_X12_both n).2.2.2.1 (grp_X12_both n).2.2.2.2.1 (grp_X12_both n).2.2.2.2.2, F_X12_compared (grp_X12_both n).1 (grp_X12_both n).2.1 (grp_X12_both n).2.2.1 (grp_X12_both n).2.2.2.1 (grp_X12_both n).2.2.2.2.1 (grp_X12_both n).2.2.2.2.2, F_X12_either (grp_X12_both n).1 (grp_X12_both n).2.1 (grp_X12_both n).2.2.1 (grp_X12_both n).2.2.2.1 (grp_X12_both n).2.2.2.2.1 (grp_X12_both n).2.2.2.2.2, F_X12_product (grp_X12_both n).1 (grp_X12_both n).2.1 (grp_X12_both n).2.2.1 (grp_X12_both n).2.2.2.1 (grp_X12_both n).2.2.2.2.1 (grp_X12_both n).2.2.2.2.2, F_X12_sum (grp_X12_both n).1 (grp_X12_both n).2.1 (grp_X12_both n).2.2.1 (grp_X12_both n).2.2.2.1 (grp_X12_both n).2.2.2.2.1 (grp_X12_both n).2.2.2.2.2, F_X12_unit (grp_X12_both n).1 (grp_X12_both n).2.1 (grp_X12_both n).2.2.1 (grp_X12_both n).2.2.2.1 (grp_X12_both n).2.2.2.2.1 (grp_X12_both n).2.2.2.2.2)
def f_X12_both (n : Nat) : Mem → Nat → Option (Int32 × Mem) := (grp_X12_both n).1
def f_X12_compared (n : Nat) : Mem → Nat → Option (Int32 × Mem) := (grp_X12_both n).2.1
def f_X12_either (n : Nat) : Mem → Nat → Option (Int32 × Mem) := (grp_X12_both n).2.2.1
def f_X12_product (n : Nat) : Mem → Nat → Option (Int32 × Mem) := (grp_X12_both n).2.2.2.1
def f_X12_sum (n : Nat) : Mem → Nat → Option (Int32 × Mem) := (grp_X12_both n).2.2.2.2.1
def f_X12_unit (n : Nat) : Mem → Nat → Option (Int32 × Mem) := (grp_X12_both n).2.2.2.2.2
def f_X12_worked_j36 (μ_36 : Mem) (k0 : Nat) (a1 : Int32) (a2 : Int32) (a3 : Int32) (kt0_36 : Nat) (vt1_36 : Int32) : Option (Int32 × Mem) :=
  if bz vt1_36 then
    (some (wr μ_36 kt0_36 10 vt1_36)).bind fun m36 =>
      (f_X12_either 100 m36 k0).bind fun p40 =>
        if 0 ≤ (rd p40.2 k0 8) then
          some (p40.1, p40.2)
        else
          if (rd p40.2 k0 7) ≤ (rd p40.2 k0 6) then
            some (p40.1, p40.2)
          else
            (f_X12_wrong p40.2 k0).bind fun p64 =>
              some (p64.1, p64.2)
  else none
def f_X12_worked (μ : Mem) (k0 : Nat) (a1 : Int32) (a2 : Int32) (a3 : Int32) : Option (Int32 × Mem) :=
  (some (wr μ k0 5 a1)).bind fun m2 =>
    (some (wr m2 k0 6 (0 : Int32))).bind fun m7 =>
      (some (wr m7 k0 7 a2)).bind fun m12 =>
        (some (wr m12 k0 8 (-1 : Int32))).bind fun m17 =>
          (some (wr m17 k0 9 (0 : Int32))).bind fun m22 =>
            if ¬ a3 = (1 : Int32) then
              f_X12_worked_j36 m22 k0 a1 a2 a3 k0 (0 : Int32)
            else
              f_X12_worked_j36 m22 k0 a1 a2 a3 k0 (1 : Int32)
def f_X12_feed_l40 (k0 : Nat) (a1 : Int64) (a3 : Int32) (v4_40 : Int32) (μ_40 : Mem) : Option ((Int32 × Mem) ⊕ (Mem)) :=
  if a3 ≤ v4_40 then
    some (.inr μ_40)
  else
    if ib ((292 : Int32) + (rd μ_40 (rf k0 0) (5 : Int32).toNatClampNeg)) 342 then
      (some (wr μ_40 (rf k0 0) ((292 : Int32) + (rd μ_40 (rf k0 0) (5 : Int32).toNatClampNeg)).toNatClampNeg (((jlshr a1 ((8 : Int32) * v4_40)) &&& (255 : Int64)).toInt32))).bind fun m72 =>
        (some (wr m72 (rf k0 0) (5 : Int32).toNatClampNeg ((rd m72 (rf k0 0) (5 : Int32).toNatClampNeg) + (1 : Int32)))).bind fun m82 =>
          some (.inl (v4_40 + 1, m82))
    else none
def f_X12_feed (μ : Mem) (k0 : Nat) (a1 : Int64) (a3 : Int32) : Option (Int32 × Mem) :=
  (f_X12_in a3.toInt64 (1 : Int64) (8 : Int64)).bind fun r6 =>
    if ¬ r6 = 0 then
      if ((rd μ (rf k0 0) (5 : Int32).toNatClampNeg) + a3) ≤ (50 : Int32) then
        (lp (fun s => f_X12_feed_l40 k0 a1 a3 s.1 s.2) FU ((0 : Int32), μ)).bind fun e40 =>
          some (rd e40 (rf k0 0) (5 : Int32).toNatClampNeg, e40)
      else
        (f_X12_finds μ k0 (4 : Int32)).bind fun p33 =>
          some (p33.1, p33.2)
    else
      (f_X12_finds μ k0 (1 : Int32)).bind fun p14 =>
        some (p14.1, p14.2)
def f_X12_text_l69 (k0 : Nat) (a1 : Int32) (v2_69 : Int32) (v4_69 : Int32) (μ_69 : Mem) : Option ((Int32 × Mem) ⊕ (Mem)) :=
  if v2_69 ≤ v4_69 then
    some (.inr μ_69)
  else
    if ib ((292 : Int32) + v4_69) 342 then
      if ib (((192 : Int32) + ((50 : Int32) * a1)) + v4_69) 342 then
        (some (wr μ_69 (rf k0 0) (((192 : Int32) + ((50 : Int32) * a1)) + v4_69).toNatClampNeg (rd μ_69 (rf k0 0) ((292 : Int32) + v4_69).toNatClampNeg))).bind fun m101 =>
          some (.inl (v4_69 + 1, m101))
      else none
    else none
def f_X12_text (μ : Mem) (k0 : Nat) (a1 : Int32) : Option (Int32 × Mem) :=
  (f_X12_in a1.toInt64 (0 : Int64) (1 : Int64)).bind fun r4 =>
    if ¬ r4 = 0 then
      (some (wr μ (rf k0 0) (5 : Int32).toNatClampNeg (0 : Int32))).bind fun m29 =>
        (f_X12_worked m29 k0 (292 : Int32) (rd μ (rf k0 0) (5 : Int32).toNatClampNeg) a1).bind fun p36 =>
          if (rd p36.2 k0 8) < 0 then
            if ib ((170 : Int32) + a1) 342 then
              (some (wr p36.2 (rf k0 0) ((170 : Int32) + a1).toNatClampNeg (rd μ (rf k0 0) (5 : Int32).toNatClampNeg))).bind fun m65 =>
                (lp (fun s => f_X12_text_l69 k0 a1 (rd μ (rf k0 0) (5 : Int32).toNatClampNeg) s.1 s.2) FU ((0 : Int32), m65)).bind fun e69 =>
                  some ((1 : Int32), e69)
            else none
          else
            some ((-10 : Int32) - (rd p36.2 k0 8), p36.2)
    else
      (f_X12_finds μ k0 (1 : Int32)).bind fun p12 =>
        some (p12.1, p12.2)
def f_X12_textGives_j82 (μ_82 : Mem) (k0 : Nat) (a1 : Int32) (a2 : Int32) (a3 : Int32) (a4 : Int32) (v5_82 : Int32) : Option (Int32 × Mem) :=
  if ¬ a1 = 0 then
    (f_X12_held v5_82 (-999 : Int32) (999 : Int32)).bind fun r106 =>
      some (r106, μ_82)
  else
    (f_X12_held v5_82 (0 : Int32) (999 : Int32)).bind fun r92 =>
      some (r92, μ_82)
def f_X12_textGives_j20 (μ_20 : Mem) (k0 : Nat) (a1 : Int32) (a2 : Int32) (a3 : Int32) (a4 : Int32) (vt0_20 : Int32) : Option (Int32 × Mem) :=
  if ib ((170 : Int32) + a1) 342 then
    if (rd μ_20 (rf k0 0) ((170 : Int32) + a1).toNatClampNeg) ≤ 0 then
      f_X12_textGives_j82 μ_20 k0 a1 a2 a3 a4 vt0_20
    else
      (some (wr μ_20 (rf k0 11) (0 : Int32).toNatClampNeg a2)).bind fun m41 =>
        (some (wr m41 (rf k0 11) (1 : Int32).toNatClampNeg a3)).bind fun m48 =>
          (some (wr m48 (rf k0 11) (2 : Int32).toNatClampNeg a4)).bind fun m56 =>
            if ib ((170 : Int32) + a1) 342 then
              (f_X12_worked m56 k0 ((192 : Int32) + ((50 : Int32) * a1)) (rd m56 (rf k0 0) ((170 : Int32) + a1).toNatClampNeg) a1).bind fun p77 =>
                f_X12_textGives_j82 p77.2 k0 a1 a2 a3 a4 p77.1
            else none
  else none
def f_X12_textGives (μ : Mem) (k0 : Nat) (a1 : Int32) (a2 : Int32) (a3 : Int32) (a4 : Int32) : Option (Int32 × Mem) :=
  if ¬ a1 = 0 then
    f_X12_textGives_j20 μ k0 a1 a2 a3 a4 ((((10 : Int32) * a4) - ((5 : Int32) * a3)) - a2)
  else
    f_X12_textGives_j20 μ k0 a1 a2 a3 a4 (10 : Int32)
def f_X12_law (μ : Mem) (k0 : Nat) (a1 : Int32) (a2 : Int32) (a3 : Int32) (a4 : Int32) : Option (Int32 × Mem) :=
  (f_X12_in a1.toInt64 (0 : Int64) (1 : Int64)).bind fun r4 =>
    if r4 = 0 then
      (f_X12_finds μ k0 (1 : Int32)).bind fun p24 =>
        some (p24.1, p24.2)
    else
      (f_X12_textGives μ k0 a1 a2 a3 a4).bind fun p16 =>
        some (p16.1, p16.2)
def f_X12_fact_j38 (μ_38 : Mem) (k0 : Nat) (a1 : Int32) (a2 : Int32) : Option (Int32 × Mem) :=
  (f_X12_finds μ_38 k0 (1 : Int32)).bind fun p40 =>
    some (p40.1, p40.2)
def f_X12_fact (μ : Mem) (k0 : Nat) (a1 : Int32) (a2 : Int32) : Option (Int32 × Mem) :=
  (f_X12_in a1.toInt64 (0 : Int64) (255 : Int64)).bind fun r6 =>
    if r6 = 0 then
      f_X12_fact_j38 μ k0 a1 a2
    else
      if ((jshr a1 (rd μ (rf k0 0) (0 : Int32).toNatClampNeg)) &&& (1 : Int32)) = (1 : Int32) then
        f_X12_fact_j38 μ k0 a1 a2
      else
        (f_X12_in a2.toInt64 (0 : Int64) (31 : Int64)).bind fun r32 =>
          if ¬ r32 = 0 then
            if ¬ (rd μ (rf k0 0) (0 : Int32).toNatClampNeg) = (8 : Int32) then
              (some (wr μ (rf k0 0) (0 : Int32).toNatClampNeg ((rd μ (rf k0 0) (0 : Int32).toNatClampNeg) + (1 : Int32)))).bind fun m77 =>
                (f_X12_puts m77 k0 (rd μ (rf k0 0) (0 : Int32).toNatClampNeg) (0 : Int32) a1).bind fun μ82 =>
                  (f_X12_puts μ82 k0 (rd μ (rf k0 0) (0 : Int32).toNatClampNeg) (1 : Int32) (0 : Int32)).bind fun μ89 =>
                    (f_X12_puts μ89 k0 (rd μ (rf k0 0) (0 : Int32).toNatClampNeg) (2 : Int32) (0 : Int32)).bind fun μ96 =>
                      (f_X12_puts μ96 k0 (rd μ (rf k0 0) (0 : Int32).toNatClampNeg) (3 : Int32) (-1 : Int32)).bind fun μ103 =>
                        (f_X12_puts μ103 k0 (rd μ (rf k0 0) (0 : Int32).toNatClampNeg) (4 : Int32) a2).bind fun μ110 =>
                          some (rd μ (rf k0 0) (0 : Int32).toNatClampNeg, μ110)
            else
              (f_X12_finds μ k0 (4 : Int32)).bind fun p57 =>
                some (p57.1, p57.2)
          else
            f_X12_fact_j38 μ k0 a1 a2
def f_X12_clash_j31 (μ_31 : Mem) (k0 : Nat) (a1 : Int32) (a2 : Int32) (a3 : Int32) : Option (Int32 × Mem) :=
  (f_X12_finds μ_31 k0 (1 : Int32)).bind fun p33 =>
    some (p33.1, p33.2)
def f_X12_clash (μ : Mem) (k0 : Nat) (a1 : Int32) (a2 : Int32) (a3 : Int32) : Option (Int32 × Mem) :=
  (f_X12_isFact μ k0 a1).bind fun r2 =>
    if r2 = 0 then
      f_X12_clash_j31 μ k0 a1 a2 a3
    else
      (f_X12_isFact μ k0 a2).bind fun r10 =>
        if r10 = 0 then
          f_X12_clash_j31 μ k0 a1 a2 a3
        else
          if a1 = a2 then
            f_X12_clash_j31 μ k0 a1 a2 a3
          else
            (f_X12_in a3.toInt64 (0 : Int64) (1 : Int64)).bind fun r25 =>
              if ¬ r25 = 0 then
                (f_X12_its μ k0 a1 (1 : Int32)).bind fun r40 =>
                  (f_X12_its μ k0 a1 (1 : Int32)).bind fun r55 =>
                    (f_X12_puts μ k0 a1 (1 : Int32) ((r55 &&& ((jshl (1 : Int32) a2) ^^^ (-1 : Int32))) ||| (jshl a3 a2))).bind fun μ68 =>
                      (f_X12_its μ68 k0 a2 (1 : Int32)).bind fun r77 =>
                        (f_X12_puts μ68 k0 a2 (1 : Int32) ((r77 &&& ((jshl (1 : Int32) a1) ^^^ (-1 : Int32))) ||| (jshl a3 a1))).bind fun μ90 =>
                          some ((jshr r40 a2) &&& (1 : Int32), μ90)
              else
                f_X12_clash_j31 μ k0 a1 a2 a3
def f_X12_explain_j70 (μ_70 : Mem) (k0 : Nat) (a1 : Int32) (a2 : Int32) (a3 : Int32) (v4_70 : Int32) (kt0_70 : Nat) (vt1_70 : Int32) (vt2_70 : Int32) (vt3_70 : Int32) : Option (Int32 × Mem) :=
  (f_X12_puts μ_70 kt0_70 vt1_70 vt2_70 vt3_70).bind fun μ70 =>
    some (v4_70, μ70)
def f_X12_explain_j43 (μ_43 : Mem) (k0 : Nat) (a1 : Int32) (a2 : Int32) (a3 : Int32) : Option (Int32 × Mem) :=
  (f_X12_its μ_43 k0 a1 (2 : Int32)).bind fun r46 =>
    (f_X12_puts μ_43 k0 a1 (2 : Int32) a2).bind fun μ55 =>
      if a2 ≤ 0 then
        f_X12_explain_j70 μ55 k0 a1 a2 a3 r46 k0 a1 (3 : Int32) (-1 : Int32)
      else
        f_X12_explain_j70 μ55 k0 a1 a2 a3 r46 k0 a1 (3 : Int32) a3
def f_X12_explain_j37 (μ_37 : Mem) (k0 : Nat) (a1 : Int32) (a2 : Int32) (a3 : Int32) : Option (Int32 × Mem) :=
  (f_X12_finds μ_37 k0 (1 : Int32)).bind fun p39 =>
    some (p39.1, p39.2)
def f_X12_explain (μ : Mem) (k0 : Nat) (a1 : Int32) (a2 : Int32) (a3 : Int32) : Option (Int32 × Mem) :=
  (f_X12_isFact μ k0 a1).bind fun r2 =>
    if r2 = 0 then
      f_X12_explain_j37 μ k0 a1 a2 a3
    else
      (f_X12_in a2.toInt64 (0 : Int64) (9 : Int64)).bind fun r14 =>
        if r14 = 0 then
          f_X12_explain_j37 μ k0 a1 a2 a3
        else
          if a2 ≤ 0 then
            f_X12_explain_j43 μ k0 a1 a2 a3
          else
            (f_X12_isFact μ k0 a3).bind fun r26 =>
              if r26 = 0 then
                f_X12_explain_j37 μ k0 a1 a2 a3
              else
                if ¬ a3 = a1 then
                  f_X12_explain_j43 μ k0 a1 a2 a3
                else
                  f_X12_explain_j37 μ k0 a1 a2 a3
def f_X12_bookOf_l4 (μ : Mem) (k0 : Nat) (a1 : Int32) (v2_4 : Int32) (v3_4 : Int32) : Option ((Int32 × Int32) ⊕ (Int32)) :=
  (f_X12_of μ k0 a1 (4 : Int32)).bind fun r8 =>
    if r8 ≤ v3_4 then
      some (.inr v2_4)
    else
      (f_X12_of μ k0 a1 ((5 : Int32) + v3_4)).bind fun r21 =>
        some (.inl (v2_4 ||| (jshl (1 : Int32) r21), v3_4 + 1))
def f_X12_bookOf (μ : Mem) (k0 : Nat) (a1 : Int32) : Option (Int32) :=
  (lp (fun s => f_X12_bookOf_l4 μ k0 a1 s.1 s.2) FU ((0 : Int32), (0 : Int32))).bind fun e4 =>
    some e4
def f_X12_booksWith_l4 (μ : Mem) (k0 : Nat) (a1 : Int32) (v2_4 : Int32) (v3_4 : Int32) : Option ((Int32 × Int32) ⊕ (Int32)) :=
  if (rd μ (rf k0 0) (1 : Int32).toNatClampNeg) ≤ v3_4 then
    some (.inr v2_4)
  else
    (f_X12_bookOf μ k0 v3_4).bind fun r17 =>
      some (.inl (v2_4 + ((jshr r17 a1) &&& (1 : Int32)), v3_4 + 1))
def f_X12_booksWith (μ : Mem) (k0 : Nat) (a1 : Int32) : Option (Int32) :=
  (lp (fun s => f_X12_booksWith_l4 μ k0 a1 s.1 s.2) FU ((0 : Int32), (0 : Int32))).bind fun e4 =>
    some e4
def f_X12_ofFact_j20 (μ_20 : Mem) (k0 : Nat) (a1 : Int32) (a2 : Int32) : Option (Int32 × Mem) :=
  (f_X12_finds μ_20 k0 (1 : Int32)).bind fun p22 =>
    some (p22.1, p22.2)
def f_X12_ofFact (μ : Mem) (k0 : Nat) (a1 : Int32) (a2 : Int32) : Option (Int32 × Mem) :=
  (f_X12_isFact μ k0 a1).bind fun r2 =>
    if r2 = 0 then
      f_X12_ofFact_j20 μ k0 a1 a2
    else
      (f_X12_in a2.toInt64 (0 : Int64) (5 : Int64)).bind fun r14 =>
        if ¬ r14 = 0 then
          if (5 : Int32) ≤ a2 then
            (f_X12_booksWith μ k0 a1).bind fun r42 =>
              some (r42, μ)
          else
            (f_X12_its μ k0 a1 a2).bind fun r34 =>
              some (r34, μ)
        else
          f_X12_ofFact_j20 μ k0 a1 a2
def f_X12_mayTell_j48 (μ : Mem) (k0 : Nat) (a1 : Int32) (a2 : Int32) (v4_48 : Int32) (vt0_48 : Int32) : Option (Int32) :=
  (f_X12_of μ k0 a1 (1 : Int32)).bind fun r53 =>
    (f_X12_of μ k0 a1 (0 : Int32)).bind fun r61 =>
      if r61 = 1 then
        if vt0_48 = 0 then
          some (0 : Int32)
        else
          if v4_48 = 0 then
            some (1 : Int32)
          else
            (f_X12_booksWith μ k0 a2).bind fun r116 =>
              if r116 ≤ 0 then
                some (0 : Int32)
              else
                some (1 : Int32)
      else
        if r61 = 2 then
          if vt0_48 = 0 then
            some (0 : Int32)
          else
            if (jrem r53 (3 : Int32)) < v4_48 then
              some (0 : Int32)
            else
              some (1 : Int32)
        else
          if r61 = 3 then
            if ¬ v4_48 = 0 then
              some (0 : Int32)
            else
              some (1 : Int32)
          else
            if r61 = 4 then
              if vt0_48 = 0 then
                some (0 : Int32)
              else
                if v4_48 = 0 then
                  some (1 : Int32)
                else
                  (f_X12_booksWith μ k0 a2).bind fun r116 =>
                    if r116 ≤ 0 then
                      some (0 : Int32)
                    else
                      some (1 : Int32)
            else
              if r61 = 5 then
                if vt0_48 = 0 then
                  some (0 : Int32)
                else
                  if (jrem r53 (3 : Int32)) < v4_48 then
                    some (0 : Int32)
                  else
                    if a2 = r53 then
                      some (0 : Int32)
                    else
                      some (1 : Int32)
              else
                if r61 = 6 then
                  if ¬ v4_48 = 0 then
                    some (0 : Int32)
                  else
                    if ¬ vt0_48 = 0 then
                      some (1 : Int32)
                    else
                      if ¬ (jrem r53 (2 : Int32)) = (1 : Int32) then
                        some (0 : Int32)
                      else
                        some (1 : Int32)
                else
                  if vt0_48 = 0 then
                    some (0 : Int32)
                  else
                    if ¬ v4_48 = 0 then
                      some (0 : Int32)
                    else
                      some (1 : Int32)
def f_X12_mayTell (μ : Mem) (k0 : Nat) (a1 : Int32) (a2 : Int32) : Option (Int32) :=
  (f_X12_bookOf μ k0 a1).bind fun r2 =>
    if ¬ ((jshr r2 a2) &&& (1 : Int32)) = (1 : Int32) then
      (f_X12_its μ k0 a2 (0 : Int32)).bind fun r20 =>
        (f_X12_ones (r20 &&& (r2 ^^^ (-1 : Int32)))).bind fun r27 =>
          (f_X12_its μ k0 a2 (1 : Int32)).bind fun r35 =>
            if ¬ (r35 &&& r2) = 0 then
              f_X12_mayTell_j48 μ k0 a1 a2 r27 (0 : Int32)
            else
              f_X12_mayTell_j48 μ k0 a1 a2 r27 (1 : Int32)
    else
      some (0 : Int32)
def f_X12_allMay_l4 (μ : Mem) (k0 : Nat) (a1 : Int32) (v2_4 : Int32) (v3_4 : Int32) : Option ((Int32 × Int32) ⊕ (Int32)) :=
  if (rd μ (rf k0 0) (0 : Int32).toNatClampNeg) ≤ v3_4 then
    some (.inr v2_4)
  else
    (f_X12_mayTell μ k0 a1 v3_4).bind fun r18 =>
      if r18 = 0 then
        some (.inl (v2_4 ||| (0 : Int32), v3_4 + 1))
      else
        some (.inl (v2_4 ||| (jshl (1 : Int32) v3_4), v3_4 + 1))
def f_X12_allMay (μ : Mem) (k0 : Nat) (a1 : Int32) : Option (Int32) :=
  (lp (fun s => f_X12_allMay_l4 μ k0 a1 s.1 s.2) FU ((0 : Int32), (0 : Int32))).bind fun e4 =>
    some e4
def f_X12_dueOf (μ : Mem) (k0 : Nat) (a1 : Int32) : Option (Int32) :=
  if ¬ a1 = (rd μ k0 12) then
    (f_X12_of μ k0 a1 (1 : Int32)).bind fun r16 =>
      (f_X12_of μ k0 a1 (0 : Int32)).bind fun r25 =>
        if ¬ r25 = (3 : Int32) then
          if ¬ r25 = (6 : Int32) then
            if ¬ r25 = (4 : Int32) then
              some (1 : Int32)
            else
              some ((1 : Int32) + (jrem r16 (2 : Int32)))
          else
            some ((2 : Int32) - (jrem r16 (2 : Int32)))
        else
          some (2 : Int32)
  else
    some (rd μ k0 13)
def f_X12_paysOf_j51 (μ_51 : Mem) (k0 : Nat) (a1 : Int32) (a2 : Int32) (v3_51 : Int32) : Option (Int32 × Mem) :=
  some (v3_51 / (2 : Int32), μ_51)
def f_X12_paysOf (μ : Mem) (k0 : Nat) (a1 : Int32) (a2 : Int32) : Option (Int32 × Mem) :=
  (f_X12_of μ k0 a1 (2 : Int32)).bind fun r12 =>
    (f_X12_textGives μ k0 (0 : Int32) a2 (rd μ (rf k0 0) (3 : Int32).toNatClampNeg) r12).bind fun p15 =>
      (f_X12_of p15.2 k0 a1 (0 : Int32)).bind fun r22 =>
        if ¬ r22 = (5 : Int32) then
          if r22 = (1 : Int32) then
            f_X12_paysOf_j51 p15.2 k0 a1 a2 p15.1
          else
            if ¬ r22 = (4 : Int32) then
              some (p15.1, p15.2)
            else
              f_X12_paysOf_j51 p15.2 k0 a1 a2 p15.1
        else
          some ((2 : Int32) * p15.1, p15.2)
def f_X12_isOpen (μ : Mem) (k0 : Nat) (a1 : Int32) (a2 : Int32) : Option (Int32) :=
  (f_X12_its μ k0 a1 (2 : Int32)).bind fun r3 =>
    if r3 ≤ 0 then
      some (0 : Int32)
    else
      (f_X12_its μ k0 a1 (3 : Int32)).bind fun r13 =>
        if ¬ ((jshr a2 r13) &&& (1 : Int32)) = 0 then
          some (0 : Int32)
        else
          some (1 : Int32)
def f_X12_openOf_l11 (μ : Mem) (k0 : Nat) (a1 : Int32) (v2_11 : Int32) (v3_11 : Int32) (v4_11 : Int32) : Option ((Int32 × Int32) ⊕ (Int32)) :=
  (f_X12_of μ k0 a1 (4 : Int32)).bind fun r16 =>
    if r16 ≤ v4_11 then
      some (.inr v3_11)
    else
      (f_X12_of μ k0 a1 ((5 : Int32) + v4_11)).bind fun r30 =>
        (f_X12_isOpen μ k0 r30 v2_11).bind fun r34 =>
          if r34 = 0 then
            some (.inl (v3_11 + (0 : Int32), v4_11 + 1))
          else
            some (.inl (v3_11 + (1 : Int32), v4_11 + 1))
def f_X12_openOf (μ : Mem) (k0 : Nat) (a1 : Int32) : Option (Int32) :=
  (f_X12_bookOf μ k0 a1).bind fun r2 =>
    (lp (fun s => f_X12_openOf_l11 μ k0 a1 r2 s.1 s.2) FU ((0 : Int32), (0 : Int32))).bind fun e11 =>
      some e11
def f_X12_isOverdue_j74 (μ : Mem) (k0 : Nat) (a1 : Int32) (v2_11 : Int32) (v4_74 : Int32) : Option ((Int32 × Int32) ⊕ (Int32)) :=
  some (.inl ((1 : Int32), v4_74 + 1))
def f_X12_isOverdue_l11 (μ : Mem) (k0 : Nat) (a1 : Int32) (v2_11 : Int32) (v3_11 : Int32) (v4_11 : Int32) : Option ((Int32 × Int32) ⊕ (Int32)) :=
  (f_X12_of μ k0 a1 (4 : Int32)).bind fun r16 =>
    if r16 ≤ v4_11 then
      some (.inr v3_11)
    else
      (f_X12_of μ k0 a1 ((5 : Int32) + v4_11)).bind fun r28 =>
        if ¬ v3_11 = 0 then
          f_X12_isOverdue_j74 μ k0 a1 v2_11 v4_11
        else
          (f_X12_isOpen μ k0 r28 v2_11).bind fun r41 =>
            if r41 = 0 then
              some (.inl ((0 : Int32), v4_11 + 1))
            else
              (f_X12_of μ k0 a1 ((13 : Int32) + v4_11)).bind fun r60 =>
                (f_X12_its μ k0 r28 (2 : Int32)).bind fun r67 =>
                  if (rd μ (rf k0 0) (3 : Int32).toNatClampNeg) < (r60 + r67) then
                    some (.inl ((0 : Int32), v4_11 + 1))
                  else
                    f_X12_isOverdue_j74 μ k0 a1 v2_11 v4_11
def f_X12_isOverdue (μ : Mem) (k0 : Nat) (a1 : Int32) : Option (Int32) :=
  (f_X12_bookOf μ k0 a1).bind fun r2 =>
    (lp (fun s => f_X12_isOverdue_l11 μ k0 a1 r2 s.1 s.2) FU ((0 : Int32), (0 : Int32))).bind fun e11 =>
      if bz e11 then
        some e11
      else none
def f_X12_writes (μ : Mem) (k0 : Nat) (a1 : Int32) (a2 : Int32) : Option (Mem) :=
  (f_X12_of μ k0 a1 (4 : Int32)).bind fun r6 =>
    (f_X12_sets μ k0 a1 ((5 : Int32) + r6) a2).bind fun μ11 =>
      (f_X12_of μ11 k0 a1 (4 : Int32)).bind fun r21 =>
        (f_X12_sets μ11 k0 a1 ((13 : Int32) + r21) (rd μ11 (rf k0 0) (3 : Int32).toNatClampNeg)).bind fun μ31 =>
          (f_X12_of μ31 k0 a1 (4 : Int32)).bind fun r40 =>
            (f_X12_sets μ31 k0 a1 (4 : Int32) (r40 + (1 : Int32))).bind fun μ45 =>
              some μ45
def f_X12_tellsNow_j38 (μ_38 : Mem) (k0 : Nat) (a1 : Int32) (a2 : Int32) (kt0_38 : Nat) (vt1_38 : Int32) (vt2_38 : Int32) (vt3_38 : Int32) : Option (Mem) :=
  (f_X12_sets μ_38 kt0_38 vt1_38 vt2_38 vt3_38).bind fun μ38 =>
    some μ38
def f_X12_tellsNow (μ : Mem) (k0 : Nat) (a1 : Int32) (a2 : Int32) : Option (Mem) :=
  (f_X12_paysOf μ k0 a1 a2).bind fun p3 =>
    (f_X12_writes p3.2 k0 a1 a2).bind fun μ10 =>
      (f_X12_of μ10 k0 a1 (2 : Int32)).bind fun r20 =>
        if r20 ≤ p3.1 then
          f_X12_tellsNow_j38 μ10 k0 a1 a2 k0 a1 (2 : Int32) (0 : Int32)
        else
          (f_X12_of μ10 k0 a1 (2 : Int32)).bind fun r29 =>
            f_X12_tellsNow_j38 μ10 k0 a1 a2 k0 a1 (2 : Int32) (r29 - p3.1)
def f_X12_debtor_j24 (μ_24 : Mem) (k0 : Nat) (a1 : Int32) (a2 : Int32) : Option (Int32 × Mem) :=
  (f_X12_finds μ_24 k0 (1 : Int32)).bind fun p26 =>
    some (p26.1, p26.2)
def f_X12_debtor (μ : Mem) (k0 : Nat) (a1 : Int32) (a2 : Int32) : Option (Int32 × Mem) :=
  (f_X12_in a1.toInt64 (0 : Int64) (69 : Int64)).bind fun r6 =>
    if r6 = 0 then
      f_X12_debtor_j24 μ k0 a1 a2
    else
      (f_X12_in a2.toInt64 (0 : Int64) (9999 : Int64)).bind fun r18 =>
        if ¬ r18 = 0 then
          if ¬ (rd μ (rf k0 0) (1 : Int32).toNatClampNeg) = (4 : Int32) then
            (some (wr μ (rf k0 0) (1 : Int32).toNatClampNeg ((rd μ (rf k0 0) (1 : Int32).toNatClampNeg) + (1 : Int32)))).bind fun m62 =>
              (f_X12_sets m62 k0 (rd μ (rf k0 0) (1 : Int32).toNatClampNeg) (0 : Int32) (a1 / (10 : Int32))).bind fun μ70 =>
                (f_X12_sets μ70 k0 (rd μ (rf k0 0) (1 : Int32).toNatClampNeg) (1 : Int32) (jrem a1 (10 : Int32))).bind fun μ80 =>
                  (f_X12_sets μ80 k0 (rd μ (rf k0 0) (1 : Int32).toNatClampNeg) (2 : Int32) a2).bind fun μ87 =>
                    (f_X12_sets μ87 k0 (rd μ (rf k0 0) (1 : Int32).toNatClampNeg) (3 : Int32) (0 : Int32)).bind fun μ94 =>
                      (f_X12_sets μ94 k0 (rd μ (rf k0 0) (1 : Int32).toNatClampNeg) (4 : Int32) (0 : Int32)).bind fun μ101 =>
                        some (rd μ (rf k0 0) (1 : Int32).toNatClampNeg, μ101)
          else
            (f_X12_finds μ k0 (4 : Int32)).bind fun p42 =>
              some (p42.1, p42.2)
        else
          f_X12_debtor_j24 μ k0 a1 a2
def f_X12_toldOf (μ : Mem) (k0 : Nat) (a1 : Int32) (a2 : Int32) : Option (Int32 × Mem) :=
  if a2 = 0 then
    (f_X12_of μ k0 a1 (0 : Int32)).bind fun r55 =>
      some (r55, μ)
  else
    if a2 = 1 then
      (f_X12_of μ k0 a1 (1 : Int32)).bind fun r62 =>
        some (r62, μ)
    else
      if a2 = 2 then
        (f_X12_of μ k0 a1 (2 : Int32)).bind fun r69 =>
          some (r69, μ)
      else
        if a2 = 3 then
          (f_X12_of μ k0 a1 (4 : Int32)).bind fun r76 =>
            some (r76, μ)
        else
          if a2 = 4 then
            (f_X12_bookOf μ k0 a1).bind fun r82 =>
              some (r82, μ)
          else
            if a2 = 5 then
              (f_X12_of μ k0 a1 (3 : Int32)).bind fun r89 =>
                some (r89, μ)
            else
              if a2 = 6 then
                (f_X12_dueOf μ k0 a1).bind fun r95 =>
                  some (r95, μ)
              else
                if a2 = 7 then
                  (f_X12_openOf μ k0 a1).bind fun r101 =>
                    some (r101, μ)
                else
                  if a2 = 8 then
                    (f_X12_allMay μ k0 a1).bind fun r107 =>
                      some (r107, μ)
                  else
                    (f_X12_of μ k0 a1 (2 : Int32)).bind fun r116 =>
                      (f_X12_openOf μ k0 a1).bind fun r121 =>
                        (f_X12_of μ k0 a1 (4 : Int32)).bind fun r127 =>
                          (f_X12_textGives μ k0 (1 : Int32) r116 r121 r127).bind fun p130 =>
                            some (p130.1, p130.2)
def f_X12_ofDebtor_j29 (μ_29 : Mem) (k0 : Nat) (a1 : Int32) (a2 : Int32) : Option (Int32 × Mem) :=
  (f_X12_finds μ_29 k0 (1 : Int32)).bind fun p31 =>
    some (p31.1, p31.2)
def f_X12_ofDebtor (μ : Mem) (k0 : Nat) (a1 : Int32) (a2 : Int32) : Option (Int32 × Mem) :=
  (f_X12_isDebtor μ k0 a1).bind fun r2 =>
    if r2 = 0 then
      f_X12_ofDebtor_j29 μ k0 a1 a2
    else
      (f_X12_in a2.toInt64 (0 : Int64) (9 : Int64)).bind fun r14 =>
        if r14 = 0 then
          f_X12_ofDebtor_j29 μ k0 a1 a2
        else
          (f_X12_toldOf μ k0 a1 a2).bind fun p23 =>
            some (p23.1, p23.2)
def f_X12_book_j64 (μ_64 : Mem) (k0 : Nat) (a1 : Int32) (a2 : Int32) (a3 : Int32) (kt0_64 : Nat) (vt1_64 : Int32) (vt2_64 : Int32) : Option (Int32 × Mem) :=
  (f_X12_of μ_64 kt0_64 vt1_64 vt2_64).bind fun r64 =>
    some (r64, μ_64)
def f_X12_book_j18 (μ_18 : Mem) (k0 : Nat) (a1 : Int32) (a2 : Int32) (a3 : Int32) : Option (Int32 × Mem) :=
  (f_X12_finds μ_18 k0 (1 : Int32)).bind fun p20 =>
    some (p20.1, p20.2)
def f_X12_book (μ : Mem) (k0 : Nat) (a1 : Int32) (a2 : Int32) (a3 : Int32) : Option (Int32 × Mem) :=
  (f_X12_isDebtor μ k0 a1).bind fun r2 =>
    if r2 = 0 then
      f_X12_book_j18 μ k0 a1 a2 a3
    else
      (f_X12_in a3.toInt64 (0 : Int64) (1 : Int64)).bind fun r12 =>
        if ¬ r12 = 0 then
          (f_X12_of μ k0 a1 (4 : Int32)).bind fun r30 =>
            (f_X12_in a2.toInt64 (0 : Int64) ((r30 - (1 : Int32)).toInt64)).bind fun r36 =>
              if ¬ r36 = 0 then
                if ¬ a3 = 0 then
                  f_X12_book_j64 μ k0 a1 a2 a3 k0 a1 ((13 : Int32) + a2)
                else
                  f_X12_book_j64 μ k0 a1 a2 a3 k0 a1 ((5 : Int32) + a2)
              else
                (f_X12_finds μ k0 (2 : Int32)).bind fun p44 =>
                  some (p44.1, p44.2)
        else
          f_X12_book_j18 μ k0 a1 a2 a3
def f_X12_become_j20 (μ_20 : Mem) (k0 : Nat) (a1 : Int32) (a2 : Int32) : Option (Int32 × Mem) :=
  (f_X12_finds μ_20 k0 (1 : Int32)).bind fun p22 =>
    some (p22.1, p22.2)
def f_X12_become (μ : Mem) (k0 : Nat) (a1 : Int32) (a2 : Int32) : Option (Int32 × Mem) :=
  (f_X12_isDebtor μ k0 a1).bind fun r2 =>
    if r2 = 0 then
      f_X12_become_j20 μ k0 a1 a2
    else
      (f_X12_in a2.toInt64 (0 : Int64) (69 : Int64)).bind fun r14 =>
        if ¬ r14 = 0 then
          (f_X12_of μ k0 a1 (0 : Int32)).bind fun r29 =>
            (f_X12_sets μ k0 a1 (0 : Int32) (a2 / (10 : Int32))).bind fun μ40 =>
              (f_X12_sets μ40 k0 a1 (1 : Int32) (jrem a2 (10 : Int32))).bind fun μ50 =>
                some (r29, μ50)
        else
          f_X12_become_j20 μ k0 a1 a2
def f_X12_above (a0 : Int32) : Option (Int32) :=
  if (4 : Int32) ≤ a0 then
    some (a0 - (3 : Int32))
  else
    some (0 : Int32)
def f_X12_as_j50 (μ_50 : Mem) (k0 : Nat) (a1 : Int32) (a2 : Int32) : Option (Int32 × Mem) :=
  (f_X12_of μ_50 k0 a1 (1 : Int32)).bind fun r53 =>
    some (r53, μ_50)
def f_X12_as_j20 (μ_20 : Mem) (k0 : Nat) (a1 : Int32) (a2 : Int32) : Option (Int32 × Mem) :=
  (f_X12_finds μ_20 k0 (1 : Int32)).bind fun p22 =>
    some (p22.1, p22.2)
def f_X12_as (μ : Mem) (k0 : Nat) (a1 : Int32) (a2 : Int32) : Option (Int32 × Mem) :=
  (f_X12_isDebtor μ k0 a1).bind fun r2 =>
    if r2 = 0 then
      f_X12_as_j20 μ k0 a1 a2
    else
      (f_X12_in a2.toInt64 (0 : Int64) (6 : Int64)).bind fun r14 =>
        if ¬ r14 = 0 then
          (f_X12_of μ k0 a1 (0 : Int32)).bind fun r29 =>
            if a2 = 0 then
              f_X12_as_j50 μ k0 a1 a2
            else
              if a2 = r29 then
                f_X12_as_j50 μ k0 a1 a2
              else
                (f_X12_above r29).bind fun r44 =>
                  if ¬ a2 = r44 then
                    (f_X12_finds μ k0 (5 : Int32)).bind fun p61 =>
                      some (p61.1, p61.2)
                  else
                    f_X12_as_j50 μ k0 a1 a2
        else
          f_X12_as_j20 μ k0 a1 a2
def f_X12_lends (μ : Mem) (k0 : Nat) (a1 : Int32) (a2 : Int32) : Option (Mem) :=
  (f_X12_of μ k0 a1 (2 : Int32)).bind fun r6 =>
    (f_X12_held (r6 + a2) (0 : Int32) (9999 : Int32)).bind fun r15 =>
      (f_X12_sets μ k0 a1 (2 : Int32) r15).bind fun μ18 =>
        some μ18
def f_X12_lend_j20 (μ_20 : Mem) (k0 : Nat) (a1 : Int32) (a2 : Int32) : Option (Int32 × Mem) :=
  (f_X12_finds μ_20 k0 (1 : Int32)).bind fun p22 =>
    some (p22.1, p22.2)
def f_X12_lend (μ : Mem) (k0 : Nat) (a1 : Int32) (a2 : Int32) : Option (Int32 × Mem) :=
  (f_X12_isDebtor μ k0 a1).bind fun r2 =>
    if r2 = 0 then
      f_X12_lend_j20 μ k0 a1 a2
    else
      (f_X12_in a2.toInt64 (1 : Int64) (999 : Int64)).bind fun r14 =>
        if ¬ r14 = 0 then
          (f_X12_of μ k0 a1 (3 : Int32)).bind fun r29 =>
            if ¬ r29 = (1 : Int32) then
              (f_X12_lends μ k0 a1 a2).bind fun μ45 =>
                (f_X12_of μ45 k0 a1 (2 : Int32)).bind fun r51 =>
                  some (r51, μ45)
            else
              (f_X12_finds μ k0 (3 : Int32)).bind fun p38 =>
                some (p38.1, p38.2)
        else
          f_X12_lend_j20 μ k0 a1 a2
def f_X12_tells_j41 (μ_41 : Mem) (k0 : Nat) (a1 : Int32) (a2 : Int32) : Option (Int32 × Mem) :=
  (f_X12_finds μ_41 k0 (3 : Int32)).bind fun p43 =>
    some (p43.1, p43.2)
def f_X12_tells_j16 (μ_16 : Mem) (k0 : Nat) (a1 : Int32) (a2 : Int32) : Option (Int32 × Mem) :=
  (f_X12_finds μ_16 k0 (1 : Int32)).bind fun p18 =>
    some (p18.1, p18.2)
def f_X12_tells (μ : Mem) (k0 : Nat) (a1 : Int32) (a2 : Int32) : Option (Int32 × Mem) :=
  (f_X12_isDebtor μ k0 a1).bind fun r2 =>
    if r2 = 0 then
      f_X12_tells_j16 μ k0 a1 a2
    else
      (f_X12_isFact μ k0 a2).bind fun r10 =>
        if ¬ r10 = 0 then
          (f_X12_of μ k0 a1 (3 : Int32)).bind fun r25 =>
            if r25 = (1 : Int32) then
              f_X12_tells_j41 μ k0 a1 a2
            else
              (f_X12_mayTell μ k0 a1 a2).bind fun r35 =>
                if ¬ r35 = 0 then
                  (f_X12_tellsNow μ k0 a1 a2).bind fun μ50 =>
                    (f_X12_of μ50 k0 a1 (2 : Int32)).bind fun r56 =>
                      some (r56, μ50)
                else
                  f_X12_tells_j41 μ k0 a1 a2
        else
          f_X12_tells_j16 μ k0 a1 a2
def f_X12_pardon (μ : Mem) (k0 : Nat) (a1 : Int32) : Option (Int32 × Mem) :=
  (f_X12_isDebtor μ k0 a1).bind fun r2 =>
    if ¬ r2 = 0 then
      (f_X12_of μ k0 a1 (3 : Int32)).bind fun r17 =>
        if ¬ r17 = 0 then
          (f_X12_of μ k0 a1 (4 : Int32)).bind fun r32 =>
            (f_X12_sets μ k0 a1 (2 : Int32) (0 : Int32)).bind fun μ40 =>
              (f_X12_sets μ40 k0 a1 (3 : Int32) (0 : Int32)).bind fun μ47 =>
                (f_X12_sets μ47 k0 a1 (4 : Int32) (0 : Int32)).bind fun μ54 =>
                  some (r32, μ54)
        else
          (f_X12_finds μ k0 (3 : Int32)).bind fun p25 =>
            some (p25.1, p25.2)
    else
      (f_X12_finds μ k0 (1 : Int32)).bind fun p10 =>
        some (p10.1, p10.2)
def f_X12_serves_j95 (μ_95 : Mem) (k0 : Nat) (a1 : Int32) : Option (Mem) :=
  (f_X12_isOverdue μ_95 k0 a1).bind fun r97 =>
    if r97 = 0 then
      some μ_95
    else
      (f_X12_sets μ_95 k0 a1 (3 : Int32) (1 : Int32)).bind fun μ107 =>
        some μ107
def f_X12_serves_j61 (μ_61 : Mem) (k0 : Nat) (a1 : Int32) (v2_8 : Int32) (v3_61 : Int32) (v4_61 : Int32) : Option ((Int32 × Mem) ⊕ (Mem)) :=
  if (rd μ_61 (rf k0 0) (0 : Int32).toNatClampNeg) ≤ v4_61 then
    (f_X12_sets μ_61 k0 a1 (3 : Int32) (1 : Int32)).bind fun μ86 =>
      some (.inl (v3_61 + 1, μ86))
  else
    (f_X12_tellsNow μ_61 k0 a1 v4_61).bind fun μ76 =>
      some (.inl (v3_61 + 1, μ76))
def f_X12_serves_l34 (μ_34 : Mem) (k0 : Nat) (a1 : Int32) (v2_34 : Int32) (v3_34 : Int32) (v4_34 : Int32) : Option ((Int32) ⊕ (Int32)) :=
  if (rd μ_34 (rf k0 0) (0 : Int32).toNatClampNeg) ≤ v4_34 then
    some (.inr v4_34)
  else
    (f_X12_mayTell μ_34 k0 a1 v4_34).bind fun r49 =>
      if ¬ r49 = 0 then
        some (.inr v4_34)
      else
        some (.inl (v4_34 + 1))
def f_X12_serves_l8 (k0 : Nat) (a1 : Int32) (v2_8 : Int32) (v3_8 : Int32) (μ_8 : Mem) : Option ((Int32 × Mem) ⊕ (Mem)) :=
  if v2_8 ≤ v3_8 then
    some (.inr μ_8)
  else
    (f_X12_of μ_8 k0 a1 (2 : Int32)).bind fun r16 =>
      if r16 ≤ 0 then
        some (.inr μ_8)
      else
        (f_X12_of μ_8 k0 a1 (3 : Int32)).bind fun r25 =>
          if ¬ r25 = 0 then
            some (.inr μ_8)
          else
            (lp (fun s => f_X12_serves_l34 μ_8 k0 a1 v2_8 v3_8 s) FU (0 : Int32)).bind fun e34 =>
              f_X12_serves_j61 μ_8 k0 a1 v2_8 v3_8 e34
def f_X12_serves (μ : Mem) (k0 : Nat) (a1 : Int32) : Option (Mem) :=
  (f_X12_dueOf μ k0 a1).bind fun r2 =>
    (lp (fun s => f_X12_serves_l8 k0 a1 r2 s.1 s.2) FU ((0 : Int32), μ)).bind fun e8 =>
      f_X12_serves_j95 e8 k0 a1
def f_X12_aWeek_l2 (k0 : Nat) (v1_2 : Int32) (μ_2 : Mem) : Option ((Int32 × Mem) ⊕ (Mem)) :=
  if (rd μ_2 (rf k0 0) (1 : Int32).toNatClampNeg) ≤ v1_2 then
    some (.inr μ_2)
  else
    (f_X12_of μ_2 k0 v1_2 (3 : Int32)).bind fun r15 =>
      if ¬ r15 = 0 then
        some (.inl (v1_2 + 1, μ_2))
      else
        (f_X12_of μ_2 k0 v1_2 (2 : Int32)).bind fun r24 =>
          if r24 ≤ 0 then
            some (.inl (v1_2 + 1, μ_2))
          else
            (f_X12_serves μ_2 k0 v1_2).bind fun μ32 =>
              some (.inl (v1_2 + 1, μ32))
def f_X12_aWeek (μ : Mem) (k0 : Nat) : Option (Mem) :=
  (lp (fun s => f_X12_aWeek_l2 k0 s.1 s.2) FU ((0 : Int32), μ)).bind fun e2 =>
    (some (wr e2 (rf k0 0) (3 : Int32).toNatClampNeg ((rd e2 (rf k0 0) (3 : Int32).toNatClampNeg) + (1 : Int32)))).bind fun m50 =>
      some m50
def f_X12_brokenMany_l4 (μ : Mem) (k0 : Nat) (v1_4 : Int32) (v2_4 : Int32) : Option ((Int32 × Int32) ⊕ (Int32)) :=
  if (rd μ (rf k0 0) (1 : Int32).toNatClampNeg) ≤ v2_4 then
    some (.inr v1_4)
  else
    (f_X12_of μ k0 v2_4 (3 : Int32)).bind fun r18 =>
      some (.inl (v1_4 + r18, v2_4 + 1))
def f_X12_brokenMany (μ : Mem) (k0 : Nat) : Option (Int32) :=
  (lp (fun s => f_X12_brokenMany_l4 μ k0 s.1 s.2) FU ((0 : Int32), (0 : Int32))).bind fun e4 =>
    some e4
def f_X12_drawn (μ : Mem) (k0 : Nat) : Option (Int32 × Mem) :=
  (some (wr μ (rf k0 0) (4 : Int32).toNatClampNeg (((rd μ (rf k0 0) (4 : Int32).toNatClampNeg) * (1103515245 : Int32)) + (12345 : Int32)))).bind fun m18 =>
    some (jushr (rd m18 (rf k0 0) (4 : Int32).toNatClampNeg) (8 : Int32), m18)
def f_X12_passes_j105 (μ_105 : Mem) (k0 : Nat) (a1 : Int32) (a2 : Int32) (v3_105 : Int32) : Option ((Int32 × Mem) ⊕ (Mem)) :=
  (f_X12_aWeek μ_105 k0).bind fun μ106 =>
    some (.inl (v3_105 + 1, μ106))
def f_X12_passes_j76 (μ_76 : Mem) (k0 : Nat) (a1 : Int32) (a2 : Int32) (v3_76 : Int32) (v4_76 : Int32) (vt0_76 : Int32) : Option ((Int32 × Mem) ⊕ (Mem)) :=
  (f_X12_isDebtor μ_76 k0 v4_76).bind fun r81 =>
    if r81 = 0 then
      f_X12_passes_j105 μ_76 k0 a1 a2 v3_76
    else
      (f_X12_of μ_76 k0 v4_76 (3 : Int32)).bind fun r91 =>
        if ¬ r91 = 0 then
          f_X12_passes_j105 μ_76 k0 a1 a2 v3_76
        else
          (f_X12_lends μ_76 k0 v4_76 vt0_76).bind fun μ102 =>
            f_X12_passes_j105 μ102 k0 a1 a2 v3_76
def f_X12_passes_j59 (μ_59 : Mem) (k0 : Nat) (a1 : Int32) (a2 : Int32) (v3_59 : Int32) (vt0_59 : Int32) : Option ((Int32 × Mem) ⊕ (Mem)) :=
  if a2 = 0 then
    f_X12_passes_j76 μ_59 k0 a1 a2 v3_59 vt0_59 (0 : Int32)
  else
    (f_X12_drawn μ_59 k0).bind fun p66 =>
      f_X12_passes_j76 p66.2 k0 a1 a2 v3_59 vt0_59 (jrem p66.1 (50 : Int32))
def f_X12_passes_l40 (k0 : Nat) (a1 : Int32) (a2 : Int32) (v3_40 : Int32) (μ_40 : Mem) : Option ((Int32 × Mem) ⊕ (Mem)) :=
  if a1 ≤ v3_40 then
    some (.inr μ_40)
  else
    if a2 = 0 then
      f_X12_passes_j59 μ_40 k0 a1 a2 v3_40 (0 : Int32)
    else
      (f_X12_drawn μ_40 k0).bind fun p50 =>
        f_X12_passes_j59 p50.2 k0 a1 a2 v3_40 (jrem p50.1 (4 : Int32))
def f_X12_passes (μ : Mem) (k0 : Nat) (a1 : Int32) (a2 : Int32) : Option (Int32 × Mem) :=
  (f_X12_in a1.toInt64 (1 : Int64) (60 : Int64)).bind fun r6 =>
    if ¬ r6 = 0 then
      if ((rd μ (rf k0 0) (3 : Int32).toNatClampNeg) + a1) ≤ (999 : Int32) then
        (lp (fun s => f_X12_passes_l40 k0 a1 a2 s.1 s.2) FU ((0 : Int32), μ)).bind fun e40 =>
          (f_X12_brokenMany e40 k0).bind fun r116 =>
            some (r116, e40)
      else
        (f_X12_finds μ k0 (3 : Int32)).bind fun p34 =>
          some (p34.1, p34.2)
    else
      (f_X12_finds μ k0 (1 : Int32)).bind fun p14 =>
        some (p14.1, p14.2)
def f_X12_weeks (μ : Mem) (k0 : Nat) (a1 : Int32) : Option (Int32 × Mem) :=
  (f_X12_passes μ k0 a1 (0 : Int32)).bind fun p3 =>
    some (p3.1, p3.2)
def f_X12_loose (μ : Mem) (k0 : Nat) (a1 : Int32) : Option (Int32 × Mem) :=
  (f_X12_passes μ k0 a1 (1 : Int32)).bind fun p3 =>
    some (p3.1, p3.2)
def f_X12_then_l53 (k0 : Nat) (a1 : Int32) (a2 : Int32) (a3 : Int32) (v4_53 : Int32) (μ_53 : Mem) : Option ((Int32 × Mem) ⊕ (Mem)) :=
  if a1 ≤ v4_53 then
    some (.inr μ_53)
  else
    (f_X12_aWeek μ_53 k0).bind fun μ60 =>
      some (.inl (v4_53 + 1, μ60))
def f_X12_then_j40 (μ_40 : Mem) (k0 : Nat) (a1 : Int32) (a2 : Int32) (a3 : Int32) : Option (Int32 × Mem) :=
  (f_X12_finds μ_40 k0 (1 : Int32)).bind fun p42 =>
    some (p42.1, p42.2)
def f_X12_then (μ : Mem) (k0 : Nat) (a1 : Int32) (a2 : Int32) (a3 : Int32) : Option (Int32 × Mem) :=
  (f_X12_in a1.toInt64 (0 : Int64) (60 : Int64)).bind fun r6 =>
    if r6 = 0 then
      f_X12_then_j40 μ k0 a1 a2 a3
    else
      (f_X12_isDebtor μ k0 a2).bind fun r14 =>
        if r14 = 0 then
          f_X12_then_j40 μ k0 a1 a2 a3
        else
          (f_X12_in a3.toInt64 (2 : Int64) (7 : Int64)).bind fun r28 =>
            if r28 = 0 then
              f_X12_then_j40 μ k0 a1 a2 a3
            else
              if ¬ a3 = (6 : Int32) then
                (f_X12_keepAside μ k0).bind fun μ47 =>
                  (lp (fun s => f_X12_then_l53 k0 a1 a2 a3 s.1 s.2) FU ((0 : Int32), μ47)).bind fun e53 =>
                    (f_X12_toldOf e53 k0 a2 a3).bind fun p72 =>
                      (f_X12_putBack p72.2 k0).bind fun μ78 =>
                        some (p72.1, μ78)
              else
                f_X12_then_j40 μ k0 a1 a2 a3
def f_X12_takes_ (μ : Mem) (k0 : Nat) (a1 : Int32) (a2 : Int32) : Option (Int32 × Mem) :=
  (f_X12_mayTell μ k0 a1 a2).bind fun r3 =>
    if ¬ r3 = 0 then
      (f_X12_writes μ k0 a1 a2).bind fun μ14 =>
        (f_X12_isOverdue μ14 k0 a1).bind fun r19 =>
          if r19 = 0 then
            some ((1 : Int32), μ14)
          else
            (f_X12_of μ14 k0 a1 (4 : Int32)).bind fun r31 =>
              (f_X12_sets μ14 k0 a1 (4 : Int32) (r31 - (1 : Int32))).bind fun μ36 =>
                some ((0 : Int32), μ36)
    else
      some ((0 : Int32), μ)
def f_X12_looksAt_l63 (k0 : Nat) (a1 : Int32) (a2 : Int32) (a3 : Int32) (v5_63 : Int32) (μ_63 : Mem) : Option ((Int32 × Mem) ⊕ (Mem)) :=
  if a2 ≤ v5_63 then
    some (.inr μ_63)
  else
    if ib v5_63 9 then
      if ib v5_63 9 then
        (some (wr μ_63 (rf k0 16) v5_63.toNatClampNeg (rd μ_63 (rf k0 15) v5_63.toNatClampNeg))).bind fun m82 =>
          some (.inl (v5_63 + 1, m82))
      else none
    else none
def f_X12_looksAt_j48 (μ_48 : Mem) (k0 : Nat) (a1 : Int32) (a2 : Int32) (a3 : Int32) (vt0_48 : Int32) : Option (Mem) :=
  if vt0_48 = 0 then
    some μ_48
  else
    (some (wr μ_48 k0 17 a2)).bind fun m57 =>
      (lp (fun s => f_X12_looksAt_l63 k0 a1 a2 a3 s.1 s.2) FU ((0 : Int32), m57)).bind fun e63 =>
        some e63
def f_X12_looksAt_j31 (μ_31 : Mem) (k0 : Nat) (a1 : Int32) (a2 : Int32) (a3 : Int32) : Option (Mem) :=
  f_X12_looksAt_j48 μ_31 k0 a1 a2 a3 (0 : Int32)
def f_X12_looksAt_j27 (μ_27 : Mem) (k0 : Nat) (a1 : Int32) (a2 : Int32) (a3 : Int32) : Option (Mem) :=
  f_X12_looksAt_j48 μ_27 k0 a1 a2 a3 (1 : Int32)
def f_X12_looksAt (μ : Mem) (k0 : Nat) (a1 : Int32) (a2 : Int32) (a3 : Int32) : Option (Mem) :=
  if a3 = 0 then
    if a2 ≤ (rd μ k0 17) then
      f_X12_looksAt_j48 μ k0 a1 a2 a3 (0 : Int32)
    else
      f_X12_looksAt_j48 μ k0 a1 a2 a3 (1 : Int32)
  else
    (f_X12_openOf μ k0 a1).bind fun r6 =>
      if ¬ r6 = 0 then
        f_X12_looksAt_j31 μ k0 a1 a2 a3
      else
        if (rd μ k0 17) < 0 then
          f_X12_looksAt_j27 μ k0 a1 a2 a3
        else
          if (rd μ k0 17) ≤ a2 then
            f_X12_looksAt_j31 μ k0 a1 a2 a3
          else
            f_X12_looksAt_j27 μ k0 a1 a2 a3
def f_X12_findRow_j66 (μ_66 : Mem) (k0 : Nat) (a1 : Int32) (a2 : Int32) (v3_66 : Int32) (v4_66 : Int32) : Option ((Int32 × Mem) ⊕ (Mem)) :=
  if ib v3_66 9 then
    (some (wr μ_66 (rf k0 14) v3_66.toNatClampNeg v4_66)).bind fun m73 =>
      if (rd m73 (rf k0 0) (0 : Int32).toNatClampNeg) ≤ v4_66 then
        if (v3_66 + (-1 : Int32)) < 0 then
          some (.inl (v3_66 + (-1 : Int32), m73))
        else
          (f_X12_of m73 k0 a1 (4 : Int32)).bind fun r136 =>
            (f_X12_sets m73 k0 a1 (4 : Int32) (r136 - (1 : Int32))).bind fun μ141 =>
              (some (wr μ141 (rf k0 0) (3 : Int32).toNatClampNeg ((rd μ141 (rf k0 0) (3 : Int32).toNatClampNeg) - (1 : Int32)))).bind fun m153 =>
                some (.inl (v3_66 + (-1 : Int32), m153))
      else
        if ib v3_66 9 then
          (some (wr m73 (rf k0 15) v3_66.toNatClampNeg v4_66)).bind fun m92 =>
            (some (wr m92 (rf k0 0) (3 : Int32).toNatClampNeg ((rd m92 (rf k0 0) (3 : Int32).toNatClampNeg) + (1 : Int32)))).bind fun m105 =>
              if ib (v3_66 + 1) 9 then
                (some (wr m105 (rf k0 14) (v3_66 + 1).toNatClampNeg (-1 : Int32))).bind fun m112 =>
                  (f_X12_looksAt m112 k0 a1 (v3_66 + 1) a2).bind fun μ117 =>
                    some (.inl (v3_66 + 1, μ117))
              else none
        else none
  else none
def f_X12_findRow_l39 (k0 : Nat) (a1 : Int32) (a2 : Int32) (v3_39 : Int32) (v4_39 : Int32) (μ_39 : Mem) : Option ((Int32 × Mem) ⊕ (Int32 × Mem)) :=
  if (rd μ_39 (rf k0 0) (0 : Int32).toNatClampNeg) ≤ v4_39 then
    some (.inr (v4_39, μ_39))
  else
    (f_X12_takes_ μ_39 k0 a1 v4_39).bind fun p54 =>
      if ¬ p54.1 = 0 then
        some (.inr (v4_39, p54.2))
      else
        some (.inl (v4_39 + 1, p54.2))
def f_X12_findRow_l25 (k0 : Nat) (a1 : Int32) (a2 : Int32) (v3_25 : Int32) (μ_25 : Mem) : Option ((Int32 × Mem) ⊕ (Mem)) :=
  if v3_25 < 0 then
    some (.inr μ_25)
  else
    if ib v3_25 9 then
      (lp (fun s => f_X12_findRow_l39 k0 a1 a2 v3_25 s.1 s.2) FU ((rd μ_25 (rf k0 14) v3_25.toNatClampNeg) + (1 : Int32), μ_25)).bind fun e39 =>
        f_X12_findRow_j66 e39.2 k0 a1 a2 v3_25 e39.1
    else none
def f_X12_findRow (μ : Mem) (k0 : Nat) (a1 : Int32) (a2 : Int32) : Option (Mem) :=
  (f_X12_keepAside μ k0).bind fun μ1 =>
    (some (wr μ1 k0 17 (-1 : Int32))).bind fun m6 =>
      (some (wr m6 (rf k0 14) (0 : Int32).toNatClampNeg (-1 : Int32))).bind fun m17 =>
        (f_X12_looksAt m17 k0 a1 (0 : Int32) a2).bind fun μ22 =>
          (lp (fun s => f_X12_findRow_l25 k0 a1 a2 s.1 s.2) FU ((0 : Int32), μ22)).bind fun e25 =>
            (f_X12_putBack e25 k0).bind fun μ158 =>
              some μ158
def f_X12_rowTold_j65 (μ_65 : Mem) (k0 : Nat) (a1 : Int32) (a2 : Int32) (a3 : Int32) : Option (Int32 × Mem) :=
  (f_X12_finds μ_65 k0 (2 : Int32)).bind fun p67 =>
    some (p67.1, p67.2)
def f_X12_rowTold_j22 (μ_22 : Mem) (k0 : Nat) (a1 : Int32) (a2 : Int32) (a3 : Int32) : Option (Int32 × Mem) :=
  (f_X12_finds μ_22 k0 (1 : Int32)).bind fun p24 =>
    some (p24.1, p24.2)
def f_X12_rowTold (μ : Mem) (k0 : Nat) (a1 : Int32) (a2 : Int32) (a3 : Int32) : Option (Int32 × Mem) :=
  (f_X12_isDebtor μ k0 a1).bind fun r2 =>
    if r2 = 0 then
      f_X12_rowTold_j22 μ k0 a1 a2 a3
    else
      (f_X12_in a2.toInt64 (-1 : Int64) (7 : Int64)).bind fun r16 =>
        if ¬ r16 = 0 then
          (f_X12_of μ k0 a1 (3 : Int32)).bind fun r31 =>
            if ¬ r31 = (1 : Int32) then
              (f_X12_findRow μ k0 a1 a3).bind fun μ47 =>
                if (rd μ47 k0 17) < 0 then
                  f_X12_rowTold_j65 μ47 k0 a1 a2 a3
                else
                  if a2 < (rd μ47 k0 17) then
                    if 0 ≤ a2 then
                      if ib a2 9 then
                        some (rd μ47 (rf k0 16) a2.toNatClampNeg, μ47)
                      else none
                    else
                      some (rd μ47 k0 17, μ47)
                  else
                    f_X12_rowTold_j65 μ47 k0 a1 a2 a3
            else
              (f_X12_finds μ k0 (3 : Int32)).bind fun p40 =>
                some (p40.1, p40.2)
        else
          f_X12_rowTold_j22 μ k0 a1 a2 a3
def f_X12_served (μ : Mem) (k0 : Nat) (a1 : Int32) (a2 : Int32) : Option (Int32 × Mem) :=
  (f_X12_rowTold μ k0 a1 a2 (0 : Int32)).bind fun p4 =>
    some (p4.1, p4.2)
def f_X12_closed (μ : Mem) (k0 : Nat) (a1 : Int32) (a2 : Int32) : Option (Int32 × Mem) :=
  (f_X12_rowTold μ k0 a1 a2 (1 : Int32)).bind fun p4 =>
    some (p4.1, p4.2)
def f_X12_clashOf_l42 (μ_42 : Mem) (k0 : Nat) (a1 : Int32) (v2_42 : Int32) (v3_42 : Int32) : Option ((Int32) ⊕ ((Int32) ⊕ Unit)) :=
  if (rd μ_42 (rf k0 0) (0 : Int32).toNatClampNeg) ≤ v3_42 then
    some (.inr (.inr ()))
  else
    if ¬ ((jshr a1 v2_42) &&& (1 : Int32)) = (1 : Int32) then
      some (.inl (v3_42 + 1))
    else
      if ¬ ((jshr a1 v3_42) &&& (1 : Int32)) = (1 : Int32) then
        some (.inl (v3_42 + 1))
      else
        (f_X12_its μ_42 k0 v2_42 (1 : Int32)).bind fun r73 =>
          if ¬ ((jshr r73 v3_42) &&& (1 : Int32)) = (1 : Int32) then
            some (.inl (v3_42 + 1))
          else
            some (.inr (.inl v3_42))
def f_X12_clashOf_l28 (μ_28 : Mem) (k0 : Nat) (a1 : Int32) (v2_28 : Int32) : Option ((Int32) ⊕ ((Int32 × Int32) ⊕ Unit)) :=
  if (rd μ_28 (rf k0 0) (0 : Int32).toNatClampNeg) ≤ v2_28 then
    some (.inr (.inr ()))
  else
    (lp (fun s => f_X12_clashOf_l42 μ_28 k0 a1 v2_28 s) FU (v2_28 + (1 : Int32))).bind fun e42 =>
      Sum.elim (fun e42 =>
        some (.inr (.inl (v2_28, e42)))
      )
      (fun e42 =>
        some (.inl (v2_28 + 1))
      ) e42
def f_X12_clashOf (μ : Mem) (k0 : Nat) (a1 : Int32) : Option (Int32 × Mem) :=
  (f_X12_in a1.toInt64 (0 : Int64) (((jshl (1 : Int32) (rd μ (rf k0 0) (0 : Int32).toNatClampNeg)) - (1 : Int32)).toInt64)).bind fun r14 =>
    if ¬ r14 = 0 then
      (lp (fun s => f_X12_clashOf_l28 μ k0 a1 s) FU (0 : Int32)).bind fun e28 =>
        Sum.elim (fun e28 =>
          some (((10 : Int32) * e28.1) + e28.2, μ)
        )
        (fun e28 =>
          (f_X12_finds μ k0 (2 : Int32)).bind fun p105 =>
            some (p105.1, p105.2)
        ) e28
    else
      (f_X12_finds μ k0 (1 : Int32)).bind fun p22 =>
        some (p22.1, p22.2)
def f_X12_joined_l43 (μ_43 : Mem) (k0 : Nat) (a1 : Int32) (a2 : Int32) (v3_43 : Int32) (v4_43 : Int32) (v5_43 : Int32) : Option ((Int32) ⊕ (Unit ⊕ Unit)) :=
  if (rd μ_43 (rf k0 0) (0 : Int32).toNatClampNeg) ≤ v5_43 then
    some (.inr (.inr ()))
  else
    if ¬ ((jshr v3_43 v5_43) &&& (1 : Int32)) = (1 : Int32) then
      some (.inl (v5_43 + 1))
    else
      (f_X12_its μ_43 k0 v5_43 (1 : Int32)).bind fun r68 =>
        if (r68 &&& v4_43) = 0 then
          some (.inl (v5_43 + 1))
        else
          some (.inr (.inl ()))
def f_X12_joined_j21 (μ_21 : Mem) (k0 : Nat) (a1 : Int32) (a2 : Int32) : Option (Int32 × Mem) :=
  (f_X12_finds μ_21 k0 (1 : Int32)).bind fun p23 =>
    some (p23.1, p23.2)
def f_X12_joined (μ : Mem) (k0 : Nat) (a1 : Int32) (a2 : Int32) : Option (Int32 × Mem) :=
  (f_X12_isDebtor μ k0 a1).bind fun r2 =>
    if r2 = 0 then
      f_X12_joined_j21 μ k0 a1 a2
    else
      (f_X12_isDebtor μ k0 a2).bind fun r10 =>
        if r10 = 0 then
          f_X12_joined_j21 μ k0 a1 a2
        else
          if ¬ a1 = a2 then
            (f_X12_bookOf μ k0 a1).bind fun r29 =>
              (f_X12_bookOf μ k0 a2).bind fun r35 =>
                (lp (fun s => f_X12_joined_l43 μ k0 a1 a2 r29 r35 s) FU (0 : Int32)).bind fun e43 =>
                  Sum.elim (fun e43 =>
                    (f_X12_finds μ k0 (2 : Int32)).bind fun p79 =>
                      some (p79.1, p79.2)
                  )
                  (fun e43 =>
                    some (r29 ||| r35, μ)
                  ) e43
          else
            f_X12_joined_j21 μ k0 a1 a2
def f_X12_ratedBy_j41 (μ_41 : Mem) (k0 : Nat) (a1 : Int32) (a2 : Int32) (v3_41 : Int32) : Option (Int32 × Mem) :=
  (f_X12_putBack μ_41 k0).bind fun μ42 =>
    (some (wr μ42 k0 12 (-1 : Int32))).bind fun m47 =>
      if v3_41 ≤ (60 : Int32) then
        some (v3_41, m47)
      else
        some ((-1 : Int32), m47)
def f_X12_ratedBy_l16 (k0 : Nat) (a1 : Int32) (a2 : Int32) (v3_16 : Int32) (μ_16 : Mem) : Option ((Int32 × Mem) ⊕ (Int32 × Mem)) :=
  if (60 : Int32) < v3_16 then
    some (.inr (v3_16, μ_16))
  else
    (f_X12_of μ_16 k0 a1 (2 : Int32)).bind fun r25 =>
      if r25 ≤ 0 then
        some (.inr (v3_16, μ_16))
      else
        (f_X12_aWeek μ_16 k0).bind fun μ32 =>
          some (.inl (v3_16 + 1, μ32))
def f_X12_ratedBy (μ : Mem) (k0 : Nat) (a1 : Int32) (a2 : Int32) : Option (Int32 × Mem) :=
  (some (wr μ k0 12 a1)).bind fun m2 =>
    (some (wr m2 k0 13 a2)).bind fun m7 =>
      (f_X12_keepAside m7 k0).bind fun μ11 =>
        (lp (fun s => f_X12_ratedBy_l16 k0 a1 a2 s.1 s.2) FU ((0 : Int32), μ11)).bind fun e16 =>
          f_X12_ratedBy_j41 e16.2 k0 a1 a2 e16.1
def f_X12_rated_j105 (μ_105 : Mem) (k0 : Nat) (a1 : Int32) (a2 : Int32) (a3 : Int32) (v6_105 : Int32) (v7_105 : Int32) : Option ((Int32 × Int32 × Int32 × Mem) ⊕ (Int32 × Mem)) :=
  some (.inl (v6_105, v7_105, v6_105 + 1, μ_105))
def f_X12_rated_l73 (k0 : Nat) (a1 : Int32) (a2 : Int32) (a3 : Int32) (v4_73 : Int32) (v5_73 : Int32) (v6_73 : Int32) (μ_73 : Mem) : Option ((Int32 × Int32 × Int32 × Mem) ⊕ (Int32 × Mem)) :=
  if (4 : Int32) < v6_73 then
    some (.inr (v4_73, μ_73))
  else
    (f_X12_ratedBy μ_73 k0 a1 v6_73).bind fun p83 =>
      if p83.1 < 0 then
        some (.inl (v4_73, v5_73, v6_73 + 1, p83.2))
      else
        if v4_73 < 0 then
          f_X12_rated_j105 p83.2 k0 a1 a2 a3 v6_73 p83.1
        else
          if v5_73 ≤ p83.1 then
            some (.inl (v4_73, v5_73, v6_73 + 1, p83.2))
          else
            f_X12_rated_j105 p83.2 k0 a1 a2 a3 v6_73 p83.1
def f_X12_rated_j30 (μ_30 : Mem) (k0 : Nat) (a1 : Int32) (a2 : Int32) (a3 : Int32) : Option (Int32 × Mem) :=
  (f_X12_finds μ_30 k0 (1 : Int32)).bind fun p32 =>
    some (p32.1, p32.2)
def f_X12_rated (μ : Mem) (k0 : Nat) (a1 : Int32) (a2 : Int32) (a3 : Int32) : Option (Int32 × Mem) :=
  (f_X12_isDebtor μ k0 a1).bind fun r2 =>
    if r2 = 0 then
      f_X12_rated_j30 μ k0 a1 a2 a3
    else
      (f_X12_in a2.toInt64 (1 : Int64) (4 : Int64)).bind fun r14 =>
        if r14 = 0 then
          f_X12_rated_j30 μ k0 a1 a2 a3
        else
          (f_X12_in a3.toInt64 (0 : Int64) (1 : Int64)).bind fun r24 =>
            if ¬ r24 = 0 then
              if ¬ a3 = 0 then
                (lp (fun s => f_X12_rated_l73 k0 a1 a2 a3 s.1 s.2.1 s.2.2.1 s.2.2.2) FU ((-1 : Int32), (0 : Int32), (1 : Int32), μ)).bind fun e73 =>
                  if 0 ≤ e73.1 then
                    some (e73.1, e73.2)
                  else
                    (f_X12_finds e73.2 k0 (2 : Int32)).bind fun p126 =>
                      some (p126.1, p126.2)
              else
                (f_X12_ratedBy μ k0 a1 a2).bind fun p43 =>
                  if 0 ≤ p43.1 then
                    some (p43.1, p43.2)
                  else
                    (f_X12_finds p43.2 k0 (2 : Int32)).bind fun p55 =>
                      some (p55.1, p55.2)
            else
              f_X12_rated_j30 μ k0 a1 a2 a3
def f_X12_begins_j113 (μ_113 : Mem) (k0 : Nat) (a1 : Int32) (a2 : Int32) (v4_113 : Int32) : Option (Int32 × Mem) :=
  (f_X12_putBack μ_113 k0).bind fun μ114 =>
    if bz v4_113 then
      some (v4_113, μ114)
    else none
def f_X12_begins_l58 (μ_58 : Mem) (k0 : Nat) (a1 : Int32) (a2 : Int32) (v3_58 : Int32) (v4_58 : Int32) (v5_58 : Int32) : Option ((Int32 × Int32) ⊕ (Int32)) :=
  if ib a2 4 then
    if (rd μ_58 (rf k0 23) a2.toNatClampNeg) ≤ v5_58 then
      some (.inr v4_58)
    else
      if v4_58 = 0 then
        some (.inr v4_58)
      else
        (f_X12_of μ_58 k0 a1 (((5 : Int32) + v3_58) + v5_58)).bind fun r82 =>
          if ib (((40 : Int32) * a2) + v5_58) 160 then
            if ¬ r82 = (rd μ_58 (rf k0 24) (((40 : Int32) * a2) + v5_58).toNatClampNeg) then
              some (.inl ((0 : Int32), v5_58 + 1))
            else
              some (.inl ((1 : Int32), v5_58 + 1))
          else none
  else none
def f_X12_begins_j53 (μ_53 : Mem) (k0 : Nat) (a1 : Int32) (a2 : Int32) (v3_53 : Int32) (vt0_53 : Int32) : Option (Int32 × Mem) :=
  (lp (fun s => f_X12_begins_l58 μ_53 k0 a1 a2 v3_53 s.1 s.2) FU (vt0_53, (0 : Int32))).bind fun e58 =>
    f_X12_begins_j113 μ_53 k0 a1 a2 e58
def f_X12_begins_l14 (k0 : Nat) (a1 : Int32) (a2 : Int32) (v3_14 : Int32) (v4_14 : Int32) (μ_14 : Mem) : Option ((Int32 × Mem) ⊕ (Mem)) :=
  if (60 : Int32) ≤ v4_14 then
    some (.inr μ_14)
  else
    (f_X12_aWeek μ_14 k0).bind fun μ22 =>
      some (.inl (v4_14 + 1, μ22))
def f_X12_begins (μ : Mem) (k0 : Nat) (a1 : Int32) (a2 : Int32) : Option (Int32 × Mem) :=
  (f_X12_keepAside μ k0).bind fun μ1 =>
    (f_X12_of μ1 k0 a1 (4 : Int32)).bind fun r7 =>
      (lp (fun s => f_X12_begins_l14 k0 a1 a2 r7 s.1 s.2) FU ((0 : Int32), μ1)).bind fun e14 =>
        (f_X12_of e14 k0 a1 (4 : Int32)).bind fun r34 =>
          if ib a2 4 then
            if (r34 - r7) < (rd e14 (rf k0 23) a2.toNatClampNeg) then
              f_X12_begins_j53 e14 k0 a1 a2 r7 (0 : Int32)
            else
              f_X12_begins_j53 e14 k0 a1 a2 r7 (1 : Int32)
          else none
def f_X12_isSheet (a0 : Int32) : Option (Int32) :=
  (f_X12_in a0.toInt64 (0 : Int64) (3 : Int64)).bind fun r6 =>
    if bz r6 then
      some r6
    else none
def f_X12_explained_j92 (μ_92 : Mem) (k0 : Nat) (a1 : Int32) (a2 : Int32) (v3_92 : Int32) (v4_92 : Int32) : Option (Int32 × Mem) :=
  (f_X12_sets μ_92 k0 a1 (0 : Int32) v3_92).bind fun μ96 =>
    if 0 ≤ v4_92 then
      some (v4_92, μ96)
    else
      (f_X12_finds μ96 k0 (2 : Int32)).bind fun p106 =>
        some (p106.1, p106.2)
def f_X12_explained_l49 (k0 : Nat) (a1 : Int32) (a2 : Int32) (v3_49 : Int32) (v4_49 : Int32) (v5_49 : Int32) (μ_49 : Mem) : Option ((Int32 × Int32 × Mem) ⊕ (Int32 × Mem)) :=
  if (6 : Int32) < v5_49 then
    some (.inr (v4_49, μ_49))
  else
    if 0 ≤ v4_49 then
      some (.inr (v4_49, μ_49))
    else
      (f_X12_sets μ_49 k0 a1 (0 : Int32) v5_49).bind fun μ66 =>
        (f_X12_begins μ66 k0 a1 a2).bind fun p72 =>
          if p72.1 = 0 then
            some (.inl ((-1 : Int32), v5_49 + 1, p72.2))
          else
            some (.inl (v5_49, v5_49 + 1, p72.2))
def f_X12_explained_j15 (μ_15 : Mem) (k0 : Nat) (a1 : Int32) (a2 : Int32) : Option (Int32 × Mem) :=
  (f_X12_finds μ_15 k0 (1 : Int32)).bind fun p17 =>
    some (p17.1, p17.2)
def f_X12_explained (μ : Mem) (k0 : Nat) (a1 : Int32) (a2 : Int32) : Option (Int32 × Mem) :=
  (f_X12_isDebtor μ k0 a1).bind fun r2 =>
    if r2 = 0 then
      f_X12_explained_j15 μ k0 a1 a2
    else
      (f_X12_isSheet a2).bind fun r9 =>
        if ¬ r9 = 0 then
          if ib a2 4 then
            if ¬ (rd μ (rf k0 22) a2.toNatClampNeg) = 0 then
              (f_X12_of μ k0 a1 (0 : Int32)).bind fun r39 =>
                (lp (fun s => f_X12_explained_l49 k0 a1 a2 r39 s.1 s.2.1 s.2.2) FU ((-1 : Int32), (0 : Int32), μ)).bind fun e49 =>
                  f_X12_explained_j92 e49.2 k0 a1 a2 r39 e49.1
            else
              (f_X12_finds μ k0 (2 : Int32)).bind fun p32 =>
                some (p32.1, p32.2)
          else none
        else
          f_X12_explained_j15 μ k0 a1 a2
def f_X12_meeting_j41 (μ_41 : Mem) (k0 : Nat) (a1 : Int32) (a2 : Int32) (a3 : Int32) : Option (Int32 × Mem) :=
  (f_X12_finds μ_41 k0 (1 : Int32)).bind fun p43 =>
    some (p43.1, p43.2)
def f_X12_meeting (μ : Mem) (k0 : Nat) (a1 : Int32) (a2 : Int32) (a3 : Int32) : Option (Int32 × Mem) :=
  (f_X12_in a1.toInt64 (0 : Int64) (999 : Int64)).bind fun r6 =>
    if r6 = 0 then
      f_X12_meeting_j41 μ k0 a1 a2 a3
    else
      (f_X12_in a2.toInt64 (0 : Int64) (4 : Int64)).bind fun r18 =>
        if r18 = 0 then
          f_X12_meeting_j41 μ k0 a1 a2 a3
        else
          (f_X12_in a3.toInt64 (0 : Int64) (4 : Int64)).bind fun r30 =>
            if r30 = 0 then
              f_X12_meeting_j41 μ k0 a1 a2 a3
            else
              if ¬ a2 = a3 then
                if ¬ (rd μ (rf k0 0) (2 : Int32).toNatClampNeg) = (12 : Int32) then
                  (some (wr μ (rf k0 0) (2 : Int32).toNatClampNeg ((rd μ (rf k0 0) (2 : Int32).toNatClampNeg) + (1 : Int32)))).bind fun m81 =>
                    if ib ((134 : Int32) + ((3 : Int32) * (rd μ (rf k0 0) (2 : Int32).toNatClampNeg))) 342 then
                      (some (wr m81 (rf k0 0) ((134 : Int32) + ((3 : Int32) * (rd μ (rf k0 0) (2 : Int32).toNatClampNeg))).toNatClampNeg a1)).bind fun m95 =>
                        if ib (((134 : Int32) + ((3 : Int32) * (rd μ (rf k0 0) (2 : Int32).toNatClampNeg))) + (1 : Int32)) 342 then
                          (some (wr m95 (rf k0 0) (((134 : Int32) + ((3 : Int32) * (rd μ (rf k0 0) (2 : Int32).toNatClampNeg))) + (1 : Int32)).toNatClampNeg a2)).bind fun m111 =>
                            if ib (((134 : Int32) + ((3 : Int32) * (rd μ (rf k0 0) (2 : Int32).toNatClampNeg))) + (2 : Int32)) 342 then
                              (some (wr m111 (rf k0 0) (((134 : Int32) + ((3 : Int32) * (rd μ (rf k0 0) (2 : Int32).toNatClampNeg))) + (2 : Int32)).toNatClampNeg a3)).bind fun m127 =>
                                some (rd μ (rf k0 0) (2 : Int32).toNatClampNeg, m127)
                            else none
                        else none
                    else none
                else
                  (f_X12_finds μ k0 (4 : Int32)).bind fun p60 =>
                    some (p60.1, p60.2)
              else
                f_X12_meeting_j41 μ k0 a1 a2 a3
def f_X12_saw_j81 (μ : Mem) (k0 : Nat) (a1 : Int32) (a2 : Int32) (v4_19 : Int32) (v5_81 : Int32) (vt0_81 : Int32) : Option ((Int32 × Int32) ⊕ (Int32)) :=
  some (.inl (vt0_81 ||| (0 : Int32), v5_81 + 1))
def f_X12_saw_l19 (μ : Mem) (k0 : Nat) (a1 : Int32) (a2 : Int32) (v4_19 : Int32) (v3_19 : Int32) (v5_19 : Int32) : Option ((Int32 × Int32) ⊕ (Int32)) :=
  (f_X12_of μ k0 v4_19 (4 : Int32)).bind fun r25 =>
    if r25 ≤ v5_19 then
      some (.inr v3_19)
    else
      (f_X12_of μ k0 v4_19 ((5 : Int32) + v5_19)).bind fun r38 =>
        (f_X12_of μ k0 v4_19 ((13 : Int32) + v5_19)).bind fun r52 =>
          if a2 < r52 then
            f_X12_saw_j81 μ k0 a1 a2 v4_19 v5_19 v3_19
          else
            (f_X12_its μ k0 r38 (4 : Int32)).bind fun r63 =>
              if ¬ ((jshr r63 a1) &&& (1 : Int32)) = (1 : Int32) then
                f_X12_saw_j81 μ k0 a1 a2 v4_19 v5_19 v3_19
              else
                some (.inl (v3_19 ||| (jshl (1 : Int32) r38), v5_19 + 1))
def f_X12_saw_l5 (μ : Mem) (k0 : Nat) (a1 : Int32) (a2 : Int32) (v3_5 : Int32) (v4_5 : Int32) : Option ((Int32 × Int32) ⊕ (Int32)) :=
  if (rd μ (rf k0 0) (1 : Int32).toNatClampNeg) ≤ v4_5 then
    some (.inr v3_5)
  else
    (lp (fun s => f_X12_saw_l19 μ k0 a1 a2 v4_5 s.1 s.2) FU (v3_5, (0 : Int32))).bind fun e19 =>
      some (.inl (e19, v4_5 + 1))
def f_X12_saw (μ : Mem) (k0 : Nat) (a1 : Int32) (a2 : Int32) : Option (Int32) :=
  (lp (fun s => f_X12_saw_l5 μ k0 a1 a2 s.1 s.2) FU ((0 : Int32), (0 : Int32))).bind fun e5 =>
    some e5
def f_X12_knownBy_j157 (μ_157 : Mem) (k0 : Nat) (a1 : Int32) (a2 : Int32) (v3_157 : Int32) (v5_157 : Int32) (vt0_157 : Int32) : Option ((Int32 × Int32 × Mem) ⊕ (Mem)) :=
  if vt0_157 = 0 then
    some (.inl (v3_157, vt0_157, μ_157))
  else
    if ib ((134 : Int32) + ((3 : Int32) * v5_157)) 342 then
      if ib (((134 : Int32) + ((3 : Int32) * v5_157)) + (1 : Int32)) 342 then
        if ib (((134 : Int32) + ((3 : Int32) * v5_157)) + (2 : Int32)) 342 then
          if ib (rd μ_157 (rf k0 0) (((134 : Int32) + ((3 : Int32) * v5_157)) + (1 : Int32)).toNatClampNeg) 5 then
            if ib (rd μ_157 (rf k0 0) (((134 : Int32) + ((3 : Int32) * v5_157)) + (2 : Int32)).toNatClampNeg) 5 then
              (f_X12_saw μ_157 k0 (rd μ_157 (rf k0 0) (((134 : Int32) + ((3 : Int32) * v5_157)) + (1 : Int32)).toNatClampNeg) (rd μ_157 (rf k0 0) ((134 : Int32) + ((3 : Int32) * v5_157)).toNatClampNeg)).bind fun r233 =>
                (f_X12_saw μ_157 k0 (rd μ_157 (rf k0 0) (((134 : Int32) + ((3 : Int32) * v5_157)) + (2 : Int32)).toNatClampNeg) (rd μ_157 (rf k0 0) ((134 : Int32) + ((3 : Int32) * v5_157)).toNatClampNeg)).bind fun r242 =>
                  if ib (rd μ_157 (rf k0 0) (((134 : Int32) + ((3 : Int32) * v5_157)) + (1 : Int32)).toNatClampNeg) 5 then
                    (some (wr μ_157 (rf k0 18) (rd μ_157 (rf k0 0) (((134 : Int32) + ((3 : Int32) * v5_157)) + (1 : Int32)).toNatClampNeg).toNatClampNeg ((((rd μ_157 (rf k0 18) (rd μ_157 (rf k0 0) (((134 : Int32) + ((3 : Int32) * v5_157)) + (1 : Int32)).toNatClampNeg).toNatClampNeg) ||| (rd μ_157 (rf k0 18) (rd μ_157 (rf k0 0) (((134 : Int32) + ((3 : Int32) * v5_157)) + (2 : Int32)).toNatClampNeg).toNatClampNeg)) ||| r233) ||| r242))).bind fun m256 =>
                      if ib (rd μ_157 (rf k0 0) (((134 : Int32) + ((3 : Int32) * v5_157)) + (2 : Int32)).toNatClampNeg) 5 then
                        (some (wr m256 (rf k0 18) (rd μ_157 (rf k0 0) (((134 : Int32) + ((3 : Int32) * v5_157)) + (2 : Int32)).toNatClampNeg).toNatClampNeg ((((rd μ_157 (rf k0 18) (rd μ_157 (rf k0 0) (((134 : Int32) + ((3 : Int32) * v5_157)) + (1 : Int32)).toNatClampNeg).toNatClampNeg) ||| (rd μ_157 (rf k0 18) (rd μ_157 (rf k0 0) (((134 : Int32) + ((3 : Int32) * v5_157)) + (2 : Int32)).toNatClampNeg).toNatClampNeg)) ||| r233) ||| r242))).bind fun m265 =>
                          some (.inl (((12 : Int32) * (rd μ_157 (rf k0 0) ((134 : Int32) + ((3 : Int32) * v5_157)).toNatClampNeg)) + v5_157, vt0_157, m265))
                      else none
                  else none
            else none
          else none
        else none
      else none
    else none
def f_X12_knownBy_j102 (μ_36 : Mem) (k0 : Nat) (a1 : Int32) (a2 : Int32) (v3_36 : Int32) (v5_102 : Int32) (v6_102 : Int32) (v7_102 : Int32) (vt0_102 : Int32) : Option ((Int32 × Int32) ⊕ (Int32)) :=
  if v7_102 ≤ v3_36 then
    some (.inl (v5_102, v6_102 + 1))
  else
    if ib ((134 : Int32) + ((3 : Int32) * v6_102)) 342 then
      if a2 < (rd μ_36 (rf k0 0) ((134 : Int32) + ((3 : Int32) * v6_102)).toNatClampNeg) then
        some (.inl (v5_102, v6_102 + 1))
      else
        if vt0_102 = 0 then
          some (.inl (v5_102, v6_102 + 1))
        else
          some (.inl (v6_102, v6_102 + 1))
    else none
def f_X12_knownBy_j97 (μ_36 : Mem) (k0 : Nat) (a1 : Int32) (a2 : Int32) (v3_36 : Int32) (v5_97 : Int32) (v6_97 : Int32) (v7_97 : Int32) : Option ((Int32 × Int32) ⊕ (Int32)) :=
  f_X12_knownBy_j102 μ_36 k0 a1 a2 v3_36 v5_97 v6_97 v7_97 (1 : Int32)
def f_X12_knownBy_l36 (μ_36 : Mem) (k0 : Nat) (a1 : Int32) (a2 : Int32) (v3_36 : Int32) (v5_36 : Int32) (v6_36 : Int32) : Option ((Int32 × Int32) ⊕ (Int32)) :=
  if (rd μ_36 (rf k0 0) (2 : Int32).toNatClampNeg) ≤ v6_36 then
    some (.inr v5_36)
  else
    if ib ((134 : Int32) + ((3 : Int32) * v6_36)) 342 then
      if v5_36 < 0 then
        f_X12_knownBy_j97 μ_36 k0 a1 a2 v3_36 v5_36 v6_36 (((12 : Int32) * (rd μ_36 (rf k0 0) ((134 : Int32) + ((3 : Int32) * v6_36)).toNatClampNeg)) + v6_36)
      else
        if ib ((134 : Int32) + ((3 : Int32) * v5_36)) 342 then
          if (((12 : Int32) * (rd μ_36 (rf k0 0) ((134 : Int32) + ((3 : Int32) * v5_36)).toNatClampNeg)) + v5_36) ≤ (((12 : Int32) * (rd μ_36 (rf k0 0) ((134 : Int32) + ((3 : Int32) * v6_36)).toNatClampNeg)) + v6_36) then
            f_X12_knownBy_j102 μ_36 k0 a1 a2 v3_36 v5_36 v6_36 (((12 : Int32) * (rd μ_36 (rf k0 0) ((134 : Int32) + ((3 : Int32) * v6_36)).toNatClampNeg)) + v6_36) (0 : Int32)
          else
            f_X12_knownBy_j97 μ_36 k0 a1 a2 v3_36 v5_36 v6_36 (((12 : Int32) * (rd μ_36 (rf k0 0) ((134 : Int32) + ((3 : Int32) * v6_36)).toNatClampNeg)) + v6_36)
        else none
    else none
def f_X12_knownBy_l25 (k0 : Nat) (a1 : Int32) (a2 : Int32) (v3_25 : Int32) (v4_25 : Int32) (μ_25 : Mem) : Option ((Int32 × Int32 × Mem) ⊕ (Mem)) :=
  if v4_25 = 0 then
    some (.inr μ_25)
  else
    (lp (fun s => f_X12_knownBy_l36 μ_25 k0 a1 a2 v3_25 s.1 s.2) FU ((-1 : Int32), (0 : Int32))).bind fun e36 =>
      if e36 < 0 then
        f_X12_knownBy_j157 μ_25 k0 a1 a2 v3_25 e36 (0 : Int32)
      else
        f_X12_knownBy_j157 μ_25 k0 a1 a2 v3_25 e36 (1 : Int32)
def f_X12_knownBy_l2 (k0 : Nat) (a1 : Int32) (a2 : Int32) (v3_2 : Int32) (μ_2 : Mem) : Option ((Int32 × Mem) ⊕ (Mem)) :=
  if (5 : Int32) ≤ v3_2 then
    some (.inr μ_2)
  else
    if ib v3_2 5 then
      (some (wr μ_2 (rf k0 18) v3_2.toNatClampNeg (0 : Int32))).bind fun m13 =>
        some (.inl (v3_2 + 1, m13))
    else none
def f_X12_knownBy (μ : Mem) (k0 : Nat) (a1 : Int32) (a2 : Int32) : Option (Int32 × Mem) :=
  (lp (fun s => f_X12_knownBy_l2 k0 a1 a2 s.1 s.2) FU ((0 : Int32), μ)).bind fun e2 =>
    (lp (fun s => f_X12_knownBy_l25 k0 a1 a2 s.1 s.2.1 s.2.2) FU ((-1 : Int32), (1 : Int32), e2)).bind fun e25 =>
      if ib a1 5 then
        (f_X12_saw e25 k0 a1 a2).bind fun r287 =>
          some ((rd e25 (rf k0 18) a1.toNatClampNeg) ||| r287, e25)
      else none
def f_X12_knows_j33 (μ_33 : Mem) (k0 : Nat) (a1 : Int32) (a2 : Int32) : Option (Int32 × Mem) :=
  (f_X12_finds μ_33 k0 (1 : Int32)).bind fun p35 =>
    some (p35.1, p35.2)
def f_X12_knows (μ : Mem) (k0 : Nat) (a1 : Int32) (a2 : Int32) : Option (Int32 × Mem) :=
  (f_X12_in a1.toInt64 (0 : Int64) (4 : Int64)).bind fun r6 =>
    if r6 = 0 then
      f_X12_knows_j33 μ k0 a1 a2
    else
      (f_X12_in a2.toInt64 (0 : Int64) (999 : Int64)).bind fun r18 =>
        if r18 = 0 then
          f_X12_knows_j33 μ k0 a1 a2
        else
          (f_X12_knownBy μ k0 a1 a2).bind fun p27 =>
            some (p27.1, p27.2)
def f_X12_common_l37 (k0 : Nat) (a1 : Int32) (a2 : Int32) (v3_37 : Int32) (v4_37 : Int32) (μ_37 : Mem) : Option ((Int32 × Int32 × Mem) ⊕ (Int32 × Mem)) :=
  if (5 : Int32) ≤ v4_37 then
    some (.inr (v3_37, μ_37))
  else
    if ¬ ((jshr a1 v4_37) &&& (1 : Int32)) = (1 : Int32) then
      some (.inl (v3_37 &&& (255 : Int32), v4_37 + 1, μ_37))
    else
      (f_X12_knownBy μ_37 k0 v4_37 a2).bind fun p58 =>
        some (.inl (v3_37 &&& p58.1, v4_37 + 1, p58.2))
def f_X12_common_j24 (μ_24 : Mem) (k0 : Nat) (a1 : Int32) (a2 : Int32) : Option (Int32 × Mem) :=
  (f_X12_finds μ_24 k0 (1 : Int32)).bind fun p26 =>
    some (p26.1, p26.2)
def f_X12_common (μ : Mem) (k0 : Nat) (a1 : Int32) (a2 : Int32) : Option (Int32 × Mem) :=
  (f_X12_in a1.toInt64 (1 : Int64) (31 : Int64)).bind fun r6 =>
    if r6 = 0 then
      f_X12_common_j24 μ k0 a1 a2
    else
      (f_X12_in a2.toInt64 (0 : Int64) (999 : Int64)).bind fun r18 =>
        if ¬ r18 = 0 then
          (lp (fun s => f_X12_common_l37 k0 a1 a2 s.1 s.2.1 s.2.2) FU ((255 : Int32), (0 : Int32), μ)).bind fun e37 =>
            some (e37.1, e37.2)
        else
          f_X12_common_j24 μ k0 a1 a2
def f_X12_since_l28 (k0 : Nat) (a1 : Int32) (a2 : Int32) (v3_28 : Int32) (μ_28 : Mem) : Option ((Int32 × Mem) ⊕ ((Int32 × Mem) ⊕ (Mem))) :=
  if (999 : Int32) < v3_28 then
    some (.inr (.inr μ_28))
  else
    (f_X12_knownBy μ_28 k0 a1 v3_28).bind fun p38 =>
      if ¬ ((jshr p38.1 a2) &&& (1 : Int32)) = (1 : Int32) then
        some (.inl (v3_28 + 1, p38.2))
      else
        some (.inr (.inl (v3_28, p38.2)))
def f_X12_since_j20 (μ_20 : Mem) (k0 : Nat) (a1 : Int32) (a2 : Int32) : Option (Int32 × Mem) :=
  (f_X12_finds μ_20 k0 (1 : Int32)).bind fun p22 =>
    some (p22.1, p22.2)
def f_X12_since (μ : Mem) (k0 : Nat) (a1 : Int32) (a2 : Int32) : Option (Int32 × Mem) :=
  (f_X12_in a1.toInt64 (0 : Int64) (4 : Int64)).bind fun r6 =>
    if r6 = 0 then
      f_X12_since_j20 μ k0 a1 a2
    else
      (f_X12_isFact μ k0 a2).bind fun r14 =>
        if ¬ r14 = 0 then
          (lp (fun s => f_X12_since_l28 k0 a1 a2 s.1 s.2) FU ((0 : Int32), μ)).bind fun e28 =>
            Sum.elim (fun e28 =>
              some (e28.1, e28.2)
            )
            (fun e28 =>
              (f_X12_finds e28 k0 (2 : Int32)).bind fun p59 =>
                some (p59.1, p59.2)
            ) e28
        else
          f_X12_since_j20 μ k0 a1 a2
def f_X12_seed (μ : Mem) (k0 : Nat) (a1 : Int32) : Option (Int32 × Mem) :=
  (some (wr μ (rf k0 0) (4 : Int32).toNatClampNeg a1)).bind fun m13 =>
    some (rd μ (rf k0 0) (4 : Int32).toNatClampNeg, m13)
def f_X12_ran (μ : Mem) (k0 : Nat) (a1 : Int32) : Option (Mem) :=
  if (40 : Int32) ≤ (rd μ k0 20) then
    some μ
  else
    if ib (rd μ k0 20) 40 then
      (some (wr μ (rf k0 19) (rd μ k0 20).toNatClampNeg a1)).bind fun m18 =>
        (some (wr m18 k0 20 ((rd m18 k0 20) + (1 : Int32)))).bind fun m26 =>
          some m26
    else none
def f_X12_own (μ : Mem) (k0 : Nat) : Option (Int32) :=
  (f_X12_of μ k0 (rd μ k0 21) (0 : Int32)).bind fun r6 =>
    some r6
def F_X12_owesBy (g_X12_owesBy : Mem → Nat → Int32 → Int32 → Option (Int32 × Mem)) (μ : Mem) (k0 : Nat) (a1 : Int32) (a2 : Int32) : Option (Int32 × Mem) :=
  if a1 = 0 then
    (f_X12_ran μ k0 (10 : Int32)).bind fun μ31 =>
      some (a2 + (rd μ31 k0 21), μ31)
  else
    if a1 = 2 then
      (f_X12_ran μ k0 (30 : Int32)).bind fun μ44 =>
        (f_X12_above (2 : Int32)).bind fun r49 =>
          (g_X12_owesBy μ44 k0 r49 a2).bind fun p53 =>
            some (p53.1 * (3 : Int32), p53.2)
    else
      (f_X12_above a1).bind fun r61 =>
        (g_X12_owesBy μ k0 r61 a2).bind fun p65 =>
          some (p65.1, p65.2)
def grp_X12_owesBy : Nat → (Mem → Nat → Int32 → Int32 → Option (Int32 × Mem))
  | 0 => (fun _ _ _ _ => none)
  | n + 1 => F_X12_owesBy (grp_X12_owesBy n)
def f_X12_owesBy (n : Nat) : Mem → Nat → Int32 → Int32 → Option (Int32 × Mem) := (grp_X12_owesBy n)
def F_X12_readsBy (g_X12_readsBy : Mem → Nat → Int32 → Int32 → Option (Int32 × Mem)) (μ : Mem) (k0 : Nat) (a1 : Int32) (a2 : Int32) : Option (Int32 × Mem) :=
  if a1 = 0 then
    (f_X12_ran μ k0 (12 : Int32)).bind fun μ39 =>
      (f_X12_of μ39 k0 (rd μ39 k0 21) (1 : Int32)).bind fun r49 =>
        some (a2 - r49, μ39)
  else
    if a1 = 3 then
      (f_X12_ran μ k0 (40 : Int32)).bind fun μ57 =>
        (f_X12_above (3 : Int32)).bind fun r62 =>
          (g_X12_readsBy μ57 k0 r62 a2).bind fun p66 =>
            some (-p66.1, p66.2)
    else
      if a1 = 6 then
        (f_X12_ran μ k0 (70 : Int32)).bind fun μ74 =>
          (f_X12_above (6 : Int32)).bind fun r80 =>
            (g_X12_readsBy μ74 k0 r80 a2).bind fun p84 =>
              some (p84.1 ^^^ (rd p84.2 k0 21), p84.2)
      else
        (f_X12_above a1).bind fun r95 =>
          (g_X12_readsBy μ k0 r95 a2).bind fun p99 =>
            some (p99.1, p99.2)
def grp_X12_readsBy : Nat → (Mem → Nat → Int32 → Int32 → Option (Int32 × Mem))
  | 0 => (fun _ _ _ _ => none)
  | n + 1 => F_X12_readsBy (grp_X12_readsBy n)
def f_X12_readsBy (n : Nat) : Mem → Nat → Int32 → Int32 → Option (Int32 × Mem) := (grp_X12_readsBy n)
def F_X12_writesBy (g_X12_writesBy : Mem → Nat → Int32 → Int32 → Option (Int32 × Mem)) (μ : Mem) (k0 : Nat) (a1 : Int32) (a2 : Int32) : Option (Int32 × Mem) :=
  if a1 = 0 then
    (f_X12_ran μ k0 (11 : Int32)).bind fun μ39 =>
      (f_X12_own μ39 k0).bind fun r44 =>
        (f_X12_owesBy 100 μ39 k0 r44 a2).bind fun p48 =>
          some (p48.1 * (2 : Int32), p48.2)
  else
    if a1 = 1 then
      (f_X12_ran μ k0 (20 : Int32)).bind fun μ57 =>
        (f_X12_above (1 : Int32)).bind fun r62 =>
          (g_X12_writesBy μ57 k0 r62 a2).bind fun p66 =>
            (f_X12_own p66.2 k0).bind fun r73 =>
              (f_X12_readsBy 100 p66.2 k0 r73 (1 : Int32)).bind fun p77 =>
                some (p66.1 - p77.1, p77.2)
    else
      if a1 = 2 then
        (f_X12_above a1).bind fun r102 =>
          (g_X12_writesBy μ k0 r102 a2).bind fun p106 =>
            some (p106.1, p106.2)
      else
        if a1 = 3 then
          (f_X12_above a1).bind fun r102 =>
            (g_X12_writesBy μ k0 r102 a2).bind fun p106 =>
              some (p106.1, p106.2)
        else
          if a1 = 4 then
            (f_X12_ran μ k0 (50 : Int32)).bind fun μ85 =>
              (f_X12_above (4 : Int32)).bind fun r90 =>
                (g_X12_writesBy μ85 k0 r90 (a2 + (1 : Int32))).bind fun p96 =>
                  some (p96.1, p96.2)
          else
            (f_X12_above a1).bind fun r102 =>
              (g_X12_writesBy μ k0 r102 a2).bind fun p106 =>
                some (p106.1, p106.2)
def grp_X12_writesBy : Nat → (Mem → Nat → Int32 → Int32 → Option (Int32 × Mem))
  | 0 => (fun _ _ _ _ => none)
  | n + 1 => F_X12_writesBy (grp_X12_writesBy n)
def f_X12_writesBy (n : Nat) : Mem → Nat → Int32 → Int32 → Option (Int32 × Mem) := (grp_X12_writesBy n)
def F_X12_tellsBy (g_X12_tellsBy : Mem → Nat → Int32 → Int32 → Option (Int32 × Mem)) (μ : Mem) (k0 : Nat) (a1 : Int32) (a2 : Int32) : Option (Int32 × Mem) :=
  if a1 = 0 then
    (f_X12_ran μ k0 (13 : Int32)).bind fun μ39 =>
      (f_X12_own μ39 k0).bind fun r44 =>
        (f_X12_writesBy 100 μ39 k0 r44 a2).bind fun p48 =>
          (f_X12_own p48.2 k0).bind fun r55 =>
            (f_X12_readsBy 100 p48.2 k0 r55 a2).bind fun p59 =>
              some (p48.1 ^^^ p59.1, p59.2)
  else
    if a1 = 5 then
      (f_X12_ran μ k0 (60 : Int32)).bind fun μ67 =>
        (f_X12_above (5 : Int32)).bind fun r72 =>
          (g_X12_tellsBy μ67 k0 r72 a2).bind fun p76 =>
            (f_X12_own p76.2 k0).bind fun r83 =>
              (f_X12_owesBy 100 p76.2 k0 r83 (2 : Int32)).bind fun p87 =>
                some (p76.1 - p87.1, p87.2)
    else
      if a1 = 6 then
        (f_X12_ran μ k0 (71 : Int32)).bind fun μ95 =>
          (f_X12_own μ95 k0).bind fun r100 =>
            (f_X12_writesBy 100 μ95 k0 r100 a2).bind fun p104 =>
              (f_X12_above (6 : Int32)).bind fun r112 =>
                (g_X12_tellsBy p104.2 k0 r112 a2).bind fun p116 =>
                  some (p104.1 - p116.1, p116.2)
      else
        (f_X12_above a1).bind fun r123 =>
          (g_X12_tellsBy μ k0 r123 a2).bind fun p127 =>
            some (p127.1, p127.2)
def grp_X12_tellsBy : Nat → (Mem → Nat → Int32 → Int32 → Option (Int32 × Mem))
  | 0 => (fun _ _ _ _ => none)
  | n + 1 => F_X12_tellsBy (grp_X12_tellsBy n)
def f_X12_tellsBy (n : Nat) : Mem → Nat → Int32 → Int32 → Option (Int32 × Mem) := (grp_X12_tellsBy n)
def f_X12_voice_j20 (μ_20 : Mem) (k0 : Nat) (a1 : Int32) (a2 : Int32) (a3 : Int32) : Option (Int32 × Mem) :=
  (f_X12_finds μ_20 k0 (1 : Int32)).bind fun p22 =>
    some (p22.1, p22.2)
def f_X12_voice (μ : Mem) (k0 : Nat) (a1 : Int32) (a2 : Int32) (a3 : Int32) : Option (Int32 × Mem) :=
  (f_X12_isDebtor μ k0 a1).bind fun r2 =>
    if r2 = 0 then
      f_X12_voice_j20 μ k0 a1 a2 a3
    else
      (f_X12_in a2.toInt64 (0 : Int64) (3 : Int64)).bind fun r14 =>
        if ¬ r14 = 0 then
          (some (wr μ k0 20 (0 : Int32))).bind fun m28 =>
            (some (wr m28 k0 21 a1)).bind fun m33 =>
              (f_X12_own m33 k0).bind fun r37 =>
                if ¬ a2 = 0 then
                  if ¬ a2 = (1 : Int32) then
                    if ¬ a2 = (2 : Int32) then
                      (f_X12_tellsBy 100 m33 k0 r37 a3).bind fun p90 =>
                        some (p90.1, p90.2)
                    else
                      (f_X12_readsBy 100 m33 k0 r37 a3).bind fun p80 =>
                        some (p80.1, p80.2)
                  else
                    (f_X12_writesBy 100 m33 k0 r37 a3).bind fun p65 =>
                      some (p65.1, p65.2)
                else
                  (f_X12_owesBy 100 m33 k0 r37 a3).bind fun p50 =>
                    some (p50.1, p50.2)
        else
          f_X12_voice_j20 μ k0 a1 a2 a3
def f_X12_trace (μ : Mem) (k0 : Nat) (a1 : Int32) : Option (Int32 × Mem) :=
  (f_X12_in a1.toInt64 (0 : Int64) (((rd μ k0 20) - (1 : Int32)).toInt64)).bind fun r10 =>
    if r10 = 0 then
      (f_X12_finds μ k0 (2 : Int32)).bind fun p27 =>
        some (p27.1, p27.2)
    else
      if ib a1 40 then
        some (rd μ (rf k0 19) a1.toNatClampNeg, μ)
      else none
def f_X12_sheet_l90 (k0 : Nat) (a1 : Int32) (a2 : Int32) (a3 : Int32) (v4_90 : Int32) (μ_90 : Mem) : Option ((Int32 × Mem) ⊕ (Mem)) :=
  if (40 : Int32) ≤ v4_90 then
    some (.inr μ_90)
  else
    if ib (((40 : Int32) * a1) + v4_90) 160 then
      (some (wr μ_90 (rf k0 24) (((40 : Int32) * a1) + v4_90).toNatClampNeg (0 : Int32))).bind fun m109 =>
        some (.inl (v4_90 + 1, m109))
    else none
def f_X12_sheet_j86 (μ_86 : Mem) (k0 : Nat) (a1 : Int32) (a2 : Int32) (a3 : Int32) (kt0_86 : Nat) (vt1_86 : Int32) (vt2_86 : Int32) : Option (Int32 × Mem) :=
  if ib vt1_86 (ln kt0_86) then
    (some (wr μ_86 kt0_86 vt1_86.toNatClampNeg vt2_86)).bind fun m86 =>
      (lp (fun s => f_X12_sheet_l90 k0 a1 a2 a3 s.1 s.2) FU ((0 : Int32), m86)).bind fun e90 =>
        some ((1 : Int32), e90)
  else none
def f_X12_sheet_j65 (μ_65 : Mem) (k0 : Nat) (a1 : Int32) (a2 : Int32) (a3 : Int32) : Option (Int32 × Mem) :=
  if ib a1 4 then
    (some (wr μ_65 (rf k0 22) a1.toNatClampNeg a2)).bind fun m71 =>
      if ¬ a2 = 0 then
        f_X12_sheet_j86 m71 k0 a1 a2 a3 (rf k0 23) a1 a3
      else
        f_X12_sheet_j86 m71 k0 a1 a2 a3 (rf k0 23) a1 (0 : Int32)
  else none
def f_X12_sheet_j49 (μ_49 : Mem) (k0 : Nat) (a1 : Int32) (a2 : Int32) (a3 : Int32) : Option (Int32 × Mem) :=
  if a2 = 0 then
    f_X12_sheet_j65 μ_49 k0 a1 a2 a3
  else
    if a3 ≤ (40 : Int32) then
      f_X12_sheet_j65 μ_49 k0 a1 a2 a3
    else
      (f_X12_finds μ_49 k0 (1 : Int32)).bind fun p61 =>
        some (p61.1, p61.2)
def f_X12_sheet_j35 (μ_35 : Mem) (k0 : Nat) (a1 : Int32) (a2 : Int32) (a3 : Int32) : Option (Int32 × Mem) :=
  if a2 = 0 then
    f_X12_sheet_j49 μ_35 k0 a1 a2 a3
  else
    if 0 ≤ a3 then
      f_X12_sheet_j49 μ_35 k0 a1 a2 a3
    else
      (f_X12_finds μ_35 k0 (3 : Int32)).bind fun p45 =>
        some (p45.1, p45.2)
def f_X12_sheet_j29 (μ_29 : Mem) (k0 : Nat) (a1 : Int32) (a2 : Int32) (a3 : Int32) : Option (Int32 × Mem) :=
  (f_X12_finds μ_29 k0 (1 : Int32)).bind fun p31 =>
    some (p31.1, p31.2)
def f_X12_sheet (μ : Mem) (k0 : Nat) (a1 : Int32) (a2 : Int32) (a3 : Int32) : Option (Int32 × Mem) :=
  (f_X12_isSheet a1).bind fun r1 =>
    if r1 = 0 then
      f_X12_sheet_j29 μ k0 a1 a2 a3
    else
      if a2 = 0 then
        f_X12_sheet_j35 μ k0 a1 a2 a3
      else
        if a2 = (8 : Int32) then
          f_X12_sheet_j35 μ k0 a1 a2 a3
        else
          if a2 = (16 : Int32) then
            f_X12_sheet_j35 μ k0 a1 a2 a3
          else
            if a2 = (32 : Int32) then
              f_X12_sheet_j35 μ k0 a1 a2 a3
            else
              f_X12_sheet_j29 μ k0 a1 a2 a3
def f_X12_put_j95 (μ_95 : Mem) (k0 : Nat) (a1 : Int32) (a2 : Int32) (a3 : Int32) (kt0_95 : Nat) (vt1_95 : Int32) (vt2_95 : Int32) : Option (Int32 × Mem) :=
  if ib vt1_95 (ln kt0_95) then
    (some (wr μ_95 kt0_95 vt1_95.toNatClampNeg vt2_95)).bind fun m95 =>
      some ((1 : Int32), m95)
  else none
def f_X12_put (μ : Mem) (k0 : Nat) (a1 : Int32) (a2 : Int32) (a3 : Int32) : Option (Int32 × Mem) :=
  (f_X12_isSheet a1).bind fun r1 =>
    if ¬ r1 = 0 then
      if ib a1 4 then
        if ¬ (rd μ (rf k0 22) a1.toNatClampNeg) = 0 then
          if ib a1 4 then
            (f_X12_in a2.toInt64 (0 : Int64) (((rd μ (rf k0 23) a1.toNatClampNeg) - (1 : Int32)).toInt64)).bind fun r40 =>
              if ¬ r40 = 0 then
                if ib a1 4 then
                  if ¬ (rd μ (rf k0 22) a1.toNatClampNeg) = (8 : Int32) then
                    if ib a1 4 then
                      if ¬ (rd μ (rf k0 22) a1.toNatClampNeg) = (16 : Int32) then
                        f_X12_put_j95 μ k0 a1 a2 a3 (rf k0 24) (((40 : Int32) * a1) + a2) a3
                      else
                        f_X12_put_j95 μ k0 a1 a2 a3 (rf k0 24) (((40 : Int32) * a1) + a2) a3.toInt16.toInt32
                    else none
                  else
                    f_X12_put_j95 μ k0 a1 a2 a3 (rf k0 24) (((40 : Int32) * a1) + a2) a3.toInt8.toInt32
                else none
              else
                (f_X12_finds μ k0 (1 : Int32)).bind fun p48 =>
                  some (p48.1, p48.2)
          else none
        else
          (f_X12_finds μ k0 (2 : Int32)).bind fun p24 =>
            some (p24.1, p24.2)
      else none
    else
      (f_X12_finds μ k0 (1 : Int32)).bind fun p9 =>
        some (p9.1, p9.2)
def f_X12_move_l152 (k0 : Nat) (a1 : Int32) (a2 : Int32) (a3 : Int32) (a4 : Int32) (a5 : Int32) (v6_152 : Int32) (μ_152 : Mem) : Option ((Int32 × Mem) ⊕ (Mem)) :=
  if a5 ≤ v6_152 then
    some (.inr μ_152)
  else
    if ib v6_152 40 then
      if ib ((((40 : Int32) * a3) + a4) + v6_152) 160 then
        (some (wr μ_152 (rf k0 24) ((((40 : Int32) * a3) + a4) + v6_152).toNatClampNeg (rd μ_152 (rf k0 25) v6_152.toNatClampNeg))).bind fun m180 =>
          some (.inl (v6_152 + 1, m180))
      else none
    else none
def f_X12_move_l115 (k0 : Nat) (a1 : Int32) (a2 : Int32) (a3 : Int32) (a4 : Int32) (a5 : Int32) (v6_115 : Int32) (μ_115 : Mem) : Option ((Int32 × Mem) ⊕ (Mem)) :=
  if a5 ≤ v6_115 then
    some (.inr μ_115)
  else
    if ib ((((40 : Int32) * a1) + a2) + v6_115) 160 then
      if ib v6_115 40 then
        (some (wr μ_115 (rf k0 25) v6_115.toNatClampNeg (rd μ_115 (rf k0 24) ((((40 : Int32) * a1) + a2) + v6_115).toNatClampNeg))).bind fun m142 =>
          some (.inl (v6_115 + 1, m142))
      else none
    else none
def f_X12_move_j106 (μ_106 : Mem) (k0 : Nat) (a1 : Int32) (a2 : Int32) (a3 : Int32) (a4 : Int32) (a5 : Int32) : Option (Int32 × Mem) :=
  (f_X12_finds μ_106 k0 (1 : Int32)).bind fun p108 =>
    some (p108.1, p108.2)
def f_X12_move_j38 (μ_38 : Mem) (k0 : Nat) (a1 : Int32) (a2 : Int32) (a3 : Int32) (a4 : Int32) (a5 : Int32) : Option (Int32 × Mem) :=
  (f_X12_finds μ_38 k0 (2 : Int32)).bind fun p40 =>
    some (p40.1, p40.2)
def f_X12_move_j14 (μ_14 : Mem) (k0 : Nat) (a1 : Int32) (a2 : Int32) (a3 : Int32) (a4 : Int32) (a5 : Int32) : Option (Int32 × Mem) :=
  (f_X12_finds μ_14 k0 (1 : Int32)).bind fun p16 =>
    some (p16.1, p16.2)
def f_X12_move (μ : Mem) (k0 : Nat) (a1 : Int32) (a2 : Int32) (a3 : Int32) (a4 : Int32) (a5 : Int32) : Option (Int32 × Mem) :=
  (f_X12_isSheet a1).bind fun r1 =>
    if r1 = 0 then
      f_X12_move_j14 μ k0 a1 a2 a3 a4 a5
    else
      (f_X12_isSheet a3).bind fun r8 =>
        if ¬ r8 = 0 then
          if ib a1 4 then
            if (rd μ (rf k0 22) a1.toNatClampNeg) = 0 then
              f_X12_move_j38 μ k0 a1 a2 a3 a4 a5
            else
              if ib a3 4 then
                if ¬ (rd μ (rf k0 22) a3.toNatClampNeg) = 0 then
                  if ib a1 4 then
                    if ib a3 4 then
                      if (rd μ (rf k0 22) a1.toNatClampNeg) = (rd μ (rf k0 22) a3.toNatClampNeg) then
                        if a5 < 0 then
                          f_X12_move_j106 μ k0 a1 a2 a3 a4 a5
                        else
                          if a2 < 0 then
                            f_X12_move_j106 μ k0 a1 a2 a3 a4 a5
                          else
                            if a4 < 0 then
                              f_X12_move_j106 μ k0 a1 a2 a3 a4 a5
                            else
                              if ib a1 4 then
                                if ((rd μ (rf k0 23) a1.toNatClampNeg) - a2) < a5 then
                                  f_X12_move_j106 μ k0 a1 a2 a3 a4 a5
                                else
                                  if ib a3 4 then
                                    if a5 ≤ ((rd μ (rf k0 23) a3.toNatClampNeg) - a4) then
                                      (lp (fun s => f_X12_move_l115 k0 a1 a2 a3 a4 a5 s.1 s.2) FU ((0 : Int32), μ)).bind fun e115 =>
                                        (lp (fun s => f_X12_move_l152 k0 a1 a2 a3 a4 a5 s.1 s.2) FU ((0 : Int32), e115)).bind fun e152 =>
                                          some (a5, e152)
                                    else
                                      f_X12_move_j106 μ k0 a1 a2 a3 a4 a5
                                  else none
                              else none
                      else
                        (f_X12_finds μ k0 (5 : Int32)).bind fun p61 =>
                          some (p61.1, p61.2)
                    else none
                  else none
                else
                  f_X12_move_j38 μ k0 a1 a2 a3 a4 a5
              else none
          else none
        else
          f_X12_move_j14 μ k0 a1 a2 a3 a4 a5
def f_X12_reads_j104 (μ_104 : Mem) (k0 : Nat) (a1 : Int32) (v2_104 : Int32) (v4_104 : Int32) (vt0_104 : Int32) : Option ((Int32 × Int32 × Mem) ⊕ (Int32 × Mem)) :=
  if vt0_104 = 0 then
    some (.inl (v2_104, vt0_104, μ_104))
  else
    (f_X12_tellsNow μ_104 k0 (0 : Int32) v4_104).bind fun μ113 =>
      some (.inl (v2_104 + 1, vt0_104, μ113))
def f_X12_reads_j103 (μ_103 : Mem) (k0 : Nat) (a1 : Int32) (v2_103 : Int32) (v4_103 : Int32) : Option ((Int32 × Int32 × Mem) ⊕ (Int32 × Mem)) :=
  f_X12_reads_j104 μ_103 k0 a1 v2_103 v4_103 (0 : Int32)
def f_X12_reads_l53 (k0 : Nat) (a1 : Int32) (v2_53 : Int32) (v3_53 : Int32) (μ_53 : Mem) : Option ((Int32 × Int32 × Mem) ⊕ (Int32 × Mem)) :=
  if ib a1 4 then
    if (rd μ_53 (rf k0 23) a1.toNatClampNeg) ≤ v2_53 then
      some (.inr (v2_53, μ_53))
    else
      if v3_53 = 0 then
        some (.inr (v2_53, μ_53))
      else
        if ib (((40 : Int32) * a1) + v2_53) 160 then
          (f_X12_isFact μ_53 k0 (rd μ_53 (rf k0 24) (((40 : Int32) * a1) + v2_53).toNatClampNeg)).bind fun r83 =>
            if r83 = 0 then
              f_X12_reads_j103 μ_53 k0 a1 v2_53 (rd μ_53 (rf k0 24) (((40 : Int32) * a1) + v2_53).toNatClampNeg)
            else
              (f_X12_mayTell μ_53 k0 (0 : Int32) (rd μ_53 (rf k0 24) (((40 : Int32) * a1) + v2_53).toNatClampNeg)).bind fun r93 =>
                if r93 = 0 then
                  f_X12_reads_j103 μ_53 k0 a1 v2_53 (rd μ_53 (rf k0 24) (((40 : Int32) * a1) + v2_53).toNatClampNeg)
                else
                  f_X12_reads_j104 μ_53 k0 a1 v2_53 (rd μ_53 (rf k0 24) (((40 : Int32) * a1) + v2_53).toNatClampNeg) (1 : Int32)
        else none
  else none
def f_X12_reads_j52 (μ_52 : Mem) (k0 : Nat) (a1 : Int32) (v2_52 : Int32) (vt0_52 : Int32) : Option (Int32 × Mem) :=
  (lp (fun s => f_X12_reads_l53 k0 a1 s.1 s.2.1 s.2.2) FU (v2_52, vt0_52, μ_52)).bind fun e53 =>
    some (e53.1, e53.2)
def f_X12_reads_j51 (μ_51 : Mem) (k0 : Nat) (a1 : Int32) (v2_51 : Int32) : Option (Int32 × Mem) :=
  f_X12_reads_j52 μ_51 k0 a1 v2_51 (0 : Int32)
def f_X12_reads (μ : Mem) (k0 : Nat) (a1 : Int32) : Option (Int32 × Mem) :=
  (f_X12_isSheet a1).bind fun r1 =>
    if ¬ r1 = 0 then
      if ib a1 4 then
        if ¬ (rd μ (rf k0 22) a1.toNatClampNeg) = 0 then
          (f_X12_isDebtor μ k0 (0 : Int32)).bind fun r32 =>
            if r32 = 0 then
              f_X12_reads_j51 μ k0 a1 (0 : Int32)
            else
              (f_X12_of μ k0 (0 : Int32) (3 : Int32)).bind fun r41 =>
                if ¬ r41 = 0 then
                  f_X12_reads_j51 μ k0 a1 (0 : Int32)
                else
                  f_X12_reads_j52 μ k0 a1 (0 : Int32) (1 : Int32)
        else
          (f_X12_finds μ k0 (2 : Int32)).bind fun p24 =>
            some (p24.1, p24.2)
      else none
    else
      (f_X12_finds μ k0 (1 : Int32)).bind fun p9 =>
        some (p9.1, p9.2)
def f_X12_judge_j93 (μ_93 : Mem) (k0 : Nat) (a1 : Int32) (a2 : Int32) (v3_93 : Int32) (v4_93 : Int32) : Option (Int32 × Mem) :=
  if ib a1 4 then
    if ¬ v4_93 = (rd μ_93 (rf k0 23) a1.toNatClampNeg) then
      some (v4_93, μ_93)
    else
      if ¬ v4_93 = v3_93 then
        some (v4_93, μ_93)
      else
        some ((-1 : Int32), μ_93)
  else none
def f_X12_judge_l46 (μ_46 : Mem) (k0 : Nat) (a1 : Int32) (a2 : Int32) (v3_46 : Int32) (v4_46 : Int32) : Option ((Int32) ⊕ (Int32)) :=
  if ib a1 4 then
    if (rd μ_46 (rf k0 23) a1.toNatClampNeg) ≤ v4_46 then
      some (.inr v4_46)
    else
      if v3_46 ≤ v4_46 then
        some (.inr v4_46)
      else
        if ib (((40 : Int32) * a1) + v4_46) 160 then
          (f_X12_of μ_46 k0 a2 ((5 : Int32) + v4_46)).bind fun r81 =>
            if ¬ (rd μ_46 (rf k0 24) (((40 : Int32) * a1) + v4_46).toNatClampNeg) = r81 then
              some (.inr v4_46)
            else
              some (.inl (v4_46 + 1))
        else none
  else none
def f_X12_judge_j15 (μ_15 : Mem) (k0 : Nat) (a1 : Int32) (a2 : Int32) : Option (Int32 × Mem) :=
  (f_X12_finds μ_15 k0 (1 : Int32)).bind fun p17 =>
    some (p17.1, p17.2)
def f_X12_judge (μ : Mem) (k0 : Nat) (a1 : Int32) (a2 : Int32) : Option (Int32 × Mem) :=
  (f_X12_isSheet a1).bind fun r1 =>
    if r1 = 0 then
      f_X12_judge_j15 μ k0 a1 a2
    else
      (f_X12_isDebtor μ k0 a2).bind fun r9 =>
        if ¬ r9 = 0 then
          if ib a1 4 then
            if ¬ (rd μ (rf k0 22) a1.toNatClampNeg) = 0 then
              (f_X12_of μ k0 a2 (4 : Int32)).bind fun r39 =>
                (lp (fun s => f_X12_judge_l46 μ k0 a1 a2 r39 s) FU (0 : Int32)).bind fun e46 =>
                  f_X12_judge_j93 μ k0 a1 a2 r39 e46
            else
              (f_X12_finds μ k0 (2 : Int32)).bind fun p32 =>
                some (p32.1, p32.2)
          else none
        else
          f_X12_judge_j15 μ k0 a1 a2
def f_X12_image_l2 (k0 : Nat) (v1_2 : Int32) (μ_2 : Mem) : Option ((Int32 × Mem) ⊕ (Mem)) :=
  if (342 : Int32) ≤ v1_2 then
    some (.inr μ_2)
  else
    if ib v1_2 342 then
      if ib v1_2 342 then
        (some (wr μ_2 (rf k0 1) v1_2.toNatClampNeg (rd μ_2 (rf k0 0) v1_2.toNatClampNeg))).bind fun m20 =>
          some (.inl (v1_2 + 1, m20))
      else none
    else none
def f_X12_image (μ : Mem) (k0 : Nat) : Option (Int32 × Mem) :=
  (lp (fun s => f_X12_image_l2 k0 s.1 s.2) FU ((0 : Int32), μ)).bind fun e2 =>
    (some (wr e2 k0 3 ((rd e2 k0 3) + (1 : Int32)))).bind fun m34 =>
      some (rd m34 k0 3, m34)
def f_X12_restore_l15 (k0 : Nat) (v1_15 : Int32) (μ_15 : Mem) : Option ((Int32 × Mem) ⊕ (Mem)) :=
  if (342 : Int32) ≤ v1_15 then
    some (.inr μ_15)
  else
    if ib v1_15 342 then
      if ib v1_15 342 then
        (some (wr μ_15 (rf k0 0) v1_15.toNatClampNeg (rd μ_15 (rf k0 1) v1_15.toNatClampNeg))).bind fun m33 =>
          some (.inl (v1_15 + 1, m33))
      else none
    else none
def f_X12_restore (μ : Mem) (k0 : Nat) : Option (Int32 × Mem) :=
  if ¬ (rd μ k0 3) = 0 then
    (lp (fun s => f_X12_restore_l15 k0 s.1 s.2) FU ((0 : Int32), μ)).bind fun e15 =>
      some (rd e15 (rf k0 0) (3 : Int32).toNatClampNeg, e15)
  else
    (f_X12_finds μ k0 (2 : Int32)).bind fun p9 =>
      some (p9.1, p9.2)
def f_X12_tell (μ : Mem) (k0 : Nat) (a1 : Int32) : Option (Int32 × Mem) :=
  if ¬ (rd μ (rf k0 0) (6 : Int32).toNatClampNeg) = (20 : Int32) then
    if ib ((172 : Int32) + (rd μ (rf k0 0) (6 : Int32).toNatClampNeg)) 342 then
      (some (wr μ (rf k0 0) ((172 : Int32) + (rd μ (rf k0 0) (6 : Int32).toNatClampNeg)).toNatClampNeg a1)).bind fun m34 =>
        (some (wr m34 (rf k0 0) (6 : Int32).toNatClampNeg ((rd m34 (rf k0 0) (6 : Int32).toNatClampNeg) + (1 : Int32)))).bind fun m45 =>
          some (rd m45 (rf k0 0) (6 : Int32).toNatClampNeg, m45)
    else none
  else
    (f_X12_finds μ k0 (4 : Int32)).bind fun p14 =>
      some (p14.1, p14.2)
def f_X12_debts_l4 (μ : Mem) (k0 : Nat) (v1_4 : Int32) (v2_4 : Int32) : Option ((Int32 × Int32) ⊕ (Int32)) :=
  if (rd μ (rf k0 0) (1 : Int32).toNatClampNeg) ≤ v2_4 then
    some (.inr v1_4)
  else
    (f_X12_of μ k0 v2_4 (2 : Int32)).bind fun r18 =>
      some (.inl (v1_4 + r18, v2_4 + 1))
def f_X12_debts (μ : Mem) (k0 : Nat) : Option (Int32) :=
  (lp (fun s => f_X12_debts_l4 μ k0 s.1 s.2) FU ((0 : Int32), (0 : Int32))).bind fun e4 =>
    some e4
def f_X12_check_j75 (μ_75 : Mem) (k0 : Nat) (v1_75 : Int32) (v2_75 : Int32) : Option (Int32 × Mem) :=
  (f_X12_putBack μ_75 k0).bind fun μ76 =>
    if ¬ v2_75 = v1_75 then
      some ((1 : Int32) + v2_75, μ76)
    else
      some ((0 : Int32), μ76)
def f_X12_check_j59 (μ_59 : Mem) (k0 : Nat) (v1_24 : Int32) (v2_59 : Int32) (vt0_59 : Int32) : Option ((Int32 × Int32 × Mem) ⊕ (Int32 × Mem)) :=
  if vt0_59 = 0 then
    some (.inl (v2_59 + (0 : Int32), vt0_59, μ_59))
  else
    some (.inl (v2_59 + (1 : Int32), vt0_59, μ_59))
def f_X12_check_l24 (k0 : Nat) (v1_24 : Int32) (v2_24 : Int32) (v3_24 : Int32) (μ_24 : Mem) : Option ((Int32 × Int32 × Mem) ⊕ (Int32 × Mem)) :=
  if v1_24 ≤ v2_24 then
    some (.inr (v2_24, μ_24))
  else
    if v3_24 = 0 then
      some (.inr (v2_24, μ_24))
    else
      (f_X12_aWeek μ_24 k0).bind fun μ34 =>
        (f_X12_debts μ34 k0).bind fun r38 =>
          if ib ((172 : Int32) + v2_24) 342 then
            if ¬ r38 = (rd μ34 (rf k0 0) ((172 : Int32) + v2_24).toNatClampNeg) then
              f_X12_check_j59 μ34 k0 v1_24 v2_24 (0 : Int32)
            else
              f_X12_check_j59 μ34 k0 v1_24 v2_24 (1 : Int32)
          else none
def f_X12_check (μ : Mem) (k0 : Nat) : Option (Int32 × Mem) :=
  (some (wr μ (rf k0 0) (6 : Int32).toNatClampNeg (0 : Int32))).bind fun m15 =>
    (f_X12_keepAside m15 k0).bind fun μ17 =>
      (lp (fun s => f_X12_check_l24 k0 (rd μ (rf k0 0) (6 : Int32).toNatClampNeg) s.1 s.2.1 s.2.2) FU ((0 : Int32), (1 : Int32), μ17)).bind fun e24 =>
        f_X12_check_j75 e24.2 k0 (rd μ (rf k0 0) (6 : Int32).toNatClampNeg) e24.1
def f_X12_count (μ : Mem) (k0 : Nat) (a1 : Int32) : Option (Int32 × Mem) :=
  if a1 = 0 then
    some (rd μ (rf k0 0) (0 : Int32).toNatClampNeg, μ)
  else
    if a1 = 1 then
      some (rd μ (rf k0 0) (1 : Int32).toNatClampNeg, μ)
    else
      if a1 = 2 then
        some (rd μ (rf k0 0) (3 : Int32).toNatClampNeg, μ)
      else
        if a1 = 3 then
          some (rd μ (rf k0 0) (2 : Int32).toNatClampNeg, μ)
        else
          if a1 = 4 then
            (f_X12_debts μ k0).bind fun r85 =>
              some (r85, μ)
          else
            if a1 = 5 then
              (f_X12_brokenMany μ k0).bind fun r90 =>
                some (r90, μ)
            else
              if a1 = 6 then
                some (rd μ (rf k0 0) (5 : Int32).toNatClampNeg, μ)
              else
                if a1 = 7 then
                  some (rd μ (rf k0 0) (6 : Int32).toNatClampNeg, μ)
                else
                  if a1 = 8 then
                    some (rd μ k0 20, μ)
                  else
                    if a1 = 9 then
                      some (rd μ (rf k0 0) (4 : Int32).toNatClampNeg, μ)
                    else
                      (f_X12_finds μ k0 (1 : Int32)).bind fun p123 =>
                        some (p123.1, p123.2)
def f_X12_told (μ : Mem) (k0 : Nat) (a1 : Int32) : Option (Int32 × Mem) :=
  (f_X12_in a1.toInt64 (1 : Int64) (5 : Int64)).bind fun r6 =>
    if r6 = 0 then
      (f_X12_finds μ k0 (1 : Int32)).bind fun p23 =>
        some (p23.1, p23.2)
    else
      if ib a1 6 then
        some (rd μ (rf k0 4) a1.toNatClampNeg, μ)
      else none
